/-! the two answer alike: shuffle -/
def shB (n k q one other o : Nat) : Bool := kl n k o (lt k one) n 0 && ku n k o (lt q other) n 0
theorem x_keepsUpper' {n k q ll lup : Nat} (hn : n ≤ 5) (hk : k ≤ n) (hq : n - k = q) (hll : ll = fac n * n) (hlup : lup = fac q * q) {ol upl : Nat → Int32} {o other : Nat} (ho : o < fac n) (hother : other < fac q) (hol : ∀ j, j < n → ol (o * n + j) = nI (lt n o j)) (hupl : ∀ j, j < q → upl (other * q + j) = nI (lt q other j)) :
    F_X1_keepsUpper ll lup (nI n) ol (nI q) upl (nI o) (nI other) = some (bI (ku n k o (lt q other) n 0)) := by
  subst hq
  exact x_keepsUpper hn hk hll hlup ho hother hol hupl
theorem x_shHH {n k q : Nat} (ll_o : Nat) (ll_lo : Nat) (ll_up : Nat) (v_ol : Nat → Int32) (v_lol : Nat → Int32) (v_upl : Nat → Int32) (p1 : Int32) (v_s : Nat → Nat → Int32) (v_made : Nat → Int64) (f_hi_many : Int32) (f_hi_next : Int32) (v_hl : Nat → Int32) (v_hf : Nat → Nat → Int32) (hn : n ≤ 5) (hk1 : k ≤ 5) (hk : k ≤ n) (hq : n - k = q) (hll : ll_o = fac n * n) (hllo : ll_lo = fac k * k) (hlup : ll_up = fac q * q) {one other : Nat} (hone : one < fac k) (hother : other < fac q) (hol : ∀ o j, o < fac n → j < n → v_ol (o * n + j) = nI (lt n o j)) (hlol : ∀ o j, o < fac k → j < k → v_lol (o * k + j) = nI (lt k o j)) (hupl : ∀ o j, o < fac q → j < q → v_upl (o * q + j) = nI (lt q o j)) :
    F_X5_shuffleHH_94 ll_o ll_lo ll_up (nI n) (nI (fac n)) v_ol (nI k) v_lol (nI q) v_upl p1 (nI one) (nI other) xF (0 : Int32) (0 : Int32) v_s v_made f_hi_many f_hi_next v_hl v_hf = (F_X5_settle (fun j => if j < fac n ∧ shB n k q one other j then v_made j + 1 else v_made j) (nI n) (nI (fac n)) p1 (itr (fun o c => if shB n k q one other o then c + 1 else c) (fac n) 0 0) v_s f_hi_many f_hi_next v_hl v_hf).bind fun q2 => some (q2.1, q2.2.1, (fun j => if j < fac n ∧ shB n k q one other j then v_made j + 1 else v_made j), q2.2.2.1, q2.2.2.2.1, q2.2.2.2.2.1, q2.2.2.2.2.2) := by
  have hf5 := fac_le hn
  have h := loopN (fun f o (u : Int32 × (Nat → Int64)) => F_X5_shuffleHH_94 ll_o ll_lo ll_up (nI n) (nI (fac n)) v_ol (nI k) v_lol (nI q) v_upl p1 (nI one) (nI other) f u.1 (nI o) v_s u.2 f_hi_many f_hi_next v_hl v_hf) (fac n) (fun u => (F_X5_settle u.2 (nI n) (nI (fac n)) p1 u.1 v_s f_hi_many f_hi_next v_hl v_hf).bind fun q2 => some (q2.1, q2.2.1, u.2, q2.2.2.1, q2.2.2.2.1, q2.2.2.2.2.1, q2.2.2.2.2.2)) (fun o u => if shB n k q one other o then (u.1 + 1, vp_updL u.2 o (u.2 o + 1)) else u)
    (fun f u => by
      show F_X5_shuffleHH_94 _ _ _ _ _ _ _ _ _ _ _ _ _ _ _ _ _ _ _ _ _ _ = _
      rw [E_X5_shuffleHH_94, ifLe (by omega) (by omega) (by omega)])
    (fun f o u ho => by
      show F_X5_shuffleHH_94 _ _ _ _ _ _ _ _ _ _ _ _ _ _ _ _ _ _ _ _ _ _ = F_X5_shuffleHH_94 _ _ _ _ _ _ _ _ _ _ _ _ _ _ _ _ _ _ _ _ _ _
      rw [E_X5_shuffleHH_94, ifNle (by omega) (by omega) (by omega), bnd (x_keepsLower hn hk1 hk hll hllo ho hone (fun j hj => hol o j ho hj) (fun j hj => hlol one j hone hj)), bnd (x_keepsUpper' hn hk hq hll hlup ho hother (fun j hj => hol o j ho hj) (fun j hj => hupl other j hother hj)), xgI (by omega) (by omega), nI_clamp (by omega), nI_1]
      unfold shB
      cases c1 : kl n k o (lt k one) n 0
      · rw [if_pos (show bI false = 0 from rfl), Bool.false_and, if_neg (by decide)]
      · rw [if_neg (show ¬ bI true = 0 by decide), Bool.true_and]
        cases c2 : ku n k o (lt q other) n 0
        · rw [if_pos (show bI false = 0 from rfl), if_neg (by decide)]
        · rw [if_neg (show ¬ bI true = 0 by decide), if_pos rfl]) (fac n) 0 (0, v_made) xF (by omega) (xF_ge (by omega))
  rw [itr_addP] at h
  simp only [Nat.zero_le, true_and, Nat.zero_add] at h
  exact h
theorem x_shHM {n k q : Nat} (ll_o : Nat) (ll_lo : Nat) (v_ol : Nat → Int32) (v_lol : Nat → Int32) (p1 : Int32) (lm_up : Nat) (ls_up : Nat) (ll_up : Nat) (lp_up : Nat) (ln_up : Nat) (n_ex : Nat) (v_s : Nat → Nat → Int32) (v_made : Nat → Int64) (f_hi_many : Int32) (f_hi_next : Int32) (v_hl : Nat → Int32) (v_hf : Nat → Nat → Int32) (f_up_many : Int32) (f_up_sets : Int32) (v_upd : Nat → Int32) (v_upp : Nat → Int32) (v_upi : Nat → Int32) (v_upv : Nat → Int32) (v_upf : Nat → Int32) (v_upl : Nat → Int32) (v_upm : Nat → Int32) (v_upw : Nat → Int32) (v_ex : Nat → Int32) (hn : n ≤ 5) (hk1 : k ≤ 5) (hk : k ≤ n) (hq : n - k = q) (hll : ll_o = fac n * n) (hllo : ll_lo = fac k * k) (hlup : ll_up = fac q * q) {one other : Nat} (hone : one < fac k) (hother : other < fac q) (hol : ∀ o j, o < fac n → j < n → v_ol (o * n + j) = nI (lt n o j)) (hlol : ∀ o j, o < fac k → j < k → v_lol (o * k + j) = nI (lt k o j)) (hupl : ∀ o j, o < fac q → j < q → v_upl (o * q + j) = nI (lt q o j)) :
    F_X5_shuffleHM_94 ll_o ll_lo (nI n) (nI (fac n)) v_ol (nI k) v_lol p1 (nI one) (nI other) xF (0 : Int32) (0 : Int32) lm_up ls_up ll_up lp_up ln_up n_ex v_s v_made f_hi_many f_hi_next v_hl v_hf (nI q) f_up_many f_up_sets v_upd v_upp v_upi v_upv v_upf v_upl v_upm v_upw v_ex = (F_X5_settle (fun j => if j < fac n ∧ shB n k q one other j then v_made j + 1 else v_made j) (nI n) (nI (fac n)) p1 (itr (fun o c => if shB n k q one other o then c + 1 else c) (fac n) 0 0) v_s f_hi_many f_hi_next v_hl v_hf).bind fun q2 => some (q2.1, lm_up, ls_up, ll_up, lp_up, ln_up, n_ex, q2.2.1, (fun j => if j < fac n ∧ shB n k q one other j then v_made j + 1 else v_made j), q2.2.2.1, q2.2.2.2.1, q2.2.2.2.2.1, q2.2.2.2.2.2, (nI q), f_up_many, f_up_sets, v_upd, v_upp, v_upi, v_upv, v_upf, v_upl, v_upm, v_upw, v_ex) := by
  have hf5 := fac_le hn
  have h := loopN (fun f o (u : Int32 × (Nat → Int64)) => F_X5_shuffleHM_94 ll_o ll_lo (nI n) (nI (fac n)) v_ol (nI k) v_lol p1 (nI one) (nI other) f u.1 (nI o) lm_up ls_up ll_up lp_up ln_up n_ex v_s u.2 f_hi_many f_hi_next v_hl v_hf (nI q) f_up_many f_up_sets v_upd v_upp v_upi v_upv v_upf v_upl v_upm v_upw v_ex) (fac n) (fun u => (F_X5_settle u.2 (nI n) (nI (fac n)) p1 u.1 v_s f_hi_many f_hi_next v_hl v_hf).bind fun q2 => some (q2.1, lm_up, ls_up, ll_up, lp_up, ln_up, n_ex, q2.2.1, u.2, q2.2.2.1, q2.2.2.2.1, q2.2.2.2.2.1, q2.2.2.2.2.2, (nI q), f_up_many, f_up_sets, v_upd, v_upp, v_upi, v_upv, v_upf, v_upl, v_upm, v_upw, v_ex)) (fun o u => if shB n k q one other o then (u.1 + 1, vp_updL u.2 o (u.2 o + 1)) else u)
    (fun f u => by
      show F_X5_shuffleHM_94 _ _ _ _ _ _ _ _ _ _ _ _ _ _ _ _ _ _ _ _ _ _ _ _ _ _ _ _ _ _ _ _ _ _ _ _ _ = _
      rw [E_X5_shuffleHM_94, ifLe (by omega) (by omega) (by omega)])
    (fun f o u ho => by
      show F_X5_shuffleHM_94 _ _ _ _ _ _ _ _ _ _ _ _ _ _ _ _ _ _ _ _ _ _ _ _ _ _ _ _ _ _ _ _ _ _ _ _ _ = F_X5_shuffleHM_94 _ _ _ _ _ _ _ _ _ _ _ _ _ _ _ _ _ _ _ _ _ _ _ _ _ _ _ _ _ _ _ _ _ _ _ _ _
      rw [E_X5_shuffleHM_94, ifNle (by omega) (by omega) (by omega), bnd (x_keepsLower hn hk1 hk hll hllo ho hone (fun j hj => hol o j ho hj) (fun j hj => hlol one j hone hj)), bnd (x_keepsUpper' hn hk hq hll hlup ho hother (fun j hj => hol o j ho hj) (fun j hj => hupl other j hother hj)), xgI (by omega) (by omega), nI_clamp (by omega), nI_1]
      unfold shB
      cases c1 : kl n k o (lt k one) n 0
      · rw [if_pos (show bI false = 0 from rfl), Bool.false_and, if_neg (by decide)]
      · rw [if_neg (show ¬ bI true = 0 by decide), Bool.true_and]
        cases c2 : ku n k o (lt q other) n 0
        · rw [if_pos (show bI false = 0 from rfl), if_neg (by decide)]
        · rw [if_neg (show ¬ bI true = 0 by decide), if_pos rfl]) (fac n) 0 (0, v_made) xF (by omega) (xF_ge (by omega))
  rw [itr_addP] at h
  simp only [Nat.zero_le, true_and, Nat.zero_add] at h
  exact h
theorem x_shMH {n k q : Nat} (ll_o : Nat) (ll_up : Nat) (v_ol : Nat → Int32) (v_upl : Nat → Int32) (p1 : Int32) (lm_lo : Nat) (ls_lo : Nat) (ll_lo : Nat) (lp_lo : Nat) (ln_lo : Nat) (n_ex : Nat) (v_s : Nat → Nat → Int32) (v_made : Nat → Int64) (f_hi_many : Int32) (f_hi_next : Int32) (v_hl : Nat → Int32) (v_hf : Nat → Nat → Int32) (f_lo_many : Int32) (f_lo_sets : Int32) (v_lod : Nat → Int32) (v_lop : Nat → Int32) (v_loi : Nat → Int32) (v_lov : Nat → Int32) (v_lof : Nat → Int32) (v_lol : Nat → Int32) (v_lom : Nat → Int32) (v_low : Nat → Int32) (v_ex : Nat → Int32) (hn : n ≤ 5) (hk1 : k ≤ 5) (hk : k ≤ n) (hq : n - k = q) (hll : ll_o = fac n * n) (hllo : ll_lo = fac k * k) (hlup : ll_up = fac q * q) {one other : Nat} (hone : one < fac k) (hother : other < fac q) (hol : ∀ o j, o < fac n → j < n → v_ol (o * n + j) = nI (lt n o j)) (hlol : ∀ o j, o < fac k → j < k → v_lol (o * k + j) = nI (lt k o j)) (hupl : ∀ o j, o < fac q → j < q → v_upl (o * q + j) = nI (lt q o j)) :
    F_X5_shuffleMH_94 ll_o ll_up (nI n) (nI (fac n)) v_ol (nI q) v_upl p1 (nI one) (nI other) xF (0 : Int32) (0 : Int32) lm_lo ls_lo ll_lo lp_lo ln_lo n_ex v_s v_made f_hi_many f_hi_next v_hl v_hf (nI k) f_lo_many f_lo_sets v_lod v_lop v_loi v_lov v_lof v_lol v_lom v_low v_ex = (F_X5_settle (fun j => if j < fac n ∧ shB n k q one other j then v_made j + 1 else v_made j) (nI n) (nI (fac n)) p1 (itr (fun o c => if shB n k q one other o then c + 1 else c) (fac n) 0 0) v_s f_hi_many f_hi_next v_hl v_hf).bind fun q2 => some (q2.1, lm_lo, ls_lo, ll_lo, lp_lo, ln_lo, n_ex, q2.2.1, (fun j => if j < fac n ∧ shB n k q one other j then v_made j + 1 else v_made j), q2.2.2.1, q2.2.2.2.1, q2.2.2.2.2.1, q2.2.2.2.2.2, (nI k), f_lo_many, f_lo_sets, v_lod, v_lop, v_loi, v_lov, v_lof, v_lol, v_lom, v_low, v_ex) := by
  have hf5 := fac_le hn
  have h := loopN (fun f o (u : Int32 × (Nat → Int64)) => F_X5_shuffleMH_94 ll_o ll_up (nI n) (nI (fac n)) v_ol (nI q) v_upl p1 (nI one) (nI other) f u.1 (nI o) lm_lo ls_lo ll_lo lp_lo ln_lo n_ex v_s u.2 f_hi_many f_hi_next v_hl v_hf (nI k) f_lo_many f_lo_sets v_lod v_lop v_loi v_lov v_lof v_lol v_lom v_low v_ex) (fac n) (fun u => (F_X5_settle u.2 (nI n) (nI (fac n)) p1 u.1 v_s f_hi_many f_hi_next v_hl v_hf).bind fun q2 => some (q2.1, lm_lo, ls_lo, ll_lo, lp_lo, ln_lo, n_ex, q2.2.1, u.2, q2.2.2.1, q2.2.2.2.1, q2.2.2.2.2.1, q2.2.2.2.2.2, (nI k), f_lo_many, f_lo_sets, v_lod, v_lop, v_loi, v_lov, v_lof, v_lol, v_lom, v_low, v_ex)) (fun o u => if shB n k q one other o then (u.1 + 1, vp_updL u.2 o (u.2 o + 1)) else u)
    (fun f u => by
      show F_X5_shuffleMH_94 _ _ _ _ _ _ _ _ _ _ _ _ _ _ _ _ _ _ _ _ _ _ _ _ _ _ _ _ _ _ _ _ _ _ _ _ _ = _
      rw [E_X5_shuffleMH_94, ifLe (by omega) (by omega) (by omega)])
    (fun f o u ho => by
      show F_X5_shuffleMH_94 _ _ _ _ _ _ _ _ _ _ _ _ _ _ _ _ _ _ _ _ _ _ _ _ _ _ _ _ _ _ _ _ _ _ _ _ _ = F_X5_shuffleMH_94 _ _ _ _ _ _ _ _ _ _ _ _ _ _ _ _ _ _ _ _ _ _ _ _ _ _ _ _ _ _ _ _ _ _ _ _ _
      rw [E_X5_shuffleMH_94, ifNle (by omega) (by omega) (by omega), bnd (x_keepsLower hn hk1 hk hll hllo ho hone (fun j hj => hol o j ho hj) (fun j hj => hlol one j hone hj)), bnd (x_keepsUpper' hn hk hq hll hlup ho hother (fun j hj => hol o j ho hj) (fun j hj => hupl other j hother hj)), xgI (by omega) (by omega), nI_clamp (by omega), nI_1]
      unfold shB
      cases c1 : kl n k o (lt k one) n 0
      · rw [if_pos (show bI false = 0 from rfl), Bool.false_and, if_neg (by decide)]
      · rw [if_neg (show ¬ bI true = 0 by decide), Bool.true_and]
        cases c2 : ku n k o (lt q other) n 0
        · rw [if_pos (show bI false = 0 from rfl), if_neg (by decide)]
        · rw [if_neg (show ¬ bI true = 0 by decide), if_pos rfl]) (fac n) 0 (0, v_made) xF (by omega) (xF_ge (by omega))
  rw [itr_addP] at h
  simp only [Nat.zero_le, true_and, Nat.zero_add] at h
  exact h
theorem x_shNN {n k q : Nat} (ll_o : Nat) (v_ol : Nat → Int32) (p1 : Int32) (lm_lo : Nat) (ls_lo : Nat) (ll_lo : Nat) (lp_lo : Nat) (ln_lo : Nat) (n_ex : Nat) (lm_up : Nat) (ls_up : Nat) (ll_up : Nat) (lp_up : Nat) (ln_up : Nat) (n_ex2 : Nat) (v_s : Nat → Nat → Int32) (v_made : Nat → Int64) (f_hi_many : Int32) (f_hi_next : Int32) (v_hl : Nat → Int32) (v_hf : Nat → Nat → Int32) (f_lo_many : Int32) (f_lo_sets : Int32) (v_lod : Nat → Int32) (v_lop : Nat → Int32) (v_loi : Nat → Int32) (v_lov : Nat → Int32) (v_lof : Nat → Int32) (v_lol : Nat → Int32) (v_lom : Nat → Int32) (v_low : Nat → Int32) (v_ex : Nat → Int32) (f_up_many : Int32) (f_up_sets : Int32) (v_upd : Nat → Int32) (v_upp : Nat → Int32) (v_upi : Nat → Int32) (v_upv : Nat → Int32) (v_upf : Nat → Int32) (v_upl : Nat → Int32) (v_upm : Nat → Int32) (v_upw : Nat → Int32) (v_ex2 : Nat → Int32) (hn : n ≤ 5) (hk1 : k ≤ 5) (hk : k ≤ n) (hq : n - k = q) (hll : ll_o = fac n * n) (hllo : ll_lo = fac k * k) (hlup : ll_up = fac q * q) {one other : Nat} (hone : one < fac k) (hother : other < fac q) (hol : ∀ o j, o < fac n → j < n → v_ol (o * n + j) = nI (lt n o j)) (hlol : ∀ o j, o < fac k → j < k → v_lol (o * k + j) = nI (lt k o j)) (hupl : ∀ o j, o < fac q → j < q → v_upl (o * q + j) = nI (lt q o j)) :
    F_X5_shuffleNN_94 ll_o (nI n) (nI (fac n)) v_ol p1 (nI one) (nI other) xF (0 : Int32) (0 : Int32) lm_lo ls_lo ll_lo lp_lo ln_lo n_ex lm_up ls_up ll_up lp_up ln_up n_ex2 v_s v_made f_hi_many f_hi_next v_hl v_hf (nI k) f_lo_many f_lo_sets v_lod v_lop v_loi v_lov v_lof v_lol v_lom v_low v_ex (nI q) f_up_many f_up_sets v_upd v_upp v_upi v_upv v_upf v_upl v_upm v_upw v_ex2 = (F_X5_settle (fun j => if j < fac n ∧ shB n k q one other j then v_made j + 1 else v_made j) (nI n) (nI (fac n)) p1 (itr (fun o c => if shB n k q one other o then c + 1 else c) (fac n) 0 0) v_s f_hi_many f_hi_next v_hl v_hf).bind fun q2 => some (q2.1, lm_lo, ls_lo, ll_lo, lp_lo, ln_lo, n_ex, lm_up, ls_up, ll_up, lp_up, ln_up, n_ex2, q2.2.1, (fun j => if j < fac n ∧ shB n k q one other j then v_made j + 1 else v_made j), q2.2.2.1, q2.2.2.2.1, q2.2.2.2.2.1, q2.2.2.2.2.2, (nI k), f_lo_many, f_lo_sets, v_lod, v_lop, v_loi, v_lov, v_lof, v_lol, v_lom, v_low, v_ex, (nI q), f_up_many, f_up_sets, v_upd, v_upp, v_upi, v_upv, v_upf, v_upl, v_upm, v_upw, v_ex2) := by
  have hf5 := fac_le hn
  have h := loopN (fun f o (u : Int32 × (Nat → Int64)) => F_X5_shuffleNN_94 ll_o (nI n) (nI (fac n)) v_ol p1 (nI one) (nI other) f u.1 (nI o) lm_lo ls_lo ll_lo lp_lo ln_lo n_ex lm_up ls_up ll_up lp_up ln_up n_ex2 v_s u.2 f_hi_many f_hi_next v_hl v_hf (nI k) f_lo_many f_lo_sets v_lod v_lop v_loi v_lov v_lof v_lol v_lom v_low v_ex (nI q) f_up_many f_up_sets v_upd v_upp v_upi v_upv v_upf v_upl v_upm v_upw v_ex2) (fac n) (fun u => (F_X5_settle u.2 (nI n) (nI (fac n)) p1 u.1 v_s f_hi_many f_hi_next v_hl v_hf).bind fun q2 => some (q2.1, lm_lo, ls_lo, ll_lo, lp_lo, ln_lo, n_ex, lm_up, ls_up, ll_up, lp_up, ln_up, n_ex2, q2.2.1, u.2, q2.2.2.1, q2.2.2.2.1, q2.2.2.2.2.1, q2.2.2.2.2.2, (nI k), f_lo_many, f_lo_sets, v_lod, v_lop, v_loi, v_lov, v_lof, v_lol, v_lom, v_low, v_ex, (nI q), f_up_many, f_up_sets, v_upd, v_upp, v_upi, v_upv, v_upf, v_upl, v_upm, v_upw, v_ex2)) (fun o u => if shB n k q one other o then (u.1 + 1, vp_updL u.2 o (u.2 o + 1)) else u)
    (fun f u => by
      show F_X5_shuffleNN_94 _ _ _ _ _ _ _ _ _ _ _ _ _ _ _ _ _ _ _ _ _ _ _ _ _ _ _ _ _ _ _ _ _ _ _ _ _ _ _ _ _ _ _ _ _ _ _ _ _ _ _ _ = _
      rw [E_X5_shuffleNN_94, ifLe (by omega) (by omega) (by omega)])
    (fun f o u ho => by
      show F_X5_shuffleNN_94 _ _ _ _ _ _ _ _ _ _ _ _ _ _ _ _ _ _ _ _ _ _ _ _ _ _ _ _ _ _ _ _ _ _ _ _ _ _ _ _ _ _ _ _ _ _ _ _ _ _ _ _ = F_X5_shuffleNN_94 _ _ _ _ _ _ _ _ _ _ _ _ _ _ _ _ _ _ _ _ _ _ _ _ _ _ _ _ _ _ _ _ _ _ _ _ _ _ _ _ _ _ _ _ _ _ _ _ _ _ _ _
      rw [E_X5_shuffleNN_94, ifNle (by omega) (by omega) (by omega), bnd (x_keepsLower hn hk1 hk hll hllo ho hone (fun j hj => hol o j ho hj) (fun j hj => hlol one j hone hj)), bnd (x_keepsUpper' hn hk hq hll hlup ho hother (fun j hj => hol o j ho hj) (fun j hj => hupl other j hother hj)), xgI (by omega) (by omega), nI_clamp (by omega), nI_1]
      unfold shB
      cases c1 : kl n k o (lt k one) n 0
      · rw [if_pos (show bI false = 0 from rfl), Bool.false_and, if_neg (by decide)]
      · rw [if_neg (show ¬ bI true = 0 by decide), Bool.true_and]
        cases c2 : ku n k o (lt q other) n 0
        · rw [if_pos (show bI false = 0 from rfl), if_neg (by decide)]
        · rw [if_neg (show ¬ bI true = 0 by decide), if_pos rfl]) (fac n) 0 (0, v_made) xF (by omega) (xF_ge (by omega))
  rw [itr_addP] at h
  simp only [Nat.zero_le, true_and, Nat.zero_add] at h
  exact h
theorem x_shHS {n k : Nat} (ll_o : Nat) (ll_lo : Nat) (v_ol : Nat → Int32) (v_lol : Nat → Int32) (p1 : Int32) (v_s : Nat → Nat → Int32) (v_made : Nat → Int64) (f_hi_many : Int32) (f_hi_next : Int32) (v_hl : Nat → Int32) (v_hf : Nat → Nat → Int32) (hn : n ≤ 5) (hk1 : k ≤ 5) (hk : k ≤ n) (hq : n - k = k) (hll : ll_o = fac n * n) (hllo : ll_lo = fac k * k) {one other : Nat} (hone : one < fac k) (hother : other < fac k) (hol : ∀ o j, o < fac n → j < n → v_ol (o * n + j) = nI (lt n o j)) (hlol : ∀ o j, o < fac k → j < k → v_lol (o * k + j) = nI (lt k o j)) :
    F_X5_shuffleHS_94 ll_o ll_lo (nI n) (nI (fac n)) v_ol (nI k) v_lol p1 (nI one) (nI other) xF (0 : Int32) (0 : Int32) v_s v_made f_hi_many f_hi_next v_hl v_hf = (F_X5_settle (fun j => if j < fac n ∧ shB n k k one other j then v_made j + 1 else v_made j) (nI n) (nI (fac n)) p1 (itr (fun o c => if shB n k k one other o then c + 1 else c) (fac n) 0 0) v_s f_hi_many f_hi_next v_hl v_hf).bind fun q2 => some (q2.1, q2.2.1, (fun j => if j < fac n ∧ shB n k k one other j then v_made j + 1 else v_made j), q2.2.2.1, q2.2.2.2.1, q2.2.2.2.2.1, q2.2.2.2.2.2) := by
  have hf5 := fac_le hn
  have h := loopN (fun f o (u : Int32 × (Nat → Int64)) => F_X5_shuffleHS_94 ll_o ll_lo (nI n) (nI (fac n)) v_ol (nI k) v_lol p1 (nI one) (nI other) f u.1 (nI o) v_s u.2 f_hi_many f_hi_next v_hl v_hf) (fac n) (fun u => (F_X5_settle u.2 (nI n) (nI (fac n)) p1 u.1 v_s f_hi_many f_hi_next v_hl v_hf).bind fun q2 => some (q2.1, q2.2.1, u.2, q2.2.2.1, q2.2.2.2.1, q2.2.2.2.2.1, q2.2.2.2.2.2)) (fun o u => if shB n k k one other o then (u.1 + 1, vp_updL u.2 o (u.2 o + 1)) else u)
    (fun f u => by
      show F_X5_shuffleHS_94 _ _ _ _ _ _ _ _ _ _ _ _ _ _ _ _ _ _ _ = _
      rw [E_X5_shuffleHS_94, ifLe (by omega) (by omega) (by omega)])
    (fun f o u ho => by
      show F_X5_shuffleHS_94 _ _ _ _ _ _ _ _ _ _ _ _ _ _ _ _ _ _ _ = F_X5_shuffleHS_94 _ _ _ _ _ _ _ _ _ _ _ _ _ _ _ _ _ _ _
      rw [E_X5_shuffleHS_94, ifNle (by omega) (by omega) (by omega), bnd (x_keepsLower hn hk1 hk hll hllo ho hone (fun j hj => hol o j ho hj) (fun j hj => hlol one j hone hj)), bnd (x_keepsUpper' hn hk hq hll hllo ho hother (fun j hj => hol o j ho hj) (fun j hj => hlol other j hother hj)), xgI (by omega) (by omega), nI_clamp (by omega), nI_1]
      unfold shB
      cases c1 : kl n k o (lt k one) n 0
      · rw [if_pos (show bI false = 0 from rfl), Bool.false_and, if_neg (by decide)]
      · rw [if_neg (show ¬ bI true = 0 by decide), Bool.true_and]
        cases c2 : ku n k o (lt k other) n 0
        · rw [if_pos (show bI false = 0 from rfl), if_neg (by decide)]
        · rw [if_neg (show ¬ bI true = 0 by decide), if_pos rfl]) (fac n) 0 (0, v_made) xF (by omega) (xF_ge (by omega))
  rw [itr_addP] at h
  simp only [Nat.zero_le, true_and, Nat.zero_add] at h
  exact h
theorem x_shMS {n k : Nat} (ll_o : Nat) (v_ol : Nat → Int32) (p1 : Int32) (lm_lo : Nat) (ls_lo : Nat) (ll_lo : Nat) (lp_lo : Nat) (ln_lo : Nat) (n_ex : Nat) (v_s : Nat → Nat → Int32) (v_made : Nat → Int64) (f_hi_many : Int32) (f_hi_next : Int32) (v_hl : Nat → Int32) (v_hf : Nat → Nat → Int32) (f_lo_many : Int32) (f_lo_sets : Int32) (v_lod : Nat → Int32) (v_lop : Nat → Int32) (v_loi : Nat → Int32) (v_lov : Nat → Int32) (v_lof : Nat → Int32) (v_lol : Nat → Int32) (v_lom : Nat → Int32) (v_low : Nat → Int32) (v_ex : Nat → Int32) (hn : n ≤ 5) (hk1 : k ≤ 5) (hk : k ≤ n) (hq : n - k = k) (hll : ll_o = fac n * n) (hllo : ll_lo = fac k * k) {one other : Nat} (hone : one < fac k) (hother : other < fac k) (hol : ∀ o j, o < fac n → j < n → v_ol (o * n + j) = nI (lt n o j)) (hlol : ∀ o j, o < fac k → j < k → v_lol (o * k + j) = nI (lt k o j)) :
    F_X5_shuffleMS_94 ll_o (nI n) (nI (fac n)) v_ol p1 (nI one) (nI other) xF (0 : Int32) (0 : Int32) lm_lo ls_lo ll_lo lp_lo ln_lo n_ex v_s v_made f_hi_many f_hi_next v_hl v_hf (nI k) f_lo_many f_lo_sets v_lod v_lop v_loi v_lov v_lof v_lol v_lom v_low v_ex = (F_X5_settle (fun j => if j < fac n ∧ shB n k k one other j then v_made j + 1 else v_made j) (nI n) (nI (fac n)) p1 (itr (fun o c => if shB n k k one other o then c + 1 else c) (fac n) 0 0) v_s f_hi_many f_hi_next v_hl v_hf).bind fun q2 => some (q2.1, lm_lo, ls_lo, ll_lo, lp_lo, ln_lo, n_ex, q2.2.1, (fun j => if j < fac n ∧ shB n k k one other j then v_made j + 1 else v_made j), q2.2.2.1, q2.2.2.2.1, q2.2.2.2.2.1, q2.2.2.2.2.2, (nI k), f_lo_many, f_lo_sets, v_lod, v_lop, v_loi, v_lov, v_lof, v_lol, v_lom, v_low, v_ex) := by
  have hf5 := fac_le hn
  have h := loopN (fun f o (u : Int32 × (Nat → Int64)) => F_X5_shuffleMS_94 ll_o (nI n) (nI (fac n)) v_ol p1 (nI one) (nI other) f u.1 (nI o) lm_lo ls_lo ll_lo lp_lo ln_lo n_ex v_s u.2 f_hi_many f_hi_next v_hl v_hf (nI k) f_lo_many f_lo_sets v_lod v_lop v_loi v_lov v_lof v_lol v_lom v_low v_ex) (fac n) (fun u => (F_X5_settle u.2 (nI n) (nI (fac n)) p1 u.1 v_s f_hi_many f_hi_next v_hl v_hf).bind fun q2 => some (q2.1, lm_lo, ls_lo, ll_lo, lp_lo, ln_lo, n_ex, q2.2.1, u.2, q2.2.2.1, q2.2.2.2.1, q2.2.2.2.2.1, q2.2.2.2.2.2, (nI k), f_lo_many, f_lo_sets, v_lod, v_lop, v_loi, v_lov, v_lof, v_lol, v_lom, v_low, v_ex)) (fun o u => if shB n k k one other o then (u.1 + 1, vp_updL u.2 o (u.2 o + 1)) else u)
    (fun f u => by
      show F_X5_shuffleMS_94 _ _ _ _ _ _ _ _ _ _ _ _ _ _ _ _ _ _ _ _ _ _ _ _ _ _ _ _ _ _ _ _ _ _ = _
      rw [E_X5_shuffleMS_94, ifLe (by omega) (by omega) (by omega)])
    (fun f o u ho => by
      show F_X5_shuffleMS_94 _ _ _ _ _ _ _ _ _ _ _ _ _ _ _ _ _ _ _ _ _ _ _ _ _ _ _ _ _ _ _ _ _ _ = F_X5_shuffleMS_94 _ _ _ _ _ _ _ _ _ _ _ _ _ _ _ _ _ _ _ _ _ _ _ _ _ _ _ _ _ _ _ _ _ _
      rw [E_X5_shuffleMS_94, ifNle (by omega) (by omega) (by omega), bnd (x_keepsLower hn hk1 hk hll hllo ho hone (fun j hj => hol o j ho hj) (fun j hj => hlol one j hone hj)), bnd (x_keepsUpper' hn hk hq hll hllo ho hother (fun j hj => hol o j ho hj) (fun j hj => hlol other j hother hj)), xgI (by omega) (by omega), nI_clamp (by omega), nI_1]
      unfold shB
      cases c1 : kl n k o (lt k one) n 0
      · rw [if_pos (show bI false = 0 from rfl), Bool.false_and, if_neg (by decide)]
      · rw [if_neg (show ¬ bI true = 0 by decide), Bool.true_and]
        cases c2 : ku n k o (lt k other) n 0
        · rw [if_pos (show bI false = 0 from rfl), if_neg (by decide)]
        · rw [if_neg (show ¬ bI true = 0 by decide), if_pos rfl]) (fac n) 0 (0, v_made) xF (by omega) (xF_ge (by omega))
  rw [itr_addP] at h
  simp only [Nat.zero_le, true_and, Nat.zero_add] at h
  exact h

section AH
variable {n : Nat} {s : Nat → Nat → Int32} {al : Nat → Int32} {hm hx : Int32} {hl : Nat → Int32} {hf : Nat → Nat → Int32} {hlong : Int32} {mh : Nat → Int32}
variable {lm ls ll lp ln : Nat} {fn fm fs : Int32} {od op oi ov of_ ol om : Nat → Int32} {laid : Int32} {wd l : Nat → Int32}
theorem m_sh73 {k i : Nat} (hk : k ≤ 5) (p4 : Int32) (hlong laid : Int32) (al mh wd l lw hg : Nat → Int32) (mm : Nat → Int64) : ∃ lw', F_X6_shuffle_73 (nI i) (nI k) p4 xF (0 : Int32) hlong laid al mh wd l mm lw hg = ((F_X6_n al).bind fun q2 => (F_X6_layWord p4 (q2 - nI k) wd).bind fun q3 => F_X6_shuffle_114 (nI i) (nI k) xF (0 : Int32) hlong laid al mh q3 l mm lw' hg) ∧ ∀ j, j < k → lw' j = wd j := by
  have h := loopN (fun f j (v : Nat → Int32) => F_X6_shuffle_73 (nI i) (nI k) p4 f (nI j) hlong laid al mh wd l mm v hg) k (fun v => (F_X6_n al).bind fun q2 => (F_X6_layWord p4 (q2 - nI k) wd).bind fun q3 => F_X6_shuffle_114 (nI i) (nI k) xF (0 : Int32) hlong laid al mh q3 l mm v hg) (fun j v => upd v j (wd j))
    (fun f v => by
      show F_X6_shuffle_73 _ _ _ _ _ _ _ _ _ _ _ _ _ _ = _
      rw [E_X6_shuffle_73, ifLe (by omega) (by omega) (by omega)])
    (fun f j v hj => by
      show F_X6_shuffle_73 _ _ _ _ _ _ _ _ _ _ _ _ _ _ = F_X6_shuffle_73 _ _ _ _ _ _ _ _ _ _ _ _ _ _
      rw [E_X6_shuffle_73, ifNle (by omega) (by omega) (by omega), xgI (by omega) (by omega), nI_1, nI_clamp (by omega)]) k 0 lw xF (by omega) (xF_ge (by omega))
  rw [itr_fillI] at h
  exact ⟨_, h, fun j hj => if_pos ⟨Nat.zero_le _, by omega⟩⟩
theorem m_sh114 (hal : al 0 = nI n) (hn : n ≤ 5) {k i : Nat} (hk : k ≤ n) (hlong laid : Int32) (mh wd l lw hg : Nat → Int32) (mm : Nat → Int64) : ∃ hg', F_X6_shuffle_114 (nI i) (nI k) xF (0 : Int32) hlong laid al mh wd l mm lw hg = ((F_X6_begins al (nI i) mm).bind fun q3 => F_X6_shuffle_156 (nI i) (nI k) xF (0 : Int32) (0 : Int32) hlong laid al mh wd l q3 lw hg') ∧ ∀ j, j < n - k → hg' j = wd j := by
  have h := loopN (fun f j (v : Nat → Int32) => F_X6_shuffle_114 (nI i) (nI k) f (nI j) hlong laid al mh wd l mm lw v) (n - k) (fun v => (F_X6_begins al (nI i) mm).bind fun q3 => F_X6_shuffle_156 (nI i) (nI k) xF (0 : Int32) (0 : Int32) hlong laid al mh wd l q3 lw v) (fun j v => upd v j (wd j))
    (fun f v => by
      show F_X6_shuffle_114 _ _ _ _ _ _ _ _ _ _ _ _ _ = _
      rw [E_X6_shuffle_114, bnd (m_n hal), pk_sub hk, ifLe (by omega) (by omega) (by omega)])
    (fun f j v hj => by
      show F_X6_shuffle_114 _ _ _ _ _ _ _ _ _ _ _ _ _ = F_X6_shuffle_114 _ _ _ _ _ _ _ _ _ _ _ _ _
      rw [E_X6_shuffle_114, bnd (m_n hal), pk_sub hk, ifNle (by omega) (by omega) (by omega), xgI (by omega) (by omega), nI_1, nI_clamp (by omega)]) (n - k) 0 hg xF (by omega) (xF_ge (by omega))
  rw [itr_fillI] at h
  exact ⟨_, h, fun j hj => if_pos ⟨Nat.zero_le _, by omega⟩⟩
theorem m_sh156 (hal : al 0 = nI n) (hn : n ≤ 5) {k i : Nat} (hk : k ≤ n) (hL : LK laid l) {one other : Nat} (hone : one < fac k) (hother : other < fac (n - k)) {lw hg : Nat → Int32} (hlw : ∀ j, j < k → lw j = nI (lt k one j)) (hhg : ∀ j, j < n - k → hg j = nI (lt (n - k) other j)) (hlong : Int32) (mh : Nat → Int32) (mm : Nat → Int64) :
    ∃ laid' wd' l', F_X6_shuffle_156 (nI i) (nI k) xF (0 : Int32) (0 : Int32) hlong laid al mh wd l mm lw hg = ((F_X6_becomes (fun j => if j < fac n ∧ shB n k (n - k) one other j then mm j + 1 else mm j) (nI i) (itr (fun o c => if shB n k (n - k) one other o then c + 1 else c) (fac n) 0 0) hlong al mh).bind fun q3 => some (q3.1, q3.2.1, laid', q3.2.2.1, q3.2.2.2, wd', l', (fun j => if j < fac n ∧ shB n k (n - k) one other j then mm j + 1 else mm j), lw, hg)) ∧ LK laid' l' := by
  have hf5 := fac_le hn
  obtain ⟨t', h, h1⟩ := loopE (fun f o (q : Int32 × (Nat → Int64)) (t : MT) => F_X6_shuffle_156 (nI i) (nI k) f q.1 (nI o) hlong t.1 al mh t.2.1 t.2.2 q.2 lw hg) (fun _ t => LK t.1 t.2.2) (fac n) (fun q t => (F_X6_becomes q.2 (nI i) q.1 hlong al mh).bind fun q3 => some (q3.1, q3.2.1, t.1, q3.2.2.1, q3.2.2.2, t.2.1, t.2.2, q.2, lw, hg)) (fun o q => if shB n k (n - k) one other o then (q.1 + 1, vp_updL q.2 o (q.2 o + 1)) else q)
    (fun f q t _ => by
      show F_X6_shuffle_156 _ _ _ _ _ _ _ _ _ _ _ _ _ _ = _
      rw [E_X6_shuffle_156, bnd (m_orders hal hn), ifLe (by omega) (by omega) (by omega)])
    (fun f o q t ho hI => by
      obtain ⟨d1, w1, l1, f1, f2⟩ := m_isShuffle (wd := t.2.1) hal hn hk hI ho hone hother hlw hhg
      refine ⟨(d1, w1, l1), ?_, f2⟩
      show F_X6_shuffle_156 _ _ _ _ _ _ _ _ _ _ _ _ _ _ = F_X6_shuffle_156 _ _ _ _ _ _ _ _ _ _ _ _ _ _
      rw [E_X6_shuffle_156, bnd (m_orders hal hn), ifNle (by omega) (by omega) (by omega), bnd f1]
      dsimp only
      rw [xgI (by omega) (by omega), nI_clamp (by omega), nI_1]
      unfold shB
      cases c : kl n k o (lt k one) n 0 && ku n k o (lt (n - k) other) n 0
      · rw [if_pos (show bI false = 0 from rfl), if_neg (by decide)]
      · rw [if_neg (show ¬ bI true = 0 by decide), if_pos rfl]) (fac n) 0 (0, mm) (laid, wd, l) xF (by omega) (xF_ge (by omega)) hL
  rw [itr_addP] at h
  simp only [Nat.zero_le, true_and, Nat.zero_add] at h
  exact ⟨t'.1, t'.2.1, t'.2.2, h, h1⟩
theorem w_pred : ∀ n, n ≤ 5 → (nI n).toInt64 - 1 = (nI n - nI 1).toInt64 := by decide +kernel
/-- the model: sum and k are well -/
theorem m_shuf (hal : al 0 = nI n) (hn : n ≤ 5) {i k : Nat} (hi : i < 3) (hk1 : 1 ≤ k) (hk : k + 1 ≤ n) (p3 p4 hlong laid : Int32) (mh wd l lw hg : Nat → Int32) (mm : Nat → Int64) :
    F_X6_shuffle (nI i) (nI k) p3 p4 hlong laid al mh wd l mm lw hg = (F_X5_isWithin p3 (nI 0) (nI (fac k) - nI 1)).bind fun q7 => if q7 = 0 then some ((-10000001 : Int32), hlong, laid, al, mh, wd, l, mm, lw, hg) else (F_X5_isWithin p4 (nI 0) (nI (fac (n - k)) - nI 1)).bind fun q11 => if q11 = 0 then some ((-10000001 : Int32), hlong, laid, al, mh, wd, l, mm, lw, hg) else (F_X6_layWord p3 (nI k) wd).bind fun q13 => F_X6_shuffle_73 (nI i) (nI k) p4 xF (0 : Int32) hlong laid al mh q13 l mm lw hg := by
  unfold F_X6_shuffle
  rw [m_isSum, bnd (isSum_t hi), if_neg n10, bnd (m_n hal), m_in' (lo := 1) (nI 1) (nI n - nI 1) rfl (w_pred n hn), pk_sub (by omega), bnd (isW_t (nI_le (by omega) (by omega)) (nI_le (by omega) (by omega))), if_neg n10, bnd (m_ordersOf (by omega)), m_in' (lo := 0) (hi := (nI (fac k) - 1).toInt64) (nI 0) (nI (fac k) - nI 1) rfl rfl, bnd (m_n hal), pk_sub (a := n) (b := k) (by omega), bnd (m_ordersOf (by omega)), m_in' (lo := 0) (hi := (nI (fac (n - k)) - 1).toInt64) (nI 0) (nI (fac (n - k)) - nI 1) rfl rfl]
theorem m_shufG (hS : RS n s al) (hL : LK laid l) {i k : Nat} (hi : i < 3) (hk1 : 1 ≤ k) (hk : k + 1 ≤ n) {one other : Nat} (hone : one < fac k) (hother : other < fac (n - k)) (hlong : Int32) (mh wd lw hg : Nat → Int32) (mm : Nat → Int64) :
    ∃ laid' wd' l' lw' hg', F_X6_shuffle (nI i) (nI k) (nI one) (nI other) hlong laid al mh wd l mm lw hg = ((F_X6_becomes (fun j => if j < fac n ∧ shB n k (n - k) one other j then (if j < 120 then (al (4 + 120 * i + j)).toInt64 else mm j) + 1 else (if j < 120 then (al (4 + 120 * i + j)).toInt64 else mm j)) (nI i) (itr (fun o c => if shB n k (n - k) one other o then c + 1 else c) (fac n) 0 0) hlong al mh).bind fun q3 => some (q3.1, q3.2.1, laid', q3.2.2.1, q3.2.2.2, wd', l', (fun j => if j < fac n ∧ shB n k (n - k) one other j then (if j < 120 then (al (4 + 120 * i + j)).toInt64 else mm j) + 1 else (if j < 120 then (al (4 + 120 * i + j)).toInt64 else mm j)), lw', hg')) ∧ LK laid' l' := by
  have hn5 := hS.2.1
  have hal := hS.2.2.1
  have hfk := fac_le (show k ≤ 5 by omega)
  have hfq := fac_le (show n - k ≤ 5 by omega)
  rw [m_shuf hal hn5 hi hk1 hk, bnd (arg_t hone (by omega)), if_neg n10, bnd (arg_t hother (by omega)), if_neg n10, bnd (m_layWord' (by omega) hone wd)]
  obtain ⟨lw', e1, e2⟩ := m_sh73 (i := i) (show k ≤ 5 by omega) (nI other) hlong laid al mh (fun j => if j < k then nI (lt k one j) else wd j) l lw hg mm
  rw [e1, bnd (m_n hal), pk_sub (by omega), bnd (m_layWord' (by omega) hother _)]
  obtain ⟨hg', e3, e4⟩ := m_sh114 (i := i) hal hn5 (show k ≤ n by omega) hlong laid mh (fun j => if j < n - k then nI (lt (n - k) other j) else (fun j => if j < k then nI (lt k one j) else wd j) j) l lw' hg mm
  rw [e3, bnd (m_begins hi mm)]
  obtain ⟨laid', wd', l', e5, e6⟩ := m_sh156 (i := i) (wd := fun j => if j < n - k then nI (lt (n - k) other j) else (fun j => if j < k then nI (lt k one j) else wd j) j) hal hn5 (show k ≤ n by omega) hL hone hother (fun j hj => (e2 j hj).trans (if_pos hj)) (fun j hj => (e4 j hj).trans (if_pos hj)) hlong mh (fun j => if j < 120 then (al (4 + 120 * i + j)).toInt64 else mm j)
  exact ⟨laid', wd', l', lw', hg', e5, e6⟩
theorem m_shufB (hal : al 0 = nI n) (hn : n ≤ 5) {i k : Nat} (hi : i < 3) (hk1 : 1 ≤ k) (hk : k + 1 ≤ n) {p3 p4 : Int32} (hb : F_X5_isWithin p3 (nI 0) (nI (fac k) - nI 1) = some 0 ∨ (F_X5_isWithin p3 (nI 0) (nI (fac k) - nI 1) = some 1 ∧ F_X5_isWithin p4 (nI 0) (nI (fac (n - k)) - nI 1) = some 0)) (hlong : Int32) (mh lw hg : Nat → Int32) (mm : Nat → Int64) :
    F_X6_shuffle (nI i) (nI k) p3 p4 hlong laid al mh wd l mm lw hg = some ((-10000001 : Int32), hlong, laid, al, mh, wd, l, mm, lw, hg) := by
  rw [m_shuf hal hn hi hk1 hk]
  rcases hb with h | ⟨h, h2⟩
  · rw [bnd h, if_pos rfl]
  · rw [bnd h, if_neg n10, bnd h2, if_pos rfl]
theorem sh_args (k q : Nat) (hk : k ≤ 5) (hq : q ≤ 5) (p3 p4 : Int32) : (F_X5_isWithin p3 (nI 0) (nI (fac k) - nI 1) = some 0 ∨ (F_X5_isWithin p3 (nI 0) (nI (fac k) - nI 1) = some 1 ∧ F_X5_isWithin p4 (nI 0) (nI (fac q) - nI 1) = some 0)) ∨ ∃ one other, one < fac k ∧ other < fac q ∧ p3 = nI one ∧ p4 = nI other := by
  have hfk := fac_le hk
  have hfq := fac_le hq
  rcases pk_ix p3 (n := fac k) (by omega) with h | h | ⟨one, h1, rfl⟩
  · exact Or.inl (Or.inl (arg_f (Or.inl h) (by omega) (fac_pos hk)))
  · exact Or.inl (Or.inl (arg_f (Or.inr h) (by omega) (fac_pos hk)))
  rcases pk_ix p4 (n := fac q) (by omega) with h | h | ⟨other, h2, rfl⟩
  · exact Or.inl (Or.inr ⟨arg_t h1 (by omega), arg_f (Or.inl h) (by omega) (fac_pos hq)⟩)
  · exact Or.inl (Or.inr ⟨arg_t h1 (by omega), arg_f (Or.inr h) (by omega) (fac_pos hq)⟩)
  · exact Or.inr ⟨one, other, h1, h2, rfl, rfl⟩
theorem ag_shuffleX {p1 p2 : Int32} (hal : al 0 = nI n) (hn : n ≤ 5) (h : F_X5_isSum p1 = some 0 ∨ (F_X5_isSum p1 = some 1 ∧ F_X5_isWithin p2 1 (nI n - 1) = some 0)) (p3 p4 hlong laid : Int32) (mh wd l lw hg : Nat → Int32) (mm : Nat → Int64) : F_X5_shuffleX (nI n) p1 p2 = some (-10000001) ∧ F_X6_shuffle p1 p2 p3 p4 hlong laid al mh wd l mm lw hg = some ((-10000001 : Int32), hlong, laid, al, mh, wd, l, mm, lw, hg) := by
  unfold F_X5_shuffleX F_X6_shuffle
  rw [m_isSum]
  rcases h with h | ⟨h, h2⟩
  · rw [bnd h, bnd h, if_pos rfl, if_pos rfl]; exact ⟨rfl, rfl⟩
  · rw [bnd h, bnd h, if_neg n10, if_neg n10, bnd h2, if_pos rfl, bnd (m_n hal), m_in' (lo := 1) 1 (nI n - 1) rfl (w_pred n hn), bnd h2, if_pos rfl]; exact ⟨rfl, rfl⟩
theorem sh_p2 {i k : Nat} (hi : i < 3) (hk1 : 1 ≤ k) (hk : k + 1 ≤ n) (hn : n ≤ 5) : F_X5_isSum (nI i) = some 1 ∧ F_X5_isWithin (nI k) (1 : Int32) (nI n - (1 : Int32)) = some 1 ∧ nI n - nI k = nI (n - k) := by
  refine ⟨isSum_t hi, ?_, pk_sub (by omega)⟩
  rw [i1, pk_sub (by omega)]
  exact isW_t (nI_le (by omega) (by omega)) (nI_le (by omega) (by omega))
theorem ag_shuffleHH (hS : RS n s al) (hR : RH hm hx hl hf hlong mh) (hL : LK laid l) (hll : ll = fac n * n) (hol : ∀ o j, o < fac n → j < n → ol (o * n + j) = nI (lt n o j)) {i k : Nat} (hi : i < 3) (hk1 : 1 ≤ k) (hk : k + 1 ≤ n) {q : Nat} (hq : n - k = q) {ll_lo : Nat} {v_lol : Nat → Int32} (hllo : ll_lo = fac k * k) (hlol : ∀ o j, o < fac k → j < k → v_lol (o * k + j) = nI (lt k o j)) {ll_up : Nat} {v_upl : Nat → Int32} (hlup : ll_up = fac q * q) (hupl : ∀ o j, o < fac q → j < q → v_upl (o * q + j) = nI (lt q o j)) (p3 p4 : Int32) (made mm : Nat → Int64) (lw hg : Nat → Int32) :
    ∃ r s' made' hm' hx' hl' hf'  hlong' al' mh' mm' laid' wd' l' lw' hg', F_X5_shuffleHH ll ll_lo ll_up (nI n) (nI (fac n)) ol (nI k) (nI (fac k)) v_lol (nI q) (nI (fac q)) v_upl (nI i) (nI k) p3 p4 s made hm hx hl hf = some (r, s', made', hm', hx', hl', hf') ∧ F_X6_shuffle (nI i) (nI k) p3 p4 hlong laid al mh wd l mm lw hg = some (r, hlong', laid', al', mh', wd', l', mm', lw', hg') ∧ RS n s' al' ∧ RH hm' hx' hl' hf' hlong' mh' ∧ LK laid' l' := by
  have hn5 := hS.2.1
  have hal := hS.2.2.1
  have hf5 := fac_le hn5
  obtain ⟨a1, a2, a3⟩ := sh_p2 hi hk1 hk hn5
  rw [hq] at a3
  unfold F_X5_shuffleHH
  rw [bnd a1, if_neg n10, bnd a2, if_neg n10, bnd (x_ordersH (k := k) (by omega)), a3, bnd (x_ordersH (k := q) (by omega))]
  try dsimp only
  rcases sh_args k q (by omega) (by omega) p3 p4 with hb | ⟨one, other, h1, h2, rfl, rfl⟩
  · have hm2 := m_shufB (laid := laid) (wd := wd) (l := l) hal hn5 hi hk1 hk (p3 := p3) (p4 := p4) (by rw [hq]; exact hb) hlong mh lw hg mm
    have hx2 : ∀ X Y : Option (Int32 × (Nat → Nat → Int32) × (Nat → Int64) × Int32 × Int32 × (Nat → Int32) × (Nat → Nat → Int32)), ((F_X5_isWithin p3 (0 : Int32) (nI (fac k) - (1 : Int32))).bind fun q7 => if q7 = 0 then X else (F_X5_isWithin p4 (0 : Int32) (nI (fac q) - (1 : Int32))).bind fun q9 => if q9 = 0 then X else Y) = X := fun X Y => by
      rcases hb with h | ⟨h, h3⟩
      · exact (bnd h).trans (if_pos rfl)
      · exact (bnd h).trans ((if_neg n10).trans ((bnd h3).trans (if_pos rfl)))
    rw [hm2]
    refine ⟨_, _, _, _, _, _, _, _, _, _, _, _, _, _, _, _, hx2 _ _, rfl, hS, hR, hL⟩
  · have b1 : F_X5_isWithin (nI one) (0 : Int32) (nI (fac k) - (1 : Int32)) = some 1 := arg_t h1 (by have := fac_le (show k ≤ 5 by omega); omega)
    have b2 : F_X5_isWithin (nI other) (0 : Int32) (nI (fac q) - (1 : Int32)) = some 1 := arg_t h2 (by have := fac_le (show q ≤ 5 by omega); omega)
    rw [bnd b1, if_neg n10, bnd b2, if_neg n10, bnd (x_makeCopyOf (fac n) i hf5 hi s made)]
    obtain ⟨laid', wd', l', lw', hg', e5, e6⟩ := m_shufG (wd := wd) hS hL hi hk1 hk h1 (show other < fac (n - k) by rw [hq]; exact h2) hlong mh lw hg mm
    rw [hq] at e5
    obtain ⟨r, s', hm', hx', hl', hf', hlong', al', mh', e1, e2, e3, e4⟩ := chg hS hR hi (itr (fun o c => if shB n k q one other o then c + 1 else c) (fac n) 0 0)
      (made := fun j => if j < fac n ∧ shB n k q one other j then (if j < fac n then (s i j).toInt64 else made j) + 1 else (if j < fac n then (s i j).toInt64 else made j))
      (mm := fun j => if j < fac n ∧ shB n k q one other j then (if j < 120 then (al (4 + 120 * i + j)).toInt64 else mm j) + 1 else (if j < 120 then (al (4 + 120 * i + j)).toInt64 else mm j))
      (fun o ho => by rw [if_pos (show o < 120 by omega), if_pos ho, hS.get hi (by omega)])
      (fun o g1 g2 => by rw [if_neg (by omega), if_pos g2, hS.get hi g2, hS.zero hi g2 g1]; rfl)
    have eL := x_shHH (n := n) (k := k) (q := q) ll ll_lo ll_up ol v_lol v_upl (nI i) s (fun j => if j < fac n then (s i j).toInt64 else made j) hm hx hl hf hn5 (by omega) (by omega) hq hll hllo hlup h1 h2 hol hlol hupl
    rw [bnd e1] at eL
    rw [bnd e2] at e5
    exact ⟨_, _, _, _, _, _, _, _, _, _, _, _, _, _, _, _, eL, e5, e3, e4, e6⟩
theorem ag_shuffleHM (hS : RS n s al) (hR : RH hm hx hl hf hlong mh) (hL : LK laid l) (hll : ll = fac n * n) (hol : ∀ o j, o < fac n → j < n → ol (o * n + j) = nI (lt n o j)) {i k : Nat} (hi : i < 3) (hk1 : 1 ≤ k) (hk : k + 1 ≤ n) {q : Nat} (hq : n - k = q) {ll_lo : Nat} {v_lol : Nat → Int32} (hllo : ll_lo = fac k * k) (hlol : ∀ o j, o < fac k → j < k → v_lol (o * k + j) = nI (lt k o j)) {N : Nat} (hN : 11 + cost q ≤ N) (p3 p4 : Int32) (made mm : Nat → Int64) (lw hg : Nat → Int32) :
    ∃ r s' made' hm' hx' hl' hf' upd upp upi upv upf upl upm upw ex hlong' al' mh' mm' laid' wd' l' lw' hg', F_X5_shuffleHM N ll ll_lo (nI n) (nI (fac n)) ol (nI k) (nI (fac k)) v_lol (nI i) (nI k) p3 p4 s made hm hx hl hf = some (r, (fac q), (2 ^ (q - 1)), (fac q * q), (fac q * fac q), (q), (fac q * (q - 1)), s', made', hm', hx', hl', hf', (nI q), (nI (fac q)), (nI (2 ^ (q - 1))), upd, upp, upi, upv, upf, upl, upm, upw, ex) ∧ F_X6_shuffle (nI i) (nI k) p3 p4 hlong laid al mh wd l mm lw hg = some (r, hlong', laid', al', mh', wd', l', mm', lw', hg') ∧ TB q (fac q) (2 ^ (q - 1)) (fac q * q) (fac q * fac q) q (nI q) (nI (fac q)) (nI (2 ^ (q - 1))) upd upp upi upv upf upl upm ∧ RS n s' al' ∧ RH hm' hx' hl' hf' hlong' mh' ∧ LK laid' l' := by
  have hn5 := hS.2.1
  have hal := hS.2.2.1
  have hf5 := fac_le hn5
  obtain ⟨a1, a2, a3⟩ := sh_p2 hi hk1 hk hn5
  rw [hq] at a3
  obtain ⟨upd, upp, upi, upv, upf, upl, upm, upw, ex, t2, T2⟩ := x_ordersM (k := q) (N := N - 0) (by omega) (by omega) (by omega)
  have hlup : fac q * q = fac q * q := rfl
  have hupl := T2.2.2.2.2.2.2.2.2.2.2.1
  unfold F_X5_shuffleHM
  rw [bnd a1, if_neg n10, bnd a2, if_neg n10, bnd (x_ordersH (k := k) (by omega)), a3, bnd t2]
  try dsimp only
  rcases sh_args k q (by omega) (by omega) p3 p4 with hb | ⟨one, other, h1, h2, rfl, rfl⟩
  · have hm2 := m_shufB (laid := laid) (wd := wd) (l := l) hal hn5 hi hk1 hk (p3 := p3) (p4 := p4) (by rw [hq]; exact hb) hlong mh lw hg mm
    have hx2 : ∀ X Y : Option (Int32 × Nat × Nat × Nat × Nat × Nat × Nat × (Nat → Nat → Int32) × (Nat → Int64) × Int32 × Int32 × (Nat → Int32) × (Nat → Nat → Int32) × Int32 × Int32 × Int32 × (Nat → Int32) × (Nat → Int32) × (Nat → Int32) × (Nat → Int32) × (Nat → Int32) × (Nat → Int32) × (Nat → Int32) × (Nat → Int32) × (Nat → Int32)), ((F_X5_isWithin p3 (0 : Int32) (nI (fac k) - (1 : Int32))).bind fun q7 => if q7 = 0 then X else (F_X5_isWithin p4 (0 : Int32) (nI (fac q) - (1 : Int32))).bind fun q9 => if q9 = 0 then X else Y) = X := fun X Y => by
      rcases hb with h | ⟨h, h3⟩
      · exact (bnd h).trans (if_pos rfl)
      · exact (bnd h).trans ((if_neg n10).trans ((bnd h3).trans (if_pos rfl)))
    rw [hm2]
    refine ⟨_, _, _, _, _, _, _, _, _, _, _, _, _, _, _, _, _, _, _, _, _, _, _, _, _, hx2 _ _, rfl, T2, hS, hR, hL⟩
  · have b1 : F_X5_isWithin (nI one) (0 : Int32) (nI (fac k) - (1 : Int32)) = some 1 := arg_t h1 (by have := fac_le (show k ≤ 5 by omega); omega)
    have b2 : F_X5_isWithin (nI other) (0 : Int32) (nI (fac q) - (1 : Int32)) = some 1 := arg_t h2 (by have := fac_le (show q ≤ 5 by omega); omega)
    rw [bnd b1, if_neg n10, bnd b2, if_neg n10, bnd (x_makeCopyOf (fac n) i hf5 hi s made)]
    obtain ⟨laid', wd', l', lw', hg', e5, e6⟩ := m_shufG (wd := wd) hS hL hi hk1 hk h1 (show other < fac (n - k) by rw [hq]; exact h2) hlong mh lw hg mm
    rw [hq] at e5
    obtain ⟨r, s', hm', hx', hl', hf', hlong', al', mh', e1, e2, e3, e4⟩ := chg hS hR hi (itr (fun o c => if shB n k q one other o then c + 1 else c) (fac n) 0 0)
      (made := fun j => if j < fac n ∧ shB n k q one other j then (if j < fac n then (s i j).toInt64 else made j) + 1 else (if j < fac n then (s i j).toInt64 else made j))
      (mm := fun j => if j < fac n ∧ shB n k q one other j then (if j < 120 then (al (4 + 120 * i + j)).toInt64 else mm j) + 1 else (if j < 120 then (al (4 + 120 * i + j)).toInt64 else mm j))
      (fun o ho => by rw [if_pos (show o < 120 by omega), if_pos ho, hS.get hi (by omega)])
      (fun o g1 g2 => by rw [if_neg (by omega), if_pos g2, hS.get hi g2, hS.zero hi g2 g1]; rfl)
    have eL := x_shHM (n := n) (k := k) (q := q) ll ll_lo ol v_lol (nI i) (fac q) (2 ^ (q - 1)) (fac q * q) (fac q * fac q) (q) (fac q * (q - 1)) s (fun j => if j < fac n then (s i j).toInt64 else made j) hm hx hl hf (nI (fac q)) (nI (2 ^ (q - 1))) upd upp upi upv upf upl upm upw ex hn5 (by omega) (by omega) hq hll hllo hlup h1 h2 hol hlol hupl
    rw [bnd e1] at eL
    rw [bnd e2] at e5
    exact ⟨_, _, _, _, _, _, _, _, _, _, _, _, _, _, _, _, _, _, _, _, _, _, _, _, _, eL, e5, T2, e3, e4, e6⟩
theorem ag_shuffleMH (hS : RS n s al) (hR : RH hm hx hl hf hlong mh) (hL : LK laid l) (hll : ll = fac n * n) (hol : ∀ o j, o < fac n → j < n → ol (o * n + j) = nI (lt n o j)) {i k : Nat} (hi : i < 3) (hk1 : 1 ≤ k) (hk : k + 1 ≤ n) {q : Nat} (hq : n - k = q) {ll_up : Nat} {v_upl : Nat → Int32} (hlup : ll_up = fac q * q) (hupl : ∀ o j, o < fac q → j < q → v_upl (o * q + j) = nI (lt q o j)) {N : Nat} (hN : 11 + cost k ≤ N) (p3 p4 : Int32) (made mm : Nat → Int64) (lw hg : Nat → Int32) :
    ∃ r s' made' hm' hx' hl' hf' lod lop loi lov lof lol lom low ex hlong' al' mh' mm' laid' wd' l' lw' hg', F_X5_shuffleMH N ll ll_up (nI n) (nI (fac n)) ol (nI q) (nI (fac q)) v_upl (nI i) (nI k) p3 p4 s made hm hx hl hf = some (r, (fac k), (2 ^ (k - 1)), (fac k * k), (fac k * fac k), (k), (fac k * (k - 1)), s', made', hm', hx', hl', hf', (nI k), (nI (fac k)), (nI (2 ^ (k - 1))), lod, lop, loi, lov, lof, lol, lom, low, ex) ∧ F_X6_shuffle (nI i) (nI k) p3 p4 hlong laid al mh wd l mm lw hg = some (r, hlong', laid', al', mh', wd', l', mm', lw', hg') ∧ TB k (fac k) (2 ^ (k - 1)) (fac k * k) (fac k * fac k) k (nI k) (nI (fac k)) (nI (2 ^ (k - 1))) lod lop loi lov lof lol lom ∧ RS n s' al' ∧ RH hm' hx' hl' hf' hlong' mh' ∧ LK laid' l' := by
  have hn5 := hS.2.1
  have hal := hS.2.2.1
  have hf5 := fac_le hn5
  obtain ⟨a1, a2, a3⟩ := sh_p2 hi hk1 hk hn5
  rw [hq] at a3
  obtain ⟨lod, lop, loi, lov, lof, lol, lom, low, ex, t1, T1⟩ := x_ordersM (k := k) (N := N - 0) (by omega) (by omega) (by omega)
  have hllo : fac k * k = fac k * k := rfl
  have hlol := T1.2.2.2.2.2.2.2.2.2.2.1
  unfold F_X5_shuffleMH
  rw [bnd a1, if_neg n10, bnd a2, if_neg n10, bnd t1, a3, bnd (x_ordersH (k := q) (by omega))]
  try dsimp only
  rcases sh_args k q (by omega) (by omega) p3 p4 with hb | ⟨one, other, h1, h2, rfl, rfl⟩
  · have hm2 := m_shufB (laid := laid) (wd := wd) (l := l) hal hn5 hi hk1 hk (p3 := p3) (p4 := p4) (by rw [hq]; exact hb) hlong mh lw hg mm
    have hx2 : ∀ X Y : Option (Int32 × Nat × Nat × Nat × Nat × Nat × Nat × (Nat → Nat → Int32) × (Nat → Int64) × Int32 × Int32 × (Nat → Int32) × (Nat → Nat → Int32) × Int32 × Int32 × Int32 × (Nat → Int32) × (Nat → Int32) × (Nat → Int32) × (Nat → Int32) × (Nat → Int32) × (Nat → Int32) × (Nat → Int32) × (Nat → Int32) × (Nat → Int32)), ((F_X5_isWithin p3 (0 : Int32) (nI (fac k) - (1 : Int32))).bind fun q7 => if q7 = 0 then X else (F_X5_isWithin p4 (0 : Int32) (nI (fac q) - (1 : Int32))).bind fun q9 => if q9 = 0 then X else Y) = X := fun X Y => by
      rcases hb with h | ⟨h, h3⟩
      · exact (bnd h).trans (if_pos rfl)
      · exact (bnd h).trans ((if_neg n10).trans ((bnd h3).trans (if_pos rfl)))
    rw [hm2]
    refine ⟨_, _, _, _, _, _, _, _, _, _, _, _, _, _, _, _, _, _, _, _, _, _, _, _, _, hx2 _ _, rfl, T1, hS, hR, hL⟩
  · have b1 : F_X5_isWithin (nI one) (0 : Int32) (nI (fac k) - (1 : Int32)) = some 1 := arg_t h1 (by have := fac_le (show k ≤ 5 by omega); omega)
    have b2 : F_X5_isWithin (nI other) (0 : Int32) (nI (fac q) - (1 : Int32)) = some 1 := arg_t h2 (by have := fac_le (show q ≤ 5 by omega); omega)
    rw [bnd b1, if_neg n10, bnd b2, if_neg n10, bnd (x_makeCopyOf (fac n) i hf5 hi s made)]
    obtain ⟨laid', wd', l', lw', hg', e5, e6⟩ := m_shufG (wd := wd) hS hL hi hk1 hk h1 (show other < fac (n - k) by rw [hq]; exact h2) hlong mh lw hg mm
    rw [hq] at e5
    obtain ⟨r, s', hm', hx', hl', hf', hlong', al', mh', e1, e2, e3, e4⟩ := chg hS hR hi (itr (fun o c => if shB n k q one other o then c + 1 else c) (fac n) 0 0)
      (made := fun j => if j < fac n ∧ shB n k q one other j then (if j < fac n then (s i j).toInt64 else made j) + 1 else (if j < fac n then (s i j).toInt64 else made j))
      (mm := fun j => if j < fac n ∧ shB n k q one other j then (if j < 120 then (al (4 + 120 * i + j)).toInt64 else mm j) + 1 else (if j < 120 then (al (4 + 120 * i + j)).toInt64 else mm j))
      (fun o ho => by rw [if_pos (show o < 120 by omega), if_pos ho, hS.get hi (by omega)])
      (fun o g1 g2 => by rw [if_neg (by omega), if_pos g2, hS.get hi g2, hS.zero hi g2 g1]; rfl)
    have eL := x_shMH (n := n) (k := k) (q := q) ll ll_up ol v_upl (nI i) (fac k) (2 ^ (k - 1)) (fac k * k) (fac k * fac k) (k) (fac k * (k - 1)) s (fun j => if j < fac n then (s i j).toInt64 else made j) hm hx hl hf (nI (fac k)) (nI (2 ^ (k - 1))) lod lop loi lov lof lol lom low ex hn5 (by omega) (by omega) hq hll hllo hlup h1 h2 hol hlol hupl
    rw [bnd e1] at eL
    rw [bnd e2] at e5
    exact ⟨_, _, _, _, _, _, _, _, _, _, _, _, _, _, _, _, _, _, _, _, _, _, _, _, _, eL, e5, T1, e3, e4, e6⟩
theorem ag_shuffleNN (hS : RS n s al) (hR : RH hm hx hl hf hlong mh) (hL : LK laid l) (hll : ll = fac n * n) (hol : ∀ o j, o < fac n → j < n → ol (o * n + j) = nI (lt n o j)) {i k : Nat} (hi : i < 3) (hk1 : 1 ≤ k) (hk : k + 1 ≤ n) {q : Nat} (hq : n - k = q) {N N1 : Nat} (hN1 : 11 + cost k ≤ N1) (hN : N1 + (11 + cost q) ≤ N) (p3 p4 : Int32) (made mm : Nat → Int64) (lw hg : Nat → Int32) :
    ∃ r s' made' hm' hx' hl' hf' lod lop loi lov lof lol lom low ex upd upp upi upv upf upl upm upw ex2 hlong' al' mh' mm' laid' wd' l' lw' hg', F_X5_shuffleNN N1 N ll (nI n) (nI (fac n)) ol (nI i) (nI k) p3 p4 s made hm hx hl hf = some (r, (fac k), (2 ^ (k - 1)), (fac k * k), (fac k * fac k), (k), (fac k * (k - 1)), (fac q), (2 ^ (q - 1)), (fac q * q), (fac q * fac q), (q), (fac q * (q - 1)), s', made', hm', hx', hl', hf', (nI k), (nI (fac k)), (nI (2 ^ (k - 1))), lod, lop, loi, lov, lof, lol, lom, low, ex, (nI q), (nI (fac q)), (nI (2 ^ (q - 1))), upd, upp, upi, upv, upf, upl, upm, upw, ex2) ∧ F_X6_shuffle (nI i) (nI k) p3 p4 hlong laid al mh wd l mm lw hg = some (r, hlong', laid', al', mh', wd', l', mm', lw', hg') ∧ TB k (fac k) (2 ^ (k - 1)) (fac k * k) (fac k * fac k) k (nI k) (nI (fac k)) (nI (2 ^ (k - 1))) lod lop loi lov lof lol lom ∧ TB q (fac q) (2 ^ (q - 1)) (fac q * q) (fac q * fac q) q (nI q) (nI (fac q)) (nI (2 ^ (q - 1))) upd upp upi upv upf upl upm ∧ RS n s' al' ∧ RH hm' hx' hl' hf' hlong' mh' ∧ LK laid' l' := by
  have hn5 := hS.2.1
  have hal := hS.2.2.1
  have hf5 := fac_le hn5
  obtain ⟨a1, a2, a3⟩ := sh_p2 hi hk1 hk hn5
  rw [hq] at a3
  obtain ⟨lod, lop, loi, lov, lof, lol, lom, low, ex, t1, T1⟩ := x_ordersM (k := k) (N := N1) (by omega) (by omega) (by omega)
  have hllo : fac k * k = fac k * k := rfl
  have hlol := T1.2.2.2.2.2.2.2.2.2.2.1
  obtain ⟨upd, upp, upi, upv, upf, upl, upm, upw, ex2, t2, T2⟩ := x_ordersM (k := q) (N := N - (0 + N1)) (by omega) (by omega) (by omega)
  have hlup : fac q * q = fac q * q := rfl
  have hupl := T2.2.2.2.2.2.2.2.2.2.2.1
  unfold F_X5_shuffleNN
  rw [bnd a1, if_neg n10, bnd a2, if_neg n10, bnd t1, a3, bnd t2]
  try dsimp only
  rcases sh_args k q (by omega) (by omega) p3 p4 with hb | ⟨one, other, h1, h2, rfl, rfl⟩
  · have hm2 := m_shufB (laid := laid) (wd := wd) (l := l) hal hn5 hi hk1 hk (p3 := p3) (p4 := p4) (by rw [hq]; exact hb) hlong mh lw hg mm
    have hx2 : ∀ X Y : Option (Int32 × Nat × Nat × Nat × Nat × Nat × Nat × Nat × Nat × Nat × Nat × Nat × Nat × (Nat → Nat → Int32) × (Nat → Int64) × Int32 × Int32 × (Nat → Int32) × (Nat → Nat → Int32) × Int32 × Int32 × Int32 × (Nat → Int32) × (Nat → Int32) × (Nat → Int32) × (Nat → Int32) × (Nat → Int32) × (Nat → Int32) × (Nat → Int32) × (Nat → Int32) × (Nat → Int32) × Int32 × Int32 × Int32 × (Nat → Int32) × (Nat → Int32) × (Nat → Int32) × (Nat → Int32) × (Nat → Int32) × (Nat → Int32) × (Nat → Int32) × (Nat → Int32) × (Nat → Int32)), ((F_X5_isWithin p3 (0 : Int32) (nI (fac k) - (1 : Int32))).bind fun q7 => if q7 = 0 then X else (F_X5_isWithin p4 (0 : Int32) (nI (fac q) - (1 : Int32))).bind fun q9 => if q9 = 0 then X else Y) = X := fun X Y => by
      rcases hb with h | ⟨h, h3⟩
      · exact (bnd h).trans (if_pos rfl)
      · exact (bnd h).trans ((if_neg n10).trans ((bnd h3).trans (if_pos rfl)))
    rw [hm2]
    refine ⟨_, _, _, _, _, _, _, _, _, _, _, _, _, _, _, _, _, _, _, _, _, _, _, _, _, _, _, _, _, _, _, _, _, _, hx2 _ _, rfl, T1, T2, hS, hR, hL⟩
  · have b1 : F_X5_isWithin (nI one) (0 : Int32) (nI (fac k) - (1 : Int32)) = some 1 := arg_t h1 (by have := fac_le (show k ≤ 5 by omega); omega)
    have b2 : F_X5_isWithin (nI other) (0 : Int32) (nI (fac q) - (1 : Int32)) = some 1 := arg_t h2 (by have := fac_le (show q ≤ 5 by omega); omega)
    rw [bnd b1, if_neg n10, bnd b2, if_neg n10, bnd (x_makeCopyOf (fac n) i hf5 hi s made)]
    obtain ⟨laid', wd', l', lw', hg', e5, e6⟩ := m_shufG (wd := wd) hS hL hi hk1 hk h1 (show other < fac (n - k) by rw [hq]; exact h2) hlong mh lw hg mm
    rw [hq] at e5
    obtain ⟨r, s', hm', hx', hl', hf', hlong', al', mh', e1, e2, e3, e4⟩ := chg hS hR hi (itr (fun o c => if shB n k q one other o then c + 1 else c) (fac n) 0 0)
      (made := fun j => if j < fac n ∧ shB n k q one other j then (if j < fac n then (s i j).toInt64 else made j) + 1 else (if j < fac n then (s i j).toInt64 else made j))
      (mm := fun j => if j < fac n ∧ shB n k q one other j then (if j < 120 then (al (4 + 120 * i + j)).toInt64 else mm j) + 1 else (if j < 120 then (al (4 + 120 * i + j)).toInt64 else mm j))
      (fun o ho => by rw [if_pos (show o < 120 by omega), if_pos ho, hS.get hi (by omega)])
      (fun o g1 g2 => by rw [if_neg (by omega), if_pos g2, hS.get hi g2, hS.zero hi g2 g1]; rfl)
    have eL := x_shNN (n := n) (k := k) (q := q) ll ol (nI i) (fac k) (2 ^ (k - 1)) (fac k * k) (fac k * fac k) (k) (fac k * (k - 1)) (fac q) (2 ^ (q - 1)) (fac q * q) (fac q * fac q) (q) (fac q * (q - 1)) s (fun j => if j < fac n then (s i j).toInt64 else made j) hm hx hl hf (nI (fac k)) (nI (2 ^ (k - 1))) lod lop loi lov lof lol lom low ex (nI (fac q)) (nI (2 ^ (q - 1))) upd upp upi upv upf upl upm upw ex2 hn5 (by omega) (by omega) hq hll hllo hlup h1 h2 hol hlol hupl
    rw [bnd e1] at eL
    rw [bnd e2] at e5
    exact ⟨_, _, _, _, _, _, _, _, _, _, _, _, _, _, _, _, _, _, _, _, _, _, _, _, _, _, _, _, _, _, _, _, _, _, eL, e5, T1, T2, e3, e4, e6⟩
theorem ag_shuffleHS (hS : RS n s al) (hR : RH hm hx hl hf hlong mh) (hL : LK laid l) (hll : ll = fac n * n) (hol : ∀ o j, o < fac n → j < n → ol (o * n + j) = nI (lt n o j)) {i k : Nat} (hi : i < 3) (hk1 : 1 ≤ k) (hk : k + 1 ≤ n) (hq : n - k = k) {ll_lo : Nat} {v_lol : Nat → Int32} (hllo : ll_lo = fac k * k) (hlol : ∀ o j, o < fac k → j < k → v_lol (o * k + j) = nI (lt k o j)) (p3 p4 : Int32) (made mm : Nat → Int64) (lw hg : Nat → Int32) :
    ∃ r s' made' hm' hx' hl' hf'  hlong' al' mh' mm' laid' wd' l' lw' hg', F_X5_shuffleHS ll ll_lo (nI n) (nI (fac n)) ol (nI k) (nI (fac k)) v_lol (nI i) (nI k) p3 p4 s made hm hx hl hf = some (r, s', made', hm', hx', hl', hf') ∧ F_X6_shuffle (nI i) (nI k) p3 p4 hlong laid al mh wd l mm lw hg = some (r, hlong', laid', al', mh', wd', l', mm', lw', hg') ∧ RS n s' al' ∧ RH hm' hx' hl' hf' hlong' mh' ∧ LK laid' l' := by
  have hn5 := hS.2.1
  have hal := hS.2.2.1
  have hf5 := fac_le hn5
  obtain ⟨a1, a2, a3⟩ := sh_p2 hi hk1 hk hn5
  rw [hq] at a3
  unfold F_X5_shuffleHS
  rw [bnd a1, if_neg n10, bnd a2, if_neg n10, bnd (x_ordersH (k := k) (by omega)), a3, bnd (x_ordersH (k := k) (by omega))]
  try dsimp only
  rcases sh_args k k (by omega) (by omega) p3 p4 with hb | ⟨one, other, h1, h2, rfl, rfl⟩
  · have hm2 := m_shufB (laid := laid) (wd := wd) (l := l) hal hn5 hi hk1 hk (p3 := p3) (p4 := p4) (by rw [hq]; exact hb) hlong mh lw hg mm
    have hx2 : ∀ X Y : Option (Int32 × (Nat → Nat → Int32) × (Nat → Int64) × Int32 × Int32 × (Nat → Int32) × (Nat → Nat → Int32)), ((F_X5_isWithin p3 (0 : Int32) (nI (fac k) - (1 : Int32))).bind fun q7 => if q7 = 0 then X else (F_X5_isWithin p4 (0 : Int32) (nI (fac k) - (1 : Int32))).bind fun q9 => if q9 = 0 then X else Y) = X := fun X Y => by
      rcases hb with h | ⟨h, h3⟩
      · exact (bnd h).trans (if_pos rfl)
      · exact (bnd h).trans ((if_neg n10).trans ((bnd h3).trans (if_pos rfl)))
    rw [hm2]
    refine ⟨_, _, _, _, _, _, _, _, _, _, _, _, _, _, _, _, hx2 _ _, rfl, hS, hR, hL⟩
  · have b1 : F_X5_isWithin (nI one) (0 : Int32) (nI (fac k) - (1 : Int32)) = some 1 := arg_t h1 (by have := fac_le (show k ≤ 5 by omega); omega)
    have b2 : F_X5_isWithin (nI other) (0 : Int32) (nI (fac k) - (1 : Int32)) = some 1 := arg_t h2 (by have := fac_le (show k ≤ 5 by omega); omega)
    rw [bnd b1, if_neg n10, bnd b2, if_neg n10, bnd (x_makeCopyOf (fac n) i hf5 hi s made)]
    obtain ⟨laid', wd', l', lw', hg', e5, e6⟩ := m_shufG (wd := wd) hS hL hi hk1 hk h1 (show other < fac (n - k) by rw [hq]; exact h2) hlong mh lw hg mm
    rw [hq] at e5
    obtain ⟨r, s', hm', hx', hl', hf', hlong', al', mh', e1, e2, e3, e4⟩ := chg hS hR hi (itr (fun o c => if shB n k k one other o then c + 1 else c) (fac n) 0 0)
      (made := fun j => if j < fac n ∧ shB n k k one other j then (if j < fac n then (s i j).toInt64 else made j) + 1 else (if j < fac n then (s i j).toInt64 else made j))
      (mm := fun j => if j < fac n ∧ shB n k k one other j then (if j < 120 then (al (4 + 120 * i + j)).toInt64 else mm j) + 1 else (if j < 120 then (al (4 + 120 * i + j)).toInt64 else mm j))
      (fun o ho => by rw [if_pos (show o < 120 by omega), if_pos ho, hS.get hi (by omega)])
      (fun o g1 g2 => by rw [if_neg (by omega), if_pos g2, hS.get hi g2, hS.zero hi g2 g1]; rfl)
    have eL := x_shHS (n := n) (k := k) ll ll_lo ol v_lol (nI i) s (fun j => if j < fac n then (s i j).toInt64 else made j) hm hx hl hf hn5 (by omega) (by omega) hq hll hllo h1 h2 hol hlol
    rw [bnd e1] at eL
    rw [bnd e2] at e5
    exact ⟨_, _, _, _, _, _, _, _, _, _, _, _, _, _, _, _, eL, e5, e3, e4, e6⟩
theorem ag_shuffleMS (hS : RS n s al) (hR : RH hm hx hl hf hlong mh) (hL : LK laid l) (hll : ll = fac n * n) (hol : ∀ o j, o < fac n → j < n → ol (o * n + j) = nI (lt n o j)) {i k : Nat} (hi : i < 3) (hk1 : 1 ≤ k) (hk : k + 1 ≤ n) (hq : n - k = k) {N : Nat} (hN : 11 + cost k ≤ N) (p3 p4 : Int32) (made mm : Nat → Int64) (lw hg : Nat → Int32) :
    ∃ r s' made' hm' hx' hl' hf' lod lop loi lov lof lol lom low ex hlong' al' mh' mm' laid' wd' l' lw' hg', F_X5_shuffleMS N ll (nI n) (nI (fac n)) ol (nI i) (nI k) p3 p4 s made hm hx hl hf = some (r, (fac k), (2 ^ (k - 1)), (fac k * k), (fac k * fac k), (k), (fac k * (k - 1)), s', made', hm', hx', hl', hf', (nI k), (nI (fac k)), (nI (2 ^ (k - 1))), lod, lop, loi, lov, lof, lol, lom, low, ex) ∧ F_X6_shuffle (nI i) (nI k) p3 p4 hlong laid al mh wd l mm lw hg = some (r, hlong', laid', al', mh', wd', l', mm', lw', hg') ∧ TB k (fac k) (2 ^ (k - 1)) (fac k * k) (fac k * fac k) k (nI k) (nI (fac k)) (nI (2 ^ (k - 1))) lod lop loi lov lof lol lom ∧ RS n s' al' ∧ RH hm' hx' hl' hf' hlong' mh' ∧ LK laid' l' := by
  have hn5 := hS.2.1
  have hal := hS.2.2.1
  have hf5 := fac_le hn5
  obtain ⟨a1, a2, a3⟩ := sh_p2 hi hk1 hk hn5
  rw [hq] at a3
  obtain ⟨lod, lop, loi, lov, lof, lol, lom, low, ex, t1, T1⟩ := x_ordersM (k := k) (N := N - 0) (by omega) (by omega) (by omega)
  have hllo : fac k * k = fac k * k := rfl
  have hlol := T1.2.2.2.2.2.2.2.2.2.2.1
  unfold F_X5_shuffleMS
  rw [bnd a1, if_neg n10, bnd a2, if_neg n10, bnd t1, a3, bnd (x_ordersH (k := k) (by omega))]
  try dsimp only
  rcases sh_args k k (by omega) (by omega) p3 p4 with hb | ⟨one, other, h1, h2, rfl, rfl⟩
  · have hm2 := m_shufB (laid := laid) (wd := wd) (l := l) hal hn5 hi hk1 hk (p3 := p3) (p4 := p4) (by rw [hq]; exact hb) hlong mh lw hg mm
    have hx2 : ∀ X Y : Option (Int32 × Nat × Nat × Nat × Nat × Nat × Nat × (Nat → Nat → Int32) × (Nat → Int64) × Int32 × Int32 × (Nat → Int32) × (Nat → Nat → Int32) × Int32 × Int32 × Int32 × (Nat → Int32) × (Nat → Int32) × (Nat → Int32) × (Nat → Int32) × (Nat → Int32) × (Nat → Int32) × (Nat → Int32) × (Nat → Int32) × (Nat → Int32)), ((F_X5_isWithin p3 (0 : Int32) (nI (fac k) - (1 : Int32))).bind fun q7 => if q7 = 0 then X else (F_X5_isWithin p4 (0 : Int32) (nI (fac k) - (1 : Int32))).bind fun q9 => if q9 = 0 then X else Y) = X := fun X Y => by
      rcases hb with h | ⟨h, h3⟩
      · exact (bnd h).trans (if_pos rfl)
      · exact (bnd h).trans ((if_neg n10).trans ((bnd h3).trans (if_pos rfl)))
    rw [hm2]
    refine ⟨_, _, _, _, _, _, _, _, _, _, _, _, _, _, _, _, _, _, _, _, _, _, _, _, _, hx2 _ _, rfl, T1, hS, hR, hL⟩
  · have b1 : F_X5_isWithin (nI one) (0 : Int32) (nI (fac k) - (1 : Int32)) = some 1 := arg_t h1 (by have := fac_le (show k ≤ 5 by omega); omega)
    have b2 : F_X5_isWithin (nI other) (0 : Int32) (nI (fac k) - (1 : Int32)) = some 1 := arg_t h2 (by have := fac_le (show k ≤ 5 by omega); omega)
    rw [bnd b1, if_neg n10, bnd b2, if_neg n10, bnd (x_makeCopyOf (fac n) i hf5 hi s made)]
    obtain ⟨laid', wd', l', lw', hg', e5, e6⟩ := m_shufG (wd := wd) hS hL hi hk1 hk h1 (show other < fac (n - k) by rw [hq]; exact h2) hlong mh lw hg mm
    rw [hq] at e5
    obtain ⟨r, s', hm', hx', hl', hf', hlong', al', mh', e1, e2, e3, e4⟩ := chg hS hR hi (itr (fun o c => if shB n k k one other o then c + 1 else c) (fac n) 0 0)
      (made := fun j => if j < fac n ∧ shB n k k one other j then (if j < fac n then (s i j).toInt64 else made j) + 1 else (if j < fac n then (s i j).toInt64 else made j))
      (mm := fun j => if j < fac n ∧ shB n k k one other j then (if j < 120 then (al (4 + 120 * i + j)).toInt64 else mm j) + 1 else (if j < 120 then (al (4 + 120 * i + j)).toInt64 else mm j))
      (fun o ho => by rw [if_pos (show o < 120 by omega), if_pos ho, hS.get hi (by omega)])
      (fun o g1 g2 => by rw [if_neg (by omega), if_pos g2, hS.get hi g2, hS.zero hi g2 g1]; rfl)
    have eL := x_shMS (n := n) (k := k) ll ol (nI i) (fac k) (2 ^ (k - 1)) (fac k * k) (fac k * fac k) (k) (fac k * (k - 1)) s (fun j => if j < fac n then (s i j).toInt64 else made j) hm hx hl hf (nI (fac k)) (nI (2 ^ (k - 1))) lod lop loi lov lof lol lom low ex hn5 (by omega) (by omega) hq hll hllo h1 h2 hol hlol
    rw [bnd e1] at eL
    rw [bnd e2] at e5
    exact ⟨_, _, _, _, _, _, _, _, _, _, _, _, _, _, _, _, _, _, _, _, _, _, _, _, _, eL, e5, T1, e3, e4, e6⟩
end AH
