/-! more numbers of an order: the inverse, the descents added up, the rings, on both sides -/
theorem iw_ok : ∀ n, n ≤ 5 → ∀ o, o < fac n → ∀ j, j < n → (fun i => i < n ∧ lt n o i - 1 = j ∧ i + 1 = iwN n (lt n o) j) (iwN n (lt n o) j - 1) := by decide +kernel
theorem lt_inj : ∀ n, n ≤ 5 → ∀ o, o < fac n → ∀ j, j < n → ∀ k, k < n → lt n o j = lt n o k → j = k := by decide +kernel
theorem m_inverse {al : Nat → Int32} {n : Nat} (hal : al 0 = nI n) (hn : n ≤ 5) (hn1 : 1 ≤ n) {laid : Int32} {wd l : Nat → Int32} (hL : LK laid l) {o : Nat} (ho : o < fac n) :
    ∃ laid' wd' l', F_X6_inverse al (nI o) laid wd l = some (nI (vi n o), laid', wd', l') ∧ LK laid' l' := by
  have hf5 := fac_le hn
  obtain ⟨t', h, h1, h2⟩ := loopE (fun f k (_ : Unit) (t : MT) => F_X6_inverse_2 al (nI o) f (nI k) t.1 t.2.1 t.2.2) (fun k t => LK t.1 t.2.2 ∧ (0 < k → t.1 = nI n ∧ ∀ i, i < k → t.2.1 (lt n o i - 1) = nI (i + 1))) n (fun _ t => (F_X6_numberOfWord al t.2.1).bind fun q => some (q, t.1, t.2.1, t.2.2)) (fun _ s => s)
    (fun f s t _ => by
      show F_X6_inverse_2 _ _ _ _ _ _ _ = _
      rw [E_X6_inverse_2, bnd (m_n hal), ifLe (by omega) (by omega) (by omega)])
    (fun f k s t hk ⟨hI, hJ⟩ => by
      obtain ⟨a1, b1⟩ := lt_ok n hn o ho k hk
      obtain ⟨w1, l1, e1, e2, e3⟩ := m_at (wd := t.2.1) hal hn hI ho hk
      refine ⟨(nI n, upd w1 (lt n o k - 1) (nI (k + 1)), l1), ?_, e2.LK hn, fun _ => ⟨rfl, fun i hi => ?_⟩⟩
      · show F_X6_inverse_2 _ _ _ _ _ _ _ = F_X6_inverse_2 _ _ _ _ _ _ _
        rw [E_X6_inverse_2, bnd (m_n hal), ifNle (by omega) (by omega) (by omega), bnd e1]
        dsimp only
        rw [i1, pk_sub a1, xgI (by omega) (by omega), nI_clamp (by omega), nI_add]
      · show upd w1 (lt n o k - 1) (nI (k + 1)) (lt n o i - 1) = _
        unfold upd
        by_cases c : i = k
        · subst c; rw [if_pos rfl]
        · have hi2 : i < k := by omega
          obtain ⟨a2, b2⟩ := lt_ok n hn o ho i (by omega)
          rw [if_neg (fun q => c (lt_inj n hn o ho i (by omega) k hk (by omega))), e3 (hJ (by omega)).1]
          exact (hJ (by omega)).2 i hi2) n 0 () (laid, wd, l) xF (by omega) (xF_ge (by omega)) ⟨hL, fun h => absurd h (by omega)⟩
  unfold F_X6_inverse
  have h3 : F_X6_numberOfWord al t'.2.1 = some (nI (vi n o)) := by
    refine m_nm hal hn fun k hk => ?_
    obtain ⟨q1, q2, q3⟩ := iw_ok n hn o ho k hk
    have := (h2 (by omega)).2 _ q1
    rw [q2, q3] at this
    exact ⟨this, by omega⟩
  rw [bnd h3] at h
  exact ⟨t'.1, t'.2.1, t'.2.2, h, h1⟩
def dsu (n o : Nat) : Nat := itr (fun k s => if de n o / 2 ^ k % 2 = 1 then s + (k + 1) else s) (n - 1) 0 0
def dsM (n o : Nat) : Nat := itr (fun k s => if de n o / 2 ^ k % 2 = 1 then s + (k + 1) else s) n 0 0
theorem dsM_ok : ∀ n, n ≤ 5 → ∀ o, o < fac n → dsM n o = dsu n o := by decide +kernel
theorem de_32 {n : Nat} (hn : n ≤ 5) {o : Nat} (ho : o < fac n) : de n o < 32 := by
  have h := (de_lt n hn o ho).1
  have h2 : 2 ^ (n - 1) ≤ 2 ^ 4 := Nat.pow_le_pow_right (by omega) (by omega)
  omega
theorem m_descentSum {al : Nat → Int32} {n : Nat} (hal : al 0 = nI n) (hn : n ≤ 5) (hn1 : 1 ≤ n) {laid : Int32} {wd l : Nat → Int32} (hL : LK laid l) {o : Nat} (ho : o < fac n) :
    ∃ laid' wd' l', F_X6_descentSum al (nI o) laid wd l = some (nI (dsu n o), laid', wd', l') ∧ LK laid' l' := by
  have hf5 := fac_le hn
  obtain ⟨t', h, h1⟩ := loopE (fun f k s (t : MT) => F_X6_descentSum_4 al (nI o) f (nI s) (nI k) t.1 t.2.1 t.2.2) (fun _ t => LK t.1 t.2.2) n (fun s t => some (nI s, t.1, t.2.1, t.2.2)) (fun k s => if de n o / 2 ^ k % 2 = 1 then s + (k + 1) else s)
    (fun f s t _ => by
      show F_X6_descentSum_4 _ _ _ _ _ _ _ _ = _
      rw [E_X6_descentSum_4, bnd (m_n hal), ifLe (by omega) (by omega) (by omega)])
    (fun f k s t hk hI => by
      obtain ⟨d1, w1, l1, e1, e2, -⟩ := m_descents (wd := t.2.1) hal hn hn1 hI ho
      refine ⟨(d1, w1, l1), ?_, e2⟩
      show F_X6_descentSum_4 _ _ _ _ _ _ _ _ = F_X6_descentSum_4 _ _ _ (nI (if _ then _ else _)) _ _ _ _
      rw [E_X6_descentSum_4, bnd (m_n hal), ifNle (by omega) (by omega) (by omega), bnd e1]
      dsimp only
      have hb := sh_bit (de n o) (de_32 hn ho) k (by omega)
      by_cases c : de n o / 2 ^ k % 2 = 1
      · rw [if_pos (hb.mpr c), if_pos c, i1, nI_add, nI_add]
      · rw [if_neg (fun q => c (hb.mp q)), if_neg c, i0, nI_add, Nat.add_zero, nI_1]) n 0 0 (laid, wd, l) xF (by omega) (xF_ge (by omega)) hL
  refine ⟨t'.1, t'.2.1, t'.2.2, ?_, h1⟩
  rw [← dsM_ok n hn o ho]
  exact h
theorem x_descentsAddedUp {n lm : Nat} (hn : n ≤ 5) (hn1 : 1 ≤ n) (hlm : lm = fac n) {od : Nat → Int32} {o : Nat} (ho : o < fac n) (hod : od o = nI (de n o)) : F_X1_descentsAddedUp lm (nI n) od (nI o) = some (nI (dsu n o)) := by
  have hf5 := fac_le hn
  have h := loopN (fun f k s => F_X1_descentsAddedUp_4 lm (nI n) od (nI o) f (nI s) (nI k)) (n - 1) (fun s => some (nI s)) (fun k s => if de n o / 2 ^ k % 2 = 1 then s + (k + 1) else s)
    (fun f s => by show F_X1_descentsAddedUp_4 _ _ _ _ _ _ _ = _; rw [E_X1_descentsAddedUp_4, i1, pk_sub hn1, ifLe (by omega) (by omega) (by omega)])
    (fun f k s hk => by
      show F_X1_descentsAddedUp_4 _ _ _ _ _ _ _ = F_X1_descentsAddedUp_4 _ _ _ _ _ (nI (if _ then _ else _)) _
      have hb := sh_bit (de n o) (de_32 hn ho) k (by omega)
      rw [E_X1_descentsAddedUp_4, i1, pk_sub hn1, ifNle (by omega) (by omega) (by omega), xgI (by omega) (by omega), nI_clamp (by omega), hod, ← i1]
      by_cases c : de n o / 2 ^ k % 2 = 1
      · rw [if_pos (hb.mpr c), if_pos c, i1, nI_add, nI_add]
      · rw [if_neg (fun q => c (hb.mp q)), if_neg c, nI_1]) (n - 1) 0 0 xF (by omega) (xF_ge (by omega))
  exact h
/-! rings -/
def rgX (n o : Nat) (q : Nat × Nat) : Nat × Nat := (q.1 ||| 2 ^ q.2, lt n o q.2 - 1)
def rgI (n o : Nat) (u k : Nat) : Nat := (itr (fun _ q => rgX n o q) n 0 (u, k)).1
def rgS (n o k : Nat) (q : Nat × Nat) : Nat × Nat := (rgI n o q.1 k, if q.1 / 2 ^ k % 2 = 0 then q.2 + 1 else q.2)
def rgA (n o k : Nat) : Nat × Nat := itr (rgS n o) k 0 (0, 0)
def rg (n o : Nat) : Nat := (rgA n o n).2
def rgT (n o k j : Nat) : Nat × Nat := itr (fun _ q => rgX n o q) j 0 ((rgA n o k).1, k)
def rgM (n o : Nat) : Nat → Nat → Nat → Option Nat
  | 0, _, _ => none
  | f + 1, u, p => if u / 2 ^ p % 2 = 0 then rgM n o f (u ||| 2 ^ p) (lt n o p - 1) else some u
theorem rgM_ok : ∀ n, n ≤ 5 → ∀ o, o < fac n → ∀ k, k < n → rgM n o 7 (rgA n o k).1 k = some (rgA n o (k + 1)).1 ∧ (rgA n o k).1 < 64 := by decide +kernel
theorem rgT_ok : ∀ n, n ≤ 5 → ∀ o, o < fac n → ∀ k, k < n → ∀ j, j ≤ n → (rgT n o k j).2 < n ∧ (rgT n o k j).1 < 64 := by decide +kernel
theorem rgA_s (n o k : Nat) : rgA n o (k + 1) = rgS n o k (rgA n o k) := by
  unfold rgA
  rw [itr_add (rgS n o) k 1 0 (0, 0), Nat.zero_add]
  rfl
theorem rgT_s (n o k j : Nat) : rgT n o k (j + 1) = rgX n o (rgT n o k j) := by
  unfold rgT
  rw [itr_add (fun _ q => rgX n o q) j 1 0 _, Nat.zero_add]
  rfl
theorem x_rings35 {n ll : Nat} (hn : n ≤ 5) (hn1 : 1 ≤ n) (hll : ll = fac n * n) {ol : Nat → Int32} {o : Nat} (ho : o < fac n) (hol : ∀ k, k < n → ol (o * n + k) = nI (lt n o k)) (κ : Int32 → Int32 → Int32 → Option Int32) {k : Nat} (hk : k < n) (r : Nat) : ∀ d j f, j + d = n → d < f →
    F_X1_ringsOf_35 ll (nI n) ol (nI o) κ f (nI (rgT n o k j).1) (nI r) (nI k) (nI (rgT n o k j).2) (nI j) = κ (nI (rgT n o k n).1) (nI r) (nI (k + 1)) := by
  intro d
  induction d with
  | zero =>
    intro j f hj hf
    obtain ⟨f, rfl⟩ : ∃ g, f = g + 1 := ⟨f - 1, by omega⟩
    obtain rfl : j = n := by omega
    rw [E_X1_ringsOf_35, ifLe (by omega) (by omega) (by omega), nI_1]
  | succ d ih =>
    intro j f hj hf
    obtain ⟨f, rfl⟩ : ∃ g, f = g + 1 := ⟨f - 1, by omega⟩
    obtain ⟨q1, q2⟩ := rgT_ok n hn o ho k hk j (by omega)
    rw [E_X1_ringsOf_35, ifNle (by omega) (by omega) (by omega), bnd (x_letterAt hn hll ho q1 hol), shl1 (by omega), nI_or, i1, pk_sub (lt_ok n hn o ho _ q1).1, nI_add]
    have := ih (j + 1) f (by omega) (by omega)
    rw [rgT_s] at this
    exact this
theorem x_ringsOf {n ll : Nat} (hn : n ≤ 5) (hn1 : 1 ≤ n) (hll : ll = fac n * n) {ol : Nat → Int32} {o : Nat} (ho : o < fac n) (hol : ∀ k, k < n → ol (o * n + k) = nI (lt n o k)) : F_X1_ringsOf ll (nI n) ol (nI o) = some (nI (rg n o)) := by
  have hl : ∀ d k f, k + d = n → d < f → F_X1_ringsOf_7 ll (nI n) ol (nI o) f (nI (rgA n o k).1) (nI (rgA n o k).2) (nI k) = some (nI (rg n o)) := by
    intro d
    induction d with
    | zero =>
      intro k f hk hf
      obtain ⟨f, rfl⟩ : ∃ g, f = g + 1 := ⟨f - 1, by omega⟩
      obtain rfl : k = n := by omega
      rw [E_X1_ringsOf_7, ifLe (by omega) (by omega) (by omega)]
      rfl
    | succ d ih =>
      intro k f hk hf
      obtain ⟨f, rfl⟩ : ∃ g, f = g + 1 := ⟨f - 1, by omega⟩
      obtain ⟨-, q2⟩ := rgM_ok n hn o ho k (by omega)
      have hb := sh_bit0 _ q2 k (by omega)
      have h35 := fun r => x_rings35 hn hn1 hll ho hol (F_X1_ringsOf_7 ll (nI n) ol (nI o) f) (show k < n by omega) r n 0 xF (by omega) (xF_ge (by omega))
      have := ih (k + 1) f (by omega) (by omega)
      rw [rgA_s] at this
      rw [E_X1_ringsOf_7, ifNle (by omega) (by omega) (by omega)]
      by_cases c : (rgA n o k).1 / 2 ^ k % 2 = 0
      · rw [if_pos (hb.mpr c), nI_1]
        refine (h35 _).trans ?_
        rw [← this]
        unfold rgS
        rw [if_pos c]
        rfl
      · rw [if_neg (fun q => c (hb.mp q))]
        refine (h35 _).trans ?_
        rw [← this]
        unfold rgS
        rw [if_neg c]
        rfl
  exact hl n 0 xF (by omega) (xF_ge (by omega))
theorem m_rings37 {al : Nat → Int32} {n : Nat} (hal : al 0 = nI n) (hn : n ≤ 5) (hn1 : 1 ≤ n) {o : Nat} (ho : o < fac n) (κ : Int32 → Int32 → Int32 → Int32 → (Nat → Int32) → (Nat → Int32) → Option (Int32 × Int32 × (Nat → Int32) × (Nat → Int32))) (r k : Nat) :
    ∀ g u p res f (t : MT), rgM n o g u p = some res → g ≤ f → p < n → u < 64 → LK t.1 t.2.2 → ∃ t' : MT, F_X6_rings_37 al (nI o) κ f (nI u) (nI r) (nI k) (nI p) t.1 t.2.1 t.2.2 = κ (nI res) (nI r) (nI (k + 1)) t'.1 t'.2.1 t'.2.2 ∧ LK t'.1 t'.2.2 := by
  intro g
  induction g with
  | zero => intro u p res f t h; cases h
  | succ g ih =>
    intro u p res f t h hf hp hu hL
    obtain ⟨f, rfl⟩ : ∃ g, f = g + 1 := ⟨f - 1, by omega⟩
    have hb := sh_bit0 u hu p (by omega)
    unfold rgM at h
    rw [E_X6_rings_37]
    by_cases c : u / 2 ^ p % 2 = 0
    · rw [if_pos c] at h
      obtain ⟨w1, l1, e1, e2, e3⟩ := m_at (wd := t.2.1) hal hn hL ho hp
      obtain ⟨a1, b1⟩ := lt_ok n hn o ho p hp
      rw [if_pos (hb.mpr c), bnd e1]
      dsimp only
      rw [shl1 (by omega), nI_or, i1, pk_sub a1]
      have hp2 : 2 ^ p < 2 ^ 6 := Nat.pow_lt_pow_right (by omega) (by omega)
      exact ih (u ||| 2 ^ p) (lt n o p - 1) res f (nI n, w1, l1) h (by omega) (by omega) (Nat.or_lt_two_pow (n := 6) hu hp2) (e2.LK hn)
    · rw [if_neg c] at h
      obtain rfl := Option.some.inj h
      rw [if_neg (fun q => c (hb.mp q)), nI_1]
      exact ⟨t, rfl, hL⟩
theorem m_rings {al : Nat → Int32} {n : Nat} (hal : al 0 = nI n) (hn : n ≤ 5) (hn1 : 1 ≤ n) {laid : Int32} {wd l : Nat → Int32} (hL : LK laid l) {o : Nat} (ho : o < fac n) :
    ∃ laid' wd' l', F_X6_rings al (nI o) laid wd l = some (nI (rg n o), laid', wd', l') ∧ LK laid' l' := by
  have hl : ∀ d k f (t : MT), k + d = n → d < f → LK t.1 t.2.2 → ∃ t' : MT, F_X6_rings_7 al (nI o) f (nI (rgA n o k).1) (nI (rgA n o k).2) (nI k) t.1 t.2.1 t.2.2 = some (nI (rg n o), t'.1, t'.2.1, t'.2.2) ∧ LK t'.1 t'.2.2 := by
    intro d
    induction d with
    | zero =>
      intro k f t hk hf hL
      obtain ⟨f, rfl⟩ : ∃ g, f = g + 1 := ⟨f - 1, by omega⟩
      obtain rfl : k = n := by omega
      rw [E_X6_rings_7, bnd (m_n hal), ifLe (by omega) (by omega) (by omega)]
      exact ⟨t, rfl, hL⟩
    | succ d ih =>
      intro k f t hk hf hL
      obtain ⟨f, rfl⟩ : ∃ g, f = g + 1 := ⟨f - 1, by omega⟩
      obtain ⟨q1, q2⟩ := rgM_ok n hn o ho k (by omega)
      have hb := sh_bit0 _ q2 k (by omega)
      have h37 := fun r => m_rings37 hal hn hn1 ho (F_X6_rings_7 al (nI o) f) r k 7 _ _ _ xF t q1 (by unfold xF; omega) (by omega) q2 hL
      have e2 : (rgA n o (k + 1)).2 = if (rgA n o k).1 / 2 ^ k % 2 = 0 then (rgA n o k).2 + 1 else (rgA n o k).2 := by rw [rgA_s]; rfl
      rw [E_X6_rings_7, bnd (m_n hal), ifNle (by omega) (by omega) (by omega)]
      by_cases c : (rgA n o k).1 / 2 ^ k % 2 = 0
      · rw [if_pos (hb.mpr c), nI_1]
        rw [if_pos c] at e2
        obtain ⟨t', e3, e4⟩ := h37 ((rgA n o k).2 + 1)
        rw [e3, ← e2]
        exact ih (k + 1) f t' (by omega) (by omega) e4
      · rw [if_neg (fun q => c (hb.mp q)), i0, nI_add, Nat.add_zero]
        rw [if_neg c] at e2
        obtain ⟨t', e3, e4⟩ := h37 (rgA n o k).2
        rw [e3, ← e2]
        exact ih (k + 1) f t' (by omega) (by omega) e4
  obtain ⟨t', h, h1⟩ := hl n 0 xF (laid, wd, l) (by omega) (xF_ge (by omega)) hL
  exact ⟨t'.1, t'.2.1, t'.2.2, h, h1⟩
