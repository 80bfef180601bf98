/-! the two answer alike: begin, undo -/
theorem xleI {α : Type} {a N : Nat} (h : a ≤ N) (k : Option α) : xle a N k = k := if_pos h
theorem xeqI {α : Type} (a : Int32) (k : Option α) : xeq a a k = k := if_pos rfl
theorem x_ordersH {k : Nat} (hk : k ≤ 5) : F_X5_ordersWithH (nI k) = some () := by
  unfold F_X5_ordersWithH
  rw [xgI (by omega) (by omega)]
theorem x_ordersM {k N : Nat} (hk : k ≤ 5) (hk1 : 1 ≤ k) (hN : 11 + cost k ≤ N) : ∃ od op oi ov of_ ol om ow ex, F_X5_ordersWithM N (nI k) = some (fac k, 2 ^ (k - 1), fac k * k, fac k * fac k, k, fac k * (k - 1), nI k, nI (fac k), nI (2 ^ (k - 1)), od, op, oi, ov, of_, ol, om, ow, ex) ∧ TB k (fac k) (2 ^ (k - 1)) (fac k * k) (fac k * fac k) k (nI k) (nI (fac k)) (nI (2 ^ (k - 1))) od op oi ov of_ ol om := by
  obtain ⟨od, op, oi, ov, of_, ol, om, ow, ex, e, h⟩ := x_init (N := N - 11) hk hk1 (by omega)
  refine ⟨od, op, oi, ov, of_, ol, om, ow, ex, ?_, h⟩
  unfold F_X5_ordersWithM
  rw [xgI (by omega) (by omega), xleI (by omega), bnd e]
theorem in15 {k : Nat} (hk1 : 1 ≤ k) (hk : k ≤ 5) : F_X5_isWithin (nI k) (1 : Int32) (5 : Int32) = some 1 := isW_t (nI_le (a := 1) hk1 (by omega)) (nI_le (b := 5) hk (by omega))
def z3 (s : Nat → Nat → Int32) : Nat → Nat → Int32 := itr (fun p s => va_up s p (fun j => if 0 ≤ j ∧ j < 0 + 120 then 0 else s p j)) 3 0 s
theorem z3_0 (s : Nat → Nat → Int32) {j o : Nat} (hj : j < 3) (ho : o < 120) : z3 s j o = 0 := by
  match j, hj with
  | 0, _ => simp [z3, itr, va_up, ho]
  | 1, _ => simp [z3, itr, va_up, ho]
  | 2, _ => simp [z3, itr, va_up, ho]
theorem z3_RS {k : Nat} (hk1 : 1 ≤ k) (hk : k ≤ 5) (s : Nat → Nat → Int32) (al : Nat → Int32) : RS k (z3 s) (upd (fun j => if j < 364 then 0 else al j) 0 (nI k)) := by
  refine ⟨hk1, hk, pk_us, fun j o hj ho => ?_⟩
  rw [z3_0 s hj ho, pk_un (by omega)]
  refine ⟨?_, fun _ => rfl, by decide, by decide⟩
  show (if _ then _ else _) = _
  rw [if_pos (by omega)]
theorem m_begin21 {k : Nat} (hk : k ≤ 5) (hlong : Int32) (al mh : Nat → Int32) : F_X6_begin_21 (nI k) xF (0 : Int32) hlong al mh = some (nI (fac k), hlong, upd (fun j => if j < 364 then 0 else al j) 0 (nI k), mh) := by
  have h := loopN (fun f i v => F_X6_begin_21 (nI k) f (nI i) hlong v mh) 364 (fun v => some (nI (fac k), hlong, upd v 0 (nI k), mh)) (fun i v => upd v i 0)
    (fun f v => by
      show F_X6_begin_21 _ _ _ _ _ _ = _
      rw [E_X6_begin_21, show (364 : Int32) = nI 364 from rfl, ifLe (by omega) (by omega) (by omega), cl0, bnd (m_orders (al := upd v 0 (nI k)) pk_us hk)])
    (fun f i v hi => by
      show F_X6_begin_21 _ _ _ _ _ _ = F_X6_begin_21 _ _ _ _ _ _
      rw [E_X6_begin_21, show (364 : Int32) = nI 364 from rfl, ifNle (by omega) (by omega) (by omega), xgI (by omega) (by omega), nI_1, nI_clamp (by omega)]) 364 0 al xF (by omega) (xF_ge (by omega))
  rw [itr_fillI (fun _ => 0)] at h
  simp only [Nat.zero_le, true_and, Nat.zero_add] at h
  exact h
theorem m_begin {k : Nat} (hk1 : 1 ≤ k) (hk : k ≤ 5) {hlong hlong' : Int32} {al mh mh' : Nat → Int32} (e : F_X6_record al hlong mh = some (hlong', mh')) : F_X6_begin (nI k) hlong al mh = some (nI (fac k), hlong', upd (fun j => if j < 364 then 0 else al j) 0 (nI k), mh') := by
  unfold F_X6_begin
  rw [m_in' (lo := 1) (hi := 5) 1 5 rfl rfl, bnd (in15 hk1 hk), if_neg n10, bnd e]
  exact m_begin21 hk hlong' al mh'

/-! beginC -/
theorem x_beginC39 (κ : Int32 → (Nat → Nat → Int32) → Int32 → Int32 → (Nat → Int32) → (Nat → Nat → Int32) → Option (Int32 × (Nat → Nat → Int32) × Int32 × Int32 × (Nat → Int32) × (Nat → Nat → Int32))) {p : Nat} (hp : p < 3) (s : Nat → Nat → Int32) (hm hx : Int32) (hl : Nat → Int32) (hf : Nat → Nat → Int32) : F_X5_beginC_39 κ xF (nI p) (0 : Int32) s hm hx hl hf = κ (nI (p + 1)) (va_up s p (fun j => if 0 ≤ j ∧ j < 0 + 120 then 0 else s p j)) hm hx hl hf := by
  have h := loopN (fun f i s => F_X5_beginC_39 κ f (nI p) (nI i) s hm hx hl hf) 120 (fun s => κ (nI (p + 1)) s hm hx hl hf) (fun i s => va_up s p (upd (s p) i 0))
    (fun f s => by
      show F_X5_beginC_39 _ _ _ _ _ _ _ _ _ = _
      rw [E_X5_beginC_39, i120, ifLe (by omega) (by omega) (by omega), nI_1])
    (fun f i s hi => by
      show F_X5_beginC_39 _ _ _ _ _ _ _ _ _ = F_X5_beginC_39 _ _ _ _ _ _ _ _ _
      rw [E_X5_beginC_39, i120, ifNle (by omega) (by omega) (by omega), xgI hp (by omega), xgI (by omega) (by omega), nI_1, nI_clamp (by omega), nI_clamp (by omega)]) 120 0 s xF (by omega) (xF_ge (by omega))
  rw [itr_row (fun _ => 0)] at h
  exact h
theorem x_beginC32 (fm p1 : Int32) (s : Nat → Nat → Int32) (hm hx : Int32) (hl : Nat → Int32) (hf : Nat → Nat → Int32) : F_X5_beginC_32 fm p1 xF (0 : Int32) s hm hx hl hf = (F_X5_ordersWithH p1).bind fun _ => some (fm, (z3 s), hm, hx, hl, hf) := by
  have h := loopN (fun f p s => F_X5_beginC_32 fm p1 f (nI p) s hm hx hl hf) 3 (fun s => (F_X5_ordersWithH p1).bind fun _ => some (fm, s, hm, hx, hl, hf)) (fun p s => va_up s p (fun j => if 0 ≤ j ∧ j < 0 + 120 then 0 else s p j))
    (fun f s => by
      show F_X5_beginC_32 _ _ _ _ _ _ _ _ _ = _
      rw [E_X5_beginC_32, i3, ifLe (by omega) (by omega) (by omega)])
    (fun f p s hp => by
      show F_X5_beginC_32 _ _ _ _ _ _ _ _ _ = F_X5_beginC_32 _ _ _ _ _ _ _ _ _
      rw [E_X5_beginC_32, i3, ifNle (by omega) (by omega) (by omega), x_beginC39 _ hp]) 3 0 s xF (by omega) (xF_ge (by omega))
  exact h

/-! beginH -/
theorem x_beginH39 (κ : Int32 → (Nat → Nat → Int32) → Int32 → Int32 → (Nat → Int32) → (Nat → Nat → Int32) → Option (Int32 × (Nat → Nat → Int32) × Int32 × Int32 × (Nat → Int32) × (Nat → Nat → Int32))) {p : Nat} (hp : p < 3) (s : Nat → Nat → Int32) (hm hx : Int32) (hl : Nat → Int32) (hf : Nat → Nat → Int32) : F_X5_beginH_39 κ xF (nI p) (0 : Int32) s hm hx hl hf = κ (nI (p + 1)) (va_up s p (fun j => if 0 ≤ j ∧ j < 0 + 120 then 0 else s p j)) hm hx hl hf := by
  have h := loopN (fun f i s => F_X5_beginH_39 κ f (nI p) (nI i) s hm hx hl hf) 120 (fun s => κ (nI (p + 1)) s hm hx hl hf) (fun i s => va_up s p (upd (s p) i 0))
    (fun f s => by
      show F_X5_beginH_39 _ _ _ _ _ _ _ _ _ = _
      rw [E_X5_beginH_39, i120, ifLe (by omega) (by omega) (by omega), nI_1])
    (fun f i s hi => by
      show F_X5_beginH_39 _ _ _ _ _ _ _ _ _ = F_X5_beginH_39 _ _ _ _ _ _ _ _ _
      rw [E_X5_beginH_39, i120, ifNle (by omega) (by omega) (by omega), xgI hp (by omega), xgI (by omega) (by omega), nI_1, nI_clamp (by omega), nI_clamp (by omega)]) 120 0 s xF (by omega) (xF_ge (by omega))
  rw [itr_row (fun _ => 0)] at h
  exact h
theorem x_beginH32 (fm p1 : Int32) (s : Nat → Nat → Int32) (hm hx : Int32) (hl : Nat → Int32) (hf : Nat → Nat → Int32) : F_X5_beginH_32 fm p1 xF (0 : Int32) s hm hx hl hf = (F_X5_ordersWithH p1).bind fun _ => some (fm, (z3 s), hm, hx, hl, hf) := by
  have h := loopN (fun f p s => F_X5_beginH_32 fm p1 f (nI p) s hm hx hl hf) 3 (fun s => (F_X5_ordersWithH p1).bind fun _ => some (fm, s, hm, hx, hl, hf)) (fun p s => va_up s p (fun j => if 0 ≤ j ∧ j < 0 + 120 then 0 else s p j))
    (fun f s => by
      show F_X5_beginH_32 _ _ _ _ _ _ _ _ _ = _
      rw [E_X5_beginH_32, i3, ifLe (by omega) (by omega) (by omega)])
    (fun f p s hp => by
      show F_X5_beginH_32 _ _ _ _ _ _ _ _ _ = F_X5_beginH_32 _ _ _ _ _ _ _ _ _
      rw [E_X5_beginH_32, i3, ifNle (by omega) (by omega) (by omega), x_beginH39 _ hp]) 3 0 s xF (by omega) (xF_ge (by omega))
  exact h

/-! beginM -/
theorem x_beginM39 (κ : Int32 → (Nat → Nat → Int32) → Int32 → Int32 → (Nat → Int32) → (Nat → Nat → Int32) → Option (Int32 × Nat × Nat × Nat × Nat × Nat × Nat × (Nat → Nat → Int32) × Int32 × Int32 × (Nat → Int32) × (Nat → Nat → Int32) × Int32 × Int32 × Int32 × (Nat → Int32) × (Nat → Int32) × (Nat → Int32) × (Nat → Int32) × (Nat → Int32) × (Nat → Int32) × (Nat → Int32) × (Nat → Int32) × (Nat → Int32))) {p : Nat} (hp : p < 3) (s : Nat → Nat → Int32) (hm hx : Int32) (hl : Nat → Int32) (hf : Nat → Nat → Int32) : F_X5_beginM_39 κ xF (nI p) (0 : Int32) s hm hx hl hf = κ (nI (p + 1)) (va_up s p (fun j => if 0 ≤ j ∧ j < 0 + 120 then 0 else s p j)) hm hx hl hf := by
  have h := loopN (fun f i s => F_X5_beginM_39 κ f (nI p) (nI i) s hm hx hl hf) 120 (fun s => κ (nI (p + 1)) s hm hx hl hf) (fun i s => va_up s p (upd (s p) i 0))
    (fun f s => by
      show F_X5_beginM_39 _ _ _ _ _ _ _ _ _ = _
      rw [E_X5_beginM_39, i120, ifLe (by omega) (by omega) (by omega), nI_1])
    (fun f i s hi => by
      show F_X5_beginM_39 _ _ _ _ _ _ _ _ _ = F_X5_beginM_39 _ _ _ _ _ _ _ _ _
      rw [E_X5_beginM_39, i120, ifNle (by omega) (by omega) (by omega), xgI hp (by omega), xgI (by omega) (by omega), nI_1, nI_clamp (by omega), nI_clamp (by omega)]) 120 0 s xF (by omega) (xF_ge (by omega))
  rw [itr_row (fun _ => 0)] at h
  exact h
theorem x_beginM32 (N : Nat) (p1 : Int32) (s : Nat → Nat → Int32) (hm hx : Int32) (hl : Nat → Int32) (hf : Nat → Nat → Int32) : F_X5_beginM_32 N p1 xF (0 : Int32) s hm hx hl hf = (F_X5_ordersWithM (N - (0)) p1).bind fun q2 => some (q2.2.2.2.2.2.2.2.1, q2.1, q2.2.1, q2.2.2.1, q2.2.2.2.1, q2.2.2.2.2.1, q2.2.2.2.2.2.1, (z3 s), hm, hx, hl, hf, q2.2.2.2.2.2.2.1, q2.2.2.2.2.2.2.2.1, q2.2.2.2.2.2.2.2.2.1, q2.2.2.2.2.2.2.2.2.2.1, q2.2.2.2.2.2.2.2.2.2.2.1, q2.2.2.2.2.2.2.2.2.2.2.2.1, q2.2.2.2.2.2.2.2.2.2.2.2.2.1, q2.2.2.2.2.2.2.2.2.2.2.2.2.2.1, q2.2.2.2.2.2.2.2.2.2.2.2.2.2.2.1, q2.2.2.2.2.2.2.2.2.2.2.2.2.2.2.2.1, q2.2.2.2.2.2.2.2.2.2.2.2.2.2.2.2.2.1, q2.2.2.2.2.2.2.2.2.2.2.2.2.2.2.2.2.2) := by
  have h := loopN (fun f p s => F_X5_beginM_32 N p1 f (nI p) s hm hx hl hf) 3 (fun s => (F_X5_ordersWithM (N - (0)) p1).bind fun q2 => some (q2.2.2.2.2.2.2.2.1, q2.1, q2.2.1, q2.2.2.1, q2.2.2.2.1, q2.2.2.2.2.1, q2.2.2.2.2.2.1, s, hm, hx, hl, hf, q2.2.2.2.2.2.2.1, q2.2.2.2.2.2.2.2.1, q2.2.2.2.2.2.2.2.2.1, q2.2.2.2.2.2.2.2.2.2.1, q2.2.2.2.2.2.2.2.2.2.2.1, q2.2.2.2.2.2.2.2.2.2.2.2.1, q2.2.2.2.2.2.2.2.2.2.2.2.2.1, q2.2.2.2.2.2.2.2.2.2.2.2.2.2.1, q2.2.2.2.2.2.2.2.2.2.2.2.2.2.2.1, q2.2.2.2.2.2.2.2.2.2.2.2.2.2.2.2.1, q2.2.2.2.2.2.2.2.2.2.2.2.2.2.2.2.2.1, q2.2.2.2.2.2.2.2.2.2.2.2.2.2.2.2.2.2)) (fun p s => va_up s p (fun j => if 0 ≤ j ∧ j < 0 + 120 then 0 else s p j))
    (fun f s => by
      show F_X5_beginM_32 _ _ _ _ _ _ _ _ _ = _
      rw [E_X5_beginM_32, i3, ifLe (by omega) (by omega) (by omega)])
    (fun f p s hp => by
      show F_X5_beginM_32 _ _ _ _ _ _ _ _ _ = F_X5_beginM_32 _ _ _ _ _ _ _ _ _
      rw [E_X5_beginM_32, i3, ifNle (by omega) (by omega) (by omega), x_beginM39 _ hp]) 3 0 s xF (by omega) (xF_ge (by omega))
  exact h

section AH
variable {n : Nat} {s : Nat → Nat → Int32} {al : Nat → Int32} {hm hx : Int32} {hl : Nat → Int32} {hf : Nat → Nat → Int32} {hlong : Int32} {mh : Nat → Int32}
theorem ag_beginX {p1 : Int32} (h : F_X5_isWithin p1 1 5 = some 0) (fn : Int32) : F_X5_beginX fn p1 s hm hx hl hf = some (-10000001, s, hm, hx, hl, hf) ∧ F_X6_begin p1 hlong al mh = some (-10000001, hlong, al, mh) := by
  unfold F_X5_beginX F_X6_begin
  rw [m_in' (lo := 1) (hi := 5) 1 5 rfl rfl, bnd h, bnd h, if_pos rfl, if_pos rfl]
  exact ⟨rfl, rfl⟩
theorem ag_beginC (hS : RS n s al) (hR : RH hm hx hl hf hlong mh) : ∃ r s' hm' hx' hl' hf' hlong' al' mh', F_X5_beginC (nI n) (nI (fac n)) (nI n) s hm hx hl hf = some (r, s', hm', hx', hl', hf') ∧ F_X6_begin (nI n) hlong al mh = some (r, hlong', al', mh') ∧ RS n s' al' ∧ RH hm' hx' hl' hf' hlong' mh' := by
  obtain ⟨hm', hx', hl', hf', hlong', mh', e1, e2, e3⟩ := push hS hR
  refine ⟨nI (fac n), z3 s, hm', hx', hl', hf', hlong', _, mh', ?_, m_begin hS.1 hS.2.1 e2, z3_RS hS.1 hS.2.1 s al, e3⟩
  unfold F_X5_beginC
  rw [bnd (in15 hS.1 hS.2.1), if_neg n10, bnd e1, x_beginC32, bnd (x_ordersH hS.2.1)]
theorem ag_beginH (hS : RS n s al) (hR : RH hm hx hl hf hlong mh) {k : Nat} (hk1 : 1 ≤ k) (hk : k ≤ 5) : ∃ r s' hm' hx' hl' hf' hlong' al' mh', F_X5_beginH (nI n) (nI (fac k)) (nI k) s hm hx hl hf = some (r, s', hm', hx', hl', hf') ∧ F_X6_begin (nI k) hlong al mh = some (r, hlong', al', mh') ∧ RS k s' al' ∧ RH hm' hx' hl' hf' hlong' mh' := by
  obtain ⟨hm', hx', hl', hf', hlong', mh', e1, e2, e3⟩ := push hS hR
  refine ⟨nI (fac k), z3 s, hm', hx', hl', hf', hlong', _, mh', ?_, m_begin hk1 hk e2, z3_RS hk1 hk s al, e3⟩
  unfold F_X5_beginH
  rw [bnd (in15 hk1 hk), if_neg n10, bnd e1, x_beginH32, bnd (x_ordersH hk)]
theorem ag_beginM (hS : RS n s al) (hR : RH hm hx hl hf hlong mh) {k N : Nat} (hk1 : 1 ≤ k) (hk : k ≤ 5) (hN : 11 + cost k ≤ N) : ∃ r s' hm' hx' hl' hf' hlong' al' mh' od op oi ov of_ ol om ow ex, F_X5_beginM N (nI n) (nI k) s hm hx hl hf = some (r, fac k, 2 ^ (k - 1), fac k * k, fac k * fac k, k, fac k * (k - 1), s', hm', hx', hl', hf', nI k, nI (fac k), nI (2 ^ (k - 1)), od, op, oi, ov, of_, ol, om, ow, ex) ∧ F_X6_begin (nI k) hlong al mh = some (r, hlong', al', mh') ∧ RS k s' al' ∧ RH hm' hx' hl' hf' hlong' mh' ∧ TB k (fac k) (2 ^ (k - 1)) (fac k * k) (fac k * fac k) k (nI k) (nI (fac k)) (nI (2 ^ (k - 1))) od op oi ov of_ ol om := by
  obtain ⟨hm', hx', hl', hf', hlong', mh', e1, e2, e3⟩ := push hS hR
  obtain ⟨od, op, oi, ov, of_, ol, om, ow, ex, e, h⟩ := x_ordersM (N := N - 0) hk hk1 (by omega)
  refine ⟨nI (fac k), z3 s, hm', hx', hl', hf', hlong', _, mh', od, op, oi, ov, of_, ol, om, ow, ex, ?_, m_begin hk1 hk e2, z3_RS hk1 hk s al, e3, h⟩
  unfold F_X5_beginM
  rw [bnd (in15 hk1 hk), if_neg n10, bnd e1, x_beginM32, bnd e]
/-! undo -/
theorem ag_undoX (hR : RH hm hx hl hf hlong mh) (h0 : hm = 0) : F_X5_undoX hl hf s hm hx = some (-10000002, s, hm, hx) ∧ F_X6_undo mh hlong al = some (-10000002, hlong, al) := by
  obtain ⟨h, x, hh, hx4, rfl, rfl, rfl, hi⟩ := hR
  unfold F_X5_undoX F_X6_undo
  rw [if_pos h0, if_pos h0]
  exact ⟨rfl, rfl⟩
def tkB (x : Nat) (hf : Nat → Nat → Int32) (s : Nat → Nat → Int32) : Nat → Nat → Int32 := itr (fun i s => va_up s i (va_cpy (hf x) (s i) (i * 120) 0 120)) 3 0 s
theorem tkB_at (x : Nat) (hf s : Nat → Nat → Int32) {j o : Nat} (hj : j < 3) (ho : o < 120) : tkB x hf s j o = hf x (120 * j + o) := by
  match j, hj with
  | 0, _ => simp [tkB, itr, va_up, va_cpy, ho]
  | 1, _ => simp [tkB, itr, va_up, va_cpy, ho]
  | 2, _ => simp [tkB, itr, va_up, va_cpy, ho]
theorem x_takeBack {h x : Nat} (h1 : 1 ≤ h) (hh : h ≤ 4) (hx : x < 4) : F_X0_takeBack hl hf s (nI h) (nI x) = some (hl ((x + 3) % 4), tkB ((x + 3) % 4) hf s, nI (h - 1), nI ((x + 3) % 4)) := by
  have hlp := loopN (fun f i s => F_X0_takeBack_26 hl hf f (nI i) s (nI (h - 1)) (nI ((x + 3) % 4))) 3 (fun s => some (hl ((x + 3) % 4), s, nI (h - 1), nI ((x + 3) % 4))) (fun i s => va_up s i (va_cpy (hf ((x + 3) % 4)) (s i) (i * 120) 0 120))
    (fun f v => by
      show F_X0_takeBack_26 _ _ _ _ _ _ _ = _
      rw [E_X0_takeBack_26, i3, ifLe (by omega) (by omega) (by omega), xgI (by omega) (by omega), nI_clamp (by omega)])
    (fun f i v hi => by
      show F_X0_takeBack_26 _ _ _ _ _ _ _ = F_X0_takeBack_26 _ _ _ _ _ _ _
      rw [E_X0_takeBack_26, i3, ifNle (by omega) (by omega) (by omega), xgI (by omega) (by omega), xgI (by omega) (by omega), i120, pk_mul, i0, xacI (by omega) (by omega) (by omega) (by omega) (by omega), nI_1, nI_clamp (by omega), nI_clamp (by omega), nI_clamp (by omega), nI_clamp (by omega), nI_clamp (by omega)]) 3 0 s xF (by omega) (xF_ge (by omega))
  unfold F_X0_takeBack
  rw [i1, pk_sub h1, i4, nI_add, pk_sub (by omega), pk_rem (by omega) (by omega) (by omega), show x + 4 - 1 = x + 3 by omega]
  exact hlp
theorem m_undo {h : Nat} (h1 : 1 ≤ h) (hh : h ≤ 4) : F_X6_undo mh (nI h) al = some (nI (h - 1), nI (h - 1), fun j => if j < 364 then mh (364 * (h - 1) + j) else al j) := by
  have hlp := loopN (fun f i v => F_X6_undo_22 mh f (nI i) (nI (h - 1)) v) 364 (fun v => some (nI (h - 1), nI (h - 1), v)) (fun i v => upd v i ((fun i => mh (364 * (h - 1) + i)) i))
    (fun f v => by
      show F_X6_undo_22 _ _ _ _ _ = _
      rw [E_X6_undo_22, show (364 : Int32) = nI 364 from rfl, ifLe (by omega) (by omega) (by omega)])
    (fun f i v hi => by
      show F_X6_undo_22 _ _ _ _ _ = F_X6_undo_22 _ _ _ _ _
      rw [E_X6_undo_22, show (364 : Int32) = nI 364 from rfl, ifNle (by omega) (by omega) (by omega), pk_mul, nI_add, xgI (by omega) (by omega), xgI (by omega) (by omega), nI_1, nI_clamp (by omega), nI_clamp (by omega)]) 364 0 al xF (by omega) (xF_ge (by omega))
  rw [itr_fillI] at hlp
  unfold F_X6_undo
  rw [if_neg (nI_ne0 (by omega) (by omega)), i1, pk_sub h1]
  refine hlp.trans ?_
  simp
theorem ag_undo (hR : RH hm hx hl hf hlong mh) (h0 : ¬ hm = 0) : ∃ k s' hm' hx' al', F_X0_takeBack hl hf s hm hx = some (nI k, s', hm', hx') ∧ F_X6_undo mh hlong al = some (hm', hm', al') ∧ RS k s' al' ∧ RH hm' hx' hl hf hm' mh := by
  obtain ⟨h, x, hh, hx4, rfl, rfl, rfl, hi⟩ := hR
  have h1 : 1 ≤ h := by
    false_or_by_contra
    exact h0 (by rw [show h = 0 by omega]; rfl)
  obtain ⟨k, q1, q2⟩ := hi 0 (by omega)
  rw [show x + 3 - 0 = x + 3 by omega] at q1 q2
  refine ⟨k, _, _, _, _, (x_takeBack h1 hh hx4).trans (by rw [q1]), m_undo h1 hh, q2.ext (fun j o hj ho => tkB_at _ _ _ hj ho) (fun k hk => ?_), h - 1, (x + 3) % 4, by omega, by omega, rfl, rfl, rfl, fun i hi2 => ?_⟩
  · show (if _ then _ else _) = _
    rw [if_pos hk, show h - 1 - 0 = h - 1 by omega]
  · have h2 := hi (i + 1) (by omega)
    rw [show ((x + 3) % 4 + 3 - i) % 4 = (x + 3 - (i + 1)) % 4 by omega, show h - 1 - 1 - i = h - 1 - (i + 1) by omega]
    exact h2
theorem x_undoC {k : Nat} (hk : k ≤ 5) {s' : Nat → Nat → Int32} {hm' hx' : Int32} (h0 : ¬ hm = 0) (e : F_X0_takeBack hl hf s hm hx = some (nI k, s', hm', hx')) : F_X5_undoC (nI k) hl hf s hm hx = some (hm', s', hm', hx') := by
  unfold F_X5_undoC
  rw [if_neg h0, bnd e, xeqI, bnd (x_ordersH hk)]
theorem x_undoH {k : Nat} (hk : k ≤ 5) {s' : Nat → Nat → Int32} {hm' hx' : Int32} (h0 : ¬ hm = 0) (e : F_X0_takeBack hl hf s hm hx = some (nI k, s', hm', hx')) : F_X5_undoH (nI k) hl hf s hm hx = some (hm', s', hm', hx') := by
  unfold F_X5_undoH
  rw [if_neg h0, bnd e, xeqI, bnd (x_ordersH hk)]
theorem x_undoM {k N : Nat} (hk1 : 1 ≤ k) (hk : k ≤ 5) (hN : 11 + cost k ≤ N) {s' : Nat → Nat → Int32} {hm' hx' : Int32} (h0 : ¬ hm = 0) (e : F_X0_takeBack hl hf s hm hx = some (nI k, s', hm', hx')) : ∃ od op oi ov of_ ol om ow ex, F_X5_undoM (nI k) N hl hf s hm hx = some (hm', fac k, 2 ^ (k - 1), fac k * k, fac k * fac k, k, fac k * (k - 1), s', hm', hx', nI k, nI (fac k), nI (2 ^ (k - 1)), od, op, oi, ov, of_, ol, om, ow, ex) ∧ TB k (fac k) (2 ^ (k - 1)) (fac k * k) (fac k * fac k) k (nI k) (nI (fac k)) (nI (2 ^ (k - 1))) od op oi ov of_ ol om := by
  obtain ⟨od, op, oi, ov, of_, ol, om, ow, ex, e1, h⟩ := x_ordersM (N := N - 0) hk hk1 (by omega)
  refine ⟨od, op, oi, ov, of_, ol, om, ow, ex, ?_, h⟩
  unfold F_X5_undoM
  rw [if_neg h0, bnd e, xeqI, bnd e1]
end AH
