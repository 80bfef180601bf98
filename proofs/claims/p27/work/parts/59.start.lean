/-! the two answer alike: begin, undo -/
theorem xleI {α : Type} {a N : Nat} (h : a ≤ N) (k : Option α) : xle a N k = k := if_pos h
theorem x_ordersH {k : Nat} (hk : k ≤ 5) : F_X5_ordersWithH (nI k) = some () := by
  unfold F_X5_ordersWithH
  rw [xgI (by omega) (by omega)]
theorem x_ordersM {k N : Nat} (hk : k ≤ 5) (hk1 : 1 ≤ k) (hN : 11 + cost k ≤ N) : ∃ od op oi ov of_ ol om ow ex, F_X5_ordersWithM N (nI k) = some (fac k, 2 ^ (k - 1), fac k * k, fac k * fac k, k, fac k * (k - 1), nI k, nI (fac k), nI (2 ^ (k - 1)), od, op, oi, ov, of_, ol, om, ow, ex) ∧ TB k (fac k) (2 ^ (k - 1)) (fac k * k) (fac k * fac k) k (nI k) (nI (fac k)) (nI (2 ^ (k - 1))) od op oi ov of_ ol om := by
  obtain ⟨od, op, oi, ov, of_, ol, om, ow, ex, e, h⟩ := x_init (N := N - 11) hk hk1 (by omega)
  refine ⟨od, op, oi, ov, of_, ol, om, ow, ex, ?_, h⟩
  unfold F_X5_ordersWithM
  rw [xgI (by omega) (by omega), xleI (by omega), bnd e]
theorem in15 {k : Nat} (hk1 : 1 ≤ k) (hk : k ≤ 5) : F_X5_isWithin (nI k) (1 : Int32) (5 : Int32) = some 1 := isW_t (nI_le (a := 1) hk1 (by omega)) (nI_le (b := 5) hk (by omega))
def z3 (s : Nat → Nat → Int32) : Nat → Nat → Int32 := itr (fun p s => va_up s p (fun j => if 0 ≤ j ∧ j < 0 + 120 then 0 else s p j)) 3 0 s
theorem z3_0 (s : Nat → Nat → Int32) {j o : Nat} (hj : j < 3) (ho : o < 120) : z3 s j o = 0 := by
  match j, hj with
  | 0, _ => simp [z3, itr, va_up, ho]
  | 1, _ => simp [z3, itr, va_up, ho]
  | 2, _ => simp [z3, itr, va_up, ho]
/-! beginC -/
theorem x_beginC39 (κ : Int32 → (Nat → Nat → Int32) → Int32 → Int32 → (Nat → Int32) → (Nat → Nat → Int32) → Option (Int32 × (Nat → Nat → Int32) × Int32 × Int32 × (Nat → Int32) × (Nat → Nat → Int32))) {p : Nat} (hp : p < 3) (s : Nat → Nat → Int32) (hm hx : Int32) (hl : Nat → Int32) (hf : Nat → Nat → Int32) : F_X5_beginC_39 κ xF (nI p) (0 : Int32) s hm hx hl hf = κ (nI (p + 1)) (va_up s p (fun j => if 0 ≤ j ∧ j < 0 + 120 then 0 else s p j)) hm hx hl hf := by
  have h := loopN (fun f i s => F_X5_beginC_39 κ f (nI p) (nI i) s hm hx hl hf) 120 (fun s => κ (nI (p + 1)) s hm hx hl hf) (fun i s => va_up s p (upd (s p) i 0))
    (fun f s => by
      show F_X5_beginC_39 _ _ _ _ _ _ _ _ _ = _
      rw [E_X5_beginC_39, i120, ifLe (by omega) (by omega) (by omega), nI_1])
    (fun f i s hi => by
      show F_X5_beginC_39 _ _ _ _ _ _ _ _ _ = F_X5_beginC_39 _ _ _ _ _ _ _ _ _
      rw [E_X5_beginC_39, i120, ifNle (by omega) (by omega) (by omega), xgI hp (by omega), xgI (by omega) (by omega), nI_1, nI_clamp (by omega), nI_clamp (by omega)]) 120 0 s xF (by omega) (xF_ge (by omega))
  rw [itr_row (fun _ => 0)] at h
  exact h
theorem x_beginC32 (fm p1 : Int32) (s : Nat → Nat → Int32) (hm hx : Int32) (hl : Nat → Int32) (hf : Nat → Nat → Int32) : F_X5_beginC_32 fm p1 xF (0 : Int32) s hm hx hl hf = (F_X5_ordersWithH p1).bind fun _ => some (fm, (z3 s), hm, hx, hl, hf) := by
  have h := loopN (fun f p s => F_X5_beginC_32 fm p1 f (nI p) s hm hx hl hf) 3 (fun s => (F_X5_ordersWithH p1).bind fun _ => some (fm, s, hm, hx, hl, hf)) (fun p s => va_up s p (fun j => if 0 ≤ j ∧ j < 0 + 120 then 0 else s p j))
    (fun f s => by
      show F_X5_beginC_32 _ _ _ _ _ _ _ _ _ = _
      rw [E_X5_beginC_32, i3, ifLe (by omega) (by omega) (by omega)])
    (fun f p s hp => by
      show F_X5_beginC_32 _ _ _ _ _ _ _ _ _ = F_X5_beginC_32 _ _ _ _ _ _ _ _ _
      rw [E_X5_beginC_32, i3, ifNle (by omega) (by omega) (by omega), x_beginC39 _ hp]) 3 0 s xF (by omega) (xF_ge (by omega))
  exact h

/-! beginH -/
/-! beginM -/
theorem x_beginM39 (κ : Int32 → (Nat → Nat → Int32) → Int32 → Int32 → (Nat → Int32) → (Nat → Nat → Int32) → Option (Int32 × Nat × Nat × Nat × Nat × Nat × Nat × (Nat → Nat → Int32) × Int32 × Int32 × (Nat → Int32) × (Nat → Nat → Int32) × Int32 × Int32 × Int32 × (Nat → Int32) × (Nat → Int32) × (Nat → Int32) × (Nat → Int32) × (Nat → Int32) × (Nat → Int32) × (Nat → Int32) × (Nat → Int32) × (Nat → Int32))) {p : Nat} (hp : p < 3) (s : Nat → Nat → Int32) (hm hx : Int32) (hl : Nat → Int32) (hf : Nat → Nat → Int32) : F_X5_beginM_39 κ xF (nI p) (0 : Int32) s hm hx hl hf = κ (nI (p + 1)) (va_up s p (fun j => if 0 ≤ j ∧ j < 0 + 120 then 0 else s p j)) hm hx hl hf := by
  have h := loopN (fun f i s => F_X5_beginM_39 κ f (nI p) (nI i) s hm hx hl hf) 120 (fun s => κ (nI (p + 1)) s hm hx hl hf) (fun i s => va_up s p (upd (s p) i 0))
    (fun f s => by
      show F_X5_beginM_39 _ _ _ _ _ _ _ _ _ = _
      rw [E_X5_beginM_39, i120, ifLe (by omega) (by omega) (by omega), nI_1])
    (fun f i s hi => by
      show F_X5_beginM_39 _ _ _ _ _ _ _ _ _ = F_X5_beginM_39 _ _ _ _ _ _ _ _ _
      rw [E_X5_beginM_39, i120, ifNle (by omega) (by omega) (by omega), xgI hp (by omega), xgI (by omega) (by omega), nI_1, nI_clamp (by omega), nI_clamp (by omega)]) 120 0 s xF (by omega) (xF_ge (by omega))
  rw [itr_row (fun _ => 0)] at h
  exact h
theorem x_beginM32 (N : Nat) (p1 : Int32) (s : Nat → Nat → Int32) (hm hx : Int32) (hl : Nat → Int32) (hf : Nat → Nat → Int32) : F_X5_beginM_32 N p1 xF (0 : Int32) s hm hx hl hf = (F_X5_ordersWithM (N - (0)) p1).bind fun q2 => some (q2.2.2.2.2.2.2.2.1, q2.1, q2.2.1, q2.2.2.1, q2.2.2.2.1, q2.2.2.2.2.1, q2.2.2.2.2.2.1, (z3 s), hm, hx, hl, hf, q2.2.2.2.2.2.2.1, q2.2.2.2.2.2.2.2.1, q2.2.2.2.2.2.2.2.2.1, q2.2.2.2.2.2.2.2.2.2.1, q2.2.2.2.2.2.2.2.2.2.2.1, q2.2.2.2.2.2.2.2.2.2.2.2.1, q2.2.2.2.2.2.2.2.2.2.2.2.2.1, q2.2.2.2.2.2.2.2.2.2.2.2.2.2.1, q2.2.2.2.2.2.2.2.2.2.2.2.2.2.2.1, q2.2.2.2.2.2.2.2.2.2.2.2.2.2.2.2.1, q2.2.2.2.2.2.2.2.2.2.2.2.2.2.2.2.2.1, q2.2.2.2.2.2.2.2.2.2.2.2.2.2.2.2.2.2) := by
  have h := loopN (fun f p s => F_X5_beginM_32 N p1 f (nI p) s hm hx hl hf) 3 (fun s => (F_X5_ordersWithM (N - (0)) p1).bind fun q2 => some (q2.2.2.2.2.2.2.2.1, q2.1, q2.2.1, q2.2.2.1, q2.2.2.2.1, q2.2.2.2.2.1, q2.2.2.2.2.2.1, s, hm, hx, hl, hf, q2.2.2.2.2.2.2.1, q2.2.2.2.2.2.2.2.1, q2.2.2.2.2.2.2.2.2.1, q2.2.2.2.2.2.2.2.2.2.1, q2.2.2.2.2.2.2.2.2.2.2.1, q2.2.2.2.2.2.2.2.2.2.2.2.1, q2.2.2.2.2.2.2.2.2.2.2.2.2.1, q2.2.2.2.2.2.2.2.2.2.2.2.2.2.1, q2.2.2.2.2.2.2.2.2.2.2.2.2.2.2.1, q2.2.2.2.2.2.2.2.2.2.2.2.2.2.2.2.1, q2.2.2.2.2.2.2.2.2.2.2.2.2.2.2.2.2.1, q2.2.2.2.2.2.2.2.2.2.2.2.2.2.2.2.2.2)) (fun p s => va_up s p (fun j => if 0 ≤ j ∧ j < 0 + 120 then 0 else s p j))
    (fun f s => by
      show F_X5_beginM_32 _ _ _ _ _ _ _ _ _ = _
      rw [E_X5_beginM_32, i3, ifLe (by omega) (by omega) (by omega)])
    (fun f p s hp => by
      show F_X5_beginM_32 _ _ _ _ _ _ _ _ _ = F_X5_beginM_32 _ _ _ _ _ _ _ _ _
      rw [E_X5_beginM_32, i3, ifNle (by omega) (by omega) (by omega), x_beginM39 _ hp]) 3 0 s xF (by omega) (xF_ge (by omega))
  exact h

section AH
variable {n : Nat} {s : Nat → Nat → Int32} {al : Nat → Int32} {hm hx : Int32} {hl : Nat → Int32} {hf : Nat → Nat → Int32} {hlong : Int32} {mh : Nat → Int32}
/-! undo -/
end AH

/-! two new objects agree -/
theorem x_ordersI {k N : Nat} (hk : k ≤ 5) (hk1 : 1 ≤ k) (hN : 11 + cost k ≤ N) : ∃ od op oi ov of_ ol om ow ex, F_X5_ordersWithI N (nI k) = some (fac k, 2 ^ (k - 1), fac k * k, fac k * fac k, k, fac k * (k - 1), nI k, nI (fac k), nI (2 ^ (k - 1)), od, op, oi, ov, of_, ol, om, ow, ex) ∧ TB k (fac k) (2 ^ (k - 1)) (fac k * k) (fac k * fac k) k (nI k) (nI (fac k)) (nI (2 ^ (k - 1))) od op oi ov of_ ol om := by
  obtain ⟨od, op, oi, ov, of_, ol, om, ow, ex, e, h⟩ := x_init (N := N - 11) hk hk1 (by omega)
  refine ⟨od, op, oi, ov, of_, ol, om, ow, ex, ?_, h⟩
  unfold F_X5_ordersWithI
  rw [xgI (by omega) (by omega), xleI (by omega), bnd e]
theorem x_start : ∃ od op oi ov of_ ol om ow ex, F_X5_init 3000 = some (fac 3, 2 ^ (3 - 1), fac 3 * 3, fac 3 * fac 3, 3, fac 3 * (3 - 1), (fun _ _ => (0 : Int32)), (fun _ => (0 : Int64)), (fun _ => (0 : Int64)), (0 : Int32), (0 : Int32), (fun _ => (0 : Int32)), (fun _ _ => (0 : Int32)), (0 : Int32), (fun _ => (0 : Int32)), (0 : Int32), (1 : Int32), (0 : Int32), (0 : Int32), (1 : Int32), (0 : Int32), (0 : Int32), (0 : Int32), (fun _ => (0 : Int32)), (1 : Int32), (1 : Int32), (1 : Int32), (-1 : Int32), (fun _ => (0 : Int32)), (fun _ => (0 : Int32)), nI 3, nI (fac 3), nI (2 ^ (3 - 1)), od, op, oi, ov, of_, ol, om, ow, ex) ∧ TB 3 (fac 3) (2 ^ (3 - 1)) (fac 3 * 3) (fac 3 * fac 3) 3 (nI 3) (nI (fac 3)) (nI (2 ^ (3 - 1))) od op oi ov of_ ol om := by
  obtain ⟨od, op, oi, ov, of_, ol, om, ow, ex, e, h⟩ := x_ordersI (k := 3) (N := 3000 - 2049) (by omega) (by omega) (by decide)
  have e' : F_X5_ordersWithI (3000 - (2049)) (3 : Int32) = _ := e
  refine ⟨od, op, oi, ov, of_, ol, om, ow, ex, ?_, h⟩
  unfold F_X5_init
  rw [xleI (by omega), xleI (by omega), xleI (by omega), xleI (by omega), xleI (by omega), xleI (by omega), bnd (show F_X0_init = some _ from rfl), xleI (by omega), xleI (by omega), bnd (show F_X2_init = some _ from rfl), xleI (by omega), xleI (by omega), bnd (show F_X4_init = some _ from rfl), xleI (by omega), xleI (by omega), bnd (show F_X3_init = some _ from rfl), bnd e']
