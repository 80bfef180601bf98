/-! digits -/
theorem gt_def (x i : Nat) : gt x i = x / 16 ^ i % 16 := rfl
theorem gt_lt (x i : Nat) : gt x i < 16 := Nat.mod_lt _ (by decide)
theorem gt_ad {x i v : Nat} (h : gt x i + v < 16) (j : Nat) : gt (ad x i v) j = if j = i then gt x i + v else gt x j := by
  show (x + v * 16 ^ i) / 16 ^ j % 16 = _
  have hp : ∀ k, 0 < 16 ^ k := fun k => Nat.pow_pos (by decide)
  rw [gt_def] at h
  rw [gt_def, gt_def, Nat.mul_comm v]
  rcases Nat.lt_trichotomy j i with c | c | c
  · rw [if_neg (by omega)]
    obtain ⟨d, rfl⟩ : ∃ d, i = j + 1 + d := ⟨i - (j + 1), by omega⟩
    rw [show 16 ^ (j + 1 + d) * v = 16 ^ j * (16 * (16 ^ d * v)) by rw [Nat.pow_add, Nat.pow_succ, Nat.mul_assoc, Nat.mul_assoc], Nat.add_mul_div_left _ _ (hp j), Nat.add_mul_mod_self_left]
  · subst c
    rw [if_pos rfl, Nat.add_mul_div_left _ _ (hp j)]
    omega
  · rw [if_neg (by omega)]
    obtain ⟨d, rfl⟩ : ∃ d, j = i + 1 + d := ⟨j - (i + 1), by omega⟩
    rw [Nat.pow_add, Nat.pow_succ, Nat.mul_assoc, ← Nat.div_div_eq_div_mul, ← Nat.div_div_eq_div_mul, Nat.add_mul_div_left _ _ (hp i), ← Nat.div_div_eq_div_mul, ← Nat.div_div_eq_div_mul, show (x / 16 ^ i + v) / 16 = x / 16 ^ i / 16 by omega]
theorem sb_ad {x i v : Nat} (h : v ≤ gt x i) : ad (sb x i v) i v = x := by
  show x - v * 16 ^ i + v * 16 ^ i = x
  have h1 : gt x i ≤ x / 16 ^ i := Nat.mod_le _ _
  have h2 : v * 16 ^ i ≤ x := Nat.le_trans (Nat.mul_le_mul_right _ (Nat.le_trans h h1)) (Nat.div_mul_le_self _ _)
  exact Nat.sub_add_cancel h2
theorem gt_sb0 {x i v : Nat} (h : v ≤ gt x i) : gt (sb x i v) i = gt x i - v := by
  show (x - v * 16 ^ i) / 16 ^ i % 16 = x / 16 ^ i % 16 - v
  have h' : v ≤ x / 16 ^ i % 16 := h
  rw [Nat.mul_comm, Nat.sub_mul_div_of_le]
  · generalize x / 16 ^ i = y at h' ⊢
    omega
  · have h1 : gt x i ≤ x / 16 ^ i := Nat.mod_le _ _
    rw [Nat.mul_comm]
    exact Nat.le_trans (Nat.mul_le_mul_right _ (Nat.le_trans h h1)) (Nat.div_mul_le_self _ _)
theorem gt_sb {x i v : Nat} (h : v ≤ gt x i) (j : Nat) : gt (sb x i v) j = if j = i then gt x i - v else gt x j := by
  by_cases c : j = i
  · rw [if_pos c, c]; exact gt_sb0 h
  · rw [if_neg c]
    have h0 := gt_sb0 h
    have h1 := gt_lt x i
    have := gt_ad (x := sb x i v) (i := i) (v := v) (by omega) j
    rw [sb_ad h, if_neg c] at this
    exact this.symm
