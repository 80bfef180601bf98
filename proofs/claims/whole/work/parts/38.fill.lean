/-! the class's tables are these -/
theorem x_withEx {n ll o p : Nat} (hn : n ≤ 5) (hll : ll = fac n * n) (ho : o < fac n) (hp : p + 1 < n) {ol : Nat → Int32} (hol : ∀ k, k < n → ol (o * n + k) = nI (lt n o k)) (ow : Nat → Int32) :
    ∃ ow', F_X1_withExchanged ll n (nI n) ol (nI o) (nI p) ow = some (nI (xc' n o p), ow') := by
  have hf5 := fac_le hn
  have h := loopN (fun f j v => F_X1_withExchanged_2 ll n (nI n) ol (nI o) (nI p) f (nI j) v) n
    (fun v => (F_X1_numberOf n (upd (upd v p (nI (lt n o (p + 1)))) (p + 1) (nI (lt n o p))) (nI n)).bind fun q6 => some (q6, upd (upd v p (nI (lt n o (p + 1)))) (p + 1) (nI (lt n o p))))
    (fun j v => upd v j (nI (lt n o j)))
    (fun f v => by
      show F_X1_withExchanged_2 _ _ _ _ _ _ _ _ _ = _
      rw [E_X1_withExchanged_2, ifLe (by omega) (by omega) (by omega), i1, nI_add, bnd (x_letterAt hn hll ho hp hol), xgI (by omega) (by omega), bnd (x_letterAt hn hll ho (by omega) hol), xgI (by omega) (by omega), nI_clamp (by omega), nI_clamp (by omega)])
    (fun f j v hj => by
      show F_X1_withExchanged_2 _ _ _ _ _ _ _ _ _ = F_X1_withExchanged_2 _ _ _ _ _ _ _ _ _
      rw [E_X1_withExchanged_2, ifNle (by omega) (by omega) (by omega), bnd (x_letterAt hn hll ho hj hol), xgI (by omega) (by omega), nI_clamp (by omega), nI_1]) n 0 ow xF (by omega) (xF_ge (by omega))
  rw [itr_fillI (fun j => nI (lt n o j))] at h
  have hw : ∀ k, k < n → (upd (upd (fun j => if 0 ≤ j ∧ j < 0 + n then nI (lt n o j) else ow j) p (nI (lt n o (p + 1)))) (p + 1) (nI (lt n o p))) k = nI (xcW n o p k) ∧ xcW n o p k < 1000 := by
    intro k hk
    have b := fun k hk => (lt_ok n hn o ho k hk).2
    unfold xcW upd
    by_cases c : k = p + 1
    · subst c
      rw [if_pos rfl, if_neg (by omega), if_pos rfl]
      exact ⟨rfl, by have := b p (by omega); omega⟩
    · rw [if_neg c]
      by_cases c2 : k = p
      · subst c2
        rw [if_pos rfl, if_pos rfl]
        exact ⟨rfl, by have := b (k + 1) (by omega); omega⟩
      · rw [if_neg c2, if_neg c2, if_neg c]
        refine ⟨?_, by have := b k hk; omega⟩
        show (if 0 ≤ k ∧ k < 0 + n then _ else _) = _
        rw [if_pos (by omega)]
  rw [bnd (x_nm (Nat.le_refl n) (by omega) hw), (xc_ok n hn o ho p (by omega)).1] at h
  unfold F_X1_withExchanged
  exact ⟨_, h⟩
theorem sh_bit : ∀ a, a < 32 → ∀ k, k < 5 → (((nI a >>> (nI k &&& 31)) &&& (1 : Int32)) = 1 ↔ a / 2 ^ k % 2 = 1) := by decide +kernel
theorem x_fd {n lm o : Nat} (hn : n ≤ 5) (hlm : lm = fac n) (ho : o < fac n) {od : Nat → Int32} (hod : od o = nI (de n o)) (hn1 : 1 ≤ n) : F_X1_firstDescent lm (nI n) od (nI o) = some (nI (fd n o)) := by
  have hf5 := fac_le hn
  have ha : de n o < 32 := by
    have h1 := (de_lt n hn o ho).1
    have h2 : 2 ^ (n - 1) ≤ 2 ^ 4 := Nat.pow_le_pow_right (by omega) (by omega)
    omega
  have hl : ∀ d k f, k + d = n - 1 → d < f → F_X1_firstDescent_2 lm (nI n) od (nI o) f (nI k) = some (nI (fdL (de n o) k d)) := by
    intro d
    induction d with
    | zero =>
      intro k f hk hf
      obtain ⟨f, rfl⟩ : ∃ g, f = g + 1 := ⟨f - 1, by omega⟩
      rw [E_X1_firstDescent_2, i1, pk_sub (by omega), ifLe (by omega) (by omega) (by omega)]
      rfl
    | succ d ih =>
      intro k f hk hf
      obtain ⟨f, rfl⟩ : ∃ g, f = g + 1 := ⟨f - 1, by omega⟩
      rw [E_X1_firstDescent_2, i1, pk_sub (by omega), ifNle (by omega) (by omega) (by omega), xgI (by omega) (by omega), nI_clamp (by omega), hod, nI_add, ← i1]
      unfold fdL
      by_cases c : de n o / 2 ^ k % 2 = 1
      · rw [if_pos c, if_pos ((sh_bit _ ha k (by omega)).mpr c)]
      · rw [if_neg c, if_neg (fun q => c ((sh_bit _ ha k (by omega)).mp q))]
        exact ih (k + 1) f (by omega) (by omega)
  unfold F_X1_firstDescent
  exact hl (n - 1) 0 xF (by omega) (xF_ge (by omega))
theorem x_times {n lp u v : Nat} (hn : n ≤ 5) (hlp : lp = fac n * fac n) (hu : u < fac n) (hv : v < fac n) (om : Nat → Int32) : F_X1_times lp (nI (fac n)) om (nI u) (nI v) = some (om (u * fac n + v)) := by
  have hf5 := fac_le hn
  have hb : u * fac n + v < fac n * fac n := by
    have := Nat.mul_le_mul_right (fac n) (show u + 1 ≤ fac n from hu)
    rw [Nat.succ_mul] at this; omega
  have hb2 : fac n * fac n ≤ 120 * 120 := Nat.mul_le_mul hf5 hf5
  unfold F_X1_times
  rw [pk_mul, nI_add, xgI (by omega) (by omega), nI_clamp (by omega)]
theorem lin {a b m : Nat} (h : a < m) {k : Nat} (hk : k < b) : a * b + k < m * b := by
  have := Nat.mul_le_mul_right b (show a + 1 ≤ m from h)
  rw [Nat.succ_mul] at this; omega
theorem lin_ne {a c b k j : Nat} (hk : k < b) (hj : j < b) (h : a ≠ c ∨ k ≠ j) : a * b + k ≠ c * b + j := by
  intro e
  have h1 : (a * b + k) / b = a := by rw [Nat.mul_comm, Nat.mul_add_div (by omega), Nat.div_eq_of_lt hk]; omega
  have h2 : (c * b + j) / b = c := by rw [Nat.mul_comm, Nat.mul_add_div (by omega), Nat.div_eq_of_lt hj]; omega
  rw [e, h2] at h1
  subst h1
  rcases h with h | h
  · exact h rfl
  · omega
section FILL
variable {n lm ll lp : Nat} {od ol : Nat → Int32}
theorem fill29 (hn : n ≤ 5) (hn1 : 1 ≤ n) (hll : ll = fac n * n) (hlp : lp = fac n * fac n) (hol : ∀ o k, o < fac n → k < n → ol (o * n + k) = nI (lt n o k)) {o : Nat} (ho : o < fac n) (κ : Int32 → Int32 → Nat → (Nat → Int32) → (Nat → Int32) → (Nat → Int32) → Option (Nat × (Nat → Int32) × (Nat → Int32) × (Nat → Int32))) (om : Nat → Int32) :
    ∀ d p f ow ex, p + d = n - 1 → d < f → (∀ q, q < p → ex (o * (n - 1) + q) = nI (xc' n o q)) →
    ∃ ow' ex', F_X1_fillProducts_29 ll lp n (nI n) (nI (fac n)) ol κ f (nI (n - 1)) (nI o) (nI p) (fac n * (n - 1)) om ow ex = κ (nI (n - 1)) (nI (o + 1)) (fac n * (n - 1)) (upd om (o * fac n) (nI o)) ow' ex' ∧ (∀ q, q < n - 1 → ex' (o * (n - 1) + q) = nI (xc' n o q)) ∧ (∀ j, j < o * (n - 1) → ex' j = ex j) := by
  have hf5 := fac_le hn
  have hb2 : fac n * fac n ≤ 120 * 120 := Nat.mul_le_mul hf5 hf5
  have hb3 : fac n * (n - 1) ≤ 120 * 4 := Nat.mul_le_mul hf5 (by omega)
  intro d
  induction d with
  | zero =>
    intro p f ow ex hp hf hex
    obtain ⟨f, rfl⟩ : ∃ g, f = g + 1 := ⟨f - 1, by omega⟩
    have hl := lin (b := fac n) ho (fac_pos hn)
    rw [E_X1_fillProducts_29, ifLe (by omega) (by omega) (by omega), pk_mul, xgI (by omega) (by omega), nI_clamp (by omega), nI_1]
    exact ⟨ow, ex, rfl, fun q hq => hex q (by omega), fun _ _ => rfl⟩
  | succ d ih =>
    intro p f ow ex hp hf hex
    obtain ⟨f, rfl⟩ : ∃ g, f = g + 1 := ⟨f - 1, by omega⟩
    have hl := lin (b := n - 1) ho (show p < n - 1 by omega)
    obtain ⟨ow', e1⟩ := x_withEx hn hll ho (show p + 1 < n by omega) (fun k hk => hol o k ho hk) ow
    rw [E_X1_fillProducts_29, ifNle (by omega) (by omega) (by omega), bnd e1, pk_mul, nI_add, xgI (by omega) (by omega), nI_clamp (by omega), nI_1]
    obtain ⟨ow2, ex2, e2, e3, e4⟩ := ih (p + 1) f ow' (upd ex (o * (n - 1) + p) (nI (xc' n o p))) (by omega) (by omega) (fun q hq => by
      unfold upd
      by_cases c : q = p
      · subst c; rw [if_pos rfl]
      · rw [if_neg (by omega)]; exact hex q (by omega))
    exact ⟨ow2, ex2, e2, e3, fun j hj => by rw [e4 j hj]; unfold upd; rw [if_neg (by omega)]⟩
theorem fill18 (hn : n ≤ 5) (hn1 : 1 ≤ n) (hll : ll = fac n * n) (hlp : lp = fac n * fac n) (hol : ∀ o k, o < fac n → k < n → ol (o * n + k) = nI (lt n o k)) :
    ∀ d o f om ow ex, o + d = fac n → d < f → (∀ a q, a < o → q < n - 1 → ex (a * (n - 1) + q) = nI (xc' n a q)) → (∀ a, a < o → om (a * fac n) = nI a) →
    ∃ om' ow' ex', F_X1_fillProducts_18 lm ll lp n (nI n) (nI (fac n)) od ol f (nI (n - 1)) (nI o) (fac n * (n - 1)) om ow ex = F_X1_fillProducts_76 lm lp (nI n) (nI (fac n)) od xF (nI (n - 1)) (1 : Int32) (fac n * (n - 1)) om' ow' ex' ∧ (∀ a q, a < fac n → q < n - 1 → ex' (a * (n - 1) + q) = nI (xc' n a q)) ∧ (∀ a, a < fac n → om' (a * fac n) = nI a) := by
  have hf5 := fac_le hn
  intro d
  induction d with
  | zero =>
    intro o f om ow ex ho hf hex hom
    obtain ⟨f, rfl⟩ : ∃ g, f = g + 1 := ⟨f - 1, by omega⟩
    obtain rfl : o = fac n := by omega
    rw [E_X1_fillProducts_18, ifLe (by omega) (by omega) (by omega)]
    exact ⟨om, ow, ex, rfl, hex, hom⟩
  | succ d ih =>
    intro o f om ow ex ho hf hex hom
    obtain ⟨f, rfl⟩ : ∃ g, f = g + 1 := ⟨f - 1, by omega⟩
    obtain ⟨ow', ex', e1, e2, e3⟩ := fill29 (ol := ol) hn hn1 hll hlp hol (show o < fac n by omega) (F_X1_fillProducts_18 lm ll lp n (nI n) (nI (fac n)) od ol f) om (n - 1) 0 xF ow ex (by omega) (xF_ge (by omega)) (fun q hq => absurd hq (by omega))
    rw [E_X1_fillProducts_18, ifNle (by omega) (by omega) (by omega), i0, e1]
    exact ih (o + 1) f _ ow' ex' (by omega) (by omega) (fun a q ha hq => by
      by_cases c : a = o
      · subst c; exact e2 q hq
      · rw [e3 _ (lin (show a < o by omega) hq)]; exact hex a q (by omega) hq) (fun a ha => by
      unfold upd
      by_cases c : a = o
      · subst c; rw [if_pos rfl]
      · rw [if_neg (fun q => by have := lin_ne (b := fac n) (k := 0) (j := 0) (fac_pos hn) (fac_pos hn) (Or.inl c); omega)]; exact hom a (by omega))
theorem fill104 (hn : n ≤ 5) (hlp : lp = fac n * fac n) {v : Nat} (hv : v < fac n) (h1 : 1 ≤ v) (κ : Int32 → Int32 → Nat → (Nat → Int32) → (Nat → Int32) → (Nat → Int32) → Option (Nat × (Nat → Int32) × (Nat → Int32) × (Nat → Int32))) (ow ex : Nat → Int32) (hex : ∀ a q, a < fac n → q < n - 1 → ex (a * (n - 1) + q) = nI (xc' n a q)) :
    ∀ d u f om, u + d = fac n → d < f → (∀ a b, a < fac n → b < v → om (a * fac n + b) = nI (mu n a b)) → (∀ a, a < u → om (a * fac n + v) = nI (mu n a v)) →
    ∃ om', F_X1_fillProducts_104 lp (nI (fac n)) κ f (nI (n - 1)) (nI v) (nI (fd n v)) (nI (xc' n v (fd n v))) (nI u) (fac n * (n - 1)) om ow ex = κ (nI (n - 1)) (nI (v + 1)) (fac n * (n - 1)) om' ow ex ∧ (∀ a b, a < fac n → b < v + 1 → om' (a * fac n + b) = nI (mu n a b)) := by
  have hf5 := fac_le hn
  have hb2 : fac n * fac n ≤ 120 * 120 := Nat.mul_le_mul hf5 hf5
  have hb3 : fac n * (n - 1) ≤ 120 * 4 := Nat.mul_le_mul hf5 (by omega)
  obtain ⟨p1, p2⟩ := mu_fd n hn v hv h1
  intro d
  induction d with
  | zero =>
    intro u f om hu hf ho hc
    obtain ⟨f, rfl⟩ : ∃ g, f = g + 1 := ⟨f - 1, by omega⟩
    rw [E_X1_fillProducts_104, ifLe (by omega) (by omega) (by omega), nI_1]
    refine ⟨om, rfl, fun a b ha hb => ?_⟩
    by_cases c : b = v
    · subst c; exact hc a (by omega)
    · exact ho a b ha (by omega)
  | succ d ih =>
    intro u f om hu hf ho hc
    obtain ⟨f, rfl⟩ : ∃ g, f = g + 1 := ⟨f - 1, by omega⟩
    have hm := mu_lt hn (show u < fac n by omega) (show xc' n v (fd n v) < fac n by omega)
    have l1 := lin (b := n - 1) hm p1
    have l2 := lin (b := fac n) (show u < fac n by omega) hv
    rw [E_X1_fillProducts_104, ifNle (by omega) (by omega) (by omega), bnd (x_times hn hlp (by omega) (by omega) om), ho u _ (by omega) p2, pk_mul, nI_add, xgI (by omega) (by omega), pk_mul, nI_add, xgI (by omega) (by omega), nI_clamp (by omega), nI_clamp (by omega), nI_1, hex _ _ hm p1, ← (mu_rec hn hv h1 (show u < fac n by omega)).1]
    refine ih (u + 1) f _ (by omega) (by omega) (fun a b ha hb => ?_) (fun a ha => ?_)
    · unfold upd; rw [if_neg (lin_ne (by omega) (by omega) (Or.inr (by omega)))]; exact ho a b ha hb
    · unfold upd
      by_cases c : a = u
      · subst c; rw [if_pos rfl]
      · rw [if_neg (lin_ne (by omega) (by omega) (Or.inl c))]; exact hc a (by omega)
theorem fill76 (hn : n ≤ 5) (hn1 : 1 ≤ n) (hlm : lm = fac n) (hlp : lp = fac n * fac n) (hod : ∀ o, o < fac n → od o = nI (de n o)) (ow ex : Nat → Int32) (hex : ∀ a q, a < fac n → q < n - 1 → ex (a * (n - 1) + q) = nI (xc' n a q)) :
    ∀ d v f om, v + d = fac n → d < f → 1 ≤ v → (∀ a b, a < fac n → b < v → om (a * fac n + b) = nI (mu n a b)) →
    ∃ om', F_X1_fillProducts_76 lm lp (nI n) (nI (fac n)) od f (nI (n - 1)) (nI v) (fac n * (n - 1)) om ow ex = some (fac n * (n - 1), om', ow, ex) ∧ (∀ a b, a < fac n → b < fac n → om' (a * fac n + b) = nI (mu n a b)) := by
  have hf5 := fac_le hn
  have hb3 : fac n * (n - 1) ≤ 120 * 4 := Nat.mul_le_mul hf5 (by omega)
  intro d
  induction d with
  | zero =>
    intro v f om hv hf h1 ho
    obtain ⟨f, rfl⟩ : ∃ g, f = g + 1 := ⟨f - 1, by omega⟩
    obtain rfl : v = fac n := by omega
    rw [E_X1_fillProducts_76, ifLe (by omega) (by omega) (by omega)]
    exact ⟨om, rfl, ho⟩
  | succ d ih =>
    intro v f om hv hf h1 ho
    obtain ⟨f, rfl⟩ : ∃ g, f = g + 1 := ⟨f - 1, by omega⟩
    obtain ⟨p1, p2⟩ := mu_fd n hn v (by omega) h1
    have l1 := lin (b := n - 1) (show v < fac n by omega) p1
    obtain ⟨om', e1, e2⟩ := fill104 hn hlp (show v < fac n by omega) h1 (F_X1_fillProducts_76 lm lp (nI n) (nI (fac n)) od f) ow ex hex (fac n) 0 xF om (by omega) (xF_ge (by omega)) ho (fun a ha => absurd ha (by omega))
    rw [E_X1_fillProducts_76, ifNle (by omega) (by omega) (by omega), bnd (x_fd hn hlm (by omega) (hod v (by omega)) hn1), pk_mul, nI_add, xgI (by omega) (by omega), nI_clamp (by omega), hex v _ (by omega) p1, i0, e1]
    exact ih (v + 1) f om' (by omega) (by omega) (by omega) e2
theorem x_fill (hn : n ≤ 5) (hn1 : 1 ≤ n) (hlm : lm = fac n) (hll : ll = fac n * n) (hlp : lp = fac n * fac n) (hod : ∀ o, o < fac n → od o = nI (de n o)) (hol : ∀ o k, o < fac n → k < n → ol (o * n + k) = nI (lt n o k)) {N : Nat} (hN : fac n * (n - 1) ≤ N) (om ow : Nat → Int32) :
    ∃ om' ow' ex', F_X1_fillProducts N lm ll lp n (nI n) (nI (fac n)) od ol om ow = some (fac n * (n - 1), om', ow', ex') ∧ (∀ a b, a < fac n → b < fac n → om' (a * fac n + b) = nI (mu n a b)) := by
  have hf5 := fac_le hn
  have hb3 : fac n * (n - 1) ≤ 120 * 4 := Nat.mul_le_mul hf5 (by omega)
  obtain ⟨om', ow', ex', e1, e2, e3⟩ := fill18 (lm := lm) (od := od) hn hn1 hll hlp hol (fac n) 0 xF om ow (fun _ => (0 : Int32)) (by omega) (xF_ge (by omega)) (fun a q ha => absurd ha (by omega)) (fun a ha => absurd ha (by omega))
  obtain ⟨om2, e4, e5⟩ := fill76 (lm := lm) hn hn1 hlm hlp hod ow' ex' e2 (fac n - 1) 1 xF om' (by have := fac_pos hn; omega) (xF_ge (by omega)) (Nat.le_refl 1) (fun a b ha hb => by
    obtain rfl : b = 0 := by omega
    rw [Nat.add_zero, e3 a ha, mu_0 n hn a ha])
  refine ⟨om2, ow', ex', ?_, e5⟩
  unfold F_X1_fillProducts xn
  rw [i1, pk_sub hn1, pk_mul, nI_clamp (by omega), if_neg (by
    rintro (h | h | h)
    · exact nI_pos (by omega) h
    · omega
    · omega)]
  exact e1.trans e4
end FILL
theorem mu_w : ∀ n, n ≤ 5 → ∀ u, u < fac n → ∀ v, v < fac n → nm n (fun k => lt n u (lt n v k - 1)) = mu n u v := by decide +kernel
