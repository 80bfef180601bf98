/-! the class's orders of n letters -/
def fiX (n o : Nat) (g : Nat → Nat) : Nat → Nat := fun t => if t = de n o then o else g t
def fi (n t : Nat) : Nat := dsc (fiX n) (fac n) (fun _ => 0) t
def TB (n lm ls ll lp ln : Nat) (fn fm fs : Int32) (od op oi ov of_ ol om : Nat → Int32) : Prop :=
  lm = fac n ∧ ls = 2 ^ (n - 1) ∧ ll = fac n * n ∧ lp = fac n * fac n ∧ ln = n ∧ fn = nI n ∧ fm = nI (fac n) ∧ fs = nI (2 ^ (n - 1)) ∧
  (∀ o, o < fac n → od o = nI (de n o) ∧ op o = nI (pe n o) ∧ oi o = nI (iv n o) ∧ ov o = nI (vi n o)) ∧ (∀ t, of_ t = nI (fi n t)) ∧ (∀ o k, o < fac n → k < n → ol (o * n + k) = nI (lt n o k)) ∧ (∀ a b, a < fac n → b < fac n → om (a * fac n + b) = nI (mu n a b))
def cost (n : Nat) : Nat := 0 + fac n + fac n + fac n + fac n + 2 ^ (n - 1) + fac n * n + fac n * fac n + n + fac n * (n - 1)
theorem x_init133 {n N : Nat} (hn : n ≤ 5) (hn1 : 1 ≤ n) (hN : cost n ≤ N) : ∀ d f od op oi ov of_ ol om ow g, d ≤ fac n → d < f →
    (∀ o, d ≤ o → o < fac n → od o = nI (de n o) ∧ op o = nI (pe n o) ∧ oi o = nI (iv n o) ∧ ov o = nI (vi n o)) → (∀ t, of_ t = nI (g t)) → (∀ o k, d ≤ o → o < fac n → k < n → ol (o * n + k) = nI (lt n o k)) →
    ∃ od' op' oi' ov' of' ol' om' ow' ex', F_X1_init_133 N f (nI d + (-1 : Int32)) (fac n) (2 ^ (n - 1)) (fac n * n) (fac n * fac n) n (nI n) (nI (fac n)) (nI (2 ^ (n - 1))) od op oi ov of_ ol om ow = some (fac n, 2 ^ (n - 1), fac n * n, fac n * fac n, n, fac n * (n - 1), nI n, nI (fac n), nI (2 ^ (n - 1)), od', op', oi', ov', of', ol', om', ow', ex') ∧
      (∀ o, o < fac n → od' o = nI (de n o) ∧ op' o = nI (pe n o) ∧ oi' o = nI (iv n o) ∧ ov' o = nI (vi n o)) ∧ (∀ t, of' t = nI (dsc (fiX n) d g t)) ∧ (∀ o k, o < fac n → k < n → ol' (o * n + k) = nI (lt n o k)) ∧ (∀ a b, a < fac n → b < fac n → om' (a * fac n + b) = nI (mu n a b)) := by
  have hf5 := fac_le hn
  intro d
  induction d with
  | zero =>
    intro f od op oi ov of_ ol om ow g hd hf h1 h2 h3
    obtain ⟨f, rfl⟩ : ∃ g, f = g + 1 := ⟨f - 1, by omega⟩
    obtain ⟨om', ow', ex', e1, e2⟩ := x_fill (n := n) (lm := fac n) (ll := fac n * n) (lp := fac n * fac n) (od := od) (ol := ol) hn hn1 rfl rfl rfl (fun o ho => (h1 o (by omega) ho).1) (fun o k ho hk => h3 o k (by omega) ho hk) (N := N - (0 + fac n + fac n + fac n + fac n + 2 ^ (n - 1) + fac n * n + fac n * fac n + n)) (by unfold cost at hN; omega) om ow
    rw [E_X1_init_133, if_pos (by decide), bnd e1]
    exact ⟨_, _, _, _, _, _, _, _, _, rfl, fun o ho => h1 o (by omega) ho, h2, fun o k ho hk => h3 o k (by omega) ho hk, e2⟩
  | succ d ih =>
    intro f od op oi ov of_ ol om ow g hd hf h1 h2 h3
    obtain ⟨f, rfl⟩ : ∃ g, f = g + 1 := ⟨f - 1, by omega⟩
    have hd2 : d < fac n := by omega
    obtain ⟨ow1, e1, e2⟩ := x_spell (ll := fac n * n) hn hn1 rfl hd2 ol ow
    have hol : ∀ k, k < n → (fun j => if d * n ≤ j ∧ j < d * n + n then nI (lt n d (j - d * n)) else ol j) (d * n + k) = nI (lt n d k) := fun k hk => by
      show (if _ then _ else _) = _
      rw [if_pos (by omega), show d * n + k - d * n = k by omega]
    obtain ⟨ow2, e3⟩ := x_describe (lm := fac n) (ll := fac n * n) (ol := fun j => if d * n ≤ j ∧ j < d * n + n then nI (lt n d (j - d * n)) else ol j) hn rfl rfl hd2 hol od op oi ov ow1 e2
    have hde := (de_lt n hn d hd2).1
    have h16 : 2 ^ (n - 1) ≤ 2 ^ 4 := Nat.pow_le_pow_right (by omega) (by omega)
    have eod : upd od d (nI (de n d)) d = nI (de n d) := by simp [upd]
    rw [E_X1_init_133, pk_m1, if_neg (nI_pos (by omega)), bnd e1, bnd e3, xgI (by omega) (by omega), nI_clamp (by omega)]
    dsimp only
    rw [eod, xgI (by omega) (by omega), nI_clamp (by omega)]
    exact ih f _ _ _ _ _ _ om ow2 (fiX n d g) (by omega) (by omega)
      (fun o q1 q2 => by
        unfold upd
        by_cases c : o = d
        · subst c; rw [if_pos rfl, if_pos rfl, if_pos rfl, if_pos rfl]; exact ⟨rfl, rfl, rfl, rfl⟩
        · rw [if_neg c, if_neg c, if_neg c, if_neg c]; exact h1 o (by omega) q2)
      (fun t => by
        unfold upd fiX
        by_cases c : t = de n d
        · rw [if_pos c, if_pos c]
        · rw [if_neg c, if_neg c]; exact h2 t)
      (fun o k q1 q2 q3 => by
        by_cases c : o = d
        · subst c; exact hol k q3
        · show (if _ then _ else _) = _
          rw [if_neg (fun q => by
            have l1 := Nat.mul_le_mul_right n (show d + 1 ≤ o by omega)
            rw [Nat.succ_mul] at l1
            omega)]
          exact h3 o k (by omega) q2 q3)
theorem xnN {α : Type} {a acc N : Nat} (h1 : acc + a ≤ N) (h2 : a ≤ 100000) (k : Option α) : xn (nI a) acc N k = k := by
  unfold xn
  rw [nI_clamp (by omega)]
  refine if_neg ?_
  rintro (h | h | h)
  · exact nI_pos (by omega) h
  · omega
  · omega
theorem fac_itr : ∀ n, n ≤ 5 → 1 ≤ n → itr (fun k a => a * k) (n - 1) 2 1 = fac n := by decide
theorem x_init {n N : Nat} (hn : n ≤ 5) (hn1 : 1 ≤ n) (hN : cost n ≤ N) :
    ∃ od op oi ov of_ ol om ow ex, F_X1_init N (nI n) = some (fac n, 2 ^ (n - 1), fac n * n, fac n * fac n, n, fac n * (n - 1), nI n, nI (fac n), nI (2 ^ (n - 1)), od, op, oi, ov, of_, ol, om, ow, ex) ∧ TB n (fac n) (2 ^ (n - 1)) (fac n * n) (fac n * fac n) n (nI n) (nI (fac n)) (nI (2 ^ (n - 1))) od op oi ov of_ ol om := by
  have hf5 := fac_le hn
  have h16 : 2 ^ (n - 1) ≤ 2 ^ 4 := Nat.pow_le_pow_right (by omega) (by omega)
  have ht0 : 0 < 2 ^ (n - 1) := Nat.two_pow_pos _
  have hb1 : fac n * n ≤ 120 * 5 := Nat.mul_le_mul hf5 hn
  have hb2 : fac n * fac n ≤ 120 * 120 := Nat.mul_le_mul hf5 hf5
  obtain ⟨od, op, oi, ov, of_, ol, om, ow, ex, e1, e2, e3, e4, e5⟩ := x_init133 hn hn1 hN (fac n) xF (fun _ => (0 : Int32)) (fun _ => (0 : Int32)) (fun _ => (0 : Int32)) (fun _ => (0 : Int32)) (fun _ => (0 : Int32)) (fun _ => (0 : Int32)) (fun _ => (0 : Int32)) (fun _ => (0 : Int32)) (fun _ => 0) (Nat.le_refl _) (xF_ge (by omega)) (fun o h1 h2 => absurd h2 (by omega)) (fun t => rfl) (fun o k h1 h2 => absurd h2 (by omega))
  refine ⟨od, op, oi, ov, of_, ol, om, ow, ex, ?_, rfl, rfl, rfl, rfl, rfl, rfl, rfl, rfl, e2, e3, e4, e5⟩
  have h := loopN (fun f k a => F_X1_init_13 N (nI n) f (nI a) (nI k) (nI n) (0 : Int32) (0 : Int32)) (n + 1) (fun a => if a = fac n then some (fac n, 2 ^ (n - 1), fac n * n, fac n * fac n, n, fac n * (n - 1), nI n, nI (fac n), nI (2 ^ (n - 1)), od, op, oi, ov, of_, ol, om, ow, ex) else F_X1_init_13 N (nI n) 1 (nI a) (nI (n + 1)) (nI n) (0 : Int32) (0 : Int32)) (fun k a => a * k)
    (fun f a => by
      show F_X1_init_13 _ _ _ _ _ _ _ _ = _
      by_cases c : a = fac n
      · rw [if_pos c]
        subst c
        unfold cost at hN
        rw [E_X1_init_13, ifLt (by omega) (by omega) (by omega), i1, pk_sub hn1, ← i1, shl1 (by omega), pk_mul, pk_mul]
        simp only [nI_clamp (show fac n < 2 ^ 31 by omega), nI_clamp (show 2 ^ (n - 1) < 2 ^ 31 by omega), nI_clamp (show fac n * n < 2 ^ 31 by omega), nI_clamp (show fac n * fac n < 2 ^ 31 by omega), nI_clamp (show n < 2 ^ 31 by omega)]
        rw [xnN (by omega) (by omega), xnN (by omega) (by omega), xnN (by omega) (by omega), xnN (by omega) (by omega), xnN (by omega) (by omega), xnN (by omega) (by omega), xnN (by omega) (by omega), xnN (by omega) (by omega), Int32.sub_eq_add_neg]
        exact e1
      · rw [if_neg c, E_X1_init_13, E_X1_init_13, ifLt (by omega) (by omega) (by omega), ifLt (by omega) (by omega) (by omega)])
    (fun f k a hk => by
      show F_X1_init_13 _ _ _ _ _ _ _ _ = F_X1_init_13 _ _ _ _ _ _ _ _
      rw [E_X1_init_13, ifNlt (by omega) (by omega) (by omega), pk_mul, nI_1]) (n - 1) 2 1 xF (by omega) (xF_ge (by omega))
  rw [fac_itr n hn hn1, if_pos rfl] at h
  unfold F_X1_init
  exact h
theorem fi_ok : ∀ n, n ≤ 5 → 1 ≤ n → ∀ t, t < 2 ^ (n - 1) → fi n t < fac n ∧ de n (fi n t) = t := by decide +kernel
