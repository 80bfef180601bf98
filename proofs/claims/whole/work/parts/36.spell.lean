/-! the class lays an order's letters, and tells what it is -/
theorem xdI {α : Type} {k : Nat} (h0 : 0 < k) (hk : k < 2 ^ 31) (K : Option α) : xd (nI k) K = K := by
  unfold xd
  exact if_neg (nI_ne0 h0 hk)
theorem itr_map (P : Int32 → Prop) (hP : ∀ x, Decidable (P x)) (g : Int32 → Int32) : ∀ d i (v : Nat → Int32), itr (fun j v => @ite _ (P (v j)) (hP _) v (upd v j (g (v j)))) d i v = fun j => if i ≤ j ∧ j < i + d then @ite _ (P (v j)) (hP _) (v j) (g (v j)) else v j := by
  intro d
  induction d with
  | zero => intro i v; funext j; rw [if_neg (by omega)]; rfl
  | succ d ih =>
    intro i v
    show itr _ d (i + 1) (@ite _ (P (v i)) (hP _) v (upd v i (g (v i)))) = _
    rw [ih]
    funext j
    by_cases hj : j = i
    · subst hj
      rw [if_neg (show ¬ (j + 1 ≤ j ∧ j < j + 1 + d) by omega), if_pos (show j ≤ j ∧ j < j + (d + 1) by omega)]
      by_cases c : P (v j)
      · rw [if_pos c, if_pos c]
      · rw [if_neg c, if_neg c]; simp [upd]
    · have e : (@ite _ (P (v i)) (hP _) v (upd v i (g (v i)))) j = v j := by
        by_cases c : P (v i)
        · rw [if_pos c]
        · rw [if_neg c]; simp [upd, hj]
      by_cases h2 : i + 1 ≤ j ∧ j < i + 1 + d
      · rw [if_pos h2, if_pos (show i ≤ j ∧ j < i + (d + 1) by omega)]; simp only [e]
      · rw [if_neg h2, if_neg (show ¬ (i ≤ j ∧ j < i + (d + 1)) by omega)]; exact e
theorem x_spell47 {n p L q : Nat} (hn : n ≤ 5) (hL : L < 100) (κ : Int32 → Int32 → (Nat → Int32) → (Nat → Int32) → Option ((Nat → Int32) × (Nat → Int32))) (ol ow : Nat → Int32) (hp : p < n) :
    F_X1_spell_47 n (nI n) κ xF (nI q) (nI p) (nI L) (nI (p + 1)) ol ow = κ (nI q) (nI p + (-1 : Int32)) ol (fun j => if p + 1 ≤ j ∧ j < n then (if ow j < nI L then ow j else ow j + 1) else ow j) := by
  have h := loopN (fun f j v => F_X1_spell_47 n (nI n) κ f (nI q) (nI p) (nI L) (nI j) ol v) n (fun v => κ (nI q) (nI p + (-1 : Int32)) ol v) (fun j v => if v j < nI L then v else upd v j (v j + 1))
    (fun f v => by show F_X1_spell_47 _ _ _ _ _ _ _ _ _ _ = _; rw [E_X1_spell_47, ifLe (by omega) (by omega) (by omega)])
    (fun f j v hj => by
      show F_X1_spell_47 _ _ _ _ _ _ _ _ _ _ = F_X1_spell_47 _ _ _ _ _ _ _ _ _ _
      rw [E_X1_spell_47, ifNle (by omega) (by omega) (by omega), xgI (by omega) (by omega), nI_clamp (by omega), nI_1]
      by_cases c : v j < nI L
      · rw [if_pos c, if_pos c]
      · rw [if_neg c, if_neg c]) (n - (p + 1)) (p + 1) ow xF (by omega) (xF_ge (by omega))
  rw [itr_map (fun x => x < nI L) (fun _ => inferInstance) (fun x => x + 1), show p + 1 + (n - (p + 1)) = n by omega] at h
  exact h
theorem x_spell9 {n ll o : Nat} (hn : n ≤ 5) (hn1 : 1 ≤ n) (ol : Nat → Int32) : ∀ d f rest row ow, d ≤ n → d < f → rest < 1000 → (∀ j, d ≤ j → j < n → ow j = nI (row j) ∧ row j + d < 100) →
    ∃ ow', F_X1_spell_9 ll n (nI n) (nI o) f (nI rest) (nI d + (-1 : Int32)) ol ow = F_X1_spell_93 ll n (nI n) (nI o) xF (0 : Int32) ol ow' ∧ ∀ j, j < n → ow' j = nI ((dsc (spX n) d (rest, row)).2 j) := by
  intro d
  induction d with
  | zero =>
    intro f rest row ow hd hf hr hrow
    obtain ⟨f, rfl⟩ : ∃ g, f = g + 1 := ⟨f - 1, by omega⟩
    refine ⟨ow, ?_, fun j hj => (hrow j (by omega) hj).1⟩
    rw [E_X1_spell_9, if_pos (by decide)]
  | succ d ih =>
    intro f rest row ow hd hf hr hrow
    obtain ⟨f, rfl⟩ : ∃ g, f = g + 1 := ⟨f - 1, by omega⟩
    have hL : rest % (n - d) + 1 < 7 := by have := Nat.mod_lt rest (show 0 < n - d by omega); omega
    rw [E_X1_spell_9, pk_m1, if_neg (nI_pos (by omega)), pk_sub (by omega), xdI (by omega) (by omega), xdI (by omega) (by omega), xgI (by omega) (by omega), pk_rem (by omega) (by omega) (by omega), pk_div (by omega) (by omega) (by omega), i1, nI_add, nI_add, nI_clamp (by omega), x_spell47 hn (by omega) _ _ _ (by omega)]
    obtain ⟨ow', e1, e2⟩ := ih f (rest / (n - d)) (spX n d (rest, row)).2 (fun j => if d + 1 ≤ j ∧ j < n then (if (upd ow d (nI (rest % (n - d) + 1))) j < nI (rest % (n - d) + 1) then (upd ow d (nI (rest % (n - d) + 1))) j else (upd ow d (nI (rest % (n - d) + 1))) j + 1) else (upd ow d (nI (rest % (n - d) + 1))) j)
      (by omega) (by omega) (Nat.lt_of_le_of_lt (Nat.div_le_self _ _) hr) (fun j h1 h2 => by
        by_cases c : j = d
        · subst c
          rw [if_neg (by omega)]
          refine ⟨by simp [spX, upd], ?_⟩
          show (if j = j then rest % (n - j) + 1 else _) + j < 100
          rw [if_pos rfl]; omega
        · obtain ⟨w1, w2⟩ := hrow j (by omega) h2
          rw [if_pos (by omega)]
          simp only [spX, upd, if_neg c]
          rw [if_pos (show d + 1 ≤ j ∧ j < n by omega), w1]
          by_cases c2 : row j < rest % (n - d) + 1
          · rw [ifLt (by omega) (by omega) c2, if_pos c2]; exact ⟨rfl, by omega⟩
          · rw [ifNlt (by omega) (by omega) (by omega), if_neg c2, nI_1]; exact ⟨rfl, by omega⟩)
    exact ⟨ow', e1, e2⟩
theorem x_spell {n ll o : Nat} (hn : n ≤ 5) (hn1 : 1 ≤ n) (hll : ll = fac n * n) (ho : o < fac n) (ol ow : Nat → Int32) :
    ∃ ow', F_X1_spell ll n (nI n) (nI o) ol ow = some ((fun j => if o * n ≤ j ∧ j < o * n + n then nI (lt n o (j - o * n)) else ol j), ow') ∧ ∀ j, j < n → ow' j = nI (lt n o j) := by
  have hf5 := fac_le hn
  obtain ⟨ow', e1, e2⟩ := x_spell9 (ll := ll) (o := o) hn hn1 ol n xF o (fun _ => 0) ow (Nat.le_refl _) (xF_ge (by omega)) (by omega) (fun j h1 h2 => absurd h2 (by omega))
  have e3 : ∀ j, j < n → ow' j = nI (lt n o j) := fun j hj => by rw [e2 j hj, sp_ok n hn o ho j hj]
  refine ⟨ow', ?_, e3⟩
  unfold F_X1_spell
  rw [Int32.sub_eq_add_neg, e1]
  have hb : o * n + n ≤ fac n * n := by
    have := Nat.mul_le_mul_right n (show o + 1 ≤ fac n from ho)
    rw [Nat.succ_mul] at this; exact this
  have hb2 : fac n * n ≤ 120 * 5 := Nat.mul_le_mul hf5 hn
  have h := loopN (fun f j v => F_X1_spell_93 ll n (nI n) (nI o) f (nI j) v ow') n (fun v => some (v, ow')) (fun j v => upd v (o * n + j) (nI (lt n o j)))
    (fun f v => by show F_X1_spell_93 _ _ _ _ _ _ _ _ = _; rw [E_X1_spell_93, ifLe (by omega) (by omega) (by omega)])
    (fun f j v hj => by
      show F_X1_spell_93 _ _ _ _ _ _ _ _ = F_X1_spell_93 _ _ _ _ _ _ _ _
      rw [E_X1_spell_93, ifNle (by omega) (by omega) (by omega), xgI (by omega) (by omega), pk_mul, nI_add, xgI (by omega) (by omega), nI_clamp (by omega), nI_clamp (by omega), e3 j hj, nI_1]) n 0 ol xF (by omega) (xF_ge (by omega))
  rw [itr_put (fun j => nI (lt n o j)) (o * n)] at h
  exact h
/-- descents, peaks, inversions, place by place -/
def dsX (n : Nat) (w : Nat → Nat) (k : Nat) (q : Nat × Nat × Nat) : Nat × Nat × Nat :=
  (if k + 1 < n ∧ w (k + 1) < w k then q.1 ||| 2 ^ k else q.1, if k + 1 < n ∧ w (k + 1) < w k ∧ 0 < k ∧ w (k - 1) < w k then q.2.1 ||| 2 ^ k else q.2.1, q.2.2 + sbN n w k)
def de (n o : Nat) : Nat := (itr (dsX n (lt n o)) n 0 (0, 0, 0)).1
def pe (n o : Nat) : Nat := (itr (dsX n (lt n o)) n 0 (0, 0, 0)).2.1
def iv (n o : Nat) : Nat := (itr (dsX n (lt n o)) n 0 (0, 0, 0)).2.2
/-- the inverse word -/
def iwX (w : Nat → Nat) (k : Nat) (r : Nat → Nat) : Nat → Nat := fun j => if j = w k - 1 then k + 1 else r j
def iwN (n : Nat) (w : Nat → Nat) : Nat → Nat := itr (iwX w) n 0 w
def vi (n o : Nat) : Nat := nm n (iwN n (lt n o))
theorem x_letterAt {n ll o k : Nat} (hn : n ≤ 5) (hll : ll = fac n * n) (ho : o < fac n) (hk : k < n) {ol : Nat → Int32} (hol : ∀ k, k < n → ol (o * n + k) = nI (lt n o k)) : F_X1_letterAt ll (nI n) ol (nI o) (nI k) = some (nI (lt n o k)) := by
  have hb : o * n + n ≤ fac n * n := by
    have := Nat.mul_le_mul_right n (show o + 1 ≤ fac n from ho)
    rw [Nat.succ_mul] at this; exact this
  have hb2 : fac n * n ≤ 120 * 5 := Nat.mul_le_mul (fac_le hn) hn
  unfold F_X1_letterAt
  rw [pk_mul, nI_add, xgI (by omega) (by omega), nI_clamp (by omega), hol k hk]
theorem x_describe136 {n lm ll o : Nat} (hn : n ≤ 5) (hlm : lm = fac n) (hll : ll = fac n * n) (ho : o < fac n) {ol : Nat → Int32} (hol : ∀ k, k < n → ol (o * n + k) = nI (lt n o k)) (od op oi ov : Nat → Int32) : ∀ d i f r ow, i + d = n → d < f → (∀ j, j < n → ow j = nI (r j) ∧ r j < 1000) →
    ∃ ow', F_X1_describe_136 lm ll n (nI n) ol (nI o) f (nI i) od op oi ov ow = some (od, op, oi, upd ov o (nI (nm n (itr (iwX (lt n o)) d i r))), ow') := by
  have hf5 := fac_le hn
  intro d
  induction d with
  | zero =>
    intro i f r ow hi hf hr
    obtain ⟨f, rfl⟩ : ∃ g, f = g + 1 := ⟨f - 1, by omega⟩
    rw [E_X1_describe_136, ifLe (by omega) (by omega) (by omega), bnd (x_nm (Nat.le_refl n) (by omega) hr), xgI (by omega) (by omega), nI_clamp (by omega)]
    exact ⟨ow, rfl⟩
  | succ d ih =>
    intro i f r ow hi hf hr
    obtain ⟨f, rfl⟩ : ∃ g, f = g + 1 := ⟨f - 1, by omega⟩
    obtain ⟨l1, l2⟩ := lt_ok n hn o ho i (by omega)
    rw [E_X1_describe_136, ifNle (by omega) (by omega) (by omega), bnd (x_letterAt hn hll ho (by omega) hol), i1, pk_sub (by omega), xgI (by omega) (by omega), nI_clamp (by omega), nI_add]
    exact ih (i + 1) f (iwX (lt n o) i r) _ (by omega) (by omega) (fun j hj => by
      by_cases c : j = lt n o i - 1
      · subst c
        have e9 : iwX (lt n o) i r (lt n o i - 1) = i + 1 := by simp [iwX]
        rw [e9]
        exact ⟨by simp [upd], by omega⟩
      · simp only [iwX, upd, if_neg c]; exact hr j hj)
theorem x_describe {n lm ll o : Nat} (hn : n ≤ 5) (hlm : lm = fac n) (hll : ll = fac n * n) (ho : o < fac n) {ol : Nat → Int32} (hol : ∀ k, k < n → ol (o * n + k) = nI (lt n o k)) (od op oi ov ow : Nat → Int32) (how : ∀ k, k < n → ow k = nI (lt n o k)) :
    ∃ ow', F_X1_describe lm ll n (nI n) ol (nI o) od op oi ov ow = some (upd od o (nI (de n o)), upd op o (nI (pe n o)), upd oi o (nI (iv n o)), upd ov o (nI (vi n o)), ow') := by
  have hf5 := fac_le hn
  have hw : ∀ k, k < n → ow k = nI (lt n o k) ∧ lt n o k < 1000 := fun k hk => ⟨how k hk, by have := (lt_ok n hn o ho k hk).2; omega⟩
  have h := loopN (fun f i (q : Nat × Nat × Nat) => F_X1_describe_10 lm ll n (nI n) ol (nI o) f (nI q.1) (nI q.2.1) (nI q.2.2) (nI i) od op oi ov ow) n
    (fun q => F_X1_describe_136 lm ll n (nI n) ol (nI o) xF (0 : Int32) (upd od o (nI q.1)) (upd op o (nI q.2.1)) (upd oi o (nI q.2.2)) ov ow) (dsX n (lt n o))
    (fun f q => by
      show F_X1_describe_10 _ _ _ _ _ _ _ _ _ _ _ _ _ _ _ _ = _
      rw [E_X1_describe_10, ifLe (by omega) (by omega) (by omega), xgI (by omega) (by omega), nI_clamp (by omega)])
    (fun f i q hi => by
      show F_X1_describe_10 _ _ _ _ _ _ _ _ _ _ _ _ _ _ _ _ = F_X1_describe_10 _ _ _ _ _ _ _ (nI (dsX n (lt n o) i q).1) (nI (dsX n (lt n o) i q).2.1) (nI (dsX n (lt n o) i q).2.2) _ _ _ _ _ _
      rw [E_X1_describe_10, ifNle (by omega) (by omega) (by omega), bnd (x_sb (Nat.le_refl n) (by omega) hi hw), i1, pk_sub (by omega), nI_add, nI_add]
      unfold dsX
      by_cases c1 : n - 1 ≤ i
      · rw [ifLe (by omega) (by omega) c1, if_neg (by omega), if_neg (by omega)]
      · rw [ifNle (by omega) (by omega) (by omega), xgI (by omega) (by omega), xgI (by omega) (by omega), nI_clamp (by omega), nI_clamp (by omega), how i (by omega), how (i + 1) (by omega)]
        have b1 := (hw i (by omega)).2
        have b2 := (hw (i + 1) (by omega)).2
        by_cases c2 : lt n o (i + 1) < lt n o i
        · rw [ifNle (by omega) (by omega) c2, i0, if_pos (show i + 1 < n ∧ lt n o (i + 1) < lt n o i from ⟨by omega, c2⟩), ← i1, shl1 (by omega), nI_or]
          by_cases c3 : i = 0
          · subst c3
            rw [ifLe (by omega) (by omega) (by omega), if_neg (by omega)]
          · have b3 := (hw (i - 1) (by omega)).2
            rw [ifNle (by omega) (by omega) (by omega), i1, pk_sub (by omega), xgI (by omega) (by omega), nI_clamp (by omega), how (i - 1) (by omega)]
            by_cases c4 : lt n o (i - 1) < lt n o i
            · rw [ifNle (by omega) (by omega) c4, if_pos ⟨by omega, c2, by omega, c4⟩, nI_or]
            · rw [ifLe (by omega) (by omega) (by omega), if_neg (by omega)]
        · rw [ifLe (by omega) (by omega) (by omega), if_neg (by omega), if_neg (by omega)]) n 0 (0, 0, 0) xF (by omega) (xF_ge (by omega))
  obtain ⟨ow', e⟩ := x_describe136 hn hlm hll ho hol (upd od o (nI (de n o))) (upd op o (nI (pe n o))) (upd oi o (nI (iv n o))) ov n 0 xF (lt n o) ow (by omega) (xF_ge (by omega)) hw
  refine ⟨ow', ?_⟩
  unfold F_X1_describe
  exact h.trans e
