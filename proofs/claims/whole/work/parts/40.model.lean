/-! the model lays orders -/
theorem loopE {σ τ ρ : Type} (L : Nat → Nat → σ → τ → Option ρ) (I : Nat → τ → Prop) (e : Nat) (fin : σ → τ → Option ρ) (nx : Nat → σ → σ) (h0 : ∀ f s t, I e t → L (f + 1) e s t = fin s t) (h1 : ∀ f i s t, i < e → I i t → ∃ t', L (f + 1) i s t = L f (i + 1) (nx i s) t' ∧ I (i + 1) t') :
    ∀ d i s t f, i + d = e → d < f → I i t → ∃ t', L f i s t = fin (itr nx d i s) t' ∧ I e t' := by
  intro d
  induction d with
  | zero =>
    intro i s t f hi hf hI
    obtain ⟨f, rfl⟩ : ∃ g, f = g + 1 := ⟨f - 1, by omega⟩
    obtain rfl : i = e := by omega
    exact ⟨t, h0 f s t hI, hI⟩
  | succ d ih =>
    intro i s t f hi hf hI
    obtain ⟨f, rfl⟩ : ∃ g, f = g + 1 := ⟨f - 1, by omega⟩
    obtain ⟨t', h2, h3⟩ := h1 f i s t (by omega) hI
    rw [h2]
    exact ih (i + 1) (nx i s) t' f (by omega) (by omega) h3
theorem sh_bit64 : ∀ a, a < 64 → ∀ k, k < 8 → (((nI a >>> (nI k &&& 31)) &&& (1 : Int32)) = 1 ↔ a / 2 ^ k % 2 = 1) := by decide +kernel
theorem sh_bit0 : ∀ a, a < 64 → ∀ k, k < 8 → (((nI a >>> (nI k &&& 31)) &&& (1 : Int32)) = 0 ↔ a / 2 ^ k % 2 = 0) := by decide +kernel
/-- the letter that is found: the first one that is free, behind so many free ones -/
def fndO (used : Nat) : Nat → Nat → Nat → Option Nat
  | 0, _, _ => none
  | f + 1, s, l => if 0 < s then fndO used f (if used / 2 ^ l % 2 = 1 then s else s - 1) (l + 1) else if used / 2 ^ l % 2 = 1 then fndO used f s (l + 1) else some l
def lwX (n o k : Nat) (q : Nat × Nat) : Nat × Nat := (q.1 % fac (n - 1 - k), q.2 ||| 2 ^ lt n o k)
def lwS (n o k : Nat) : Nat × Nat := itr (lwX n o) k 0 (o, 0)
theorem lw_ok : ∀ n, n ≤ 5 → ∀ o, o < fac n → ∀ k, k < n → fndO (lwS n o k).2 7 ((lwS n o k).1 / fac (n - 1 - k)) 1 = some (lt n o k) ∧ (lwS n o k).2 < 64 ∧ (lwS n o k).1 < 1000 := by decide +kernel
theorem m_fnd (κ : Int32 → Int32 → Int32 → (Nat → Int32) → Option (Nat → Int32)) (x3 : Int32) {used k : Nat} (hu : used < 64) (hk : k < 5) (wd : Nat → Int32) : ∀ g s l r f, fndO used g s l = some r → g ≤ f → l + g ≤ 8 → s < 1000 → F_X6_layWord_39 κ f x3 (nI used) (nI k) (nI s) (nI l) wd = κ x3 (nI (used ||| 2 ^ r)) (nI (k + 1)) (upd wd k (nI r)) := by
  intro g
  induction g with
  | zero => intro s l r f h; cases h
  | succ g ih =>
    intro s l r f h hf hl hs
    obtain ⟨f, rfl⟩ : ∃ g, f = g + 1 := ⟨f - 1, by omega⟩
    have hb := sh_bit64 used hu l (by omega)
    unfold fndO at h
    rw [E_X6_layWord_39, i0]
    unfold F_X6_layWord_55
    by_cases c : 0 < s
    · rw [if_pos c] at h
      rw [ifLt (by omega) (by omega) c]
      by_cases c2 : used / 2 ^ l % 2 = 1
      · rw [if_pos c2] at h
        rw [if_pos (hb.mpr c2), i0, pk_sub (by omega), nI_1]
        exact ih s (l + 1) r f h (by omega) (by omega) hs
      · rw [if_neg c2] at h
        rw [if_neg (fun q => c2 (hb.mp q)), i1, pk_sub (by omega), nI_add]
        exact ih (s - 1) (l + 1) r f h (by omega) (by omega) (by omega)
    · obtain rfl : s = 0 := by omega
      rw [if_neg c] at h
      rw [ifNlt (by omega) (by omega) (by omega)]
      by_cases c2 : used / 2 ^ l % 2 = 1
      · rw [if_pos c2] at h
        rw [if_pos (hb.mpr c2), if_pos (hb.mpr c2), i0, pk_sub (by omega), nI_1]
        exact ih 0 (l + 1) r f h (by omega) (by omega) hs
      · rw [if_neg c2] at h
        obtain rfl : l = r := Option.some.inj h
        rw [if_neg (fun q => c2 (hb.mp q)), xgI hk (by omega), shl1 (by omega), nI_or, nI_clamp (by omega), i1, nI_add]
theorem m_layWord {n o : Nat} (hn : n ≤ 5) (ho : o < fac n) : ∀ d k f wd, k + d = n → d < f → F_X6_layWord_8 (nI n) f (nI (lwS n o k).1) (nI (lwS n o k).2) (nI k) wd = some (fun j => if k ≤ j ∧ j < k + d then nI (lt n o j) else wd j) := by
  intro d
  induction d with
  | zero =>
    intro k f wd hk hf
    obtain ⟨f, rfl⟩ : ∃ g, f = g + 1 := ⟨f - 1, by omega⟩
    rw [E_X6_layWord_8, ifLe (by omega) (by omega) (by omega)]
    exact congrArg some (funext fun j => by rw [if_neg (by omega)])
  | succ d ih =>
    intro k f wd hk hf
    obtain ⟨f, rfl⟩ : ∃ g, f = g + 1 := ⟨f - 1, by omega⟩
    obtain ⟨w1, w2, w3⟩ := lw_ok n hn o ho k (by omega)
    have hp := fac_pos (show n - 1 - k ≤ 5 by omega)
    have hq := fac_le (show n - 1 - k ≤ 5 by omega)
    have hdiv : (lwS n o k).1 / fac (n - 1 - k) < 1000 := Nat.lt_of_le_of_lt (Nat.div_le_self _ _) w3
    have e1 : lwS n o (k + 1) = lwX n o k (lwS n o k) := by
      unfold lwS
      rw [itr_add (lwX n o) k 1 0 (o, 0), Nat.zero_add]
      rfl
    rw [E_X6_layWord_8, ifNle (by omega) (by omega) (by omega), i1, pk_sub (by omega), pk_sub (by omega), bnd (m_ordersOf (by omega)), xdI hp (by omega), xdI hp (by omega), pk_rem (by omega) hp (by omega), pk_div (by omega) hp (by omega), m_fnd _ _ w2 (by omega) wd 7 _ 1 _ xF w1 (by unfold xF; omega) (by omega) hdiv]
    have e2 := ih (k + 1) f (upd wd k (nI (lt n o k))) (by omega) (by omega)
    rw [e1] at e2
    refine e2.trans (congrArg some (funext fun j => ?_))
    by_cases c : j = k
    · subst c; rw [if_neg (by omega), if_pos (by omega)]; simp [upd]
    · by_cases c2 : k + 1 ≤ j ∧ j < k + 1 + d
      · rw [if_pos c2, if_pos (by omega)]
      · rw [if_neg c2, if_neg (by omega)]; simp [upd, c]
theorem m_layWord' {n o : Nat} (hn : n ≤ 5) (ho : o < fac n) (wd : Nat → Int32) : F_X6_layWord (nI o) (nI n) wd = some (fun j => if j < n then nI (lt n o j) else wd j) := by
  unfold F_X6_layWord
  refine (m_layWord hn ho n 0 xF wd (by omega) (xF_ge (by omega))).trans (congrArg some (funext fun j => ?_))
  by_cases c : j < n
  · rw [if_pos (by omega), if_pos c]
  · rw [if_neg (by omega), if_neg c]
def LKn (n : Nat) (l : Nat → Int32) : Prop := ∀ o k, o < fac n → k < n → l (5 * o + k) = nI (lt n o k)
def LK (laid : Int32) (l : Nat → Int32) : Prop := ∃ n, n ≤ 5 ∧ laid = nI n ∧ LKn n l
theorem m_lay22 {al : Nat → Int32} {n : Nat} (hal : al 0 = nI n) (hn : n ≤ 5) : ∀ d o f wd l, o + d = fac n → d < f → (∀ a k, a < o → k < n → l (5 * a + k) = nI (lt n a k)) →
    ∃ wd' l', F_X6_layOrders_22 al f (nI o) (nI n) wd l = some (nI n, wd', l') ∧ LKn n l' := by
  have hf5 := fac_le hn
  intro d
  induction d with
  | zero =>
    intro o f wd l ho hf hl
    obtain ⟨f, rfl⟩ : ∃ g, f = g + 1 := ⟨f - 1, by omega⟩
    rw [E_X6_layOrders_22, bnd (m_orders hal hn), ifLe (by omega) (by omega) (by omega)]
    exact ⟨wd, l, rfl, fun a k ha hk => hl a k (by omega) hk⟩
  | succ d ih =>
    intro o f wd l ho hf hl
    obtain ⟨f, rfl⟩ : ∃ g, f = g + 1 := ⟨f - 1, by omega⟩
    rw [E_X6_layOrders_22, bnd (m_orders hal hn), ifNle (by omega) (by omega) (by omega), bnd (m_layWord' hn (by omega) wd)]
    have h := loopN (fun g j v => F_X6_layOrders_41 (F_X6_layOrders_22 al f) g (nI o) (nI j) (nI n) (fun j => if j < n then nI (lt n o j) else wd j) v) n (fun v => F_X6_layOrders_22 al f (nI (o + 1)) (nI n) (fun j => if j < n then nI (lt n o j) else wd j) v) (fun j v => upd v (5 * o + j) (nI (lt n o j)))
      (fun g v => by
        show F_X6_layOrders_41 _ _ _ _ _ _ _ = _
        rw [E_X6_layOrders_41, ifLe (by omega) (by omega) (by omega), nI_1])
      (fun g j v hj => by
        show F_X6_layOrders_41 _ _ _ _ _ _ _ = F_X6_layOrders_41 _ _ _ _ _ _ _
        rw [E_X6_layOrders_41, ifNle (by omega) (by omega) (by omega), xgI (by omega) (by omega), i5, pk_mul, nI_add, xgI (by omega) (by omega), nI_clamp (by omega), nI_clamp (by omega), if_pos hj, nI_1]) n 0 l xF (by omega) (xF_ge (by omega))
    rw [itr_put (fun j => nI (lt n o j)) (5 * o)] at h
    rw [i0, h]
    exact ih (o + 1) f _ _ (by omega) (by omega) (fun a k ha hk => by
      show (if _ then _ else _) = _
      by_cases c : a = o
      · subst c; rw [if_pos (by omega), show 5 * a + k - 5 * a = k by omega]
      · rw [if_neg (by omega)]; exact hl a k (by omega) hk)
theorem m_lay {al : Nat → Int32} {n : Nat} (hal : al 0 = nI n) (hn : n ≤ 5) {laid : Int32} {wd l : Nat → Int32} (hL : LK laid l) :
    ∃ wd' l', F_X6_layOrders al laid wd l = some (nI n, wd', l') ∧ LKn n l' ∧ (laid = nI n → wd' = wd) := by
  obtain ⟨q, hq, rfl, hl⟩ := hL
  unfold F_X6_layOrders
  rw [bnd (m_n hal)]
  by_cases c : q = n
  · subst c
    rw [ifEq rfl]
    exact ⟨wd, l, rfl, hl, fun _ => rfl⟩
  · rw [ifNe (by omega) (by omega) c, bnd (m_n hal)]
    obtain ⟨wd', l', e1, e2⟩ := m_lay22 hal hn (fac n) 0 xF wd l (by omega) (xF_ge (by have := fac_le hn; omega)) (fun a k ha => absurd ha (by omega))
    exact ⟨wd', l', e1, e2, fun h => absurd ((nI_eq (by omega) (by omega)).mp h) c⟩
theorem m_at {al : Nat → Int32} {n : Nat} (hal : al 0 = nI n) (hn : n ≤ 5) {laid : Int32} {wd l : Nat → Int32} (hL : LK laid l) {o k : Nat} (ho : o < fac n) (hk : k < n) :
    ∃ wd' l', F_X6_at al (nI o) (nI k) laid wd l = some (nI (lt n o k), nI n, wd', l') ∧ LKn n l' ∧ (laid = nI n → wd' = wd) := by
  have hf5 := fac_le hn
  obtain ⟨wd', l', e1, e2, e3⟩ := m_lay (wd := wd) hal hn hL
  refine ⟨wd', l', ?_, e2, e3⟩
  unfold F_X6_at
  rw [bnd e1, i5, pk_mul, nI_add, xgI (by omega) (by omega), nI_clamp (by omega)]
  dsimp only
  rw [e2 o k ho hk]
theorem LKn.LK {n : Nat} {l : Nat → Int32} (hn : n ≤ 5) (h : LKn n l) : LK (nI n) l := ⟨n, hn, rfl, h⟩
