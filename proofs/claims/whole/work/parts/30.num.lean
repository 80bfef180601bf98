/-! numbers -/
theorem xgI {α : Type} {k n : Nat} (h : k < n) (hn : n < 2 ^ 31) (K : Option α) : xg (nI k) n K = K := by
  unfold xg
  exact if_neg (nI_in h hn)
theorem ifLe {α : Type} {a b : Nat} (ha : a < 2 ^ 31) (hb : b < 2 ^ 31) (h : a ≤ b) (A B : α) : (if nI a ≤ nI b then A else B) = A := if_pos ((nI_leI ha hb).mpr h)
theorem ifNle {α : Type} {a b : Nat} (ha : a < 2 ^ 31) (hb : b < 2 ^ 31) (h : b < a) (A B : α) : (if nI a ≤ nI b then A else B) = B := if_neg (fun q => absurd ((nI_leI ha hb).mp q) (by omega))
theorem ifLt {α : Type} {a b : Nat} (ha : a < 2 ^ 31) (hb : b < 2 ^ 31) (h : a < b) (A B : α) : (if nI a < nI b then A else B) = A := if_pos ((nI_ltI ha hb).mpr h)
theorem ifNlt {α : Type} {a b : Nat} (ha : a < 2 ^ 31) (hb : b < 2 ^ 31) (h : b ≤ a) (A B : α) : (if nI a < nI b then A else B) = B := if_neg (fun q => absurd ((nI_ltI ha hb).mp q) (by omega))
theorem ifEq {α : Type} {a b : Nat} (h : a = b) (A B : α) : (if nI a = nI b then A else B) = A := if_pos (by rw [h])
theorem ifNe {α : Type} {a b : Nat} (ha : a < 2 ^ 31) (hb : b < 2 ^ 31) (h : a ≠ b) (A B : α) : (if nI a = nI b then A else B) = B := if_neg (fun q => h ((nI_eq ha hb).mp q))
theorem xF_ge {n : Nat} (h : n < 1000000) : n < xF := h
theorem bnd {α β : Type} {x : Option α} {a : α} {f : α → Option β} (h : x = some a) : x.bind f = f a := by rw [h]; rfl
theorem i0 : (0 : Int32) = nI 0 := rfl
theorem i1 : (1 : Int32) = nI 1 := rfl
theorem i2 : (2 : Int32) = nI 2 := rfl
theorem i3 : (3 : Int32) = nI 3 := rfl
theorem i4 : (4 : Int32) = nI 4 := rfl
theorem i5 : (5 : Int32) = nI 5 := rfl
theorem i120 : (120 : Int32) = nI 120 := rfl
theorem cl0 : (0 : Int32).toNatClampNeg = 0 := rfl
/-! loops that count up -/
def itr {σ : Type} (nx : Nat → σ → σ) : Nat → Nat → σ → σ
  | 0, _, s => s
  | d + 1, i, s => itr nx d (i + 1) (nx i s)
theorem loopN {σ ρ : Type} (L : Nat → Nat → σ → Option ρ) (e : Nat) (fin : σ → Option ρ) (nx : Nat → σ → σ) (h0 : ∀ f s, L (f + 1) e s = fin s) (h1 : ∀ f i s, i < e → L (f + 1) i s = L f (i + 1) (nx i s)) :
    ∀ d i s f, i + d = e → d < f → L f i s = fin (itr nx d i s) := by
  intro d
  induction d with
  | zero =>
    intro i s f hi hf
    obtain ⟨f, rfl⟩ : ∃ g, f = g + 1 := ⟨f - 1, by omega⟩
    obtain rfl : i = e := by omega
    exact h0 f s
  | succ d ih =>
    intro i s f hi hf
    obtain ⟨f, rfl⟩ : ∃ g, f = g + 1 := ⟨f - 1, by omega⟩
    rw [h1 f i s (by omega)]
    exact ih (i + 1) (nx i s) f (by omega) (by omega)
theorem loopI {σ ρ : Type} (I : Nat → σ → Prop) (L : Nat → Nat → σ → Option ρ) (e : Nat) (fin : σ → Option ρ) (nx : Nat → σ → σ) (h0 : ∀ f s, I e s → L (f + 1) e s = fin s) (h1 : ∀ f i s, i < e → I i s → L (f + 1) i s = L f (i + 1) (nx i s) ∧ I (i + 1) (nx i s)) :
    ∀ d i s f, i + d = e → d < f → I i s → L f i s = fin (itr nx d i s) ∧ I e (itr nx d i s) := by
  intro d
  induction d with
  | zero =>
    intro i s f hi hf hI
    obtain ⟨f, rfl⟩ : ∃ g, f = g + 1 := ⟨f - 1, by omega⟩
    obtain rfl : i = e := by omega
    exact ⟨h0 f s hI, hI⟩
  | succ d ih =>
    intro i s f hi hf hI
    obtain ⟨f, rfl⟩ : ∃ g, f = g + 1 := ⟨f - 1, by omega⟩
    obtain ⟨h2, h3⟩ := h1 f i s (by omega) hI
    rw [h2]
    exact ih (i + 1) (nx i s) f (by omega) (by omega) h3
theorem itr_add {σ : Type} (nx : Nat → σ → σ) : ∀ a b i s, itr nx (a + b) i s = itr nx b (i + a) (itr nx a i s) := by
  intro a
  induction a with
  | zero => intro b i s; rw [Nat.zero_add]; rfl
  | succ a ih =>
    intro b i s
    rw [show a + 1 + b = (a + b) + 1 by omega]
    show itr nx (a + b) (i + 1) (nx i s) = _
    rw [ih, show i + 1 + a = i + (a + 1) by omega]
    rfl
theorem itr_congr {σ : Type} {nx ny : Nat → σ → σ} : ∀ d i s, (∀ j, i ≤ j → j < i + d → ∀ s, nx j s = ny j s) → itr nx d i s = itr ny d i s := by
  intro d
  induction d with
  | zero => intro i s h; rfl
  | succ d ih =>
    intro i s h
    show itr nx d (i + 1) (nx i s) = itr ny d (i + 1) (ny i s)
    rw [h i (Nat.le_refl _) (by omega), ih (i + 1) _ (fun j h1 h2 s => h j (by omega) (by omega) s)]
theorem itr_id {σ : Type} {nx : Nat → σ → σ} : ∀ d i s, (∀ j, i ≤ j → j < i + d → ∀ s, nx j s = s) → itr nx d i s = s := by
  intro d
  induction d with
  | zero => intro i s h; rfl
  | succ d ih =>
    intro i s h
    show itr nx d (i + 1) (nx i s) = s
    rw [h i (Nat.le_refl _) (by omega)]
    exact ih (i + 1) s (fun j h1 h2 s => h j (by omega) (by omega) s)
theorem itr_fillL (g : Nat → Int64) : ∀ d i (v : Nat → Int64), itr (fun i v => vp_updL v i (g i)) d i v = fun j => if i ≤ j ∧ j < i + d then g j else v j := by
  intro d
  induction d with
  | zero => intro i v; funext j; rw [if_neg (by omega)]; rfl
  | succ d ih =>
    intro i v
    show itr _ d (i + 1) (vp_updL v i (g i)) = _
    rw [ih]
    funext j
    by_cases hj : j = i
    · subst hj; rw [if_neg (by omega), if_pos (by omega)]; simp [vp_updL]
    · by_cases h2 : i + 1 ≤ j ∧ j < i + 1 + d
      · rw [if_pos h2, if_pos (by omega)]
      · rw [if_neg h2, if_neg (by omega)]; simp [vp_updL, hj]
theorem itr_fillI (g : Nat → Int32) : ∀ d i (v : Nat → Int32), itr (fun i v => upd v i (g i)) d i v = fun j => if i ≤ j ∧ j < i + d then g j else v j := by
  intro d
  induction d with
  | zero => intro i v; funext j; rw [if_neg (by omega)]; rfl
  | succ d ih =>
    intro i v
    show itr _ d (i + 1) (upd v i (g i)) = _
    rw [ih]
    funext j
    by_cases hj : j = i
    · subst hj; rw [if_neg (by omega), if_pos (by omega)]; simp [upd]
    · by_cases h2 : i + 1 ≤ j ∧ j < i + 1 + d
      · rw [if_pos h2, if_pos (by omega)]
      · rw [if_neg h2, if_neg (by omega)]; simp [upd, hj]
/-! the class's small loops -/
theorem x_makeZeros (m : Nat) (hm : m ≤ 120) (v : Nat → Int64) : F_X5_makeZeros (nI m) v = some (fun j => if j < m then 0 else v j) := by
  have h := loopN (fun f i v => F_X5_makeZeros_2 (nI m) f (nI i) v) m some (fun i v => vp_updL v i 0)
    (fun f s => by show F_X5_makeZeros_2 _ _ _ _ = _; rw [E_X5_makeZeros_2, ifLe (by omega) (by omega) (by omega)])
    (fun f i s hi => by show F_X5_makeZeros_2 _ _ _ _ = _; rw [E_X5_makeZeros_2, ifNle (by omega) (by omega) (by omega), xgI (by omega) (by omega), nI_1, nI_clamp (by omega)]) m 0 v xF (by omega) (xF_ge (by omega))
  rw [itr_fillL (fun _ => 0)] at h
  unfold F_X5_makeZeros
  refine h.trans ?_
  congr 1; funext j; simp
theorem x_makeCopyOf (m p : Nat) (hm : m ≤ 120) (hp : p < 3) (s : Nat → Nat → Int32) (v : Nat → Int64) : F_X5_makeCopyOf s (nI m) (nI p) v = some (fun j => if j < m then (s p j).toInt64 else v j) := by
  have h := loopN (fun f i v => F_X5_makeCopyOf_2 s (nI m) (nI p) f (nI i) v) m some (fun i v => vp_updL v i (s p i).toInt64)
    (fun f s => by show F_X5_makeCopyOf_2 _ _ _ _ _ _ = _; rw [E_X5_makeCopyOf_2, ifLe (by omega) (by omega) (by omega)])
    (fun f i s hi => by show F_X5_makeCopyOf_2 _ _ _ _ _ _ = _; rw [E_X5_makeCopyOf_2, ifNle (by omega) (by omega) (by omega), xgI hp (by omega), xgI (by omega) (by omega), nI_1, nI_clamp (by omega), nI_clamp (by omega)]) m 0 v xF (by omega) (xF_ge (by omega))
  rw [itr_fillL (fun i => (s p i).toInt64)] at h
  unfold F_X5_makeCopyOf
  refine h.trans ?_
  congr 1; funext j; simp
def cntI (f : Nat → Int32) (m : Nat) : Int32 := itr (fun o t => if f o = 0 then t else t + 1) m 0 0
theorem x_termsIn (m p : Nat) (hm : m ≤ 120) (hp : p < 3) (s : Nat → Nat → Int32) : F_X5_termsIn s (nI m) (nI p) = some (cntI (s p) m) := by
  have h := loopN (fun f i t => F_X5_termsIn_4 s (nI m) (nI p) f t (nI i)) m some (fun o t => if s p o = 0 then t else t + 1)
    (fun f t => by show F_X5_termsIn_4 _ _ _ _ _ _ = _; rw [E_X5_termsIn_4, ifLe (by omega) (by omega) (by omega)])
    (fun f i t hi => by
      show F_X5_termsIn_4 _ _ _ _ _ _ = F_X5_termsIn_4 _ _ _ _ _ _
      rw [E_X5_termsIn_4, ifNle (by omega) (by omega) (by omega), xgI hp (by omega), xgI (by omega) (by omega), nI_1, nI_clamp (by omega), nI_clamp (by omega)]
      by_cases c : s p i = 0
      · rw [if_pos c, if_pos c]
      · rw [if_neg c, if_neg c]) m 0 0 xF (by omega) (xF_ge (by omega))
  exact h
theorem lg0 (x : Int64) : lg_cmp x 0 = 0 ↔ x = 0 := by
  unfold lg_cmp
  by_cases h1 : x > 0
  · rw [if_pos h1]
    constructor
    · intro h; exact absurd h (by decide)
    · intro h; rw [h] at h1; exact absurd h1 (by decide)
  · rw [if_neg h1]
    by_cases h2 : x = 0
    · rw [if_pos h2]; exact ⟨fun _ => h2, fun _ => rfl⟩
    · rw [if_neg h2]; exact ⟨fun h => absurd h (by decide), fun h => absurd h h2⟩
def cntL (f : Nat → Int64) (m : Nat) : Int32 := itr (fun o t => if f o = 0 then t else t + 1) m 0 0
theorem x_termsMade (m : Nat) (hm : m ≤ 120) (v : Nat → Int64) : F_X5_termsMade v (nI m) = some (cntL v m) := by
  have h := loopN (fun f i t => F_X5_termsMade_4 v (nI m) f t (nI i)) m some (fun o t => if v o = 0 then t else t + 1)
    (fun f t => by show F_X5_termsMade_4 _ _ _ _ _ = _; rw [E_X5_termsMade_4, ifLe (by omega) (by omega) (by omega)])
    (fun f i t hi => by
      show F_X5_termsMade_4 _ _ _ _ _ = F_X5_termsMade_4 _ _ _ _ _
      rw [E_X5_termsMade_4, ifNle (by omega) (by omega) (by omega), xgI (by omega) (by omega), nI_1, nI_clamp (by omega)]
      by_cases c : v i = 0
      · rw [if_pos c, if_pos ((lg0 _).mpr c)]
      · rw [if_neg c, if_neg (fun q => c ((lg0 _).mp q))]) m 0 0 xF (by omega) (xF_ge (by omega))
  exact h
theorem x_factorsAddedUp (m p : Nat) (hm : m ≤ 120) (hp : p < 3) (s : Nat → Nat → Int32) : F_X5_factorsAddedUp s (nI m) (nI p) = some (itr (fun o t => t + s p o) m 0 0) := by
  have h := loopN (fun f i t => F_X5_factorsAddedUp_4 s (nI m) (nI p) f t (nI i)) m some (fun o t => t + s p o)
    (fun f t => by show F_X5_factorsAddedUp_4 _ _ _ _ _ _ = _; rw [E_X5_factorsAddedUp_4, ifLe (by omega) (by omega) (by omega)])
    (fun f i t hi => by
      show F_X5_factorsAddedUp_4 _ _ _ _ _ _ = F_X5_factorsAddedUp_4 _ _ _ _ _ _
      rw [E_X5_factorsAddedUp_4, ifNle (by omega) (by omega) (by omega), xgI hp (by omega), xgI (by omega) (by omega), nI_1, nI_clamp (by omega), nI_clamp (by omega)]) m 0 0 xF (by omega) (xF_ge (by omega))
  exact h
