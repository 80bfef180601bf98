/-! numbers -/
theorem xgI {α : Type} {k n : Nat} (h : k < n) (hn : n < 2 ^ 31) (K : Option α) : xg (nI k) n K = K := by
  unfold xg
  exact if_neg (nI_in h hn)
theorem ifLe {α : Type} {a b : Nat} (ha : a < 2 ^ 31) (hb : b < 2 ^ 31) (h : a ≤ b) (A B : α) : (if nI a ≤ nI b then A else B) = A := if_pos ((nI_leI ha hb).mpr h)
theorem ifNle {α : Type} {a b : Nat} (ha : a < 2 ^ 31) (hb : b < 2 ^ 31) (h : b < a) (A B : α) : (if nI a ≤ nI b then A else B) = B := if_neg (fun q => absurd ((nI_leI ha hb).mp q) (by omega))
theorem ifLt {α : Type} {a b : Nat} (ha : a < 2 ^ 31) (hb : b < 2 ^ 31) (h : a < b) (A B : α) : (if nI a < nI b then A else B) = A := if_pos ((nI_ltI ha hb).mpr h)
theorem ifNlt {α : Type} {a b : Nat} (ha : a < 2 ^ 31) (hb : b < 2 ^ 31) (h : b ≤ a) (A B : α) : (if nI a < nI b then A else B) = B := if_neg (fun q => absurd ((nI_ltI ha hb).mp q) (by omega))
theorem ifEq {α : Type} {a b : Nat} (h : a = b) (A B : α) : (if nI a = nI b then A else B) = A := if_pos (by rw [h])
theorem ifNe {α : Type} {a b : Nat} (ha : a < 2 ^ 31) (hb : b < 2 ^ 31) (h : a ≠ b) (A B : α) : (if nI a = nI b then A else B) = B := if_neg (fun q => h ((nI_eq ha hb).mp q))
theorem xF_ge {n : Nat} (h : n < 1000000) : n < xF := h
theorem bnd {α β : Type} {x : Option α} {a : α} {f : α → Option β} (h : x = some a) : x.bind f = f a := by rw [h]; rfl
theorem i0 : (0 : Int32) = nI 0 := rfl
theorem i1 : (1 : Int32) = nI 1 := rfl
theorem i2 : (2 : Int32) = nI 2 := rfl
theorem i3 : (3 : Int32) = nI 3 := rfl
theorem i4 : (4 : Int32) = nI 4 := rfl
theorem i5 : (5 : Int32) = nI 5 := rfl
theorem i120 : (120 : Int32) = nI 120 := rfl
theorem cl0 : (0 : Int32).toNatClampNeg = 0 := rfl
/-! loops that count up -/
def itr {σ : Type} (nx : Nat → σ → σ) : Nat → Nat → σ → σ
  | 0, _, s => s
  | d + 1, i, s => itr nx d (i + 1) (nx i s)
theorem loopN {σ ρ : Type} (L : Nat → Nat → σ → Option ρ) (e : Nat) (fin : σ → Option ρ) (nx : Nat → σ → σ) (h0 : ∀ f s, L (f + 1) e s = fin s) (h1 : ∀ f i s, i < e → L (f + 1) i s = L f (i + 1) (nx i s)) :
    ∀ d i s f, i + d = e → d < f → L f i s = fin (itr nx d i s) := by
  intro d
  induction d with
  | zero =>
    intro i s f hi hf
    obtain ⟨f, rfl⟩ : ∃ g, f = g + 1 := ⟨f - 1, by omega⟩
    obtain rfl : i = e := by omega
    exact h0 f s
  | succ d ih =>
    intro i s f hi hf
    obtain ⟨f, rfl⟩ : ∃ g, f = g + 1 := ⟨f - 1, by omega⟩
    rw [h1 f i s (by omega)]
    exact ih (i + 1) (nx i s) f (by omega) (by omega)
theorem loopI {σ ρ : Type} (I : Nat → σ → Prop) (L : Nat → Nat → σ → Option ρ) (e : Nat) (fin : σ → Option ρ) (nx : Nat → σ → σ) (h0 : ∀ f s, I e s → L (f + 1) e s = fin s) (h1 : ∀ f i s, i < e → I i s → L (f + 1) i s = L f (i + 1) (nx i s) ∧ I (i + 1) (nx i s)) :
    ∀ d i s f, i + d = e → d < f → I i s → L f i s = fin (itr nx d i s) ∧ I e (itr nx d i s) := by
  intro d
  induction d with
  | zero =>
    intro i s f hi hf hI
    obtain ⟨f, rfl⟩ : ∃ g, f = g + 1 := ⟨f - 1, by omega⟩
    obtain rfl : i = e := by omega
    exact ⟨h0 f s hI, hI⟩
  | succ d ih =>
    intro i s f hi hf hI
    obtain ⟨f, rfl⟩ : ∃ g, f = g + 1 := ⟨f - 1, by omega⟩
    obtain ⟨h2, h3⟩ := h1 f i s (by omega) hI
    rw [h2]
    exact ih (i + 1) (nx i s) f (by omega) (by omega) h3
theorem itr_add {σ : Type} (nx : Nat → σ → σ) : ∀ a b i s, itr nx (a + b) i s = itr nx b (i + a) (itr nx a i s) := by
  intro a
  induction a with
  | zero => intro b i s; rw [Nat.zero_add]; rfl
  | succ a ih =>
    intro b i s
    rw [show a + 1 + b = (a + b) + 1 by omega]
    show itr nx (a + b) (i + 1) (nx i s) = _
    rw [ih, show i + 1 + a = i + (a + 1) by omega]
    rfl
theorem itr_congr {σ : Type} {nx ny : Nat → σ → σ} : ∀ d i s, (∀ j, i ≤ j → j < i + d → ∀ s, nx j s = ny j s) → itr nx d i s = itr ny d i s := by
  intro d
  induction d with
  | zero => intro i s h; rfl
  | succ d ih =>
    intro i s h
    show itr nx d (i + 1) (nx i s) = itr ny d (i + 1) (ny i s)
    rw [h i (Nat.le_refl _) (by omega), ih (i + 1) _ (fun j h1 h2 s => h j (by omega) (by omega) s)]
theorem itr_id {σ : Type} {nx : Nat → σ → σ} : ∀ d i s, (∀ j, i ≤ j → j < i + d → ∀ s, nx j s = s) → itr nx d i s = s := by
  intro d
  induction d with
  | zero => intro i s h; rfl
  | succ d ih =>
    intro i s h
    show itr nx d (i + 1) (nx i s) = s
    rw [h i (Nat.le_refl _) (by omega)]
    exact ih (i + 1) s (fun j h1 h2 s => h j (by omega) (by omega) s)
theorem itr_fillL (g : Nat → Int64) : ∀ d i (v : Nat → Int64), itr (fun i v => vp_updL v i (g i)) d i v = fun j => if i ≤ j ∧ j < i + d then g j else v j := by
  intro d
  induction d with
  | zero => intro i v; funext j; rw [if_neg (by omega)]; rfl
  | succ d ih =>
    intro i v
    show itr _ d (i + 1) (vp_updL v i (g i)) = _
    rw [ih]
    funext j
    by_cases hj : j = i
    · subst hj; rw [if_neg (by omega), if_pos (by omega)]; simp [vp_updL]
    · by_cases h2 : i + 1 ≤ j ∧ j < i + 1 + d
      · rw [if_pos h2, if_pos (by omega)]
      · rw [if_neg h2, if_neg (by omega)]; simp [vp_updL, hj]
theorem itr_fillI (g : Nat → Int32) : ∀ d i (v : Nat → Int32), itr (fun i v => upd v i (g i)) d i v = fun j => if i ≤ j ∧ j < i + d then g j else v j := by
  intro d
  induction d with
  | zero => intro i v; funext j; rw [if_neg (by omega)]; rfl
  | succ d ih =>
    intro i v
    show itr _ d (i + 1) (upd v i (g i)) = _
    rw [ih]
    funext j
    by_cases hj : j = i
    · subst hj; rw [if_neg (by omega), if_pos (by omega)]; simp [upd]
    · by_cases h2 : i + 1 ≤ j ∧ j < i + 1 + d
      · rw [if_pos h2, if_pos (by omega)]
      · rw [if_neg h2, if_neg (by omega)]; simp [upd, hj]
/-! the class's small loops -/
theorem x_makeZeros (m : Nat) (hm : m ≤ 120) (v : Nat → Int64) : F_X5_makeZeros (nI m) v = some (fun j => if j < m then 0 else v j) := by
  have h := loopN (fun f i v => F_X5_makeZeros_2 (nI m) f (nI i) v) m some (fun i v => vp_updL v i 0)
    (fun f s => by show F_X5_makeZeros_2 _ _ _ _ = _; rw [E_X5_makeZeros_2, ifLe (by omega) (by omega) (by omega)])
    (fun f i s hi => by show F_X5_makeZeros_2 _ _ _ _ = _; rw [E_X5_makeZeros_2, ifNle (by omega) (by omega) (by omega), xgI (by omega) (by omega), nI_1, nI_clamp (by omega)]) m 0 v xF (by omega) (xF_ge (by omega))
  rw [itr_fillL (fun _ => 0)] at h
  unfold F_X5_makeZeros
  refine h.trans ?_
  congr 1; funext j; simp
theorem x_makeCopyOf (m p : Nat) (hm : m ≤ 120) (hp : p < 3) (s : Nat → Nat → Int32) (v : Nat → Int64) : F_X5_makeCopyOf s (nI m) (nI p) v = some (fun j => if j < m then (s p j).toInt64 else v j) := by
  have h := loopN (fun f i v => F_X5_makeCopyOf_2 s (nI m) (nI p) f (nI i) v) m some (fun i v => vp_updL v i (s p i).toInt64)
    (fun f s => by show F_X5_makeCopyOf_2 _ _ _ _ _ _ = _; rw [E_X5_makeCopyOf_2, ifLe (by omega) (by omega) (by omega)])
    (fun f i s hi => by show F_X5_makeCopyOf_2 _ _ _ _ _ _ = _; rw [E_X5_makeCopyOf_2, ifNle (by omega) (by omega) (by omega), xgI hp (by omega), xgI (by omega) (by omega), nI_1, nI_clamp (by omega), nI_clamp (by omega)]) m 0 v xF (by omega) (xF_ge (by omega))
  rw [itr_fillL (fun i => (s p i).toInt64)] at h
  unfold F_X5_makeCopyOf
  refine h.trans ?_
  congr 1; funext j; simp
def cntI (f : Nat → Int32) (m : Nat) : Int32 := itr (fun o t => if f o = 0 then t else t + 1) m 0 0
theorem x_termsIn (m p : Nat) (hm : m ≤ 120) (hp : p < 3) (s : Nat → Nat → Int32) : F_X5_termsIn s (nI m) (nI p) = some (cntI (s p) m) := by
  have h := loopN (fun f i t => F_X5_termsIn_4 s (nI m) (nI p) f t (nI i)) m some (fun o t => if s p o = 0 then t else t + 1)
    (fun f t => by show F_X5_termsIn_4 _ _ _ _ _ _ = _; rw [E_X5_termsIn_4, ifLe (by omega) (by omega) (by omega)])
    (fun f i t hi => by
      show F_X5_termsIn_4 _ _ _ _ _ _ = F_X5_termsIn_4 _ _ _ _ _ _
      rw [E_X5_termsIn_4, ifNle (by omega) (by omega) (by omega), xgI hp (by omega), xgI (by omega) (by omega), nI_1, nI_clamp (by omega), nI_clamp (by omega)]
      by_cases c : s p i = 0
      · rw [if_pos c, if_pos c]
      · rw [if_neg c, if_neg c]) m 0 0 xF (by omega) (xF_ge (by omega))
  exact h
theorem lg0 (x : Int64) : lg_cmp x 0 = 0 ↔ x = 0 := by
  unfold lg_cmp
  by_cases h1 : x > 0
  · rw [if_pos h1]
    constructor
    · intro h; exact absurd h (by decide)
    · intro h; rw [h] at h1; exact absurd h1 (by decide)
  · rw [if_neg h1]
    by_cases h2 : x = 0
    · rw [if_pos h2]; exact ⟨fun _ => h2, fun _ => rfl⟩
    · rw [if_neg h2]; exact ⟨fun h => absurd h (by decide), fun h => absurd h h2⟩
def cntL (f : Nat → Int64) (m : Nat) : Int32 := itr (fun o t => if f o = 0 then t else t + 1) m 0 0
theorem x_termsMade (m : Nat) (hm : m ≤ 120) (v : Nat → Int64) : F_X5_termsMade v (nI m) = some (cntL v m) := by
  have h := loopN (fun f i t => F_X5_termsMade_4 v (nI m) f t (nI i)) m some (fun o t => if v o = 0 then t else t + 1)
    (fun f t => by show F_X5_termsMade_4 _ _ _ _ _ = _; rw [E_X5_termsMade_4, ifLe (by omega) (by omega) (by omega)])
    (fun f i t hi => by
      show F_X5_termsMade_4 _ _ _ _ _ = F_X5_termsMade_4 _ _ _ _ _
      rw [E_X5_termsMade_4, ifNle (by omega) (by omega) (by omega), xgI (by omega) (by omega), nI_1, nI_clamp (by omega)]
      by_cases c : v i = 0
      · rw [if_pos c, if_pos ((lg0 _).mpr c)]
      · rw [if_neg c, if_neg (fun q => c ((lg0 _).mp q))]) m 0 0 xF (by omega) (xF_ge (by omega))
  exact h
theorem x_factorsAddedUp (m p : Nat) (hm : m ≤ 120) (hp : p < 3) (s : Nat → Nat → Int32) : F_X5_factorsAddedUp s (nI m) (nI p) = some (itr (fun o t => t + s p o) m 0 0) := by
  have h := loopN (fun f i t => F_X5_factorsAddedUp_4 s (nI m) (nI p) f t (nI i)) m some (fun o t => t + s p o)
    (fun f t => by show F_X5_factorsAddedUp_4 _ _ _ _ _ _ = _; rw [E_X5_factorsAddedUp_4, ifLe (by omega) (by omega) (by omega)])
    (fun f i t hi => by
      show F_X5_factorsAddedUp_4 _ _ _ _ _ _ = F_X5_factorsAddedUp_4 _ _ _ _ _ _
      rw [E_X5_factorsAddedUp_4, ifNle (by omega) (by omega) (by omega), xgI hp (by omega), xgI (by omega) (by omega), nI_1, nI_clamp (by omega), nI_clamp (by omega)]) m 0 0 xF (by omega) (xF_ge (by omega))
  exact h

/-! arguments -/
theorem lgn (x y : Int64) : lg_cmp x y < 0 ↔ x < y := by
  unfold lg_cmp
  by_cases h1 : x > y
  · rw [if_pos h1]; exact ⟨fun h => absurd h (by decide), fun h => absurd (Int64.lt_trans h h1) (Int64.lt_irrefl)⟩
  · rw [if_neg h1]
    by_cases h2 : x = y
    · rw [if_pos h2]; exact ⟨fun h => absurd h (by decide), fun h => absurd (h2 ▸ h) (Int64.lt_irrefl)⟩
    · rw [if_neg h2]
      refine ⟨fun _ => ?_, fun _ => by decide⟩
      rcases Int64.lt_or_eq_of_le (Int64.not_lt.mp h1) with h | h
      · exact h
      · exact absurd h h2
theorem lgp (x y : Int64) : 0 < lg_cmp x y ↔ y < x := by
  unfold lg_cmp
  by_cases h1 : x > y
  · rw [if_pos h1]; exact ⟨fun _ => h1, fun _ => by decide⟩
  · rw [if_neg h1]
    by_cases h2 : x = y
    · rw [if_pos h2]; exact ⟨fun h => absurd h (by decide), fun h => absurd h h1⟩
    · rw [if_neg h2]; exact ⟨fun h => absurd h (by decide), fun h => absurd h h1⟩
theorem lgq (x y : Int64) : lg_cmp x y ≤ 0 ↔ ¬ y < x := by
  rw [← lgp]; exact ⟨fun h q => absurd (Int32.lt_of_lt_of_le q h) (Int32.lt_irrefl), fun h => Int32.not_lt.mp h⟩
theorem w_lt (a b : Int32) : a.toInt64 < b.toInt64 ↔ a < b := by
  rw [Int64.lt_iff_toInt_lt, Int32.lt_iff_toInt_lt, Int32.toInt_toInt64, Int32.toInt_toInt64]
theorem isW_t {x a b : Int32} (h1 : a ≤ x) (h2 : x ≤ b) : F_X5_isWithin x a b = some 1 := by
  unfold F_X5_isWithin
  rw [if_neg (Int32.not_lt.mpr h1), if_neg (Int32.not_lt.mpr h2)]
theorem isW_f {x a b : Int32} (h : x < a ∨ b < x) : F_X5_isWithin x a b = some 0 := by
  unfold F_X5_isWithin
  rcases h with h | h
  · rw [if_pos h]
  · by_cases c : x < a
    · rw [if_pos c]
    · rw [if_neg c, if_pos h]
theorem xb1 {α : Type} (k : Option α) : xb 1 k = k := rfl
theorem xb0 {α : Type} (k : Option α) : xb 0 k = k := rfl
/-- an argument that must be below n: it is, or both sides refuse it -/
theorem arg_t {k n : Nat} (h : k < n) (hn : n < 2 ^ 31) : F_X5_isWithin (nI k) (nI 0) (nI n - nI 1) = some 1 := by
  rw [pk_sub (by omega)]
  exact isW_t (nI_le (by omega) (by omega)) (nI_le (by omega) (by omega))
theorem arg_f {x : Int32} {n : Nat} (h : x < 0 ∨ nI n ≤ x) (hn : n < 2 ^ 31) (h0 : 0 < n) : F_X5_isWithin x (nI 0) (nI n - nI 1) = some 0 := by
  rw [pk_sub (by omega)]
  refine isW_f (h.imp id fun h => Int32.lt_of_lt_of_le (nI_lt (by omega) (by omega)) h)
theorem isSum_t {k : Nat} (h : k < 3) : F_X5_isSum (nI k) = some 1 := by
  unfold F_X5_isSum
  exact bnd (arg_t (n := 3) h (by omega))
def fac : Nat → Nat
  | 0 => 1
  | n + 1 => (n + 1) * fac n
theorem fac_le {n : Nat} (h : n ≤ 5) : fac n ≤ 120 := by
  have : ∀ n, n ≤ 5 → fac n ≤ 120 := by decide
  exact this n h
theorem fac_pos {n : Nat} (h : n ≤ 5) : 0 < fac n := by
  have : ∀ n, n ≤ 5 → 0 < fac n := by decide
  exact this n h
theorem isOrder_t {k m : Nat} (h : k < m) (hm : m ≤ 120) : F_X5_isOrder (nI m) (nI k) = some 1 := by
  unfold F_X5_isOrder
  exact bnd (arg_t h (by omega))
/-! the model's numbers -/
/-! a state: n, and the three sums, as the class and as the model hold them -/
theorem xacI {α : Type} {a b n ns nd : Nat} (ha : a < 2 ^ 31) (hb : b < 2 ^ 31) (hn : n < 2 ^ 31) (h1 : a + n ≤ ns) (h2 : b + n ≤ nd) (k : Option α) : xac (nI a) (nI b) (nI n) ns nd k = k := by
  unfold xac
  rw [nI_clamp ha, nI_clamp hb, nI_clamp hn]
  refine if_neg ?_
  rintro (h | h | h | h | h)
  · exact nI_pos ha h
  · exact nI_pos hb h
  · exact nI_pos hn h
  · omega
  · omega
def keepF (s : Nat → Nat → Int32) (x : Nat) (hf : Nat → Nat → Int32) : Nat → Nat → Int32 := itr (fun i hf => va_up hf x (va_cpy (s i) (hf x) 0 (i * 120) 120)) 3 0 hf
theorem x_keep (s : Nat → Nat → Int32) (a : Int32) {h x : Nat} (hh : h ≤ 4) (hx : x < 4) (hl : Nat → Int32) (hf : Nat → Nat → Int32) :
    F_X0_keep s a (nI h) (nI x) hl hf = some (nI (if h < 4 then h + 1 else 4), nI ((x + 1) % 4), upd hl x a, keepF s x hf) := by
  have hlp := loopN (fun f i hf => F_X0_keep_12 s f (nI i) (nI h) (nI x) (upd hl x a) hf) 3 (fun hf => some (nI (if h < 4 then h + 1 else 4), nI ((x + 1) % 4), upd hl x a, hf)) (fun i hf => va_up hf x (va_cpy (s i) (hf x) 0 (i * 120) 120))
    (fun f v => by
      show F_X0_keep_12 _ _ _ _ _ _ _ = _
      rw [E_X0_keep_12, i3, ifLe (by omega) (by omega) (by omega), i4, nI_1, nI_1, pk_rem (by omega) (by omega) (by omega)]
      congr 2
      by_cases c : h < 4
      · rw [ifNlt (by omega) (by omega) (by omega), if_pos c]
      · rw [ifLt (by omega) (by omega) (by omega), if_neg c])
    (fun f i v hi => by
      show F_X0_keep_12 _ _ _ _ _ _ _ = F_X0_keep_12 _ _ _ _ _ _ _
      rw [E_X0_keep_12, i3, ifNle (by omega) (by omega) (by omega), xgI (by omega) (by omega), xgI (by omega) (by omega), i120, pk_mul, i0, xacI (by omega) (by omega) (by omega) (by omega) (by omega), nI_1, nI_clamp (by omega), nI_clamp (by omega), nI_clamp (by omega), nI_clamp (by omega), nI_clamp (by omega)]) 3 0 hf xF (by omega) (xF_ge (by omega))
  unfold F_X0_keep
  rw [xgI (by omega) (by omega), nI_clamp (by omega)]
  exact hlp
theorem itr_put (al : Nat → Int32) (b : Nat) : ∀ d i (v : Nat → Int32), itr (fun j v => upd v (b + j) (al j)) d i v = fun j => if b + i ≤ j ∧ j < b + i + d then al (j - b) else v j := by
  intro d
  induction d with
  | zero => intro i v; funext j; rw [if_neg (by omega)]; rfl
  | succ d ih =>
    intro i v
    show itr _ d (i + 1) (upd v (b + i) (al i)) = _
    rw [ih]
    funext j
    by_cases hj : j = b + i
    · subst hj; rw [if_neg (by omega), if_pos (by omega)]; simp [upd]
    · by_cases h2 : b + (i + 1) ≤ j ∧ j < b + (i + 1) + d
      · rw [if_pos h2, if_pos (by omega)]
      · rw [if_neg h2, if_neg (by omega)]; simp [upd, hj]
/-! a change: what was made becomes the sum, or is too great, on both sides -/
def okL (x : Int64) : Prop := ¬ x < -50000 ∧ ¬ 50000 < x
theorem okL_0 : okL 0 := by unfold okL; decide
theorem okL_i {x : Int64} (h : okL x) : x.toInt32.toInt = x.toInt ∧ -50000 ≤ x.toInt ∧ x.toInt ≤ 50000 := by
  obtain ⟨h1, h2⟩ := h
  have a1 : -50000 ≤ x.toInt := by
    have := Int64.not_lt.mp h1
    rw [Int64.le_iff_toInt_le] at this
    exact this
  have a2 : x.toInt ≤ 50000 := by
    have := Int64.not_lt.mp h2
    rw [Int64.le_iff_toInt_le] at this
    exact this
  refine ⟨?_, a1, a2⟩
  rw [Int64.toInt_toInt32]
  exact Int.bmod_eq_of_le (by omega) (by omega)
theorem itr_row (g : Nat → Int32) (p : Nat) : ∀ d i (s : Nat → Nat → Int32), itr (fun j s => va_up s p (upd (s p) j (g j))) d i s = va_up s p (fun j => if i ≤ j ∧ j < i + d then g j else s p j) := by
  intro d
  induction d with
  | zero =>
    intro i s; funext r; funext j
    by_cases hr : r = p
    · subst hr; simp only [va_up, if_true]; rw [if_neg (by omega)]; rfl
    · simp only [va_up, if_neg hr]; rfl
  | succ d ih =>
    intro i s
    show itr _ d (i + 1) (va_up s p (upd (s p) i (g i))) = _
    rw [ih]
    funext r; funext j
    by_cases hr : r = p
    · subst hr
      simp only [va_up, if_true]
      by_cases hj : j = i
      · subst hj; rw [if_neg (by omega), if_pos (by omega)]; simp [upd]
      · by_cases h2 : i + 1 ≤ j ∧ j < i + 1 + d
        · rw [if_pos h2, if_pos (by omega)]
        · rw [if_neg h2, if_neg (by omega)]; simp [upd, hj]
    · simp only [va_up, if_neg hr]
theorem x_settle68 (made : Nat → Int64) {m p : Nat} (hm : m ≤ 120) (hp : p < 3) (ans : Int32) (s : Nat → Nat → Int32) (a b : Int32) (hl : Nat → Int32) (hf : Nat → Nat → Int32) :
    F_X5_settle_68 made (nI m) (nI p) ans xF (0 : Int32) s a b hl hf = some (ans, va_up s p (fun j => if j < m then (made j).toInt32 else s p j), a, b, hl, hf) := by
  have hlp := loopN (fun f i s => F_X5_settle_68 made (nI m) (nI p) ans f (nI i) s a b hl hf) m (fun s => some (ans, s, a, b, hl, hf)) (fun i s => va_up s p (upd (s p) i (made i).toInt32))
    (fun f v => by
      show F_X5_settle_68 _ _ _ _ _ _ _ _ _ _ _ = _
      rw [E_X5_settle_68, ifLe (by omega) (by omega) (by omega)])
    (fun f i v hi => by
      show F_X5_settle_68 _ _ _ _ _ _ _ _ _ _ _ = F_X5_settle_68 _ _ _ _ _ _ _ _ _ _ _
      rw [E_X5_settle_68, ifNle (by omega) (by omega) (by omega), xgI hp (by omega), xgI (by omega) (by omega), nI_1, nI_clamp (by omega), nI_clamp (by omega)]) m 0 s xF (by omega) (xF_ge (by omega))
  refine hlp.trans ?_
  rw [itr_row]
  simp
theorem x_settle2 (made : Nat → Int64) (fn : Int32) {m p : Nat} (hm : m ≤ 120) (ans : Int32) (s : Nat → Nat → Int32) (a b : Int32) (hl : Nat → Int32) (hf : Nat → Nat → Int32) : ∀ d k f, k + d = m → d < f →
    ((∀ i, k ≤ i → i < m → okL (made i)) → F_X5_settle_2 made fn (nI m) (nI p) ans f (nI k) s a b hl hf = (F_X0_keep s fn a b hl hf).bind fun q2 => F_X5_settle_68 made (nI m) (nI p) ans xF (0 : Int32) s q2.1 q2.2.1 q2.2.2.1 q2.2.2.2) ∧
    ((∃ i, k ≤ i ∧ i < m ∧ ¬ okL (made i)) → F_X5_settle_2 made fn (nI m) (nI p) ans f (nI k) s a b hl hf = some (-10000003, s, a, b, hl, hf)) := by
  intro d
  induction d with
  | zero =>
    intro k f hk hf0
    obtain ⟨f, rfl⟩ : ∃ g, f = g + 1 := ⟨f - 1, by omega⟩
    refine ⟨fun _ => ?_, fun ⟨i, h1, h2, _⟩ => absurd h2 (by omega)⟩
    rw [E_X5_settle_2, ifLe (by omega) (by omega) (by omega)]
  | succ d ih =>
    intro k f hk hf0
    obtain ⟨f, rfl⟩ : ∃ g, f = g + 1 := ⟨f - 1, by omega⟩
    obtain ⟨ih1, ih2⟩ := ih (k + 1) f (by omega) (by omega)
    rw [E_X5_settle_2, ifNle (by omega) (by omega) (by omega), xgI (by omega) (by omega), nI_1, nI_clamp (by omega)]
    by_cases c : okL (made k)
    · rw [if_neg (fun q => c.1 ((lgn _ _).mp q)), if_pos ((lgq _ _).mpr c.2)]
      refine ⟨fun h => ih1 fun i h1 h2 => h i (by omega) h2, fun ⟨i, h1, h2, h3⟩ => ih2 ⟨i, ?_, h2, h3⟩⟩
      rcases Nat.lt_or_eq_of_le h1 with q | q
      · exact q
      · subst q; exact absurd c h3
    · refine ⟨fun h => absurd (h k (by omega) (by omega)) c, fun _ => ?_⟩
      by_cases c1 : made k < -50000
      · rw [if_pos ((lgn _ _).mpr c1)]
      · rw [if_neg (fun q => c1 ((lgn _ _).mp q)), if_neg (fun q => c ⟨c1, (lgq _ _).mp q⟩)]
/-! the two answer alike: add, clear, combine, factor, termOf, count -/
theorem within_c (x a b : Int32) : F_X5_isWithin x a b = some 1 ∨ F_X5_isWithin x a b = some 0 := by
  unfold F_X5_isWithin
  by_cases c : x < a
  · right; rw [if_pos c]
  · rw [if_neg c]
    by_cases c2 : b < x
    · right; rw [if_pos c2]
    · left; rw [if_neg c2]
section AG
variable {n : Nat} {s : Nat → Nat → Int32} {al : Nat → Int32} {hm hx : Int32} {hl : Nat → Int32} {hf : Nat → Nat → Int32} {hlong : Int32} {mh : Nat → Int32}
end AG

