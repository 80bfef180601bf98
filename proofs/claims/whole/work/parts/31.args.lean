/-! arguments -/
theorem lgn (x y : Int64) : lg_cmp x y < 0 ↔ x < y := by
  unfold lg_cmp
  by_cases h1 : x > y
  · rw [if_pos h1]; exact ⟨fun h => absurd h (by decide), fun h => absurd (Int64.lt_trans h h1) (Int64.lt_irrefl)⟩
  · rw [if_neg h1]
    by_cases h2 : x = y
    · rw [if_pos h2]; exact ⟨fun h => absurd h (by decide), fun h => absurd (h2 ▸ h) (Int64.lt_irrefl)⟩
    · rw [if_neg h2]
      refine ⟨fun _ => ?_, fun _ => by decide⟩
      rcases Int64.lt_or_eq_of_le (Int64.not_lt.mp h1) with h | h
      · exact h
      · exact absurd h h2
theorem lgp (x y : Int64) : 0 < lg_cmp x y ↔ y < x := by
  unfold lg_cmp
  by_cases h1 : x > y
  · rw [if_pos h1]; exact ⟨fun _ => h1, fun _ => by decide⟩
  · rw [if_neg h1]
    by_cases h2 : x = y
    · rw [if_pos h2]; exact ⟨fun h => absurd h (by decide), fun h => absurd h h1⟩
    · rw [if_neg h2]; exact ⟨fun h => absurd h (by decide), fun h => absurd h h1⟩
theorem lgq (x y : Int64) : lg_cmp x y ≤ 0 ↔ ¬ y < x := by
  rw [← lgp]; exact ⟨fun h q => absurd (Int32.lt_of_lt_of_le q h) (Int32.lt_irrefl), fun h => Int32.not_lt.mp h⟩
theorem w_lt (a b : Int32) : a.toInt64 < b.toInt64 ↔ a < b := by
  rw [Int64.lt_iff_toInt_lt, Int32.lt_iff_toInt_lt, Int32.toInt_toInt64, Int32.toInt_toInt64]
theorem isW_t {x a b : Int32} (h1 : a ≤ x) (h2 : x ≤ b) : F_X5_isWithin x a b = some 1 := by
  unfold F_X5_isWithin
  rw [if_neg (Int32.not_lt.mpr h1), if_neg (Int32.not_lt.mpr h2)]
theorem isW_f {x a b : Int32} (h : x < a ∨ b < x) : F_X5_isWithin x a b = some 0 := by
  unfold F_X5_isWithin
  rcases h with h | h
  · rw [if_pos h]
  · by_cases c : x < a
    · rw [if_pos c]
    · rw [if_neg c, if_pos h]
theorem m_in (x a b : Int32) : F_X6_in x.toInt64 a.toInt64 b.toInt64 = F_X5_isWithin x a b := by
  unfold F_X6_in F_X5_isWithin
  by_cases h1 : x < a
  · rw [if_pos ((lgn _ _).mpr ((w_lt _ _).mpr h1)), if_pos h1]
  · rw [if_neg (fun q => h1 ((w_lt _ _).mp ((lgn _ _).mp q))), if_neg h1]
    by_cases h2 : b < x
    · rw [if_pos ((lgp _ _).mpr ((w_lt _ _).mpr h2)), if_pos h2]
    · rw [if_neg (fun q => h2 ((w_lt _ _).mp ((lgp _ _).mp q))), if_neg h2]
theorem xb1 {α : Type} (k : Option α) : xb 1 k = k := rfl
theorem xb0 {α : Type} (k : Option α) : xb 0 k = k := rfl
/-- an argument that must be below n: it is, or both sides refuse it -/
theorem arg_t {k n : Nat} (h : k < n) (hn : n < 2 ^ 31) : F_X5_isWithin (nI k) (nI 0) (nI n - nI 1) = some 1 := by
  rw [pk_sub (by omega)]
  exact isW_t (nI_le (by omega) (by omega)) (nI_le (by omega) (by omega))
theorem arg_f {x : Int32} {n : Nat} (h : x < 0 ∨ nI n ≤ x) (hn : n < 2 ^ 31) (h0 : 0 < n) : F_X5_isWithin x (nI 0) (nI n - nI 1) = some 0 := by
  rw [pk_sub (by omega)]
  refine isW_f (h.imp id fun h => Int32.lt_of_lt_of_le (nI_lt (by omega) (by omega)) h)
theorem isSum_t {k : Nat} (h : k < 3) : F_X5_isSum (nI k) = some 1 := by
  unfold F_X5_isSum
  exact bnd (arg_t (n := 3) h (by omega))
theorem isSum_f {x : Int32} (h : x < 0 ∨ nI 3 ≤ x) : F_X5_isSum x = some 0 := by
  unfold F_X5_isSum
  exact bnd (arg_f (n := 3) h (by omega) (by omega))
theorem m_isSum (x : Int32) : F_X6_isSum x = F_X5_isSum x := by
  unfold F_X6_isSum F_X5_isSum
  rw [show (0 : Int64) = (0 : Int32).toInt64 from rfl, show (2 : Int64) = (2 : Int32).toInt64 from rfl, m_in]
def fac : Nat → Nat
  | 0 => 1
  | n + 1 => (n + 1) * fac n
theorem fac_le {n : Nat} (h : n ≤ 5) : fac n ≤ 120 := by
  have : ∀ n, n ≤ 5 → fac n ≤ 120 := by decide
  exact this n h
theorem fac_pos {n : Nat} (h : n ≤ 5) : 0 < fac n := by
  have : ∀ n, n ≤ 5 → 0 < fac n := by decide
  exact this n h
theorem isOrder_t {k m : Nat} (h : k < m) (hm : m ≤ 120) : F_X5_isOrder (nI m) (nI k) = some 1 := by
  unfold F_X5_isOrder
  exact bnd (arg_t h (by omega))
theorem isOrder_f {x : Int32} {m : Nat} (h : x < 0 ∨ nI m ≤ x) (hm : m ≤ 120) (h0 : 0 < m) : F_X5_isOrder (nI m) x = some 0 := by
  unfold F_X5_isOrder
  exact bnd (arg_f h (by omega) h0)
/-! the model's numbers -/
theorem m_ordersOf {n : Nat} (h : n ≤ 5) : F_X6_ordersOf (nI n) = some (nI (fac n)) := by
  have hh : ∀ n, n ≤ 5 → F_X6_ordersOf (nI n) = some (nI (fac n)) := by decide +kernel
  exact hh n h
theorem m_n {al : Nat → Int32} {n : Nat} (h : al 0 = nI n) : F_X6_n al = some (nI n) := by unfold F_X6_n; rw [cl0, h]
theorem m_orders {al : Nat → Int32} {n : Nat} (h : al 0 = nI n) (hn : n ≤ 5) : F_X6_orders al = some (nI (fac n)) := by
  unfold F_X6_orders
  rw [bnd (m_n h), bnd (m_ordersOf hn)]
theorem m_isOrder {al : Nat → Int32} {n : Nat} (h : al 0 = nI n) (hn : n ≤ 5) (x : Int32) : F_X6_isOrder al x = F_X5_isOrder (nI (fac n)) x := by
  unfold F_X6_isOrder F_X5_isOrder
  rw [bnd (m_orders h hn), show (0 : Int64) = (0 : Int32).toInt64 from rfl, m_in]
theorem m_get {al : Nat → Int32} {p o : Nat} (hp : p < 3) (ho : o < 120) : F_X6_get al (nI p) (nI o) = some (al (4 + 120 * p + o)) := by
  unfold F_X6_get
  rw [i4, i120, pk_mul, nI_add, nI_add, xgI (by omega) (by omega), nI_clamp (by omega)]
theorem m_empties (v : Nat → Int64) : F_X6_empties v = some (fun j => if j < 120 then 0 else v j) := by
  have h := loopN (fun f i v => F_X6_empties_2 f (nI i) v) 120 some (fun i v => vp_updL v i 0)
    (fun f s => by show F_X6_empties_2 _ _ _ = _; rw [E_X6_empties_2, i120, ifLe (by omega) (by omega) (by omega)])
    (fun f i s hi => by show F_X6_empties_2 _ _ _ = _; rw [E_X6_empties_2, i120, ifNle (by omega) (by omega) (by omega), xgI (by omega) (by omega), nI_1, nI_clamp (by omega)]) 120 0 v xF (by omega) (xF_ge (by omega))
  rw [itr_fillL (fun _ => 0)] at h
  unfold F_X6_empties
  refine h.trans (congrArg some (funext fun j => ?_))
  by_cases hj : j < 120
  · rw [if_pos (by omega), if_pos hj]
  · rw [if_neg (by omega), if_neg hj]
theorem m_begins {al : Nat → Int32} {p : Nat} (hp : p < 3) (v : Nat → Int64) : F_X6_begins al (nI p) v = some (fun j => if j < 120 then (al (4 + 120 * p + j)).toInt64 else v j) := by
  have h := loopN (fun f i v => F_X6_begins_2 al (nI p) f (nI i) v) 120 some (fun i v => vp_updL v i (al (4 + 120 * p + i)).toInt64)
    (fun f s => by show F_X6_begins_2 _ _ _ _ _ = _; rw [E_X6_begins_2, i120, ifLe (by omega) (by omega) (by omega)])
    (fun f i s hi => by show F_X6_begins_2 _ _ _ _ _ = _; rw [E_X6_begins_2, i120, ifNle (by omega) (by omega) (by omega), bnd (m_get hp hi), xgI (by omega) (by omega), nI_1, nI_clamp (by omega)]) 120 0 v xF (by omega) (xF_ge (by omega))
  rw [itr_fillL (fun i => (al (4 + 120 * p + i)).toInt64)] at h
  unfold F_X6_begins
  refine h.trans (congrArg some (funext fun j => ?_))
  by_cases hj : j < 120
  · rw [if_pos (by omega), if_pos hj]
  · rw [if_neg (by omega), if_neg hj]
theorem m_others {al : Nat → Int32} {p : Nat} (hp : p < 3) : F_X6_others al (nI p) = some (cntI (fun o => al (4 + 120 * p + o)) 120) := by
  have h := loopN (fun f i t => F_X6_others_4 al (nI p) f t (nI i)) 120 some (fun o t => if al (4 + 120 * p + o) = 0 then t else t + 1)
    (fun f t => by show F_X6_others_4 _ _ _ _ _ = _; rw [E_X6_others_4, i120, ifLe (by omega) (by omega) (by omega)])
    (fun f i t hi => by
      show F_X6_others_4 _ _ _ _ _ = F_X6_others_4 _ _ _ _ _
      rw [E_X6_others_4, i120, ifNle (by omega) (by omega) (by omega), bnd (m_get hp hi), nI_1]
      by_cases c : al (4 + 120 * p + i) = 0
      · rw [if_pos c, if_pos c, Int32.add_zero]
      · rw [if_neg c, if_neg c]) 120 0 0 xF (by omega) (xF_ge (by omega))
  exact h
theorem m_madeOthers (v : Nat → Int64) : F_X6_madeOthers v = some (cntL v 120) := by
  have h := loopN (fun f i t => F_X6_madeOthers_4 v f t (nI i)) 120 some (fun o t => if v o = 0 then t else t + 1)
    (fun f t => by show F_X6_madeOthers_4 _ _ _ _ = _; rw [E_X6_madeOthers_4, i120, ifLe (by omega) (by omega) (by omega)])
    (fun f i t hi => by
      show F_X6_madeOthers_4 _ _ _ _ = F_X6_madeOthers_4 _ _ _ _
      rw [E_X6_madeOthers_4, i120, ifNle (by omega) (by omega) (by omega), xgI (by omega) (by omega), nI_1, nI_clamp (by omega)]
      by_cases c : v i = 0
      · rw [if_pos c, if_pos ((lg0 _).mpr c), Int32.add_zero]
      · rw [if_neg c, if_neg (fun q => c ((lg0 _).mp q))]) 120 0 0 xF (by omega) (xF_ge (by omega))
  exact h
theorem cntI_ext {f g : Nat → Int32} {a b : Nat} (hab : a ≤ b) (h1 : ∀ o, o < a → f o = g o) (h2 : ∀ o, a ≤ o → o < b → g o = 0) : cntI f a = cntI g b := by
  unfold cntI
  obtain ⟨d, rfl⟩ : ∃ d, b = a + d := ⟨b - a, by omega⟩
  rw [itr_add _ a d 0 0]
  rw [itr_id (nx := fun o t => if g o = 0 then t else t + 1) d (0 + a) _ (fun j h3 h4 s => by show (if g j = 0 then s else s + 1) = s; rw [if_pos (h2 j (by omega) (by omega))])]
  exact itr_congr _ _ _ (fun j _ h4 s => by show (if f j = 0 then s else s + 1) = (if g j = 0 then s else s + 1); rw [h1 j (by omega)])
theorem cntL_ext {f g : Nat → Int64} {a b : Nat} (hab : a ≤ b) (h1 : ∀ o, o < a → f o = g o) (h2 : ∀ o, a ≤ o → o < b → g o = 0) : cntL f a = cntL g b := by
  unfold cntL
  obtain ⟨d, rfl⟩ : ∃ d, b = a + d := ⟨b - a, by omega⟩
  rw [itr_add _ a d 0 0]
  rw [itr_id (nx := fun o t => if g o = 0 then t else t + 1) d (0 + a) _ (fun j h3 h4 s => by show (if g j = 0 then s else s + 1) = s; rw [if_pos (h2 j (by omega) (by omega))])]
  exact itr_congr _ _ _ (fun j _ h4 s => by show (if f j = 0 then s else s + 1) = (if g j = 0 then s else s + 1); rw [h1 j (by omega)])
