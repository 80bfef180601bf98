/-! the two answer alike: add, clear, combine, factor, termOf, count -/
theorem within_c (x a b : Int32) : F_X5_isWithin x a b = some 1 ∨ F_X5_isWithin x a b = some 0 := by
  unfold F_X5_isWithin
  by_cases c : x < a
  · right; rw [if_pos c]
  · rw [if_neg c]
    by_cases c2 : b < x
    · right; rw [if_pos c2]
    · left; rw [if_neg c2]
theorem m_in' {x : Int32} {lo hi : Int64} (a b : Int32) (h1 : lo = a.toInt64) (h2 : hi = b.toInt64) : F_X6_in x.toInt64 lo hi = F_X5_isWithin x a b := by rw [h1, h2, m_in]
theorem RS.get {n : Nat} {s : Nat → Nat → Int32} {al : Nat → Int32} (h : RS n s al) {j o : Nat} (hj : j < 3) (ho : o < 120) : al (4 + 120 * j + o) = s j o := (h.2.2.2 j o hj ho).1
theorem RS.zero {n : Nat} {s : Nat → Nat → Int32} {al : Nat → Int32} (h : RS n s al) {j o : Nat} (hj : j < 3) (ho : o < 120) (hn : fac n ≤ o) : s j o = 0 := (h.2.2.2 j o hj ho).2.1 hn
section AG
variable {n : Nat} {s : Nat → Nat → Int32} {al : Nat → Int32} {hm hx : Int32} {hl : Nat → Int32} {hf : Nat → Nat → Int32} {hlong : Int32} {mh : Nat → Int32}
theorem ag_add (hS : RS n s al) (hR : RH hm hx hl hf hlong mh) (p1 p2 p3 : Int32) (made mm : Nat → Int64) :
    ∃ r s' made' hm' hx' hl' hf' hlong' al' mh' mm', F_X5_add (nI n) (nI (fac n)) p1 p2 p3 s made hm hx hl hf = some (r, s', made', hm', hx', hl', hf') ∧ F_X6_add p1 p2 p3 hlong al mh mm = some (r, hlong', al', mh', mm') ∧ RS n s' al' ∧ RH hm' hx' hl' hf' hlong' mh' := by
  have hn5 := hS.2.1
  have hf5 := fac_le hn5
  have hal := hS.2.2.1
  unfold F_X5_add F_X6_add
  rw [m_isSum, m_isOrder hal hn5, m_in' (lo := -999) (hi := 999) (-999) 999 rfl rfl]
  rcases pk_ix p1 (n := 3) (by omega) with h | h | ⟨i, hi, rfl⟩
  · rw [bnd (isSum_f (Or.inl h)), bnd (isSum_f (Or.inl h)), if_pos rfl, if_pos rfl]
    exact ⟨_, _, _, _, _, _, _, _, _, _, _, rfl, rfl, hS, hR⟩
  · rw [bnd (isSum_f (Or.inr h)), bnd (isSum_f (Or.inr h)), if_pos rfl, if_pos rfl]
    exact ⟨_, _, _, _, _, _, _, _, _, _, _, rfl, rfl, hS, hR⟩
  rw [bnd (isSum_t hi), bnd (isSum_t hi), if_neg (show ¬ (1 : Int32) = 0 by decide), if_neg (show ¬ (1 : Int32) = 0 by decide)]
  rcases pk_ix p2 (n := fac n) (by omega) with h | h | ⟨k, hk, rfl⟩
  · rw [bnd (isOrder_f (Or.inl h) hf5 (fac_pos hn5)), bnd (isOrder_f (Or.inl h) hf5 (fac_pos hn5)), if_pos rfl, if_pos rfl]
    exact ⟨_, _, _, _, _, _, _, _, _, _, _, rfl, rfl, hS, hR⟩
  · rw [bnd (isOrder_f (Or.inr h) hf5 (fac_pos hn5)), bnd (isOrder_f (Or.inr h) hf5 (fac_pos hn5)), if_pos rfl, if_pos rfl]
    exact ⟨_, _, _, _, _, _, _, _, _, _, _, rfl, rfl, hS, hR⟩
  rw [bnd (isOrder_t hk hf5), bnd (isOrder_t hk hf5), if_neg (show ¬ (1 : Int32) = 0 by decide), if_neg (show ¬ (1 : Int32) = 0 by decide)]
  rcases within_c p3 (-999) 999 with h | h
  · rw [bnd h, bnd h, if_neg (show ¬ (1 : Int32) = 0 by decide), if_neg (show ¬ (1 : Int32) = 0 by decide), bnd (x_makeCopyOf (fac n) i hf5 hi s made), bnd (m_begins hi mm), xgI (by omega) (by omega), xgI (by omega) (by omega), nI_clamp (by omega)]
    have ev : (if k < 120 then (al (4 + 120 * i + k)).toInt64 else mm k) = (if k < fac n then (s i k).toInt64 else made k) := by
      rw [if_pos (by omega), if_pos hk, hS.get hi (by omega)]
    simp only [ev]
    obtain ⟨r, s', hm', hx', hl', hf', hlong', al', mh', e1, e2, e3, e4⟩ := chg hS hR hi ((vp_updL (fun j => if j < fac n then (s i j).toInt64 else made j) k ((if k < fac n then (s i k).toInt64 else made k) + p3.toInt64)) k).toInt32
      (made := vp_updL (fun j => if j < fac n then (s i j).toInt64 else made j) k ((if k < fac n then (s i k).toInt64 else made k) + p3.toInt64))
      (mm := vp_updL (fun j => if j < 120 then (al (4 + 120 * i + j)).toInt64 else mm j) k ((if k < fac n then (s i k).toInt64 else made k) + p3.toInt64))
      (fun o ho => by
        unfold vp_updL
        by_cases q : o = k
        · rw [if_pos q, if_pos q]
        · rw [if_neg q, if_neg q]; show (if o < 120 then _ else _) = (if o < fac n then _ else _); rw [if_pos ho, if_pos (by omega), hS.get hi (by omega)])
      (fun o h1 h2 => by
        unfold vp_updL
        rw [if_neg (by omega)]; show (if o < 120 then _ else _) = _; rw [if_pos h2, hS.get hi h2, hS.zero hi h2 h1]; rfl)
    have e2' : F_X6_becomes (vp_updL (fun j => if j < 120 then (al (4 + 120 * i + j)).toInt64 else mm j) k ((if k < fac n then (s i k).toInt64 else made k) + p3.toInt64)) (nI i) ((vp_updL (fun j => if j < 120 then (al (4 + 120 * i + j)).toInt64 else mm j) k ((if k < fac n then (s i k).toInt64 else made k) + p3.toInt64)) k).toInt32 hlong al mh = some (r, hlong', al', mh') := by
      rw [← e2]; simp [vp_updL]
    rw [bnd e1, bnd e2']
    exact ⟨_, _, _, _, _, _, _, _, _, _, _, rfl, rfl, e3, e4⟩
  · rw [bnd h, bnd h, if_pos rfl, if_pos rfl]
    exact ⟨_, _, _, _, _, _, _, _, _, _, _, rfl, rfl, hS, hR⟩
theorem ag_clear (hS : RS n s al) (hR : RH hm hx hl hf hlong mh) (p1 : Int32) (made mm : Nat → Int64) :
    ∃ r s' made' hm' hx' hl' hf' hlong' al' mh' mm', F_X5_clear (nI n) (nI (fac n)) p1 s made hm hx hl hf = some (r, s', made', hm', hx', hl', hf') ∧ F_X6_clear p1 hlong al mh mm = some (r, hlong', al', mh', mm') ∧ RS n s' al' ∧ RH hm' hx' hl' hf' hlong' mh' := by
  have hn5 := hS.2.1
  have hf5 := fac_le hn5
  unfold F_X5_clear F_X6_clear
  rw [m_isSum]
  rcases pk_ix p1 (n := 3) (by omega) with h | h | ⟨i, hi, rfl⟩
  · rw [bnd (isSum_f (Or.inl h)), bnd (isSum_f (Or.inl h)), if_pos rfl, if_pos rfl]
    exact ⟨_, _, _, _, _, _, _, _, _, _, _, rfl, rfl, hS, hR⟩
  · rw [bnd (isSum_f (Or.inr h)), bnd (isSum_f (Or.inr h)), if_pos rfl, if_pos rfl]
    exact ⟨_, _, _, _, _, _, _, _, _, _, _, rfl, rfl, hS, hR⟩
  rw [bnd (isSum_t hi), bnd (isSum_t hi), if_neg (show ¬ (1 : Int32) = 0 by decide), if_neg (show ¬ (1 : Int32) = 0 by decide), bnd (x_termsIn (fac n) i hf5 hi s), bnd (m_others hi), bnd (x_makeZeros (fac n) hf5 made), bnd (m_empties mm)]
  have ec : cntI (s i) (fac n) = cntI (fun o => al (4 + 120 * i + o)) 120 := cntI_ext hf5 (fun o ho => (hS.get hi (by omega)).symm) (fun o h1 h2 => by rw [hS.get hi h2]; exact hS.zero hi h2 h1)
  rw [ec]
  obtain ⟨r, s', hm', hx', hl', hf', hlong', al', mh', e1, e2, e3, e4⟩ := chg hS hR hi (cntI (fun o => al (4 + 120 * i + o)) 120) (made := fun j => if j < fac n then 0 else made j) (mm := fun j => if j < 120 then 0 else mm j)
    (fun o ho => by rw [if_pos ho, if_pos (by omega)]) (fun o h1 h2 => by rw [if_pos h2])
  rw [bnd e1, bnd e2]
  exact ⟨_, _, _, _, _, _, _, _, _, _, _, rfl, rfl, e3, e4⟩
theorem ag_factor (hS : RS n s al) (p1 p2 : Int32) : ∃ r, F_X5_factor s (nI (fac n)) p1 p2 = some r ∧ F_X6_factor al p1 p2 = some r := by
  have hn5 := hS.2.1
  have hf5 := fac_le hn5
  unfold F_X5_factor F_X6_factor
  rw [m_isSum, m_isOrder hS.2.2.1 hn5]
  rcases pk_ix p1 (n := 3) (by omega) with h | h | ⟨i, hi, rfl⟩
  · rw [bnd (isSum_f (Or.inl h)), bnd (isSum_f (Or.inl h)), if_pos rfl, if_pos rfl]; exact ⟨_, rfl, rfl⟩
  · rw [bnd (isSum_f (Or.inr h)), bnd (isSum_f (Or.inr h)), if_pos rfl, if_pos rfl]; exact ⟨_, rfl, rfl⟩
  rw [bnd (isSum_t hi), bnd (isSum_t hi), if_neg (show ¬ (1 : Int32) = 0 by decide), if_neg (show ¬ (1 : Int32) = 0 by decide)]
  rcases pk_ix p2 (n := fac n) (by omega) with h | h | ⟨k, hk, rfl⟩
  · rw [bnd (isOrder_f (Or.inl h) hf5 (fac_pos hn5)), bnd (isOrder_f (Or.inl h) hf5 (fac_pos hn5)), if_pos rfl, if_pos rfl]; exact ⟨_, rfl, rfl⟩
  · rw [bnd (isOrder_f (Or.inr h) hf5 (fac_pos hn5)), bnd (isOrder_f (Or.inr h) hf5 (fac_pos hn5)), if_pos rfl, if_pos rfl]; exact ⟨_, rfl, rfl⟩
  rw [bnd (isOrder_t hk hf5), bnd (isOrder_t hk hf5), if_neg (show ¬ (1 : Int32) = 0 by decide), if_neg (show ¬ (1 : Int32) = 0 by decide), xgI hi (by omega), xgI (by omega) (by omega), bnd (m_get hi (by omega)), nI_clamp (by omega), nI_clamp (by omega), hS.get hi (by omega)]
  exact ⟨_, rfl, rfl⟩
theorem termOf_l (hS : RS n s al) {i : Nat} (hi : i < 3) (p2 p3 : Int32) : ∀ d k f t, k + d = fac n → d < f → F_X6_termOf_30 al (nI i) p3 f (p2 - t) (nI k) = F_X5_termOf_29 s (nI (fac n)) (nI i) p2 p3 f t (nI k) ∧ ∃ r, F_X5_termOf_29 s (nI (fac n)) (nI i) p2 p3 f t (nI k) = some r := by
  have hn5 := hS.2.1
  have hf5 := fac_le hn5
  intro d
  induction d with
  | zero =>
    intro k f t hk hf0
    obtain ⟨f, rfl⟩ : ∃ g, f = g + 1 := ⟨f - 1, by omega⟩
    rw [E_X6_termOf_30, E_X5_termOf_29, bnd (m_orders hS.2.2.1 hn5), ifLe (by omega) (by omega) (by omega), ifLe (by omega) (by omega) (by omega)]
    exact ⟨rfl, _, rfl⟩
  | succ d ih =>
    intro k f t hk hf0
    obtain ⟨f, rfl⟩ : ∃ g, f = g + 1 := ⟨f - 1, by omega⟩
    rw [E_X6_termOf_30, E_X5_termOf_29, bnd (m_orders hS.2.2.1 hn5), ifNle (by omega) (by omega) (by omega), ifNle (by omega) (by omega) (by omega), bnd (m_get hi (by omega)), xgI hi (by omega), xgI (by omega) (by omega), nI_clamp (by omega), nI_clamp (by omega), hS.get hi (by omega), nI_1]
    by_cases c : s i k = 0
    · rw [if_pos c, if_pos c]
      exact ih (k + 1) f t (by omega) (by omega)
    · rw [if_neg c, if_neg c]
      have eq : p2 - t = 0 ↔ t = p2 := by
        constructor
        · intro h; have := Int32.sub_eq_iff_eq_add.mp h; rw [this]; simp
        · intro h; rw [h]; simp
      by_cases c2 : t = p2
      · rw [if_pos (eq.mpr c2), if_pos c2]
        by_cases c3 : p3 = 0
        · rw [if_pos c3, if_pos c3]; exact ⟨rfl, _, rfl⟩
        · rw [if_neg c3, if_neg c3, bnd (m_get hi (by omega)), hS.get hi (by omega)]; exact ⟨rfl, _, rfl⟩
      · rw [if_neg (fun q => c2 (eq.mp q)), if_neg c2]
        have e3 : p2 - t + -1 = p2 - (t + 1) := by
          rw [Int32.sub_eq_add_neg, Int32.sub_eq_add_neg, Int32.neg_add, Int32.add_assoc, Int32.sub_eq_add_neg]
        rw [e3]
        exact ih (k + 1) f (t + 1) (by omega) (by omega)
theorem ag_termOf (hS : RS n s al) (p1 p2 p3 : Int32) : ∃ r, F_X5_termOf s (nI (fac n)) p1 p2 p3 = some r ∧ F_X6_termOf al p1 p2 p3 = some r := by
  unfold F_X5_termOf F_X6_termOf
  rw [m_isSum, m_in' (lo := 0) (hi := 1) 0 1 rfl rfl]
  rcases pk_ix p1 (n := 3) (by omega) with h | h | ⟨i, hi, rfl⟩
  · rw [bnd (isSum_f (Or.inl h)), bnd (isSum_f (Or.inl h)), if_pos rfl, if_pos rfl]; exact ⟨_, rfl, rfl⟩
  · rw [bnd (isSum_f (Or.inr h)), bnd (isSum_f (Or.inr h)), if_pos rfl, if_pos rfl]; exact ⟨_, rfl, rfl⟩
  rw [bnd (isSum_t hi), bnd (isSum_t hi), if_neg (show ¬ (1 : Int32) = 0 by decide), if_neg (show ¬ (1 : Int32) = 0 by decide)]
  by_cases c : p2 < 0
  · rw [if_pos c, if_pos c]; exact ⟨_, rfl, rfl⟩
  rw [if_neg c, if_neg c]
  rcases within_c p3 0 1 with h | h
  · rw [bnd h, bnd h, if_neg (show ¬ (1 : Int32) = 0 by decide), if_neg (show ¬ (1 : Int32) = 0 by decide)]
    obtain ⟨e1, r, e2⟩ := termOf_l hS hi p2 p3 (fac n) 0 xF 0 (by omega) (xF_ge (by have := fac_le hS.2.1; omega))
    rw [Int32.sub_zero] at e1
    exact ⟨r, e2, e1.trans e2⟩
  · rw [bnd h, bnd h, if_pos rfl, if_pos rfl]; exact ⟨_, rfl, rfl⟩
theorem ag_count (hS : RS n s al) (tl p1 : Int32) : ∃ r, F_X5_count hm tl (nI n) (nI (fac n)) p1 = some r ∧ F_X6_count hm tl al p1 = some r := by
  unfold F_X5_count F_X6_count
  rw [bnd (m_n hS.2.2.1), bnd (m_orders hS.2.2.1 hS.2.1)]
  by_cases c0 : p1 = 0
  · simp only [if_pos c0]; exact ⟨_, rfl, rfl⟩
  simp only [if_neg c0]
  by_cases c1 : p1 = 1
  · simp only [if_pos c1]; exact ⟨_, rfl, rfl⟩
  simp only [if_neg c1]
  by_cases c2 : p1 = 2
  · simp only [if_pos c2]; exact ⟨_, rfl, rfl⟩
  simp only [if_neg c2]
  by_cases c3 : p1 = 3
  · simp only [if_pos c3]; exact ⟨_, rfl, rfl⟩
  simp only [if_neg c3]; exact ⟨_, rfl, rfl⟩
theorem x_combine54 {i j k : Nat} (hi : i < 3) (hj : j < 3) (hk : k < 3) {m : Nat} (hm5 : m ≤ 120) (fn p3 p5 : Int32) (made : Nat → Int64) :
    F_X5_combine_54 fn (nI m) (nI i) (nI j) p3 (nI k) p5 xF (0 : Int32) s made hm hx hl hf = (F_X5_termsMade (fun o => if o < m then p3.toInt64 * (s j o).toInt64 + p5.toInt64 * (s k o).toInt64 else made o) (nI m)).bind fun q2 => (F_X5_settle (fun o => if o < m then p3.toInt64 * (s j o).toInt64 + p5.toInt64 * (s k o).toInt64 else made o) fn (nI m) (nI i) q2 s hm hx hl hf).bind fun q3 => some (q3.1, q3.2.1, (fun o => if o < m then p3.toInt64 * (s j o).toInt64 + p5.toInt64 * (s k o).toInt64 else made o), q3.2.2.1, q3.2.2.2.1, q3.2.2.2.2.1, q3.2.2.2.2.2) := by
  have h := loopN (fun f o v => F_X5_combine_54 fn (nI m) (nI i) (nI j) p3 (nI k) p5 f (nI o) s v hm hx hl hf) m (fun v => (F_X5_termsMade v (nI m)).bind fun q2 => (F_X5_settle v fn (nI m) (nI i) q2 s hm hx hl hf).bind fun q3 => some (q3.1, q3.2.1, v, q3.2.2.1, q3.2.2.2.1, q3.2.2.2.2.1, q3.2.2.2.2.2))
    (fun o v => vp_updL v o (p3.toInt64 * (s j o).toInt64 + p5.toInt64 * (s k o).toInt64))
    (fun f v => by show F_X5_combine_54 _ _ _ _ _ _ _ _ _ _ _ _ _ _ _ = _; rw [E_X5_combine_54, ifLe (by omega) (by omega) (by omega)])
    (fun f o v ho => by
      show F_X5_combine_54 _ _ _ _ _ _ _ _ _ _ _ _ _ _ _ = F_X5_combine_54 _ _ _ _ _ _ _ _ _ _ _ _ _ _ _
      rw [E_X5_combine_54, ifNle (by omega) (by omega) (by omega), xgI hj (by omega), xgI (by omega) (by omega), xgI hk (by omega), nI_1, nI_clamp (by omega), nI_clamp (by omega), nI_clamp (by omega)]) m 0 made xF (by omega) (xF_ge (by omega))
  rw [itr_fillL (fun o => p3.toInt64 * (s j o).toInt64 + p5.toInt64 * (s k o).toInt64)] at h
  refine h.trans ?_
  simp
theorem m_combine69 (hS : RS n s al) {i j k : Nat} (hj : j < 3) (hk : k < 3) (p3 p5 : Int32) (mm : Nat → Int64) :
    F_X6_combine_69 (nI i) (nI j) p3 (nI k) p5 xF (0 : Int32) hlong al mh mm = (F_X6_madeOthers (fun o => if o < 120 then p3.toInt64 * (s j o).toInt64 + p5.toInt64 * (s k o).toInt64 else mm o)).bind fun q2 => (F_X6_becomes (fun o => if o < 120 then p3.toInt64 * (s j o).toInt64 + p5.toInt64 * (s k o).toInt64 else mm o) (nI i) q2 hlong al mh).bind fun q3 => some (q3.1, q3.2.1, q3.2.2.1, q3.2.2.2, (fun o => if o < 120 then p3.toInt64 * (s j o).toInt64 + p5.toInt64 * (s k o).toInt64 else mm o)) := by
  have h := loopN (fun f o v => F_X6_combine_69 (nI i) (nI j) p3 (nI k) p5 f (nI o) hlong al mh v) 120 (fun v => (F_X6_madeOthers v).bind fun q2 => (F_X6_becomes v (nI i) q2 hlong al mh).bind fun q3 => some (q3.1, q3.2.1, q3.2.2.1, q3.2.2.2, v))
    (fun o v => vp_updL v o (p3.toInt64 * (s j o).toInt64 + p5.toInt64 * (s k o).toInt64))
    (fun f v => by show F_X6_combine_69 _ _ _ _ _ _ _ _ _ _ _ = _; rw [E_X6_combine_69, i120, ifLe (by omega) (by omega) (by omega)])
    (fun f o v ho => by
      show F_X6_combine_69 _ _ _ _ _ _ _ _ _ _ _ = F_X6_combine_69 _ _ _ _ _ _ _ _ _ _ _
      rw [E_X6_combine_69, i120, ifNle (by omega) (by omega) (by omega), bnd (m_get hj (by omega)), bnd (m_get hk (by omega)), xgI (by omega) (by omega), nI_1, nI_clamp (by omega), hS.get hj (by omega), hS.get hk (by omega)]) 120 0 mm xF (by omega) (xF_ge (by omega))
  rw [itr_fillL (fun o => p3.toInt64 * (s j o).toInt64 + p5.toInt64 * (s k o).toInt64)] at h
  refine h.trans ?_
  simp only [Nat.zero_le, true_and, Nat.zero_add]
theorem ag_combine (hS : RS n s al) (hR : RH hm hx hl hf hlong mh) (p1 p2 p3 p4 p5 : Int32) (made mm : Nat → Int64) :
    ∃ r s' made' hm' hx' hl' hf' hlong' al' mh' mm', F_X5_combine (nI n) (nI (fac n)) p1 p2 p3 p4 p5 s made hm hx hl hf = some (r, s', made', hm', hx', hl', hf') ∧ F_X6_combine p1 p2 p3 p4 p5 hlong al mh mm = some (r, hlong', al', mh', mm') ∧ RS n s' al' ∧ RH hm' hx' hl' hf' hlong' mh' := by
  have hn5 := hS.2.1
  have hf5 := fac_le hn5
  unfold F_X5_combine F_X6_combine F_X6_combine_55 F_X6_combine_56
  rw [m_isSum, m_isSum, m_isSum, m_in' (lo := -99) (hi := 99) (-99) 99 rfl rfl, m_in' (lo := -99) (hi := 99) (-99) 99 rfl rfl, if_pos rfl, if_neg (show ¬ (1 : Int32) = 0 by decide)]
  rcases pk_ix p1 (n := 3) (by omega) with h | h | ⟨i, hi, rfl⟩
  · rw [bnd (isSum_f (Or.inl h)), bnd (isSum_f (Or.inl h)), if_pos rfl, if_pos rfl]
    exact ⟨_, _, _, _, _, _, _, _, _, _, _, rfl, rfl, hS, hR⟩
  · rw [bnd (isSum_f (Or.inr h)), bnd (isSum_f (Or.inr h)), if_pos rfl, if_pos rfl]
    exact ⟨_, _, _, _, _, _, _, _, _, _, _, rfl, rfl, hS, hR⟩
  rw [bnd (isSum_t hi), bnd (isSum_t hi), if_neg (show ¬ (1 : Int32) = 0 by decide), if_neg (show ¬ (1 : Int32) = 0 by decide)]
  rcases pk_ix p2 (n := 3) (by omega) with h | h | ⟨j, hj, rfl⟩
  · rw [bnd (isSum_f (Or.inl h)), bnd (isSum_f (Or.inl h)), if_pos rfl, if_pos rfl]
    exact ⟨_, _, _, _, _, _, _, _, _, _, _, rfl, rfl, hS, hR⟩
  · rw [bnd (isSum_f (Or.inr h)), bnd (isSum_f (Or.inr h)), if_pos rfl, if_pos rfl]
    exact ⟨_, _, _, _, _, _, _, _, _, _, _, rfl, rfl, hS, hR⟩
  rw [bnd (isSum_t hj), bnd (isSum_t hj), if_neg (show ¬ (1 : Int32) = 0 by decide), if_neg (show ¬ (1 : Int32) = 0 by decide)]
  rcases pk_ix p4 (n := 3) (by omega) with h | h | ⟨k, hk, rfl⟩
  · rw [bnd (isSum_f (Or.inl h)), bnd (isSum_f (Or.inl h)), if_pos rfl, if_pos rfl]
    exact ⟨_, _, _, _, _, _, _, _, _, _, _, rfl, rfl, hS, hR⟩
  · rw [bnd (isSum_f (Or.inr h)), bnd (isSum_f (Or.inr h)), if_pos rfl, if_pos rfl]
    exact ⟨_, _, _, _, _, _, _, _, _, _, _, rfl, rfl, hS, hR⟩
  rw [bnd (isSum_t hk), bnd (isSum_t hk), if_neg (show ¬ (1 : Int32) = 0 by decide), if_neg (show ¬ (1 : Int32) = 0 by decide)]
  rcases Or.symm (within_c p3 (-99) 99) with h | h
  · rw [bnd h, bnd h, if_pos rfl, if_pos rfl]
    exact ⟨_, _, _, _, _, _, _, _, _, _, _, rfl, rfl, hS, hR⟩
  rw [bnd h, bnd h, if_neg (show ¬ (1 : Int32) = 0 by decide), if_neg (show ¬ (1 : Int32) = 0 by decide)]
  rcases Or.symm (within_c p5 (-99) 99) with h | h
  · rw [bnd h, bnd h, if_pos rfl, if_pos rfl]
    exact ⟨_, _, _, _, _, _, _, _, _, _, _, rfl, rfl, hS, hR⟩
  rw [bnd h, bnd h, if_neg (show ¬ (1 : Int32) = 0 by decide), if_neg (show ¬ (1 : Int32) = 0 by decide), x_combine54 hi hj hk hf5, m_combine69 hS hj hk, bnd (x_termsMade (fac n) hf5 _), bnd (m_madeOthers _)]
  have z : ∀ o, fac n ≤ o → o < 120 → p3.toInt64 * (s j o).toInt64 + p5.toInt64 * (s k o).toInt64 = 0 := fun o h1 h2 => by
    rw [hS.zero hj h2 h1, hS.zero hk h2 h1, show (0 : Int32).toInt64 = 0 from rfl, Int64.mul_zero, Int64.mul_zero]; rfl
  have ec : cntL (fun o => if o < fac n then p3.toInt64 * (s j o).toInt64 + p5.toInt64 * (s k o).toInt64 else made o) (fac n) = cntL (fun o => if o < 120 then p3.toInt64 * (s j o).toInt64 + p5.toInt64 * (s k o).toInt64 else mm o) 120 := cntL_ext hf5 (fun o ho => by show (if _ then _ else _) = (if _ then _ else _); rw [if_pos ho, if_pos (by omega)]) (fun o h1 h2 => by show (if _ then _ else _) = _; rw [if_pos h2, z o h1 h2])
  rw [ec]
  obtain ⟨r, s', hm', hx', hl', hf', hlong', al', mh', e1, e2, e3, e4⟩ := chg hS hR hi (cntL (fun o => if o < 120 then p3.toInt64 * (s j o).toInt64 + p5.toInt64 * (s k o).toInt64 else mm o) 120) (made := fun o => if o < fac n then p3.toInt64 * (s j o).toInt64 + p5.toInt64 * (s k o).toInt64 else made o) (mm := fun o => if o < 120 then p3.toInt64 * (s j o).toInt64 + p5.toInt64 * (s k o).toInt64 else mm o)
    (fun o ho => by rw [if_pos ho, if_pos (by omega)]) (fun o h1 h2 => by rw [if_pos h2, z o h1 h2])
  rw [bnd e1, bnd e2]
  exact ⟨_, _, _, _, _, _, _, _, _, _, _, rfl, rfl, e3, e4⟩
end AG
