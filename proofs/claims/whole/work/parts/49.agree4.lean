/-! the two answer alike: sumOf, classOf, peakSum, byOrders -/
theorem neg1 (a : Int32) : (-1 : Int32) * a = -a := by rw [show (-1 : Int32) = -(1) from rfl, Int32.neg_mul, Int32.one_mul]
theorem bmod_s {x : Int} (h1 : -2147483648 ≤ x) (h2 : x < 2147483648) : Int.bmod x (2 ^ 32) = x := Int.bmod_eq_of_le (by omega) (by omega)
theorem neg_le' {a b : Int32} (ha : -50000 ≤ a.toInt) (ha2 : a.toInt ≤ 50000) (hb : -50000 ≤ b.toInt) (hb2 : b.toInt ≤ 50000) : -a ≤ -b ↔ ¬ a < b := by
  rw [Int32.le_iff_toInt_le, Int32.lt_iff_toInt_lt, Int32.toInt_neg, Int32.toInt_neg, bmod_s (by omega) (by omega), bmod_s (by omega) (by omega)]
  omega
theorem five (x : Int32) : (x < 0 ∨ nI 5 ≤ x) ∨ x = 0 ∨ x = 1 ∨ x = 2 ∨ x = 3 ∨ x = 4 := by
  rcases pk_ix x (n := 5) (by omega) with h | h | ⟨i, hi, rfl⟩
  · exact Or.inl (Or.inl h)
  · exact Or.inl (Or.inr h)
  · refine Or.inr ?_
    obtain rfl | rfl | rfl | rfl | rfl : i = 0 ∨ i = 1 ∨ i = 2 ∨ i = 3 ∨ i = 4 := by omega
    · exact Or.inl rfl
    · exact Or.inr (Or.inl rfl)
    · exact Or.inr (Or.inr (Or.inl rfl))
    · exact Or.inr (Or.inr (Or.inr (Or.inl rfl)))
    · exact Or.inr (Or.inr (Or.inr (Or.inr rfl)))
section AH
variable {n : Nat} {s : Nat → Nat → Int32} {al : Nat → Int32} {hm hx : Int32} {hl : Nat → Int32} {hf : Nat → Nat → Int32} {hlong : Int32} {mh : Nat → Int32}
variable {lm ls ll lp ln : Nat} {fn fm fs : Int32} {od op oi ov of_ ol om : Nat → Int32} {laid : Int32} {wd l : Nat → Int32}
theorem m_sumOfFactors (hS : RS n s al) {i : Nat} (hi : i < 3) : F_X6_sumOfFactors al (nI i) = some (itr (fun o t => t + s i o) (fac n) 0 0) := by
  have hn := hS.2.1
  have hal := hS.2.2.1
  have hf5 := fac_le hn
  have h := loopN (fun f o t => F_X6_sumOfFactors_4 al (nI i) f t (nI o)) (fac n) some (fun o t => t + s i o)
    (fun f t => by show F_X6_sumOfFactors_4 _ _ _ _ _ = _; rw [E_X6_sumOfFactors_4, bnd (m_orders hal hn), ifLe (by omega) (by omega) (by omega)])
    (fun f o t ho => by
      show F_X6_sumOfFactors_4 _ _ _ _ _ = F_X6_sumOfFactors_4 _ _ _ _ _
      rw [E_X6_sumOfFactors_4, bnd (m_orders hal hn), ifNle (by omega) (by omega) (by omega), bnd (m_get hi (by omega)), hS.get hi (by omega), nI_1]) (fac n) 0 0 xF (by omega) (xF_ge (by omega))
  exact h
theorem x_greatest (hS : RS n s al) {i : Nat} (hi : i < 3) : ∃ r, F_X5_greatestIn s (nI (fac n)) (nI i) = some r ∧ F_X6_greatest al (nI i) 1 = some r := by
  have hn := hS.2.1
  have hal := hS.2.2.1
  have hf5 := fac_le hn
  have hf0 := fac_pos hn
  have hl : ∀ d k f x, k + d = fac n → d < f → ∃ r, F_X5_greatestIn_11 s (nI (fac n)) (nI i) f x (nI k) = some r ∧ F_X6_greatest_12 al (nI i) 1 f x (nI k) = some r := by
    intro d
    induction d with
    | zero =>
      intro k f x hk hf0
      obtain ⟨f, rfl⟩ : ∃ g, f = g + 1 := ⟨f - 1, by omega⟩
      rw [E_X5_greatestIn_11, E_X6_greatest_12, bnd (m_orders hal hn), ifLe (by omega) (by omega) (by omega), ifLe (by omega) (by omega) (by omega), Int32.one_mul]
      exact ⟨_, rfl, rfl⟩
    | succ d ih =>
      intro k f x hk hf0
      obtain ⟨f, rfl⟩ : ∃ g, f = g + 1 := ⟨f - 1, by omega⟩
      rw [E_X5_greatestIn_11, E_X6_greatest_12, bnd (m_orders hal hn), ifNle (by omega) (by omega) (by omega), ifNle (by omega) (by omega) (by omega), xgI hi (by omega), xgI (by omega) (by omega), nI_clamp (by omega), nI_clamp (by omega), bnd (m_get hi (by omega)), bnd (m_get hi (by omega)), hS.get hi (by omega), Int32.one_mul, nI_1]
      by_cases c : x < s i k
      · rw [if_pos c, if_neg (Int32.not_le.mpr c)]; exact ih (k + 1) f _ (by omega) (by omega)
      · rw [if_neg c, if_pos (Int32.not_lt.mp c)]; exact ih (k + 1) f _ (by omega) (by omega)
  obtain ⟨r, r1, r2⟩ := hl (fac n - 1) 1 xF (s i 0) (by omega) (xF_ge (by omega))
  refine ⟨r, ?_, ?_⟩
  · unfold F_X5_greatestIn
    rw [xgI hi (by omega), nI_clamp (by omega), cl0]
    exact r1
  · unfold F_X6_greatest
    rw [i0, bnd (m_get hi (by omega)), hS.get hi (by omega), Int32.one_mul]
    exact r2
theorem x_least (hS : RS n s al) {i : Nat} (hi : i < 3) : ∃ r, F_X5_leastIn s (nI (fac n)) (nI i) = some r ∧ F_X6_greatest al (nI i) (-1) = some r := by
  have hn := hS.2.1
  have hal := hS.2.2.1
  have hf5 := fac_le hn
  have hf0 := fac_pos hn
  have hl : ∀ d k f x, k + d = fac n → d < f → -50000 ≤ x.toInt → x.toInt ≤ 50000 → ∃ r, F_X5_leastIn_11 s (nI (fac n)) (nI i) f x (nI k) = some r ∧ F_X6_greatest_12 al (nI i) (-1) f (-x) (nI k) = some r := by
    intro d
    induction d with
    | zero =>
      intro k f x hk hf0 hx1 hx2
      obtain ⟨f, rfl⟩ : ∃ g, f = g + 1 := ⟨f - 1, by omega⟩
      rw [E_X5_leastIn_11, E_X6_greatest_12, bnd (m_orders hal hn), ifLe (by omega) (by omega) (by omega), ifLe (by omega) (by omega) (by omega), neg1, Int32.neg_neg]
      exact ⟨_, rfl, rfl⟩
    | succ d ih =>
      intro k f x hk hf0 hx1 hx2
      obtain ⟨f, rfl⟩ : ∃ g, f = g + 1 := ⟨f - 1, by omega⟩
      obtain ⟨b0, -, b1, b2⟩ := hS.2.2.2 i k hi (by omega)
      rw [E_X5_leastIn_11, E_X6_greatest_12, bnd (m_orders hal hn), ifNle (by omega) (by omega) (by omega), ifNle (by omega) (by omega) (by omega), xgI hi (by omega), xgI (by omega) (by omega), nI_clamp (by omega), nI_clamp (by omega), bnd (m_get hi (by omega)), bnd (m_get hi (by omega)), hS.get hi (by omega), neg1, nI_1]
      by_cases c : s i k < x
      · rw [if_pos c, if_neg (fun q => (neg_le' b1 b2 hx1 hx2).mp q c)]; exact ih (k + 1) f _ (by omega) (by omega) b1 b2
      · rw [if_neg c, if_pos ((neg_le' b1 b2 hx1 hx2).mpr c)]; exact ih (k + 1) f _ (by omega) (by omega) hx1 hx2
  obtain ⟨b0, -, b1, b2⟩ := hS.2.2.2 i 0 hi (by omega)
  obtain ⟨r, r1, r2⟩ := hl (fac n - 1) 1 xF (s i 0) (by omega) (xF_ge (by omega)) b1 b2
  refine ⟨r, ?_, ?_⟩
  · unfold F_X5_leastIn
    rw [xgI hi (by omega), nI_clamp (by omega), cl0]
    exact r1
  · unfold F_X6_greatest
    rw [i0, bnd (m_get hi (by omega)), hS.get hi (by omega), neg1]
    exact r2
theorem gd_begins (hS : RS n s al) {i : Nat} (hi : i < 3) (mm : Nat → Int64) : gd n (fun j => if j < 120 then (al (4 + 120 * i + j)).toInt64 else mm j) = gd n (s i) := by
  have hn := hS.2.1
  have hf5 := fac_le hn
  refine gd_congr hn hS.1 fun o ho => ?_
  have h1 := (fi_f hn hS.1 (de_t hn ho)).1
  unfold P0
  show ((if o < 120 then _ else _) = (if fi n (de n o) < 120 then _ else _)) ↔ _
  rw [if_pos (by omega), if_pos (by omega), hS.get hi (by omega), hS.get hi (by omega), w_inj]
theorem ag_sumOf (hS : RS n s al) (hT : TB n lm ls ll lp ln fn fm fs od op oi ov of_ ol om) (hL : LK laid l) (p1 p2 : Int32) (mm bd : Nat → Int64) (il : Nat → Int32) :
    ∃ r laid' wd' l' mm' bd' il', F_X5_sumOf lm ls s fm od of_ p1 p2 = some r ∧ F_X6_sumOf al p1 p2 laid wd l mm bd il = some (r, laid', wd', l', mm', bd', il') ∧ LK laid' l' := by
  have hn5 := hS.2.1
  have hn1 := hS.1
  have hf5 := fac_le hn5
  have hal := hS.2.2.1
  obtain ⟨hlm, hls, hll, hlp, hln, rfl, rfl, rfl, hT1, hof, hol, hom⟩ := hT
  unfold F_X5_sumOf F_X6_sumOf
  rw [m_isSum, m_in' (lo := 0) (hi := 4) 0 4 rfl rfl]
  rcases sum_c p1 with h | ⟨i, hi, rfl, h⟩
  · rw [bnd h, bnd h, if_pos rfl, if_pos rfl]
    exact ⟨_, _, _, _, _, _, _, rfl, rfl, hL⟩
  rw [bnd h, bnd h, if_neg n10, if_neg n10]
  rcases five p2 with hb | rfl | rfl | rfl | rfl | rfl
  · have ne : ∀ k, k < 5 → ¬ p2 = nI k := fun k hk q => by
      rcases hb with h | h
      · rw [q] at h; exact nI_pos (by omega) h
      · rw [q] at h; exact nI_ge hk (by omega) h
    rw [bnd (show F_X5_isWithin p2 0 4 = some 0 from arg_f (n := 5) hb (by omega) (by omega)), if_pos rfl, if_neg (show ¬ p2 = 0 from ne 0 (by omega)), if_neg (show ¬ p2 = 1 from ne 1 (by omega)), if_neg (show ¬ p2 = 2 from ne 2 (by omega)), if_neg (show ¬ p2 = 3 from ne 3 (by omega)), if_neg (show ¬ p2 = 4 from ne 4 (by omega))]
    exact ⟨_, _, _, _, _, _, _, rfl, rfl, hL⟩
  · rw [bnd (show F_X5_isWithin 0 0 4 = some 1 from isW_t (by decide) (by decide)), if_neg n10, if_pos rfl, if_pos rfl, bnd (x_termsIn (fac n) i hf5 hi s), bnd (m_others hi)]
    have ec : cntI (s i) (fac n) = cntI (fun o => al (4 + 120 * i + o)) 120 := cntI_ext hf5 (fun o ho => (hS.get hi (by omega)).symm) (fun o h1 h2 => by rw [hS.get hi h2]; exact hS.zero hi h2 h1)
    rw [ec]
    exact ⟨_, _, _, _, _, _, _, rfl, rfl, hL⟩
  · rw [bnd (show F_X5_isWithin 1 0 4 = some 1 from isW_t (by decide) (by decide)), if_neg n10, if_neg n10, if_pos rfl, if_neg n10, if_pos rfl, bnd (x_factorsAddedUp (fac n) i hf5 hi s), bnd (m_sumOfFactors hS hi)]
    exact ⟨_, _, _, _, _, _, _, rfl, rfl, hL⟩
  · obtain ⟨laid', wd', l', bd', il', k1, k2, k3⟩ := m_gbd (wd := wd) hal hn5 hn1 hL (fun j => if j < 120 then (al (4 + 120 * i + j)).toInt64 else mm j) bd il
    rw [gd_begins hS hi mm] at k1
    rw [bnd (show F_X5_isWithin 2 0 4 = some 1 from isW_t (by decide) (by decide)), if_neg n10, if_neg (show ¬ (2 : Int32) = 0 by decide), if_neg (show ¬ (2 : Int32) = 1 by decide), if_pos rfl, if_neg (show ¬ (2 : Int32) = 0 by decide), if_neg (show ¬ (2 : Int32) = 1 by decide), if_pos rfl, bnd (x_gbd hn5 hn1 hlm hls (fun o ho => (hT1 o ho).1) hof hi), bnd (m_begins hi mm), bnd k1]
    dsimp only
    cases gd n (s i)
    · rw [if_pos (show bI false = 0 from rfl), if_pos (show bI false = 0 from rfl)]
      exact ⟨_, _, _, _, _, _, _, rfl, rfl, k2⟩
    · rw [if_neg (show ¬ bI true = 0 by decide), if_neg (show ¬ bI true = 0 by decide)]
      exact ⟨_, _, _, _, _, _, _, rfl, rfl, k2⟩
  · obtain ⟨r, r1, r2⟩ := x_greatest hS hi
    rw [bnd (show F_X5_isWithin 3 0 4 = some 1 from isW_t (by decide) (by decide)), if_neg n10, if_neg (show ¬ (3 : Int32) = 0 by decide), if_neg (show ¬ (3 : Int32) = 1 by decide), if_neg (show ¬ (3 : Int32) = 2 by decide), if_pos rfl, if_neg (show ¬ (3 : Int32) = 0 by decide), if_neg (show ¬ (3 : Int32) = 1 by decide), if_neg (show ¬ (3 : Int32) = 2 by decide), if_pos rfl, bnd r1, bnd r2]
    exact ⟨_, _, _, _, _, _, _, rfl, rfl, hL⟩
  · obtain ⟨r, r1, r2⟩ := x_least hS hi
    rw [bnd (show F_X5_isWithin 4 0 4 = some 1 from isW_t (by decide) (by decide)), if_neg n10, if_neg (show ¬ (4 : Int32) = 0 by decide), if_neg (show ¬ (4 : Int32) = 1 by decide), if_neg (show ¬ (4 : Int32) = 2 by decide), if_neg (show ¬ (4 : Int32) = 3 by decide), if_pos rfl, if_neg (show ¬ (4 : Int32) = 0 by decide), if_neg (show ¬ (4 : Int32) = 1 by decide), if_neg (show ¬ (4 : Int32) = 2 by decide), if_neg (show ¬ (4 : Int32) = 3 by decide), bnd r1, bnd r2]
    exact ⟨_, _, _, _, _, _, _, rfl, rfl, hL⟩
/-! classOf -/
theorem x_classOf62 (hn : n ≤ 5) (hn1 : 1 ≤ n) (hls : ls = 2 ^ (n - 1)) (hof : ∀ t, of_ t = nI (fi n t)) {i r : Nat} (hi : i < 3) (hr : r < 2 ^ (n - 1)) (pcl : Nat → Int64) :
    ∃ pcl', F_X5_classOf_62 ls s (nI (2 ^ (n - 1))) of_ (nI i) (nI r) xF 0 pcl = some (wf n (fun t => (s i (fi n t)).toInt64) r, pcl') := by
  have h16 := p16 hn
  have hf5 := fac_le hn
  obtain ⟨t', h, h1⟩ := loopE (fun f t (_ : Unit) (v : Nat → Int64) => F_X5_classOf_62 ls s (nI (2 ^ (n - 1))) of_ (nI i) (nI r) f (nI t) v) (fun k v => ∀ t, t < k → v t = (s i (fi n t)).toInt64) (2 ^ (n - 1)) (fun _ v => (F_X5_wideFactor v (nI (2 ^ (n - 1))) (nI r)).bind fun q2 => some (q2, v)) (fun _ q => q)
    (fun f q v _ => by
      show F_X5_classOf_62 _ _ _ _ _ _ _ _ _ = _
      rw [E_X5_classOf_62, ifLe (by omega) (by omega) (by omega)])
    (fun f t q v ht hI => by
      have h1 := (fi_f hn hn1 ht).1
      refine ⟨vp_updL v t (s i (fi n t)).toInt64, ?_, fun j hj => ?_⟩
      · show F_X5_classOf_62 _ _ _ _ _ _ _ _ _ = F_X5_classOf_62 _ _ _ _ _ _ _ _ _
        rw [E_X5_classOf_62, ifNle (by omega) (by omega) (by omega), xgI hi (by omega), xgI (by omega) (by omega), nI_clamp (by omega), nI_clamp (by omega), hof, xgI (by omega) (by omega), xgI (by omega) (by omega), nI_clamp (by omega), nI_1]
      · show vp_updL v t _ j = _
        unfold vp_updL
        by_cases c : j = t
        · rw [if_pos c, c]
        · rw [if_neg c]; exact hI j (by omega)) (2 ^ (n - 1)) 0 () pcl xF (by omega) (xF_ge (by omega)) (fun t ht => absurd ht (by omega))
  rw [bnd (x_wideFactor hn t' hr), wf_congr h1] at h
  exact ⟨t', h⟩
theorem ag_classOf (hS : RS n s al) (hT : TB n lm ls ll lp ln fn fm fs od op oi ov of_ ol om) (hL : LK laid l) (p1 p2 p3 : Int32) (pcl mm bd : Nat → Int64) (il : Nat → Int32) :
    ∃ r pcl' laid' wd' l' mm' bd' il', F_X5_classOf lm ls s fm fs od of_ p1 p2 p3 pcl = some (r, pcl') ∧ F_X6_classOf al p1 p2 p3 laid wd l mm bd il = some (r, laid', wd', l', mm', bd', il') ∧ LK laid' l' := by
  have hn5 := hS.2.1
  have hn1 := hS.1
  have hf5 := fac_le hn5
  have h16 := p16 hn5
  have hal := hS.2.2.1
  obtain ⟨hlm, hls, hll, hlp, hln, rfl, rfl, rfl, hT1, hof, hol, hom⟩ := hT
  unfold F_X5_classOf F_X6_classOf
  rw [m_isSum, m_isSet hal hn5 hn1, m_in' (lo := 0) (hi := 1) 0 1 rfl rfl]
  rcases sum_c p1 with h | ⟨i, hi, rfl, h⟩
  · rw [bnd h, bnd h, if_pos rfl, if_pos rfl]
    exact ⟨_, _, _, _, _, _, _, _, rfl, rfl, hL⟩
  rw [bnd h, bnd h, if_neg n10, if_neg n10]
  rcases set_c hn5 p2 with h | ⟨t, ht, rfl, h⟩
  · rw [bnd h, bnd h, if_pos rfl, if_pos rfl]
    exact ⟨_, _, _, _, _, _, _, _, rfl, rfl, hL⟩
  rw [bnd h, bnd h, if_neg n10, if_neg n10]
  rcases Or.symm (within_c p3 0 1) with h | h
  · rw [bnd h, bnd h, if_pos rfl, if_pos rfl]
    exact ⟨_, _, _, _, _, _, _, _, rfl, rfl, hL⟩
  obtain ⟨laid', wd', l', bd', il', k1, k2, k3⟩ := m_gbd (wd := wd) hal hn5 hn1 hL (fun j => if j < 120 then (al (4 + 120 * i + j)).toInt64 else mm j) bd il
  rw [gd_begins hS hi mm] at k1
  rw [bnd h, bnd h, if_neg n10, if_neg n10, bnd (x_gbd hn5 hn1 hlm hls (fun o ho => (hT1 o ho).1) hof hi), bnd (m_begins hi mm), bnd k1]
  dsimp only
  cases c : gd n (s i)
  · rw [if_pos (show bI false = 0 from rfl), if_pos (show bI false = 0 from rfl)]
    exact ⟨_, _, _, _, _, _, _, _, rfl, rfl, k2⟩
  have hP := gd_iff c
  have hbd : ∀ t, t < 2 ^ (n - 1) → bd' t = (s i (fi n t)).toInt64 := fun t ht => by
    obtain ⟨f1, f2, f3, f4⟩ := fq_ok n hn5 hn1 t ht
    rw [k3 t ht]
    show (if lq n t < 120 then _ else _) = _
    rw [if_pos (by omega), hS.get hi (by omega)]
    have h5 := hP (lq n t) f2
    unfold P0 at h5
    rw [← (dq_ok n hn5 _ f2).1, f3] at h5
    rw [h5]
  rw [if_neg (show ¬ bI true = 0 by decide), if_neg (show ¬ bI true = 0 by decide)]
  by_cases c3 : p3 = 0
  · have hg := (fi_f hn5 hn1 ht).1
    rw [if_pos c3, if_pos c3, xgI hi (by omega), xgI (by omega) (by omega), nI_clamp (by omega), nI_clamp (by omega), hof, xgI (by omega) (by omega), nI_clamp (by omega), xgI (by omega) (by omega), hbd t ht, Int32.toInt32_toInt64]
    exact ⟨_, _, _, _, _, _, _, _, rfl, rfl, k2⟩
  · obtain ⟨pcl', e1⟩ := x_classOf62 (s := s) hn5 hn1 hls hof hi ht pcl
    rw [if_neg c3, if_neg c3, e1, bnd (m_wideFactor hal hn5 hn1 bd' ht), wf_congr hbd]
    exact ⟨_, _, _, _, _, _, _, _, rfl, rfl, k2⟩
/-! peakSum -/
theorem ag_peakSum (hS : RS n s al) (hT : TB n lm ls ll lp ln fn fm fs od op oi ov of_ ol om) (hL : LK laid l) (p1 p2 : Int32) :
    ∃ r laid' wd' l', F_X5_peakSum lm s fn fm op p1 p2 = some r ∧ F_X6_peakSum al p1 p2 laid wd l = some (r, laid', wd', l') ∧ LK laid' l' := by
  have hn5 := hS.2.1
  have hn1 := hS.1
  have hf5 := fac_le hn5
  have hal := hS.2.2.1
  obtain ⟨hlm, hls, hll, hlp, hln, rfl, rfl, rfl, hT1, hof, hol, hom⟩ := hT
  unfold F_X5_peakSum F_X6_peakSum
  rw [m_isSum]
  rcases sum_c p1 with h | ⟨i, hi, rfl, h⟩
  · rw [bnd h, bnd h, if_pos rfl, if_pos rfl]
    exact ⟨_, _, _, _, rfl, rfl, hL⟩
  rw [bnd h, bnd h, if_neg n10, if_neg n10, bnd (m_n hal), show (0 : Int64) = (0 : Int32).toInt64 from rfl, m_in]
  rcases Or.symm (within_c p2 0 (((1 : Int32) <<< (nI n &&& 31)) - 1)) with h | h
  · rw [bnd h, bnd h, if_pos rfl, if_pos rfl]
    exact ⟨_, _, _, _, rfl, rfl, hL⟩
  rw [bnd h, bnd h, if_neg n10, if_neg n10]
  have hlp : ∀ d k f x y (t : MT), k + d = fac n → d < f → LK t.1 t.2.2 → (y = 0 ∨ y = 1) → ∃ r laid' wd' l', F_X5_peakSum_37 lm s (nI (fac n)) op (nI i) p2 f x y (nI k) = some r ∧ F_X6_peakSum_36 al (nI i) p2 f x y (nI k) t.1 t.2.1 t.2.2 = some (r, laid', wd', l') ∧ LK laid' l' := by
    intro d
    induction d with
    | zero =>
      intro k f x y t hk hf0 hI hy
      obtain ⟨f, rfl⟩ : ∃ g, f = g + 1 := ⟨f - 1, by omega⟩
      rw [E_X5_peakSum_37, E_X6_peakSum_36, bnd (m_orders hal hn5), ifLe (by omega) (by omega) (by omega), ifLe (by omega) (by omega) (by omega)]
      rcases hy with rfl | rfl
      · rw [if_pos rfl, if_pos rfl]; exact ⟨_, _, _, _, rfl, rfl, hI⟩
      · rw [if_neg n10, if_neg n10]; exact ⟨_, _, _, _, rfl, rfl, hI⟩
    | succ d ih =>
      intro k f x y t hk hf0 hI hy
      obtain ⟨f, rfl⟩ : ∃ g, f = g + 1 := ⟨f - 1, by omega⟩
      obtain ⟨d1, w1, l1, f1, f2⟩ := m_peaks (wd := t.2.1) hal hn5 hn1 hI (show k < fac n by omega)
      rw [E_X5_peakSum_37, E_X6_peakSum_36, bnd (m_orders hal hn5), ifNle (by omega) (by omega) (by omega), ifNle (by omega) (by omega) (by omega), bnd f1]
      dsimp only
      unfold F_X6_peakSum_60 F_X6_peakSum_72 F_X6_peakSum_77
      simp only [bnd (m_get (al := al) hi (show k < 120 by omega)), hS.get hi (show k < 120 by omega), if_true, if_neg n10, Int32.add_zero]
      rw [xgI (by omega) (by omega), xgI hi (by omega), xgI (by omega) (by omega), nI_clamp (by omega), nI_clamp (by omega), (hT1 k (by omega)).2.1, nI_1]
      by_cases c : nI (pe n k) = p2
      · rw [if_pos c, if_pos c]
        have := ih (k + 1) f (x + s i k) 1 (d1, w1, l1) (by omega) (by omega) f2 (Or.inr rfl)
        rcases hy with rfl | rfl
        · rw [if_pos rfl]; exact this
        · rw [if_neg n10]; exact this
      · rw [if_neg c, if_neg c]
        have := ih (k + 1) f x y (d1, w1, l1) (by omega) (by omega) f2 hy
        rcases hy with rfl | rfl
        · rw [if_pos rfl]; exact this
        · rw [if_neg n10]; exact this
  exact hlp (fac n) 0 xF 0 0 (laid, wd, l) (by omega) (xF_ge (by omega)) hL (Or.inl rfl)
end AH
