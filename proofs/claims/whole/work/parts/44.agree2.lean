/-! the two answer alike: orderOf, product, addClass, turn -/
theorem isSet_t {n t : Nat} (hn : n ≤ 5) (ht : t < 2 ^ (n - 1)) : F_X5_isSet (nI (2 ^ (n - 1))) (nI t) = some 1 := by
  have h16 : 2 ^ (n - 1) ≤ 2 ^ 4 := Nat.pow_le_pow_right (by omega) (by omega)
  unfold F_X5_isSet
  exact (bnd (f := fun q1 => xb q1 (some q1)) (arg_t ht (by omega))).trans (xb1 _)
theorem isSet_f {n : Nat} {x : Int32} (hn : n ≤ 5) (h : x < 0 ∨ nI (2 ^ (n - 1)) ≤ x) : F_X5_isSet (nI (2 ^ (n - 1))) x = some 0 := by
  have h16 : 2 ^ (n - 1) ≤ 2 ^ 4 := Nat.pow_le_pow_right (by omega) (by omega)
  unfold F_X5_isSet
  exact (bnd (f := fun q1 => xb q1 (some q1)) (arg_f h (by omega) (Nat.two_pow_pos _))).trans (xb0 _)
theorem m_isSet {al : Nat → Int32} {n : Nat} (hal : al 0 = nI n) (hn : n ≤ 5) (hn1 : 1 ≤ n) (x : Int32) : F_X6_isSet al x = F_X5_isSet (nI (2 ^ (n - 1))) x := by
  unfold F_X6_isSet F_X5_isSet
  rw [bnd (m_n hal), i1, pk_sub hn1, ← i1, shl1 (by omega), show (0 : Int64) = (0 : Int32).toInt64 from rfl, m_in]
theorem set_c {n : Nat} (hn : n ≤ 5) (x : Int32) : F_X5_isSet (nI (2 ^ (n - 1))) x = some 0 ∨ ∃ t, t < 2 ^ (n - 1) ∧ x = nI t ∧ F_X5_isSet (nI (2 ^ (n - 1))) x = some 1 := by
  have h16 : 2 ^ (n - 1) ≤ 2 ^ 4 := Nat.pow_le_pow_right (by omega) (by omega)
  rcases pk_ix x (n := 2 ^ (n - 1)) (by omega) with h | h | ⟨t, ht, rfl⟩
  · exact Or.inl (isSet_f hn (Or.inl h))
  · exact Or.inl (isSet_f hn (Or.inr h))
  · exact Or.inr ⟨t, ht, rfl, isSet_t hn ht⟩
theorem sum_c (x : Int32) : F_X5_isSum x = some 0 ∨ ∃ t, t < 3 ∧ x = nI t ∧ F_X5_isSum x = some 1 := by
  rcases pk_ix x (n := 3) (by omega) with h | h | ⟨t, ht, rfl⟩
  · exact Or.inl (isSum_f (Or.inl h))
  · exact Or.inl (isSum_f (Or.inr h))
  · exact Or.inr ⟨t, ht, rfl, isSum_t ht⟩
theorem order_c {n : Nat} (hn : n ≤ 5) (x : Int32) : F_X5_isOrder (nI (fac n)) x = some 0 ∨ ∃ t, t < fac n ∧ x = nI t ∧ F_X5_isOrder (nI (fac n)) x = some 1 := by
  have hf5 := fac_le hn
  rcases pk_ix x (n := fac n) (by omega) with h | h | ⟨t, ht, rfl⟩
  · exact Or.inl (isOrder_f (Or.inl h) hf5 (fac_pos hn))
  · exact Or.inl (isOrder_f (Or.inr h) hf5 (fac_pos hn))
  · exact Or.inr ⟨t, ht, rfl, isOrder_t ht hf5⟩
theorem n10 : ¬ (1 : Int32) = 0 := by decide
theorem and1 {a : Nat} : nI a &&& 1 = nI (a % 2) := by rw [i1, nI_and, Nat.and_one_is_mod]
theorem iv_100 {n : Nat} (hn : n ≤ 5) {o : Nat} (ho : o < fac n) : iv n o < 100 := (ivM_ok n hn o ho).2
theorem x_parityOf {n lm : Nat} (hn : n ≤ 5) (hlm : lm = fac n) {oi : Nat → Int32} {o : Nat} (ho : o < fac n) (hoi : oi o = nI (iv n o)) : F_X1_parityOf lm oi (nI o) = some (nI (iv n o % 2)) := by
  have hf5 := fac_le hn
  unfold F_X1_parityOf
  rw [xgI (by omega) (by omega), nI_clamp (by omega), hoi, and1]
theorem m_parity {n : Nat} (hn : n ≤ 5) {o : Nat} (ho : o < fac n) : nI (iv n o) - nI (iv n o) / 2 * 2 = nI (iv n o % 2) := by
  have := iv_100 hn ho
  rw [i2, pk_rem (by omega) (by omega) (by omega)]
theorem w15 {w : Nat} (h : w < 15) : w = 0 ∨ w = 1 ∨ w = 2 ∨ w = 3 ∨ w = 4 ∨ w = 5 ∨ w = 6 ∨ 7 ≤ w := by omega
section AH
variable {n : Nat} {s : Nat → Nat → Int32} {al : Nat → Int32} {hm hx : Int32} {hl : Nat → Int32} {hf : Nat → Nat → Int32} {hlong : Int32} {mh : Nat → Int32}
variable {lm ls ll lp ln : Nat} {fn fm fs : Int32} {od op oi ov of_ ol om : Nat → Int32} {laid : Int32} {wd l : Nat → Int32}
theorem ag_orderOf (hS : RS n s al) (hT : TB n lm ls ll lp ln fn fm fs od op oi ov of_ ol om) (hL : LK laid l) (p1 p2 : Int32) :
    ∃ r laid' wd' l', F_X5_orderOf lm ll fn fm od op oi ov ol p1 p2 = some r ∧ F_X6_orderOf al p1 p2 laid wd l = some (r, laid', wd', l') ∧ LK laid' l' := by
  obtain ⟨hn1, hn5, hal, -⟩ := hS
  have hf5 := fac_le hn5
  obtain ⟨hlm, hls, hll, hlp, hln, rfl, rfl, rfl, hT1, hof, hol, hom⟩ := hT
  unfold F_X5_orderOf F_X6_orderOf
  rw [m_isOrder hal hn5]
  rcases order_c hn5 p1 with h | ⟨o, ho, rfl, h⟩
  · rw [bnd h, bnd h, if_pos rfl, if_pos rfl]
    exact ⟨_, _, _, _, rfl, rfl, hL⟩
  rw [bnd h, bnd h, if_neg n10, if_neg n10]
  obtain ⟨t1, t2, t3, t4⟩ := hT1 o ho
  have m10 : ∀ x : Int32, F_X6_in x.toInt64 (10 : Int64) (((9 : Int32) + nI n).toInt64) = F_X5_isWithin x (nI 10) (nI (10 + n) - nI 1) := fun x => by
    rw [show (10 : Int64) = (nI 10).toInt64 from rfl, m_in, show (9 : Int32) = nI 9 from rfl, nI_add, pk_sub (by omega), show 10 + n - 1 = 9 + n by omega]
  have m6 : ∀ x : Int32, F_X6_in x.toInt64 (0 : Int64) (6 : Int64) = F_X5_isWithin x (nI 0) (nI 6) := fun x => by
    rw [show (0 : Int64) = (nI 0).toInt64 from rfl, show (6 : Int64) = (nI 6).toInt64 from rfl, m_in]
  have e10 : (10 : Int32) + nI n - 1 = nI (10 + n) - nI 1 := by rw [← nI_add]; rfl
  rw [m6, bnd (m_n hal), m10, e10, show (10 : Int32) = nI 10 from rfl]
  have big : (p2 < 0 ∨ nI 15 ≤ p2) → ∃ r laid' wd' l', ((F_X5_isWithin p2 (nI 10) (nI (10 + n) - nI 1)).bind fun q3 => if q3 = 0 then if p2 = 0 then xg (nI o) lm (some (od (nI o).toNatClampNeg)) else if p2 = 1 then xg (nI o) lm (some (op (nI o).toNatClampNeg)) else if p2 = 2 then xg (nI o) lm (some (oi (nI o).toNatClampNeg)) else if p2 = 3 then (F_X1_parityOf lm oi (nI o)).bind fun q8 => some (q8) else if p2 = 4 then xg (nI o) lm (some (ov (nI o).toNatClampNeg)) else if p2 = 5 then (F_X1_descentsAddedUp lm (nI n) od (nI o)).bind fun q10 => some (q10) else if p2 = 6 then (F_X1_ringsOf ll (nI n) ol (nI o)).bind fun q11 => some (q11) else some ((-10000001 : Int32)) else (F_X1_letterAt ll (nI n) ol (nI o) (p2 - nI 10)).bind fun q12 => some (q12)) = some r ∧ ((F_X5_isWithin p2 (nI 0) (nI 6)).bind fun q3 => if q3 = 0 then (F_X5_isWithin p2 (nI 10) (nI (10 + n) - nI 1)).bind fun q6 => if q6 = 0 then some ((-10000001 : Int32), laid, wd, l) else F_X6_orderOf_42 al (nI o) p2 laid wd l else F_X6_orderOf_42 al (nI o) p2 laid wd l) = some (r, laid', wd', l') ∧ LK laid' l' := fun hb => by
    have e1 : F_X5_isWithin p2 (nI 10) (nI (10 + n) - nI 1) = some 0 := by
      rw [pk_sub (by omega)]
      refine isW_f (hb.imp (fun h => Int32.lt_trans h (by decide)) (fun h => Int32.lt_of_lt_of_le (nI_lt (by omega) (by omega)) h))
    have e2 : F_X5_isWithin p2 (nI 0) (nI 6) = some 0 := isW_f (hb.imp id (fun h => Int32.lt_of_lt_of_le (nI_lt (by omega) (by omega)) h))
    have ne : ∀ k, k < 15 → ¬ p2 = nI k := fun k hk q => by
      rcases hb with h | h
      · rw [q] at h; exact nI_pos (by omega) h
      · rw [q] at h; exact nI_ge hk (by omega) h
    rw [bnd e1, bnd e2, if_pos rfl, if_pos rfl, bnd e1, if_pos rfl, if_neg (show ¬ p2 = 0 from ne 0 (by omega)), if_neg (show ¬ p2 = 1 from ne 1 (by omega)), if_neg (show ¬ p2 = 2 from ne 2 (by omega)), if_neg (show ¬ p2 = 3 from ne 3 (by omega)), if_neg (show ¬ p2 = 4 from ne 4 (by omega)), if_neg (show ¬ p2 = 5 from ne 5 (by omega)), if_neg (show ¬ p2 = 6 from ne 6 (by omega))]
    exact ⟨_, _, _, _, rfl, rfl, hL⟩
  rcases pk_ix p2 (n := 15) (by omega) with h | h | ⟨w, hw, rfl⟩
  · exact big (Or.inl h)
  · exact big (Or.inr h)
  clear big
  by_cases c10 : 10 ≤ w ∧ w < 10 + n
  · have e1 : F_X5_isWithin (nI w) (nI 10) (nI (10 + n) - nI 1) = some 1 := by
      rw [pk_sub (by omega)]
      exact isW_t (nI_le c10.1 (by omega)) (nI_le (by omega) (by omega))
    have e2 : F_X5_isWithin (nI w) (nI 0) (nI 6) = some 0 := isW_f (Or.inr (nI_lt (by omega) (by omega)))
    have ne : ∀ k, k < 10 → ¬ nI w = nI k := fun k hk q => by have := (nI_eq (by omega) (by omega)).mp q; omega
    obtain ⟨w1, l1, f1, f2, f3⟩ := m_at (wd := wd) hal hn5 hL ho (show w - 10 < n by omega)
    rw [bnd e1, bnd e2, if_neg n10, if_pos rfl, bnd e1, if_neg n10, pk_sub (by omega), bnd (x_letterAt hn5 hll ho (show w - 10 < n by omega) (fun k hk => hol o k ho hk))]
    unfold F_X6_orderOf_42
    rw [show (10 : Int32) = nI 10 from rfl, pk_sub (by omega), if_neg (show ¬ nI w = 0 from ne 0 (by omega)), if_neg (show ¬ nI w = 1 from ne 1 (by omega)), if_neg (show ¬ nI w = 2 from ne 2 (by omega)), if_neg (show ¬ nI w = 3 from ne 3 (by omega)), if_neg (show ¬ nI w = 4 from ne 4 (by omega)), if_neg (show ¬ nI w = 5 from ne 5 (by omega)), if_neg (show ¬ nI w = 6 from ne 6 (by omega)), bnd f1]
    exact ⟨_, _, _, _, rfl, rfl, f2.LK hn5⟩
  have e1 : F_X5_isWithin (nI w) (nI 10) (nI (10 + n) - nI 1) = some 0 := by
    rw [pk_sub (by omega)]
    by_cases c : w < 10
    · exact isW_f (Or.inl (nI_lt c (by omega)))
    · exact isW_f (Or.inr (nI_lt (by omega) (by omega)))
  rw [bnd e1, if_pos rfl]
  by_cases c6 : 7 ≤ w
  · have e2 : F_X5_isWithin (nI w) (nI 0) (nI 6) = some 0 := isW_f (Or.inr (nI_lt (by omega) (by omega)))
    have ne : ∀ k, k < 7 → ¬ nI w = nI k := fun k hk q => by have := (nI_eq (by omega) (by omega)).mp q; omega
    rw [bnd e2, if_pos rfl, bnd e1, if_pos rfl, if_neg (show ¬ nI w = 0 from ne 0 (by omega)), if_neg (show ¬ nI w = 1 from ne 1 (by omega)), if_neg (show ¬ nI w = 2 from ne 2 (by omega)), if_neg (show ¬ nI w = 3 from ne 3 (by omega)), if_neg (show ¬ nI w = 4 from ne 4 (by omega)), if_neg (show ¬ nI w = 5 from ne 5 (by omega)), if_neg (show ¬ nI w = 6 from ne 6 (by omega))]
    exact ⟨_, _, _, _, rfl, rfl, hL⟩
  have e2 : F_X5_isWithin (nI w) (nI 0) (nI 6) = some 1 := isW_t (nI_le (by omega) (by omega)) (nI_le (by omega) (by omega))
  have hxg : ∀ {α : Type} (K : Option α), xg (nI o) lm K = K := fun K => xgI (by omega) (by omega) K
  rw [bnd e2, if_neg n10]
  simp only [hxg, nI_clamp (show o < 2 ^ 31 by omega), t1, t2, t3, t4]
  unfold F_X6_orderOf_42
  obtain rfl | rfl | rfl | rfl | rfl | rfl | rfl | c := w15 hw
  · obtain ⟨d1, w1, l1, f1, f2, -⟩ := m_descents (wd := wd) hal hn5 hn1 hL ho
    rw [if_pos (by decide), if_pos (by decide), bnd f1]
    exact ⟨_, _, _, _, rfl, rfl, f2⟩
  · obtain ⟨d1, w1, l1, f1, f2⟩ := m_peaks (wd := wd) hal hn5 hn1 hL ho
    rw [if_neg (by decide), if_pos (by decide), if_neg (by decide), if_pos (by decide), bnd f1]
    exact ⟨_, _, _, _, rfl, rfl, f2⟩
  · obtain ⟨d1, w1, l1, f1, f2⟩ := m_inversions (wd := wd) hal hn5 hL ho
    rw [if_neg (by decide), if_neg (by decide), if_pos (by decide), if_neg (by decide), if_neg (by decide), if_pos (by decide), bnd f1]
    exact ⟨_, _, _, _, rfl, rfl, f2⟩
  · obtain ⟨d1, w1, l1, f1, f2⟩ := m_inversions (wd := wd) hal hn5 hL ho
    rw [if_neg (by decide), if_neg (by decide), if_neg (by decide), if_pos (by decide), if_neg (by decide), if_neg (by decide), if_neg (by decide), if_pos (by decide), bnd f1, bnd (x_parityOf hn5 hlm ho t3)]
    dsimp only
    rw [m_parity hn5 ho]
    exact ⟨_, _, _, _, rfl, rfl, f2⟩
  · obtain ⟨d1, w1, l1, f1, f2⟩ := m_inverse (wd := wd) hal hn5 hn1 hL ho
    rw [if_neg (by decide), if_neg (by decide), if_neg (by decide), if_neg (by decide), if_pos (by decide), if_neg (by decide), if_neg (by decide), if_neg (by decide), if_neg (by decide), if_pos (by decide), bnd f1]
    exact ⟨_, _, _, _, rfl, rfl, f2⟩
  · obtain ⟨d1, w1, l1, f1, f2⟩ := m_descentSum (wd := wd) hal hn5 hn1 hL ho
    rw [if_neg (by decide), if_neg (by decide), if_neg (by decide), if_neg (by decide), if_neg (by decide), if_pos (by decide), if_neg (by decide), if_neg (by decide), if_neg (by decide), if_neg (by decide), if_neg (by decide), if_pos (by decide), bnd f1, bnd (x_descentsAddedUp hn5 hn1 hlm ho t1)]
    exact ⟨_, _, _, _, rfl, rfl, f2⟩
  · obtain ⟨d1, w1, l1, f1, f2⟩ := m_rings (wd := wd) hal hn5 hn1 hL ho
    rw [if_neg (by decide), if_neg (by decide), if_neg (by decide), if_neg (by decide), if_neg (by decide), if_neg (by decide), if_pos (by decide), if_neg (by decide), if_neg (by decide), if_neg (by decide), if_neg (by decide), if_neg (by decide), if_neg (by decide), if_pos (by decide), bnd f1, bnd (x_ringsOf hn5 hn1 hll ho (fun k hk => hol o k ho hk))]
    exact ⟨_, _, _, _, rfl, rfl, f2⟩
  · exact absurd c c6
theorem ag_product (hS : RS n s al) (hT : TB n lm ls ll lp ln fn fm fs od op oi ov of_ ol om) (hL : LK laid l) (p1 p2 : Int32) :
    ∃ r laid' wd' l', F_X5_product lp fm om p1 p2 = some r ∧ F_X6_product al p1 p2 laid wd l = some (r, laid', wd', l') ∧ LK laid' l' := by
  obtain ⟨hn1, hn5, hal, -⟩ := hS
  obtain ⟨hlm, hls, hll, hlp, hln, rfl, rfl, rfl, hT1, hof, hol, hom⟩ := hT
  unfold F_X5_product F_X6_product
  rw [m_isOrder hal hn5, m_isOrder hal hn5]
  rcases order_c hn5 p1 with h | ⟨u, hu, rfl, h⟩
  · rw [bnd h, bnd h, if_pos rfl, if_pos rfl]
    exact ⟨_, _, _, _, rfl, rfl, hL⟩
  rw [bnd h, bnd h, if_neg n10, if_neg n10]
  rcases order_c hn5 p2 with h | ⟨v, hv, rfl, h⟩
  · rw [bnd h, bnd h, if_pos rfl, if_pos rfl]
    exact ⟨_, _, _, _, rfl, rfl, hL⟩
  obtain ⟨d1, w1, l1, f1, f2⟩ := m_productOf (wd := wd) hal hn5 hL hu hv
  rw [bnd h, bnd h, if_neg n10, if_neg n10, bnd (x_times hn5 hlp hu hv om), bnd f1, hom u v hu hv]
  exact ⟨_, _, _, _, rfl, rfl, f2⟩
end AH
