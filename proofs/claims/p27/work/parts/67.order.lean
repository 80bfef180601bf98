/-! the law's own methods: isOrder (by program: wip/p27/gen/gen67.py) -/
theorem or_1a : ∀ n, n ≤ 4 → 1 ≤ n → ∀ o, o < fac n → vi n o < fac n ∧ vi n (vi n o) = o ∧ iv n (vi n o) = iv n o ∧ rg n (vi n o) = rg n o := by decide +kernel
theorem or_1b : ∀ n, n ≤ 4 → 1 ≤ n → ∀ o, o < fac n → mu n o (vi n o) = 0 ∧ mu n (vi n o) o = 0 ∧ mu n o 0 = o := by decide +kernel
theorem or_1c : ∀ n, n ≤ 4 → 1 ≤ n → ∀ o, o < fac n → rg n o ≤ n ∧ iv n o % 2 = (n - rg n o) % 2 := by decide +kernel
theorem or_2a : ∀ n, n ≤ 4 → 1 ≤ n → ∀ o, o < fac n → iv n o ≤ n * (n - 1) / 2 ∧ iv n (tu n o 1) = n * (n - 1) / 2 - iv n o ∧ iv n (tu n (tu n o 1) 2) = iv n o := by decide +kernel
theorem or_2b : ∀ n, n ≤ 4 → 1 ≤ n → ∀ o, o < fac n → mu n o (fac n - 1) = tu n o 1 ∧ mu n (fac n - 1) (tu n o 1) = tu n (tu n o 1) 2 := by decide +kernel
/-- a sum of one order -/
def DL (n k : Nat) (f : Nat → Int) : Prop := f k ≠ 0 ∧ ∀ o, o < fac n → o ≠ k → f o = 0
theorem DL.turn {n k w : Nat} (hn : n ≤ 5) (hw : w < 4) (hk : k < fac n) {f : Nat → Int} (h : DL n k f) : DL n (tu n k w) (tn n w f) := by
  obtain ⟨h1, h2⟩ := tu_ok n hn k hk w hw
  have hs : ∀ o, sgn n w o ≠ 0 := fun o => by
    unfold sgn
    by_cases c : w = 3 ∧ iv n o % 2 = 1
    · rw [if_pos c]; decide
    · rw [if_neg c]; decide
  refine ⟨?_, fun o ho hne => ?_⟩
  · show sgn n w (tu n k w) * f (tu n (tu n k w) w) ≠ 0
    rw [h2]
    exact Int.mul_ne_zero (hs _) h.1
  · obtain ⟨h3, h4⟩ := tu_ok n hn o ho w hw
    show sgn n w o * f (tu n o w) = 0
    rw [h.2 _ h3 (fun q => hne (by rw [← q, h4])), Int.mul_zero]
theorem DL.term {n p k : Nat} (hn : n ≤ 5) (hp : p < 3) (hk : k < fac n) {f : Nat → Int} (h : DL n k f) {s : Nat → Nat → Int32} (hs : ∀ o, o < fac n → (s p o).toInt = f o) : F_X5_termOf s (nI (fac n)) (nI p) 0 0 = some (nI k) :=
  x_term hn hp hk (fun q => h.1 (by rw [← hs k hk, q]; rfl)) (fun o ho hne => Int32.toInt_inj.mp (by rw [hs o ho, h.2 o ho hne]; rfl))
section OR
variable {n : Nat} {od op oi ov of_ ol om : Nat → Int32}
theorem l_order (hn : n ≤ 4) (hn1 : 1 ≤ n) (hT1 : ∀ o, o < fac n → oi o = nI (iv n o) ∧ ov o = nI (vi n o)) (hol : ∀ o k, o < fac n → k < n → ol (o * n + k) = nI (lt n o k)) (hom : ∀ a b, a < fac n → b < fac n → om (a * fac n + b) = nI (mu n a b)) {o : Nat} (ho : o < fac n) (tl : Int32) (s : Nat → Nat → Int32) (made : Nat → Int64) {a b : Int32} (hl : Nat → Int32) (hf : Nat → Nat → Int32) (ow : Nat → Int32) (hH : HX a b) :
    ∃ s' made' a' b' hl' hf' ow', F_L_isOrder (fac n) (fac n * n) (fac n * fac n) n tl (nI n) (nI (fac n)) od op oi ov ol om (nI o) s made a b hl hf ow = some (1, s', made', a', b', hl', hf', ow') ∧ HX a' b' := by
  have hn5 : n ≤ 5 := by omega
  have hf5 := fac_le hn5
  have hf0 := fac_pos hn5
  obtain ⟨v1, v2, v3, v4⟩ := or_1a n hn hn1 o ho
  obtain ⟨v5, v6, v7⟩ := or_1b n hn hn1 o ho
  obtain ⟨v8, v9⟩ := or_1c n hn hn1 o ho
  obtain ⟨w0, w1, w2⟩ := or_2a n hn hn1 o ho
  obtain ⟨w3, w4⟩ := or_2b n hn hn1 o ho
  have hx : tu n o 1 < fac n := (tu_ok n hn5 o ho 1 (by omega)).1
  have hz : tu n (tu n o 1) 2 < fac n := (tu_ok n hn5 _ hx 2 (by omega)).1
  have p1 := x_product hn5 hom ho v1
  have p2 := x_product hn5 hom v1 ho
  have p3 := x_product hn5 hom ho hf0
  have p4 := x_product hn5 hom ho (show fac n - 1 < fac n by omega)
  have p5 := x_product hn5 hom (show fac n - 1 < fac n by omega) hx
  rw [v5] at p1
  rw [v6] at p2
  rw [v7] at p3
  rw [w3] at p4
  rw [w4] at p5
  have em : nI (fac n) - (1 : Int32) = nI (fac n - 1) := pk_sub (b := 1) hf0
  have hnn : n * (n - 1) ≤ 4 * 4 := Nat.mul_le_mul hn (by omega)
  have e4 : (nI n * (nI n - (1 : Int32))) / (2 : Int32) = nI (n * (n - 1) / 2) := by
    rw [i1, pk_sub hn1, pk_mul, i2, pk_div (by omega) (by omega) (by omega)]
  have e3 : (nI n - nI (rg n o)) - (nI n - nI (rg n o)) / (2 : Int32) * (2 : Int32) = nI (iv n o % 2) := by
    rw [pk_sub v8, i2, pk_rem (by omega) (by omega) (by omega), v9]
  obtain ⟨r1, s1, made1, a1, b1, hl1, hf1, c1, c2, x1, d1⟩ := x_clear hn5 (p := 0) (by omega) s made hH hl hf
  obtain ⟨r2, s2, made2, a2, b2, hl2, hf2, c3, c4, x2, d2⟩ := x_add hn5 (p := 0) (k := o) (by omega) ho (c := 1) (by decide) d1.2 (fun i hi => by
    show (0 + if i = o then (1 : Int32).toInt else 0 : Int).natAbs ≤ 50000
    by_cases q : i = o
    · rw [if_pos q]; decide
    · rw [if_neg q]; decide) made1 x1 hl1 hf1
  have er : r2 = 1 := Int32.toInt_inj.mp (c4.trans (by decide))
  subst er
  have D2 : DL n o (fun i => 0 + if i = o then (1 : Int32).toInt else 0) := ⟨by show (0 + if o = o then (1 : Int32).toInt else 0 : Int) ≠ 0; rw [if_pos rfl]; decide, fun i _ hne => by show (0 + if i = o then (1 : Int32).toInt else 0 : Int) = 0; rw [if_neg hne]; rfl⟩
  have B2 : ∀ i, i < fac n → (0 + if i = o then (1 : Int32).toInt else 0 : Int).natAbs ≤ 50000 := fun i hi => by
    by_cases q : i = o
    · rw [if_pos q]; decide
    · rw [if_neg q]; decide
  obtain ⟨r3, s3, made3, a3, b3, hl3, hf3, ow3, c5, c6, x3, d3⟩ := x_turn hn5 hn1 hT1 hol (p := 0) (w := 1) (by omega) (by omega) d2.2 B2 made2 x2 hl2 hf2 ow
  have D3 := D2.turn (w := 1) hn5 (by omega) ho
  have t3 := D3.term hn5 (p := 0) (by omega) hx d3.2
  have B3 : ∀ i, i < fac n → (tn n 1 (fun i => 0 + if i = o then (1 : Int32).toInt else 0) i).natAbs ≤ 50000 := fun i hi => by
    rw [tn_abs]
    exact B2 _ (tu_ok n hn5 i hi 1 (by omega)).1
  obtain ⟨r4, s4, made4, a4, b4, hl4, hf4, ow4, c7, c8, x4, d4⟩ := x_turn hn5 hn1 hT1 hol (p := 0) (w := 2) (by omega) (by omega) d3.2 B3 made3 x3 hl3 hf3 ow3
  have D4 := D3.turn (w := 2) hn5 (by omega) hx
  have t4 := D4.term hn5 (p := 0) (by omega) hz d4.2
  unfold F_L_isOrder
  rw [bnd (x_count0 _ _ _ _), bnd (x_o4 hn5 ho (hT1 o ho).2), bnd (x_o4 hn5 v1 (hT1 _ v1).2), v2, if_pos rfl, bnd (x_o2 hn5 v1 (hT1 _ v1).1), bnd (x_o2 hn5 ho (hT1 o ho).1), v3, if_pos rfl, bnd (x_o6 hn5 hn1 v1 (fun k hk => hol _ k v1 hk)), bnd (x_o6 hn5 hn1 ho (fun k hk => hol o k ho hk)), v4, if_pos rfl, bnd p1, if_pos (show nI 0 = 0 from rfl), bnd p2, if_pos (show nI 0 = 0 from rfl), bnd (show F_X5_product _ _ _ _ (0 : Int32) = some _ from p3), if_pos rfl, bnd (x_o3 hn5 ho (hT1 o ho).1), bnd (x_o6 hn5 hn1 ho (fun k hk => hol o k ho hk)), e3, if_pos rfl, e4]
  unfold F_L_isOrder_117
  rw [if_neg n10, bnd (show F_X5_clear _ _ (0 : Int32) _ _ _ _ _ _ = some _ from c1), if_neg c2, bnd (show F_X5_add _ _ (0 : Int32) _ _ _ _ _ _ _ _ = some _ from c3), if_pos rfl, bnd (show F_X5_turn _ _ _ _ _ _ _ _ (0 : Int32) (1 : Int32) _ _ _ _ _ _ _ = some _ from c5), if_neg c6]
  unfold F_L_isOrder_157
  rw [bnd (show F_X5_termOf _ _ (0 : Int32) _ _ = some _ from t3), if_neg n10, bnd (x_o2 hn5 hx (hT1 _ hx).1), bnd (x_o2 hn5 ho (hT1 o ho).1), w1, pk_sub w0, if_pos rfl, bnd (show F_X5_turn _ _ _ _ _ _ _ _ (0 : Int32) (2 : Int32) _ _ _ _ _ _ _ = some _ from c7), if_neg c8]
  unfold F_L_isOrder_206
  rw [bnd (show F_X5_termOf _ _ (0 : Int32) _ _ = some _ from t4), if_neg n10, bnd (x_o2 hn5 hz (hT1 _ hz).1), bnd (x_o2 hn5 ho (hT1 o ho).1), w2, if_pos rfl, bnd (x_count1 _ _ _ _), em, bnd p4, if_pos rfl, bnd (x_count1 _ _ _ _), em, bnd p5, if_pos rfl]
  exact ⟨_, _, _, _, _, _, _, rfl, x4⟩
end OR
