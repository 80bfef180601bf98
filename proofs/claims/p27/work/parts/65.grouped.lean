/-! the law's own methods: isGrouped (by program: wip/p27/gen/gen65.py) -/
theorem GB.b6 {n : Nat} {f g : Nat → Int} (hn : n ≤ 4) (h1 : GB n 3 f) (h2 : GB n 3 g) : ∀ o, o < fac n → (cv n f g o).natAbs ≤ 432 := fun o ho =>
  Nat.le_trans (cv_bl (by omega) f g (B := 6) h2.1 ho) (Nat.le_trans (Nat.mul_le_mul_right 6 h1.2) (by omega))
theorem GB.bl {n : Nat} {f g : Nat → Int} (hn : n ≤ 4) (h1 : GB n 3 f) (h2 : ∀ o, o < fac n → (g o).natAbs ≤ 432) : ∀ o, o < fac n → (cv n f g o).natAbs ≤ 50000 := fun o ho =>
  Nat.le_trans (cv_bl (by omega) f g (B := 432) h2 ho) (Nat.le_trans (Nat.mul_le_mul_right 432 h1.2) (by omega))
theorem GB.br {n : Nat} {f g : Nat → Int} (hn : n ≤ 4) (h1 : ∀ o, o < fac n → (f o).natAbs ≤ 432) (h2 : GB n 3 g) : ∀ o, o < fac n → (cv n f g o).natAbs ≤ 50000 := fun o ho =>
  Nat.le_trans (cv_br hn f g (B := 432) h1 ho) (Nat.le_trans (Nat.mul_le_mul_right 432 h2.2) (by omega))
theorem CH.at_ne {n p j : Nat} {s s' : Nat → Nat → Int32} {f g : Nat → Int} (h : CH n p s s' g) (hj : j ≠ p) (hs : ∀ o, o < fac n → (s j o).toInt = f o) : ∀ o, o < fac n → (s' j o).toInt = f o := fun o ho => by rw [h.1 j hj]; exact hs o ho
section GR
variable {n : Nat} {od oi ov of_ ol om Yod Yoi Yov Yol Yom : Nat → Int32}
theorem l_grouped (hn : n ≤ 4) (hn1 : 1 ≤ n) (hod : ∀ o, o < fac n → od o = nI (de n o)) (hT1 : ∀ o, o < fac n → oi o = nI (iv n o) ∧ ov o = nI (vi n o)) (hof : ∀ t, of_ t = nI (fi n t)) (hol : ∀ o k, o < fac n → k < n → ol (o * n + k) = nI (lt n o k)) (hom : ∀ a b, a < fac n → b < fac n → om (a * fac n + b) = nI (mu n a b)) (hYod : ∀ o, o < fac n → Yod o = nI (de n o)) (hYT1 : ∀ o, o < fac n → Yoi o = nI (iv n o) ∧ Yov o = nI (vi n o)) (hYol : ∀ o k, o < fac n → k < n → Yol (o * n + k) = nI (lt n o k)) (hYom : ∀ a b, a < fac n → b < fac n → Yom (a * fac n + b) = nI (mu n a b)) (tl c d e cl : Int32) (hcl : cl = 0 ∨ cl = 1) (s t : Nat → Nat → Int32) (made Ymade : Nat → Int64) {a b Ya Yb : Int32} (hl Yhl : Nat → Int32) (hf Yhf : Nat → Nat → Int32) (hH : HX a b) (hY : HX Ya Yb) :
    ∃ s' made' a' b' hl' hf' t' Ymade' Ya' Yb' Yhl' Yhf', F_L_isGrouped (fac n) (2 ^ (n - 1)) (fac n * fac n) (fac n) (fac n * fac n) tl (nI n) (nI (fac n)) (nI (2 ^ (n - 1))) od of_ om (nI n) (nI (fac n)) (nI (2 ^ (n - 1))) Yod Yom c d e cl s made a b hl hf t Ymade Ya Yb Yhl Yhf = some (1, s', made', a', b', hl', hf', t', Ymade', Ya', Yb', Yhl', Yhf') ∧ HX a' b' ∧ HX Ya' Yb' := by
  have hn5 : n ≤ 5 := by omega
  obtain ⟨f1, s1, made1, a1, b1, hl1, hf1, t1, Ymade1, Ya1, Yb1, Yhl1, Yhf1, e1, x1, y1, g1, k1, c1, d1⟩ := l_gets hn hn1 hod hYod (p := 0) (q := 0) (by omega) (by omega) tl c cl hcl s t made Ymade hl Yhl hf Yhf hH hY
  obtain ⟨f2, s2, made2, a2, b2, hl2, hf2, t2, Ymade2, Ya2, Yb2, Yhl2, Yhf2, e2, x2, y2, g2, k2, c2, d2⟩ := l_gets hn hn1 hod hYod (p := 1) (q := 1) (by omega) (by omega) tl d cl hcl s1 t1 made1 Ymade1 hl1 Yhl1 hf1 Yhf1 x1 y1
  have s20 := c2.at_ne (j := 0) (by omega) c1.2
  have t20 := d2.at_ne (j := 0) (by omega) d1.2
  obtain ⟨r3, s3, made3, a3, b3, hl3, hf3, e3, n3, x3, c3⟩ := x_multiply hn5 hom (p := 2) (j := 0) (k := 1) (by omega) (by omega) (by omega) s20 c2.2 (fun o ho => Nat.le_trans (GB.b6 hn g1 g2 o ho) (by omega)) made2 x2 hl2 hf2
  have s30 := c3.at_ne (j := 0) (by omega) s20
  have s31 := c3.at_ne (j := 1) (by omega) c2.2
  have q2 := x_sum1 hn5 (p := 2) (by omega) c3.2 (fac n) (2 ^ (n - 1)) od of_
  have q0 := x_sum1 hn5 (p := 0) (by omega) s30 (fac n) (2 ^ (n - 1)) od of_
  have q1 := x_sum1 hn5 (p := 1) (by omega) s31 (fac n) (2 ^ (n - 1)) od of_
  have eq : Int32.ofInt (sm (fac n) (cv n f1 f2)) = Int32.ofInt (sm (fac n) f1) * Int32.ofInt (sm (fac n) f2) := by rw [cv_sum hn5, Int32.ofInt_mul]
  obtain ⟨f3, s4, made4, a4, b4, hl4, hf4, t4, Ymade4, Ya4, Yb4, Yhl4, Yhf4, e4, x4, y4, g4, k4, c4, d4⟩ := l_gets hn hn1 hod hYod (p := 0) (q := 2) (by omega) (by omega) tl e cl hcl s3 t2 made3 Ymade2 hl3 Yhl2 hf3 Yhf2 x3 y2
  have s42 := c4.at_ne (j := 2) (by omega) c3.2
  obtain ⟨r5, s5, made5, a5, b5, hl5, hf5, e5, n5, x5, c5⟩ := x_multiply hn5 hom (p := 2) (j := 2) (k := 0) (by omega) (by omega) (by omega) s42 c4.2 (GB.br hn (GB.b6 hn g1 g2) g4) made4 x4 hl4 hf4
  have t41 := d4.at_ne (j := 1) (by omega) d2.2
  have t40 := d4.at_ne (j := 0) (by omega) t20
  obtain ⟨r6, t6, made6, a6, b6, hl6, hf6, e6, n6, x6, c6⟩ := x_multiply hn5 hYom (p := 1) (j := 1) (k := 2) (by omega) (by omega) (by omega) t41 d4.2 (fun o ho => Nat.le_trans (GB.b6 hn g2 g4 o ho) (by omega)) Ymade4 y4 Yhl4 Yhf4
  have t60 := c6.at_ne (j := 0) (by omega) t40
  obtain ⟨r7, t7, made7, a7, b7, hl7, hf7, e7, n7, x7, c7⟩ := x_multiply hn5 hYom (p := 1) (j := 0) (k := 1) (by omega) (by omega) (by omega) t60 c6.2 (GB.bl hn g1 (GB.b6 hn g2 g4)) made6 x6 hl6 hf6
  have hsame : ∀ o, o < fac n → s5 2 o = t7 1 o := fun o ho => Int32.toInt_inj.mp (by rw [c5.2 o ho, c7.2 o ho]; exact cv_as hn f1 f2 f3 o)
  have e8 := l_same hn5 (p := 2) (q := 1) (by omega) (by omega) hsame a5 tl
  unfold F_L_isGrouped
  rw [bnd (show F_L_gets _ _ _ _ _ _ _ _ _ _ _ (0 : Int32) (0 : Int32) _ _ _ _ _ _ _ _ _ _ _ _ _ _ = some _ from e1), if_neg n10, bnd (show F_L_gets _ _ _ _ _ _ _ _ _ _ _ (1 : Int32) (1 : Int32) _ _ _ _ _ _ _ _ _ _ _ _ _ _ = some _ from e2), if_neg n10, bnd (show F_X5_multiply _ _ _ _ (2 : Int32) (0 : Int32) (1 : Int32) _ _ _ _ _ _ = some _ from e3), if_neg n3, bnd (show F_X5_sumOf _ _ _ _ _ _ (2 : Int32) _ = some _ from q2), bnd (show F_X5_sumOf _ _ _ _ _ _ (0 : Int32) _ = some _ from q0), bnd (show F_X5_sumOf _ _ _ _ _ _ (1 : Int32) _ = some _ from q1), if_pos eq]
  unfold F_L_isGrouped_63
  rw [if_neg n10, bnd (show F_L_gets _ _ _ _ _ _ _ _ _ _ _ (0 : Int32) (2 : Int32) _ _ _ _ _ _ _ _ _ _ _ _ _ _ = some _ from e4), if_neg n10, bnd (show F_X5_multiply _ _ _ _ (2 : Int32) (2 : Int32) (0 : Int32) _ _ _ _ _ _ = some _ from e5), if_neg n5, bnd (show F_X5_multiply _ _ _ _ (1 : Int32) (1 : Int32) (2 : Int32) _ _ _ _ _ _ = some _ from e6), if_neg n6, bnd (show F_X5_multiply _ _ _ _ (1 : Int32) (0 : Int32) (1 : Int32) _ _ _ _ _ _ = some _ from e7), if_neg n7]
  unfold F_L_isGrouped_119
  rw [if_neg n10, bnd (show F_L_areSame _ _ _ _ _ _ _ (2 : Int32) (1 : Int32) = some _ from e8), if_neg n10]
  rcases hcl with rfl | rfl
  · rw [if_pos rfl]
    exact ⟨_, _, _, _, _, _, _, _, _, _, _, _, rfl, x5, x7⟩
  · have e9 := x_sum2 hn5 hn1 hod hof (p := 2) (by omega) c5.2 (cv_CF hn hn1 (cv_CF hn hn1 (k1 rfl) (k2 rfl)) (k4 rfl))
    rw [if_neg n10, bnd (show F_X5_sumOf _ _ _ _ _ _ (2 : Int32) (2 : Int32) = some _ from e9), if_pos rfl]
    exact ⟨_, _, _, _, _, _, _, _, _, _, _, _, rfl, x5, x7⟩
end GR
