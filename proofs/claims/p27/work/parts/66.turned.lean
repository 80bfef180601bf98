/-! the law's own methods: isTurned (by program: wip/p27/gen/gen65.py) -/
theorem GB.s {n : Nat} {f : Nat → Int} (h : GB n 3 f) : ∀ o, o < fac n → (f o).natAbs ≤ 50000 := fun o ho => Nat.le_trans (h.1 o ho) (by omega)
theorem GB.tun {n w : Nat} (hn : n ≤ 4) (hw : w < 4) {f : Nat → Int} (h : GB n 3 f) : GB n 3 (tn n w f) := by
  have hi := tu_ok n (by omega)
  refine ⟨fun o ho => by rw [tn_abs]; exact h.1 _ (hi o ho w hw).1, ?_⟩
  have e : ∀ m, (l1 m (tn n w f) : Int) = sm m fun o => ((f (tu n o w)).natAbs : Int) := by
    intro m
    induction m with
    | zero => rfl
    | succ m ih =>
      show ((l1 m (tn n w f) + (tn n w f m).natAbs : Nat) : Int) = (sm m fun o => ((f (tu n o w)).natAbs : Int)) + ((f (tu n m w)).natAbs : Int)
      rw [← ih, tn_abs]
      exact Int.natCast_add _ _
  have e2 : ∀ m, (l1 m f : Int) = sm m fun o => ((f o).natAbs : Int) := by
    intro m
    induction m with
    | zero => rfl
    | succ m ih =>
      show ((l1 m f + (f m).natAbs : Nat) : Int) = (sm m fun o => ((f o).natAbs : Int)) + ((f m).natAbs : Int)
      rw [← ih]
      exact Int.natCast_add _ _
  have e3 := sm_inv (fun o => tu n o w) (fun o => ((f o).natAbs : Int)) (m := fac n) (fun i hi2 => (hi i hi2 w hw).1) (fun i hi2 => (hi i hi2 w hw).2)
  have e4 : (l1 (fac n) (tn n w f) : Int) = l1 (fac n) f := by rw [e, e2]; exact e3
  have h2 := h.2
  omega
section TU
variable {n : Nat} {od oi ov ol om Yod Yoi Yov Yol Yom : Nat → Int32}
set_option maxHeartbeats 1000000 in
theorem l_turned0 (hn : n ≤ 4) (hn1 : 1 ≤ n) (hod : ∀ o, o < fac n → od o = nI (de n o)) (hT1 : ∀ o, o < fac n → oi o = nI (iv n o) ∧ ov o = nI (vi n o)) (hol : ∀ o k, o < fac n → k < n → ol (o * n + k) = nI (lt n o k)) (hom : ∀ a b, a < fac n → b < fac n → om (a * fac n + b) = nI (mu n a b)) (hYod : ∀ o, o < fac n → Yod o = nI (de n o)) (hYT1 : ∀ o, o < fac n → Yoi o = nI (iv n o) ∧ Yov o = nI (vi n o)) (hYol : ∀ o k, o < fac n → k < n → Yol (o * n + k) = nI (lt n o k)) (hYom : ∀ a b, a < fac n → b < fac n → Yom (a * fac n + b) = nI (mu n a b)) (tl c d : Int32) (s t : Nat → Nat → Int32) (made Ymade : Nat → Int64) {a b Ya Yb : Int32} (hl Yhl : Nat → Int32) (hf Yhf : Nat → Nat → Int32) (ow Yow : Nat → Int32) (hH : HX a b) (hY : HX Ya Yb) :
    ∃ s' made' a' b' hl' hf' ow' t' Ymade' Ya' Yb' Yhl' Yhf' Yow', F_L_isTurned (fac n) (fac n * n) (fac n * fac n) n (fac n) (fac n * n) (fac n * fac n) n tl (nI n) (nI (fac n)) (nI (2 ^ (n - 1))) od oi ov ol om (nI n) (nI (fac n)) (nI (2 ^ (n - 1))) Yod Yoi Yov Yol Yom c d (nI 0) s made a b hl hf ow t Ymade Ya Yb Yhl Yhf Yow = some (1, s', made', a', b', hl', hf', ow', t', Ymade', Ya', Yb', Yhl', Yhf', Yow') ∧ HX a' b' ∧ HX Ya' Yb' := by
  have hn5 : n ≤ 5 := by omega
  obtain ⟨f1, s1, made1, a1, b1, hl1, hf1, t1, Ymade1, Ya1, Yb1, Yhl1, Yhf1, e1, x1, y1, g1, -, c1, d1⟩ := l_gets hn hn1 hod hYod (p := 0) (q := 0) (by omega) (by omega) tl c 0 (Or.inl rfl) s t made Ymade hl Yhl hf Yhf hH hY
  obtain ⟨f2, s2, made2, a2, b2, hl2, hf2, t2, Ymade2, Ya2, Yb2, Yhl2, Yhf2, e2, x2, y2, g2, -, c2, d2⟩ := l_gets hn hn1 hod hYod (p := 1) (q := 1) (by omega) (by omega) tl d 0 (Or.inl rfl) s1 t1 made1 Ymade1 hl1 Yhl1 hf1 Yhf1 x1 y1
  have s20 := c2.at_ne (j := 0) (by omega) c1.2
  have t20 := d2.at_ne (j := 0) (by omega) d1.2
  obtain ⟨r3, s3, made3, a3, b3, hl3, hf3, e3, n3, x3, c3⟩ := x_multiply hn5 hom (p := 2) (j := 0) (k := 1) (by omega) (by omega) (by omega) s20 c2.2 (fun o ho => Nat.le_trans (GB.b6 hn g1 g2 o ho) (by omega)) made2 x2 hl2 hf2
  have s30 := c3.at_ne (j := 0) (by omega) s20
  obtain ⟨r4, s4, made4, a4, b4, hl4, hf4, ow4, e4, n4, x4, c4⟩ := x_turn hn5 hn1 hT1 hol (p := 2) (w := 0) (by omega) (by omega) c3.2 (fun o ho => Nat.le_trans (GB.b6 hn g1 g2 o ho) (by omega)) made3 x3 hl3 hf3 ow
  have s40 := c4.at_ne (j := 0) (by omega) s30
  obtain ⟨r5, t5, Ymade5, Ya5, Yb5, Yhl5, Yhf5, Yow5, e5, n5, y5, d5⟩ := x_turn hn5 hn1 hYT1 hYol (p := 0) (w := 0) (by omega) (by omega) t20 g1.s Ymade2 y2 Yhl2 Yhf2 Yow
  have t51 := d5.at_ne (j := 1) (by omega) d2.2
  obtain ⟨r6, t6, Ymade6, Ya6, Yb6, Yhl6, Yhf6, Yow6, e6, n6, y6, d6⟩ := x_turn hn5 hn1 hYT1 hYol (p := 1) (w := 0) (by omega) (by omega) t51 g2.s Ymade5 y5 Yhl5 Yhf5 Yow5
  have t60 := d6.at_ne (j := 0) (by omega) d5.2
  obtain ⟨r7, t7, Ymade7, Ya7, Yb7, Yhl7, Yhf7, e7, n7, y7, d7⟩ := x_multiply hn5 hYom (p := 2) (j := 1) (k := 0) (by omega) (by omega) (by omega) d6.2 t60 (fun o ho => Nat.le_trans (GB.b6 hn (g2.tun (w := 0) hn (by omega)) (g1.tun (w := 0) hn (by omega)) o ho) (by omega)) Ymade6 y6 Yhl6 Yhf6
  have hsame : ∀ o, o < fac n → s4 2 o = t7 2 o := fun o ho => Int32.toInt_inj.mp (by rw [c4.2 o ho, d7.2 o ho]; exact (cv_t0 hn f1 f2 ho).symm)
  have e8 := l_same hn5 (p := 2) (q := 2) (by omega) (by omega) hsame a4 tl
  have t70 := d7.at_ne (j := 0) (by omega) t60
  obtain ⟨r9, s9, made9, a9, b9, hl9, hf9, ow9, e9, n9, x9, c9⟩ := x_turn hn5 hn1 hT1 hol (p := 0) (w := 0) (by omega) (by omega) s40 g1.s made4 x4 hl4 hf4 ow4
  obtain ⟨r10, s10, made10, a10, b10, hl10, hf10, ow10, e10, nn10, x10, c10⟩ := x_turn hn5 hn1 hT1 hol (p := 0) (w := 0) (by omega) (by omega) c9.2 (g1.tun (w := 0) hn (by omega)).s made9 x9 hl9 hf9 ow9
  obtain ⟨r11, t11, Ymade11, Ya11, Yb11, Yhl11, Yhf11, Yow11, e11, n11, y11, d11⟩ := x_turn hn5 hn1 hYT1 hYol (p := 0) (w := 0) (by omega) (by omega) t70 (g1.tun (w := 0) hn (by omega)).s Ymade7 y7 Yhl7 Yhf7 Yow6
  have hsame2 : ∀ o, o < fac n → s10 0 o = t11 0 o := fun o ho => Int32.toInt_inj.mp (by rw [c10.2 o ho, d11.2 o ho])
  have e12 := l_same hn5 (p := 0) (q := 0) (by omega) (by omega) hsame2 a10 tl
  unfold F_L_isTurned
  rw [bnd (show F_L_gets _ _ _ _ _ _ _ _ _ _ _ (0 : Int32) (0 : Int32) _ (0 : Int32) _ _ _ _ _ _ _ _ _ _ _ _ = some _ from e1), if_neg n10, bnd (show F_L_gets _ _ _ _ _ _ _ _ _ _ _ (1 : Int32) (1 : Int32) _ (0 : Int32) _ _ _ _ _ _ _ _ _ _ _ _ = some _ from e2), if_neg n10, bnd (show F_X5_multiply _ _ _ _ (2 : Int32) (0 : Int32) (1 : Int32) _ _ _ _ _ _ = some _ from e3), if_neg n3, bnd (show F_X5_turn _ _ _ _ _ _ _ _ (2 : Int32) _ _ _ _ _ _ _ _ = some _ from e4), if_neg n4]
  unfold F_L_isTurned_49
  rw [if_neg n10, if_neg (show ¬ nI 0 = (1 : Int32) by decide), bnd (show F_X5_turn _ _ _ _ _ _ _ _ (0 : Int32) _ _ _ _ _ _ _ _ = some _ from e5), if_neg n5]
  unfold F_L_isTurned_72
  rw [if_neg (show ¬ nI 0 = (2 : Int32) by decide), bnd (show F_X5_turn _ _ _ _ _ _ _ _ (1 : Int32) _ _ _ _ _ _ _ _ = some _ from e6), if_neg n6]
  unfold F_L_isTurned_88 F_L_isTurned_93
  rw [if_neg n10, if_pos (show nI 0 = (0 : Int32) by decide), bnd (show F_X5_multiply _ _ _ _ (2 : Int32) (1 : Int32) (0 : Int32) _ _ _ _ _ _ = some _ from e7)]
  unfold F_L_isTurned_122
  rw [if_neg n7, bnd (show F_L_areSame _ _ _ _ _ _ _ (2 : Int32) (2 : Int32) = some _ from e8), if_neg n10]
  unfold F_L_isTurned_140
  rw [if_neg n10, bnd (show F_X5_turn _ _ _ _ _ _ _ _ (0 : Int32) _ _ _ _ _ _ _ _ = some _ from e9), if_neg n9, bnd (show F_X5_turn _ _ _ _ _ _ _ _ (0 : Int32) _ _ _ _ _ _ _ _ = some _ from e10), if_neg nn10]
  unfold F_L_isTurned_172
  rw [if_neg n10, if_neg (show ¬ nI 0 = (1 : Int32) by decide), bnd (show F_X5_turn _ _ _ _ _ _ _ _ (0 : Int32) _ _ _ _ _ _ _ _ = some _ from e11), if_neg n11]
  unfold F_L_isTurned_195
  rw [bnd (show F_L_areSame _ _ _ _ _ _ _ (0 : Int32) (0 : Int32) = some _ from e12), if_neg n10]
  exact ⟨_, _, _, _, _, _, _, _, _, _, _, _, _, _, rfl, x10, y11⟩
set_option maxHeartbeats 1000000 in
theorem l_turned1 (hn : n ≤ 4) (hn1 : 1 ≤ n) (hod : ∀ o, o < fac n → od o = nI (de n o)) (hT1 : ∀ o, o < fac n → oi o = nI (iv n o) ∧ ov o = nI (vi n o)) (hol : ∀ o k, o < fac n → k < n → ol (o * n + k) = nI (lt n o k)) (hom : ∀ a b, a < fac n → b < fac n → om (a * fac n + b) = nI (mu n a b)) (hYod : ∀ o, o < fac n → Yod o = nI (de n o)) (hYT1 : ∀ o, o < fac n → Yoi o = nI (iv n o) ∧ Yov o = nI (vi n o)) (hYol : ∀ o k, o < fac n → k < n → Yol (o * n + k) = nI (lt n o k)) (hYom : ∀ a b, a < fac n → b < fac n → Yom (a * fac n + b) = nI (mu n a b)) (tl c d : Int32) (s t : Nat → Nat → Int32) (made Ymade : Nat → Int64) {a b Ya Yb : Int32} (hl Yhl : Nat → Int32) (hf Yhf : Nat → Nat → Int32) (ow Yow : Nat → Int32) (hH : HX a b) (hY : HX Ya Yb) :
    ∃ s' made' a' b' hl' hf' ow' t' Ymade' Ya' Yb' Yhl' Yhf' Yow', F_L_isTurned (fac n) (fac n * n) (fac n * fac n) n (fac n) (fac n * n) (fac n * fac n) n tl (nI n) (nI (fac n)) (nI (2 ^ (n - 1))) od oi ov ol om (nI n) (nI (fac n)) (nI (2 ^ (n - 1))) Yod Yoi Yov Yol Yom c d (nI 1) s made a b hl hf ow t Ymade Ya Yb Yhl Yhf Yow = some (1, s', made', a', b', hl', hf', ow', t', Ymade', Ya', Yb', Yhl', Yhf', Yow') ∧ HX a' b' ∧ HX Ya' Yb' := by
  have hn5 : n ≤ 5 := by omega
  obtain ⟨f1, s1, made1, a1, b1, hl1, hf1, t1, Ymade1, Ya1, Yb1, Yhl1, Yhf1, e1, x1, y1, g1, -, c1, d1⟩ := l_gets hn hn1 hod hYod (p := 0) (q := 0) (by omega) (by omega) tl c 0 (Or.inl rfl) s t made Ymade hl Yhl hf Yhf hH hY
  obtain ⟨f2, s2, made2, a2, b2, hl2, hf2, t2, Ymade2, Ya2, Yb2, Yhl2, Yhf2, e2, x2, y2, g2, -, c2, d2⟩ := l_gets hn hn1 hod hYod (p := 1) (q := 1) (by omega) (by omega) tl d 0 (Or.inl rfl) s1 t1 made1 Ymade1 hl1 Yhl1 hf1 Yhf1 x1 y1
  have s20 := c2.at_ne (j := 0) (by omega) c1.2
  have t20 := d2.at_ne (j := 0) (by omega) d1.2
  obtain ⟨r3, s3, made3, a3, b3, hl3, hf3, e3, n3, x3, c3⟩ := x_multiply hn5 hom (p := 2) (j := 0) (k := 1) (by omega) (by omega) (by omega) s20 c2.2 (fun o ho => Nat.le_trans (GB.b6 hn g1 g2 o ho) (by omega)) made2 x2 hl2 hf2
  have s30 := c3.at_ne (j := 0) (by omega) s20
  obtain ⟨r4, s4, made4, a4, b4, hl4, hf4, ow4, e4, n4, x4, c4⟩ := x_turn hn5 hn1 hT1 hol (p := 2) (w := 1) (by omega) (by omega) c3.2 (fun o ho => Nat.le_trans (GB.b6 hn g1 g2 o ho) (by omega)) made3 x3 hl3 hf3 ow
  have s40 := c4.at_ne (j := 0) (by omega) s30
  obtain ⟨r6, t6, Ymade6, Ya6, Yb6, Yhl6, Yhf6, Yow6, e6, n6, y6, d6⟩ := x_turn hn5 hn1 hYT1 hYol (p := 1) (w := 1) (by omega) (by omega) d2.2 g2.s Ymade2 y2 Yhl2 Yhf2 Yow
  have t60 := d6.at_ne (j := 0) (by omega) t20
  obtain ⟨r7, t7, Ymade7, Ya7, Yb7, Yhl7, Yhf7, e7, n7, y7, d7⟩ := x_multiply hn5 hYom (p := 2) (j := 0) (k := 1) (by omega) (by omega) (by omega) t60 d6.2 (fun o ho => Nat.le_trans (GB.b6 hn g1 (g2.tun (w := 1) hn (by omega)) o ho) (by omega)) Ymade6 y6 Yhl6 Yhf6
  have hsame : ∀ o, o < fac n → s4 2 o = t7 2 o := fun o ho => Int32.toInt_inj.mp (by rw [c4.2 o ho, d7.2 o ho]; exact (cv_t1 hn f1 f2 ho).symm)
  have e8 := l_same hn5 (p := 2) (q := 2) (by omega) (by omega) hsame a4 tl
  have t70 := d7.at_ne (j := 0) (by omega) t60
  obtain ⟨r9, s9, made9, a9, b9, hl9, hf9, ow9, e9, n9, x9, c9⟩ := x_turn hn5 hn1 hT1 hol (p := 0) (w := 1) (by omega) (by omega) s40 g1.s made4 x4 hl4 hf4 ow4
  obtain ⟨r10, s10, made10, a10, b10, hl10, hf10, ow10, e10, nn10, x10, c10⟩ := x_turn hn5 hn1 hT1 hol (p := 0) (w := 1) (by omega) (by omega) c9.2 (g1.tun (w := 1) hn (by omega)).s made9 x9 hl9 hf9 ow9
  have hsame2 : ∀ o, o < fac n → s10 0 o = t7 0 o := fun o ho => Int32.toInt_inj.mp (by rw [c10.2 o ho, t70 o ho]; exact tn_tn hn5 (by omega) f1 ho)
  have e12 := l_same hn5 (p := 0) (q := 0) (by omega) (by omega) hsame2 a10 tl
  unfold F_L_isTurned
  rw [bnd (show F_L_gets _ _ _ _ _ _ _ _ _ _ _ (0 : Int32) (0 : Int32) _ (0 : Int32) _ _ _ _ _ _ _ _ _ _ _ _ = some _ from e1), if_neg n10, bnd (show F_L_gets _ _ _ _ _ _ _ _ _ _ _ (1 : Int32) (1 : Int32) _ (0 : Int32) _ _ _ _ _ _ _ _ _ _ _ _ = some _ from e2), if_neg n10, bnd (show F_X5_multiply _ _ _ _ (2 : Int32) (0 : Int32) (1 : Int32) _ _ _ _ _ _ = some _ from e3), if_neg n3, bnd (show F_X5_turn _ _ _ _ _ _ _ _ (2 : Int32) _ _ _ _ _ _ _ _ = some _ from e4), if_neg n4]
  unfold F_L_isTurned_49
  rw [if_neg n10, if_pos (show nI 1 = (1 : Int32) by decide)]
  unfold F_L_isTurned_72
  rw [if_neg (show ¬ nI 1 = (2 : Int32) by decide), bnd (show F_X5_turn _ _ _ _ _ _ _ _ (1 : Int32) _ _ _ _ _ _ _ _ = some _ from e6), if_neg n6]
  unfold F_L_isTurned_88 F_L_isTurned_93
  rw [if_neg n10, if_neg (show ¬ nI 1 = (0 : Int32) by decide), bnd (show F_X5_multiply _ _ _ _ (2 : Int32) (0 : Int32) (1 : Int32) _ _ _ _ _ _ = some _ from e7)]
  unfold F_L_isTurned_122
  rw [if_neg n7, bnd (show F_L_areSame _ _ _ _ _ _ _ (2 : Int32) (2 : Int32) = some _ from e8), if_neg n10]
  unfold F_L_isTurned_140
  rw [if_neg n10, bnd (show F_X5_turn _ _ _ _ _ _ _ _ (0 : Int32) _ _ _ _ _ _ _ _ = some _ from e9), if_neg n9, bnd (show F_X5_turn _ _ _ _ _ _ _ _ (0 : Int32) _ _ _ _ _ _ _ _ = some _ from e10), if_neg nn10]
  unfold F_L_isTurned_172
  rw [if_neg n10, if_pos (show nI 1 = (1 : Int32) by decide)]
  unfold F_L_isTurned_195
  rw [bnd (show F_L_areSame _ _ _ _ _ _ _ (0 : Int32) (0 : Int32) = some _ from e12), if_neg n10]
  exact ⟨_, _, _, _, _, _, _, _, _, _, _, _, _, _, rfl, x10, y7⟩
set_option maxHeartbeats 1000000 in
theorem l_turned2 (hn : n ≤ 4) (hn1 : 1 ≤ n) (hod : ∀ o, o < fac n → od o = nI (de n o)) (hT1 : ∀ o, o < fac n → oi o = nI (iv n o) ∧ ov o = nI (vi n o)) (hol : ∀ o k, o < fac n → k < n → ol (o * n + k) = nI (lt n o k)) (hom : ∀ a b, a < fac n → b < fac n → om (a * fac n + b) = nI (mu n a b)) (hYod : ∀ o, o < fac n → Yod o = nI (de n o)) (hYT1 : ∀ o, o < fac n → Yoi o = nI (iv n o) ∧ Yov o = nI (vi n o)) (hYol : ∀ o k, o < fac n → k < n → Yol (o * n + k) = nI (lt n o k)) (hYom : ∀ a b, a < fac n → b < fac n → Yom (a * fac n + b) = nI (mu n a b)) (tl c d : Int32) (s t : Nat → Nat → Int32) (made Ymade : Nat → Int64) {a b Ya Yb : Int32} (hl Yhl : Nat → Int32) (hf Yhf : Nat → Nat → Int32) (ow Yow : Nat → Int32) (hH : HX a b) (hY : HX Ya Yb) :
    ∃ s' made' a' b' hl' hf' ow' t' Ymade' Ya' Yb' Yhl' Yhf' Yow', F_L_isTurned (fac n) (fac n * n) (fac n * fac n) n (fac n) (fac n * n) (fac n * fac n) n tl (nI n) (nI (fac n)) (nI (2 ^ (n - 1))) od oi ov ol om (nI n) (nI (fac n)) (nI (2 ^ (n - 1))) Yod Yoi Yov Yol Yom c d (nI 2) s made a b hl hf ow t Ymade Ya Yb Yhl Yhf Yow = some (1, s', made', a', b', hl', hf', ow', t', Ymade', Ya', Yb', Yhl', Yhf', Yow') ∧ HX a' b' ∧ HX Ya' Yb' := by
  have hn5 : n ≤ 5 := by omega
  obtain ⟨f1, s1, made1, a1, b1, hl1, hf1, t1, Ymade1, Ya1, Yb1, Yhl1, Yhf1, e1, x1, y1, g1, -, c1, d1⟩ := l_gets hn hn1 hod hYod (p := 0) (q := 0) (by omega) (by omega) tl c 0 (Or.inl rfl) s t made Ymade hl Yhl hf Yhf hH hY
  obtain ⟨f2, s2, made2, a2, b2, hl2, hf2, t2, Ymade2, Ya2, Yb2, Yhl2, Yhf2, e2, x2, y2, g2, -, c2, d2⟩ := l_gets hn hn1 hod hYod (p := 1) (q := 1) (by omega) (by omega) tl d 0 (Or.inl rfl) s1 t1 made1 Ymade1 hl1 Yhl1 hf1 Yhf1 x1 y1
  have s20 := c2.at_ne (j := 0) (by omega) c1.2
  have t20 := d2.at_ne (j := 0) (by omega) d1.2
  obtain ⟨r3, s3, made3, a3, b3, hl3, hf3, e3, n3, x3, c3⟩ := x_multiply hn5 hom (p := 2) (j := 0) (k := 1) (by omega) (by omega) (by omega) s20 c2.2 (fun o ho => Nat.le_trans (GB.b6 hn g1 g2 o ho) (by omega)) made2 x2 hl2 hf2
  have s30 := c3.at_ne (j := 0) (by omega) s20
  obtain ⟨r4, s4, made4, a4, b4, hl4, hf4, ow4, e4, n4, x4, c4⟩ := x_turn hn5 hn1 hT1 hol (p := 2) (w := 2) (by omega) (by omega) c3.2 (fun o ho => Nat.le_trans (GB.b6 hn g1 g2 o ho) (by omega)) made3 x3 hl3 hf3 ow
  have s40 := c4.at_ne (j := 0) (by omega) s30
  obtain ⟨r5, t5, Ymade5, Ya5, Yb5, Yhl5, Yhf5, Yow5, e5, n5, y5, d5⟩ := x_turn hn5 hn1 hYT1 hYol (p := 0) (w := 2) (by omega) (by omega) t20 g1.s Ymade2 y2 Yhl2 Yhf2 Yow
  have t51 := d5.at_ne (j := 1) (by omega) d2.2
  obtain ⟨r7, t7, Ymade7, Ya7, Yb7, Yhl7, Yhf7, e7, n7, y7, d7⟩ := x_multiply hn5 hYom (p := 2) (j := 0) (k := 1) (by omega) (by omega) (by omega) d5.2 t51 (fun o ho => Nat.le_trans (GB.b6 hn (g1.tun (w := 2) hn (by omega)) g2 o ho) (by omega)) Ymade5 y5 Yhl5 Yhf5
  have hsame : ∀ o, o < fac n → s4 2 o = t7 2 o := fun o ho => Int32.toInt_inj.mp (by rw [c4.2 o ho, d7.2 o ho]; exact (cv_t2 hn f1 f2 ho).symm)
  have e8 := l_same hn5 (p := 2) (q := 2) (by omega) (by omega) hsame a4 tl
  have t70 := d7.at_ne (j := 0) (by omega) d5.2
  obtain ⟨r9, s9, made9, a9, b9, hl9, hf9, ow9, e9, n9, x9, c9⟩ := x_turn hn5 hn1 hT1 hol (p := 0) (w := 2) (by omega) (by omega) s40 g1.s made4 x4 hl4 hf4 ow4
  obtain ⟨r10, s10, made10, a10, b10, hl10, hf10, ow10, e10, nn10, x10, c10⟩ := x_turn hn5 hn1 hT1 hol (p := 0) (w := 2) (by omega) (by omega) c9.2 (g1.tun (w := 2) hn (by omega)).s made9 x9 hl9 hf9 ow9
  obtain ⟨r11, t11, Ymade11, Ya11, Yb11, Yhl11, Yhf11, Yow11, e11, n11, y11, d11⟩ := x_turn hn5 hn1 hYT1 hYol (p := 0) (w := 2) (by omega) (by omega) t70 (g1.tun (w := 2) hn (by omega)).s Ymade7 y7 Yhl7 Yhf7 Yow5
  have hsame2 : ∀ o, o < fac n → s10 0 o = t11 0 o := fun o ho => Int32.toInt_inj.mp (by rw [c10.2 o ho, d11.2 o ho])
  have e12 := l_same hn5 (p := 0) (q := 0) (by omega) (by omega) hsame2 a10 tl
  unfold F_L_isTurned
  rw [bnd (show F_L_gets _ _ _ _ _ _ _ _ _ _ _ (0 : Int32) (0 : Int32) _ (0 : Int32) _ _ _ _ _ _ _ _ _ _ _ _ = some _ from e1), if_neg n10, bnd (show F_L_gets _ _ _ _ _ _ _ _ _ _ _ (1 : Int32) (1 : Int32) _ (0 : Int32) _ _ _ _ _ _ _ _ _ _ _ _ = some _ from e2), if_neg n10, bnd (show F_X5_multiply _ _ _ _ (2 : Int32) (0 : Int32) (1 : Int32) _ _ _ _ _ _ = some _ from e3), if_neg n3, bnd (show F_X5_turn _ _ _ _ _ _ _ _ (2 : Int32) _ _ _ _ _ _ _ _ = some _ from e4), if_neg n4]
  unfold F_L_isTurned_49
  rw [if_neg n10, if_neg (show ¬ nI 2 = (1 : Int32) by decide), bnd (show F_X5_turn _ _ _ _ _ _ _ _ (0 : Int32) _ _ _ _ _ _ _ _ = some _ from e5), if_neg n5]
  unfold F_L_isTurned_72
  rw [if_pos (show nI 2 = (2 : Int32) by decide)]
  unfold F_L_isTurned_88 F_L_isTurned_93
  rw [if_neg n10, if_neg (show ¬ nI 2 = (0 : Int32) by decide), bnd (show F_X5_multiply _ _ _ _ (2 : Int32) (0 : Int32) (1 : Int32) _ _ _ _ _ _ = some _ from e7)]
  unfold F_L_isTurned_122
  rw [if_neg n7, bnd (show F_L_areSame _ _ _ _ _ _ _ (2 : Int32) (2 : Int32) = some _ from e8), if_neg n10]
  unfold F_L_isTurned_140
  rw [if_neg n10, bnd (show F_X5_turn _ _ _ _ _ _ _ _ (0 : Int32) _ _ _ _ _ _ _ _ = some _ from e9), if_neg n9, bnd (show F_X5_turn _ _ _ _ _ _ _ _ (0 : Int32) _ _ _ _ _ _ _ _ = some _ from e10), if_neg nn10]
  unfold F_L_isTurned_172
  rw [if_neg n10, if_neg (show ¬ nI 2 = (1 : Int32) by decide), bnd (show F_X5_turn _ _ _ _ _ _ _ _ (0 : Int32) _ _ _ _ _ _ _ _ = some _ from e11), if_neg n11]
  unfold F_L_isTurned_195
  rw [bnd (show F_L_areSame _ _ _ _ _ _ _ (0 : Int32) (0 : Int32) = some _ from e12), if_neg n10]
  exact ⟨_, _, _, _, _, _, _, _, _, _, _, _, _, _, rfl, x10, y11⟩
set_option maxHeartbeats 1000000 in
theorem l_turned3 (hn : n ≤ 4) (hn1 : 1 ≤ n) (hod : ∀ o, o < fac n → od o = nI (de n o)) (hT1 : ∀ o, o < fac n → oi o = nI (iv n o) ∧ ov o = nI (vi n o)) (hol : ∀ o k, o < fac n → k < n → ol (o * n + k) = nI (lt n o k)) (hom : ∀ a b, a < fac n → b < fac n → om (a * fac n + b) = nI (mu n a b)) (hYod : ∀ o, o < fac n → Yod o = nI (de n o)) (hYT1 : ∀ o, o < fac n → Yoi o = nI (iv n o) ∧ Yov o = nI (vi n o)) (hYol : ∀ o k, o < fac n → k < n → Yol (o * n + k) = nI (lt n o k)) (hYom : ∀ a b, a < fac n → b < fac n → Yom (a * fac n + b) = nI (mu n a b)) (tl c d : Int32) (s t : Nat → Nat → Int32) (made Ymade : Nat → Int64) {a b Ya Yb : Int32} (hl Yhl : Nat → Int32) (hf Yhf : Nat → Nat → Int32) (ow Yow : Nat → Int32) (hH : HX a b) (hY : HX Ya Yb) :
    ∃ s' made' a' b' hl' hf' ow' t' Ymade' Ya' Yb' Yhl' Yhf' Yow', F_L_isTurned (fac n) (fac n * n) (fac n * fac n) n (fac n) (fac n * n) (fac n * fac n) n tl (nI n) (nI (fac n)) (nI (2 ^ (n - 1))) od oi ov ol om (nI n) (nI (fac n)) (nI (2 ^ (n - 1))) Yod Yoi Yov Yol Yom c d (nI 3) s made a b hl hf ow t Ymade Ya Yb Yhl Yhf Yow = some (1, s', made', a', b', hl', hf', ow', t', Ymade', Ya', Yb', Yhl', Yhf', Yow') ∧ HX a' b' ∧ HX Ya' Yb' := by
  have hn5 : n ≤ 5 := by omega
  obtain ⟨f1, s1, made1, a1, b1, hl1, hf1, t1, Ymade1, Ya1, Yb1, Yhl1, Yhf1, e1, x1, y1, g1, -, c1, d1⟩ := l_gets hn hn1 hod hYod (p := 0) (q := 0) (by omega) (by omega) tl c 0 (Or.inl rfl) s t made Ymade hl Yhl hf Yhf hH hY
  obtain ⟨f2, s2, made2, a2, b2, hl2, hf2, t2, Ymade2, Ya2, Yb2, Yhl2, Yhf2, e2, x2, y2, g2, -, c2, d2⟩ := l_gets hn hn1 hod hYod (p := 1) (q := 1) (by omega) (by omega) tl d 0 (Or.inl rfl) s1 t1 made1 Ymade1 hl1 Yhl1 hf1 Yhf1 x1 y1
  have s20 := c2.at_ne (j := 0) (by omega) c1.2
  have t20 := d2.at_ne (j := 0) (by omega) d1.2
  obtain ⟨r3, s3, made3, a3, b3, hl3, hf3, e3, n3, x3, c3⟩ := x_multiply hn5 hom (p := 2) (j := 0) (k := 1) (by omega) (by omega) (by omega) s20 c2.2 (fun o ho => Nat.le_trans (GB.b6 hn g1 g2 o ho) (by omega)) made2 x2 hl2 hf2
  have s30 := c3.at_ne (j := 0) (by omega) s20
  obtain ⟨r4, s4, made4, a4, b4, hl4, hf4, ow4, e4, n4, x4, c4⟩ := x_turn hn5 hn1 hT1 hol (p := 2) (w := 3) (by omega) (by omega) c3.2 (fun o ho => Nat.le_trans (GB.b6 hn g1 g2 o ho) (by omega)) made3 x3 hl3 hf3 ow
  have s40 := c4.at_ne (j := 0) (by omega) s30
  obtain ⟨r5, t5, Ymade5, Ya5, Yb5, Yhl5, Yhf5, Yow5, e5, n5, y5, d5⟩ := x_turn hn5 hn1 hYT1 hYol (p := 0) (w := 3) (by omega) (by omega) t20 g1.s Ymade2 y2 Yhl2 Yhf2 Yow
  have t51 := d5.at_ne (j := 1) (by omega) d2.2
  obtain ⟨r6, t6, Ymade6, Ya6, Yb6, Yhl6, Yhf6, Yow6, e6, n6, y6, d6⟩ := x_turn hn5 hn1 hYT1 hYol (p := 1) (w := 3) (by omega) (by omega) t51 g2.s Ymade5 y5 Yhl5 Yhf5 Yow5
  have t60 := d6.at_ne (j := 0) (by omega) d5.2
  obtain ⟨r7, t7, Ymade7, Ya7, Yb7, Yhl7, Yhf7, e7, n7, y7, d7⟩ := x_multiply hn5 hYom (p := 2) (j := 0) (k := 1) (by omega) (by omega) (by omega) t60 d6.2 (fun o ho => Nat.le_trans (GB.b6 hn (g1.tun (w := 3) hn (by omega)) (g2.tun (w := 3) hn (by omega)) o ho) (by omega)) Ymade6 y6 Yhl6 Yhf6
  have hsame : ∀ o, o < fac n → s4 2 o = t7 2 o := fun o ho => Int32.toInt_inj.mp (by rw [c4.2 o ho, d7.2 o ho]; exact (cv_t3 hn f1 f2 o).symm)
  have e8 := l_same hn5 (p := 2) (q := 2) (by omega) (by omega) hsame a4 tl
  have t70 := d7.at_ne (j := 0) (by omega) t60
  obtain ⟨r9, s9, made9, a9, b9, hl9, hf9, ow9, e9, n9, x9, c9⟩ := x_turn hn5 hn1 hT1 hol (p := 0) (w := 3) (by omega) (by omega) s40 g1.s made4 x4 hl4 hf4 ow4
  obtain ⟨r10, s10, made10, a10, b10, hl10, hf10, ow10, e10, nn10, x10, c10⟩ := x_turn hn5 hn1 hT1 hol (p := 0) (w := 3) (by omega) (by omega) c9.2 (g1.tun (w := 3) hn (by omega)).s made9 x9 hl9 hf9 ow9
  obtain ⟨r11, t11, Ymade11, Ya11, Yb11, Yhl11, Yhf11, Yow11, e11, n11, y11, d11⟩ := x_turn hn5 hn1 hYT1 hYol (p := 0) (w := 3) (by omega) (by omega) t70 (g1.tun (w := 3) hn (by omega)).s Ymade7 y7 Yhl7 Yhf7 Yow6
  have hsame2 : ∀ o, o < fac n → s10 0 o = t11 0 o := fun o ho => Int32.toInt_inj.mp (by rw [c10.2 o ho, d11.2 o ho])
  have e12 := l_same hn5 (p := 0) (q := 0) (by omega) (by omega) hsame2 a10 tl
  unfold F_L_isTurned
  rw [bnd (show F_L_gets _ _ _ _ _ _ _ _ _ _ _ (0 : Int32) (0 : Int32) _ (0 : Int32) _ _ _ _ _ _ _ _ _ _ _ _ = some _ from e1), if_neg n10, bnd (show F_L_gets _ _ _ _ _ _ _ _ _ _ _ (1 : Int32) (1 : Int32) _ (0 : Int32) _ _ _ _ _ _ _ _ _ _ _ _ = some _ from e2), if_neg n10, bnd (show F_X5_multiply _ _ _ _ (2 : Int32) (0 : Int32) (1 : Int32) _ _ _ _ _ _ = some _ from e3), if_neg n3, bnd (show F_X5_turn _ _ _ _ _ _ _ _ (2 : Int32) _ _ _ _ _ _ _ _ = some _ from e4), if_neg n4]
  unfold F_L_isTurned_49
  rw [if_neg n10, if_neg (show ¬ nI 3 = (1 : Int32) by decide), bnd (show F_X5_turn _ _ _ _ _ _ _ _ (0 : Int32) _ _ _ _ _ _ _ _ = some _ from e5), if_neg n5]
  unfold F_L_isTurned_72
  rw [if_neg (show ¬ nI 3 = (2 : Int32) by decide), bnd (show F_X5_turn _ _ _ _ _ _ _ _ (1 : Int32) _ _ _ _ _ _ _ _ = some _ from e6), if_neg n6]
  unfold F_L_isTurned_88 F_L_isTurned_93
  rw [if_neg n10, if_neg (show ¬ nI 3 = (0 : Int32) by decide), bnd (show F_X5_multiply _ _ _ _ (2 : Int32) (0 : Int32) (1 : Int32) _ _ _ _ _ _ = some _ from e7)]
  unfold F_L_isTurned_122
  rw [if_neg n7, bnd (show F_L_areSame _ _ _ _ _ _ _ (2 : Int32) (2 : Int32) = some _ from e8), if_neg n10]
  unfold F_L_isTurned_140
  rw [if_neg n10, bnd (show F_X5_turn _ _ _ _ _ _ _ _ (0 : Int32) _ _ _ _ _ _ _ _ = some _ from e9), if_neg n9, bnd (show F_X5_turn _ _ _ _ _ _ _ _ (0 : Int32) _ _ _ _ _ _ _ _ = some _ from e10), if_neg nn10]
  unfold F_L_isTurned_172
  rw [if_neg n10, if_neg (show ¬ nI 3 = (1 : Int32) by decide), bnd (show F_X5_turn _ _ _ _ _ _ _ _ (0 : Int32) _ _ _ _ _ _ _ _ = some _ from e11), if_neg n11]
  unfold F_L_isTurned_195
  rw [bnd (show F_L_areSame _ _ _ _ _ _ _ (0 : Int32) (0 : Int32) = some _ from e12), if_neg n10]
  exact ⟨_, _, _, _, _, _, _, _, _, _, _, _, _, _, rfl, x10, y11⟩
theorem l_turned (hn : n ≤ 4) (hn1 : 1 ≤ n) (hod : ∀ o, o < fac n → od o = nI (de n o)) (hT1 : ∀ o, o < fac n → oi o = nI (iv n o) ∧ ov o = nI (vi n o)) (hol : ∀ o k, o < fac n → k < n → ol (o * n + k) = nI (lt n o k)) (hom : ∀ a b, a < fac n → b < fac n → om (a * fac n + b) = nI (mu n a b)) (hYod : ∀ o, o < fac n → Yod o = nI (de n o)) (hYT1 : ∀ o, o < fac n → Yoi o = nI (iv n o) ∧ Yov o = nI (vi n o)) (hYol : ∀ o k, o < fac n → k < n → Yol (o * n + k) = nI (lt n o k)) (hYom : ∀ a b, a < fac n → b < fac n → Yom (a * fac n + b) = nI (mu n a b)) (tl c d : Int32) {w : Nat} (hw : w < 4) (s t : Nat → Nat → Int32) (made Ymade : Nat → Int64) {a b Ya Yb : Int32} (hl Yhl : Nat → Int32) (hf Yhf : Nat → Nat → Int32) (ow Yow : Nat → Int32) (hH : HX a b) (hY : HX Ya Yb) :
    ∃ s' made' a' b' hl' hf' ow' t' Ymade' Ya' Yb' Yhl' Yhf' Yow', F_L_isTurned (fac n) (fac n * n) (fac n * fac n) n (fac n) (fac n * n) (fac n * fac n) n tl (nI n) (nI (fac n)) (nI (2 ^ (n - 1))) od oi ov ol om (nI n) (nI (fac n)) (nI (2 ^ (n - 1))) Yod Yoi Yov Yol Yom c d (nI w) s made a b hl hf ow t Ymade Ya Yb Yhl Yhf Yow = some (1, s', made', a', b', hl', hf', ow', t', Ymade', Ya', Yb', Yhl', Yhf', Yow') ∧ HX a' b' ∧ HX Ya' Yb' := by
  rcases (show w = 0 ∨ w = 1 ∨ w = 2 ∨ w = 3 by omega) with rfl | rfl | rfl | rfl
  · exact l_turned0 hn hn1 hod hT1 hol hom hYod hYT1 hYol hYom tl c d s t made Ymade hl Yhl hf Yhf ow Yow hH hY
  · exact l_turned1 hn hn1 hod hT1 hol hom hYod hYT1 hYol hYom tl c d s t made Ymade hl Yhl hf Yhf ow Yow hH hY
  · exact l_turned2 hn hn1 hod hT1 hol hom hYod hYT1 hYol hYom tl c d s t made Ymade hl Yhl hf Yhf ow Yow hH hY
  · exact l_turned3 hn hn1 hod hT1 hol hom hYod hYT1 hYol hYom tl c d s t made Ymade hl Yhl hf Yhf ow Yow hH hY
end TU
