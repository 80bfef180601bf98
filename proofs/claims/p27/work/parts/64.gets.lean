/-! the law's own methods: up, areSame, gets -/
theorem l_up (x : Int32) {k : Nat} (h0 : 0 < k) (hk : k < 2 ^ 31) : ∃ j, j < k ∧ F_L_up x (nI k) = some (nI j) := by
  obtain ⟨a, ha, e⟩ := pk_andE x (m := 2147483647) 31 (by decide)
  refine ⟨a % k, Nat.mod_lt _ h0, ?_⟩
  unfold F_L_up
  rw [e, xdI h0 hk, pk_rem ha h0 hk]
theorem l_same {n p q : Nat} (hn : n ≤ 5) (hp : p < 3) (hq : q < 3) {s s2 : Nat → Nat → Int32} (h : ∀ o, o < fac n → s p o = s2 q o) (hm tl : Int32) : F_L_areSame s hm tl (nI n) (nI (fac n)) s2 (nI (fac n)) (nI p) (nI q) = some 1 := by
  have hf5 := fac_le hn
  have hl : ∀ d k f, k + d = fac n → d < f → F_L_areSame_6 s hm tl (nI n) (nI (fac n)) s2 (nI (fac n)) (nI p) (nI q) f 1 (nI k) = some 1 := by
    intro d
    induction d with
    | zero =>
      intro k f hk hf
      obtain ⟨f, rfl⟩ : ∃ g, f = g + 1 := ⟨f - 1, by omega⟩
      rw [E_L_areSame_6, bnd (x_count1 _ _ _ _), ifLe (by omega) (by omega) (by omega), xb1]
    | succ d ih =>
      intro k f hk hf
      obtain ⟨f, rfl⟩ : ∃ g, f = g + 1 := ⟨f - 1, by omega⟩
      rw [E_L_areSame_6, bnd (x_count1 _ _ _ _), ifNle (by omega) (by omega) (by omega), if_neg n10, bnd (x_factor hn hp (by omega) s), bnd (x_factor hn hq (by omega) s2), if_pos (h k (by omega)), nI_1]
      exact ih (k + 1) f (by omega) (by omega)
  exact hl (fac n) 0 xF (by omega) (xF_ge (by omega))
/-! sums of a few terms, or of a few classes -/
theorem sn_add (f g : Nat → Nat) : ∀ m, sn m (fun i => f i + g i) = sn m f + sn m g := by
  intro m
  induction m with
  | zero => rfl
  | succ m ih =>
    show sn m (fun i => f i + g i) + (f m + g m) = (sn m f + f m) + (sn m g + g m)
    rw [ih]
    omega
theorem l1_add (m : Nat) (f d : Nat → Int) : l1 m (fun o => f o + d o) ≤ l1 m f + l1 m d := by
  unfold l1
  rw [← sn_add]
  exact sn_le m fun i _ => Int.natAbs_add_le _ _
theorem l1_one (k : Nat) (c : Int) : ∀ m, l1 m (fun o => if o = k then c else 0) ≤ if k < m then c.natAbs else 0 := by
  intro m
  induction m with
  | zero => exact Nat.zero_le _
  | succ m ih =>
    show l1 m (fun o => if o = k then c else 0) + (if m = k then c else 0 : Int).natAbs ≤ _
    by_cases h : m = k
    · subst h
      rw [if_neg (by omega)] at ih
      rw [if_pos rfl, if_pos (by omega)]
      omega
    · rw [if_neg h]
      by_cases h2 : k < m
      · rw [if_pos h2] at ih
        rw [if_pos (by omega)]
        exact ih
      · rw [if_neg h2] at ih
        rw [if_neg (by omega)]
        exact ih
theorem l1_all {m B : Nat} {d : Nat → Int} (h : ∀ o, o < m → (d o).natAbs ≤ B) : l1 m d ≤ m * B := by
  unfold l1
  rw [← sn_const]
  exact sn_le m h
/-- how great a sum is behind k steps of gets -/
def GB (n k : Nat) (f : Nat → Int) : Prop := (∀ o, o < fac n → (f o).natAbs ≤ 2 * k) ∧ l1 (fac n) f ≤ 24 * k
theorem GB_0 (n : Nat) : GB n 0 (fun _ => 0) := ⟨fun _ _ => Nat.le_refl 0, by
  have := l1_all (m := fac n) (B := 0) (d := fun _ => 0) (fun _ _ => Nat.le_refl 0)
  rw [Nat.mul_zero] at this
  exact this⟩
theorem fac24 {n : Nat} (hn : n ≤ 4) : fac n ≤ 24 := by
  have : ∀ n, n ≤ 4 → fac n ≤ 24 := by decide
  exact this n hn
theorem GB.one {n k i : Nat} {f : Nat → Int} (h : GB n k f) {c : Int} (hc : c.natAbs ≤ 2) : GB n (k + 1) (fun o => f o + if o = i then c else 0) := by
  refine ⟨fun o ho => ?_, ?_⟩
  · have h1 := h.1 o ho
    show (f o + if o = i then c else 0).natAbs ≤ _
    by_cases e : o = i
    · rw [if_pos e]; omega
    · rw [if_neg e]; omega
  · have h1 := l1_add (fac n) f (fun o => if o = i then c else 0)
    have h2 := l1_one i c (fac n)
    have h3 := h.2
    have h4 : (if i < fac n then c.natAbs else 0) ≤ 2 := by
      by_cases e : i < fac n
      · rw [if_pos e]; exact hc
      · rw [if_neg e]; omega
    exact Nat.le_trans h1 (by omega)
theorem GB.cls {n k : Nat} (hn : n ≤ 4) {f : Nat → Int} (h : GB n k f) (P : Nat → Bool) {c : Int} (hc : c.natAbs ≤ 1) : GB n (k + 1) (fun o => f o + if P o then c else 0) := by
  have hd : ∀ o, o < fac n → (if P o then c else 0 : Int).natAbs ≤ 1 := fun o _ => by
    by_cases e : P o = true
    · rw [if_pos e]; exact hc
    · rw [if_neg e]; exact Nat.zero_le _
  refine ⟨fun o ho => ?_, ?_⟩
  · have h1 := h.1 o ho
    have h2 := hd o ho
    show (f o + if P o then c else 0).natAbs ≤ _
    omega
  · have h1 := l1_add (fac n) f (fun o => if P o then c else 0)
    have h2 := l1_all hd
    have h3 := h.2
    have h4 := fac24 hn
    exact Nat.le_trans h1 (by omega)
theorem inC_fi {n : Nat} (hn : n ≤ 4) (hn1 : 1 ≤ n) (t w : Int32) {o : Nat} (ho : o < fac n) : inC n t w (fq n (dq n o)) = inC n t w o := by
  have h1 := (dq_ok n (by omega) o ho).1
  have h2 := de_t (n := n) (by omega) ho
  have h3 := (fq_ok n (by omega) hn1 (de n o) h2).1
  have h4 := (fi_f (by omega) hn1 h2).2
  unfold inC
  rw [h1, h3, h4]
theorem CF.cls {n : Nat} (hn : n ≤ 4) (hn1 : 1 ≤ n) {f : Nat → Int} (h : CF n f) (t w : Int32) (c : Int) : CF n (fun o => f o + if inC n t w o then c else 0) := fun o ho => by
  show (f o + if inC n t w o then c else 0) = f (fq n (dq n o)) + if inC n t w (fq n (dq n o)) then c else 0
  rw [inC_fi hn hn1 t w ho, ← h o ho]
/-- what gets comes to: both sums are f, or it was so ahead of it -/
def GT (n p q k : Nat) (cl : Int32) (s0 s t0 t : Nat → Nat → Int32) (f : Nat → Int) : Prop := GB n k f ∧ (cl = 1 → CF n f) ∧ CH n p s0 s f ∧ CH n q t0 t f
theorem CH.next {n p : Nat} {s0 s s' : Nat → Nat → Int32} {f g : Nat → Int} (h : CH n p s0 s f) (h2 : CH n p s s' g) : CH n p s0 s' g := ⟨fun j hj => (h2.1 j hj).trans (h.1 j hj), h2.2⟩
section GETS
variable {n p q : Nat} {od Yod : Nat → Int32} {s0 t0 : Nat → Nat → Int32}
theorem gets_step (hn : n ≤ 4) (hn1 : 1 ≤ n) (hod : ∀ o, o < fac n → od o = nI (de n o)) (hYod : ∀ o, o < fac n → Yod o = nI (de n o)) (hp : p < 3) (hq : q < 3) (tl c cl : Int32) (hcl : cl = 0 ∨ cl = 1)
    (κ : Int32 → Int32 → Int32 → (Nat → Nat → Int32) → (Nat → Int64) → Int32 → Int32 → (Nat → Int32) → (Nat → Nat → Int32) → (Nat → Nat → Int32) → (Nat → Int64) → Int32 → Int32 → (Nat → Int32) → (Nat → Nat → Int32) → Option (Int32 × (Nat → Nat → Int32) × (Nat → Int64) × Int32 × Int32 × (Nat → Int32) × (Nat → Nat → Int32) × (Nat → Nat → Int32) × (Nat → Int64) × Int32 × Int32 × (Nat → Int32) × (Nat → Nat → Int32)))
    {k : Nat} (hk : k < 3) {x : Int32} (hx : x.toInt.natAbs ≤ 2) (hx2 : cl = 1 → x.toInt.natAbs ≤ 1) {f : Nat → Int} {s t : Nat → Nat → Int32} (made Ymade : Nat → Int64) {a b Ya Yb : Int32} (hl Yhl : Nat → Int32) (hf Yhf : Nat → Nat → Int32) (hH : HX a b) (hY : HX Ya Yb) (hG : GT n p q k cl s0 s t0 t f) :
    ∃ f' s' made' a' b' hl' hf' t' Ymade' Ya' Yb' Yhl' Yhf', F_L_gets_73 (fac n) (fac n) tl (nI n) (nI (fac n)) (nI (2 ^ (n - 1))) od (nI n) (nI (fac n)) (nI (2 ^ (n - 1))) Yod (nI p) (nI q) c cl κ 1 (nI (fac n)) (nI k) x s made a b hl hf t Ymade Ya Yb Yhl Yhf = κ 1 (nI (fac n)) (nI k + 1) s' made' a' b' hl' hf' t' Ymade' Ya' Yb' Yhl' Yhf' ∧ HX a' b' ∧ HX Ya' Yb' ∧ GT n p q (k + 1) cl s0 s' t0 t' f' := by
  have hn5 : n ≤ 5 := by omega
  have hf5 := fac_le hn5
  have h16 := p16 hn5
  obtain ⟨g1, g2, g3, g4⟩ := hG
  unfold F_L_gets_73
  rcases hcl with rfl | rfl
  · rw [if_pos rfl]
    obtain ⟨i, hi, ei⟩ := l_up (c >>> (((5 : Int32) + ((7 : Int32) * nI k)) &&& 31)) (fac_pos hn5) (by omega)
    have g1' := g1.one (i := i) hx
    obtain ⟨r, s', made', a', b', hl', hf', e1, e2, e3, e4⟩ := x_add hn5 hp hi (c := x) (by omega) g3.2 (fun o ho => Nat.le_trans (g1'.1 o ho) (by omega)) made hH hl hf
    obtain ⟨r2, t', Ymade', Ya', Yb', Yhl', Yhf', e5, e6, e7, e8⟩ := x_add hn5 hq hi (c := x) (by omega) g4.2 (fun o ho => Nat.le_trans (g1'.1 o ho) (by omega)) Ymade hY Yhl Yhf
    have er : r = r2 := Int32.toInt_inj.mp (e2.trans e6.symm)
    subst er
    rw [bnd ei, if_neg n10, bnd e1, bnd e5, if_pos rfl]
    exact ⟨_, _, _, _, _, _, _, _, _, _, _, _, _, rfl, e3, e7, g1', fun h => absurd h (by decide), g3.next e4, g4.next e8⟩
  · rw [if_neg n10, bnd (x_count0 _ _ _ _), i1, pk_sub hn1, ← i1, shl1 (by omega)]
    obtain ⟨i, hi, ei⟩ := l_up (c >>> (((3 : Int32) + ((5 : Int32) * nI k)) &&& 31)) (k := 2 ^ (n - 1)) (Nat.two_pow_pos _) (by omega)
    have g1' := g1.cls hn (inC n (nI i) (nI (k % 2))) (hx2 rfl)
    obtain ⟨s', made', a', b', hl', hf', e1, e3, e4⟩ := x_addClass hn5 hod hp hi (w := k % 2) (by omega) (c := x) (by omega) g3.2 (fun o ho => Nat.le_trans (g1'.1 o ho) (by omega)) made hH hl hf
    obtain ⟨t', Ymade', Ya', Yb', Yhl', Yhf', e5, e7, e8⟩ := x_addClass hn5 hYod hq hi (w := k % 2) (by omega) (c := x) (by omega) g4.2 (fun o ho => Nat.le_trans (g1'.1 o ho) (by omega)) Ymade hY Yhl Yhf
    have ew : nI k - nI k / (2 : Int32) * (2 : Int32) = nI (k % 2) := pk_rem (d := 2) (by omega) (by omega) (by omega)
    rw [bnd ei, if_neg n10, ew, bnd e1, bnd e5, if_pos rfl]
    exact ⟨_, _, _, _, _, _, _, _, _, _, _, _, _, rfl, e3, e7, g1', fun _ => (g2 rfl).cls hn hn1 (nI i) (nI (k % 2)) _, g3.next e4, g4.next e8⟩
theorem gets_loop (hn : n ≤ 4) (hn1 : 1 ≤ n) (hod : ∀ o, o < fac n → od o = nI (de n o)) (hYod : ∀ o, o < fac n → Yod o = nI (de n o)) (hp : p < 3) (hq : q < 3) (tl c cl : Int32) (hcl : cl = 0 ∨ cl = 1) : ∀ d k fl f s made a b hl hf t Ymade Ya Yb Yhl Yhf, k + d = 3 → d < fl → HX a b → HX Ya Yb → GT n p q k cl s0 s t0 t f →
    ∃ f' s' made' a' b' hl' hf' t' Ymade' Ya' Yb' Yhl' Yhf', F_L_gets_33 (fac n) (fac n) tl (nI n) (nI (fac n)) (nI (2 ^ (n - 1))) od (nI n) (nI (fac n)) (nI (2 ^ (n - 1))) Yod (nI p) (nI q) c cl fl 1 (nI (fac n)) (nI k) s made a b hl hf t Ymade Ya Yb Yhl Yhf = some (1, s', made', a', b', hl', hf', t', Ymade', Ya', Yb', Yhl', Yhf') ∧ HX a' b' ∧ HX Ya' Yb' ∧ GT n p q 3 cl s0 s' t0 t' f' := by
  intro d
  induction d with
  | zero =>
    intro k fl f s made a b hl hf t Ymade Ya Yb Yhl Yhf hk hfl hH hY hG
    obtain ⟨fl, rfl⟩ : ∃ g, fl = g + 1 := ⟨fl - 1, by omega⟩
    obtain rfl : k = 3 := by omega
    rw [E_L_gets_33, i3, ifLe (by omega) (by omega) (by omega), xb1]
    exact ⟨_, _, _, _, _, _, _, _, _, _, _, _, _, rfl, hH, hY, hG⟩
  | succ d ih =>
    intro k fl f s made a b hl hf t Ymade Ya Yb Yhl Yhf hk hfl hH hY hG
    obtain ⟨fl, rfl⟩ : ∃ g, fl = g + 1 := ⟨fl - 1, by omega⟩
    rw [E_L_gets_33, i3, ifNle (by omega) (by omega) (by omega)]
    rcases hcl with rfl | rfl
    · obtain ⟨j, hj, ej⟩ := l_up (c >>> ((nI 3 * nI k) &&& 31)) (k := 5) (by omega) (by omega)
      have ej' : F_L_up (c >>> ((nI 3 * nI k) &&& 31)) (5 : Int32) = some (nI j) := ej
      have hx : (nI j - (2 : Int32)).toInt = (j : Int) - (2 : Nat) := pk_sub_toInt (b := 2) (by omega) (by omega)
      obtain ⟨f', s', made', a', b', hl', hf', t', Ymade', Ya', Yb', Yhl', Yhf', e1, e2, e3, e4⟩ := gets_step hn hn1 hod hYod hp hq tl c 0 (Or.inl rfl) (F_L_gets_33 (fac n) (fac n) tl (nI n) (nI (fac n)) (nI (2 ^ (n - 1))) od (nI n) (nI (fac n)) (nI (2 ^ (n - 1))) Yod (nI p) (nI q) c 0 fl) (k := k) (by omega) (x := nI j - (2 : Int32)) (by rw [hx]; omega) (fun h => absurd h (by decide)) made Ymade hl Yhl hf Yhf hH hY hG
      rw [if_pos rfl, bnd ej', e1, nI_1]
      exact ih (k + 1) fl f' _ _ _ _ _ _ _ _ _ _ _ _ (by omega) (by omega) e2 e3 e4
    · obtain ⟨j, hj, ej⟩ := l_up (c >>> ((nI 3 * nI k) &&& 31)) (k := 3) (by omega) (by omega)
      have hx : (nI j - (1 : Int32)).toInt = (j : Int) - (1 : Nat) := pk_sub_toInt (b := 1) (by omega) (by omega)
      obtain ⟨f', s', made', a', b', hl', hf', t', Ymade', Ya', Yb', Yhl', Yhf', e1, e2, e3, e4⟩ := gets_step hn hn1 hod hYod hp hq tl c 1 (Or.inr rfl) (F_L_gets_33 (fac n) (fac n) tl (nI n) (nI (fac n)) (nI (2 ^ (n - 1))) od (nI n) (nI (fac n)) (nI (2 ^ (n - 1))) Yod (nI p) (nI q) c 1 fl) (k := k) (by omega) (x := nI j - (1 : Int32)) (by rw [hx]; omega) (fun _ => by rw [hx]; omega) made Ymade hl Yhl hf Yhf hH hY hG
      rw [if_neg n10, bnd ej, e1, nI_1]
      exact ih (k + 1) fl f' _ _ _ _ _ _ _ _ _ _ _ _ (by omega) (by omega) e2 e3 e4
theorem l_gets (hn : n ≤ 4) (hn1 : 1 ≤ n) (hod : ∀ o, o < fac n → od o = nI (de n o)) (hYod : ∀ o, o < fac n → Yod o = nI (de n o)) (hp : p < 3) (hq : q < 3) (tl c cl : Int32) (hcl : cl = 0 ∨ cl = 1) (s t : Nat → Nat → Int32) (made Ymade : Nat → Int64) {a b Ya Yb : Int32} (hl Yhl : Nat → Int32) (hf Yhf : Nat → Nat → Int32) (hH : HX a b) (hY : HX Ya Yb) :
    ∃ f' s' made' a' b' hl' hf' t' Ymade' Ya' Yb' Yhl' Yhf', F_L_gets (fac n) (fac n) tl (nI n) (nI (fac n)) (nI (2 ^ (n - 1))) od (nI n) (nI (fac n)) (nI (2 ^ (n - 1))) Yod (nI p) (nI q) c cl s made a b hl hf t Ymade Ya Yb Yhl Yhf = some (1, s', made', a', b', hl', hf', t', Ymade', Ya', Yb', Yhl', Yhf') ∧ HX a' b' ∧ HX Ya' Yb' ∧ GT n p q 3 cl s s' t t' f' := by
  have hn5 : n ≤ 5 := by omega
  obtain ⟨r, s1, made1, a1, b1, hl1, hf1, e1, e2, e3, e4⟩ := x_clear hn5 hp s made hH hl hf
  obtain ⟨r2, t1, Ymade1, Ya1, Yb1, Yhl1, Yhf1, e5, e6, e7, e8⟩ := x_clear hn5 hq t Ymade hY Yhl Yhf
  obtain ⟨f', s', made', a', b', hl', hf', t', Ymade', Ya', Yb', Yhl', Yhf', k1, k2, k3, k4⟩ := gets_loop (s0 := s) (t0 := t) hn hn1 hod hYod hp hq tl c cl hcl 3 0 xF (fun _ => 0) s1 made1 a1 b1 hl1 hf1 t1 Ymade1 Ya1 Yb1 Yhl1 Yhf1 rfl (xF_ge (by omega)) e3 e7 ⟨GB_0 n, fun _ _ _ => rfl, e4, e8⟩
  have k1' : F_L_gets_33 (fac n) (fac n) tl (nI n) (nI (fac n)) (nI (2 ^ (n - 1))) od (nI n) (nI (fac n)) (nI (2 ^ (n - 1))) Yod (nI p) (nI q) c cl xF 1 (nI (fac n)) (0 : Int32) s1 made1 a1 b1 hl1 hf1 t1 Ymade1 Ya1 Yb1 Yhl1 Yhf1 = _ := k1
  unfold F_L_gets
  rw [bnd e1, if_neg e2, bnd e5, if_neg e6]
  unfold F_L_gets_21
  rw [bnd (x_count1 _ _ _ _), k1']
  exact ⟨_, _, _, _, _, _, _, _, _, _, _, _, _, rfl, k2, k3, k4⟩
end GETS
