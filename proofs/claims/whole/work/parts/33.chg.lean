/-! a change: what was made becomes the sum, or is too great, on both sides -/
def okL (x : Int64) : Prop := ¬ x < -50000 ∧ ¬ 50000 < x
theorem okL_0 : okL 0 := by unfold okL; decide
theorem okL_i {x : Int64} (h : okL x) : x.toInt32.toInt = x.toInt ∧ -50000 ≤ x.toInt ∧ x.toInt ≤ 50000 := by
  obtain ⟨h1, h2⟩ := h
  have a1 : -50000 ≤ x.toInt := by
    have := Int64.not_lt.mp h1
    rw [Int64.le_iff_toInt_le] at this
    exact this
  have a2 : x.toInt ≤ 50000 := by
    have := Int64.not_lt.mp h2
    rw [Int64.le_iff_toInt_le] at this
    exact this
  refine ⟨?_, a1, a2⟩
  rw [Int64.toInt_toInt32]
  exact Int.bmod_eq_of_le (by omega) (by omega)
theorem itr_row (g : Nat → Int32) (p : Nat) : ∀ d i (s : Nat → Nat → Int32), itr (fun j s => va_up s p (upd (s p) j (g j))) d i s = va_up s p (fun j => if i ≤ j ∧ j < i + d then g j else s p j) := by
  intro d
  induction d with
  | zero =>
    intro i s; funext r; funext j
    by_cases hr : r = p
    · subst hr; simp only [va_up, if_true]; rw [if_neg (by omega)]; rfl
    · simp only [va_up, if_neg hr]; rfl
  | succ d ih =>
    intro i s
    show itr _ d (i + 1) (va_up s p (upd (s p) i (g i))) = _
    rw [ih]
    funext r; funext j
    by_cases hr : r = p
    · subst hr
      simp only [va_up, if_true]
      by_cases hj : j = i
      · subst hj; rw [if_neg (by omega), if_pos (by omega)]; simp [upd]
      · by_cases h2 : i + 1 ≤ j ∧ j < i + 1 + d
        · rw [if_pos h2, if_pos (by omega)]
        · rw [if_neg h2, if_neg (by omega)]; simp [upd, hj]
    · simp only [va_up, if_neg hr]
theorem x_settle68 (made : Nat → Int64) {m p : Nat} (hm : m ≤ 120) (hp : p < 3) (ans : Int32) (s : Nat → Nat → Int32) (a b : Int32) (hl : Nat → Int32) (hf : Nat → Nat → Int32) :
    F_X5_settle_68 made (nI m) (nI p) ans xF (0 : Int32) s a b hl hf = some (ans, va_up s p (fun j => if j < m then (made j).toInt32 else s p j), a, b, hl, hf) := by
  have hlp := loopN (fun f i s => F_X5_settle_68 made (nI m) (nI p) ans f (nI i) s a b hl hf) m (fun s => some (ans, s, a, b, hl, hf)) (fun i s => va_up s p (upd (s p) i (made i).toInt32))
    (fun f v => by
      show F_X5_settle_68 _ _ _ _ _ _ _ _ _ _ _ = _
      rw [E_X5_settle_68, ifLe (by omega) (by omega) (by omega)])
    (fun f i v hi => by
      show F_X5_settle_68 _ _ _ _ _ _ _ _ _ _ _ = F_X5_settle_68 _ _ _ _ _ _ _ _ _ _ _
      rw [E_X5_settle_68, ifNle (by omega) (by omega) (by omega), xgI hp (by omega), xgI (by omega) (by omega), nI_1, nI_clamp (by omega), nI_clamp (by omega)]) m 0 s xF (by omega) (xF_ge (by omega))
  refine hlp.trans ?_
  rw [itr_row]
  simp
theorem x_settle2 (made : Nat → Int64) (fn : Int32) {m p : Nat} (hm : m ≤ 120) (ans : Int32) (s : Nat → Nat → Int32) (a b : Int32) (hl : Nat → Int32) (hf : Nat → Nat → Int32) : ∀ d k f, k + d = m → d < f →
    ((∀ i, k ≤ i → i < m → okL (made i)) → F_X5_settle_2 made fn (nI m) (nI p) ans f (nI k) s a b hl hf = (F_X0_keep s fn a b hl hf).bind fun q2 => F_X5_settle_68 made (nI m) (nI p) ans xF (0 : Int32) s q2.1 q2.2.1 q2.2.2.1 q2.2.2.2) ∧
    ((∃ i, k ≤ i ∧ i < m ∧ ¬ okL (made i)) → F_X5_settle_2 made fn (nI m) (nI p) ans f (nI k) s a b hl hf = some (-10000003, s, a, b, hl, hf)) := by
  intro d
  induction d with
  | zero =>
    intro k f hk hf0
    obtain ⟨f, rfl⟩ : ∃ g, f = g + 1 := ⟨f - 1, by omega⟩
    refine ⟨fun _ => ?_, fun ⟨i, h1, h2, _⟩ => absurd h2 (by omega)⟩
    rw [E_X5_settle_2, ifLe (by omega) (by omega) (by omega)]
  | succ d ih =>
    intro k f hk hf0
    obtain ⟨f, rfl⟩ : ∃ g, f = g + 1 := ⟨f - 1, by omega⟩
    obtain ⟨ih1, ih2⟩ := ih (k + 1) f (by omega) (by omega)
    rw [E_X5_settle_2, ifNle (by omega) (by omega) (by omega), xgI (by omega) (by omega), nI_1, nI_clamp (by omega)]
    by_cases c : okL (made k)
    · rw [if_neg (fun q => c.1 ((lgn _ _).mp q)), if_pos ((lgq _ _).mpr c.2)]
      refine ⟨fun h => ih1 fun i h1 h2 => h i (by omega) h2, fun ⟨i, h1, h2, h3⟩ => ih2 ⟨i, ?_, h2, h3⟩⟩
      rcases Nat.lt_or_eq_of_le h1 with q | q
      · exact q
      · subst q; exact absurd c h3
    · refine ⟨fun h => absurd (h k (by omega) (by omega)) c, fun _ => ?_⟩
      by_cases c1 : made k < -50000
      · rw [if_pos ((lgn _ _).mpr c1)]
      · rw [if_neg (fun q => c1 ((lgn _ _).mp q)), if_neg (fun q => c ⟨c1, (lgq _ _).mp q⟩)]
theorem m_becomes41 (mm : Nat → Int64) {p : Nat} (hp : p < 3) (ans hlong : Int32) (al mh : Nat → Int32) :
    F_X6_becomes_41 mm (nI p) ans xF (0 : Int32) hlong al mh = some (ans, hlong, (fun j => if 4 + 120 * p ≤ j ∧ j < 4 + 120 * p + 120 then (mm (j - (4 + 120 * p))).toInt32 else al j), mh) := by
  have hlp := loopN (fun f i v => F_X6_becomes_41 mm (nI p) ans f (nI i) hlong v mh) 120 (fun v => some (ans, hlong, v, mh)) (fun i v => upd v ((4 + 120 * p) + i) ((fun i => (mm i).toInt32) i))
    (fun f v => by
      show F_X6_becomes_41 _ _ _ _ _ _ _ _ = _
      rw [E_X6_becomes_41, i120, ifLe (by omega) (by omega) (by omega)])
    (fun f i v hi => by
      show F_X6_becomes_41 _ _ _ _ _ _ _ _ = F_X6_becomes_41 _ _ _ _ _ _ _ _
      rw [E_X6_becomes_41, i120, ifNle (by omega) (by omega) (by omega), xgI (by omega) (by omega), i4, pk_mul, nI_add, nI_add, xgI (by omega) (by omega), nI_1, nI_clamp (by omega), nI_clamp (by omega)]) 120 0 al xF (by omega) (xF_ge (by omega))
  refine hlp.trans ?_
  rw [itr_put]
  rfl
theorem m_okin {x : Int64} (h : okL x) : F_X6_in x (-50000) 50000 = some 1 := by
  unfold F_X6_in
  rw [if_neg (fun q => h.1 ((lgn _ _).mp q)), if_neg (fun q => h.2 ((lgp _ _).mp q))]
theorem m_noin {x : Int64} (h : ¬ okL x) : F_X6_in x (-50000) 50000 = some 0 := by
  unfold F_X6_in
  by_cases c1 : x < -50000
  · rw [if_pos ((lgn _ _).mpr c1)]
  · rw [if_neg (fun q => c1 ((lgn _ _).mp q))]
    by_cases c2 : 50000 < x
    · rw [if_pos ((lgp _ _).mpr c2)]
    · exact absurd ⟨c1, c2⟩ h
theorem m_becomes2 (mm : Nat → Int64) {p : Nat} (ans hlong : Int32) (al mh : Nat → Int32) : ∀ d k f, k + d = 120 → d < f →
    ((∀ i, k ≤ i → i < 120 → okL (mm i)) → F_X6_becomes_2 mm (nI p) ans f (nI k) hlong al mh = (F_X6_record al hlong mh).bind fun q2 => F_X6_becomes_41 mm (nI p) ans xF (0 : Int32) q2.1 al q2.2) ∧
    ((∃ i, k ≤ i ∧ i < 120 ∧ ¬ okL (mm i)) → F_X6_becomes_2 mm (nI p) ans f (nI k) hlong al mh = some (-10000003, hlong, al, mh)) := by
  intro d
  induction d with
  | zero =>
    intro k f hk hf0
    obtain ⟨f, rfl⟩ : ∃ g, f = g + 1 := ⟨f - 1, by omega⟩
    refine ⟨fun _ => ?_, fun ⟨i, h1, h2, _⟩ => absurd h2 (by omega)⟩
    rw [E_X6_becomes_2, i120, ifLe (by omega) (by omega) (by omega)]
  | succ d ih =>
    intro k f hk hf0
    obtain ⟨f, rfl⟩ : ∃ g, f = g + 1 := ⟨f - 1, by omega⟩
    obtain ⟨ih1, ih2⟩ := ih (k + 1) f (by omega) (by omega)
    rw [E_X6_becomes_2, i120, ifNle (by omega) (by omega) (by omega), xgI (by omega) (by omega), nI_1, nI_clamp (by omega)]
    by_cases c : okL (mm k)
    · rw [bnd (m_okin c), if_neg (by decide)]
      refine ⟨fun h => ih1 fun i h1 h2 => h i (by omega) h2, fun ⟨i, h1, h2, h3⟩ => ih2 ⟨i, ?_, h2, h3⟩⟩
      rcases Nat.lt_or_eq_of_le h1 with q | q
      · exact q
      · subst q; exact absurd c h3
    · rw [bnd (m_noin c), if_pos rfl]
      exact ⟨fun h => absurd (h k (by omega) (by omega)) c, fun _ => rfl⟩
theorem chg {n : Nat} {s : Nat → Nat → Int32} {al : Nat → Int32} {hm hx : Int32} {hl : Nat → Int32} {hf : Nat → Nat → Int32} {hlong : Int32} {mh : Nat → Int32} (hS : RS n s al) (hR : RH hm hx hl hf hlong mh)
    {p : Nat} (hp : p < 3) (ans : Int32) {made mm : Nat → Int64} (h1 : ∀ o, o < fac n → mm o = made o) (h2 : ∀ o, fac n ≤ o → o < 120 → mm o = 0) :
    ∃ r s' hm' hx' hl' hf' hlong' al' mh', F_X5_settle made (nI n) (nI (fac n)) (nI p) ans s hm hx hl hf = some (r, s', hm', hx', hl', hf') ∧ F_X6_becomes mm (nI p) ans hlong al mh = some (r, hlong', al', mh') ∧ RS n s' al' ∧ RH hm' hx' hl' hf' hlong' mh' := by
  have hn5 := hS.2.1
  have hm5 := fac_le hn5
  obtain ⟨a1, a2⟩ := x_settle2 made (nI n) hm5 (p := p) ans s hm hx hl hf (fac n) 0 xF (by omega) (xF_ge (by omega))
  obtain ⟨b1, b2⟩ := m_becomes2 mm (p := p) ans hlong al mh 120 0 xF (by omega) (xF_ge (by omega))
  unfold F_X5_settle F_X6_becomes
  by_cases c : ∀ i, i < fac n → okL (made i)
  · obtain ⟨hm', hx', hl', hf', hlong', mh', e1, e2, e3⟩ := push hS hR
    have a3 := a1 (fun i _ h => c i h)
    have b3 := b1 (fun i _ h => by
      by_cases q : i < fac n
      · rw [h1 i q]; exact c i q
      · rw [h2 i (by omega) h]; exact okL_0)
    rw [bnd e1, x_settle68 made hm5 hp] at a3
    rw [bnd e2, m_becomes41 mm hp] at b3
    refine ⟨_, _, _, _, _, _, _, _, _, a3, b3, ?_, e3⟩
    obtain ⟨q1, q2, q3, q4⟩ := hS
    refine ⟨q1, q2, ?_, fun j o hj ho => ?_⟩
    · show (if _ then _ else _) = _
      rw [if_neg (by omega)]; exact q3
    · obtain ⟨w1, w2, w3, w4⟩ := q4 j o hj ho
      by_cases hjp : j = p
      · subst hjp
        have e5 : va_up s j (fun i => if i < fac n then (made i).toInt32 else s j i) j o = if o < fac n then (made o).toInt32 else s j o := by simp [va_up]
        have e6 : (fun i => if 4 + 120 * j ≤ i ∧ i < 4 + 120 * j + 120 then (mm (i - (4 + 120 * j))).toInt32 else al i) (4 + 120 * j + o) = (mm o).toInt32 := by
          show (if _ then _ else _) = _
          rw [if_pos (by omega), show 4 + 120 * j + o - (4 + 120 * j) = o by omega]
        rw [e5, e6]
        by_cases ho2 : o < fac n
        · rw [if_pos ho2, h1 o ho2]
          obtain ⟨z1, z2, z3⟩ := okL_i (c o ho2)
          exact ⟨rfl, fun h => absurd h (by omega), by rw [z1]; exact z2, by rw [z1]; exact z3⟩
        · rw [if_neg ho2, h2 o (by omega) ho, w2 (by omega)]
          exact ⟨rfl, fun _ => rfl, by decide, by decide⟩
      · have e5 : va_up s p (fun i => if i < fac n then (made i).toInt32 else s p i) j o = s j o := by simp [va_up, hjp]
        have e6 : (fun i => if 4 + 120 * p ≤ i ∧ i < 4 + 120 * p + 120 then (mm (i - (4 + 120 * p))).toInt32 else al i) (4 + 120 * j + o) = al (4 + 120 * j + o) := by
          show (if _ then _ else _) = _
          exact if_neg (by omega)
        rw [e5, e6]
        exact ⟨w1, w2, w3, w4⟩
  · have c' : ∃ i, i < fac n ∧ ¬ okL (made i) := by
      false_or_by_contra
      rename_i q
      exact c fun i hi => by
        false_or_by_contra
        rename_i q2
        exact q ⟨i, hi, q2⟩
    obtain ⟨i, hi, hi2⟩ := c'
    exact ⟨_, _, _, _, _, _, _, _, _, a2 ⟨i, by omega, hi, hi2⟩, b2 ⟨i, by omega, by omega, by rw [h1 i hi]; exact hi2⟩, hS, hR⟩
