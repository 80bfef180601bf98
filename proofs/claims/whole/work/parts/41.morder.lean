/-! the model's numbers of an order -/
abbrev MT : Type := Int32 × (Nat → Int32) × (Nat → Int32)
section MO
variable {al : Nat → Int32} {n : Nat}
def deM (n o : Nat) : Nat := itr (fun k s => if lt n o (k + 1) < lt n o k then s ||| 2 ^ k else s) (n - 1) 0 0
theorem deM_ok : ∀ n, n ≤ 5 → ∀ o, o < fac n → deM n o = de n o := by decide +kernel
theorem m_descents (hal : al 0 = nI n) (hn : n ≤ 5) (hn1 : 1 ≤ n) {laid : Int32} {wd l : Nat → Int32} (hL : LK laid l) {o : Nat} (ho : o < fac n) :
    ∃ laid' wd' l', F_X6_descents al (nI o) laid wd l = some (nI (de n o), laid', wd', l') ∧ LK laid' l' ∧ (laid = nI n → laid' = nI n ∧ wd' = wd) := by
  have hf5 := fac_le hn
  obtain ⟨t', h, h1, h2⟩ := loopE (fun f k s (t : MT) => F_X6_descents_4 al (nI o) f (nI s) (nI k) t.1 t.2.1 t.2.2) (fun _ t => LK t.1 t.2.2 ∧ (laid = nI n → t.1 = nI n ∧ t.2.1 = wd)) (n - 1) (fun s t => some (nI s, t.1, t.2.1, t.2.2)) (fun k s => if lt n o (k + 1) < lt n o k then s ||| 2 ^ k else s)
    (fun f s t _ => by
      show F_X6_descents_4 _ _ _ _ _ _ _ _ = _
      rw [E_X6_descents_4, bnd (m_n hal), i1, nI_add, ifLe (by omega) (by omega) (by omega)])
    (fun f k s t hk ⟨hI, hJ⟩ => by
      obtain ⟨w1, l1, e1, e2, e3⟩ := m_at (wd := t.2.1) hal hn hI ho (show k < n by omega)
      obtain ⟨w2, l2, f1, f2, f3⟩ := m_at (wd := w1) hal hn (e2.LK hn) ho (show k + 1 < n by omega)
      obtain ⟨_, b1⟩ := lt_ok n hn o ho k (by omega)
      obtain ⟨_, b2⟩ := lt_ok n hn o ho (k + 1) (by omega)
      refine ⟨(nI n, w2, l2), ?_, f2.LK hn, fun hh => ⟨rfl, by rw [f3 rfl, e3 (hJ hh).1, (hJ hh).2]⟩⟩
      show F_X6_descents_4 _ _ _ _ _ _ _ _ = F_X6_descents_4 _ _ _ (nI (if _ then _ else _)) _ _ _ _
      rw [E_X6_descents_4, bnd (m_n hal), i1, nI_add, ifNle (by omega) (by omega) (by omega), bnd e1]
      dsimp only
      rw [bnd f1]
      dsimp only
      by_cases c : lt n o (k + 1) < lt n o k
      · rw [ifNle (by omega) (by omega) c, if_pos c, ← i1, shl1 (by omega), nI_or]
      · rw [ifLe (by omega) (by omega) (by omega), if_neg c, i0, nI_or, Nat.or_zero]) (n - 1) 0 0 (laid, wd, l) xF (by omega) (xF_ge (by omega)) ⟨hL, fun h => ⟨h, rfl⟩⟩
  refine ⟨t'.1, t'.2.1, t'.2.2, ?_, h1, h2⟩
  rw [← deM_ok n hn o ho]
  exact h
def pkM (n o : Nat) : Nat := itr (fun k s => if lt n o (k - 1) < lt n o k ∧ lt n o (k + 1) < lt n o k then s ||| 2 ^ k else s) (n - 1 - 1) 1 0
theorem pkM_ok : ∀ n, n ≤ 5 → 1 ≤ n → ∀ o, o < fac n → pkM n o = pe n o := by decide +kernel
theorem m_peaks (hal : al 0 = nI n) (hn : n ≤ 5) (hn1 : 1 ≤ n) {laid : Int32} {wd l : Nat → Int32} (hL : LK laid l) {o : Nat} (ho : o < fac n) :
    ∃ laid' wd' l', F_X6_peaks al (nI o) laid wd l = some (nI (pe n o), laid', wd', l') ∧ LK laid' l' := by
  have hf5 := fac_le hn
  by_cases hn2 : n = 1
  · subst hn2
    refine ⟨laid, wd, l, ?_, hL⟩
    unfold F_X6_peaks
    obtain ⟨f, hf⟩ : ∃ f, xF = f + 1 := ⟨xF - 1, rfl⟩
    rw [hf, E_X6_peaks_4, bnd (m_n hal), i1, nI_add, ifLe (by omega) (by omega) (by omega), ← pkM_ok 1 (by omega) (by omega) o ho]
    rfl
  obtain ⟨t', h, h1⟩ := loopE (fun f k s (t : MT) => F_X6_peaks_4 al (nI o) f (nI s) (nI k) t.1 t.2.1 t.2.2) (fun k t => LK t.1 t.2.2 ∧ 1 ≤ k) (n - 1) (fun s t => some (nI s, t.1, t.2.1, t.2.2)) (fun k s => if lt n o (k - 1) < lt n o k ∧ lt n o (k + 1) < lt n o k then s ||| 2 ^ k else s)
    (fun f s t _ => by
      show F_X6_peaks_4 _ _ _ _ _ _ _ _ = _
      rw [E_X6_peaks_4, bnd (m_n hal), i1, nI_add, ifLe (by omega) (by omega) (by omega)])
    (fun f k s t hk ⟨hI, hk1⟩ => by
      obtain ⟨w1, l1, e1, e2, -⟩ := m_at (wd := t.2.1) hal hn hI ho (show k < n by omega)
      obtain ⟨w2, l2, f1, f2, -⟩ := m_at (wd := w1) hal hn (e2.LK hn) ho (show k - 1 < n by omega)
      obtain ⟨w3, l3, g1, g2, -⟩ := m_at (wd := w2) hal hn (f2.LK hn) ho (show k < n by omega)
      obtain ⟨w4, l4, h1, h2, -⟩ := m_at (wd := w3) hal hn (g2.LK hn) ho (show k + 1 < n by omega)
      obtain ⟨_, b1⟩ := lt_ok n hn o ho k (by omega)
      obtain ⟨_, b2⟩ := lt_ok n hn o ho (k + 1) (by omega)
      obtain ⟨_, b3⟩ := lt_ok n hn o ho (k - 1) (by omega)
      by_cases c : lt n o (k - 1) < lt n o k
      · refine ⟨(nI n, w4, l4), ?_, h2.LK hn, by omega⟩
        show F_X6_peaks_4 _ _ _ _ _ _ _ _ = F_X6_peaks_4 _ _ _ (nI (if _ then _ else _)) _ _ _ _
        rw [E_X6_peaks_4, bnd (m_n hal), i1, nI_add, ifNle (by omega) (by omega) (by omega), bnd e1]
        dsimp only
        rw [pk_sub hk1, bnd f1]
        dsimp only
        rw [ifNle (by omega) (by omega) c, bnd g1]
        dsimp only
        rw [bnd h1]
        dsimp only
        by_cases c2 : lt n o (k + 1) < lt n o k
        · rw [ifNle (by omega) (by omega) c2, if_pos ⟨c, c2⟩, ← i1, shl1 (by omega), nI_or]
        · rw [ifLe (by omega) (by omega) (by omega), if_neg (fun q => c2 q.2), i0, nI_or, Nat.or_zero]
      · refine ⟨(nI n, w2, l2), ?_, f2.LK hn, by omega⟩
        show F_X6_peaks_4 _ _ _ _ _ _ _ _ = F_X6_peaks_4 _ _ _ (nI (if _ then _ else _)) _ _ _ _
        rw [E_X6_peaks_4, bnd (m_n hal), i1, nI_add, ifNle (by omega) (by omega) (by omega), bnd e1]
        dsimp only
        rw [pk_sub hk1, bnd f1]
        dsimp only
        rw [ifLe (by omega) (by omega) (by omega), if_neg (fun q => c q.1), i0, nI_or, Nat.or_zero]) (n - 1 - 1) 1 0 (laid, wd, l) xF (by omega) (xF_ge (by omega)) ⟨hL, by omega⟩
  refine ⟨t'.1, t'.2.1, t'.2.2, ?_, h1.1⟩
  rw [← pkM_ok n hn hn1 o ho]
  exact h
def ivK (n o k : Nat) : Nat := itr (fun j c => if lt n o k < lt n o j then c + 1 else c) k 0 0
def ivM (n o : Nat) : Nat := itr (fun k c => c + ivK n o k) n 0 0
theorem ivM_ok : ∀ n, n ≤ 5 → ∀ o, o < fac n → ivM n o = iv n o ∧ iv n o < 100 := by decide +kernel
theorem m_inv15 (hal : al 0 = nI n) (hn : n ≤ 5) {o : Nat} (ho : o < fac n) {k : Nat} (hk : k < n) (κ : Int32 → Int32 → Int32 → (Nat → Int32) → (Nat → Int32) → Option (Int32 × Int32 × (Nat → Int32) × (Nat → Int32))) (a : Nat) (t : MT) (hI : LK t.1 t.2.2) :
    ∃ t' : MT, F_X6_inversions_15 al (nI o) κ xF (nI a) (nI k) (0 : Int32) t.1 t.2.1 t.2.2 = κ (nI (a + ivK n o k)) (nI (k + 1)) t'.1 t'.2.1 t'.2.2 ∧ LK t'.1 t'.2.2 ∧ (t.1 = nI n → t'.1 = nI n ∧ t'.2.1 = t.2.1) := by
  obtain ⟨t', h, h1, h2⟩ := loopE (fun f j s (u : MT) => F_X6_inversions_15 al (nI o) κ f (nI (a + s)) (nI k) (nI j) u.1 u.2.1 u.2.2) (fun _ u => LK u.1 u.2.2 ∧ (t.1 = nI n → u.1 = nI n ∧ u.2.1 = t.2.1)) k (fun s u => κ (nI (a + s)) (nI (k + 1)) u.1 u.2.1 u.2.2) (fun j c => if lt n o k < lt n o j then c + 1 else c)
    (fun f s u _ => by
      show F_X6_inversions_15 _ _ _ _ _ _ _ _ _ _ = _
      rw [E_X6_inversions_15, ifLe (by omega) (by omega) (by omega), nI_1])
    (fun f j s u hj ⟨hI, hJ⟩ => by
      obtain ⟨w1, l1, e1, e2, e3⟩ := m_at (wd := u.2.1) hal hn hI ho (show j < n by omega)
      obtain ⟨w2, l2, f1, f2, f3⟩ := m_at (wd := w1) hal hn (e2.LK hn) ho hk
      obtain ⟨_, b1⟩ := lt_ok n hn o ho j (by omega)
      obtain ⟨_, b2⟩ := lt_ok n hn o ho k (by omega)
      refine ⟨(nI n, w2, l2), ?_, f2.LK hn, fun hh => ⟨rfl, by rw [f3 rfl, e3 (hJ hh).1, (hJ hh).2]⟩⟩
      show F_X6_inversions_15 _ _ _ _ _ _ _ _ _ _ = F_X6_inversions_15 _ _ _ _ (nI (a + (if _ then _ else _))) _ _ _ _ _
      rw [E_X6_inversions_15, ifNle (by omega) (by omega) (by omega), bnd e1]
      dsimp only
      rw [bnd f1]
      dsimp only
      by_cases c : lt n o k < lt n o j
      · rw [ifNle (by omega) (by omega) c, if_pos c, i1, nI_add, nI_add, Nat.add_assoc]
      · rw [ifLe (by omega) (by omega) (by omega), if_neg c, i0, nI_add, Nat.add_zero, nI_1]) k 0 0 t xF (by omega) (xF_ge (by omega)) ⟨hI, fun h => ⟨h, rfl⟩⟩
  rw [Nat.add_zero] at h
  exact ⟨t', h, h1, h2⟩
theorem m_inversions (hal : al 0 = nI n) (hn : n ≤ 5) {laid : Int32} {wd l : Nat → Int32} (hL : LK laid l) {o : Nat} (ho : o < fac n) :
    ∃ laid' wd' l', F_X6_inversions al (nI o) laid wd l = some (nI (iv n o), laid', wd', l') ∧ LK laid' l' := by
  have hf5 := fac_le hn
  obtain ⟨t', h, h1⟩ := loopE (fun f k s (t : MT) => F_X6_inversions_4 al (nI o) f (nI s) (nI k) t.1 t.2.1 t.2.2) (fun _ t => LK t.1 t.2.2) n (fun s t => some (nI s, t.1, t.2.1, t.2.2)) (fun k c => c + ivK n o k)
    (fun f s t _ => by
      show F_X6_inversions_4 _ _ _ _ _ _ _ _ = _
      rw [E_X6_inversions_4, bnd (m_n hal), ifLe (by omega) (by omega) (by omega)])
    (fun f k s t hk hI => by
      obtain ⟨t', e1, e2, -⟩ := m_inv15 hal hn ho hk (F_X6_inversions_4 al (nI o) f) s t hI
      refine ⟨t', ?_, e2⟩
      show F_X6_inversions_4 _ _ _ _ _ _ _ _ = _
      rw [E_X6_inversions_4, bnd (m_n hal), ifNle (by omega) (by omega) (by omega), e1]) n 0 0 (laid, wd, l) xF (by omega) (xF_ge (by omega)) hL
  refine ⟨t'.1, t'.2.1, t'.2.2, ?_, h1⟩
  rw [← (ivM_ok n hn o ho).1]
  exact h
/-- a word laid place by place, the letters from two looks at orders -/
theorem m_productOf (hal : al 0 = nI n) (hn : n ≤ 5) {laid : Int32} {wd l : Nat → Int32} (hL : LK laid l) {u v : Nat} (hu : u < fac n) (hv : v < fac n) :
    ∃ laid' wd' l', F_X6_productOf al (nI u) (nI v) laid wd l = some (nI (mu n u v), laid', wd', l') ∧ LK laid' l' := by
  have hf5 := fac_le hn
  obtain ⟨t', h, h1, h2⟩ := loopE (fun f k (_ : Unit) (t : MT) => F_X6_productOf_2 al (nI u) (nI v) f (nI k) t.1 t.2.1 t.2.2) (fun k t => LK t.1 t.2.2 ∧ (0 < k → t.1 = nI n ∧ ∀ j, j < k → t.2.1 j = nI (lt n u (lt n v j - 1)))) n (fun _ t => (F_X6_numberOfWord al t.2.1).bind fun q => some (q, t.1, t.2.1, t.2.2)) (fun _ s => s)
    (fun f s t _ => by
      show F_X6_productOf_2 _ _ _ _ _ _ _ _ = _
      rw [E_X6_productOf_2, bnd (m_n hal), ifLe (by omega) (by omega) (by omega)])
    (fun f k s t hk ⟨hI, hJ⟩ => by
      obtain ⟨a1, b1⟩ := lt_ok n hn v hv k hk
      obtain ⟨w1, l1, e1, e2, e3⟩ := m_at (wd := t.2.1) hal hn hI hv hk
      obtain ⟨w2, l2, f1, f2, f3⟩ := m_at (wd := w1) hal hn (e2.LK hn) hu (show lt n v k - 1 < n by omega)
      refine ⟨(nI n, upd w2 k (nI (lt n u (lt n v k - 1))), l2), ?_, f2.LK hn, fun _ => ⟨rfl, fun j hj => ?_⟩⟩
      · show F_X6_productOf_2 _ _ _ _ _ _ _ _ = F_X6_productOf_2 _ _ _ _ _ _ _ _
        rw [E_X6_productOf_2, bnd (m_n hal), ifNle (by omega) (by omega) (by omega), bnd e1]
        dsimp only
        rw [i1, pk_sub a1, bnd f1]
        dsimp only
        rw [xgI (by omega) (by omega), nI_clamp (by omega), nI_add]
      · show upd w2 k (nI (lt n u (lt n v k - 1))) j = _
        unfold upd
        by_cases c : j = k
        · subst c; rw [if_pos rfl]
        · rw [if_neg c, f3 rfl, e3 (hJ (by omega)).1]
          exact (hJ (by omega)).2 j (by omega)) n 0 () (laid, wd, l) xF (by omega) (xF_ge (by omega)) ⟨hL, fun h => absurd h (by omega)⟩
  unfold F_X6_productOf
  have h3 : F_X6_numberOfWord al t'.2.1 = some (nI (mu n u v)) := by
    rw [← mu_w n hn u hu v hv]
    refine m_nm hal hn fun k hk => ⟨(h2 (by omega)).2 k hk, ?_⟩
    obtain ⟨a1, b1⟩ := lt_ok n hn v hv k hk
    have := (lt_ok n hn u hu (lt n v k - 1) (by omega)).2
    omega
  rw [bnd h3] at h
  exact ⟨t'.1, t'.2.1, t'.2.2, h, h1⟩
end MO
