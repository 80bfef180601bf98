/-! sums that go by descents, on both sides -/
def P0 {α : Type} (n : Nat) (f : Nat → α) (o : Nat) : Prop := f o = f (fi n (de n o))
theorem de_t {n : Nat} (hn : n ≤ 5) {o : Nat} (ho : o < fac n) : de n o < 2 ^ (n - 1) := (de_lt n hn o ho).1
theorem p16 {n : Nat} (hn : n ≤ 5) : 2 ^ (n - 1) ≤ 16 := Nat.le_trans (Nat.pow_le_pow_right (by omega) (by omega)) (show 2 ^ 4 ≤ 16 by decide)
theorem fi_f {n : Nat} (hn : n ≤ 5) (hn1 : 1 ≤ n) {t : Nat} (ht : t < 2 ^ (n - 1)) : fi n t < fac n ∧ de n (fi n t) = t := fi_ok n hn hn1 t ht
theorem fi_le {n : Nat} (hn : n ≤ 5) (hn1 : 1 ≤ n) {o : Nat} (ho : o < fac n) : fi n (de n o) ≤ o := by
  have h1 := (fq_le n hn o ho).1
  have h2 := (dq_ok n hn o ho).1
  rw [h2, (fq_ok n hn hn1 (de n o) (de_t hn ho)).1] at h1
  exact h1
noncomputable def gd {α : Type} (n : Nat) (f : Nat → α) : Bool := @decide (∀ o, o < fac n → P0 n f o) (Classical.propDecidable _)
theorem gd_t {α : Type} {n : Nat} {f : Nat → α} (h : ∀ o, o < fac n → P0 n f o) : gd n f = true := by unfold gd; exact @decide_eq_true _ (Classical.propDecidable _) h
theorem gd_f {α : Type} {n : Nat} {f : Nat → α} {o : Nat} (ho : o < fac n) (h : ¬ P0 n f o) : gd n f = false := by unfold gd; exact @decide_eq_false _ (Classical.propDecidable _) (fun q => h (q o ho))
theorem gd_iff {α : Type} {n : Nat} {f : Nat → α} (h : gd n f = true) : ∀ o, o < fac n → P0 n f o := @of_decide_eq_true _ (Classical.propDecidable _) h
theorem gd_congr {α β : Type} {n : Nat} {f : Nat → α} {g : Nat → β} (hn : n ≤ 5) (hn1 : 1 ≤ n) (h : ∀ o, o < fac n → (P0 n f o ↔ P0 n g o)) : gd n f = gd n g := by
  cases c : gd n g
  · unfold gd at c ⊢
    have c2 := @of_decide_eq_false _ (Classical.propDecidable _) c
    exact @decide_eq_false _ (Classical.propDecidable _) (fun q => c2 fun o ho => (h o ho).mp (q o ho))
  · exact gd_t fun o ho => (h o ho).mpr (gd_iff c o ho)
section GD
variable {n : Nat} {s : Nat → Nat → Int32} {al : Nat → Int32} {lm ls : Nat} {od of_ : Nat → Int32}
theorem x_gbd (hn : n ≤ 5) (hn1 : 1 ≤ n) (hlm : lm = fac n) (hls : ls = 2 ^ (n - 1)) (hod : ∀ o, o < fac n → od o = nI (de n o)) (hof : ∀ t, of_ t = nI (fi n t)) {i : Nat} (hi : i < 3) :
    F_X5_goesByDescents lm ls s (nI (fac n)) od of_ (nI i) = some (bI (gd n (s i))) := by
  have hf5 := fac_le hn
  have h16 := p16 hn
  have hl : ∀ d k f, k + d = fac n → d < f → (∀ o, o < k → P0 n (s i) o) → F_X5_goesByDescents_2 lm ls s (nI (fac n)) od of_ (nI i) f (nI k) = some (bI (gd n (s i))) := by
    intro d
    induction d with
    | zero =>
      intro k f hk hf hP
      obtain ⟨f, rfl⟩ : ∃ g, f = g + 1 := ⟨f - 1, by omega⟩
      rw [E_X5_goesByDescents_2, ifLe (by omega) (by omega) (by omega), gd_t (fun o ho => hP o (by omega))]
      rfl
    | succ d ih =>
      intro k f hk hf hP
      obtain ⟨f, rfl⟩ : ∃ g, f = g + 1 := ⟨f - 1, by omega⟩
      have ht := de_t hn (show k < fac n by omega)
      obtain ⟨g1, g2⟩ := fi_f hn hn1 ht
      rw [E_X5_goesByDescents_2, ifNle (by omega) (by omega) (by omega), xgI hi (by omega), xgI (by omega) (by omega), xgI (by omega) (by omega), nI_clamp (by omega), nI_clamp (by omega), hod k (by omega), xgI (by omega) (by omega), nI_clamp (by omega), hof, xgI (by omega) (by omega), nI_clamp (by omega), nI_1]
      by_cases c : P0 n (s i) k
      · rw [if_pos (show s i k = s i (fi n (de n k)) from c)]
        exact ih (k + 1) f (by omega) (by omega) fun o ho => by
          by_cases q : o = k
          · rw [q]; exact c
          · exact hP o (by omega)
      · rw [if_neg (show ¬ s i k = s i (fi n (de n k)) from c), gd_f (show k < fac n by omega) c]
        rfl
  exact hl (fac n) 0 xF (by omega) (xF_ge (by omega)) (fun o ho => absurd ho (by omega))
def laK (n : Nat) : Nat → Nat → Nat
  | 0, _ => 0
  | k + 1, t => if t = de n k then k else laK n k t
theorem laK_ok (hn : n ≤ 5) (hn1 : 1 ≤ n) {t : Nat} (ht : t < 2 ^ (n - 1)) : ∀ k, k ≤ fac n → fi n t < k → laK n k t < k ∧ de n (laK n k t) = t := by
  intro k
  induction k with
  | zero => intro _ h; exact absurd h (by omega)
  | succ k ih =>
    intro hk h
    unfold laK
    by_cases c : t = de n k
    · rw [if_pos c]; exact ⟨by omega, c.symm⟩
    · rw [if_neg c]
      have hne : fi n t ≠ k := fun q => c (by rw [← q, (fi_f hn hn1 ht).2])
      obtain ⟨h1, h2⟩ := ih (by omega) (by omega)
      exact ⟨by omega, h2⟩
theorem laK_max (hn : n ≤ 5) {t : Nat} : ∀ k o, o < k → de n o = t → o ≤ laK n k t := by
  intro k
  induction k with
  | zero => intro o h; exact absurd h (by omega)
  | succ k ih =>
    intro o h1 h2
    unfold laK
    by_cases c : t = de n k
    · rw [if_pos c]; omega
    · rw [if_neg c]
      exact ih o (by have : o ≠ k := fun q => c (by rw [← q, h2]); omega) h2
theorem laK_lq (hn : n ≤ 5) (hn1 : 1 ≤ n) {t : Nat} (ht : t < 2 ^ (n - 1)) : laK n (fac n) t = lq n t := by
  obtain ⟨f1, f2, f3, f4⟩ := fq_ok n hn hn1 t ht
  obtain ⟨g1, g2⟩ := laK_ok hn hn1 ht (fac n) (Nat.le_refl _) (fi_f hn hn1 ht).1
  have h1 := laK_max hn (fac n) (lq n t) f2 (by rw [← (dq_ok n hn _ f2).1, f3])
  have h2 := (fq_le n hn _ g1).2
  rw [(dq_ok n hn _ g1).1, g2] at h2
  omega
/-- what the model's loop keeps behind k orders -/
def GI (n : Nat) (mm : Nat → Int64) (k : Nat) (x : Int32) (bd : Nat → Int64) (il : Nat → Int32) : Prop :=
  ((x = 1 ∧ ∀ o, o < k → P0 n mm o) ∨ (x = 0 ∧ ∃ o, o < k ∧ o < fac n ∧ ¬ P0 n mm o)) ∧ (∀ t, t < 2 ^ (n - 1) → (il t = 0 ↔ ¬ fi n t < k)) ∧ (∀ t, t < 2 ^ (n - 1) → fi n t < k → bd t = mm (laK n k t))
theorem GI.step {mm : Nat → Int64} {k : Nat} {x y : Int32} {bd : Nat → Int64} {il : Nat → Int32} (hn : n ≤ 5) (hn1 : 1 ≤ n) (hk : k < fac n) (h : GI n mm k x bd il) (hy : (y = 1 ∧ x = 1 ∧ P0 n mm k) ∨ (y = 0 ∧ (x = 0 ∨ ¬ P0 n mm k))) : GI n mm (k + 1) y (vp_updL bd (de n k) (mm k)) (upd il (de n k) 1) := by
  obtain ⟨h1, h2, h3⟩ := h
  have ht := de_t hn hk
  refine ⟨?_, fun t htt => ?_, fun t htt hf => ?_⟩
  · rcases hy with ⟨rfl, hx, hP⟩ | ⟨rfl, hx⟩
    · refine Or.inl ⟨rfl, fun o ho => ?_⟩
      by_cases q : o = k
      · rw [q]; exact hP
      · rcases h1 with ⟨_, h1⟩ | ⟨h1, _⟩
        · exact h1 o (by omega)
        · rw [hx] at h1; exact absurd h1 (by decide)
    · refine Or.inr ⟨rfl, ?_⟩
      rcases hx with hx | hx
      · rcases h1 with ⟨h1, _⟩ | ⟨_, o, h4, h5, h6⟩
        · rw [hx] at h1; exact absurd h1 (by decide)
        · exact ⟨o, by omega, h5, h6⟩
      · exact ⟨k, by omega, hk, hx⟩
  · unfold upd
    by_cases q : t = de n k
    · rw [if_pos q]
      have := fi_le hn hn1 hk
      rw [← q] at this
      exact ⟨fun z => absurd z (by decide), fun z => absurd (show fi n t < k + 1 by omega) z⟩
    · rw [if_neg q, h2 t htt]
      have hne : fi n t ≠ k := fun z => q (by rw [← z, (fi_f hn hn1 htt).2])
      exact ⟨fun z w => z (by omega), fun z w => z (by omega)⟩
  · unfold vp_updL laK
    by_cases q : t = de n k
    · rw [if_pos q, if_pos q]
    · rw [if_neg q, if_neg q]
      have hne : fi n t ≠ k := fun z => q (by rw [← z, (fi_f hn hn1 htt).2])
      exact h3 t htt (by omega)
abbrev GT : Type := Int32 × MT × (Nat → Int64) × (Nat → Int32)
theorem m_gbd4 (mm : Nat → Int64) (t : MT) (bd : Nat → Int64) (il : Nat → Int32) : ∃ bd' il', F_X6_goesByDescents_4 al mm xF 1 0 t.1 t.2.1 t.2.2 bd il = F_X6_goesByDescents_32 al mm xF 1 0 t.1 t.2.1 t.2.2 bd' il' ∧ ∀ t, t < 16 → il' t = 0 := by
  obtain ⟨t', h, h1⟩ := loopE (fun f k (_ : Unit) (u : (Nat → Int64) × (Nat → Int32)) => F_X6_goesByDescents_4 al mm f 1 (nI k) t.1 t.2.1 t.2.2 u.1 u.2) (fun k u => ∀ t, t < k → u.2 t = 0) 16 (fun _ u => F_X6_goesByDescents_32 al mm xF 1 0 t.1 t.2.1 t.2.2 u.1 u.2) (fun _ q => q)
    (fun f q u _ => by
      show F_X6_goesByDescents_4 _ _ _ _ _ _ _ _ _ _ = _
      rw [E_X6_goesByDescents_4, show (16 : Int32) = nI 16 from rfl, ifLe (by omega) (by omega) (by omega)])
    (fun f k q u hk hI => by
      refine ⟨(vp_updL u.1 k 0, upd u.2 k 0), ?_, fun j hj => ?_⟩
      · show F_X6_goesByDescents_4 _ _ _ _ _ _ _ _ _ _ = F_X6_goesByDescents_4 _ _ _ _ _ _ _ _ _ _
        rw [E_X6_goesByDescents_4, show (16 : Int32) = nI 16 from rfl, ifNle (by omega) (by omega) (by omega), xgI (by omega) (by omega), nI_clamp (by omega), nI_1]
      · show upd u.2 k 0 j = 0
        unfold upd
        by_cases c : j = k
        · rw [if_pos c]
        · rw [if_neg c]; exact hI j (by omega)) 16 0 () (bd, il) xF (by omega) (xF_ge (by omega)) (fun j hj => absurd hj (by omega))
  exact ⟨t'.1, t'.2, h, h1⟩
theorem m_gbd (hal : al 0 = nI n) (hn : n ≤ 5) (hn1 : 1 ≤ n) {laid : Int32} {wd l : Nat → Int32} (hL : LK laid l) (mm bd : Nat → Int64) (il : Nat → Int32) :
    ∃ laid' wd' l' bd' il', F_X6_goesByDescents al mm laid wd l bd il = some (bI (gd n mm), laid', wd', l', bd', il') ∧ LK laid' l' ∧ (∀ t, t < 2 ^ (n - 1) → bd' t = mm (lq n t)) := by
  have hf5 := fac_le hn
  have h16 := p16 hn
  obtain ⟨bd1, il1, e1, e2⟩ := m_gbd4 (al := al) mm (laid, wd, l) bd il
  obtain ⟨t', h, h1, h2⟩ := loopE (fun f k (_ : Unit) (u : GT) => F_X6_goesByDescents_32 al mm f u.1 (nI k) u.2.1.1 u.2.1.2.1 u.2.1.2.2 u.2.2.1 u.2.2.2) (fun k u => LK u.2.1.1 u.2.1.2.2 ∧ GI n mm k u.1 u.2.2.1 u.2.2.2) (fac n) (fun _ u => xb u.1 (some (u.1, u.2.1.1, u.2.1.2.1, u.2.1.2.2, u.2.2.1, u.2.2.2))) (fun _ q => q)
    (fun f q u _ => by
      show F_X6_goesByDescents_32 _ _ _ _ _ _ _ _ _ _ = _
      rw [E_X6_goesByDescents_32, bnd (m_orders hal hn), ifLe (by omega) (by omega) (by omega)])
    (fun f k q u hk ⟨hI, hG⟩ => by
      obtain ⟨d1, w1, l1, f1, f2, -⟩ := m_descents (wd := u.2.1.2.1) hal hn hn1 hI hk
      have ht := de_t hn hk
      obtain ⟨g1, g2⟩ := fi_f hn hn1 ht
      have gle := fi_le hn hn1 hk
      have hstep : ∀ y, F_X6_goesByDescents_80 mm (F_X6_goesByDescents_32 al mm f) (nI k) (nI (de n k)) y d1 w1 l1 u.2.2.1 u.2.2.2 = F_X6_goesByDescents_32 al mm f y (nI (k + 1)) d1 w1 l1 (vp_updL u.2.2.1 (de n k) (mm k)) (upd u.2.2.2 (de n k) 1) := fun y => by
        unfold F_X6_goesByDescents_80
        rw [xgI (by omega) (by omega), xgI (by omega) (by omega), nI_clamp (by omega), nI_clamp (by omega), nI_1]
      have hmain : ∃ y, F_X6_goesByDescents_32 al mm (f + 1) u.1 (nI k) u.2.1.1 u.2.1.2.1 u.2.1.2.2 u.2.2.1 u.2.2.2 = F_X6_goesByDescents_32 al mm f y (nI (k + 1)) d1 w1 l1 (vp_updL u.2.2.1 (de n k) (mm k)) (upd u.2.2.2 (de n k) 1) ∧ ((y = 1 ∧ u.1 = 1 ∧ P0 n mm k) ∨ (y = 0 ∧ (u.1 = 0 ∨ ¬ P0 n mm k))) := by
        rw [E_X6_goesByDescents_32, bnd (m_orders hal hn), ifNle (by omega) (by omega) (by omega), bnd f1]
        dsimp only
        unfold F_X6_goesByDescents_79 F_X6_goesByDescents_75
        obtain ⟨G1, G2, G3⟩ := hG
        by_cases c0 : u.1 = 0
        · rw [if_pos c0]
          exact ⟨0, hstep 0, Or.inr ⟨rfl, Or.inl c0⟩⟩
        · obtain ⟨c1, G1⟩ : u.1 = 1 ∧ ∀ o, o < k → P0 n mm o := by
            rcases G1 with G1 | ⟨G1, _⟩
            · exact G1
            · exact absurd G1 c0
          rw [if_neg c0, xgI (by omega) (by omega), nI_clamp (by omega)]
          by_cases c2 : u.2.2.2 (de n k) = 0
          · rw [if_pos c2]
            have hnk := (G2 _ ht).mp c2
            have : fi n (de n k) = k := by omega
            exact ⟨1, hstep 1, Or.inl ⟨rfl, c1, by unfold P0; rw [this]⟩⟩
          · have hlt : fi n (de n k) < k := by
              false_or_by_contra
              rename_i z
              exact c2 ((G2 _ ht).mpr z)
            have hb := G3 _ ht hlt
            obtain ⟨L1, L2⟩ := laK_ok hn hn1 ht k (by omega) hlt
            have hp := G1 _ L1
            unfold P0 at hp
            rw [L2, ← hb] at hp
            rw [if_neg c2, xgI (by omega) (by omega), nI_clamp (by omega), hp]
            by_cases c3 : P0 n mm k
            · rw [if_pos ((lgz _ _).mpr c3.symm)]
              exact ⟨1, hstep 1, Or.inl ⟨rfl, c1, c3⟩⟩
            · rw [if_neg (fun z => c3 ((lgz _ _).mp z).symm)]
              exact ⟨0, hstep 0, Or.inr ⟨rfl, Or.inr c3⟩⟩
      obtain ⟨y, m1, m2⟩ := hmain
      exact ⟨(y, (d1, w1, l1), vp_updL u.2.2.1 (de n k) (mm k), upd u.2.2.2 (de n k) 1), m1, f2, hG.step hn hn1 hk m2⟩) (fac n) 0 () (1, (laid, wd, l), bd1, il1) xF (by omega) (xF_ge (by omega)) ⟨hL, Or.inl ⟨rfl, fun o ho => absurd ho (by omega)⟩, fun t ht => ⟨fun _ z => absurd z (by omega), fun _ => e2 t (by omega)⟩, fun t _ z => absurd z (by omega)⟩
  obtain ⟨h3, h4, h5⟩ := h2
  refine ⟨t'.2.1.1, t'.2.1.2.1, t'.2.1.2.2, t'.2.2.1, t'.2.2.2, ?_, h1, fun t ht => ?_⟩
  · unfold F_X6_goesByDescents
    rw [e1]
    refine h.trans ?_
    rcases h3 with ⟨h3, h6⟩ | ⟨h3, o, h6, h7, h8⟩
    · rw [h3, gd_t h6]; rfl
    · rw [h3, gd_f h7 h8]; rfl
  · rw [h5 t ht (fi_f hn hn1 ht).1, laK_lq hn hn1 ht]
end GD
/-! the factor of a wide class -/
def bc (t r : Nat) : Nat := (t ^^^ r) % 2 + (t ^^^ r) / 2 % 2 + (t ^^^ r) / 4 % 2 + (t ^^^ r) / 8 % 2
theorem wf_1 : ∀ t, t < 16 → ∀ r, r < 16 → ((nI t &&& nI r = nI r) ↔ t &&& r = r) ∧ F_J6_bitCount_0f7a4 (nI t ^^^ nI r) = some (nI (bc t r)) ∧ bc t r < 5 ∧ (t &&& r = r → F_X6_bits (nI t &&& (nI r ^^^ (-1 : Int32))) = some (nI (bc t r))) ∧ (t < r → ¬ t &&& r = r) := by decide +kernel
def wfS (g : Nat → Int64) (r t : Nat) (x : Int64) : Int64 := if t &&& r = r then (if bc t r % 2 = 1 then x + -(g t) else x + g t) else x
def wf (n : Nat) (g : Nat → Int64) (r : Nat) : Int32 := (itr (wfS g r) (2 ^ (n - 1)) 0 0).toInt32
theorem x_wideFactor {n : Nat} (hn : n ≤ 5) (pcl : Nat → Int64) {r : Nat} (hr : r < 2 ^ (n - 1)) : F_X5_wideFactor pcl (nI (2 ^ (n - 1))) (nI r) = some (wf n pcl r) := by
  have h16 := p16 hn
  have h := loopN (fun f t x => F_X5_wideFactor_5 pcl (nI (2 ^ (n - 1))) (nI r) f x (nI t)) (2 ^ (n - 1)) (fun x => some x.toInt32) (wfS pcl r)
    (fun f x => by show F_X5_wideFactor_5 _ _ _ _ _ _ = _; rw [E_X5_wideFactor_5, ifLe (by omega) (by omega) (by omega)])
    (fun f t x ht => by
      show F_X5_wideFactor_5 _ _ _ _ _ _ = F_X5_wideFactor_5 _ _ _ _ _ _
      obtain ⟨w1, w2, w3, -⟩ := wf_1 t (by omega) r (by omega)
      unfold wfS
      rw [E_X5_wideFactor_5, ifNle (by omega) (by omega) (by omega), bnd w2, and1]
      unfold F_X5_wideFactor_43
      rw [xgI (by omega) (by omega), nI_clamp (by omega), if_neg n10, if_pos (show (0 : Int32) = 0 from rfl), xgI (by omega) (by omega), nI_1]
      by_cases c : t &&& r = r
      · rw [if_pos (w1.mpr c), if_pos c]
        by_cases c2 : bc t r % 2 = 1
        · rw [i1, ifEq (by rw [c2]), if_pos c2]
        · rw [i1, ifNe (by omega) (by omega) c2, if_neg c2]
      · rw [if_neg (fun q => c (w1.mp q)), if_neg c]) (2 ^ (n - 1)) 0 0 xF (by omega) (xF_ge (by omega))
  exact h
theorem m_wideFactor {n : Nat} {al : Nat → Int32} (hal : al 0 = nI n) (hn : n ≤ 5) (hn1 : 1 ≤ n) (bd : Nat → Int64) {r : Nat} (hr : r < 2 ^ (n - 1)) : F_X6_wideFactor al bd (nI r) = some (wf n bd r) := by
  have h16 := p16 hn
  have h := loopN (fun f t x => F_X6_wideFactor_5 al bd (nI r) f x (nI t)) (2 ^ (n - 1)) (fun x => some x.toInt32) (wfS bd r)
    (fun f x => by show F_X6_wideFactor_5 _ _ _ _ _ _ = _; rw [E_X6_wideFactor_5, bnd (m_n hal), i1, pk_sub hn1, ← i1, shl1 (by omega), ifLe (by omega) (by omega) (by omega)])
    (fun f t x ht => by
      show F_X6_wideFactor_5 _ _ _ _ _ _ = F_X6_wideFactor_5 _ _ _ _ _ _
      obtain ⟨w1, w2, w3, w4, -⟩ := wf_1 t (by omega) r (by omega)
      unfold wfS
      rw [E_X6_wideFactor_5, bnd (m_n hal), i1, pk_sub hn1, ← i1, shl1 (by omega), ifNle (by omega) (by omega) (by omega)]
      by_cases c : t &&& r = r
      · rw [if_pos (w1.mpr c), if_pos c, bnd (w4 c), i2, pk_rem (by omega) (by omega) (by omega), xgI (by omega) (by omega), xgI (by omega) (by omega), nI_clamp (by omega), nI_1]
        by_cases c2 : bc t r % 2 = 1
        · rw [i0, ifNe (by omega) (by omega) (by omega), if_pos c2]
        · rw [i0, ifEq (by omega), if_neg c2]
      · rw [if_neg (fun q => c (w1.mp q)), if_neg c, nI_1]) (2 ^ (n - 1) - r) r 0 xF (by omega) (xF_ge (by omega))
  unfold F_X6_wideFactor
  refine h.trans ?_
  unfold wf
  rw [show 2 ^ (n - 1) = r + (2 ^ (n - 1) - r) by omega, itr_add (wfS bd r) r, itr_id (nx := wfS bd r) r 0 0 (fun j _ hj x => by
    unfold wfS
    exact if_neg ((wf_1 j (by omega) r (by omega)).2.2.2.2 (by omega))), Nat.zero_add, show r + (2 ^ (n - 1) - r) - r = 2 ^ (n - 1) - r by omega]
theorem wf_congr {n : Nat} {g g' : Nat → Int64} {r : Nat} (h : ∀ t, t < 2 ^ (n - 1) → g t = g' t) : wf n g r = wf n g' r := by
  unfold wf
  refine congrArg Int64.toInt32 (itr_congr _ _ _ fun t _ ht x => ?_)
  unfold wfS
  rw [h t (by omega)]
