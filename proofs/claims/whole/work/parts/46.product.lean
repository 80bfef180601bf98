/-! the two answer alike: multiply, square -/
theorem w_inj {a b : Int32} : a.toInt64 = b.toInt64 ↔ a = b := ⟨fun h => Int32.toInt_inj.mp (by rw [← Int32.toInt_toInt64, ← Int32.toInt_toInt64, h]), fun h => by rw [h]⟩
def stp (n : Nat) (f g : Nat → Int32) (u v : Nat) (m : Nat → Int64) : Nat → Int64 := vp_updL m (mu n u v) (m (mu n u v) + (f u).toInt64 * (g v).toInt64)
def prd (n : Nat) (f g : Nat → Int32) (m : Nat → Int64) : Nat → Int64 := itr (fun u m => itr (stp n f g u) (fac n) 0 m) (fac n) 0 m
theorem stp_0 {n : Nat} {f g : Nat → Int32} {u v : Nat} (h : f u = 0 ∨ g v = 0) (m : Nat → Int64) : stp n f g u v m = m := by
  have e : (f u).toInt64 * (g v).toInt64 = 0 := by
    rcases h with h | h
    · rw [h, show (0 : Int32).toInt64 = 0 from rfl, Int64.zero_mul]
    · rw [h, show (0 : Int32).toInt64 = 0 from rfl, Int64.mul_zero]
  unfold stp
  rw [e, Int64.add_zero]
  funext j
  unfold vp_updL
  by_cases c : j = mu n u v
  · rw [if_pos c, c]
  · rw [if_neg c]
theorem itr_rel {σ τ : Type} (R : σ → τ → Prop) {f : Nat → σ → σ} {g : Nat → τ → τ} : ∀ d i s t, (∀ j s t, i ≤ j → j < i + d → R s t → R (f j s) (g j t)) → R s t → R (itr f d i s) (itr g d i t) := by
  intro d
  induction d with
  | zero => intro i s t _ h; exact h
  | succ d ih =>
    intro i s t h hR
    exact ih (i + 1) _ _ (fun j s t h1 h2 => h j s t (by omega) (by omega)) (h i s t (Nat.le_refl _) (by omega) hR)
def SM (n : Nat) (m m' : Nat → Int64) : Prop := (∀ o, o < fac n → m' o = m o) ∧ ∀ o, fac n ≤ o → o < 120 → m' o = 0
theorem prd_same {n : Nat} (hn : n ≤ 5) (f g : Nat → Int32) {m m' : Nat → Int64} (h : SM n m m') : SM n (prd n f g m) (prd n f g m') := by
  unfold prd
  refine itr_rel (SM n) _ _ _ _ (fun u s t _ hu hR => ?_) h
  refine itr_rel (SM n) _ _ _ _ (fun v s t _ hv hR => ?_) hR
  have hm := mu_lt hn (show u < fac n by omega) (show v < fac n by omega)
  refine ⟨fun o ho => ?_, fun o h1 h2 => ?_⟩
  · unfold stp vp_updL
    by_cases c : o = mu n u v
    · rw [if_pos c, if_pos c, hR.1 _ hm]
    · rw [if_neg c, if_neg c, hR.1 o ho]
  · unfold stp vp_updL
    rw [if_neg (by omega)]
    exact hR.2 o h1 h2
theorem x_makeProduct {n lp : Nat} (hn : n ≤ 5) (hlp : lp = fac n * fac n) {om : Nat → Int32} (hom : ∀ a b, a < fac n → b < fac n → om (a * fac n + b) = nI (mu n a b)) {i j : Nat} (hi : i < 3) (hj : j < 3) (s : Nat → Nat → Int32) (made : Nat → Int64) :
    F_X5_makeProduct lp s (nI (fac n)) om (nI i) (nI j) made = some (prd n (s i) (s j) (fun o => if o < fac n then 0 else made o)) := by
  have hf5 := fac_le hn
  have h := loopN (fun f u m => F_X5_makeProduct_6 lp s (nI (fac n)) om (nI i) (nI j) f (nI u) m) (fac n) some (fun u m => itr (stp n (s i) (s j) u) (fac n) 0 m)
    (fun f m => by show F_X5_makeProduct_6 _ _ _ _ _ _ _ _ _ = _; rw [E_X5_makeProduct_6, ifLe (by omega) (by omega) (by omega)])
    (fun f u m hu => by
      show F_X5_makeProduct_6 _ _ _ _ _ _ _ _ _ = F_X5_makeProduct_6 _ _ _ _ _ _ _ _ _
      rw [E_X5_makeProduct_6, ifNle (by omega) (by omega) (by omega), xgI hi (by omega), xgI (by omega) (by omega), nI_clamp (by omega), nI_clamp (by omega)]
      by_cases c : s i u = 0
      · rw [if_pos c, itr_id _ _ _ (fun v _ _ m => stp_0 (Or.inl c) m), nI_1]
      · rw [if_neg c]
        have h2 := loopN (fun g v m => F_X5_makeProduct_26 lp s (nI (fac n)) om (nI i) (nI j) (F_X5_makeProduct_6 lp s (nI (fac n)) om (nI i) (nI j) f) g (nI u) (nI v) m) (fac n) (fun m => F_X5_makeProduct_6 lp s (nI (fac n)) om (nI i) (nI j) f (nI (u + 1)) m) (stp n (s i) (s j) u)
          (fun g m => by show F_X5_makeProduct_26 _ _ _ _ _ _ _ _ _ _ _ = _; rw [E_X5_makeProduct_26, ifLe (by omega) (by omega) (by omega), nI_1])
          (fun g v m hv => by
            have hm := mu_lt hn hu hv
            show F_X5_makeProduct_26 _ _ _ _ _ _ _ _ _ _ _ = F_X5_makeProduct_26 _ _ _ _ _ _ _ _ _ _ _
            rw [E_X5_makeProduct_26, ifNle (by omega) (by omega) (by omega), bnd (x_times hn hlp hu hv om), hom u v hu hv, xgI (by omega) (by omega), xgI hi (by omega), xgI (by omega) (by omega), xgI hj (by omega), xgI (by omega) (by omega), nI_clamp (by omega), nI_clamp (by omega), nI_clamp (by omega), nI_clamp (by omega), nI_clamp (by omega), nI_1]
            rfl) (fac n) 0 m xF (by omega) (xF_ge (by omega))
        exact h2) (fac n) 0 (fun o => if o < fac n then 0 else made o) xF (by omega) (xF_ge (by omega))
  unfold F_X5_makeProduct
  rw [bnd (x_makeZeros (fac n) hf5 made)]
  exact h
section AH
variable {n : Nat} {s : Nat → Nat → Int32} {al : Nat → Int32} {hm hx : Int32} {hl : Nat → Int32} {hf : Nat → Nat → Int32} {hlong : Int32} {mh : Nat → Int32}
variable {lm ls ll lp ln : Nat} {fn fm fs : Int32} {od op oi ov of_ ol om : Nat → Int32} {laid : Int32} {wd l : Nat → Int32}
theorem m_multiplies17 (hS : RS n s al) {i j u : Nat} (hi : i < 3) (hj : j < 3) (hu : u < fac n) (κ : Int32 → Int32 → (Nat → Int32) → (Nat → Int32) → (Nat → Int64) → Option (Int32 × (Nat → Int32) × (Nat → Int32) × (Nat → Int64))) (t : MT) (hL : LK t.1 t.2.2) (m : Nat → Int64) :
    ∃ t' : MT, F_X6_multiplies_17 al (nI i) (nI j) κ xF (nI u) (nI 0) t.1 t.2.1 t.2.2 m = κ (nI (u + 1)) t'.1 t'.2.1 t'.2.2 (itr (stp n (s i) (s j) u) (fac n) 0 m) ∧ LK t'.1 t'.2.2 := by
  have hn := hS.2.1
  have hal := hS.2.2.1
  have hf5 := fac_le hn
  have hf0 := fac_pos hn
  have eu := hS.get hi (show u < 120 by omega)
  by_cases c0 : s i u = 0
  · rw [itr_id _ _ _ (fun v _ _ m => stp_0 (Or.inl c0) m)]
    refine ⟨t, ?_, hL⟩
    obtain ⟨f, hf⟩ : ∃ f, xF = f + 1 := ⟨xF - 1, rfl⟩
    rw [hf, E_X6_multiplies_17, bnd (m_orders hal hn), ifNle (by omega) (by omega) (by omega), bnd (m_get hi (by omega)), eu, if_pos c0, nI_1]
  obtain ⟨t', h, h1⟩ := loopE (fun f v (m : Nat → Int64) (t : MT) => F_X6_multiplies_17 al (nI i) (nI j) κ f (nI u) (nI v) t.1 t.2.1 t.2.2 m) (fun _ t => LK t.1 t.2.2) (fac n) (fun m t => κ (nI (u + 1)) t.1 t.2.1 t.2.2 m) (stp n (s i) (s j) u)
    (fun f m t _ => by show F_X6_multiplies_17 _ _ _ _ _ _ _ _ _ _ _ = _; rw [E_X6_multiplies_17, bnd (m_orders hal hn), ifLe (by omega) (by omega) (by omega), nI_1])
    (fun f v m t hv hI => by
      have hm := mu_lt hn hu hv
      have ev := hS.get hj (show v < 120 by omega)
      by_cases c1 : s j v = 0
      · refine ⟨t, ?_, hI⟩
        show F_X6_multiplies_17 _ _ _ _ _ _ _ _ _ _ _ = F_X6_multiplies_17 _ _ _ _ _ _ _ _ _ _ _
        rw [E_X6_multiplies_17, bnd (m_orders hal hn), ifNle (by omega) (by omega) (by omega), bnd (m_get hi (by omega)), eu, if_neg c0, bnd (m_get hj (by omega)), ev, if_pos c1, stp_0 (Or.inr c1), nI_1]
      · obtain ⟨d1, w1, l1, f1, f2⟩ := m_productOf (wd := t.2.1) hal hn hI hu hv
        refine ⟨(d1, w1, l1), ?_, f2⟩
        show F_X6_multiplies_17 _ _ _ _ _ _ _ _ _ _ _ = F_X6_multiplies_17 _ _ _ _ _ _ _ _ _ _ _
        rw [E_X6_multiplies_17, bnd (m_orders hal hn), ifNle (by omega) (by omega) (by omega), bnd (m_get hi (by omega)), eu, if_neg c0, bnd (m_get hj (by omega)), ev, if_neg c1, bnd f1]
        dsimp only
        rw [xgI (by omega) (by omega), bnd (m_get hi (by omega)), eu, bnd (m_get hj (by omega)), ev, nI_clamp (by omega), nI_1]
        rfl) (fac n) 0 m t xF (by omega) (xF_ge (by omega)) hL
  exact ⟨t', h, h1⟩
theorem m_multiplies (hS : RS n s al) (hL : LK laid l) {i j : Nat} (hi : i < 3) (hj : j < 3) (mm : Nat → Int64) :
    ∃ laid' wd' l', F_X6_multiplies al (nI i) (nI j) laid wd l mm = some (laid', wd', l', prd n (s i) (s j) (fun o => if o < 120 then 0 else mm o)) ∧ LK laid' l' := by
  have hn := hS.2.1
  have hal := hS.2.2.1
  have hf5 := fac_le hn
  obtain ⟨t', h, h1⟩ := loopE (fun f u (m : Nat → Int64) (t : MT) => F_X6_multiplies_6 al (nI i) (nI j) f (nI u) t.1 t.2.1 t.2.2 m) (fun _ t => LK t.1 t.2.2) (fac n) (fun m t => some (t.1, t.2.1, t.2.2, m)) (fun u m => itr (stp n (s i) (s j) u) (fac n) 0 m)
    (fun f m t _ => by show F_X6_multiplies_6 _ _ _ _ _ _ _ _ _ = _; rw [E_X6_multiplies_6, bnd (m_orders hal hn), ifLe (by omega) (by omega) (by omega)])
    (fun f u m t hu hI => by
      obtain ⟨t', e1, e2⟩ := m_multiplies17 hS hi hj hu (F_X6_multiplies_6 al (nI i) (nI j) f) t hI m
      refine ⟨t', ?_, e2⟩
      show F_X6_multiplies_6 _ _ _ _ _ _ _ _ _ = F_X6_multiplies_6 _ _ _ _ _ _ _ _ _
      rw [E_X6_multiplies_6, bnd (m_orders hal hn), ifNle (by omega) (by omega) (by omega)]
      exact e1) (fac n) 0 (fun o => if o < 120 then 0 else mm o) (laid, wd, l) xF (by omega) (xF_ge (by omega)) hL
  unfold F_X6_multiplies
  rw [bnd (m_empties mm)]
  exact ⟨t'.1, t'.2.1, t'.2.2, h, h1⟩
theorem prd_SM (hn : n ≤ 5) (f g : Nat → Int32) (made mm : Nat → Int64) : SM n (prd n f g (fun o => if o < fac n then 0 else made o)) (prd n f g (fun o => if o < 120 then 0 else mm o)) := by
  have hf5 := fac_le hn
  refine prd_same hn f g ⟨fun o ho => ?_, fun o h1 h2 => ?_⟩
  · show (if o < 120 then (0 : Int64) else mm o) = (if o < fac n then (0 : Int64) else made o)
    rw [if_pos (by omega), if_pos ho]
  · exact if_pos h2
theorem ag_multiply (hS : RS n s al) (hR : RH hm hx hl hf hlong mh) (hT : TB n lm ls ll lp ln fn fm fs od op oi ov of_ ol om) (hL : LK laid l) (p1 p2 p3 : Int32) (made mm : Nat → Int64) :
    ∃ r s' made' hm' hx' hl' hf' hlong' al' mh' mm' laid' wd' l', F_X5_multiply lp fn fm om p1 p2 p3 s made hm hx hl hf = some (r, s', made', hm', hx', hl', hf') ∧ F_X6_multiply p1 p2 p3 hlong laid al mh wd l mm = some (r, hlong', laid', al', mh', wd', l', mm') ∧ RS n s' al' ∧ RH hm' hx' hl' hf' hlong' mh' ∧ LK laid' l' := by
  have hn5 := hS.2.1
  have hf5 := fac_le hn5
  obtain ⟨hlm, hls, hll, hlp, hln, rfl, rfl, rfl, hT1, hof, hol, hom⟩ := hT
  unfold F_X5_multiply F_X6_multiply
  rw [m_isSum, m_isSum, m_isSum]
  rcases sum_c p1 with h | ⟨i, hi, rfl, h⟩
  · rw [bnd h, bnd h, if_pos rfl, if_pos rfl]
    exact ⟨_, _, _, _, _, _, _, _, _, _, _, _, _, _, rfl, rfl, hS, hR, hL⟩
  rw [bnd h, bnd h, if_neg n10, if_neg n10]
  rcases sum_c p2 with h | ⟨j, hj, rfl, h⟩
  · rw [bnd h, bnd h, if_pos rfl, if_pos rfl]
    exact ⟨_, _, _, _, _, _, _, _, _, _, _, _, _, _, rfl, rfl, hS, hR, hL⟩
  rw [bnd h, bnd h, if_neg n10, if_neg n10]
  rcases sum_c p3 with h | ⟨k, hk, rfl, h⟩
  · rw [bnd h, bnd h, if_pos rfl, if_pos rfl]
    exact ⟨_, _, _, _, _, _, _, _, _, _, _, _, _, _, rfl, rfl, hS, hR, hL⟩
  obtain ⟨laid', wd', l', k1, k2⟩ := m_multiplies (wd := wd) hS hL hj hk mm
  obtain ⟨q1, q2⟩ := prd_SM hn5 (s j) (s k) made mm
  rw [bnd h, bnd h, if_neg n10, if_neg n10, xgI hj (by omega), xgI hk (by omega), bnd (x_makeProduct hn5 hlp hom hj hk s made), bnd k1]
  dsimp only
  rw [bnd (x_termsMade (fac n) hf5 _), bnd (m_madeOthers _)]
  have ec : cntL (prd n (s j) (s k) (fun o => if o < 120 then 0 else mm o)) 120 = cntL (prd n (s j) (s k) (fun o => if o < fac n then 0 else made o)) (fac n) := (cntL_ext hf5 (fun o ho => (q1 o ho).symm) q2).symm
  rw [ec]
  obtain ⟨r, s', hm', hx', hl', hf', hlong', al', mh', e1, e2, e3, e4⟩ := chg hS hR hi (cntL (prd n (s j) (s k) (fun o => if o < fac n then 0 else made o)) (fac n)) q1 q2
  rw [bnd e1, bnd e2]
  exact ⟨_, _, _, _, _, _, _, _, _, _, _, _, _, _, rfl, rfl, e3, e4, k2⟩
/-! square -/
theorem x_term0 {i : Nat} (hi : i < 3) {m : Nat} (hm5 : m ≤ 120) : ∀ d k f, k + d = m → d < f → (∃ o, k ≤ o ∧ o < m ∧ s i o ≠ 0 ∧ F_X5_termOf_29 s (nI m) (nI i) 0 0 f 0 (nI k) = some (nI o)) ∨ ((∀ o, k ≤ o → o < m → s i o = 0) ∧ F_X5_termOf_29 s (nI m) (nI i) 0 0 f 0 (nI k) = some (-10000004)) := by
  intro d
  induction d with
  | zero =>
    intro k f hk hf0
    obtain ⟨f, rfl⟩ : ∃ g, f = g + 1 := ⟨f - 1, by omega⟩
    refine Or.inr ⟨fun o h1 h2 => absurd h2 (by omega), ?_⟩
    rw [E_X5_termOf_29, ifLe (by omega) (by omega) (by omega)]
  | succ d ih =>
    intro k f hk hf0
    obtain ⟨f, rfl⟩ : ∃ g, f = g + 1 := ⟨f - 1, by omega⟩
    rw [E_X5_termOf_29, ifNle (by omega) (by omega) (by omega), xgI hi (by omega), xgI (by omega) (by omega), nI_clamp (by omega), nI_clamp (by omega), nI_1]
    by_cases c : s i k = 0
    · rw [if_pos c]
      rcases ih (k + 1) f (by omega) (by omega) with ⟨o, h1, h2, h3, h4⟩ | ⟨h1, h2⟩
      · exact Or.inl ⟨o, by omega, h2, h3, h4⟩
      · refine Or.inr ⟨fun o h3 h4 => ?_, h2⟩
        rcases Nat.lt_or_eq_of_le h3 with q | q
        · exact h1 o q h4
        · rw [← q]; exact c
    · rw [if_neg c, if_pos rfl, if_pos rfl]
      exact Or.inl ⟨k, Nat.le_refl _, by omega, c, rfl⟩
theorem cntI_0 (f : Nat → Int32) : ∀ d i (c : Nat), c + d < 1000 → (∃ e, itr (fun o t => if f o = 0 then t else t + 1) d i (nI c) = nI (c + e) ∧ e ≤ d ∧ (e = 0 ↔ ∀ o, i ≤ o → o < i + d → f o = 0)) := by
  intro d
  induction d with
  | zero => intro i c _; exact ⟨0, rfl, Nat.le_refl _, fun _ o h1 h2 => absurd h2 (by omega), fun _ => rfl⟩
  | succ d ih =>
    intro i c hc
    show ∃ e, itr _ d (i + 1) (if f i = 0 then nI c else nI c + 1) = _ ∧ _
    by_cases h : f i = 0
    · rw [if_pos h]
      obtain ⟨e, h1, h2, h3⟩ := ih (i + 1) c (by omega)
      refine ⟨e, h1, by omega, fun q o h4 h5 => ?_, fun q => h3.mpr fun o h4 h5 => q o (by omega) (by omega)⟩
      rcases Nat.lt_or_eq_of_le h4 with q2 | q2
      · exact h3.mp q o q2 (by omega)
      · rw [← q2]; exact h
    · rw [if_neg h, nI_1]
      obtain ⟨e, h1, h2, h3⟩ := ih (i + 1) (c + 1) (by omega)
      refine ⟨e + 1, by rw [h1]; exact congrArg nI (by omega), by omega, fun q => absurd q (by omega), fun q => absurd (q i (Nat.le_refl _) (by omega)) h⟩
theorem ag_square (hS : RS n s al) (hT : TB n lm ls ll lp ln fn fm fs od op oi ov of_ ol om) (hL : LK laid l) (p1 : Int32) (made mm : Nat → Int64) :
    ∃ r made' mm' laid' wd' l', F_X5_square lp s fm om p1 made = some (r, made') ∧ F_X6_square al p1 laid wd l mm = some (r, laid', wd', l', mm') ∧ LK laid' l' := by
  have hn5 := hS.2.1
  have hf5 := fac_le hn5
  have hal := hS.2.2.1
  obtain ⟨hlm, hls, hll, hlp, hln, rfl, rfl, rfl, hT1, hof, hol, hom⟩ := hT
  unfold F_X5_square F_X6_square
  rw [m_isSum]
  rcases sum_c p1 with h | ⟨i, hi, rfl, h⟩
  · rw [bnd h, bnd h, if_pos rfl, if_pos rfl]
    exact ⟨_, _, _, _, _, _, rfl, rfl, hL⟩
  rw [bnd h, bnd h, if_neg n10, if_neg n10, xgI hi (by omega), bnd (x_makeProduct hn5 hlp hom hi hi s made), bnd (m_others hi)]
  have ec : cntI (fun o => al (4 + 120 * i + o)) 120 = cntI (s i) (fac n) := (cntI_ext hf5 (fun o ho => (hS.get hi (by omega)).symm) (fun o h1 h2 => by rw [hS.get hi h2]; exact hS.zero hi h2 h1)).symm
  obtain ⟨e, k1, k2, k3⟩ := cntI_0 (s i) (fac n) 0 0 (by omega)
  have ec2 : cntI (fun o => al (4 + 120 * i + o)) 120 = nI e := by rw [ec]; unfold cntI; exact k1.trans (by rw [Nat.zero_add])
  rw [ec2]
  have ht : F_X5_termOf s (nI (fac n)) (nI i) 0 0 = F_X5_termOf_29 s (nI (fac n)) (nI i) 0 0 xF 0 0 := by
    unfold F_X5_termOf
    rw [bnd h, if_neg n10, if_neg (by decide), bnd (show F_X5_isWithin 0 0 1 = some 1 from isW_t (by decide) (by decide)), if_neg n10]
  have ht2 : F_X6_termOf al (nI i) 0 0 = F_X5_termOf s (nI (fac n)) (nI i) 0 0 := by
    obtain ⟨r, r1, r2⟩ := ag_termOf hS (nI i) 0 0
    rw [r1, r2]
  rw [ht2, ht]
  rcases x_term0 (s := s) hi hf5 (fac n) 0 xF (by omega) (xF_ge (by omega)) with ⟨o, h1, h2, h3, h4⟩ | ⟨h1, h2⟩
  · have hne : ¬ e = 0 := fun q => h3 (k3.mp q o h1 (by omega))
    obtain ⟨laid', wd', l', m1, m2⟩ := m_multiplies (wd := wd) hS hL hi hi mm
    obtain ⟨q1, q2⟩ := prd_SM hn5 (s i) (s i) made mm
    have h4' : F_X5_termOf_29 s (nI (fac n)) (nI i) 0 0 xF 0 0 = some (nI o) := h4
    have hx0 : ¬ (s i o).toInt64 = 0 := fun q => h3 (w_inj.mp (q.trans (show (0 : Int64) = (0 : Int32).toInt64 from rfl)))
    rw [bnd h4', bnd (isOrder_t h2 hf5), if_neg n10, xgI (by omega) (by omega), nI_clamp (by omega), nI_clamp (by omega), if_neg h3, if_neg (nI_ne0 (by omega) (by omega)), bnd m1, bnd h4', xgI (by omega) (by omega), bnd (m_get hi (by omega)), hS.get hi (by omega), nI_clamp (by omega)]
    dsimp only
    unfold xdL
    rw [if_neg hx0, if_neg hx0, q1 o h2]
    generalize prd n (s i) (s i) (fun o => if o < fac n then 0 else made o) = A at *
    generalize prd n (s i) (s i) (fun o => if o < 120 then 0 else mm o) = B at *
    generalize A o / (s i o).toInt64 = x
    have hl : ∀ d k f, k + d = fac n → d < f → ∃ r, F_X5_square_64 s (nI (fac n)) (nI i) f x (nI k) A = some (r, A) ∧ F_X6_square_53 al (nI i) f x (nI k) laid' wd' l' B = some (r, laid', wd', l', B) := by
      intro d
      induction d with
      | zero =>
        intro k f hk hf0
        obtain ⟨f, rfl⟩ : ∃ g, f = g + 1 := ⟨f - 1, by omega⟩
        rw [E_X5_square_64, E_X6_square_53, bnd (m_orders hal hn5), ifLe (by omega) (by omega) (by omega), ifLe (by omega) (by omega) (by omega)]
        exact ⟨_, rfl, rfl⟩
      | succ d ih =>
        intro k f hk hf0
        obtain ⟨f, rfl⟩ : ∃ g, f = g + 1 := ⟨f - 1, by omega⟩
        rw [E_X5_square_64, E_X6_square_53, bnd (m_orders hal hn5), ifNle (by omega) (by omega) (by omega), ifNle (by omega) (by omega) (by omega), xgI (by omega) (by omega), xgI hi (by omega), xgI (by omega) (by omega), bnd (m_get hi (by omega)), hS.get hi (by omega), nI_clamp (by omega), nI_clamp (by omega), q1 k (by omega), nI_1]
        by_cases c : A k = x * (s i k).toInt64
        · rw [if_pos ((lgz _ _).mpr c), if_pos ((lgz _ _).mpr c)]
          exact ih (k + 1) f (by omega) (by omega)
        · rw [if_neg (fun q => c ((lgz _ _).mp q)), if_neg (fun q => c ((lgz _ _).mp q))]
          exact ⟨_, rfl, rfl⟩
    obtain ⟨r, r1, r2⟩ := hl (fac n) 0 xF (by omega) (xF_ge (by omega))
    exact ⟨_, _, _, _, _, _, r1, r2, m2⟩
  · have he : e = 0 := k3.mpr fun o h3 h4 => h1 o h3 (by omega)
    have h2' : F_X5_termOf_29 s (nI (fac n)) (nI i) 0 0 xF 0 0 = some (-10000004) := h2
    rw [bnd h2', bnd (isOrder_f (Or.inl (by decide)) hf5 (fac_pos hn5)), if_pos rfl, he, if_pos (show nI 0 = 0 from rfl)]
    exact ⟨_, _, _, _, _, _, rfl, rfl, hL⟩
end AH
