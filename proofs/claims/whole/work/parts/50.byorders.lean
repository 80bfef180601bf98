/-! the two answer alike: byOrders -/
def cnt (P : Nat → Bool) (d i c : Nat) : Nat := itr (fun v c => if P v then c + 1 else c) d i c
theorem cnt_le (P : Nat → Bool) : ∀ d i c, c ≤ cnt P d i c ∧ cnt P d i c ≤ c + d := by
  intro d
  induction d with
  | zero => intro i c; exact ⟨Nat.le_refl _, Nat.le_refl _⟩
  | succ d ih =>
    intro i c
    have h := ih (i + 1) (if P i then c + 1 else c)
    have e : cnt P (d + 1) i c = cnt P d (i + 1) (if P i then c + 1 else c) := rfl
    rw [e]
    by_cases q : P i
    · rw [if_pos q] at h ⊢; omega
    · rw [if_neg q] at h ⊢; omega
theorem cnt_list (P : Nat → Bool) (k : Nat → Nat) (Q : Nat → Bool) : ∀ d i c, (∀ v, i ≤ v → v < i + d → P v = Q (k v)) → cnt P d i c = c + ((List.range' i d).map k).countP Q := by
  intro d
  induction d with
  | zero => intro i c _; rfl
  | succ d ih =>
    intro i c h
    have e : cnt P (d + 1) i c = cnt P d (i + 1) (if P i then c + 1 else c) := rfl
    rw [e, ih (i + 1) _ (fun v h1 h2 => h v (by omega) (by omega)), List.range'_succ, List.map_cons, List.countP_cons, h i (Nat.le_refl _) (by omega)]
    by_cases q : Q (k i)
    · rw [if_pos q, if_pos q]; omega
    · rw [if_neg q, if_neg q]; omega
theorem cnt_no (P : Nat → Bool) : ∀ d i c, (∀ v, i ≤ v → v < i + d → P v = false) → cnt P d i c = c := by
  intro d
  induction d with
  | zero => intro i c _; rfl
  | succ d ih =>
    intro i c h
    have e : cnt P (d + 1) i c = cnt P d (i + 1) (if P i then c + 1 else c) := rfl
    rw [e, h i (Nat.le_refl _) (by omega), if_neg (by decide)]
    exact ih _ _ fun v h1 h2 => h v (by omega) (by omega)
theorem cnt_one (P Q : Nat → Bool) (v0 : Nat) : ∀ d i c, i ≤ v0 → v0 < i + d → (∀ v, i ≤ v → v < i + d → P v = (if v = v0 then Q v0 else false)) → cnt P d i c = if Q v0 then c + 1 else c := by
  intro d
  induction d with
  | zero => intro i c h1 h2; exact absurd h2 (by omega)
  | succ d ih =>
    intro i c h1 h2 h
    have e : cnt P (d + 1) i c = cnt P d (i + 1) (if P i then c + 1 else c) := rfl
    rw [e, h i (Nat.le_refl _) (by omega)]
    by_cases q : i = v0
    · rw [if_pos q]
      exact cnt_no _ _ _ _ fun v h3 h4 => by rw [h v (by omega) (by omega), if_neg (by omega)]
    · rw [if_neg q, if_neg (by decide)]
      exact ih _ _ (by omega) (by omega) fun v h3 h4 => h v (by omega) (by omega)
/-- in a wide class -/
def WD (n p o : Nat) : Bool := decide (nI (dq n o) &&& (nI p ^^^ (-1 : Int32)) = 0)
def WK (p q k : Nat) : Bool := decide (nI (k / 16) &&& (nI p ^^^ (-1 : Int32)) = 0) && decide (nI (k % 16) &&& (nI q ^^^ (-1 : Int32)) = 0)
def cX (n p q o : Nat) : Nat := cnt (fun v => WD n q v && WD n p (mu n o (vq n v))) (fac n) 0 0
def cM (n p q o : Nat) : Nat := itr (fun u c => cnt (fun v => WD n p u && WD n q v && decide (mu n u v = o)) (fac n) 0 c) (fac n) 0 0
theorem vq_lt {n : Nat} (hn : n ≤ 5) {u : Nat} (hu : u < fac n) : vq n u < fac n := by rw [(dq_ok n hn u hu).2]; exact (de_lt n hn u hu).2
theorem cM_cX {n p q t : Nat} (hn : n ≤ 5) (hn1 : 1 ≤ n) (ht : t < 2 ^ (n - 1)) : cM n p q (lq n t) = cX n p q (fq n t) := by
  have h16 := p16 hn
  obtain ⟨f1, f2, f3, f4⟩ := fq_ok n hn hn1 t ht
  have hl := f2
  have hf : fq n t < fac n := by omega
  have e1 : cM n p q (lq n t) = cnt (fun u => WD n p u && WD n q (mu n (vq n u) (lq n t))) (fac n) 0 0 := by
    unfold cM
    refine itr_congr _ _ _ fun u _ hu c => ?_
    have hu' : u < fac n := by omega
    have hv0 : mu n (vq n u) (lq n t) < fac n := mu_lt hn (vq_lt hn hu') hl
    rw [cnt_one (fun v => WD n p u && WD n q v && decide (mu n u v = lq n t)) (fun v => WD n p u && WD n q v) (mu n (vq n u) (lq n t)) (fac n) 0 c (Nat.zero_le _) (by omega) (fun v _ hv => by
      have hv' : v < fac n := by omega
      obtain ⟨m1, m2⟩ := mu_vi n hn u hu' v hv'
      obtain ⟨-, m4⟩ := mu_vi n hn u hu' (lq n t) hl
      by_cases c : v = mu n (vq n u) (lq n t)
      · rw [if_pos c, ← c]
        have : mu n u v = lq n t := by rw [c]; exact m4
        rw [decide_eq_true this, Bool.and_true]
      · rw [if_neg c]
        have : ¬ mu n u v = lq n t := fun z => c (by rw [← z, m1])
        rw [decide_eq_false this, Bool.and_false])]
  have hk : ∀ a b, b < 16 → WK p q (16 * a + b) = (decide (nI a &&& (nI p ^^^ (-1 : Int32)) = 0) && decide (nI b &&& (nI q ^^^ (-1 : Int32)) = 0)) := fun a b hb => by
    unfold WK
    rw [show (16 * a + b) / 16 = a by omega, show (16 * a + b) % 16 = b by omega]
  have hd : ∀ o, dq n o < 16 := fun o => Nat.mod_lt _ (by decide)
  have hperm := List.isPerm_iff.mp (K_ok n hn hn1 t ht)
  have e2 := cnt_list (fun u => WD n p u && WD n q (mu n (vq n u) (lq n t))) (fun u => 16 * dq n u + dq n (mu n (vq n u) (lq n t))) (WK p q) (fac n) 0 0 (fun v _ _ => by rw [hk _ _ (hd _)]; rfl)
  have e3 := cnt_list (fun v => WD n q v && WD n p (mu n (fq n t) (vq n v))) (fun v => 16 * dq n (mu n (fq n t) (vq n v)) + dq n v) (WK p q) (fac n) 0 0 (fun v _ _ => by rw [hk _ _ (hd _), Bool.and_comm]; rfl)
  rw [e1, e2]
  unfold cX
  rw [e3, ← List.range_eq_range']
  exact congrArg (0 + ·) (hperm.countP_eq _)
section AH
variable {n : Nat} {s : Nat → Nat → Int32} {al : Nat → Int32} {hm hx : Int32} {hl : Nat → Int32} {hf : Nat → Nat → Int32} {hlong : Int32} {mh : Nat → Int32}
variable {lm ls ll lp ln : Nat} {fn fm fs : Int32} {od op oi ov of_ ol om : Nat → Int32} {laid : Int32} {wd l : Nat → Int32}
theorem x_isInWide (hn : n ≤ 5) (hlm : lm = fac n) (hod : ∀ o, o < fac n → od o = nI (de n o)) {o : Nat} (ho : o < fac n) (p : Nat) : F_X1_isInWideClass lm od (nI o) (nI p) = some (bI (WD n p o)) := by
  have hf5 := fac_le hn
  unfold F_X1_isInWideClass WD
  rw [xgI (by omega) (by omega), nI_clamp (by omega), hod o ho, (dq_ok n hn o ho).1]
  by_cases c : nI (de n o) &&& (nI p ^^^ (-1 : Int32)) = 0
  · rw [if_pos c, decide_eq_true c]; rfl
  · rw [if_neg c, decide_eq_false c]; rfl
theorem m_isInWide (hal : al 0 = nI n) (hn : n ≤ 5) (hn1 : 1 ≤ n) {laid : Int32} {wd l : Nat → Int32} (hL : LK laid l) {o : Nat} (ho : o < fac n) (p : Nat) :
    ∃ laid' wd' l', F_X6_isInClass al (nI o) (nI p) 1 laid wd l = some (bI (WD n p o), laid', wd', l') ∧ LK laid' l' := by
  obtain ⟨d1, w1, l1, f1, f2⟩ := m_isInClass (wd := wd) hal hn hn1 hL ho (nI p) 1
  refine ⟨d1, w1, l1, ?_, f2⟩
  rw [f1]
  unfold inC WD
  rw [if_neg n10, (dq_ok n hn o ho).1]
theorem x_timesInProduct (hn : n ≤ 5) (hlm : lm = fac n) (hlp : lp = fac n * fac n) (hod : ∀ o, o < fac n → od o = nI (de n o)) (hov : ∀ o, o < fac n → ov o = nI (vi n o)) (hom : ∀ a b, a < fac n → b < fac n → om (a * fac n + b) = nI (mu n a b)) {o : Nat} (ho : o < fac n) (p q : Nat) :
    F_X5_timesInProduct lm lp (nI (fac n)) od ov om (nI p) (nI q) (nI o) = some (nI (cX n p q o)) := by
  have hf5 := fac_le hn
  have h := loopN (fun f v c => F_X5_timesInProduct_6 lm lp (nI (fac n)) od ov om (nI p) (nI q) (nI o) f (nI c) (nI v)) (fac n) (fun c => some (nI c)) (fun v c => if WD n q v && WD n p (mu n o (vq n v)) then c + 1 else c)
    (fun f c => by show F_X5_timesInProduct_6 _ _ _ _ _ _ _ _ _ _ _ _ = _; rw [E_X5_timesInProduct_6, ifLe (by omega) (by omega) (by omega)])
    (fun f v c hv => by
      have hvq := vq_lt hn hv
      show F_X5_timesInProduct_6 _ _ _ _ _ _ _ _ _ _ _ _ = F_X5_timesInProduct_6 _ _ _ _ _ _ _ _ _ _ _ _
      rw [E_X5_timesInProduct_6, ifNle (by omega) (by omega) (by omega), bnd (x_isInWide hn hlm hod hv q), xgI (by omega) (by omega), nI_clamp (by omega), hov v hv, ← (dq_ok n hn v hv).2, bnd (x_times hn hlp ho hvq om), hom o _ ho hvq, bnd (x_isInWide hn hlm hod (mu_lt hn ho hvq) p), nI_1, nI_1]
      cases WD n q v
      · rw [if_pos (show bI false = 0 from rfl), Bool.false_and, if_neg (by decide)]
      · rw [if_neg (show ¬ bI true = 0 by decide), Bool.true_and]
        cases WD n p (mu n o (vq n v))
        · rw [if_pos (show bI false = 0 from rfl), if_neg (by decide)]
        · rw [if_neg (show ¬ bI true = 0 by decide), if_pos rfl]) (fac n) 0 0 xF (by omega) (xF_ge (by omega))
  exact h
theorem x_byOrders30 (hn : n ≤ 5) (hn1 : 1 ≤ n) (hlm : lm = fac n) (hls : ls = 2 ^ (n - 1)) (hlp : lp = fac n * fac n) (hod : ∀ o, o < fac n → od o = nI (de n o)) (hov : ∀ o, o < fac n → ov o = nI (vi n o)) (hof : ∀ t, of_ t = nI (fi n t)) (hom : ∀ a b, a < fac n → b < fac n → om (a * fac n + b) = nI (mu n a b)) {p q r : Nat} (hr : r < 2 ^ (n - 1)) (pcl : Nat → Int64) :
    ∃ pcl', F_X5_byOrders_30 lm ls lp (nI (fac n)) (nI (2 ^ (n - 1))) od ov of_ om (nI p) (nI q) (nI r) xF 0 pcl = some (wf n (fun t => (nI (cX n p q (fq n t))).toInt64) r, pcl') := by
  have h16 := p16 hn
  have hf5 := fac_le hn
  obtain ⟨t', h, h1⟩ := loopE (fun f t (_ : Unit) (v : Nat → Int64) => F_X5_byOrders_30 lm ls lp (nI (fac n)) (nI (2 ^ (n - 1))) od ov of_ om (nI p) (nI q) (nI r) f (nI t) v) (fun k v => ∀ t, t < k → v t = (nI (cX n p q (fq n t))).toInt64) (2 ^ (n - 1)) (fun _ v => (F_X5_wideFactor v (nI (2 ^ (n - 1))) (nI r)).bind fun q2 => some (q2, v)) (fun _ q => q)
    (fun f x v _ => by
      show F_X5_byOrders_30 _ _ _ _ _ _ _ _ _ _ _ _ _ _ _ = _
      rw [E_X5_byOrders_30, ifLe (by omega) (by omega) (by omega)])
    (fun f t x v ht hI => by
      have h1 := (fi_f hn hn1 ht).1
      refine ⟨vp_updL v t (nI (cX n p q (fq n t))).toInt64, ?_, fun j hj => ?_⟩
      · show F_X5_byOrders_30 _ _ _ _ _ _ _ _ _ _ _ _ _ _ _ = F_X5_byOrders_30 _ _ _ _ _ _ _ _ _ _ _ _ _ _ _
        rw [E_X5_byOrders_30, ifNle (by omega) (by omega) (by omega), xgI (by omega) (by omega), nI_clamp (by omega), hof, bnd (x_timesInProduct hn hlm hlp hod hov hom h1 p q), xgI (by omega) (by omega), nI_1, (fq_ok n hn hn1 t ht).1]
      · show vp_updL v t _ j = _
        unfold vp_updL
        by_cases c : j = t
        · rw [if_pos c, c]
        · rw [if_neg c]; exact hI j (by omega)) (2 ^ (n - 1)) 0 () pcl xF (by omega) (xF_ge (by omega)) (fun t ht => absurd ht (by omega))
  rw [bnd (x_wideFactor hn t' hr), wf_congr h1] at h
  exact ⟨t', h⟩
theorem lN1 {c : Nat} (h : c < 100000) : (nI c).toInt64 + 1 = (nI (c + 1)).toInt64 := by
  apply Int64.toInt_inj.mp
  rw [Int64.toInt_add, Int32.toInt_toInt64, Int32.toInt_toInt64, nI_toInt (by omega), nI_toInt (by omega), show (1 : Int64).toInt = 1 from rfl]
  exact (Int.bmod_eq_of_le (by omega) (by omega)).trans (by omega)
/-- the model's counts so far -/
def MC (n p q u v : Nat) (mm : Nat → Int64) : Prop := ∀ o, o < fac n → mm o = (nI (cnt (fun v => WD n p u && WD n q v && decide (mu n u v = o)) v 0 (itr (fun u c => cnt (fun v => WD n p u && WD n q v && decide (mu n u v = o)) (fac n) 0 c) u 0 0))).toInt64
theorem cnt_s (P : Nat → Bool) (v c : Nat) : cnt P (v + 1) 0 c = if P v then cnt P v 0 c + 1 else cnt P v 0 c := by
  unfold cnt
  rw [itr_add _ v 1 0 c, Nat.zero_add]
  rfl
theorem cMb (n p q o : Nat) : ∀ u, itr (fun u c => cnt (fun v => WD n p u && WD n q v && decide (mu n u v = o)) (fac n) 0 c) u 0 0 ≤ u * fac n := by
  intro u
  induction u with
  | zero => exact Nat.le_of_eq (by rw [Nat.zero_mul]; rfl)
  | succ u ih =>
    rw [itr_add _ u 1 0 0, Nat.zero_add]
    have h := (cnt_le (fun v => WD n p u && WD n q v && decide (mu n u v = o)) (fac n) 0 (itr (fun u c => cnt (fun v => WD n p u && WD n q v && decide (mu n u v = o)) (fac n) 0 c) u 0 0)).2
    rw [Nat.succ_mul]
    exact Nat.le_trans h (Nat.add_le_add_right ih _)
theorem MC.next {p q u : Nat} {mm : Nat → Int64} (h : MC n p q u (fac n) mm) : MC n p q (u + 1) 0 mm := fun o ho => by
  rw [h o ho, itr_add _ u 1 0 0, Nat.zero_add]
  rfl
abbrev BT : Type := MT × (Nat → Int64)
theorem m_byOrders46 (hal : al 0 = nI n) (hn : n ≤ 5) (hn1 : 1 ≤ n) {p q u : Nat} (hu : u < fac n) (κ : Int32 → Int32 → (Nat → Int32) → (Nat → Int32) → (Nat → Int64) → (Nat → Int64) → (Nat → Int32) → Option (Int32 × Int32 × (Nat → Int32) × (Nat → Int32) × (Nat → Int64) × (Nat → Int64) × (Nat → Int32))) (bd : Nat → Int64) (il : Nat → Int32) (t : BT) (hL : LK t.1.1 t.1.2.2) (hM : MC n p q u 0 t.2) :
    ∃ t' : BT, F_X6_byOrders_46 al (nI p) (nI q) κ xF (nI u) 0 t.1.1 t.1.2.1 t.1.2.2 t.2 bd il = κ (nI (u + 1)) t'.1.1 t'.1.2.1 t'.1.2.2 t'.2 bd il ∧ LK t'.1.1 t'.1.2.2 ∧ MC n p q (u + 1) 0 t'.2 := by
  have hf5 := fac_le hn
  have hf0 := fac_pos hn
  by_cases c0 : WD n p u = true
  · obtain ⟨t', h, h1, h2⟩ := loopE (fun f v (_ : Unit) (t : BT) => F_X6_byOrders_46 al (nI p) (nI q) κ f (nI u) (nI v) t.1.1 t.1.2.1 t.1.2.2 t.2 bd il) (fun v t => LK t.1.1 t.1.2.2 ∧ MC n p q u v t.2) (fac n) (fun _ t => κ (nI (u + 1)) t.1.1 t.1.2.1 t.1.2.2 t.2 bd il) (fun _ x => x)
      (fun f x t _ => by show F_X6_byOrders_46 _ _ _ _ _ _ _ _ _ _ _ _ _ = _; rw [E_X6_byOrders_46, bnd (m_orders hal hn), ifLe (by omega) (by omega) (by omega), nI_1])
      (fun f v x t hv ⟨hI, hM⟩ => by
        obtain ⟨d1, w1, l1, f1, f2⟩ := m_isInWide (wd := t.1.2.1) hal hn hn1 hI hu p
        obtain ⟨d2, w2, l2, g1, g2⟩ := m_isInWide (wd := w1) hal hn hn1 f2 hv q
        cases c1 : WD n q v
        · refine ⟨((d2, w2, l2), t.2), ?_, g2, fun o ho => ?_⟩
          · show F_X6_byOrders_46 _ _ _ _ _ _ _ _ _ _ _ _ _ = F_X6_byOrders_46 _ _ _ _ _ _ _ _ _ _ _ _ _
            rw [E_X6_byOrders_46, bnd (m_orders hal hn), ifNle (by omega) (by omega) (by omega), bnd f1]
            dsimp only
            rw [c0, if_neg (show ¬ bI true = 0 by decide), bnd g1]
            dsimp only
            rw [c1, if_pos (show bI false = 0 from rfl), nI_1]
          · show t.2 o = _
            rw [hM o ho, cnt_s, c1, Bool.and_false, Bool.false_and, if_neg (by decide)]
        · obtain ⟨d3, w3, l3, k1, k2⟩ := m_productOf (wd := w2) hal hn g2 hu hv
          have hm := mu_lt hn hu hv
          refine ⟨((d3, w3, l3), vp_updL t.2 (mu n u v) (t.2 (mu n u v) + 1)), ?_, k2, fun o ho => ?_⟩
          · show F_X6_byOrders_46 _ _ _ _ _ _ _ _ _ _ _ _ _ = F_X6_byOrders_46 _ _ _ _ _ _ _ _ _ _ _ _ _
            rw [E_X6_byOrders_46, bnd (m_orders hal hn), ifNle (by omega) (by omega) (by omega), bnd f1]
            dsimp only
            rw [c0, if_neg (show ¬ bI true = 0 by decide), bnd g1]
            dsimp only
            rw [c1, if_neg (show ¬ bI true = 0 by decide), bnd k1]
            dsimp only
            rw [xgI (by omega) (by omega), nI_clamp (by omega), nI_1]
          · show vp_updL t.2 (mu n u v) _ o = _
            rw [cnt_s]
            unfold vp_updL
            by_cases c2 : o = mu n u v
            · have hb := cMb n p q o u
              have hb2 := (cnt_le (fun v => WD n p u && WD n q v && decide (mu n u v = o)) v 0 (itr (fun u c => cnt (fun v => WD n p u && WD n q v && decide (mu n u v = o)) (fac n) 0 c) u 0 0)).2
              have hb3 : u * fac n ≤ 120 * 120 := Nat.mul_le_mul (by omega) hf5
              rw [if_pos c2, if_pos (show (WD n p u && WD n q v && decide (mu n u v = o)) = true by rw [c0, c1, decide_eq_true c2.symm]; rfl), show t.2 (mu n u v) = t.2 o by rw [c2], hM o ho, lN1 (by omega)]
            · rw [if_neg c2, if_neg (show ¬ (WD n p u && WD n q v && decide (mu n u v = o)) = true by rw [decide_eq_false (fun z => c2 z.symm), Bool.and_false]; decide), hM o ho]) (fac n) 0 () t xF (by omega) (xF_ge (by omega)) ⟨hL, hM⟩
    exact ⟨t', h, h1, h2.next⟩
  · have c0' : WD n p u = false := by cases h : WD n p u; · rfl
                                      · exact absurd h c0
    obtain ⟨d1, w1, l1, f1, f2⟩ := m_isInWide (wd := t.1.2.1) hal hn hn1 hL hu p
    refine ⟨((d1, w1, l1), t.2), ?_, f2, MC.next fun o ho => ?_⟩
    · obtain ⟨f, hf⟩ : ∃ f, xF = f + 1 := ⟨xF - 1, rfl⟩
      rw [hf, E_X6_byOrders_46, bnd (m_orders hal hn), i0, ifNle (by omega) (by omega) (by omega), bnd f1]
      dsimp only
      rw [c0', if_pos (show bI false = nI 0 from rfl), nI_1]
    · show t.2 o = _
      rw [hM o ho, cnt_no (fun v => WD n p u && WD n q v && decide (mu n u v = o)) (fac n) 0 _ (fun v _ _ => by rw [c0', Bool.false_and, Bool.false_and])]
      rfl
theorem m_byOrders34 (hal : al 0 = nI n) (hn : n ≤ 5) (hn1 : 1 ≤ n) {p q r : Nat} (hr : r < 2 ^ (n - 1)) (hL : LK laid l) (mm bd : Nat → Int64) (il : Nat → Int32) (hz : ∀ o, o < fac n → mm o = 0) :
    ∃ laid' wd' l' mm' bd' il', F_X6_byOrders_34 al (nI p) (nI q) (nI r) xF 0 laid wd l mm bd il = some (wf n (fun t => (nI (cX n p q (fq n t))).toInt64) r, laid', wd', l', mm', bd', il') ∧ LK laid' l' := by
  have hf5 := fac_le hn
  obtain ⟨t', h, h1, h2⟩ := loopE (fun f u (_ : Unit) (t : BT) => F_X6_byOrders_34 al (nI p) (nI q) (nI r) f (nI u) t.1.1 t.1.2.1 t.1.2.2 t.2 bd il) (fun u t => LK t.1.1 t.1.2.2 ∧ MC n p q u 0 t.2) (fac n) (fun _ t => (F_X6_goesByDescents al t.2 t.1.1 t.1.2.1 t.1.2.2 bd il).bind fun q3 => (F_X6_wideFactor al q3.2.2.2.2.1 (nI r)).bind fun q4 => some (q4, q3.2.1, q3.2.2.1, q3.2.2.2.1, t.2, q3.2.2.2.2.1, q3.2.2.2.2.2)) (fun _ x => x)
    (fun f x t _ => by show F_X6_byOrders_34 _ _ _ _ _ _ _ _ _ _ _ _ = _; rw [E_X6_byOrders_34, bnd (m_orders hal hn), ifLe (by omega) (by omega) (by omega)])
    (fun f u x t hu ⟨hI, hM⟩ => by
      obtain ⟨t', e1, e2, e3⟩ := m_byOrders46 hal hn hn1 hu (F_X6_byOrders_34 al (nI p) (nI q) (nI r) f) bd il t hI hM
      refine ⟨t', ?_, e2, e3⟩
      show F_X6_byOrders_34 _ _ _ _ _ _ _ _ _ _ _ _ = F_X6_byOrders_34 _ _ _ _ _ _ _ _ _ _ _ _
      rw [E_X6_byOrders_34, bnd (m_orders hal hn), ifNle (by omega) (by omega) (by omega)]
      exact e1) (fac n) 0 () ((laid, wd, l), mm) xF (by omega) (xF_ge (by omega)) ⟨hL, fun o ho => hz o ho⟩
  obtain ⟨laid', wd', l', bd', il', k1, k2, k3⟩ := m_gbd (wd := t'.1.2.1) hal hn hn1 h1 t'.2 bd il
  rw [bnd k1] at h
  dsimp only at h
  have hbd : ∀ t, t < 2 ^ (n - 1) → bd' t = (nI (cX n p q (fq n t))).toInt64 := fun t ht => by
    rw [k3 t ht, h2 _ (fq_ok n hn hn1 t ht).2.1, ← cM_cX hn hn1 ht]
    rfl
  rw [bnd (m_wideFactor hal hn hn1 bd' hr), wf_congr hbd] at h
  exact ⟨_, _, _, _, _, _, h, k2⟩
theorem ag_byOrders (hS : RS n s al) (hT : TB n lm ls ll lp ln fn fm fs od op oi ov of_ ol om) (hL : LK laid l) (p1 p2 p3 : Int32) (pcl mm bd : Nat → Int64) (il : Nat → Int32) :
    ∃ r pcl' laid' wd' l' mm' bd' il', F_X5_byOrders lm ls lp fm fs od ov of_ om p1 p2 p3 pcl = some (r, pcl') ∧ F_X6_byOrders al p1 p2 p3 laid wd l mm bd il = some (r, laid', wd', l', mm', bd', il') ∧ LK laid' l' := by
  have hn5 := hS.2.1
  have hn1 := hS.1
  have hf5 := fac_le hn5
  have hal := hS.2.2.1
  obtain ⟨hlm, hls, hll, hlp, hln, rfl, rfl, rfl, hT1, hof, hol, hom⟩ := hT
  unfold F_X5_byOrders F_X6_byOrders
  rw [m_isSet hal hn5 hn1, m_isSet hal hn5 hn1, m_isSet hal hn5 hn1]
  rcases set_c hn5 p1 with h | ⟨p, hp, rfl, h⟩
  · rw [bnd h, bnd h, if_pos rfl, if_pos rfl]
    exact ⟨_, _, _, _, _, _, _, _, rfl, rfl, hL⟩
  rw [bnd h, bnd h, if_neg n10, if_neg n10]
  rcases set_c hn5 p2 with h | ⟨q, hq, rfl, h⟩
  · rw [bnd h, bnd h, if_pos rfl, if_pos rfl]
    exact ⟨_, _, _, _, _, _, _, _, rfl, rfl, hL⟩
  rw [bnd h, bnd h, if_neg n10, if_neg n10]
  rcases set_c hn5 p3 with h | ⟨r, hr, rfl, h⟩
  · rw [bnd h, bnd h, if_pos rfl, if_pos rfl]
    exact ⟨_, _, _, _, _, _, _, _, rfl, rfl, hL⟩
  obtain ⟨pcl', e1⟩ := x_byOrders30 hn5 hn1 hlm hls hlp (fun o ho => (hT1 o ho).1) (fun o ho => (hT1 o ho).2.2.2) hof hom (p := p) (q := q) hr pcl
  obtain ⟨laid', wd', l', mm', bd', il', k1, k2⟩ := m_byOrders34 (wd := wd) hal hn5 hn1 (p := p) (q := q) hr hL (fun j => if j < 120 then 0 else mm j) bd il (fun o ho => if_pos (by omega))
  rw [bnd h, bnd h, if_neg n10, if_neg n10, e1, bnd (m_empties mm), k1]
  exact ⟨_, _, _, _, _, _, _, _, rfl, rfl, k2⟩
end AH
