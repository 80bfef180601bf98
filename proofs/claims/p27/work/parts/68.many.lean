/-! the law's own methods: areAsMany (by program: wip/p27/gen/gen67.py) -/
def wdN (n p o : Nat) : Bool := Nat.beq (Nat.land (dq n o) p) (dq n o)
theorem wd_16 : ∀ d, d < 16 → ∀ p, p < 16 → decide (nI d &&& (nI p ^^^ (-1 : Int32)) = 0) = Nat.beq (Nat.land d p) d := by decide +kernel
theorem WD_N {n p : Nat} (hp : p < 16) (o : Nat) : WD n p o = wdN n p o := wd_16 _ (Nat.mod_lt _ (by decide)) p hp
def cN (n p q o : Nat) : Nat := cnt (fun v => wdN n q v && wdN n p (mu n o (vq n v))) (fac n) 0 0
theorem cX_N {n p q : Nat} (hp : p < 16) (hq : q < 16) (o : Nat) : cX n p q o = cN n p q o := by
  unfold cX cN cnt
  exact itr_congr _ _ _ fun v _ _ c => by
    show (if (WD n q v && WD n p (mu n o (vq n v))) = true then c + 1 else c) = (if (wdN n q v && wdN n p (mu n o (vq n v))) = true then c + 1 else c)
    rw [WD_N hq, WD_N hp]
def wfZ (g : Nat → Int) (r t : Nat) (x : Int) : Int := if t &&& r = r then (if bc t r % 2 = 1 then x + -(g t) else x + g t) else x
def wfN (n : Nat) (g : Nat → Int) (r : Nat) : Int := itr (wfZ g r) (2 ^ (n - 1)) 0 0
theorem wf_int {n r k : Nat} {g : Nat → Int64} {G : Nat → Int} (hg : ∀ t, g t = Int64.ofInt (G t)) (h : wfN n G r = k) (hk : k < 1000) : wf n g r = nI k := by
  have h1 := itr_rel (fun (x : Int64) (z : Int) => x = Int64.ofInt z) (f := wfS g r) (g := wfZ G r) (2 ^ (n - 1)) 0 0 0 (fun t x z _ _ hx => by
    show wfS g r t x = Int64.ofInt (wfZ G r t z)
    unfold wfS wfZ
    by_cases c : t &&& r = r
    · rw [if_pos c, if_pos c]
      by_cases c2 : bc t r % 2 = 1
      · rw [if_pos c2, if_pos c2, hx, hg, Int64.ofInt_add, Int64.ofInt_neg]
      · rw [if_neg c2, if_neg c2, hx, hg, Int64.ofInt_add]
    · rw [if_neg c, if_neg c]
      exact hx) rfl
  have h2 : wfN n G r = itr (wfZ G r) (2 ^ (n - 1)) 0 0 := rfl
  refine Int32.toInt_inj.mp ?_
  unfold wf
  rw [h1, ← h2, h, Int64.toInt_toInt32, Int64.toInt_ofInt_of_le (by omega) (by omega), nI_toInt (by omega)]
  exact Int.bmod_eq_of_le (by omega) (by omega)
/-- how many tables tell r -/
def ct (L : List Nat) (r : Nat) : Nat := L.countP fun c => Nat.beq c r
def cs (L : List Nat) (m : Nat) : Nat := itr (fun r a => a + ct L r) m 0 0
def okr (n p q : Nat) (L : List Nat) : Nat → Bool
  | 0 => true
  | r + 1 => okr n p q L r && decide (wfN n (fun t => (cN n p q (fq n t) : Int)) r = (ct L r : Int)) && (Nat.beq (ct L r) 0 || Nat.beq (Nat.land r q) q)
def tabQ (n p q : Nat) : Bool := match tabs n p q, tabs n q p, tabs n p 0, tabs n 0 q with
  | some L, some L2, some L3, some L4 => Nat.beq L.length L2.length && Nat.beq L3.length 1 && Nat.beq (ct L3 p) 1 && Nat.beq (ct L4 q) 1 && okr n p q L (2 ^ (n - 1)) && Nat.beq (cs L (2 ^ (n - 1))) L.length && decide (L.length < 1000) && L.all (fun c => Nat.blt c 1000) && L3.all (fun c => Nat.blt c 1000) && L4.all (fun c => Nat.blt c 1000)
  | _, _, _, _ => false
theorem tab_q2 : ∀ p, p < 2 → ∀ q, q < 2 → tabQ 2 p q = true := by decide +kernel
theorem tab_q3 : ∀ p, p < 4 → ∀ q, q < 4 → tabQ 3 p q = true := by decide +kernel
theorem tab_q4 : ∀ p, p < 8 → ∀ q, q < 8 → tabQ 4 p q = true := by decide +kernel
theorem okr_at {n p q : Nat} {L : List Nat} : ∀ m, okr n p q L m = true → ∀ r, r < m → wfN n (fun t => (cN n p q (fq n t) : Int)) r = (ct L r : Int) ∧ (ct L r = 0 ∨ Nat.land r q = q) := by
  intro m
  induction m with
  | zero => intro _ r hr; exact absurd hr (by omega)
  | succ m ih =>
    intro h r hr
    unfold okr at h
    rw [Bool.and_eq_true, Bool.and_eq_true, Bool.or_eq_true] at h
    obtain ⟨⟨h1, h2⟩, h3⟩ := h
    by_cases c : r = m
    · subst c
      exact ⟨of_decide_eq_true h2, h3.imp Nat.eq_of_beq_eq_true Nat.eq_of_beq_eq_true⟩
    · exact ih h1 r (by omega)
theorem ct_le (L : List Nat) (r : Nat) : ct L r ≤ L.length := List.countP_le_length
theorem mt_all (L : List Nat) : L.countP (mt (-1)) = L.length := List.countP_eq_length.mpr fun c _ => decide_eq_true (Or.inl rfl)
theorem mt_one {L : List Nat} (hL : L.all (fun c => Nat.blt c 1000) = true) {r : Nat} (hr : r < 1000) : L.countP (mt (nI r)) = ct L r := by
  unfold ct
  refine List.countP_congr fun c hc => ?_
  have h1 : c < 1000 := Nat.le_of_ble_eq_true (List.all_eq_true.mp hL c hc)
  unfold mt
  constructor
  · intro h
    rcases of_decide_eq_true h with q | q
    · exact absurd (by rw [q]; decide : nI r < 0) (nI_pos (by omega))
    · exact beq_t ((nI_eq (by omega) (by omega)).mp q).symm
  · intro h
    have := Nat.eq_of_beq_eq_true h
    exact decide_eq_true (Or.inr (by rw [this]))
section AM
variable {n : Nat} {od ov of_ om : Nat → Int32}
theorem x_tell (hn : n ≤ 4) (hn1 : 1 ≤ n) {p q : Nat} (hp : p < 2 ^ (n - 1)) (hq : q < 2 ^ (n - 1)) {L : List Nat} (hL : tabs n p q = some L) (w : Int32) (a b c d : Int32) (tr tc : Nat → Int32) :
    ∃ a' b' c' d' tr' tc', F_X3_tell (nI n) (nI p) (nI q) w a b c d tr tc = some (nI (L.countP (mt w)), a', b', c', d', tr', tc') := by
  have hn5 : n ≤ 5 := by omega
  have h16 := p16 hn5
  obtain ⟨k1, k2⟩ := cm_ok n hn5 hn1 p (by omega)
  obtain ⟨k3, k4⟩ := cm_ok n hn5 hn1 q (by omega)
  obtain ⟨tc', f1, f2⟩ := x_cut (s := p) hn5 hn1 (by omega) n 0 xF tc (by omega) (xF_ge (by omega)) (fun i hi => absurd (show i < 0 from hi) (by omega))
  obtain ⟨tr', g1, g2⟩ := x_cut (s := q) hn5 hn1 (by omega) n 0 xF tr (by omega) (xF_ge (by omega)) (fun i hi => absurd (show i < 0 from hi) (by omega))
  have f1' : F_X3_cut 5 (nI n) (nI p) tc = some (nI (cm n p), tc') := f1
  have g1' : F_X3_cut 5 (nI n) (nI q) tr = some (nI (cm n q), tr') := g1
  have hw := x_ways hn5 k2 k4 w 40 0 0 0 0 (cp n q) (cp n p) L tr' tc' hL (by omega) (by omega) (by omega) g2 f2
  have hw' : F_X3_ways (nI n) (nI (cm n p)) (nI (cm n q)) w 40 (0 : Int32) (0 : Int32) (0 : Int32) (0 : Int32) tr' tc' = some (nI (L.countP (mt w)), tr', tc') := hw
  unfold F_X3_tell
  rw [bnd f1', bnd g1']
  dsimp only
  rw [bnd hw']
  exact ⟨_, _, _, _, _, _, rfl⟩
theorem x_byT (hn : n ≤ 4) (hn1 : 1 ≤ n) {p q : Nat} (hp : p < 2 ^ (n - 1)) (hq : q < 2 ^ (n - 1)) {L : List Nat} (hL : tabs n p q = some L) {w : Int32} (hw : w = -1 ∨ ∃ r, r < 2 ^ (n - 1) ∧ w = nI r) (a b c d : Int32) (tr tc : Nat → Int32) :
    ∃ a' b' c' d' tr' tc', F_X5_byTables (nI n) (nI (2 ^ (n - 1))) (nI p) (nI q) w a b c d tr tc = some (nI (L.countP (mt w)), a', b', c', d', tr', tc') := by
  have hn5 : n ≤ 5 := by omega
  obtain ⟨a', b', c', d', tr', tc', e⟩ := x_tell hn hn1 hp hq hL w a b c d tr tc
  unfold F_X5_byTables
  rw [bnd (isSet_t hn5 hp), if_neg n10, bnd (isSet_t hn5 hq), if_neg n10]
  have e2 : F_X5_byTables_32 (nI n) (nI p) (nI q) w a b c d tr tc = some (nI (L.countP (mt w)), a', b', c', d', tr', tc') := by
    unfold F_X5_byTables_32
    rw [bnd e]
  by_cases h1 : w = -1
  · rw [if_pos h1, e2]
    exact ⟨_, _, _, _, _, _, rfl⟩
  · rcases hw with h | ⟨r, hr, rfl⟩
    · exact absurd h h1
    · rw [if_neg h1, bnd (isSet_t hn5 hr), if_neg n10, e2]
      exact ⟨_, _, _, _, _, _, rfl⟩
theorem x_byO (hn : n ≤ 4) (hn1 : 1 ≤ n) (hod : ∀ o, o < fac n → od o = nI (de n o)) (hov : ∀ o, o < fac n → ov o = nI (vi n o)) (hof : ∀ t, of_ t = nI (fi n t)) (hom : ∀ a b, a < fac n → b < fac n → om (a * fac n + b) = nI (mu n a b)) {p q r k : Nat} (hp : p < 2 ^ (n - 1)) (hq : q < 2 ^ (n - 1)) (hr : r < 2 ^ (n - 1)) (h : wfN n (fun t => (cN n p q (fq n t) : Int)) r = (k : Int)) (hk : k < 1000) (pcl : Nat → Int64) :
    ∃ pcl', F_X5_byOrders (fac n) (2 ^ (n - 1)) (fac n * fac n) (nI (fac n)) (nI (2 ^ (n - 1))) od ov of_ om (nI p) (nI q) (nI r) pcl = some (nI k, pcl') := by
  have hn5 : n ≤ 5 := by omega
  have h16 := p16 hn5
  obtain ⟨pcl', e⟩ := x_byOrders30 (p := p) (q := q) hn5 hn1 rfl rfl rfl hod hov hof hom hr pcl
  have hb : ∀ t, cN n p q (fq n t) ≤ 120 := fun t => Nat.le_trans (cnt_le _ (fac n) 0 0).2 (by have := fac_le hn5; omega)
  have hwf : wf n (fun t => (nI (cX n p q (fq n t))).toInt64) r = nI k := wf_int (G := fun t => (cN n p q (fq n t) : Int)) (fun t => by
    show (nI (cX n p q (fq n t))).toInt64 = Int64.ofInt (cN n p q (fq n t) : Int)
    rw [cX_N (by omega) (by omega), ← Int64.ofInt_int32ToInt, nI_toInt (by have := hb t; omega)]) h hk
  rw [hwf] at e
  unfold F_X5_byOrders
  rw [bnd (isSet_t hn5 hp), if_neg n10, bnd (isSet_t hn5 hq), if_neg n10, bnd (isSet_t hn5 hr), if_neg n10]
  exact ⟨pcl', e⟩
theorem l_many (hn : n ≤ 4) (hn1 : 2 ≤ n) (hod : ∀ o, o < fac n → od o = nI (de n o)) (hov : ∀ o, o < fac n → ov o = nI (vi n o)) (hof : ∀ t, of_ t = nI (fi n t)) (hom : ∀ a b, a < fac n → b < fac n → om (a * fac n + b) = nI (mu n a b)) {p q : Nat} (hp : p < 2 ^ (n - 1)) (hq : q < 2 ^ (n - 1)) (hm tl : Int32) (pcl : Nat → Int64) (a b c d : Int32) (tr tc : Nat → Int32) :
    ∃ pcl' a' b' c' d' tr' tc', F_L_areAsMany (fac n) (2 ^ (n - 1)) (fac n * fac n) hm tl (nI n) (nI (fac n)) (nI (2 ^ (n - 1))) od ov of_ om (nI p) (nI q) pcl a b c d tr tc = some (1, pcl', a', b', c', d', tr', tc') := by
  have hn5 : n ≤ 5 := by omega
  have h1 : 1 ≤ n := by omega
  have h16 := p16 hn5
  have h0 : 0 < 2 ^ (n - 1) := Nat.two_pow_pos _
  have hT : tabQ n p q = true := by
    rcases (show n = 2 ∨ n = 3 ∨ n = 4 by omega) with rfl | rfl | rfl
    · exact tab_q2 p hp q hq
    · exact tab_q3 p hp q hq
    · exact tab_q4 p hp q hq
  unfold tabQ at hT
  cases hL : tabs n p q with
  | none => rw [hL] at hT; cases hT
  | some L =>
    cases hL2 : tabs n q p with
    | none => rw [hL, hL2] at hT; cases hT
    | some L2 =>
      cases hL3 : tabs n p 0 with
      | none => rw [hL, hL2, hL3] at hT; cases hT
      | some L3 =>
        cases hL4 : tabs n 0 q with
        | none => rw [hL, hL2, hL3, hL4] at hT; cases hT
        | some L4 =>
          rw [hL, hL2, hL3, hL4] at hT
          dsimp only at hT
          simp only [Bool.and_eq_true] at hT
          obtain ⟨⟨⟨⟨⟨⟨⟨⟨⟨z1, z2⟩, z3⟩, z4⟩, z5⟩, z6⟩, z7⟩, z8⟩, z9⟩, z10⟩ := hT
          have y1 := Nat.eq_of_beq_eq_true z1
          have y2 := Nat.eq_of_beq_eq_true z2
          have y3 := Nat.eq_of_beq_eq_true z3
          have y4 := Nat.eq_of_beq_eq_true z4
          have y5 := okr_at _ z5
          have y6 := Nat.eq_of_beq_eq_true z6
          have y7 : L.length < 1000 := of_decide_eq_true z7
          obtain ⟨a1, b1, c1, d1, tr1, tc1, e1⟩ := x_byT hn h1 hp hq hL (w := -1) (Or.inl rfl) a b c d tr tc
          obtain ⟨a2, b2, c2, d2, tr2, tc2, e2⟩ := x_byT hn h1 hq hp hL2 (w := -1) (Or.inl rfl) a1 b1 c1 d1 tr1 tc1
          obtain ⟨a3, b3, c3, d3, tr3, tc3, e3⟩ := x_byT hn h1 hp h0 hL3 (w := -1) (Or.inl rfl) a2 b2 c2 d2 tr2 tc2
          obtain ⟨a4, b4, c4, d4, tr4, tc4, e4⟩ := x_byT hn h1 hp h0 hL3 (w := nI p) (Or.inr ⟨p, hp, rfl⟩) a3 b3 c3 d3 tr3 tc3
          obtain ⟨a5, b5, c5, d5, tr5, tc5, e5⟩ := x_byT hn h1 h0 hq hL4 (w := nI q) (Or.inr ⟨q, hq, rfl⟩) a4 b4 c4 d4 tr4 tc4
          rw [mt_all] at e1 e2 e3
          rw [mt_one z9 (by omega), y3] at e4
          rw [mt_one z10 (by omega), y4] at e5
          rw [y2] at e3
          rw [← y1] at e2
          have loop : ∀ dd k f pcl a b c d tr tc, k + dd = 2 ^ (n - 1) → dd < f → ∃ pcl' a' b' c' d' tr' tc', F_L_areAsMany_62 (fac n) (2 ^ (n - 1)) (fac n * fac n) hm tl (nI n) (nI (fac n)) (nI (2 ^ (n - 1))) od ov of_ om (nI p) (nI q) f (nI (cs L k)) 1 (nI k) pcl a b c d tr tc = some (1, pcl', a', b', c', d', tr', tc') := by
            intro dd
            induction dd with
            | zero =>
              intro k f pcl a b c d tr tc hk hf
              obtain ⟨f, rfl⟩ : ∃ g, f = g + 1 := ⟨f - 1, by omega⟩
              obtain rfl : k = 2 ^ (n - 1) := by omega
              obtain ⟨a', b', c', d', tr', tc', e⟩ := x_byT hn h1 hp hq hL (w := -1) (Or.inl rfl) a b c d tr tc
              rw [mt_all] at e
              rw [E_L_areAsMany_62, bnd (x_count0 _ _ _ _), i1, pk_sub h1, ← i1, shl1 (by omega), ifLe (by omega) (by omega) (by omega), if_neg n10, bnd e, y6, if_pos rfl]
              exact ⟨_, _, _, _, _, _, _, rfl⟩
            | succ dd ih =>
              intro k f pcl a b c d tr tc hk hf
              obtain ⟨f, rfl⟩ : ∃ g, f = g + 1 := ⟨f - 1, by omega⟩
              have hkr : k < 2 ^ (n - 1) := by omega
              obtain ⟨u1, u2⟩ := y5 k hkr
              have hct := ct_le L k
              obtain ⟨a6, b6, c6, d6, tr6, tc6, e6⟩ := x_byT hn h1 hp hq hL (w := nI k) (Or.inr ⟨k, hkr, rfl⟩) a b c d tr tc
              obtain ⟨a7, b7, c7, d7, tr7, tc7, e7⟩ := x_byT hn h1 hp hq hL (w := nI k) (Or.inr ⟨k, hkr, rfl⟩) a6 b6 c6 d6 tr6 tc6
              obtain ⟨a8, b8, c8, d8, tr8, tc8, e8⟩ := x_byT hn h1 hp hq hL (w := nI k) (Or.inr ⟨k, hkr, rfl⟩) a7 b7 c7 d7 tr7 tc7
              rw [mt_one z8 (by omega)] at e6 e7 e8
              obtain ⟨pcl', e9⟩ := x_byO hn h1 hod hov hof hom hp hq hkr u1 (by omega) pcl
              have ecs : nI (cs L k) + nI (ct L k) = nI (cs L (k + 1)) := by
                rw [nI_add]
                unfold cs
                rw [itr_last]
              rw [E_L_areAsMany_62, bnd (x_count0 _ _ _ _), i1, pk_sub h1, ← i1, shl1 (by omega), ifNle (by omega) (by omega) (by omega), bnd e6, if_neg n10, bnd e7, bnd e9, if_pos rfl, bnd e8, ecs, nI_1]
              by_cases c0 : ct L k = 0
              · rw [if_pos (show nI (ct L k) = 0 by rw [c0]; rfl)]
                exact ih (k + 1) f _ _ _ _ _ _ _ (by omega) (by omega)
              · have hq2 : nI k &&& nI q = nI q := by
                  rw [nI_and]
                  exact congrArg nI (u2.resolve_left c0)
                rw [if_neg (fun z => nI_ne0 (by omega) (by omega) z), if_pos hq2]
                exact ih (k + 1) f _ _ _ _ _ _ _ (by omega) (by omega)
          obtain ⟨pcl', a', b', c', d', tr', tc', el⟩ := loop (2 ^ (n - 1)) 0 xF pcl a5 b5 c5 d5 tr5 tc5 (by omega) (xF_ge (by omega))
          have el' : F_L_areAsMany_62 (fac n) (2 ^ (n - 1)) (fac n * fac n) hm tl (nI n) (nI (fac n)) (nI (2 ^ (n - 1))) od ov of_ om (nI p) (nI q) xF (0 : Int32) 1 (0 : Int32) pcl a5 b5 c5 d5 tr5 tc5 = _ := el
          unfold F_L_areAsMany
          rw [bnd e1, bnd e2, if_pos rfl, bnd (show F_X5_byTables _ _ _ (0 : Int32) _ _ _ _ _ _ _ = some _ from e3), if_pos (show nI 1 = 1 from rfl), bnd (show F_X5_byTables _ _ _ (0 : Int32) _ _ _ _ _ _ _ = some _ from e4), if_pos (show nI 1 = 1 from rfl), bnd (show F_X5_byTables _ _ (0 : Int32) _ _ _ _ _ _ _ _ = some _ from e5), if_pos (show nI 1 = 1 from rfl), el']
          exact ⟨_, _, _, _, _, _, _, rfl⟩
end AM
