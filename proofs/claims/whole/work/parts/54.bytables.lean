/-! the two answer alike: byTables -/
section AH
variable {n : Nat} {s : Nat → Nat → Int32} {al : Nat → Int32}
theorem x_tell (hn : n ≤ 5) (hn1 : 1 ≤ n) {p q : Nat} (hp : p < 2 ^ (n - 1)) (hq : q < 2 ^ (n - 1)) (w : Int32) (a b c d : Int32) (tr tc : Nat → Int32) :
    ∃ L a' b' c' d' tr' tc', tabs n p q = some L ∧ L.length < 1000 ∧ ML n (cm n p) (cm n q) 100000 1 (cp n q) (cp n p) 0 = some L ∧ F_X3_tell (nI n) (nI p) (nI q) w a b c d tr tc = some (nI (L.countP (mt w)), a', b', c', d', tr', tc') := by
  have h16 := p16 hn
  have h := tab_ok hn hn1 hp hq
  unfold tabB at h
  cases hL : tabs n p q with
  | none => rw [hL] at h; cases h
  | some L =>
    rw [hL] at h
    dsimp only at h
    rw [Bool.and_eq_true] at h
    obtain ⟨e1, e2⟩ := h
    have e1' := eq_of_beq e1
    have e2' := of_decide_eq_true e2
    obtain ⟨k1, k2⟩ := cm_ok n hn hn1 p (by omega)
    obtain ⟨k3, k4⟩ := cm_ok n hn hn1 q (by omega)
    obtain ⟨tc', f1, f2⟩ := x_cut (s := p) hn hn1 (by omega) n 0 xF tc (by omega) (xF_ge (by omega)) (fun i hi => absurd (show i < 0 from hi) (by omega))
    obtain ⟨tr', g1, g2⟩ := x_cut (s := q) hn hn1 (by omega) n 0 xF tr (by omega) (xF_ge (by omega)) (fun i hi => absurd (show i < 0 from hi) (by omega))
    have f1' : F_X3_cut 5 (nI n) (nI p) tc = some (nI (cm n p), tc') := f1
    have g1' : F_X3_cut 5 (nI n) (nI q) tr = some (nI (cm n q), tr') := g1
    have hw := x_ways hn k2 k4 w 40 0 0 0 0 (cp n q) (cp n p) L tr' tc' hL (by omega) (by omega) (by omega) g2 f2
    have hw' : F_X3_ways (nI n) (nI (cm n p)) (nI (cm n q)) w 40 (0 : Int32) (0 : Int32) (0 : Int32) (0 : Int32) tr' tc' = some (nI (L.countP (mt w)), tr', tc') := hw
    have hfin : F_X3_tell (nI n) (nI p) (nI q) w a b c d tr tc = some (nI (L.countP (mt w)), nI n, nI (cm n p), nI (cm n q), w, tr', tc') := by
      unfold F_X3_tell
      rw [bnd f1', bnd g1']
      dsimp only
      rw [bnd hw']
    exact ⟨L, _, _, _, _, _, _, rfl, e2', e1', hfin⟩
theorem m_tell (hal : al 0 = nI n) (hn : n ≤ 5) (hn1 : 1 ≤ n) {p q : Nat} (hp : p < 2 ^ (n - 1)) (hq : q < 2 ^ (n - 1)) (w : Int32) {L : List Nat} (hM : ML n (cm n p) (cm n q) 100000 1 (cp n q) (cp n p) 0 = some L) (a b : Int32) (rl cl ce : Nat → Int32) :
    ∃ a' b' rl' cl' ce', F_X6_byTables_32 al (nI p) (nI q) w a b rl cl ce = some (nI (L.countP (mt w)), a', b', rl', cl', ce') := by
  have h16 := p16 hn
  obtain ⟨k1, k2⟩ := cm_ok n hn hn1 p (by omega)
  obtain ⟨k3, k4⟩ := cm_ok n hn hn1 q (by omega)
  obtain ⟨cl', f1, f2⟩ := m_cut (s := p) hal hn hn1 (by omega) n 0 xF cl (by omega) (xF_ge (by omega)) (fun i hi => absurd (show i < 0 from hi) (by omega))
  obtain ⟨rl', g1, g2⟩ := m_cut (s := q) hal hn hn1 (by omega) n 0 xF rl (by omega) (xF_ge (by omega)) (fun i hi => absurd (show i < 0 from hi) (by omega))
  have f1' : F_X6_layParts 5 al (nI p) cl = some (nI (cm n p), cl') := f1
  have g1' : F_X6_layParts 5 al (nI q) rl = some (nI (cm n q), rl') := g1
  obtain ⟨rl2, cl2, ce2, e⟩ := m_ways hal hn k2 k4 w 100000 xF 1 (cp n q) (cp n p) 0 L 0 rl' cl' (upd ce 0 (-1)) hM (by unfold xF; omega) g2 f2 (fun i hi _ => by
    obtain rfl : i = 0 := by omega
    show (if 0 = 0 then (-1 : Int32) else ce 0) = nI (gt 0 0) + (-1 : Int32)
    rw [if_pos rfl]; decide)
  rw [Nat.zero_add] at e
  have hfin : F_X6_byTables_32 al (nI p) (nI q) w a b rl cl ce = some (nI (L.countP (mt w)), nI (cm n q), nI (cm n p), rl2, cl2, ce2) := by
    unfold F_X6_byTables_32
    rw [bnd f1', bnd g1']
    dsimp only
    exact e
  exact ⟨_, _, _, _, _, hfin⟩
theorem ag_byTables (hS : RS n s al) {fn fs : Int32} (hfn : fn = nI n) (hfs : fs = nI (2 ^ (n - 1))) (p1 p2 p3 : Int32) (a b c d : Int32) (tr tc : Nat → Int32) (e g : Int32) (rl cl ce : Nat → Int32) :
    ∃ r a' b' c' d' tr' tc' e' g' rl' cl' ce', F_X5_byTables fn fs p1 p2 p3 a b c d tr tc = some (r, a', b', c', d', tr', tc') ∧ F_X6_byTables al p1 p2 p3 e g rl cl ce = some (r, e', g', rl', cl', ce') := by
  have hn5 := hS.2.1
  have hn1 := hS.1
  have hal := hS.2.2.1
  subst hfn hfs
  unfold F_X5_byTables F_X6_byTables
  rw [m_isSet hal hn5 hn1, m_isSet hal hn5 hn1, m_isSet hal hn5 hn1]
  rcases set_c hn5 p1 with h | ⟨p, hp, rfl, h⟩
  · rw [bnd h, bnd h, if_pos rfl, if_pos rfl]
    exact ⟨_, _, _, _, _, _, _, _, _, _, _, _, rfl, rfl⟩
  rw [bnd h, bnd h, if_neg n10, if_neg n10]
  rcases set_c hn5 p2 with h | ⟨q, hq, rfl, h⟩
  · rw [bnd h, bnd h, if_pos rfl, if_pos rfl]
    exact ⟨_, _, _, _, _, _, _, _, _, _, _, _, rfl, rfl⟩
  rw [bnd h, bnd h, if_neg n10, if_neg n10]
  obtain ⟨L, a', b', c', d', tr', tc', k1, k2, k3, k4⟩ := x_tell hn5 hn1 hp hq p3 a b c d tr tc
  obtain ⟨e', g', rl', cl', ce', k5⟩ := m_tell hal hn5 hn1 hp hq p3 k3 e g rl cl ce
  unfold F_X5_byTables_32
  rw [k5, bnd k4]
  by_cases cw : p3 = -1
  · rw [if_pos cw, if_pos cw]
    exact ⟨_, _, _, _, _, _, _, _, _, _, _, _, rfl, rfl⟩
  · rw [if_neg cw, if_neg cw]
    rcases set_c hn5 p3 with h | ⟨r, hr, rfl, h⟩
    · rw [bnd h, bnd h, if_pos rfl, if_pos rfl]
      exact ⟨_, _, _, _, _, _, _, _, _, _, _, _, rfl, rfl⟩
    rw [bnd h, bnd h, if_neg n10, if_neg n10]
    exact ⟨_, _, _, _, _, _, _, _, _, _, _, _, rfl, rfl⟩
end AH
