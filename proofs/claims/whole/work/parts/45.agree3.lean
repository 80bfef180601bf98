/-! the two answer alike: addClass, turn -/
theorem lgz (x y : Int64) : lg_cmp x y = 0 ↔ x = y := by
  unfold lg_cmp
  by_cases h1 : x > y
  · rw [if_pos h1]
    exact ⟨fun h => absurd h (by decide), fun h => by rw [h] at h1; exact absurd h1 Int64.lt_irrefl⟩
  · rw [if_neg h1]
    by_cases h2 : x = y
    · rw [if_pos h2]; exact ⟨fun _ => h2, fun _ => rfl⟩
    · rw [if_neg h2]; exact ⟨fun h => absurd h (by decide), fun h => absurd h h2⟩
theorem itr_addP (P : Nat → Bool) (x : Int64) : ∀ d i (c : Int32) (v : Nat → Int64), itr (fun o (q : Int32 × (Nat → Int64)) => if P o then (q.1 + 1, vp_updL q.2 o (q.2 o + x)) else q) d i (c, v) = (itr (fun o c => if P o then c + 1 else c) d i c, fun j => if i ≤ j ∧ j < i + d ∧ P j then v j + x else v j) := by
  intro d
  induction d with
  | zero => intro i c v; refine Prod.ext rfl (funext fun j => ?_); exact (if_neg (by omega)).symm
  | succ d ih =>
    intro i c v
    show itr _ d (i + 1) (if P i then (c + 1, vp_updL v i (v i + x)) else (c, v)) = (itr _ d (i + 1) (if P i then c + 1 else c), _)
    by_cases h : P i
    · rw [if_pos h, if_pos h, ih]
      refine Prod.ext rfl (funext fun j => ?_)
      by_cases hj : j = i
      · subst hj
        show (if _ then _ else _) = (if _ then _ else _)
        rw [if_neg (by omega), if_pos ⟨Nat.le_refl _, by omega, h⟩]
        simp [vp_updL]
      · by_cases h2 : i + 1 ≤ j ∧ j < i + 1 + d ∧ P j = true
        · show (if _ then _ else _) = (if _ then _ else _)
          rw [if_pos h2, if_pos ⟨by omega, by omega, h2.2.2⟩]; simp [vp_updL, hj]
        · show (if _ then _ else _) = (if _ then _ else _)
          rw [if_neg h2, if_neg (fun q => h2 ⟨by omega, by omega, q.2.2⟩)]; simp [vp_updL, hj]
    · rw [if_neg h, if_neg h, ih]
      refine Prod.ext rfl (funext fun j => ?_)
      by_cases hj : j = i
      · subst hj
        show (if _ then _ else _) = (if _ then _ else _)
        rw [if_neg (by omega), if_neg (fun q => h q.2.2)]
      · by_cases h2 : i + 1 ≤ j ∧ j < i + 1 + d ∧ P j = true
        · show (if _ then _ else _) = (if _ then _ else _)
          rw [if_pos h2, if_pos ⟨by omega, by omega, h2.2.2⟩]
        · show (if _ then _ else _) = (if _ then _ else _)
          rw [if_neg h2, if_neg (fun q => h2 ⟨by omega, by omega, q.2.2⟩)]
def inC (n : Nat) (p2 p3 : Int32) (o : Nat) : Bool := if p3 = 0 then decide (nI (de n o) = p2) else decide (nI (de n o) &&& (p2 ^^^ (-1 : Int32)) = 0)
theorem m_isInClass {al : Nat → Int32} {n : Nat} (hal : al 0 = nI n) (hn : n ≤ 5) (hn1 : 1 ≤ n) {laid : Int32} {wd l : Nat → Int32} (hL : LK laid l) {o : Nat} (ho : o < fac n) (p2 p3 : Int32) :
    ∃ laid' wd' l', F_X6_isInClass al (nI o) p2 p3 laid wd l = some (bI (inC n p2 p3 o), laid', wd', l') ∧ LK laid' l' := by
  obtain ⟨d1, w1, l1, f1, f2, -⟩ := m_descents (wd := wd) hal hn hn1 hL ho
  refine ⟨d1, w1, l1, ?_, f2⟩
  unfold F_X6_isInClass inC
  rw [bnd f1]
  dsimp only
  by_cases c : p3 = 0
  · rw [if_pos c, if_pos c]
    by_cases q : nI (de n o) = p2
    · rw [if_pos q, decide_eq_true q]; rfl
    · rw [if_neg q, decide_eq_false q]; rfl
  · rw [if_neg c, if_neg c]
    by_cases q : nI (de n o) &&& (p2 ^^^ (-1 : Int32)) = 0
    · rw [if_pos q, decide_eq_true q]; rfl
    · rw [if_neg q, decide_eq_false q]; rfl
theorem within01 {x : Int32} (h : F_X5_isWithin x 0 1 = some 1) : x = 0 ∨ x = 1 := by
  rcases pk_ix x (n := 2) (by omega) with c | c | ⟨i, hi, rfl⟩
  · rw [isW_f (Or.inl c)] at h; exact absurd h (by decide)
  · rw [isW_f (Or.inr (Int32.lt_of_lt_of_le (show (1 : Int32) < nI 2 by decide) c))] at h; exact absurd h (by decide)
  · match i, hi with
    | 0, _ => exact Or.inl rfl
    | 1, _ => exact Or.inr rfl
section AH
variable {n : Nat} {s : Nat → Nat → Int32} {al : Nat → Int32} {hm hx : Int32} {hl : Nat → Int32} {hf : Nat → Nat → Int32} {hlong : Int32} {mh : Nat → Int32}
variable {lm ls ll lp ln : Nat} {fn fm fs : Int32} {od op oi ov of_ ol om : Nat → Int32} {laid : Int32} {wd l : Nat → Int32}
theorem x_addClass52 (hn : n ≤ 5) (hlm : lm = fac n) (hod : ∀ o, o < fac n → od o = nI (de n o)) (p1 p2 : Int32) {p3 : Int32} (h3 : p3 = 0 ∨ p3 = 1) (p4 : Int32) (made : Nat → Int64) :
    F_X5_addClass_52 lm (nI n) (nI (fac n)) od p1 p2 p3 p4 xF 0 0 s made hm hx hl hf = (F_X5_settle (fun j => if j < fac n ∧ inC n p2 p3 j then made j + p4.toInt64 else made j) (nI n) (nI (fac n)) p1 (itr (fun o c => if inC n p2 p3 o then c + 1 else c) (fac n) 0 0) s hm hx hl hf).bind fun q2 => some (q2.1, q2.2.1, (fun j => if j < fac n ∧ inC n p2 p3 j then made j + p4.toInt64 else made j), q2.2.2.1, q2.2.2.2.1, q2.2.2.2.2.1, q2.2.2.2.2.2) := by
  have hf5 := fac_le hn
  have h := loopN (fun f o (q : Int32 × (Nat → Int64)) => F_X5_addClass_52 lm (nI n) (nI (fac n)) od p1 p2 p3 p4 f q.1 (nI o) s q.2 hm hx hl hf) (fac n) (fun q => (F_X5_settle q.2 (nI n) (nI (fac n)) p1 q.1 s hm hx hl hf).bind fun q2 => some (q2.1, q2.2.1, q.2, q2.2.2.1, q2.2.2.2.1, q2.2.2.2.2.1, q2.2.2.2.2.2)) (fun o q => if inC n p2 p3 o then (q.1 + 1, vp_updL q.2 o (q.2 o + p4.toInt64)) else q)
    (fun f q => by
      show F_X5_addClass_52 _ _ _ _ _ _ _ _ _ _ _ _ _ _ _ _ _ = _
      rw [E_X5_addClass_52, ifLe (by omega) (by omega) (by omega)])
    (fun f o q ho => by
      show F_X5_addClass_52 _ _ _ _ _ _ _ _ _ _ _ _ _ _ _ _ _ = F_X5_addClass_52 _ _ _ _ _ _ _ _ _ _ _ _ _ _ _ _ _
      rw [E_X5_addClass_52, ifNle (by omega) (by omega) (by omega), xgI (by omega) (by omega), nI_clamp (by omega), hod o ho]
      unfold F_X1_isInWideClass F_X5_addClass_99
      rw [xgI (by omega) (by omega), xgI (by omega) (by omega), nI_clamp (by omega), hod o ho, nI_1]
      unfold inC
      rcases h3 with rfl | rfl
      · rw [if_neg (show ¬ (0 : Int32) = 1 by decide), if_pos (show (0 : Int32) = 0 from rfl)]
        by_cases c : nI (de n o) = p2
        · rw [if_pos c, if_pos (decide_eq_true c)]
        · rw [if_neg c, if_neg (by rw [decide_eq_false c]; decide)]
      · rw [if_pos (show (1 : Int32) = 1 from rfl), if_neg n10]
        by_cases c : nI (de n o) &&& (p2 ^^^ (-1 : Int32)) = 0
        · rw [if_pos c, if_pos (decide_eq_true c), bnd (show (some (1 : Int32)) = some 1 from rfl), if_neg n10]
        · rw [if_neg c, if_neg (by rw [decide_eq_false c]; decide)]
          rw [bnd (show (some (0 : Int32)) = some 0 from rfl), if_pos rfl]) (fac n) 0 (0, made) xF (by omega) (xF_ge (by omega))
  rw [itr_addP] at h
  simp only [Nat.zero_le, true_and, Nat.zero_add] at h
  exact h
theorem m_addClass54 (hal : al 0 = nI n) (hn : n ≤ 5) (hn1 : 1 ≤ n) (hL : LK laid l) (p1 p2 p3 p4 : Int32) (mm : Nat → Int64) :
    ∃ laid' wd' l', F_X6_addClass_54 p1 p2 p3 p4 xF 0 0 hlong laid al mh wd l mm = ((F_X6_becomes (fun j => if j < fac n ∧ inC n p2 p3 j then mm j + p4.toInt64 else mm j) p1 (itr (fun o c => if inC n p2 p3 o then c + 1 else c) (fac n) 0 0) hlong al mh).bind fun q3 => some (q3.1, q3.2.1, laid', q3.2.2.1, q3.2.2.2, wd', l', (fun j => if j < fac n ∧ inC n p2 p3 j then mm j + p4.toInt64 else mm j))) ∧ LK laid' l' := by
  have hf5 := fac_le hn
  obtain ⟨t', h, h1⟩ := loopE (fun f o (q : Int32 × (Nat → Int64)) (t : MT) => F_X6_addClass_54 p1 p2 p3 p4 f q.1 (nI o) hlong t.1 al mh t.2.1 t.2.2 q.2) (fun _ t => LK t.1 t.2.2) (fac n) (fun q t => (F_X6_becomes q.2 p1 q.1 hlong al mh).bind fun q3 => some (q3.1, q3.2.1, t.1, q3.2.2.1, q3.2.2.2, t.2.1, t.2.2, q.2)) (fun o q => if inC n p2 p3 o then (q.1 + 1, vp_updL q.2 o (q.2 o + p4.toInt64)) else q)
    (fun f q t _ => by
      show F_X6_addClass_54 _ _ _ _ _ _ _ _ _ _ _ _ _ _ = _
      rw [E_X6_addClass_54, bnd (m_orders hal hn), ifLe (by omega) (by omega) (by omega)])
    (fun f o q t ho hI => by
      obtain ⟨d1, w1, l1, f1, f2⟩ := m_isInClass (wd := t.2.1) hal hn hn1 hI ho p2 p3
      refine ⟨(d1, w1, l1), ?_, f2⟩
      show F_X6_addClass_54 _ _ _ _ _ _ _ _ _ _ _ _ _ _ = F_X6_addClass_54 _ _ _ _ _ _ _ _ _ _ _ _ _ _
      rw [E_X6_addClass_54, bnd (m_orders hal hn), ifNle (by omega) (by omega) (by omega), bnd f1]
      dsimp only
      rw [xgI (by omega) (by omega), nI_clamp (by omega), nI_1]
      cases c : inC n p2 p3 o
      · rw [if_pos (show bI false = 0 from rfl), if_neg (by decide)]
      · rw [if_neg (show ¬ bI true = 0 by decide), if_pos rfl]) (fac n) 0 (0, mm) (laid, wd, l) xF (by omega) (xF_ge (by omega)) hL
  rw [itr_addP] at h
  simp only [Nat.zero_le, true_and, Nat.zero_add] at h
  exact ⟨t'.1, t'.2.1, t'.2.2, h, h1⟩
theorem ag_addClass (hS : RS n s al) (hR : RH hm hx hl hf hlong mh) (hT : TB n lm ls ll lp ln fn fm fs od op oi ov of_ ol om) (hL : LK laid l) (p1 p2 p3 p4 : Int32) (made mm : Nat → Int64) :
    ∃ r s' made' hm' hx' hl' hf' hlong' al' mh' mm' laid' wd' l', F_X5_addClass lm fn fm fs od p1 p2 p3 p4 s made hm hx hl hf = some (r, s', made', hm', hx', hl', hf') ∧ F_X6_addClass p1 p2 p3 p4 hlong laid al mh wd l mm = some (r, hlong', laid', al', mh', wd', l', mm') ∧ RS n s' al' ∧ RH hm' hx' hl' hf' hlong' mh' ∧ LK laid' l' := by
  have hn5 := hS.2.1
  have hn1 := hS.1
  have hf5 := fac_le hn5
  have hal := hS.2.2.1
  obtain ⟨hlm, hls, hll, hlp, hln, rfl, rfl, rfl, hT1, hof, hol, hom⟩ := hT
  unfold F_X5_addClass F_X6_addClass
  rw [m_isSum, m_isSet hal hn5 hn1, m_in' (lo := -999) (hi := 999) (-999) 999 rfl rfl, m_in' (lo := 0) (hi := 1) 0 1 rfl rfl]
  rcases sum_c p1 with h | ⟨i, hi, rfl, h⟩
  · rw [bnd h, bnd h, if_pos rfl, if_pos rfl]
    exact ⟨_, _, _, _, _, _, _, _, _, _, _, _, _, _, rfl, rfl, hS, hR, hL⟩
  rw [bnd h, bnd h, if_neg n10, if_neg n10]
  rcases set_c hn5 p2 with h | ⟨t, ht, rfl, h⟩
  · rw [bnd h, bnd h, if_pos rfl, if_pos rfl]
    exact ⟨_, _, _, _, _, _, _, _, _, _, _, _, _, _, rfl, rfl, hS, hR, hL⟩
  rw [bnd h, bnd h, if_neg n10, if_neg n10]
  rcases Or.symm (within_c p3 0 1) with h | h
  · rw [bnd h, bnd h, if_pos rfl, if_pos rfl]
    exact ⟨_, _, _, _, _, _, _, _, _, _, _, _, _, _, rfl, rfl, hS, hR, hL⟩
  have h3 := within01 h
  rw [bnd h, bnd h, if_neg n10, if_neg n10]
  rcases Or.symm (within_c p4 (-999) 999) with h | h
  · rw [bnd h, bnd h, if_pos rfl, if_pos rfl]
    exact ⟨_, _, _, _, _, _, _, _, _, _, _, _, _, _, rfl, rfl, hS, hR, hL⟩
  rw [bnd h, bnd h, if_neg n10, if_neg n10, bnd (x_makeCopyOf (fac n) i hf5 hi s made), bnd (m_begins hi mm), x_addClass52 hn5 hlm (fun o ho => (hT1 o ho).1) _ _ h3]
  obtain ⟨laid', wd', l', f1, f2⟩ := m_addClass54 (wd := wd) (hlong := hlong) (mh := mh) hal hn5 hn1 hL (nI i) (nI t) p3 p4 (fun j => if j < 120 then (al (4 + 120 * i + j)).toInt64 else mm j)
  rw [f1]
  obtain ⟨r, s', hm', hx', hl', hf', hlong', al', mh', e1, e2, e3, e4⟩ := chg hS hR hi (itr (fun o c => if inC n (nI t) p3 o then c + 1 else c) (fac n) 0 0)
    (made := fun j => if j < fac n ∧ inC n (nI t) p3 j then (if j < fac n then (s i j).toInt64 else made j) + p4.toInt64 else (if j < fac n then (s i j).toInt64 else made j))
    (mm := fun j => if j < fac n ∧ inC n (nI t) p3 j then (if j < 120 then (al (4 + 120 * i + j)).toInt64 else mm j) + p4.toInt64 else (if j < 120 then (al (4 + 120 * i + j)).toInt64 else mm j))
    (fun o ho => by rw [if_pos (show o < 120 by omega), if_pos ho, hS.get hi (by omega)])
    (fun o h1 h2 => by rw [if_neg (by omega), if_pos h2, hS.get hi h2, hS.zero hi h2 h1]; rfl)
  rw [bnd e1, bnd e2]
  exact ⟨_, _, _, _, _, _, _, _, _, _, _, _, _, _, rfl, rfl, e3, e4, f2⟩
/-! turn -/
def cntD (f g : Nat → Int64) (m : Nat) : Int32 := itr (fun o t => if f o = g o then t else t + 1) m 0 0
theorem cntD_ext {f g f' g' : Nat → Int64} {m : Nat} (h : ∀ o, o < m → f o = f' o ∧ g o = g' o) : cntD f g m = cntD f' g' m := by
  unfold cntD
  exact itr_congr _ _ _ (fun j _ h4 t => by rw [(h j (by omega)).1, (h j (by omega)).2])
def sg (n w : Nat) (s : Nat → Int32) (o : Nat) : Int32 := if w = 3 ∧ iv n o % 2 = 1 then -s o else s o
theorem x_turn112 {m i : Nat} (hm5 : m ≤ 120) (hi : i < 3) (fn : Int32) (made : Nat → Int64) (ow : Nat → Int32) : F_X5_turn_112 fn (nI m) (nI i) xF 0 0 s made hm hx hl hf ow = (F_X5_settle made fn (nI m) (nI i) (cntD made (fun o => (s i o).toInt64) m) s hm hx hl hf).bind fun q2 => some (q2.1, q2.2.1, made, q2.2.2.1, q2.2.2.2.1, q2.2.2.2.2.1, q2.2.2.2.2.2, ow) := by
  have h := loopN (fun f o t => F_X5_turn_112 fn (nI m) (nI i) f t (nI o) s made hm hx hl hf ow) m (fun t => (F_X5_settle made fn (nI m) (nI i) t s hm hx hl hf).bind fun q2 => some (q2.1, q2.2.1, made, q2.2.2.1, q2.2.2.2.1, q2.2.2.2.2.1, q2.2.2.2.2.2, ow)) (fun o t => if made o = (s i o).toInt64 then t else t + 1)
    (fun f t => by
      show F_X5_turn_112 _ _ _ _ _ _ _ _ _ _ _ _ _ = _
      rw [E_X5_turn_112, ifLe (by omega) (by omega) (by omega)])
    (fun f o t ho => by
      show F_X5_turn_112 _ _ _ _ _ _ _ _ _ _ _ _ _ = F_X5_turn_112 _ _ _ _ _ _ _ _ _ _ _ _ _
      rw [E_X5_turn_112, ifNle (by omega) (by omega) (by omega), xgI (by omega) (by omega), xgI hi (by omega), nI_clamp (by omega), nI_clamp (by omega), nI_1]
      by_cases c : made o = (s i o).toInt64
      · rw [if_pos c, if_pos ((lgz _ _).mpr c)]
      · rw [if_neg c, if_neg (fun q => c ((lgz _ _).mp q))]) m 0 0 xF (by omega) (xF_ge (by omega))
  exact h
theorem m_turn92 (hal : al 0 = nI n) (hn : n ≤ 5) {i : Nat} (hi : i < 3) (mm : Nat → Int64) : F_X6_turn_92 (nI i) xF 0 0 hlong laid al mh wd l mm = (F_X6_becomes mm (nI i) (cntD mm (fun o => (al (4 + 120 * i + o)).toInt64) (fac n)) hlong al mh).bind fun q3 => some (q3.1, q3.2.1, laid, q3.2.2.1, q3.2.2.2, wd, l, mm) := by
  have hf5 := fac_le hn
  have h := loopN (fun f o t => F_X6_turn_92 (nI i) f t (nI o) hlong laid al mh wd l mm) (fac n) (fun t => (F_X6_becomes mm (nI i) t hlong al mh).bind fun q3 => some (q3.1, q3.2.1, laid, q3.2.2.1, q3.2.2.2, wd, l, mm)) (fun o t => if mm o = (al (4 + 120 * i + o)).toInt64 then t else t + 1)
    (fun f t => by
      show F_X6_turn_92 _ _ _ _ _ _ _ _ _ _ _ = _
      rw [E_X6_turn_92, bnd (m_orders hal hn), ifLe (by omega) (by omega) (by omega)])
    (fun f o t ho => by
      show F_X6_turn_92 _ _ _ _ _ _ _ _ _ _ _ = F_X6_turn_92 _ _ _ _ _ _ _ _ _ _ _
      rw [E_X6_turn_92, bnd (m_orders hal hn), ifNle (by omega) (by omega) (by omega), xgI (by omega) (by omega), bnd (m_get hi (by omega)), nI_clamp (by omega), nI_1]
      by_cases c : mm o = (al (4 + 120 * i + o)).toInt64
      · rw [if_pos c, if_pos ((lgz _ _).mpr c), Int32.add_zero]
      · rw [if_neg c, if_neg (fun q => c ((lgz _ _).mp q))]) (fac n) 0 0 xF (by omega) (xF_ge (by omega))
  exact h
theorem x_turn29 (hn : n ≤ 5) (hn1 : 1 ≤ n) (hlm : lm = fac n) (hll : ll = fac n * n) (hT1 : ∀ o, o < fac n → oi o = nI (iv n o) ∧ ov o = nI (vi n o)) (hol : ∀ o k, o < fac n → k < n → ol (o * n + k) = nI (lt n o k)) {i w : Nat} (hi : i < 3) (hw : w < 4) (made : Nat → Int64) (ow : Nat → Int32) :
    ∃ made' ow', F_X5_turn_29 lm ll n (nI n) (nI (fac n)) oi ov ol (nI i) (nI w) xF 0 s made hm hx hl hf ow = F_X5_turn_112 (nI n) (nI (fac n)) (nI i) xF 0 0 s made' hm hx hl hf ow' ∧ ∀ o, o < fac n → made' (tu n o w) = (sg n w (s i) o).toInt64 := by
  have hf5 := fac_le hn
  obtain ⟨t', h, h1⟩ := loopE (fun f o (_ : Unit) (t : (Nat → Int64) × (Nat → Int32)) => F_X5_turn_29 lm ll n (nI n) (nI (fac n)) oi ov ol (nI i) (nI w) f (nI o) s t.1 hm hx hl hf t.2) (fun k t => ∀ o, o < k → t.1 (tu n o w) = (sg n w (s i) o).toInt64) (fac n) (fun _ t => F_X5_turn_112 (nI n) (nI (fac n)) (nI i) xF 0 0 s t.1 hm hx hl hf t.2) (fun _ q => q)
    (fun f q t _ => by
      show F_X5_turn_29 _ _ _ _ _ _ _ _ _ _ _ _ _ _ _ _ _ _ _ = _
      rw [E_X5_turn_29, ifLe (by omega) (by omega) (by omega)])
    (fun f o q t ho hI => by
      obtain ⟨t3, t4⟩ := hT1 o ho
      obtain ⟨ow', e1⟩ := x_turned hn hn1 hlm hll ho hw t4 (fun k hk => hol o k ho hk) t.2
      obtain ⟨b1, b2⟩ := tu_ok n hn o ho w hw
      refine ⟨(vp_updL t.1 (tu n o w) (sg n w (s i) o).toInt64, ow'), ?_, fun a ha => ?_⟩
      · show F_X5_turn_29 _ _ _ _ _ _ _ _ _ _ _ _ _ _ _ _ _ _ _ = F_X5_turn_29 _ _ _ _ _ _ _ _ _ _ _ _ _ _ _ _ _ _ _
        rw [E_X5_turn_29, ifNle (by omega) (by omega) (by omega), bnd (x_parityOf hn hlm ho t3)]
        unfold F_X5_turn_63 F_X5_turn_64 sg
        simp only [bnd e1, if_neg n10, if_true, xgI hi (show 3 < 2 ^ 31 by omega), xgI (show o < 120 by omega) (show 120 < 2 ^ 31 by omega), xgI (show tu n o w < 120 by omega) (show 120 < 2 ^ 31 by omega), nI_clamp (show i < 2 ^ 31 by omega), nI_clamp (show o < 2 ^ 31 by omega), nI_clamp (show tu n o w < 2 ^ 31 by omega), nI_1]
        by_cases c3 : w = 3
        · rw [i3, ifEq (by rw [c3])]
          by_cases c : iv n o % 2 = 1
          · rw [i1, ifEq (by rw [c]), if_pos ⟨c3, c⟩]
          · rw [i1, ifNe (by omega) (by omega) c, if_neg (fun q => c q.2)]
        · rw [i3, ifNe (by omega) (by omega) c3, if_neg (fun q => c3 q.1)]
      · show vp_updL t.1 (tu n o w) _ (tu n a w) = _
        unfold vp_updL
        by_cases c : a = o
        · subst c; rw [if_pos rfl]
        · have ha2 : a < o := by omega
          have b3 := (tu_ok n hn a (by omega) w hw).2
          rw [if_neg (fun q => c (by rw [← b3, q, b2]))]
          exact hI a ha2) (fac n) 0 () (made, ow) xF (by omega) (xF_ge (by omega)) (fun a ha => absurd ha (by omega))
  exact ⟨t'.1, t'.2, h, h1⟩
theorem m_turn28 (hS : RS n s al) (hL : LK laid l) {i w : Nat} (hi : i < 3) (hw : w < 4) (mm : Nat → Int64) (hz : ∀ o, o < 120 → mm o = 0) :
    ∃ mm' laid' wd' l', F_X6_turn_28 (nI i) (nI w) xF 0 hlong laid al mh wd l mm = F_X6_turn_92 (nI i) xF 0 0 hlong laid' al mh wd' l' mm' ∧ LK laid' l' ∧ (∀ o, o < fac n → mm' (tu n o w) = (sg n w (s i) o).toInt64) ∧ (∀ o, fac n ≤ o → o < 120 → mm' o = 0) := by
  have hn5 := hS.2.1
  have hn1 := hS.1
  have hf5 := fac_le hn5
  have hal := hS.2.2.1
  obtain ⟨t', h, h1, h2, h3⟩ := loopE (fun f o (_ : Unit) (t : (Nat → Int64) × MT) => F_X6_turn_28 (nI i) (nI w) f (nI o) hlong t.2.1 al mh t.2.2.1 t.2.2.2 t.1) (fun k t => LK t.2.1 t.2.2.2 ∧ (∀ o, o < k → t.1 (tu n o w) = (sg n w (s i) o).toInt64) ∧ (∀ o, fac n ≤ o → o < 120 → t.1 o = 0)) (fac n) (fun _ t => F_X6_turn_92 (nI i) xF 0 0 hlong t.2.1 al mh t.2.2.1 t.2.2.2 t.1) (fun _ q => q)
    (fun f q t _ => by
      show F_X6_turn_28 _ _ _ _ _ _ _ _ _ _ _ = _
      rw [E_X6_turn_28, bnd (m_orders hal hn5), ifLe (by omega) (by omega) (by omega)])
    (fun f o q t ho ⟨hI, hJ, hK⟩ => by
      obtain ⟨d1, w1, l1, e1, e2⟩ := m_turned (wd := t.2.2.1) hal hn5 hn1 hI ho hw
      obtain ⟨b1, b2⟩ := tu_ok n hn5 o ho w hw
      have hfin : ∀ a, a < o + 1 → vp_updL t.1 (tu n o w) (sg n w (s i) o).toInt64 (tu n a w) = (sg n w (s i) a).toInt64 := fun a ha => by
        unfold vp_updL
        by_cases c : a = o
        · subst c; rw [if_pos rfl]
        · have ha2 : a < o := by omega
          have b3 := (tu_ok n hn5 a (by omega) w hw).2
          rw [if_neg (fun q => c (by rw [← b3, q, b2]))]
          exact hJ a ha2
      have hfin2 : ∀ a, fac n ≤ a → a < 120 → vp_updL t.1 (tu n o w) (sg n w (s i) o).toInt64 a = 0 := fun a h1 h2 => by
        unfold vp_updL
        rw [if_neg (by omega)]
        exact hK a h1 h2
      have eg := hS.get hi (show o < 120 by omega)
      by_cases c3 : w = 3
      · obtain ⟨d2, w2, l2, f1, f2⟩ := m_inversions (wd := w1) hal hn5 e2 ho
        refine ⟨(vp_updL t.1 (tu n o w) (sg n w (s i) o).toInt64, d2, w2, l2), ?_, f2, hfin, hfin2⟩
        show F_X6_turn_28 _ _ _ _ _ _ _ _ _ _ _ = F_X6_turn_28 _ _ _ _ _ _ _ _ _ _ _
        unfold sg
        rw [E_X6_turn_28, bnd (m_orders hal hn5), ifNle (by omega) (by omega) (by omega), bnd e1]
        dsimp only
        rw [i3, ifEq (by rw [c3]), bnd f1]
        dsimp only
        rw [m_parity hn5 ho]
        unfold F_X6_turn_73
        rw [bnd (m_get hi (by omega)), bnd (m_get hi (by omega)), xgI (by omega) (by omega), xgI (by omega) (by omega), nI_clamp (by omega), nI_1, eg]
        by_cases c : iv n o % 2 = 1
        · rw [i1, ifEq (by rw [c]), if_pos ⟨c3, c⟩]
        · rw [i1, ifNe (by omega) (by omega) c, if_neg (fun q => c q.2)]
      · refine ⟨(vp_updL t.1 (tu n o w) (sg n w (s i) o).toInt64, d1, w1, l1), ?_, e2, hfin, hfin2⟩
        show F_X6_turn_28 _ _ _ _ _ _ _ _ _ _ _ = F_X6_turn_28 _ _ _ _ _ _ _ _ _ _ _
        unfold sg
        rw [E_X6_turn_28, bnd (m_orders hal hn5), ifNle (by omega) (by omega) (by omega), bnd e1]
        dsimp only
        unfold F_X6_turn_73
        rw [i3, ifNe (by omega) (by omega) c3, bnd (m_get hi (by omega)), xgI (by omega) (by omega), nI_clamp (by omega), nI_1, eg, if_neg (fun q => c3 q.1)]) (fac n) 0 () (mm, laid, wd, l) xF (by omega) (xF_ge (by omega)) ⟨hL, fun a ha => absurd ha (by omega), fun o _ h => hz o h⟩
  exact ⟨t'.1, t'.2.1, t'.2.2.1, t'.2.2.2, h, h1, h2, h3⟩
theorem ag_turn (hS : RS n s al) (hR : RH hm hx hl hf hlong mh) (hT : TB n lm ls ll lp ln fn fm fs od op oi ov of_ ol om) (hL : LK laid l) (p1 p2 : Int32) (made mm : Nat → Int64) (ow : Nat → Int32) :
    ∃ r s' made' hm' hx' hl' hf' ow' hlong' al' mh' mm' laid' wd' l', F_X5_turn lm ll ln fn fm oi ov ol p1 p2 s made hm hx hl hf ow = some (r, s', made', hm', hx', hl', hf', ow') ∧ F_X6_turn p1 p2 hlong laid al mh wd l mm = some (r, hlong', laid', al', mh', wd', l', mm') ∧ RS n s' al' ∧ RH hm' hx' hl' hf' hlong' mh' ∧ LK laid' l' := by
  have hn5 := hS.2.1
  have hn1 := hS.1
  have hf5 := fac_le hn5
  have hal := hS.2.2.1
  obtain ⟨hlm, hls, hll, hlp, hln, rfl, rfl, rfl, hT1, hof, hol, hom⟩ := hT
  unfold F_X5_turn F_X6_turn
  rw [hln, m_isSum, m_in' (lo := 0) (hi := 3) 0 3 rfl rfl]
  rcases sum_c p1 with h | ⟨i, hi, rfl, h⟩
  · rw [bnd h, bnd h, if_pos rfl, if_pos rfl]
    exact ⟨_, _, _, _, _, _, _, _, _, _, _, _, _, _, _, rfl, rfl, hS, hR, hL⟩
  rw [bnd h, bnd h, if_neg n10, if_neg n10]
  have hz : F_X5_isWithin p2 0 3 = some 0 ∨ ∃ w, w < 4 ∧ p2 = nI w ∧ F_X5_isWithin p2 0 3 = some 1 := by
    rcases pk_ix p2 (n := 4) (by omega) with h | h | ⟨w, hw, rfl⟩
    · exact Or.inl (arg_f (n := 4) (Or.inl h) (by omega) (by omega))
    · exact Or.inl (arg_f (n := 4) (Or.inr h) (by omega) (by omega))
    · exact Or.inr ⟨w, hw, rfl, arg_t (n := 4) hw (by omega)⟩
  rcases hz with h | ⟨w, hw, rfl, h⟩
  · rw [bnd h, bnd h, if_pos rfl, if_pos rfl]
    exact ⟨_, _, _, _, _, _, _, _, _, _, _, _, _, _, _, rfl, rfl, hS, hR, hL⟩
  obtain ⟨made', ow', g1, g2⟩ := x_turn29 (s := s) (hm := hm) (hx := hx) (hl := hl) (hf := hf) hn5 hn1 hlm hll (fun o ho => ⟨(hT1 o ho).2.2.1, (hT1 o ho).2.2.2⟩) hol hi hw made ow
  obtain ⟨mm', laid', wd', l', k1, k2, k3, k4⟩ := m_turn28 (wd := wd) (hlong := hlong) (mh := mh) hS hL hi hw (fun j => if j < 120 then 0 else mm j) (fun o ho => if_pos ho)
  rw [bnd h, bnd h, if_neg n10, if_neg n10, xgI hi (by omega), g1, bnd (m_empties mm), k1, x_turn112 hf5 hi, m_turn92 hal hn5 hi]
  have hsame : ∀ o, o < fac n → mm' o = made' o := fun o ho => by
    obtain ⟨b1, b2⟩ := tu_ok n hn5 o ho w hw
    rw [← b2, k3 _ b1, g2 _ b1]
  have hc : cntD mm' (fun o => (al (4 + 120 * i + o)).toInt64) (fac n) = cntD made' (fun o => (s i o).toInt64) (fac n) := cntD_ext fun o ho => ⟨hsame o ho, by show (al _).toInt64 = _; rw [hS.get hi (by omega)]⟩
  rw [hc]
  obtain ⟨r, s', hm', hx', hl', hf', hlong', al', mh', e1, e2, e3, e4⟩ := chg hS hR hi (cntD made' (fun o => (s i o).toInt64) (fac n)) (made := made') (mm := mm') hsame k4
  rw [bnd e1, bnd e2]
  exact ⟨_, _, _, _, _, _, _, _, _, _, _, _, _, _, _, rfl, rfl, e3, e4, k2⟩
end AH
