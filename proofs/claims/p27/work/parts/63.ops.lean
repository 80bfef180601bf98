/-! the class's calls, one by one, as what they do to a sum -/
def HX (a b : Int32) : Prop := ∃ h x, h ≤ 4 ∧ x < 4 ∧ a = nI h ∧ b = nI x
/-- sum p becomes g, the others stay -/
def CH (n p : Nat) (s s' : Nat → Nat → Int32) (g : Nat → Int) : Prop := (∀ j, j ≠ p → s' j = s j) ∧ ∀ o, o < fac n → (s' p o).toInt = g o
theorem x_set {n p : Nat} (hn : n ≤ 5) (hp : p < 3) {made : Nat → Int64} {g : Nat → Int} (hg : ∀ o, o < fac n → (made o).toInt = g o ∧ (g o).natAbs ≤ 50000) (ans : Int32) (s : Nat → Nat → Int32) {a b : Int32} (hH : HX a b) (hl : Nat → Int32) (hf : Nat → Nat → Int32) :
    ∃ s' a' b' hl' hf', F_X5_settle made (nI n) (nI (fac n)) (nI p) ans s a b hl hf = some (ans, s', a', b', hl', hf') ∧ HX a' b' ∧ CH n p s s' g := by
  obtain ⟨h, x, h1, h2, rfl, rfl⟩ := hH
  have hm5 := fac_le hn
  have ok : ∀ i, i < fac n → okL (made i) := fun i hi => by
    obtain ⟨e1, e2⟩ := hg i hi
    constructor
    · intro q
      rw [Int64.lt_iff_toInt_lt, e1, show (-50000 : Int64).toInt = -50000 by decide] at q
      omega
    · intro q
      rw [Int64.lt_iff_toInt_lt, e1, show (50000 : Int64).toInt = 50000 by decide] at q
      omega
  obtain ⟨a1, -⟩ := x_settle2 made (nI n) hm5 (p := p) ans s (nI h) (nI x) hl hf (fac n) 0 xF (by omega) (xF_ge (by omega))
  have a3 := a1 (fun i _ hi => ok i hi)
  rw [bnd (x_keep s (nI n) h1 h2 hl hf), x_settle68 made hm5 hp] at a3
  unfold F_X5_settle
  refine ⟨_, _, _, _, _, a3, ⟨if h < 4 then h + 1 else 4, (x + 1) % 4, by split <;> omega, Nat.mod_lt _ (by decide), rfl, rfl⟩, fun j hj => ?_, fun o ho => ?_⟩
  · funext o
    simp [va_up, hj]
  · have e5 : va_up s p (fun j => if j < fac n then (made j).toInt32 else s p j) p o = (made o).toInt32 := by simp [va_up, ho]
    rw [e5, (okL_i (ok o ho)).1]
    exact (hg o ho).1
theorem x_clear {n p : Nat} (hn : n ≤ 5) (hp : p < 3) (s : Nat → Nat → Int32) (made : Nat → Int64) {a b : Int32} (hH : HX a b) (hl : Nat → Int32) (hf : Nat → Nat → Int32) :
    ∃ r s' made' a' b' hl' hf', F_X5_clear (nI n) (nI (fac n)) (nI p) s made a b hl hf = some (r, s', made', a', b', hl', hf') ∧ ¬ r < 0 ∧ HX a' b' ∧ CH n p s s' (fun _ => 0) := by
  have hf5 := fac_le hn
  obtain ⟨e, k1, k2, -⟩ := cntI_0 (s p) (fac n) 0 0 (by omega)
  have ec : cntI (s p) (fac n) = nI e := by unfold cntI; exact k1.trans (by rw [Nat.zero_add])
  obtain ⟨s', a', b', hl', hf', e1, e2, e3⟩ := x_set hn hp (made := fun j => if j < fac n then 0 else made j) (g := fun _ => 0) (fun o ho => ⟨by show (if o < fac n then (0 : Int64) else made o).toInt = 0; rw [if_pos ho]; rfl, by decide⟩) (nI e) s hH hl hf
  unfold F_X5_clear
  rw [bnd (isSum_t hp), if_neg n10, bnd (x_termsIn (fac n) p hf5 hp s), bnd (x_makeZeros (fac n) hf5 made), ec, bnd e1]
  exact ⟨_, _, _, _, _, _, _, rfl, nI_pos (by omega), e2, e3⟩
theorem in999 {c : Int32} (hc : c.toInt.natAbs ≤ 999) : F_X5_isWithin c (-999) 999 = some 1 := by
  refine isW_t ?_ ?_
  · rw [Int32.le_iff_toInt_le, show (-999 : Int32).toInt = -999 by decide]; omega
  · rw [Int32.le_iff_toInt_le, show (999 : Int32).toInt = 999 by decide]; omega
theorem copy_of {n p : Nat} (hn : n ≤ 5) (hp : p < 3) (s : Nat → Nat → Int32) (made : Nat → Int64) : ∃ q, F_X5_makeCopyOf s (nI (fac n)) (nI p) made = some q ∧ ∀ j, j < fac n → q j = (s p j).toInt64 :=
  ⟨_, x_makeCopyOf (fac n) p (fac_le hn) hp s made, fun _ hj => if_pos hj⟩
theorem l_add {x c : Int32} (h : (x.toInt + c.toInt).natAbs ≤ 50000) : (x.toInt64 + c.toInt64).toInt = x.toInt + c.toInt := by
  rw [Int64.toInt_add, Int32.toInt_toInt64, Int32.toInt_toInt64]
  exact Int.bmod_eq_of_le (by omega) (by omega)
theorem x_add {n p k : Nat} (hn : n ≤ 5) (hp : p < 3) (hk : k < fac n) {c : Int32} (hc : c.toInt.natAbs ≤ 999) {f : Nat → Int} {s : Nat → Nat → Int32} (hs : ∀ o, o < fac n → (s p o).toInt = f o) (hb : ∀ o, o < fac n → (f o + if o = k then c.toInt else 0).natAbs ≤ 50000) (made : Nat → Int64) {a b : Int32} (hH : HX a b) (hl : Nat → Int32) (hf : Nat → Nat → Int32) :
    ∃ r s' made' a' b' hl' hf', F_X5_add (nI n) (nI (fac n)) (nI p) (nI k) c s made a b hl hf = some (r, s', made', a', b', hl', hf') ∧ r.toInt = f k + c.toInt ∧ HX a' b' ∧ CH n p s s' (fun o => f o + if o = k then c.toInt else 0) := by
  have hf5 := fac_le hn
  obtain ⟨q, hq, hq2⟩ := copy_of hn hp s made
  have hbk : (f k + c.toInt).natAbs ≤ 50000 := by have := hb k hk; rw [if_pos rfl] at this; exact this
  have ek : (q k + c.toInt64).toInt = f k + c.toInt := by
    rw [hq2 k hk, l_add (by rw [hs k hk]; exact hbk), hs k hk]
  have hv : ∀ o, o < fac n → (vp_updL q k (q k + c.toInt64) o).toInt = f o + if o = k then c.toInt else 0 := fun o ho => by
    unfold vp_updL
    by_cases e : o = k
    · rw [if_pos e, if_pos e, e]; exact ek
    · rw [if_neg e, if_neg e, hq2 o ho, Int32.toInt_toInt64, hs o ho, Int.add_zero]
  obtain ⟨s', a', b', hl', hf', e1, e2, e3⟩ := x_set hn hp (made := vp_updL q k (q k + c.toInt64)) (g := fun o => f o + if o = k then c.toInt else 0) (fun o ho => ⟨hv o ho, hb o ho⟩) ((vp_updL q k (q k + c.toInt64)) k).toInt32 s hH hl hf
  unfold F_X5_add
  rw [bnd (isSum_t hp), if_neg n10, bnd (isOrder_t hk hf5), if_neg n10, bnd (in999 hc), if_neg n10, bnd hq, xgI (by omega) (by omega), nI_clamp (by omega), bnd e1]
  refine ⟨_, _, _, _, _, _, _, rfl, ?_, e2, e3⟩
  have h2 := hv k hk
  rw [if_pos rfl] at h2
  show ((vp_updL q k (q k + c.toInt64)) k).toInt32.toInt = _
  rw [Int64.toInt_toInt32, h2]
  exact Int.bmod_eq_of_le (by omega) (by omega)
def acn (n t : Nat) (w : Int32) : Int32 := itr (fun o c => if inC n (nI t) w o then c + 1 else c) (fac n) 0 0
theorem x_addClass {n p t : Nat} {od : Nat → Int32} (hn : n ≤ 5) (hod : ∀ o, o < fac n → od o = nI (de n o)) (hp : p < 3) (ht : t < 2 ^ (n - 1)) {w : Nat} (hw : w < 2) {c : Int32} (hc : c.toInt.natAbs ≤ 999) {f : Nat → Int} {s : Nat → Nat → Int32} (hs : ∀ o, o < fac n → (s p o).toInt = f o) (hb : ∀ o, o < fac n → (f o + if inC n (nI t) (nI w) o then c.toInt else 0).natAbs ≤ 50000) (made : Nat → Int64) {a b : Int32} (hH : HX a b) (hl : Nat → Int32) (hf : Nat → Nat → Int32) :
    ∃ s' made' a' b' hl' hf', F_X5_addClass (fac n) (nI n) (nI (fac n)) (nI (2 ^ (n - 1))) od (nI p) (nI t) (nI w) c s made a b hl hf = some (acn n t (nI w), s', made', a', b', hl', hf') ∧ HX a' b' ∧ CH n p s s' (fun o => f o + if inC n (nI t) (nI w) o then c.toInt else 0) := by
  have hf5 := fac_le hn
  obtain ⟨q, hq, hq2⟩ := copy_of hn hp s made
  have h3 : nI w = 0 ∨ nI w = 1 := by
    rcases (show w = 0 ∨ w = 1 by omega) with rfl | rfl
    · exact Or.inl rfl
    · exact Or.inr rfl
  have hin : F_X5_isWithin (nI w) 0 1 = some 1 := by
    rcases h3 with h | h <;> rw [h] <;> exact isW_t (by decide) (by decide)
  have hv : ∀ o, o < fac n → ((fun j => if j < fac n ∧ inC n (nI t) (nI w) j then q j + c.toInt64 else q j) o).toInt = f o + if inC n (nI t) (nI w) o then c.toInt else 0 := fun o ho => by
    have hbo := hb o ho
    show (if o < fac n ∧ inC n (nI t) (nI w) o = true then q o + c.toInt64 else q o).toInt = _
    by_cases e : inC n (nI t) (nI w) o = true
    · rw [if_pos e] at hbo
      rw [if_pos ⟨ho, e⟩, if_pos e, hq2 o ho, l_add (by rw [hs o ho]; exact hbo), hs o ho]
    · rw [if_neg (fun z => e z.2), if_neg e, hq2 o ho, Int32.toInt_toInt64, hs o ho, Int.add_zero]
  obtain ⟨s', a', b', hl', hf', e1, e2, e3⟩ := x_set hn hp (made := fun j => if j < fac n ∧ inC n (nI t) (nI w) j then q j + c.toInt64 else q j) (g := fun o => f o + if inC n (nI t) (nI w) o then c.toInt else 0) (fun o ho => ⟨hv o ho, hb o ho⟩) (acn n t (nI w)) s hH hl hf
  unfold acn at e1
  unfold F_X5_addClass
  rw [bnd (isSum_t hp), if_neg n10, bnd (isSet_t hn ht), if_neg n10, bnd hin, if_neg n10, bnd (in999 hc), if_neg n10, bnd hq, x_addClass52 hn rfl hod (nI p) (nI t) h3 c q, bnd e1]
  exact ⟨_, _, _, _, _, _, rfl, e2, e3⟩
/-! products -/
theorem itr_last {σ : Type} (nx : Nat → σ → σ) (d : Nat) (s : σ) : itr nx (d + 1) 0 s = nx d (itr nx d 0 s) := by
  rw [itr_add nx d 1 0 s, Nat.zero_add]
  rfl
def stZ (n : Nat) (f g : Nat → Int) (u v : Nat) (m : Nat → Int) : Nat → Int := fun j => if mu n u v = j then m j + f u * g v else m j
theorem stZ_v (n : Nat) (f g : Nat → Int) (u o : Nat) (M : Nat → Int) : ∀ d, itr (stZ n f g u) d 0 M o = M o + sm d (fun v => if mu n u v = o then f u * g v else 0) := by
  intro d
  induction d with
  | zero => exact (Int.add_zero _).symm
  | succ d ih =>
    rw [itr_last]
    show (if mu n u d = o then itr (stZ n f g u) d 0 M o + f u * g d else itr (stZ n f g u) d 0 M o) = M o + (sm d (fun v => if mu n u v = o then f u * g v else 0) + (if mu n u d = o then f u * g d else 0))
    rw [ih]
    by_cases c : mu n u d = o
    · rw [if_pos c, if_pos c, Int.add_assoc]
    · rw [if_neg c, if_neg c, Int.add_zero]
theorem stZ_u (n : Nat) (f g : Nat → Int) (o : Nat) (M : Nat → Int) (m : Nat) : ∀ d, itr (fun u M => itr (stZ n f g u) m 0 M) d 0 M o = M o + sm d (fun u => sm m (fun v => if mu n u v = o then f u * g v else 0)) := by
  intro d
  induction d with
  | zero => exact (Int.add_zero _).symm
  | succ d ih =>
    rw [itr_last]
    refine (stZ_v n f g d o _ m).trans ?_
    rw [ih]
    exact Int.add_assoc _ _ _
theorem prd_int {n : Nat} (hn : n ≤ 5) (f g : Nat → Int32) {m0 : Nat → Int64} (h0 : ∀ o, o < fac n → m0 o = 0) {o : Nat} (ho : o < fac n) : prd n f g m0 o = Int64.ofInt (cv n (fun i => (f i).toInt) (fun i => (g i).toInt) o) := by
  have h := itr_rel (fun (m : Nat → Int64) (M : Nat → Int) => ∀ o, o < fac n → m o = Int64.ofInt (M o)) (f := fun u m => itr (stp n f g u) (fac n) 0 m) (g := fun u M => itr (stZ n (fun i => (f i).toInt) (fun i => (g i).toInt) u) (fac n) 0 M) (fac n) 0 m0 (fun _ => 0)
    (fun u s t _ hu hR => itr_rel (fun (m : Nat → Int64) (M : Nat → Int) => ∀ o, o < fac n → m o = Int64.ofInt (M o)) (fac n) 0 s t (fun v s t _ hv hR o ho => by
      show stp n f g u v s o = Int64.ofInt (stZ n (fun i => (f i).toInt) (fun i => (g i).toInt) u v t o)
      unfold stp vp_updL stZ
      by_cases c : o = mu n u v
      · subst c
        rw [if_pos rfl, if_pos rfl, Int64.ofInt_add, Int64.ofInt_mul, Int64.ofInt_int32ToInt, Int64.ofInt_int32ToInt, hR _ ho]
      · rw [if_neg c, if_neg (fun z => c z.symm)]
        exact hR o ho) hR)
    (fun o ho => (h0 o ho).trans rfl)
  refine (h o ho).trans (congrArg Int64.ofInt ?_)
  refine (stZ_u n _ _ o (fun _ => 0) (fac n) (fac n)).trans ?_
  exact Int.zero_add _
theorem cntL_0 (f : Nat → Int64) : ∀ d i (c : Nat), c + d < 1000 → (∃ e, itr (fun o t => if f o = 0 then t else t + 1) d i (nI c) = nI e ∧ e ≤ c + d) := by
  intro d
  induction d with
  | zero => intro i c _; exact ⟨c, rfl, Nat.le_refl _⟩
  | succ d ih =>
    intro i c hc
    show ∃ e, itr _ d (i + 1) (if f i = 0 then nI c else nI c + 1) = _ ∧ _
    by_cases h : f i = 0
    · rw [if_pos h]
      obtain ⟨e, h1, h2⟩ := ih (i + 1) c (by omega)
      exact ⟨e, h1, by omega⟩
    · rw [if_neg h, nI_1]
      obtain ⟨e, h1, h2⟩ := ih (i + 1) (c + 1) (by omega)
      exact ⟨e, h1, by omega⟩
theorem cntD_0 (f g : Nat → Int64) : ∀ d i (c : Nat), c + d < 1000 → (∃ e, itr (fun o t => if f o = g o then t else t + 1) d i (nI c) = nI e ∧ e ≤ c + d) := by
  intro d
  induction d with
  | zero => intro i c _; exact ⟨c, rfl, Nat.le_refl _⟩
  | succ d ih =>
    intro i c hc
    show ∃ e, itr _ d (i + 1) (if f i = g i then nI c else nI c + 1) = _ ∧ _
    by_cases h : f i = g i
    · rw [if_pos h]
      obtain ⟨e, h1, h2⟩ := ih (i + 1) c (by omega)
      exact ⟨e, h1, by omega⟩
    · rw [if_neg h, nI_1]
      obtain ⟨e, h1, h2⟩ := ih (i + 1) (c + 1) (by omega)
      exact ⟨e, h1, by omega⟩
theorem x_multiply {n p j k : Nat} {om : Nat → Int32} (hn : n ≤ 5) (hom : ∀ a b, a < fac n → b < fac n → om (a * fac n + b) = nI (mu n a b)) (hp : p < 3) (hj : j < 3) (hk : k < 3) {f g : Nat → Int} {s : Nat → Nat → Int32} (hs : ∀ o, o < fac n → (s j o).toInt = f o) (hs2 : ∀ o, o < fac n → (s k o).toInt = g o) (hb : ∀ o, o < fac n → (cv n f g o).natAbs ≤ 50000) (made : Nat → Int64) {a b : Int32} (hH : HX a b) (hl : Nat → Int32) (hf : Nat → Nat → Int32) :
    ∃ r s' made' a' b' hl' hf', F_X5_multiply (fac n * fac n) (nI n) (nI (fac n)) om (nI p) (nI j) (nI k) s made a b hl hf = some (r, s', made', a', b', hl', hf') ∧ ¬ r < 0 ∧ HX a' b' ∧ CH n p s s' (cv n f g) := by
  have hf5 := fac_le hn
  have hv : ∀ o, o < fac n → (prd n (s j) (s k) (fun o => if o < fac n then 0 else made o) o).toInt = cv n f g o := fun o ho => by
    have hbo := hb o ho
    rw [prd_int hn (s j) (s k) (fun o ho => if_pos ho) ho, cv_congr hs hs2 o]
    exact Int64.toInt_ofInt_of_le (by omega) (by omega)
  obtain ⟨e, k1, k2⟩ := cntL_0 (prd n (s j) (s k) (fun o => if o < fac n then 0 else made o)) (fac n) 0 0 (by omega)
  have ec : cntL (prd n (s j) (s k) (fun o => if o < fac n then 0 else made o)) (fac n) = nI e := k1
  obtain ⟨s', a', b', hl', hf', e1, e2, e3⟩ := x_set hn hp (made := prd n (s j) (s k) (fun o => if o < fac n then 0 else made o)) (g := cv n f g) (fun o ho => ⟨hv o ho, hb o ho⟩) (nI e) s hH hl hf
  unfold F_X5_multiply
  rw [bnd (isSum_t hp), if_neg n10, bnd (isSum_t hj), if_neg n10, bnd (isSum_t hk), if_neg n10, xgI hj (by omega), xgI hk (by omega), bnd (x_makeProduct hn rfl hom hj hk s made), bnd (x_termsMade (fac n) hf5 _), ec, bnd e1]
  exact ⟨_, _, _, _, _, _, _, rfl, nI_pos (by omega), e2, e3⟩
/-! turns -/
theorem x_turn {n p w : Nat} {oi ov ol : Nat → Int32} (hn : n ≤ 5) (hn1 : 1 ≤ n) (hT1 : ∀ o, o < fac n → oi o = nI (iv n o) ∧ ov o = nI (vi n o)) (hol : ∀ o k, o < fac n → k < n → ol (o * n + k) = nI (lt n o k)) (hp : p < 3) (hw : w < 4) {f : Nat → Int} {s : Nat → Nat → Int32} (hs : ∀ o, o < fac n → (s p o).toInt = f o) (hb : ∀ o, o < fac n → (f o).natAbs ≤ 50000) (made : Nat → Int64) {a b : Int32} (hH : HX a b) (hl : Nat → Int32) (hf : Nat → Nat → Int32) (ow : Nat → Int32) :
    ∃ r s' made' a' b' hl' hf' ow', F_X5_turn (fac n) (fac n * n) n (nI n) (nI (fac n)) oi ov ol (nI p) (nI w) s made a b hl hf ow = some (r, s', made', a', b', hl', hf', ow') ∧ ¬ r < 0 ∧ HX a' b' ∧ CH n p s s' (tn n w f) := by
  have hf5 := fac_le hn
  obtain ⟨made', ow', h1, h2⟩ := x_turn29 (lm := fac n) (ll := fac n * n) (oi := oi) (ov := ov) (ol := ol) (s := s) (hm := a) (hx := b) (hl := hl) (hf := hf) hn hn1 rfl rfl hT1 hol hp hw made ow
  have hsg : ∀ o, o < fac n → (sg n w (s p) o).toInt = sgn n w o * f o := fun o ho => by
    have hbo := hb o ho
    unfold sg sgn
    by_cases c : w = 3 ∧ iv n o % 2 = 1
    · rw [if_pos c, if_pos c, Int32.toInt_neg, hs o ho, Int.neg_mul, Int.one_mul]
      exact Int.bmod_eq_of_le (by omega) (by omega)
    · rw [if_neg c, if_neg c, hs o ho, Int.one_mul]
  have hv : ∀ o, o < fac n → (made' o).toInt = tn n w f o := fun o ho => by
    obtain ⟨b1, b2⟩ := tu_ok n hn o ho w hw
    have h3 := h2 (tu n o w) b1
    rw [b2] at h3
    rw [h3, Int32.toInt_toInt64, hsg _ b1]
    show sgn n w (tu n o w) * f (tu n o w) = sgn n w o * f (tu n o w)
    by_cases c : w = 3
    · subst c; rw [tu_3]
    · rw [sgn_1 c, sgn_1 c]
  have hb2 : ∀ o, o < fac n → (tn n w f o).natAbs ≤ 50000 := fun o ho => by
    rw [tn_abs]
    exact hb _ (tu_ok n hn o ho w hw).1
  obtain ⟨e, k1, k2⟩ := cntD_0 made' (fun o => (s p o).toInt64) (fac n) 0 0 (by omega)
  have ec : cntD made' (fun o => (s p o).toInt64) (fac n) = nI e := k1
  obtain ⟨s', a', b', hl', hf', e1, e2, e3⟩ := x_set hn hp (made := made') (g := tn n w f) (fun o ho => ⟨hv o ho, hb2 o ho⟩) (nI e) s hH hl hf
  have hin : F_X5_isWithin (nI w) 0 3 = some 1 := isW_t (nI_le (a := 0) (by omega) (by omega)) (nI_le (b := 3) (by omega) (by omega))
  have h112 := x_turn112 (s := s) (hm := a) (hx := b) (hl := hl) (hf := hf) hf5 hp (nI n) made' ow'
  rw [ec, bnd e1] at h112
  have h29 : F_X5_turn_29 (fac n) (fac n * n) n (nI n) (nI (fac n)) oi ov ol (nI p) (nI w) xF (0 : Int32) s made a b hl hf ow = _ := h1.trans h112
  unfold F_X5_turn
  rw [bnd (isSum_t hp), if_neg n10, bnd hin, if_neg n10, xgI hp (by omega), h29]
  exact ⟨_, _, _, _, _, _, _, _, rfl, nI_pos (by omega), e2, e3⟩
/-! what is told -/
theorem fad_int (f : Nat → Int32) : ∀ m, itr (fun o t => t + f o) m 0 0 = Int32.ofInt (sm m fun o => (f o).toInt) := by
  intro m
  induction m with
  | zero => rfl
  | succ m ih =>
    rw [itr_last]
    show itr (fun o t => t + f o) m 0 0 + f m = Int32.ofInt (sm m (fun o => (f o).toInt) + (f m).toInt)
    rw [ih, Int32.ofInt_add, Int32.ofInt_toInt]
theorem x_sum1 {n p : Nat} (hn : n ≤ 5) (hp : p < 3) {f : Nat → Int} {s : Nat → Nat → Int32} (hs : ∀ o, o < fac n → (s p o).toInt = f o) (lm ls : Nat) (od of_ : Nat → Int32) : F_X5_sumOf lm ls s (nI (fac n)) od of_ (nI p) 1 = some (Int32.ofInt (sm (fac n) f)) := by
  unfold F_X5_sumOf
  rw [bnd (isSum_t hp), if_neg n10, if_neg n10, if_pos rfl, bnd (x_factorsAddedUp (fac n) p (fac_le hn) hp s), fad_int, sm_congr (fac n) hs]
theorem x_sum2 {n p : Nat} (hn : n ≤ 5) (hn1 : 1 ≤ n) {od of_ : Nat → Int32} (hod : ∀ o, o < fac n → od o = nI (de n o)) (hof : ∀ t, of_ t = nI (fi n t)) (hp : p < 3) {f : Nat → Int} {s : Nat → Nat → Int32} (hs : ∀ o, o < fac n → (s p o).toInt = f o) (hc : CF n f) : F_X5_sumOf (fac n) (2 ^ (n - 1)) s (nI (fac n)) od of_ (nI p) 2 = some 1 := by
  have hP : ∀ o, o < fac n → P0 n (s p) o := fun o ho => by
    have h1 := (dq_ok n hn o ho).1
    have h2 := de_t hn ho
    have h3 := (fq_ok n hn hn1 (de n o) h2).1
    have h4 := (fi_f hn hn1 h2).1
    show s p o = s p (fi n (de n o))
    refine Int32.toInt_inj.mp ?_
    rw [hs o ho, hs _ h4, hc o ho, h1, h3]
  unfold F_X5_sumOf
  rw [bnd (isSum_t hp), if_neg n10, if_neg (by decide), if_neg (by decide), if_pos rfl, bnd (x_gbd hn hn1 rfl rfl hod hof hp), gd_t hP, if_neg (show ¬ bI true = 0 by decide)]
theorem x_factor {n p o : Nat} (hn : n ≤ 5) (hp : p < 3) (ho : o < fac n) (s : Nat → Nat → Int32) : F_X5_factor s (nI (fac n)) (nI p) (nI o) = some (s p o) := by
  have hf5 := fac_le hn
  unfold F_X5_factor
  rw [bnd (isSum_t hp), if_neg n10, bnd (isOrder_t ho hf5), if_neg n10, xgI hp (by omega), xgI (by omega) (by omega), nI_clamp (by omega), nI_clamp (by omega)]
theorem x_count0 (a b c d : Int32) : F_X5_count a b c d 0 = some c := by unfold F_X5_count; rw [if_pos rfl]
theorem x_count1 (a b c d : Int32) : F_X5_count a b c d 1 = some d := by unfold F_X5_count; rw [if_neg n10, if_pos rfl]
theorem x_product {n u v : Nat} {om : Nat → Int32} (hn : n ≤ 5) (hom : ∀ a b, a < fac n → b < fac n → om (a * fac n + b) = nI (mu n a b)) (hu : u < fac n) (hv : v < fac n) : F_X5_product (fac n * fac n) (nI (fac n)) om (nI u) (nI v) = some (nI (mu n u v)) := by
  have hf5 := fac_le hn
  unfold F_X5_product
  rw [bnd (isOrder_t hu hf5), if_neg n10, bnd (isOrder_t hv hf5), if_neg n10, bnd (x_times hn rfl hu hv om), hom u v hu hv]
theorem x_what {n w : Nat} (hn : n ≤ 5) (hw : w < 10) : F_X5_isWithin (nI w) (10 : Int32) (((10 : Int32) + nI n) - (1 : Int32)) = some 0 := isW_f (Or.inl (nI_lt (b := 10) hw (by omega)))
theorem x_o2 {n o : Nat} {od op oi ov ol : Nat → Int32} (hn : n ≤ 5) (ho : o < fac n) (hoi : oi o = nI (iv n o)) : F_X5_orderOf (fac n) (fac n * n) (nI n) (nI (fac n)) od op oi ov ol (nI o) 2 = some (nI (iv n o)) := by
  have hf5 := fac_le hn
  have hx : F_X5_isWithin (2 : Int32) (10 : Int32) (((10 : Int32) + nI n) - (1 : Int32)) = some 0 := x_what (w := 2) hn (by omega)
  unfold F_X5_orderOf
  rw [bnd (isOrder_t ho hf5), if_neg n10, bnd hx, if_pos rfl, if_neg (by decide), if_neg (by decide), if_pos rfl, xgI (by omega) (by omega), nI_clamp (by omega), hoi]
theorem x_o3 {n o : Nat} {od op oi ov ol : Nat → Int32} (hn : n ≤ 5) (ho : o < fac n) (hoi : oi o = nI (iv n o)) : F_X5_orderOf (fac n) (fac n * n) (nI n) (nI (fac n)) od op oi ov ol (nI o) 3 = some (nI (iv n o % 2)) := by
  have hf5 := fac_le hn
  have hx : F_X5_isWithin (3 : Int32) (10 : Int32) (((10 : Int32) + nI n) - (1 : Int32)) = some 0 := x_what (w := 3) hn (by omega)
  unfold F_X5_orderOf
  rw [bnd (isOrder_t ho hf5), if_neg n10, bnd hx, if_pos rfl, if_neg (by decide), if_neg (by decide), if_neg (by decide), if_pos rfl, bnd (x_parityOf hn rfl ho hoi)]
theorem x_o4 {n o : Nat} {od op oi ov ol : Nat → Int32} (hn : n ≤ 5) (ho : o < fac n) (hov : ov o = nI (vi n o)) : F_X5_orderOf (fac n) (fac n * n) (nI n) (nI (fac n)) od op oi ov ol (nI o) 4 = some (nI (vi n o)) := by
  have hf5 := fac_le hn
  have hx : F_X5_isWithin (4 : Int32) (10 : Int32) (((10 : Int32) + nI n) - (1 : Int32)) = some 0 := x_what (w := 4) hn (by omega)
  unfold F_X5_orderOf
  rw [bnd (isOrder_t ho hf5), if_neg n10, bnd hx, if_pos rfl, if_neg (by decide), if_neg (by decide), if_neg (by decide), if_neg (by decide), if_pos rfl, xgI (by omega) (by omega), nI_clamp (by omega), hov]
theorem x_o6 {n o : Nat} {od op oi ov ol : Nat → Int32} (hn : n ≤ 5) (hn1 : 1 ≤ n) (ho : o < fac n) (hol : ∀ k, k < n → ol (o * n + k) = nI (lt n o k)) : F_X5_orderOf (fac n) (fac n * n) (nI n) (nI (fac n)) od op oi ov ol (nI o) 6 = some (nI (rg n o)) := by
  have hf5 := fac_le hn
  have hx : F_X5_isWithin (6 : Int32) (10 : Int32) (((10 : Int32) + nI n) - (1 : Int32)) = some 0 := x_what (w := 6) hn (by omega)
  unfold F_X5_orderOf
  rw [bnd (isOrder_t ho hf5), if_neg n10, bnd hx, if_pos rfl, if_neg (by decide), if_neg (by decide), if_neg (by decide), if_neg (by decide), if_neg (by decide), if_neg (by decide), if_pos rfl, bnd (x_ringsOf hn hn1 rfl ho hol)]
theorem x_term {n p k : Nat} (hn : n ≤ 5) (hp : p < 3) (hk : k < fac n) {s : Nat → Nat → Int32} (h1 : s p k ≠ 0) (h2 : ∀ o, o < fac n → o ≠ k → s p o = 0) : F_X5_termOf s (nI (fac n)) (nI p) 0 0 = some (nI k) := by
  have hf5 := fac_le hn
  unfold F_X5_termOf
  rw [bnd (isSum_t hp), if_neg n10, if_neg (by decide), bnd (show F_X5_isWithin 0 0 1 = some 1 from isW_t (by decide) (by decide)), if_neg n10]
  rcases x_term0 (s := s) hp hf5 (fac n) 0 xF (by omega) (xF_ge (by omega)) with ⟨o, h3, h4, h5, h6⟩ | ⟨h3, h4⟩
  · have : o = k := by
      false_or_by_contra
      rename_i q
      exact h5 (h2 o h4 q)
    subst this
    exact h6
  · exact absurd (h3 k (by omega) hk) h1
