/-! sums of whole numbers, and products of sums of orders -/
def sm : Nat → (Nat → Int) → Int
  | 0, _ => 0
  | m + 1, f => sm m f + f m
theorem sm_congr {f g : Nat → Int} : ∀ m, (∀ i, i < m → f i = g i) → sm m f = sm m g := by
  intro m
  induction m with
  | zero => intro _; rfl
  | succ m ih =>
    intro h
    show sm m f + f m = sm m g + g m
    rw [ih (fun i hi => h i (by omega)), h m (by omega)]
theorem sm_zero : ∀ m, sm m (fun _ => 0) = 0 := by
  intro m
  induction m with
  | zero => rfl
  | succ m ih => show sm m (fun _ => 0) + 0 = 0; rw [ih]; rfl
theorem sm_add (f g : Nat → Int) : ∀ m, sm m (fun i => f i + g i) = sm m f + sm m g := by
  intro m
  induction m with
  | zero => rfl
  | succ m ih =>
    show sm m (fun i => f i + g i) + (f m + g m) = (sm m f + f m) + (sm m g + g m)
    rw [ih]
    omega
theorem sm_mul (c : Int) (f : Nat → Int) : ∀ m, sm m (fun i => c * f i) = c * sm m f := by
  intro m
  induction m with
  | zero => exact (Int.mul_zero c).symm
  | succ m ih =>
    show sm m (fun i => c * f i) + c * f m = c * (sm m f + f m)
    rw [ih, Int.mul_add]
theorem sm_mulr (c : Int) (f : Nat → Int) (m : Nat) : sm m (fun i => f i * c) = sm m f * c := by
  rw [Int.mul_comm (sm m f), ← sm_mul]
  exact sm_congr m fun i _ => Int.mul_comm _ _
theorem sm_swap (f : Nat → Nat → Int) (k : Nat) : ∀ m, sm m (fun i => sm k (fun j => f i j)) = sm k (fun j => sm m (fun i => f i j)) := by
  intro m
  induction m with
  | zero => exact (sm_zero k).symm
  | succ m ih =>
    show sm m (fun i => sm k (fun j => f i j)) + sm k (fun j => f m j) = sm k (fun j => sm m (fun i => f i j) + f m j)
    rw [ih, sm_add]
theorem sm_delta {a : Nat} (f : Nat → Int) : ∀ m, sm m (fun i => if i = a then f i else 0) = if a < m then f a else 0 := by
  intro m
  induction m with
  | zero => exact (if_neg (by omega)).symm
  | succ m ih =>
    show sm m (fun i => if i = a then f i else 0) + (if m = a then f m else 0) = _
    rw [ih]
    by_cases h : m = a
    · subst h
      rw [if_neg (by omega), if_pos rfl, if_pos (by omega)]
      exact Int.zero_add _
    · rw [if_neg h]
      by_cases h2 : a < m
      · rw [if_pos h2, if_pos (by omega)]
        exact Int.add_zero _
      · rw [if_neg h2, if_neg (by omega)]
        rfl
/-- a sum gone through in another order -/
theorem sm_inv (t : Nat → Nat) (f : Nat → Int) {m : Nat} (h1 : ∀ i, i < m → t i < m) (h2 : ∀ i, i < m → t (t i) = i) : sm m (fun i => f (t i)) = sm m f := by
  have e1 : sm m (fun i => f (t i)) = sm m fun i => sm m fun j => if j = t i then f j else 0 := sm_congr m fun i hi => by
    rw [sm_delta f, if_pos (h1 i hi)]
  rw [e1, sm_swap]
  refine sm_congr m fun j hj => ?_
  have e2 : (sm m fun i => if j = t i then f j else 0) = sm m fun i => if i = t j then f j else 0 := sm_congr m fun i hi => by
    by_cases c : j = t i
    · rw [if_pos c, if_pos (by rw [c, h2 i hi])]
    · rw [if_neg c, if_neg (fun q => c (by rw [q, h2 j hj]))]
  exact e2.trans ((sm_delta (a := t j) (fun _ => f j) m).trans (if_pos (h1 j hj)))
/-! how great sums are -/
def sn : Nat → (Nat → Nat) → Nat
  | 0, _ => 0
  | m + 1, f => sn m f + f m
theorem sn_le {f g : Nat → Nat} : ∀ m, (∀ i, i < m → f i ≤ g i) → sn m f ≤ sn m g := by
  intro m
  induction m with
  | zero => intro _; exact Nat.le_refl _
  | succ m ih => intro h; exact Nat.add_le_add (ih fun i hi => h i (by omega)) (h m (by omega))
theorem sn_const (b : Nat) : ∀ m, sn m (fun _ => b) = m * b := by
  intro m
  induction m with
  | zero => exact (Nat.zero_mul b).symm
  | succ m ih => show sn m (fun _ => b) + b = (m + 1) * b; rw [ih, Nat.succ_mul]
def l1 (m : Nat) (f : Nat → Int) : Nat := sn m fun i => (f i).natAbs
theorem sm_bd (a b : Nat → Int) (B : Nat) : ∀ m, (∀ i, i < m → (b i).natAbs ≤ B) → (sm m fun i => a i * b i).natAbs ≤ l1 m a * B := by
  intro m
  induction m with
  | zero => intro _; exact Nat.zero_le _
  | succ m ih =>
    intro h
    have h1 := ih (fun i hi => h i (by omega))
    have h2 := h m (by omega)
    have h3 := Int.natAbs_add_le (sm m fun i => a i * b i) (a m * b m)
    rw [Int.natAbs_mul] at h3
    have h4 := Nat.mul_le_mul_left (a m).natAbs h2
    show (sm m (fun i => a i * b i) + a m * b m).natAbs ≤ (l1 m a + (a m).natAbs) * B
    rw [Nat.add_mul]
    exact Nat.le_trans h3 (Nat.add_le_add h1 h4)
/-! products -/
def cv (n : Nat) (f g : Nat → Int) (o : Nat) : Int := sm (fac n) fun u => sm (fac n) fun v => if mu n u v = o then f u * g v else 0
theorem cv_congr {n : Nat} {f g f' g' : Nat → Int} (h1 : ∀ o, o < fac n → f o = f' o) (h2 : ∀ o, o < fac n → g o = g' o) (o : Nat) : cv n f g o = cv n f' g' o :=
  sm_congr _ fun u hu => sm_congr _ fun v hv => by rw [h1 u hu, h2 v hv]
theorem cv_phi {n : Nat} (hn : n ≤ 5) (f g φ : Nat → Int) : sm (fac n) (fun o => cv n f g o * φ o) = sm (fac n) fun u => sm (fac n) fun v => f u * g v * φ (mu n u v) := by
  have e1 : sm (fac n) (fun o => cv n f g o * φ o) = sm (fac n) fun o => sm (fac n) fun u => sm (fac n) fun v => if mu n u v = o then f u * g v * φ o else 0 := by
    refine sm_congr _ fun o _ => ?_
    refine (sm_mulr (φ o) (fun u => sm (fac n) fun v => if mu n u v = o then f u * g v else 0) (fac n)).symm.trans (sm_congr _ fun u _ => ?_)
    refine (sm_mulr (φ o) (fun v => if mu n u v = o then f u * g v else 0) (fac n)).symm.trans (sm_congr _ fun v _ => ?_)
    by_cases c : mu n u v = o
    · rw [if_pos c, if_pos c]
    · rw [if_neg c, if_neg c, Int.zero_mul]
  rw [e1, sm_swap]
  refine sm_congr _ fun u hu => ?_
  refine (sm_swap (fun o v => if mu n u v = o then f u * g v * φ o else 0) (fac n) (fac n)).trans (sm_congr _ fun v hv => ?_)
  have e2 : sm (fac n) (fun o => if mu n u v = o then f u * g v * φ o else 0) = sm (fac n) (fun o => if o = mu n u v then f u * g v * φ o else 0) := sm_congr _ fun o _ => by
    by_cases c : mu n u v = o
    · rw [if_pos c, if_pos c.symm]
    · rw [if_neg c, if_neg (fun q => c q.symm)]
  exact e2.trans ((sm_delta (a := mu n u v) (fun o => f u * g v * φ o) (fac n)).trans (if_pos (mu_lt hn hu hv)))
theorem mu_as : ∀ n, n ≤ 4 → ∀ u, u < fac n → ∀ v, v < fac n → ∀ z, z < fac n → mu n (mu n u v) z = mu n u (mu n v z) := by decide +kernel
theorem cv_as {n : Nat} (hn : n ≤ 4) (f g h : Nat → Int) (o : Nat) : cv n (cv n f g) h o = cv n f (cv n g h) o := by
  have e1 : cv n (cv n f g) h o = sm (fac n) fun w => cv n f g w * sm (fac n) fun z => if mu n w z = o then h z else 0 := by
    refine sm_congr _ fun w _ => ?_
    refine Eq.trans (sm_congr _ fun z _ => ?_) (sm_mul (cv n f g w) (fun z => if mu n w z = o then h z else 0) (fac n))
    by_cases c : mu n w z = o
    · rw [if_pos c, if_pos c]
    · rw [if_neg c, if_neg c, Int.mul_zero]
  rw [e1, cv_phi (by omega) f g (fun w => sm (fac n) fun z => if mu n w z = o then h z else 0)]
  refine sm_congr _ fun u hu => ?_
  have e2 : (sm (fac n) fun w => if mu n u w = o then f u * cv n g h w else 0) = sm (fac n) fun w => cv n g h w * (if mu n u w = o then f u else 0) := sm_congr _ fun w _ => by
    by_cases c : mu n u w = o
    · rw [if_pos c, if_pos c, Int.mul_comm]
    · rw [if_neg c, if_neg c, Int.mul_zero]
  refine Eq.trans ?_ e2.symm
  refine Eq.trans ?_ (cv_phi (by omega) g h (fun w => if mu n u w = o then f u else 0)).symm
  refine sm_congr _ fun v hv => ?_
  refine (sm_mul (f u * g v) (fun z => if mu n (mu n u v) z = o then h z else 0) (fac n)).symm.trans (sm_congr _ fun z hz => ?_)
  show f u * g v * (if mu n (mu n u v) z = o then h z else 0) = g v * h z * (if mu n u (mu n v z) = o then f u else 0)
  rw [mu_as n hn u hu v hv z hz]
  by_cases c : mu n u (mu n v z) = o
  · rw [if_pos c, if_pos c, Int.mul_comm (g v * h z), Int.mul_assoc]
  · rw [if_neg c, if_neg c, Int.mul_zero, Int.mul_zero]
theorem cv_sum {n : Nat} (hn : n ≤ 5) (f g : Nat → Int) : sm (fac n) (cv n f g) = sm (fac n) f * sm (fac n) g := by
  have h := cv_phi hn f g (fun _ => 1)
  have e : sm (fac n) (fun o => cv n f g o * 1) = sm (fac n) (cv n f g) := sm_congr _ fun o _ => Int.mul_one _
  refine e.symm.trans (h.trans ?_)
  refine Eq.trans (sm_congr _ fun u _ => ?_) (sm_mulr (sm (fac n) g) f (fac n))
  refine Eq.trans (sm_congr _ fun v _ => ?_) (sm_mul (f u) g (fac n))
  exact Int.mul_one _
theorem cv_l {n : Nat} (hn : n ≤ 5) (f g : Nat → Int) {o : Nat} (ho : o < fac n) : cv n f g o = sm (fac n) fun u => f u * g (mu n (vq n u) o) := by
  refine sm_congr _ fun u hu => ?_
  have e : (sm (fac n) fun v => if mu n u v = o then f u * g v else 0) = sm (fac n) fun v => if v = mu n (vq n u) o then f u * g v else 0 := sm_congr _ fun v hv => by
    obtain ⟨m1, m2⟩ := mu_vi n hn u hu v hv
    obtain ⟨-, m3⟩ := mu_vi n hn u hu o ho
    by_cases c : mu n u v = o
    · rw [if_pos c, if_pos (by rw [← c, m1])]
    · rw [if_neg c, if_neg (fun q => c (by rw [q, m3]))]
  exact e.trans ((sm_delta (a := mu n (vq n u) o) (fun v => f u * g v) (fac n)).trans (if_pos (mu_lt hn (vq_lt hn hu) ho)))
theorem mu_vr : ∀ n, n ≤ 4 → ∀ u, u < fac n → ∀ v, v < fac n → mu n (mu n u v) (vq n v) = u ∧ mu n (mu n u (vq n v)) v = u := by decide +kernel
theorem cv_r {n : Nat} (hn : n ≤ 4) (f g : Nat → Int) {o : Nat} (ho : o < fac n) : cv n f g o = sm (fac n) fun v => g v * f (mu n o (vq n v)) := by
  refine (sm_swap (fun u v => if mu n u v = o then f u * g v else 0) (fac n) (fac n)).trans (sm_congr _ fun v hv => ?_)
  have e : (sm (fac n) fun u => if mu n u v = o then f u * g v else 0) = sm (fac n) fun u => if u = mu n o (vq n v) then g v * f u else 0 := sm_congr _ fun u hu => by
    obtain ⟨m1, m2⟩ := mu_vr n hn u hu v hv
    obtain ⟨-, m3⟩ := mu_vr n hn o ho v hv
    by_cases c : mu n u v = o
    · rw [if_pos c, if_pos (by rw [← c, m1]), Int.mul_comm]
    · rw [if_neg c, if_neg (fun q => c (by rw [q, m3]))]
  exact e.trans ((sm_delta (a := mu n o (vq n v)) (fun u => g v * f u) (fac n)).trans (if_pos (mu_lt (by omega) ho (vq_lt (by omega) hv))))
theorem cv_bl {n : Nat} (hn : n ≤ 5) (f g : Nat → Int) {B : Nat} (hB : ∀ i, i < fac n → (g i).natAbs ≤ B) {o : Nat} (ho : o < fac n) : (cv n f g o).natAbs ≤ l1 (fac n) f * B := by
  rw [cv_l hn f g ho]
  exact sm_bd f (fun u => g (mu n (vq n u) o)) B (fac n) fun u hu => hB _ (mu_lt hn (vq_lt hn hu) ho)
theorem cv_br {n : Nat} (hn : n ≤ 4) (f g : Nat → Int) {B : Nat} (hB : ∀ i, i < fac n → (f i).natAbs ≤ B) {o : Nat} (ho : o < fac n) : (cv n f g o).natAbs ≤ l1 (fac n) g * B := by
  rw [cv_r hn f g ho]
  exact sm_bd g (fun v => f (mu n o (vq n v))) B (fac n) fun v hv => hB _ (mu_lt (by omega) ho (vq_lt (by omega) hv))
/-! sums that go by descents: so do their products -/
def CF (n : Nat) (f : Nat → Int) : Prop := ∀ o, o < fac n → f o = f (fq n (dq n o))
def lsm (F : Nat → Int) : List Nat → Int
  | [] => 0
  | x :: l => F x + lsm F l
theorem lsm_app (F : Nat → Int) : ∀ a b, lsm F (a ++ b) = lsm F a + lsm F b := by
  intro a
  induction a with
  | nil => intro b; exact (Int.zero_add _).symm
  | cons x a ih => intro b; show F x + lsm F (a ++ b) = F x + lsm F a + lsm F b; rw [ih]; omega
theorem lsm_perm (F : Nat → Int) {a b : List Nat} (h : a.Perm b) : lsm F a = lsm F b := by
  induction h with
  | nil => rfl
  | cons x _ ih => show F x + _ = F x + _; rw [ih]
  | swap x y l => show F y + (F x + lsm F l) = F x + (F y + lsm F l); omega
  | trans _ _ h1 h2 => rw [h1, h2]
theorem sm_lsm (F : Nat → Int) (k : Nat → Nat) : ∀ m, sm m (fun u => F (k u)) = lsm F ((List.range m).map k) := by
  intro m
  induction m with
  | zero => rfl
  | succ m ih =>
    rw [List.range_succ, List.map_append, lsm_app, ← ih]
    show _ + F (k m) = _ + (F (k m) + 0)
    rw [Int.add_zero]
def KC (n o : Nat) : List Nat := (List.range (fac n)).map fun u => 16 * dq n u + dq n (mu n (vq n u) o)
theorem KC_ok : ∀ n, n ≤ 4 → 1 ≤ n → ∀ o, o < fac n → (KC n o).isPerm (KC n (fq n (dq n o))) = true ∧ fq n (dq n o) < fac n := by decide +kernel
theorem cv_CF {n : Nat} (hn : n ≤ 4) (hn1 : 1 ≤ n) {f g : Nat → Int} (h1 : CF n f) (h2 : CF n g) : CF n (cv n f g) := by
  have hk : ∀ o, o < fac n → cv n f g o = lsm (fun k => f (fq n (k / 16)) * g (fq n (k % 16))) (KC n o) := fun o ho => by
    rw [cv_l (by omega) f g ho]
    refine Eq.trans (sm_congr _ fun u hu => ?_) (sm_lsm (fun k => f (fq n (k / 16)) * g (fq n (k % 16))) (fun u => 16 * dq n u + dq n (mu n (vq n u) o)) (fac n))
    have hd : dq n (mu n (vq n u) o) < 16 := Nat.mod_lt _ (by decide)
    show f u * g (mu n (vq n u) o) = f (fq n ((16 * dq n u + dq n (mu n (vq n u) o)) / 16)) * g (fq n ((16 * dq n u + dq n (mu n (vq n u) o)) % 16))
    rw [show (16 * dq n u + dq n (mu n (vq n u) o)) / 16 = dq n u by omega, show (16 * dq n u + dq n (mu n (vq n u) o)) % 16 = dq n (mu n (vq n u) o) by omega, ← h1 u hu, ← h2 _ (mu_lt (by omega) (vq_lt (by omega) hu) ho)]
  intro o ho
  obtain ⟨k1, k2⟩ := KC_ok n hn hn1 o ho
  rw [hk o ho, hk _ k2]
  exact lsm_perm _ (List.isPerm_iff.mp k1)
/-! sums turned -/
def sgn (n w o : Nat) : Int := if w = 3 ∧ iv n o % 2 = 1 then -1 else 1
def tn (n w : Nat) (f : Nat → Int) (o : Nat) : Int := sgn n w o * f (tu n o w)
theorem sgn_1 {n w : Nat} (h : w ≠ 3) (o : Nat) : sgn n w o = 1 := if_neg fun q => h q.1
theorem sgn_sq (n w o : Nat) : sgn n w o * sgn n w o = 1 := by
  unfold sgn
  by_cases c : w = 3 ∧ iv n o % 2 = 1
  · rw [if_pos c]; rfl
  · rw [if_neg c]; rfl
theorem tn_congr {n w : Nat} (hn : n ≤ 5) (hw : w < 4) {f g : Nat → Int} (h : ∀ o, o < fac n → f o = g o) {o : Nat} (ho : o < fac n) : tn n w f o = tn n w g o := by
  unfold tn
  rw [h _ (tu_ok n hn o ho w hw).1]
theorem tu_3 (n o : Nat) : tu n o 3 = o := rfl
theorem tn_tn {n w : Nat} (hn : n ≤ 5) (hw : w < 4) (f : Nat → Int) {o : Nat} (ho : o < fac n) : tn n w (tn n w f) o = f o := by
  obtain ⟨h1, h2⟩ := tu_ok n hn o ho w hw
  show sgn n w o * (sgn n w (tu n o w) * f (tu n (tu n o w) w)) = f o
  rw [h2]
  by_cases c : w = 3
  · subst c
    rw [tu_3, ← Int.mul_assoc, sgn_sq, Int.one_mul]
  · rw [sgn_1 c, sgn_1 c, Int.one_mul, Int.one_mul]
theorem tn_abs (n w : Nat) (f : Nat → Int) (o : Nat) : (tn n w f o).natAbs = (f (tu n o w)).natAbs := by
  unfold tn sgn
  by_cases c : w = 3 ∧ iv n o % 2 = 1
  · rw [if_pos c, Int.neg_mul, Int.one_mul, Int.natAbs_neg]
  · rw [if_neg c, Int.one_mul]
theorem t_0 : ∀ n, n ≤ 4 → ∀ u, u < fac n → ∀ v, v < fac n → mu n (tu n u 0) (tu n v 0) = tu n (mu n v u) 0 := by decide +kernel
theorem t_1 : ∀ n, n ≤ 4 → ∀ u, u < fac n → ∀ v, v < fac n → mu n u (tu n v 1) = tu n (mu n u v) 1 := by decide +kernel
theorem t_2 : ∀ n, n ≤ 4 → ∀ u, u < fac n → ∀ v, v < fac n → mu n (tu n u 2) v = tu n (mu n u v) 2 := by decide +kernel
theorem t_3 : ∀ n, n ≤ 4 → ∀ u, u < fac n → ∀ v, v < fac n → sgn n 3 u * sgn n 3 v = sgn n 3 (mu n u v) := by decide +kernel
theorem tu_iff {n w : Nat} (hn : n ≤ 5) (hw : w < 4) {a o : Nat} (ha : a < fac n) (ho : o < fac n) : tu n a w = o ↔ a = tu n o w :=
  ⟨fun h => by rw [← h, (tu_ok n hn a ha w hw).2], fun h => by rw [h, (tu_ok n hn o ho w hw).2]⟩
theorem cv_t0 {n : Nat} (hn : n ≤ 4) (f g : Nat → Int) {o : Nat} (ho : o < fac n) : cv n (tn n 0 g) (tn n 0 f) o = tn n 0 (cv n f g) o := by
  have h1 : ∀ i, i < fac n → tu n i 0 < fac n := fun i hi => (tu_ok n (by omega) i hi 0 (by omega)).1
  have h2 : ∀ i, i < fac n → tu n (tu n i 0) 0 = i := fun i hi => (tu_ok n (by omega) i hi 0 (by omega)).2
  have e1 : cv n (tn n 0 g) (tn n 0 f) o = sm (fac n) fun u => sm (fac n) fun v => if mu n (tu n u 0) (tu n v 0) = o then g u * f v else 0 := by
    refine (sm_inv (fun u => tu n u 0) (fun u => sm (fac n) fun v => if mu n u v = o then tn n 0 g u * tn n 0 f v else 0) h1 h2).symm.trans (sm_congr _ fun u hu => ?_)
    refine (sm_inv (fun v => tu n v 0) (fun v => if mu n (tu n u 0) v = o then tn n 0 g (tu n u 0) * tn n 0 f v else 0) h1 h2).symm.trans (sm_congr _ fun v hv => ?_)
    show (if mu n (tu n u 0) (tu n v 0) = o then sgn n 0 (tu n u 0) * g (tu n (tu n u 0) 0) * (sgn n 0 (tu n v 0) * f (tu n (tu n v 0) 0)) else 0) = _
    rw [h2 u hu, h2 v hv, sgn_1 (by decide), sgn_1 (by decide), Int.one_mul, Int.one_mul]
  rw [e1, sm_swap]
  show _ = sgn n 0 o * cv n f g (tu n o 0)
  rw [sgn_1 (by decide), Int.one_mul]
  refine sm_congr _ fun v hv => sm_congr _ fun u hu => ?_
  rw [t_0 n hn u hu v hv]
  by_cases c : mu n v u = tu n o 0
  · rw [if_pos ((tu_iff (by omega) (by omega) (mu_lt (by omega) hv hu) ho).mpr c), if_pos c, Int.mul_comm]
  · rw [if_neg (fun q => c ((tu_iff (by omega) (by omega) (mu_lt (by omega) hv hu) ho).mp q)), if_neg c]
theorem cv_t1 {n : Nat} (hn : n ≤ 4) (f g : Nat → Int) {o : Nat} (ho : o < fac n) : cv n f (tn n 1 g) o = tn n 1 (cv n f g) o := by
  have h1 : ∀ i, i < fac n → tu n i 1 < fac n := fun i hi => (tu_ok n (by omega) i hi 1 (by omega)).1
  have h2 : ∀ i, i < fac n → tu n (tu n i 1) 1 = i := fun i hi => (tu_ok n (by omega) i hi 1 (by omega)).2
  show _ = sgn n 1 o * cv n f g (tu n o 1)
  rw [sgn_1 (by decide), Int.one_mul]
  refine sm_congr _ fun u hu => ?_
  refine (sm_inv (fun v => tu n v 1) (fun v => if mu n u v = o then f u * tn n 1 g v else 0) h1 h2).symm.trans (sm_congr _ fun v hv => ?_)
  show (if mu n u (tu n v 1) = o then f u * (sgn n 1 (tu n v 1) * g (tu n (tu n v 1) 1)) else 0) = _
  rw [h2 v hv, sgn_1 (by decide), Int.one_mul, t_1 n hn u hu v hv]
  by_cases c : mu n u v = tu n o 1
  · rw [if_pos ((tu_iff (by omega) (by omega) (mu_lt (by omega) hu hv) ho).mpr c), if_pos c]
  · rw [if_neg (fun q => c ((tu_iff (by omega) (by omega) (mu_lt (by omega) hu hv) ho).mp q)), if_neg c]
theorem cv_t2 {n : Nat} (hn : n ≤ 4) (f g : Nat → Int) {o : Nat} (ho : o < fac n) : cv n (tn n 2 f) g o = tn n 2 (cv n f g) o := by
  have h1 : ∀ i, i < fac n → tu n i 2 < fac n := fun i hi => (tu_ok n (by omega) i hi 2 (by omega)).1
  have h2 : ∀ i, i < fac n → tu n (tu n i 2) 2 = i := fun i hi => (tu_ok n (by omega) i hi 2 (by omega)).2
  show _ = sgn n 2 o * cv n f g (tu n o 2)
  rw [sgn_1 (by decide), Int.one_mul]
  refine (sm_inv (fun u => tu n u 2) (fun u => sm (fac n) fun v => if mu n u v = o then tn n 2 f u * g v else 0) h1 h2).symm.trans (sm_congr _ fun u hu => sm_congr _ fun v hv => ?_)
  show (if mu n (tu n u 2) v = o then sgn n 2 (tu n u 2) * f (tu n (tu n u 2) 2) * g v else 0) = _
  rw [h2 u hu, sgn_1 (by decide), Int.one_mul, t_2 n hn u hu v hv]
  by_cases c : mu n u v = tu n o 2
  · rw [if_pos ((tu_iff (by omega) (by omega) (mu_lt (by omega) hu hv) ho).mpr c), if_pos c]
  · rw [if_neg (fun q => c ((tu_iff (by omega) (by omega) (mu_lt (by omega) hu hv) ho).mp q)), if_neg c]
theorem cv_t3 {n : Nat} (hn : n ≤ 4) (f g : Nat → Int) (o : Nat) : cv n (tn n 3 f) (tn n 3 g) o = tn n 3 (cv n f g) o := by
  show _ = sgn n 3 o * cv n f g o
  refine Eq.trans (sm_congr _ fun u hu => ?_) (sm_mul (sgn n 3 o) (fun u => sm (fac n) fun v => if mu n u v = o then f u * g v else 0) (fac n))
  refine Eq.trans (sm_congr _ fun v hv => ?_) (sm_mul (sgn n 3 o) (fun v => if mu n u v = o then f u * g v else 0) (fac n))
  show (if mu n u v = o then sgn n 3 u * f u * (sgn n 3 v * g v) else 0) = sgn n 3 o * (if mu n u v = o then f u * g v else 0)
  by_cases c : mu n u v = o
  · rw [if_pos c, if_pos c, ← c, ← t_3 n hn u hu v hv]
    rw [Int.mul_assoc, Int.mul_assoc, Int.mul_left_comm (f u)]
  · rw [if_neg c, if_neg c, Int.mul_zero]
