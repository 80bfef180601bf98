/-! a state: n, and the three sums, as the class and as the model hold them -/
def RS (n : Nat) (s : Nat → Nat → Int32) (al : Nat → Int32) : Prop := 1 ≤ n ∧ n ≤ 5 ∧ al 0 = nI n ∧ ∀ j o, j < 3 → o < 120 → al (4 + 120 * j + o) = s j o ∧ (fac n ≤ o → s j o = 0) ∧ -50000 ≤ (s j o).toInt ∧ (s j o).toInt ≤ 50000
def ST (a : Int32) (s : Nat → Nat → Int32) (m : Nat → Int32) : Prop := ∃ n, a = nI n ∧ RS n s m
/-- the history, as the class holds it (a ring) and as the model does (a row) -/
def RH (hm hx : Int32) (hl : Nat → Int32) (hf : Nat → Nat → Int32) (hlong : Int32) (mh : Nat → Int32) : Prop :=
  ∃ h x, h ≤ 4 ∧ x < 4 ∧ hm = nI h ∧ hx = nI x ∧ hlong = nI h ∧ ∀ i, i < h → ST (hl ((x + 3 - i) % 4)) (fun j o => hf ((x + 3 - i) % 4) (120 * j + o)) (fun k => mh (364 * (h - 1 - i) + k))
theorem RS.ext {n : Nat} {s t : Nat → Nat → Int32} {a b : Nat → Int32} (h : RS n s a) (h1 : ∀ j o, j < 3 → o < 120 → t j o = s j o) (h2 : ∀ k, k < 364 → b k = a k) : RS n t b := by
  obtain ⟨q1, q2, q3, q4⟩ := h
  refine ⟨q1, q2, by rw [h2 0 (by omega), q3], fun j o hj ho => ?_⟩
  rw [h1 j o hj ho, h2 (4 + 120 * j + o) (by omega)]
  exact q4 j o hj ho
theorem xacI {α : Type} {a b n ns nd : Nat} (ha : a < 2 ^ 31) (hb : b < 2 ^ 31) (hn : n < 2 ^ 31) (h1 : a + n ≤ ns) (h2 : b + n ≤ nd) (k : Option α) : xac (nI a) (nI b) (nI n) ns nd k = k := by
  unfold xac
  rw [nI_clamp ha, nI_clamp hb, nI_clamp hn]
  refine if_neg ?_
  rintro (h | h | h | h | h)
  · exact nI_pos ha h
  · exact nI_pos hb h
  · exact nI_pos hn h
  · omega
  · omega
def keepF (s : Nat → Nat → Int32) (x : Nat) (hf : Nat → Nat → Int32) : Nat → Nat → Int32 := itr (fun i hf => va_up hf x (va_cpy (s i) (hf x) 0 (i * 120) 120)) 3 0 hf
theorem keepF_new (s : Nat → Nat → Int32) (x : Nat) (hf : Nat → Nat → Int32) {j o : Nat} (hj : j < 3) (ho : o < 120) : keepF s x hf x (120 * j + o) = s j o := by
  have e : keepF s x hf x = va_cpy (s 2) (va_cpy (s 1) (va_cpy (s 0) (hf x) 0 (0 * 120) 120) 0 (1 * 120) 120) 0 (2 * 120) 120 := by
    simp [keepF, itr, va_up]
  rw [e]
  match j, hj with
  | 0, _ => unfold va_cpy; rw [if_neg (by omega), if_neg (by omega), if_pos (by omega)]; exact congrArg (s 0) (by omega)
  | 1, _ => unfold va_cpy; rw [if_neg (by omega), if_pos (by omega)]; exact congrArg (s 1) (by omega)
  | 2, _ => unfold va_cpy; rw [if_pos (by omega)]; exact congrArg (s 2) (by omega)
theorem keepF_old (s : Nat → Nat → Int32) (x : Nat) (hf : Nat → Nat → Int32) {r : Nat} (hr : r ≠ x) : keepF s x hf r = hf r := by
  simp [keepF, itr, va_up, hr]
theorem x_keep (s : Nat → Nat → Int32) (a : Int32) {h x : Nat} (hh : h ≤ 4) (hx : x < 4) (hl : Nat → Int32) (hf : Nat → Nat → Int32) :
    F_X0_keep s a (nI h) (nI x) hl hf = some (nI (if h < 4 then h + 1 else 4), nI ((x + 1) % 4), upd hl x a, keepF s x hf) := by
  have hlp := loopN (fun f i hf => F_X0_keep_12 s f (nI i) (nI h) (nI x) (upd hl x a) hf) 3 (fun hf => some (nI (if h < 4 then h + 1 else 4), nI ((x + 1) % 4), upd hl x a, hf)) (fun i hf => va_up hf x (va_cpy (s i) (hf x) 0 (i * 120) 120))
    (fun f v => by
      show F_X0_keep_12 _ _ _ _ _ _ _ = _
      rw [E_X0_keep_12, i3, ifLe (by omega) (by omega) (by omega), i4, nI_1, nI_1, pk_rem (by omega) (by omega) (by omega)]
      congr 2
      by_cases c : h < 4
      · rw [ifNlt (by omega) (by omega) (by omega), if_pos c]
      · rw [ifLt (by omega) (by omega) (by omega), if_neg c])
    (fun f i v hi => by
      show F_X0_keep_12 _ _ _ _ _ _ _ = F_X0_keep_12 _ _ _ _ _ _ _
      rw [E_X0_keep_12, i3, ifNle (by omega) (by omega) (by omega), xgI (by omega) (by omega), xgI (by omega) (by omega), i120, pk_mul, i0, xacI (by omega) (by omega) (by omega) (by omega) (by omega), nI_1, nI_clamp (by omega), nI_clamp (by omega), nI_clamp (by omega), nI_clamp (by omega), nI_clamp (by omega)]) 3 0 hf xF (by omega) (xF_ge (by omega))
  unfold F_X0_keep
  rw [xgI (by omega) (by omega), nI_clamp (by omega)]
  exact hlp
theorem itr_shift (k : Nat) (hk : 0 < k) : ∀ d i (v : Nat → Int32), itr (fun j v => upd v j (v (j + k))) d i v = fun j => if i ≤ j ∧ j < i + d then v (j + k) else v j := by
  intro d
  induction d with
  | zero => intro i v; funext j; rw [if_neg (by omega)]; rfl
  | succ d ih =>
    intro i v
    show itr _ d (i + 1) (upd v i (v (i + k))) = _
    rw [ih]
    funext j
    by_cases hj : j = i
    · subst hj; rw [if_neg (by omega), if_pos (by omega)]; simp [upd]
    · by_cases h2 : i + 1 ≤ j ∧ j < i + 1 + d
      · rw [if_pos h2, if_pos (by omega)]
        have : j + k ≠ i := by omega
        simp [upd, this]
      · rw [if_neg h2, if_neg (by omega)]; simp [upd, hj]
theorem itr_put (al : Nat → Int32) (b : Nat) : ∀ d i (v : Nat → Int32), itr (fun j v => upd v (b + j) (al j)) d i v = fun j => if b + i ≤ j ∧ j < b + i + d then al (j - b) else v j := by
  intro d
  induction d with
  | zero => intro i v; funext j; rw [if_neg (by omega)]; rfl
  | succ d ih =>
    intro i v
    show itr _ d (i + 1) (upd v (b + i) (al i)) = _
    rw [ih]
    funext j
    by_cases hj : j = b + i
    · subst hj; rw [if_neg (by omega), if_pos (by omega)]; simp [upd]
    · by_cases h2 : b + (i + 1) ≤ j ∧ j < b + (i + 1) + d
      · rw [if_pos h2, if_pos (by omega)]
      · rw [if_neg h2, if_neg (by omega)]; simp [upd, hj]
theorem m_record51 (al : Nat → Int32) {h : Nat} (hh : h < 4) (mh : Nat → Int32) : F_X6_record_51 al xF (0 : Int32) (nI h) mh = some (nI (h + 1), fun j => if 364 * h ≤ j ∧ j < 364 * h + 364 then al (j - 364 * h) else mh j) := by
  have hlp := loopN (fun f i v => F_X6_record_51 al f (nI i) (nI h) v) 364 (fun v => some (nI (h + 1), v)) (fun i v => upd v (364 * h + i) (al i))
    (fun f v => by
      show F_X6_record_51 _ _ _ _ _ = _
      rw [E_X6_record_51, show (364 : Int32) = nI 364 from rfl, ifLe (by omega) (by omega) (by omega), i1, nI_add])
    (fun f i v hi => by
      show F_X6_record_51 _ _ _ _ _ = F_X6_record_51 _ _ _ _ _
      rw [E_X6_record_51, show (364 : Int32) = nI 364 from rfl, ifNle (by omega) (by omega) (by omega), xgI (by omega) (by omega), pk_mul, nI_add, xgI (by omega) (by omega), nI_1, nI_clamp (by omega), nI_clamp (by omega)]) 364 0 mh xF (by omega) (xF_ge (by omega))
  refine hlp.trans ?_
  rw [itr_put]
  rfl
theorem m_record (al : Nat → Int32) {h : Nat} (hh : h ≤ 4) (mh : Nat → Int32) : ∃ mh', F_X6_record al (nI h) mh = some (nI (if h < 4 then h + 1 else 4), mh') ∧ (∀ k, k < 364 → mh' (364 * (if h < 4 then h else 3) + k) = al k) ∧ (∀ k, k < 364 * (if h < 4 then h else 3) → mh' k = if h < 4 then mh k else mh (k + 364)) := by
  unfold F_X6_record
  by_cases c : h < 4
  · rw [i4, ifNe (by omega) (by omega) (by omega), m_record51 al c mh]
    simp only [if_pos c]
    refine ⟨_, rfl, fun k hk => ?_, fun k hk => ?_⟩
    · rw [if_pos (by omega)]; congr 1; omega
    · rw [if_neg (by omega)]
  · obtain rfl : h = 4 := by omega
    have hlp := loopN (fun f i v => F_X6_record_10 al f (nI i) (nI 4) v) 1092 (fun v => F_X6_record_51 al xF (0 : Int32) (nI 4 - (1 : Int32)) v) (fun i v => upd v i (v (i + 364)))
      (fun f v => by
        show F_X6_record_10 _ _ _ _ _ = _
        rw [E_X6_record_10, show (1092 : Int32) = nI 1092 from rfl, ifLe (by omega) (by omega) (by omega)])
      (fun f i v hi => by
        show F_X6_record_10 _ _ _ _ _ = F_X6_record_10 _ _ _ _ _
        rw [E_X6_record_10, show (1092 : Int32) = nI 1092 from rfl, ifNle (by omega) (by omega) (by omega), show (364 : Int32) = nI 364 from rfl, nI_add, xgI (by omega) (by omega), xgI (by omega) (by omega), nI_1, nI_clamp (by omega), nI_clamp (by omega)]) 1092 0 mh xF (by omega) (xF_ge (by omega))
    rw [i4, ifEq rfl]
    simp only [if_neg c]
    have hlp2 : F_X6_record_10 al xF (0 : Int32) (nI 4) mh = _ := hlp
    rw [hlp2, i1, pk_sub (by omega), m_record51 al (by omega) _, itr_shift 364 (by omega)]
    refine ⟨_, rfl, fun k hk => ?_, fun k hk => ?_⟩
    · rw [if_pos (by omega)]; exact congrArg al (by omega)
    · rw [if_neg (by omega)]; exact if_pos (by omega)
theorem push {n : Nat} {s : Nat → Nat → Int32} {al : Nat → Int32} {hm hx : Int32} {hl : Nat → Int32} {hf : Nat → Nat → Int32} {hlong : Int32} {mh : Nat → Int32} (hS : RS n s al) (hR : RH hm hx hl hf hlong mh) :
    ∃ hm' hx' hl' hf' hlong' mh', F_X0_keep s (nI n) hm hx hl hf = some (hm', hx', hl', hf') ∧ F_X6_record al hlong mh = some (hlong', mh') ∧ RH hm' hx' hl' hf' hlong' mh' := by
  obtain ⟨h, x, hh, hx4, rfl, rfl, rfl, hi⟩ := hR
  obtain ⟨mh', e1, e2, e3⟩ := m_record al hh mh
  refine ⟨_, _, _, _, _, _, x_keep s (nI n) hh hx4 hl hf, e1, if h < 4 then h + 1 else 4, (x + 1) % 4, by split <;> omega, by omega, rfl, rfl, rfl, fun i hi2 => ?_⟩
  by_cases c0 : i = 0
  · subst c0
    rw [show ((x + 1) % 4 + 3 - 0) % 4 = x by omega]
    refine ⟨n, by simp [upd], hS.ext (fun j o hj ho => keepF_new s x hf hj ho) (fun k hk => ?_)⟩
    rw [← e2 k hk]
    congr 2
    split <;> omega
  · have hx2 : ((x + 1) % 4 + 3 - i) % 4 = (x + 3 - (i - 1)) % 4 := by
      have : i < 4 := by split at hi2 <;> omega
      omega
    have hne : (x + 3 - (i - 1)) % 4 ≠ x := by
      have : i < 4 := by split at hi2 <;> omega
      omega
    have hih : i - 1 < h := by split at hi2 <;> omega
    rw [hx2]
    obtain ⟨n', q1, q2⟩ := hi (i - 1) hih
    refine ⟨n', by rw [← q1]; simp [upd, hne], q2.ext (fun j o hj ho => by rw [keepF_old s x hf hne]) (fun k hk => ?_)⟩
    by_cases c : h < 4
    · simp only [if_pos c] at e3 hi2 ⊢
      rw [e3 _ (by have : h + 1 - 1 - i + 1 ≤ h := by omega
                   have := Nat.mul_le_mul_left 364 this
                   omega)]
      congr 2; omega
    · simp only [if_neg c] at e3 hi2 ⊢
      rw [e3 _ (by have : 4 - 1 - i + 1 ≤ 3 := by omega
                   have := Nat.mul_le_mul_left 364 this
                   omega)]
      congr 1
      obtain rfl : h = 4 := by omega
      have : 4 - 1 - (i - 1) = 4 - 1 - i + 1 := by omega
      rw [this]; omega
