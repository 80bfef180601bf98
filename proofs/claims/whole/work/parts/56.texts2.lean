/-! texts: numbers, terms; the two answer alike: type, clearText, fault, read -/
section TY
variable {n L : Nat} {ch : Nat → Nat} {tg mt al : Nat → Int32}
theorem num72 (hT : TXT L ch tg mt) {i : Nat} (hi : i ≤ L) (v tm : Int32) : F_X6_readsNumber_72 (nI L) mt v (nI i) tm = if i < L ∧ ch i = 42 then some (1, nI (i + 1), tm * v) else some (0, nI i, tm * v) := by
  unfold F_X6_readsNumber_72
  rw [bnd (m_here (p := 42) (q := 42) hT hi 42 42 rfl rfl (by omega) (by omega))]
  by_cases c : i < L ∧ ch i = 42
  · rw [decide_eq_true (show i < L ∧ 42 ≤ ch i ∧ ch i ≤ 42 from ⟨c.1, by omega, by omega⟩), show bI true = 1 from rfl, if_neg n10, if_pos c, xb1, nI_1]
  · rw [decide_eq_false (show ¬ (i < L ∧ 42 ≤ ch i ∧ ch i ≤ 42) from fun q => c ⟨q.1, by omega⟩), show bI false = 0 from rfl, if_pos rfl, if_neg c, xb0, Int32.add_zero]
theorem dg_eq (v x : Int32) : v * 10 + (x - 48) = 10 * v + x - 48 := by
  rw [Int32.mul_comm v 10, Int32.sub_eq_add_neg, Int32.sub_eq_add_neg, Int32.add_assoc]
theorem numb (hT : TXT L ch tg mt) (hn : n ≤ 5) : ∀ r a e i v f g, e + r = 3 → 1 ≤ e → i = a + e → i ≤ L → L - i < f → r + 1 < g → ∀ (made : Nat → Int64) (t ms us ta tm : Int32) (rr : Nat → Int32),
    (∃ j x z, j ≤ L ∧ F_X4_addTerms_22 (nI L) tg f (nI i) made t (nI n) 2 ms v (nI e) us ta rr = some (nI j, x) ∧ F_X6_readsNumber_20 (nI L) mt g (nI a) v (nI i) tm = some (0, nI j, z)) ∨
    (∃ i' f' v' di', i < i' ∧ i' ≤ L ∧ L - i' < f' ∧ F_X6_readsNumber_20 (nI L) mt g (nI a) v (nI i) tm = some (1, nI i', tm * v') ∧
      F_X4_addTerms_22 (nI L) tg f (nI i) made t (nI n) 2 ms v (nI e) us ta rr = F_X4_addTerms_22 (nI L) tg f' (nI i') made t (nI n) 3 ms v' di' us ta rr) := by
  have hL := hT.1
  intro r
  induction r with
  | zero =>
    intro a e i v f g he h1 hia hi hf hg made t ms us ta tm rr
    obtain ⟨f, rfl⟩ : ∃ g, f = g + 1 := ⟨f - 1, by omega⟩
    obtain ⟨g, rfl⟩ : ∃ h, g = h + 1 := ⟨g - 1, by omega⟩
    have h72 : F_X6_readsNumber_20 (nI L) mt (g + 1) (nI a) v (nI i) tm = F_X6_readsNumber_72 (nI L) mt v (nI i) tm := by
      rw [E_X6_readsNumber_20, bnd (m_here (p := 48) (q := 57) hT hi 48 57 rfl rfl (by omega) (by omega)), i3, nI_add, ifLe (by omega) (by omega) (by omega), ite_self]
    rw [h72, num72 hT hi]
    by_cases c : i < L ∧ ch i = 42
    · rw [if_pos c]
      have ht : F_X4_takes (nI n) (nI (ch i)) 2 ms v (nI e) us ta rr = some (1, 3, ms, v, nI e, us, ta, rr) := by rw [c.2, tk_star]; rfl
      exact Or.inr ⟨i + 1, f, v, nI e, by omega, by omega, by omega, rfl, cl_go hT c.1 ht (by decide)⟩
    · rw [if_neg c]
      by_cases ci : i < L
      · obtain ⟨a1, a2, _, _⟩ := hT.2 i ci
        obtain ⟨x, ht⟩ : ∃ x : TR, F_X4_takes (nI n) (nI (ch i)) 2 ms v (nI e) us ta rr = some (0, x) := tk_bad hn a2 (fun _ => by decide) (fun _ => ⟨by decide, by decide⟩) (fun _ _ => ⟨fun q => absurd q (by decide), fun _ => by rw [i3, show e = 3 by omega]⟩) (fun q => absurd ⟨ci, q⟩ c) (fun _ _ => Or.inl rfl)
        exact Or.inl ⟨i, _, _, hi, cl_bad hT ci ht, rfl⟩
      · obtain rfl : i = L := by omega
        exact Or.inl ⟨i, _, _, hi, cl_out hL (by decide), rfl⟩
  | succ r ih =>
    intro a e i v f g he h1 hia hi hf hg made t ms us ta tm rr
    obtain ⟨f, rfl⟩ : ∃ g, f = g + 1 := ⟨f - 1, by omega⟩
    obtain ⟨g, rfl⟩ : ∃ h, g = h + 1 := ⟨g - 1, by omega⟩
    rw [E_X6_readsNumber_20, bnd (m_here (p := 48) (q := 57) hT hi 48 57 rfl rfl (by omega) (by omega))]
    by_cases cd : i < L ∧ 48 ≤ ch i ∧ ch i ≤ 57
    · obtain ⟨a1, a2, a3, a4⟩ := hT.2 i cd.1
      rw [decide_eq_true cd, show bI true = 1 from rfl, if_neg n10, i3, nI_add, ifNle (by omega) (by omega) (by omega), xgI (by omega) (by omega), nI_clamp (by omega), a4, nI_1]
      have ht : F_X4_takes (nI n) (nI (ch i)) 2 ms v (nI e) us ta rr = some (1, 2, ms, 10 * v + nI (ch i) - 48, nI (e + 1), us, ta, rr) := by
        rw [tk_dig cd.2.1 cd.2.2]
        unfold F_X4_takesDigit
        rw [if_neg (show ¬ (2 : Int32) = 0 by decide), if_neg (show ¬ (2 : Int32) = 1 by decide)]
        unfold F_X4_takesDigit_31
        rw [if_pos rfl, i3, ifNe (by omega) (by omega) (by omega), nI_1, show nI (ch i - 48) = nI (ch i) - 48 by rw [l48, pk_sub (by omega)], dg_eq]
        rfl
      rw [cl_go hT cd.1 ht (by decide)]
      rcases ih a (e + 1) (i + 1) _ f g (by omega) (by omega) (by omega) (by omega) (by omega) (by omega) made t ms us ta tm rr with h | ⟨i', f', v', di', q1, q2⟩
      · exact Or.inl h
      · exact Or.inr ⟨i', f', v', di', by omega, q2⟩
    · rw [decide_eq_false cd, show bI false = 0 from rfl, if_pos rfl, num72 hT hi]
      by_cases c : i < L ∧ ch i = 42
      · rw [if_pos c]
        have ht : F_X4_takes (nI n) (nI (ch i)) 2 ms v (nI e) us ta rr = some (1, 3, ms, v, nI e, us, ta, rr) := by rw [c.2, tk_star]; rfl
        exact Or.inr ⟨i + 1, f, v, nI e, by omega, by omega, by omega, rfl, cl_go hT c.1 ht (by decide)⟩
      · rw [if_neg c]
        by_cases ci : i < L
        · obtain ⟨a1, a2, _, _⟩ := hT.2 i ci
          obtain ⟨x, ht⟩ : ∃ x : TR, F_X4_takes (nI n) (nI (ch i)) 2 ms v (nI e) us ta rr = some (0, x) := tk_bad hn a2 (fun _ => by decide) (fun _ => ⟨by decide, by decide⟩) (fun q1 q2 => absurd ⟨ci, q1, q2⟩ cd) (fun q => absurd ⟨ci, q⟩ c) (fun _ _ => Or.inl rfl)
          exact Or.inl ⟨i, _, _, hi, cl_bad hT ci ht, rfl⟩
        · obtain rfl : i = L := by omega
          exact Or.inl ⟨i, _, _, hi, cl_out hL (by decide), rfl⟩
def sgm (ms v : Int32) : Int32 := if ms = 0 then v else -v
theorem sgm_mul (ms v : Int32) : sgm ms 1 * v = sgm ms v := by
  unfold sgm
  by_cases c : ms = 0
  · rw [if_pos c, if_pos c, Int32.one_mul]
  · rw [if_neg c, if_neg c, Int32.neg_mul, Int32.one_mul]
/-- a term's number and order -/
theorem body (hT : TXT L ch tg mt) (hal : al 0 = nI n) (hn : n ≤ 5) (hn1 : 1 ≤ n) {i : Nat} {st ms : Int32} (hst : (st = 0 ∧ (i < L → ch i ≠ 45)) ∨ st = 1) (hi : i ≤ L) {f : Nat} (hf : L - i < f) (made mm : Nat → Int64) (t T : Int32) (rr wd : Nat → Int32) (κ : Int32 → Int32 → Int32 → (Nat → Int32) → (Nat → Int64) → Option (Int32 × Int32 × Int32 × Int32 × (Nat → Int32) × (Nat → Int64))) :
    (∃ j x z, j ≤ L ∧ F_X4_addTerms_22 (nI L) tg f (nI i) made t (nI n) st ms 1 0 0 0 rr = some (nI j, x) ∧ ((F_X6_readsNumber (nI L) mt (nI i) (sgm ms 1)).bind fun q3 => if q3.1 = 0 then some ((0 : Int32), q3.2.1, T, q3.2.2, wd, mm) else (F_X6_readsOrder (nI L) al mt q3.2.1 wd).bind fun q5 => if q5.1 = 0 then some ((0 : Int32), q5.2.1, T, q3.2.2, q5.2.2, mm) else (F_X6_numberOfWord al q5.2.2).bind fun q7 => xg q7 120 (κ q5.2.1 (T + (1 : Int32)) q3.2.2 q5.2.2 (vp_updL mm q7.toNatClampNeg ((mm q7.toNatClampNeg) + q3.2.2.toInt64)))) = some (0, nI j, z)) ∨
    (∃ i' f' K x1 x2 x3 ta rr' tm wd', i < i' ∧ i' ≤ L ∧ L - i' < f' ∧ K < fac n ∧ F_X4_addTerms_22 (nI L) tg f (nI i) made t (nI n) st ms 1 0 0 0 rr = F_X4_addTerms_22 (nI L) tg f' (nI i') (vp_updL made K (made K + tm.toInt64)) (t + 1) (nI n) 5 ms x1 x2 x3 ta rr' ∧
      ((F_X6_readsNumber (nI L) mt (nI i) (sgm ms 1)).bind fun q3 => if q3.1 = 0 then some ((0 : Int32), q3.2.1, T, q3.2.2, wd, mm) else (F_X6_readsOrder (nI L) al mt q3.2.1 wd).bind fun q5 => if q5.1 = 0 then some ((0 : Int32), q5.2.1, T, q3.2.2, q5.2.2, mm) else (F_X6_numberOfWord al q5.2.2).bind fun q7 => xg q7 120 (κ q5.2.1 (T + (1 : Int32)) q3.2.2 q5.2.2 (vp_updL mm q7.toNatClampNeg ((mm q7.toNatClampNeg) + q3.2.2.toInt64)))) = κ (nI i') (T + 1) tm wd' (vp_updL mm K (mm K + tm.toInt64))) := by
  have hL := hT.1
  have hf5 := fac_le hn
  -- behind the number
  have tail : ∀ (i0 f0 : Nat) (st0 v di : Int32), i ≤ i0 → i0 ≤ L → L - i0 < f0 → OK0 L ch i0 st0 → F_X4_addTerms_22 (nI L) tg f (nI i) made t (nI n) st ms 1 0 0 0 rr = F_X4_addTerms_22 (nI L) tg f0 (nI i0) made t (nI n) st0 ms v di 0 0 rr →
      F_X6_readsNumber (nI L) mt (nI i) (sgm ms 1) = some (1, nI i0, sgm ms v) →
      (∃ j x z, j ≤ L ∧ F_X4_addTerms_22 (nI L) tg f (nI i) made t (nI n) st ms 1 0 0 0 rr = some (nI j, x) ∧ ((F_X6_readsNumber (nI L) mt (nI i) (sgm ms 1)).bind fun q3 => if q3.1 = 0 then some ((0 : Int32), q3.2.1, T, q3.2.2, wd, mm) else (F_X6_readsOrder (nI L) al mt q3.2.1 wd).bind fun q5 => if q5.1 = 0 then some ((0 : Int32), q5.2.1, T, q3.2.2, q5.2.2, mm) else (F_X6_numberOfWord al q5.2.2).bind fun q7 => xg q7 120 (κ q5.2.1 (T + (1 : Int32)) q3.2.2 q5.2.2 (vp_updL mm q7.toNatClampNeg ((mm q7.toNatClampNeg) + q3.2.2.toInt64)))) = some (0, nI j, z)) ∨
      (∃ i' f' K x1 x2 x3 ta rr' tm wd', i < i' ∧ i' ≤ L ∧ L - i' < f' ∧ K < fac n ∧ F_X4_addTerms_22 (nI L) tg f (nI i) made t (nI n) st ms 1 0 0 0 rr = F_X4_addTerms_22 (nI L) tg f' (nI i') (vp_updL made K (made K + tm.toInt64)) (t + 1) (nI n) 5 ms x1 x2 x3 ta rr' ∧
        ((F_X6_readsNumber (nI L) mt (nI i) (sgm ms 1)).bind fun q3 => if q3.1 = 0 then some ((0 : Int32), q3.2.1, T, q3.2.2, wd, mm) else (F_X6_readsOrder (nI L) al mt q3.2.1 wd).bind fun q5 => if q5.1 = 0 then some ((0 : Int32), q5.2.1, T, q3.2.2, q5.2.2, mm) else (F_X6_numberOfWord al q5.2.2).bind fun q7 => xg q7 120 (κ q5.2.1 (T + (1 : Int32)) q3.2.2 q5.2.2 (vp_updL mm q7.toNatClampNeg ((mm q7.toNatClampNeg) + q3.2.2.toInt64)))) = κ (nI i') (T + 1) tm wd' (vp_updL mm K (mm K + tm.toInt64))) := by
    intro i0 f0 st0 v di h1 h2 h3 hO hC hM
    rw [hC, bnd hM]
    dsimp only
    rw [if_neg n10]
    unfold F_X6_readsOrder
    rcases ord hT hal hn (n - 1) 0 i0 st0 0 rr wd f0 xF (by omega) h2 hO (fun j hj => absurd hj (by omega)) h3 (xF_ge (by omega)) made t ms v di with ⟨j, x, z, q1, q2, q3⟩ | ⟨i', f', K, us', rr', wd', q1, q2, q3, q4, q5, q6, q7⟩
    · have q3' : F_X6_readsOrder_4 (nI L) al mt xF (0 : Int32) (0 : Int32) (nI i0) wd = some (0, nI j, z) := q3
      have q2' : F_X4_addTerms_22 (nI L) tg f0 (nI i0) made t (nI n) st0 ms v di 0 0 rr = some (nI j, x) := q2
      rw [bnd q3', q2']
      dsimp only
      rw [if_pos rfl]
      exact Or.inl ⟨j, _, _, q1, rfl, rfl⟩
    · have q5' : F_X6_readsOrder_4 (nI L) al mt xF (0 : Int32) (0 : Int32) (nI i0) wd = some (1, nI i', wd') := q5
      have q7' : F_X4_addTerms_22 (nI L) tg f0 (nI i0) made t (nI n) st0 ms v di 0 0 rr = F_X4_addTerms_22 (nI L) tg f' (nI i') (vp_updL made K (made K + (if ms = 0 then v else -v).toInt64)) (t + 1) (nI n) 5 ms v di us' (nI n) rr' := q7
      rw [bnd q5', q7']
      dsimp only
      rw [if_neg n10, bnd q6, xgI (by omega) (by omega), nI_clamp (by omega)]
      exact Or.inr ⟨i', f', K, v, di, us', nI n, rr', sgm ms v, wd', by omega, q2, q3, q4, rfl, rfl⟩
  by_cases cd : i < L ∧ 49 ≤ ch i ∧ ch i ≤ 57
  · obtain ⟨a1, a2, a3, a4⟩ := hT.2 i cd.1
    obtain ⟨f, rfl⟩ : ∃ g, f = g + 1 := ⟨f - 1, by omega⟩
    have ht : F_X4_takes (nI n) (nI (ch i)) st ms 1 0 0 0 rr = some (1, 2, ms, 10 * 0 + nI (ch i) - 48, nI 1, 0, 0, rr) := by
      rw [tk_dig (by omega) cd.2.2]
      have h15 : F_X4_takesDigit_15 (nI (ch i - 48)) st 1 0 = some (1, 2, 10 * 0 + nI (ch i) - 48, nI 1) := by
        unfold F_X4_takesDigit_15
        rw [i0, ifNe (by omega) (by omega) (by omega)]
        unfold F_X4_takesDigit_31
        rw [if_pos rfl, if_neg (by decide), show nI (ch i - 48) = nI (ch i) - 48 by rw [l48, pk_sub (by omega)], ← i0, dg_eq]
        rfl
      have h16 : F_X4_takesDigit (nI (ch i - 48)) st 1 0 = some (1, 2, 10 * 0 + nI (ch i) - 48, nI 1) := by
        unfold F_X4_takesDigit
        rcases hst with ⟨rfl, _⟩ | rfl
        · rw [if_pos rfl, h15]
        · rw [if_neg n10, if_pos rfl, h15]
      rw [bnd h16]
      rfl
    have hm : F_X6_readsNumber (nI L) mt (nI i) (sgm ms 1) = F_X6_readsNumber_20 (nI L) mt 999999 (nI i) (10 * 0 + nI (ch i) - 48) (nI (i + 1)) (sgm ms 1) := by
      unfold F_X6_readsNumber
      rw [bnd (m_here (p := 49) (q := 57) hT hi 49 57 rfl rfl (by omega) (by omega)), decide_eq_true cd, show bI true = 1 from rfl, if_neg n10, show xF = 999999 + 1 from rfl, E_X6_readsNumber_20, bnd (m_here (p := 48) (q := 57) hT hi 48 57 rfl rfl (by omega) (by omega)), decide_eq_true (show i < L ∧ 48 ≤ ch i ∧ ch i ≤ 57 from ⟨cd.1, by omega, cd.2.2⟩), show bI true = 1 from rfl, if_neg n10, i3, nI_add, ifNle (by omega) (by omega) (by omega), xgI (by omega) (by omega), nI_clamp (by omega), a4, nI_1]
    have hc := cl_go (f := f) (made := made) (t := t) hT cd.1 ht (by decide)
    rcases numb (n := n) hT hn 2 i 1 (i + 1) (10 * 0 + nI (ch i) - 48) f 999999 (by omega) (by omega) (by omega) (by omega) (by omega) (by omega) made t ms 0 0 (sgm ms 1) rr with ⟨j, x, z, q1, q2, q3⟩ | ⟨i', f', v', di', q1, q2, q3, q4, q5⟩
    · rw [hc, q2, hm, bnd q3]
      dsimp only
      rw [if_pos rfl]
      exact Or.inl ⟨j, _, _, q1, rfl, rfl⟩
    · exact tail i' f' 3 v' di' (by omega) q2 q3 (Or.inr (Or.inr (Or.inl rfl))) (hc.trans q5) (by rw [hm, q4, sgm_mul])
  · refine tail i f st 1 0 (Nat.le_refl _) hi hf ?_ rfl ?_
    · rcases hst with ⟨rfl, h⟩ | rfl
      · exact Or.inl ⟨rfl, fun q => ⟨h q, fun q2 => cd ⟨q, q2⟩⟩⟩
      · exact Or.inr (Or.inl ⟨rfl, fun q q2 => cd ⟨q, q2⟩⟩)
    · unfold F_X6_readsNumber
      rw [bnd (m_here (p := 49) (q := 57) hT hi 49 57 rfl rfl (by omega) (by omega)), decide_eq_false cd, show bI false = 0 from rfl, if_pos rfl]
/-! the sign ahead of a term -/
theorem msg (hT : TXT L ch tg mt) {i : Nat} (hi : i ≤ L) (p tm : Int32) (hp : p = 0 ∨ p = 1) :
    (i < L ∧ ch i = 45 ∧ F_X6_readsSign (nI L) mt p (nI i) tm = some (1, nI (i + 1), sgm 1 1)) ∨ (i < L ∧ ch i = 43 ∧ p = 0 ∧ F_X6_readsSign (nI L) mt p (nI i) tm = some (1, nI (i + 1), sgm 0 1)) ∨ ((i < L → ch i ≠ 45) ∧ p = 1 ∧ F_X6_readsSign (nI L) mt p (nI i) tm = some (1, nI i, sgm 0 1)) ∨ ((i < L → ch i ≠ 45 ∧ ch i ≠ 43) ∧ p = 0 ∧ ∃ z, F_X6_readsSign (nI L) mt p (nI i) tm = some (0, nI i, z)) := by
  have h1 := m_here hT hi (p := 45) (q := 45) 45 45 rfl rfl (by omega) (by omega)
  have h2 := m_here hT hi (p := 43) (q := 43) 43 43 rfl rfl (by omega) (by omega)
  unfold F_X6_readsSign
  rw [bnd h1, bnd h2]
  by_cases c1 : i < L ∧ ch i = 45
  · refine Or.inl ⟨c1.1, c1.2, ?_⟩
    rw [decide_eq_true (show i < L ∧ 45 ≤ ch i ∧ ch i ≤ 45 from ⟨c1.1, by omega, by omega⟩), decide_eq_false (show ¬ (i < L ∧ 43 ≤ ch i ∧ ch i ≤ 43) from fun q => by omega), show bI true = 1 from rfl, show bI false = 0 from rfl, if_pos rfl]
    unfold F_X6_readsSign_28 F_X6_readsSign_29 F_X6_readsSign_43 F_X6_readsSign_48 F_X6_readsSign_62
    rcases hp with rfl | rfl
    · rw [if_neg n10, if_neg n10, if_pos rfl, if_neg n10, nI_1]; rfl
    · rw [if_neg n10, if_neg n10, if_neg n10, nI_1]; rfl
  rw [decide_eq_false (show ¬ (i < L ∧ 45 ≤ ch i ∧ ch i ≤ 45) from fun q => c1 ⟨q.1, by omega⟩), show bI false = 0 from rfl]
  have e28 : F_X6_readsSign_28 p 0 (nI i) tm = F_X6_readsSign_62 p 0 0 1 (nI i) tm := by
    unfold F_X6_readsSign_28 F_X6_readsSign_29 F_X6_readsSign_48
    rw [if_pos rfl, if_pos rfl, if_pos rfl, Int32.add_zero]
  by_cases c2 : i < L ∧ ch i = 43
  · rw [decide_eq_true (show i < L ∧ 43 ≤ ch i ∧ ch i ≤ 43 from ⟨c2.1, by omega, by omega⟩), show bI true = 1 from rfl, if_neg n10]
    rcases hp with rfl | rfl
    · refine Or.inr (Or.inl ⟨c2.1, c2.2, rfl, ?_⟩)
      rw [if_pos rfl]
      unfold F_X6_readsSign_29 F_X6_readsSign_43 F_X6_readsSign_48 F_X6_readsSign_62
      rw [if_pos rfl, if_neg n10, if_pos rfl, if_pos rfl, if_pos rfl, if_neg n10, nI_1]; rfl
    · refine Or.inr (Or.inr (Or.inl ⟨fun q q2 => c1 ⟨q, q2⟩, rfl, ?_⟩))
      rw [if_neg n10, e28]
      unfold F_X6_readsSign_62
      rw [if_neg n10]; rfl
  · rw [decide_eq_false (show ¬ (i < L ∧ 43 ≤ ch i ∧ ch i ≤ 43) from fun q => c2 ⟨q.1, by omega⟩), show bI false = 0 from rfl, if_pos rfl, e28]
    unfold F_X6_readsSign_62
    rcases hp with rfl | rfl
    · refine Or.inr (Or.inr (Or.inr ⟨fun q => ⟨fun q2 => c1 ⟨q, q2⟩, fun q2 => c2 ⟨q, q2⟩⟩, rfl, 1, ?_⟩))
      rw [if_pos rfl, if_pos rfl, if_pos rfl]
    · refine Or.inr (Or.inr (Or.inl ⟨fun q q2 => c1 ⟨q, q2⟩, rfl, ?_⟩))
      rw [if_neg n10]; rfl
theorem SM.step {made mm : Nat → Int64} (h : SM n made mm) {K : Nat} (hK : K < fac n) (x : Int64) : SM n (vp_updL made K (made K + x)) (vp_updL mm K (mm K + x)) := by
  obtain ⟨h1, h2⟩ := h
  refine ⟨fun o ho => ?_, fun o h3 h4 => ?_⟩
  · by_cases c : o = K
    · subst c; rw [pk_uLs, pk_uLs, h1 o ho]
    · rw [pk_uLn c, pk_uLn c, h1 o ho]
  · rw [pk_uLn (by omega)]; exact h2 o h3 h4
theorem rd (hT : TXT L ch tg mt) (hal : al 0 = nI n) (hn : n ≤ 5) (hn1 : 1 ≤ n) : ∀ d i T f g (st ms nu di us ta : Int32) (rr wd : Nat → Int32) (tm : Int32) (made mm : Nat → Int64), L - i < d → i ≤ L → T ≤ i → L - i < f → d < g → (T = 0 ∧ st = 0 ∧ ms = 0 ∧ nu = 1 ∧ di = 0 ∧ us = 0 ∧ ta = 0) ∨ (0 < T ∧ st = 5) → SM n made mm →
    (∃ j x z, j ≤ L ∧ F_X4_addTerms_22 (nI L) tg f (nI i) made (nI T) (nI n) st ms nu di us ta rr = some (nI j, x) ∧ F_X6_reads_10 (nI L) al mt g (nI i) (nI T) tm wd mm = some (0, nI j, z)) ∨
    (∃ T' x made' mm' i' tm' wd', F_X4_addTerms_22 (nI L) tg f (nI i) made (nI T) (nI n) st ms nu di us ta rr = some (-1, made', nI T', x) ∧ F_X6_reads_10 (nI L) al mt g (nI i) (nI T) tm wd mm = some (1, nI i', nI T', tm', wd', mm') ∧ SM n made' mm') := by
  have hL := hT.1
  intro d
  induction d with
  | zero => intro i T f g st ms nu di us ta rr wd tm made mm h; omega
  | succ d ih =>
    intro i T f g st ms nu di us ta rr wd tm made mm hd hi hTi hf hg hst hSM
    obtain ⟨f, rfl⟩ : ∃ g, f = g + 1 := ⟨f - 1, by omega⟩
    obtain ⟨g, rfl⟩ : ∃ h, g = h + 1 := ⟨g - 1, by omega⟩
    -- a term behind its sign
    have term : ∀ (i0 f0 : Nat) (st0 ms0 tm0 p : Int32), i ≤ i0 → i0 ≤ L → L - i0 < f0 → ((st0 = 0 ∧ (i0 < L → ch i0 ≠ 45)) ∨ st0 = 1) → tm0 = sgm ms0 1 → F_X4_addTerms_22 (nI L) tg (f + 1) (nI i) made (nI T) (nI n) st ms nu di us ta rr = F_X4_addTerms_22 (nI L) tg f0 (nI i0) made (nI T) (nI n) st0 ms0 1 0 0 0 rr → F_X6_readsSign (nI L) mt p (nI i) tm = some (1, nI i0, tm0) →
        (∃ j x z, j ≤ L ∧ F_X4_addTerms_22 (nI L) tg (f + 1) (nI i) made (nI T) (nI n) st ms nu di us ta rr = some (nI j, x) ∧ F_X6_reads_41 (nI L) al mt (F_X6_reads_10 (nI L) al mt g) p (nI i) (nI T) tm wd mm = some (0, nI j, z)) ∨
        (∃ T' x made' mm' i' tm' wd', F_X4_addTerms_22 (nI L) tg (f + 1) (nI i) made (nI T) (nI n) st ms nu di us ta rr = some (-1, made', nI T', x) ∧ F_X6_reads_41 (nI L) al mt (F_X6_reads_10 (nI L) al mt g) p (nI i) (nI T) tm wd mm = some (1, nI i', nI T', tm', wd', mm') ∧ SM n made' mm') := by
      intro i0 f0 st0 ms0 tm0 p h1 h2 h3 h4 h5 hC hM
      subst h5
      unfold F_X6_reads_41
      rw [hC, bnd hM]
      dsimp only
      rw [if_neg n10]
      rcases body hT hal hn hn1 h4 h2 h3 made mm (nI T) (nI T) rr wd (F_X6_reads_10 (nI L) al mt g) with ⟨j, x, z, q1, q2, q3⟩ | ⟨i', f', K, x1, x2, x3, ta', rr', tm', wd', q1, q2, q3, q4, q5, q6⟩
      · exact Or.inl ⟨j, x, z, q1, q2, q3⟩
      · rw [q5, q6, nI_1]
        exact ih i' (T + 1) f' g 5 ms0 x1 x2 x3 ta' rr' wd' tm' _ _ (by omega) q2 (by omega) q3 (by omega) (Or.inr ⟨by omega, rfl⟩) (hSM.step q4 tm'.toInt64)
    rcases hst with ⟨rfl, rfl, rfl, rfl, rfl, rfl, rfl⟩ | ⟨hT0, rfl⟩
    · have e10 : F_X6_reads_10 (nI L) al mt (g + 1) (nI i) (nI 0) tm wd mm = F_X6_reads_41 (nI L) al mt (F_X6_reads_10 (nI L) al mt g) 1 (nI i) (nI 0) tm wd mm := by
        rw [E_X6_reads_10, if_pos nI_0]
        unfold F_X6_reads_28
        rw [if_pos nI_0]
      rw [e10]
      rcases msg hT hi 1 tm (Or.inr rfl) with ⟨c1, c2, hM⟩ | ⟨c1, c2, c3, hM⟩ | ⟨c1, c2, hM⟩ | ⟨c1, c2, z, hM⟩
      · refine term (i + 1) f 1 1 _ 1 (by omega) (by omega) (by omega) (Or.inr rfl) rfl ?_ hM
        exact cl_go hT c1 (by rw [c2, tk_mi]; exact tk_sg (Or.inr rfl) (Or.inr ⟨rfl, rfl⟩)) (by decide)
      · exact absurd c3 (by decide)
      · exact term i (f + 1) 0 0 _ 1 (Nat.le_refl _) hi hf (Or.inl ⟨rfl, c1⟩) rfl rfl hM
      · exact absurd c2 (by decide)
    · by_cases ci : i < L
      · have e10 : F_X6_reads_10 (nI L) al mt (g + 1) (nI i) (nI T) tm wd mm = F_X6_reads_41 (nI L) al mt (F_X6_reads_10 (nI L) al mt g) 0 (nI i) (nI T) tm wd mm := by
          rw [E_X6_reads_10, if_neg (nI_ne0 hT0 (by omega)), ifNle (by omega) (by omega) ci]
          unfold F_X6_reads_28
          rw [if_neg (nI_ne0 hT0 (by omega))]
        rw [e10]
        obtain ⟨a1, a2, a3, a4⟩ := hT.2 i ci
        rcases msg hT hi 0 tm (Or.inl rfl) with ⟨c1, c2, hM⟩ | ⟨c1, c2, c3, hM⟩ | ⟨c1, c2, hM⟩ | ⟨c1, c2, z, hM⟩
        · refine term (i + 1) f 1 1 _ 0 (by omega) (by omega) (by omega) (Or.inr rfl) rfl ?_ hM
          exact cl_go hT c1 (by rw [c2, tk_mi]; exact tk_sg (Or.inr rfl) (Or.inl rfl)) (by decide)
        · refine term (i + 1) f 1 0 _ 0 (by omega) (by omega) (by omega) (Or.inr rfl) rfl ?_ hM
          exact cl_go hT c1 (by rw [c2, tk_pl]; exact tk_sg (Or.inl rfl) (Or.inl rfl)) (by decide)
        · exact absurd c2 (by decide)
        · obtain ⟨d1, d2⟩ := c1 ci
          obtain ⟨x, ht⟩ : ∃ x : TR, F_X4_takes (nI n) (nI (ch i)) 5 ms nu di us ta rr = some (0, x) := tk_bad hn a2 (fun q => absurd q d2) (fun q => absurd q d1) (fun _ _ => ⟨fun q => by rcases q with q | q <;> exact absurd q (by decide), fun q => absurd q (by decide)⟩) (fun _ => by decide) (fun _ _ => Or.inr rfl)
          unfold F_X6_reads_41
          rw [bnd hM]
          dsimp only
          rw [if_pos rfl]
          exact Or.inl ⟨i, _, _, hi, cl_bad hT ci ht, rfl⟩
      · obtain rfl : i = L := by omega
        rw [E_X6_reads_10, if_neg (nI_ne0 hT0 (by omega)), ifLe (by omega) (by omega) (by omega), cl_out5 hL]
        exact Or.inr ⟨T, _, made, mm, _, _, _, rfl, rfl, hSM⟩
/-! the whole reading -/
theorem rd_all (hT : TXT L ch tg mt) (hal : al 0 = nI n) (hn : n ≤ 5) (hn1 : 1 ≤ n) (tm0 tn0 st ms nu di us ta : Int32) (rr wd : Nat → Int32) (sp te tm : Int32) {made mm : Nat → Int64} (hSM : SM n made mm) :
    (∃ j x z, j ≤ L ∧ F_X4_addTerms (nI L) tg (nI n) made tm0 tn0 st ms nu di us ta rr = some (nI j, x) ∧ F_X6_reads (nI L) al mt sp te tm wd mm = some (0, nI j, z)) ∨
    (∃ T' x made' mm' i' tm' wd', F_X4_addTerms (nI L) tg (nI n) made tm0 tn0 st ms nu di us ta rr = some (-1, made', nI T', x) ∧ F_X6_reads (nI L) al mt sp te tm wd mm = some (1, nI i', nI T', tm', wd', mm') ∧ SM n made' mm') := by
  have hL := hT.1
  have h := rd hT hal hn hn1 100 0 0 xF xF 0 0 1 0 0 0 rr wd tm made mm (by omega) (by omega) (by omega) (xF_ge (by omega)) (xF_ge (by omega)) (Or.inl ⟨rfl, rfl, rfl, rfl, rfl, rfl, rfl⟩) hSM
  rw [nI_0] at h
  unfold F_X4_addTerms F_X6_reads
  rw [bnd (show F_X4_beginTerm (0 : Int32) (0 : Int32) st ms nu di us ta = some (0, 0, 1, 0, 0, 0) from rfl)]
  exact h
end TY
/-! the calls -/
def RT (xl ml : Int32) (tg mt : Nat → Int32) : Prop := ∃ L ch, xl = nI L ∧ ml = nI L ∧ TXT L ch tg mt
theorem ag_clearText {xl ml : Int32} {tg mt : Nat → Int32} (h : RT xl ml tg mt) : ∃ r, F_X5_clearText xl = some (r, 0) ∧ F_X6_clearText ml = some (r, 0) ∧ RT 0 0 tg mt := by
  obtain ⟨L, ch, rfl, rfl, hT⟩ := h
  exact ⟨nI L, rfl, rfl, 0, ch, rfl, rfl, Nat.zero_le _, fun j hj => absurd hj (by omega)⟩
theorem ag_type {xl ml : Int32} {tg mt : Nat → Int32} (h : RT xl ml tg mt) (p1 : Int32) : ∃ r xl' tg' ml' mt', F_X5_type p1 xl tg = some (r, xl', tg') ∧ F_X6_type p1 ml mt = some (r, ml', mt') ∧ RT xl' ml' tg' mt' := by
  obtain ⟨L, ch, rfl, rfl, hT⟩ := h
  have hL := hT.1
  unfold F_X5_type F_X6_type
  rw [m_in' (lo := 32) (hi := 126) 32 126 rfl rfl]
  rcases within_c p1 32 126 with hw | hw
  · rw [bnd hw, bnd hw, if_neg n10, if_neg n10]
    obtain ⟨c, hc1, hc2, rfl⟩ : ∃ c, 32 ≤ c ∧ c ≤ 126 ∧ p1 = nI c := by
      have h1 : ¬ p1 < 32 := fun q => by rw [isW_f (Or.inl q)] at hw; exact absurd hw (by decide)
      have h2 : ¬ 126 < p1 := fun q => by rw [isW_f (Or.inr q)] at hw; exact absurd hw (by decide)
      rcases pk_ix p1 (n := 127) (by omega) with q | q | ⟨c, hc, rfl⟩
      · exact absurd (Int32.lt_trans q (by decide)) h1
      · exact absurd (Int32.lt_of_lt_of_le (show (126 : Int32) < nI 127 by decide) q) h2
      · refine ⟨c, ?_, by omega, rfl⟩
        false_or_by_contra
        exact h1 (nI_lt (a := c) (b := 32) (by omega) (by omega))
    unfold F_X2_isFull
    rw [show (60 : Int32) = nI 60 from rfl]
    by_cases c60 : L < 60
    · have ec : ((nI c).toUInt32 % 65536).toInt32 = nI c := by rw [pk_char, pk_tn (by omega), Nat.mod_eq_of_lt (by omega)]
      have ev : vp_nar .char (nI c) = nI c := by rw [← ec, pk_vc]
      rw [ifLt (by omega) (by omega) c60, ifNe (by omega) (by omega) (by omega), ec, bnd (show (some (0 : Int32)) = some 0 from rfl), if_pos rfl]
      unfold F_X2_append
      rw [xgI (by omega) (by omega), xgI (by omega) (by omega), ev, nI_1, nI_clamp (by omega)]
      refine ⟨_, _, _, _, _, rfl, rfl, L + 1, fun j => if j = L then c else ch j, rfl, rfl, by omega, fun j hj => ?_⟩
      show 32 ≤ (if j = L then c else ch j) ∧ (if j = L then c else ch j) ≤ 126 ∧ upd tg L (nI c) j = nI (if j = L then c else ch j) ∧ upd mt L (nI c) j = nI (if j = L then c else ch j)
      by_cases q : j = L
      · subst q; rw [pk_us, pk_us, if_pos rfl]; exact ⟨hc1, hc2, rfl, rfl⟩
      · rw [pk_un q, pk_un q, if_neg q]; exact hT.2 j (by omega)
    · obtain rfl : L = 60 := by omega
      rw [ifNlt (by omega) (by omega) (by omega), ifEq rfl]
      exact ⟨_, _, _, _, _, rfl, rfl, 60, ch, rfl, rfl, hT⟩
  · rw [bnd hw, bnd hw, if_pos rfl, if_pos rfl]
    exact ⟨_, _, _, _, _, rfl, rfl, L, ch, rfl, rfl, hT⟩
section AH
variable {n : Nat} {s : Nat → Nat → Int32} {al : Nat → Int32} {hm hx : Int32} {hl : Nat → Int32} {hf : Nat → Nat → Int32} {hlong : Int32} {mh : Nat → Int32}
theorem nI_m1 {j : Nat} (hj : j < 1000) : ¬ nI j = -1 := fun q => by
  have h1 : nI j < 0 := by rw [q]; decide
  exact nI_pos (by omega) h1
theorem ag_fault {xl ml : Int32} {tg mt : Nat → Int32} (h : RT xl ml tg mt) (hS : RS n s al) (made mm : Nat → Int64) (te tn st ms nu di us ta : Int32) (rr wd : Nat → Int32) (sp mte tm : Int32) :
    ∃ r made' te' tn' st' ms' nu' di' us' ta' rr' sp' mte' tm' wd' mm', F_X5_fault xl tg (nI n) (nI (fac n)) made te tn st ms nu di us ta rr = some (r, made', te', tn', st', ms', nu', di', us', ta', rr') ∧ F_X6_fault ml al mt sp mte tm wd mm = some (r, sp', mte', tm', wd', mm') := by
  obtain ⟨L, ch, rfl, rfl, hT⟩ := h
  have hL := hT.1
  have hn5 := hS.2.1
  have hf5 := fac_le hn5
  unfold F_X5_fault F_X6_fault
  rw [bnd (x_makeZeros (fac n) hf5 made), bnd (m_empties mm)]
  have hSM : SM n (fun j => if j < fac n then 0 else made j) (fun j => if j < 120 then 0 else mm j) := ⟨fun o ho => by show (if _ then _ else _) = (if _ then _ else _); rw [if_pos ho, if_pos (by omega)], fun o h1 h2 => by show (if _ then _ else _) = _; rw [if_pos h2]⟩
  rcases rd_all hT hS.2.2.1 hn5 hS.1 te tn st ms nu di us ta rr wd sp mte tm hSM with ⟨j, x, z, q1, q2, q3⟩ | ⟨T', x, made', mm', i', tm', wd', q1, q2, q3⟩
  · rw [bnd q2, bnd q3]
    dsimp only
    rw [if_neg (nI_m1 (by omega)), if_pos rfl]
    exact ⟨_, _, _, _, _, _, _, _, _, _, _, _, _, _, _, _, rfl, rfl⟩
  · rw [bnd q1, bnd q2]
    dsimp only
    rw [if_pos rfl, if_neg n10]
    exact ⟨_, _, _, _, _, _, _, _, _, _, _, _, _, _, _, _, rfl, rfl⟩
theorem ag_read {xl ml : Int32} {tg mt : Nat → Int32} (h : RT xl ml tg mt) (hS : RS n s al) (hR : RH hm hx hl hf hlong mh) (p1 : Int32) (made mm : Nat → Int64) (te tn st ms nu di us ta : Int32) (rr wd : Nat → Int32) (sp mte tm : Int32) :
    ∃ r s' made' hm' hx' hl' hf' te' tn' st' ms' nu' di' us' ta' rr' hlong' sp' mte' tm' al' mh' wd' mm', F_X5_read xl tg (nI n) (nI (fac n)) p1 s made hm hx hl hf te tn st ms nu di us ta rr = some (r, s', made', hm', hx', hl', hf', te', tn', st', ms', nu', di', us', ta', rr') ∧ F_X6_read ml mt p1 hlong sp mte tm al mh wd mm = some (r, hlong', sp', mte', tm', al', mh', wd', mm') ∧ RS n s' al' ∧ RH hm' hx' hl' hf' hlong' mh' := by
  obtain ⟨L, ch, rfl, rfl, hT⟩ := h
  have hL := hT.1
  have hn5 := hS.2.1
  have hf5 := fac_le hn5
  unfold F_X5_read F_X6_read
  rw [m_isSum]
  rcases sum_c p1 with h | ⟨i, hi, rfl, h⟩
  · rw [bnd h, bnd h, if_pos rfl, if_pos rfl]
    exact ⟨_, _, _, _, _, _, _, _, _, _, _, _, _, _, _, _, _, _, _, _, _, _, _, _, rfl, rfl, hS, hR⟩
  rw [bnd h, bnd h, if_neg n10, if_neg n10, bnd (x_makeCopyOf (fac n) i hf5 hi s made), bnd (m_begins hi mm)]
  have hSM : SM n (fun j => if j < fac n then (s i j).toInt64 else made j) (fun j => if j < 120 then (al (4 + 120 * i + j)).toInt64 else mm j) := ⟨fun o ho => by show (if _ then _ else _) = (if _ then _ else _); rw [if_pos ho, if_pos (by omega), hS.get hi (by omega)], fun o h1 h2 => by show (if _ then _ else _) = _; rw [if_pos h2, hS.get hi h2, hS.zero hi h2 h1]; rfl⟩
  rcases rd_all hT hS.2.2.1 hn5 hS.1 te tn st ms nu di us ta rr wd sp mte tm hSM with ⟨j, x, z, q1, q2, q3⟩ | ⟨T', x, made', mm', i', tm', wd', q1, q2, q3⟩
  · rw [bnd q2, bnd q3]
    dsimp only
    rw [if_neg (nI_m1 (by omega)), if_pos rfl]
    exact ⟨_, _, _, _, _, _, _, _, _, _, _, _, _, _, _, _, _, _, _, _, _, _, _, _, rfl, rfl, hS, hR⟩
  · rw [bnd q1, bnd q2]
    dsimp only
    rw [if_pos rfl, if_neg n10]
    obtain ⟨r, s', hm', hx', hl', hf', hlong', al', mh', e1, e2, e3, e4⟩ := chg hS hR hi (nI T') q3.1 q3.2
    rw [bnd e1, bnd e2]
    exact ⟨_, _, _, _, _, _, _, _, _, _, _, _, _, _, _, _, _, _, _, _, _, _, _, _, rfl, rfl, e3, e4⟩
end AH
