/-! texts: the class goes sign by sign, the model part by part: they read alike -/
def TXT (L : Nat) (ch : Nat → Nat) (tg mt : Nat → Int32) : Prop := L ≤ 60 ∧ ∀ j, j < L → 32 ≤ ch j ∧ ch j ≤ 126 ∧ tg j = nI (ch j) ∧ mt j = nI (ch j)
theorem xcI {α : Type} {c : Nat} (h : c < 65536) (k : Option α) : xc (nI c) k = k := by
  unfold xc
  exact if_neg (nI_in h (by omega))
theorem l43 : (43 : Int32) = nI 43 := rfl
theorem l45 : (45 : Int32) = nI 45 := rfl
theorem l48 : (48 : Int32) = nI 48 := rfl
theorem l57 : (57 : Int32) = nI 57 := rfl
theorem l42 : (42 : Int32) = nI 42 := rfl
theorem l97 : (97 : Int32) = nI 97 := rfl
theorem bit01 (x : Int32) : x &&& 1 = 0 ∨ x &&& 1 = 1 := by
  obtain ⟨j, hj, e⟩ := pk_andE x (m := 1) 1 (by decide)
  rw [e]
  rcases (show j = 0 ∨ j = 1 by omega) with rfl | rfl
  · exact Or.inl rfl
  · exact Or.inr rfl
theorem sbN_le (n : Nat) (w : Nat → Nat) (i : Nat) : sbN n w i ≤ n - (i + 1) := by
  have : ∀ d j c, itr (fun j c => if w j < w i then c + 1 else c) d j c ≤ c + d := by
    intro d
    induction d with
    | zero => intro j c; exact Nat.le_refl _
    | succ d ih =>
      intro j c
      show itr _ d (j + 1) (if w j < w i then c + 1 else c) ≤ _
      by_cases h : w j < w i
      · rw [if_pos h]; have := ih (j + 1) (c + 1); omega
      · rw [if_neg h]; have := ih (j + 1) c; omega
  have h := this (n - (i + 1)) (i + 1) 0
  unfold sbN
  omega
theorem nm_lt {n : Nat} (hn : n ≤ 5) (w : Nat → Nat) : nm n w < fac n := by
  have h0 := sbN_le n w 0
  have h1 := sbN_le n w 1
  have h2 := sbN_le n w 2
  have h3 := sbN_le n w 3
  have h4 := sbN_le n w 4
  rcases (show n = 0 ∨ n = 1 ∨ n = 2 ∨ n = 3 ∨ n = 4 ∨ n = 5 by omega) with rfl | rfl | rfl | rfl | rfl | rfl
  · show 0 < 1; omega
  · show 0 * 1 + sbN 1 w 0 < 1; omega
  · show (0 * 2 + sbN 2 w 0) * 1 + sbN 2 w 1 < 2; omega
  · show ((0 * 3 + sbN 3 w 0) * 2 + sbN 3 w 1) * 1 + sbN 3 w 2 < 6; omega
  · show (((0 * 4 + sbN 4 w 0) * 3 + sbN 4 w 1) * 2 + sbN 4 w 2) * 1 + sbN 4 w 3 < 24; omega
  · show ((((0 * 5 + sbN 5 w 0) * 4 + sbN 5 w 1) * 3 + sbN 5 w 2) * 2 + sbN 5 w 3) * 1 + sbN 5 w 4 < 120; omega
section TX
variable {n L : Nat} {ch : Nat → Nat} {tg mt al : Nat → Int32}
theorem x_signAt (hT : TXT L ch tg mt) {i : Nat} (hi : i < L) : F_X2_signAt tg (nI i) = some (nI (ch i)) := by
  obtain ⟨h1, h2, h3, h4⟩ := hT.2 i hi
  have := hT.1
  unfold F_X2_signAt
  rw [xgI (by omega) (by omega), nI_clamp (by omega), h3, xcI (by omega)]
theorem m_here (hT : TXT L ch tg mt) {i : Nat} (hi : i ≤ L) {p q : Int32} (lo hi' : Nat) (hp : p = nI lo) (hq : q = nI hi') (h1 : lo < 1000) (h2 : hi' < 1000) : F_X6_isHere (nI L) (nI i) mt p q = some (bI (decide (i < L ∧ lo ≤ ch i ∧ ch i ≤ hi'))) := by
  have hL := hT.1
  subst hp hq
  unfold F_X6_isHere
  by_cases c : i < L
  · obtain ⟨a1, a2, a3, a4⟩ := hT.2 i c
    rw [ifNle (by omega) (by omega) (by omega), xgI (by omega) (by omega), nI_clamp (by omega), a4, m_in]
    by_cases c2 : lo ≤ ch i ∧ ch i ≤ hi'
    · rw [bnd (isW_t (nI_le c2.1 (by omega)) (nI_le c2.2 (by omega))), if_neg n10, decide_eq_true ⟨c, c2⟩]; rfl
    · have h3 : nI (ch i) < nI lo ∨ nI hi' < nI (ch i) := by
        by_cases c3 : lo ≤ ch i
        · exact Or.inr (nI_lt (by omega) (by omega))
        · exact Or.inl (nI_lt (by omega) (by omega))
      rw [bnd (isW_f h3), if_pos rfl, decide_eq_false (fun q => c2 q.2)]; rfl
  · rw [ifLe (by omega) (by omega) (by omega), decide_eq_false (fun q => c q.1)]; rfl
abbrev TR : Type := Int32 × Int32 × Int32 × Int32 × Int32 × Int32 × (Nat → Int32)
section CLS
variable {i f : Nat} {made : Nat → Int64} {t nn st ms nu di us ta st' ms' nu' di' us' ta' : Int32} {rr rr' : Nat → Int32}
theorem cl_bad (hT : TXT L ch tg mt) (hi : i < L) {x : TR} (h : F_X4_takes nn (nI (ch i)) st ms nu di us ta rr = some (0, x)) : F_X4_addTerms_22 (nI L) tg (f + 1) (nI i) made t nn st ms nu di us ta rr = some (nI i, made, t, nn, x) := by
  have hL := hT.1
  obtain ⟨a1, a2, a3, a4, a5, a6, a7⟩ := x
  rw [E_X4_addTerms_22, ifNle (by omega) (by omega) (by omega), bnd (x_signAt hT hi), bnd h]
  dsimp only
  rw [if_pos rfl]
theorem cl_go (hT : TXT L ch tg mt) (hi : i < L) (h : F_X4_takes nn (nI (ch i)) st ms nu di us ta rr = some (1, st', ms', nu', di', us', ta', rr')) (h5 : ¬ st' = 5) : F_X4_addTerms_22 (nI L) tg (f + 1) (nI i) made t nn st ms nu di us ta rr = F_X4_addTerms_22 (nI L) tg f (nI (i + 1)) made t nn st' ms' nu' di' us' ta' rr' := by
  have hL := hT.1
  rw [E_X4_addTerms_22, ifNle (by omega) (by omega) (by omega), bnd (x_signAt hT hi), bnd h]
  dsimp only
  rw [if_neg n10, if_neg h5, nI_1]
theorem cl_end (hT : TXT L ch tg mt) (hi : i < L) (h : F_X4_takes nn (nI (ch i)) st ms nu di us ta rr = some (1, 5, ms', nu', di', us', ta', rr')) {k : Nat} (hk : k < 120) (hk2 : F_X1_numberOf 5 rr' nn = some (nI k)) :
    F_X4_addTerms_22 (nI L) tg (f + 1) (nI i) made t nn st ms nu di us ta rr = F_X4_addTerms_22 (nI L) tg f (nI (i + 1)) (vp_updL made k (made k + (if ms' = 0 then nu' else -nu').toInt64)) (t + 1) nn 5 ms' nu' di' us' ta' rr' := by
  have hL := hT.1
  rw [E_X4_addTerms_22, ifNle (by omega) (by omega) (by omega), bnd (x_signAt hT hi), bnd h]
  dsimp only
  rw [if_neg n10, if_pos rfl, bnd hk2, xgI (by omega) (by omega)]
  by_cases c : ms' = 0
  · rw [if_pos c, if_pos c]; unfold F_X4_addTerms_90; rw [xgI (by omega) (by omega), nI_clamp (by omega), nI_1]
  · rw [if_neg c, if_neg c]; unfold F_X4_addTerms_90; rw [xgI (by omega) (by omega), nI_clamp (by omega), nI_1]
theorem cl_out (hL : L ≤ 60) (h5 : ¬ st = 5) : F_X4_addTerms_22 (nI L) tg (f + 1) (nI L) made t nn st ms nu di us ta rr = some (nI L, made, t, nn, st, ms, nu, di, us, ta, rr) := by
  rw [E_X4_addTerms_22, ifLe (by omega) (by omega) (by omega), if_neg h5]
theorem cl_out5 (hL : L ≤ 60) : F_X4_addTerms_22 (nI L) tg (f + 1) (nI L) made t nn 5 ms nu di us ta rr = some (-1, made, t, nn, 5, ms, nu, di, us, ta, rr) := by
  rw [E_X4_addTerms_22, ifLe (by omega) (by omega) (by omega), if_pos rfl]
/-! what the class does with a sign -/
theorem tk_dig {c : Nat} (h1 : 48 ≤ c) (h2 : c ≤ 57) : F_X4_takes nn (nI c) st ms nu di us ta rr = (F_X4_takesDigit (nI (c - 48)) st nu di).bind fun q5 => xb q5.1 (some (q5.1, q5.2.1, ms, q5.2.2.1, q5.2.2.2, us, ta, rr)) := by
  unfold F_X4_takes
  rw [l43, l45, l48, l57, ifNe (by omega) (by omega) (by omega), ifNe (by omega) (by omega) (by omega), ifNlt (by omega) (by omega) (by omega), ifNlt (by omega) (by omega) (by omega), pk_sub (by omega)]
theorem tk_other {c : Nat} (h1 : c ≠ 43) (h2 : c ≠ 45) (h3 : ¬ (48 ≤ c ∧ c ≤ 57)) (h4 : c ≤ 126) : F_X4_takes nn (nI c) st ms nu di us ta rr = F_X4_takes_49 nn (nI c) st ms nu di us ta rr := by
  unfold F_X4_takes
  rw [l43, l45, l48, l57, ifNe (by omega) (by omega) (by omega), ifNe (by omega) (by omega) (by omega)]
  by_cases c1 : c < 48
  · rw [ifLt (by omega) (by omega) c1]
  · rw [ifNlt (by omega) (by omega) (by omega), ifLt (by omega) (by omega) (by omega)]
theorem tk_star : F_X4_takes nn (nI 42) st ms nu di us ta rr = (F_X4_takesStar st).bind fun q6 => xb q6.1 (some (q6.1, q6.2, ms, nu, di, us, ta, rr)) := by
  rw [tk_other (by omega) (by omega) (by omega) (by omega)]
  unfold F_X4_takes_49
  rw [l42, ifEq rfl]
theorem tk_no {c : Nat} (h1 : c ≠ 43) (h2 : c ≠ 45) (h3 : ¬ (48 ≤ c ∧ c ≤ 57)) (h4 : c ≤ 126) (h5 : c ≠ 42) (hn : n ≤ 5) (h6 : ¬ (97 ≤ c ∧ c < 97 + n)) : F_X4_takes (nI n) (nI c) st ms nu di us ta rr = some (0, st, ms, nu, di, us, ta, rr) := by
  rw [tk_other h1 h2 h3 h4]
  unfold F_X4_takes_49
  rw [l42, l97, ifNe (by omega) (by omega) h5]
  by_cases c1 : c < 97
  · rw [ifLt (by omega) (by omega) c1]
  · rw [ifNlt (by omega) (by omega) (by omega), nI_add, ifLe (by omega) (by omega) (by omega)]
theorem tk_let {c : Nat} (hn : n ≤ 5) (h1 : 97 ≤ c) (h2 : c < 97 + n) : F_X4_takes (nI n) (nI c) st ms nu di us ta rr = (F_X4_takesLetter (nI n) (nI (c - 97)) st us ta rr).bind fun q4 => if q4.1 = 0 then some ((0 : Int32), q4.2.1, ms, nu, di, q4.2.2.1, q4.2.2.2.1, q4.2.2.2.2) else some ((1 : Int32), q4.2.1, ms, nu, di, q4.2.2.1, q4.2.2.2.1, q4.2.2.2.2) := by
  rw [tk_other (by omega) (by omega) (by omega) (by omega)]
  unfold F_X4_takes_49
  rw [l42, l97, ifNe (by omega) (by omega) (by omega), ifNlt (by omega) (by omega) (by omega), nI_add, ifNle (by omega) (by omega) (by omega), pk_sub (by omega)]
theorem tk_pl : F_X4_takes nn (nI 43) st ms nu di us ta rr = F_X4_takes_24 0 st ms nu di us ta rr := by
  unfold F_X4_takes
  rw [l43, ifEq rfl]
  unfold F_X4_takes_12
  rw [l45, ifNe (by omega) (by omega) (by omega)]
theorem tk_mi : F_X4_takes nn (nI 45) st ms nu di us ta rr = F_X4_takes_24 1 st ms nu di us ta rr := by
  unfold F_X4_takes
  rw [l43, l45, ifNe (by omega) (by omega) (by omega), ifEq rfl]
  unfold F_X4_takes_12
  rw [l45, ifEq rfl]
/-- a sign that begins a term -/
theorem tk_sg {p : Int32} (hp : p = 0 ∨ p = 1) (h : st = 5 ∨ (st = 0 ∧ p = 1)) : F_X4_takes_24 p st ms nu di us ta rr = some (1, 1, p, 1, 0, 0, 0, rr) := by
  have h21 : F_X4_takesSign_21 p st ms nu di us ta = some (1, 1, p, 1, 0, 0, 0) := by
    unfold F_X4_takesSign_21 F_X4_beginTerm
    rcases hp with rfl | rfl
    · rw [xb0]; rfl
    · rw [xb1]; rfl
  unfold F_X4_takes_24 F_X4_takesSign
  rcases h with rfl | ⟨rfl, rfl⟩
  · rw [if_pos rfl, bnd h21]; rfl
  · rw [if_neg (show ¬ (0 : Int32) = 5 by decide), if_pos rfl, if_neg n10, bnd h21]; rfl
theorem tk_nosg {p : Int32} (h5 : ¬ st = 5) (h0 : st = 0 → p = 0) : F_X4_takes_24 p st ms nu di us ta rr = some (0, st, ms, nu, di, us, ta, rr) := by
  unfold F_X4_takes_24 F_X4_takesSign
  rw [if_neg h5]
  by_cases c : st = 0
  · rw [if_pos c, if_pos (h0 c)]; rfl
  · rw [if_neg c]; rfl
theorem td_bad {k : Nat} (hk : k < 10) (h01 : st = 0 ∨ st = 1 → k = 0) (h2 : st = 2 → di = 3) : F_X4_takesDigit (nI k) st nu di = some (0, st, nu, di) := by
  unfold F_X4_takesDigit
  have h15 : k = 0 → F_X4_takesDigit_15 (nI k) st nu di = some (0, st, nu, di) := fun q => by
    unfold F_X4_takesDigit_15
    rw [q, if_pos nI_0]
  by_cases c0 : st = 0
  · rw [if_pos c0, h15 (h01 (Or.inl c0))]
  rw [if_neg c0]
  by_cases c1 : st = 1
  · rw [if_pos c1, h15 (h01 (Or.inr c1))]
  rw [if_neg c1]
  unfold F_X4_takesDigit_31
  by_cases c2 : st = 2
  · rw [if_pos c2, if_pos (h2 c2)]
  · rw [if_neg c2]
/-- a sign that cannot stand there -/
theorem tk_bad (hn : n ≤ 5) {c : Nat} (hc : c ≤ 126) (h1 : c = 43 → ¬ st = 5) (h2 : c = 45 → ¬ st = 5 ∧ ¬ st = 0) (h3 : 48 ≤ c → c ≤ 57 → (st = 0 ∨ st = 1 → c = 48) ∧ (st = 2 → di = 3)) (h4 : c = 42 → ¬ st = 2) (h5 : 97 ≤ c → c < 97 + n → st = 2 ∨ st = 5) :
    ∃ x : TR, F_X4_takes (nI n) (nI c) st ms nu di us ta rr = some (0, x) := by
  by_cases c1 : c = 43
  · subst c1; rw [tk_pl, tk_nosg (h1 rfl) (fun _ => rfl)]; exact ⟨_, rfl⟩
  by_cases c2 : c = 45
  · subst c2; rw [tk_mi, tk_nosg (h2 rfl).1 (fun q => absurd q (h2 rfl).2)]; exact ⟨_, rfl⟩
  by_cases c3 : 48 ≤ c ∧ c ≤ 57
  · obtain ⟨g1, g2⟩ := h3 c3.1 c3.2
    rw [tk_dig c3.1 c3.2, bnd (td_bad (by omega) (fun q => by have := g1 q; omega) g2)]
    exact ⟨_, rfl⟩
  by_cases c4 : c = 42
  · subst c4
    rw [tk_star]
    unfold F_X4_takesStar
    rw [if_neg (h4 rfl)]
    exact ⟨_, rfl⟩
  by_cases c5 : 97 ≤ c ∧ c < 97 + n
  · have h17 : ∀ t0, F_X4_takesLetter_17 (nI n) (nI (c - 97)) t0 st us ta rr = some (0, st, us, ta, rr) := fun t0 => by
      unfold F_X4_takesLetter_17
      rcases h5 c5.1 c5.2 with rfl | rfl
      · rw [if_pos rfl]
      · rw [if_neg (show ¬ (5 : Int32) = 2 by decide), if_pos rfl]
    rw [tk_let hn c5.1 c5.2]
    unfold F_X4_takesLetter
    rw [h17, h17, ite_self]
    exact ⟨_, rfl⟩
  · rw [tk_no c1 c2 c3 hc c4 hn c5]; exact ⟨_, rfl⟩
end CLS
/-! the letters of an order -/
def OK0 (L : Nat) (ch : Nat → Nat) (i : Nat) (st : Int32) : Prop := (st = 0 ∧ (i < L → ch i ≠ 45 ∧ ¬ (49 ≤ ch i ∧ ch i ≤ 57))) ∨ (st = 1 ∧ (i < L → ¬ (49 ≤ ch i ∧ ch i ≤ 57))) ∨ st = 3 ∨ st = 4
theorem OK0.ne {i : Nat} {st : Int32} (h : OK0 L ch i st) : ¬ st = 2 ∧ ¬ st = 5 := by
  rcases h with ⟨rfl, _⟩ | ⟨rfl, _⟩ | rfl | rfl <;> exact ⟨by decide, by decide⟩
theorem OK0.bad {i : Nat} {st : Int32} (h : OK0 L ch i st) (hT : TXT L ch tg mt) (hi : i < L) (hn : n ≤ 5) (hl : ¬ (97 ≤ ch i ∧ ch i < 97 + n)) (ms nu di us ta : Int32) (rr : Nat → Int32) : ∃ x : TR, F_X4_takes (nI n) (nI (ch i)) st ms nu di us ta rr = some (0, x) := by
  obtain ⟨h1, h2, h3, h4⟩ := hT.2 i hi
  obtain ⟨n2, n5⟩ := h.ne
  refine tk_bad hn h2 (fun _ => n5) (fun q => ⟨n5, fun q0 => ?_⟩) (fun q1 q2 => ⟨fun q0 => ?_, fun q => absurd q n2⟩) (fun _ => n2) (fun q1 q2 => absurd ⟨q1, q2⟩ hl)
  · subst q0
    rcases h with ⟨_, h⟩ | ⟨h, _⟩ | h | h
    · exact (h hi).1 q
    · exact absurd h (by decide)
    · exact absurd h (by decide)
    · exact absurd h (by decide)
  · rcases h with ⟨_, h⟩ | ⟨_, h⟩ | h | h
    · have := (h hi).2; omega
    · have := h hi; omega
    · subst h; rcases q0 with q | q <;> exact absurd q (by decide)
    · subst h; rcases q0 with q | q <;> exact absurd q (by decide)
theorem or_wd {rr wd : Nat → Int32} (hal : al 0 = nI n) (hn : n ≤ 5) (h : ∀ j, j < n → ∃ v, v < 1000 ∧ rr j = nI v ∧ wd j = nI v) : ∃ K, K < fac n ∧ F_X1_numberOf 5 rr (nI n) = some (nI K) ∧ F_X6_numberOfWord al wd = some (nI K) := by
  have h1 : ∀ j, j < n → rr j = nI ((rr j).toNatClampNeg) ∧ (rr j).toNatClampNeg < 1000 := fun j hj => by
    obtain ⟨v, hv, e, _⟩ := h j hj
    rw [e, nI_clamp (by omega)]
    exact ⟨rfl, hv⟩
  have h2 : ∀ j, j < n → wd j = nI ((rr j).toNatClampNeg) ∧ (rr j).toNatClampNeg < 1000 := fun j hj => by
    obtain ⟨v, hv, e, e2⟩ := h j hj
    rw [e2, e, nI_clamp (by omega)]
    exact ⟨rfl, hv⟩
  exact ⟨nm n (fun j => (rr j).toNatClampNeg), nm_lt hn _, x_nm hn (by omega) h1, m_nm hal hn h2⟩
theorem ord (hT : TXT L ch tg mt) (hal : al 0 = nI n) (hn : n ≤ 5) : ∀ d k i st us rr wd f g, k + d + 1 = n → i ≤ L → OK0 L ch i st → (∀ j, j < k → ∃ v, v < 1000 ∧ rr j = nI v ∧ wd j = nI v) → L - i < f → d + 1 < g → ∀ (made : Nat → Int64) (t ms nu di : Int32),
    (∃ j x z, j ≤ L ∧ F_X4_addTerms_22 (nI L) tg f (nI i) made t (nI n) st ms nu di us (nI k) rr = some (nI j, x) ∧ F_X6_readsOrder_4 (nI L) al mt g us (nI k) (nI i) wd = some (0, nI j, z)) ∨
    (∃ i' f' K us' rr' wd', i < i' ∧ i' ≤ L ∧ L - i' < f' ∧ K < fac n ∧ F_X6_readsOrder_4 (nI L) al mt g us (nI k) (nI i) wd = some (1, nI i', wd') ∧ F_X6_numberOfWord al wd' = some (nI K) ∧
      F_X4_addTerms_22 (nI L) tg f (nI i) made t (nI n) st ms nu di us (nI k) rr = F_X4_addTerms_22 (nI L) tg f' (nI i') (vp_updL made K (made K + (if ms = 0 then nu else -nu).toInt64)) (t + 1) (nI n) 5 ms nu di us' (nI n) rr') := by
  have hL := hT.1
  have hf5 := fac_le hn
  intro d
  induction d with
  | zero =>
    intro k i st us rr wd f g hk hi hO hw hf hg made t ms nu di
    obtain ⟨f, rfl⟩ : ∃ g, f = g + 1 := ⟨f - 1, by omega⟩
    obtain ⟨g, rfl⟩ : ∃ h, g = h + 1 := ⟨g - 1, by omega⟩
    obtain ⟨n2, n5⟩ := hO.ne
    rw [E_X6_readsOrder_4, bnd (m_n hal), ifNle (by omega) (by omega) (by omega), bnd (m_n hal), bnd (m_here (p := 97) (q := 97 + nI n - 1) hT hi 97 (96 + n) rfl (by rw [l97, nI_add, i1, pk_sub (by omega)]; congr 1; omega) (by omega) (by omega))]
    by_cases c : i < L ∧ 97 ≤ ch i ∧ ch i ≤ 96 + n
    · obtain ⟨a1, a2, a3, a4⟩ := hT.2 i c.1
      rw [decide_eq_true c, show bI true = 1 from rfl, if_neg n10, xgI (by omega) (by omega), nI_clamp (by omega), a4, l97, pk_sub (by omega)]
      rcases bit01 (us >>> (nI (ch i - 97) &&& 31)) with b | b
      · rw [if_pos b]
        have ht : F_X4_takes (nI n) (nI (ch i)) st ms nu di us (nI k) rr = some (1, 5, ms, nu, di, us ||| ((1 : Int32) <<< (nI (ch i - 97) &&& 31)), nI n, upd rr k (nI (ch i - 97) + 1)) := by
          rw [tk_let hn c.2.1 (by omega)]
          unfold F_X4_takesLetter
          rw [if_neg (by rw [b]; decide)]
          unfold F_X4_takesLetter_17
          rw [if_neg n2, if_neg n5, if_pos rfl, ifLt (by omega) (by omega) (by omega), xgI (by omega) (by omega), nI_1, ifEq (by omega), nI_clamp (by omega), show k + 1 = n by omega]
          rfl
        unfold F_X6_readsOrder_54
        rw [if_neg n10, xgI (by omega) (by omega), xgI (by omega) (by omega), nI_clamp (by omega), nI_clamp (by omega), a4, l97, pk_sub (by omega), nI_1, nI_1]
        obtain ⟨g, rfl⟩ : ∃ h, g = h + 1 := ⟨g - 1, by omega⟩
        rw [E_X6_readsOrder_4, bnd (m_n hal), ifLe (by omega) (by omega) (by omega)]
        have hw' : ∀ j, j < n → ∃ v, v < 1000 ∧ upd rr k (nI (ch i - 97) + 1) j = nI v ∧ upd wd k (nI (ch i - 97) + 1) j = nI v := fun j hj => by
          by_cases q : j = k
          · subst q; rw [pk_us, pk_us, nI_1]; exact ⟨_, by omega, rfl, rfl⟩
          · rw [pk_un q, pk_un q]; exact hw j (by omega)
        obtain ⟨K, k1, k2, k3⟩ := or_wd hal hn hw'
        exact Or.inr ⟨i + 1, f, K, _, _, _, by omega, by omega, by omega, k1, rfl, k3, cl_end hT c.1 ht (by omega) k2⟩
      · rw [if_neg (by rw [b]; decide)]
        unfold F_X6_readsOrder_53 F_X6_readsOrder_54
        rw [if_pos rfl]
        have ht : ∃ x : TR, F_X4_takes (nI n) (nI (ch i)) st ms nu di us (nI k) rr = some (0, x) := by
          rw [tk_let hn c.2.1 (by omega)]
          unfold F_X4_takesLetter
          rw [if_pos b]
          unfold F_X4_takesLetter_17
          rw [if_neg n2, if_neg n5, if_neg n10]
          exact ⟨_, rfl⟩
        obtain ⟨x, ht⟩ := ht
        exact Or.inl ⟨i, _, _, hi, cl_bad hT c.1 ht, rfl⟩
    · rw [decide_eq_false c, show bI false = 0 from rfl, if_pos rfl]
      unfold F_X6_readsOrder_53 F_X6_readsOrder_54
      rw [if_pos rfl]
      by_cases ci : i < L
      · obtain ⟨x, ht⟩ := hO.bad hT ci hn (by omega) ms nu di us (nI k) rr
        exact Or.inl ⟨i, _, _, hi, cl_bad hT ci ht, rfl⟩
      · obtain rfl : i = L := by omega
        exact Or.inl ⟨i, _, _, hi, cl_out hL n5, rfl⟩
  | succ d ih =>
    intro k i st us rr wd f g hk hi hO hw hf hg made t ms nu di
    obtain ⟨f, rfl⟩ : ∃ g, f = g + 1 := ⟨f - 1, by omega⟩
    obtain ⟨g, rfl⟩ : ∃ h, g = h + 1 := ⟨g - 1, by omega⟩
    obtain ⟨n2, n5⟩ := hO.ne
    rw [E_X6_readsOrder_4, bnd (m_n hal), ifNle (by omega) (by omega) (by omega), bnd (m_n hal), bnd (m_here (p := 97) (q := 97 + nI n - 1) hT hi 97 (96 + n) rfl (by rw [l97, nI_add, i1, pk_sub (by omega)]; congr 1; omega) (by omega) (by omega))]
    by_cases c : i < L ∧ 97 ≤ ch i ∧ ch i ≤ 96 + n
    · obtain ⟨a1, a2, a3, a4⟩ := hT.2 i c.1
      rw [decide_eq_true c, show bI true = 1 from rfl, if_neg n10, xgI (by omega) (by omega), nI_clamp (by omega), a4, l97, pk_sub (by omega)]
      rcases bit01 (us >>> (nI (ch i - 97) &&& 31)) with b | b
      · rw [if_pos b]
        have ht : F_X4_takes (nI n) (nI (ch i)) st ms nu di us (nI k) rr = some (1, 4, ms, nu, di, us ||| ((1 : Int32) <<< (nI (ch i - 97) &&& 31)), nI (k + 1), upd rr k (nI (ch i - 97) + 1)) := by
          rw [tk_let hn c.2.1 (by omega)]
          unfold F_X4_takesLetter
          rw [if_neg (by rw [b]; decide)]
          unfold F_X4_takesLetter_17
          rw [if_neg n2, if_neg n5, if_pos rfl, ifLt (by omega) (by omega) (by omega), xgI (by omega) (by omega), nI_1, ifNe (by omega) (by omega) (by omega), nI_clamp (by omega)]
          rfl
        unfold F_X6_readsOrder_54
        rw [if_neg n10, xgI (by omega) (by omega), xgI (by omega) (by omega), nI_clamp (by omega), nI_clamp (by omega), a4, l97, pk_sub (by omega), nI_1 k, nI_1 i]
        have hw' : ∀ j, j < k + 1 → ∃ v, v < 1000 ∧ upd rr k (nI (ch i - 97) + 1) j = nI v ∧ upd wd k (nI (ch i - 97) + 1) j = nI v := fun j hj => by
          by_cases q : j = k
          · subst q; rw [pk_us, pk_us, nI_1]; exact ⟨_, by omega, rfl, rfl⟩
          · rw [pk_un q, pk_un q]; exact hw j (by omega)
        rw [cl_go hT c.1 ht (by decide)]
        rcases ih (k + 1) (i + 1) 4 _ _ _ f g (by omega) (by omega) (Or.inr (Or.inr (Or.inr rfl))) hw' (by omega) (by omega) made t ms nu di with h | ⟨i', f', K, us', rr', wd', h1, h2⟩
        · exact Or.inl h
        · exact Or.inr ⟨i', f', K, us', rr', wd', by omega, h2⟩
      · rw [if_neg (by rw [b]; decide)]
        unfold F_X6_readsOrder_53 F_X6_readsOrder_54
        rw [if_pos rfl]
        have ht : ∃ x : TR, F_X4_takes (nI n) (nI (ch i)) st ms nu di us (nI k) rr = some (0, x) := by
          rw [tk_let hn c.2.1 (by omega)]
          unfold F_X4_takesLetter
          rw [if_pos b]
          unfold F_X4_takesLetter_17
          rw [if_neg n2, if_neg n5, if_neg n10]
          exact ⟨_, rfl⟩
        obtain ⟨x, ht⟩ := ht
        exact Or.inl ⟨i, _, _, hi, cl_bad hT c.1 ht, rfl⟩
    · rw [decide_eq_false c, show bI false = 0 from rfl, if_pos rfl]
      unfold F_X6_readsOrder_53 F_X6_readsOrder_54
      rw [if_pos rfl]
      by_cases ci : i < L
      · obtain ⟨x, ht⟩ := hO.bad hT ci hn (by omega) ms nu di us (nI k) rr
        exact Or.inl ⟨i, _, _, hi, cl_bad hT ci ht, rfl⟩
      · obtain rfl : i = L := by omega
        exact Or.inl ⟨i, _, _, hi, cl_out hL n5, rfl⟩
end TX
