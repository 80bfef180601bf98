/-! an order turned, on both sides -/
def tw (n o w j : Nat) : Nat := if w = 1 then lt n o (n - 1 - j) else if w = 2 then n + 1 - lt n o j else lt n o j
def tu (n o w : Nat) : Nat := if w = 0 then vi n o else if w = 3 then o else nm n (tw n o w)
theorem tu_ok : ∀ n, n ≤ 5 → ∀ o, o < fac n → ∀ w, w < 4 → tu n o w < fac n ∧ tu n (tu n o w) w = o := by decide +kernel
theorem tw3 : ∀ n, n ≤ 5 → ∀ o, o < fac n → nm n (tw n o 3) = o := by decide +kernel
theorem x_turned {n lm ll : Nat} (hn : n ≤ 5) (hn1 : 1 ≤ n) (hlm : lm = fac n) (hll : ll = fac n * n) {ov ol : Nat → Int32} {o w : Nat} (ho : o < fac n) (hw : w < 4) (hov : ov o = nI (vi n o)) (hol : ∀ k, k < n → ol (o * n + k) = nI (lt n o k)) (ow : Nat → Int32) : ∃ ow', F_X1_turned lm ll n (nI n) ov ol (nI o) (nI w) ow = some (nI (tu n o w), ow') := by
  have hf5 := fac_le hn
  unfold F_X1_turned tu
  by_cases c0 : w = 0
  · subst c0
    rw [if_pos rfl, xgI (by omega) (by omega), nI_clamp (by omega), hov]
    exact ⟨ow, rfl⟩
  rw [i0, ifNe (by omega) (by omega) c0, if_neg c0, i3]
  by_cases c3 : w = 3
  · subst c3
    rw [ifEq rfl, if_pos rfl]
    exact ⟨ow, rfl⟩
  rw [ifNe (by omega) (by omega) c3, if_neg c3]
  obtain ⟨ow', h, h1⟩ := loopE (fun f k (_ : Unit) (v : Nat → Int32) => F_X1_turned_20 ll n (nI n) ol (nI o) (nI w) f (nI k) v) (fun k v => ∀ j, j < k → v j = nI (tw n o w j)) n (fun _ v => (F_X1_numberOf n v (nI n)).bind fun q2 => some (q2, v)) (fun _ s => s)
    (fun f s t _ => by
      show F_X1_turned_20 _ _ _ _ _ _ _ _ _ = _
      rw [E_X1_turned_20, ifLe (by omega) (by omega) (by omega)])
    (fun f k s t hk hI => by
      refine ⟨upd t k (nI (tw n o w k)), ?_, fun j hj => ?_⟩
      · show F_X1_turned_20 _ _ _ _ _ _ _ _ _ = F_X1_turned_20 _ _ _ _ _ _ _ _ _
        rw [E_X1_turned_20, ifNle (by omega) (by omega) (by omega)]
        unfold tw
        by_cases c1 : w = 1
        · rw [i1, ifEq (by rw [c1]), if_pos c1, pk_sub hn1, pk_sub (by omega), bnd (x_letterAt hn hll ho (show n - 1 - k < n by omega) hol), xgI (by omega) (by omega), nI_clamp (by omega), nI_add]
        · rw [i1, ifNe (by omega) (by omega) c1, if_neg c1, if_pos (show w = 2 by omega), bnd (x_letterAt hn hll ho hk hol), xgI (by omega) (by omega), nI_clamp (by omega), nI_add, nI_add, pk_sub (by have := lt_ok n hn o ho k hk; omega)]
      · unfold upd
        by_cases c : j = k
        · subst c; rw [if_pos rfl]
        · rw [if_neg c]; exact hI j (by omega)) n 0 () ow xF (by omega) (xF_ge (by omega)) (fun j hj => absurd hj (by omega))
  have hb : ∀ j, j < n → tw n o w j < 1000 := fun j hj => by
    have h1 := lt_ok n hn o ho j hj
    have h2 := lt_ok n hn o ho (n - 1 - j) (by omega)
    unfold tw
    split
    · omega
    · split <;> omega
  rw [bnd (x_nm (Nat.le_refl n) (by omega) (fun k hk => ⟨h1 k hk, hb k hk⟩))] at h
  exact ⟨ow', h⟩
theorem m_turned {al : Nat → Int32} {n : Nat} (hal : al 0 = nI n) (hn : n ≤ 5) (hn1 : 1 ≤ n) {laid : Int32} {wd l : Nat → Int32} (hL : LK laid l) {o w : Nat} (ho : o < fac n) (hw : w < 4) :
    ∃ laid' wd' l', F_X6_turned al (nI o) (nI w) laid wd l = some (nI (tu n o w), laid', wd', l') ∧ LK laid' l' := by
  have hf5 := fac_le hn
  unfold F_X6_turned
  by_cases c0 : w = 0
  · subst c0
    obtain ⟨laid', wd', l', e1, e2⟩ := m_inverse (wd := wd) hal hn hn1 hL ho
    rw [i0, ifEq rfl, bnd e1]
    exact ⟨laid', wd', l', rfl, e2⟩
  rw [i0, ifNe (by omega) (by omega) c0]
  obtain ⟨t', h, h1, h2⟩ := loopE (fun f k (_ : Unit) (t : MT) => F_X6_turned_12 al (nI o) (nI w) f (nI k) t.1 t.2.1 t.2.2) (fun k t => LK t.1 t.2.2 ∧ (0 < k → t.1 = nI n ∧ ∀ j, j < k → t.2.1 j = nI (tw n o w j))) n (fun _ t => (F_X6_numberOfWord al t.2.1).bind fun q => some (q, t.1, t.2.1, t.2.2)) (fun _ s => s)
    (fun f s t _ => by
      show F_X6_turned_12 _ _ _ _ _ _ _ _ = _
      rw [E_X6_turned_12, bnd (m_n hal), ifLe (by omega) (by omega) (by omega)])
    (fun f k s t hk ⟨hI, hJ⟩ => by
      obtain ⟨a1, b1⟩ := lt_ok n hn o ho k hk
      obtain ⟨w1, l1, e1, e2, e3⟩ := m_at (wd := t.2.1) hal hn hI ho hk
      obtain ⟨w2, l2, f1, f2, f3⟩ := m_at (wd := t.2.1) hal hn hI ho (show n - 1 - k < n by omega)
      have hx : ∀ v : Nat → Int32, (t.1 = nI n → v = t.2.1) → ∀ j, j < k + 1 → upd v k (nI (tw n o w k)) j = nI (tw n o w j) := fun v hv j hj => by
        unfold upd
        by_cases c : j = k
        · subst c; rw [if_pos rfl]
        · rw [if_neg c, hv (hJ (by omega)).1]
          exact (hJ (by omega)).2 j (by omega)
      by_cases c1 : w = 1
      · refine ⟨(nI n, upd w2 k (nI (tw n o w k)), l2), ?_, f2.LK hn, fun _ => ⟨rfl, hx w2 f3⟩⟩
        show F_X6_turned_12 _ _ _ _ _ _ _ _ = F_X6_turned_12 _ _ _ _ _ _ _ _
        rw [E_X6_turned_12, bnd (m_n hal), ifNle (by omega) (by omega) (by omega), i1, ifEq (by rw [c1]), bnd (m_n hal), pk_sub hn1, pk_sub (by omega), bnd f1]
        dsimp only
        rw [xgI (by omega) (by omega), nI_clamp (by omega), nI_add]
        unfold tw
        rw [if_pos c1]
      · refine ⟨(nI n, upd w1 k (nI (tw n o w k)), l1), ?_, e2.LK hn, fun _ => ⟨rfl, hx w1 e3⟩⟩
        show F_X6_turned_12 _ _ _ _ _ _ _ _ = F_X6_turned_12 _ _ _ _ _ _ _ _
        unfold tw
        rw [E_X6_turned_12, bnd (m_n hal), ifNle (by omega) (by omega) (by omega), i1, ifNe (by omega) (by omega) c1, if_neg c1, i2]
        by_cases c2 : w = 2
        · rw [ifEq (by rw [c2]), if_pos c2, bnd (m_n hal), bnd e1]
          dsimp only
          rw [xgI (by omega) (by omega), nI_clamp (by omega), nI_add, nI_add, pk_sub (by omega)]
        · rw [ifNe (by omega) (by omega) c2, if_neg c2, bnd e1]
          dsimp only
          rw [xgI (by omega) (by omega), nI_clamp (by omega), nI_add]) n 0 () (laid, wd, l) xF (by omega) (xF_ge (by omega)) ⟨hL, fun h => absurd h (by omega)⟩
  have hb : ∀ j, j < n → tw n o w j < 1000 := fun j hj => by
    have h1 := lt_ok n hn o ho j hj
    have h2 := lt_ok n hn o ho (n - 1 - j) (by omega)
    unfold tw
    split
    · omega
    · split <;> omega
  have h3 : F_X6_numberOfWord al t'.2.1 = some (nI (tu n o w)) := by
    have h4 := m_nm hal hn (fun k hk => ⟨(h2 (by omega)).2 k hk, hb k hk⟩)
    rw [h4]
    unfold tu
    rw [if_neg c0]
    by_cases c3 : w = 3
    · subst c3; rw [if_pos rfl, tw3 n hn o ho]
    · rw [if_neg c3]
  rw [bnd h3] at h
  exact ⟨t'.1, t'.2.1, t'.2.2, h, h1⟩
/-! shuffles: the lower letters and the upper ones -/
def cs (n k o : Nat) : Nat → Nat
  | 0 => 0
  | i + 1 => if lt n o i ≤ k then cs n k o i + 1 else cs n k o i
def csB (n k o i : Nat) : Bool := decide ((lt n o i ≤ k → cs n k o i < k) ∧ (k < lt n o i → i - cs n k o i < n - k) ∧ cs n k o i ≤ i)
theorem cs_okB : ∀ n, n < 6 → ∀ k, k < n + 1 → ∀ o, o < fac n → ∀ i, i < n → csB n k o i = true := by decide +kernel
theorem cs_ok (n : Nat) (hn : n ≤ 5) (k : Nat) (hk : k ≤ n) (o : Nat) (ho : o < fac n) (i : Nat) (hi : i < n) : (lt n o i ≤ k → cs n k o i < k) ∧ (k < lt n o i → i - cs n k o i < n - k) ∧ cs n k o i ≤ i := of_decide_eq_true (cs_okB n (by omega) k (by omega) o ho i hi)
def kl (n k o : Nat) (a : Nat → Nat) : Nat → Nat → Bool
  | 0, _ => true
  | d + 1, i => if k < lt n o i then kl n k o a d (i + 1) else if lt n o i = a (cs n k o i) then kl n k o a d (i + 1) else false
def ku (n k o : Nat) (b : Nat → Nat) : Nat → Nat → Bool
  | 0, _ => true
  | d + 1, i => if lt n o i ≤ k then ku n k o b d (i + 1) else if lt n o i - k = b (i - cs n k o i) then ku n k o b d (i + 1) else false
def bI (b : Bool) : Int32 := if b then 1 else 0
theorem x_keepsLower {n k ll llo : Nat} (hn : n ≤ 5) (hk1 : k ≤ 5) (hk : k ≤ n) (hll : ll = fac n * n) (hllo : llo = fac k * k) {ol lol : Nat → Int32} {o one : Nat} (ho : o < fac n) (hone : one < fac k) (hol : ∀ j, j < n → ol (o * n + j) = nI (lt n o j)) (hlol : ∀ j, j < k → lol (one * k + j) = nI (lt k one j)) :
    F_X1_keepsLower ll llo (nI n) ol (nI k) lol (nI o) (nI one) = some (bI (kl n k o (lt k one) n 0)) := by
  have hl : ∀ d i f, i + d = n → d < f → F_X1_keepsLower_6 ll llo (nI n) ol (nI k) lol (nI o) (nI one) f (nI (cs n k o i)) (nI i) = some (bI (kl n k o (lt k one) d i)) := by
    intro d
    induction d with
    | zero =>
      intro i f hi hf
      obtain ⟨f, rfl⟩ : ∃ g, f = g + 1 := ⟨f - 1, by omega⟩
      rw [E_X1_keepsLower_6, ifLe (by omega) (by omega) (by omega)]
      rfl
    | succ d ih =>
      intro i f hi hf
      obtain ⟨f, rfl⟩ : ∃ g, f = g + 1 := ⟨f - 1, by omega⟩
      obtain ⟨c1, c2, c3⟩ := cs_ok n hn k hk o ho i (by omega)
      obtain ⟨a1, b1⟩ := lt_ok n hn o ho i (by omega)
      have e := ih (i + 1) f (by omega) (by omega)
      unfold cs at e
      unfold kl
      rw [E_X1_keepsLower_6, ifNle (by omega) (by omega) (by omega), bnd (x_letterAt hn hll ho (by omega) hol), nI_1]
      by_cases c : k < lt n o i
      · rw [ifLt (by omega) (by omega) c, if_pos c]
        rw [if_neg (by omega)] at e
        exact e
      · have hlt : cs n k o i < k := c1 (by omega)
        obtain ⟨a2, b2⟩ := lt_ok k hk1 one hone _ hlt
        rw [ifNlt (by omega) (by omega) (by omega), if_neg c, bnd (x_letterAt hk1 hllo hone hlt hlol)]
        rw [if_pos (by omega)] at e
        by_cases c4 : lt n o i = lt k one (cs n k o i)
        · rw [ifEq c4, if_pos c4, nI_1]; exact e
        · rw [ifNe (by omega) (by omega) c4, if_neg c4]; rfl
  exact hl n 0 xF (by omega) (xF_ge (by omega))
theorem x_keepsUpper {n k ll lup : Nat} (hn : n ≤ 5) (hk : k ≤ n) (hll : ll = fac n * n) (hlup : lup = fac (n - k) * (n - k)) {ol upl : Nat → Int32} {o other : Nat} (ho : o < fac n) (hother : other < fac (n - k)) (hol : ∀ j, j < n → ol (o * n + j) = nI (lt n o j)) (hupl : ∀ j, j < n - k → upl (other * (n - k) + j) = nI (lt (n - k) other j)) :
    F_X1_keepsUpper ll lup (nI n) ol (nI (n - k)) upl (nI o) (nI other) = some (bI (ku n k o (lt (n - k) other) n 0)) := by
  have hl : ∀ d i f, i + d = n → d < f → F_X1_keepsUpper_17 ll lup (nI n) ol (nI (n - k)) upl (nI o) (nI other) f (nI k) (nI (i - cs n k o i)) (nI i) = some (bI (ku n k o (lt (n - k) other) d i)) := by
    intro d
    induction d with
    | zero =>
      intro i f hi hf
      obtain ⟨f, rfl⟩ : ∃ g, f = g + 1 := ⟨f - 1, by omega⟩
      rw [E_X1_keepsUpper_17, ifLe (by omega) (by omega) (by omega)]
      rfl
    | succ d ih =>
      intro i f hi hf
      obtain ⟨f, rfl⟩ : ∃ g, f = g + 1 := ⟨f - 1, by omega⟩
      obtain ⟨c1, c2, c3⟩ := cs_ok n hn k hk o ho i (by omega)
      obtain ⟨a1, b1⟩ := lt_ok n hn o ho i (by omega)
      have e := ih (i + 1) f (by omega) (by omega)
      unfold cs at e
      unfold ku
      rw [E_X1_keepsUpper_17, ifNle (by omega) (by omega) (by omega), bnd (x_letterAt hn hll ho (by omega) hol), nI_1]
      by_cases c : lt n o i ≤ k
      · have hz : nI (lt n o i) - nI k ≤ 0 := by
          have : ∀ a, a < 6 → ∀ b, b < 6 → a ≤ b → nI a - nI b ≤ 0 := by decide
          exact this _ (by omega) _ (by omega) c
        rw [if_pos hz, if_pos c]
        rw [if_pos c, show i + 1 - (cs n k o i + 1) = i - cs n k o i by omega] at e
        exact e
      · have hlt : i - cs n k o i < n - k := c2 (by omega)
        obtain ⟨a2, b2⟩ := lt_ok (n - k) (by omega) other hother _ hlt
        rw [pk_sub (by omega), if_neg (nI_nle (by omega) (by omega)), if_neg c, bnd (x_letterAt (by omega) hlup hother hlt hupl)]
        rw [if_neg c, show i + 1 - cs n k o i = i - cs n k o i + 1 by omega] at e
        by_cases c4 : lt n o i - k = lt (n - k) other (i - cs n k o i)
        · rw [ifEq c4, if_pos c4, nI_1]; exact e
        · rw [ifNe (by omega) (by omega) c4, if_neg c4]; rfl
  have h := hl n 0 xF (by omega) (xF_ge (by omega))
  unfold F_X1_keepsUpper
  rw [pk_sub (by omega), show n - (n - k) = k by omega]
  exact h
theorem xb_bI {α : Type} (b : Bool) (k : Option α) : xb (bI b) k = k := by cases b <;> rfl
theorem m_isShuffle {al : Nat → Int32} {n k : Nat} (hal : al 0 = nI n) (hn : n ≤ 5) (hk : k ≤ n) {laid : Int32} {wd l lw hg : Nat → Int32} (hL : LK laid l) {o one other : Nat} (ho : o < fac n) (hone : one < fac k) (hother : other < fac (n - k)) (hlw : ∀ j, j < k → lw j = nI (lt k one j)) (hhg : ∀ j, j < n - k → hg j = nI (lt (n - k) other j)) :
    ∃ laid' wd' l', F_X6_isShuffle al lw hg (nI o) (nI k) laid wd l = some (bI (kl n k o (lt k one) n 0 && ku n k o (lt (n - k) other) n 0), laid', wd', l') ∧ LK laid' l' := by
  have hl : ∀ d i f (t : MT), i + d = n → d < f → LK t.1 t.2.2 → ∃ t' : MT, F_X6_isShuffle_11 al lw hg (nI o) (nI k) f (nI (cs n k o i)) (nI (i - cs n k o i)) 1 (nI i) t.1 t.2.1 t.2.2 = some (bI (kl n k o (lt k one) d i && ku n k o (lt (n - k) other) d i), t'.1, t'.2.1, t'.2.2) ∧ LK t'.1 t'.2.2 := by
    intro d
    induction d with
    | zero =>
      intro i f t hi hf hI
      obtain ⟨f, rfl⟩ : ∃ g, f = g + 1 := ⟨f - 1, by omega⟩
      rw [E_X6_isShuffle_11, bnd (m_n hal), ifLe (by omega) (by omega) (by omega), xb1]
      exact ⟨t, rfl, hI⟩
    | succ d ih =>
      intro i f t hi hf hI
      obtain ⟨f, rfl⟩ : ∃ g, f = g + 1 := ⟨f - 1, by omega⟩
      obtain ⟨c1, c2, c3⟩ := cs_ok n hn k hk o ho i (by omega)
      obtain ⟨a1, b1⟩ := lt_ok n hn o ho i (by omega)
      obtain ⟨w1, l1, e1, e2, e3⟩ := m_at (wd := t.2.1) hal hn hI ho (show i < n by omega)
      have hz : ∀ x y (t : MT), F_X6_isShuffle_11 al lw hg (nI o) (nI k) f x y 0 (nI (i + 1)) t.1 t.2.1 t.2.2 = some (0, t.1, t.2.1, t.2.2) := fun x y t => by
        by_cases cf : i + 1 = n ∨ True
        · obtain ⟨f, rfl⟩ : ∃ g, f = g + 1 := ⟨f - 1, by omega⟩
          rw [E_X6_isShuffle_11, bnd (m_n hal), xb0, if_pos rfl]
          by_cases q : nI n ≤ nI (i + 1)
          · rw [if_pos q]
          · rw [if_neg q]
        · exact absurd (Or.inr trivial) cf
      have e := ih (i + 1) f (nI n, w1, l1) (by omega) (by omega) (e2.LK hn)
      unfold cs at e
      unfold kl ku
      rw [E_X6_isShuffle_11, bnd (m_n hal), ifNle (by omega) (by omega) (by omega), if_neg (show ¬ (1 : Int32) = 0 by decide), bnd e1]
      dsimp only
      by_cases c : k < lt n o i
      · have hlt : i - cs n k o i < n - k := c2 (by omega)
        obtain ⟨a2, b2⟩ := lt_ok (n - k) (by omega) other hother _ hlt
        rw [ifLt (by omega) (by omega) c, if_pos c, if_neg (show ¬ lt n o i ≤ k by omega), xgI (by omega) (by omega), nI_clamp (by omega), hhg _ hlt, pk_sub (by omega), nI_1, nI_1]
        rw [if_neg (show ¬ lt n o i ≤ k by omega), show i + 1 - cs n k o i = i - cs n k o i + 1 by omega] at e
        by_cases c4 : lt n o i - k = lt (n - k) other (i - cs n k o i)
        · rw [ifEq c4, if_pos c4]; exact e
        · rw [ifNe (by omega) (by omega) c4, if_neg c4, Bool.and_false]
          exact ⟨(nI n, w1, l1), hz _ _ (nI n, w1, l1), e2.LK hn⟩
      · have hlt : cs n k o i < k := c1 (by omega)
        obtain ⟨a2, b2⟩ := lt_ok k (by omega) one hone _ hlt
        rw [ifNlt (by omega) (by omega) (by omega), if_neg c, if_pos (show lt n o i ≤ k by omega), xgI (by omega) (by omega), nI_clamp (by omega), hlw _ hlt, nI_1, nI_1]
        rw [if_pos (show lt n o i ≤ k by omega), show i + 1 - (cs n k o i + 1) = i - cs n k o i by omega] at e
        by_cases c4 : lt n o i = lt k one (cs n k o i)
        · rw [ifEq c4, if_pos c4]; exact e
        · rw [ifNe (by omega) (by omega) c4, if_neg c4, Bool.false_and]
          exact ⟨(nI n, w1, l1), hz _ _ (nI n, w1, l1), e2.LK hn⟩
  obtain ⟨t', h, h1⟩ := hl n 0 xF (laid, wd, l) (by omega) (xF_ge (by omega)) hL
  exact ⟨t'.1, t'.2.1, t'.2.2, h, h1⟩
