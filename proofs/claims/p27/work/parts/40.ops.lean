/-! the model lays orders -/
theorem loopE {σ τ ρ : Type} (L : Nat → Nat → σ → τ → Option ρ) (I : Nat → τ → Prop) (e : Nat) (fin : σ → τ → Option ρ) (nx : Nat → σ → σ) (h0 : ∀ f s t, I e t → L (f + 1) e s t = fin s t) (h1 : ∀ f i s t, i < e → I i t → ∃ t', L (f + 1) i s t = L f (i + 1) (nx i s) t' ∧ I (i + 1) t') :
    ∀ d i s t f, i + d = e → d < f → I i t → ∃ t', L f i s t = fin (itr nx d i s) t' ∧ I e t' := by
  intro d
  induction d with
  | zero =>
    intro i s t f hi hf hI
    obtain ⟨f, rfl⟩ : ∃ g, f = g + 1 := ⟨f - 1, by omega⟩
    obtain rfl : i = e := by omega
    exact ⟨t, h0 f s t hI, hI⟩
  | succ d ih =>
    intro i s t f hi hf hI
    obtain ⟨f, rfl⟩ : ∃ g, f = g + 1 := ⟨f - 1, by omega⟩
    obtain ⟨t', h2, h3⟩ := h1 f i s t (by omega) hI
    rw [h2]
    exact ih (i + 1) (nx i s) t' f (by omega) (by omega) h3
theorem sh_bit64 : ∀ a, a < 64 → ∀ k, k < 8 → (((nI a >>> (nI k &&& 31)) &&& (1 : Int32)) = 1 ↔ a / 2 ^ k % 2 = 1) := by decide +kernel
theorem sh_bit0 : ∀ a, a < 64 → ∀ k, k < 8 → (((nI a >>> (nI k &&& 31)) &&& (1 : Int32)) = 0 ↔ a / 2 ^ k % 2 = 0) := by decide +kernel
/-! the model's numbers of an order -/
section MO
variable {al : Nat → Int32} {n : Nat}
def ivK (n o k : Nat) : Nat := itr (fun j c => if lt n o k < lt n o j then c + 1 else c) k 0 0
def ivM (n o : Nat) : Nat := itr (fun k c => c + ivK n o k) n 0 0
theorem ivM_ok : ∀ n, n ≤ 5 → ∀ o, o < fac n → ivM n o = iv n o ∧ iv n o < 100 := by decide +kernel
end MO

/-! more numbers of an order: the inverse, the descents added up, the rings, on both sides -/
def dsu (n o : Nat) : Nat := itr (fun k s => if de n o / 2 ^ k % 2 = 1 then s + (k + 1) else s) (n - 1) 0 0
theorem de_32 {n : Nat} (hn : n ≤ 5) {o : Nat} (ho : o < fac n) : de n o < 32 := by
  have h := (de_lt n hn o ho).1
  have h2 : 2 ^ (n - 1) ≤ 2 ^ 4 := Nat.pow_le_pow_right (by omega) (by omega)
  omega
theorem x_descentsAddedUp {n lm : Nat} (hn : n ≤ 5) (hn1 : 1 ≤ n) (hlm : lm = fac n) {od : Nat → Int32} {o : Nat} (ho : o < fac n) (hod : od o = nI (de n o)) : F_X1_descentsAddedUp lm (nI n) od (nI o) = some (nI (dsu n o)) := by
  have hf5 := fac_le hn
  have h := loopN (fun f k s => F_X1_descentsAddedUp_4 lm (nI n) od (nI o) f (nI s) (nI k)) (n - 1) (fun s => some (nI s)) (fun k s => if de n o / 2 ^ k % 2 = 1 then s + (k + 1) else s)
    (fun f s => by show F_X1_descentsAddedUp_4 _ _ _ _ _ _ _ = _; rw [E_X1_descentsAddedUp_4, i1, pk_sub hn1, ifLe (by omega) (by omega) (by omega)])
    (fun f k s hk => by
      show F_X1_descentsAddedUp_4 _ _ _ _ _ _ _ = F_X1_descentsAddedUp_4 _ _ _ _ _ (nI (if _ then _ else _)) _
      have hb := sh_bit (de n o) (de_32 hn ho) k (by omega)
      rw [E_X1_descentsAddedUp_4, i1, pk_sub hn1, ifNle (by omega) (by omega) (by omega), xgI (by omega) (by omega), nI_clamp (by omega), hod, ← i1]
      by_cases c : de n o / 2 ^ k % 2 = 1
      · rw [if_pos (hb.mpr c), if_pos c, i1, nI_add, nI_add]
      · rw [if_neg (fun q => c (hb.mp q)), if_neg c, nI_1]) (n - 1) 0 0 xF (by omega) (xF_ge (by omega))
  exact h
/-! rings -/
def rgX (n o : Nat) (q : Nat × Nat) : Nat × Nat := (q.1 ||| 2 ^ q.2, lt n o q.2 - 1)
def rgI (n o : Nat) (u k : Nat) : Nat := (itr (fun _ q => rgX n o q) n 0 (u, k)).1
def rgS (n o k : Nat) (q : Nat × Nat) : Nat × Nat := (rgI n o q.1 k, if q.1 / 2 ^ k % 2 = 0 then q.2 + 1 else q.2)
def rgA (n o k : Nat) : Nat × Nat := itr (rgS n o) k 0 (0, 0)
def rg (n o : Nat) : Nat := (rgA n o n).2
def rgT (n o k j : Nat) : Nat × Nat := itr (fun _ q => rgX n o q) j 0 ((rgA n o k).1, k)
def rgM (n o : Nat) : Nat → Nat → Nat → Option Nat
  | 0, _, _ => none
  | f + 1, u, p => if u / 2 ^ p % 2 = 0 then rgM n o f (u ||| 2 ^ p) (lt n o p - 1) else some u
theorem rgM_ok : ∀ n, n ≤ 5 → ∀ o, o < fac n → ∀ k, k < n → rgM n o 7 (rgA n o k).1 k = some (rgA n o (k + 1)).1 ∧ (rgA n o k).1 < 64 := by decide +kernel
theorem rgT_ok : ∀ n, n ≤ 5 → ∀ o, o < fac n → ∀ k, k < n → ∀ j, j ≤ n → (rgT n o k j).2 < n ∧ (rgT n o k j).1 < 64 := by decide +kernel
theorem rgA_s (n o k : Nat) : rgA n o (k + 1) = rgS n o k (rgA n o k) := by
  unfold rgA
  rw [itr_add (rgS n o) k 1 0 (0, 0), Nat.zero_add]
  rfl
theorem rgT_s (n o k j : Nat) : rgT n o k (j + 1) = rgX n o (rgT n o k j) := by
  unfold rgT
  rw [itr_add (fun _ q => rgX n o q) j 1 0 _, Nat.zero_add]
  rfl
theorem x_rings35 {n ll : Nat} (hn : n ≤ 5) (hn1 : 1 ≤ n) (hll : ll = fac n * n) {ol : Nat → Int32} {o : Nat} (ho : o < fac n) (hol : ∀ k, k < n → ol (o * n + k) = nI (lt n o k)) (κ : Int32 → Int32 → Int32 → Option Int32) {k : Nat} (hk : k < n) (r : Nat) : ∀ d j f, j + d = n → d < f →
    F_X1_ringsOf_35 ll (nI n) ol (nI o) κ f (nI (rgT n o k j).1) (nI r) (nI k) (nI (rgT n o k j).2) (nI j) = κ (nI (rgT n o k n).1) (nI r) (nI (k + 1)) := by
  intro d
  induction d with
  | zero =>
    intro j f hj hf
    obtain ⟨f, rfl⟩ : ∃ g, f = g + 1 := ⟨f - 1, by omega⟩
    obtain rfl : j = n := by omega
    rw [E_X1_ringsOf_35, ifLe (by omega) (by omega) (by omega), nI_1]
  | succ d ih =>
    intro j f hj hf
    obtain ⟨f, rfl⟩ : ∃ g, f = g + 1 := ⟨f - 1, by omega⟩
    obtain ⟨q1, q2⟩ := rgT_ok n hn o ho k hk j (by omega)
    rw [E_X1_ringsOf_35, ifNle (by omega) (by omega) (by omega), bnd (x_letterAt hn hll ho q1 hol), shl1 (by omega), nI_or, i1, pk_sub (lt_ok n hn o ho _ q1).1, nI_add]
    have := ih (j + 1) f (by omega) (by omega)
    rw [rgT_s] at this
    exact this
theorem x_ringsOf {n ll : Nat} (hn : n ≤ 5) (hn1 : 1 ≤ n) (hll : ll = fac n * n) {ol : Nat → Int32} {o : Nat} (ho : o < fac n) (hol : ∀ k, k < n → ol (o * n + k) = nI (lt n o k)) : F_X1_ringsOf ll (nI n) ol (nI o) = some (nI (rg n o)) := by
  have hl : ∀ d k f, k + d = n → d < f → F_X1_ringsOf_7 ll (nI n) ol (nI o) f (nI (rgA n o k).1) (nI (rgA n o k).2) (nI k) = some (nI (rg n o)) := by
    intro d
    induction d with
    | zero =>
      intro k f hk hf
      obtain ⟨f, rfl⟩ : ∃ g, f = g + 1 := ⟨f - 1, by omega⟩
      obtain rfl : k = n := by omega
      rw [E_X1_ringsOf_7, ifLe (by omega) (by omega) (by omega)]
      rfl
    | succ d ih =>
      intro k f hk hf
      obtain ⟨f, rfl⟩ : ∃ g, f = g + 1 := ⟨f - 1, by omega⟩
      obtain ⟨-, q2⟩ := rgM_ok n hn o ho k (by omega)
      have hb := sh_bit0 _ q2 k (by omega)
      have h35 := fun r => x_rings35 hn hn1 hll ho hol (F_X1_ringsOf_7 ll (nI n) ol (nI o) f) (show k < n by omega) r n 0 xF (by omega) (xF_ge (by omega))
      have := ih (k + 1) f (by omega) (by omega)
      rw [rgA_s] at this
      rw [E_X1_ringsOf_7, ifNle (by omega) (by omega) (by omega)]
      by_cases c : (rgA n o k).1 / 2 ^ k % 2 = 0
      · rw [if_pos (hb.mpr c), nI_1]
        refine (h35 _).trans ?_
        rw [← this]
        unfold rgS
        rw [if_pos c]
        rfl
      · rw [if_neg (fun q => c (hb.mp q))]
        refine (h35 _).trans ?_
        rw [← this]
        unfold rgS
        rw [if_neg c]
        rfl
  exact hl n 0 xF (by omega) (xF_ge (by omega))
/-! an order turned, on both sides -/
def tw (n o w j : Nat) : Nat := if w = 1 then lt n o (n - 1 - j) else if w = 2 then n + 1 - lt n o j else lt n o j
def tu (n o w : Nat) : Nat := if w = 0 then vi n o else if w = 3 then o else nm n (tw n o w)
theorem tu_ok : ∀ n, n ≤ 5 → ∀ o, o < fac n → ∀ w, w < 4 → tu n o w < fac n ∧ tu n (tu n o w) w = o := by decide +kernel
theorem x_turned {n lm ll : Nat} (hn : n ≤ 5) (hn1 : 1 ≤ n) (hlm : lm = fac n) (hll : ll = fac n * n) {ov ol : Nat → Int32} {o w : Nat} (ho : o < fac n) (hw : w < 4) (hov : ov o = nI (vi n o)) (hol : ∀ k, k < n → ol (o * n + k) = nI (lt n o k)) (ow : Nat → Int32) : ∃ ow', F_X1_turned lm ll n (nI n) ov ol (nI o) (nI w) ow = some (nI (tu n o w), ow') := by
  have hf5 := fac_le hn
  unfold F_X1_turned tu
  by_cases c0 : w = 0
  · subst c0
    rw [if_pos rfl, xgI (by omega) (by omega), nI_clamp (by omega), hov]
    exact ⟨ow, rfl⟩
  rw [i0, ifNe (by omega) (by omega) c0, if_neg c0, i3]
  by_cases c3 : w = 3
  · subst c3
    rw [ifEq rfl, if_pos rfl]
    exact ⟨ow, rfl⟩
  rw [ifNe (by omega) (by omega) c3, if_neg c3]
  obtain ⟨ow', h, h1⟩ := loopE (fun f k (_ : Unit) (v : Nat → Int32) => F_X1_turned_20 ll n (nI n) ol (nI o) (nI w) f (nI k) v) (fun k v => ∀ j, j < k → v j = nI (tw n o w j)) n (fun _ v => (F_X1_numberOf n v (nI n)).bind fun q2 => some (q2, v)) (fun _ s => s)
    (fun f s t _ => by
      show F_X1_turned_20 _ _ _ _ _ _ _ _ _ = _
      rw [E_X1_turned_20, ifLe (by omega) (by omega) (by omega)])
    (fun f k s t hk hI => by
      refine ⟨upd t k (nI (tw n o w k)), ?_, fun j hj => ?_⟩
      · show F_X1_turned_20 _ _ _ _ _ _ _ _ _ = F_X1_turned_20 _ _ _ _ _ _ _ _ _
        rw [E_X1_turned_20, ifNle (by omega) (by omega) (by omega)]
        unfold tw
        by_cases c1 : w = 1
        · rw [i1, ifEq (by rw [c1]), if_pos c1, pk_sub hn1, pk_sub (by omega), bnd (x_letterAt hn hll ho (show n - 1 - k < n by omega) hol), xgI (by omega) (by omega), nI_clamp (by omega), nI_add]
        · rw [i1, ifNe (by omega) (by omega) c1, if_neg c1, if_pos (show w = 2 by omega), bnd (x_letterAt hn hll ho hk hol), xgI (by omega) (by omega), nI_clamp (by omega), nI_add, nI_add, pk_sub (by have := lt_ok n hn o ho k hk; omega)]
      · unfold upd
        by_cases c : j = k
        · subst c; rw [if_pos rfl]
        · rw [if_neg c]; exact hI j (by omega)) n 0 () ow xF (by omega) (xF_ge (by omega)) (fun j hj => absurd hj (by omega))
  have hb : ∀ j, j < n → tw n o w j < 1000 := fun j hj => by
    have h1 := lt_ok n hn o ho j hj
    have h2 := lt_ok n hn o ho (n - 1 - j) (by omega)
    unfold tw
    split
    · omega
    · split <;> omega
  rw [bnd (x_nm (Nat.le_refl n) (by omega) (fun k hk => ⟨h1 k hk, hb k hk⟩))] at h
  exact ⟨ow', h⟩
/-! shuffles: the lower letters and the upper ones -/
def bI (b : Bool) : Int32 := if b then 1 else 0
theorem xb_bI {α : Type} (b : Bool) (k : Option α) : xb (bI b) k = k := by cases b <;> rfl
/-! the two answer alike: orderOf, product, addClass, turn -/
theorem isSet_t {n t : Nat} (hn : n ≤ 5) (ht : t < 2 ^ (n - 1)) : F_X5_isSet (nI (2 ^ (n - 1))) (nI t) = some 1 := by
  have h16 : 2 ^ (n - 1) ≤ 2 ^ 4 := Nat.pow_le_pow_right (by omega) (by omega)
  unfold F_X5_isSet
  exact (bnd (f := fun q1 => xb q1 (some q1)) (arg_t ht (by omega))).trans (xb1 _)
theorem isSet_f {n : Nat} {x : Int32} (hn : n ≤ 5) (h : x < 0 ∨ nI (2 ^ (n - 1)) ≤ x) : F_X5_isSet (nI (2 ^ (n - 1))) x = some 0 := by
  have h16 : 2 ^ (n - 1) ≤ 2 ^ 4 := Nat.pow_le_pow_right (by omega) (by omega)
  unfold F_X5_isSet
  exact (bnd (f := fun q1 => xb q1 (some q1)) (arg_f h (by omega) (Nat.two_pow_pos _))).trans (xb0 _)
theorem n10 : ¬ (1 : Int32) = 0 := by decide
theorem and1 {a : Nat} : nI a &&& 1 = nI (a % 2) := by rw [i1, nI_and, Nat.and_one_is_mod]
theorem iv_100 {n : Nat} (hn : n ≤ 5) {o : Nat} (ho : o < fac n) : iv n o < 100 := (ivM_ok n hn o ho).2
theorem x_parityOf {n lm : Nat} (hn : n ≤ 5) (hlm : lm = fac n) {oi : Nat → Int32} {o : Nat} (ho : o < fac n) (hoi : oi o = nI (iv n o)) : F_X1_parityOf lm oi (nI o) = some (nI (iv n o % 2)) := by
  have hf5 := fac_le hn
  unfold F_X1_parityOf
  rw [xgI (by omega) (by omega), nI_clamp (by omega), hoi, and1]
section AH
variable {n : Nat} {s : Nat → Nat → Int32} {al : Nat → Int32} {hm hx : Int32} {hl : Nat → Int32} {hf : Nat → Nat → Int32} {hlong : Int32} {mh : Nat → Int32}
variable {lm ls ll lp ln : Nat} {fn fm fs : Int32} {od op oi ov of_ ol om : Nat → Int32} {laid : Int32} {wd l : Nat → Int32}
end AH

/-! the two answer alike: addClass, turn -/
theorem lgz (x y : Int64) : lg_cmp x y = 0 ↔ x = y := by
  unfold lg_cmp
  by_cases h1 : x > y
  · rw [if_pos h1]
    exact ⟨fun h => absurd h (by decide), fun h => by rw [h] at h1; exact absurd h1 Int64.lt_irrefl⟩
  · rw [if_neg h1]
    by_cases h2 : x = y
    · rw [if_pos h2]; exact ⟨fun _ => h2, fun _ => rfl⟩
    · rw [if_neg h2]; exact ⟨fun h => absurd h (by decide), fun h => absurd h h2⟩
theorem itr_addP (P : Nat → Bool) (x : Int64) : ∀ d i (c : Int32) (v : Nat → Int64), itr (fun o (q : Int32 × (Nat → Int64)) => if P o then (q.1 + 1, vp_updL q.2 o (q.2 o + x)) else q) d i (c, v) = (itr (fun o c => if P o then c + 1 else c) d i c, fun j => if i ≤ j ∧ j < i + d ∧ P j then v j + x else v j) := by
  intro d
  induction d with
  | zero => intro i c v; refine Prod.ext rfl (funext fun j => ?_); exact (if_neg (by omega)).symm
  | succ d ih =>
    intro i c v
    show itr _ d (i + 1) (if P i then (c + 1, vp_updL v i (v i + x)) else (c, v)) = (itr _ d (i + 1) (if P i then c + 1 else c), _)
    by_cases h : P i
    · rw [if_pos h, if_pos h, ih]
      refine Prod.ext rfl (funext fun j => ?_)
      by_cases hj : j = i
      · subst hj
        show (if _ then _ else _) = (if _ then _ else _)
        rw [if_neg (by omega), if_pos ⟨Nat.le_refl _, by omega, h⟩]
        simp [vp_updL]
      · by_cases h2 : i + 1 ≤ j ∧ j < i + 1 + d ∧ P j = true
        · show (if _ then _ else _) = (if _ then _ else _)
          rw [if_pos h2, if_pos ⟨by omega, by omega, h2.2.2⟩]; simp [vp_updL, hj]
        · show (if _ then _ else _) = (if _ then _ else _)
          rw [if_neg h2, if_neg (fun q => h2 ⟨by omega, by omega, q.2.2⟩)]; simp [vp_updL, hj]
    · rw [if_neg h, if_neg h, ih]
      refine Prod.ext rfl (funext fun j => ?_)
      by_cases hj : j = i
      · subst hj
        show (if _ then _ else _) = (if _ then _ else _)
        rw [if_neg (by omega), if_neg (fun q => h q.2.2)]
      · by_cases h2 : i + 1 ≤ j ∧ j < i + 1 + d ∧ P j = true
        · show (if _ then _ else _) = (if _ then _ else _)
          rw [if_pos h2, if_pos ⟨by omega, by omega, h2.2.2⟩]
        · show (if _ then _ else _) = (if _ then _ else _)
          rw [if_neg h2, if_neg (fun q => h2 ⟨by omega, by omega, q.2.2⟩)]
def inC (n : Nat) (p2 p3 : Int32) (o : Nat) : Bool := if p3 = 0 then decide (nI (de n o) = p2) else decide (nI (de n o) &&& (p2 ^^^ (-1 : Int32)) = 0)
theorem within01 {x : Int32} (h : F_X5_isWithin x 0 1 = some 1) : x = 0 ∨ x = 1 := by
  rcases pk_ix x (n := 2) (by omega) with c | c | ⟨i, hi, rfl⟩
  · rw [isW_f (Or.inl c)] at h; exact absurd h (by decide)
  · rw [isW_f (Or.inr (Int32.lt_of_lt_of_le (show (1 : Int32) < nI 2 by decide) c))] at h; exact absurd h (by decide)
  · match i, hi with
    | 0, _ => exact Or.inl rfl
    | 1, _ => exact Or.inr rfl
section AH
variable {n : Nat} {s : Nat → Nat → Int32} {al : Nat → Int32} {hm hx : Int32} {hl : Nat → Int32} {hf : Nat → Nat → Int32} {hlong : Int32} {mh : Nat → Int32}
variable {lm ls ll lp ln : Nat} {fn fm fs : Int32} {od op oi ov of_ ol om : Nat → Int32} {laid : Int32} {wd l : Nat → Int32}
theorem x_addClass52 (hn : n ≤ 5) (hlm : lm = fac n) (hod : ∀ o, o < fac n → od o = nI (de n o)) (p1 p2 : Int32) {p3 : Int32} (h3 : p3 = 0 ∨ p3 = 1) (p4 : Int32) (made : Nat → Int64) :
    F_X5_addClass_52 lm (nI n) (nI (fac n)) od p1 p2 p3 p4 xF 0 0 s made hm hx hl hf = (F_X5_settle (fun j => if j < fac n ∧ inC n p2 p3 j then made j + p4.toInt64 else made j) (nI n) (nI (fac n)) p1 (itr (fun o c => if inC n p2 p3 o then c + 1 else c) (fac n) 0 0) s hm hx hl hf).bind fun q2 => some (q2.1, q2.2.1, (fun j => if j < fac n ∧ inC n p2 p3 j then made j + p4.toInt64 else made j), q2.2.2.1, q2.2.2.2.1, q2.2.2.2.2.1, q2.2.2.2.2.2) := by
  have hf5 := fac_le hn
  have h := loopN (fun f o (q : Int32 × (Nat → Int64)) => F_X5_addClass_52 lm (nI n) (nI (fac n)) od p1 p2 p3 p4 f q.1 (nI o) s q.2 hm hx hl hf) (fac n) (fun q => (F_X5_settle q.2 (nI n) (nI (fac n)) p1 q.1 s hm hx hl hf).bind fun q2 => some (q2.1, q2.2.1, q.2, q2.2.2.1, q2.2.2.2.1, q2.2.2.2.2.1, q2.2.2.2.2.2)) (fun o q => if inC n p2 p3 o then (q.1 + 1, vp_updL q.2 o (q.2 o + p4.toInt64)) else q)
    (fun f q => by
      show F_X5_addClass_52 _ _ _ _ _ _ _ _ _ _ _ _ _ _ _ _ _ = _
      rw [E_X5_addClass_52, ifLe (by omega) (by omega) (by omega)])
    (fun f o q ho => by
      show F_X5_addClass_52 _ _ _ _ _ _ _ _ _ _ _ _ _ _ _ _ _ = F_X5_addClass_52 _ _ _ _ _ _ _ _ _ _ _ _ _ _ _ _ _
      rw [E_X5_addClass_52, ifNle (by omega) (by omega) (by omega), xgI (by omega) (by omega), nI_clamp (by omega), hod o ho]
      unfold F_X1_isInWideClass F_X5_addClass_99
      rw [xgI (by omega) (by omega), xgI (by omega) (by omega), nI_clamp (by omega), hod o ho, nI_1]
      unfold inC
      rcases h3 with rfl | rfl
      · rw [if_neg (show ¬ (0 : Int32) = 1 by decide), if_pos (show (0 : Int32) = 0 from rfl)]
        by_cases c : nI (de n o) = p2
        · rw [if_pos c, if_pos (decide_eq_true c)]
        · rw [if_neg c, if_neg (by rw [decide_eq_false c]; decide)]
      · rw [if_pos (show (1 : Int32) = 1 from rfl), if_neg n10]
        by_cases c : nI (de n o) &&& (p2 ^^^ (-1 : Int32)) = 0
        · rw [if_pos c, if_pos (decide_eq_true c), bnd (show (some (1 : Int32)) = some 1 from rfl), if_neg n10]
        · rw [if_neg c, if_neg (by rw [decide_eq_false c]; decide)]
          rw [bnd (show (some (0 : Int32)) = some 0 from rfl), if_pos rfl]) (fac n) 0 (0, made) xF (by omega) (xF_ge (by omega))
  rw [itr_addP] at h
  simp only [Nat.zero_le, true_and, Nat.zero_add] at h
  exact h
/-! turn -/
def cntD (f g : Nat → Int64) (m : Nat) : Int32 := itr (fun o t => if f o = g o then t else t + 1) m 0 0
def sg (n w : Nat) (s : Nat → Int32) (o : Nat) : Int32 := if w = 3 ∧ iv n o % 2 = 1 then -s o else s o
theorem x_turn112 {m i : Nat} (hm5 : m ≤ 120) (hi : i < 3) (fn : Int32) (made : Nat → Int64) (ow : Nat → Int32) : F_X5_turn_112 fn (nI m) (nI i) xF 0 0 s made hm hx hl hf ow = (F_X5_settle made fn (nI m) (nI i) (cntD made (fun o => (s i o).toInt64) m) s hm hx hl hf).bind fun q2 => some (q2.1, q2.2.1, made, q2.2.2.1, q2.2.2.2.1, q2.2.2.2.2.1, q2.2.2.2.2.2, ow) := by
  have h := loopN (fun f o t => F_X5_turn_112 fn (nI m) (nI i) f t (nI o) s made hm hx hl hf ow) m (fun t => (F_X5_settle made fn (nI m) (nI i) t s hm hx hl hf).bind fun q2 => some (q2.1, q2.2.1, made, q2.2.2.1, q2.2.2.2.1, q2.2.2.2.2.1, q2.2.2.2.2.2, ow)) (fun o t => if made o = (s i o).toInt64 then t else t + 1)
    (fun f t => by
      show F_X5_turn_112 _ _ _ _ _ _ _ _ _ _ _ _ _ = _
      rw [E_X5_turn_112, ifLe (by omega) (by omega) (by omega)])
    (fun f o t ho => by
      show F_X5_turn_112 _ _ _ _ _ _ _ _ _ _ _ _ _ = F_X5_turn_112 _ _ _ _ _ _ _ _ _ _ _ _ _
      rw [E_X5_turn_112, ifNle (by omega) (by omega) (by omega), xgI (by omega) (by omega), xgI hi (by omega), nI_clamp (by omega), nI_clamp (by omega), nI_1]
      by_cases c : made o = (s i o).toInt64
      · rw [if_pos c, if_pos ((lgz _ _).mpr c)]
      · rw [if_neg c, if_neg (fun q => c ((lgz _ _).mp q))]) m 0 0 xF (by omega) (xF_ge (by omega))
  exact h
theorem x_turn29 (hn : n ≤ 5) (hn1 : 1 ≤ n) (hlm : lm = fac n) (hll : ll = fac n * n) (hT1 : ∀ o, o < fac n → oi o = nI (iv n o) ∧ ov o = nI (vi n o)) (hol : ∀ o k, o < fac n → k < n → ol (o * n + k) = nI (lt n o k)) {i w : Nat} (hi : i < 3) (hw : w < 4) (made : Nat → Int64) (ow : Nat → Int32) :
    ∃ made' ow', F_X5_turn_29 lm ll n (nI n) (nI (fac n)) oi ov ol (nI i) (nI w) xF 0 s made hm hx hl hf ow = F_X5_turn_112 (nI n) (nI (fac n)) (nI i) xF 0 0 s made' hm hx hl hf ow' ∧ ∀ o, o < fac n → made' (tu n o w) = (sg n w (s i) o).toInt64 := by
  have hf5 := fac_le hn
  obtain ⟨t', h, h1⟩ := loopE (fun f o (_ : Unit) (t : (Nat → Int64) × (Nat → Int32)) => F_X5_turn_29 lm ll n (nI n) (nI (fac n)) oi ov ol (nI i) (nI w) f (nI o) s t.1 hm hx hl hf t.2) (fun k t => ∀ o, o < k → t.1 (tu n o w) = (sg n w (s i) o).toInt64) (fac n) (fun _ t => F_X5_turn_112 (nI n) (nI (fac n)) (nI i) xF 0 0 s t.1 hm hx hl hf t.2) (fun _ q => q)
    (fun f q t _ => by
      show F_X5_turn_29 _ _ _ _ _ _ _ _ _ _ _ _ _ _ _ _ _ _ _ = _
      rw [E_X5_turn_29, ifLe (by omega) (by omega) (by omega)])
    (fun f o q t ho hI => by
      obtain ⟨t3, t4⟩ := hT1 o ho
      obtain ⟨ow', e1⟩ := x_turned hn hn1 hlm hll ho hw t4 (fun k hk => hol o k ho hk) t.2
      obtain ⟨b1, b2⟩ := tu_ok n hn o ho w hw
      refine ⟨(vp_updL t.1 (tu n o w) (sg n w (s i) o).toInt64, ow'), ?_, fun a ha => ?_⟩
      · show F_X5_turn_29 _ _ _ _ _ _ _ _ _ _ _ _ _ _ _ _ _ _ _ = F_X5_turn_29 _ _ _ _ _ _ _ _ _ _ _ _ _ _ _ _ _ _ _
        rw [E_X5_turn_29, ifNle (by omega) (by omega) (by omega), bnd (x_parityOf hn hlm ho t3)]
        unfold F_X5_turn_63 F_X5_turn_64 sg
        simp only [bnd e1, if_neg n10, if_true, xgI hi (show 3 < 2 ^ 31 by omega), xgI (show o < 120 by omega) (show 120 < 2 ^ 31 by omega), xgI (show tu n o w < 120 by omega) (show 120 < 2 ^ 31 by omega), nI_clamp (show i < 2 ^ 31 by omega), nI_clamp (show o < 2 ^ 31 by omega), nI_clamp (show tu n o w < 2 ^ 31 by omega), nI_1]
        by_cases c3 : w = 3
        · rw [i3, ifEq (by rw [c3])]
          by_cases c : iv n o % 2 = 1
          · rw [i1, ifEq (by rw [c]), if_pos ⟨c3, c⟩]
          · rw [i1, ifNe (by omega) (by omega) c, if_neg (fun q => c q.2)]
        · rw [i3, ifNe (by omega) (by omega) c3, if_neg (fun q => c3 q.1)]
      · show vp_updL t.1 (tu n o w) _ (tu n a w) = _
        unfold vp_updL
        by_cases c : a = o
        · subst c; rw [if_pos rfl]
        · have ha2 : a < o := by omega
          have b3 := (tu_ok n hn a (by omega) w hw).2
          rw [if_neg (fun q => c (by rw [← b3, q, b2]))]
          exact hI a ha2) (fac n) 0 () (made, ow) xF (by omega) (xF_ge (by omega)) (fun a ha => absurd ha (by omega))
  exact ⟨t'.1, t'.2, h, h1⟩
end AH

/-! the two answer alike: multiply, square -/
theorem w_inj {a b : Int32} : a.toInt64 = b.toInt64 ↔ a = b := ⟨fun h => Int32.toInt_inj.mp (by rw [← Int32.toInt_toInt64, ← Int32.toInt_toInt64, h]), fun h => by rw [h]⟩
def stp (n : Nat) (f g : Nat → Int32) (u v : Nat) (m : Nat → Int64) : Nat → Int64 := vp_updL m (mu n u v) (m (mu n u v) + (f u).toInt64 * (g v).toInt64)
def prd (n : Nat) (f g : Nat → Int32) (m : Nat → Int64) : Nat → Int64 := itr (fun u m => itr (stp n f g u) (fac n) 0 m) (fac n) 0 m
theorem stp_0 {n : Nat} {f g : Nat → Int32} {u v : Nat} (h : f u = 0 ∨ g v = 0) (m : Nat → Int64) : stp n f g u v m = m := by
  have e : (f u).toInt64 * (g v).toInt64 = 0 := by
    rcases h with h | h
    · rw [h, show (0 : Int32).toInt64 = 0 from rfl, Int64.zero_mul]
    · rw [h, show (0 : Int32).toInt64 = 0 from rfl, Int64.mul_zero]
  unfold stp
  rw [e, Int64.add_zero]
  funext j
  unfold vp_updL
  by_cases c : j = mu n u v
  · rw [if_pos c, c]
  · rw [if_neg c]
theorem itr_rel {σ τ : Type} (R : σ → τ → Prop) {f : Nat → σ → σ} {g : Nat → τ → τ} : ∀ d i s t, (∀ j s t, i ≤ j → j < i + d → R s t → R (f j s) (g j t)) → R s t → R (itr f d i s) (itr g d i t) := by
  intro d
  induction d with
  | zero => intro i s t _ h; exact h
  | succ d ih =>
    intro i s t h hR
    exact ih (i + 1) _ _ (fun j s t h1 h2 => h j s t (by omega) (by omega)) (h i s t (Nat.le_refl _) (by omega) hR)
theorem x_makeProduct {n lp : Nat} (hn : n ≤ 5) (hlp : lp = fac n * fac n) {om : Nat → Int32} (hom : ∀ a b, a < fac n → b < fac n → om (a * fac n + b) = nI (mu n a b)) {i j : Nat} (hi : i < 3) (hj : j < 3) (s : Nat → Nat → Int32) (made : Nat → Int64) :
    F_X5_makeProduct lp s (nI (fac n)) om (nI i) (nI j) made = some (prd n (s i) (s j) (fun o => if o < fac n then 0 else made o)) := by
  have hf5 := fac_le hn
  have h := loopN (fun f u m => F_X5_makeProduct_6 lp s (nI (fac n)) om (nI i) (nI j) f (nI u) m) (fac n) some (fun u m => itr (stp n (s i) (s j) u) (fac n) 0 m)
    (fun f m => by show F_X5_makeProduct_6 _ _ _ _ _ _ _ _ _ = _; rw [E_X5_makeProduct_6, ifLe (by omega) (by omega) (by omega)])
    (fun f u m hu => by
      show F_X5_makeProduct_6 _ _ _ _ _ _ _ _ _ = F_X5_makeProduct_6 _ _ _ _ _ _ _ _ _
      rw [E_X5_makeProduct_6, ifNle (by omega) (by omega) (by omega), xgI hi (by omega), xgI (by omega) (by omega), nI_clamp (by omega), nI_clamp (by omega)]
      by_cases c : s i u = 0
      · rw [if_pos c, itr_id _ _ _ (fun v _ _ m => stp_0 (Or.inl c) m), nI_1]
      · rw [if_neg c]
        have h2 := loopN (fun g v m => F_X5_makeProduct_26 lp s (nI (fac n)) om (nI i) (nI j) (F_X5_makeProduct_6 lp s (nI (fac n)) om (nI i) (nI j) f) g (nI u) (nI v) m) (fac n) (fun m => F_X5_makeProduct_6 lp s (nI (fac n)) om (nI i) (nI j) f (nI (u + 1)) m) (stp n (s i) (s j) u)
          (fun g m => by show F_X5_makeProduct_26 _ _ _ _ _ _ _ _ _ _ _ = _; rw [E_X5_makeProduct_26, ifLe (by omega) (by omega) (by omega), nI_1])
          (fun g v m hv => by
            have hm := mu_lt hn hu hv
            show F_X5_makeProduct_26 _ _ _ _ _ _ _ _ _ _ _ = F_X5_makeProduct_26 _ _ _ _ _ _ _ _ _ _ _
            rw [E_X5_makeProduct_26, ifNle (by omega) (by omega) (by omega), bnd (x_times hn hlp hu hv om), hom u v hu hv, xgI (by omega) (by omega), xgI hi (by omega), xgI (by omega) (by omega), xgI hj (by omega), xgI (by omega) (by omega), nI_clamp (by omega), nI_clamp (by omega), nI_clamp (by omega), nI_clamp (by omega), nI_clamp (by omega), nI_1]
            rfl) (fac n) 0 m xF (by omega) (xF_ge (by omega))
        exact h2) (fac n) 0 (fun o => if o < fac n then 0 else made o) xF (by omega) (xF_ge (by omega))
  unfold F_X5_makeProduct
  rw [bnd (x_makeZeros (fac n) hf5 made)]
  exact h
section AH
variable {n : Nat} {s : Nat → Nat → Int32} {al : Nat → Int32} {hm hx : Int32} {hl : Nat → Int32} {hf : Nat → Nat → Int32} {hlong : Int32} {mh : Nat → Int32}
variable {lm ls ll lp ln : Nat} {fn fm fs : Int32} {od op oi ov of_ ol om : Nat → Int32} {laid : Int32} {wd l : Nat → Int32}
/-! square -/
theorem x_term0 {i : Nat} (hi : i < 3) {m : Nat} (hm5 : m ≤ 120) : ∀ d k f, k + d = m → d < f → (∃ o, k ≤ o ∧ o < m ∧ s i o ≠ 0 ∧ F_X5_termOf_29 s (nI m) (nI i) 0 0 f 0 (nI k) = some (nI o)) ∨ ((∀ o, k ≤ o → o < m → s i o = 0) ∧ F_X5_termOf_29 s (nI m) (nI i) 0 0 f 0 (nI k) = some (-10000004)) := by
  intro d
  induction d with
  | zero =>
    intro k f hk hf0
    obtain ⟨f, rfl⟩ : ∃ g, f = g + 1 := ⟨f - 1, by omega⟩
    refine Or.inr ⟨fun o h1 h2 => absurd h2 (by omega), ?_⟩
    rw [E_X5_termOf_29, ifLe (by omega) (by omega) (by omega)]
  | succ d ih =>
    intro k f hk hf0
    obtain ⟨f, rfl⟩ : ∃ g, f = g + 1 := ⟨f - 1, by omega⟩
    rw [E_X5_termOf_29, ifNle (by omega) (by omega) (by omega), xgI hi (by omega), xgI (by omega) (by omega), nI_clamp (by omega), nI_clamp (by omega), nI_1]
    by_cases c : s i k = 0
    · rw [if_pos c]
      rcases ih (k + 1) f (by omega) (by omega) with ⟨o, h1, h2, h3, h4⟩ | ⟨h1, h2⟩
      · exact Or.inl ⟨o, by omega, h2, h3, h4⟩
      · refine Or.inr ⟨fun o h3 h4 => ?_, h2⟩
        rcases Nat.lt_or_eq_of_le h3 with q | q
        · exact h1 o q h4
        · rw [← q]; exact c
    · rw [if_neg c, if_pos rfl, if_pos rfl]
      exact Or.inl ⟨k, Nat.le_refl _, by omega, c, rfl⟩
theorem cntI_0 (f : Nat → Int32) : ∀ d i (c : Nat), c + d < 1000 → (∃ e, itr (fun o t => if f o = 0 then t else t + 1) d i (nI c) = nI (c + e) ∧ e ≤ d ∧ (e = 0 ↔ ∀ o, i ≤ o → o < i + d → f o = 0)) := by
  intro d
  induction d with
  | zero => intro i c _; exact ⟨0, rfl, Nat.le_refl _, fun _ o h1 h2 => absurd h2 (by omega), fun _ => rfl⟩
  | succ d ih =>
    intro i c hc
    show ∃ e, itr _ d (i + 1) (if f i = 0 then nI c else nI c + 1) = _ ∧ _
    by_cases h : f i = 0
    · rw [if_pos h]
      obtain ⟨e, h1, h2, h3⟩ := ih (i + 1) c (by omega)
      refine ⟨e, h1, by omega, fun q o h4 h5 => ?_, fun q => h3.mpr fun o h4 h5 => q o (by omega) (by omega)⟩
      rcases Nat.lt_or_eq_of_le h4 with q2 | q2
      · exact h3.mp q o q2 (by omega)
      · rw [← q2]; exact h
    · rw [if_neg h, nI_1]
      obtain ⟨e, h1, h2, h3⟩ := ih (i + 1) (c + 1) (by omega)
      refine ⟨e + 1, by rw [h1]; exact congrArg nI (by omega), by omega, fun q => absurd q (by omega), fun q => absurd (q i (Nat.le_refl _) (by omega)) h⟩
end AH

