/-! orders: their letters in one number for each n, three bits a letter -/
def LT : Nat → Nat
  | 1 => 1
  | 2 => 657
  | 3 => 2929867023266513
  | 4 => 81139512829605793117706971670069617915007653440892341845276193849404418414500077705425
  | 5 => 11663717489895199491496029830017366036225934036649819235790531030589490949786099702414833199981731143605618421345172237263487953351860448357282006057636965165450484369135326308274275833142721209465869921015118055691439508024687604160165071519741390083437188463300106298762756609524964738745971741485128585736292423841582354913692789606483210135411720780822380006248304382780629021239498099619785971478901297255836935679268879867862137685339543827758175777803478168130090959007642504250155016859795277023689761211004341429700058063116488464593
  | _ => 0
def lt (n o k : Nat) : Nat := (LT n >>> (3 * (n * o + k))) % 8
theorem nI_or (a b : Nat) : nI a ||| nI b = nI (a ||| b) := by
  apply Int32.toBitVec_inj.1
  show BitVec.ofNat 32 a ||| BitVec.ofNat 32 b = BitVec.ofNat 32 (a ||| b)
  apply BitVec.eq_of_getLsbD_eq
  intro i hi
  simp [hi]
theorem nI_and (a b : Nat) : nI a &&& nI b = nI (a &&& b) := by
  apply Int32.toBitVec_inj.1
  show BitVec.ofNat 32 a &&& BitVec.ofNat 32 b = BitVec.ofNat 32 (a &&& b)
  apply BitVec.eq_of_getLsbD_eq
  intro i hi
  simp [hi]
theorem shl1 {k : Nat} (h : k < 31) : (1 : Int32) <<< (nI k &&& 31) = nI (2 ^ k) := by
  have : ∀ k, k < 31 → (1 : Int32) <<< (nI k &&& 31) = nI (2 ^ k) := by decide +kernel
  exact this k h
/-- how many behind the place i are smaller -/
def sbN (n : Nat) (w : Nat → Nat) (i : Nat) : Nat := itr (fun j c => if w j < w i then c + 1 else c) (n - (i + 1)) (i + 1) 0
/-- the number of a word, as in a dictionary -/
def nm (n : Nat) (w : Nat → Nat) : Nat := itr (fun i a => a * (n - i) + sbN n w i) n 0 0
theorem x_sb {np n i : Nat} (hn : n ≤ np) (hp : np < 1000) (hi : i < n) {v : Nat → Int32} {w : Nat → Nat} (hv : ∀ k, k < n → v k = nI (w k) ∧ w k < 1000) : F_X1_smallerBehind np v (nI n) (nI i) = some (nI (sbN n w i)) := by
  have h := loopN (fun f j c => F_X1_smallerBehind_7 np v (nI n) (nI i) f (nI c) (nI j)) n (fun c => some (nI c)) (fun j c => if w j < w i then c + 1 else c)
    (fun f c => by show F_X1_smallerBehind_7 _ _ _ _ _ _ _ = _; rw [E_X1_smallerBehind_7, ifLe (by omega) (by omega) (by omega)])
    (fun f j c hj => by
      show F_X1_smallerBehind_7 _ _ _ _ _ _ _ = F_X1_smallerBehind_7 _ _ _ _ _ _ _
      rw [E_X1_smallerBehind_7, ifNle (by omega) (by omega) (by omega), xgI (by omega) (by omega), xgI (by omega) (by omega), nI_clamp (by omega), nI_clamp (by omega), (hv i hi).1, (hv j hj).1, nI_1, nI_1]
      have h1 := (hv i hi).2
      have h2 := (hv j hj).2
      by_cases c1 : w j < w i
      · rw [ifNle (by omega) (by omega) c1, if_pos c1]
      · rw [ifLe (by omega) (by omega) (by omega), if_neg c1]) (n - (i + 1)) (i + 1) 0 xF (by omega) (xF_ge (by omega))
  unfold F_X1_smallerBehind
  rw [i1, nI_add]
  exact h
theorem x_nm {np n : Nat} (hn : n ≤ np) (hp : np < 1000) {v : Nat → Int32} {w : Nat → Nat} (hv : ∀ k, k < n → v k = nI (w k) ∧ w k < 1000) : F_X1_numberOf np v (nI n) = some (nI (nm n w)) := by
  have h := loopN (fun f i a => F_X1_numberOf_4 np v (nI n) f (nI a) (nI i)) n (fun a => some (nI a)) (fun i a => a * (n - i) + sbN n w i)
    (fun f c => by show F_X1_numberOf_4 _ _ _ _ _ _ = _; rw [E_X1_numberOf_4, ifLe (by omega) (by omega) (by omega)])
    (fun f i c hi => by
      show F_X1_numberOf_4 _ _ _ _ _ _ = F_X1_numberOf_4 _ _ _ _ _ _
      rw [E_X1_numberOf_4, ifNle (by omega) (by omega) (by omega), bnd (x_sb hn hp hi hv), pk_sub (by omega), pk_mul, nI_add, nI_1]) n 0 0 xF (by omega) (xF_ge (by omega))
  exact h
/-! the model's number of a word -/
theorem m_sb {al wd : Nat → Int32} {n i : Nat} (hal : al 0 = nI n) (hn : n ≤ 5) (hi : i < n) {w : Nat → Nat} (hv : ∀ k, k < n → wd k = nI (w k) ∧ w k < 1000) (κ : Int32 → Int32 → Option Int32) (a : Nat) :
    F_X6_numberOfWord_19 al wd κ xF (nI a) (nI i) (0 : Int32) (nI i + 1) = κ (nI (a * (n - i) + sbN n w i)) (nI (i + 1)) := by
  have h := loopN (fun f j c => F_X6_numberOfWord_19 al wd κ f (nI a) (nI i) (nI c) (nI j)) n (fun c => κ (nI (a * (n - i) + c)) (nI (i + 1))) (fun j c => if w j < w i then c + 1 else c)
    (fun f c => by
      show F_X6_numberOfWord_19 _ _ _ _ _ _ _ _ = _
      rw [E_X6_numberOfWord_19, bnd (m_n hal), ifLe (by omega) (by omega) (by omega), bnd (m_n hal), pk_sub (by omega), pk_mul, nI_add, nI_1])
    (fun f j c hj => by
      show F_X6_numberOfWord_19 _ _ _ _ _ _ _ _ = F_X6_numberOfWord_19 _ _ _ _ _ _ _ _
      rw [E_X6_numberOfWord_19, bnd (m_n hal), ifNle (by omega) (by omega) (by omega), xgI (by omega) (by omega), xgI (by omega) (by omega), nI_clamp (by omega), nI_clamp (by omega), (hv i hi).1, (hv j hj).1, nI_1, i0, i1, nI_add, nI_add]
      have h1 := (hv i hi).2
      have h2 := (hv j hj).2
      by_cases c1 : w j < w i
      · rw [ifNle (by omega) (by omega) c1, if_pos c1]
      · rw [ifLe (by omega) (by omega) (by omega), if_neg c1]; rfl) (n - (i + 1)) (i + 1) 0 xF (by omega) (xF_ge (by omega))
  rw [nI_1]
  exact h
theorem m_nm {al wd : Nat → Int32} {n : Nat} (hal : al 0 = nI n) (hn : n ≤ 5) {w : Nat → Nat} (hv : ∀ k, k < n → wd k = nI (w k) ∧ w k < 1000) : F_X6_numberOfWord al wd = some (nI (nm n w)) := by
  have h := loopN (fun f i a => F_X6_numberOfWord_4 al wd f (nI a) (nI i)) n (fun a => some (nI a)) (fun i a => a * (n - i) + sbN n w i)
    (fun f c => by show F_X6_numberOfWord_4 _ _ _ _ _ = _; rw [E_X6_numberOfWord_4, bnd (m_n hal), ifLe (by omega) (by omega) (by omega)])
    (fun f i c hi => by
      show F_X6_numberOfWord_4 _ _ _ _ _ = F_X6_numberOfWord_4 _ _ _ _ _
      rw [E_X6_numberOfWord_4, bnd (m_n hal), ifNle (by omega) (by omega) (by omega)]
      exact m_sb hal hn hi hv _ c) n 0 0 xF (by omega) (xF_ge (by omega))
  exact h
/-! the letters of an order, laid by the class -/
def dsc {σ : Type} (nx : Nat → σ → σ) : Nat → σ → σ
  | 0, s => s
  | d + 1, s => dsc nx d (nx d s)
def spX (n : Nat) (p : Nat) (q : Nat × (Nat → Nat)) : Nat × (Nat → Nat) := (q.1 / (n - p), fun j => if j = p then q.1 % (n - p) + 1 else if p + 1 ≤ j ∧ j < n then (if q.2 j < q.1 % (n - p) + 1 then q.2 j else q.2 j + 1) else q.2 j)
theorem sp_ok : ∀ n, n ≤ 5 → ∀ o, o < fac n → ∀ k, k < n → (dsc (spX n) n (o, fun _ => 0)).2 k = lt n o k := by decide +kernel
theorem lt_ok : ∀ n, n ≤ 5 → ∀ o, o < fac n → ∀ k, k < n → 1 ≤ lt n o k ∧ lt n o k ≤ n := by decide +kernel
theorem nm_ok : ∀ n, n ≤ 5 → ∀ o, o < fac n → nm n (lt n o) = o := by decide +kernel
