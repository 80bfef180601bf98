/-! guards of the decompiled functions -/
def xg {α : Type} (i : Int32) (n : Nat) (k : Option α) : Option α := if i < 0 ∨ n ≤ i.toNatClampNeg then none else k
def xd {α : Type} (y : Int32) (k : Option α) : Option α := if y = 0 then none else k
def xdL {α : Type} (y : Int64) (k : Option α) : Option α := if y = 0 then none else k
def xb {α : Type} (v : Int32) (k : Option α) : Option α := if v = 0 ∨ v = 1 then k else none
theorem xg_some {α : Type} {i : Int32} {n : Nat} {k : Option α} {r : α} (h : xg i n k = some r) : vp_in i n ∧ k = some r := by
  unfold xg at h
  by_cases c : i < 0 ∨ n ≤ i.toNatClampNeg
  · rw [if_pos c] at h; cases h
  · rw [if_neg c] at h; exact ⟨c, h⟩
theorem xd_some {α : Type} {y : Int32} {k : Option α} {r : α} (h : xd y k = some r) : ¬ y = 0 ∧ k = some r := by
  unfold xd at h
  by_cases c : y = 0
  · rw [if_pos c] at h; cases h
  · rw [if_neg c] at h; exact ⟨c, h⟩
theorem xdL_some {α : Type} {y : Int64} {k : Option α} {r : α} (h : xdL y k = some r) : ¬ y = 0 ∧ k = some r := by
  unfold xdL at h
  by_cases c : y = 0
  · rw [if_pos c] at h; cases h
  · rw [if_neg c] at h; exact ⟨c, h⟩
theorem xb_some {α : Type} {v : Int32} {k : Option α} {r : α} (h : xb v k = some r) : narrow .boolean (.int v) = .int v ∧ fits .boolean (.int v) = true ∧ k = some r := by
  unfold xb at h
  by_cases c : v = 0 ∨ v = 1
  · rw [if_pos c] at h
    refine ⟨?_, ?_, h⟩
    · rcases c with rfl | rfl <;> decide
    · rcases c with rfl | rfl <;> decide
  · rw [if_neg c] at h; cases h
theorem xip {α : Type} {c : Prop} [Decidable c] {a b : Option α} {r : α} (hc : c) (h : (if c then a else b) = some r) : a = some r := by rw [if_pos hc] at h; exact h
theorem xin {α : Type} {c : Prop} [Decidable c] {a b : Option α} {r : α} (hc : ¬ c) (h : (if c then a else b) = some r) : b = some r := by rw [if_neg hc] at h; exact h
theorem xbd {α β : Type} {x : Option α} {f : α → Option β} {r : β} (h : x.bind f = some r) : ∃ a, x = some a ∧ f a = some r := Option.bind_eq_some_iff.mp h
/-! the array classes -/
abbrev xT (y : Nat → ClassId) : List (ClassId × FieldType) := [(y 0, .int), (y 1, .long), (y 2, .char), (y 3, .object "DescentShuffles$Orders"), (y 4, .array .int)]
/-! a contract's start -/
abbrev xPre (D : va_G) (y : Nat → ClassId) (sz : Nat) (av : List Value) (ws : va_W) : Array Value → State → Prop := va_Pc av (fun U => U.heap.size = sz ∧ va_P D vwCl ws U.heap ∧ va_K D vwCl (xT y) U ∧ va_D (fun _ => True) ws)
abbrev xB (D : va_G) (y : Nat → ClassId) (A : Nat → Prop) (ws : va_W) : Unit → State → Prop := fun _ t => va_P D vwCl ws t.heap ∧ va_K D vwCl (xT y) t ∧ va_D A ws
/-! what is known of the machine all through a body -/
def xC (p : Program) (s : State) (m : MethodId) (args : Array Value) (meth : Method) (c : Code) (A : Nat → Prop) (cc : ByteArray) (own : String) (Ts : List Cond) (nL : Nat) (ret : Option FieldType) (D : va_G) (y : Nat → ClassId) : Prop :=
  p.tables.exec = Jvm.exec ∧ c.code = cc ∧ c.maxLocals = nL ∧ s.vm.findClass own = some m.cls ∧ (∀ w ∈ Ts, w.before args s = true) ∧ meth.sig.returnType = ret ∧ meth.locks = false ∧ va_K D vwCl (xT y) s ∧ (∀ q : Nat, s.heap.size ≤ q → A q)
theorem xblind {D : va_G} {y : Nat → ClassId} {sz : Nat} {av : List Value} {ws : va_W} : FrameBlind (xPre D y sz av ws) := fun a U g mk q => by
  obtain ⟨q0, q1, qP, qK, qD⟩ := q
  exact ⟨q0, q1, qP, va_K.moved (u := U) (U := U.calling g mk a) (Vm.Alike.refl U.vm) qK, qD⟩
theorem xprev {s : State} {H : Heap} {D : va_G} {y : Nat → ClassId} {av : List Value} {ws : va_W} {A : Nat → Prop} (hP : va_P D vwCl ws H) (hK : va_K D vwCl (xT y) s) (hD : va_D A ws) : ∀ U : State, U.heap = H → s.WarmedH U.vm → xPre D y H.size av ws av.toArray U := fun U hU hW => ⟨rfl, by rw [hU], by rw [hU]; exact hP, va_K.moved hW.alike hK, hD.weaken (fun _ _ _ _ => trivial)⟩
section XCALL
variable {p : Program} {l : Launch} {e : Env} {R : Room} {s : State} {m : MethodId} {args : Array Value} {below : List Frame} {meth : Method} {c : Code} {H : Heap} {locs : List Loc} {cells slots mc ms : Nat} {Q : State → Prop}
variable {pc : Nat} {ls : Array Slot} {rest st0 : List Value} {a : Array Value} {A : Nat → Prop} {D : va_G} {y : Nat → ClassId}
/-- behind a call: the callee's world beside the rest, in the caller's order -/
theorem xjoin {H1 : Heap} {ws wc wr w1 wf : va_W} (isC isR ps : List Nat) (hP : va_P D vwCl ws H) (hD : va_D A ws) (hS : va_S A s.heap H locs) (hA : ∀ q : Nat, s.heap.size ≤ q → A q) (hC : isC.map (fun i => ws[i]?) = wc.map some) (hR : isR.map (fun i => ws[i]?) = wr.map some) (hn : va_nd isR = true) (hdis : ∀ i ∈ isR, i ∉ isC) (hps : ps.map (fun i => (wr ++ w1)[i]?) = wf.map some) (hpn : va_nd ps = true)
    (hk : ∀ q : Nat, q < H.size → ¬ va_A wc H.size q → H1[q]? = H[q]?) (hP1 : va_P D vwCl w1 H1) (hD1 : va_D (va_A wc H.size) w1) : va_P D vwCl wf H1 ∧ va_D A wf := by
  obtain ⟨hP2, hD2⟩ := va_join hP hD isC isR hC hR hn hdis hk (va_free hD hS hA isC hC) hP1 hD1
  refine ⟨fun k q hq => ?_, hD2.sub ps hpn hps⟩
  have h1 : (ps.map (fun i => (wr ++ w1)[i]?))[k]? = some (some q) := by rw [hps, List.getElem?_map, hq]; rfl
  rw [List.getElem?_map] at h1
  cases hi : ps[k]? with
  | none => rw [hi] at h1; cases h1
  | some i => rw [hi] at h1; exact hP2 i q (Option.some.inj h1)
theorem xcalli {ws wc wr w1 wf : va_W} {rv : Int32} (hr : va_Run p l e R s m args below meth c H locs cells slots mc ms (F0 m pc ls st0) rest (va_Qi (fun (r : Int32) (_ : Unit) => r = rv) (xB D y (va_A wc H.size) w1) (va_A wc H.size) a) (va_A wc H.size))
    (hP : va_P D vwCl ws H) (hD : va_D A ws) (hS : va_S A s.heap H locs) (hA : ∀ q : Nat, s.heap.size ≤ q → A q) (isC isR ps : List Nat) (hC : isC.map (fun i => ws[i]?) = wc.map some) (hR : isR.map (fun i => ws[i]?) = wr.map some) (hn : va_nd isR = true) (hdis : ∀ i ∈ isR, i ∉ isC) (hps : ps.map (fun i => (wr ++ w1)[i]?) = wf.map some) (hpn : va_nd ps = true)
    (kk : ∀ (H1 : Heap) (locs1 : List Loc), va_P D vwCl wf H1 → va_D A wf → va_S A s.heap H1 locs1 → W p l e R s m args below meth c H1 locs1 (cells + mc) (slots + ms) Q (F0 m (pc + 3) ls (.int rv :: rest))) : W p l e R s m args below meth c H locs cells slots Q (F0 m pc ls st0) := by
  have hFc := va_free hD hS hA isC hC
  refine va_calli hr hS (fun q _ h => hFc q h) hFc (fun r u t H1 locs1 ht hvm hw hB hz1 hk1 hS1 => ?_)
  obtain ⟨hP1, hK1, hD1⟩ := hB
  rw [ht] at hP1
  subst hw
  obtain ⟨hP2, hD2⟩ := xjoin isC isR ps hP hD hS hA hC hR hn hdis hps hpn hk1 hP1 hD1
  exact kk H1 locs1 hP2 hD2 hS1
theorem xcallv {ws wc wr w1 wf : va_W} (hr : va_Run p l e R s m args below meth c H locs cells slots mc ms (F0 m pc ls st0) rest (va_Qv (fun (_ : Unit) => True) (xB D y (va_A wc H.size) w1) (va_A wc H.size) a) (va_A wc H.size))
    (hP : va_P D vwCl ws H) (hD : va_D A ws) (hS : va_S A s.heap H locs) (hA : ∀ q : Nat, s.heap.size ≤ q → A q) (isC isR ps : List Nat) (hC : isC.map (fun i => ws[i]?) = wc.map some) (hR : isR.map (fun i => ws[i]?) = wr.map some) (hn : va_nd isR = true) (hdis : ∀ i ∈ isR, i ∉ isC) (hps : ps.map (fun i => (wr ++ w1)[i]?) = wf.map some) (hpn : va_nd ps = true)
    (kk : ∀ (H1 : Heap) (locs1 : List Loc), va_P D vwCl wf H1 → va_D A wf → va_S A s.heap H1 locs1 → W p l e R s m args below meth c H1 locs1 (cells + mc) (slots + ms) Q (F0 m (pc + 3) ls rest)) : W p l e R s m args below meth c H locs cells slots Q (F0 m pc ls st0) := by
  have hFc := va_free hD hS hA isC hC
  refine va_callv hr hS (fun q _ h => hFc q h) hFc (fun u t H1 locs1 ht hvm hw hB hz1 hk1 hS1 => ?_)
  obtain ⟨hP1, hK1, hD1⟩ := hB
  rw [ht] at hP1
  obtain ⟨hP2, hD2⟩ := xjoin isC isR ps hP hD hS hA hC hR hn hdis hps hpn hk1 hP1 hD1
  exact kk H1 locs1 hP2 hD2 hS1
end XCALL
/-! rows of a grid: three, or four, int arrays one behind the other in the world -/
theorem xg3 {α : Type} {ws : List α} {p : Nat} (e : Nat → α) (h0 : ws[p]? = some (e 0)) (h1 : ws[p + 1]? = some (e 1)) (h2 : ws[p + 2]? = some (e 2)) {j : Nat} (hj : j < 3) : ws[p + j]? = some (e j) := by
  match j, hj with
  | 0, _ => exact h0
  | 1, _ => exact h1
  | 2, _ => exact h2
theorem xg4 {α : Type} {ws : List α} {p : Nat} (e : Nat → α) (h0 : ws[p]? = some (e 0)) (h1 : ws[p + 1]? = some (e 1)) (h2 : ws[p + 2]? = some (e 2)) (h3 : ws[p + 3]? = some (e 3)) {j : Nat} (hj : j < 4) : ws[p + j]? = some (e j) := by
  match j, hj with
  | 0, _ => exact h0
  | 1, _ => exact h1
  | 2, _ => exact h2
  | 3, _ => exact h3
abbrev xE (g : Nat → Nat) (cA : ClassId) (n : Nat) (v : Nat → Nat → Int32) (i : Nat) : Nat × va_E := (g i, .inl (cA, n, .inl (v i)))
theorem xE_up {g : Nat → Nat} {cA : ClassId} {n : Nat} {v : Nat → Nat → Int32} {c : Nat → Int32} (j : Nat) : xE g cA n (va_up v j c) j = (g j, .inl (cA, n, .inl c)) := by simp [xE, va_up]
theorem xE_ne {g : Nat → Nat} {cA : ClassId} {n : Nat} {v : Nat → Nat → Int32} {c : Nat → Int32} {i j : Nat} (h : i ≠ j) : xE g cA n (va_up v j c) i = xE g cA n v i := by simp [xE, va_up, h]
theorem xs_pre {α : Type} (pre q : List α) (p j : Nat) (hp : pre.length = p) (x : α) : (pre ++ q).set (p + j) x = pre ++ q.set j x := by
  subst hp
  induction pre with
  | nil => simp
  | cons a t ih => simp only [List.cons_append, List.length_cons]; rw [show t.length + 1 + j = (t.length + j) + 1 by omega, List.set_cons_succ, ih]
theorem xs3 {g : Nat → Nat} {cA : ClassId} {n : Nat} {v : Nat → Nat → Int32} (pre post : va_W) (p : Nat) (hp : pre.length = p) {j : Nat} (hj : j < 3) (c : Nat → Int32) :
    (pre ++ (xE g cA n v 0 :: xE g cA n v 1 :: xE g cA n v 2 :: post)).set (p + j) (g j, .inl (cA, n, .inl c)) = pre ++ (xE g cA n (va_up v j c) 0 :: xE g cA n (va_up v j c) 1 :: xE g cA n (va_up v j c) 2 :: post) := by
  rw [xs_pre _ _ _ _ hp]
  match j, hj with
  | 0, _ => rw [xE_up, xE_ne (by decide), xE_ne (by decide)]; rfl
  | 1, _ => rw [xE_up, xE_ne (by decide), xE_ne (by decide)]; rfl
  | 2, _ => rw [xE_up, xE_ne (by decide), xE_ne (by decide)]; rfl
theorem xs4 {g : Nat → Nat} {cA : ClassId} {n : Nat} {v : Nat → Nat → Int32} (pre post : va_W) (p : Nat) (hp : pre.length = p) {j : Nat} (hj : j < 4) (c : Nat → Int32) :
    (pre ++ (xE g cA n v 0 :: xE g cA n v 1 :: xE g cA n v 2 :: xE g cA n v 3 :: post)).set (p + j) (g j, .inl (cA, n, .inl c)) = pre ++ (xE g cA n (va_up v j c) 0 :: xE g cA n (va_up v j c) 1 :: xE g cA n (va_up v j c) 2 :: xE g cA n (va_up v j c) 3 :: post) := by
  rw [xs_pre _ _ _ _ hp]
  match j, hj with
  | 0, _ => rw [xE_up, xE_ne (by decide), xE_ne (by decide), xE_ne (by decide)]; rfl
  | 1, _ => rw [xE_up, xE_ne (by decide), xE_ne (by decide), xE_ne (by decide)]; rfl
  | 2, _ => rw [xE_up, xE_ne (by decide), xE_ne (by decide), xE_ne (by decide)]; rfl
  | 3, _ => rw [xE_up, xE_ne (by decide), xE_ne (by decide), xE_ne (by decide)]; rfl
theorem xlt {i : Int32} {n : Nat} (h : vp_in i n) : i.toNatClampNeg < n := Nat.not_le.mp fun q => h (Or.inr q)
abbrev xO (g : Nat → Nat) (n : Nat) : Nat → Option Nat := fun i => if i < n then some (g i) else none
section XROW
variable {p : Program} {l : Launch} {e : Env} {R : Room} {s : State} {m : MethodId} {args : Array Value} {below : List Frame} {meth : Method} {c : Code} {H : Heap} {locs : List Loc} {cells slots : Nat} {Q : State → Prop}
variable {cc : ByteArray} {pc : Nat} {ls : Array Slot} {rest : List Value} {D : va_G} {A : Nat → Prop} {a : Nat} {tys : List (ClassId × FieldType)} {ws : va_W}
/-- the outer array of a grid is read: the row's address -/
theorem xaald (hexec : p.tables.exec = Jvm.exec) (hb : c.code = cc) (hK : va_K D vwCl tys s) (hP : va_P D vwCl ws H) (q0 t0 : Nat) {cA : ClassId} {n : Nat} {g : Nat → Nat} (ha : ws[q0]? = some (a, .inl (cA, n, .inr (.inr (.inr (.inr (xO g n))))))) (ht : tys[t0]? = some (cA, .array .int)) {i : Int32} (hin : vp_in i n) (hdg : decode cc pc = .ok (.aaload, 1))
    (kk : W p l e R s m args below meth c H locs cells slots Q (F0 m (pc + 1) ls (.ref (g i.toNatClampNeg) :: rest))) : W p l e R s m args below meth c H locs cells slots Q (F0 m pc ls (.int i :: .ref a :: rest)) := by
  have hlt : i.toNatClampNeg < n := xlt hin
  have hv : va_rf (xO g n i.toNatClampNeg) = .ref (g i.toNatClampNeg) := by simp [xO, hlt, va_rf]
  exact W.aald (v := .ref (g i.toNatClampNeg)) (ty := .array .int) hexec hb (hP q0 _ ha) ((hK.2 t0 _ ht).1 n (fun j => va_rf (xO g n j))) rfl (fun q => by cases q) (by show ¬ (i < 0 ∨ (arrV _ _ _).slots.size ≤ _); rw [arrV_size]; exact hin) (by show (arrV _ _ _).slots[_]? = _; rw [arrV_read _ _ hlt]; exact congrArg some hv) rfl rfl hdg kk
end XROW
theorem xnI {a b : Nat} (h : a ≤ b) : a ≤ b := h
def xF : Nat := 1000000
def xc {α : Type} (v : Int32) (k : Option α) : Option α := if v < 0 ∨ 65536 ≤ v.toNatClampNeg then none else k
theorem xc_some {α : Type} {v : Int32} {k : Option α} {r : α} (h : xc v k = some r) : narrow .char (.int v) = .int v ∧ k = some r := by
  unfold xc at h
  by_cases c : v < 0 ∨ 65536 ≤ v.toNatClampNeg
  · rw [if_pos c] at h; cases h
  · rw [if_neg c] at h
    obtain ⟨j, hj, rfl⟩ := nI_of (fun q => c (Or.inl q))
    rw [nI_clamp hj] at c
    exact ⟨(pk_charN (Nat.not_le.mp fun q => c (Or.inr q))).1, h⟩
def xac {α : Type} (sp dp n : Int32) (ns nd : Nat) (k : Option α) : Option α := if sp < 0 ∨ dp < 0 ∨ n < 0 ∨ ns < sp.toNatClampNeg + n.toNatClampNeg ∨ nd < dp.toNatClampNeg + n.toNatClampNeg then none else k
theorem xac_some {α : Type} {sp dp n : Int32} {ns nd : Nat} {k : Option α} {r : α} (h : xac sp dp n ns nd k = some r) : ¬ sp < 0 ∧ ¬ dp < 0 ∧ ¬ n < 0 ∧ sp.toNatClampNeg + n.toNatClampNeg ≤ ns ∧ dp.toNatClampNeg + n.toNatClampNeg ≤ nd ∧ k = some r := by
  unfold xac at h
  by_cases c : sp < 0 ∨ dp < 0 ∨ n < 0 ∨ ns < sp.toNatClampNeg + n.toNatClampNeg ∨ nd < dp.toNatClampNeg + n.toNatClampNeg
  · rw [if_pos c] at h; cases h
  · rw [if_neg c] at h
    refine ⟨fun q => c (Or.inl q), fun q => c (Or.inr (Or.inl q)), fun q => c (Or.inr (Or.inr (Or.inl q))), Nat.not_lt.mp fun q => c (Or.inr (Or.inr (Or.inr (Or.inl q)))), Nat.not_lt.mp fun q => c (Or.inr (Or.inr (Or.inr (Or.inr q)))), h⟩
/-! making -/
def xn {α : Type} (n : Int32) (a N : Nat) (k : Option α) : Option α := if n < 0 ∨ N < a + n.toNatClampNeg ∨ 100000 < n.toNatClampNeg then none else k
theorem xn_some {α : Type} {n : Int32} {a N : Nat} {k : Option α} {r : α} (h : xn n a N k = some r) : ¬ n < 0 ∧ a + n.toNatClampNeg ≤ N ∧ n.toNatClampNeg ≤ 100000 ∧ k = some r := by
  unfold xn at h
  by_cases c : n < 0 ∨ N < a + n.toNatClampNeg ∨ 100000 < n.toNatClampNeg
  · rw [if_pos c] at h; cases h
  · rw [if_neg c] at h
    exact ⟨fun q => c (Or.inl q), Nat.not_lt.mp fun q => c (Or.inr (Or.inl q)), Nat.not_lt.mp fun q => c (Or.inr (Or.inr q)), h⟩
def xle {α : Type} (a N : Nat) (k : Option α) : Option α := if a ≤ N then k else none
theorem xle_some {α : Type} {a N : Nat} {k : Option α} {r : α} (h : xle a N k = some r) : a ≤ N ∧ k = some r := by
  unfold xle at h
  by_cases c : a ≤ N
  · rw [if_pos c] at h; exact ⟨c, h⟩
  · rw [if_neg c] at h; cases h
abbrev xBz (D : va_G) (y : Nat → ClassId) (A : Nat → Prop) {Z : Type} (w : Z → va_W) : Unit → State → Prop := fun _ t => ∃ z : Z, va_P D vwCl (w z) t.heap ∧ va_K D vwCl (xT y) t ∧ va_D A (w z)
abbrev xPreE (D : va_G) (y : Nat → ClassId) (sz : Nat) (av : List Value) (ws : va_W) (E : State → Prop) : Array Value → State → Prop := va_Pc av (fun U => U.heap.size = sz ∧ va_P D vwCl ws U.heap ∧ va_K D vwCl (xT y) U ∧ va_D (fun _ => True) ws ∧ E U)
theorem xcy {D : va_G} {y : Nat → ClassId} {cA : ClassId} {ty : FieldType} {s : State} (h : va_K D vwCl (xT y ++ [(cA, ty)]) s) (k : Nat) (hk : (xT y)[k]? = some (y k, ty)) (hl : k < 5) : cA = y k := by
  have h1 := (h.2 k (y k, ty) (by rw [List.getElem?_append_left hl]; exact hk)).2
  have h2 := (h.2 5 (cA, ty) rfl).2
  cases ty with
  | object C => 
    obtain ⟨_, _, _, _, _, e1⟩ := h1
    obtain ⟨_, _, _, _, _, e2⟩ := h2
    exact Option.some.inj (e2.symm.trans e1)
  | _ => exact Option.some.inj (Eq.trans (Eq.symm h2) h1)
section XNEW
variable {p : Program} {l : Launch} {e : Env} {R : Room} {s : State} {m : MethodId} {args : Array Value} {below : List Frame} {meth : Method} {c : Code} {H : Heap} {locs : List Loc} {cells slots mc ms : Nat} {Q : State → Prop}
variable {cc : ByteArray} {pc : Nat} {ls : Array Slot} {rest st0 : List Value} {a : Array Value} {D : va_G} {y : Nat → ClassId} {A : Nat → Prop} {ws : va_W}
theorem xnewI (hexec : p.tables.exec = Jvm.exec) (hb : c.code = cc) (harr : (Cond.arrayClass .int).before args s = true) (hK : va_K D vwCl (xT y) s) (hP : va_P D vwCl ws H) (hD : va_D A ws) (hS : va_S A s.heap H locs) (hA : ∀ q : Nat, s.heap.size ≤ q → A q)
    {n : Int32} {N' : Nat} (hn : ¬ n < 0) (hN : n.toNatClampNeg = N') (hbytes : N' * 4 ≤ 536870912) (hcells : cells + 1 ≤ R.cells) (hslots : slots + N' ≤ R.slots) (hdg : decode cc pc = .ok (.newarray .int, 2))
    (kk : ∀ (q : Nat) (H1 : Heap), va_P D vwCl (ws ++ [(q, .inl (y 0, N', .inl (fun _ => (0 : Int32))))]) H1 → va_D A (ws ++ [(q, .inl (y 0, N', .inl (fun _ => (0 : Int32))))]) → va_S A s.heap H1 locs → W p l e R s m args below meth c H1 locs (cells + 1) (slots + N') Q (F0 m (pc + 2) ls (.ref q :: rest))) : W p l e R s m args below meth c H locs cells slots Q (F0 m pc ls (.int n :: rest)) := by
  refine va_newa (atype := .int) (a0 := (N', .inl (fun _ => (0 : Int32)))) hexec hb harr rfl hK hP hD hS hA (fun cA => rfl) hn hN hbytes hcells hslots hdg (fun q cA H1 hK1 hP1 hD1 hS1 => ?_)
  have hc := xcy hK1 0 rfl (by decide)
  subst hc
  exact kk q H1 hP1 hD1 hS1
theorem xnewJ (hexec : p.tables.exec = Jvm.exec) (hb : c.code = cc) (harr : (Cond.arrayClass .long).before args s = true) (hK : va_K D vwCl (xT y) s) (hP : va_P D vwCl ws H) (hD : va_D A ws) (hS : va_S A s.heap H locs) (hA : ∀ q : Nat, s.heap.size ≤ q → A q)
    {n : Int32} {N' : Nat} (hn : ¬ n < 0) (hN : n.toNatClampNeg = N') (hbytes : N' * 8 ≤ 536870912) (hcells : cells + 1 ≤ R.cells) (hslots : slots + N' ≤ R.slots) (hdg : decode cc pc = .ok (.newarray .long, 2))
    (kk : ∀ (q : Nat) (H1 : Heap), va_P D vwCl (ws ++ [(q, .inl (y 1, N', .inr (.inl (fun _ => (0 : Int64)))))]) H1 → va_D A (ws ++ [(q, .inl (y 1, N', .inr (.inl (fun _ => (0 : Int64)))))]) → va_S A s.heap H1 locs → W p l e R s m args below meth c H1 locs (cells + 1) (slots + N') Q (F0 m (pc + 2) ls (.ref q :: rest))) : W p l e R s m args below meth c H locs cells slots Q (F0 m pc ls (.int n :: rest)) := by
  refine va_newa (atype := .long) (a0 := (N', .inr (.inl (fun _ => (0 : Int64))))) hexec hb harr rfl hK hP hD hS hA (fun cA => rfl) hn hN hbytes hcells hslots hdg (fun q cA H1 hK1 hP1 hD1 hS1 => ?_)
  have hc := xcy hK1 1 rfl (by decide)
  subst hc
  exact kk q H1 hP1 hD1 hS1
theorem xnewC (hexec : p.tables.exec = Jvm.exec) (hb : c.code = cc) (harr : (Cond.arrayClass .char).before args s = true) (hK : va_K D vwCl (xT y) s) (hP : va_P D vwCl ws H) (hD : va_D A ws) (hS : va_S A s.heap H locs) (hA : ∀ q : Nat, s.heap.size ≤ q → A q)
    {n : Int32} {N' : Nat} (hn : ¬ n < 0) (hN : n.toNatClampNeg = N') (hbytes : N' * 2 ≤ 536870912) (hcells : cells + 1 ≤ R.cells) (hslots : slots + N' ≤ R.slots) (hdg : decode cc pc = .ok (.newarray .char, 2))
    (kk : ∀ (q : Nat) (H1 : Heap), va_P D vwCl (ws ++ [(q, .inl (y 2, N', .inl (fun _ => (0 : Int32))))]) H1 → va_D A (ws ++ [(q, .inl (y 2, N', .inl (fun _ => (0 : Int32))))]) → va_S A s.heap H1 locs → W p l e R s m args below meth c H1 locs (cells + 1) (slots + N') Q (F0 m (pc + 2) ls (.ref q :: rest))) : W p l e R s m args below meth c H locs cells slots Q (F0 m pc ls (.int n :: rest)) := by
  refine va_newa (atype := .char) (a0 := (N', .inl (fun _ => (0 : Int32)))) hexec hb harr rfl hK hP hD hS hA (fun cA => rfl) hn hN hbytes hcells hslots hdg (fun q cA H1 hK1 hP1 hD1 hS1 => ?_)
  have hc := xcy hK1 2 rfl (by decide)
  subst hc
  exact kk q H1 hP1 hD1 hS1
theorem xnewq (hexec : p.tables.exec = Jvm.exec) (hb : c.code = cc) {own : String} {index : Nat} (hown : s.vm.findClass own = some m.cls) (hclink : (Cond.classLink own index "DescentShuffles$Orders").before args s = true) (hover : va_AO "DescentShuffles$Orders" s) (hK : va_K D vwCl (xT y) s) (hP : va_P D vwCl ws H) (hD : va_D A ws) (hS : va_S A s.heap H locs) (hA : ∀ q : Nat, s.heap.size ≤ q → A q)
    {n : Int32} {N' : Nat} (hn : ¬ n < 0) (hN : n.toNatClampNeg = N') (hbytes : N' * 4 ≤ 536870912) (hcells : cells + 1 ≤ R.cells) (hslots : slots + N' ≤ R.slots) (hdg : decode cc pc = .ok (.anewarray index, 3))
    (kk : ∀ (q : Nat) (H1 : Heap), va_P D vwCl (ws ++ [(q, .inl (y 3, N', .inr (.inr (.inr (.inr (fun _ => (none : Option Nat)))))))]) H1 → va_D A (ws ++ [(q, .inl (y 3, N', .inr (.inr (.inr (.inr (fun _ => (none : Option Nat)))))))]) → va_S A s.heap H1 locs → W p l e R s m args below meth c H1 locs (cells + 1) (slots + N') Q (F0 m (pc + 3) ls (.ref q :: rest))) : W p l e R s m args below meth c H locs cells slots Q (F0 m pc ls (.int n :: rest)) := by
  refine va_newq hexec hb hown hclink hover hK hP hD hS hA hn hN hbytes hcells hslots hdg (fun q cA H1 hK1 hP1 hD1 hS1 => ?_)
  have hc := xcy hK1 3 rfl (by decide)
  subst hc
  exact kk q H1 hP1 hD1 hS1
theorem xcallc {Z : Type} {ws wc wr : va_W} {w1 wf : Z → va_W} (hr : va_Run p l e R s m args below meth c H locs cells slots mc ms (F0 m pc ls st0) rest (va_Qv (fun (_ : Unit) => True) (xBz D y (va_A wc H.size) w1) (va_A wc H.size) a) (va_A wc H.size))
    (hP : va_P D vwCl ws H) (hD : va_D A ws) (hS : va_S A s.heap H locs) (hA : ∀ q : Nat, s.heap.size ≤ q → A q) (isC isR ps : List Nat) (hC : isC.map (fun i => ws[i]?) = wc.map some) (hR : isR.map (fun i => ws[i]?) = wr.map some) (hn : va_nd isR = true) (hdis : ∀ i ∈ isR, i ∉ isC) (hps : ∀ z, ps.map (fun i => (wr ++ w1 z)[i]?) = (wf z).map some) (hpn : va_nd ps = true)
    (kk : ∀ (z : Z) (H1 : Heap) (locs1 : List Loc), va_P D vwCl (wf z) H1 → va_D A (wf z) → va_S A s.heap H1 locs1 → W p l e R s m args below meth c H1 locs1 (cells + mc) (slots + ms) Q (F0 m (pc + 3) ls rest)) : W p l e R s m args below meth c H locs cells slots Q (F0 m pc ls st0) := by
  have hFc := va_free hD hS hA isC hC
  refine va_callv hr hS (fun q _ h => hFc q h) hFc (fun u t H1 locs1 ht hvm hw hB hz1 hk1 hS1 => ?_)
  obtain ⟨z, hP1, hK1, hD1⟩ := hB
  rw [ht] at hP1
  obtain ⟨hP2, hD2⟩ := xjoin isC isR ps hP hD hS hA hC hR hn hdis (hps z) hpn hk1 hP1 hD1
  exact kk z H1 locs1 hP2 hD2 hS1
end XNEW
theorem xblindE {D : va_G} {y : Nat → ClassId} {sz : Nat} {av : List Value} {ws : va_W} {E : State → Prop} (hE : ∀ (a : Array Value) (U : State) (g : JFrame) (mk : MethodId), E U → E (U.calling g mk a)) : FrameBlind (xPreE D y sz av ws E) := fun a U g mk q => by
  obtain ⟨q0, q1, qP, qK, qD, qE⟩ := q
  exact ⟨q0, q1, qP, va_K.moved (u := U) (U := U.calling g mk a) (Vm.Alike.refl U.vm) qK, qD, hE a U g mk qE⟩
theorem xprevE {s : State} {H : Heap} {D : va_G} {y : Nat → ClassId} {av : List Value} {ws : va_W} {A : Nat → Prop} {E : State → Prop} (hP : va_P D vwCl ws H) (hK : va_K D vwCl (xT y) s) (hD : va_D A ws) (hE : ∀ U : State, s.WarmedH U.vm → E U) : ∀ U : State, U.heap = H → s.WarmedH U.vm → xPreE D y H.size av ws E av.toArray U := fun U hU hW => ⟨rfl, by rw [hU], by rw [hU]; exact hP, va_K.moved hW.alike hK, hD.weaken (fun _ _ _ _ => trivial), hE U hW⟩
abbrev xBr (D : va_G) (y : Nat → ClassId) (A : Nat → Prop) (r : Nat) (ws : va_W) : Unit → Nat → State → Prop := fun _ q t => q = r ∧ va_P D vwCl ws t.heap ∧ va_K D vwCl (xT y) t ∧ va_D A ws
abbrev xBzr (D : va_G) (y : Nat → ClassId) (A : Nat → Prop) {Z : Type} (f : Z → Nat) (w : Z → va_W) : Unit → Nat → State → Prop := fun _ q t => ∃ z : Z, q = f z ∧ va_P D vwCl (w z) t.heap ∧ va_K D vwCl (xT y) t ∧ va_D A (w z)
section XCR
variable {p : Program} {l : Launch} {e : Env} {R : Room} {s : State} {m : MethodId} {args : Array Value} {below : List Frame} {meth : Method} {c : Code} {H : Heap} {locs : List Loc} {cells slots mc ms : Nat} {Q : State → Prop}
variable {pc : Nat} {ls : Array Slot} {rest st0 : List Value} {a : Array Value} {D : va_G} {y : Nat → ClassId} {A : Nat → Prop}
theorem xcallr {r : Nat} {ws wc wr w1 wf : va_W} (hr : va_Run p l e R s m args below meth c H locs cells slots mc ms (F0 m pc ls st0) rest (va_Qr (fun (_ : Unit) => True) (xBr D y (va_A wc H.size) r w1) (va_A wc H.size) a) (va_A wc H.size))
    (hP : va_P D vwCl ws H) (hD : va_D A ws) (hS : va_S A s.heap H locs) (hA : ∀ q : Nat, s.heap.size ≤ q → A q) (isC isR ps : List Nat) (hC : isC.map (fun i => ws[i]?) = wc.map some) (hR : isR.map (fun i => ws[i]?) = wr.map some) (hn : va_nd isR = true) (hdis : ∀ i ∈ isR, i ∉ isC) (hps : ps.map (fun i => (wr ++ w1)[i]?) = wf.map some) (hpn : va_nd ps = true)
    (kk : ∀ (H1 : Heap) (locs1 : List Loc), va_P D vwCl wf H1 → va_D A wf → va_S A s.heap H1 locs1 → W p l e R s m args below meth c H1 locs1 (cells + mc) (slots + ms) Q (F0 m (pc + 3) ls (.ref r :: rest))) : W p l e R s m args below meth c H locs cells slots Q (F0 m pc ls st0) := by
  have hFc := va_free hD hS hA isC hC
  refine va_callr hr hS (fun q _ h => hFc q h) hFc (fun u ra t H1 locs1 ht hvm hw hB hz1 hk1 hS1 => ?_)
  obtain ⟨hra, hP1, hK1, hD1⟩ := hB
  rw [ht] at hP1
  subst hra
  obtain ⟨hP2, hD2⟩ := xjoin isC isR ps hP hD hS hA hC hR hn hdis hps hpn hk1 hP1 hD1
  exact kk H1 locs1 hP2 hD2 hS1
theorem xcallrz {Z : Type} {f : Z → Nat} {ws wc wr : va_W} {w1 wf : Z → va_W} (hr : va_Run p l e R s m args below meth c H locs cells slots mc ms (F0 m pc ls st0) rest (va_Qr (fun (_ : Unit) => True) (xBzr D y (va_A wc H.size) f w1) (va_A wc H.size) a) (va_A wc H.size))
    (hP : va_P D vwCl ws H) (hD : va_D A ws) (hS : va_S A s.heap H locs) (hA : ∀ q : Nat, s.heap.size ≤ q → A q) (isC isR ps : List Nat) (hC : isC.map (fun i => ws[i]?) = wc.map some) (hR : isR.map (fun i => ws[i]?) = wr.map some) (hn : va_nd isR = true) (hdis : ∀ i ∈ isR, i ∉ isC) (hps : ∀ z, ps.map (fun i => (wr ++ w1 z)[i]?) = (wf z).map some) (hpn : va_nd ps = true)
    (kk : ∀ (z : Z) (H1 : Heap) (locs1 : List Loc), va_P D vwCl (wf z) H1 → va_D A (wf z) → va_S A s.heap H1 locs1 → W p l e R s m args below meth c H1 locs1 (cells + mc) (slots + ms) Q (F0 m (pc + 3) ls (.ref (f z) :: rest))) : W p l e R s m args below meth c H locs cells slots Q (F0 m pc ls st0) := by
  have hFc := va_free hD hS hA isC hC
  refine va_callr hr hS (fun q _ h => hFc q h) hFc (fun u ra t H1 locs1 ht hvm hw hB hz1 hk1 hS1 => ?_)
  obtain ⟨z, hra, hP1, hK1, hD1⟩ := hB
  rw [ht] at hP1
  subst hra
  obtain ⟨hP2, hD2⟩ := xjoin isC isR ps hP hD hS hA hC hR hn hdis (hps z) hpn hk1 hP1 hD1
  exact kk z H1 locs1 hP2 hD2 hS1
end XCR
def xeq {α : Type} (a b : Int32) (k : Option α) : Option α := if a = b then k else none
theorem xeq_some {α : Type} {a b : Int32} {k : Option α} {r : α} (h : xeq a b k = some r) : a = b ∧ k = some r := by
  unfold xeq at h
  by_cases c : a = b
  · rw [if_pos c] at h; exact ⟨c, h⟩
  · rw [if_neg c] at h; cases h
