/-! by program (wip/whole/gen): the bytecode meets the functions -/
theorem kX1_descentsAddedUp_f7 : Cond.fieldLink RX1 7 "DescentShuffles$Orders" "n" "I" ∈ wsX1_descentsAddedUp := by decide +kernel
theorem kX1_descentsAddedUp_wX1 : ∀ w ∈ u_ws RX1 TX1 11, w ∈ wsX1_descentsAddedUp := by decide +kernel
theorem kX1_descentsAddedUp_f19 : Cond.fieldLink RX1 19 "DescentShuffles$Orders" "descents" "[I" ∈ wsX1_descentsAddedUp := by decide +kernel
def S_X1_descentsAddedUp_4 (p : Program) (l : Launch) (e : Env) (s : State) (m : MethodId) (args : Array Value) (below : List Frame) (meth : Method) (c : Code) (A : Nat → Prop) (D : va_G) (y : Nat → ClassId) (a_o : Nat) (a_od : Nat) (a_op : Nat) (a_oi : Nat) (a_ov : Nat) (a_of : Nat) (a_ol : Nat) (a_om : Nat) (a_ow : Nat) (lm_o : Nat) (f_o_n : Int32) (f_o_many : Int32) (f_o_sets : Int32) (v_od : Nat → Int32) (p1 : Int32) (R : Int32) (κ : Int32 → Int32 → Option (Int32)) : Prop := ∀ (x2 : Int32) (x3 : Int32) (H : Heap) (locs : List Loc) (ls : Array Slot), va_P D vwCl [(a_o, .inr (1, [.int f_o_n, .int f_o_many, .int f_o_sets, .ref a_od, .ref a_op, .ref a_oi, .ref a_ov, .ref a_of, .ref a_ol, .ref a_om, .ref a_ow])), (a_od, .inl (y 0, lm_o, .inl v_od))] H → va_D A [(a_o, .inr (1, [.int f_o_n, .int f_o_many, .int f_o_sets, .ref a_od, .ref a_op, .ref a_oi, .ref a_ov, .ref a_of, .ref a_ol, .ref a_om, .ref a_ow])), (a_od, .inl (y 0, lm_o, .inl v_od))] → va_S A s.heap H locs → lv_has ls 4 [(0, .ref a_o), (1, .int p1), (2, .int x2), (3, .int x3)] → κ x2 x3 = some R → W p l e ({ frames := 0, cells := 0, slots := 0, locals := 0 } : Room) s m args below meth c H locs 0 0 (MQ below (va_Qi (fun (r : Int32) (_ : Unit) => r = R) (xB D y A [(a_o, .inr (1, [.int f_o_n, .int f_o_many, .int f_o_sets, .ref a_od, .ref a_op, .ref a_oi, .ref a_ov, .ref a_of, .ref a_ol, .ref a_om, .ref a_ow])), (a_od, .inl (y 0, lm_o, .inl v_od))]) A) args s 0 0 A) (F0 m 4 ls [])
def S_X1_descentsAddedUp_0 (p : Program) (l : Launch) (e : Env) (s : State) (m : MethodId) (args : Array Value) (below : List Frame) (meth : Method) (c : Code) (A : Nat → Prop) (D : va_G) (y : Nat → ClassId) (a_o : Nat) (a_od : Nat) (a_op : Nat) (a_oi : Nat) (a_ov : Nat) (a_of : Nat) (a_ol : Nat) (a_om : Nat) (a_ow : Nat) (lm_o : Nat) (f_o_n : Int32) (f_o_many : Int32) (f_o_sets : Int32) (v_od : Nat → Int32) (p1 : Int32) (R : Int32) (κ : Option (Int32)) : Prop := ∀ (H : Heap) (locs : List Loc) (ls : Array Slot), va_P D vwCl [(a_o, .inr (1, [.int f_o_n, .int f_o_many, .int f_o_sets, .ref a_od, .ref a_op, .ref a_oi, .ref a_ov, .ref a_of, .ref a_ol, .ref a_om, .ref a_ow])), (a_od, .inl (y 0, lm_o, .inl v_od))] H → va_D A [(a_o, .inr (1, [.int f_o_n, .int f_o_many, .int f_o_sets, .ref a_od, .ref a_op, .ref a_oi, .ref a_ov, .ref a_of, .ref a_ol, .ref a_om, .ref a_ow])), (a_od, .inl (y 0, lm_o, .inl v_od))] → va_S A s.heap H locs → lv_has ls 4 [(0, .ref a_o), (1, .int p1)] → κ = some R → W p l e ({ frames := 0, cells := 0, slots := 0, locals := 0 } : Room) s m args below meth c H locs 0 0 (MQ below (va_Qi (fun (r : Int32) (_ : Unit) => r = R) (xB D y A [(a_o, .inr (1, [.int f_o_n, .int f_o_many, .int f_o_sets, .ref a_od, .ref a_op, .ref a_oi, .ref a_ov, .ref a_of, .ref a_ol, .ref a_om, .ref a_ow])), (a_od, .inl (y 0, lm_o, .inl v_od))]) A) args s 0 0 A) (F0 m 0 ls [])
set_option maxHeartbeats 4000000 in
set_option maxRecDepth 100000 in
theorem B_X1_descentsAddedUp_4 {p : Program} {l : Launch} {e : Env} {s : State} {m : MethodId} {args : Array Value} {below : List Frame} {meth : Method} {c : Code} {A : Nat → Prop} {D : va_G} {y : Nat → ClassId} {a_o : Nat} {a_od : Nat} {a_op : Nat} {a_oi : Nat} {a_ov : Nat} {a_of : Nat} {a_ol : Nat} {a_om : Nat} {a_ow : Nat} {lm_o : Nat} {f_o_n : Int32} {f_o_many : Int32} {f_o_sets : Int32} {v_od : Nat → Int32} {p1 : Int32} {R : Int32} (C : xC p s m args meth c A cX1_descentsAddedUp RX1 wsX1_descentsAddedUp 4 (some .int) D y)  : ∀ f : Nat, S_X1_descentsAddedUp_4 p l e s m args below meth c A D y a_o a_od a_op a_oi a_ov a_of a_ol a_om a_ow lm_o f_o_n f_o_many f_o_sets v_od p1 R (F_X1_descentsAddedUp_4 lm_o f_o_n v_od p1  f) := by
  have C0 := C
  obtain ⟨hx, hb, hml, hown, hts, hr, hlocks, hK, hA⟩ := C
  intro f
  induction f with
  | zero =>
    intro x2 x3 H locs ls hP hD hS hl hB
    rw [Z_X1_descentsAddedUp_4] at hB
    cases hB
  | succ f ih =>
    intro x2 x3 H locs ls hP hD hS hl hB
    rw [E_X1_descentsAddedUp_4] at hB
    refine lv_iload_n hx hb dX1_descentsAddedUp_4 rfl (lv_at hl 3 rfl) ?_
    refine lv_aload_n hx hb dX1_descentsAddedUp_5 rfl (lv_at hl 0 rfl) ?_
    refine va_get (D := D) (ci := 1) (v := .int f_o_n) (C := RX1) (T := TX1) (N := 11) hx hb hts kX1_descentsAddedUp_wX1 hown hK hP 0 rfl rfl 0 (by decide) (hts _ kX1_descentsAddedUp_f7) (fun _ h9 => h9) rfl dX1_descentsAddedUp_6 ?_
    refine lv_iconst (v := 1) hx hb dX1_descentsAddedUp_9 (by decide) ?_
    refine lv_isub hx hb dX1_descentsAddedUp_10 ?_
    refine lv_icmp_ge (tgt := 40) hx hb dX1_descentsAddedUp_11 (by decide) (fun c1 => ?_) (fun c1 => ?_)
    · have hB := xip c1 hB
      refine lv_iload_n hx hb dX1_descentsAddedUp_40 rfl (lv_at hl 2 rfl) ?_
      have hB := Option.some.inj hB
      subst hB
      exact W.iret hx hb hr (fun t ht hW => ⟨⟨_, (), rfl, rfl, by rw [ht]; exact hP, va_K.moved hW.alike hK, hD⟩, hS.F ht⟩) hS.2.2 dX1_descentsAddedUp_41 hlocks
    · have hB := xin c1 hB
      refine lv_aload_n hx hb dX1_descentsAddedUp_14 rfl (lv_at hl 0 rfl) ?_
      refine va_get (D := D) (ci := 1) (v := .ref a_od) (C := RX1) (T := TX1) (N := 11) hx hb hts kX1_descentsAddedUp_wX1 hown hK hP 0 rfl rfl 3 (by decide) (hts _ kX1_descentsAddedUp_f19) (fun _ h9 => h9) rfl dX1_descentsAddedUp_15 ?_
      refine lv_iload_n hx hb dX1_descentsAddedUp_18 rfl (lv_at hl 1 rfl) ?_
      obtain ⟨g2, hB⟩ := xg_some hB
      refine va_iald hx hb hK hP 1 0 rfl rfl g2 dX1_descentsAddedUp_19 ?_
      refine lv_iload_n hx hb dX1_descentsAddedUp_20 rfl (lv_at hl 3 rfl) ?_
      refine lv_ishr hx hb dX1_descentsAddedUp_21 ?_
      refine lv_iconst (v := 1) hx hb dX1_descentsAddedUp_22 (by decide) ?_
      refine lv_iand hx hb dX1_descentsAddedUp_23 ?_
      refine lv_iconst (v := 1) hx hb dX1_descentsAddedUp_24 (by decide) ?_
      refine lv_icmp_ne (tgt := 34) hx hb dX1_descentsAddedUp_25 (by decide) (fun c3 => ?_) (fun c3 => ?_)
      · have hB := xin c3 hB
        refine lv_iinc (v := x3 + 1) (lv' := [(3, .int (x3 + 1)), (0, .ref a_o), (1, .int p1), (2, .int x2)]) hx hb dX1_descentsAddedUp_34 hl (k := 3) rfl rfl (by decide) rfl (fun ls hl => ?_)
        refine lv_goto (tgt := 4) hx hb dX1_descentsAddedUp_37 (by decide) ?_
        exact ih x2 (x3 + 1) H locs ls hP hD hS (lv_sub hl [1, 2, 3, 0] rfl) hB
      · have hB := xip c3 hB
        refine lv_iload_n hx hb dX1_descentsAddedUp_28 rfl (lv_at hl 2 rfl) ?_
        refine lv_iload_n hx hb dX1_descentsAddedUp_29 rfl (lv_at hl 3 rfl) ?_
        refine lv_iconst (v := 1) hx hb dX1_descentsAddedUp_30 (by decide) ?_
        refine lv_iadd hx hb dX1_descentsAddedUp_31 ?_
        refine lv_iadd hx hb dX1_descentsAddedUp_32 ?_
        refine lv_istore_n (lv' := [(2, .int (x2 + (x3 + (1 : Int32)))), (0, .ref a_o), (1, .int p1), (3, .int x3)]) hx hb dX1_descentsAddedUp_33 rfl hl (by decide) rfl (fun ls hl => ?_)
        refine lv_iinc (v := x3 + 1) (lv' := [(3, .int (x3 + 1)), (2, .int (x2 + (x3 + (1 : Int32)))), (0, .ref a_o), (1, .int p1)]) hx hb dX1_descentsAddedUp_34 hl (k := 3) rfl rfl (by decide) rfl (fun ls hl => ?_)
        refine lv_goto (tgt := 4) hx hb dX1_descentsAddedUp_37 (by decide) ?_
        exact ih (x2 + (x3 + (1 : Int32))) (x3 + 1) H locs ls hP hD hS (lv_sub hl [2, 3, 1, 0] rfl) hB
set_option maxHeartbeats 4000000 in
set_option maxRecDepth 100000 in
theorem B_X1_descentsAddedUp_0 {p : Program} {l : Launch} {e : Env} {s : State} {m : MethodId} {args : Array Value} {below : List Frame} {meth : Method} {c : Code} {A : Nat → Prop} {D : va_G} {y : Nat → ClassId} {a_o : Nat} {a_od : Nat} {a_op : Nat} {a_oi : Nat} {a_ov : Nat} {a_of : Nat} {a_ol : Nat} {a_om : Nat} {a_ow : Nat} {lm_o : Nat} {f_o_n : Int32} {f_o_many : Int32} {f_o_sets : Int32} {v_od : Nat → Int32} {p1 : Int32} {R : Int32} (C : xC p s m args meth c A cX1_descentsAddedUp RX1 wsX1_descentsAddedUp 4 (some .int) D y)  : S_X1_descentsAddedUp_0 p l e s m args below meth c A D y a_o a_od a_op a_oi a_ov a_of a_ol a_om a_ow lm_o f_o_n f_o_many f_o_sets v_od p1 R (F_X1_descentsAddedUp lm_o f_o_n v_od p1 ) := by
  have C0 := C
  obtain ⟨hx, hb, hml, hown, hts, hr, hlocks, hK, hA⟩ := C
  intro H locs ls hP hD hS hl hB
  unfold F_X1_descentsAddedUp at hB
  refine lv_iconst (v := 0) hx hb dX1_descentsAddedUp_0 (by decide) ?_
  refine lv_istore_n (lv' := [(2, .int (0 : Int32)), (0, .ref a_o), (1, .int p1)]) hx hb dX1_descentsAddedUp_1 rfl hl (by decide) rfl (fun ls hl => ?_)
  refine lv_iconst (v := 0) hx hb dX1_descentsAddedUp_2 (by decide) ?_
  refine lv_istore_n (lv' := [(3, .int (0 : Int32)), (2, .int (0 : Int32)), (0, .ref a_o), (1, .int p1)]) hx hb dX1_descentsAddedUp_3 rfl hl (by decide) rfl (fun ls hl => ?_)
  exact B_X1_descentsAddedUp_4 (p1 := p1) C0 xF (0 : Int32) (0 : Int32) H locs ls hP hD hS (lv_sub hl [2, 3, 1, 0] rfl) hB
set_option maxHeartbeats 4000000 in
set_option maxRecDepth 100000 in
theorem c_X1_descentsAddedUp (l : Launch) (D : va_G) (y : Nat → ClassId) (a_o : Nat) (a_od : Nat) (a_op : Nat) (a_oi : Nat) (a_ov : Nat) (a_of : Nat) (a_ol : Nat) (a_om : Nat) (a_ow : Nat) (lm_o : Nat) (f_o_n : Int32) (f_o_many : Int32) (f_o_sets : Int32) (v_od : Nat → Int32) (p1 : Int32) (sz : Nat) {R : Int32} (hF : F_X1_descentsAddedUp lm_o f_o_n v_od p1 = some R) : Met l yX1_descentsAddedUp wsX1_descentsAddedUp ({ frames := 0, cells := 0, slots := 0, locals := 0 } : Room) (xPre D y sz [.ref a_o, .int p1] [(a_o, .inr (1, [.int f_o_n, .int f_o_many, .int f_o_sets, .ref a_od, .ref a_op, .ref a_oi, .ref a_ov, .ref a_of, .ref a_ol, .ref a_om, .ref a_ow])), (a_od, .inl (y 0, lm_o, .inl v_od))]) (va_Qi (fun (r : Int32) (_ : Unit) => r = R) (xB D y (va_A [(a_o, .inr (1, [.int f_o_n, .int f_o_many, .int f_o_sets, .ref a_od, .ref a_op, .ref a_oi, .ref a_ov, .ref a_of, .ref a_ol, .ref a_om, .ref a_ow])), (a_od, .inl (y 0, lm_o, .inl v_od))] sz) [(a_o, .inr (1, [.int f_o_n, .int f_o_many, .int f_o_sets, .ref a_od, .ref a_op, .ref a_oi, .ref a_ov, .ref a_of, .ref a_ol, .ref a_om, .ref a_ow])), (a_od, .inl (y 0, lm_o, .inl v_od))]) (va_A [(a_o, .inr (1, [.int f_o_n, .int f_o_many, .int f_o_sets, .ref a_od, .ref a_op, .ref a_oi, .ref a_ov, .ref a_of, .ref a_ol, .ref a_om, .ref a_ow])), (a_od, .inl (y 0, lm_o, .inl v_od))] sz)) 0 0 (va_A [(a_o, .inr (1, [.int f_o_n, .int f_o_many, .int f_o_sets, .ref a_od, .ref a_op, .ref a_oi, .ref a_ov, .ref a_of, .ref a_ol, .ref a_om, .ref a_ow])), (a_od, .inl (y 0, lm_o, .inl v_od))] sz) := by
  refine Met.ofW (cc := cX1_descentsAddedUp) (maxL := 4) (ret := (some .int)) (by decide) rfl ?_
  intro p e s m args below meth c s₁ B hml hv
  obtain ⟨rfl, hsz, hP, hK, hD0⟩ := hv
  subst hsz
  have hD := hD0.self (sz := s.heap.size)
  have C : xC p s m [.ref a_o, .int p1].toArray meth c (va_A [(a_o, .inr (1, [.int f_o_n, .int f_o_many, .int f_o_sets, .ref a_od, .ref a_op, .ref a_oi, .ref a_ov, .ref a_of, .ref a_ol, .ref a_om, .ref a_ow])), (a_od, .inl (y 0, lm_o, .inl v_od))] s.heap.size) cX1_descentsAddedUp RX1 wsX1_descentsAddedUp 4 (some .int) D y := ⟨B.exec, B.bytes, hml, findClass_of_methodNamed B.named, atoms_spec (ws := wsX1_descentsAddedUp) B.pre, B.returns, B.notSynchronized, hK, fun q h => Or.inr h⟩
  have hl := lv_entry ([.ref a_o, .int p1]) (n := 4) (Nat.le_of_ble_eq_true rfl)
  rw [lg_entry_eq]
  generalize (lg_sl ([.ref a_o, .int p1]) ++ List.replicate (4 - (lg_sl ([.ref a_o, .int p1])).length) Slot.unset).toArray = ls at hl ⊢
  have hl : lv_has ls 4 [(0, .ref a_o), (1, .int p1)] := hl
  exact B_X1_descentsAddedUp_0 (p1 := p1) C  s.heap [] ls hP hD va_S.rf hl hF
theorem kX1_ringsOf_f7 : Cond.fieldLink RX1 7 "DescentShuffles$Orders" "n" "I" ∈ wsX1_ringsOf := by decide +kernel
theorem kX1_ringsOf_wX1 : ∀ w ∈ u_ws RX1 TX1 11, w ∈ wsX1_ringsOf := by decide +kernel
def S_X1_ringsOf_35 (p : Program) (l : Launch) (e : Env) (s : State) (m : MethodId) (args : Array Value) (below : List Frame) (meth : Method) (c : Code) (A : Nat → Prop) (D : va_G) (y : Nat → ClassId) (a_o : Nat) (a_od : Nat) (a_op : Nat) (a_oi : Nat) (a_ov : Nat) (a_of : Nat) (a_ol : Nat) (a_om : Nat) (a_ow : Nat) (ll_o : Nat) (f_o_n : Int32) (f_o_many : Int32) (f_o_sets : Int32) (v_ol : Nat → Int32) (p1 : Int32) (R : Int32) (κ : Int32 → Int32 → Int32 → Int32 → Int32 → Option (Int32)) : Prop := ∀ (x2 : Int32) (x3 : Int32) (x4 : Int32) (x5 : Int32) (x6 : Int32) (H : Heap) (locs : List Loc) (ls : Array Slot), va_P D vwCl [(a_o, .inr (1, [.int f_o_n, .int f_o_many, .int f_o_sets, .ref a_od, .ref a_op, .ref a_oi, .ref a_ov, .ref a_of, .ref a_ol, .ref a_om, .ref a_ow])), (a_ol, .inl (y 0, ll_o, .inl v_ol))] H → va_D A [(a_o, .inr (1, [.int f_o_n, .int f_o_many, .int f_o_sets, .ref a_od, .ref a_op, .ref a_oi, .ref a_ov, .ref a_of, .ref a_ol, .ref a_om, .ref a_ow])), (a_ol, .inl (y 0, ll_o, .inl v_ol))] → va_S A s.heap H locs → lv_has ls 7 [(0, .ref a_o), (1, .int p1), (2, .int x2), (3, .int x3), (4, .int x4), (5, .int x5), (6, .int x6)] → κ x2 x3 x4 x5 x6 = some R → W p l e ({ frames := 1, cells := 0, slots := 0, locals := 22 } : Room) s m args below meth c H locs 0 0 (MQ below (va_Qi (fun (r : Int32) (_ : Unit) => r = R) (xB D y A [(a_o, .inr (1, [.int f_o_n, .int f_o_many, .int f_o_sets, .ref a_od, .ref a_op, .ref a_oi, .ref a_ov, .ref a_of, .ref a_ol, .ref a_om, .ref a_ow])), (a_ol, .inl (y 0, ll_o, .inl v_ol))]) A) args s 0 0 A) (F0 m 35 ls [])
def S_X1_ringsOf_7 (p : Program) (l : Launch) (e : Env) (s : State) (m : MethodId) (args : Array Value) (below : List Frame) (meth : Method) (c : Code) (A : Nat → Prop) (D : va_G) (y : Nat → ClassId) (a_o : Nat) (a_od : Nat) (a_op : Nat) (a_oi : Nat) (a_ov : Nat) (a_of : Nat) (a_ol : Nat) (a_om : Nat) (a_ow : Nat) (ll_o : Nat) (f_o_n : Int32) (f_o_many : Int32) (f_o_sets : Int32) (v_ol : Nat → Int32) (p1 : Int32) (R : Int32) (κ : Int32 → Int32 → Int32 → Option (Int32)) : Prop := ∀ (x2 : Int32) (x3 : Int32) (x4 : Int32) (H : Heap) (locs : List Loc) (ls : Array Slot), va_P D vwCl [(a_o, .inr (1, [.int f_o_n, .int f_o_many, .int f_o_sets, .ref a_od, .ref a_op, .ref a_oi, .ref a_ov, .ref a_of, .ref a_ol, .ref a_om, .ref a_ow])), (a_ol, .inl (y 0, ll_o, .inl v_ol))] H → va_D A [(a_o, .inr (1, [.int f_o_n, .int f_o_many, .int f_o_sets, .ref a_od, .ref a_op, .ref a_oi, .ref a_ov, .ref a_of, .ref a_ol, .ref a_om, .ref a_ow])), (a_ol, .inl (y 0, ll_o, .inl v_ol))] → va_S A s.heap H locs → lv_has ls 7 [(0, .ref a_o), (1, .int p1), (2, .int x2), (3, .int x3), (4, .int x4)] → κ x2 x3 x4 = some R → W p l e ({ frames := 1, cells := 0, slots := 0, locals := 22 } : Room) s m args below meth c H locs 0 0 (MQ below (va_Qi (fun (r : Int32) (_ : Unit) => r = R) (xB D y A [(a_o, .inr (1, [.int f_o_n, .int f_o_many, .int f_o_sets, .ref a_od, .ref a_op, .ref a_oi, .ref a_ov, .ref a_of, .ref a_ol, .ref a_om, .ref a_ow])), (a_ol, .inl (y 0, ll_o, .inl v_ol))]) A) args s 0 0 A) (F0 m 7 ls [])
def S_X1_ringsOf_0 (p : Program) (l : Launch) (e : Env) (s : State) (m : MethodId) (args : Array Value) (below : List Frame) (meth : Method) (c : Code) (A : Nat → Prop) (D : va_G) (y : Nat → ClassId) (a_o : Nat) (a_od : Nat) (a_op : Nat) (a_oi : Nat) (a_ov : Nat) (a_of : Nat) (a_ol : Nat) (a_om : Nat) (a_ow : Nat) (ll_o : Nat) (f_o_n : Int32) (f_o_many : Int32) (f_o_sets : Int32) (v_ol : Nat → Int32) (p1 : Int32) (R : Int32) (κ : Option (Int32)) : Prop := ∀ (H : Heap) (locs : List Loc) (ls : Array Slot), va_P D vwCl [(a_o, .inr (1, [.int f_o_n, .int f_o_many, .int f_o_sets, .ref a_od, .ref a_op, .ref a_oi, .ref a_ov, .ref a_of, .ref a_ol, .ref a_om, .ref a_ow])), (a_ol, .inl (y 0, ll_o, .inl v_ol))] H → va_D A [(a_o, .inr (1, [.int f_o_n, .int f_o_many, .int f_o_sets, .ref a_od, .ref a_op, .ref a_oi, .ref a_ov, .ref a_of, .ref a_ol, .ref a_om, .ref a_ow])), (a_ol, .inl (y 0, ll_o, .inl v_ol))] → va_S A s.heap H locs → lv_has ls 7 [(0, .ref a_o), (1, .int p1)] → κ = some R → W p l e ({ frames := 1, cells := 0, slots := 0, locals := 22 } : Room) s m args below meth c H locs 0 0 (MQ below (va_Qi (fun (r : Int32) (_ : Unit) => r = R) (xB D y A [(a_o, .inr (1, [.int f_o_n, .int f_o_many, .int f_o_sets, .ref a_od, .ref a_op, .ref a_oi, .ref a_ov, .ref a_of, .ref a_ol, .ref a_om, .ref a_ow])), (a_ol, .inl (y 0, ll_o, .inl v_ol))]) A) args s 0 0 A) (F0 m 0 ls [])
set_option maxHeartbeats 4000000 in
set_option maxRecDepth 100000 in
theorem B_X1_ringsOf_35 {p : Program} {l : Launch} {e : Env} {s : State} {m : MethodId} {args : Array Value} {below : List Frame} {meth : Method} {c : Code} {A : Nat → Prop} {D : va_G} {y : Nat → ClassId} {a_o : Nat} {a_od : Nat} {a_op : Nat} {a_oi : Nat} {a_ov : Nat} {a_of : Nat} {a_ol : Nat} {a_om : Nat} {a_ow : Nat} {ll_o : Nat} {f_o_n : Int32} {f_o_many : Int32} {f_o_sets : Int32} {v_ol : Nat → Int32} {p1 : Int32} {R : Int32} (C : xC p s m args meth c A cX1_ringsOf RX1 wsX1_ringsOf 7 (some .int) D y) {κ7 : Int32 → Int32 → Int32 → Option (Int32)} (k7 : S_X1_ringsOf_7 p l e s m args below meth c A D y a_o a_od a_op a_oi a_ov a_of a_ol a_om a_ow ll_o f_o_n f_o_many f_o_sets v_ol p1 R κ7) : ∀ f : Nat, S_X1_ringsOf_35 p l e s m args below meth c A D y a_o a_od a_op a_oi a_ov a_of a_ol a_om a_ow ll_o f_o_n f_o_many f_o_sets v_ol p1 R (F_X1_ringsOf_35 ll_o f_o_n v_ol p1 κ7 f) := by
  have C0 := C
  obtain ⟨hx, hb, hml, hown, hts, hr, hlocks, hK, hA⟩ := C
  intro f
  induction f with
  | zero =>
    intro x2 x3 x4 x5 x6 H locs ls hP hD hS hl hB
    rw [Z_X1_ringsOf_35] at hB
    cases hB
  | succ f ih =>
    intro x2 x3 x4 x5 x6 H locs ls hP hD hS hl hB
    rw [E_X1_ringsOf_35] at hB
    refine lv_iload hx hb dX1_ringsOf_35 (lv_at hl 6 rfl) ?_
    refine lv_aload_n hx hb dX1_ringsOf_37 rfl (lv_at hl 0 rfl) ?_
    refine va_get (D := D) (ci := 1) (v := .int f_o_n) (C := RX1) (T := TX1) (N := 11) hx hb hts kX1_ringsOf_wX1 hown hK hP 0 rfl rfl 0 (by decide) (hts _ kX1_ringsOf_f7) (fun _ h9 => h9) rfl dX1_ringsOf_38 ?_
    refine lv_icmp_ge (tgt := 68) hx hb dX1_ringsOf_41 (by decide) (fun c1 => ?_) (fun c1 => ?_)
    · have hB := xip c1 hB
      refine lv_iinc (v := x4 + 1) (lv' := [(4, .int (x4 + 1)), (0, .ref a_o), (1, .int p1), (2, .int x2), (3, .int x3), (5, .int x5), (6, .int x6)]) hx hb dX1_ringsOf_68 hl (k := 4) rfl rfl (by decide) rfl (fun ls hl => ?_)
      refine lv_goto (tgt := 7) hx hb dX1_ringsOf_71 (by decide) ?_
      exact k7 x2 x3 (x4 + 1) H locs ls hP hD hS (lv_sub hl [1, 2, 3, 4, 0] rfl) hB
    · have hB := xin c1 hB
      refine lv_iload_n hx hb dX1_ringsOf_44 rfl (lv_at hl 2 rfl) ?_
      refine lv_iconst (v := 1) hx hb dX1_ringsOf_45 (by decide) ?_
      refine lv_iload hx hb dX1_ringsOf_46 (lv_at hl 5 rfl) ?_
      refine lv_ishl hx hb dX1_ringsOf_48 ?_
      refine lv_ior hx hb dX1_ringsOf_49 ?_
      refine lv_istore_n (lv' := [(2, .int (x2 ||| ((1 : Int32) <<< (x5 &&& 31)))), (0, .ref a_o), (1, .int p1), (3, .int x3), (4, .int x4), (5, .int x5), (6, .int x6)]) hx hb dX1_ringsOf_50 rfl hl (by decide) rfl (fun ls hl => ?_)
      refine lv_aload_n hx hb dX1_ringsOf_51 rfl (lv_at hl 1 rfl) ?_
      refine lv_iload_n hx hb dX1_ringsOf_52 rfl (lv_at hl 2 rfl) ?_
      refine lv_iload hx hb dX1_ringsOf_53 (lv_at hl 5 rfl) ?_
      obtain ⟨q2, e2, hB⟩ := xbd hB
      have hPc := hP.sub (ws' := [(a_o, .inr (1, [.int f_o_n, .int f_o_many, .int f_o_sets, .ref a_od, .ref a_op, .ref a_oi, .ref a_ov, .ref a_of, .ref a_ol, .ref a_om, .ref a_ow])), (a_ol, .inl (y 0, ll_o, .inl v_ol))]) [0, 1] rfl
      have hDc := hD.sub (ws' := [(a_o, .inr (1, [.int f_o_n, .int f_o_many, .int f_o_sets, .ref a_od, .ref a_op, .ref a_oi, .ref a_ov, .ref a_of, .ref a_ol, .ref a_om, .ref a_ow])), (a_ol, .inl (y 0, ll_o, .inl v_ol))]) [0, 1] (by decide) rfl
      refine xcalli (mc := 0) (ms := 0) (rv := q2) (wc := [(a_o, .inr (1, [.int f_o_n, .int f_o_many, .int f_o_sets, .ref a_od, .ref a_op, .ref a_oi, .ref a_ov, .ref a_of, .ref a_ol, .ref a_om, .ref a_ow])), (a_ol, .inl (y 0, ll_o, .inl v_ol))]) (wr := []) (w1 := [(a_o, .inr (1, [.int f_o_n, .int f_o_many, .int f_o_sets, .ref a_od, .ref a_op, .ref a_oi, .ref a_ov, .ref a_of, .ref a_ol, .ref a_om, .ref a_ow])), (a_ol, .inl (y 0, ll_o, .inl v_ol))]) (wf := [(a_o, .inr (1, [.int f_o_n, .int f_o_many, .int f_o_sets, .ref a_od, .ref a_op, .ref a_oi, .ref a_ov, .ref a_of, .ref a_ol, .ref a_om, .ref a_ow])), (a_ol, .inl (y 0, ll_o, .inl v_ol))]) (va_runV (As := [.int p1, .int x5]) (rest := []) ⟨hx, hb, hml, hown, hts⟩ (c_X1_letterAt l D y a_o a_od a_op a_oi a_ov a_of a_ol a_om a_ow ll_o f_o_n f_o_many f_o_sets v_ol p1 x5 H.size e2) (cwV 2 hts gX1_ringsOf_X1_letterAt rfl rfl rfl (by decide +kernel) ⟨Nat.le_of_ble_eq_true rfl, Nat.le_of_ble_eq_true rfl⟩) ⟨xblind, va_recv hK hP (ci := 1) (q0 := 0) rfl rfl, xprev hPc hK hDc⟩ rfl rfl hl.1 rfl (lv_room (Nat.le_of_ble_eq_true rfl)) dX1_ringsOf_55 ⟨Nat.le_of_ble_eq_true rfl, Nat.le_of_ble_eq_true rfl⟩) hP hD hS hA [0, 1] [] [0, 1] rfl rfl (by decide) (by decide) rfl (by decide) (fun H locs hP hD hS => ?_)
      refine lv_iconst (v := 1) hx hb dX1_ringsOf_58 (by decide) ?_
      refine lv_isub hx hb dX1_ringsOf_59 ?_
      refine lv_istore (lv' := [(5, .int (q2 - (1 : Int32))), (2, .int (x2 ||| ((1 : Int32) <<< (x5 &&& 31)))), (0, .ref a_o), (1, .int p1), (3, .int x3), (4, .int x4), (6, .int x6)]) hx hb dX1_ringsOf_60 hl (by decide) rfl (fun ls hl => ?_)
      refine lv_iinc (v := x6 + 1) (lv' := [(6, .int (x6 + 1)), (5, .int (q2 - (1 : Int32))), (2, .int (x2 ||| ((1 : Int32) <<< (x5 &&& 31)))), (0, .ref a_o), (1, .int p1), (3, .int x3), (4, .int x4)]) hx hb dX1_ringsOf_62 hl (k := 6) rfl rfl (by decide) rfl (fun ls hl => ?_)
      refine lv_goto (tgt := 35) hx hb dX1_ringsOf_65 (by decide) ?_
      exact ih (x2 ||| ((1 : Int32) <<< (x5 &&& 31))) x3 x4 (q2 - (1 : Int32)) (x6 + 1) H locs ls hP hD hS (lv_sub hl [3, 4, 2, 5, 6, 1, 0] rfl) hB
set_option maxHeartbeats 4000000 in
set_option maxRecDepth 100000 in
theorem B_X1_ringsOf_7 {p : Program} {l : Launch} {e : Env} {s : State} {m : MethodId} {args : Array Value} {below : List Frame} {meth : Method} {c : Code} {A : Nat → Prop} {D : va_G} {y : Nat → ClassId} {a_o : Nat} {a_od : Nat} {a_op : Nat} {a_oi : Nat} {a_ov : Nat} {a_of : Nat} {a_ol : Nat} {a_om : Nat} {a_ow : Nat} {ll_o : Nat} {f_o_n : Int32} {f_o_many : Int32} {f_o_sets : Int32} {v_ol : Nat → Int32} {p1 : Int32} {R : Int32} (C : xC p s m args meth c A cX1_ringsOf RX1 wsX1_ringsOf 7 (some .int) D y)  : ∀ f : Nat, S_X1_ringsOf_7 p l e s m args below meth c A D y a_o a_od a_op a_oi a_ov a_of a_ol a_om a_ow ll_o f_o_n f_o_many f_o_sets v_ol p1 R (F_X1_ringsOf_7 ll_o f_o_n v_ol p1  f) := by
  have C0 := C
  obtain ⟨hx, hb, hml, hown, hts, hr, hlocks, hK, hA⟩ := C
  intro f
  induction f with
  | zero =>
    intro x2 x3 x4 H locs ls hP hD hS hl hB
    rw [Z_X1_ringsOf_7] at hB
    cases hB
  | succ f ih =>
    intro x2 x3 x4 H locs ls hP hD hS hl hB
    rw [E_X1_ringsOf_7] at hB
    refine lv_iload hx hb dX1_ringsOf_7 (lv_at hl 4 rfl) ?_
    refine lv_aload_n hx hb dX1_ringsOf_9 rfl (lv_at hl 0 rfl) ?_
    refine va_get (D := D) (ci := 1) (v := .int f_o_n) (C := RX1) (T := TX1) (N := 11) hx hb hts kX1_ringsOf_wX1 hown hK hP 0 rfl rfl 0 (by decide) (hts _ kX1_ringsOf_f7) (fun _ h9 => h9) rfl dX1_ringsOf_10 ?_
    refine lv_icmp_ge (tgt := 74) hx hb dX1_ringsOf_13 (by decide) (fun c1 => ?_) (fun c1 => ?_)
    · have hB := xip c1 hB
      refine lv_iload_n hx hb dX1_ringsOf_74 rfl (lv_at hl 3 rfl) ?_
      have hB := Option.some.inj hB
      subst hB
      exact W.iret hx hb hr (fun t ht hW => ⟨⟨_, (), rfl, rfl, by rw [ht]; exact hP, va_K.moved hW.alike hK, hD⟩, hS.F ht⟩) hS.2.2 dX1_ringsOf_75 hlocks
    · have hB := xin c1 hB
      refine lv_iload_n hx hb dX1_ringsOf_16 rfl (lv_at hl 2 rfl) ?_
      refine lv_iload hx hb dX1_ringsOf_17 (lv_at hl 4 rfl) ?_
      refine lv_ishr hx hb dX1_ringsOf_19 ?_
      refine lv_iconst (v := 1) hx hb dX1_ringsOf_20 (by decide) ?_
      refine lv_iand hx hb dX1_ringsOf_21 ?_
      refine lv_if_ne (tgt := 28) hx hb dX1_ringsOf_22 (by decide) (fun c2 => ?_) (fun c2 => ?_)
      · have hB := xin c2 hB
        refine lv_iload hx hb dX1_ringsOf_28 (lv_at hl 4 rfl) ?_
        refine lv_istore (lv' := [(5, .int x4), (0, .ref a_o), (1, .int p1), (2, .int x2), (3, .int x3), (4, .int x4)]) hx hb dX1_ringsOf_30 hl (by decide) rfl (fun ls hl => ?_)
        refine lv_iconst (v := 0) hx hb dX1_ringsOf_32 (by decide) ?_
        refine lv_istore (lv' := [(6, .int (0 : Int32)), (5, .int x4), (0, .ref a_o), (1, .int p1), (2, .int x2), (3, .int x3), (4, .int x4)]) hx hb dX1_ringsOf_33 hl (by decide) rfl (fun ls hl => ?_)
        exact B_X1_ringsOf_35 (p1 := p1) C0 ih xF x2 x3 x4 x4 (0 : Int32) H locs ls hP hD hS (lv_sub hl [2, 3, 4, 5, 6, 1, 0] rfl) hB
      · have hB := xip c2 hB
        refine lv_iinc (v := x3 + 1) (lv' := [(3, .int (x3 + 1)), (0, .ref a_o), (1, .int p1), (2, .int x2), (4, .int x4)]) hx hb dX1_ringsOf_25 hl (k := 3) rfl rfl (by decide) rfl (fun ls hl => ?_)
        refine lv_iload hx hb dX1_ringsOf_28 (lv_at hl 4 rfl) ?_
        refine lv_istore (lv' := [(5, .int x4), (3, .int (x3 + 1)), (0, .ref a_o), (1, .int p1), (2, .int x2), (4, .int x4)]) hx hb dX1_ringsOf_30 hl (by decide) rfl (fun ls hl => ?_)
        refine lv_iconst (v := 0) hx hb dX1_ringsOf_32 (by decide) ?_
        refine lv_istore (lv' := [(6, .int (0 : Int32)), (5, .int x4), (3, .int (x3 + 1)), (0, .ref a_o), (1, .int p1), (2, .int x2), (4, .int x4)]) hx hb dX1_ringsOf_33 hl (by decide) rfl (fun ls hl => ?_)
        exact B_X1_ringsOf_35 (p1 := p1) C0 ih xF x2 (x3 + 1) x4 x4 (0 : Int32) H locs ls hP hD hS (lv_sub hl [3, 4, 5, 2, 6, 1, 0] rfl) hB
set_option maxHeartbeats 4000000 in
set_option maxRecDepth 100000 in
theorem B_X1_ringsOf_0 {p : Program} {l : Launch} {e : Env} {s : State} {m : MethodId} {args : Array Value} {below : List Frame} {meth : Method} {c : Code} {A : Nat → Prop} {D : va_G} {y : Nat → ClassId} {a_o : Nat} {a_od : Nat} {a_op : Nat} {a_oi : Nat} {a_ov : Nat} {a_of : Nat} {a_ol : Nat} {a_om : Nat} {a_ow : Nat} {ll_o : Nat} {f_o_n : Int32} {f_o_many : Int32} {f_o_sets : Int32} {v_ol : Nat → Int32} {p1 : Int32} {R : Int32} (C : xC p s m args meth c A cX1_ringsOf RX1 wsX1_ringsOf 7 (some .int) D y)  : S_X1_ringsOf_0 p l e s m args below meth c A D y a_o a_od a_op a_oi a_ov a_of a_ol a_om a_ow ll_o f_o_n f_o_many f_o_sets v_ol p1 R (F_X1_ringsOf ll_o f_o_n v_ol p1 ) := by
  have C0 := C
  obtain ⟨hx, hb, hml, hown, hts, hr, hlocks, hK, hA⟩ := C
  intro H locs ls hP hD hS hl hB
  unfold F_X1_ringsOf at hB
  refine lv_iconst (v := 0) hx hb dX1_ringsOf_0 (by decide) ?_
  refine lv_istore_n (lv' := [(2, .int (0 : Int32)), (0, .ref a_o), (1, .int p1)]) hx hb dX1_ringsOf_1 rfl hl (by decide) rfl (fun ls hl => ?_)
  refine lv_iconst (v := 0) hx hb dX1_ringsOf_2 (by decide) ?_
  refine lv_istore_n (lv' := [(3, .int (0 : Int32)), (2, .int (0 : Int32)), (0, .ref a_o), (1, .int p1)]) hx hb dX1_ringsOf_3 rfl hl (by decide) rfl (fun ls hl => ?_)
  refine lv_iconst (v := 0) hx hb dX1_ringsOf_4 (by decide) ?_
  refine lv_istore (lv' := [(4, .int (0 : Int32)), (3, .int (0 : Int32)), (2, .int (0 : Int32)), (0, .ref a_o), (1, .int p1)]) hx hb dX1_ringsOf_5 hl (by decide) rfl (fun ls hl => ?_)
  exact B_X1_ringsOf_7 (p1 := p1) C0 xF (0 : Int32) (0 : Int32) (0 : Int32) H locs ls hP hD hS (lv_sub hl [3, 4, 2, 1, 0] rfl) hB
set_option maxHeartbeats 4000000 in
set_option maxRecDepth 100000 in
theorem c_X1_ringsOf (l : Launch) (D : va_G) (y : Nat → ClassId) (a_o : Nat) (a_od : Nat) (a_op : Nat) (a_oi : Nat) (a_ov : Nat) (a_of : Nat) (a_ol : Nat) (a_om : Nat) (a_ow : Nat) (ll_o : Nat) (f_o_n : Int32) (f_o_many : Int32) (f_o_sets : Int32) (v_ol : Nat → Int32) (p1 : Int32) (sz : Nat) {R : Int32} (hF : F_X1_ringsOf ll_o f_o_n v_ol p1 = some R) : Met l yX1_ringsOf wsX1_ringsOf ({ frames := 1, cells := 0, slots := 0, locals := 22 } : Room) (xPre D y sz [.ref a_o, .int p1] [(a_o, .inr (1, [.int f_o_n, .int f_o_many, .int f_o_sets, .ref a_od, .ref a_op, .ref a_oi, .ref a_ov, .ref a_of, .ref a_ol, .ref a_om, .ref a_ow])), (a_ol, .inl (y 0, ll_o, .inl v_ol))]) (va_Qi (fun (r : Int32) (_ : Unit) => r = R) (xB D y (va_A [(a_o, .inr (1, [.int f_o_n, .int f_o_many, .int f_o_sets, .ref a_od, .ref a_op, .ref a_oi, .ref a_ov, .ref a_of, .ref a_ol, .ref a_om, .ref a_ow])), (a_ol, .inl (y 0, ll_o, .inl v_ol))] sz) [(a_o, .inr (1, [.int f_o_n, .int f_o_many, .int f_o_sets, .ref a_od, .ref a_op, .ref a_oi, .ref a_ov, .ref a_of, .ref a_ol, .ref a_om, .ref a_ow])), (a_ol, .inl (y 0, ll_o, .inl v_ol))]) (va_A [(a_o, .inr (1, [.int f_o_n, .int f_o_many, .int f_o_sets, .ref a_od, .ref a_op, .ref a_oi, .ref a_ov, .ref a_of, .ref a_ol, .ref a_om, .ref a_ow])), (a_ol, .inl (y 0, ll_o, .inl v_ol))] sz)) 0 0 (va_A [(a_o, .inr (1, [.int f_o_n, .int f_o_many, .int f_o_sets, .ref a_od, .ref a_op, .ref a_oi, .ref a_ov, .ref a_of, .ref a_ol, .ref a_om, .ref a_ow])), (a_ol, .inl (y 0, ll_o, .inl v_ol))] sz) := by
  refine Met.ofW (cc := cX1_ringsOf) (maxL := 7) (ret := (some .int)) (by decide) rfl ?_
  intro p e s m args below meth c s₁ B hml hv
  obtain ⟨rfl, hsz, hP, hK, hD0⟩ := hv
  subst hsz
  have hD := hD0.self (sz := s.heap.size)
  have C : xC p s m [.ref a_o, .int p1].toArray meth c (va_A [(a_o, .inr (1, [.int f_o_n, .int f_o_many, .int f_o_sets, .ref a_od, .ref a_op, .ref a_oi, .ref a_ov, .ref a_of, .ref a_ol, .ref a_om, .ref a_ow])), (a_ol, .inl (y 0, ll_o, .inl v_ol))] s.heap.size) cX1_ringsOf RX1 wsX1_ringsOf 7 (some .int) D y := ⟨B.exec, B.bytes, hml, findClass_of_methodNamed B.named, atoms_spec (ws := wsX1_ringsOf) B.pre, B.returns, B.notSynchronized, hK, fun q h => Or.inr h⟩
  have hl := lv_entry ([.ref a_o, .int p1]) (n := 7) (Nat.le_of_ble_eq_true rfl)
  rw [lg_entry_eq]
  generalize (lg_sl ([.ref a_o, .int p1]) ++ List.replicate (7 - (lg_sl ([.ref a_o, .int p1])).length) Slot.unset).toArray = ls at hl ⊢
  have hl : lv_has ls 7 [(0, .ref a_o), (1, .int p1)] := hl
  exact B_X1_ringsOf_0 (p1 := p1) C  s.heap [] ls hP hD va_S.rf hl hF
theorem kX5_orderOf_c67 : Cond.constant RX5 67 (-10000001) ∈ wsX5_orderOf := by decide +kernel
theorem kX5_orderOf_f59 : Cond.fieldLink RX5 59 "DescentShuffles" "orders" "LDescentShuffles$Orders;" ∈ wsX5_orderOf := by decide +kernel
theorem kX5_orderOf_wX5 : ∀ w ∈ u_ws RX5 TX5 9, w ∈ wsX5_orderOf := by decide +kernel
theorem kX5_orderOf_f68 : Cond.fieldLink RX5 68 "DescentShuffles$Orders" "n" "I" ∈ wsX5_orderOf := by decide +kernel
theorem kX5_orderOf_wX1 : ∀ w ∈ u_ws RX1 TX1 11, w ∈ wsX5_orderOf := by decide +kernel
theorem kX5_orderOf_f101 : Cond.fieldLink RX5 101 "DescentShuffles$Orders" "descents" "[I" ∈ wsX5_orderOf := by decide +kernel
theorem kX5_orderOf_f136 : Cond.fieldLink RX5 136 "DescentShuffles$Orders" "peaks" "[I" ∈ wsX5_orderOf := by decide +kernel
theorem kX5_orderOf_f139 : Cond.fieldLink RX5 139 "DescentShuffles$Orders" "inversions" "[I" ∈ wsX5_orderOf := by decide +kernel
theorem kX5_orderOf_f142 : Cond.fieldLink RX5 142 "DescentShuffles$Orders" "inverses" "[I" ∈ wsX5_orderOf := by decide +kernel
def S_X5_orderOf_0 (p : Program) (l : Launch) (e : Env) (s : State) (m : MethodId) (args : Array Value) (below : List Frame) (meth : Method) (c : Code) (A : Nat → Prop) (D : va_G) (y : Nat → ClassId) (a_x : Nat) (a_known : Nat) (a_so : Nat) (a_made : Nat) (a_pcl : Nat) (a_hi : Nat) (a_tx : Nat) (a_rd : Nat) (a_tb : Nat) (a_o : Nat) (a_od : Nat) (a_op : Nat) (a_oi : Nat) (a_ov : Nat) (a_of : Nat) (a_ol : Nat) (a_om : Nat) (a_ow : Nat) (lm_o : Nat) (ll_o : Nat) (f_o_n : Int32) (f_o_many : Int32) (f_o_sets : Int32) (v_od : Nat → Int32) (v_op : Nat → Int32) (v_oi : Nat → Int32) (v_ov : Nat → Int32) (v_ol : Nat → Int32) (p1 : Int32) (p2 : Int32) (R : Int32) (κ : Option (Int32)) : Prop := ∀ (H : Heap) (locs : List Loc) (ls : Array Slot), va_P D vwCl [(a_x, .inr (5, [.ref a_known, .ref a_so, .ref a_made, .ref a_pcl, .ref a_hi, .ref a_tx, .ref a_rd, .ref a_tb, .ref a_o])), (a_o, .inr (1, [.int f_o_n, .int f_o_many, .int f_o_sets, .ref a_od, .ref a_op, .ref a_oi, .ref a_ov, .ref a_of, .ref a_ol, .ref a_om, .ref a_ow])), (a_od, .inl (y 0, lm_o, .inl v_od)), (a_op, .inl (y 0, lm_o, .inl v_op)), (a_oi, .inl (y 0, lm_o, .inl v_oi)), (a_ov, .inl (y 0, lm_o, .inl v_ov)), (a_ol, .inl (y 0, ll_o, .inl v_ol))] H → va_D A [(a_x, .inr (5, [.ref a_known, .ref a_so, .ref a_made, .ref a_pcl, .ref a_hi, .ref a_tx, .ref a_rd, .ref a_tb, .ref a_o])), (a_o, .inr (1, [.int f_o_n, .int f_o_many, .int f_o_sets, .ref a_od, .ref a_op, .ref a_oi, .ref a_ov, .ref a_of, .ref a_ol, .ref a_om, .ref a_ow])), (a_od, .inl (y 0, lm_o, .inl v_od)), (a_op, .inl (y 0, lm_o, .inl v_op)), (a_oi, .inl (y 0, lm_o, .inl v_oi)), (a_ov, .inl (y 0, lm_o, .inl v_ov)), (a_ol, .inl (y 0, ll_o, .inl v_ol))] → va_S A s.heap H locs → lv_has ls 3 [(0, .ref a_x), (1, .int p1), (2, .int p2)] → κ = some R → W p l e ({ frames := 2, cells := 0, slots := 0, locals := 48 } : Room) s m args below meth c H locs 0 0 (MQ below (va_Qi (fun (r : Int32) (_ : Unit) => r = R) (xB D y A [(a_x, .inr (5, [.ref a_known, .ref a_so, .ref a_made, .ref a_pcl, .ref a_hi, .ref a_tx, .ref a_rd, .ref a_tb, .ref a_o])), (a_o, .inr (1, [.int f_o_n, .int f_o_many, .int f_o_sets, .ref a_od, .ref a_op, .ref a_oi, .ref a_ov, .ref a_of, .ref a_ol, .ref a_om, .ref a_ow])), (a_od, .inl (y 0, lm_o, .inl v_od)), (a_op, .inl (y 0, lm_o, .inl v_op)), (a_oi, .inl (y 0, lm_o, .inl v_oi)), (a_ov, .inl (y 0, lm_o, .inl v_ov)), (a_ol, .inl (y 0, ll_o, .inl v_ol))]) A) args s 0 0 A) (F0 m 0 ls [])
set_option maxHeartbeats 4000000 in
set_option maxRecDepth 100000 in
theorem B_X5_orderOf_0 {p : Program} {l : Launch} {e : Env} {s : State} {m : MethodId} {args : Array Value} {below : List Frame} {meth : Method} {c : Code} {A : Nat → Prop} {D : va_G} {y : Nat → ClassId} {a_x : Nat} {a_known : Nat} {a_so : Nat} {a_made : Nat} {a_pcl : Nat} {a_hi : Nat} {a_tx : Nat} {a_rd : Nat} {a_tb : Nat} {a_o : Nat} {a_od : Nat} {a_op : Nat} {a_oi : Nat} {a_ov : Nat} {a_of : Nat} {a_ol : Nat} {a_om : Nat} {a_ow : Nat} {lm_o : Nat} {ll_o : Nat} {f_o_n : Int32} {f_o_many : Int32} {f_o_sets : Int32} {v_od : Nat → Int32} {v_op : Nat → Int32} {v_oi : Nat → Int32} {v_ov : Nat → Int32} {v_ol : Nat → Int32} {p1 : Int32} {p2 : Int32} {R : Int32} (C : xC p s m args meth c A cX5_orderOf RX5 wsX5_orderOf 3 (some .int) D y)  : S_X5_orderOf_0 p l e s m args below meth c A D y a_x a_known a_so a_made a_pcl a_hi a_tx a_rd a_tb a_o a_od a_op a_oi a_ov a_of a_ol a_om a_ow lm_o ll_o f_o_n f_o_many f_o_sets v_od v_op v_oi v_ov v_ol p1 p2 R (F_X5_orderOf lm_o ll_o f_o_n f_o_many v_od v_op v_oi v_ov v_ol p1 p2 ) := by
  have C0 := C
  obtain ⟨hx, hb, hml, hown, hts, hr, hlocks, hK, hA⟩ := C
  intro H locs ls hP hD hS hl hB
  unfold F_X5_orderOf at hB
  refine lv_aload_n hx hb dX5_orderOf_0 rfl (lv_at hl 0 rfl) ?_
  refine lv_iload_n hx hb dX5_orderOf_1 rfl (lv_at hl 1 rfl) ?_
  obtain ⟨q1, e1, hB⟩ := xbd hB
  have hPc := hP.sub (ws' := [(a_x, .inr (5, [.ref a_known, .ref a_so, .ref a_made, .ref a_pcl, .ref a_hi, .ref a_tx, .ref a_rd, .ref a_tb, .ref a_o])), (a_o, .inr (1, [.int f_o_n, .int f_o_many, .int f_o_sets, .ref a_od, .ref a_op, .ref a_oi, .ref a_ov, .ref a_of, .ref a_ol, .ref a_om, .ref a_ow]))]) [0, 1] rfl
  have hDc := hD.sub (ws' := [(a_x, .inr (5, [.ref a_known, .ref a_so, .ref a_made, .ref a_pcl, .ref a_hi, .ref a_tx, .ref a_rd, .ref a_tb, .ref a_o])), (a_o, .inr (1, [.int f_o_n, .int f_o_many, .int f_o_sets, .ref a_od, .ref a_op, .ref a_oi, .ref a_ov, .ref a_of, .ref a_ol, .ref a_om, .ref a_ow]))]) [0, 1] (by decide) rfl
  refine xcalli (mc := 0) (ms := 0) (rv := q1) (wc := [(a_x, .inr (5, [.ref a_known, .ref a_so, .ref a_made, .ref a_pcl, .ref a_hi, .ref a_tx, .ref a_rd, .ref a_tb, .ref a_o])), (a_o, .inr (1, [.int f_o_n, .int f_o_many, .int f_o_sets, .ref a_od, .ref a_op, .ref a_oi, .ref a_ov, .ref a_of, .ref a_ol, .ref a_om, .ref a_ow]))]) (wr := [(a_od, .inl (y 0, lm_o, .inl v_od)), (a_op, .inl (y 0, lm_o, .inl v_op)), (a_oi, .inl (y 0, lm_o, .inl v_oi)), (a_ov, .inl (y 0, lm_o, .inl v_ov)), (a_ol, .inl (y 0, ll_o, .inl v_ol))]) (w1 := [(a_x, .inr (5, [.ref a_known, .ref a_so, .ref a_made, .ref a_pcl, .ref a_hi, .ref a_tx, .ref a_rd, .ref a_tb, .ref a_o])), (a_o, .inr (1, [.int f_o_n, .int f_o_many, .int f_o_sets, .ref a_od, .ref a_op, .ref a_oi, .ref a_ov, .ref a_of, .ref a_ol, .ref a_om, .ref a_ow]))]) (wf := [(a_x, .inr (5, [.ref a_known, .ref a_so, .ref a_made, .ref a_pcl, .ref a_hi, .ref a_tx, .ref a_rd, .ref a_tb, .ref a_o])), (a_o, .inr (1, [.int f_o_n, .int f_o_many, .int f_o_sets, .ref a_od, .ref a_op, .ref a_oi, .ref a_ov, .ref a_of, .ref a_ol, .ref a_om, .ref a_ow])), (a_od, .inl (y 0, lm_o, .inl v_od)), (a_op, .inl (y 0, lm_o, .inl v_op)), (a_oi, .inl (y 0, lm_o, .inl v_oi)), (a_ov, .inl (y 0, lm_o, .inl v_ov)), (a_ol, .inl (y 0, ll_o, .inl v_ol))]) (va_runV (As := [.int p1]) (rest := []) ⟨hx, hb, hml, hown, hts⟩ (c_X5_isOrder l D y a_x a_known a_so a_made a_pcl a_hi a_tx a_rd a_tb a_o a_od a_op a_oi a_ov a_of a_ol a_om a_ow f_o_n f_o_many f_o_sets p1 H.size e1) (cwV 1 hts gX5_orderOf_X5_isOrder rfl rfl rfl (by decide +kernel) ⟨Nat.le_of_ble_eq_true rfl, Nat.le_of_ble_eq_true rfl⟩) ⟨xblind, va_recv hK hP (ci := 5) (q0 := 0) rfl rfl, xprev hPc hK hDc⟩ rfl rfl hl.1 rfl (lv_room (Nat.le_of_ble_eq_true rfl)) dX5_orderOf_2 ⟨Nat.le_of_ble_eq_true rfl, Nat.le_of_ble_eq_true rfl⟩) hP hD hS hA [0, 1] [2, 3, 4, 5, 6] [5, 6, 0, 1, 2, 3, 4] rfl rfl (by decide) (by decide) rfl (by decide) (fun H locs hP hD hS => ?_)
  refine lv_if_ne (tgt := 11) hx hb dX5_orderOf_5 (by decide) (fun c2 => ?_) (fun c2 => ?_)
  · have hB := xin c2 hB
    refine lv_iload_n hx hb dX5_orderOf_11 rfl (lv_at hl 2 rfl) ?_
    refine lv_bipush (v := 10) hx hb dX5_orderOf_12 (by decide) ?_
    refine lv_bipush (v := 10) hx hb dX5_orderOf_14 (by decide) ?_
    refine lv_aload_n hx hb dX5_orderOf_16 rfl (lv_at hl 0 rfl) ?_
    refine va_get (D := D) (ci := 5) (v := .ref a_o) (C := RX5) (T := TX5) (N := 9) hx hb hts kX5_orderOf_wX5 hown hK hP 0 rfl rfl 8 (by decide) (hts _ kX5_orderOf_f59) (fun _ h9 => h9) rfl dX5_orderOf_17 ?_
    refine va_get (D := D) (ci := 1) (v := .int f_o_n) (C := RX1) (T := TX1) (N := 11) hx hb hts kX5_orderOf_wX1 hown hK hP 1 rfl rfl 0 (by decide) (hts _ kX5_orderOf_f68) (fun _ h9 => h9) rfl dX5_orderOf_20 ?_
    refine lv_iadd hx hb dX5_orderOf_23 ?_
    refine lv_iconst (v := 1) hx hb dX5_orderOf_24 (by decide) ?_
    refine lv_isub hx hb dX5_orderOf_25 ?_
    obtain ⟨q3, e3, hB⟩ := xbd hB
    have hPc := hP.sub (ws' := []) [] rfl
    have hDc := hD.sub (ws' := []) [] (by decide) rfl
    refine xcalli (mc := 0) (ms := 0) (rv := q3) (wc := []) (wr := [(a_x, .inr (5, [.ref a_known, .ref a_so, .ref a_made, .ref a_pcl, .ref a_hi, .ref a_tx, .ref a_rd, .ref a_tb, .ref a_o])), (a_o, .inr (1, [.int f_o_n, .int f_o_many, .int f_o_sets, .ref a_od, .ref a_op, .ref a_oi, .ref a_ov, .ref a_of, .ref a_ol, .ref a_om, .ref a_ow])), (a_od, .inl (y 0, lm_o, .inl v_od)), (a_op, .inl (y 0, lm_o, .inl v_op)), (a_oi, .inl (y 0, lm_o, .inl v_oi)), (a_ov, .inl (y 0, lm_o, .inl v_ov)), (a_ol, .inl (y 0, ll_o, .inl v_ol))]) (w1 := []) (wf := [(a_x, .inr (5, [.ref a_known, .ref a_so, .ref a_made, .ref a_pcl, .ref a_hi, .ref a_tx, .ref a_rd, .ref a_tb, .ref a_o])), (a_o, .inr (1, [.int f_o_n, .int f_o_many, .int f_o_sets, .ref a_od, .ref a_op, .ref a_oi, .ref a_ov, .ref a_of, .ref a_ol, .ref a_om, .ref a_ow])), (a_od, .inl (y 0, lm_o, .inl v_od)), (a_op, .inl (y 0, lm_o, .inl v_op)), (a_oi, .inl (y 0, lm_o, .inl v_oi)), (a_ov, .inl (y 0, lm_o, .inl v_ov)), (a_ol, .inl (y 0, ll_o, .inl v_ol))]) (va_runS (As := [.int p2, .int (10 : Int32), .int (((10 : Int32) + f_o_n) - (1 : Int32))]) (rest := []) ⟨hx, hb, hml, hown, hts⟩ (c_X5_isWithin l D y p2 (10 : Int32) (((10 : Int32) + f_o_n) - (1 : Int32)) H.size e3) (va_cwS 3 hts gX5_orderOf_X5_isWithin rfl rfl rfl (by decide +kernel) ⟨Nat.le_of_ble_eq_true rfl, Nat.le_of_ble_eq_true rfl⟩) ⟨xblind, xprev hPc hK hDc⟩ rfl rfl hl.1 rfl (lv_room (Nat.le_of_ble_eq_true rfl)) dX5_orderOf_26 ⟨Nat.le_of_ble_eq_true rfl, Nat.le_of_ble_eq_true rfl⟩) hP hD hS hA [] [0, 1, 2, 3, 4, 5, 6] [0, 1, 2, 3, 4, 5, 6] rfl rfl (by decide) (by decide) rfl (by decide) (fun H locs hP hD hS => ?_)
    refine lv_if_eq (tgt := 45) hx hb dX5_orderOf_29 (by decide) (fun c4 => ?_) (fun c4 => ?_)
    · have hB := xip c4 hB
      refine lv_iload_n hx hb dX5_orderOf_45 rfl (lv_at hl 2 rfl) ?_
      by_cases h46_0 : p2 = 0
      · have hB := xip h46_0 hB
        have ht46 : p2.toInt = 0 := by rw [h46_0]; decide
        refine lv_tableIn (off := 42) (tgt := 88) hx hb dX5_orderOf_46 (by rw [ht46]; decide) (by rw [ht46]; decide) (by rw [ht46]; rfl) (by decide) ?_
        refine lv_aload_n hx hb dX5_orderOf_88 rfl (lv_at hl 0 rfl) ?_
        refine va_get (D := D) (ci := 5) (v := .ref a_o) (C := RX5) (T := TX5) (N := 9) hx hb hts kX5_orderOf_wX5 hown hK hP 0 rfl rfl 8 (by decide) (hts _ kX5_orderOf_f59) (fun _ h9 => h9) rfl dX5_orderOf_89 ?_
        refine va_get (D := D) (ci := 1) (v := .ref a_od) (C := RX1) (T := TX1) (N := 11) hx hb hts kX5_orderOf_wX1 hown hK hP 1 rfl rfl 3 (by decide) (hts _ kX5_orderOf_f101) (fun _ h9 => h9) rfl dX5_orderOf_92 ?_
        refine lv_iload_n hx hb dX5_orderOf_95 rfl (lv_at hl 1 rfl) ?_
        obtain ⟨g5, hB⟩ := xg_some hB
        refine va_iald hx hb hK hP 2 0 rfl rfl g5 dX5_orderOf_96 ?_
        have hB := Option.some.inj hB
        subst hB
        exact W.iret hx hb hr (fun t ht hW => ⟨⟨_, (), rfl, rfl, by rw [ht]; exact hP, va_K.moved hW.alike hK, hD⟩, hS.F ht⟩) hS.2.2 dX5_orderOf_97 hlocks
      · have hB := xin h46_0 hB
        by_cases h46_1 : p2 = 1
        · have hB := xip h46_1 hB
          have ht46 : p2.toInt = 1 := by rw [h46_1]; decide
          refine lv_tableIn (off := 52) (tgt := 98) hx hb dX5_orderOf_46 (by rw [ht46]; decide) (by rw [ht46]; decide) (by rw [ht46]; rfl) (by decide) ?_
          refine lv_aload_n hx hb dX5_orderOf_98 rfl (lv_at hl 0 rfl) ?_
          refine va_get (D := D) (ci := 5) (v := .ref a_o) (C := RX5) (T := TX5) (N := 9) hx hb hts kX5_orderOf_wX5 hown hK hP 0 rfl rfl 8 (by decide) (hts _ kX5_orderOf_f59) (fun _ h9 => h9) rfl dX5_orderOf_99 ?_
          refine va_get (D := D) (ci := 1) (v := .ref a_op) (C := RX1) (T := TX1) (N := 11) hx hb hts kX5_orderOf_wX1 hown hK hP 1 rfl rfl 4 (by decide) (hts _ kX5_orderOf_f136) (fun _ h9 => h9) rfl dX5_orderOf_102 ?_
          refine lv_iload_n hx hb dX5_orderOf_105 rfl (lv_at hl 1 rfl) ?_
          obtain ⟨g6, hB⟩ := xg_some hB
          refine va_iald hx hb hK hP 3 0 rfl rfl g6 dX5_orderOf_106 ?_
          have hB := Option.some.inj hB
          subst hB
          exact W.iret hx hb hr (fun t ht hW => ⟨⟨_, (), rfl, rfl, by rw [ht]; exact hP, va_K.moved hW.alike hK, hD⟩, hS.F ht⟩) hS.2.2 dX5_orderOf_107 hlocks
        · have hB := xin h46_1 hB
          by_cases h46_2 : p2 = 2
          · have hB := xip h46_2 hB
            have ht46 : p2.toInt = 2 := by rw [h46_2]; decide
            refine lv_tableIn (off := 62) (tgt := 108) hx hb dX5_orderOf_46 (by rw [ht46]; decide) (by rw [ht46]; decide) (by rw [ht46]; rfl) (by decide) ?_
            refine lv_aload_n hx hb dX5_orderOf_108 rfl (lv_at hl 0 rfl) ?_
            refine va_get (D := D) (ci := 5) (v := .ref a_o) (C := RX5) (T := TX5) (N := 9) hx hb hts kX5_orderOf_wX5 hown hK hP 0 rfl rfl 8 (by decide) (hts _ kX5_orderOf_f59) (fun _ h9 => h9) rfl dX5_orderOf_109 ?_
            refine va_get (D := D) (ci := 1) (v := .ref a_oi) (C := RX1) (T := TX1) (N := 11) hx hb hts kX5_orderOf_wX1 hown hK hP 1 rfl rfl 5 (by decide) (hts _ kX5_orderOf_f139) (fun _ h9 => h9) rfl dX5_orderOf_112 ?_
            refine lv_iload_n hx hb dX5_orderOf_115 rfl (lv_at hl 1 rfl) ?_
            obtain ⟨g7, hB⟩ := xg_some hB
            refine va_iald hx hb hK hP 4 0 rfl rfl g7 dX5_orderOf_116 ?_
            have hB := Option.some.inj hB
            subst hB
            exact W.iret hx hb hr (fun t ht hW => ⟨⟨_, (), rfl, rfl, by rw [ht]; exact hP, va_K.moved hW.alike hK, hD⟩, hS.F ht⟩) hS.2.2 dX5_orderOf_117 hlocks
          · have hB := xin h46_2 hB
            by_cases h46_3 : p2 = 3
            · have hB := xip h46_3 hB
              have ht46 : p2.toInt = 3 := by rw [h46_3]; decide
              refine lv_tableIn (off := 72) (tgt := 118) hx hb dX5_orderOf_46 (by rw [ht46]; decide) (by rw [ht46]; decide) (by rw [ht46]; rfl) (by decide) ?_
              refine lv_aload_n hx hb dX5_orderOf_118 rfl (lv_at hl 0 rfl) ?_
              refine va_get (D := D) (ci := 5) (v := .ref a_o) (C := RX5) (T := TX5) (N := 9) hx hb hts kX5_orderOf_wX5 hown hK hP 0 rfl rfl 8 (by decide) (hts _ kX5_orderOf_f59) (fun _ h9 => h9) rfl dX5_orderOf_119 ?_
              refine lv_iload_n hx hb dX5_orderOf_122 rfl (lv_at hl 1 rfl) ?_
              obtain ⟨q8, e8, hB⟩ := xbd hB
              have hPc := hP.sub (ws' := [(a_o, .inr (1, [.int f_o_n, .int f_o_many, .int f_o_sets, .ref a_od, .ref a_op, .ref a_oi, .ref a_ov, .ref a_of, .ref a_ol, .ref a_om, .ref a_ow])), (a_oi, .inl (y 0, lm_o, .inl v_oi))]) [1, 4] rfl
              have hDc := hD.sub (ws' := [(a_o, .inr (1, [.int f_o_n, .int f_o_many, .int f_o_sets, .ref a_od, .ref a_op, .ref a_oi, .ref a_ov, .ref a_of, .ref a_ol, .ref a_om, .ref a_ow])), (a_oi, .inl (y 0, lm_o, .inl v_oi))]) [1, 4] (by decide) rfl
              refine xcalli (mc := 0) (ms := 0) (rv := q8) (wc := [(a_o, .inr (1, [.int f_o_n, .int f_o_many, .int f_o_sets, .ref a_od, .ref a_op, .ref a_oi, .ref a_ov, .ref a_of, .ref a_ol, .ref a_om, .ref a_ow])), (a_oi, .inl (y 0, lm_o, .inl v_oi))]) (wr := [(a_x, .inr (5, [.ref a_known, .ref a_so, .ref a_made, .ref a_pcl, .ref a_hi, .ref a_tx, .ref a_rd, .ref a_tb, .ref a_o])), (a_od, .inl (y 0, lm_o, .inl v_od)), (a_op, .inl (y 0, lm_o, .inl v_op)), (a_ov, .inl (y 0, lm_o, .inl v_ov)), (a_ol, .inl (y 0, ll_o, .inl v_ol))]) (w1 := [(a_o, .inr (1, [.int f_o_n, .int f_o_many, .int f_o_sets, .ref a_od, .ref a_op, .ref a_oi, .ref a_ov, .ref a_of, .ref a_ol, .ref a_om, .ref a_ow])), (a_oi, .inl (y 0, lm_o, .inl v_oi))]) (wf := [(a_x, .inr (5, [.ref a_known, .ref a_so, .ref a_made, .ref a_pcl, .ref a_hi, .ref a_tx, .ref a_rd, .ref a_tb, .ref a_o])), (a_o, .inr (1, [.int f_o_n, .int f_o_many, .int f_o_sets, .ref a_od, .ref a_op, .ref a_oi, .ref a_ov, .ref a_of, .ref a_ol, .ref a_om, .ref a_ow])), (a_od, .inl (y 0, lm_o, .inl v_od)), (a_op, .inl (y 0, lm_o, .inl v_op)), (a_oi, .inl (y 0, lm_o, .inl v_oi)), (a_ov, .inl (y 0, lm_o, .inl v_ov)), (a_ol, .inl (y 0, ll_o, .inl v_ol))]) (va_runV (As := [.int p1]) (rest := []) ⟨hx, hb, hml, hown, hts⟩ (c_X1_parityOf l D y a_o a_od a_op a_oi a_ov a_of a_ol a_om a_ow lm_o f_o_n f_o_many f_o_sets v_oi p1 H.size e8) (cwV 1 hts gX5_orderOf_X1_parityOf rfl rfl rfl (by decide +kernel) ⟨Nat.le_of_ble_eq_true rfl, Nat.le_of_ble_eq_true rfl⟩) ⟨xblind, va_recv hK hP (ci := 1) (q0 := 1) rfl rfl, xprev hPc hK hDc⟩ rfl rfl hl.1 rfl (lv_room (Nat.le_of_ble_eq_true rfl)) dX5_orderOf_123 ⟨Nat.le_of_ble_eq_true rfl, Nat.le_of_ble_eq_true rfl⟩) hP hD hS hA [1, 4] [0, 2, 3, 5, 6] [0, 5, 1, 2, 6, 3, 4] rfl rfl (by decide) (by decide) rfl (by decide) (fun H locs hP hD hS => ?_)
              have hB := Option.some.inj hB
              subst hB
              exact W.iret hx hb hr (fun t ht hW => ⟨⟨_, (), rfl, rfl, by rw [ht]; exact hP, va_K.moved hW.alike hK, hD⟩, hS.F ht⟩) hS.2.2 dX5_orderOf_126 hlocks
            · have hB := xin h46_3 hB
              by_cases h46_4 : p2 = 4
              · have hB := xip h46_4 hB
                have ht46 : p2.toInt = 4 := by rw [h46_4]; decide
                refine lv_tableIn (off := 81) (tgt := 127) hx hb dX5_orderOf_46 (by rw [ht46]; decide) (by rw [ht46]; decide) (by rw [ht46]; rfl) (by decide) ?_
                refine lv_aload_n hx hb dX5_orderOf_127 rfl (lv_at hl 0 rfl) ?_
                refine va_get (D := D) (ci := 5) (v := .ref a_o) (C := RX5) (T := TX5) (N := 9) hx hb hts kX5_orderOf_wX5 hown hK hP 0 rfl rfl 8 (by decide) (hts _ kX5_orderOf_f59) (fun _ h9 => h9) rfl dX5_orderOf_128 ?_
                refine va_get (D := D) (ci := 1) (v := .ref a_ov) (C := RX1) (T := TX1) (N := 11) hx hb hts kX5_orderOf_wX1 hown hK hP 1 rfl rfl 6 (by decide) (hts _ kX5_orderOf_f142) (fun _ h9 => h9) rfl dX5_orderOf_131 ?_
                refine lv_iload_n hx hb dX5_orderOf_134 rfl (lv_at hl 1 rfl) ?_
                obtain ⟨g9, hB⟩ := xg_some hB
                refine va_iald hx hb hK hP 5 0 rfl rfl g9 dX5_orderOf_135 ?_
                have hB := Option.some.inj hB
                subst hB
                exact W.iret hx hb hr (fun t ht hW => ⟨⟨_, (), rfl, rfl, by rw [ht]; exact hP, va_K.moved hW.alike hK, hD⟩, hS.F ht⟩) hS.2.2 dX5_orderOf_136 hlocks
              · have hB := xin h46_4 hB
                by_cases h46_5 : p2 = 5
                · have hB := xip h46_5 hB
                  have ht46 : p2.toInt = 5 := by rw [h46_5]; decide
                  refine lv_tableIn (off := 91) (tgt := 137) hx hb dX5_orderOf_46 (by rw [ht46]; decide) (by rw [ht46]; decide) (by rw [ht46]; rfl) (by decide) ?_
                  refine lv_aload_n hx hb dX5_orderOf_137 rfl (lv_at hl 0 rfl) ?_
                  refine va_get (D := D) (ci := 5) (v := .ref a_o) (C := RX5) (T := TX5) (N := 9) hx hb hts kX5_orderOf_wX5 hown hK hP 0 rfl rfl 8 (by decide) (hts _ kX5_orderOf_f59) (fun _ h9 => h9) rfl dX5_orderOf_138 ?_
                  refine lv_iload_n hx hb dX5_orderOf_141 rfl (lv_at hl 1 rfl) ?_
                  obtain ⟨q10, e10, hB⟩ := xbd hB
                  have hPc := hP.sub (ws' := [(a_o, .inr (1, [.int f_o_n, .int f_o_many, .int f_o_sets, .ref a_od, .ref a_op, .ref a_oi, .ref a_ov, .ref a_of, .ref a_ol, .ref a_om, .ref a_ow])), (a_od, .inl (y 0, lm_o, .inl v_od))]) [1, 2] rfl
                  have hDc := hD.sub (ws' := [(a_o, .inr (1, [.int f_o_n, .int f_o_many, .int f_o_sets, .ref a_od, .ref a_op, .ref a_oi, .ref a_ov, .ref a_of, .ref a_ol, .ref a_om, .ref a_ow])), (a_od, .inl (y 0, lm_o, .inl v_od))]) [1, 2] (by decide) rfl
                  refine xcalli (mc := 0) (ms := 0) (rv := q10) (wc := [(a_o, .inr (1, [.int f_o_n, .int f_o_many, .int f_o_sets, .ref a_od, .ref a_op, .ref a_oi, .ref a_ov, .ref a_of, .ref a_ol, .ref a_om, .ref a_ow])), (a_od, .inl (y 0, lm_o, .inl v_od))]) (wr := [(a_x, .inr (5, [.ref a_known, .ref a_so, .ref a_made, .ref a_pcl, .ref a_hi, .ref a_tx, .ref a_rd, .ref a_tb, .ref a_o])), (a_op, .inl (y 0, lm_o, .inl v_op)), (a_oi, .inl (y 0, lm_o, .inl v_oi)), (a_ov, .inl (y 0, lm_o, .inl v_ov)), (a_ol, .inl (y 0, ll_o, .inl v_ol))]) (w1 := [(a_o, .inr (1, [.int f_o_n, .int f_o_many, .int f_o_sets, .ref a_od, .ref a_op, .ref a_oi, .ref a_ov, .ref a_of, .ref a_ol, .ref a_om, .ref a_ow])), (a_od, .inl (y 0, lm_o, .inl v_od))]) (wf := [(a_x, .inr (5, [.ref a_known, .ref a_so, .ref a_made, .ref a_pcl, .ref a_hi, .ref a_tx, .ref a_rd, .ref a_tb, .ref a_o])), (a_o, .inr (1, [.int f_o_n, .int f_o_many, .int f_o_sets, .ref a_od, .ref a_op, .ref a_oi, .ref a_ov, .ref a_of, .ref a_ol, .ref a_om, .ref a_ow])), (a_od, .inl (y 0, lm_o, .inl v_od)), (a_op, .inl (y 0, lm_o, .inl v_op)), (a_oi, .inl (y 0, lm_o, .inl v_oi)), (a_ov, .inl (y 0, lm_o, .inl v_ov)), (a_ol, .inl (y 0, ll_o, .inl v_ol))]) (va_runV (As := [.int p1]) (rest := []) ⟨hx, hb, hml, hown, hts⟩ (c_X1_descentsAddedUp l D y a_o a_od a_op a_oi a_ov a_of a_ol a_om a_ow lm_o f_o_n f_o_many f_o_sets v_od p1 H.size e10) (cwV 1 hts gX5_orderOf_X1_descentsAddedUp rfl rfl rfl (by decide +kernel) ⟨Nat.le_of_ble_eq_true rfl, Nat.le_of_ble_eq_true rfl⟩) ⟨xblind, va_recv hK hP (ci := 1) (q0 := 1) rfl rfl, xprev hPc hK hDc⟩ rfl rfl hl.1 rfl (lv_room (Nat.le_of_ble_eq_true rfl)) dX5_orderOf_142 ⟨Nat.le_of_ble_eq_true rfl, Nat.le_of_ble_eq_true rfl⟩) hP hD hS hA [1, 2] [0, 3, 4, 5, 6] [0, 5, 6, 1, 2, 3, 4] rfl rfl (by decide) (by decide) rfl (by decide) (fun H locs hP hD hS => ?_)
                  have hB := Option.some.inj hB
                  subst hB
                  exact W.iret hx hb hr (fun t ht hW => ⟨⟨_, (), rfl, rfl, by rw [ht]; exact hP, va_K.moved hW.alike hK, hD⟩, hS.F ht⟩) hS.2.2 dX5_orderOf_145 hlocks
                · have hB := xin h46_5 hB
                  by_cases h46_6 : p2 = 6
                  · have hB := xip h46_6 hB
                    have ht46 : p2.toInt = 6 := by rw [h46_6]; decide
                    refine lv_tableIn (off := 100) (tgt := 146) hx hb dX5_orderOf_46 (by rw [ht46]; decide) (by rw [ht46]; decide) (by rw [ht46]; rfl) (by decide) ?_
                    refine lv_aload_n hx hb dX5_orderOf_146 rfl (lv_at hl 0 rfl) ?_
                    refine va_get (D := D) (ci := 5) (v := .ref a_o) (C := RX5) (T := TX5) (N := 9) hx hb hts kX5_orderOf_wX5 hown hK hP 0 rfl rfl 8 (by decide) (hts _ kX5_orderOf_f59) (fun _ h9 => h9) rfl dX5_orderOf_147 ?_
                    refine lv_iload_n hx hb dX5_orderOf_150 rfl (lv_at hl 1 rfl) ?_
                    obtain ⟨q11, e11, hB⟩ := xbd hB
                    have hPc := hP.sub (ws' := [(a_o, .inr (1, [.int f_o_n, .int f_o_many, .int f_o_sets, .ref a_od, .ref a_op, .ref a_oi, .ref a_ov, .ref a_of, .ref a_ol, .ref a_om, .ref a_ow])), (a_ol, .inl (y 0, ll_o, .inl v_ol))]) [1, 6] rfl
                    have hDc := hD.sub (ws' := [(a_o, .inr (1, [.int f_o_n, .int f_o_many, .int f_o_sets, .ref a_od, .ref a_op, .ref a_oi, .ref a_ov, .ref a_of, .ref a_ol, .ref a_om, .ref a_ow])), (a_ol, .inl (y 0, ll_o, .inl v_ol))]) [1, 6] (by decide) rfl
                    refine xcalli (mc := 0) (ms := 0) (rv := q11) (wc := [(a_o, .inr (1, [.int f_o_n, .int f_o_many, .int f_o_sets, .ref a_od, .ref a_op, .ref a_oi, .ref a_ov, .ref a_of, .ref a_ol, .ref a_om, .ref a_ow])), (a_ol, .inl (y 0, ll_o, .inl v_ol))]) (wr := [(a_x, .inr (5, [.ref a_known, .ref a_so, .ref a_made, .ref a_pcl, .ref a_hi, .ref a_tx, .ref a_rd, .ref a_tb, .ref a_o])), (a_od, .inl (y 0, lm_o, .inl v_od)), (a_op, .inl (y 0, lm_o, .inl v_op)), (a_oi, .inl (y 0, lm_o, .inl v_oi)), (a_ov, .inl (y 0, lm_o, .inl v_ov))]) (w1 := [(a_o, .inr (1, [.int f_o_n, .int f_o_many, .int f_o_sets, .ref a_od, .ref a_op, .ref a_oi, .ref a_ov, .ref a_of, .ref a_ol, .ref a_om, .ref a_ow])), (a_ol, .inl (y 0, ll_o, .inl v_ol))]) (wf := [(a_x, .inr (5, [.ref a_known, .ref a_so, .ref a_made, .ref a_pcl, .ref a_hi, .ref a_tx, .ref a_rd, .ref a_tb, .ref a_o])), (a_o, .inr (1, [.int f_o_n, .int f_o_many, .int f_o_sets, .ref a_od, .ref a_op, .ref a_oi, .ref a_ov, .ref a_of, .ref a_ol, .ref a_om, .ref a_ow])), (a_od, .inl (y 0, lm_o, .inl v_od)), (a_op, .inl (y 0, lm_o, .inl v_op)), (a_oi, .inl (y 0, lm_o, .inl v_oi)), (a_ov, .inl (y 0, lm_o, .inl v_ov)), (a_ol, .inl (y 0, ll_o, .inl v_ol))]) (va_runV (As := [.int p1]) (rest := []) ⟨hx, hb, hml, hown, hts⟩ (c_X1_ringsOf l D y a_o a_od a_op a_oi a_ov a_of a_ol a_om a_ow ll_o f_o_n f_o_many f_o_sets v_ol p1 H.size e11) (cwV 1 hts gX5_orderOf_X1_ringsOf rfl rfl rfl (by decide +kernel) ⟨Nat.le_of_ble_eq_true rfl, Nat.le_of_ble_eq_true rfl⟩) ⟨xblind, va_recv hK hP (ci := 1) (q0 := 1) rfl rfl, xprev hPc hK hDc⟩ rfl rfl hl.1 rfl (lv_room (Nat.le_of_ble_eq_true rfl)) dX5_orderOf_151 ⟨Nat.le_of_ble_eq_true rfl, Nat.le_of_ble_eq_true rfl⟩) hP hD hS hA [1, 6] [0, 2, 3, 4, 5] [0, 5, 1, 2, 3, 4, 6] rfl rfl (by decide) (by decide) rfl (by decide) (fun H locs hP hD hS => ?_)
                    have hB := Option.some.inj hB
                    subst hB
                    exact W.iret hx hb hr (fun t ht hW => ⟨⟨_, (), rfl, rfl, by rw [ht]; exact hP, va_K.moved hW.alike hK, hD⟩, hS.F ht⟩) hS.2.2 dX5_orderOf_154 hlocks
                  · have hB := xin h46_6 hB
                    have hout : p2.toInt < 0 ∨ 6 < p2.toInt := by
                      have z0 := lv_neT h46_0 (show (0 : Int32).toInt = 0 by decide)
                      have z1 := lv_neT h46_1 (show (1 : Int32).toInt = 1 by decide)
                      have z2 := lv_neT h46_2 (show (2 : Int32).toInt = 2 by decide)
                      have z3 := lv_neT h46_3 (show (3 : Int32).toInt = 3 by decide)
                      have z4 := lv_neT h46_4 (show (4 : Int32).toInt = 4 by decide)
                      have z5 := lv_neT h46_5 (show (5 : Int32).toInt = 5 by decide)
                      have z6 := lv_neT h46_6 (show (6 : Int32).toInt = 6 by decide)
                      omega
                    refine lv_tableOut (tgt := 155) hx hb dX5_orderOf_46 hout (by decide) ?_
                    refine lv_ldc (v := -10000001) hx hb hown (hts _ kX5_orderOf_c67) dX5_orderOf_155 ?_
                    have hB := Option.some.inj hB
                    subst hB
                    exact W.iret hx hb hr (fun t ht hW => ⟨⟨_, (), rfl, rfl, by rw [ht]; exact hP, va_K.moved hW.alike hK, hD⟩, hS.F ht⟩) hS.2.2 dX5_orderOf_157 hlocks
    · have hB := xin c4 hB
      refine lv_aload_n hx hb dX5_orderOf_32 rfl (lv_at hl 0 rfl) ?_
      refine va_get (D := D) (ci := 5) (v := .ref a_o) (C := RX5) (T := TX5) (N := 9) hx hb hts kX5_orderOf_wX5 hown hK hP 0 rfl rfl 8 (by decide) (hts _ kX5_orderOf_f59) (fun _ h9 => h9) rfl dX5_orderOf_33 ?_
      refine lv_iload_n hx hb dX5_orderOf_36 rfl (lv_at hl 1 rfl) ?_
      refine lv_iload_n hx hb dX5_orderOf_37 rfl (lv_at hl 2 rfl) ?_
      refine lv_bipush (v := 10) hx hb dX5_orderOf_38 (by decide) ?_
      refine lv_isub hx hb dX5_orderOf_40 ?_
      obtain ⟨q12, e12, hB⟩ := xbd hB
      have hPc := hP.sub (ws' := [(a_o, .inr (1, [.int f_o_n, .int f_o_many, .int f_o_sets, .ref a_od, .ref a_op, .ref a_oi, .ref a_ov, .ref a_of, .ref a_ol, .ref a_om, .ref a_ow])), (a_ol, .inl (y 0, ll_o, .inl v_ol))]) [1, 6] rfl
      have hDc := hD.sub (ws' := [(a_o, .inr (1, [.int f_o_n, .int f_o_many, .int f_o_sets, .ref a_od, .ref a_op, .ref a_oi, .ref a_ov, .ref a_of, .ref a_ol, .ref a_om, .ref a_ow])), (a_ol, .inl (y 0, ll_o, .inl v_ol))]) [1, 6] (by decide) rfl
      refine xcalli (mc := 0) (ms := 0) (rv := q12) (wc := [(a_o, .inr (1, [.int f_o_n, .int f_o_many, .int f_o_sets, .ref a_od, .ref a_op, .ref a_oi, .ref a_ov, .ref a_of, .ref a_ol, .ref a_om, .ref a_ow])), (a_ol, .inl (y 0, ll_o, .inl v_ol))]) (wr := [(a_x, .inr (5, [.ref a_known, .ref a_so, .ref a_made, .ref a_pcl, .ref a_hi, .ref a_tx, .ref a_rd, .ref a_tb, .ref a_o])), (a_od, .inl (y 0, lm_o, .inl v_od)), (a_op, .inl (y 0, lm_o, .inl v_op)), (a_oi, .inl (y 0, lm_o, .inl v_oi)), (a_ov, .inl (y 0, lm_o, .inl v_ov))]) (w1 := [(a_o, .inr (1, [.int f_o_n, .int f_o_many, .int f_o_sets, .ref a_od, .ref a_op, .ref a_oi, .ref a_ov, .ref a_of, .ref a_ol, .ref a_om, .ref a_ow])), (a_ol, .inl (y 0, ll_o, .inl v_ol))]) (wf := [(a_x, .inr (5, [.ref a_known, .ref a_so, .ref a_made, .ref a_pcl, .ref a_hi, .ref a_tx, .ref a_rd, .ref a_tb, .ref a_o])), (a_o, .inr (1, [.int f_o_n, .int f_o_many, .int f_o_sets, .ref a_od, .ref a_op, .ref a_oi, .ref a_ov, .ref a_of, .ref a_ol, .ref a_om, .ref a_ow])), (a_od, .inl (y 0, lm_o, .inl v_od)), (a_op, .inl (y 0, lm_o, .inl v_op)), (a_oi, .inl (y 0, lm_o, .inl v_oi)), (a_ov, .inl (y 0, lm_o, .inl v_ov)), (a_ol, .inl (y 0, ll_o, .inl v_ol))]) (va_runV (As := [.int p1, .int (p2 - (10 : Int32))]) (rest := []) ⟨hx, hb, hml, hown, hts⟩ (c_X1_letterAt l D y a_o a_od a_op a_oi a_ov a_of a_ol a_om a_ow ll_o f_o_n f_o_many f_o_sets v_ol p1 (p2 - (10 : Int32)) H.size e12) (cwV 2 hts gX5_orderOf_X1_letterAt rfl rfl rfl (by decide +kernel) ⟨Nat.le_of_ble_eq_true rfl, Nat.le_of_ble_eq_true rfl⟩) ⟨xblind, va_recv hK hP (ci := 1) (q0 := 1) rfl rfl, xprev hPc hK hDc⟩ rfl rfl hl.1 rfl (lv_room (Nat.le_of_ble_eq_true rfl)) dX5_orderOf_41 ⟨Nat.le_of_ble_eq_true rfl, Nat.le_of_ble_eq_true rfl⟩) hP hD hS hA [1, 6] [0, 2, 3, 4, 5] [0, 5, 1, 2, 3, 4, 6] rfl rfl (by decide) (by decide) rfl (by decide) (fun H locs hP hD hS => ?_)
      have hB := Option.some.inj hB
      subst hB
      exact W.iret hx hb hr (fun t ht hW => ⟨⟨_, (), rfl, rfl, by rw [ht]; exact hP, va_K.moved hW.alike hK, hD⟩, hS.F ht⟩) hS.2.2 dX5_orderOf_44 hlocks
  · have hB := xip c2 hB
    refine lv_ldc (v := -10000001) hx hb hown (hts _ kX5_orderOf_c67) dX5_orderOf_8 ?_
    have hB := Option.some.inj hB
    subst hB
    exact W.iret hx hb hr (fun t ht hW => ⟨⟨_, (), rfl, rfl, by rw [ht]; exact hP, va_K.moved hW.alike hK, hD⟩, hS.F ht⟩) hS.2.2 dX5_orderOf_10 hlocks
set_option maxHeartbeats 4000000 in
set_option maxRecDepth 100000 in
theorem c_X5_orderOf (l : Launch) (D : va_G) (y : Nat → ClassId) (a_x : Nat) (a_known : Nat) (a_so : Nat) (a_made : Nat) (a_pcl : Nat) (a_hi : Nat) (a_tx : Nat) (a_rd : Nat) (a_tb : Nat) (a_o : Nat) (a_od : Nat) (a_op : Nat) (a_oi : Nat) (a_ov : Nat) (a_of : Nat) (a_ol : Nat) (a_om : Nat) (a_ow : Nat) (lm_o : Nat) (ll_o : Nat) (f_o_n : Int32) (f_o_many : Int32) (f_o_sets : Int32) (v_od : Nat → Int32) (v_op : Nat → Int32) (v_oi : Nat → Int32) (v_ov : Nat → Int32) (v_ol : Nat → Int32) (p1 : Int32) (p2 : Int32) (sz : Nat) {R : Int32} (hF : F_X5_orderOf lm_o ll_o f_o_n f_o_many v_od v_op v_oi v_ov v_ol p1 p2 = some R) : Met l yX5_orderOf wsX5_orderOf ({ frames := 2, cells := 0, slots := 0, locals := 48 } : Room) (xPre D y sz [.ref a_x, .int p1, .int p2] [(a_x, .inr (5, [.ref a_known, .ref a_so, .ref a_made, .ref a_pcl, .ref a_hi, .ref a_tx, .ref a_rd, .ref a_tb, .ref a_o])), (a_o, .inr (1, [.int f_o_n, .int f_o_many, .int f_o_sets, .ref a_od, .ref a_op, .ref a_oi, .ref a_ov, .ref a_of, .ref a_ol, .ref a_om, .ref a_ow])), (a_od, .inl (y 0, lm_o, .inl v_od)), (a_op, .inl (y 0, lm_o, .inl v_op)), (a_oi, .inl (y 0, lm_o, .inl v_oi)), (a_ov, .inl (y 0, lm_o, .inl v_ov)), (a_ol, .inl (y 0, ll_o, .inl v_ol))]) (va_Qi (fun (r : Int32) (_ : Unit) => r = R) (xB D y (va_A [(a_x, .inr (5, [.ref a_known, .ref a_so, .ref a_made, .ref a_pcl, .ref a_hi, .ref a_tx, .ref a_rd, .ref a_tb, .ref a_o])), (a_o, .inr (1, [.int f_o_n, .int f_o_many, .int f_o_sets, .ref a_od, .ref a_op, .ref a_oi, .ref a_ov, .ref a_of, .ref a_ol, .ref a_om, .ref a_ow])), (a_od, .inl (y 0, lm_o, .inl v_od)), (a_op, .inl (y 0, lm_o, .inl v_op)), (a_oi, .inl (y 0, lm_o, .inl v_oi)), (a_ov, .inl (y 0, lm_o, .inl v_ov)), (a_ol, .inl (y 0, ll_o, .inl v_ol))] sz) [(a_x, .inr (5, [.ref a_known, .ref a_so, .ref a_made, .ref a_pcl, .ref a_hi, .ref a_tx, .ref a_rd, .ref a_tb, .ref a_o])), (a_o, .inr (1, [.int f_o_n, .int f_o_many, .int f_o_sets, .ref a_od, .ref a_op, .ref a_oi, .ref a_ov, .ref a_of, .ref a_ol, .ref a_om, .ref a_ow])), (a_od, .inl (y 0, lm_o, .inl v_od)), (a_op, .inl (y 0, lm_o, .inl v_op)), (a_oi, .inl (y 0, lm_o, .inl v_oi)), (a_ov, .inl (y 0, lm_o, .inl v_ov)), (a_ol, .inl (y 0, ll_o, .inl v_ol))]) (va_A [(a_x, .inr (5, [.ref a_known, .ref a_so, .ref a_made, .ref a_pcl, .ref a_hi, .ref a_tx, .ref a_rd, .ref a_tb, .ref a_o])), (a_o, .inr (1, [.int f_o_n, .int f_o_many, .int f_o_sets, .ref a_od, .ref a_op, .ref a_oi, .ref a_ov, .ref a_of, .ref a_ol, .ref a_om, .ref a_ow])), (a_od, .inl (y 0, lm_o, .inl v_od)), (a_op, .inl (y 0, lm_o, .inl v_op)), (a_oi, .inl (y 0, lm_o, .inl v_oi)), (a_ov, .inl (y 0, lm_o, .inl v_ov)), (a_ol, .inl (y 0, ll_o, .inl v_ol))] sz)) 0 0 (va_A [(a_x, .inr (5, [.ref a_known, .ref a_so, .ref a_made, .ref a_pcl, .ref a_hi, .ref a_tx, .ref a_rd, .ref a_tb, .ref a_o])), (a_o, .inr (1, [.int f_o_n, .int f_o_many, .int f_o_sets, .ref a_od, .ref a_op, .ref a_oi, .ref a_ov, .ref a_of, .ref a_ol, .ref a_om, .ref a_ow])), (a_od, .inl (y 0, lm_o, .inl v_od)), (a_op, .inl (y 0, lm_o, .inl v_op)), (a_oi, .inl (y 0, lm_o, .inl v_oi)), (a_ov, .inl (y 0, lm_o, .inl v_ov)), (a_ol, .inl (y 0, ll_o, .inl v_ol))] sz) := by
  refine Met.ofW (cc := cX5_orderOf) (maxL := 3) (ret := (some .int)) (by decide) rfl ?_
  intro p e s m args below meth c s₁ B hml hv
  obtain ⟨rfl, hsz, hP, hK, hD0⟩ := hv
  subst hsz
  have hD := hD0.self (sz := s.heap.size)
  have C : xC p s m [.ref a_x, .int p1, .int p2].toArray meth c (va_A [(a_x, .inr (5, [.ref a_known, .ref a_so, .ref a_made, .ref a_pcl, .ref a_hi, .ref a_tx, .ref a_rd, .ref a_tb, .ref a_o])), (a_o, .inr (1, [.int f_o_n, .int f_o_many, .int f_o_sets, .ref a_od, .ref a_op, .ref a_oi, .ref a_ov, .ref a_of, .ref a_ol, .ref a_om, .ref a_ow])), (a_od, .inl (y 0, lm_o, .inl v_od)), (a_op, .inl (y 0, lm_o, .inl v_op)), (a_oi, .inl (y 0, lm_o, .inl v_oi)), (a_ov, .inl (y 0, lm_o, .inl v_ov)), (a_ol, .inl (y 0, ll_o, .inl v_ol))] s.heap.size) cX5_orderOf RX5 wsX5_orderOf 3 (some .int) D y := ⟨B.exec, B.bytes, hml, findClass_of_methodNamed B.named, atoms_spec (ws := wsX5_orderOf) B.pre, B.returns, B.notSynchronized, hK, fun q h => Or.inr h⟩
  have hl := lv_entry ([.ref a_x, .int p1, .int p2]) (n := 3) (Nat.le_of_ble_eq_true rfl)
  rw [lg_entry_eq]
  generalize (lg_sl ([.ref a_x, .int p1, .int p2]) ++ List.replicate (3 - (lg_sl ([.ref a_x, .int p1, .int p2])).length) Slot.unset).toArray = ls at hl ⊢
  have hl : lv_has ls 3 [(0, .ref a_x), (1, .int p1), (2, .int p2)] := hl
  exact B_X5_orderOf_0 (p1 := p1) (p2 := p2) C  s.heap [] ls hP hD va_S.rf hl hF
theorem kX5_product_c67 : Cond.constant RX5 67 (-10000001) ∈ wsX5_product := by decide +kernel
theorem kX5_product_f59 : Cond.fieldLink RX5 59 "DescentShuffles" "orders" "LDescentShuffles$Orders;" ∈ wsX5_product := by decide +kernel
theorem kX5_product_wX5 : ∀ w ∈ u_ws RX5 TX5 9, w ∈ wsX5_product := by decide +kernel
def S_X5_product_0 (p : Program) (l : Launch) (e : Env) (s : State) (m : MethodId) (args : Array Value) (below : List Frame) (meth : Method) (c : Code) (A : Nat → Prop) (D : va_G) (y : Nat → ClassId) (a_x : Nat) (a_known : Nat) (a_so : Nat) (a_made : Nat) (a_pcl : Nat) (a_hi : Nat) (a_tx : Nat) (a_rd : Nat) (a_tb : Nat) (a_o : Nat) (a_od : Nat) (a_op : Nat) (a_oi : Nat) (a_ov : Nat) (a_of : Nat) (a_ol : Nat) (a_om : Nat) (a_ow : Nat) (lp_o : Nat) (f_o_n : Int32) (f_o_many : Int32) (f_o_sets : Int32) (v_om : Nat → Int32) (p1 : Int32) (p2 : Int32) (R : Int32) (κ : Option (Int32)) : Prop := ∀ (H : Heap) (locs : List Loc) (ls : Array Slot), va_P D vwCl [(a_x, .inr (5, [.ref a_known, .ref a_so, .ref a_made, .ref a_pcl, .ref a_hi, .ref a_tx, .ref a_rd, .ref a_tb, .ref a_o])), (a_o, .inr (1, [.int f_o_n, .int f_o_many, .int f_o_sets, .ref a_od, .ref a_op, .ref a_oi, .ref a_ov, .ref a_of, .ref a_ol, .ref a_om, .ref a_ow])), (a_om, .inl (y 0, lp_o, .inl v_om))] H → va_D A [(a_x, .inr (5, [.ref a_known, .ref a_so, .ref a_made, .ref a_pcl, .ref a_hi, .ref a_tx, .ref a_rd, .ref a_tb, .ref a_o])), (a_o, .inr (1, [.int f_o_n, .int f_o_many, .int f_o_sets, .ref a_od, .ref a_op, .ref a_oi, .ref a_ov, .ref a_of, .ref a_ol, .ref a_om, .ref a_ow])), (a_om, .inl (y 0, lp_o, .inl v_om))] → va_S A s.heap H locs → lv_has ls 3 [(0, .ref a_x), (1, .int p1), (2, .int p2)] → κ = some R → W p l e ({ frames := 2, cells := 0, slots := 0, locals := 43 } : Room) s m args below meth c H locs 0 0 (MQ below (va_Qi (fun (r : Int32) (_ : Unit) => r = R) (xB D y A [(a_x, .inr (5, [.ref a_known, .ref a_so, .ref a_made, .ref a_pcl, .ref a_hi, .ref a_tx, .ref a_rd, .ref a_tb, .ref a_o])), (a_o, .inr (1, [.int f_o_n, .int f_o_many, .int f_o_sets, .ref a_od, .ref a_op, .ref a_oi, .ref a_ov, .ref a_of, .ref a_ol, .ref a_om, .ref a_ow])), (a_om, .inl (y 0, lp_o, .inl v_om))]) A) args s 0 0 A) (F0 m 0 ls [])
set_option maxHeartbeats 4000000 in
set_option maxRecDepth 100000 in
theorem B_X5_product_0 {p : Program} {l : Launch} {e : Env} {s : State} {m : MethodId} {args : Array Value} {below : List Frame} {meth : Method} {c : Code} {A : Nat → Prop} {D : va_G} {y : Nat → ClassId} {a_x : Nat} {a_known : Nat} {a_so : Nat} {a_made : Nat} {a_pcl : Nat} {a_hi : Nat} {a_tx : Nat} {a_rd : Nat} {a_tb : Nat} {a_o : Nat} {a_od : Nat} {a_op : Nat} {a_oi : Nat} {a_ov : Nat} {a_of : Nat} {a_ol : Nat} {a_om : Nat} {a_ow : Nat} {lp_o : Nat} {f_o_n : Int32} {f_o_many : Int32} {f_o_sets : Int32} {v_om : Nat → Int32} {p1 : Int32} {p2 : Int32} {R : Int32} (C : xC p s m args meth c A cX5_product RX5 wsX5_product 3 (some .int) D y)  : S_X5_product_0 p l e s m args below meth c A D y a_x a_known a_so a_made a_pcl a_hi a_tx a_rd a_tb a_o a_od a_op a_oi a_ov a_of a_ol a_om a_ow lp_o f_o_n f_o_many f_o_sets v_om p1 p2 R (F_X5_product lp_o f_o_many v_om p1 p2 ) := by
  have C0 := C
  obtain ⟨hx, hb, hml, hown, hts, hr, hlocks, hK, hA⟩ := C
  intro H locs ls hP hD hS hl hB
  unfold F_X5_product at hB
  refine lv_aload_n hx hb dX5_product_0 rfl (lv_at hl 0 rfl) ?_
  refine lv_iload_n hx hb dX5_product_1 rfl (lv_at hl 1 rfl) ?_
  obtain ⟨q1, e1, hB⟩ := xbd hB
  have hPc := hP.sub (ws' := [(a_x, .inr (5, [.ref a_known, .ref a_so, .ref a_made, .ref a_pcl, .ref a_hi, .ref a_tx, .ref a_rd, .ref a_tb, .ref a_o])), (a_o, .inr (1, [.int f_o_n, .int f_o_many, .int f_o_sets, .ref a_od, .ref a_op, .ref a_oi, .ref a_ov, .ref a_of, .ref a_ol, .ref a_om, .ref a_ow]))]) [0, 1] rfl
  have hDc := hD.sub (ws' := [(a_x, .inr (5, [.ref a_known, .ref a_so, .ref a_made, .ref a_pcl, .ref a_hi, .ref a_tx, .ref a_rd, .ref a_tb, .ref a_o])), (a_o, .inr (1, [.int f_o_n, .int f_o_many, .int f_o_sets, .ref a_od, .ref a_op, .ref a_oi, .ref a_ov, .ref a_of, .ref a_ol, .ref a_om, .ref a_ow]))]) [0, 1] (by decide) rfl
  refine xcalli (mc := 0) (ms := 0) (rv := q1) (wc := [(a_x, .inr (5, [.ref a_known, .ref a_so, .ref a_made, .ref a_pcl, .ref a_hi, .ref a_tx, .ref a_rd, .ref a_tb, .ref a_o])), (a_o, .inr (1, [.int f_o_n, .int f_o_many, .int f_o_sets, .ref a_od, .ref a_op, .ref a_oi, .ref a_ov, .ref a_of, .ref a_ol, .ref a_om, .ref a_ow]))]) (wr := [(a_om, .inl (y 0, lp_o, .inl v_om))]) (w1 := [(a_x, .inr (5, [.ref a_known, .ref a_so, .ref a_made, .ref a_pcl, .ref a_hi, .ref a_tx, .ref a_rd, .ref a_tb, .ref a_o])), (a_o, .inr (1, [.int f_o_n, .int f_o_many, .int f_o_sets, .ref a_od, .ref a_op, .ref a_oi, .ref a_ov, .ref a_of, .ref a_ol, .ref a_om, .ref a_ow]))]) (wf := [(a_x, .inr (5, [.ref a_known, .ref a_so, .ref a_made, .ref a_pcl, .ref a_hi, .ref a_tx, .ref a_rd, .ref a_tb, .ref a_o])), (a_o, .inr (1, [.int f_o_n, .int f_o_many, .int f_o_sets, .ref a_od, .ref a_op, .ref a_oi, .ref a_ov, .ref a_of, .ref a_ol, .ref a_om, .ref a_ow])), (a_om, .inl (y 0, lp_o, .inl v_om))]) (va_runV (As := [.int p1]) (rest := []) ⟨hx, hb, hml, hown, hts⟩ (c_X5_isOrder l D y a_x a_known a_so a_made a_pcl a_hi a_tx a_rd a_tb a_o a_od a_op a_oi a_ov a_of a_ol a_om a_ow f_o_n f_o_many f_o_sets p1 H.size e1) (cwV 1 hts gX5_product_X5_isOrder rfl rfl rfl (by decide +kernel) ⟨Nat.le_of_ble_eq_true rfl, Nat.le_of_ble_eq_true rfl⟩) ⟨xblind, va_recv hK hP (ci := 5) (q0 := 0) rfl rfl, xprev hPc hK hDc⟩ rfl rfl hl.1 rfl (lv_room (Nat.le_of_ble_eq_true rfl)) dX5_product_2 ⟨Nat.le_of_ble_eq_true rfl, Nat.le_of_ble_eq_true rfl⟩) hP hD hS hA [0, 1] [2] [1, 2, 0] rfl rfl (by decide) (by decide) rfl (by decide) (fun H locs hP hD hS => ?_)
  refine lv_if_eq (tgt := 16) hx hb dX5_product_5 (by decide) (fun c2 => ?_) (fun c2 => ?_)
  · have hB := xip c2 hB
    refine lv_ldc (v := -10000001) hx hb hown (hts _ kX5_product_c67) dX5_product_16 ?_
    have hB := Option.some.inj hB
    subst hB
    exact W.iret hx hb hr (fun t ht hW => ⟨⟨_, (), rfl, rfl, by rw [ht]; exact hP, va_K.moved hW.alike hK, hD⟩, hS.F ht⟩) hS.2.2 dX5_product_18 hlocks
  · have hB := xin c2 hB
    refine lv_aload_n hx hb dX5_product_8 rfl (lv_at hl 0 rfl) ?_
    refine lv_iload_n hx hb dX5_product_9 rfl (lv_at hl 2 rfl) ?_
    obtain ⟨q3, e3, hB⟩ := xbd hB
    have hPc := hP.sub (ws' := [(a_x, .inr (5, [.ref a_known, .ref a_so, .ref a_made, .ref a_pcl, .ref a_hi, .ref a_tx, .ref a_rd, .ref a_tb, .ref a_o])), (a_o, .inr (1, [.int f_o_n, .int f_o_many, .int f_o_sets, .ref a_od, .ref a_op, .ref a_oi, .ref a_ov, .ref a_of, .ref a_ol, .ref a_om, .ref a_ow]))]) [0, 1] rfl
    have hDc := hD.sub (ws' := [(a_x, .inr (5, [.ref a_known, .ref a_so, .ref a_made, .ref a_pcl, .ref a_hi, .ref a_tx, .ref a_rd, .ref a_tb, .ref a_o])), (a_o, .inr (1, [.int f_o_n, .int f_o_many, .int f_o_sets, .ref a_od, .ref a_op, .ref a_oi, .ref a_ov, .ref a_of, .ref a_ol, .ref a_om, .ref a_ow]))]) [0, 1] (by decide) rfl
    refine xcalli (mc := 0) (ms := 0) (rv := q3) (wc := [(a_x, .inr (5, [.ref a_known, .ref a_so, .ref a_made, .ref a_pcl, .ref a_hi, .ref a_tx, .ref a_rd, .ref a_tb, .ref a_o])), (a_o, .inr (1, [.int f_o_n, .int f_o_many, .int f_o_sets, .ref a_od, .ref a_op, .ref a_oi, .ref a_ov, .ref a_of, .ref a_ol, .ref a_om, .ref a_ow]))]) (wr := [(a_om, .inl (y 0, lp_o, .inl v_om))]) (w1 := [(a_x, .inr (5, [.ref a_known, .ref a_so, .ref a_made, .ref a_pcl, .ref a_hi, .ref a_tx, .ref a_rd, .ref a_tb, .ref a_o])), (a_o, .inr (1, [.int f_o_n, .int f_o_many, .int f_o_sets, .ref a_od, .ref a_op, .ref a_oi, .ref a_ov, .ref a_of, .ref a_ol, .ref a_om, .ref a_ow]))]) (wf := [(a_x, .inr (5, [.ref a_known, .ref a_so, .ref a_made, .ref a_pcl, .ref a_hi, .ref a_tx, .ref a_rd, .ref a_tb, .ref a_o])), (a_o, .inr (1, [.int f_o_n, .int f_o_many, .int f_o_sets, .ref a_od, .ref a_op, .ref a_oi, .ref a_ov, .ref a_of, .ref a_ol, .ref a_om, .ref a_ow])), (a_om, .inl (y 0, lp_o, .inl v_om))]) (va_runV (As := [.int p2]) (rest := []) ⟨hx, hb, hml, hown, hts⟩ (c_X5_isOrder l D y a_x a_known a_so a_made a_pcl a_hi a_tx a_rd a_tb a_o a_od a_op a_oi a_ov a_of a_ol a_om a_ow f_o_n f_o_many f_o_sets p2 H.size e3) (cwV 1 hts gX5_product_X5_isOrder rfl rfl rfl (by decide +kernel) ⟨Nat.le_of_ble_eq_true rfl, Nat.le_of_ble_eq_true rfl⟩) ⟨xblind, va_recv hK hP (ci := 5) (q0 := 0) rfl rfl, xprev hPc hK hDc⟩ rfl rfl hl.1 rfl (lv_room (Nat.le_of_ble_eq_true rfl)) dX5_product_10 ⟨Nat.le_of_ble_eq_true rfl, Nat.le_of_ble_eq_true rfl⟩) hP hD hS hA [0, 1] [2] [1, 2, 0] rfl rfl (by decide) (by decide) rfl (by decide) (fun H locs hP hD hS => ?_)
    refine lv_if_ne (tgt := 19) hx hb dX5_product_13 (by decide) (fun c4 => ?_) (fun c4 => ?_)
    · have hB := xin c4 hB
      refine lv_aload_n hx hb dX5_product_19 rfl (lv_at hl 0 rfl) ?_
      refine va_get (D := D) (ci := 5) (v := .ref a_o) (C := RX5) (T := TX5) (N := 9) hx hb hts kX5_product_wX5 hown hK hP 0 rfl rfl 8 (by decide) (hts _ kX5_product_f59) (fun _ h9 => h9) rfl dX5_product_20 ?_
      refine lv_iload_n hx hb dX5_product_23 rfl (lv_at hl 1 rfl) ?_
      refine lv_iload_n hx hb dX5_product_24 rfl (lv_at hl 2 rfl) ?_
      obtain ⟨q5, e5, hB⟩ := xbd hB
      have hPc := hP.sub (ws' := [(a_o, .inr (1, [.int f_o_n, .int f_o_many, .int f_o_sets, .ref a_od, .ref a_op, .ref a_oi, .ref a_ov, .ref a_of, .ref a_ol, .ref a_om, .ref a_ow])), (a_om, .inl (y 0, lp_o, .inl v_om))]) [1, 2] rfl
      have hDc := hD.sub (ws' := [(a_o, .inr (1, [.int f_o_n, .int f_o_many, .int f_o_sets, .ref a_od, .ref a_op, .ref a_oi, .ref a_ov, .ref a_of, .ref a_ol, .ref a_om, .ref a_ow])), (a_om, .inl (y 0, lp_o, .inl v_om))]) [1, 2] (by decide) rfl
      refine xcalli (mc := 0) (ms := 0) (rv := q5) (wc := [(a_o, .inr (1, [.int f_o_n, .int f_o_many, .int f_o_sets, .ref a_od, .ref a_op, .ref a_oi, .ref a_ov, .ref a_of, .ref a_ol, .ref a_om, .ref a_ow])), (a_om, .inl (y 0, lp_o, .inl v_om))]) (wr := [(a_x, .inr (5, [.ref a_known, .ref a_so, .ref a_made, .ref a_pcl, .ref a_hi, .ref a_tx, .ref a_rd, .ref a_tb, .ref a_o]))]) (w1 := [(a_o, .inr (1, [.int f_o_n, .int f_o_many, .int f_o_sets, .ref a_od, .ref a_op, .ref a_oi, .ref a_ov, .ref a_of, .ref a_ol, .ref a_om, .ref a_ow])), (a_om, .inl (y 0, lp_o, .inl v_om))]) (wf := [(a_x, .inr (5, [.ref a_known, .ref a_so, .ref a_made, .ref a_pcl, .ref a_hi, .ref a_tx, .ref a_rd, .ref a_tb, .ref a_o])), (a_o, .inr (1, [.int f_o_n, .int f_o_many, .int f_o_sets, .ref a_od, .ref a_op, .ref a_oi, .ref a_ov, .ref a_of, .ref a_ol, .ref a_om, .ref a_ow])), (a_om, .inl (y 0, lp_o, .inl v_om))]) (va_runV (As := [.int p1, .int p2]) (rest := []) ⟨hx, hb, hml, hown, hts⟩ (c_X1_times l D y a_o a_od a_op a_oi a_ov a_of a_ol a_om a_ow lp_o f_o_n f_o_many f_o_sets v_om p1 p2 H.size e5) (cwV 2 hts gX5_product_X1_times rfl rfl rfl (by decide +kernel) ⟨Nat.le_of_ble_eq_true rfl, Nat.le_of_ble_eq_true rfl⟩) ⟨xblind, va_recv hK hP (ci := 1) (q0 := 1) rfl rfl, xprev hPc hK hDc⟩ rfl rfl hl.1 rfl (lv_room (Nat.le_of_ble_eq_true rfl)) dX5_product_25 ⟨Nat.le_of_ble_eq_true rfl, Nat.le_of_ble_eq_true rfl⟩) hP hD hS hA [1, 2] [0] [0, 1, 2] rfl rfl (by decide) (by decide) rfl (by decide) (fun H locs hP hD hS => ?_)
      have hB := Option.some.inj hB
      subst hB
      exact W.iret hx hb hr (fun t ht hW => ⟨⟨_, (), rfl, rfl, by rw [ht]; exact hP, va_K.moved hW.alike hK, hD⟩, hS.F ht⟩) hS.2.2 dX5_product_28 hlocks
    · have hB := xip c4 hB
      refine lv_ldc (v := -10000001) hx hb hown (hts _ kX5_product_c67) dX5_product_16 ?_
      have hB := Option.some.inj hB
      subst hB
      exact W.iret hx hb hr (fun t ht hW => ⟨⟨_, (), rfl, rfl, by rw [ht]; exact hP, va_K.moved hW.alike hK, hD⟩, hS.F ht⟩) hS.2.2 dX5_product_18 hlocks
set_option maxHeartbeats 4000000 in
set_option maxRecDepth 100000 in
theorem c_X5_product (l : Launch) (D : va_G) (y : Nat → ClassId) (a_x : Nat) (a_known : Nat) (a_so : Nat) (a_made : Nat) (a_pcl : Nat) (a_hi : Nat) (a_tx : Nat) (a_rd : Nat) (a_tb : Nat) (a_o : Nat) (a_od : Nat) (a_op : Nat) (a_oi : Nat) (a_ov : Nat) (a_of : Nat) (a_ol : Nat) (a_om : Nat) (a_ow : Nat) (lp_o : Nat) (f_o_n : Int32) (f_o_many : Int32) (f_o_sets : Int32) (v_om : Nat → Int32) (p1 : Int32) (p2 : Int32) (sz : Nat) {R : Int32} (hF : F_X5_product lp_o f_o_many v_om p1 p2 = some R) : Met l yX5_product wsX5_product ({ frames := 2, cells := 0, slots := 0, locals := 43 } : Room) (xPre D y sz [.ref a_x, .int p1, .int p2] [(a_x, .inr (5, [.ref a_known, .ref a_so, .ref a_made, .ref a_pcl, .ref a_hi, .ref a_tx, .ref a_rd, .ref a_tb, .ref a_o])), (a_o, .inr (1, [.int f_o_n, .int f_o_many, .int f_o_sets, .ref a_od, .ref a_op, .ref a_oi, .ref a_ov, .ref a_of, .ref a_ol, .ref a_om, .ref a_ow])), (a_om, .inl (y 0, lp_o, .inl v_om))]) (va_Qi (fun (r : Int32) (_ : Unit) => r = R) (xB D y (va_A [(a_x, .inr (5, [.ref a_known, .ref a_so, .ref a_made, .ref a_pcl, .ref a_hi, .ref a_tx, .ref a_rd, .ref a_tb, .ref a_o])), (a_o, .inr (1, [.int f_o_n, .int f_o_many, .int f_o_sets, .ref a_od, .ref a_op, .ref a_oi, .ref a_ov, .ref a_of, .ref a_ol, .ref a_om, .ref a_ow])), (a_om, .inl (y 0, lp_o, .inl v_om))] sz) [(a_x, .inr (5, [.ref a_known, .ref a_so, .ref a_made, .ref a_pcl, .ref a_hi, .ref a_tx, .ref a_rd, .ref a_tb, .ref a_o])), (a_o, .inr (1, [.int f_o_n, .int f_o_many, .int f_o_sets, .ref a_od, .ref a_op, .ref a_oi, .ref a_ov, .ref a_of, .ref a_ol, .ref a_om, .ref a_ow])), (a_om, .inl (y 0, lp_o, .inl v_om))]) (va_A [(a_x, .inr (5, [.ref a_known, .ref a_so, .ref a_made, .ref a_pcl, .ref a_hi, .ref a_tx, .ref a_rd, .ref a_tb, .ref a_o])), (a_o, .inr (1, [.int f_o_n, .int f_o_many, .int f_o_sets, .ref a_od, .ref a_op, .ref a_oi, .ref a_ov, .ref a_of, .ref a_ol, .ref a_om, .ref a_ow])), (a_om, .inl (y 0, lp_o, .inl v_om))] sz)) 0 0 (va_A [(a_x, .inr (5, [.ref a_known, .ref a_so, .ref a_made, .ref a_pcl, .ref a_hi, .ref a_tx, .ref a_rd, .ref a_tb, .ref a_o])), (a_o, .inr (1, [.int f_o_n, .int f_o_many, .int f_o_sets, .ref a_od, .ref a_op, .ref a_oi, .ref a_ov, .ref a_of, .ref a_ol, .ref a_om, .ref a_ow])), (a_om, .inl (y 0, lp_o, .inl v_om))] sz) := by
  refine Met.ofW (cc := cX5_product) (maxL := 3) (ret := (some .int)) (by decide) rfl ?_
  intro p e s m args below meth c s₁ B hml hv
  obtain ⟨rfl, hsz, hP, hK, hD0⟩ := hv
  subst hsz
  have hD := hD0.self (sz := s.heap.size)
  have C : xC p s m [.ref a_x, .int p1, .int p2].toArray meth c (va_A [(a_x, .inr (5, [.ref a_known, .ref a_so, .ref a_made, .ref a_pcl, .ref a_hi, .ref a_tx, .ref a_rd, .ref a_tb, .ref a_o])), (a_o, .inr (1, [.int f_o_n, .int f_o_many, .int f_o_sets, .ref a_od, .ref a_op, .ref a_oi, .ref a_ov, .ref a_of, .ref a_ol, .ref a_om, .ref a_ow])), (a_om, .inl (y 0, lp_o, .inl v_om))] s.heap.size) cX5_product RX5 wsX5_product 3 (some .int) D y := ⟨B.exec, B.bytes, hml, findClass_of_methodNamed B.named, atoms_spec (ws := wsX5_product) B.pre, B.returns, B.notSynchronized, hK, fun q h => Or.inr h⟩
  have hl := lv_entry ([.ref a_x, .int p1, .int p2]) (n := 3) (Nat.le_of_ble_eq_true rfl)
  rw [lg_entry_eq]
  generalize (lg_sl ([.ref a_x, .int p1, .int p2]) ++ List.replicate (3 - (lg_sl ([.ref a_x, .int p1, .int p2])).length) Slot.unset).toArray = ls at hl ⊢
  have hl : lv_has ls 3 [(0, .ref a_x), (1, .int p1), (2, .int p2)] := hl
  exact B_X5_product_0 (p1 := p1) (p2 := p2) C  s.heap [] ls hP hD va_S.rf hl hF
theorem kX5_factor_c67 : Cond.constant RX5 67 (-10000001) ∈ wsX5_factor := by decide +kernel
theorem kX5_factor_f17 : Cond.fieldLink RX5 17 "DescentShuffles" "sums" "[[I" ∈ wsX5_factor := by decide +kernel
theorem kX5_factor_wX5 : ∀ w ∈ u_ws RX5 TX5 9, w ∈ wsX5_factor := by decide +kernel
def S_X5_factor_0 (p : Program) (l : Launch) (e : Env) (s : State) (m : MethodId) (args : Array Value) (below : List Frame) (meth : Method) (c : Code) (A : Nat → Prop) (D : va_G) (y : Nat → ClassId) (a_x : Nat) (a_known : Nat) (a_so : Nat) (a_made : Nat) (a_pcl : Nat) (a_hi : Nat) (a_tx : Nat) (a_rd : Nat) (a_tb : Nat) (a_o : Nat) (a_s : Nat → Nat) (a_od : Nat) (a_op : Nat) (a_oi : Nat) (a_ov : Nat) (a_of : Nat) (a_ol : Nat) (a_om : Nat) (a_ow : Nat) (v_s : Nat → Nat → Int32) (f_o_n : Int32) (f_o_many : Int32) (f_o_sets : Int32) (p1 : Int32) (p2 : Int32) (R : Int32) (κ : Option (Int32)) : Prop := ∀ (H : Heap) (locs : List Loc) (ls : Array Slot), va_P D vwCl [(a_x, .inr (5, [.ref a_known, .ref a_so, .ref a_made, .ref a_pcl, .ref a_hi, .ref a_tx, .ref a_rd, .ref a_tb, .ref a_o])), (a_so, .inl (y 4, 3, .inr (.inr (.inr (.inr (xO a_s 3)))))), xE a_s (y 0) 120 v_s 0, xE a_s (y 0) 120 v_s 1, xE a_s (y 0) 120 v_s 2, (a_o, .inr (1, [.int f_o_n, .int f_o_many, .int f_o_sets, .ref a_od, .ref a_op, .ref a_oi, .ref a_ov, .ref a_of, .ref a_ol, .ref a_om, .ref a_ow]))] H → va_D A [(a_x, .inr (5, [.ref a_known, .ref a_so, .ref a_made, .ref a_pcl, .ref a_hi, .ref a_tx, .ref a_rd, .ref a_tb, .ref a_o])), (a_so, .inl (y 4, 3, .inr (.inr (.inr (.inr (xO a_s 3)))))), xE a_s (y 0) 120 v_s 0, xE a_s (y 0) 120 v_s 1, xE a_s (y 0) 120 v_s 2, (a_o, .inr (1, [.int f_o_n, .int f_o_many, .int f_o_sets, .ref a_od, .ref a_op, .ref a_oi, .ref a_ov, .ref a_of, .ref a_ol, .ref a_om, .ref a_ow]))] → va_S A s.heap H locs → lv_has ls 3 [(0, .ref a_x), (1, .int p1), (2, .int p2)] → κ = some R → W p l e ({ frames := 2, cells := 0, slots := 0, locals := 43 } : Room) s m args below meth c H locs 0 0 (MQ below (va_Qi (fun (r : Int32) (_ : Unit) => r = R) (xB D y A [(a_x, .inr (5, [.ref a_known, .ref a_so, .ref a_made, .ref a_pcl, .ref a_hi, .ref a_tx, .ref a_rd, .ref a_tb, .ref a_o])), (a_so, .inl (y 4, 3, .inr (.inr (.inr (.inr (xO a_s 3)))))), xE a_s (y 0) 120 v_s 0, xE a_s (y 0) 120 v_s 1, xE a_s (y 0) 120 v_s 2, (a_o, .inr (1, [.int f_o_n, .int f_o_many, .int f_o_sets, .ref a_od, .ref a_op, .ref a_oi, .ref a_ov, .ref a_of, .ref a_ol, .ref a_om, .ref a_ow]))]) A) args s 0 0 A) (F0 m 0 ls [])
set_option maxHeartbeats 4000000 in
set_option maxRecDepth 100000 in
theorem B_X5_factor_0 {p : Program} {l : Launch} {e : Env} {s : State} {m : MethodId} {args : Array Value} {below : List Frame} {meth : Method} {c : Code} {A : Nat → Prop} {D : va_G} {y : Nat → ClassId} {a_x : Nat} {a_known : Nat} {a_so : Nat} {a_made : Nat} {a_pcl : Nat} {a_hi : Nat} {a_tx : Nat} {a_rd : Nat} {a_tb : Nat} {a_o : Nat} {a_s : Nat → Nat} {a_od : Nat} {a_op : Nat} {a_oi : Nat} {a_ov : Nat} {a_of : Nat} {a_ol : Nat} {a_om : Nat} {a_ow : Nat} {v_s : Nat → Nat → Int32} {f_o_n : Int32} {f_o_many : Int32} {f_o_sets : Int32} {p1 : Int32} {p2 : Int32} {R : Int32} (C : xC p s m args meth c A cX5_factor RX5 wsX5_factor 3 (some .int) D y)  : S_X5_factor_0 p l e s m args below meth c A D y a_x a_known a_so a_made a_pcl a_hi a_tx a_rd a_tb a_o a_s a_od a_op a_oi a_ov a_of a_ol a_om a_ow v_s f_o_n f_o_many f_o_sets p1 p2 R (F_X5_factor v_s f_o_many p1 p2 ) := by
  have C0 := C
  obtain ⟨hx, hb, hml, hown, hts, hr, hlocks, hK, hA⟩ := C
  intro H locs ls hP hD hS hl hB
  unfold F_X5_factor at hB
  refine lv_iload_n hx hb dX5_factor_0 rfl (lv_at hl 1 rfl) ?_
  obtain ⟨q1, e1, hB⟩ := xbd hB
  have hPc := hP.sub (ws' := []) [] rfl
  have hDc := hD.sub (ws' := []) [] (by decide) rfl
  refine xcalli (mc := 0) (ms := 0) (rv := q1) (wc := []) (wr := [(a_x, .inr (5, [.ref a_known, .ref a_so, .ref a_made, .ref a_pcl, .ref a_hi, .ref a_tx, .ref a_rd, .ref a_tb, .ref a_o])), (a_so, .inl (y 4, 3, .inr (.inr (.inr (.inr (xO a_s 3)))))), xE a_s (y 0) 120 v_s 0, xE a_s (y 0) 120 v_s 1, xE a_s (y 0) 120 v_s 2, (a_o, .inr (1, [.int f_o_n, .int f_o_many, .int f_o_sets, .ref a_od, .ref a_op, .ref a_oi, .ref a_ov, .ref a_of, .ref a_ol, .ref a_om, .ref a_ow]))]) (w1 := []) (wf := [(a_x, .inr (5, [.ref a_known, .ref a_so, .ref a_made, .ref a_pcl, .ref a_hi, .ref a_tx, .ref a_rd, .ref a_tb, .ref a_o])), (a_so, .inl (y 4, 3, .inr (.inr (.inr (.inr (xO a_s 3)))))), xE a_s (y 0) 120 v_s 0, xE a_s (y 0) 120 v_s 1, xE a_s (y 0) 120 v_s 2, (a_o, .inr (1, [.int f_o_n, .int f_o_many, .int f_o_sets, .ref a_od, .ref a_op, .ref a_oi, .ref a_ov, .ref a_of, .ref a_ol, .ref a_om, .ref a_ow]))]) (va_runS (As := [.int p1]) (rest := []) ⟨hx, hb, hml, hown, hts⟩ (c_X5_isSum l D y p1 H.size e1) (va_cwS 1 hts gX5_factor_X5_isSum rfl rfl rfl (by decide +kernel) ⟨Nat.le_of_ble_eq_true rfl, Nat.le_of_ble_eq_true rfl⟩) ⟨xblind, xprev hPc hK hDc⟩ rfl rfl hl.1 rfl (lv_room (Nat.le_of_ble_eq_true rfl)) dX5_factor_1 ⟨Nat.le_of_ble_eq_true rfl, Nat.le_of_ble_eq_true rfl⟩) hP hD hS hA [] [0, 1, 2, 3, 4, 5] [0, 1, 2, 3, 4, 5] rfl rfl (by decide) (by decide) rfl (by decide) (fun H locs hP hD hS => ?_)
  refine lv_if_eq (tgt := 15) hx hb dX5_factor_4 (by decide) (fun c2 => ?_) (fun c2 => ?_)
  · have hB := xip c2 hB
    refine lv_ldc (v := -10000001) hx hb hown (hts _ kX5_factor_c67) dX5_factor_15 ?_
    have hB := Option.some.inj hB
    subst hB
    exact W.iret hx hb hr (fun t ht hW => ⟨⟨_, (), rfl, rfl, by rw [ht]; exact hP, va_K.moved hW.alike hK, hD⟩, hS.F ht⟩) hS.2.2 dX5_factor_17 hlocks
  · have hB := xin c2 hB
    refine lv_aload_n hx hb dX5_factor_7 rfl (lv_at hl 0 rfl) ?_
    refine lv_iload_n hx hb dX5_factor_8 rfl (lv_at hl 2 rfl) ?_
    obtain ⟨q3, e3, hB⟩ := xbd hB
    have hPc := hP.sub (ws' := [(a_x, .inr (5, [.ref a_known, .ref a_so, .ref a_made, .ref a_pcl, .ref a_hi, .ref a_tx, .ref a_rd, .ref a_tb, .ref a_o])), (a_o, .inr (1, [.int f_o_n, .int f_o_many, .int f_o_sets, .ref a_od, .ref a_op, .ref a_oi, .ref a_ov, .ref a_of, .ref a_ol, .ref a_om, .ref a_ow]))]) [0, 5] rfl
    have hDc := hD.sub (ws' := [(a_x, .inr (5, [.ref a_known, .ref a_so, .ref a_made, .ref a_pcl, .ref a_hi, .ref a_tx, .ref a_rd, .ref a_tb, .ref a_o])), (a_o, .inr (1, [.int f_o_n, .int f_o_many, .int f_o_sets, .ref a_od, .ref a_op, .ref a_oi, .ref a_ov, .ref a_of, .ref a_ol, .ref a_om, .ref a_ow]))]) [0, 5] (by decide) rfl
    refine xcalli (mc := 0) (ms := 0) (rv := q3) (wc := [(a_x, .inr (5, [.ref a_known, .ref a_so, .ref a_made, .ref a_pcl, .ref a_hi, .ref a_tx, .ref a_rd, .ref a_tb, .ref a_o])), (a_o, .inr (1, [.int f_o_n, .int f_o_many, .int f_o_sets, .ref a_od, .ref a_op, .ref a_oi, .ref a_ov, .ref a_of, .ref a_ol, .ref a_om, .ref a_ow]))]) (wr := [(a_so, .inl (y 4, 3, .inr (.inr (.inr (.inr (xO a_s 3)))))), xE a_s (y 0) 120 v_s 0, xE a_s (y 0) 120 v_s 1, xE a_s (y 0) 120 v_s 2]) (w1 := [(a_x, .inr (5, [.ref a_known, .ref a_so, .ref a_made, .ref a_pcl, .ref a_hi, .ref a_tx, .ref a_rd, .ref a_tb, .ref a_o])), (a_o, .inr (1, [.int f_o_n, .int f_o_many, .int f_o_sets, .ref a_od, .ref a_op, .ref a_oi, .ref a_ov, .ref a_of, .ref a_ol, .ref a_om, .ref a_ow]))]) (wf := [(a_x, .inr (5, [.ref a_known, .ref a_so, .ref a_made, .ref a_pcl, .ref a_hi, .ref a_tx, .ref a_rd, .ref a_tb, .ref a_o])), (a_so, .inl (y 4, 3, .inr (.inr (.inr (.inr (xO a_s 3)))))), xE a_s (y 0) 120 v_s 0, xE a_s (y 0) 120 v_s 1, xE a_s (y 0) 120 v_s 2, (a_o, .inr (1, [.int f_o_n, .int f_o_many, .int f_o_sets, .ref a_od, .ref a_op, .ref a_oi, .ref a_ov, .ref a_of, .ref a_ol, .ref a_om, .ref a_ow]))]) (va_runV (As := [.int p2]) (rest := []) ⟨hx, hb, hml, hown, hts⟩ (c_X5_isOrder l D y a_x a_known a_so a_made a_pcl a_hi a_tx a_rd a_tb a_o a_od a_op a_oi a_ov a_of a_ol a_om a_ow f_o_n f_o_many f_o_sets p2 H.size e3) (cwV 1 hts gX5_factor_X5_isOrder rfl rfl rfl (by decide +kernel) ⟨Nat.le_of_ble_eq_true rfl, Nat.le_of_ble_eq_true rfl⟩) ⟨xblind, va_recv hK hP (ci := 5) (q0 := 0) rfl rfl, xprev hPc hK hDc⟩ rfl rfl hl.1 rfl (lv_room (Nat.le_of_ble_eq_true rfl)) dX5_factor_9 ⟨Nat.le_of_ble_eq_true rfl, Nat.le_of_ble_eq_true rfl⟩) hP hD hS hA [0, 5] [1, 2, 3, 4] [4, 0, 1, 2, 3, 5] rfl rfl (by decide) (by decide) rfl (by decide) (fun H locs hP hD hS => ?_)
    refine lv_if_ne (tgt := 18) hx hb dX5_factor_12 (by decide) (fun c4 => ?_) (fun c4 => ?_)
    · have hB := xin c4 hB
      refine lv_aload_n hx hb dX5_factor_18 rfl (lv_at hl 0 rfl) ?_
      refine va_get (D := D) (ci := 5) (v := .ref a_so) (C := RX5) (T := TX5) (N := 9) hx hb hts kX5_factor_wX5 hown hK hP 0 rfl rfl 1 (by decide) (hts _ kX5_factor_f17) (fun _ h9 => h9) rfl dX5_factor_19 ?_
      refine lv_iload_n hx hb dX5_factor_22 rfl (lv_at hl 1 rfl) ?_
      obtain ⟨g5, hB⟩ := xg_some hB
      refine xaald hx hb hK hP 1 4 rfl rfl g5 dX5_factor_23 ?_
      refine lv_iload_n hx hb dX5_factor_24 rfl (lv_at hl 2 rfl) ?_
      obtain ⟨g6, hB⟩ := xg_some hB
      refine va_iald hx hb hK hP (2 + p1.toNatClampNeg) 0 (xg3 (xE a_s (y 0) 120 v_s) rfl rfl rfl (xlt g5)) rfl g6 dX5_factor_25 ?_
      have hB := Option.some.inj hB
      subst hB
      exact W.iret hx hb hr (fun t ht hW => ⟨⟨_, (), rfl, rfl, by rw [ht]; exact hP, va_K.moved hW.alike hK, hD⟩, hS.F ht⟩) hS.2.2 dX5_factor_26 hlocks
    · have hB := xip c4 hB
      refine lv_ldc (v := -10000001) hx hb hown (hts _ kX5_factor_c67) dX5_factor_15 ?_
      have hB := Option.some.inj hB
      subst hB
      exact W.iret hx hb hr (fun t ht hW => ⟨⟨_, (), rfl, rfl, by rw [ht]; exact hP, va_K.moved hW.alike hK, hD⟩, hS.F ht⟩) hS.2.2 dX5_factor_17 hlocks
set_option maxHeartbeats 4000000 in
set_option maxRecDepth 100000 in
theorem c_X5_factor (l : Launch) (D : va_G) (y : Nat → ClassId) (a_x : Nat) (a_known : Nat) (a_so : Nat) (a_made : Nat) (a_pcl : Nat) (a_hi : Nat) (a_tx : Nat) (a_rd : Nat) (a_tb : Nat) (a_o : Nat) (a_s : Nat → Nat) (a_od : Nat) (a_op : Nat) (a_oi : Nat) (a_ov : Nat) (a_of : Nat) (a_ol : Nat) (a_om : Nat) (a_ow : Nat)  (v_s : Nat → Nat → Int32) (f_o_n : Int32) (f_o_many : Int32) (f_o_sets : Int32) (p1 : Int32) (p2 : Int32) (sz : Nat) {R : Int32} (hF : F_X5_factor v_s f_o_many p1 p2 = some R) : Met l yX5_factor wsX5_factor ({ frames := 2, cells := 0, slots := 0, locals := 43 } : Room) (xPre D y sz [.ref a_x, .int p1, .int p2] [(a_x, .inr (5, [.ref a_known, .ref a_so, .ref a_made, .ref a_pcl, .ref a_hi, .ref a_tx, .ref a_rd, .ref a_tb, .ref a_o])), (a_so, .inl (y 4, 3, .inr (.inr (.inr (.inr (xO a_s 3)))))), xE a_s (y 0) 120 v_s 0, xE a_s (y 0) 120 v_s 1, xE a_s (y 0) 120 v_s 2, (a_o, .inr (1, [.int f_o_n, .int f_o_many, .int f_o_sets, .ref a_od, .ref a_op, .ref a_oi, .ref a_ov, .ref a_of, .ref a_ol, .ref a_om, .ref a_ow]))]) (va_Qi (fun (r : Int32) (_ : Unit) => r = R) (xB D y (va_A [(a_x, .inr (5, [.ref a_known, .ref a_so, .ref a_made, .ref a_pcl, .ref a_hi, .ref a_tx, .ref a_rd, .ref a_tb, .ref a_o])), (a_so, .inl (y 4, 3, .inr (.inr (.inr (.inr (xO a_s 3)))))), xE a_s (y 0) 120 v_s 0, xE a_s (y 0) 120 v_s 1, xE a_s (y 0) 120 v_s 2, (a_o, .inr (1, [.int f_o_n, .int f_o_many, .int f_o_sets, .ref a_od, .ref a_op, .ref a_oi, .ref a_ov, .ref a_of, .ref a_ol, .ref a_om, .ref a_ow]))] sz) [(a_x, .inr (5, [.ref a_known, .ref a_so, .ref a_made, .ref a_pcl, .ref a_hi, .ref a_tx, .ref a_rd, .ref a_tb, .ref a_o])), (a_so, .inl (y 4, 3, .inr (.inr (.inr (.inr (xO a_s 3)))))), xE a_s (y 0) 120 v_s 0, xE a_s (y 0) 120 v_s 1, xE a_s (y 0) 120 v_s 2, (a_o, .inr (1, [.int f_o_n, .int f_o_many, .int f_o_sets, .ref a_od, .ref a_op, .ref a_oi, .ref a_ov, .ref a_of, .ref a_ol, .ref a_om, .ref a_ow]))]) (va_A [(a_x, .inr (5, [.ref a_known, .ref a_so, .ref a_made, .ref a_pcl, .ref a_hi, .ref a_tx, .ref a_rd, .ref a_tb, .ref a_o])), (a_so, .inl (y 4, 3, .inr (.inr (.inr (.inr (xO a_s 3)))))), xE a_s (y 0) 120 v_s 0, xE a_s (y 0) 120 v_s 1, xE a_s (y 0) 120 v_s 2, (a_o, .inr (1, [.int f_o_n, .int f_o_many, .int f_o_sets, .ref a_od, .ref a_op, .ref a_oi, .ref a_ov, .ref a_of, .ref a_ol, .ref a_om, .ref a_ow]))] sz)) 0 0 (va_A [(a_x, .inr (5, [.ref a_known, .ref a_so, .ref a_made, .ref a_pcl, .ref a_hi, .ref a_tx, .ref a_rd, .ref a_tb, .ref a_o])), (a_so, .inl (y 4, 3, .inr (.inr (.inr (.inr (xO a_s 3)))))), xE a_s (y 0) 120 v_s 0, xE a_s (y 0) 120 v_s 1, xE a_s (y 0) 120 v_s 2, (a_o, .inr (1, [.int f_o_n, .int f_o_many, .int f_o_sets, .ref a_od, .ref a_op, .ref a_oi, .ref a_ov, .ref a_of, .ref a_ol, .ref a_om, .ref a_ow]))] sz) := by
  refine Met.ofW (cc := cX5_factor) (maxL := 3) (ret := (some .int)) (by decide) rfl ?_
  intro p e s m args below meth c s₁ B hml hv
  obtain ⟨rfl, hsz, hP, hK, hD0⟩ := hv
  subst hsz
  have hD := hD0.self (sz := s.heap.size)
  have C : xC p s m [.ref a_x, .int p1, .int p2].toArray meth c (va_A [(a_x, .inr (5, [.ref a_known, .ref a_so, .ref a_made, .ref a_pcl, .ref a_hi, .ref a_tx, .ref a_rd, .ref a_tb, .ref a_o])), (a_so, .inl (y 4, 3, .inr (.inr (.inr (.inr (xO a_s 3)))))), xE a_s (y 0) 120 v_s 0, xE a_s (y 0) 120 v_s 1, xE a_s (y 0) 120 v_s 2, (a_o, .inr (1, [.int f_o_n, .int f_o_many, .int f_o_sets, .ref a_od, .ref a_op, .ref a_oi, .ref a_ov, .ref a_of, .ref a_ol, .ref a_om, .ref a_ow]))] s.heap.size) cX5_factor RX5 wsX5_factor 3 (some .int) D y := ⟨B.exec, B.bytes, hml, findClass_of_methodNamed B.named, atoms_spec (ws := wsX5_factor) B.pre, B.returns, B.notSynchronized, hK, fun q h => Or.inr h⟩
  have hl := lv_entry ([.ref a_x, .int p1, .int p2]) (n := 3) (Nat.le_of_ble_eq_true rfl)
  rw [lg_entry_eq]
  generalize (lg_sl ([.ref a_x, .int p1, .int p2]) ++ List.replicate (3 - (lg_sl ([.ref a_x, .int p1, .int p2])).length) Slot.unset).toArray = ls at hl ⊢
  have hl : lv_has ls 3 [(0, .ref a_x), (1, .int p1), (2, .int p2)] := hl
  exact B_X5_factor_0 (p1 := p1) (p2 := p2) C  s.heap [] ls hP hD va_S.rf hl hF
theorem kX5_termOf_c67 : Cond.constant RX5 67 (-10000001) ∈ wsX5_termOf := by decide +kernel
theorem kX5_termOf_c154 : Cond.constant RX5 154 (-10000004) ∈ wsX5_termOf := by decide +kernel
theorem kX5_termOf_f59 : Cond.fieldLink RX5 59 "DescentShuffles" "orders" "LDescentShuffles$Orders;" ∈ wsX5_termOf := by decide +kernel
theorem kX5_termOf_wX5 : ∀ w ∈ u_ws RX5 TX5 9, w ∈ wsX5_termOf := by decide +kernel
theorem kX5_termOf_f76 : Cond.fieldLink RX5 76 "DescentShuffles$Orders" "many" "I" ∈ wsX5_termOf := by decide +kernel
theorem kX5_termOf_wX1 : ∀ w ∈ u_ws RX1 TX1 11, w ∈ wsX5_termOf := by decide +kernel
theorem kX5_termOf_f17 : Cond.fieldLink RX5 17 "DescentShuffles" "sums" "[[I" ∈ wsX5_termOf := by decide +kernel
def S_X5_termOf_29 (p : Program) (l : Launch) (e : Env) (s : State) (m : MethodId) (args : Array Value) (below : List Frame) (meth : Method) (c : Code) (A : Nat → Prop) (D : va_G) (y : Nat → ClassId) (a_x : Nat) (a_known : Nat) (a_so : Nat) (a_made : Nat) (a_pcl : Nat) (a_hi : Nat) (a_tx : Nat) (a_rd : Nat) (a_tb : Nat) (a_o : Nat) (a_s : Nat → Nat) (a_od : Nat) (a_op : Nat) (a_oi : Nat) (a_ov : Nat) (a_of : Nat) (a_ol : Nat) (a_om : Nat) (a_ow : Nat) (v_s : Nat → Nat → Int32) (f_o_n : Int32) (f_o_many : Int32) (f_o_sets : Int32) (p1 : Int32) (p2 : Int32) (p3 : Int32) (R : Int32) (κ : Int32 → Int32 → Option (Int32)) : Prop := ∀ (x4 : Int32) (x5 : Int32) (H : Heap) (locs : List Loc) (ls : Array Slot), va_P D vwCl [(a_x, .inr (5, [.ref a_known, .ref a_so, .ref a_made, .ref a_pcl, .ref a_hi, .ref a_tx, .ref a_rd, .ref a_tb, .ref a_o])), (a_so, .inl (y 4, 3, .inr (.inr (.inr (.inr (xO a_s 3)))))), xE a_s (y 0) 120 v_s 0, xE a_s (y 0) 120 v_s 1, xE a_s (y 0) 120 v_s 2, (a_o, .inr (1, [.int f_o_n, .int f_o_many, .int f_o_sets, .ref a_od, .ref a_op, .ref a_oi, .ref a_ov, .ref a_of, .ref a_ol, .ref a_om, .ref a_ow]))] H → va_D A [(a_x, .inr (5, [.ref a_known, .ref a_so, .ref a_made, .ref a_pcl, .ref a_hi, .ref a_tx, .ref a_rd, .ref a_tb, .ref a_o])), (a_so, .inl (y 4, 3, .inr (.inr (.inr (.inr (xO a_s 3)))))), xE a_s (y 0) 120 v_s 0, xE a_s (y 0) 120 v_s 1, xE a_s (y 0) 120 v_s 2, (a_o, .inr (1, [.int f_o_n, .int f_o_many, .int f_o_sets, .ref a_od, .ref a_op, .ref a_oi, .ref a_ov, .ref a_of, .ref a_ol, .ref a_om, .ref a_ow]))] → va_S A s.heap H locs → lv_has ls 6 [(0, .ref a_x), (1, .int p1), (2, .int p2), (3, .int p3), (4, .int x4), (5, .int x5)] → κ x4 x5 = some R → W p l e ({ frames := 2, cells := 0, slots := 0, locals := 42 } : Room) s m args below meth c H locs 0 0 (MQ below (va_Qi (fun (r : Int32) (_ : Unit) => r = R) (xB D y A [(a_x, .inr (5, [.ref a_known, .ref a_so, .ref a_made, .ref a_pcl, .ref a_hi, .ref a_tx, .ref a_rd, .ref a_tb, .ref a_o])), (a_so, .inl (y 4, 3, .inr (.inr (.inr (.inr (xO a_s 3)))))), xE a_s (y 0) 120 v_s 0, xE a_s (y 0) 120 v_s 1, xE a_s (y 0) 120 v_s 2, (a_o, .inr (1, [.int f_o_n, .int f_o_many, .int f_o_sets, .ref a_od, .ref a_op, .ref a_oi, .ref a_ov, .ref a_of, .ref a_ol, .ref a_om, .ref a_ow]))]) A) args s 0 0 A) (F0 m 29 ls [])
def S_X5_termOf_0 (p : Program) (l : Launch) (e : Env) (s : State) (m : MethodId) (args : Array Value) (below : List Frame) (meth : Method) (c : Code) (A : Nat → Prop) (D : va_G) (y : Nat → ClassId) (a_x : Nat) (a_known : Nat) (a_so : Nat) (a_made : Nat) (a_pcl : Nat) (a_hi : Nat) (a_tx : Nat) (a_rd : Nat) (a_tb : Nat) (a_o : Nat) (a_s : Nat → Nat) (a_od : Nat) (a_op : Nat) (a_oi : Nat) (a_ov : Nat) (a_of : Nat) (a_ol : Nat) (a_om : Nat) (a_ow : Nat) (v_s : Nat → Nat → Int32) (f_o_n : Int32) (f_o_many : Int32) (f_o_sets : Int32) (p1 : Int32) (p2 : Int32) (p3 : Int32) (R : Int32) (κ : Option (Int32)) : Prop := ∀ (H : Heap) (locs : List Loc) (ls : Array Slot), va_P D vwCl [(a_x, .inr (5, [.ref a_known, .ref a_so, .ref a_made, .ref a_pcl, .ref a_hi, .ref a_tx, .ref a_rd, .ref a_tb, .ref a_o])), (a_so, .inl (y 4, 3, .inr (.inr (.inr (.inr (xO a_s 3)))))), xE a_s (y 0) 120 v_s 0, xE a_s (y 0) 120 v_s 1, xE a_s (y 0) 120 v_s 2, (a_o, .inr (1, [.int f_o_n, .int f_o_many, .int f_o_sets, .ref a_od, .ref a_op, .ref a_oi, .ref a_ov, .ref a_of, .ref a_ol, .ref a_om, .ref a_ow]))] H → va_D A [(a_x, .inr (5, [.ref a_known, .ref a_so, .ref a_made, .ref a_pcl, .ref a_hi, .ref a_tx, .ref a_rd, .ref a_tb, .ref a_o])), (a_so, .inl (y 4, 3, .inr (.inr (.inr (.inr (xO a_s 3)))))), xE a_s (y 0) 120 v_s 0, xE a_s (y 0) 120 v_s 1, xE a_s (y 0) 120 v_s 2, (a_o, .inr (1, [.int f_o_n, .int f_o_many, .int f_o_sets, .ref a_od, .ref a_op, .ref a_oi, .ref a_ov, .ref a_of, .ref a_ol, .ref a_om, .ref a_ow]))] → va_S A s.heap H locs → lv_has ls 6 [(0, .ref a_x), (1, .int p1), (2, .int p2), (3, .int p3)] → κ = some R → W p l e ({ frames := 2, cells := 0, slots := 0, locals := 42 } : Room) s m args below meth c H locs 0 0 (MQ below (va_Qi (fun (r : Int32) (_ : Unit) => r = R) (xB D y A [(a_x, .inr (5, [.ref a_known, .ref a_so, .ref a_made, .ref a_pcl, .ref a_hi, .ref a_tx, .ref a_rd, .ref a_tb, .ref a_o])), (a_so, .inl (y 4, 3, .inr (.inr (.inr (.inr (xO a_s 3)))))), xE a_s (y 0) 120 v_s 0, xE a_s (y 0) 120 v_s 1, xE a_s (y 0) 120 v_s 2, (a_o, .inr (1, [.int f_o_n, .int f_o_many, .int f_o_sets, .ref a_od, .ref a_op, .ref a_oi, .ref a_ov, .ref a_of, .ref a_ol, .ref a_om, .ref a_ow]))]) A) args s 0 0 A) (F0 m 0 ls [])
set_option maxHeartbeats 4000000 in
set_option maxRecDepth 100000 in
theorem B_X5_termOf_29 {p : Program} {l : Launch} {e : Env} {s : State} {m : MethodId} {args : Array Value} {below : List Frame} {meth : Method} {c : Code} {A : Nat → Prop} {D : va_G} {y : Nat → ClassId} {a_x : Nat} {a_known : Nat} {a_so : Nat} {a_made : Nat} {a_pcl : Nat} {a_hi : Nat} {a_tx : Nat} {a_rd : Nat} {a_tb : Nat} {a_o : Nat} {a_s : Nat → Nat} {a_od : Nat} {a_op : Nat} {a_oi : Nat} {a_ov : Nat} {a_of : Nat} {a_ol : Nat} {a_om : Nat} {a_ow : Nat} {v_s : Nat → Nat → Int32} {f_o_n : Int32} {f_o_many : Int32} {f_o_sets : Int32} {p1 : Int32} {p2 : Int32} {p3 : Int32} {R : Int32} (C : xC p s m args meth c A cX5_termOf RX5 wsX5_termOf 6 (some .int) D y)  : ∀ f : Nat, S_X5_termOf_29 p l e s m args below meth c A D y a_x a_known a_so a_made a_pcl a_hi a_tx a_rd a_tb a_o a_s a_od a_op a_oi a_ov a_of a_ol a_om a_ow v_s f_o_n f_o_many f_o_sets p1 p2 p3 R (F_X5_termOf_29 v_s f_o_many p1 p2 p3  f) := by
  have C0 := C
  obtain ⟨hx, hb, hml, hown, hts, hr, hlocks, hK, hA⟩ := C
  intro f
  induction f with
  | zero =>
    intro x4 x5 H locs ls hP hD hS hl hB
    rw [Z_X5_termOf_29] at hB
    cases hB
  | succ f ih =>
    intro x4 x5 H locs ls hP hD hS hl hB
    rw [E_X5_termOf_29] at hB
    refine lv_iload hx hb dX5_termOf_29 (lv_at hl 5 rfl) ?_
    refine lv_aload_n hx hb dX5_termOf_31 rfl (lv_at hl 0 rfl) ?_
    refine va_get (D := D) (ci := 5) (v := .ref a_o) (C := RX5) (T := TX5) (N := 9) hx hb hts kX5_termOf_wX5 hown hK hP 0 rfl rfl 8 (by decide) (hts _ kX5_termOf_f59) (fun _ h9 => h9) rfl dX5_termOf_32 ?_
    refine va_get (D := D) (ci := 1) (v := .int f_o_many) (C := RX1) (T := TX1) (N := 11) hx hb hts kX5_termOf_wX1 hown hK hP 5 rfl rfl 1 (by decide) (hts _ kX5_termOf_f76) (fun _ h9 => h9) rfl dX5_termOf_35 ?_
    refine lv_icmp_ge (tgt := 87) hx hb dX5_termOf_38 (by decide) (fun c1 => ?_) (fun c1 => ?_)
    · have hB := xip c1 hB
      refine lv_ldc (v := -10000004) hx hb hown (hts _ kX5_termOf_c154) dX5_termOf_87 ?_
      have hB := Option.some.inj hB
      subst hB
      exact W.iret hx hb hr (fun t ht hW => ⟨⟨_, (), rfl, rfl, by rw [ht]; exact hP, va_K.moved hW.alike hK, hD⟩, hS.F ht⟩) hS.2.2 dX5_termOf_89 hlocks
    · have hB := xin c1 hB
      refine lv_aload_n hx hb dX5_termOf_41 rfl (lv_at hl 0 rfl) ?_
      refine va_get (D := D) (ci := 5) (v := .ref a_so) (C := RX5) (T := TX5) (N := 9) hx hb hts kX5_termOf_wX5 hown hK hP 0 rfl rfl 1 (by decide) (hts _ kX5_termOf_f17) (fun _ h9 => h9) rfl dX5_termOf_42 ?_
      refine lv_iload_n hx hb dX5_termOf_45 rfl (lv_at hl 1 rfl) ?_
      obtain ⟨g2, hB⟩ := xg_some hB
      refine xaald hx hb hK hP 1 4 rfl rfl g2 dX5_termOf_46 ?_
      refine lv_iload hx hb dX5_termOf_47 (lv_at hl 5 rfl) ?_
      obtain ⟨g3, hB⟩ := xg_some hB
      refine va_iald hx hb hK hP (2 + p1.toNatClampNeg) 0 (xg3 (xE a_s (y 0) 120 v_s) rfl rfl rfl (xlt g2)) rfl g3 dX5_termOf_49 ?_
      refine lv_if_eq (tgt := 81) hx hb dX5_termOf_50 (by decide) (fun c4 => ?_) (fun c4 => ?_)
      · have hB := xip c4 hB
        refine lv_iinc (v := x5 + 1) (lv' := [(5, .int (x5 + 1)), (0, .ref a_x), (1, .int p1), (2, .int p2), (3, .int p3), (4, .int x4)]) hx hb dX5_termOf_81 hl (k := 5) rfl rfl (by decide) rfl (fun ls hl => ?_)
        refine lv_goto (tgt := 29) hx hb dX5_termOf_84 (by decide) ?_
        exact ih x4 (x5 + 1) H locs ls hP hD hS (lv_sub hl [1, 2, 3, 4, 5, 0] rfl) hB
      · have hB := xin c4 hB
        refine lv_iload hx hb dX5_termOf_53 (lv_at hl 4 rfl) ?_
        refine lv_iload_n hx hb dX5_termOf_55 rfl (lv_at hl 2 rfl) ?_
        refine lv_icmp_ne (tgt := 78) hx hb dX5_termOf_56 (by decide) (fun c5 => ?_) (fun c5 => ?_)
        · have hB := xin c5 hB
          refine lv_iinc (v := x4 + 1) (lv' := [(4, .int (x4 + 1)), (0, .ref a_x), (1, .int p1), (2, .int p2), (3, .int p3), (5, .int x5)]) hx hb dX5_termOf_78 hl (k := 4) rfl rfl (by decide) rfl (fun ls hl => ?_)
          refine lv_iinc (v := x5 + 1) (lv' := [(5, .int (x5 + 1)), (4, .int (x4 + 1)), (0, .ref a_x), (1, .int p1), (2, .int p2), (3, .int p3)]) hx hb dX5_termOf_81 hl (k := 5) rfl rfl (by decide) rfl (fun ls hl => ?_)
          refine lv_goto (tgt := 29) hx hb dX5_termOf_84 (by decide) ?_
          exact ih (x4 + 1) (x5 + 1) H locs ls hP hD hS (lv_sub hl [2, 3, 4, 5, 1, 0] rfl) hB
        · have hB := xip c5 hB
          refine lv_iload_n hx hb dX5_termOf_59 rfl (lv_at hl 3 rfl) ?_
          refine lv_if_ne (tgt := 68) hx hb dX5_termOf_60 (by decide) (fun c6 => ?_) (fun c6 => ?_)
          · have hB := xin c6 hB
            refine lv_aload_n hx hb dX5_termOf_68 rfl (lv_at hl 0 rfl) ?_
            refine va_get (D := D) (ci := 5) (v := .ref a_so) (C := RX5) (T := TX5) (N := 9) hx hb hts kX5_termOf_wX5 hown hK hP 0 rfl rfl 1 (by decide) (hts _ kX5_termOf_f17) (fun _ h9 => h9) rfl dX5_termOf_69 ?_
            refine lv_iload_n hx hb dX5_termOf_72 rfl (lv_at hl 1 rfl) ?_
            refine xaald hx hb hK hP 1 4 rfl rfl g2 dX5_termOf_73 ?_
            refine lv_iload hx hb dX5_termOf_74 (lv_at hl 5 rfl) ?_
            refine va_iald hx hb hK hP (2 + p1.toNatClampNeg) 0 (xg3 (xE a_s (y 0) 120 v_s) rfl rfl rfl (xlt g2)) rfl g3 dX5_termOf_76 ?_
            have hB := Option.some.inj hB
            subst hB
            exact W.iret hx hb hr (fun t ht hW => ⟨⟨_, (), rfl, rfl, by rw [ht]; exact hP, va_K.moved hW.alike hK, hD⟩, hS.F ht⟩) hS.2.2 dX5_termOf_77 hlocks
          · have hB := xip c6 hB
            refine lv_iload hx hb dX5_termOf_63 (lv_at hl 5 rfl) ?_
            refine lv_goto (tgt := 77) hx hb dX5_termOf_65 (by decide) ?_
            have hB := Option.some.inj hB
            subst hB
            exact W.iret hx hb hr (fun t ht hW => ⟨⟨_, (), rfl, rfl, by rw [ht]; exact hP, va_K.moved hW.alike hK, hD⟩, hS.F ht⟩) hS.2.2 dX5_termOf_77 hlocks
set_option maxHeartbeats 4000000 in
set_option maxRecDepth 100000 in
theorem B_X5_termOf_0 {p : Program} {l : Launch} {e : Env} {s : State} {m : MethodId} {args : Array Value} {below : List Frame} {meth : Method} {c : Code} {A : Nat → Prop} {D : va_G} {y : Nat → ClassId} {a_x : Nat} {a_known : Nat} {a_so : Nat} {a_made : Nat} {a_pcl : Nat} {a_hi : Nat} {a_tx : Nat} {a_rd : Nat} {a_tb : Nat} {a_o : Nat} {a_s : Nat → Nat} {a_od : Nat} {a_op : Nat} {a_oi : Nat} {a_ov : Nat} {a_of : Nat} {a_ol : Nat} {a_om : Nat} {a_ow : Nat} {v_s : Nat → Nat → Int32} {f_o_n : Int32} {f_o_many : Int32} {f_o_sets : Int32} {p1 : Int32} {p2 : Int32} {p3 : Int32} {R : Int32} (C : xC p s m args meth c A cX5_termOf RX5 wsX5_termOf 6 (some .int) D y)  : S_X5_termOf_0 p l e s m args below meth c A D y a_x a_known a_so a_made a_pcl a_hi a_tx a_rd a_tb a_o a_s a_od a_op a_oi a_ov a_of a_ol a_om a_ow v_s f_o_n f_o_many f_o_sets p1 p2 p3 R (F_X5_termOf v_s f_o_many p1 p2 p3 ) := by
  have C0 := C
  obtain ⟨hx, hb, hml, hown, hts, hr, hlocks, hK, hA⟩ := C
  intro H locs ls hP hD hS hl hB
  unfold F_X5_termOf at hB
  refine lv_iload_n hx hb dX5_termOf_0 rfl (lv_at hl 1 rfl) ?_
  obtain ⟨q1, e1, hB⟩ := xbd hB
  have hPc := hP.sub (ws' := []) [] rfl
  have hDc := hD.sub (ws' := []) [] (by decide) rfl
  refine xcalli (mc := 0) (ms := 0) (rv := q1) (wc := []) (wr := [(a_x, .inr (5, [.ref a_known, .ref a_so, .ref a_made, .ref a_pcl, .ref a_hi, .ref a_tx, .ref a_rd, .ref a_tb, .ref a_o])), (a_so, .inl (y 4, 3, .inr (.inr (.inr (.inr (xO a_s 3)))))), xE a_s (y 0) 120 v_s 0, xE a_s (y 0) 120 v_s 1, xE a_s (y 0) 120 v_s 2, (a_o, .inr (1, [.int f_o_n, .int f_o_many, .int f_o_sets, .ref a_od, .ref a_op, .ref a_oi, .ref a_ov, .ref a_of, .ref a_ol, .ref a_om, .ref a_ow]))]) (w1 := []) (wf := [(a_x, .inr (5, [.ref a_known, .ref a_so, .ref a_made, .ref a_pcl, .ref a_hi, .ref a_tx, .ref a_rd, .ref a_tb, .ref a_o])), (a_so, .inl (y 4, 3, .inr (.inr (.inr (.inr (xO a_s 3)))))), xE a_s (y 0) 120 v_s 0, xE a_s (y 0) 120 v_s 1, xE a_s (y 0) 120 v_s 2, (a_o, .inr (1, [.int f_o_n, .int f_o_many, .int f_o_sets, .ref a_od, .ref a_op, .ref a_oi, .ref a_ov, .ref a_of, .ref a_ol, .ref a_om, .ref a_ow]))]) (va_runS (As := [.int p1]) (rest := []) ⟨hx, hb, hml, hown, hts⟩ (c_X5_isSum l D y p1 H.size e1) (va_cwS 1 hts gX5_termOf_X5_isSum rfl rfl rfl (by decide +kernel) ⟨Nat.le_of_ble_eq_true rfl, Nat.le_of_ble_eq_true rfl⟩) ⟨xblind, xprev hPc hK hDc⟩ rfl rfl hl.1 rfl (lv_room (Nat.le_of_ble_eq_true rfl)) dX5_termOf_1 ⟨Nat.le_of_ble_eq_true rfl, Nat.le_of_ble_eq_true rfl⟩) hP hD hS hA [] [0, 1, 2, 3, 4, 5] [0, 1, 2, 3, 4, 5] rfl rfl (by decide) (by decide) rfl (by decide) (fun H locs hP hD hS => ?_)
  refine lv_if_eq (tgt := 20) hx hb dX5_termOf_4 (by decide) (fun c2 => ?_) (fun c2 => ?_)
  · have hB := xip c2 hB
    refine lv_ldc (v := -10000001) hx hb hown (hts _ kX5_termOf_c67) dX5_termOf_20 ?_
    have hB := Option.some.inj hB
    subst hB
    exact W.iret hx hb hr (fun t ht hW => ⟨⟨_, (), rfl, rfl, by rw [ht]; exact hP, va_K.moved hW.alike hK, hD⟩, hS.F ht⟩) hS.2.2 dX5_termOf_22 hlocks
  · have hB := xin c2 hB
    refine lv_iload_n hx hb dX5_termOf_7 rfl (lv_at hl 2 rfl) ?_
    refine lv_if_lt (tgt := 20) hx hb dX5_termOf_8 (by decide) (fun c3 => ?_) (fun c3 => ?_)
    · have hB := xip c3 hB
      refine lv_ldc (v := -10000001) hx hb hown (hts _ kX5_termOf_c67) dX5_termOf_20 ?_
      have hB := Option.some.inj hB
      subst hB
      exact W.iret hx hb hr (fun t ht hW => ⟨⟨_, (), rfl, rfl, by rw [ht]; exact hP, va_K.moved hW.alike hK, hD⟩, hS.F ht⟩) hS.2.2 dX5_termOf_22 hlocks
    · have hB := xin c3 hB
      refine lv_iload_n hx hb dX5_termOf_11 rfl (lv_at hl 3 rfl) ?_
      refine lv_iconst (v := 0) hx hb dX5_termOf_12 (by decide) ?_
      refine lv_iconst (v := 1) hx hb dX5_termOf_13 (by decide) ?_
      obtain ⟨q4, e4, hB⟩ := xbd hB
      have hPc := hP.sub (ws' := []) [] rfl
      have hDc := hD.sub (ws' := []) [] (by decide) rfl
      refine xcalli (mc := 0) (ms := 0) (rv := q4) (wc := []) (wr := [(a_x, .inr (5, [.ref a_known, .ref a_so, .ref a_made, .ref a_pcl, .ref a_hi, .ref a_tx, .ref a_rd, .ref a_tb, .ref a_o])), (a_so, .inl (y 4, 3, .inr (.inr (.inr (.inr (xO a_s 3)))))), xE a_s (y 0) 120 v_s 0, xE a_s (y 0) 120 v_s 1, xE a_s (y 0) 120 v_s 2, (a_o, .inr (1, [.int f_o_n, .int f_o_many, .int f_o_sets, .ref a_od, .ref a_op, .ref a_oi, .ref a_ov, .ref a_of, .ref a_ol, .ref a_om, .ref a_ow]))]) (w1 := []) (wf := [(a_x, .inr (5, [.ref a_known, .ref a_so, .ref a_made, .ref a_pcl, .ref a_hi, .ref a_tx, .ref a_rd, .ref a_tb, .ref a_o])), (a_so, .inl (y 4, 3, .inr (.inr (.inr (.inr (xO a_s 3)))))), xE a_s (y 0) 120 v_s 0, xE a_s (y 0) 120 v_s 1, xE a_s (y 0) 120 v_s 2, (a_o, .inr (1, [.int f_o_n, .int f_o_many, .int f_o_sets, .ref a_od, .ref a_op, .ref a_oi, .ref a_ov, .ref a_of, .ref a_ol, .ref a_om, .ref a_ow]))]) (va_runS (As := [.int p3, .int (0 : Int32), .int (1 : Int32)]) (rest := []) ⟨hx, hb, hml, hown, hts⟩ (c_X5_isWithin l D y p3 (0 : Int32) (1 : Int32) H.size e4) (va_cwS 3 hts gX5_termOf_X5_isWithin rfl rfl rfl (by decide +kernel) ⟨Nat.le_of_ble_eq_true rfl, Nat.le_of_ble_eq_true rfl⟩) ⟨xblind, xprev hPc hK hDc⟩ rfl rfl hl.1 rfl (lv_room (Nat.le_of_ble_eq_true rfl)) dX5_termOf_14 ⟨Nat.le_of_ble_eq_true rfl, Nat.le_of_ble_eq_true rfl⟩) hP hD hS hA [] [0, 1, 2, 3, 4, 5] [0, 1, 2, 3, 4, 5] rfl rfl (by decide) (by decide) rfl (by decide) (fun H locs hP hD hS => ?_)
      refine lv_if_ne (tgt := 23) hx hb dX5_termOf_17 (by decide) (fun c5 => ?_) (fun c5 => ?_)
      · have hB := xin c5 hB
        refine lv_iconst (v := 0) hx hb dX5_termOf_23 (by decide) ?_
        refine lv_istore (lv' := [(4, .int (0 : Int32)), (0, .ref a_x), (1, .int p1), (2, .int p2), (3, .int p3)]) hx hb dX5_termOf_24 hl (by decide) rfl (fun ls hl => ?_)
        refine lv_iconst (v := 0) hx hb dX5_termOf_26 (by decide) ?_
        refine lv_istore (lv' := [(5, .int (0 : Int32)), (4, .int (0 : Int32)), (0, .ref a_x), (1, .int p1), (2, .int p2), (3, .int p3)]) hx hb dX5_termOf_27 hl (by decide) rfl (fun ls hl => ?_)
        exact B_X5_termOf_29 (p1 := p1) (p2 := p2) (p3 := p3) C0 xF (0 : Int32) (0 : Int32) H locs ls hP hD hS (lv_sub hl [2, 3, 4, 5, 1, 0] rfl) hB
      · have hB := xip c5 hB
        refine lv_ldc (v := -10000001) hx hb hown (hts _ kX5_termOf_c67) dX5_termOf_20 ?_
        have hB := Option.some.inj hB
        subst hB
        exact W.iret hx hb hr (fun t ht hW => ⟨⟨_, (), rfl, rfl, by rw [ht]; exact hP, va_K.moved hW.alike hK, hD⟩, hS.F ht⟩) hS.2.2 dX5_termOf_22 hlocks
set_option maxHeartbeats 4000000 in
set_option maxRecDepth 100000 in
theorem c_X5_termOf (l : Launch) (D : va_G) (y : Nat → ClassId) (a_x : Nat) (a_known : Nat) (a_so : Nat) (a_made : Nat) (a_pcl : Nat) (a_hi : Nat) (a_tx : Nat) (a_rd : Nat) (a_tb : Nat) (a_o : Nat) (a_s : Nat → Nat) (a_od : Nat) (a_op : Nat) (a_oi : Nat) (a_ov : Nat) (a_of : Nat) (a_ol : Nat) (a_om : Nat) (a_ow : Nat)  (v_s : Nat → Nat → Int32) (f_o_n : Int32) (f_o_many : Int32) (f_o_sets : Int32) (p1 : Int32) (p2 : Int32) (p3 : Int32) (sz : Nat) {R : Int32} (hF : F_X5_termOf v_s f_o_many p1 p2 p3 = some R) : Met l yX5_termOf wsX5_termOf ({ frames := 2, cells := 0, slots := 0, locals := 42 } : Room) (xPre D y sz [.ref a_x, .int p1, .int p2, .int p3] [(a_x, .inr (5, [.ref a_known, .ref a_so, .ref a_made, .ref a_pcl, .ref a_hi, .ref a_tx, .ref a_rd, .ref a_tb, .ref a_o])), (a_so, .inl (y 4, 3, .inr (.inr (.inr (.inr (xO a_s 3)))))), xE a_s (y 0) 120 v_s 0, xE a_s (y 0) 120 v_s 1, xE a_s (y 0) 120 v_s 2, (a_o, .inr (1, [.int f_o_n, .int f_o_many, .int f_o_sets, .ref a_od, .ref a_op, .ref a_oi, .ref a_ov, .ref a_of, .ref a_ol, .ref a_om, .ref a_ow]))]) (va_Qi (fun (r : Int32) (_ : Unit) => r = R) (xB D y (va_A [(a_x, .inr (5, [.ref a_known, .ref a_so, .ref a_made, .ref a_pcl, .ref a_hi, .ref a_tx, .ref a_rd, .ref a_tb, .ref a_o])), (a_so, .inl (y 4, 3, .inr (.inr (.inr (.inr (xO a_s 3)))))), xE a_s (y 0) 120 v_s 0, xE a_s (y 0) 120 v_s 1, xE a_s (y 0) 120 v_s 2, (a_o, .inr (1, [.int f_o_n, .int f_o_many, .int f_o_sets, .ref a_od, .ref a_op, .ref a_oi, .ref a_ov, .ref a_of, .ref a_ol, .ref a_om, .ref a_ow]))] sz) [(a_x, .inr (5, [.ref a_known, .ref a_so, .ref a_made, .ref a_pcl, .ref a_hi, .ref a_tx, .ref a_rd, .ref a_tb, .ref a_o])), (a_so, .inl (y 4, 3, .inr (.inr (.inr (.inr (xO a_s 3)))))), xE a_s (y 0) 120 v_s 0, xE a_s (y 0) 120 v_s 1, xE a_s (y 0) 120 v_s 2, (a_o, .inr (1, [.int f_o_n, .int f_o_many, .int f_o_sets, .ref a_od, .ref a_op, .ref a_oi, .ref a_ov, .ref a_of, .ref a_ol, .ref a_om, .ref a_ow]))]) (va_A [(a_x, .inr (5, [.ref a_known, .ref a_so, .ref a_made, .ref a_pcl, .ref a_hi, .ref a_tx, .ref a_rd, .ref a_tb, .ref a_o])), (a_so, .inl (y 4, 3, .inr (.inr (.inr (.inr (xO a_s 3)))))), xE a_s (y 0) 120 v_s 0, xE a_s (y 0) 120 v_s 1, xE a_s (y 0) 120 v_s 2, (a_o, .inr (1, [.int f_o_n, .int f_o_many, .int f_o_sets, .ref a_od, .ref a_op, .ref a_oi, .ref a_ov, .ref a_of, .ref a_ol, .ref a_om, .ref a_ow]))] sz)) 0 0 (va_A [(a_x, .inr (5, [.ref a_known, .ref a_so, .ref a_made, .ref a_pcl, .ref a_hi, .ref a_tx, .ref a_rd, .ref a_tb, .ref a_o])), (a_so, .inl (y 4, 3, .inr (.inr (.inr (.inr (xO a_s 3)))))), xE a_s (y 0) 120 v_s 0, xE a_s (y 0) 120 v_s 1, xE a_s (y 0) 120 v_s 2, (a_o, .inr (1, [.int f_o_n, .int f_o_many, .int f_o_sets, .ref a_od, .ref a_op, .ref a_oi, .ref a_ov, .ref a_of, .ref a_ol, .ref a_om, .ref a_ow]))] sz) := by
  refine Met.ofW (cc := cX5_termOf) (maxL := 6) (ret := (some .int)) (by decide) rfl ?_
  intro p e s m args below meth c s₁ B hml hv
  obtain ⟨rfl, hsz, hP, hK, hD0⟩ := hv
  subst hsz
  have hD := hD0.self (sz := s.heap.size)
  have C : xC p s m [.ref a_x, .int p1, .int p2, .int p3].toArray meth c (va_A [(a_x, .inr (5, [.ref a_known, .ref a_so, .ref a_made, .ref a_pcl, .ref a_hi, .ref a_tx, .ref a_rd, .ref a_tb, .ref a_o])), (a_so, .inl (y 4, 3, .inr (.inr (.inr (.inr (xO a_s 3)))))), xE a_s (y 0) 120 v_s 0, xE a_s (y 0) 120 v_s 1, xE a_s (y 0) 120 v_s 2, (a_o, .inr (1, [.int f_o_n, .int f_o_many, .int f_o_sets, .ref a_od, .ref a_op, .ref a_oi, .ref a_ov, .ref a_of, .ref a_ol, .ref a_om, .ref a_ow]))] s.heap.size) cX5_termOf RX5 wsX5_termOf 6 (some .int) D y := ⟨B.exec, B.bytes, hml, findClass_of_methodNamed B.named, atoms_spec (ws := wsX5_termOf) B.pre, B.returns, B.notSynchronized, hK, fun q h => Or.inr h⟩
  have hl := lv_entry ([.ref a_x, .int p1, .int p2, .int p3]) (n := 6) (Nat.le_of_ble_eq_true rfl)
  rw [lg_entry_eq]
  generalize (lg_sl ([.ref a_x, .int p1, .int p2, .int p3]) ++ List.replicate (6 - (lg_sl ([.ref a_x, .int p1, .int p2, .int p3])).length) Slot.unset).toArray = ls at hl ⊢
  have hl : lv_has ls 6 [(0, .ref a_x), (1, .int p1), (2, .int p2), (3, .int p3)] := hl
  exact B_X5_termOf_0 (p1 := p1) (p2 := p2) (p3 := p3) C  s.heap [] ls hP hD va_S.rf hl hF
theorem kX5_factorsAddedUp_f59 : Cond.fieldLink RX5 59 "DescentShuffles" "orders" "LDescentShuffles$Orders;" ∈ wsX5_factorsAddedUp := by decide +kernel
theorem kX5_factorsAddedUp_wX5 : ∀ w ∈ u_ws RX5 TX5 9, w ∈ wsX5_factorsAddedUp := by decide +kernel
theorem kX5_factorsAddedUp_f76 : Cond.fieldLink RX5 76 "DescentShuffles$Orders" "many" "I" ∈ wsX5_factorsAddedUp := by decide +kernel
theorem kX5_factorsAddedUp_wX1 : ∀ w ∈ u_ws RX1 TX1 11, w ∈ wsX5_factorsAddedUp := by decide +kernel
theorem kX5_factorsAddedUp_f17 : Cond.fieldLink RX5 17 "DescentShuffles" "sums" "[[I" ∈ wsX5_factorsAddedUp := by decide +kernel
def S_X5_factorsAddedUp_4 (p : Program) (l : Launch) (e : Env) (s : State) (m : MethodId) (args : Array Value) (below : List Frame) (meth : Method) (c : Code) (A : Nat → Prop) (D : va_G) (y : Nat → ClassId) (a_x : Nat) (a_known : Nat) (a_so : Nat) (a_made : Nat) (a_pcl : Nat) (a_hi : Nat) (a_tx : Nat) (a_rd : Nat) (a_tb : Nat) (a_o : Nat) (a_s : Nat → Nat) (a_od : Nat) (a_op : Nat) (a_oi : Nat) (a_ov : Nat) (a_of : Nat) (a_ol : Nat) (a_om : Nat) (a_ow : Nat) (v_s : Nat → Nat → Int32) (f_o_n : Int32) (f_o_many : Int32) (f_o_sets : Int32) (p1 : Int32) (R : Int32) (κ : Int32 → Int32 → Option (Int32)) : Prop := ∀ (x2 : Int32) (x3 : Int32) (H : Heap) (locs : List Loc) (ls : Array Slot), va_P D vwCl [(a_x, .inr (5, [.ref a_known, .ref a_so, .ref a_made, .ref a_pcl, .ref a_hi, .ref a_tx, .ref a_rd, .ref a_tb, .ref a_o])), (a_so, .inl (y 4, 3, .inr (.inr (.inr (.inr (xO a_s 3)))))), xE a_s (y 0) 120 v_s 0, xE a_s (y 0) 120 v_s 1, xE a_s (y 0) 120 v_s 2, (a_o, .inr (1, [.int f_o_n, .int f_o_many, .int f_o_sets, .ref a_od, .ref a_op, .ref a_oi, .ref a_ov, .ref a_of, .ref a_ol, .ref a_om, .ref a_ow]))] H → va_D A [(a_x, .inr (5, [.ref a_known, .ref a_so, .ref a_made, .ref a_pcl, .ref a_hi, .ref a_tx, .ref a_rd, .ref a_tb, .ref a_o])), (a_so, .inl (y 4, 3, .inr (.inr (.inr (.inr (xO a_s 3)))))), xE a_s (y 0) 120 v_s 0, xE a_s (y 0) 120 v_s 1, xE a_s (y 0) 120 v_s 2, (a_o, .inr (1, [.int f_o_n, .int f_o_many, .int f_o_sets, .ref a_od, .ref a_op, .ref a_oi, .ref a_ov, .ref a_of, .ref a_ol, .ref a_om, .ref a_ow]))] → va_S A s.heap H locs → lv_has ls 4 [(0, .ref a_x), (1, .int p1), (2, .int x2), (3, .int x3)] → κ x2 x3 = some R → W p l e ({ frames := 0, cells := 0, slots := 0, locals := 0 } : Room) s m args below meth c H locs 0 0 (MQ below (va_Qi (fun (r : Int32) (_ : Unit) => r = R) (xB D y A [(a_x, .inr (5, [.ref a_known, .ref a_so, .ref a_made, .ref a_pcl, .ref a_hi, .ref a_tx, .ref a_rd, .ref a_tb, .ref a_o])), (a_so, .inl (y 4, 3, .inr (.inr (.inr (.inr (xO a_s 3)))))), xE a_s (y 0) 120 v_s 0, xE a_s (y 0) 120 v_s 1, xE a_s (y 0) 120 v_s 2, (a_o, .inr (1, [.int f_o_n, .int f_o_many, .int f_o_sets, .ref a_od, .ref a_op, .ref a_oi, .ref a_ov, .ref a_of, .ref a_ol, .ref a_om, .ref a_ow]))]) A) args s 0 0 A) (F0 m 4 ls [])
def S_X5_factorsAddedUp_0 (p : Program) (l : Launch) (e : Env) (s : State) (m : MethodId) (args : Array Value) (below : List Frame) (meth : Method) (c : Code) (A : Nat → Prop) (D : va_G) (y : Nat → ClassId) (a_x : Nat) (a_known : Nat) (a_so : Nat) (a_made : Nat) (a_pcl : Nat) (a_hi : Nat) (a_tx : Nat) (a_rd : Nat) (a_tb : Nat) (a_o : Nat) (a_s : Nat → Nat) (a_od : Nat) (a_op : Nat) (a_oi : Nat) (a_ov : Nat) (a_of : Nat) (a_ol : Nat) (a_om : Nat) (a_ow : Nat) (v_s : Nat → Nat → Int32) (f_o_n : Int32) (f_o_many : Int32) (f_o_sets : Int32) (p1 : Int32) (R : Int32) (κ : Option (Int32)) : Prop := ∀ (H : Heap) (locs : List Loc) (ls : Array Slot), va_P D vwCl [(a_x, .inr (5, [.ref a_known, .ref a_so, .ref a_made, .ref a_pcl, .ref a_hi, .ref a_tx, .ref a_rd, .ref a_tb, .ref a_o])), (a_so, .inl (y 4, 3, .inr (.inr (.inr (.inr (xO a_s 3)))))), xE a_s (y 0) 120 v_s 0, xE a_s (y 0) 120 v_s 1, xE a_s (y 0) 120 v_s 2, (a_o, .inr (1, [.int f_o_n, .int f_o_many, .int f_o_sets, .ref a_od, .ref a_op, .ref a_oi, .ref a_ov, .ref a_of, .ref a_ol, .ref a_om, .ref a_ow]))] H → va_D A [(a_x, .inr (5, [.ref a_known, .ref a_so, .ref a_made, .ref a_pcl, .ref a_hi, .ref a_tx, .ref a_rd, .ref a_tb, .ref a_o])), (a_so, .inl (y 4, 3, .inr (.inr (.inr (.inr (xO a_s 3)))))), xE a_s (y 0) 120 v_s 0, xE a_s (y 0) 120 v_s 1, xE a_s (y 0) 120 v_s 2, (a_o, .inr (1, [.int f_o_n, .int f_o_many, .int f_o_sets, .ref a_od, .ref a_op, .ref a_oi, .ref a_ov, .ref a_of, .ref a_ol, .ref a_om, .ref a_ow]))] → va_S A s.heap H locs → lv_has ls 4 [(0, .ref a_x), (1, .int p1)] → κ = some R → W p l e ({ frames := 0, cells := 0, slots := 0, locals := 0 } : Room) s m args below meth c H locs 0 0 (MQ below (va_Qi (fun (r : Int32) (_ : Unit) => r = R) (xB D y A [(a_x, .inr (5, [.ref a_known, .ref a_so, .ref a_made, .ref a_pcl, .ref a_hi, .ref a_tx, .ref a_rd, .ref a_tb, .ref a_o])), (a_so, .inl (y 4, 3, .inr (.inr (.inr (.inr (xO a_s 3)))))), xE a_s (y 0) 120 v_s 0, xE a_s (y 0) 120 v_s 1, xE a_s (y 0) 120 v_s 2, (a_o, .inr (1, [.int f_o_n, .int f_o_many, .int f_o_sets, .ref a_od, .ref a_op, .ref a_oi, .ref a_ov, .ref a_of, .ref a_ol, .ref a_om, .ref a_ow]))]) A) args s 0 0 A) (F0 m 0 ls [])
set_option maxHeartbeats 4000000 in
set_option maxRecDepth 100000 in
theorem B_X5_factorsAddedUp_4 {p : Program} {l : Launch} {e : Env} {s : State} {m : MethodId} {args : Array Value} {below : List Frame} {meth : Method} {c : Code} {A : Nat → Prop} {D : va_G} {y : Nat → ClassId} {a_x : Nat} {a_known : Nat} {a_so : Nat} {a_made : Nat} {a_pcl : Nat} {a_hi : Nat} {a_tx : Nat} {a_rd : Nat} {a_tb : Nat} {a_o : Nat} {a_s : Nat → Nat} {a_od : Nat} {a_op : Nat} {a_oi : Nat} {a_ov : Nat} {a_of : Nat} {a_ol : Nat} {a_om : Nat} {a_ow : Nat} {v_s : Nat → Nat → Int32} {f_o_n : Int32} {f_o_many : Int32} {f_o_sets : Int32} {p1 : Int32} {R : Int32} (C : xC p s m args meth c A cX5_factorsAddedUp RX5 wsX5_factorsAddedUp 4 (some .int) D y)  : ∀ f : Nat, S_X5_factorsAddedUp_4 p l e s m args below meth c A D y a_x a_known a_so a_made a_pcl a_hi a_tx a_rd a_tb a_o a_s a_od a_op a_oi a_ov a_of a_ol a_om a_ow v_s f_o_n f_o_many f_o_sets p1 R (F_X5_factorsAddedUp_4 v_s f_o_many p1  f) := by
  have C0 := C
  obtain ⟨hx, hb, hml, hown, hts, hr, hlocks, hK, hA⟩ := C
  intro f
  induction f with
  | zero =>
    intro x2 x3 H locs ls hP hD hS hl hB
    rw [Z_X5_factorsAddedUp_4] at hB
    cases hB
  | succ f ih =>
    intro x2 x3 H locs ls hP hD hS hl hB
    rw [E_X5_factorsAddedUp_4] at hB
    refine lv_iload_n hx hb dX5_factorsAddedUp_4 rfl (lv_at hl 3 rfl) ?_
    refine lv_aload_n hx hb dX5_factorsAddedUp_5 rfl (lv_at hl 0 rfl) ?_
    refine va_get (D := D) (ci := 5) (v := .ref a_o) (C := RX5) (T := TX5) (N := 9) hx hb hts kX5_factorsAddedUp_wX5 hown hK hP 0 rfl rfl 8 (by decide) (hts _ kX5_factorsAddedUp_f59) (fun _ h9 => h9) rfl dX5_factorsAddedUp_6 ?_
    refine va_get (D := D) (ci := 1) (v := .int f_o_many) (C := RX1) (T := TX1) (N := 11) hx hb hts kX5_factorsAddedUp_wX1 hown hK hP 5 rfl rfl 1 (by decide) (hts _ kX5_factorsAddedUp_f76) (fun _ h9 => h9) rfl dX5_factorsAddedUp_9 ?_
    refine lv_icmp_ge (tgt := 32) hx hb dX5_factorsAddedUp_12 (by decide) (fun c1 => ?_) (fun c1 => ?_)
    · have hB := xip c1 hB
      refine lv_iload_n hx hb dX5_factorsAddedUp_32 rfl (lv_at hl 2 rfl) ?_
      have hB := Option.some.inj hB
      subst hB
      exact W.iret hx hb hr (fun t ht hW => ⟨⟨_, (), rfl, rfl, by rw [ht]; exact hP, va_K.moved hW.alike hK, hD⟩, hS.F ht⟩) hS.2.2 dX5_factorsAddedUp_33 hlocks
    · have hB := xin c1 hB
      refine lv_iload_n hx hb dX5_factorsAddedUp_15 rfl (lv_at hl 2 rfl) ?_
      refine lv_aload_n hx hb dX5_factorsAddedUp_16 rfl (lv_at hl 0 rfl) ?_
      refine va_get (D := D) (ci := 5) (v := .ref a_so) (C := RX5) (T := TX5) (N := 9) hx hb hts kX5_factorsAddedUp_wX5 hown hK hP 0 rfl rfl 1 (by decide) (hts _ kX5_factorsAddedUp_f17) (fun _ h9 => h9) rfl dX5_factorsAddedUp_17 ?_
      refine lv_iload_n hx hb dX5_factorsAddedUp_20 rfl (lv_at hl 1 rfl) ?_
      obtain ⟨g2, hB⟩ := xg_some hB
      refine xaald hx hb hK hP 1 4 rfl rfl g2 dX5_factorsAddedUp_21 ?_
      refine lv_iload_n hx hb dX5_factorsAddedUp_22 rfl (lv_at hl 3 rfl) ?_
      obtain ⟨g3, hB⟩ := xg_some hB
      refine va_iald hx hb hK hP (2 + p1.toNatClampNeg) 0 (xg3 (xE a_s (y 0) 120 v_s) rfl rfl rfl (xlt g2)) rfl g3 dX5_factorsAddedUp_23 ?_
      refine lv_iadd hx hb dX5_factorsAddedUp_24 ?_
      refine lv_istore_n (lv' := [(2, .int (x2 + (v_s p1.toNatClampNeg x3.toNatClampNeg))), (0, .ref a_x), (1, .int p1), (3, .int x3)]) hx hb dX5_factorsAddedUp_25 rfl hl (by decide) rfl (fun ls hl => ?_)
      refine lv_iinc (v := x3 + 1) (lv' := [(3, .int (x3 + 1)), (2, .int (x2 + (v_s p1.toNatClampNeg x3.toNatClampNeg))), (0, .ref a_x), (1, .int p1)]) hx hb dX5_factorsAddedUp_26 hl (k := 3) rfl rfl (by decide) rfl (fun ls hl => ?_)
      refine lv_goto (tgt := 4) hx hb dX5_factorsAddedUp_29 (by decide) ?_
      exact ih (x2 + (v_s p1.toNatClampNeg x3.toNatClampNeg)) (x3 + 1) H locs ls hP hD hS (lv_sub hl [2, 3, 1, 0] rfl) hB
set_option maxHeartbeats 4000000 in
set_option maxRecDepth 100000 in
theorem B_X5_factorsAddedUp_0 {p : Program} {l : Launch} {e : Env} {s : State} {m : MethodId} {args : Array Value} {below : List Frame} {meth : Method} {c : Code} {A : Nat → Prop} {D : va_G} {y : Nat → ClassId} {a_x : Nat} {a_known : Nat} {a_so : Nat} {a_made : Nat} {a_pcl : Nat} {a_hi : Nat} {a_tx : Nat} {a_rd : Nat} {a_tb : Nat} {a_o : Nat} {a_s : Nat → Nat} {a_od : Nat} {a_op : Nat} {a_oi : Nat} {a_ov : Nat} {a_of : Nat} {a_ol : Nat} {a_om : Nat} {a_ow : Nat} {v_s : Nat → Nat → Int32} {f_o_n : Int32} {f_o_many : Int32} {f_o_sets : Int32} {p1 : Int32} {R : Int32} (C : xC p s m args meth c A cX5_factorsAddedUp RX5 wsX5_factorsAddedUp 4 (some .int) D y)  : S_X5_factorsAddedUp_0 p l e s m args below meth c A D y a_x a_known a_so a_made a_pcl a_hi a_tx a_rd a_tb a_o a_s a_od a_op a_oi a_ov a_of a_ol a_om a_ow v_s f_o_n f_o_many f_o_sets p1 R (F_X5_factorsAddedUp v_s f_o_many p1 ) := by
  have C0 := C
  obtain ⟨hx, hb, hml, hown, hts, hr, hlocks, hK, hA⟩ := C
  intro H locs ls hP hD hS hl hB
  unfold F_X5_factorsAddedUp at hB
  refine lv_iconst (v := 0) hx hb dX5_factorsAddedUp_0 (by decide) ?_
  refine lv_istore_n (lv' := [(2, .int (0 : Int32)), (0, .ref a_x), (1, .int p1)]) hx hb dX5_factorsAddedUp_1 rfl hl (by decide) rfl (fun ls hl => ?_)
  refine lv_iconst (v := 0) hx hb dX5_factorsAddedUp_2 (by decide) ?_
  refine lv_istore_n (lv' := [(3, .int (0 : Int32)), (2, .int (0 : Int32)), (0, .ref a_x), (1, .int p1)]) hx hb dX5_factorsAddedUp_3 rfl hl (by decide) rfl (fun ls hl => ?_)
  exact B_X5_factorsAddedUp_4 (p1 := p1) C0 xF (0 : Int32) (0 : Int32) H locs ls hP hD hS (lv_sub hl [2, 3, 1, 0] rfl) hB
set_option maxHeartbeats 4000000 in
set_option maxRecDepth 100000 in
theorem c_X5_factorsAddedUp (l : Launch) (D : va_G) (y : Nat → ClassId) (a_x : Nat) (a_known : Nat) (a_so : Nat) (a_made : Nat) (a_pcl : Nat) (a_hi : Nat) (a_tx : Nat) (a_rd : Nat) (a_tb : Nat) (a_o : Nat) (a_s : Nat → Nat) (a_od : Nat) (a_op : Nat) (a_oi : Nat) (a_ov : Nat) (a_of : Nat) (a_ol : Nat) (a_om : Nat) (a_ow : Nat)  (v_s : Nat → Nat → Int32) (f_o_n : Int32) (f_o_many : Int32) (f_o_sets : Int32) (p1 : Int32) (sz : Nat) {R : Int32} (hF : F_X5_factorsAddedUp v_s f_o_many p1 = some R) : Met l yX5_factorsAddedUp wsX5_factorsAddedUp ({ frames := 0, cells := 0, slots := 0, locals := 0 } : Room) (xPre D y sz [.ref a_x, .int p1] [(a_x, .inr (5, [.ref a_known, .ref a_so, .ref a_made, .ref a_pcl, .ref a_hi, .ref a_tx, .ref a_rd, .ref a_tb, .ref a_o])), (a_so, .inl (y 4, 3, .inr (.inr (.inr (.inr (xO a_s 3)))))), xE a_s (y 0) 120 v_s 0, xE a_s (y 0) 120 v_s 1, xE a_s (y 0) 120 v_s 2, (a_o, .inr (1, [.int f_o_n, .int f_o_many, .int f_o_sets, .ref a_od, .ref a_op, .ref a_oi, .ref a_ov, .ref a_of, .ref a_ol, .ref a_om, .ref a_ow]))]) (va_Qi (fun (r : Int32) (_ : Unit) => r = R) (xB D y (va_A [(a_x, .inr (5, [.ref a_known, .ref a_so, .ref a_made, .ref a_pcl, .ref a_hi, .ref a_tx, .ref a_rd, .ref a_tb, .ref a_o])), (a_so, .inl (y 4, 3, .inr (.inr (.inr (.inr (xO a_s 3)))))), xE a_s (y 0) 120 v_s 0, xE a_s (y 0) 120 v_s 1, xE a_s (y 0) 120 v_s 2, (a_o, .inr (1, [.int f_o_n, .int f_o_many, .int f_o_sets, .ref a_od, .ref a_op, .ref a_oi, .ref a_ov, .ref a_of, .ref a_ol, .ref a_om, .ref a_ow]))] sz) [(a_x, .inr (5, [.ref a_known, .ref a_so, .ref a_made, .ref a_pcl, .ref a_hi, .ref a_tx, .ref a_rd, .ref a_tb, .ref a_o])), (a_so, .inl (y 4, 3, .inr (.inr (.inr (.inr (xO a_s 3)))))), xE a_s (y 0) 120 v_s 0, xE a_s (y 0) 120 v_s 1, xE a_s (y 0) 120 v_s 2, (a_o, .inr (1, [.int f_o_n, .int f_o_many, .int f_o_sets, .ref a_od, .ref a_op, .ref a_oi, .ref a_ov, .ref a_of, .ref a_ol, .ref a_om, .ref a_ow]))]) (va_A [(a_x, .inr (5, [.ref a_known, .ref a_so, .ref a_made, .ref a_pcl, .ref a_hi, .ref a_tx, .ref a_rd, .ref a_tb, .ref a_o])), (a_so, .inl (y 4, 3, .inr (.inr (.inr (.inr (xO a_s 3)))))), xE a_s (y 0) 120 v_s 0, xE a_s (y 0) 120 v_s 1, xE a_s (y 0) 120 v_s 2, (a_o, .inr (1, [.int f_o_n, .int f_o_many, .int f_o_sets, .ref a_od, .ref a_op, .ref a_oi, .ref a_ov, .ref a_of, .ref a_ol, .ref a_om, .ref a_ow]))] sz)) 0 0 (va_A [(a_x, .inr (5, [.ref a_known, .ref a_so, .ref a_made, .ref a_pcl, .ref a_hi, .ref a_tx, .ref a_rd, .ref a_tb, .ref a_o])), (a_so, .inl (y 4, 3, .inr (.inr (.inr (.inr (xO a_s 3)))))), xE a_s (y 0) 120 v_s 0, xE a_s (y 0) 120 v_s 1, xE a_s (y 0) 120 v_s 2, (a_o, .inr (1, [.int f_o_n, .int f_o_many, .int f_o_sets, .ref a_od, .ref a_op, .ref a_oi, .ref a_ov, .ref a_of, .ref a_ol, .ref a_om, .ref a_ow]))] sz) := by
  refine Met.ofW (cc := cX5_factorsAddedUp) (maxL := 4) (ret := (some .int)) (by decide) rfl ?_
  intro p e s m args below meth c s₁ B hml hv
  obtain ⟨rfl, hsz, hP, hK, hD0⟩ := hv
  subst hsz
  have hD := hD0.self (sz := s.heap.size)
  have C : xC p s m [.ref a_x, .int p1].toArray meth c (va_A [(a_x, .inr (5, [.ref a_known, .ref a_so, .ref a_made, .ref a_pcl, .ref a_hi, .ref a_tx, .ref a_rd, .ref a_tb, .ref a_o])), (a_so, .inl (y 4, 3, .inr (.inr (.inr (.inr (xO a_s 3)))))), xE a_s (y 0) 120 v_s 0, xE a_s (y 0) 120 v_s 1, xE a_s (y 0) 120 v_s 2, (a_o, .inr (1, [.int f_o_n, .int f_o_many, .int f_o_sets, .ref a_od, .ref a_op, .ref a_oi, .ref a_ov, .ref a_of, .ref a_ol, .ref a_om, .ref a_ow]))] s.heap.size) cX5_factorsAddedUp RX5 wsX5_factorsAddedUp 4 (some .int) D y := ⟨B.exec, B.bytes, hml, findClass_of_methodNamed B.named, atoms_spec (ws := wsX5_factorsAddedUp) B.pre, B.returns, B.notSynchronized, hK, fun q h => Or.inr h⟩
  have hl := lv_entry ([.ref a_x, .int p1]) (n := 4) (Nat.le_of_ble_eq_true rfl)
  rw [lg_entry_eq]
  generalize (lg_sl ([.ref a_x, .int p1]) ++ List.replicate (4 - (lg_sl ([.ref a_x, .int p1])).length) Slot.unset).toArray = ls at hl ⊢
  have hl : lv_has ls 4 [(0, .ref a_x), (1, .int p1)] := hl
  exact B_X5_factorsAddedUp_0 (p1 := p1) C  s.heap [] ls hP hD va_S.rf hl hF
theorem kX5_goesByDescents_f59 : Cond.fieldLink RX5 59 "DescentShuffles" "orders" "LDescentShuffles$Orders;" ∈ wsX5_goesByDescents := by decide +kernel
theorem kX5_goesByDescents_wX5 : ∀ w ∈ u_ws RX5 TX5 9, w ∈ wsX5_goesByDescents := by decide +kernel
theorem kX5_goesByDescents_f76 : Cond.fieldLink RX5 76 "DescentShuffles$Orders" "many" "I" ∈ wsX5_goesByDescents := by decide +kernel
theorem kX5_goesByDescents_wX1 : ∀ w ∈ u_ws RX1 TX1 11, w ∈ wsX5_goesByDescents := by decide +kernel
theorem kX5_goesByDescents_f17 : Cond.fieldLink RX5 17 "DescentShuffles" "sums" "[[I" ∈ wsX5_goesByDescents := by decide +kernel
theorem kX5_goesByDescents_f167 : Cond.fieldLink RX5 167 "DescentShuffles$Orders" "firsts" "[I" ∈ wsX5_goesByDescents := by decide +kernel
theorem kX5_goesByDescents_f101 : Cond.fieldLink RX5 101 "DescentShuffles$Orders" "descents" "[I" ∈ wsX5_goesByDescents := by decide +kernel
def S_X5_goesByDescents_2 (p : Program) (l : Launch) (e : Env) (s : State) (m : MethodId) (args : Array Value) (below : List Frame) (meth : Method) (c : Code) (A : Nat → Prop) (D : va_G) (y : Nat → ClassId) (a_x : Nat) (a_known : Nat) (a_so : Nat) (a_made : Nat) (a_pcl : Nat) (a_hi : Nat) (a_tx : Nat) (a_rd : Nat) (a_tb : Nat) (a_o : Nat) (a_s : Nat → Nat) (a_od : Nat) (a_op : Nat) (a_oi : Nat) (a_ov : Nat) (a_of : Nat) (a_ol : Nat) (a_om : Nat) (a_ow : Nat) (lm_o : Nat) (ls_o : Nat) (v_s : Nat → Nat → Int32) (f_o_n : Int32) (f_o_many : Int32) (f_o_sets : Int32) (v_od : Nat → Int32) (v_of : Nat → Int32) (p1 : Int32) (R : Int32) (κ : Int32 → Option (Int32)) : Prop := ∀ (x2 : Int32) (H : Heap) (locs : List Loc) (ls : Array Slot), va_P D vwCl [(a_x, .inr (5, [.ref a_known, .ref a_so, .ref a_made, .ref a_pcl, .ref a_hi, .ref a_tx, .ref a_rd, .ref a_tb, .ref a_o])), (a_so, .inl (y 4, 3, .inr (.inr (.inr (.inr (xO a_s 3)))))), xE a_s (y 0) 120 v_s 0, xE a_s (y 0) 120 v_s 1, xE a_s (y 0) 120 v_s 2, (a_o, .inr (1, [.int f_o_n, .int f_o_many, .int f_o_sets, .ref a_od, .ref a_op, .ref a_oi, .ref a_ov, .ref a_of, .ref a_ol, .ref a_om, .ref a_ow])), (a_od, .inl (y 0, lm_o, .inl v_od)), (a_of, .inl (y 0, ls_o, .inl v_of))] H → va_D A [(a_x, .inr (5, [.ref a_known, .ref a_so, .ref a_made, .ref a_pcl, .ref a_hi, .ref a_tx, .ref a_rd, .ref a_tb, .ref a_o])), (a_so, .inl (y 4, 3, .inr (.inr (.inr (.inr (xO a_s 3)))))), xE a_s (y 0) 120 v_s 0, xE a_s (y 0) 120 v_s 1, xE a_s (y 0) 120 v_s 2, (a_o, .inr (1, [.int f_o_n, .int f_o_many, .int f_o_sets, .ref a_od, .ref a_op, .ref a_oi, .ref a_ov, .ref a_of, .ref a_ol, .ref a_om, .ref a_ow])), (a_od, .inl (y 0, lm_o, .inl v_od)), (a_of, .inl (y 0, ls_o, .inl v_of))] → va_S A s.heap H locs → lv_has ls 3 [(0, .ref a_x), (1, .int p1), (2, .int x2)] → κ x2 = some R → W p l e ({ frames := 0, cells := 0, slots := 0, locals := 0 } : Room) s m args below meth c H locs 0 0 (MQ below (va_Qi (fun (r : Int32) (_ : Unit) => r = R) (xB D y A [(a_x, .inr (5, [.ref a_known, .ref a_so, .ref a_made, .ref a_pcl, .ref a_hi, .ref a_tx, .ref a_rd, .ref a_tb, .ref a_o])), (a_so, .inl (y 4, 3, .inr (.inr (.inr (.inr (xO a_s 3)))))), xE a_s (y 0) 120 v_s 0, xE a_s (y 0) 120 v_s 1, xE a_s (y 0) 120 v_s 2, (a_o, .inr (1, [.int f_o_n, .int f_o_many, .int f_o_sets, .ref a_od, .ref a_op, .ref a_oi, .ref a_ov, .ref a_of, .ref a_ol, .ref a_om, .ref a_ow])), (a_od, .inl (y 0, lm_o, .inl v_od)), (a_of, .inl (y 0, ls_o, .inl v_of))]) A) args s 0 0 A) (F0 m 2 ls [])
def S_X5_goesByDescents_0 (p : Program) (l : Launch) (e : Env) (s : State) (m : MethodId) (args : Array Value) (below : List Frame) (meth : Method) (c : Code) (A : Nat → Prop) (D : va_G) (y : Nat → ClassId) (a_x : Nat) (a_known : Nat) (a_so : Nat) (a_made : Nat) (a_pcl : Nat) (a_hi : Nat) (a_tx : Nat) (a_rd : Nat) (a_tb : Nat) (a_o : Nat) (a_s : Nat → Nat) (a_od : Nat) (a_op : Nat) (a_oi : Nat) (a_ov : Nat) (a_of : Nat) (a_ol : Nat) (a_om : Nat) (a_ow : Nat) (lm_o : Nat) (ls_o : Nat) (v_s : Nat → Nat → Int32) (f_o_n : Int32) (f_o_many : Int32) (f_o_sets : Int32) (v_od : Nat → Int32) (v_of : Nat → Int32) (p1 : Int32) (R : Int32) (κ : Option (Int32)) : Prop := ∀ (H : Heap) (locs : List Loc) (ls : Array Slot), va_P D vwCl [(a_x, .inr (5, [.ref a_known, .ref a_so, .ref a_made, .ref a_pcl, .ref a_hi, .ref a_tx, .ref a_rd, .ref a_tb, .ref a_o])), (a_so, .inl (y 4, 3, .inr (.inr (.inr (.inr (xO a_s 3)))))), xE a_s (y 0) 120 v_s 0, xE a_s (y 0) 120 v_s 1, xE a_s (y 0) 120 v_s 2, (a_o, .inr (1, [.int f_o_n, .int f_o_many, .int f_o_sets, .ref a_od, .ref a_op, .ref a_oi, .ref a_ov, .ref a_of, .ref a_ol, .ref a_om, .ref a_ow])), (a_od, .inl (y 0, lm_o, .inl v_od)), (a_of, .inl (y 0, ls_o, .inl v_of))] H → va_D A [(a_x, .inr (5, [.ref a_known, .ref a_so, .ref a_made, .ref a_pcl, .ref a_hi, .ref a_tx, .ref a_rd, .ref a_tb, .ref a_o])), (a_so, .inl (y 4, 3, .inr (.inr (.inr (.inr (xO a_s 3)))))), xE a_s (y 0) 120 v_s 0, xE a_s (y 0) 120 v_s 1, xE a_s (y 0) 120 v_s 2, (a_o, .inr (1, [.int f_o_n, .int f_o_many, .int f_o_sets, .ref a_od, .ref a_op, .ref a_oi, .ref a_ov, .ref a_of, .ref a_ol, .ref a_om, .ref a_ow])), (a_od, .inl (y 0, lm_o, .inl v_od)), (a_of, .inl (y 0, ls_o, .inl v_of))] → va_S A s.heap H locs → lv_has ls 3 [(0, .ref a_x), (1, .int p1)] → κ = some R → W p l e ({ frames := 0, cells := 0, slots := 0, locals := 0 } : Room) s m args below meth c H locs 0 0 (MQ below (va_Qi (fun (r : Int32) (_ : Unit) => r = R) (xB D y A [(a_x, .inr (5, [.ref a_known, .ref a_so, .ref a_made, .ref a_pcl, .ref a_hi, .ref a_tx, .ref a_rd, .ref a_tb, .ref a_o])), (a_so, .inl (y 4, 3, .inr (.inr (.inr (.inr (xO a_s 3)))))), xE a_s (y 0) 120 v_s 0, xE a_s (y 0) 120 v_s 1, xE a_s (y 0) 120 v_s 2, (a_o, .inr (1, [.int f_o_n, .int f_o_many, .int f_o_sets, .ref a_od, .ref a_op, .ref a_oi, .ref a_ov, .ref a_of, .ref a_ol, .ref a_om, .ref a_ow])), (a_od, .inl (y 0, lm_o, .inl v_od)), (a_of, .inl (y 0, ls_o, .inl v_of))]) A) args s 0 0 A) (F0 m 0 ls [])
set_option maxHeartbeats 4000000 in
set_option maxRecDepth 100000 in
theorem B_X5_goesByDescents_2 {p : Program} {l : Launch} {e : Env} {s : State} {m : MethodId} {args : Array Value} {below : List Frame} {meth : Method} {c : Code} {A : Nat → Prop} {D : va_G} {y : Nat → ClassId} {a_x : Nat} {a_known : Nat} {a_so : Nat} {a_made : Nat} {a_pcl : Nat} {a_hi : Nat} {a_tx : Nat} {a_rd : Nat} {a_tb : Nat} {a_o : Nat} {a_s : Nat → Nat} {a_od : Nat} {a_op : Nat} {a_oi : Nat} {a_ov : Nat} {a_of : Nat} {a_ol : Nat} {a_om : Nat} {a_ow : Nat} {lm_o : Nat} {ls_o : Nat} {v_s : Nat → Nat → Int32} {f_o_n : Int32} {f_o_many : Int32} {f_o_sets : Int32} {v_od : Nat → Int32} {v_of : Nat → Int32} {p1 : Int32} {R : Int32} (C : xC p s m args meth c A cX5_goesByDescents RX5 wsX5_goesByDescents 3 (some .boolean) D y)  : ∀ f : Nat, S_X5_goesByDescents_2 p l e s m args below meth c A D y a_x a_known a_so a_made a_pcl a_hi a_tx a_rd a_tb a_o a_s a_od a_op a_oi a_ov a_of a_ol a_om a_ow lm_o ls_o v_s f_o_n f_o_many f_o_sets v_od v_of p1 R (F_X5_goesByDescents_2 lm_o ls_o v_s f_o_many v_od v_of p1  f) := by
  have C0 := C
  obtain ⟨hx, hb, hml, hown, hts, hr, hlocks, hK, hA⟩ := C
  intro f
  induction f with
  | zero =>
    intro x2 H locs ls hP hD hS hl hB
    rw [Z_X5_goesByDescents_2] at hB
    cases hB
  | succ f ih =>
    intro x2 H locs ls hP hD hS hl hB
    rw [E_X5_goesByDescents_2] at hB
    refine lv_iload_n hx hb dX5_goesByDescents_2 rfl (lv_at hl 2 rfl) ?_
    refine lv_aload_n hx hb dX5_goesByDescents_3 rfl (lv_at hl 0 rfl) ?_
    refine va_get (D := D) (ci := 5) (v := .ref a_o) (C := RX5) (T := TX5) (N := 9) hx hb hts kX5_goesByDescents_wX5 hown hK hP 0 rfl rfl 8 (by decide) (hts _ kX5_goesByDescents_f59) (fun _ h9 => h9) rfl dX5_goesByDescents_4 ?_
    refine va_get (D := D) (ci := 1) (v := .int f_o_many) (C := RX1) (T := TX1) (N := 11) hx hb hts kX5_goesByDescents_wX1 hown hK hP 5 rfl rfl 1 (by decide) (hts _ kX5_goesByDescents_f76) (fun _ h9 => h9) rfl dX5_goesByDescents_7 ?_
    refine lv_icmp_ge (tgt := 56) hx hb dX5_goesByDescents_10 (by decide) (fun c1 => ?_) (fun c1 => ?_)
    · have hB := xip c1 hB
      refine lv_iconst (v := 1) hx hb dX5_goesByDescents_56 (by decide) ?_
      have hB := Option.some.inj hB
      subst hB
      exact W.zret hx hb hr (by decide) (fun t ht hW => ⟨⟨_, (), rfl, rfl, by rw [ht]; exact hP, va_K.moved hW.alike hK, hD⟩, hS.F ht⟩) hS.2.2 dX5_goesByDescents_57 hlocks
    · have hB := xin c1 hB
      refine lv_aload_n hx hb dX5_goesByDescents_13 rfl (lv_at hl 0 rfl) ?_
      refine va_get (D := D) (ci := 5) (v := .ref a_so) (C := RX5) (T := TX5) (N := 9) hx hb hts kX5_goesByDescents_wX5 hown hK hP 0 rfl rfl 1 (by decide) (hts _ kX5_goesByDescents_f17) (fun _ h9 => h9) rfl dX5_goesByDescents_14 ?_
      refine lv_iload_n hx hb dX5_goesByDescents_17 rfl (lv_at hl 1 rfl) ?_
      obtain ⟨g2, hB⟩ := xg_some hB
      refine xaald hx hb hK hP 1 4 rfl rfl g2 dX5_goesByDescents_18 ?_
      refine lv_iload_n hx hb dX5_goesByDescents_19 rfl (lv_at hl 2 rfl) ?_
      obtain ⟨g3, hB⟩ := xg_some hB
      refine va_iald hx hb hK hP (2 + p1.toNatClampNeg) 0 (xg3 (xE a_s (y 0) 120 v_s) rfl rfl rfl (xlt g2)) rfl g3 dX5_goesByDescents_20 ?_
      refine lv_aload_n hx hb dX5_goesByDescents_21 rfl (lv_at hl 0 rfl) ?_
      refine va_get (D := D) (ci := 5) (v := .ref a_so) (C := RX5) (T := TX5) (N := 9) hx hb hts kX5_goesByDescents_wX5 hown hK hP 0 rfl rfl 1 (by decide) (hts _ kX5_goesByDescents_f17) (fun _ h9 => h9) rfl dX5_goesByDescents_22 ?_
      refine lv_iload_n hx hb dX5_goesByDescents_25 rfl (lv_at hl 1 rfl) ?_
      refine xaald hx hb hK hP 1 4 rfl rfl g2 dX5_goesByDescents_26 ?_
      refine lv_aload_n hx hb dX5_goesByDescents_27 rfl (lv_at hl 0 rfl) ?_
      refine va_get (D := D) (ci := 5) (v := .ref a_o) (C := RX5) (T := TX5) (N := 9) hx hb hts kX5_goesByDescents_wX5 hown hK hP 0 rfl rfl 8 (by decide) (hts _ kX5_goesByDescents_f59) (fun _ h9 => h9) rfl dX5_goesByDescents_28 ?_
      refine va_get (D := D) (ci := 1) (v := .ref a_of) (C := RX1) (T := TX1) (N := 11) hx hb hts kX5_goesByDescents_wX1 hown hK hP 5 rfl rfl 7 (by decide) (hts _ kX5_goesByDescents_f167) (fun _ h9 => h9) rfl dX5_goesByDescents_31 ?_
      refine lv_aload_n hx hb dX5_goesByDescents_34 rfl (lv_at hl 0 rfl) ?_
      refine va_get (D := D) (ci := 5) (v := .ref a_o) (C := RX5) (T := TX5) (N := 9) hx hb hts kX5_goesByDescents_wX5 hown hK hP 0 rfl rfl 8 (by decide) (hts _ kX5_goesByDescents_f59) (fun _ h9 => h9) rfl dX5_goesByDescents_35 ?_
      refine va_get (D := D) (ci := 1) (v := .ref a_od) (C := RX1) (T := TX1) (N := 11) hx hb hts kX5_goesByDescents_wX1 hown hK hP 5 rfl rfl 3 (by decide) (hts _ kX5_goesByDescents_f101) (fun _ h9 => h9) rfl dX5_goesByDescents_38 ?_
      refine lv_iload_n hx hb dX5_goesByDescents_41 rfl (lv_at hl 2 rfl) ?_
      obtain ⟨g4, hB⟩ := xg_some hB
      refine va_iald hx hb hK hP 6 0 rfl rfl g4 dX5_goesByDescents_42 ?_
      obtain ⟨g5, hB⟩ := xg_some hB
      refine va_iald hx hb hK hP 7 0 rfl rfl g5 dX5_goesByDescents_43 ?_
      obtain ⟨g6, hB⟩ := xg_some hB
      refine va_iald hx hb hK hP (2 + p1.toNatClampNeg) 0 (xg3 (xE a_s (y 0) 120 v_s) rfl rfl rfl (xlt g2)) rfl g6 dX5_goesByDescents_44 ?_
      refine lv_icmp_eq (tgt := 50) hx hb dX5_goesByDescents_45 (by decide) (fun c7 => ?_) (fun c7 => ?_)
      · have hB := xip c7 hB
        refine lv_iinc (v := x2 + 1) (lv' := [(2, .int (x2 + 1)), (0, .ref a_x), (1, .int p1)]) hx hb dX5_goesByDescents_50 hl (k := 2) rfl rfl (by decide) rfl (fun ls hl => ?_)
        refine lv_goto (tgt := 2) hx hb dX5_goesByDescents_53 (by decide) ?_
        exact ih (x2 + 1) H locs ls hP hD hS (lv_sub hl [1, 2, 0] rfl) hB
      · have hB := xin c7 hB
        refine lv_iconst (v := 0) hx hb dX5_goesByDescents_48 (by decide) ?_
        have hB := Option.some.inj hB
        subst hB
        exact W.zret hx hb hr (by decide) (fun t ht hW => ⟨⟨_, (), rfl, rfl, by rw [ht]; exact hP, va_K.moved hW.alike hK, hD⟩, hS.F ht⟩) hS.2.2 dX5_goesByDescents_49 hlocks
set_option maxHeartbeats 4000000 in
set_option maxRecDepth 100000 in
theorem B_X5_goesByDescents_0 {p : Program} {l : Launch} {e : Env} {s : State} {m : MethodId} {args : Array Value} {below : List Frame} {meth : Method} {c : Code} {A : Nat → Prop} {D : va_G} {y : Nat → ClassId} {a_x : Nat} {a_known : Nat} {a_so : Nat} {a_made : Nat} {a_pcl : Nat} {a_hi : Nat} {a_tx : Nat} {a_rd : Nat} {a_tb : Nat} {a_o : Nat} {a_s : Nat → Nat} {a_od : Nat} {a_op : Nat} {a_oi : Nat} {a_ov : Nat} {a_of : Nat} {a_ol : Nat} {a_om : Nat} {a_ow : Nat} {lm_o : Nat} {ls_o : Nat} {v_s : Nat → Nat → Int32} {f_o_n : Int32} {f_o_many : Int32} {f_o_sets : Int32} {v_od : Nat → Int32} {v_of : Nat → Int32} {p1 : Int32} {R : Int32} (C : xC p s m args meth c A cX5_goesByDescents RX5 wsX5_goesByDescents 3 (some .boolean) D y)  : S_X5_goesByDescents_0 p l e s m args below meth c A D y a_x a_known a_so a_made a_pcl a_hi a_tx a_rd a_tb a_o a_s a_od a_op a_oi a_ov a_of a_ol a_om a_ow lm_o ls_o v_s f_o_n f_o_many f_o_sets v_od v_of p1 R (F_X5_goesByDescents lm_o ls_o v_s f_o_many v_od v_of p1 ) := by
  have C0 := C
  obtain ⟨hx, hb, hml, hown, hts, hr, hlocks, hK, hA⟩ := C
  intro H locs ls hP hD hS hl hB
  unfold F_X5_goesByDescents at hB
  refine lv_iconst (v := 0) hx hb dX5_goesByDescents_0 (by decide) ?_
  refine lv_istore_n (lv' := [(2, .int (0 : Int32)), (0, .ref a_x), (1, .int p1)]) hx hb dX5_goesByDescents_1 rfl hl (by decide) rfl (fun ls hl => ?_)
  exact B_X5_goesByDescents_2 (p1 := p1) C0 xF (0 : Int32) H locs ls hP hD hS (lv_sub hl [1, 2, 0] rfl) hB
set_option maxHeartbeats 4000000 in
set_option maxRecDepth 100000 in
theorem c_X5_goesByDescents (l : Launch) (D : va_G) (y : Nat → ClassId) (a_x : Nat) (a_known : Nat) (a_so : Nat) (a_made : Nat) (a_pcl : Nat) (a_hi : Nat) (a_tx : Nat) (a_rd : Nat) (a_tb : Nat) (a_o : Nat) (a_s : Nat → Nat) (a_od : Nat) (a_op : Nat) (a_oi : Nat) (a_ov : Nat) (a_of : Nat) (a_ol : Nat) (a_om : Nat) (a_ow : Nat) (lm_o : Nat) (ls_o : Nat) (v_s : Nat → Nat → Int32) (f_o_n : Int32) (f_o_many : Int32) (f_o_sets : Int32) (v_od : Nat → Int32) (v_of : Nat → Int32) (p1 : Int32) (sz : Nat) {R : Int32} (hF : F_X5_goesByDescents lm_o ls_o v_s f_o_many v_od v_of p1 = some R) : Met l yX5_goesByDescents wsX5_goesByDescents ({ frames := 0, cells := 0, slots := 0, locals := 0 } : Room) (xPre D y sz [.ref a_x, .int p1] [(a_x, .inr (5, [.ref a_known, .ref a_so, .ref a_made, .ref a_pcl, .ref a_hi, .ref a_tx, .ref a_rd, .ref a_tb, .ref a_o])), (a_so, .inl (y 4, 3, .inr (.inr (.inr (.inr (xO a_s 3)))))), xE a_s (y 0) 120 v_s 0, xE a_s (y 0) 120 v_s 1, xE a_s (y 0) 120 v_s 2, (a_o, .inr (1, [.int f_o_n, .int f_o_many, .int f_o_sets, .ref a_od, .ref a_op, .ref a_oi, .ref a_ov, .ref a_of, .ref a_ol, .ref a_om, .ref a_ow])), (a_od, .inl (y 0, lm_o, .inl v_od)), (a_of, .inl (y 0, ls_o, .inl v_of))]) (va_Qi (fun (r : Int32) (_ : Unit) => r = R) (xB D y (va_A [(a_x, .inr (5, [.ref a_known, .ref a_so, .ref a_made, .ref a_pcl, .ref a_hi, .ref a_tx, .ref a_rd, .ref a_tb, .ref a_o])), (a_so, .inl (y 4, 3, .inr (.inr (.inr (.inr (xO a_s 3)))))), xE a_s (y 0) 120 v_s 0, xE a_s (y 0) 120 v_s 1, xE a_s (y 0) 120 v_s 2, (a_o, .inr (1, [.int f_o_n, .int f_o_many, .int f_o_sets, .ref a_od, .ref a_op, .ref a_oi, .ref a_ov, .ref a_of, .ref a_ol, .ref a_om, .ref a_ow])), (a_od, .inl (y 0, lm_o, .inl v_od)), (a_of, .inl (y 0, ls_o, .inl v_of))] sz) [(a_x, .inr (5, [.ref a_known, .ref a_so, .ref a_made, .ref a_pcl, .ref a_hi, .ref a_tx, .ref a_rd, .ref a_tb, .ref a_o])), (a_so, .inl (y 4, 3, .inr (.inr (.inr (.inr (xO a_s 3)))))), xE a_s (y 0) 120 v_s 0, xE a_s (y 0) 120 v_s 1, xE a_s (y 0) 120 v_s 2, (a_o, .inr (1, [.int f_o_n, .int f_o_many, .int f_o_sets, .ref a_od, .ref a_op, .ref a_oi, .ref a_ov, .ref a_of, .ref a_ol, .ref a_om, .ref a_ow])), (a_od, .inl (y 0, lm_o, .inl v_od)), (a_of, .inl (y 0, ls_o, .inl v_of))]) (va_A [(a_x, .inr (5, [.ref a_known, .ref a_so, .ref a_made, .ref a_pcl, .ref a_hi, .ref a_tx, .ref a_rd, .ref a_tb, .ref a_o])), (a_so, .inl (y 4, 3, .inr (.inr (.inr (.inr (xO a_s 3)))))), xE a_s (y 0) 120 v_s 0, xE a_s (y 0) 120 v_s 1, xE a_s (y 0) 120 v_s 2, (a_o, .inr (1, [.int f_o_n, .int f_o_many, .int f_o_sets, .ref a_od, .ref a_op, .ref a_oi, .ref a_ov, .ref a_of, .ref a_ol, .ref a_om, .ref a_ow])), (a_od, .inl (y 0, lm_o, .inl v_od)), (a_of, .inl (y 0, ls_o, .inl v_of))] sz)) 0 0 (va_A [(a_x, .inr (5, [.ref a_known, .ref a_so, .ref a_made, .ref a_pcl, .ref a_hi, .ref a_tx, .ref a_rd, .ref a_tb, .ref a_o])), (a_so, .inl (y 4, 3, .inr (.inr (.inr (.inr (xO a_s 3)))))), xE a_s (y 0) 120 v_s 0, xE a_s (y 0) 120 v_s 1, xE a_s (y 0) 120 v_s 2, (a_o, .inr (1, [.int f_o_n, .int f_o_many, .int f_o_sets, .ref a_od, .ref a_op, .ref a_oi, .ref a_ov, .ref a_of, .ref a_ol, .ref a_om, .ref a_ow])), (a_od, .inl (y 0, lm_o, .inl v_od)), (a_of, .inl (y 0, ls_o, .inl v_of))] sz) := by
  refine Met.ofW (cc := cX5_goesByDescents) (maxL := 3) (ret := (some .boolean)) (by decide) rfl ?_
  intro p e s m args below meth c s₁ B hml hv
  obtain ⟨rfl, hsz, hP, hK, hD0⟩ := hv
  subst hsz
  have hD := hD0.self (sz := s.heap.size)
  have C : xC p s m [.ref a_x, .int p1].toArray meth c (va_A [(a_x, .inr (5, [.ref a_known, .ref a_so, .ref a_made, .ref a_pcl, .ref a_hi, .ref a_tx, .ref a_rd, .ref a_tb, .ref a_o])), (a_so, .inl (y 4, 3, .inr (.inr (.inr (.inr (xO a_s 3)))))), xE a_s (y 0) 120 v_s 0, xE a_s (y 0) 120 v_s 1, xE a_s (y 0) 120 v_s 2, (a_o, .inr (1, [.int f_o_n, .int f_o_many, .int f_o_sets, .ref a_od, .ref a_op, .ref a_oi, .ref a_ov, .ref a_of, .ref a_ol, .ref a_om, .ref a_ow])), (a_od, .inl (y 0, lm_o, .inl v_od)), (a_of, .inl (y 0, ls_o, .inl v_of))] s.heap.size) cX5_goesByDescents RX5 wsX5_goesByDescents 3 (some .boolean) D y := ⟨B.exec, B.bytes, hml, findClass_of_methodNamed B.named, atoms_spec (ws := wsX5_goesByDescents) B.pre, B.returns, B.notSynchronized, hK, fun q h => Or.inr h⟩
  have hl := lv_entry ([.ref a_x, .int p1]) (n := 3) (Nat.le_of_ble_eq_true rfl)
  rw [lg_entry_eq]
  generalize (lg_sl ([.ref a_x, .int p1]) ++ List.replicate (3 - (lg_sl ([.ref a_x, .int p1])).length) Slot.unset).toArray = ls at hl ⊢
  have hl : lv_has ls 3 [(0, .ref a_x), (1, .int p1)] := hl
  exact B_X5_goesByDescents_0 (p1 := p1) C  s.heap [] ls hP hD va_S.rf hl hF
theorem kX5_greatestIn_f17 : Cond.fieldLink RX5 17 "DescentShuffles" "sums" "[[I" ∈ wsX5_greatestIn := by decide +kernel
theorem kX5_greatestIn_wX5 : ∀ w ∈ u_ws RX5 TX5 9, w ∈ wsX5_greatestIn := by decide +kernel
theorem kX5_greatestIn_f59 : Cond.fieldLink RX5 59 "DescentShuffles" "orders" "LDescentShuffles$Orders;" ∈ wsX5_greatestIn := by decide +kernel
theorem kX5_greatestIn_f76 : Cond.fieldLink RX5 76 "DescentShuffles$Orders" "many" "I" ∈ wsX5_greatestIn := by decide +kernel
theorem kX5_greatestIn_wX1 : ∀ w ∈ u_ws RX1 TX1 11, w ∈ wsX5_greatestIn := by decide +kernel
theorem kX5_greatestIn_l218 : Cond.methodLink RX5 218 Lib.Math.max.name ∈ wsX5_greatestIn := by decide +kernel
theorem kX5_greatestIn_smax : Cond.static Lib.Math.max.name ∈ wsX5_greatestIn := by decide +kernel
theorem kX5_greatestIn_iMath : Cond.initialized "java/lang/Math" ∈ wsX5_greatestIn := by decide +kernel
theorem kX5_greatestIn_omax : Cond.code Lib.Math.max.name Lib.Math.max.code 2 (some .int) ∈ wsX5_greatestIn := by decide +kernel
def S_X5_greatestIn_11 (p : Program) (l : Launch) (e : Env) (s : State) (m : MethodId) (args : Array Value) (below : List Frame) (meth : Method) (c : Code) (A : Nat → Prop) (D : va_G) (y : Nat → ClassId) (a_x : Nat) (a_known : Nat) (a_so : Nat) (a_made : Nat) (a_pcl : Nat) (a_hi : Nat) (a_tx : Nat) (a_rd : Nat) (a_tb : Nat) (a_o : Nat) (a_s : Nat → Nat) (a_od : Nat) (a_op : Nat) (a_oi : Nat) (a_ov : Nat) (a_of : Nat) (a_ol : Nat) (a_om : Nat) (a_ow : Nat) (v_s : Nat → Nat → Int32) (f_o_n : Int32) (f_o_many : Int32) (f_o_sets : Int32) (p1 : Int32) (R : Int32) (κ : Int32 → Int32 → Option (Int32)) : Prop := ∀ (x2 : Int32) (x3 : Int32) (H : Heap) (locs : List Loc) (ls : Array Slot), va_P D vwCl [(a_x, .inr (5, [.ref a_known, .ref a_so, .ref a_made, .ref a_pcl, .ref a_hi, .ref a_tx, .ref a_rd, .ref a_tb, .ref a_o])), (a_so, .inl (y 4, 3, .inr (.inr (.inr (.inr (xO a_s 3)))))), xE a_s (y 0) 120 v_s 0, xE a_s (y 0) 120 v_s 1, xE a_s (y 0) 120 v_s 2, (a_o, .inr (1, [.int f_o_n, .int f_o_many, .int f_o_sets, .ref a_od, .ref a_op, .ref a_oi, .ref a_ov, .ref a_of, .ref a_ol, .ref a_om, .ref a_ow]))] H → va_D A [(a_x, .inr (5, [.ref a_known, .ref a_so, .ref a_made, .ref a_pcl, .ref a_hi, .ref a_tx, .ref a_rd, .ref a_tb, .ref a_o])), (a_so, .inl (y 4, 3, .inr (.inr (.inr (.inr (xO a_s 3)))))), xE a_s (y 0) 120 v_s 0, xE a_s (y 0) 120 v_s 1, xE a_s (y 0) 120 v_s 2, (a_o, .inr (1, [.int f_o_n, .int f_o_many, .int f_o_sets, .ref a_od, .ref a_op, .ref a_oi, .ref a_ov, .ref a_of, .ref a_ol, .ref a_om, .ref a_ow]))] → va_S A s.heap H locs → lv_has ls 4 [(0, .ref a_x), (1, .int p1), (2, .int x2), (3, .int x3)] → κ x2 x3 = some R → W p l e ({ frames := 1, cells := 0, slots := 0, locals := 21 } : Room) s m args below meth c H locs 0 0 (MQ below (va_Qi (fun (r : Int32) (_ : Unit) => r = R) (xB D y A [(a_x, .inr (5, [.ref a_known, .ref a_so, .ref a_made, .ref a_pcl, .ref a_hi, .ref a_tx, .ref a_rd, .ref a_tb, .ref a_o])), (a_so, .inl (y 4, 3, .inr (.inr (.inr (.inr (xO a_s 3)))))), xE a_s (y 0) 120 v_s 0, xE a_s (y 0) 120 v_s 1, xE a_s (y 0) 120 v_s 2, (a_o, .inr (1, [.int f_o_n, .int f_o_many, .int f_o_sets, .ref a_od, .ref a_op, .ref a_oi, .ref a_ov, .ref a_of, .ref a_ol, .ref a_om, .ref a_ow]))]) A) args s 0 0 A) (F0 m 11 ls [])
def S_X5_greatestIn_0 (p : Program) (l : Launch) (e : Env) (s : State) (m : MethodId) (args : Array Value) (below : List Frame) (meth : Method) (c : Code) (A : Nat → Prop) (D : va_G) (y : Nat → ClassId) (a_x : Nat) (a_known : Nat) (a_so : Nat) (a_made : Nat) (a_pcl : Nat) (a_hi : Nat) (a_tx : Nat) (a_rd : Nat) (a_tb : Nat) (a_o : Nat) (a_s : Nat → Nat) (a_od : Nat) (a_op : Nat) (a_oi : Nat) (a_ov : Nat) (a_of : Nat) (a_ol : Nat) (a_om : Nat) (a_ow : Nat) (v_s : Nat → Nat → Int32) (f_o_n : Int32) (f_o_many : Int32) (f_o_sets : Int32) (p1 : Int32) (R : Int32) (κ : Option (Int32)) : Prop := ∀ (H : Heap) (locs : List Loc) (ls : Array Slot), va_P D vwCl [(a_x, .inr (5, [.ref a_known, .ref a_so, .ref a_made, .ref a_pcl, .ref a_hi, .ref a_tx, .ref a_rd, .ref a_tb, .ref a_o])), (a_so, .inl (y 4, 3, .inr (.inr (.inr (.inr (xO a_s 3)))))), xE a_s (y 0) 120 v_s 0, xE a_s (y 0) 120 v_s 1, xE a_s (y 0) 120 v_s 2, (a_o, .inr (1, [.int f_o_n, .int f_o_many, .int f_o_sets, .ref a_od, .ref a_op, .ref a_oi, .ref a_ov, .ref a_of, .ref a_ol, .ref a_om, .ref a_ow]))] H → va_D A [(a_x, .inr (5, [.ref a_known, .ref a_so, .ref a_made, .ref a_pcl, .ref a_hi, .ref a_tx, .ref a_rd, .ref a_tb, .ref a_o])), (a_so, .inl (y 4, 3, .inr (.inr (.inr (.inr (xO a_s 3)))))), xE a_s (y 0) 120 v_s 0, xE a_s (y 0) 120 v_s 1, xE a_s (y 0) 120 v_s 2, (a_o, .inr (1, [.int f_o_n, .int f_o_many, .int f_o_sets, .ref a_od, .ref a_op, .ref a_oi, .ref a_ov, .ref a_of, .ref a_ol, .ref a_om, .ref a_ow]))] → va_S A s.heap H locs → lv_has ls 4 [(0, .ref a_x), (1, .int p1)] → κ = some R → W p l e ({ frames := 1, cells := 0, slots := 0, locals := 21 } : Room) s m args below meth c H locs 0 0 (MQ below (va_Qi (fun (r : Int32) (_ : Unit) => r = R) (xB D y A [(a_x, .inr (5, [.ref a_known, .ref a_so, .ref a_made, .ref a_pcl, .ref a_hi, .ref a_tx, .ref a_rd, .ref a_tb, .ref a_o])), (a_so, .inl (y 4, 3, .inr (.inr (.inr (.inr (xO a_s 3)))))), xE a_s (y 0) 120 v_s 0, xE a_s (y 0) 120 v_s 1, xE a_s (y 0) 120 v_s 2, (a_o, .inr (1, [.int f_o_n, .int f_o_many, .int f_o_sets, .ref a_od, .ref a_op, .ref a_oi, .ref a_ov, .ref a_of, .ref a_ol, .ref a_om, .ref a_ow]))]) A) args s 0 0 A) (F0 m 0 ls [])
set_option maxHeartbeats 4000000 in
set_option maxRecDepth 100000 in
theorem B_X5_greatestIn_11 {p : Program} {l : Launch} {e : Env} {s : State} {m : MethodId} {args : Array Value} {below : List Frame} {meth : Method} {c : Code} {A : Nat → Prop} {D : va_G} {y : Nat → ClassId} {a_x : Nat} {a_known : Nat} {a_so : Nat} {a_made : Nat} {a_pcl : Nat} {a_hi : Nat} {a_tx : Nat} {a_rd : Nat} {a_tb : Nat} {a_o : Nat} {a_s : Nat → Nat} {a_od : Nat} {a_op : Nat} {a_oi : Nat} {a_ov : Nat} {a_of : Nat} {a_ol : Nat} {a_om : Nat} {a_ow : Nat} {v_s : Nat → Nat → Int32} {f_o_n : Int32} {f_o_many : Int32} {f_o_sets : Int32} {p1 : Int32} {R : Int32} (C : xC p s m args meth c A cX5_greatestIn RX5 wsX5_greatestIn 4 (some .int) D y)  : ∀ f : Nat, S_X5_greatestIn_11 p l e s m args below meth c A D y a_x a_known a_so a_made a_pcl a_hi a_tx a_rd a_tb a_o a_s a_od a_op a_oi a_ov a_of a_ol a_om a_ow v_s f_o_n f_o_many f_o_sets p1 R (F_X5_greatestIn_11 v_s f_o_many p1  f) := by
  have C0 := C
  obtain ⟨hx, hb, hml, hown, hts, hr, hlocks, hK, hA⟩ := C
  intro f
  induction f with
  | zero =>
    intro x2 x3 H locs ls hP hD hS hl hB
    rw [Z_X5_greatestIn_11] at hB
    cases hB
  | succ f ih =>
    intro x2 x3 H locs ls hP hD hS hl hB
    rw [E_X5_greatestIn_11] at hB
    refine lv_iload_n hx hb dX5_greatestIn_11 rfl (lv_at hl 3 rfl) ?_
    refine lv_aload_n hx hb dX5_greatestIn_12 rfl (lv_at hl 0 rfl) ?_
    refine va_get (D := D) (ci := 5) (v := .ref a_o) (C := RX5) (T := TX5) (N := 9) hx hb hts kX5_greatestIn_wX5 hown hK hP 0 rfl rfl 8 (by decide) (hts _ kX5_greatestIn_f59) (fun _ h9 => h9) rfl dX5_greatestIn_13 ?_
    refine va_get (D := D) (ci := 1) (v := .int f_o_many) (C := RX1) (T := TX1) (N := 11) hx hb hts kX5_greatestIn_wX1 hown hK hP 5 rfl rfl 1 (by decide) (hts _ kX5_greatestIn_f76) (fun _ h9 => h9) rfl dX5_greatestIn_16 ?_
    refine lv_icmp_ge (tgt := 41) hx hb dX5_greatestIn_19 (by decide) (fun c1 => ?_) (fun c1 => ?_)
    · have hB := xip c1 hB
      refine lv_iload_n hx hb dX5_greatestIn_41 rfl (lv_at hl 2 rfl) ?_
      have hB := Option.some.inj hB
      subst hB
      exact W.iret hx hb hr (fun t ht hW => ⟨⟨_, (), rfl, rfl, by rw [ht]; exact hP, va_K.moved hW.alike hK, hD⟩, hS.F ht⟩) hS.2.2 dX5_greatestIn_42 hlocks
    · have hB := xin c1 hB
      refine lv_iload_n hx hb dX5_greatestIn_22 rfl (lv_at hl 2 rfl) ?_
      refine lv_aload_n hx hb dX5_greatestIn_23 rfl (lv_at hl 0 rfl) ?_
      refine va_get (D := D) (ci := 5) (v := .ref a_so) (C := RX5) (T := TX5) (N := 9) hx hb hts kX5_greatestIn_wX5 hown hK hP 0 rfl rfl 1 (by decide) (hts _ kX5_greatestIn_f17) (fun _ h9 => h9) rfl dX5_greatestIn_24 ?_
      refine lv_iload_n hx hb dX5_greatestIn_27 rfl (lv_at hl 1 rfl) ?_
      obtain ⟨g2, hB⟩ := xg_some hB
      refine xaald hx hb hK hP 1 4 rfl rfl g2 dX5_greatestIn_28 ?_
      refine lv_iload_n hx hb dX5_greatestIn_29 rfl (lv_at hl 3 rfl) ?_
      obtain ⟨g3, hB⟩ := xg_some hB
      refine va_iald hx hb hK hP (2 + p1.toNatClampNeg) 0 (xg3 (xE a_s (y 0) 120 v_s) rfl rfl rfl (xlt g2)) rfl g3 dX5_greatestIn_30 ?_
      refine va_mmax hx hb (hml.trans hl.1.symm) hown (hts _ kX5_greatestIn_l218) (hts _ kX5_greatestIn_smax) (hts _ kX5_greatestIn_iMath) (hts _ kX5_greatestIn_omax) (Nat.le_of_ble_eq_true rfl) (Nat.le_of_ble_eq_true rfl) (Nat.le_of_ble_eq_true rfl) (Nat.le_of_ble_eq_true rfl) dX5_greatestIn_31 ?_
      refine lv_istore_n (lv' := [(2, .int (if x2 < (v_s p1.toNatClampNeg x3.toNatClampNeg) then (v_s p1.toNatClampNeg x3.toNatClampNeg) else x2)), (0, .ref a_x), (1, .int p1), (3, .int x3)]) hx hb dX5_greatestIn_34 rfl hl (by decide) rfl (fun ls hl => ?_)
      refine lv_iinc (v := x3 + 1) (lv' := [(3, .int (x3 + 1)), (2, .int (if x2 < (v_s p1.toNatClampNeg x3.toNatClampNeg) then (v_s p1.toNatClampNeg x3.toNatClampNeg) else x2)), (0, .ref a_x), (1, .int p1)]) hx hb dX5_greatestIn_35 hl (k := 3) rfl rfl (by decide) rfl (fun ls hl => ?_)
      refine lv_goto (tgt := 11) hx hb dX5_greatestIn_38 (by decide) ?_
      exact ih (if x2 < (v_s p1.toNatClampNeg x3.toNatClampNeg) then (v_s p1.toNatClampNeg x3.toNatClampNeg) else x2) (x3 + 1) H locs ls hP hD hS (lv_sub hl [2, 3, 1, 0] rfl) hB
set_option maxHeartbeats 4000000 in
set_option maxRecDepth 100000 in
theorem B_X5_greatestIn_0 {p : Program} {l : Launch} {e : Env} {s : State} {m : MethodId} {args : Array Value} {below : List Frame} {meth : Method} {c : Code} {A : Nat → Prop} {D : va_G} {y : Nat → ClassId} {a_x : Nat} {a_known : Nat} {a_so : Nat} {a_made : Nat} {a_pcl : Nat} {a_hi : Nat} {a_tx : Nat} {a_rd : Nat} {a_tb : Nat} {a_o : Nat} {a_s : Nat → Nat} {a_od : Nat} {a_op : Nat} {a_oi : Nat} {a_ov : Nat} {a_of : Nat} {a_ol : Nat} {a_om : Nat} {a_ow : Nat} {v_s : Nat → Nat → Int32} {f_o_n : Int32} {f_o_many : Int32} {f_o_sets : Int32} {p1 : Int32} {R : Int32} (C : xC p s m args meth c A cX5_greatestIn RX5 wsX5_greatestIn 4 (some .int) D y)  : S_X5_greatestIn_0 p l e s m args below meth c A D y a_x a_known a_so a_made a_pcl a_hi a_tx a_rd a_tb a_o a_s a_od a_op a_oi a_ov a_of a_ol a_om a_ow v_s f_o_n f_o_many f_o_sets p1 R (F_X5_greatestIn v_s f_o_many p1 ) := by
  have C0 := C
  obtain ⟨hx, hb, hml, hown, hts, hr, hlocks, hK, hA⟩ := C
  intro H locs ls hP hD hS hl hB
  unfold F_X5_greatestIn at hB
  refine lv_aload_n hx hb dX5_greatestIn_0 rfl (lv_at hl 0 rfl) ?_
  refine va_get (D := D) (ci := 5) (v := .ref a_so) (C := RX5) (T := TX5) (N := 9) hx hb hts kX5_greatestIn_wX5 hown hK hP 0 rfl rfl 1 (by decide) (hts _ kX5_greatestIn_f17) (fun _ h9 => h9) rfl dX5_greatestIn_1 ?_
  refine lv_iload_n hx hb dX5_greatestIn_4 rfl (lv_at hl 1 rfl) ?_
  obtain ⟨g1, hB⟩ := xg_some hB
  refine xaald hx hb hK hP 1 4 rfl rfl g1 dX5_greatestIn_5 ?_
  refine lv_iconst (v := 0) hx hb dX5_greatestIn_6 (by decide) ?_
  refine va_iald hx hb hK hP (2 + p1.toNatClampNeg) 0 (xg3 (xE a_s (y 0) 120 v_s) rfl rfl rfl (xlt g1)) rfl (show vp_in (0 : Int32) 120 by unfold vp_in; decide) dX5_greatestIn_7 ?_
  refine lv_istore_n (lv' := [(2, .int (v_s p1.toNatClampNeg (0 : Int32).toNatClampNeg)), (0, .ref a_x), (1, .int p1)]) hx hb dX5_greatestIn_8 rfl hl (by decide) rfl (fun ls hl => ?_)
  refine lv_iconst (v := 1) hx hb dX5_greatestIn_9 (by decide) ?_
  refine lv_istore_n (lv' := [(3, .int (1 : Int32)), (2, .int (v_s p1.toNatClampNeg (0 : Int32).toNatClampNeg)), (0, .ref a_x), (1, .int p1)]) hx hb dX5_greatestIn_10 rfl hl (by decide) rfl (fun ls hl => ?_)
  exact B_X5_greatestIn_11 (p1 := p1) C0 xF (v_s p1.toNatClampNeg (0 : Int32).toNatClampNeg) (1 : Int32) H locs ls hP hD hS (lv_sub hl [2, 3, 1, 0] rfl) hB
set_option maxHeartbeats 4000000 in
set_option maxRecDepth 100000 in
theorem c_X5_greatestIn (l : Launch) (D : va_G) (y : Nat → ClassId) (a_x : Nat) (a_known : Nat) (a_so : Nat) (a_made : Nat) (a_pcl : Nat) (a_hi : Nat) (a_tx : Nat) (a_rd : Nat) (a_tb : Nat) (a_o : Nat) (a_s : Nat → Nat) (a_od : Nat) (a_op : Nat) (a_oi : Nat) (a_ov : Nat) (a_of : Nat) (a_ol : Nat) (a_om : Nat) (a_ow : Nat)  (v_s : Nat → Nat → Int32) (f_o_n : Int32) (f_o_many : Int32) (f_o_sets : Int32) (p1 : Int32) (sz : Nat) {R : Int32} (hF : F_X5_greatestIn v_s f_o_many p1 = some R) : Met l yX5_greatestIn wsX5_greatestIn ({ frames := 1, cells := 0, slots := 0, locals := 21 } : Room) (xPre D y sz [.ref a_x, .int p1] [(a_x, .inr (5, [.ref a_known, .ref a_so, .ref a_made, .ref a_pcl, .ref a_hi, .ref a_tx, .ref a_rd, .ref a_tb, .ref a_o])), (a_so, .inl (y 4, 3, .inr (.inr (.inr (.inr (xO a_s 3)))))), xE a_s (y 0) 120 v_s 0, xE a_s (y 0) 120 v_s 1, xE a_s (y 0) 120 v_s 2, (a_o, .inr (1, [.int f_o_n, .int f_o_many, .int f_o_sets, .ref a_od, .ref a_op, .ref a_oi, .ref a_ov, .ref a_of, .ref a_ol, .ref a_om, .ref a_ow]))]) (va_Qi (fun (r : Int32) (_ : Unit) => r = R) (xB D y (va_A [(a_x, .inr (5, [.ref a_known, .ref a_so, .ref a_made, .ref a_pcl, .ref a_hi, .ref a_tx, .ref a_rd, .ref a_tb, .ref a_o])), (a_so, .inl (y 4, 3, .inr (.inr (.inr (.inr (xO a_s 3)))))), xE a_s (y 0) 120 v_s 0, xE a_s (y 0) 120 v_s 1, xE a_s (y 0) 120 v_s 2, (a_o, .inr (1, [.int f_o_n, .int f_o_many, .int f_o_sets, .ref a_od, .ref a_op, .ref a_oi, .ref a_ov, .ref a_of, .ref a_ol, .ref a_om, .ref a_ow]))] sz) [(a_x, .inr (5, [.ref a_known, .ref a_so, .ref a_made, .ref a_pcl, .ref a_hi, .ref a_tx, .ref a_rd, .ref a_tb, .ref a_o])), (a_so, .inl (y 4, 3, .inr (.inr (.inr (.inr (xO a_s 3)))))), xE a_s (y 0) 120 v_s 0, xE a_s (y 0) 120 v_s 1, xE a_s (y 0) 120 v_s 2, (a_o, .inr (1, [.int f_o_n, .int f_o_many, .int f_o_sets, .ref a_od, .ref a_op, .ref a_oi, .ref a_ov, .ref a_of, .ref a_ol, .ref a_om, .ref a_ow]))]) (va_A [(a_x, .inr (5, [.ref a_known, .ref a_so, .ref a_made, .ref a_pcl, .ref a_hi, .ref a_tx, .ref a_rd, .ref a_tb, .ref a_o])), (a_so, .inl (y 4, 3, .inr (.inr (.inr (.inr (xO a_s 3)))))), xE a_s (y 0) 120 v_s 0, xE a_s (y 0) 120 v_s 1, xE a_s (y 0) 120 v_s 2, (a_o, .inr (1, [.int f_o_n, .int f_o_many, .int f_o_sets, .ref a_od, .ref a_op, .ref a_oi, .ref a_ov, .ref a_of, .ref a_ol, .ref a_om, .ref a_ow]))] sz)) 0 0 (va_A [(a_x, .inr (5, [.ref a_known, .ref a_so, .ref a_made, .ref a_pcl, .ref a_hi, .ref a_tx, .ref a_rd, .ref a_tb, .ref a_o])), (a_so, .inl (y 4, 3, .inr (.inr (.inr (.inr (xO a_s 3)))))), xE a_s (y 0) 120 v_s 0, xE a_s (y 0) 120 v_s 1, xE a_s (y 0) 120 v_s 2, (a_o, .inr (1, [.int f_o_n, .int f_o_many, .int f_o_sets, .ref a_od, .ref a_op, .ref a_oi, .ref a_ov, .ref a_of, .ref a_ol, .ref a_om, .ref a_ow]))] sz) := by
  refine Met.ofW (cc := cX5_greatestIn) (maxL := 4) (ret := (some .int)) (by decide) rfl ?_
  intro p e s m args below meth c s₁ B hml hv
  obtain ⟨rfl, hsz, hP, hK, hD0⟩ := hv
  subst hsz
  have hD := hD0.self (sz := s.heap.size)
  have C : xC p s m [.ref a_x, .int p1].toArray meth c (va_A [(a_x, .inr (5, [.ref a_known, .ref a_so, .ref a_made, .ref a_pcl, .ref a_hi, .ref a_tx, .ref a_rd, .ref a_tb, .ref a_o])), (a_so, .inl (y 4, 3, .inr (.inr (.inr (.inr (xO a_s 3)))))), xE a_s (y 0) 120 v_s 0, xE a_s (y 0) 120 v_s 1, xE a_s (y 0) 120 v_s 2, (a_o, .inr (1, [.int f_o_n, .int f_o_many, .int f_o_sets, .ref a_od, .ref a_op, .ref a_oi, .ref a_ov, .ref a_of, .ref a_ol, .ref a_om, .ref a_ow]))] s.heap.size) cX5_greatestIn RX5 wsX5_greatestIn 4 (some .int) D y := ⟨B.exec, B.bytes, hml, findClass_of_methodNamed B.named, atoms_spec (ws := wsX5_greatestIn) B.pre, B.returns, B.notSynchronized, hK, fun q h => Or.inr h⟩
  have hl := lv_entry ([.ref a_x, .int p1]) (n := 4) (Nat.le_of_ble_eq_true rfl)
  rw [lg_entry_eq]
  generalize (lg_sl ([.ref a_x, .int p1]) ++ List.replicate (4 - (lg_sl ([.ref a_x, .int p1])).length) Slot.unset).toArray = ls at hl ⊢
  have hl : lv_has ls 4 [(0, .ref a_x), (1, .int p1)] := hl
  exact B_X5_greatestIn_0 (p1 := p1) C  s.heap [] ls hP hD va_S.rf hl hF
theorem kX5_leastIn_f17 : Cond.fieldLink RX5 17 "DescentShuffles" "sums" "[[I" ∈ wsX5_leastIn := by decide +kernel
theorem kX5_leastIn_wX5 : ∀ w ∈ u_ws RX5 TX5 9, w ∈ wsX5_leastIn := by decide +kernel
theorem kX5_leastIn_f59 : Cond.fieldLink RX5 59 "DescentShuffles" "orders" "LDescentShuffles$Orders;" ∈ wsX5_leastIn := by decide +kernel
theorem kX5_leastIn_f76 : Cond.fieldLink RX5 76 "DescentShuffles$Orders" "many" "I" ∈ wsX5_leastIn := by decide +kernel
theorem kX5_leastIn_wX1 : ∀ w ∈ u_ws RX1 TX1 11, w ∈ wsX5_leastIn := by decide +kernel
theorem kX5_leastIn_l223 : Cond.methodLink RX5 223 Lib.Math.min.name ∈ wsX5_leastIn := by decide +kernel
theorem kX5_leastIn_smin : Cond.static Lib.Math.min.name ∈ wsX5_leastIn := by decide +kernel
theorem kX5_leastIn_iMath : Cond.initialized "java/lang/Math" ∈ wsX5_leastIn := by decide +kernel
theorem kX5_leastIn_omin : Cond.code Lib.Math.min.name Lib.Math.min.code 2 (some .int) ∈ wsX5_leastIn := by decide +kernel
def S_X5_leastIn_11 (p : Program) (l : Launch) (e : Env) (s : State) (m : MethodId) (args : Array Value) (below : List Frame) (meth : Method) (c : Code) (A : Nat → Prop) (D : va_G) (y : Nat → ClassId) (a_x : Nat) (a_known : Nat) (a_so : Nat) (a_made : Nat) (a_pcl : Nat) (a_hi : Nat) (a_tx : Nat) (a_rd : Nat) (a_tb : Nat) (a_o : Nat) (a_s : Nat → Nat) (a_od : Nat) (a_op : Nat) (a_oi : Nat) (a_ov : Nat) (a_of : Nat) (a_ol : Nat) (a_om : Nat) (a_ow : Nat) (v_s : Nat → Nat → Int32) (f_o_n : Int32) (f_o_many : Int32) (f_o_sets : Int32) (p1 : Int32) (R : Int32) (κ : Int32 → Int32 → Option (Int32)) : Prop := ∀ (x2 : Int32) (x3 : Int32) (H : Heap) (locs : List Loc) (ls : Array Slot), va_P D vwCl [(a_x, .inr (5, [.ref a_known, .ref a_so, .ref a_made, .ref a_pcl, .ref a_hi, .ref a_tx, .ref a_rd, .ref a_tb, .ref a_o])), (a_so, .inl (y 4, 3, .inr (.inr (.inr (.inr (xO a_s 3)))))), xE a_s (y 0) 120 v_s 0, xE a_s (y 0) 120 v_s 1, xE a_s (y 0) 120 v_s 2, (a_o, .inr (1, [.int f_o_n, .int f_o_many, .int f_o_sets, .ref a_od, .ref a_op, .ref a_oi, .ref a_ov, .ref a_of, .ref a_ol, .ref a_om, .ref a_ow]))] H → va_D A [(a_x, .inr (5, [.ref a_known, .ref a_so, .ref a_made, .ref a_pcl, .ref a_hi, .ref a_tx, .ref a_rd, .ref a_tb, .ref a_o])), (a_so, .inl (y 4, 3, .inr (.inr (.inr (.inr (xO a_s 3)))))), xE a_s (y 0) 120 v_s 0, xE a_s (y 0) 120 v_s 1, xE a_s (y 0) 120 v_s 2, (a_o, .inr (1, [.int f_o_n, .int f_o_many, .int f_o_sets, .ref a_od, .ref a_op, .ref a_oi, .ref a_ov, .ref a_of, .ref a_ol, .ref a_om, .ref a_ow]))] → va_S A s.heap H locs → lv_has ls 4 [(0, .ref a_x), (1, .int p1), (2, .int x2), (3, .int x3)] → κ x2 x3 = some R → W p l e ({ frames := 1, cells := 0, slots := 0, locals := 21 } : Room) s m args below meth c H locs 0 0 (MQ below (va_Qi (fun (r : Int32) (_ : Unit) => r = R) (xB D y A [(a_x, .inr (5, [.ref a_known, .ref a_so, .ref a_made, .ref a_pcl, .ref a_hi, .ref a_tx, .ref a_rd, .ref a_tb, .ref a_o])), (a_so, .inl (y 4, 3, .inr (.inr (.inr (.inr (xO a_s 3)))))), xE a_s (y 0) 120 v_s 0, xE a_s (y 0) 120 v_s 1, xE a_s (y 0) 120 v_s 2, (a_o, .inr (1, [.int f_o_n, .int f_o_many, .int f_o_sets, .ref a_od, .ref a_op, .ref a_oi, .ref a_ov, .ref a_of, .ref a_ol, .ref a_om, .ref a_ow]))]) A) args s 0 0 A) (F0 m 11 ls [])
def S_X5_leastIn_0 (p : Program) (l : Launch) (e : Env) (s : State) (m : MethodId) (args : Array Value) (below : List Frame) (meth : Method) (c : Code) (A : Nat → Prop) (D : va_G) (y : Nat → ClassId) (a_x : Nat) (a_known : Nat) (a_so : Nat) (a_made : Nat) (a_pcl : Nat) (a_hi : Nat) (a_tx : Nat) (a_rd : Nat) (a_tb : Nat) (a_o : Nat) (a_s : Nat → Nat) (a_od : Nat) (a_op : Nat) (a_oi : Nat) (a_ov : Nat) (a_of : Nat) (a_ol : Nat) (a_om : Nat) (a_ow : Nat) (v_s : Nat → Nat → Int32) (f_o_n : Int32) (f_o_many : Int32) (f_o_sets : Int32) (p1 : Int32) (R : Int32) (κ : Option (Int32)) : Prop := ∀ (H : Heap) (locs : List Loc) (ls : Array Slot), va_P D vwCl [(a_x, .inr (5, [.ref a_known, .ref a_so, .ref a_made, .ref a_pcl, .ref a_hi, .ref a_tx, .ref a_rd, .ref a_tb, .ref a_o])), (a_so, .inl (y 4, 3, .inr (.inr (.inr (.inr (xO a_s 3)))))), xE a_s (y 0) 120 v_s 0, xE a_s (y 0) 120 v_s 1, xE a_s (y 0) 120 v_s 2, (a_o, .inr (1, [.int f_o_n, .int f_o_many, .int f_o_sets, .ref a_od, .ref a_op, .ref a_oi, .ref a_ov, .ref a_of, .ref a_ol, .ref a_om, .ref a_ow]))] H → va_D A [(a_x, .inr (5, [.ref a_known, .ref a_so, .ref a_made, .ref a_pcl, .ref a_hi, .ref a_tx, .ref a_rd, .ref a_tb, .ref a_o])), (a_so, .inl (y 4, 3, .inr (.inr (.inr (.inr (xO a_s 3)))))), xE a_s (y 0) 120 v_s 0, xE a_s (y 0) 120 v_s 1, xE a_s (y 0) 120 v_s 2, (a_o, .inr (1, [.int f_o_n, .int f_o_many, .int f_o_sets, .ref a_od, .ref a_op, .ref a_oi, .ref a_ov, .ref a_of, .ref a_ol, .ref a_om, .ref a_ow]))] → va_S A s.heap H locs → lv_has ls 4 [(0, .ref a_x), (1, .int p1)] → κ = some R → W p l e ({ frames := 1, cells := 0, slots := 0, locals := 21 } : Room) s m args below meth c H locs 0 0 (MQ below (va_Qi (fun (r : Int32) (_ : Unit) => r = R) (xB D y A [(a_x, .inr (5, [.ref a_known, .ref a_so, .ref a_made, .ref a_pcl, .ref a_hi, .ref a_tx, .ref a_rd, .ref a_tb, .ref a_o])), (a_so, .inl (y 4, 3, .inr (.inr (.inr (.inr (xO a_s 3)))))), xE a_s (y 0) 120 v_s 0, xE a_s (y 0) 120 v_s 1, xE a_s (y 0) 120 v_s 2, (a_o, .inr (1, [.int f_o_n, .int f_o_many, .int f_o_sets, .ref a_od, .ref a_op, .ref a_oi, .ref a_ov, .ref a_of, .ref a_ol, .ref a_om, .ref a_ow]))]) A) args s 0 0 A) (F0 m 0 ls [])
set_option maxHeartbeats 4000000 in
set_option maxRecDepth 100000 in
theorem B_X5_leastIn_11 {p : Program} {l : Launch} {e : Env} {s : State} {m : MethodId} {args : Array Value} {below : List Frame} {meth : Method} {c : Code} {A : Nat → Prop} {D : va_G} {y : Nat → ClassId} {a_x : Nat} {a_known : Nat} {a_so : Nat} {a_made : Nat} {a_pcl : Nat} {a_hi : Nat} {a_tx : Nat} {a_rd : Nat} {a_tb : Nat} {a_o : Nat} {a_s : Nat → Nat} {a_od : Nat} {a_op : Nat} {a_oi : Nat} {a_ov : Nat} {a_of : Nat} {a_ol : Nat} {a_om : Nat} {a_ow : Nat} {v_s : Nat → Nat → Int32} {f_o_n : Int32} {f_o_many : Int32} {f_o_sets : Int32} {p1 : Int32} {R : Int32} (C : xC p s m args meth c A cX5_leastIn RX5 wsX5_leastIn 4 (some .int) D y)  : ∀ f : Nat, S_X5_leastIn_11 p l e s m args below meth c A D y a_x a_known a_so a_made a_pcl a_hi a_tx a_rd a_tb a_o a_s a_od a_op a_oi a_ov a_of a_ol a_om a_ow v_s f_o_n f_o_many f_o_sets p1 R (F_X5_leastIn_11 v_s f_o_many p1  f) := by
  have C0 := C
  obtain ⟨hx, hb, hml, hown, hts, hr, hlocks, hK, hA⟩ := C
  intro f
  induction f with
  | zero =>
    intro x2 x3 H locs ls hP hD hS hl hB
    rw [Z_X5_leastIn_11] at hB
    cases hB
  | succ f ih =>
    intro x2 x3 H locs ls hP hD hS hl hB
    rw [E_X5_leastIn_11] at hB
    refine lv_iload_n hx hb dX5_leastIn_11 rfl (lv_at hl 3 rfl) ?_
    refine lv_aload_n hx hb dX5_leastIn_12 rfl (lv_at hl 0 rfl) ?_
    refine va_get (D := D) (ci := 5) (v := .ref a_o) (C := RX5) (T := TX5) (N := 9) hx hb hts kX5_leastIn_wX5 hown hK hP 0 rfl rfl 8 (by decide) (hts _ kX5_leastIn_f59) (fun _ h9 => h9) rfl dX5_leastIn_13 ?_
    refine va_get (D := D) (ci := 1) (v := .int f_o_many) (C := RX1) (T := TX1) (N := 11) hx hb hts kX5_leastIn_wX1 hown hK hP 5 rfl rfl 1 (by decide) (hts _ kX5_leastIn_f76) (fun _ h9 => h9) rfl dX5_leastIn_16 ?_
    refine lv_icmp_ge (tgt := 41) hx hb dX5_leastIn_19 (by decide) (fun c1 => ?_) (fun c1 => ?_)
    · have hB := xip c1 hB
      refine lv_iload_n hx hb dX5_leastIn_41 rfl (lv_at hl 2 rfl) ?_
      have hB := Option.some.inj hB
      subst hB
      exact W.iret hx hb hr (fun t ht hW => ⟨⟨_, (), rfl, rfl, by rw [ht]; exact hP, va_K.moved hW.alike hK, hD⟩, hS.F ht⟩) hS.2.2 dX5_leastIn_42 hlocks
    · have hB := xin c1 hB
      refine lv_iload_n hx hb dX5_leastIn_22 rfl (lv_at hl 2 rfl) ?_
      refine lv_aload_n hx hb dX5_leastIn_23 rfl (lv_at hl 0 rfl) ?_
      refine va_get (D := D) (ci := 5) (v := .ref a_so) (C := RX5) (T := TX5) (N := 9) hx hb hts kX5_leastIn_wX5 hown hK hP 0 rfl rfl 1 (by decide) (hts _ kX5_leastIn_f17) (fun _ h9 => h9) rfl dX5_leastIn_24 ?_
      refine lv_iload_n hx hb dX5_leastIn_27 rfl (lv_at hl 1 rfl) ?_
      obtain ⟨g2, hB⟩ := xg_some hB
      refine xaald hx hb hK hP 1 4 rfl rfl g2 dX5_leastIn_28 ?_
      refine lv_iload_n hx hb dX5_leastIn_29 rfl (lv_at hl 3 rfl) ?_
      obtain ⟨g3, hB⟩ := xg_some hB
      refine va_iald hx hb hK hP (2 + p1.toNatClampNeg) 0 (xg3 (xE a_s (y 0) 120 v_s) rfl rfl rfl (xlt g2)) rfl g3 dX5_leastIn_30 ?_
      refine va_mmin hx hb (hml.trans hl.1.symm) hown (hts _ kX5_leastIn_l223) (hts _ kX5_leastIn_smin) (hts _ kX5_leastIn_iMath) (hts _ kX5_leastIn_omin) (Nat.le_of_ble_eq_true rfl) (Nat.le_of_ble_eq_true rfl) (Nat.le_of_ble_eq_true rfl) (Nat.le_of_ble_eq_true rfl) dX5_leastIn_31 ?_
      refine lv_istore_n (lv' := [(2, .int (if (v_s p1.toNatClampNeg x3.toNatClampNeg) < x2 then (v_s p1.toNatClampNeg x3.toNatClampNeg) else x2)), (0, .ref a_x), (1, .int p1), (3, .int x3)]) hx hb dX5_leastIn_34 rfl hl (by decide) rfl (fun ls hl => ?_)
      refine lv_iinc (v := x3 + 1) (lv' := [(3, .int (x3 + 1)), (2, .int (if (v_s p1.toNatClampNeg x3.toNatClampNeg) < x2 then (v_s p1.toNatClampNeg x3.toNatClampNeg) else x2)), (0, .ref a_x), (1, .int p1)]) hx hb dX5_leastIn_35 hl (k := 3) rfl rfl (by decide) rfl (fun ls hl => ?_)
      refine lv_goto (tgt := 11) hx hb dX5_leastIn_38 (by decide) ?_
      exact ih (if (v_s p1.toNatClampNeg x3.toNatClampNeg) < x2 then (v_s p1.toNatClampNeg x3.toNatClampNeg) else x2) (x3 + 1) H locs ls hP hD hS (lv_sub hl [2, 3, 1, 0] rfl) hB
set_option maxHeartbeats 4000000 in
set_option maxRecDepth 100000 in
theorem B_X5_leastIn_0 {p : Program} {l : Launch} {e : Env} {s : State} {m : MethodId} {args : Array Value} {below : List Frame} {meth : Method} {c : Code} {A : Nat → Prop} {D : va_G} {y : Nat → ClassId} {a_x : Nat} {a_known : Nat} {a_so : Nat} {a_made : Nat} {a_pcl : Nat} {a_hi : Nat} {a_tx : Nat} {a_rd : Nat} {a_tb : Nat} {a_o : Nat} {a_s : Nat → Nat} {a_od : Nat} {a_op : Nat} {a_oi : Nat} {a_ov : Nat} {a_of : Nat} {a_ol : Nat} {a_om : Nat} {a_ow : Nat} {v_s : Nat → Nat → Int32} {f_o_n : Int32} {f_o_many : Int32} {f_o_sets : Int32} {p1 : Int32} {R : Int32} (C : xC p s m args meth c A cX5_leastIn RX5 wsX5_leastIn 4 (some .int) D y)  : S_X5_leastIn_0 p l e s m args below meth c A D y a_x a_known a_so a_made a_pcl a_hi a_tx a_rd a_tb a_o a_s a_od a_op a_oi a_ov a_of a_ol a_om a_ow v_s f_o_n f_o_many f_o_sets p1 R (F_X5_leastIn v_s f_o_many p1 ) := by
  have C0 := C
  obtain ⟨hx, hb, hml, hown, hts, hr, hlocks, hK, hA⟩ := C
  intro H locs ls hP hD hS hl hB
  unfold F_X5_leastIn at hB
  refine lv_aload_n hx hb dX5_leastIn_0 rfl (lv_at hl 0 rfl) ?_
  refine va_get (D := D) (ci := 5) (v := .ref a_so) (C := RX5) (T := TX5) (N := 9) hx hb hts kX5_leastIn_wX5 hown hK hP 0 rfl rfl 1 (by decide) (hts _ kX5_leastIn_f17) (fun _ h9 => h9) rfl dX5_leastIn_1 ?_
  refine lv_iload_n hx hb dX5_leastIn_4 rfl (lv_at hl 1 rfl) ?_
  obtain ⟨g1, hB⟩ := xg_some hB
  refine xaald hx hb hK hP 1 4 rfl rfl g1 dX5_leastIn_5 ?_
  refine lv_iconst (v := 0) hx hb dX5_leastIn_6 (by decide) ?_
  refine va_iald hx hb hK hP (2 + p1.toNatClampNeg) 0 (xg3 (xE a_s (y 0) 120 v_s) rfl rfl rfl (xlt g1)) rfl (show vp_in (0 : Int32) 120 by unfold vp_in; decide) dX5_leastIn_7 ?_
  refine lv_istore_n (lv' := [(2, .int (v_s p1.toNatClampNeg (0 : Int32).toNatClampNeg)), (0, .ref a_x), (1, .int p1)]) hx hb dX5_leastIn_8 rfl hl (by decide) rfl (fun ls hl => ?_)
  refine lv_iconst (v := 1) hx hb dX5_leastIn_9 (by decide) ?_
  refine lv_istore_n (lv' := [(3, .int (1 : Int32)), (2, .int (v_s p1.toNatClampNeg (0 : Int32).toNatClampNeg)), (0, .ref a_x), (1, .int p1)]) hx hb dX5_leastIn_10 rfl hl (by decide) rfl (fun ls hl => ?_)
  exact B_X5_leastIn_11 (p1 := p1) C0 xF (v_s p1.toNatClampNeg (0 : Int32).toNatClampNeg) (1 : Int32) H locs ls hP hD hS (lv_sub hl [2, 3, 1, 0] rfl) hB
set_option maxHeartbeats 4000000 in
set_option maxRecDepth 100000 in
theorem c_X5_leastIn (l : Launch) (D : va_G) (y : Nat → ClassId) (a_x : Nat) (a_known : Nat) (a_so : Nat) (a_made : Nat) (a_pcl : Nat) (a_hi : Nat) (a_tx : Nat) (a_rd : Nat) (a_tb : Nat) (a_o : Nat) (a_s : Nat → Nat) (a_od : Nat) (a_op : Nat) (a_oi : Nat) (a_ov : Nat) (a_of : Nat) (a_ol : Nat) (a_om : Nat) (a_ow : Nat)  (v_s : Nat → Nat → Int32) (f_o_n : Int32) (f_o_many : Int32) (f_o_sets : Int32) (p1 : Int32) (sz : Nat) {R : Int32} (hF : F_X5_leastIn v_s f_o_many p1 = some R) : Met l yX5_leastIn wsX5_leastIn ({ frames := 1, cells := 0, slots := 0, locals := 21 } : Room) (xPre D y sz [.ref a_x, .int p1] [(a_x, .inr (5, [.ref a_known, .ref a_so, .ref a_made, .ref a_pcl, .ref a_hi, .ref a_tx, .ref a_rd, .ref a_tb, .ref a_o])), (a_so, .inl (y 4, 3, .inr (.inr (.inr (.inr (xO a_s 3)))))), xE a_s (y 0) 120 v_s 0, xE a_s (y 0) 120 v_s 1, xE a_s (y 0) 120 v_s 2, (a_o, .inr (1, [.int f_o_n, .int f_o_many, .int f_o_sets, .ref a_od, .ref a_op, .ref a_oi, .ref a_ov, .ref a_of, .ref a_ol, .ref a_om, .ref a_ow]))]) (va_Qi (fun (r : Int32) (_ : Unit) => r = R) (xB D y (va_A [(a_x, .inr (5, [.ref a_known, .ref a_so, .ref a_made, .ref a_pcl, .ref a_hi, .ref a_tx, .ref a_rd, .ref a_tb, .ref a_o])), (a_so, .inl (y 4, 3, .inr (.inr (.inr (.inr (xO a_s 3)))))), xE a_s (y 0) 120 v_s 0, xE a_s (y 0) 120 v_s 1, xE a_s (y 0) 120 v_s 2, (a_o, .inr (1, [.int f_o_n, .int f_o_many, .int f_o_sets, .ref a_od, .ref a_op, .ref a_oi, .ref a_ov, .ref a_of, .ref a_ol, .ref a_om, .ref a_ow]))] sz) [(a_x, .inr (5, [.ref a_known, .ref a_so, .ref a_made, .ref a_pcl, .ref a_hi, .ref a_tx, .ref a_rd, .ref a_tb, .ref a_o])), (a_so, .inl (y 4, 3, .inr (.inr (.inr (.inr (xO a_s 3)))))), xE a_s (y 0) 120 v_s 0, xE a_s (y 0) 120 v_s 1, xE a_s (y 0) 120 v_s 2, (a_o, .inr (1, [.int f_o_n, .int f_o_many, .int f_o_sets, .ref a_od, .ref a_op, .ref a_oi, .ref a_ov, .ref a_of, .ref a_ol, .ref a_om, .ref a_ow]))]) (va_A [(a_x, .inr (5, [.ref a_known, .ref a_so, .ref a_made, .ref a_pcl, .ref a_hi, .ref a_tx, .ref a_rd, .ref a_tb, .ref a_o])), (a_so, .inl (y 4, 3, .inr (.inr (.inr (.inr (xO a_s 3)))))), xE a_s (y 0) 120 v_s 0, xE a_s (y 0) 120 v_s 1, xE a_s (y 0) 120 v_s 2, (a_o, .inr (1, [.int f_o_n, .int f_o_many, .int f_o_sets, .ref a_od, .ref a_op, .ref a_oi, .ref a_ov, .ref a_of, .ref a_ol, .ref a_om, .ref a_ow]))] sz)) 0 0 (va_A [(a_x, .inr (5, [.ref a_known, .ref a_so, .ref a_made, .ref a_pcl, .ref a_hi, .ref a_tx, .ref a_rd, .ref a_tb, .ref a_o])), (a_so, .inl (y 4, 3, .inr (.inr (.inr (.inr (xO a_s 3)))))), xE a_s (y 0) 120 v_s 0, xE a_s (y 0) 120 v_s 1, xE a_s (y 0) 120 v_s 2, (a_o, .inr (1, [.int f_o_n, .int f_o_many, .int f_o_sets, .ref a_od, .ref a_op, .ref a_oi, .ref a_ov, .ref a_of, .ref a_ol, .ref a_om, .ref a_ow]))] sz) := by
  refine Met.ofW (cc := cX5_leastIn) (maxL := 4) (ret := (some .int)) (by decide) rfl ?_
  intro p e s m args below meth c s₁ B hml hv
  obtain ⟨rfl, hsz, hP, hK, hD0⟩ := hv
  subst hsz
  have hD := hD0.self (sz := s.heap.size)
  have C : xC p s m [.ref a_x, .int p1].toArray meth c (va_A [(a_x, .inr (5, [.ref a_known, .ref a_so, .ref a_made, .ref a_pcl, .ref a_hi, .ref a_tx, .ref a_rd, .ref a_tb, .ref a_o])), (a_so, .inl (y 4, 3, .inr (.inr (.inr (.inr (xO a_s 3)))))), xE a_s (y 0) 120 v_s 0, xE a_s (y 0) 120 v_s 1, xE a_s (y 0) 120 v_s 2, (a_o, .inr (1, [.int f_o_n, .int f_o_many, .int f_o_sets, .ref a_od, .ref a_op, .ref a_oi, .ref a_ov, .ref a_of, .ref a_ol, .ref a_om, .ref a_ow]))] s.heap.size) cX5_leastIn RX5 wsX5_leastIn 4 (some .int) D y := ⟨B.exec, B.bytes, hml, findClass_of_methodNamed B.named, atoms_spec (ws := wsX5_leastIn) B.pre, B.returns, B.notSynchronized, hK, fun q h => Or.inr h⟩
  have hl := lv_entry ([.ref a_x, .int p1]) (n := 4) (Nat.le_of_ble_eq_true rfl)
  rw [lg_entry_eq]
  generalize (lg_sl ([.ref a_x, .int p1]) ++ List.replicate (4 - (lg_sl ([.ref a_x, .int p1])).length) Slot.unset).toArray = ls at hl ⊢
  have hl : lv_has ls 4 [(0, .ref a_x), (1, .int p1)] := hl
  exact B_X5_leastIn_0 (p1 := p1) C  s.heap [] ls hP hD va_S.rf hl hF
theorem kX5_sumOf_c67 : Cond.constant RX5 67 (-10000001) ∈ wsX5_sumOf := by decide +kernel
def S_X5_sumOf_0 (p : Program) (l : Launch) (e : Env) (s : State) (m : MethodId) (args : Array Value) (below : List Frame) (meth : Method) (c : Code) (A : Nat → Prop) (D : va_G) (y : Nat → ClassId) (a_x : Nat) (a_known : Nat) (a_so : Nat) (a_made : Nat) (a_pcl : Nat) (a_hi : Nat) (a_tx : Nat) (a_rd : Nat) (a_tb : Nat) (a_o : Nat) (a_s : Nat → Nat) (a_od : Nat) (a_op : Nat) (a_oi : Nat) (a_ov : Nat) (a_of : Nat) (a_ol : Nat) (a_om : Nat) (a_ow : Nat) (lm_o : Nat) (ls_o : Nat) (v_s : Nat → Nat → Int32) (f_o_n : Int32) (f_o_many : Int32) (f_o_sets : Int32) (v_od : Nat → Int32) (v_of : Nat → Int32) (p1 : Int32) (p2 : Int32) (R : Int32) (κ : Option (Int32)) : Prop := ∀ (H : Heap) (locs : List Loc) (ls : Array Slot), va_P D vwCl [(a_x, .inr (5, [.ref a_known, .ref a_so, .ref a_made, .ref a_pcl, .ref a_hi, .ref a_tx, .ref a_rd, .ref a_tb, .ref a_o])), (a_so, .inl (y 4, 3, .inr (.inr (.inr (.inr (xO a_s 3)))))), xE a_s (y 0) 120 v_s 0, xE a_s (y 0) 120 v_s 1, xE a_s (y 0) 120 v_s 2, (a_o, .inr (1, [.int f_o_n, .int f_o_many, .int f_o_sets, .ref a_od, .ref a_op, .ref a_oi, .ref a_ov, .ref a_of, .ref a_ol, .ref a_om, .ref a_ow])), (a_od, .inl (y 0, lm_o, .inl v_od)), (a_of, .inl (y 0, ls_o, .inl v_of))] H → va_D A [(a_x, .inr (5, [.ref a_known, .ref a_so, .ref a_made, .ref a_pcl, .ref a_hi, .ref a_tx, .ref a_rd, .ref a_tb, .ref a_o])), (a_so, .inl (y 4, 3, .inr (.inr (.inr (.inr (xO a_s 3)))))), xE a_s (y 0) 120 v_s 0, xE a_s (y 0) 120 v_s 1, xE a_s (y 0) 120 v_s 2, (a_o, .inr (1, [.int f_o_n, .int f_o_many, .int f_o_sets, .ref a_od, .ref a_op, .ref a_oi, .ref a_ov, .ref a_of, .ref a_ol, .ref a_om, .ref a_ow])), (a_od, .inl (y 0, lm_o, .inl v_od)), (a_of, .inl (y 0, ls_o, .inl v_of))] → va_S A s.heap H locs → lv_has ls 3 [(0, .ref a_x), (1, .int p1), (2, .int p2)] → κ = some R → W p l e ({ frames := 2, cells := 0, slots := 0, locals := 44 } : Room) s m args below meth c H locs 0 0 (MQ below (va_Qi (fun (r : Int32) (_ : Unit) => r = R) (xB D y A [(a_x, .inr (5, [.ref a_known, .ref a_so, .ref a_made, .ref a_pcl, .ref a_hi, .ref a_tx, .ref a_rd, .ref a_tb, .ref a_o])), (a_so, .inl (y 4, 3, .inr (.inr (.inr (.inr (xO a_s 3)))))), xE a_s (y 0) 120 v_s 0, xE a_s (y 0) 120 v_s 1, xE a_s (y 0) 120 v_s 2, (a_o, .inr (1, [.int f_o_n, .int f_o_many, .int f_o_sets, .ref a_od, .ref a_op, .ref a_oi, .ref a_ov, .ref a_of, .ref a_ol, .ref a_om, .ref a_ow])), (a_od, .inl (y 0, lm_o, .inl v_od)), (a_of, .inl (y 0, ls_o, .inl v_of))]) A) args s 0 0 A) (F0 m 0 ls [])
set_option maxHeartbeats 4000000 in
set_option maxRecDepth 100000 in
theorem B_X5_sumOf_0 {p : Program} {l : Launch} {e : Env} {s : State} {m : MethodId} {args : Array Value} {below : List Frame} {meth : Method} {c : Code} {A : Nat → Prop} {D : va_G} {y : Nat → ClassId} {a_x : Nat} {a_known : Nat} {a_so : Nat} {a_made : Nat} {a_pcl : Nat} {a_hi : Nat} {a_tx : Nat} {a_rd : Nat} {a_tb : Nat} {a_o : Nat} {a_s : Nat → Nat} {a_od : Nat} {a_op : Nat} {a_oi : Nat} {a_ov : Nat} {a_of : Nat} {a_ol : Nat} {a_om : Nat} {a_ow : Nat} {lm_o : Nat} {ls_o : Nat} {v_s : Nat → Nat → Int32} {f_o_n : Int32} {f_o_many : Int32} {f_o_sets : Int32} {v_od : Nat → Int32} {v_of : Nat → Int32} {p1 : Int32} {p2 : Int32} {R : Int32} (C : xC p s m args meth c A cX5_sumOf RX5 wsX5_sumOf 3 (some .int) D y)  : S_X5_sumOf_0 p l e s m args below meth c A D y a_x a_known a_so a_made a_pcl a_hi a_tx a_rd a_tb a_o a_s a_od a_op a_oi a_ov a_of a_ol a_om a_ow lm_o ls_o v_s f_o_n f_o_many f_o_sets v_od v_of p1 p2 R (F_X5_sumOf lm_o ls_o v_s f_o_many v_od v_of p1 p2 ) := by
  have C0 := C
  obtain ⟨hx, hb, hml, hown, hts, hr, hlocks, hK, hA⟩ := C
  intro H locs ls hP hD hS hl hB
  unfold F_X5_sumOf at hB
  refine lv_iload_n hx hb dX5_sumOf_0 rfl (lv_at hl 1 rfl) ?_
  obtain ⟨q1, e1, hB⟩ := xbd hB
  have hPc := hP.sub (ws' := []) [] rfl
  have hDc := hD.sub (ws' := []) [] (by decide) rfl
  refine xcalli (mc := 0) (ms := 0) (rv := q1) (wc := []) (wr := [(a_x, .inr (5, [.ref a_known, .ref a_so, .ref a_made, .ref a_pcl, .ref a_hi, .ref a_tx, .ref a_rd, .ref a_tb, .ref a_o])), (a_so, .inl (y 4, 3, .inr (.inr (.inr (.inr (xO a_s 3)))))), xE a_s (y 0) 120 v_s 0, xE a_s (y 0) 120 v_s 1, xE a_s (y 0) 120 v_s 2, (a_o, .inr (1, [.int f_o_n, .int f_o_many, .int f_o_sets, .ref a_od, .ref a_op, .ref a_oi, .ref a_ov, .ref a_of, .ref a_ol, .ref a_om, .ref a_ow])), (a_od, .inl (y 0, lm_o, .inl v_od)), (a_of, .inl (y 0, ls_o, .inl v_of))]) (w1 := []) (wf := [(a_x, .inr (5, [.ref a_known, .ref a_so, .ref a_made, .ref a_pcl, .ref a_hi, .ref a_tx, .ref a_rd, .ref a_tb, .ref a_o])), (a_so, .inl (y 4, 3, .inr (.inr (.inr (.inr (xO a_s 3)))))), xE a_s (y 0) 120 v_s 0, xE a_s (y 0) 120 v_s 1, xE a_s (y 0) 120 v_s 2, (a_o, .inr (1, [.int f_o_n, .int f_o_many, .int f_o_sets, .ref a_od, .ref a_op, .ref a_oi, .ref a_ov, .ref a_of, .ref a_ol, .ref a_om, .ref a_ow])), (a_od, .inl (y 0, lm_o, .inl v_od)), (a_of, .inl (y 0, ls_o, .inl v_of))]) (va_runS (As := [.int p1]) (rest := []) ⟨hx, hb, hml, hown, hts⟩ (c_X5_isSum l D y p1 H.size e1) (va_cwS 1 hts gX5_sumOf_X5_isSum rfl rfl rfl (by decide +kernel) ⟨Nat.le_of_ble_eq_true rfl, Nat.le_of_ble_eq_true rfl⟩) ⟨xblind, xprev hPc hK hDc⟩ rfl rfl hl.1 rfl (lv_room (Nat.le_of_ble_eq_true rfl)) dX5_sumOf_1 ⟨Nat.le_of_ble_eq_true rfl, Nat.le_of_ble_eq_true rfl⟩) hP hD hS hA [] [0, 1, 2, 3, 4, 5, 6, 7] [0, 1, 2, 3, 4, 5, 6, 7] rfl rfl (by decide) (by decide) rfl (by decide) (fun H locs hP hD hS => ?_)
  refine lv_if_ne (tgt := 10) hx hb dX5_sumOf_4 (by decide) (fun c2 => ?_) (fun c2 => ?_)
  · have hB := xin c2 hB
    refine lv_iload_n hx hb dX5_sumOf_10 rfl (lv_at hl 2 rfl) ?_
    by_cases h11_0 : p2 = 0
    · have hB := xip h11_0 hB
      have ht11 : p2.toInt = 0 := by rw [h11_0]; decide
      refine lv_tableIn (off := 33) (tgt := 44) hx hb dX5_sumOf_11 (by rw [ht11]; decide) (by rw [ht11]; decide) (by rw [ht11]; rfl) (by decide) ?_
      refine lv_aload_n hx hb dX5_sumOf_44 rfl (lv_at hl 0 rfl) ?_
      refine lv_iload_n hx hb dX5_sumOf_45 rfl (lv_at hl 1 rfl) ?_
      obtain ⟨q3, e3, hB⟩ := xbd hB
      have hPc := hP.sub (ws' := [(a_x, .inr (5, [.ref a_known, .ref a_so, .ref a_made, .ref a_pcl, .ref a_hi, .ref a_tx, .ref a_rd, .ref a_tb, .ref a_o])), (a_so, .inl (y 4, 3, .inr (.inr (.inr (.inr (xO a_s 3)))))), xE a_s (y 0) 120 v_s 0, xE a_s (y 0) 120 v_s 1, xE a_s (y 0) 120 v_s 2, (a_o, .inr (1, [.int f_o_n, .int f_o_many, .int f_o_sets, .ref a_od, .ref a_op, .ref a_oi, .ref a_ov, .ref a_of, .ref a_ol, .ref a_om, .ref a_ow]))]) [0, 1, 2, 3, 4, 5] rfl
      have hDc := hD.sub (ws' := [(a_x, .inr (5, [.ref a_known, .ref a_so, .ref a_made, .ref a_pcl, .ref a_hi, .ref a_tx, .ref a_rd, .ref a_tb, .ref a_o])), (a_so, .inl (y 4, 3, .inr (.inr (.inr (.inr (xO a_s 3)))))), xE a_s (y 0) 120 v_s 0, xE a_s (y 0) 120 v_s 1, xE a_s (y 0) 120 v_s 2, (a_o, .inr (1, [.int f_o_n, .int f_o_many, .int f_o_sets, .ref a_od, .ref a_op, .ref a_oi, .ref a_ov, .ref a_of, .ref a_ol, .ref a_om, .ref a_ow]))]) [0, 1, 2, 3, 4, 5] (by decide) rfl
      refine xcalli (mc := 0) (ms := 0) (rv := q3) (wc := [(a_x, .inr (5, [.ref a_known, .ref a_so, .ref a_made, .ref a_pcl, .ref a_hi, .ref a_tx, .ref a_rd, .ref a_tb, .ref a_o])), (a_so, .inl (y 4, 3, .inr (.inr (.inr (.inr (xO a_s 3)))))), xE a_s (y 0) 120 v_s 0, xE a_s (y 0) 120 v_s 1, xE a_s (y 0) 120 v_s 2, (a_o, .inr (1, [.int f_o_n, .int f_o_many, .int f_o_sets, .ref a_od, .ref a_op, .ref a_oi, .ref a_ov, .ref a_of, .ref a_ol, .ref a_om, .ref a_ow]))]) (wr := [(a_od, .inl (y 0, lm_o, .inl v_od)), (a_of, .inl (y 0, ls_o, .inl v_of))]) (w1 := [(a_x, .inr (5, [.ref a_known, .ref a_so, .ref a_made, .ref a_pcl, .ref a_hi, .ref a_tx, .ref a_rd, .ref a_tb, .ref a_o])), (a_so, .inl (y 4, 3, .inr (.inr (.inr (.inr (xO a_s 3)))))), xE a_s (y 0) 120 v_s 0, xE a_s (y 0) 120 v_s 1, xE a_s (y 0) 120 v_s 2, (a_o, .inr (1, [.int f_o_n, .int f_o_many, .int f_o_sets, .ref a_od, .ref a_op, .ref a_oi, .ref a_ov, .ref a_of, .ref a_ol, .ref a_om, .ref a_ow]))]) (wf := [(a_x, .inr (5, [.ref a_known, .ref a_so, .ref a_made, .ref a_pcl, .ref a_hi, .ref a_tx, .ref a_rd, .ref a_tb, .ref a_o])), (a_so, .inl (y 4, 3, .inr (.inr (.inr (.inr (xO a_s 3)))))), xE a_s (y 0) 120 v_s 0, xE a_s (y 0) 120 v_s 1, xE a_s (y 0) 120 v_s 2, (a_o, .inr (1, [.int f_o_n, .int f_o_many, .int f_o_sets, .ref a_od, .ref a_op, .ref a_oi, .ref a_ov, .ref a_of, .ref a_ol, .ref a_om, .ref a_ow])), (a_od, .inl (y 0, lm_o, .inl v_od)), (a_of, .inl (y 0, ls_o, .inl v_of))]) (va_runV (As := [.int p1]) (rest := []) ⟨hx, hb, hml, hown, hts⟩ (c_X5_termsIn l D y a_x a_known a_so a_made a_pcl a_hi a_tx a_rd a_tb a_o a_s a_od a_op a_oi a_ov a_of a_ol a_om a_ow v_s f_o_n f_o_many f_o_sets p1 H.size e3) (cwV 1 hts gX5_sumOf_X5_termsIn rfl rfl rfl (by decide +kernel) ⟨Nat.le_of_ble_eq_true rfl, Nat.le_of_ble_eq_true rfl⟩) ⟨xblind, va_recv hK hP (ci := 5) (q0 := 0) rfl rfl, xprev hPc hK hDc⟩ rfl rfl hl.1 rfl (lv_room (Nat.le_of_ble_eq_true rfl)) dX5_sumOf_46 ⟨Nat.le_of_ble_eq_true rfl, Nat.le_of_ble_eq_true rfl⟩) hP hD hS hA [0, 1, 2, 3, 4, 5] [6, 7] [2, 3, 4, 5, 6, 7, 0, 1] rfl rfl (by decide) (by decide) rfl (by decide) (fun H locs hP hD hS => ?_)
      have hB := Option.some.inj hB
      subst hB
      exact W.iret hx hb hr (fun t ht hW => ⟨⟨_, (), rfl, rfl, by rw [ht]; exact hP, va_K.moved hW.alike hK, hD⟩, hS.F ht⟩) hS.2.2 dX5_sumOf_49 hlocks
    · have hB := xin h11_0 hB
      by_cases h11_1 : p2 = 1
      · have hB := xip h11_1 hB
        have ht11 : p2.toInt = 1 := by rw [h11_1]; decide
        refine lv_tableIn (off := 39) (tgt := 50) hx hb dX5_sumOf_11 (by rw [ht11]; decide) (by rw [ht11]; decide) (by rw [ht11]; rfl) (by decide) ?_
        refine lv_aload_n hx hb dX5_sumOf_50 rfl (lv_at hl 0 rfl) ?_
        refine lv_iload_n hx hb dX5_sumOf_51 rfl (lv_at hl 1 rfl) ?_
        obtain ⟨q4, e4, hB⟩ := xbd hB
        have hPc := hP.sub (ws' := [(a_x, .inr (5, [.ref a_known, .ref a_so, .ref a_made, .ref a_pcl, .ref a_hi, .ref a_tx, .ref a_rd, .ref a_tb, .ref a_o])), (a_so, .inl (y 4, 3, .inr (.inr (.inr (.inr (xO a_s 3)))))), xE a_s (y 0) 120 v_s 0, xE a_s (y 0) 120 v_s 1, xE a_s (y 0) 120 v_s 2, (a_o, .inr (1, [.int f_o_n, .int f_o_many, .int f_o_sets, .ref a_od, .ref a_op, .ref a_oi, .ref a_ov, .ref a_of, .ref a_ol, .ref a_om, .ref a_ow]))]) [0, 1, 2, 3, 4, 5] rfl
        have hDc := hD.sub (ws' := [(a_x, .inr (5, [.ref a_known, .ref a_so, .ref a_made, .ref a_pcl, .ref a_hi, .ref a_tx, .ref a_rd, .ref a_tb, .ref a_o])), (a_so, .inl (y 4, 3, .inr (.inr (.inr (.inr (xO a_s 3)))))), xE a_s (y 0) 120 v_s 0, xE a_s (y 0) 120 v_s 1, xE a_s (y 0) 120 v_s 2, (a_o, .inr (1, [.int f_o_n, .int f_o_many, .int f_o_sets, .ref a_od, .ref a_op, .ref a_oi, .ref a_ov, .ref a_of, .ref a_ol, .ref a_om, .ref a_ow]))]) [0, 1, 2, 3, 4, 5] (by decide) rfl
        refine xcalli (mc := 0) (ms := 0) (rv := q4) (wc := [(a_x, .inr (5, [.ref a_known, .ref a_so, .ref a_made, .ref a_pcl, .ref a_hi, .ref a_tx, .ref a_rd, .ref a_tb, .ref a_o])), (a_so, .inl (y 4, 3, .inr (.inr (.inr (.inr (xO a_s 3)))))), xE a_s (y 0) 120 v_s 0, xE a_s (y 0) 120 v_s 1, xE a_s (y 0) 120 v_s 2, (a_o, .inr (1, [.int f_o_n, .int f_o_many, .int f_o_sets, .ref a_od, .ref a_op, .ref a_oi, .ref a_ov, .ref a_of, .ref a_ol, .ref a_om, .ref a_ow]))]) (wr := [(a_od, .inl (y 0, lm_o, .inl v_od)), (a_of, .inl (y 0, ls_o, .inl v_of))]) (w1 := [(a_x, .inr (5, [.ref a_known, .ref a_so, .ref a_made, .ref a_pcl, .ref a_hi, .ref a_tx, .ref a_rd, .ref a_tb, .ref a_o])), (a_so, .inl (y 4, 3, .inr (.inr (.inr (.inr (xO a_s 3)))))), xE a_s (y 0) 120 v_s 0, xE a_s (y 0) 120 v_s 1, xE a_s (y 0) 120 v_s 2, (a_o, .inr (1, [.int f_o_n, .int f_o_many, .int f_o_sets, .ref a_od, .ref a_op, .ref a_oi, .ref a_ov, .ref a_of, .ref a_ol, .ref a_om, .ref a_ow]))]) (wf := [(a_x, .inr (5, [.ref a_known, .ref a_so, .ref a_made, .ref a_pcl, .ref a_hi, .ref a_tx, .ref a_rd, .ref a_tb, .ref a_o])), (a_so, .inl (y 4, 3, .inr (.inr (.inr (.inr (xO a_s 3)))))), xE a_s (y 0) 120 v_s 0, xE a_s (y 0) 120 v_s 1, xE a_s (y 0) 120 v_s 2, (a_o, .inr (1, [.int f_o_n, .int f_o_many, .int f_o_sets, .ref a_od, .ref a_op, .ref a_oi, .ref a_ov, .ref a_of, .ref a_ol, .ref a_om, .ref a_ow])), (a_od, .inl (y 0, lm_o, .inl v_od)), (a_of, .inl (y 0, ls_o, .inl v_of))]) (va_runV (As := [.int p1]) (rest := []) ⟨hx, hb, hml, hown, hts⟩ (c_X5_factorsAddedUp l D y a_x a_known a_so a_made a_pcl a_hi a_tx a_rd a_tb a_o a_s a_od a_op a_oi a_ov a_of a_ol a_om a_ow v_s f_o_n f_o_many f_o_sets p1 H.size e4) (cwV 1 hts gX5_sumOf_X5_factorsAddedUp rfl rfl rfl (by decide +kernel) ⟨Nat.le_of_ble_eq_true rfl, Nat.le_of_ble_eq_true rfl⟩) ⟨xblind, va_recv hK hP (ci := 5) (q0 := 0) rfl rfl, xprev hPc hK hDc⟩ rfl rfl hl.1 rfl (lv_room (Nat.le_of_ble_eq_true rfl)) dX5_sumOf_52 ⟨Nat.le_of_ble_eq_true rfl, Nat.le_of_ble_eq_true rfl⟩) hP hD hS hA [0, 1, 2, 3, 4, 5] [6, 7] [2, 3, 4, 5, 6, 7, 0, 1] rfl rfl (by decide) (by decide) rfl (by decide) (fun H locs hP hD hS => ?_)
        have hB := Option.some.inj hB
        subst hB
        exact W.iret hx hb hr (fun t ht hW => ⟨⟨_, (), rfl, rfl, by rw [ht]; exact hP, va_K.moved hW.alike hK, hD⟩, hS.F ht⟩) hS.2.2 dX5_sumOf_55 hlocks
      · have hB := xin h11_1 hB
        by_cases h11_2 : p2 = 2
        · have hB := xip h11_2 hB
          have ht11 : p2.toInt = 2 := by rw [h11_2]; decide
          refine lv_tableIn (off := 45) (tgt := 56) hx hb dX5_sumOf_11 (by rw [ht11]; decide) (by rw [ht11]; decide) (by rw [ht11]; rfl) (by decide) ?_
          refine lv_aload_n hx hb dX5_sumOf_56 rfl (lv_at hl 0 rfl) ?_
          refine lv_iload_n hx hb dX5_sumOf_57 rfl (lv_at hl 1 rfl) ?_
          obtain ⟨q5, e5, hB⟩ := xbd hB
          have hPc := hP.sub (ws' := [(a_x, .inr (5, [.ref a_known, .ref a_so, .ref a_made, .ref a_pcl, .ref a_hi, .ref a_tx, .ref a_rd, .ref a_tb, .ref a_o])), (a_so, .inl (y 4, 3, .inr (.inr (.inr (.inr (xO a_s 3)))))), xE a_s (y 0) 120 v_s 0, xE a_s (y 0) 120 v_s 1, xE a_s (y 0) 120 v_s 2, (a_o, .inr (1, [.int f_o_n, .int f_o_many, .int f_o_sets, .ref a_od, .ref a_op, .ref a_oi, .ref a_ov, .ref a_of, .ref a_ol, .ref a_om, .ref a_ow])), (a_od, .inl (y 0, lm_o, .inl v_od)), (a_of, .inl (y 0, ls_o, .inl v_of))]) [0, 1, 2, 3, 4, 5, 6, 7] rfl
          have hDc := hD.sub (ws' := [(a_x, .inr (5, [.ref a_known, .ref a_so, .ref a_made, .ref a_pcl, .ref a_hi, .ref a_tx, .ref a_rd, .ref a_tb, .ref a_o])), (a_so, .inl (y 4, 3, .inr (.inr (.inr (.inr (xO a_s 3)))))), xE a_s (y 0) 120 v_s 0, xE a_s (y 0) 120 v_s 1, xE a_s (y 0) 120 v_s 2, (a_o, .inr (1, [.int f_o_n, .int f_o_many, .int f_o_sets, .ref a_od, .ref a_op, .ref a_oi, .ref a_ov, .ref a_of, .ref a_ol, .ref a_om, .ref a_ow])), (a_od, .inl (y 0, lm_o, .inl v_od)), (a_of, .inl (y 0, ls_o, .inl v_of))]) [0, 1, 2, 3, 4, 5, 6, 7] (by decide) rfl
          refine xcalli (mc := 0) (ms := 0) (rv := q5) (wc := [(a_x, .inr (5, [.ref a_known, .ref a_so, .ref a_made, .ref a_pcl, .ref a_hi, .ref a_tx, .ref a_rd, .ref a_tb, .ref a_o])), (a_so, .inl (y 4, 3, .inr (.inr (.inr (.inr (xO a_s 3)))))), xE a_s (y 0) 120 v_s 0, xE a_s (y 0) 120 v_s 1, xE a_s (y 0) 120 v_s 2, (a_o, .inr (1, [.int f_o_n, .int f_o_many, .int f_o_sets, .ref a_od, .ref a_op, .ref a_oi, .ref a_ov, .ref a_of, .ref a_ol, .ref a_om, .ref a_ow])), (a_od, .inl (y 0, lm_o, .inl v_od)), (a_of, .inl (y 0, ls_o, .inl v_of))]) (wr := []) (w1 := [(a_x, .inr (5, [.ref a_known, .ref a_so, .ref a_made, .ref a_pcl, .ref a_hi, .ref a_tx, .ref a_rd, .ref a_tb, .ref a_o])), (a_so, .inl (y 4, 3, .inr (.inr (.inr (.inr (xO a_s 3)))))), xE a_s (y 0) 120 v_s 0, xE a_s (y 0) 120 v_s 1, xE a_s (y 0) 120 v_s 2, (a_o, .inr (1, [.int f_o_n, .int f_o_many, .int f_o_sets, .ref a_od, .ref a_op, .ref a_oi, .ref a_ov, .ref a_of, .ref a_ol, .ref a_om, .ref a_ow])), (a_od, .inl (y 0, lm_o, .inl v_od)), (a_of, .inl (y 0, ls_o, .inl v_of))]) (wf := [(a_x, .inr (5, [.ref a_known, .ref a_so, .ref a_made, .ref a_pcl, .ref a_hi, .ref a_tx, .ref a_rd, .ref a_tb, .ref a_o])), (a_so, .inl (y 4, 3, .inr (.inr (.inr (.inr (xO a_s 3)))))), xE a_s (y 0) 120 v_s 0, xE a_s (y 0) 120 v_s 1, xE a_s (y 0) 120 v_s 2, (a_o, .inr (1, [.int f_o_n, .int f_o_many, .int f_o_sets, .ref a_od, .ref a_op, .ref a_oi, .ref a_ov, .ref a_of, .ref a_ol, .ref a_om, .ref a_ow])), (a_od, .inl (y 0, lm_o, .inl v_od)), (a_of, .inl (y 0, ls_o, .inl v_of))]) (va_runV (As := [.int p1]) (rest := []) ⟨hx, hb, hml, hown, hts⟩ (c_X5_goesByDescents l D y a_x a_known a_so a_made a_pcl a_hi a_tx a_rd a_tb a_o a_s a_od a_op a_oi a_ov a_of a_ol a_om a_ow lm_o ls_o v_s f_o_n f_o_many f_o_sets v_od v_of p1 H.size e5) (cwV 1 hts gX5_sumOf_X5_goesByDescents rfl rfl rfl (by decide +kernel) ⟨Nat.le_of_ble_eq_true rfl, Nat.le_of_ble_eq_true rfl⟩) ⟨xblind, va_recv hK hP (ci := 5) (q0 := 0) rfl rfl, xprev hPc hK hDc⟩ rfl rfl hl.1 rfl (lv_room (Nat.le_of_ble_eq_true rfl)) dX5_sumOf_58 ⟨Nat.le_of_ble_eq_true rfl, Nat.le_of_ble_eq_true rfl⟩) hP hD hS hA [0, 1, 2, 3, 4, 5, 6, 7] [] [0, 1, 2, 3, 4, 5, 6, 7] rfl rfl (by decide) (by decide) rfl (by decide) (fun H locs hP hD hS => ?_)
          refine lv_if_eq (tgt := 68) hx hb dX5_sumOf_61 (by decide) (fun c6 => ?_) (fun c6 => ?_)
          · have hB := xip c6 hB
            refine lv_iconst (v := 0) hx hb dX5_sumOf_68 (by decide) ?_
            have hB := Option.some.inj hB
            subst hB
            exact W.iret hx hb hr (fun t ht hW => ⟨⟨_, (), rfl, rfl, by rw [ht]; exact hP, va_K.moved hW.alike hK, hD⟩, hS.F ht⟩) hS.2.2 dX5_sumOf_69 hlocks
          · have hB := xin c6 hB
            refine lv_iconst (v := 1) hx hb dX5_sumOf_64 (by decide) ?_
            refine lv_goto (tgt := 69) hx hb dX5_sumOf_65 (by decide) ?_
            have hB := Option.some.inj hB
            subst hB
            exact W.iret hx hb hr (fun t ht hW => ⟨⟨_, (), rfl, rfl, by rw [ht]; exact hP, va_K.moved hW.alike hK, hD⟩, hS.F ht⟩) hS.2.2 dX5_sumOf_69 hlocks
        · have hB := xin h11_2 hB
          by_cases h11_3 : p2 = 3
          · have hB := xip h11_3 hB
            have ht11 : p2.toInt = 3 := by rw [h11_3]; decide
            refine lv_tableIn (off := 59) (tgt := 70) hx hb dX5_sumOf_11 (by rw [ht11]; decide) (by rw [ht11]; decide) (by rw [ht11]; rfl) (by decide) ?_
            refine lv_aload_n hx hb dX5_sumOf_70 rfl (lv_at hl 0 rfl) ?_
            refine lv_iload_n hx hb dX5_sumOf_71 rfl (lv_at hl 1 rfl) ?_
            obtain ⟨q7, e7, hB⟩ := xbd hB
            have hPc := hP.sub (ws' := [(a_x, .inr (5, [.ref a_known, .ref a_so, .ref a_made, .ref a_pcl, .ref a_hi, .ref a_tx, .ref a_rd, .ref a_tb, .ref a_o])), (a_so, .inl (y 4, 3, .inr (.inr (.inr (.inr (xO a_s 3)))))), xE a_s (y 0) 120 v_s 0, xE a_s (y 0) 120 v_s 1, xE a_s (y 0) 120 v_s 2, (a_o, .inr (1, [.int f_o_n, .int f_o_many, .int f_o_sets, .ref a_od, .ref a_op, .ref a_oi, .ref a_ov, .ref a_of, .ref a_ol, .ref a_om, .ref a_ow]))]) [0, 1, 2, 3, 4, 5] rfl
            have hDc := hD.sub (ws' := [(a_x, .inr (5, [.ref a_known, .ref a_so, .ref a_made, .ref a_pcl, .ref a_hi, .ref a_tx, .ref a_rd, .ref a_tb, .ref a_o])), (a_so, .inl (y 4, 3, .inr (.inr (.inr (.inr (xO a_s 3)))))), xE a_s (y 0) 120 v_s 0, xE a_s (y 0) 120 v_s 1, xE a_s (y 0) 120 v_s 2, (a_o, .inr (1, [.int f_o_n, .int f_o_many, .int f_o_sets, .ref a_od, .ref a_op, .ref a_oi, .ref a_ov, .ref a_of, .ref a_ol, .ref a_om, .ref a_ow]))]) [0, 1, 2, 3, 4, 5] (by decide) rfl
            refine xcalli (mc := 0) (ms := 0) (rv := q7) (wc := [(a_x, .inr (5, [.ref a_known, .ref a_so, .ref a_made, .ref a_pcl, .ref a_hi, .ref a_tx, .ref a_rd, .ref a_tb, .ref a_o])), (a_so, .inl (y 4, 3, .inr (.inr (.inr (.inr (xO a_s 3)))))), xE a_s (y 0) 120 v_s 0, xE a_s (y 0) 120 v_s 1, xE a_s (y 0) 120 v_s 2, (a_o, .inr (1, [.int f_o_n, .int f_o_many, .int f_o_sets, .ref a_od, .ref a_op, .ref a_oi, .ref a_ov, .ref a_of, .ref a_ol, .ref a_om, .ref a_ow]))]) (wr := [(a_od, .inl (y 0, lm_o, .inl v_od)), (a_of, .inl (y 0, ls_o, .inl v_of))]) (w1 := [(a_x, .inr (5, [.ref a_known, .ref a_so, .ref a_made, .ref a_pcl, .ref a_hi, .ref a_tx, .ref a_rd, .ref a_tb, .ref a_o])), (a_so, .inl (y 4, 3, .inr (.inr (.inr (.inr (xO a_s 3)))))), xE a_s (y 0) 120 v_s 0, xE a_s (y 0) 120 v_s 1, xE a_s (y 0) 120 v_s 2, (a_o, .inr (1, [.int f_o_n, .int f_o_many, .int f_o_sets, .ref a_od, .ref a_op, .ref a_oi, .ref a_ov, .ref a_of, .ref a_ol, .ref a_om, .ref a_ow]))]) (wf := [(a_x, .inr (5, [.ref a_known, .ref a_so, .ref a_made, .ref a_pcl, .ref a_hi, .ref a_tx, .ref a_rd, .ref a_tb, .ref a_o])), (a_so, .inl (y 4, 3, .inr (.inr (.inr (.inr (xO a_s 3)))))), xE a_s (y 0) 120 v_s 0, xE a_s (y 0) 120 v_s 1, xE a_s (y 0) 120 v_s 2, (a_o, .inr (1, [.int f_o_n, .int f_o_many, .int f_o_sets, .ref a_od, .ref a_op, .ref a_oi, .ref a_ov, .ref a_of, .ref a_ol, .ref a_om, .ref a_ow])), (a_od, .inl (y 0, lm_o, .inl v_od)), (a_of, .inl (y 0, ls_o, .inl v_of))]) (va_runV (As := [.int p1]) (rest := []) ⟨hx, hb, hml, hown, hts⟩ (c_X5_greatestIn l D y a_x a_known a_so a_made a_pcl a_hi a_tx a_rd a_tb a_o a_s a_od a_op a_oi a_ov a_of a_ol a_om a_ow v_s f_o_n f_o_many f_o_sets p1 H.size e7) (cwV 1 hts gX5_sumOf_X5_greatestIn rfl rfl rfl (by decide +kernel) ⟨Nat.le_of_ble_eq_true rfl, Nat.le_of_ble_eq_true rfl⟩) ⟨xblind, va_recv hK hP (ci := 5) (q0 := 0) rfl rfl, xprev hPc hK hDc⟩ rfl rfl hl.1 rfl (lv_room (Nat.le_of_ble_eq_true rfl)) dX5_sumOf_72 ⟨Nat.le_of_ble_eq_true rfl, Nat.le_of_ble_eq_true rfl⟩) hP hD hS hA [0, 1, 2, 3, 4, 5] [6, 7] [2, 3, 4, 5, 6, 7, 0, 1] rfl rfl (by decide) (by decide) rfl (by decide) (fun H locs hP hD hS => ?_)
            have hB := Option.some.inj hB
            subst hB
            exact W.iret hx hb hr (fun t ht hW => ⟨⟨_, (), rfl, rfl, by rw [ht]; exact hP, va_K.moved hW.alike hK, hD⟩, hS.F ht⟩) hS.2.2 dX5_sumOf_75 hlocks
          · have hB := xin h11_3 hB
            by_cases h11_4 : p2 = 4
            · have hB := xip h11_4 hB
              have ht11 : p2.toInt = 4 := by rw [h11_4]; decide
              refine lv_tableIn (off := 65) (tgt := 76) hx hb dX5_sumOf_11 (by rw [ht11]; decide) (by rw [ht11]; decide) (by rw [ht11]; rfl) (by decide) ?_
              refine lv_aload_n hx hb dX5_sumOf_76 rfl (lv_at hl 0 rfl) ?_
              refine lv_iload_n hx hb dX5_sumOf_77 rfl (lv_at hl 1 rfl) ?_
              obtain ⟨q8, e8, hB⟩ := xbd hB
              have hPc := hP.sub (ws' := [(a_x, .inr (5, [.ref a_known, .ref a_so, .ref a_made, .ref a_pcl, .ref a_hi, .ref a_tx, .ref a_rd, .ref a_tb, .ref a_o])), (a_so, .inl (y 4, 3, .inr (.inr (.inr (.inr (xO a_s 3)))))), xE a_s (y 0) 120 v_s 0, xE a_s (y 0) 120 v_s 1, xE a_s (y 0) 120 v_s 2, (a_o, .inr (1, [.int f_o_n, .int f_o_many, .int f_o_sets, .ref a_od, .ref a_op, .ref a_oi, .ref a_ov, .ref a_of, .ref a_ol, .ref a_om, .ref a_ow]))]) [0, 1, 2, 3, 4, 5] rfl
              have hDc := hD.sub (ws' := [(a_x, .inr (5, [.ref a_known, .ref a_so, .ref a_made, .ref a_pcl, .ref a_hi, .ref a_tx, .ref a_rd, .ref a_tb, .ref a_o])), (a_so, .inl (y 4, 3, .inr (.inr (.inr (.inr (xO a_s 3)))))), xE a_s (y 0) 120 v_s 0, xE a_s (y 0) 120 v_s 1, xE a_s (y 0) 120 v_s 2, (a_o, .inr (1, [.int f_o_n, .int f_o_many, .int f_o_sets, .ref a_od, .ref a_op, .ref a_oi, .ref a_ov, .ref a_of, .ref a_ol, .ref a_om, .ref a_ow]))]) [0, 1, 2, 3, 4, 5] (by decide) rfl
              refine xcalli (mc := 0) (ms := 0) (rv := q8) (wc := [(a_x, .inr (5, [.ref a_known, .ref a_so, .ref a_made, .ref a_pcl, .ref a_hi, .ref a_tx, .ref a_rd, .ref a_tb, .ref a_o])), (a_so, .inl (y 4, 3, .inr (.inr (.inr (.inr (xO a_s 3)))))), xE a_s (y 0) 120 v_s 0, xE a_s (y 0) 120 v_s 1, xE a_s (y 0) 120 v_s 2, (a_o, .inr (1, [.int f_o_n, .int f_o_many, .int f_o_sets, .ref a_od, .ref a_op, .ref a_oi, .ref a_ov, .ref a_of, .ref a_ol, .ref a_om, .ref a_ow]))]) (wr := [(a_od, .inl (y 0, lm_o, .inl v_od)), (a_of, .inl (y 0, ls_o, .inl v_of))]) (w1 := [(a_x, .inr (5, [.ref a_known, .ref a_so, .ref a_made, .ref a_pcl, .ref a_hi, .ref a_tx, .ref a_rd, .ref a_tb, .ref a_o])), (a_so, .inl (y 4, 3, .inr (.inr (.inr (.inr (xO a_s 3)))))), xE a_s (y 0) 120 v_s 0, xE a_s (y 0) 120 v_s 1, xE a_s (y 0) 120 v_s 2, (a_o, .inr (1, [.int f_o_n, .int f_o_many, .int f_o_sets, .ref a_od, .ref a_op, .ref a_oi, .ref a_ov, .ref a_of, .ref a_ol, .ref a_om, .ref a_ow]))]) (wf := [(a_x, .inr (5, [.ref a_known, .ref a_so, .ref a_made, .ref a_pcl, .ref a_hi, .ref a_tx, .ref a_rd, .ref a_tb, .ref a_o])), (a_so, .inl (y 4, 3, .inr (.inr (.inr (.inr (xO a_s 3)))))), xE a_s (y 0) 120 v_s 0, xE a_s (y 0) 120 v_s 1, xE a_s (y 0) 120 v_s 2, (a_o, .inr (1, [.int f_o_n, .int f_o_many, .int f_o_sets, .ref a_od, .ref a_op, .ref a_oi, .ref a_ov, .ref a_of, .ref a_ol, .ref a_om, .ref a_ow])), (a_od, .inl (y 0, lm_o, .inl v_od)), (a_of, .inl (y 0, ls_o, .inl v_of))]) (va_runV (As := [.int p1]) (rest := []) ⟨hx, hb, hml, hown, hts⟩ (c_X5_leastIn l D y a_x a_known a_so a_made a_pcl a_hi a_tx a_rd a_tb a_o a_s a_od a_op a_oi a_ov a_of a_ol a_om a_ow v_s f_o_n f_o_many f_o_sets p1 H.size e8) (cwV 1 hts gX5_sumOf_X5_leastIn rfl rfl rfl (by decide +kernel) ⟨Nat.le_of_ble_eq_true rfl, Nat.le_of_ble_eq_true rfl⟩) ⟨xblind, va_recv hK hP (ci := 5) (q0 := 0) rfl rfl, xprev hPc hK hDc⟩ rfl rfl hl.1 rfl (lv_room (Nat.le_of_ble_eq_true rfl)) dX5_sumOf_78 ⟨Nat.le_of_ble_eq_true rfl, Nat.le_of_ble_eq_true rfl⟩) hP hD hS hA [0, 1, 2, 3, 4, 5] [6, 7] [2, 3, 4, 5, 6, 7, 0, 1] rfl rfl (by decide) (by decide) rfl (by decide) (fun H locs hP hD hS => ?_)
              have hB := Option.some.inj hB
              subst hB
              exact W.iret hx hb hr (fun t ht hW => ⟨⟨_, (), rfl, rfl, by rw [ht]; exact hP, va_K.moved hW.alike hK, hD⟩, hS.F ht⟩) hS.2.2 dX5_sumOf_81 hlocks
            · have hB := xin h11_4 hB
              have hout : p2.toInt < 0 ∨ 4 < p2.toInt := by
                have z0 := lv_neT h11_0 (show (0 : Int32).toInt = 0 by decide)
                have z1 := lv_neT h11_1 (show (1 : Int32).toInt = 1 by decide)
                have z2 := lv_neT h11_2 (show (2 : Int32).toInt = 2 by decide)
                have z3 := lv_neT h11_3 (show (3 : Int32).toInt = 3 by decide)
                have z4 := lv_neT h11_4 (show (4 : Int32).toInt = 4 by decide)
                omega
              refine lv_tableOut (tgt := 82) hx hb dX5_sumOf_11 hout (by decide) ?_
              refine lv_ldc (v := -10000001) hx hb hown (hts _ kX5_sumOf_c67) dX5_sumOf_82 ?_
              have hB := Option.some.inj hB
              subst hB
              exact W.iret hx hb hr (fun t ht hW => ⟨⟨_, (), rfl, rfl, by rw [ht]; exact hP, va_K.moved hW.alike hK, hD⟩, hS.F ht⟩) hS.2.2 dX5_sumOf_84 hlocks
  · have hB := xip c2 hB
    refine lv_ldc (v := -10000001) hx hb hown (hts _ kX5_sumOf_c67) dX5_sumOf_7 ?_
    have hB := Option.some.inj hB
    subst hB
    exact W.iret hx hb hr (fun t ht hW => ⟨⟨_, (), rfl, rfl, by rw [ht]; exact hP, va_K.moved hW.alike hK, hD⟩, hS.F ht⟩) hS.2.2 dX5_sumOf_9 hlocks
set_option maxHeartbeats 4000000 in
set_option maxRecDepth 100000 in
theorem c_X5_sumOf (l : Launch) (D : va_G) (y : Nat → ClassId) (a_x : Nat) (a_known : Nat) (a_so : Nat) (a_made : Nat) (a_pcl : Nat) (a_hi : Nat) (a_tx : Nat) (a_rd : Nat) (a_tb : Nat) (a_o : Nat) (a_s : Nat → Nat) (a_od : Nat) (a_op : Nat) (a_oi : Nat) (a_ov : Nat) (a_of : Nat) (a_ol : Nat) (a_om : Nat) (a_ow : Nat) (lm_o : Nat) (ls_o : Nat) (v_s : Nat → Nat → Int32) (f_o_n : Int32) (f_o_many : Int32) (f_o_sets : Int32) (v_od : Nat → Int32) (v_of : Nat → Int32) (p1 : Int32) (p2 : Int32) (sz : Nat) {R : Int32} (hF : F_X5_sumOf lm_o ls_o v_s f_o_many v_od v_of p1 p2 = some R) : Met l yX5_sumOf wsX5_sumOf ({ frames := 2, cells := 0, slots := 0, locals := 44 } : Room) (xPre D y sz [.ref a_x, .int p1, .int p2] [(a_x, .inr (5, [.ref a_known, .ref a_so, .ref a_made, .ref a_pcl, .ref a_hi, .ref a_tx, .ref a_rd, .ref a_tb, .ref a_o])), (a_so, .inl (y 4, 3, .inr (.inr (.inr (.inr (xO a_s 3)))))), xE a_s (y 0) 120 v_s 0, xE a_s (y 0) 120 v_s 1, xE a_s (y 0) 120 v_s 2, (a_o, .inr (1, [.int f_o_n, .int f_o_many, .int f_o_sets, .ref a_od, .ref a_op, .ref a_oi, .ref a_ov, .ref a_of, .ref a_ol, .ref a_om, .ref a_ow])), (a_od, .inl (y 0, lm_o, .inl v_od)), (a_of, .inl (y 0, ls_o, .inl v_of))]) (va_Qi (fun (r : Int32) (_ : Unit) => r = R) (xB D y (va_A [(a_x, .inr (5, [.ref a_known, .ref a_so, .ref a_made, .ref a_pcl, .ref a_hi, .ref a_tx, .ref a_rd, .ref a_tb, .ref a_o])), (a_so, .inl (y 4, 3, .inr (.inr (.inr (.inr (xO a_s 3)))))), xE a_s (y 0) 120 v_s 0, xE a_s (y 0) 120 v_s 1, xE a_s (y 0) 120 v_s 2, (a_o, .inr (1, [.int f_o_n, .int f_o_many, .int f_o_sets, .ref a_od, .ref a_op, .ref a_oi, .ref a_ov, .ref a_of, .ref a_ol, .ref a_om, .ref a_ow])), (a_od, .inl (y 0, lm_o, .inl v_od)), (a_of, .inl (y 0, ls_o, .inl v_of))] sz) [(a_x, .inr (5, [.ref a_known, .ref a_so, .ref a_made, .ref a_pcl, .ref a_hi, .ref a_tx, .ref a_rd, .ref a_tb, .ref a_o])), (a_so, .inl (y 4, 3, .inr (.inr (.inr (.inr (xO a_s 3)))))), xE a_s (y 0) 120 v_s 0, xE a_s (y 0) 120 v_s 1, xE a_s (y 0) 120 v_s 2, (a_o, .inr (1, [.int f_o_n, .int f_o_many, .int f_o_sets, .ref a_od, .ref a_op, .ref a_oi, .ref a_ov, .ref a_of, .ref a_ol, .ref a_om, .ref a_ow])), (a_od, .inl (y 0, lm_o, .inl v_od)), (a_of, .inl (y 0, ls_o, .inl v_of))]) (va_A [(a_x, .inr (5, [.ref a_known, .ref a_so, .ref a_made, .ref a_pcl, .ref a_hi, .ref a_tx, .ref a_rd, .ref a_tb, .ref a_o])), (a_so, .inl (y 4, 3, .inr (.inr (.inr (.inr (xO a_s 3)))))), xE a_s (y 0) 120 v_s 0, xE a_s (y 0) 120 v_s 1, xE a_s (y 0) 120 v_s 2, (a_o, .inr (1, [.int f_o_n, .int f_o_many, .int f_o_sets, .ref a_od, .ref a_op, .ref a_oi, .ref a_ov, .ref a_of, .ref a_ol, .ref a_om, .ref a_ow])), (a_od, .inl (y 0, lm_o, .inl v_od)), (a_of, .inl (y 0, ls_o, .inl v_of))] sz)) 0 0 (va_A [(a_x, .inr (5, [.ref a_known, .ref a_so, .ref a_made, .ref a_pcl, .ref a_hi, .ref a_tx, .ref a_rd, .ref a_tb, .ref a_o])), (a_so, .inl (y 4, 3, .inr (.inr (.inr (.inr (xO a_s 3)))))), xE a_s (y 0) 120 v_s 0, xE a_s (y 0) 120 v_s 1, xE a_s (y 0) 120 v_s 2, (a_o, .inr (1, [.int f_o_n, .int f_o_many, .int f_o_sets, .ref a_od, .ref a_op, .ref a_oi, .ref a_ov, .ref a_of, .ref a_ol, .ref a_om, .ref a_ow])), (a_od, .inl (y 0, lm_o, .inl v_od)), (a_of, .inl (y 0, ls_o, .inl v_of))] sz) := by
  refine Met.ofW (cc := cX5_sumOf) (maxL := 3) (ret := (some .int)) (by decide) rfl ?_
  intro p e s m args below meth c s₁ B hml hv
  obtain ⟨rfl, hsz, hP, hK, hD0⟩ := hv
  subst hsz
  have hD := hD0.self (sz := s.heap.size)
  have C : xC p s m [.ref a_x, .int p1, .int p2].toArray meth c (va_A [(a_x, .inr (5, [.ref a_known, .ref a_so, .ref a_made, .ref a_pcl, .ref a_hi, .ref a_tx, .ref a_rd, .ref a_tb, .ref a_o])), (a_so, .inl (y 4, 3, .inr (.inr (.inr (.inr (xO a_s 3)))))), xE a_s (y 0) 120 v_s 0, xE a_s (y 0) 120 v_s 1, xE a_s (y 0) 120 v_s 2, (a_o, .inr (1, [.int f_o_n, .int f_o_many, .int f_o_sets, .ref a_od, .ref a_op, .ref a_oi, .ref a_ov, .ref a_of, .ref a_ol, .ref a_om, .ref a_ow])), (a_od, .inl (y 0, lm_o, .inl v_od)), (a_of, .inl (y 0, ls_o, .inl v_of))] s.heap.size) cX5_sumOf RX5 wsX5_sumOf 3 (some .int) D y := ⟨B.exec, B.bytes, hml, findClass_of_methodNamed B.named, atoms_spec (ws := wsX5_sumOf) B.pre, B.returns, B.notSynchronized, hK, fun q h => Or.inr h⟩
  have hl := lv_entry ([.ref a_x, .int p1, .int p2]) (n := 3) (Nat.le_of_ble_eq_true rfl)
  rw [lg_entry_eq]
  generalize (lg_sl ([.ref a_x, .int p1, .int p2]) ++ List.replicate (3 - (lg_sl ([.ref a_x, .int p1, .int p2])).length) Slot.unset).toArray = ls at hl ⊢
  have hl : lv_has ls 3 [(0, .ref a_x), (1, .int p1), (2, .int p2)] := hl
  exact B_X5_sumOf_0 (p1 := p1) (p2 := p2) C  s.heap [] ls hP hD va_S.rf hl hF
theorem kJ6_bitCount_0f7a4_c265 : Cond.constant RJ6 265 (1431655765) ∈ wsJ6_bitCount_0f7a4 := by decide +kernel
theorem kJ6_bitCount_0f7a4_c266 : Cond.constant RJ6 266 (858993459) ∈ wsJ6_bitCount_0f7a4 := by decide +kernel
theorem kJ6_bitCount_0f7a4_c267 : Cond.constant RJ6 267 (252645135) ∈ wsJ6_bitCount_0f7a4 := by decide +kernel
def S_J6_bitCount_0f7a4_0 (p : Program) (l : Launch) (e : Env) (s : State) (m : MethodId) (args : Array Value) (below : List Frame) (meth : Method) (c : Code) (A : Nat → Prop) (D : va_G) (y : Nat → ClassId)  (R : Int32) (κ : Int32 → Option (Int32)) : Prop := ∀ (x0 : Int32) (H : Heap) (locs : List Loc) (ls : Array Slot), va_P D vwCl [] H → va_D A [] → va_S A s.heap H locs → lv_has ls 1 [(0, .int x0)] → κ x0 = some R → W p l e ({ frames := 0, cells := 0, slots := 0, locals := 0 } : Room) s m args below meth c H locs 0 0 (MQ below (va_Qi (fun (r : Int32) (_ : Unit) => r = R) (xB D y A []) A) args s 0 0 A) (F0 m 0 ls [])
set_option maxHeartbeats 4000000 in
set_option maxRecDepth 100000 in
theorem B_J6_bitCount_0f7a4_0 {p : Program} {l : Launch} {e : Env} {s : State} {m : MethodId} {args : Array Value} {below : List Frame} {meth : Method} {c : Code} {A : Nat → Prop} {D : va_G} {y : Nat → ClassId}  {R : Int32} (C : xC p s m args meth c A cJ6_bitCount_0f7a4 RJ6 wsJ6_bitCount_0f7a4 1 (some .int) D y)  : S_J6_bitCount_0f7a4_0 p l e s m args below meth c A D y  R (F_J6_bitCount_0f7a4 ) := by
  have C0 := C
  obtain ⟨hx, hb, hml, hown, hts, hr, hlocks, hK, hA⟩ := C
  intro x0 H locs ls hP hD hS hl hB
  unfold F_J6_bitCount_0f7a4 at hB
  refine lv_iload_n hx hb dJ6_bitCount_0f7a4_0 rfl (lv_at hl 0 rfl) ?_
  refine lv_iload_n hx hb dJ6_bitCount_0f7a4_1 rfl (lv_at hl 0 rfl) ?_
  refine lv_iconst (v := 1) hx hb dJ6_bitCount_0f7a4_2 (by decide) ?_
  refine lv_iushr hx hb dJ6_bitCount_0f7a4_3 rfl ?_
  refine lv_ldcw (v := 1431655765) hx hb hown (hts _ kJ6_bitCount_0f7a4_c265) dJ6_bitCount_0f7a4_4 ?_
  refine lv_iand hx hb dJ6_bitCount_0f7a4_7 ?_
  refine lv_isub hx hb dJ6_bitCount_0f7a4_8 ?_
  refine lv_istore_n (lv' := [(0, .int (x0 - (((x0.toUInt32 >>> ((1 : Int32).toUInt32 &&& Int32.toUInt32 31)).toInt32) &&& (1431655765 : Int32))))]) hx hb dJ6_bitCount_0f7a4_9 rfl hl (by decide) rfl (fun ls hl => ?_)
  refine lv_iload_n hx hb dJ6_bitCount_0f7a4_10 rfl (lv_at hl 0 rfl) ?_
  refine lv_ldcw (v := 858993459) hx hb hown (hts _ kJ6_bitCount_0f7a4_c266) dJ6_bitCount_0f7a4_11 ?_
  refine lv_iand hx hb dJ6_bitCount_0f7a4_14 ?_
  refine lv_iload_n hx hb dJ6_bitCount_0f7a4_15 rfl (lv_at hl 0 rfl) ?_
  refine lv_iconst (v := 2) hx hb dJ6_bitCount_0f7a4_16 (by decide) ?_
  refine lv_iushr hx hb dJ6_bitCount_0f7a4_17 rfl ?_
  refine lv_ldcw (v := 858993459) hx hb hown (hts _ kJ6_bitCount_0f7a4_c266) dJ6_bitCount_0f7a4_18 ?_
  refine lv_iand hx hb dJ6_bitCount_0f7a4_21 ?_
  refine lv_iadd hx hb dJ6_bitCount_0f7a4_22 ?_
  refine lv_istore_n (lv' := [(0, .int (((x0 - (((x0.toUInt32 >>> ((1 : Int32).toUInt32 &&& Int32.toUInt32 31)).toInt32) &&& (1431655765 : Int32))) &&& (858993459 : Int32)) + ((((x0 - (((x0.toUInt32 >>> ((1 : Int32).toUInt32 &&& Int32.toUInt32 31)).toInt32) &&& (1431655765 : Int32))).toUInt32 >>> ((2 : Int32).toUInt32 &&& Int32.toUInt32 31)).toInt32) &&& (858993459 : Int32))))]) hx hb dJ6_bitCount_0f7a4_23 rfl hl (by decide) rfl (fun ls hl => ?_)
  refine lv_iload_n hx hb dJ6_bitCount_0f7a4_24 rfl (lv_at hl 0 rfl) ?_
  refine lv_iload_n hx hb dJ6_bitCount_0f7a4_25 rfl (lv_at hl 0 rfl) ?_
  refine lv_iconst (v := 4) hx hb dJ6_bitCount_0f7a4_26 (by decide) ?_
  refine lv_iushr hx hb dJ6_bitCount_0f7a4_27 rfl ?_
  refine lv_iadd hx hb dJ6_bitCount_0f7a4_28 ?_
  refine lv_ldcw (v := 252645135) hx hb hown (hts _ kJ6_bitCount_0f7a4_c267) dJ6_bitCount_0f7a4_29 ?_
  refine lv_iand hx hb dJ6_bitCount_0f7a4_32 ?_
  refine lv_istore_n (lv' := [(0, .int (((((x0 - (((x0.toUInt32 >>> ((1 : Int32).toUInt32 &&& Int32.toUInt32 31)).toInt32) &&& (1431655765 : Int32))) &&& (858993459 : Int32)) + ((((x0 - (((x0.toUInt32 >>> ((1 : Int32).toUInt32 &&& Int32.toUInt32 31)).toInt32) &&& (1431655765 : Int32))).toUInt32 >>> ((2 : Int32).toUInt32 &&& Int32.toUInt32 31)).toInt32) &&& (858993459 : Int32))) + (((((x0 - (((x0.toUInt32 >>> ((1 : Int32).toUInt32 &&& Int32.toUInt32 31)).toInt32) &&& (1431655765 : Int32))) &&& (858993459 : Int32)) + ((((x0 - (((x0.toUInt32 >>> ((1 : Int32).toUInt32 &&& Int32.toUInt32 31)).toInt32) &&& (1431655765 : Int32))).toUInt32 >>> ((2 : Int32).toUInt32 &&& Int32.toUInt32 31)).toInt32) &&& (858993459 : Int32))).toUInt32 >>> ((4 : Int32).toUInt32 &&& Int32.toUInt32 31)).toInt32)) &&& (252645135 : Int32)))]) hx hb dJ6_bitCount_0f7a4_33 rfl hl (by decide) rfl (fun ls hl => ?_)
  refine lv_iload_n hx hb dJ6_bitCount_0f7a4_34 rfl (lv_at hl 0 rfl) ?_
  refine lv_iload_n hx hb dJ6_bitCount_0f7a4_35 rfl (lv_at hl 0 rfl) ?_
  refine lv_bipush (v := 8) hx hb dJ6_bitCount_0f7a4_36 (by decide) ?_
  refine lv_iushr hx hb dJ6_bitCount_0f7a4_38 rfl ?_
  refine lv_iadd hx hb dJ6_bitCount_0f7a4_39 ?_
  refine lv_istore_n (lv' := [(0, .int ((((((x0 - (((x0.toUInt32 >>> ((1 : Int32).toUInt32 &&& Int32.toUInt32 31)).toInt32) &&& (1431655765 : Int32))) &&& (858993459 : Int32)) + ((((x0 - (((x0.toUInt32 >>> ((1 : Int32).toUInt32 &&& Int32.toUInt32 31)).toInt32) &&& (1431655765 : Int32))).toUInt32 >>> ((2 : Int32).toUInt32 &&& Int32.toUInt32 31)).toInt32) &&& (858993459 : Int32))) + (((((x0 - (((x0.toUInt32 >>> ((1 : Int32).toUInt32 &&& Int32.toUInt32 31)).toInt32) &&& (1431655765 : Int32))) &&& (858993459 : Int32)) + ((((x0 - (((x0.toUInt32 >>> ((1 : Int32).toUInt32 &&& Int32.toUInt32 31)).toInt32) &&& (1431655765 : Int32))).toUInt32 >>> ((2 : Int32).toUInt32 &&& Int32.toUInt32 31)).toInt32) &&& (858993459 : Int32))).toUInt32 >>> ((4 : Int32).toUInt32 &&& Int32.toUInt32 31)).toInt32)) &&& (252645135 : Int32)) + (((((((x0 - (((x0.toUInt32 >>> ((1 : Int32).toUInt32 &&& Int32.toUInt32 31)).toInt32) &&& (1431655765 : Int32))) &&& (858993459 : Int32)) + ((((x0 - (((x0.toUInt32 >>> ((1 : Int32).toUInt32 &&& Int32.toUInt32 31)).toInt32) &&& (1431655765 : Int32))).toUInt32 >>> ((2 : Int32).toUInt32 &&& Int32.toUInt32 31)).toInt32) &&& (858993459 : Int32))) + (((((x0 - (((x0.toUInt32 >>> ((1 : Int32).toUInt32 &&& Int32.toUInt32 31)).toInt32) &&& (1431655765 : Int32))) &&& (858993459 : Int32)) + ((((x0 - (((x0.toUInt32 >>> ((1 : Int32).toUInt32 &&& Int32.toUInt32 31)).toInt32) &&& (1431655765 : Int32))).toUInt32 >>> ((2 : Int32).toUInt32 &&& Int32.toUInt32 31)).toInt32) &&& (858993459 : Int32))).toUInt32 >>> ((4 : Int32).toUInt32 &&& Int32.toUInt32 31)).toInt32)) &&& (252645135 : Int32)).toUInt32 >>> ((8 : Int32).toUInt32 &&& Int32.toUInt32 31)).toInt32)))]) hx hb dJ6_bitCount_0f7a4_40 rfl hl (by decide) rfl (fun ls hl => ?_)
  refine lv_iload_n hx hb dJ6_bitCount_0f7a4_41 rfl (lv_at hl 0 rfl) ?_
  refine lv_iload_n hx hb dJ6_bitCount_0f7a4_42 rfl (lv_at hl 0 rfl) ?_
  refine lv_bipush (v := 16) hx hb dJ6_bitCount_0f7a4_43 (by decide) ?_
  refine lv_iushr hx hb dJ6_bitCount_0f7a4_45 rfl ?_
  refine lv_iadd hx hb dJ6_bitCount_0f7a4_46 ?_
  refine lv_istore_n (lv' := [(0, .int (((((((x0 - (((x0.toUInt32 >>> ((1 : Int32).toUInt32 &&& Int32.toUInt32 31)).toInt32) &&& (1431655765 : Int32))) &&& (858993459 : Int32)) + ((((x0 - (((x0.toUInt32 >>> ((1 : Int32).toUInt32 &&& Int32.toUInt32 31)).toInt32) &&& (1431655765 : Int32))).toUInt32 >>> ((2 : Int32).toUInt32 &&& Int32.toUInt32 31)).toInt32) &&& (858993459 : Int32))) + (((((x0 - (((x0.toUInt32 >>> ((1 : Int32).toUInt32 &&& Int32.toUInt32 31)).toInt32) &&& (1431655765 : Int32))) &&& (858993459 : Int32)) + ((((x0 - (((x0.toUInt32 >>> ((1 : Int32).toUInt32 &&& Int32.toUInt32 31)).toInt32) &&& (1431655765 : Int32))).toUInt32 >>> ((2 : Int32).toUInt32 &&& Int32.toUInt32 31)).toInt32) &&& (858993459 : Int32))).toUInt32 >>> ((4 : Int32).toUInt32 &&& Int32.toUInt32 31)).toInt32)) &&& (252645135 : Int32)) + (((((((x0 - (((x0.toUInt32 >>> ((1 : Int32).toUInt32 &&& Int32.toUInt32 31)).toInt32) &&& (1431655765 : Int32))) &&& (858993459 : Int32)) + ((((x0 - (((x0.toUInt32 >>> ((1 : Int32).toUInt32 &&& Int32.toUInt32 31)).toInt32) &&& (1431655765 : Int32))).toUInt32 >>> ((2 : Int32).toUInt32 &&& Int32.toUInt32 31)).toInt32) &&& (858993459 : Int32))) + (((((x0 - (((x0.toUInt32 >>> ((1 : Int32).toUInt32 &&& Int32.toUInt32 31)).toInt32) &&& (1431655765 : Int32))) &&& (858993459 : Int32)) + ((((x0 - (((x0.toUInt32 >>> ((1 : Int32).toUInt32 &&& Int32.toUInt32 31)).toInt32) &&& (1431655765 : Int32))).toUInt32 >>> ((2 : Int32).toUInt32 &&& Int32.toUInt32 31)).toInt32) &&& (858993459 : Int32))).toUInt32 >>> ((4 : Int32).toUInt32 &&& Int32.toUInt32 31)).toInt32)) &&& (252645135 : Int32)).toUInt32 >>> ((8 : Int32).toUInt32 &&& Int32.toUInt32 31)).toInt32)) + ((((((((x0 - (((x0.toUInt32 >>> ((1 : Int32).toUInt32 &&& Int32.toUInt32 31)).toInt32) &&& (1431655765 : Int32))) &&& (858993459 : Int32)) + ((((x0 - (((x0.toUInt32 >>> ((1 : Int32).toUInt32 &&& Int32.toUInt32 31)).toInt32) &&& (1431655765 : Int32))).toUInt32 >>> ((2 : Int32).toUInt32 &&& Int32.toUInt32 31)).toInt32) &&& (858993459 : Int32))) + (((((x0 - (((x0.toUInt32 >>> ((1 : Int32).toUInt32 &&& Int32.toUInt32 31)).toInt32) &&& (1431655765 : Int32))) &&& (858993459 : Int32)) + ((((x0 - (((x0.toUInt32 >>> ((1 : Int32).toUInt32 &&& Int32.toUInt32 31)).toInt32) &&& (1431655765 : Int32))).toUInt32 >>> ((2 : Int32).toUInt32 &&& Int32.toUInt32 31)).toInt32) &&& (858993459 : Int32))).toUInt32 >>> ((4 : Int32).toUInt32 &&& Int32.toUInt32 31)).toInt32)) &&& (252645135 : Int32)) + (((((((x0 - (((x0.toUInt32 >>> ((1 : Int32).toUInt32 &&& Int32.toUInt32 31)).toInt32) &&& (1431655765 : Int32))) &&& (858993459 : Int32)) + ((((x0 - (((x0.toUInt32 >>> ((1 : Int32).toUInt32 &&& Int32.toUInt32 31)).toInt32) &&& (1431655765 : Int32))).toUInt32 >>> ((2 : Int32).toUInt32 &&& Int32.toUInt32 31)).toInt32) &&& (858993459 : Int32))) + (((((x0 - (((x0.toUInt32 >>> ((1 : Int32).toUInt32 &&& Int32.toUInt32 31)).toInt32) &&& (1431655765 : Int32))) &&& (858993459 : Int32)) + ((((x0 - (((x0.toUInt32 >>> ((1 : Int32).toUInt32 &&& Int32.toUInt32 31)).toInt32) &&& (1431655765 : Int32))).toUInt32 >>> ((2 : Int32).toUInt32 &&& Int32.toUInt32 31)).toInt32) &&& (858993459 : Int32))).toUInt32 >>> ((4 : Int32).toUInt32 &&& Int32.toUInt32 31)).toInt32)) &&& (252645135 : Int32)).toUInt32 >>> ((8 : Int32).toUInt32 &&& Int32.toUInt32 31)).toInt32)).toUInt32 >>> ((16 : Int32).toUInt32 &&& Int32.toUInt32 31)).toInt32)))]) hx hb dJ6_bitCount_0f7a4_47 rfl hl (by decide) rfl (fun ls hl => ?_)
  refine lv_iload_n hx hb dJ6_bitCount_0f7a4_48 rfl (lv_at hl 0 rfl) ?_
  refine lv_bipush (v := 63) hx hb dJ6_bitCount_0f7a4_49 (by decide) ?_
  refine lv_iand hx hb dJ6_bitCount_0f7a4_51 ?_
  have hB := Option.some.inj hB
  subst hB
  exact W.iret hx hb hr (fun t ht hW => ⟨⟨_, (), rfl, rfl, by rw [ht]; exact hP, va_K.moved hW.alike hK, hD⟩, hS.F ht⟩) hS.2.2 dJ6_bitCount_0f7a4_52 hlocks
set_option maxHeartbeats 4000000 in
set_option maxRecDepth 100000 in
theorem c_J6_bitCount_0f7a4 (l : Launch) (D : va_G) (y : Nat → ClassId)    (p0 : Int32) (sz : Nat) {R : Int32} (hF : F_J6_bitCount_0f7a4 p0 = some R) : Met l yJ6_bitCount_0f7a4 wsJ6_bitCount_0f7a4 ({ frames := 0, cells := 0, slots := 0, locals := 0 } : Room) (xPre D y sz [.int p0] []) (va_Qi (fun (r : Int32) (_ : Unit) => r = R) (xB D y (va_A [] sz) []) (va_A [] sz)) 0 0 (va_A [] sz) := by
  refine Met.ofW (cc := cJ6_bitCount_0f7a4) (maxL := 1) (ret := (some .int)) (by decide) rfl ?_
  intro p e s m args below meth c s₁ B hml hv
  obtain ⟨rfl, hsz, hP, hK, hD0⟩ := hv
  subst hsz
  have hD := hD0.self (sz := s.heap.size)
  have C : xC p s m [.int p0].toArray meth c (va_A [] s.heap.size) cJ6_bitCount_0f7a4 RJ6 wsJ6_bitCount_0f7a4 1 (some .int) D y := ⟨B.exec, B.bytes, hml, findClass_of_methodNamed B.named, atoms_spec (ws := wsJ6_bitCount_0f7a4) B.pre, B.returns, B.notSynchronized, hK, fun q h => Or.inr h⟩
  have hl := lv_entry ([.int p0]) (n := 1) (Nat.le_of_ble_eq_true rfl)
  rw [lg_entry_eq]
  generalize (lg_sl ([.int p0]) ++ List.replicate (1 - (lg_sl ([.int p0])).length) Slot.unset).toArray = ls at hl ⊢
  have hl : lv_has ls 1 [(0, .int p0)] := hl
  exact B_J6_bitCount_0f7a4_0 C p0 s.heap [] ls hP hD va_S.rf hl hF
theorem kX5_wideFactor_f59 : Cond.fieldLink RX5 59 "DescentShuffles" "orders" "LDescentShuffles$Orders;" ∈ wsX5_wideFactor := by decide +kernel
theorem kX5_wideFactor_wX5 : ∀ w ∈ u_ws RX5 TX5 9, w ∈ wsX5_wideFactor := by decide +kernel
theorem kX5_wideFactor_f170 : Cond.fieldLink RX5 170 "DescentShuffles$Orders" "sets" "I" ∈ wsX5_wideFactor := by decide +kernel
theorem kX5_wideFactor_wX1 : ∀ w ∈ u_ws RX1 TX1 11, w ∈ wsX5_wideFactor := by decide +kernel
theorem kX5_wideFactor_f24 : Cond.fieldLink RX5 24 "DescentShuffles" "perClass" "[J" ∈ wsX5_wideFactor := by decide +kernel
def S_X5_wideFactor_43 (p : Program) (l : Launch) (e : Env) (s : State) (m : MethodId) (args : Array Value) (below : List Frame) (meth : Method) (c : Code) (A : Nat → Prop) (D : va_G) (y : Nat → ClassId) (a_x : Nat) (a_known : Nat) (a_so : Nat) (a_made : Nat) (a_pcl : Nat) (a_hi : Nat) (a_tx : Nat) (a_rd : Nat) (a_tb : Nat) (a_o : Nat) (a_od : Nat) (a_op : Nat) (a_oi : Nat) (a_ov : Nat) (a_of : Nat) (a_ol : Nat) (a_om : Nat) (a_ow : Nat) (v_pcl : Nat → Int64) (f_o_n : Int32) (f_o_many : Int32) (f_o_sets : Int32) (p1 : Int32) (R : Int32) (κ : Int64 → Int32 → Int32 → Option (Int32)) : Prop := ∀ (x2 : Int64) (x4 : Int32) (t0 : Int32) (H : Heap) (locs : List Loc) (ls : Array Slot), va_P D vwCl [(a_x, .inr (5, [.ref a_known, .ref a_so, .ref a_made, .ref a_pcl, .ref a_hi, .ref a_tx, .ref a_rd, .ref a_tb, .ref a_o])), (a_pcl, .inl (y 1, 16, .inr (.inl v_pcl))), (a_o, .inr (1, [.int f_o_n, .int f_o_many, .int f_o_sets, .ref a_od, .ref a_op, .ref a_oi, .ref a_ov, .ref a_of, .ref a_ol, .ref a_om, .ref a_ow]))] H → va_D A [(a_x, .inr (5, [.ref a_known, .ref a_so, .ref a_made, .ref a_pcl, .ref a_hi, .ref a_tx, .ref a_rd, .ref a_tb, .ref a_o])), (a_pcl, .inl (y 1, 16, .inr (.inl v_pcl))), (a_o, .inr (1, [.int f_o_n, .int f_o_many, .int f_o_sets, .ref a_od, .ref a_op, .ref a_oi, .ref a_ov, .ref a_of, .ref a_ol, .ref a_om, .ref a_ow]))] → va_S A s.heap H locs → lv_has ls 6 [(0, .ref a_x), (1, .int p1), (2, .long x2), (4, .int x4)] → κ x2 x4 t0 = some R → W p l e ({ frames := 1, cells := 0, slots := 0, locals := 20 } : Room) s m args below meth c H locs 0 0 (MQ below (va_Qi (fun (r : Int32) (_ : Unit) => r = R) (xB D y A [(a_x, .inr (5, [.ref a_known, .ref a_so, .ref a_made, .ref a_pcl, .ref a_hi, .ref a_tx, .ref a_rd, .ref a_tb, .ref a_o])), (a_pcl, .inl (y 1, 16, .inr (.inl v_pcl))), (a_o, .inr (1, [.int f_o_n, .int f_o_many, .int f_o_sets, .ref a_od, .ref a_op, .ref a_oi, .ref a_ov, .ref a_of, .ref a_ol, .ref a_om, .ref a_ow]))]) A) args s 0 0 A) (F0 m 43 ls [.int t0])
def S_X5_wideFactor_5 (p : Program) (l : Launch) (e : Env) (s : State) (m : MethodId) (args : Array Value) (below : List Frame) (meth : Method) (c : Code) (A : Nat → Prop) (D : va_G) (y : Nat → ClassId) (a_x : Nat) (a_known : Nat) (a_so : Nat) (a_made : Nat) (a_pcl : Nat) (a_hi : Nat) (a_tx : Nat) (a_rd : Nat) (a_tb : Nat) (a_o : Nat) (a_od : Nat) (a_op : Nat) (a_oi : Nat) (a_ov : Nat) (a_of : Nat) (a_ol : Nat) (a_om : Nat) (a_ow : Nat) (v_pcl : Nat → Int64) (f_o_n : Int32) (f_o_many : Int32) (f_o_sets : Int32) (p1 : Int32) (R : Int32) (κ : Int64 → Int32 → Option (Int32)) : Prop := ∀ (x2 : Int64) (x4 : Int32) (H : Heap) (locs : List Loc) (ls : Array Slot), va_P D vwCl [(a_x, .inr (5, [.ref a_known, .ref a_so, .ref a_made, .ref a_pcl, .ref a_hi, .ref a_tx, .ref a_rd, .ref a_tb, .ref a_o])), (a_pcl, .inl (y 1, 16, .inr (.inl v_pcl))), (a_o, .inr (1, [.int f_o_n, .int f_o_many, .int f_o_sets, .ref a_od, .ref a_op, .ref a_oi, .ref a_ov, .ref a_of, .ref a_ol, .ref a_om, .ref a_ow]))] H → va_D A [(a_x, .inr (5, [.ref a_known, .ref a_so, .ref a_made, .ref a_pcl, .ref a_hi, .ref a_tx, .ref a_rd, .ref a_tb, .ref a_o])), (a_pcl, .inl (y 1, 16, .inr (.inl v_pcl))), (a_o, .inr (1, [.int f_o_n, .int f_o_many, .int f_o_sets, .ref a_od, .ref a_op, .ref a_oi, .ref a_ov, .ref a_of, .ref a_ol, .ref a_om, .ref a_ow]))] → va_S A s.heap H locs → lv_has ls 6 [(0, .ref a_x), (1, .int p1), (2, .long x2), (4, .int x4)] → κ x2 x4 = some R → W p l e ({ frames := 1, cells := 0, slots := 0, locals := 20 } : Room) s m args below meth c H locs 0 0 (MQ below (va_Qi (fun (r : Int32) (_ : Unit) => r = R) (xB D y A [(a_x, .inr (5, [.ref a_known, .ref a_so, .ref a_made, .ref a_pcl, .ref a_hi, .ref a_tx, .ref a_rd, .ref a_tb, .ref a_o])), (a_pcl, .inl (y 1, 16, .inr (.inl v_pcl))), (a_o, .inr (1, [.int f_o_n, .int f_o_many, .int f_o_sets, .ref a_od, .ref a_op, .ref a_oi, .ref a_ov, .ref a_of, .ref a_ol, .ref a_om, .ref a_ow]))]) A) args s 0 0 A) (F0 m 5 ls [])
def S_X5_wideFactor_0 (p : Program) (l : Launch) (e : Env) (s : State) (m : MethodId) (args : Array Value) (below : List Frame) (meth : Method) (c : Code) (A : Nat → Prop) (D : va_G) (y : Nat → ClassId) (a_x : Nat) (a_known : Nat) (a_so : Nat) (a_made : Nat) (a_pcl : Nat) (a_hi : Nat) (a_tx : Nat) (a_rd : Nat) (a_tb : Nat) (a_o : Nat) (a_od : Nat) (a_op : Nat) (a_oi : Nat) (a_ov : Nat) (a_of : Nat) (a_ol : Nat) (a_om : Nat) (a_ow : Nat) (v_pcl : Nat → Int64) (f_o_n : Int32) (f_o_many : Int32) (f_o_sets : Int32) (p1 : Int32) (R : Int32) (κ : Option (Int32)) : Prop := ∀ (H : Heap) (locs : List Loc) (ls : Array Slot), va_P D vwCl [(a_x, .inr (5, [.ref a_known, .ref a_so, .ref a_made, .ref a_pcl, .ref a_hi, .ref a_tx, .ref a_rd, .ref a_tb, .ref a_o])), (a_pcl, .inl (y 1, 16, .inr (.inl v_pcl))), (a_o, .inr (1, [.int f_o_n, .int f_o_many, .int f_o_sets, .ref a_od, .ref a_op, .ref a_oi, .ref a_ov, .ref a_of, .ref a_ol, .ref a_om, .ref a_ow]))] H → va_D A [(a_x, .inr (5, [.ref a_known, .ref a_so, .ref a_made, .ref a_pcl, .ref a_hi, .ref a_tx, .ref a_rd, .ref a_tb, .ref a_o])), (a_pcl, .inl (y 1, 16, .inr (.inl v_pcl))), (a_o, .inr (1, [.int f_o_n, .int f_o_many, .int f_o_sets, .ref a_od, .ref a_op, .ref a_oi, .ref a_ov, .ref a_of, .ref a_ol, .ref a_om, .ref a_ow]))] → va_S A s.heap H locs → lv_has ls 6 [(0, .ref a_x), (1, .int p1)] → κ = some R → W p l e ({ frames := 1, cells := 0, slots := 0, locals := 20 } : Room) s m args below meth c H locs 0 0 (MQ below (va_Qi (fun (r : Int32) (_ : Unit) => r = R) (xB D y A [(a_x, .inr (5, [.ref a_known, .ref a_so, .ref a_made, .ref a_pcl, .ref a_hi, .ref a_tx, .ref a_rd, .ref a_tb, .ref a_o])), (a_pcl, .inl (y 1, 16, .inr (.inl v_pcl))), (a_o, .inr (1, [.int f_o_n, .int f_o_many, .int f_o_sets, .ref a_od, .ref a_op, .ref a_oi, .ref a_ov, .ref a_of, .ref a_ol, .ref a_om, .ref a_ow]))]) A) args s 0 0 A) (F0 m 0 ls [])
set_option maxHeartbeats 4000000 in
set_option maxRecDepth 100000 in
theorem B_X5_wideFactor_43 {p : Program} {l : Launch} {e : Env} {s : State} {m : MethodId} {args : Array Value} {below : List Frame} {meth : Method} {c : Code} {A : Nat → Prop} {D : va_G} {y : Nat → ClassId} {a_x : Nat} {a_known : Nat} {a_so : Nat} {a_made : Nat} {a_pcl : Nat} {a_hi : Nat} {a_tx : Nat} {a_rd : Nat} {a_tb : Nat} {a_o : Nat} {a_od : Nat} {a_op : Nat} {a_oi : Nat} {a_ov : Nat} {a_of : Nat} {a_ol : Nat} {a_om : Nat} {a_ow : Nat} {v_pcl : Nat → Int64} {f_o_n : Int32} {f_o_many : Int32} {f_o_sets : Int32} {p1 : Int32} {R : Int32} (C : xC p s m args meth c A cX5_wideFactor RX5 wsX5_wideFactor 6 (some .int) D y) {κ5 : Int64 → Int32 → Option (Int32)} (k5 : S_X5_wideFactor_5 p l e s m args below meth c A D y a_x a_known a_so a_made a_pcl a_hi a_tx a_rd a_tb a_o a_od a_op a_oi a_ov a_of a_ol a_om a_ow v_pcl f_o_n f_o_many f_o_sets p1 R κ5) : S_X5_wideFactor_43 p l e s m args below meth c A D y a_x a_known a_so a_made a_pcl a_hi a_tx a_rd a_tb a_o a_od a_op a_oi a_ov a_of a_ol a_om a_ow v_pcl f_o_n f_o_many f_o_sets p1 R (F_X5_wideFactor_43 v_pcl κ5) := by
  have C0 := C
  obtain ⟨hx, hb, hml, hown, hts, hr, hlocks, hK, hA⟩ := C
  intro x2 x4 t0 H locs ls hP hD hS hl hB
  unfold F_X5_wideFactor_43 at hB
  refine lv_istore (lv' := [(5, .int t0), (0, .ref a_x), (1, .int p1), (2, .long x2), (4, .int x4)]) hx hb dX5_wideFactor_43 hl (by decide) rfl (fun ls hl => ?_)
  refine lv_lload_n hx hb dX5_wideFactor_45 rfl (lv_at hl 3 rfl) ?_
  refine lv_iload hx hb dX5_wideFactor_46 (lv_at hl 0 rfl) ?_
  refine lv_if_eq (tgt := 62) hx hb dX5_wideFactor_48 (by decide) (fun c1 => ?_) (fun c1 => ?_)
  · have hB := xip c1 hB
    refine lv_aload_n hx hb dX5_wideFactor_62 rfl (lv_at hl 1 rfl) ?_
    refine va_get (D := D) (ci := 5) (v := .ref a_pcl) (C := RX5) (T := TX5) (N := 9) hx hb hts kX5_wideFactor_wX5 hown hK hP 0 rfl rfl 3 (by decide) (hts _ kX5_wideFactor_f24) (fun _ h9 => h9) rfl dX5_wideFactor_63 ?_
    refine lv_iload hx hb dX5_wideFactor_66 (lv_at hl 4 rfl) ?_
    obtain ⟨g2, hB⟩ := xg_some hB
    refine va_lald hx hb hK hP 1 1 rfl rfl g2 dX5_wideFactor_68 ?_
    refine lv_ladd hx hb dX5_wideFactor_69 ?_
    refine lv_lstore_n (lv' := [(2, .long (x2 + (v_pcl x4.toNatClampNeg))), (5, .int t0), (0, .ref a_x), (1, .int p1), (4, .int x4)]) hx hb dX5_wideFactor_70 rfl hl (by decide) rfl (fun ls hl => ?_)
    refine lv_iinc (v := x4 + 1) (lv' := [(4, .int (x4 + 1)), (2, .long (x2 + (v_pcl x4.toNatClampNeg))), (5, .int t0), (0, .ref a_x), (1, .int p1)]) hx hb dX5_wideFactor_71 hl (k := 4) rfl rfl (by decide) rfl (fun ls hl => ?_)
    refine lv_goto (tgt := 5) hx hb dX5_wideFactor_74 (by decide) ?_
    exact k5 (x2 + (v_pcl x4.toNatClampNeg)) (x4 + 1) H locs ls hP hD hS (lv_sub hl [3, 4, 1, 0] rfl) hB
  · have hB := xin c1 hB
    refine lv_aload_n hx hb dX5_wideFactor_51 rfl (lv_at hl 1 rfl) ?_
    refine va_get (D := D) (ci := 5) (v := .ref a_pcl) (C := RX5) (T := TX5) (N := 9) hx hb hts kX5_wideFactor_wX5 hown hK hP 0 rfl rfl 3 (by decide) (hts _ kX5_wideFactor_f24) (fun _ h9 => h9) rfl dX5_wideFactor_52 ?_
    refine lv_iload hx hb dX5_wideFactor_55 (lv_at hl 4 rfl) ?_
    obtain ⟨g3, hB⟩ := xg_some hB
    refine va_lald hx hb hK hP 1 1 rfl rfl g3 dX5_wideFactor_57 ?_
    refine lv_lneg hx hb dX5_wideFactor_58 ?_
    refine lv_goto (tgt := 69) hx hb dX5_wideFactor_59 (by decide) ?_
    refine lv_ladd hx hb dX5_wideFactor_69 ?_
    refine lv_lstore_n (lv' := [(2, .long (x2 + (-(v_pcl x4.toNatClampNeg)))), (5, .int t0), (0, .ref a_x), (1, .int p1), (4, .int x4)]) hx hb dX5_wideFactor_70 rfl hl (by decide) rfl (fun ls hl => ?_)
    refine lv_iinc (v := x4 + 1) (lv' := [(4, .int (x4 + 1)), (2, .long (x2 + (-(v_pcl x4.toNatClampNeg)))), (5, .int t0), (0, .ref a_x), (1, .int p1)]) hx hb dX5_wideFactor_71 hl (k := 4) rfl rfl (by decide) rfl (fun ls hl => ?_)
    refine lv_goto (tgt := 5) hx hb dX5_wideFactor_74 (by decide) ?_
    exact k5 (x2 + (-(v_pcl x4.toNatClampNeg))) (x4 + 1) H locs ls hP hD hS (lv_sub hl [3, 4, 1, 0] rfl) hB
set_option maxHeartbeats 4000000 in
set_option maxRecDepth 100000 in
theorem B_X5_wideFactor_5 {p : Program} {l : Launch} {e : Env} {s : State} {m : MethodId} {args : Array Value} {below : List Frame} {meth : Method} {c : Code} {A : Nat → Prop} {D : va_G} {y : Nat → ClassId} {a_x : Nat} {a_known : Nat} {a_so : Nat} {a_made : Nat} {a_pcl : Nat} {a_hi : Nat} {a_tx : Nat} {a_rd : Nat} {a_tb : Nat} {a_o : Nat} {a_od : Nat} {a_op : Nat} {a_oi : Nat} {a_ov : Nat} {a_of : Nat} {a_ol : Nat} {a_om : Nat} {a_ow : Nat} {v_pcl : Nat → Int64} {f_o_n : Int32} {f_o_many : Int32} {f_o_sets : Int32} {p1 : Int32} {R : Int32} (C : xC p s m args meth c A cX5_wideFactor RX5 wsX5_wideFactor 6 (some .int) D y)  : ∀ f : Nat, S_X5_wideFactor_5 p l e s m args below meth c A D y a_x a_known a_so a_made a_pcl a_hi a_tx a_rd a_tb a_o a_od a_op a_oi a_ov a_of a_ol a_om a_ow v_pcl f_o_n f_o_many f_o_sets p1 R (F_X5_wideFactor_5 v_pcl f_o_sets p1  f) := by
  have C0 := C
  obtain ⟨hx, hb, hml, hown, hts, hr, hlocks, hK, hA⟩ := C
  intro f
  induction f with
  | zero =>
    intro x2 x4 H locs ls hP hD hS hl hB
    rw [Z_X5_wideFactor_5] at hB
    cases hB
  | succ f ih =>
    intro x2 x4 H locs ls hP hD hS hl hB
    rw [E_X5_wideFactor_5] at hB
    refine lv_iload hx hb dX5_wideFactor_5 (lv_at hl 3 rfl) ?_
    refine lv_aload_n hx hb dX5_wideFactor_7 rfl (lv_at hl 0 rfl) ?_
    refine va_get (D := D) (ci := 5) (v := .ref a_o) (C := RX5) (T := TX5) (N := 9) hx hb hts kX5_wideFactor_wX5 hown hK hP 0 rfl rfl 8 (by decide) (hts _ kX5_wideFactor_f59) (fun _ h9 => h9) rfl dX5_wideFactor_8 ?_
    refine va_get (D := D) (ci := 1) (v := .int f_o_sets) (C := RX1) (T := TX1) (N := 11) hx hb hts kX5_wideFactor_wX1 hown hK hP 2 rfl rfl 2 (by decide) (hts _ kX5_wideFactor_f170) (fun _ h9 => h9) rfl dX5_wideFactor_11 ?_
    refine lv_icmp_ge (tgt := 77) hx hb dX5_wideFactor_14 (by decide) (fun c1 => ?_) (fun c1 => ?_)
    · have hB := xip c1 hB
      refine lv_lload_n hx hb dX5_wideFactor_77 rfl (lv_at hl 2 rfl) ?_
      refine lv_l2i hx hb dX5_wideFactor_78 rfl ?_
      have hB := Option.some.inj hB
      subst hB
      exact W.iret hx hb hr (fun t ht hW => ⟨⟨_, (), rfl, rfl, by rw [ht]; exact hP, va_K.moved hW.alike hK, hD⟩, hS.F ht⟩) hS.2.2 dX5_wideFactor_79 hlocks
    · have hB := xin c1 hB
      refine lv_iload hx hb dX5_wideFactor_17 (lv_at hl 3 rfl) ?_
      refine lv_iload_n hx hb dX5_wideFactor_19 rfl (lv_at hl 1 rfl) ?_
      refine lv_iand hx hb dX5_wideFactor_20 ?_
      refine lv_iload_n hx hb dX5_wideFactor_21 rfl (lv_at hl 1 rfl) ?_
      refine lv_icmp_ne (tgt := 71) hx hb dX5_wideFactor_22 (by decide) (fun c2 => ?_) (fun c2 => ?_)
      · have hB := xin c2 hB
        refine lv_iinc (v := x4 + 1) (lv' := [(4, .int (x4 + 1)), (0, .ref a_x), (1, .int p1), (2, .long x2)]) hx hb dX5_wideFactor_71 hl (k := 3) rfl rfl (by decide) rfl (fun ls hl => ?_)
        refine lv_goto (tgt := 5) hx hb dX5_wideFactor_74 (by decide) ?_
        exact ih x2 (x4 + 1) H locs ls hP hD hS (lv_sub hl [1, 2, 3, 0] rfl) hB
      · have hB := xip c2 hB
        refine lv_iload hx hb dX5_wideFactor_25 (lv_at hl 3 rfl) ?_
        refine lv_iload_n hx hb dX5_wideFactor_27 rfl (lv_at hl 1 rfl) ?_
        refine lv_ixor hx hb dX5_wideFactor_28 ?_
        obtain ⟨q3, e3, hB⟩ := xbd hB
        have hPc := hP.sub (ws' := []) [] rfl
        have hDc := hD.sub (ws' := []) [] (by decide) rfl
        refine xcalli (mc := 0) (ms := 0) (rv := q3) (wc := []) (wr := [(a_x, .inr (5, [.ref a_known, .ref a_so, .ref a_made, .ref a_pcl, .ref a_hi, .ref a_tx, .ref a_rd, .ref a_tb, .ref a_o])), (a_pcl, .inl (y 1, 16, .inr (.inl v_pcl))), (a_o, .inr (1, [.int f_o_n, .int f_o_many, .int f_o_sets, .ref a_od, .ref a_op, .ref a_oi, .ref a_ov, .ref a_of, .ref a_ol, .ref a_om, .ref a_ow]))]) (w1 := []) (wf := [(a_x, .inr (5, [.ref a_known, .ref a_so, .ref a_made, .ref a_pcl, .ref a_hi, .ref a_tx, .ref a_rd, .ref a_tb, .ref a_o])), (a_pcl, .inl (y 1, 16, .inr (.inl v_pcl))), (a_o, .inr (1, [.int f_o_n, .int f_o_many, .int f_o_sets, .ref a_od, .ref a_op, .ref a_oi, .ref a_ov, .ref a_of, .ref a_ol, .ref a_om, .ref a_ow]))]) (va_runS (As := [.int (x4 ^^^ p1)]) (rest := []) ⟨hx, hb, hml, hown, hts⟩ (c_J6_bitCount_0f7a4 l D y (x4 ^^^ p1) H.size e3) (va_cwS 1 hts gX5_wideFactor_J6_bitCount_0f7a4 rfl rfl rfl (by decide +kernel) ⟨Nat.le_of_ble_eq_true rfl, Nat.le_of_ble_eq_true rfl⟩) ⟨xblind, xprev hPc hK hDc⟩ rfl rfl hl.1 rfl (lv_room (Nat.le_of_ble_eq_true rfl)) dX5_wideFactor_29 ⟨Nat.le_of_ble_eq_true rfl, Nat.le_of_ble_eq_true rfl⟩) hP hD hS hA [] [0, 1, 2] [0, 1, 2] rfl rfl (by decide) (by decide) rfl (by decide) (fun H locs hP hD hS => ?_)
        refine lv_iconst (v := 1) hx hb dX5_wideFactor_32 (by decide) ?_
        refine lv_iand hx hb dX5_wideFactor_33 ?_
        refine lv_iconst (v := 1) hx hb dX5_wideFactor_34 (by decide) ?_
        refine lv_icmp_ne (tgt := 42) hx hb dX5_wideFactor_35 (by decide) (fun c4 => ?_) (fun c4 => ?_)
        · have hB := xin c4 hB
          refine lv_iconst (v := 0) hx hb dX5_wideFactor_42 (by decide) ?_
          exact B_X5_wideFactor_43 (p1 := p1) C0 ih x2 x4 (0 : Int32) H locs ls hP hD hS (lv_sub hl [0, 1, 2, 3] rfl) hB
        · have hB := xip c4 hB
          refine lv_iconst (v := 1) hx hb dX5_wideFactor_38 (by decide) ?_
          refine lv_goto (tgt := 43) hx hb dX5_wideFactor_39 (by decide) ?_
          exact B_X5_wideFactor_43 (p1 := p1) C0 ih x2 x4 (1 : Int32) H locs ls hP hD hS (lv_sub hl [0, 1, 2, 3] rfl) hB
set_option maxHeartbeats 4000000 in
set_option maxRecDepth 100000 in
theorem B_X5_wideFactor_0 {p : Program} {l : Launch} {e : Env} {s : State} {m : MethodId} {args : Array Value} {below : List Frame} {meth : Method} {c : Code} {A : Nat → Prop} {D : va_G} {y : Nat → ClassId} {a_x : Nat} {a_known : Nat} {a_so : Nat} {a_made : Nat} {a_pcl : Nat} {a_hi : Nat} {a_tx : Nat} {a_rd : Nat} {a_tb : Nat} {a_o : Nat} {a_od : Nat} {a_op : Nat} {a_oi : Nat} {a_ov : Nat} {a_of : Nat} {a_ol : Nat} {a_om : Nat} {a_ow : Nat} {v_pcl : Nat → Int64} {f_o_n : Int32} {f_o_many : Int32} {f_o_sets : Int32} {p1 : Int32} {R : Int32} (C : xC p s m args meth c A cX5_wideFactor RX5 wsX5_wideFactor 6 (some .int) D y)  : S_X5_wideFactor_0 p l e s m args below meth c A D y a_x a_known a_so a_made a_pcl a_hi a_tx a_rd a_tb a_o a_od a_op a_oi a_ov a_of a_ol a_om a_ow v_pcl f_o_n f_o_many f_o_sets p1 R (F_X5_wideFactor v_pcl f_o_sets p1 ) := by
  have C0 := C
  obtain ⟨hx, hb, hml, hown, hts, hr, hlocks, hK, hA⟩ := C
  intro H locs ls hP hD hS hl hB
  unfold F_X5_wideFactor at hB
  refine lv_lconst (v := 0) hx hb dX5_wideFactor_0 (by decide) ?_
  refine lv_lstore_n (lv' := [(2, .long (0 : Int64)), (0, .ref a_x), (1, .int p1)]) hx hb dX5_wideFactor_1 rfl hl (by decide) rfl (fun ls hl => ?_)
  refine lv_iconst (v := 0) hx hb dX5_wideFactor_2 (by decide) ?_
  refine lv_istore (lv' := [(4, .int (0 : Int32)), (2, .long (0 : Int64)), (0, .ref a_x), (1, .int p1)]) hx hb dX5_wideFactor_3 hl (by decide) rfl (fun ls hl => ?_)
  exact B_X5_wideFactor_5 (p1 := p1) C0 xF (0 : Int64) (0 : Int32) H locs ls hP hD hS (lv_sub hl [2, 3, 1, 0] rfl) hB
set_option maxHeartbeats 4000000 in
set_option maxRecDepth 100000 in
theorem c_X5_wideFactor (l : Launch) (D : va_G) (y : Nat → ClassId) (a_x : Nat) (a_known : Nat) (a_so : Nat) (a_made : Nat) (a_pcl : Nat) (a_hi : Nat) (a_tx : Nat) (a_rd : Nat) (a_tb : Nat) (a_o : Nat) (a_od : Nat) (a_op : Nat) (a_oi : Nat) (a_ov : Nat) (a_of : Nat) (a_ol : Nat) (a_om : Nat) (a_ow : Nat)  (v_pcl : Nat → Int64) (f_o_n : Int32) (f_o_many : Int32) (f_o_sets : Int32) (p1 : Int32) (sz : Nat) {R : Int32} (hF : F_X5_wideFactor v_pcl f_o_sets p1 = some R) : Met l yX5_wideFactor wsX5_wideFactor ({ frames := 1, cells := 0, slots := 0, locals := 20 } : Room) (xPre D y sz [.ref a_x, .int p1] [(a_x, .inr (5, [.ref a_known, .ref a_so, .ref a_made, .ref a_pcl, .ref a_hi, .ref a_tx, .ref a_rd, .ref a_tb, .ref a_o])), (a_pcl, .inl (y 1, 16, .inr (.inl v_pcl))), (a_o, .inr (1, [.int f_o_n, .int f_o_many, .int f_o_sets, .ref a_od, .ref a_op, .ref a_oi, .ref a_ov, .ref a_of, .ref a_ol, .ref a_om, .ref a_ow]))]) (va_Qi (fun (r : Int32) (_ : Unit) => r = R) (xB D y (va_A [(a_x, .inr (5, [.ref a_known, .ref a_so, .ref a_made, .ref a_pcl, .ref a_hi, .ref a_tx, .ref a_rd, .ref a_tb, .ref a_o])), (a_pcl, .inl (y 1, 16, .inr (.inl v_pcl))), (a_o, .inr (1, [.int f_o_n, .int f_o_many, .int f_o_sets, .ref a_od, .ref a_op, .ref a_oi, .ref a_ov, .ref a_of, .ref a_ol, .ref a_om, .ref a_ow]))] sz) [(a_x, .inr (5, [.ref a_known, .ref a_so, .ref a_made, .ref a_pcl, .ref a_hi, .ref a_tx, .ref a_rd, .ref a_tb, .ref a_o])), (a_pcl, .inl (y 1, 16, .inr (.inl v_pcl))), (a_o, .inr (1, [.int f_o_n, .int f_o_many, .int f_o_sets, .ref a_od, .ref a_op, .ref a_oi, .ref a_ov, .ref a_of, .ref a_ol, .ref a_om, .ref a_ow]))]) (va_A [(a_x, .inr (5, [.ref a_known, .ref a_so, .ref a_made, .ref a_pcl, .ref a_hi, .ref a_tx, .ref a_rd, .ref a_tb, .ref a_o])), (a_pcl, .inl (y 1, 16, .inr (.inl v_pcl))), (a_o, .inr (1, [.int f_o_n, .int f_o_many, .int f_o_sets, .ref a_od, .ref a_op, .ref a_oi, .ref a_ov, .ref a_of, .ref a_ol, .ref a_om, .ref a_ow]))] sz)) 0 0 (va_A [(a_x, .inr (5, [.ref a_known, .ref a_so, .ref a_made, .ref a_pcl, .ref a_hi, .ref a_tx, .ref a_rd, .ref a_tb, .ref a_o])), (a_pcl, .inl (y 1, 16, .inr (.inl v_pcl))), (a_o, .inr (1, [.int f_o_n, .int f_o_many, .int f_o_sets, .ref a_od, .ref a_op, .ref a_oi, .ref a_ov, .ref a_of, .ref a_ol, .ref a_om, .ref a_ow]))] sz) := by
  refine Met.ofW (cc := cX5_wideFactor) (maxL := 6) (ret := (some .int)) (by decide) rfl ?_
  intro p e s m args below meth c s₁ B hml hv
  obtain ⟨rfl, hsz, hP, hK, hD0⟩ := hv
  subst hsz
  have hD := hD0.self (sz := s.heap.size)
  have C : xC p s m [.ref a_x, .int p1].toArray meth c (va_A [(a_x, .inr (5, [.ref a_known, .ref a_so, .ref a_made, .ref a_pcl, .ref a_hi, .ref a_tx, .ref a_rd, .ref a_tb, .ref a_o])), (a_pcl, .inl (y 1, 16, .inr (.inl v_pcl))), (a_o, .inr (1, [.int f_o_n, .int f_o_many, .int f_o_sets, .ref a_od, .ref a_op, .ref a_oi, .ref a_ov, .ref a_of, .ref a_ol, .ref a_om, .ref a_ow]))] s.heap.size) cX5_wideFactor RX5 wsX5_wideFactor 6 (some .int) D y := ⟨B.exec, B.bytes, hml, findClass_of_methodNamed B.named, atoms_spec (ws := wsX5_wideFactor) B.pre, B.returns, B.notSynchronized, hK, fun q h => Or.inr h⟩
  have hl := lv_entry ([.ref a_x, .int p1]) (n := 6) (Nat.le_of_ble_eq_true rfl)
  rw [lg_entry_eq]
  generalize (lg_sl ([.ref a_x, .int p1]) ++ List.replicate (6 - (lg_sl ([.ref a_x, .int p1])).length) Slot.unset).toArray = ls at hl ⊢
  have hl : lv_has ls 6 [(0, .ref a_x), (1, .int p1)] := hl
  exact B_X5_wideFactor_0 (p1 := p1) C  s.heap [] ls hP hD va_S.rf hl hF
theorem kX5_classOf_c67 : Cond.constant RX5 67 (-10000001) ∈ wsX5_classOf := by decide +kernel
theorem kX5_classOf_c154 : Cond.constant RX5 154 (-10000004) ∈ wsX5_classOf := by decide +kernel
theorem kX5_classOf_f59 : Cond.fieldLink RX5 59 "DescentShuffles" "orders" "LDescentShuffles$Orders;" ∈ wsX5_classOf := by decide +kernel
theorem kX5_classOf_wX5 : ∀ w ∈ u_ws RX5 TX5 9, w ∈ wsX5_classOf := by decide +kernel
theorem kX5_classOf_f170 : Cond.fieldLink RX5 170 "DescentShuffles$Orders" "sets" "I" ∈ wsX5_classOf := by decide +kernel
theorem kX5_classOf_wX1 : ∀ w ∈ u_ws RX1 TX1 11, w ∈ wsX5_classOf := by decide +kernel
theorem kX5_classOf_f24 : Cond.fieldLink RX5 24 "DescentShuffles" "perClass" "[J" ∈ wsX5_classOf := by decide +kernel
theorem kX5_classOf_f17 : Cond.fieldLink RX5 17 "DescentShuffles" "sums" "[[I" ∈ wsX5_classOf := by decide +kernel
theorem kX5_classOf_f167 : Cond.fieldLink RX5 167 "DescentShuffles$Orders" "firsts" "[I" ∈ wsX5_classOf := by decide +kernel
def S_X5_classOf_62 (p : Program) (l : Launch) (e : Env) (s : State) (m : MethodId) (args : Array Value) (below : List Frame) (meth : Method) (c : Code) (A : Nat → Prop) (D : va_G) (y : Nat → ClassId) (a_x : Nat) (a_known : Nat) (a_so : Nat) (a_made : Nat) (a_pcl : Nat) (a_hi : Nat) (a_tx : Nat) (a_rd : Nat) (a_tb : Nat) (a_o : Nat) (a_s : Nat → Nat) (a_od : Nat) (a_op : Nat) (a_oi : Nat) (a_ov : Nat) (a_of : Nat) (a_ol : Nat) (a_om : Nat) (a_ow : Nat) (lm_o : Nat) (ls_o : Nat) (v_s : Nat → Nat → Int32) (f_o_n : Int32) (f_o_many : Int32) (f_o_sets : Int32) (v_od : Nat → Int32) (v_of : Nat → Int32) (p1 : Int32) (p2 : Int32) (p3 : Int32) (R : Int32 × (Nat → Int64)) (κ : Int32 → (Nat → Int64) → Option (Int32 × (Nat → Int64))) : Prop := ∀ (x4 : Int32) (v_pcl : Nat → Int64) (H : Heap) (locs : List Loc) (ls : Array Slot), va_P D vwCl [(a_x, .inr (5, [.ref a_known, .ref a_so, .ref a_made, .ref a_pcl, .ref a_hi, .ref a_tx, .ref a_rd, .ref a_tb, .ref a_o])), (a_so, .inl (y 4, 3, .inr (.inr (.inr (.inr (xO a_s 3)))))), xE a_s (y 0) 120 v_s 0, xE a_s (y 0) 120 v_s 1, xE a_s (y 0) 120 v_s 2, (a_pcl, .inl (y 1, 16, .inr (.inl v_pcl))), (a_o, .inr (1, [.int f_o_n, .int f_o_many, .int f_o_sets, .ref a_od, .ref a_op, .ref a_oi, .ref a_ov, .ref a_of, .ref a_ol, .ref a_om, .ref a_ow])), (a_od, .inl (y 0, lm_o, .inl v_od)), (a_of, .inl (y 0, ls_o, .inl v_of))] H → va_D A [(a_x, .inr (5, [.ref a_known, .ref a_so, .ref a_made, .ref a_pcl, .ref a_hi, .ref a_tx, .ref a_rd, .ref a_tb, .ref a_o])), (a_so, .inl (y 4, 3, .inr (.inr (.inr (.inr (xO a_s 3)))))), xE a_s (y 0) 120 v_s 0, xE a_s (y 0) 120 v_s 1, xE a_s (y 0) 120 v_s 2, (a_pcl, .inl (y 1, 16, .inr (.inl v_pcl))), (a_o, .inr (1, [.int f_o_n, .int f_o_many, .int f_o_sets, .ref a_od, .ref a_op, .ref a_oi, .ref a_ov, .ref a_of, .ref a_ol, .ref a_om, .ref a_ow])), (a_od, .inl (y 0, lm_o, .inl v_od)), (a_of, .inl (y 0, ls_o, .inl v_of))] → va_S A s.heap H locs → lv_has ls 5 [(0, .ref a_x), (1, .int p1), (2, .int p2), (4, .int x4)] → κ x4 v_pcl = some R → W p l e ({ frames := 2, cells := 0, slots := 0, locals := 45 } : Room) s m args below meth c H locs 0 0 (MQ below (va_Qi (fun (r : Int32) (_ : Unit) => r = R.1) (xB D y A [(a_x, .inr (5, [.ref a_known, .ref a_so, .ref a_made, .ref a_pcl, .ref a_hi, .ref a_tx, .ref a_rd, .ref a_tb, .ref a_o])), (a_so, .inl (y 4, 3, .inr (.inr (.inr (.inr (xO a_s 3)))))), xE a_s (y 0) 120 v_s 0, xE a_s (y 0) 120 v_s 1, xE a_s (y 0) 120 v_s 2, (a_pcl, .inl (y 1, 16, .inr (.inl R.2))), (a_o, .inr (1, [.int f_o_n, .int f_o_many, .int f_o_sets, .ref a_od, .ref a_op, .ref a_oi, .ref a_ov, .ref a_of, .ref a_ol, .ref a_om, .ref a_ow])), (a_od, .inl (y 0, lm_o, .inl v_od)), (a_of, .inl (y 0, ls_o, .inl v_of))]) A) args s 0 0 A) (F0 m 62 ls [])
def S_X5_classOf_0 (p : Program) (l : Launch) (e : Env) (s : State) (m : MethodId) (args : Array Value) (below : List Frame) (meth : Method) (c : Code) (A : Nat → Prop) (D : va_G) (y : Nat → ClassId) (a_x : Nat) (a_known : Nat) (a_so : Nat) (a_made : Nat) (a_pcl : Nat) (a_hi : Nat) (a_tx : Nat) (a_rd : Nat) (a_tb : Nat) (a_o : Nat) (a_s : Nat → Nat) (a_od : Nat) (a_op : Nat) (a_oi : Nat) (a_ov : Nat) (a_of : Nat) (a_ol : Nat) (a_om : Nat) (a_ow : Nat) (lm_o : Nat) (ls_o : Nat) (v_s : Nat → Nat → Int32) (f_o_n : Int32) (f_o_many : Int32) (f_o_sets : Int32) (v_od : Nat → Int32) (v_of : Nat → Int32) (p1 : Int32) (p2 : Int32) (p3 : Int32) (R : Int32 × (Nat → Int64)) (κ : (Nat → Int64) → Option (Int32 × (Nat → Int64))) : Prop := ∀ (v_pcl : Nat → Int64) (H : Heap) (locs : List Loc) (ls : Array Slot), va_P D vwCl [(a_x, .inr (5, [.ref a_known, .ref a_so, .ref a_made, .ref a_pcl, .ref a_hi, .ref a_tx, .ref a_rd, .ref a_tb, .ref a_o])), (a_so, .inl (y 4, 3, .inr (.inr (.inr (.inr (xO a_s 3)))))), xE a_s (y 0) 120 v_s 0, xE a_s (y 0) 120 v_s 1, xE a_s (y 0) 120 v_s 2, (a_pcl, .inl (y 1, 16, .inr (.inl v_pcl))), (a_o, .inr (1, [.int f_o_n, .int f_o_many, .int f_o_sets, .ref a_od, .ref a_op, .ref a_oi, .ref a_ov, .ref a_of, .ref a_ol, .ref a_om, .ref a_ow])), (a_od, .inl (y 0, lm_o, .inl v_od)), (a_of, .inl (y 0, ls_o, .inl v_of))] H → va_D A [(a_x, .inr (5, [.ref a_known, .ref a_so, .ref a_made, .ref a_pcl, .ref a_hi, .ref a_tx, .ref a_rd, .ref a_tb, .ref a_o])), (a_so, .inl (y 4, 3, .inr (.inr (.inr (.inr (xO a_s 3)))))), xE a_s (y 0) 120 v_s 0, xE a_s (y 0) 120 v_s 1, xE a_s (y 0) 120 v_s 2, (a_pcl, .inl (y 1, 16, .inr (.inl v_pcl))), (a_o, .inr (1, [.int f_o_n, .int f_o_many, .int f_o_sets, .ref a_od, .ref a_op, .ref a_oi, .ref a_ov, .ref a_of, .ref a_ol, .ref a_om, .ref a_ow])), (a_od, .inl (y 0, lm_o, .inl v_od)), (a_of, .inl (y 0, ls_o, .inl v_of))] → va_S A s.heap H locs → lv_has ls 5 [(0, .ref a_x), (1, .int p1), (2, .int p2), (3, .int p3)] → κ v_pcl = some R → W p l e ({ frames := 2, cells := 0, slots := 0, locals := 45 } : Room) s m args below meth c H locs 0 0 (MQ below (va_Qi (fun (r : Int32) (_ : Unit) => r = R.1) (xB D y A [(a_x, .inr (5, [.ref a_known, .ref a_so, .ref a_made, .ref a_pcl, .ref a_hi, .ref a_tx, .ref a_rd, .ref a_tb, .ref a_o])), (a_so, .inl (y 4, 3, .inr (.inr (.inr (.inr (xO a_s 3)))))), xE a_s (y 0) 120 v_s 0, xE a_s (y 0) 120 v_s 1, xE a_s (y 0) 120 v_s 2, (a_pcl, .inl (y 1, 16, .inr (.inl R.2))), (a_o, .inr (1, [.int f_o_n, .int f_o_many, .int f_o_sets, .ref a_od, .ref a_op, .ref a_oi, .ref a_ov, .ref a_of, .ref a_ol, .ref a_om, .ref a_ow])), (a_od, .inl (y 0, lm_o, .inl v_od)), (a_of, .inl (y 0, ls_o, .inl v_of))]) A) args s 0 0 A) (F0 m 0 ls [])
set_option maxHeartbeats 4000000 in
set_option maxRecDepth 100000 in
theorem B_X5_classOf_62 {p : Program} {l : Launch} {e : Env} {s : State} {m : MethodId} {args : Array Value} {below : List Frame} {meth : Method} {c : Code} {A : Nat → Prop} {D : va_G} {y : Nat → ClassId} {a_x : Nat} {a_known : Nat} {a_so : Nat} {a_made : Nat} {a_pcl : Nat} {a_hi : Nat} {a_tx : Nat} {a_rd : Nat} {a_tb : Nat} {a_o : Nat} {a_s : Nat → Nat} {a_od : Nat} {a_op : Nat} {a_oi : Nat} {a_ov : Nat} {a_of : Nat} {a_ol : Nat} {a_om : Nat} {a_ow : Nat} {lm_o : Nat} {ls_o : Nat} {v_s : Nat → Nat → Int32} {f_o_n : Int32} {f_o_many : Int32} {f_o_sets : Int32} {v_od : Nat → Int32} {v_of : Nat → Int32} {p1 : Int32} {p2 : Int32} {p3 : Int32} {R : Int32 × (Nat → Int64)} (C : xC p s m args meth c A cX5_classOf RX5 wsX5_classOf 5 (some .int) D y)  : ∀ f : Nat, S_X5_classOf_62 p l e s m args below meth c A D y a_x a_known a_so a_made a_pcl a_hi a_tx a_rd a_tb a_o a_s a_od a_op a_oi a_ov a_of a_ol a_om a_ow lm_o ls_o v_s f_o_n f_o_many f_o_sets v_od v_of p1 p2 p3 R (F_X5_classOf_62 ls_o v_s f_o_sets v_of p1 p2  f) := by
  have C0 := C
  obtain ⟨hx, hb, hml, hown, hts, hr, hlocks, hK, hA⟩ := C
  intro f
  induction f with
  | zero =>
    intro x4 v_pcl H locs ls hP hD hS hl hB
    rw [Z_X5_classOf_62] at hB
    cases hB
  | succ f ih =>
    intro x4 v_pcl H locs ls hP hD hS hl hB
    rw [E_X5_classOf_62] at hB
    refine lv_iload hx hb dX5_classOf_62 (lv_at hl 3 rfl) ?_
    refine lv_aload_n hx hb dX5_classOf_64 rfl (lv_at hl 0 rfl) ?_
    refine va_get (D := D) (ci := 5) (v := .ref a_o) (C := RX5) (T := TX5) (N := 9) hx hb hts kX5_classOf_wX5 hown hK hP 0 rfl rfl 8 (by decide) (hts _ kX5_classOf_f59) (fun _ h9 => h9) rfl dX5_classOf_65 ?_
    refine va_get (D := D) (ci := 1) (v := .int f_o_sets) (C := RX1) (T := TX1) (N := 11) hx hb hts kX5_classOf_wX1 hown hK hP 6 rfl rfl 2 (by decide) (hts _ kX5_classOf_f170) (fun _ h9 => h9) rfl dX5_classOf_68 ?_
    refine lv_icmp_ge (tgt := 105) hx hb dX5_classOf_71 (by decide) (fun c1 => ?_) (fun c1 => ?_)
    · have hB := xip c1 hB
      refine lv_aload_n hx hb dX5_classOf_105 rfl (lv_at hl 0 rfl) ?_
      refine lv_iload_n hx hb dX5_classOf_106 rfl (lv_at hl 2 rfl) ?_
      obtain ⟨q2, e2, hB⟩ := xbd hB
      have hPc := hP.sub (ws' := [(a_x, .inr (5, [.ref a_known, .ref a_so, .ref a_made, .ref a_pcl, .ref a_hi, .ref a_tx, .ref a_rd, .ref a_tb, .ref a_o])), (a_pcl, .inl (y 1, 16, .inr (.inl v_pcl))), (a_o, .inr (1, [.int f_o_n, .int f_o_many, .int f_o_sets, .ref a_od, .ref a_op, .ref a_oi, .ref a_ov, .ref a_of, .ref a_ol, .ref a_om, .ref a_ow]))]) [0, 5, 6] rfl
      have hDc := hD.sub (ws' := [(a_x, .inr (5, [.ref a_known, .ref a_so, .ref a_made, .ref a_pcl, .ref a_hi, .ref a_tx, .ref a_rd, .ref a_tb, .ref a_o])), (a_pcl, .inl (y 1, 16, .inr (.inl v_pcl))), (a_o, .inr (1, [.int f_o_n, .int f_o_many, .int f_o_sets, .ref a_od, .ref a_op, .ref a_oi, .ref a_ov, .ref a_of, .ref a_ol, .ref a_om, .ref a_ow]))]) [0, 5, 6] (by decide) rfl
      refine xcalli (mc := 0) (ms := 0) (rv := q2) (wc := [(a_x, .inr (5, [.ref a_known, .ref a_so, .ref a_made, .ref a_pcl, .ref a_hi, .ref a_tx, .ref a_rd, .ref a_tb, .ref a_o])), (a_pcl, .inl (y 1, 16, .inr (.inl v_pcl))), (a_o, .inr (1, [.int f_o_n, .int f_o_many, .int f_o_sets, .ref a_od, .ref a_op, .ref a_oi, .ref a_ov, .ref a_of, .ref a_ol, .ref a_om, .ref a_ow]))]) (wr := [(a_so, .inl (y 4, 3, .inr (.inr (.inr (.inr (xO a_s 3)))))), xE a_s (y 0) 120 v_s 0, xE a_s (y 0) 120 v_s 1, xE a_s (y 0) 120 v_s 2, (a_od, .inl (y 0, lm_o, .inl v_od)), (a_of, .inl (y 0, ls_o, .inl v_of))]) (w1 := [(a_x, .inr (5, [.ref a_known, .ref a_so, .ref a_made, .ref a_pcl, .ref a_hi, .ref a_tx, .ref a_rd, .ref a_tb, .ref a_o])), (a_pcl, .inl (y 1, 16, .inr (.inl v_pcl))), (a_o, .inr (1, [.int f_o_n, .int f_o_many, .int f_o_sets, .ref a_od, .ref a_op, .ref a_oi, .ref a_ov, .ref a_of, .ref a_ol, .ref a_om, .ref a_ow]))]) (wf := [(a_x, .inr (5, [.ref a_known, .ref a_so, .ref a_made, .ref a_pcl, .ref a_hi, .ref a_tx, .ref a_rd, .ref a_tb, .ref a_o])), (a_so, .inl (y 4, 3, .inr (.inr (.inr (.inr (xO a_s 3)))))), xE a_s (y 0) 120 v_s 0, xE a_s (y 0) 120 v_s 1, xE a_s (y 0) 120 v_s 2, (a_pcl, .inl (y 1, 16, .inr (.inl v_pcl))), (a_o, .inr (1, [.int f_o_n, .int f_o_many, .int f_o_sets, .ref a_od, .ref a_op, .ref a_oi, .ref a_ov, .ref a_of, .ref a_ol, .ref a_om, .ref a_ow])), (a_od, .inl (y 0, lm_o, .inl v_od)), (a_of, .inl (y 0, ls_o, .inl v_of))]) (va_runV (As := [.int p2]) (rest := []) ⟨hx, hb, hml, hown, hts⟩ (c_X5_wideFactor l D y a_x a_known a_so a_made a_pcl a_hi a_tx a_rd a_tb a_o a_od a_op a_oi a_ov a_of a_ol a_om a_ow v_pcl f_o_n f_o_many f_o_sets p2 H.size e2) (cwV 1 hts gX5_classOf_X5_wideFactor rfl rfl rfl (by decide +kernel) ⟨Nat.le_of_ble_eq_true rfl, Nat.le_of_ble_eq_true rfl⟩) ⟨xblind, va_recv hK hP (ci := 5) (q0 := 0) rfl rfl, xprev hPc hK hDc⟩ rfl rfl hl.1 rfl (lv_room (Nat.le_of_ble_eq_true rfl)) dX5_classOf_107 ⟨Nat.le_of_ble_eq_true rfl, Nat.le_of_ble_eq_true rfl⟩) hP hD hS hA [0, 5, 6] [1, 2, 3, 4, 7, 8] [6, 0, 1, 2, 3, 7, 8, 4, 5] rfl rfl (by decide) (by decide) rfl (by decide) (fun H locs hP hD hS => ?_)
      have hB := Option.some.inj hB
      subst hB
      exact W.iret hx hb hr (fun t ht hW => ⟨⟨_, (), rfl, rfl, by rw [ht]; exact hP, va_K.moved hW.alike hK, hD⟩, hS.F ht⟩) hS.2.2 dX5_classOf_110 hlocks
    · have hB := xin c1 hB
      refine lv_aload_n hx hb dX5_classOf_74 rfl (lv_at hl 0 rfl) ?_
      refine va_get (D := D) (ci := 5) (v := .ref a_pcl) (C := RX5) (T := TX5) (N := 9) hx hb hts kX5_classOf_wX5 hown hK hP 0 rfl rfl 3 (by decide) (hts _ kX5_classOf_f24) (fun _ h9 => h9) rfl dX5_classOf_75 ?_
      refine lv_iload hx hb dX5_classOf_78 (lv_at hl 3 rfl) ?_
      refine lv_aload_n hx hb dX5_classOf_80 rfl (lv_at hl 0 rfl) ?_
      refine va_get (D := D) (ci := 5) (v := .ref a_so) (C := RX5) (T := TX5) (N := 9) hx hb hts kX5_classOf_wX5 hown hK hP 0 rfl rfl 1 (by decide) (hts _ kX5_classOf_f17) (fun _ h9 => h9) rfl dX5_classOf_81 ?_
      refine lv_iload_n hx hb dX5_classOf_84 rfl (lv_at hl 1 rfl) ?_
      obtain ⟨g3, hB⟩ := xg_some hB
      refine xaald hx hb hK hP 1 4 rfl rfl g3 dX5_classOf_85 ?_
      refine lv_aload_n hx hb dX5_classOf_86 rfl (lv_at hl 0 rfl) ?_
      refine va_get (D := D) (ci := 5) (v := .ref a_o) (C := RX5) (T := TX5) (N := 9) hx hb hts kX5_classOf_wX5 hown hK hP 0 rfl rfl 8 (by decide) (hts _ kX5_classOf_f59) (fun _ h9 => h9) rfl dX5_classOf_87 ?_
      refine va_get (D := D) (ci := 1) (v := .ref a_of) (C := RX1) (T := TX1) (N := 11) hx hb hts kX5_classOf_wX1 hown hK hP 6 rfl rfl 7 (by decide) (hts _ kX5_classOf_f167) (fun _ h9 => h9) rfl dX5_classOf_90 ?_
      refine lv_iload hx hb dX5_classOf_93 (lv_at hl 3 rfl) ?_
      obtain ⟨g4, hB⟩ := xg_some hB
      refine va_iald hx hb hK hP 8 0 rfl rfl g4 dX5_classOf_95 ?_
      obtain ⟨g5, hB⟩ := xg_some hB
      refine va_iald hx hb hK hP (2 + p1.toNatClampNeg) 0 (xg3 (xE a_s (y 0) 120 v_s) rfl rfl rfl (xlt g3)) rfl g5 dX5_classOf_96 ?_
      refine lv_i2l hx hb dX5_classOf_97 rfl ?_
      obtain ⟨g6, hB⟩ := xg_some hB
      refine va_last hx hb hK hP hD hS 5 1 rfl rfl g6 dX5_classOf_98 (fun H locs hP hD hS => ?_)
      have hP : va_P D vwCl [(a_x, .inr (5, [.ref a_known, .ref a_so, .ref a_made, .ref a_pcl, .ref a_hi, .ref a_tx, .ref a_rd, .ref a_tb, .ref a_o])), (a_so, .inl (y 4, 3, .inr (.inr (.inr (.inr (xO a_s 3)))))), xE a_s (y 0) 120 v_s 0, xE a_s (y 0) 120 v_s 1, xE a_s (y 0) 120 v_s 2, (a_pcl, .inl (y 1, 16, .inr (.inl (vp_updL v_pcl x4.toNatClampNeg ((v_s p1.toNatClampNeg (v_of x4.toNatClampNeg).toNatClampNeg).toInt64))))), (a_o, .inr (1, [.int f_o_n, .int f_o_many, .int f_o_sets, .ref a_od, .ref a_op, .ref a_oi, .ref a_ov, .ref a_of, .ref a_ol, .ref a_om, .ref a_ow])), (a_od, .inl (y 0, lm_o, .inl v_od)), (a_of, .inl (y 0, ls_o, .inl v_of))] H := hP
      have hD : va_D A [(a_x, .inr (5, [.ref a_known, .ref a_so, .ref a_made, .ref a_pcl, .ref a_hi, .ref a_tx, .ref a_rd, .ref a_tb, .ref a_o])), (a_so, .inl (y 4, 3, .inr (.inr (.inr (.inr (xO a_s 3)))))), xE a_s (y 0) 120 v_s 0, xE a_s (y 0) 120 v_s 1, xE a_s (y 0) 120 v_s 2, (a_pcl, .inl (y 1, 16, .inr (.inl (vp_updL v_pcl x4.toNatClampNeg ((v_s p1.toNatClampNeg (v_of x4.toNatClampNeg).toNatClampNeg).toInt64))))), (a_o, .inr (1, [.int f_o_n, .int f_o_many, .int f_o_sets, .ref a_od, .ref a_op, .ref a_oi, .ref a_ov, .ref a_of, .ref a_ol, .ref a_om, .ref a_ow])), (a_od, .inl (y 0, lm_o, .inl v_od)), (a_of, .inl (y 0, ls_o, .inl v_of))] := hD
      refine lv_iinc (v := x4 + 1) (lv' := [(4, .int (x4 + 1)), (0, .ref a_x), (1, .int p1), (2, .int p2)]) hx hb dX5_classOf_99 hl (k := 3) rfl rfl (by decide) rfl (fun ls hl => ?_)
      refine lv_goto (tgt := 62) hx hb dX5_classOf_102 (by decide) ?_
      exact ih (x4 + 1) (vp_updL v_pcl x4.toNatClampNeg ((v_s p1.toNatClampNeg (v_of x4.toNatClampNeg).toNatClampNeg).toInt64)) H locs ls hP hD hS (lv_sub hl [1, 2, 3, 0] rfl) hB
set_option maxHeartbeats 4000000 in
set_option maxRecDepth 100000 in
theorem B_X5_classOf_0 {p : Program} {l : Launch} {e : Env} {s : State} {m : MethodId} {args : Array Value} {below : List Frame} {meth : Method} {c : Code} {A : Nat → Prop} {D : va_G} {y : Nat → ClassId} {a_x : Nat} {a_known : Nat} {a_so : Nat} {a_made : Nat} {a_pcl : Nat} {a_hi : Nat} {a_tx : Nat} {a_rd : Nat} {a_tb : Nat} {a_o : Nat} {a_s : Nat → Nat} {a_od : Nat} {a_op : Nat} {a_oi : Nat} {a_ov : Nat} {a_of : Nat} {a_ol : Nat} {a_om : Nat} {a_ow : Nat} {lm_o : Nat} {ls_o : Nat} {v_s : Nat → Nat → Int32} {f_o_n : Int32} {f_o_many : Int32} {f_o_sets : Int32} {v_od : Nat → Int32} {v_of : Nat → Int32} {p1 : Int32} {p2 : Int32} {p3 : Int32} {R : Int32 × (Nat → Int64)} (C : xC p s m args meth c A cX5_classOf RX5 wsX5_classOf 5 (some .int) D y)  : S_X5_classOf_0 p l e s m args below meth c A D y a_x a_known a_so a_made a_pcl a_hi a_tx a_rd a_tb a_o a_s a_od a_op a_oi a_ov a_of a_ol a_om a_ow lm_o ls_o v_s f_o_n f_o_many f_o_sets v_od v_of p1 p2 p3 R (F_X5_classOf lm_o ls_o v_s f_o_many f_o_sets v_od v_of p1 p2 p3 ) := by
  have C0 := C
  obtain ⟨hx, hb, hml, hown, hts, hr, hlocks, hK, hA⟩ := C
  intro v_pcl H locs ls hP hD hS hl hB
  unfold F_X5_classOf at hB
  refine lv_iload_n hx hb dX5_classOf_0 rfl (lv_at hl 1 rfl) ?_
  obtain ⟨q1, e1, hB⟩ := xbd hB
  have hPc := hP.sub (ws' := []) [] rfl
  have hDc := hD.sub (ws' := []) [] (by decide) rfl
  refine xcalli (mc := 0) (ms := 0) (rv := q1) (wc := []) (wr := [(a_x, .inr (5, [.ref a_known, .ref a_so, .ref a_made, .ref a_pcl, .ref a_hi, .ref a_tx, .ref a_rd, .ref a_tb, .ref a_o])), (a_so, .inl (y 4, 3, .inr (.inr (.inr (.inr (xO a_s 3)))))), xE a_s (y 0) 120 v_s 0, xE a_s (y 0) 120 v_s 1, xE a_s (y 0) 120 v_s 2, (a_pcl, .inl (y 1, 16, .inr (.inl v_pcl))), (a_o, .inr (1, [.int f_o_n, .int f_o_many, .int f_o_sets, .ref a_od, .ref a_op, .ref a_oi, .ref a_ov, .ref a_of, .ref a_ol, .ref a_om, .ref a_ow])), (a_od, .inl (y 0, lm_o, .inl v_od)), (a_of, .inl (y 0, ls_o, .inl v_of))]) (w1 := []) (wf := [(a_x, .inr (5, [.ref a_known, .ref a_so, .ref a_made, .ref a_pcl, .ref a_hi, .ref a_tx, .ref a_rd, .ref a_tb, .ref a_o])), (a_so, .inl (y 4, 3, .inr (.inr (.inr (.inr (xO a_s 3)))))), xE a_s (y 0) 120 v_s 0, xE a_s (y 0) 120 v_s 1, xE a_s (y 0) 120 v_s 2, (a_pcl, .inl (y 1, 16, .inr (.inl v_pcl))), (a_o, .inr (1, [.int f_o_n, .int f_o_many, .int f_o_sets, .ref a_od, .ref a_op, .ref a_oi, .ref a_ov, .ref a_of, .ref a_ol, .ref a_om, .ref a_ow])), (a_od, .inl (y 0, lm_o, .inl v_od)), (a_of, .inl (y 0, ls_o, .inl v_of))]) (va_runS (As := [.int p1]) (rest := []) ⟨hx, hb, hml, hown, hts⟩ (c_X5_isSum l D y p1 H.size e1) (va_cwS 1 hts gX5_classOf_X5_isSum rfl rfl rfl (by decide +kernel) ⟨Nat.le_of_ble_eq_true rfl, Nat.le_of_ble_eq_true rfl⟩) ⟨xblind, xprev hPc hK hDc⟩ rfl rfl hl.1 rfl (lv_room (Nat.le_of_ble_eq_true rfl)) dX5_classOf_1 ⟨Nat.le_of_ble_eq_true rfl, Nat.le_of_ble_eq_true rfl⟩) hP hD hS hA [] [0, 1, 2, 3, 4, 5, 6, 7, 8] [0, 1, 2, 3, 4, 5, 6, 7, 8] rfl rfl (by decide) (by decide) rfl (by decide) (fun H locs hP hD hS => ?_)
  refine lv_if_eq (tgt := 24) hx hb dX5_classOf_4 (by decide) (fun c2 => ?_) (fun c2 => ?_)
  · have hB := xip c2 hB
    refine lv_ldc (v := -10000001) hx hb hown (hts _ kX5_classOf_c67) dX5_classOf_24 ?_
    have hB := Option.some.inj hB
    subst hB
    exact W.iret hx hb hr (fun t ht hW => ⟨⟨_, (), rfl, rfl, by rw [ht]; exact hP, va_K.moved hW.alike hK, hD⟩, hS.F ht⟩) hS.2.2 dX5_classOf_26 hlocks
  · have hB := xin c2 hB
    refine lv_aload_n hx hb dX5_classOf_7 rfl (lv_at hl 0 rfl) ?_
    refine lv_iload_n hx hb dX5_classOf_8 rfl (lv_at hl 2 rfl) ?_
    obtain ⟨q3, e3, hB⟩ := xbd hB
    have hPc := hP.sub (ws' := [(a_x, .inr (5, [.ref a_known, .ref a_so, .ref a_made, .ref a_pcl, .ref a_hi, .ref a_tx, .ref a_rd, .ref a_tb, .ref a_o])), (a_o, .inr (1, [.int f_o_n, .int f_o_many, .int f_o_sets, .ref a_od, .ref a_op, .ref a_oi, .ref a_ov, .ref a_of, .ref a_ol, .ref a_om, .ref a_ow]))]) [0, 6] rfl
    have hDc := hD.sub (ws' := [(a_x, .inr (5, [.ref a_known, .ref a_so, .ref a_made, .ref a_pcl, .ref a_hi, .ref a_tx, .ref a_rd, .ref a_tb, .ref a_o])), (a_o, .inr (1, [.int f_o_n, .int f_o_many, .int f_o_sets, .ref a_od, .ref a_op, .ref a_oi, .ref a_ov, .ref a_of, .ref a_ol, .ref a_om, .ref a_ow]))]) [0, 6] (by decide) rfl
    refine xcalli (mc := 0) (ms := 0) (rv := q3) (wc := [(a_x, .inr (5, [.ref a_known, .ref a_so, .ref a_made, .ref a_pcl, .ref a_hi, .ref a_tx, .ref a_rd, .ref a_tb, .ref a_o])), (a_o, .inr (1, [.int f_o_n, .int f_o_many, .int f_o_sets, .ref a_od, .ref a_op, .ref a_oi, .ref a_ov, .ref a_of, .ref a_ol, .ref a_om, .ref a_ow]))]) (wr := [(a_so, .inl (y 4, 3, .inr (.inr (.inr (.inr (xO a_s 3)))))), xE a_s (y 0) 120 v_s 0, xE a_s (y 0) 120 v_s 1, xE a_s (y 0) 120 v_s 2, (a_pcl, .inl (y 1, 16, .inr (.inl v_pcl))), (a_od, .inl (y 0, lm_o, .inl v_od)), (a_of, .inl (y 0, ls_o, .inl v_of))]) (w1 := [(a_x, .inr (5, [.ref a_known, .ref a_so, .ref a_made, .ref a_pcl, .ref a_hi, .ref a_tx, .ref a_rd, .ref a_tb, .ref a_o])), (a_o, .inr (1, [.int f_o_n, .int f_o_many, .int f_o_sets, .ref a_od, .ref a_op, .ref a_oi, .ref a_ov, .ref a_of, .ref a_ol, .ref a_om, .ref a_ow]))]) (wf := [(a_x, .inr (5, [.ref a_known, .ref a_so, .ref a_made, .ref a_pcl, .ref a_hi, .ref a_tx, .ref a_rd, .ref a_tb, .ref a_o])), (a_so, .inl (y 4, 3, .inr (.inr (.inr (.inr (xO a_s 3)))))), xE a_s (y 0) 120 v_s 0, xE a_s (y 0) 120 v_s 1, xE a_s (y 0) 120 v_s 2, (a_pcl, .inl (y 1, 16, .inr (.inl v_pcl))), (a_o, .inr (1, [.int f_o_n, .int f_o_many, .int f_o_sets, .ref a_od, .ref a_op, .ref a_oi, .ref a_ov, .ref a_of, .ref a_ol, .ref a_om, .ref a_ow])), (a_od, .inl (y 0, lm_o, .inl v_od)), (a_of, .inl (y 0, ls_o, .inl v_of))]) (va_runV (As := [.int p2]) (rest := []) ⟨hx, hb, hml, hown, hts⟩ (c_X5_isSet l D y a_x a_known a_so a_made a_pcl a_hi a_tx a_rd a_tb a_o a_od a_op a_oi a_ov a_of a_ol a_om a_ow f_o_n f_o_many f_o_sets p2 H.size e3) (cwV 1 hts gX5_classOf_X5_isSet rfl rfl rfl (by decide +kernel) ⟨Nat.le_of_ble_eq_true rfl, Nat.le_of_ble_eq_true rfl⟩) ⟨xblind, va_recv hK hP (ci := 5) (q0 := 0) rfl rfl, xprev hPc hK hDc⟩ rfl rfl hl.1 rfl (lv_room (Nat.le_of_ble_eq_true rfl)) dX5_classOf_9 ⟨Nat.le_of_ble_eq_true rfl, Nat.le_of_ble_eq_true rfl⟩) hP hD hS hA [0, 6] [1, 2, 3, 4, 5, 7, 8] [7, 0, 1, 2, 3, 4, 8, 5, 6] rfl rfl (by decide) (by decide) rfl (by decide) (fun H locs hP hD hS => ?_)
    refine lv_if_eq (tgt := 24) hx hb dX5_classOf_12 (by decide) (fun c4 => ?_) (fun c4 => ?_)
    · have hB := xip c4 hB
      refine lv_ldc (v := -10000001) hx hb hown (hts _ kX5_classOf_c67) dX5_classOf_24 ?_
      have hB := Option.some.inj hB
      subst hB
      exact W.iret hx hb hr (fun t ht hW => ⟨⟨_, (), rfl, rfl, by rw [ht]; exact hP, va_K.moved hW.alike hK, hD⟩, hS.F ht⟩) hS.2.2 dX5_classOf_26 hlocks
    · have hB := xin c4 hB
      refine lv_iload_n hx hb dX5_classOf_15 rfl (lv_at hl 3 rfl) ?_
      refine lv_iconst (v := 0) hx hb dX5_classOf_16 (by decide) ?_
      refine lv_iconst (v := 1) hx hb dX5_classOf_17 (by decide) ?_
      obtain ⟨q5, e5, hB⟩ := xbd hB
      have hPc := hP.sub (ws' := []) [] rfl
      have hDc := hD.sub (ws' := []) [] (by decide) rfl
      refine xcalli (mc := 0) (ms := 0) (rv := q5) (wc := []) (wr := [(a_x, .inr (5, [.ref a_known, .ref a_so, .ref a_made, .ref a_pcl, .ref a_hi, .ref a_tx, .ref a_rd, .ref a_tb, .ref a_o])), (a_so, .inl (y 4, 3, .inr (.inr (.inr (.inr (xO a_s 3)))))), xE a_s (y 0) 120 v_s 0, xE a_s (y 0) 120 v_s 1, xE a_s (y 0) 120 v_s 2, (a_pcl, .inl (y 1, 16, .inr (.inl v_pcl))), (a_o, .inr (1, [.int f_o_n, .int f_o_many, .int f_o_sets, .ref a_od, .ref a_op, .ref a_oi, .ref a_ov, .ref a_of, .ref a_ol, .ref a_om, .ref a_ow])), (a_od, .inl (y 0, lm_o, .inl v_od)), (a_of, .inl (y 0, ls_o, .inl v_of))]) (w1 := []) (wf := [(a_x, .inr (5, [.ref a_known, .ref a_so, .ref a_made, .ref a_pcl, .ref a_hi, .ref a_tx, .ref a_rd, .ref a_tb, .ref a_o])), (a_so, .inl (y 4, 3, .inr (.inr (.inr (.inr (xO a_s 3)))))), xE a_s (y 0) 120 v_s 0, xE a_s (y 0) 120 v_s 1, xE a_s (y 0) 120 v_s 2, (a_pcl, .inl (y 1, 16, .inr (.inl v_pcl))), (a_o, .inr (1, [.int f_o_n, .int f_o_many, .int f_o_sets, .ref a_od, .ref a_op, .ref a_oi, .ref a_ov, .ref a_of, .ref a_ol, .ref a_om, .ref a_ow])), (a_od, .inl (y 0, lm_o, .inl v_od)), (a_of, .inl (y 0, ls_o, .inl v_of))]) (va_runS (As := [.int p3, .int (0 : Int32), .int (1 : Int32)]) (rest := []) ⟨hx, hb, hml, hown, hts⟩ (c_X5_isWithin l D y p3 (0 : Int32) (1 : Int32) H.size e5) (va_cwS 3 hts gX5_classOf_X5_isWithin rfl rfl rfl (by decide +kernel) ⟨Nat.le_of_ble_eq_true rfl, Nat.le_of_ble_eq_true rfl⟩) ⟨xblind, xprev hPc hK hDc⟩ rfl rfl hl.1 rfl (lv_room (Nat.le_of_ble_eq_true rfl)) dX5_classOf_18 ⟨Nat.le_of_ble_eq_true rfl, Nat.le_of_ble_eq_true rfl⟩) hP hD hS hA [] [0, 1, 2, 3, 4, 5, 6, 7, 8] [0, 1, 2, 3, 4, 5, 6, 7, 8] rfl rfl (by decide) (by decide) rfl (by decide) (fun H locs hP hD hS => ?_)
      refine lv_if_ne (tgt := 27) hx hb dX5_classOf_21 (by decide) (fun c6 => ?_) (fun c6 => ?_)
      · have hB := xin c6 hB
        refine lv_aload_n hx hb dX5_classOf_27 rfl (lv_at hl 0 rfl) ?_
        refine lv_iload_n hx hb dX5_classOf_28 rfl (lv_at hl 1 rfl) ?_
        obtain ⟨q7, e7, hB⟩ := xbd hB
        have hPc := hP.sub (ws' := [(a_x, .inr (5, [.ref a_known, .ref a_so, .ref a_made, .ref a_pcl, .ref a_hi, .ref a_tx, .ref a_rd, .ref a_tb, .ref a_o])), (a_so, .inl (y 4, 3, .inr (.inr (.inr (.inr (xO a_s 3)))))), xE a_s (y 0) 120 v_s 0, xE a_s (y 0) 120 v_s 1, xE a_s (y 0) 120 v_s 2, (a_o, .inr (1, [.int f_o_n, .int f_o_many, .int f_o_sets, .ref a_od, .ref a_op, .ref a_oi, .ref a_ov, .ref a_of, .ref a_ol, .ref a_om, .ref a_ow])), (a_od, .inl (y 0, lm_o, .inl v_od)), (a_of, .inl (y 0, ls_o, .inl v_of))]) [0, 1, 2, 3, 4, 6, 7, 8] rfl
        have hDc := hD.sub (ws' := [(a_x, .inr (5, [.ref a_known, .ref a_so, .ref a_made, .ref a_pcl, .ref a_hi, .ref a_tx, .ref a_rd, .ref a_tb, .ref a_o])), (a_so, .inl (y 4, 3, .inr (.inr (.inr (.inr (xO a_s 3)))))), xE a_s (y 0) 120 v_s 0, xE a_s (y 0) 120 v_s 1, xE a_s (y 0) 120 v_s 2, (a_o, .inr (1, [.int f_o_n, .int f_o_many, .int f_o_sets, .ref a_od, .ref a_op, .ref a_oi, .ref a_ov, .ref a_of, .ref a_ol, .ref a_om, .ref a_ow])), (a_od, .inl (y 0, lm_o, .inl v_od)), (a_of, .inl (y 0, ls_o, .inl v_of))]) [0, 1, 2, 3, 4, 6, 7, 8] (by decide) rfl
        refine xcalli (mc := 0) (ms := 0) (rv := q7) (wc := [(a_x, .inr (5, [.ref a_known, .ref a_so, .ref a_made, .ref a_pcl, .ref a_hi, .ref a_tx, .ref a_rd, .ref a_tb, .ref a_o])), (a_so, .inl (y 4, 3, .inr (.inr (.inr (.inr (xO a_s 3)))))), xE a_s (y 0) 120 v_s 0, xE a_s (y 0) 120 v_s 1, xE a_s (y 0) 120 v_s 2, (a_o, .inr (1, [.int f_o_n, .int f_o_many, .int f_o_sets, .ref a_od, .ref a_op, .ref a_oi, .ref a_ov, .ref a_of, .ref a_ol, .ref a_om, .ref a_ow])), (a_od, .inl (y 0, lm_o, .inl v_od)), (a_of, .inl (y 0, ls_o, .inl v_of))]) (wr := [(a_pcl, .inl (y 1, 16, .inr (.inl v_pcl)))]) (w1 := [(a_x, .inr (5, [.ref a_known, .ref a_so, .ref a_made, .ref a_pcl, .ref a_hi, .ref a_tx, .ref a_rd, .ref a_tb, .ref a_o])), (a_so, .inl (y 4, 3, .inr (.inr (.inr (.inr (xO a_s 3)))))), xE a_s (y 0) 120 v_s 0, xE a_s (y 0) 120 v_s 1, xE a_s (y 0) 120 v_s 2, (a_o, .inr (1, [.int f_o_n, .int f_o_many, .int f_o_sets, .ref a_od, .ref a_op, .ref a_oi, .ref a_ov, .ref a_of, .ref a_ol, .ref a_om, .ref a_ow])), (a_od, .inl (y 0, lm_o, .inl v_od)), (a_of, .inl (y 0, ls_o, .inl v_of))]) (wf := [(a_x, .inr (5, [.ref a_known, .ref a_so, .ref a_made, .ref a_pcl, .ref a_hi, .ref a_tx, .ref a_rd, .ref a_tb, .ref a_o])), (a_so, .inl (y 4, 3, .inr (.inr (.inr (.inr (xO a_s 3)))))), xE a_s (y 0) 120 v_s 0, xE a_s (y 0) 120 v_s 1, xE a_s (y 0) 120 v_s 2, (a_pcl, .inl (y 1, 16, .inr (.inl v_pcl))), (a_o, .inr (1, [.int f_o_n, .int f_o_many, .int f_o_sets, .ref a_od, .ref a_op, .ref a_oi, .ref a_ov, .ref a_of, .ref a_ol, .ref a_om, .ref a_ow])), (a_od, .inl (y 0, lm_o, .inl v_od)), (a_of, .inl (y 0, ls_o, .inl v_of))]) (va_runV (As := [.int p1]) (rest := []) ⟨hx, hb, hml, hown, hts⟩ (c_X5_goesByDescents l D y a_x a_known a_so a_made a_pcl a_hi a_tx a_rd a_tb a_o a_s a_od a_op a_oi a_ov a_of a_ol a_om a_ow lm_o ls_o v_s f_o_n f_o_many f_o_sets v_od v_of p1 H.size e7) (cwV 1 hts gX5_classOf_X5_goesByDescents rfl rfl rfl (by decide +kernel) ⟨Nat.le_of_ble_eq_true rfl, Nat.le_of_ble_eq_true rfl⟩) ⟨xblind, va_recv hK hP (ci := 5) (q0 := 0) rfl rfl, xprev hPc hK hDc⟩ rfl rfl hl.1 rfl (lv_room (Nat.le_of_ble_eq_true rfl)) dX5_classOf_29 ⟨Nat.le_of_ble_eq_true rfl, Nat.le_of_ble_eq_true rfl⟩) hP hD hS hA [0, 1, 2, 3, 4, 6, 7, 8] [5] [1, 2, 3, 4, 5, 0, 6, 7, 8] rfl rfl (by decide) (by decide) rfl (by decide) (fun H locs hP hD hS => ?_)
        refine lv_if_ne (tgt := 38) hx hb dX5_classOf_32 (by decide) (fun c8 => ?_) (fun c8 => ?_)
        · have hB := xin c8 hB
          refine lv_iload_n hx hb dX5_classOf_38 rfl (lv_at hl 3 rfl) ?_
          refine lv_if_ne (tgt := 59) hx hb dX5_classOf_39 (by decide) (fun c9 => ?_) (fun c9 => ?_)
          · have hB := xin c9 hB
            refine lv_iconst (v := 0) hx hb dX5_classOf_59 (by decide) ?_
            refine lv_istore (lv' := [(4, .int (0 : Int32)), (0, .ref a_x), (1, .int p1), (2, .int p2), (3, .int p3)]) hx hb dX5_classOf_60 hl (by decide) rfl (fun ls hl => ?_)
            exact B_X5_classOf_62 (p1 := p1) (p2 := p2) (p3 := p3) C0 xF (0 : Int32) v_pcl H locs ls hP hD hS (lv_sub hl [1, 2, 3, 0] rfl) hB
          · have hB := xip c9 hB
            refine lv_aload_n hx hb dX5_classOf_42 rfl (lv_at hl 0 rfl) ?_
            refine va_get (D := D) (ci := 5) (v := .ref a_so) (C := RX5) (T := TX5) (N := 9) hx hb hts kX5_classOf_wX5 hown hK hP 0 rfl rfl 1 (by decide) (hts _ kX5_classOf_f17) (fun _ h9 => h9) rfl dX5_classOf_43 ?_
            refine lv_iload_n hx hb dX5_classOf_46 rfl (lv_at hl 1 rfl) ?_
            obtain ⟨g10, hB⟩ := xg_some hB
            refine xaald hx hb hK hP 1 4 rfl rfl g10 dX5_classOf_47 ?_
            refine lv_aload_n hx hb dX5_classOf_48 rfl (lv_at hl 0 rfl) ?_
            refine va_get (D := D) (ci := 5) (v := .ref a_o) (C := RX5) (T := TX5) (N := 9) hx hb hts kX5_classOf_wX5 hown hK hP 0 rfl rfl 8 (by decide) (hts _ kX5_classOf_f59) (fun _ h9 => h9) rfl dX5_classOf_49 ?_
            refine va_get (D := D) (ci := 1) (v := .ref a_of) (C := RX1) (T := TX1) (N := 11) hx hb hts kX5_classOf_wX1 hown hK hP 6 rfl rfl 7 (by decide) (hts _ kX5_classOf_f167) (fun _ h9 => h9) rfl dX5_classOf_52 ?_
            refine lv_iload_n hx hb dX5_classOf_55 rfl (lv_at hl 2 rfl) ?_
            obtain ⟨g11, hB⟩ := xg_some hB
            refine va_iald hx hb hK hP 8 0 rfl rfl g11 dX5_classOf_56 ?_
            obtain ⟨g12, hB⟩ := xg_some hB
            refine va_iald hx hb hK hP (2 + p1.toNatClampNeg) 0 (xg3 (xE a_s (y 0) 120 v_s) rfl rfl rfl (xlt g10)) rfl g12 dX5_classOf_57 ?_
            have hB := Option.some.inj hB
            subst hB
            exact W.iret hx hb hr (fun t ht hW => ⟨⟨_, (), rfl, rfl, by rw [ht]; exact hP, va_K.moved hW.alike hK, hD⟩, hS.F ht⟩) hS.2.2 dX5_classOf_58 hlocks
        · have hB := xip c8 hB
          refine lv_ldc (v := -10000004) hx hb hown (hts _ kX5_classOf_c154) dX5_classOf_35 ?_
          have hB := Option.some.inj hB
          subst hB
          exact W.iret hx hb hr (fun t ht hW => ⟨⟨_, (), rfl, rfl, by rw [ht]; exact hP, va_K.moved hW.alike hK, hD⟩, hS.F ht⟩) hS.2.2 dX5_classOf_37 hlocks
      · have hB := xip c6 hB
        refine lv_ldc (v := -10000001) hx hb hown (hts _ kX5_classOf_c67) dX5_classOf_24 ?_
        have hB := Option.some.inj hB
        subst hB
        exact W.iret hx hb hr (fun t ht hW => ⟨⟨_, (), rfl, rfl, by rw [ht]; exact hP, va_K.moved hW.alike hK, hD⟩, hS.F ht⟩) hS.2.2 dX5_classOf_26 hlocks
set_option maxHeartbeats 4000000 in
set_option maxRecDepth 100000 in
theorem c_X5_classOf (l : Launch) (D : va_G) (y : Nat → ClassId) (a_x : Nat) (a_known : Nat) (a_so : Nat) (a_made : Nat) (a_pcl : Nat) (a_hi : Nat) (a_tx : Nat) (a_rd : Nat) (a_tb : Nat) (a_o : Nat) (a_s : Nat → Nat) (a_od : Nat) (a_op : Nat) (a_oi : Nat) (a_ov : Nat) (a_of : Nat) (a_ol : Nat) (a_om : Nat) (a_ow : Nat) (lm_o : Nat) (ls_o : Nat) (v_s : Nat → Nat → Int32) (v_pcl : Nat → Int64) (f_o_n : Int32) (f_o_many : Int32) (f_o_sets : Int32) (v_od : Nat → Int32) (v_of : Nat → Int32) (p1 : Int32) (p2 : Int32) (p3 : Int32) (sz : Nat) {R : Int32 × (Nat → Int64)} (hF : F_X5_classOf lm_o ls_o v_s f_o_many f_o_sets v_od v_of p1 p2 p3 v_pcl = some R) : Met l yX5_classOf wsX5_classOf ({ frames := 2, cells := 0, slots := 0, locals := 45 } : Room) (xPre D y sz [.ref a_x, .int p1, .int p2, .int p3] [(a_x, .inr (5, [.ref a_known, .ref a_so, .ref a_made, .ref a_pcl, .ref a_hi, .ref a_tx, .ref a_rd, .ref a_tb, .ref a_o])), (a_so, .inl (y 4, 3, .inr (.inr (.inr (.inr (xO a_s 3)))))), xE a_s (y 0) 120 v_s 0, xE a_s (y 0) 120 v_s 1, xE a_s (y 0) 120 v_s 2, (a_pcl, .inl (y 1, 16, .inr (.inl v_pcl))), (a_o, .inr (1, [.int f_o_n, .int f_o_many, .int f_o_sets, .ref a_od, .ref a_op, .ref a_oi, .ref a_ov, .ref a_of, .ref a_ol, .ref a_om, .ref a_ow])), (a_od, .inl (y 0, lm_o, .inl v_od)), (a_of, .inl (y 0, ls_o, .inl v_of))]) (va_Qi (fun (r : Int32) (_ : Unit) => r = R.1) (xB D y (va_A [(a_x, .inr (5, [.ref a_known, .ref a_so, .ref a_made, .ref a_pcl, .ref a_hi, .ref a_tx, .ref a_rd, .ref a_tb, .ref a_o])), (a_so, .inl (y 4, 3, .inr (.inr (.inr (.inr (xO a_s 3)))))), xE a_s (y 0) 120 v_s 0, xE a_s (y 0) 120 v_s 1, xE a_s (y 0) 120 v_s 2, (a_pcl, .inl (y 1, 16, .inr (.inl v_pcl))), (a_o, .inr (1, [.int f_o_n, .int f_o_many, .int f_o_sets, .ref a_od, .ref a_op, .ref a_oi, .ref a_ov, .ref a_of, .ref a_ol, .ref a_om, .ref a_ow])), (a_od, .inl (y 0, lm_o, .inl v_od)), (a_of, .inl (y 0, ls_o, .inl v_of))] sz) [(a_x, .inr (5, [.ref a_known, .ref a_so, .ref a_made, .ref a_pcl, .ref a_hi, .ref a_tx, .ref a_rd, .ref a_tb, .ref a_o])), (a_so, .inl (y 4, 3, .inr (.inr (.inr (.inr (xO a_s 3)))))), xE a_s (y 0) 120 v_s 0, xE a_s (y 0) 120 v_s 1, xE a_s (y 0) 120 v_s 2, (a_pcl, .inl (y 1, 16, .inr (.inl R.2))), (a_o, .inr (1, [.int f_o_n, .int f_o_many, .int f_o_sets, .ref a_od, .ref a_op, .ref a_oi, .ref a_ov, .ref a_of, .ref a_ol, .ref a_om, .ref a_ow])), (a_od, .inl (y 0, lm_o, .inl v_od)), (a_of, .inl (y 0, ls_o, .inl v_of))]) (va_A [(a_x, .inr (5, [.ref a_known, .ref a_so, .ref a_made, .ref a_pcl, .ref a_hi, .ref a_tx, .ref a_rd, .ref a_tb, .ref a_o])), (a_so, .inl (y 4, 3, .inr (.inr (.inr (.inr (xO a_s 3)))))), xE a_s (y 0) 120 v_s 0, xE a_s (y 0) 120 v_s 1, xE a_s (y 0) 120 v_s 2, (a_pcl, .inl (y 1, 16, .inr (.inl v_pcl))), (a_o, .inr (1, [.int f_o_n, .int f_o_many, .int f_o_sets, .ref a_od, .ref a_op, .ref a_oi, .ref a_ov, .ref a_of, .ref a_ol, .ref a_om, .ref a_ow])), (a_od, .inl (y 0, lm_o, .inl v_od)), (a_of, .inl (y 0, ls_o, .inl v_of))] sz)) 0 0 (va_A [(a_x, .inr (5, [.ref a_known, .ref a_so, .ref a_made, .ref a_pcl, .ref a_hi, .ref a_tx, .ref a_rd, .ref a_tb, .ref a_o])), (a_so, .inl (y 4, 3, .inr (.inr (.inr (.inr (xO a_s 3)))))), xE a_s (y 0) 120 v_s 0, xE a_s (y 0) 120 v_s 1, xE a_s (y 0) 120 v_s 2, (a_pcl, .inl (y 1, 16, .inr (.inl v_pcl))), (a_o, .inr (1, [.int f_o_n, .int f_o_many, .int f_o_sets, .ref a_od, .ref a_op, .ref a_oi, .ref a_ov, .ref a_of, .ref a_ol, .ref a_om, .ref a_ow])), (a_od, .inl (y 0, lm_o, .inl v_od)), (a_of, .inl (y 0, ls_o, .inl v_of))] sz) := by
  refine Met.ofW (cc := cX5_classOf) (maxL := 5) (ret := (some .int)) (by decide) rfl ?_
  intro p e s m args below meth c s₁ B hml hv
  obtain ⟨rfl, hsz, hP, hK, hD0⟩ := hv
  subst hsz
  have hD := hD0.self (sz := s.heap.size)
  have C : xC p s m [.ref a_x, .int p1, .int p2, .int p3].toArray meth c (va_A [(a_x, .inr (5, [.ref a_known, .ref a_so, .ref a_made, .ref a_pcl, .ref a_hi, .ref a_tx, .ref a_rd, .ref a_tb, .ref a_o])), (a_so, .inl (y 4, 3, .inr (.inr (.inr (.inr (xO a_s 3)))))), xE a_s (y 0) 120 v_s 0, xE a_s (y 0) 120 v_s 1, xE a_s (y 0) 120 v_s 2, (a_pcl, .inl (y 1, 16, .inr (.inl v_pcl))), (a_o, .inr (1, [.int f_o_n, .int f_o_many, .int f_o_sets, .ref a_od, .ref a_op, .ref a_oi, .ref a_ov, .ref a_of, .ref a_ol, .ref a_om, .ref a_ow])), (a_od, .inl (y 0, lm_o, .inl v_od)), (a_of, .inl (y 0, ls_o, .inl v_of))] s.heap.size) cX5_classOf RX5 wsX5_classOf 5 (some .int) D y := ⟨B.exec, B.bytes, hml, findClass_of_methodNamed B.named, atoms_spec (ws := wsX5_classOf) B.pre, B.returns, B.notSynchronized, hK, fun q h => Or.inr h⟩
  have hl := lv_entry ([.ref a_x, .int p1, .int p2, .int p3]) (n := 5) (Nat.le_of_ble_eq_true rfl)
  rw [lg_entry_eq]
  generalize (lg_sl ([.ref a_x, .int p1, .int p2, .int p3]) ++ List.replicate (5 - (lg_sl ([.ref a_x, .int p1, .int p2, .int p3])).length) Slot.unset).toArray = ls at hl ⊢
  have hl : lv_has ls 5 [(0, .ref a_x), (1, .int p1), (2, .int p2), (3, .int p3)] := hl
  exact B_X5_classOf_0 (p1 := p1) (p2 := p2) (p3 := p3) C v_pcl s.heap [] ls hP hD va_S.rf hl hF
theorem kX5_peakSum_c67 : Cond.constant RX5 67 (-10000001) ∈ wsX5_peakSum := by decide +kernel
theorem kX5_peakSum_c154 : Cond.constant RX5 154 (-10000004) ∈ wsX5_peakSum := by decide +kernel
theorem kX5_peakSum_f59 : Cond.fieldLink RX5 59 "DescentShuffles" "orders" "LDescentShuffles$Orders;" ∈ wsX5_peakSum := by decide +kernel
theorem kX5_peakSum_wX5 : ∀ w ∈ u_ws RX5 TX5 9, w ∈ wsX5_peakSum := by decide +kernel
theorem kX5_peakSum_f68 : Cond.fieldLink RX5 68 "DescentShuffles$Orders" "n" "I" ∈ wsX5_peakSum := by decide +kernel
theorem kX5_peakSum_wX1 : ∀ w ∈ u_ws RX1 TX1 11, w ∈ wsX5_peakSum := by decide +kernel
theorem kX5_peakSum_f76 : Cond.fieldLink RX5 76 "DescentShuffles$Orders" "many" "I" ∈ wsX5_peakSum := by decide +kernel
theorem kX5_peakSum_f136 : Cond.fieldLink RX5 136 "DescentShuffles$Orders" "peaks" "[I" ∈ wsX5_peakSum := by decide +kernel
theorem kX5_peakSum_f17 : Cond.fieldLink RX5 17 "DescentShuffles" "sums" "[[I" ∈ wsX5_peakSum := by decide +kernel
def S_X5_peakSum_37 (p : Program) (l : Launch) (e : Env) (s : State) (m : MethodId) (args : Array Value) (below : List Frame) (meth : Method) (c : Code) (A : Nat → Prop) (D : va_G) (y : Nat → ClassId) (a_x : Nat) (a_known : Nat) (a_so : Nat) (a_made : Nat) (a_pcl : Nat) (a_hi : Nat) (a_tx : Nat) (a_rd : Nat) (a_tb : Nat) (a_o : Nat) (a_s : Nat → Nat) (a_od : Nat) (a_op : Nat) (a_oi : Nat) (a_ov : Nat) (a_of : Nat) (a_ol : Nat) (a_om : Nat) (a_ow : Nat) (lm_o : Nat) (v_s : Nat → Nat → Int32) (f_o_n : Int32) (f_o_many : Int32) (f_o_sets : Int32) (v_op : Nat → Int32) (p1 : Int32) (p2 : Int32) (R : Int32) (κ : Int32 → Int32 → Int32 → Option (Int32)) : Prop := ∀ (x3 : Int32) (x4 : Int32) (x5 : Int32) (H : Heap) (locs : List Loc) (ls : Array Slot), va_P D vwCl [(a_x, .inr (5, [.ref a_known, .ref a_so, .ref a_made, .ref a_pcl, .ref a_hi, .ref a_tx, .ref a_rd, .ref a_tb, .ref a_o])), (a_so, .inl (y 4, 3, .inr (.inr (.inr (.inr (xO a_s 3)))))), xE a_s (y 0) 120 v_s 0, xE a_s (y 0) 120 v_s 1, xE a_s (y 0) 120 v_s 2, (a_o, .inr (1, [.int f_o_n, .int f_o_many, .int f_o_sets, .ref a_od, .ref a_op, .ref a_oi, .ref a_ov, .ref a_of, .ref a_ol, .ref a_om, .ref a_ow])), (a_op, .inl (y 0, lm_o, .inl v_op))] H → va_D A [(a_x, .inr (5, [.ref a_known, .ref a_so, .ref a_made, .ref a_pcl, .ref a_hi, .ref a_tx, .ref a_rd, .ref a_tb, .ref a_o])), (a_so, .inl (y 4, 3, .inr (.inr (.inr (.inr (xO a_s 3)))))), xE a_s (y 0) 120 v_s 0, xE a_s (y 0) 120 v_s 1, xE a_s (y 0) 120 v_s 2, (a_o, .inr (1, [.int f_o_n, .int f_o_many, .int f_o_sets, .ref a_od, .ref a_op, .ref a_oi, .ref a_ov, .ref a_of, .ref a_ol, .ref a_om, .ref a_ow])), (a_op, .inl (y 0, lm_o, .inl v_op))] → va_S A s.heap H locs → lv_has ls 6 [(0, .ref a_x), (1, .int p1), (2, .int p2), (3, .int x3), (4, .int x4), (5, .int x5)] → κ x3 x4 x5 = some R → W p l e ({ frames := 2, cells := 0, slots := 0, locals := 42 } : Room) s m args below meth c H locs 0 0 (MQ below (va_Qi (fun (r : Int32) (_ : Unit) => r = R) (xB D y A [(a_x, .inr (5, [.ref a_known, .ref a_so, .ref a_made, .ref a_pcl, .ref a_hi, .ref a_tx, .ref a_rd, .ref a_tb, .ref a_o])), (a_so, .inl (y 4, 3, .inr (.inr (.inr (.inr (xO a_s 3)))))), xE a_s (y 0) 120 v_s 0, xE a_s (y 0) 120 v_s 1, xE a_s (y 0) 120 v_s 2, (a_o, .inr (1, [.int f_o_n, .int f_o_many, .int f_o_sets, .ref a_od, .ref a_op, .ref a_oi, .ref a_ov, .ref a_of, .ref a_ol, .ref a_om, .ref a_ow])), (a_op, .inl (y 0, lm_o, .inl v_op))]) A) args s 0 0 A) (F0 m 37 ls [])
def S_X5_peakSum_0 (p : Program) (l : Launch) (e : Env) (s : State) (m : MethodId) (args : Array Value) (below : List Frame) (meth : Method) (c : Code) (A : Nat → Prop) (D : va_G) (y : Nat → ClassId) (a_x : Nat) (a_known : Nat) (a_so : Nat) (a_made : Nat) (a_pcl : Nat) (a_hi : Nat) (a_tx : Nat) (a_rd : Nat) (a_tb : Nat) (a_o : Nat) (a_s : Nat → Nat) (a_od : Nat) (a_op : Nat) (a_oi : Nat) (a_ov : Nat) (a_of : Nat) (a_ol : Nat) (a_om : Nat) (a_ow : Nat) (lm_o : Nat) (v_s : Nat → Nat → Int32) (f_o_n : Int32) (f_o_many : Int32) (f_o_sets : Int32) (v_op : Nat → Int32) (p1 : Int32) (p2 : Int32) (R : Int32) (κ : Option (Int32)) : Prop := ∀ (H : Heap) (locs : List Loc) (ls : Array Slot), va_P D vwCl [(a_x, .inr (5, [.ref a_known, .ref a_so, .ref a_made, .ref a_pcl, .ref a_hi, .ref a_tx, .ref a_rd, .ref a_tb, .ref a_o])), (a_so, .inl (y 4, 3, .inr (.inr (.inr (.inr (xO a_s 3)))))), xE a_s (y 0) 120 v_s 0, xE a_s (y 0) 120 v_s 1, xE a_s (y 0) 120 v_s 2, (a_o, .inr (1, [.int f_o_n, .int f_o_many, .int f_o_sets, .ref a_od, .ref a_op, .ref a_oi, .ref a_ov, .ref a_of, .ref a_ol, .ref a_om, .ref a_ow])), (a_op, .inl (y 0, lm_o, .inl v_op))] H → va_D A [(a_x, .inr (5, [.ref a_known, .ref a_so, .ref a_made, .ref a_pcl, .ref a_hi, .ref a_tx, .ref a_rd, .ref a_tb, .ref a_o])), (a_so, .inl (y 4, 3, .inr (.inr (.inr (.inr (xO a_s 3)))))), xE a_s (y 0) 120 v_s 0, xE a_s (y 0) 120 v_s 1, xE a_s (y 0) 120 v_s 2, (a_o, .inr (1, [.int f_o_n, .int f_o_many, .int f_o_sets, .ref a_od, .ref a_op, .ref a_oi, .ref a_ov, .ref a_of, .ref a_ol, .ref a_om, .ref a_ow])), (a_op, .inl (y 0, lm_o, .inl v_op))] → va_S A s.heap H locs → lv_has ls 6 [(0, .ref a_x), (1, .int p1), (2, .int p2)] → κ = some R → W p l e ({ frames := 2, cells := 0, slots := 0, locals := 42 } : Room) s m args below meth c H locs 0 0 (MQ below (va_Qi (fun (r : Int32) (_ : Unit) => r = R) (xB D y A [(a_x, .inr (5, [.ref a_known, .ref a_so, .ref a_made, .ref a_pcl, .ref a_hi, .ref a_tx, .ref a_rd, .ref a_tb, .ref a_o])), (a_so, .inl (y 4, 3, .inr (.inr (.inr (.inr (xO a_s 3)))))), xE a_s (y 0) 120 v_s 0, xE a_s (y 0) 120 v_s 1, xE a_s (y 0) 120 v_s 2, (a_o, .inr (1, [.int f_o_n, .int f_o_many, .int f_o_sets, .ref a_od, .ref a_op, .ref a_oi, .ref a_ov, .ref a_of, .ref a_ol, .ref a_om, .ref a_ow])), (a_op, .inl (y 0, lm_o, .inl v_op))]) A) args s 0 0 A) (F0 m 0 ls [])
set_option maxHeartbeats 4000000 in
set_option maxRecDepth 100000 in
theorem B_X5_peakSum_37 {p : Program} {l : Launch} {e : Env} {s : State} {m : MethodId} {args : Array Value} {below : List Frame} {meth : Method} {c : Code} {A : Nat → Prop} {D : va_G} {y : Nat → ClassId} {a_x : Nat} {a_known : Nat} {a_so : Nat} {a_made : Nat} {a_pcl : Nat} {a_hi : Nat} {a_tx : Nat} {a_rd : Nat} {a_tb : Nat} {a_o : Nat} {a_s : Nat → Nat} {a_od : Nat} {a_op : Nat} {a_oi : Nat} {a_ov : Nat} {a_of : Nat} {a_ol : Nat} {a_om : Nat} {a_ow : Nat} {lm_o : Nat} {v_s : Nat → Nat → Int32} {f_o_n : Int32} {f_o_many : Int32} {f_o_sets : Int32} {v_op : Nat → Int32} {p1 : Int32} {p2 : Int32} {R : Int32} (C : xC p s m args meth c A cX5_peakSum RX5 wsX5_peakSum 6 (some .int) D y)  : ∀ f : Nat, S_X5_peakSum_37 p l e s m args below meth c A D y a_x a_known a_so a_made a_pcl a_hi a_tx a_rd a_tb a_o a_s a_od a_op a_oi a_ov a_of a_ol a_om a_ow lm_o v_s f_o_n f_o_many f_o_sets v_op p1 p2 R (F_X5_peakSum_37 lm_o v_s f_o_many v_op p1 p2  f) := by
  have C0 := C
  obtain ⟨hx, hb, hml, hown, hts, hr, hlocks, hK, hA⟩ := C
  intro f
  induction f with
  | zero =>
    intro x3 x4 x5 H locs ls hP hD hS hl hB
    rw [Z_X5_peakSum_37] at hB
    cases hB
  | succ f ih =>
    intro x3 x4 x5 H locs ls hP hD hS hl hB
    rw [E_X5_peakSum_37] at hB
    refine lv_iload hx hb dX5_peakSum_37 (lv_at hl 5 rfl) ?_
    refine lv_aload_n hx hb dX5_peakSum_39 rfl (lv_at hl 0 rfl) ?_
    refine va_get (D := D) (ci := 5) (v := .ref a_o) (C := RX5) (T := TX5) (N := 9) hx hb hts kX5_peakSum_wX5 hown hK hP 0 rfl rfl 8 (by decide) (hts _ kX5_peakSum_f59) (fun _ h9 => h9) rfl dX5_peakSum_40 ?_
    refine va_get (D := D) (ci := 1) (v := .int f_o_many) (C := RX1) (T := TX1) (N := 11) hx hb hts kX5_peakSum_wX1 hown hK hP 5 rfl rfl 1 (by decide) (hts _ kX5_peakSum_f76) (fun _ h9 => h9) rfl dX5_peakSum_43 ?_
    refine lv_icmp_ge (tgt := 84) hx hb dX5_peakSum_46 (by decide) (fun c1 => ?_) (fun c1 => ?_)
    · have hB := xip c1 hB
      refine lv_iload hx hb dX5_peakSum_84 (lv_at hl 4 rfl) ?_
      refine lv_if_eq (tgt := 93) hx hb dX5_peakSum_86 (by decide) (fun c2 => ?_) (fun c2 => ?_)
      · have hB := xip c2 hB
        refine lv_ldc (v := -10000004) hx hb hown (hts _ kX5_peakSum_c154) dX5_peakSum_93 ?_
        have hB := Option.some.inj hB
        subst hB
        exact W.iret hx hb hr (fun t ht hW => ⟨⟨_, (), rfl, rfl, by rw [ht]; exact hP, va_K.moved hW.alike hK, hD⟩, hS.F ht⟩) hS.2.2 dX5_peakSum_95 hlocks
      · have hB := xin c2 hB
        refine lv_iload_n hx hb dX5_peakSum_89 rfl (lv_at hl 3 rfl) ?_
        refine lv_goto (tgt := 95) hx hb dX5_peakSum_90 (by decide) ?_
        have hB := Option.some.inj hB
        subst hB
        exact W.iret hx hb hr (fun t ht hW => ⟨⟨_, (), rfl, rfl, by rw [ht]; exact hP, va_K.moved hW.alike hK, hD⟩, hS.F ht⟩) hS.2.2 dX5_peakSum_95 hlocks
    · have hB := xin c1 hB
      refine lv_aload_n hx hb dX5_peakSum_49 rfl (lv_at hl 0 rfl) ?_
      refine va_get (D := D) (ci := 5) (v := .ref a_o) (C := RX5) (T := TX5) (N := 9) hx hb hts kX5_peakSum_wX5 hown hK hP 0 rfl rfl 8 (by decide) (hts _ kX5_peakSum_f59) (fun _ h9 => h9) rfl dX5_peakSum_50 ?_
      refine va_get (D := D) (ci := 1) (v := .ref a_op) (C := RX1) (T := TX1) (N := 11) hx hb hts kX5_peakSum_wX1 hown hK hP 5 rfl rfl 4 (by decide) (hts _ kX5_peakSum_f136) (fun _ h9 => h9) rfl dX5_peakSum_53 ?_
      refine lv_iload hx hb dX5_peakSum_56 (lv_at hl 5 rfl) ?_
      obtain ⟨g3, hB⟩ := xg_some hB
      refine va_iald hx hb hK hP 6 0 rfl rfl g3 dX5_peakSum_58 ?_
      refine lv_iload_n hx hb dX5_peakSum_59 rfl (lv_at hl 2 rfl) ?_
      refine lv_icmp_ne (tgt := 78) hx hb dX5_peakSum_60 (by decide) (fun c4 => ?_) (fun c4 => ?_)
      · have hB := xin c4 hB
        refine lv_iinc (v := x5 + 1) (lv' := [(5, .int (x5 + 1)), (0, .ref a_x), (1, .int p1), (2, .int p2), (3, .int x3), (4, .int x4)]) hx hb dX5_peakSum_78 hl (k := 5) rfl rfl (by decide) rfl (fun ls hl => ?_)
        refine lv_goto (tgt := 37) hx hb dX5_peakSum_81 (by decide) ?_
        exact ih x3 x4 (x5 + 1) H locs ls hP hD hS (lv_sub hl [1, 2, 3, 4, 5, 0] rfl) hB
      · have hB := xip c4 hB
        refine lv_iload_n hx hb dX5_peakSum_63 rfl (lv_at hl 3 rfl) ?_
        refine lv_aload_n hx hb dX5_peakSum_64 rfl (lv_at hl 0 rfl) ?_
        refine va_get (D := D) (ci := 5) (v := .ref a_so) (C := RX5) (T := TX5) (N := 9) hx hb hts kX5_peakSum_wX5 hown hK hP 0 rfl rfl 1 (by decide) (hts _ kX5_peakSum_f17) (fun _ h9 => h9) rfl dX5_peakSum_65 ?_
        refine lv_iload_n hx hb dX5_peakSum_68 rfl (lv_at hl 1 rfl) ?_
        obtain ⟨g5, hB⟩ := xg_some hB
        refine xaald hx hb hK hP 1 4 rfl rfl g5 dX5_peakSum_69 ?_
        refine lv_iload hx hb dX5_peakSum_70 (lv_at hl 5 rfl) ?_
        obtain ⟨g6, hB⟩ := xg_some hB
        refine va_iald hx hb hK hP (2 + p1.toNatClampNeg) 0 (xg3 (xE a_s (y 0) 120 v_s) rfl rfl rfl (xlt g5)) rfl g6 dX5_peakSum_72 ?_
        refine lv_iadd hx hb dX5_peakSum_73 ?_
        refine lv_istore_n (lv' := [(3, .int (x3 + (v_s p1.toNatClampNeg x5.toNatClampNeg))), (0, .ref a_x), (1, .int p1), (2, .int p2), (4, .int x4), (5, .int x5)]) hx hb dX5_peakSum_74 rfl hl (by decide) rfl (fun ls hl => ?_)
        refine lv_iconst (v := 1) hx hb dX5_peakSum_75 (by decide) ?_
        refine lv_istore (lv' := [(4, .int (1 : Int32)), (3, .int (x3 + (v_s p1.toNatClampNeg x5.toNatClampNeg))), (0, .ref a_x), (1, .int p1), (2, .int p2), (5, .int x5)]) hx hb dX5_peakSum_76 hl (by decide) rfl (fun ls hl => ?_)
        refine lv_iinc (v := x5 + 1) (lv' := [(5, .int (x5 + 1)), (4, .int (1 : Int32)), (3, .int (x3 + (v_s p1.toNatClampNeg x5.toNatClampNeg))), (0, .ref a_x), (1, .int p1), (2, .int p2)]) hx hb dX5_peakSum_78 hl (k := 5) rfl rfl (by decide) rfl (fun ls hl => ?_)
        refine lv_goto (tgt := 37) hx hb dX5_peakSum_81 (by decide) ?_
        exact ih (x3 + (v_s p1.toNatClampNeg x5.toNatClampNeg)) (1 : Int32) (x5 + 1) H locs ls hP hD hS (lv_sub hl [3, 4, 5, 2, 1, 0] rfl) hB
set_option maxHeartbeats 4000000 in
set_option maxRecDepth 100000 in
theorem B_X5_peakSum_0 {p : Program} {l : Launch} {e : Env} {s : State} {m : MethodId} {args : Array Value} {below : List Frame} {meth : Method} {c : Code} {A : Nat → Prop} {D : va_G} {y : Nat → ClassId} {a_x : Nat} {a_known : Nat} {a_so : Nat} {a_made : Nat} {a_pcl : Nat} {a_hi : Nat} {a_tx : Nat} {a_rd : Nat} {a_tb : Nat} {a_o : Nat} {a_s : Nat → Nat} {a_od : Nat} {a_op : Nat} {a_oi : Nat} {a_ov : Nat} {a_of : Nat} {a_ol : Nat} {a_om : Nat} {a_ow : Nat} {lm_o : Nat} {v_s : Nat → Nat → Int32} {f_o_n : Int32} {f_o_many : Int32} {f_o_sets : Int32} {v_op : Nat → Int32} {p1 : Int32} {p2 : Int32} {R : Int32} (C : xC p s m args meth c A cX5_peakSum RX5 wsX5_peakSum 6 (some .int) D y)  : S_X5_peakSum_0 p l e s m args below meth c A D y a_x a_known a_so a_made a_pcl a_hi a_tx a_rd a_tb a_o a_s a_od a_op a_oi a_ov a_of a_ol a_om a_ow lm_o v_s f_o_n f_o_many f_o_sets v_op p1 p2 R (F_X5_peakSum lm_o v_s f_o_n f_o_many v_op p1 p2 ) := by
  have C0 := C
  obtain ⟨hx, hb, hml, hown, hts, hr, hlocks, hK, hA⟩ := C
  intro H locs ls hP hD hS hl hB
  unfold F_X5_peakSum at hB
  refine lv_iload_n hx hb dX5_peakSum_0 rfl (lv_at hl 1 rfl) ?_
  obtain ⟨q1, e1, hB⟩ := xbd hB
  have hPc := hP.sub (ws' := []) [] rfl
  have hDc := hD.sub (ws' := []) [] (by decide) rfl
  refine xcalli (mc := 0) (ms := 0) (rv := q1) (wc := []) (wr := [(a_x, .inr (5, [.ref a_known, .ref a_so, .ref a_made, .ref a_pcl, .ref a_hi, .ref a_tx, .ref a_rd, .ref a_tb, .ref a_o])), (a_so, .inl (y 4, 3, .inr (.inr (.inr (.inr (xO a_s 3)))))), xE a_s (y 0) 120 v_s 0, xE a_s (y 0) 120 v_s 1, xE a_s (y 0) 120 v_s 2, (a_o, .inr (1, [.int f_o_n, .int f_o_many, .int f_o_sets, .ref a_od, .ref a_op, .ref a_oi, .ref a_ov, .ref a_of, .ref a_ol, .ref a_om, .ref a_ow])), (a_op, .inl (y 0, lm_o, .inl v_op))]) (w1 := []) (wf := [(a_x, .inr (5, [.ref a_known, .ref a_so, .ref a_made, .ref a_pcl, .ref a_hi, .ref a_tx, .ref a_rd, .ref a_tb, .ref a_o])), (a_so, .inl (y 4, 3, .inr (.inr (.inr (.inr (xO a_s 3)))))), xE a_s (y 0) 120 v_s 0, xE a_s (y 0) 120 v_s 1, xE a_s (y 0) 120 v_s 2, (a_o, .inr (1, [.int f_o_n, .int f_o_many, .int f_o_sets, .ref a_od, .ref a_op, .ref a_oi, .ref a_ov, .ref a_of, .ref a_ol, .ref a_om, .ref a_ow])), (a_op, .inl (y 0, lm_o, .inl v_op))]) (va_runS (As := [.int p1]) (rest := []) ⟨hx, hb, hml, hown, hts⟩ (c_X5_isSum l D y p1 H.size e1) (va_cwS 1 hts gX5_peakSum_X5_isSum rfl rfl rfl (by decide +kernel) ⟨Nat.le_of_ble_eq_true rfl, Nat.le_of_ble_eq_true rfl⟩) ⟨xblind, xprev hPc hK hDc⟩ rfl rfl hl.1 rfl (lv_room (Nat.le_of_ble_eq_true rfl)) dX5_peakSum_1 ⟨Nat.le_of_ble_eq_true rfl, Nat.le_of_ble_eq_true rfl⟩) hP hD hS hA [] [0, 1, 2, 3, 4, 5, 6] [0, 1, 2, 3, 4, 5, 6] rfl rfl (by decide) (by decide) rfl (by decide) (fun H locs hP hD hS => ?_)
  refine lv_if_eq (tgt := 26) hx hb dX5_peakSum_4 (by decide) (fun c2 => ?_) (fun c2 => ?_)
  · have hB := xip c2 hB
    refine lv_ldc (v := -10000001) hx hb hown (hts _ kX5_peakSum_c67) dX5_peakSum_26 ?_
    have hB := Option.some.inj hB
    subst hB
    exact W.iret hx hb hr (fun t ht hW => ⟨⟨_, (), rfl, rfl, by rw [ht]; exact hP, va_K.moved hW.alike hK, hD⟩, hS.F ht⟩) hS.2.2 dX5_peakSum_28 hlocks
  · have hB := xin c2 hB
    refine lv_iload_n hx hb dX5_peakSum_7 rfl (lv_at hl 2 rfl) ?_
    refine lv_iconst (v := 0) hx hb dX5_peakSum_8 (by decide) ?_
    refine lv_iconst (v := 1) hx hb dX5_peakSum_9 (by decide) ?_
    refine lv_aload_n hx hb dX5_peakSum_10 rfl (lv_at hl 0 rfl) ?_
    refine va_get (D := D) (ci := 5) (v := .ref a_o) (C := RX5) (T := TX5) (N := 9) hx hb hts kX5_peakSum_wX5 hown hK hP 0 rfl rfl 8 (by decide) (hts _ kX5_peakSum_f59) (fun _ h9 => h9) rfl dX5_peakSum_11 ?_
    refine va_get (D := D) (ci := 1) (v := .int f_o_n) (C := RX1) (T := TX1) (N := 11) hx hb hts kX5_peakSum_wX1 hown hK hP 5 rfl rfl 0 (by decide) (hts _ kX5_peakSum_f68) (fun _ h9 => h9) rfl dX5_peakSum_14 ?_
    refine lv_ishl hx hb dX5_peakSum_17 ?_
    refine lv_iconst (v := 1) hx hb dX5_peakSum_18 (by decide) ?_
    refine lv_isub hx hb dX5_peakSum_19 ?_
    obtain ⟨q3, e3, hB⟩ := xbd hB
    have hPc := hP.sub (ws' := []) [] rfl
    have hDc := hD.sub (ws' := []) [] (by decide) rfl
    refine xcalli (mc := 0) (ms := 0) (rv := q3) (wc := []) (wr := [(a_x, .inr (5, [.ref a_known, .ref a_so, .ref a_made, .ref a_pcl, .ref a_hi, .ref a_tx, .ref a_rd, .ref a_tb, .ref a_o])), (a_so, .inl (y 4, 3, .inr (.inr (.inr (.inr (xO a_s 3)))))), xE a_s (y 0) 120 v_s 0, xE a_s (y 0) 120 v_s 1, xE a_s (y 0) 120 v_s 2, (a_o, .inr (1, [.int f_o_n, .int f_o_many, .int f_o_sets, .ref a_od, .ref a_op, .ref a_oi, .ref a_ov, .ref a_of, .ref a_ol, .ref a_om, .ref a_ow])), (a_op, .inl (y 0, lm_o, .inl v_op))]) (w1 := []) (wf := [(a_x, .inr (5, [.ref a_known, .ref a_so, .ref a_made, .ref a_pcl, .ref a_hi, .ref a_tx, .ref a_rd, .ref a_tb, .ref a_o])), (a_so, .inl (y 4, 3, .inr (.inr (.inr (.inr (xO a_s 3)))))), xE a_s (y 0) 120 v_s 0, xE a_s (y 0) 120 v_s 1, xE a_s (y 0) 120 v_s 2, (a_o, .inr (1, [.int f_o_n, .int f_o_many, .int f_o_sets, .ref a_od, .ref a_op, .ref a_oi, .ref a_ov, .ref a_of, .ref a_ol, .ref a_om, .ref a_ow])), (a_op, .inl (y 0, lm_o, .inl v_op))]) (va_runS (As := [.int p2, .int (0 : Int32), .int (((1 : Int32) <<< (f_o_n &&& 31)) - (1 : Int32))]) (rest := []) ⟨hx, hb, hml, hown, hts⟩ (c_X5_isWithin l D y p2 (0 : Int32) (((1 : Int32) <<< (f_o_n &&& 31)) - (1 : Int32)) H.size e3) (va_cwS 3 hts gX5_peakSum_X5_isWithin rfl rfl rfl (by decide +kernel) ⟨Nat.le_of_ble_eq_true rfl, Nat.le_of_ble_eq_true rfl⟩) ⟨xblind, xprev hPc hK hDc⟩ rfl rfl hl.1 rfl (lv_room (Nat.le_of_ble_eq_true rfl)) dX5_peakSum_20 ⟨Nat.le_of_ble_eq_true rfl, Nat.le_of_ble_eq_true rfl⟩) hP hD hS hA [] [0, 1, 2, 3, 4, 5, 6] [0, 1, 2, 3, 4, 5, 6] rfl rfl (by decide) (by decide) rfl (by decide) (fun H locs hP hD hS => ?_)
    refine lv_if_ne (tgt := 29) hx hb dX5_peakSum_23 (by decide) (fun c4 => ?_) (fun c4 => ?_)
    · have hB := xin c4 hB
      refine lv_iconst (v := 0) hx hb dX5_peakSum_29 (by decide) ?_
      refine lv_istore_n (lv' := [(3, .int (0 : Int32)), (0, .ref a_x), (1, .int p1), (2, .int p2)]) hx hb dX5_peakSum_30 rfl hl (by decide) rfl (fun ls hl => ?_)
      refine lv_iconst (v := 0) hx hb dX5_peakSum_31 (by decide) ?_
      refine lv_istore (lv' := [(4, .int (0 : Int32)), (3, .int (0 : Int32)), (0, .ref a_x), (1, .int p1), (2, .int p2)]) hx hb dX5_peakSum_32 hl (by decide) rfl (fun ls hl => ?_)
      refine lv_iconst (v := 0) hx hb dX5_peakSum_34 (by decide) ?_
      refine lv_istore (lv' := [(5, .int (0 : Int32)), (4, .int (0 : Int32)), (3, .int (0 : Int32)), (0, .ref a_x), (1, .int p1), (2, .int p2)]) hx hb dX5_peakSum_35 hl (by decide) rfl (fun ls hl => ?_)
      exact B_X5_peakSum_37 (p1 := p1) (p2 := p2) C0 xF (0 : Int32) (0 : Int32) (0 : Int32) H locs ls hP hD hS (lv_sub hl [3, 4, 5, 2, 1, 0] rfl) hB
    · have hB := xip c4 hB
      refine lv_ldc (v := -10000001) hx hb hown (hts _ kX5_peakSum_c67) dX5_peakSum_26 ?_
      have hB := Option.some.inj hB
      subst hB
      exact W.iret hx hb hr (fun t ht hW => ⟨⟨_, (), rfl, rfl, by rw [ht]; exact hP, va_K.moved hW.alike hK, hD⟩, hS.F ht⟩) hS.2.2 dX5_peakSum_28 hlocks
set_option maxHeartbeats 4000000 in
set_option maxRecDepth 100000 in
theorem c_X5_peakSum (l : Launch) (D : va_G) (y : Nat → ClassId) (a_x : Nat) (a_known : Nat) (a_so : Nat) (a_made : Nat) (a_pcl : Nat) (a_hi : Nat) (a_tx : Nat) (a_rd : Nat) (a_tb : Nat) (a_o : Nat) (a_s : Nat → Nat) (a_od : Nat) (a_op : Nat) (a_oi : Nat) (a_ov : Nat) (a_of : Nat) (a_ol : Nat) (a_om : Nat) (a_ow : Nat) (lm_o : Nat) (v_s : Nat → Nat → Int32) (f_o_n : Int32) (f_o_many : Int32) (f_o_sets : Int32) (v_op : Nat → Int32) (p1 : Int32) (p2 : Int32) (sz : Nat) {R : Int32} (hF : F_X5_peakSum lm_o v_s f_o_n f_o_many v_op p1 p2 = some R) : Met l yX5_peakSum wsX5_peakSum ({ frames := 2, cells := 0, slots := 0, locals := 42 } : Room) (xPre D y sz [.ref a_x, .int p1, .int p2] [(a_x, .inr (5, [.ref a_known, .ref a_so, .ref a_made, .ref a_pcl, .ref a_hi, .ref a_tx, .ref a_rd, .ref a_tb, .ref a_o])), (a_so, .inl (y 4, 3, .inr (.inr (.inr (.inr (xO a_s 3)))))), xE a_s (y 0) 120 v_s 0, xE a_s (y 0) 120 v_s 1, xE a_s (y 0) 120 v_s 2, (a_o, .inr (1, [.int f_o_n, .int f_o_many, .int f_o_sets, .ref a_od, .ref a_op, .ref a_oi, .ref a_ov, .ref a_of, .ref a_ol, .ref a_om, .ref a_ow])), (a_op, .inl (y 0, lm_o, .inl v_op))]) (va_Qi (fun (r : Int32) (_ : Unit) => r = R) (xB D y (va_A [(a_x, .inr (5, [.ref a_known, .ref a_so, .ref a_made, .ref a_pcl, .ref a_hi, .ref a_tx, .ref a_rd, .ref a_tb, .ref a_o])), (a_so, .inl (y 4, 3, .inr (.inr (.inr (.inr (xO a_s 3)))))), xE a_s (y 0) 120 v_s 0, xE a_s (y 0) 120 v_s 1, xE a_s (y 0) 120 v_s 2, (a_o, .inr (1, [.int f_o_n, .int f_o_many, .int f_o_sets, .ref a_od, .ref a_op, .ref a_oi, .ref a_ov, .ref a_of, .ref a_ol, .ref a_om, .ref a_ow])), (a_op, .inl (y 0, lm_o, .inl v_op))] sz) [(a_x, .inr (5, [.ref a_known, .ref a_so, .ref a_made, .ref a_pcl, .ref a_hi, .ref a_tx, .ref a_rd, .ref a_tb, .ref a_o])), (a_so, .inl (y 4, 3, .inr (.inr (.inr (.inr (xO a_s 3)))))), xE a_s (y 0) 120 v_s 0, xE a_s (y 0) 120 v_s 1, xE a_s (y 0) 120 v_s 2, (a_o, .inr (1, [.int f_o_n, .int f_o_many, .int f_o_sets, .ref a_od, .ref a_op, .ref a_oi, .ref a_ov, .ref a_of, .ref a_ol, .ref a_om, .ref a_ow])), (a_op, .inl (y 0, lm_o, .inl v_op))]) (va_A [(a_x, .inr (5, [.ref a_known, .ref a_so, .ref a_made, .ref a_pcl, .ref a_hi, .ref a_tx, .ref a_rd, .ref a_tb, .ref a_o])), (a_so, .inl (y 4, 3, .inr (.inr (.inr (.inr (xO a_s 3)))))), xE a_s (y 0) 120 v_s 0, xE a_s (y 0) 120 v_s 1, xE a_s (y 0) 120 v_s 2, (a_o, .inr (1, [.int f_o_n, .int f_o_many, .int f_o_sets, .ref a_od, .ref a_op, .ref a_oi, .ref a_ov, .ref a_of, .ref a_ol, .ref a_om, .ref a_ow])), (a_op, .inl (y 0, lm_o, .inl v_op))] sz)) 0 0 (va_A [(a_x, .inr (5, [.ref a_known, .ref a_so, .ref a_made, .ref a_pcl, .ref a_hi, .ref a_tx, .ref a_rd, .ref a_tb, .ref a_o])), (a_so, .inl (y 4, 3, .inr (.inr (.inr (.inr (xO a_s 3)))))), xE a_s (y 0) 120 v_s 0, xE a_s (y 0) 120 v_s 1, xE a_s (y 0) 120 v_s 2, (a_o, .inr (1, [.int f_o_n, .int f_o_many, .int f_o_sets, .ref a_od, .ref a_op, .ref a_oi, .ref a_ov, .ref a_of, .ref a_ol, .ref a_om, .ref a_ow])), (a_op, .inl (y 0, lm_o, .inl v_op))] sz) := by
  refine Met.ofW (cc := cX5_peakSum) (maxL := 6) (ret := (some .int)) (by decide) rfl ?_
  intro p e s m args below meth c s₁ B hml hv
  obtain ⟨rfl, hsz, hP, hK, hD0⟩ := hv
  subst hsz
  have hD := hD0.self (sz := s.heap.size)
  have C : xC p s m [.ref a_x, .int p1, .int p2].toArray meth c (va_A [(a_x, .inr (5, [.ref a_known, .ref a_so, .ref a_made, .ref a_pcl, .ref a_hi, .ref a_tx, .ref a_rd, .ref a_tb, .ref a_o])), (a_so, .inl (y 4, 3, .inr (.inr (.inr (.inr (xO a_s 3)))))), xE a_s (y 0) 120 v_s 0, xE a_s (y 0) 120 v_s 1, xE a_s (y 0) 120 v_s 2, (a_o, .inr (1, [.int f_o_n, .int f_o_many, .int f_o_sets, .ref a_od, .ref a_op, .ref a_oi, .ref a_ov, .ref a_of, .ref a_ol, .ref a_om, .ref a_ow])), (a_op, .inl (y 0, lm_o, .inl v_op))] s.heap.size) cX5_peakSum RX5 wsX5_peakSum 6 (some .int) D y := ⟨B.exec, B.bytes, hml, findClass_of_methodNamed B.named, atoms_spec (ws := wsX5_peakSum) B.pre, B.returns, B.notSynchronized, hK, fun q h => Or.inr h⟩
  have hl := lv_entry ([.ref a_x, .int p1, .int p2]) (n := 6) (Nat.le_of_ble_eq_true rfl)
  rw [lg_entry_eq]
  generalize (lg_sl ([.ref a_x, .int p1, .int p2]) ++ List.replicate (6 - (lg_sl ([.ref a_x, .int p1, .int p2])).length) Slot.unset).toArray = ls at hl ⊢
  have hl : lv_has ls 6 [(0, .ref a_x), (1, .int p1), (2, .int p2)] := hl
  exact B_X5_peakSum_0 (p1 := p1) (p2 := p2) C  s.heap [] ls hP hD va_S.rf hl hF
