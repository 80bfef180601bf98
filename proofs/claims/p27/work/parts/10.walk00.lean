/-! by program (wip/whole/gen): the bytecode meets the functions -/
theorem kX0_init_oi1 : Cond.methodLink RX0 3 objectInit ∈ wsX0_init := by decide +kernel
theorem kX0_init_oi2 : Cond.instanceMethod objectInit ∈ wsX0_init := by decide +kernel
theorem kX0_init_oi3 : Cond.code objectInit ⟨#[0xb1]⟩ 1 none ∈ wsX0_init := by decide +kernel
theorem kX0_init_aI : Cond.arrayClass .int ∈ wsX0_init := by decide +kernel
theorem kX0_init_c22 : Cond.classLink RX0 22 "[[I" ∈ wsX0_init := by decide +kernel
theorem kX0_init_f9 : Cond.fieldLink RX0 9 "DescentShuffles$History" "many" "I" ∈ wsX0_init := by decide +kernel
theorem kX0_init_wX0 : ∀ w ∈ u_ws RX0 TX0 4, w ∈ wsX0_init := by decide +kernel
theorem kX0_init_f15 : Cond.fieldLink RX0 15 "DescentShuffles$History" "next" "I" ∈ wsX0_init := by decide +kernel
theorem kX0_init_f18 : Cond.fieldLink RX0 18 "DescentShuffles$History" "lengths" "[I" ∈ wsX0_init := by decide +kernel
theorem kX0_init_f24 : Cond.fieldLink RX0 24 "DescentShuffles$History" "factors" "[[I" ∈ wsX0_init := by decide +kernel
def S_X0_init_0 (p : Program) (l : Launch) (e : Env) (s : State) (m : MethodId) (args : Array Value) (below : List Frame) (meth : Method) (c : Code) (A : Nat → Prop) (D : va_G) (y : Nat → ClassId) (a_hi : Nat) (R : Int32 × Int32 × (Nat → Int32) × (Nat → Nat → Int32)) (κ : Option (Int32 × Int32 × (Nat → Int32) × (Nat → Nat → Int32))) : Prop := ∀ (H : Heap) (locs : List Loc) (ls : Array Slot), va_P D vwCl [(a_hi, .inr (0, [.int (0 : Int32), .int (0 : Int32), .null, .null]))] H → va_D A [(a_hi, .inr (0, [.int (0 : Int32), .int (0 : Int32), .null, .null]))] → va_S A s.heap H locs → lv_has ls 1 [(0, .ref a_hi)] → κ = some R → W p l e ({ frames := 1, cells := 6, slots := 1448, locals := 20 } : Room) s m args below meth c H locs 0 0 (MQ below (va_Qv (fun (_ : Unit) => True) (xBz D y A (fun z : Nat × Nat × (Nat → Nat) => [(a_hi, .inr (0, [.int R.1, .int R.2.1, .ref z.1, .ref z.2.1])), (z.1, .inl (y 0, 4, .inl R.2.2.1)), (z.2.1, .inl (y 4, 4, .inr (.inr (.inr (.inr (xO z.2.2 4)))))), xE z.2.2 (y 0) 360 R.2.2.2 0, xE z.2.2 (y 0) 360 R.2.2.2 1, xE z.2.2 (y 0) 360 R.2.2.2 2, xE z.2.2 (y 0) 360 R.2.2.2 3])) A) args s 6 1448 A) (F0 m 0 ls [])
set_option maxHeartbeats 4000000 in
set_option maxRecDepth 100000 in
theorem B_X0_init_0 {p : Program} {l : Launch} {e : Env} {s : State} {m : MethodId} {args : Array Value} {below : List Frame} {meth : Method} {c : Code} {A : Nat → Prop} {D : va_G} {y : Nat → ClassId} {a_hi : Nat} {R : Int32 × Int32 × (Nat → Int32) × (Nat → Nat → Int32)} (C : xC p s m args meth c A cX0_init RX0 wsX0_init 1 none D y) (hin : meth.name = "<init>") (hAOA : xAOA s)  : S_X0_init_0 p l e s m args below meth c A D y a_hi R (F_X0_init ) := by
  have C0 := C
  obtain ⟨hx, hb, hml, hown, hts, hr, hlocks, hK, hA⟩ := C
  intro H locs ls hP hD hS hl hB
  unfold F_X0_init at hB
  refine lv_aload_n hx hb dX0_init_0 rfl (lv_at hl 0 rfl) ?_
  refine W.objInit hx hb hown (hts _ kX0_init_oi1) (hts _ kX0_init_oi2) (hts _ kX0_init_oi3) rfl (by rw [hml]; exact hl.1) rfl dX0_init_1 (Nat.le_of_ble_eq_true rfl) (Nat.le_of_ble_eq_true rfl) ?_
  refine W.eq (g2 := F0 m 4 ls []) rfl ?_
  refine lv_aload_n hx hb dX0_init_4 rfl (lv_at hl 0 rfl) ?_
  refine lv_iconst (v := 0) hx hb dX0_init_5 (by decide) ?_
  refine va_put (D := D) (ci := 0) (v := .int (0 : Int32)) (ty := .int) (C := RX0) (T := TX0) (N := 4) hx hb hts kX0_init_wX0 tyX0 tyX0_ok nmX0 hown hK hP hD hS 0 rfl rfl 0 (by decide) (hts _ kX0_init_f9) (fun _ h9 => h9) rfl (by decide +kernel) rfl rfl (Nat.le_of_ble_eq_true rfl) dX0_init_6 (fun H locs hP hD hS => ?_)
  have hP : va_P D vwCl [(a_hi, .inr (0, [.int (0 : Int32), .int (0 : Int32), .null, .null]))] H := hP
  have hD : va_D A [(a_hi, .inr (0, [.int (0 : Int32), .int (0 : Int32), .null, .null]))] := hD
  refine lv_aload_n hx hb dX0_init_9 rfl (lv_at hl 0 rfl) ?_
  refine lv_iconst (v := 0) hx hb dX0_init_10 (by decide) ?_
  refine va_put (D := D) (ci := 0) (v := .int (0 : Int32)) (ty := .int) (C := RX0) (T := TX0) (N := 4) hx hb hts kX0_init_wX0 tyX0 tyX0_ok nmX0 hown hK hP hD hS 0 rfl rfl 1 (by decide) (hts _ kX0_init_f15) (fun _ h9 => h9) rfl (by decide +kernel) rfl rfl (Nat.le_of_ble_eq_true rfl) dX0_init_11 (fun H locs hP hD hS => ?_)
  have hP : va_P D vwCl [(a_hi, .inr (0, [.int (0 : Int32), .int (0 : Int32), .null, .null]))] H := hP
  have hD : va_D A [(a_hi, .inr (0, [.int (0 : Int32), .int (0 : Int32), .null, .null]))] := hD
  refine lv_aload_n hx hb dX0_init_14 rfl (lv_at hl 0 rfl) ?_
  refine lv_iconst (v := 4) hx hb dX0_init_15 (by decide) ?_
  refine xnewI hx hb (hts _ kX0_init_aI) hK hP hD hS hA (n := 4) (N' := 4) (by decide) (by decide) (Nat.le_of_ble_eq_true rfl) (Nat.le_of_ble_eq_true rfl) (Nat.le_of_ble_eq_true rfl) dX0_init_16 (fun a_hl H hP hD hS => ?_)
  have hP : va_P D vwCl [(a_hi, .inr (0, [.int (0 : Int32), .int (0 : Int32), .null, .null])), (a_hl, .inl (y 0, 4, .inl (fun _ => (0 : Int32))))] H := hP
  have hD : va_D A [(a_hi, .inr (0, [.int (0 : Int32), .int (0 : Int32), .null, .null])), (a_hl, .inl (y 0, 4, .inl (fun _ => (0 : Int32))))] := hD
  refine va_putF (D := D) (ci := 0) (v := .ref a_hl) (ty := tyX0 2) (C := RX0) (T := TX0) (N := 4) hx hb hts kX0_init_wX0 tyX0 tyX0_ok nmX0 hown hK hP hD hS 0 rfl rfl 2 (by decide) (hts _ kX0_init_f18) (fun _ h9 => h9) rfl hin rfl (by decide +kernel) rfl rfl (Nat.le_of_ble_eq_true rfl) dX0_init_18 (fun H locs hP hD hS => ?_)
  have hP : va_P D vwCl [(a_hi, .inr (0, [.int (0 : Int32), .int (0 : Int32), .ref a_hl, .null])), (a_hl, .inl (y 0, 4, .inl (fun _ => (0 : Int32))))] H := hP
  have hD : va_D A [(a_hi, .inr (0, [.int (0 : Int32), .int (0 : Int32), .ref a_hl, .null])), (a_hl, .inl (y 0, 4, .inl (fun _ => (0 : Int32))))] := hD
  refine lv_aload_n hx hb dX0_init_21 rfl (lv_at hl 0 rfl) ?_
  refine lv_iconst (v := 4) hx hb dX0_init_22 (by decide) ?_
  refine lv_sipush (v := 360) hx hb dX0_init_23 (by decide) ?_
  refine xmna4 hx hb hown (hts _ kX0_init_c22) hAOA (hts _ kX0_init_aI) hK hP hD hS hA (k := 360) (K' := 360) (by decide) (by decide) (by decide) (Nat.le_of_ble_eq_true rfl) (Nat.le_of_ble_eq_true rfl) dX0_init_26 (fun a_hfo a_hf H hP hD hS => ?_)
  have hP : va_P D vwCl [(a_hi, .inr (0, [.int (0 : Int32), .int (0 : Int32), .ref a_hl, .null])), (a_hl, .inl (y 0, 4, .inl (fun _ => (0 : Int32)))), (a_hfo, .inl (y 4, 4, .inr (.inr (.inr (.inr (xO a_hf 4)))))), xE a_hf (y 0) 360 (fun _ _ => (0 : Int32)) 0, xE a_hf (y 0) 360 (fun _ _ => (0 : Int32)) 1, xE a_hf (y 0) 360 (fun _ _ => (0 : Int32)) 2, xE a_hf (y 0) 360 (fun _ _ => (0 : Int32)) 3] H := hP
  have hD : va_D A [(a_hi, .inr (0, [.int (0 : Int32), .int (0 : Int32), .ref a_hl, .null])), (a_hl, .inl (y 0, 4, .inl (fun _ => (0 : Int32)))), (a_hfo, .inl (y 4, 4, .inr (.inr (.inr (.inr (xO a_hf 4)))))), xE a_hf (y 0) 360 (fun _ _ => (0 : Int32)) 0, xE a_hf (y 0) 360 (fun _ _ => (0 : Int32)) 1, xE a_hf (y 0) 360 (fun _ _ => (0 : Int32)) 2, xE a_hf (y 0) 360 (fun _ _ => (0 : Int32)) 3] := hD
  refine va_putF (D := D) (ci := 0) (v := .ref a_hfo) (ty := tyX0 3) (C := RX0) (T := TX0) (N := 4) hx hb hts kX0_init_wX0 tyX0 tyX0_ok nmX0 hown hK hP hD hS 0 rfl rfl 3 (by decide) (hts _ kX0_init_f24) (fun _ h9 => h9) rfl hin rfl (by decide +kernel) rfl rfl (Nat.le_of_ble_eq_true rfl) dX0_init_30 (fun H locs hP hD hS => ?_)
  have hP : va_P D vwCl [(a_hi, .inr (0, [.int (0 : Int32), .int (0 : Int32), .ref a_hl, .ref a_hfo])), (a_hl, .inl (y 0, 4, .inl (fun _ => (0 : Int32)))), (a_hfo, .inl (y 4, 4, .inr (.inr (.inr (.inr (xO a_hf 4)))))), xE a_hf (y 0) 360 (fun _ _ => (0 : Int32)) 0, xE a_hf (y 0) 360 (fun _ _ => (0 : Int32)) 1, xE a_hf (y 0) 360 (fun _ _ => (0 : Int32)) 2, xE a_hf (y 0) 360 (fun _ _ => (0 : Int32)) 3] H := hP
  have hD : va_D A [(a_hi, .inr (0, [.int (0 : Int32), .int (0 : Int32), .ref a_hl, .ref a_hfo])), (a_hl, .inl (y 0, 4, .inl (fun _ => (0 : Int32)))), (a_hfo, .inl (y 4, 4, .inr (.inr (.inr (.inr (xO a_hf 4)))))), xE a_hf (y 0) 360 (fun _ _ => (0 : Int32)) 0, xE a_hf (y 0) 360 (fun _ _ => (0 : Int32)) 1, xE a_hf (y 0) 360 (fun _ _ => (0 : Int32)) 2, xE a_hf (y 0) 360 (fun _ _ => (0 : Int32)) 3] := hD
  have hB := Option.some.inj hB
  subst hB
  refine W.widen (k := 6) (n := 1448) (Nat.le_of_ble_eq_true rfl) (Nat.le_of_ble_eq_true rfl) ?_
  exact W.vret hx hb hr (fun t ht hW => ⟨⟨(), rfl, trivial, ⟨a_hl, a_hfo, a_hf⟩, by rw [ht]; exact hP, va_K.moved hW.alike hK, hD⟩, hS.F ht⟩) hS.2.2 dX0_init_33 hlocks
set_option maxHeartbeats 4000000 in
set_option maxRecDepth 100000 in
theorem c_X0_init (l : Launch) (D : va_G) (y : Nat → ClassId) (a_hi : Nat)  (sz : Nat) {R : Int32 × Int32 × (Nat → Int32) × (Nat → Nat → Int32)} (hF : F_X0_init = some R) : Met l yX0_init wsX0_init ({ frames := 1, cells := 6, slots := 1448, locals := 20 } : Room) (xPreE D y sz [.ref a_hi] [(a_hi, .inr (0, [.int (0 : Int32), .int (0 : Int32), .null, .null]))] (fun U => (xAOA U))) (va_Qv (fun (_ : Unit) => True) (xBz D y (va_A [(a_hi, .inr (0, [.int (0 : Int32), .int (0 : Int32), .null, .null]))] sz) (fun z : Nat × Nat × (Nat → Nat) => [(a_hi, .inr (0, [.int R.1, .int R.2.1, .ref z.1, .ref z.2.1])), (z.1, .inl (y 0, 4, .inl R.2.2.1)), (z.2.1, .inl (y 4, 4, .inr (.inr (.inr (.inr (xO z.2.2 4)))))), xE z.2.2 (y 0) 360 R.2.2.2 0, xE z.2.2 (y 0) 360 R.2.2.2 1, xE z.2.2 (y 0) 360 R.2.2.2 2, xE z.2.2 (y 0) 360 R.2.2.2 3])) (va_A [(a_hi, .inr (0, [.int (0 : Int32), .int (0 : Int32), .null, .null]))] sz)) 6 1448 (va_A [(a_hi, .inr (0, [.int (0 : Int32), .int (0 : Int32), .null, .null]))] sz) := by
  refine Met.ofW (cc := cX0_init) (maxL := 1) (ret := none) (by decide) rfl ?_
  intro p e s m args below meth c s₁ B hml hv
  obtain ⟨rfl, hsz, hP, hK, hD0, hAOA⟩ := hv
  subst hsz
  have hD := hD0.self (sz := s.heap.size)
  have C : xC p s m [.ref a_hi].toArray meth c (va_A [(a_hi, .inr (0, [.int (0 : Int32), .int (0 : Int32), .null, .null]))] s.heap.size) cX0_init RX0 wsX0_init 1 none D y := ⟨B.exec, B.bytes, hml, findClass_of_methodNamed B.named, atoms_spec (ws := wsX0_init) B.pre, B.returns, B.notSynchronized, hK, fun q h => Or.inr h⟩
  have hl := lv_entry ([.ref a_hi]) (n := 1) (Nat.le_of_ble_eq_true rfl)
  rw [lg_entry_eq]
  generalize (lg_sl ([.ref a_hi]) ++ List.replicate (1 - (lg_sl ([.ref a_hi])).length) Slot.unset).toArray = ls at hl ⊢
  have hl : lv_has ls 1 [(0, .ref a_hi)] := hl
  exact B_X0_init_0 C (name_of_methodNamed B.named B.method).1 hAOA  s.heap [] ls hP hD va_S.rf hl hF
theorem kX2_init_oi1 : Cond.methodLink RX2 1 objectInit ∈ wsX2_init := by decide +kernel
theorem kX2_init_oi2 : Cond.instanceMethod objectInit ∈ wsX2_init := by decide +kernel
theorem kX2_init_oi3 : Cond.code objectInit ⟨#[0xb1]⟩ 1 none ∈ wsX2_init := by decide +kernel
theorem kX2_init_aC : Cond.arrayClass .char ∈ wsX2_init := by decide +kernel
theorem kX2_init_f7 : Cond.fieldLink RX2 7 "DescentShuffles$SumText" "length" "I" ∈ wsX2_init := by decide +kernel
theorem kX2_init_wX2 : ∀ w ∈ u_ws RX2 TX2 2, w ∈ wsX2_init := by decide +kernel
theorem kX2_init_f13 : Cond.fieldLink RX2 13 "DescentShuffles$SumText" "signs" "[C" ∈ wsX2_init := by decide +kernel
def S_X2_init_0 (p : Program) (l : Launch) (e : Env) (s : State) (m : MethodId) (args : Array Value) (below : List Frame) (meth : Method) (c : Code) (A : Nat → Prop) (D : va_G) (y : Nat → ClassId) (a_tx : Nat) (R : Int32 × (Nat → Int32)) (κ : Option (Int32 × (Nat → Int32))) : Prop := ∀ (H : Heap) (locs : List Loc) (ls : Array Slot), va_P D vwCl [(a_tx, .inr (2, [.int (0 : Int32), .null]))] H → va_D A [(a_tx, .inr (2, [.int (0 : Int32), .null]))] → va_S A s.heap H locs → lv_has ls 1 [(0, .ref a_tx)] → κ = some R → W p l e ({ frames := 1, cells := 1, slots := 60, locals := 20 } : Room) s m args below meth c H locs 0 0 (MQ below (va_Qv (fun (_ : Unit) => True) (xBz D y A (fun z : Nat => [(a_tx, .inr (2, [.int R.1, .ref z])), (z, .inl (y 2, 60, .inl R.2))])) A) args s 1 60 A) (F0 m 0 ls [])
set_option maxHeartbeats 4000000 in
set_option maxRecDepth 100000 in
theorem B_X2_init_0 {p : Program} {l : Launch} {e : Env} {s : State} {m : MethodId} {args : Array Value} {below : List Frame} {meth : Method} {c : Code} {A : Nat → Prop} {D : va_G} {y : Nat → ClassId} {a_tx : Nat} {R : Int32 × (Nat → Int32)} (C : xC p s m args meth c A cX2_init RX2 wsX2_init 1 none D y) (hin : meth.name = "<init>")  : S_X2_init_0 p l e s m args below meth c A D y a_tx R (F_X2_init ) := by
  have C0 := C
  obtain ⟨hx, hb, hml, hown, hts, hr, hlocks, hK, hA⟩ := C
  intro H locs ls hP hD hS hl hB
  unfold F_X2_init at hB
  refine lv_aload_n hx hb dX2_init_0 rfl (lv_at hl 0 rfl) ?_
  refine W.objInit hx hb hown (hts _ kX2_init_oi1) (hts _ kX2_init_oi2) (hts _ kX2_init_oi3) rfl (by rw [hml]; exact hl.1) rfl dX2_init_1 (Nat.le_of_ble_eq_true rfl) (Nat.le_of_ble_eq_true rfl) ?_
  refine W.eq (g2 := F0 m 4 ls []) rfl ?_
  refine lv_aload_n hx hb dX2_init_4 rfl (lv_at hl 0 rfl) ?_
  refine lv_iconst (v := 0) hx hb dX2_init_5 (by decide) ?_
  refine va_put (D := D) (ci := 2) (v := .int (0 : Int32)) (ty := .int) (C := RX2) (T := TX2) (N := 2) hx hb hts kX2_init_wX2 tyX2 tyX2_ok nmX2 hown hK hP hD hS 0 rfl rfl 0 (by decide) (hts _ kX2_init_f7) (fun _ h9 => h9) rfl (by decide +kernel) rfl rfl (Nat.le_of_ble_eq_true rfl) dX2_init_6 (fun H locs hP hD hS => ?_)
  have hP : va_P D vwCl [(a_tx, .inr (2, [.int (0 : Int32), .null]))] H := hP
  have hD : va_D A [(a_tx, .inr (2, [.int (0 : Int32), .null]))] := hD
  refine lv_aload_n hx hb dX2_init_9 rfl (lv_at hl 0 rfl) ?_
  refine lv_bipush (v := 60) hx hb dX2_init_10 (by decide) ?_
  refine xnewC hx hb (hts _ kX2_init_aC) hK hP hD hS hA (n := 60) (N' := 60) (by decide) (by decide) (Nat.le_of_ble_eq_true rfl) (Nat.le_of_ble_eq_true rfl) (Nat.le_of_ble_eq_true rfl) dX2_init_12 (fun a_tg H hP hD hS => ?_)
  have hP : va_P D vwCl [(a_tx, .inr (2, [.int (0 : Int32), .null])), (a_tg, .inl (y 2, 60, .inl (fun _ => (0 : Int32))))] H := hP
  have hD : va_D A [(a_tx, .inr (2, [.int (0 : Int32), .null])), (a_tg, .inl (y 2, 60, .inl (fun _ => (0 : Int32))))] := hD
  refine va_putF (D := D) (ci := 2) (v := .ref a_tg) (ty := tyX2 1) (C := RX2) (T := TX2) (N := 2) hx hb hts kX2_init_wX2 tyX2 tyX2_ok nmX2 hown hK hP hD hS 0 rfl rfl 1 (by decide) (hts _ kX2_init_f13) (fun _ h9 => h9) rfl hin rfl (by decide +kernel) rfl rfl (Nat.le_of_ble_eq_true rfl) dX2_init_14 (fun H locs hP hD hS => ?_)
  have hP : va_P D vwCl [(a_tx, .inr (2, [.int (0 : Int32), .ref a_tg])), (a_tg, .inl (y 2, 60, .inl (fun _ => (0 : Int32))))] H := hP
  have hD : va_D A [(a_tx, .inr (2, [.int (0 : Int32), .ref a_tg])), (a_tg, .inl (y 2, 60, .inl (fun _ => (0 : Int32))))] := hD
  have hB := Option.some.inj hB
  subst hB
  refine W.widen (k := 1) (n := 60) (Nat.le_of_ble_eq_true rfl) (Nat.le_of_ble_eq_true rfl) ?_
  exact W.vret hx hb hr (fun t ht hW => ⟨⟨(), rfl, trivial, a_tg, by rw [ht]; exact hP, va_K.moved hW.alike hK, hD⟩, hS.F ht⟩) hS.2.2 dX2_init_17 hlocks
set_option maxHeartbeats 4000000 in
set_option maxRecDepth 100000 in
theorem c_X2_init (l : Launch) (D : va_G) (y : Nat → ClassId) (a_tx : Nat)  (sz : Nat) {R : Int32 × (Nat → Int32)} (hF : F_X2_init = some R) : Met l yX2_init wsX2_init ({ frames := 1, cells := 1, slots := 60, locals := 20 } : Room) (xPre D y sz [.ref a_tx] [(a_tx, .inr (2, [.int (0 : Int32), .null]))]) (va_Qv (fun (_ : Unit) => True) (xBz D y (va_A [(a_tx, .inr (2, [.int (0 : Int32), .null]))] sz) (fun z : Nat => [(a_tx, .inr (2, [.int R.1, .ref z])), (z, .inl (y 2, 60, .inl R.2))])) (va_A [(a_tx, .inr (2, [.int (0 : Int32), .null]))] sz)) 1 60 (va_A [(a_tx, .inr (2, [.int (0 : Int32), .null]))] sz) := by
  refine Met.ofW (cc := cX2_init) (maxL := 1) (ret := none) (by decide) rfl ?_
  intro p e s m args below meth c s₁ B hml hv
  obtain ⟨rfl, hsz, hP, hK, hD0⟩ := hv
  subst hsz
  have hD := hD0.self (sz := s.heap.size)
  have C : xC p s m [.ref a_tx].toArray meth c (va_A [(a_tx, .inr (2, [.int (0 : Int32), .null]))] s.heap.size) cX2_init RX2 wsX2_init 1 none D y := ⟨B.exec, B.bytes, hml, findClass_of_methodNamed B.named, atoms_spec (ws := wsX2_init) B.pre, B.returns, B.notSynchronized, hK, fun q h => Or.inr h⟩
  have hl := lv_entry ([.ref a_tx]) (n := 1) (Nat.le_of_ble_eq_true rfl)
  rw [lg_entry_eq]
  generalize (lg_sl ([.ref a_tx]) ++ List.replicate (1 - (lg_sl ([.ref a_tx])).length) Slot.unset).toArray = ls at hl ⊢
  have hl : lv_has ls 1 [(0, .ref a_tx)] := hl
  exact B_X2_init_0 C (name_of_methodNamed B.named B.method).1  s.heap [] ls hP hD va_S.rf hl hF
theorem kX4_init_oi1 : Cond.methodLink RX4 3 objectInit ∈ wsX4_init := by decide +kernel
theorem kX4_init_oi2 : Cond.instanceMethod objectInit ∈ wsX4_init := by decide +kernel
theorem kX4_init_oi3 : Cond.code objectInit ⟨#[0xb1]⟩ 1 none ∈ wsX4_init := by decide +kernel
theorem kX4_init_aI : Cond.arrayClass .int ∈ wsX4_init := by decide +kernel
theorem kX4_init_f9 : Cond.fieldLink RX4 9 "DescentShuffles$TermReader" "terms" "I" ∈ wsX4_init := by decide +kernel
theorem kX4_init_wX4 : ∀ w ∈ u_ws RX4 TX4 9, w ∈ wsX4_init := by decide +kernel
theorem kX4_init_f15 : Cond.fieldLink RX4 15 "DescentShuffles$TermReader" "n" "I" ∈ wsX4_init := by decide +kernel
theorem kX4_init_f18 : Cond.fieldLink RX4 18 "DescentShuffles$TermReader" "stage" "I" ∈ wsX4_init := by decide +kernel
theorem kX4_init_f21 : Cond.fieldLink RX4 21 "DescentShuffles$TermReader" "isMinus" "Z" ∈ wsX4_init := by decide +kernel
theorem kX4_init_f25 : Cond.fieldLink RX4 25 "DescentShuffles$TermReader" "number" "I" ∈ wsX4_init := by decide +kernel
theorem kX4_init_f28 : Cond.fieldLink RX4 28 "DescentShuffles$TermReader" "digits" "I" ∈ wsX4_init := by decide +kernel
theorem kX4_init_f31 : Cond.fieldLink RX4 31 "DescentShuffles$TermReader" "used" "I" ∈ wsX4_init := by decide +kernel
theorem kX4_init_f34 : Cond.fieldLink RX4 34 "DescentShuffles$TermReader" "taken" "I" ∈ wsX4_init := by decide +kernel
theorem kX4_init_f37 : Cond.fieldLink RX4 37 "DescentShuffles$TermReader" "row" "[I" ∈ wsX4_init := by decide +kernel
def S_X4_init_0 (p : Program) (l : Launch) (e : Env) (s : State) (m : MethodId) (args : Array Value) (below : List Frame) (meth : Method) (c : Code) (A : Nat → Prop) (D : va_G) (y : Nat → ClassId) (a_rd : Nat) (R : Int32 × Int32 × Int32 × Int32 × Int32 × Int32 × Int32 × Int32 × (Nat → Int32)) (κ : Option (Int32 × Int32 × Int32 × Int32 × Int32 × Int32 × Int32 × Int32 × (Nat → Int32))) : Prop := ∀ (H : Heap) (locs : List Loc) (ls : Array Slot), va_P D vwCl [(a_rd, .inr (4, [.int (0 : Int32), .int (0 : Int32), .int (0 : Int32), .int (0 : Int32), .int (0 : Int32), .int (0 : Int32), .int (0 : Int32), .int (0 : Int32), .null]))] H → va_D A [(a_rd, .inr (4, [.int (0 : Int32), .int (0 : Int32), .int (0 : Int32), .int (0 : Int32), .int (0 : Int32), .int (0 : Int32), .int (0 : Int32), .int (0 : Int32), .null]))] → va_S A s.heap H locs → lv_has ls 1 [(0, .ref a_rd)] → κ = some R → W p l e ({ frames := 1, cells := 1, slots := 5, locals := 20 } : Room) s m args below meth c H locs 0 0 (MQ below (va_Qv (fun (_ : Unit) => True) (xBz D y A (fun z : Nat => [(a_rd, .inr (4, [.int R.1, .int R.2.1, .int R.2.2.1, .int R.2.2.2.1, .int R.2.2.2.2.1, .int R.2.2.2.2.2.1, .int R.2.2.2.2.2.2.1, .int R.2.2.2.2.2.2.2.1, .ref z])), (z, .inl (y 0, 5, .inl R.2.2.2.2.2.2.2.2))])) A) args s 1 5 A) (F0 m 0 ls [])
set_option maxHeartbeats 4000000 in
set_option maxRecDepth 100000 in
theorem B_X4_init_0 {p : Program} {l : Launch} {e : Env} {s : State} {m : MethodId} {args : Array Value} {below : List Frame} {meth : Method} {c : Code} {A : Nat → Prop} {D : va_G} {y : Nat → ClassId} {a_rd : Nat} {R : Int32 × Int32 × Int32 × Int32 × Int32 × Int32 × Int32 × Int32 × (Nat → Int32)} (C : xC p s m args meth c A cX4_init RX4 wsX4_init 1 none D y) (hin : meth.name = "<init>")  : S_X4_init_0 p l e s m args below meth c A D y a_rd R (F_X4_init ) := by
  have C0 := C
  obtain ⟨hx, hb, hml, hown, hts, hr, hlocks, hK, hA⟩ := C
  intro H locs ls hP hD hS hl hB
  unfold F_X4_init at hB
  refine lv_aload_n hx hb dX4_init_0 rfl (lv_at hl 0 rfl) ?_
  refine W.objInit hx hb hown (hts _ kX4_init_oi1) (hts _ kX4_init_oi2) (hts _ kX4_init_oi3) rfl (by rw [hml]; exact hl.1) rfl dX4_init_1 (Nat.le_of_ble_eq_true rfl) (Nat.le_of_ble_eq_true rfl) ?_
  refine W.eq (g2 := F0 m 4 ls []) rfl ?_
  refine lv_aload_n hx hb dX4_init_4 rfl (lv_at hl 0 rfl) ?_
  refine lv_iconst (v := 0) hx hb dX4_init_5 (by decide) ?_
  refine va_put (D := D) (ci := 4) (v := .int (0 : Int32)) (ty := .int) (C := RX4) (T := TX4) (N := 9) hx hb hts kX4_init_wX4 tyX4 tyX4_ok nmX4 hown hK hP hD hS 0 rfl rfl 0 (by decide) (hts _ kX4_init_f9) (fun _ h9 => h9) rfl (by decide +kernel) rfl rfl (Nat.le_of_ble_eq_true rfl) dX4_init_6 (fun H locs hP hD hS => ?_)
  have hP : va_P D vwCl [(a_rd, .inr (4, [.int (0 : Int32), .int (0 : Int32), .int (0 : Int32), .int (0 : Int32), .int (0 : Int32), .int (0 : Int32), .int (0 : Int32), .int (0 : Int32), .null]))] H := hP
  have hD : va_D A [(a_rd, .inr (4, [.int (0 : Int32), .int (0 : Int32), .int (0 : Int32), .int (0 : Int32), .int (0 : Int32), .int (0 : Int32), .int (0 : Int32), .int (0 : Int32), .null]))] := hD
  refine lv_aload_n hx hb dX4_init_9 rfl (lv_at hl 0 rfl) ?_
  refine lv_iconst (v := 1) hx hb dX4_init_10 (by decide) ?_
  refine va_put (D := D) (ci := 4) (v := .int (1 : Int32)) (ty := .int) (C := RX4) (T := TX4) (N := 9) hx hb hts kX4_init_wX4 tyX4 tyX4_ok nmX4 hown hK hP hD hS 0 rfl rfl 1 (by decide) (hts _ kX4_init_f15) (fun _ h9 => h9) rfl (by decide +kernel) rfl rfl (Nat.le_of_ble_eq_true rfl) dX4_init_11 (fun H locs hP hD hS => ?_)
  have hP : va_P D vwCl [(a_rd, .inr (4, [.int (0 : Int32), .int (1 : Int32), .int (0 : Int32), .int (0 : Int32), .int (0 : Int32), .int (0 : Int32), .int (0 : Int32), .int (0 : Int32), .null]))] H := hP
  have hD : va_D A [(a_rd, .inr (4, [.int (0 : Int32), .int (1 : Int32), .int (0 : Int32), .int (0 : Int32), .int (0 : Int32), .int (0 : Int32), .int (0 : Int32), .int (0 : Int32), .null]))] := hD
  refine lv_aload_n hx hb dX4_init_14 rfl (lv_at hl 0 rfl) ?_
  refine lv_iconst (v := 0) hx hb dX4_init_15 (by decide) ?_
  refine va_put (D := D) (ci := 4) (v := .int (0 : Int32)) (ty := .int) (C := RX4) (T := TX4) (N := 9) hx hb hts kX4_init_wX4 tyX4 tyX4_ok nmX4 hown hK hP hD hS 0 rfl rfl 2 (by decide) (hts _ kX4_init_f18) (fun _ h9 => h9) rfl (by decide +kernel) rfl rfl (Nat.le_of_ble_eq_true rfl) dX4_init_16 (fun H locs hP hD hS => ?_)
  have hP : va_P D vwCl [(a_rd, .inr (4, [.int (0 : Int32), .int (1 : Int32), .int (0 : Int32), .int (0 : Int32), .int (0 : Int32), .int (0 : Int32), .int (0 : Int32), .int (0 : Int32), .null]))] H := hP
  have hD : va_D A [(a_rd, .inr (4, [.int (0 : Int32), .int (1 : Int32), .int (0 : Int32), .int (0 : Int32), .int (0 : Int32), .int (0 : Int32), .int (0 : Int32), .int (0 : Int32), .null]))] := hD
  refine lv_aload_n hx hb dX4_init_19 rfl (lv_at hl 0 rfl) ?_
  refine lv_iconst (v := 0) hx hb dX4_init_20 (by decide) ?_
  refine va_put (D := D) (ci := 4) (v := .int (0 : Int32)) (ty := .boolean) (C := RX4) (T := TX4) (N := 9) hx hb hts kX4_init_wX4 tyX4 tyX4_ok nmX4 hown hK hP hD hS 0 rfl rfl 3 (by decide) (hts _ kX4_init_f21) (fun _ h9 => h9) rfl (by decide +kernel) (by decide) (by decide) (Nat.le_of_ble_eq_true rfl) dX4_init_21 (fun H locs hP hD hS => ?_)
  have hP : va_P D vwCl [(a_rd, .inr (4, [.int (0 : Int32), .int (1 : Int32), .int (0 : Int32), .int (0 : Int32), .int (0 : Int32), .int (0 : Int32), .int (0 : Int32), .int (0 : Int32), .null]))] H := hP
  have hD : va_D A [(a_rd, .inr (4, [.int (0 : Int32), .int (1 : Int32), .int (0 : Int32), .int (0 : Int32), .int (0 : Int32), .int (0 : Int32), .int (0 : Int32), .int (0 : Int32), .null]))] := hD
  refine lv_aload_n hx hb dX4_init_24 rfl (lv_at hl 0 rfl) ?_
  refine lv_iconst (v := 1) hx hb dX4_init_25 (by decide) ?_
  refine va_put (D := D) (ci := 4) (v := .int (1 : Int32)) (ty := .int) (C := RX4) (T := TX4) (N := 9) hx hb hts kX4_init_wX4 tyX4 tyX4_ok nmX4 hown hK hP hD hS 0 rfl rfl 4 (by decide) (hts _ kX4_init_f25) (fun _ h9 => h9) rfl (by decide +kernel) rfl rfl (Nat.le_of_ble_eq_true rfl) dX4_init_26 (fun H locs hP hD hS => ?_)
  have hP : va_P D vwCl [(a_rd, .inr (4, [.int (0 : Int32), .int (1 : Int32), .int (0 : Int32), .int (0 : Int32), .int (1 : Int32), .int (0 : Int32), .int (0 : Int32), .int (0 : Int32), .null]))] H := hP
  have hD : va_D A [(a_rd, .inr (4, [.int (0 : Int32), .int (1 : Int32), .int (0 : Int32), .int (0 : Int32), .int (1 : Int32), .int (0 : Int32), .int (0 : Int32), .int (0 : Int32), .null]))] := hD
  refine lv_aload_n hx hb dX4_init_29 rfl (lv_at hl 0 rfl) ?_
  refine lv_iconst (v := 0) hx hb dX4_init_30 (by decide) ?_
  refine va_put (D := D) (ci := 4) (v := .int (0 : Int32)) (ty := .int) (C := RX4) (T := TX4) (N := 9) hx hb hts kX4_init_wX4 tyX4 tyX4_ok nmX4 hown hK hP hD hS 0 rfl rfl 5 (by decide) (hts _ kX4_init_f28) (fun _ h9 => h9) rfl (by decide +kernel) rfl rfl (Nat.le_of_ble_eq_true rfl) dX4_init_31 (fun H locs hP hD hS => ?_)
  have hP : va_P D vwCl [(a_rd, .inr (4, [.int (0 : Int32), .int (1 : Int32), .int (0 : Int32), .int (0 : Int32), .int (1 : Int32), .int (0 : Int32), .int (0 : Int32), .int (0 : Int32), .null]))] H := hP
  have hD : va_D A [(a_rd, .inr (4, [.int (0 : Int32), .int (1 : Int32), .int (0 : Int32), .int (0 : Int32), .int (1 : Int32), .int (0 : Int32), .int (0 : Int32), .int (0 : Int32), .null]))] := hD
  refine lv_aload_n hx hb dX4_init_34 rfl (lv_at hl 0 rfl) ?_
  refine lv_iconst (v := 0) hx hb dX4_init_35 (by decide) ?_
  refine va_put (D := D) (ci := 4) (v := .int (0 : Int32)) (ty := .int) (C := RX4) (T := TX4) (N := 9) hx hb hts kX4_init_wX4 tyX4 tyX4_ok nmX4 hown hK hP hD hS 0 rfl rfl 6 (by decide) (hts _ kX4_init_f31) (fun _ h9 => h9) rfl (by decide +kernel) rfl rfl (Nat.le_of_ble_eq_true rfl) dX4_init_36 (fun H locs hP hD hS => ?_)
  have hP : va_P D vwCl [(a_rd, .inr (4, [.int (0 : Int32), .int (1 : Int32), .int (0 : Int32), .int (0 : Int32), .int (1 : Int32), .int (0 : Int32), .int (0 : Int32), .int (0 : Int32), .null]))] H := hP
  have hD : va_D A [(a_rd, .inr (4, [.int (0 : Int32), .int (1 : Int32), .int (0 : Int32), .int (0 : Int32), .int (1 : Int32), .int (0 : Int32), .int (0 : Int32), .int (0 : Int32), .null]))] := hD
  refine lv_aload_n hx hb dX4_init_39 rfl (lv_at hl 0 rfl) ?_
  refine lv_iconst (v := 0) hx hb dX4_init_40 (by decide) ?_
  refine va_put (D := D) (ci := 4) (v := .int (0 : Int32)) (ty := .int) (C := RX4) (T := TX4) (N := 9) hx hb hts kX4_init_wX4 tyX4 tyX4_ok nmX4 hown hK hP hD hS 0 rfl rfl 7 (by decide) (hts _ kX4_init_f34) (fun _ h9 => h9) rfl (by decide +kernel) rfl rfl (Nat.le_of_ble_eq_true rfl) dX4_init_41 (fun H locs hP hD hS => ?_)
  have hP : va_P D vwCl [(a_rd, .inr (4, [.int (0 : Int32), .int (1 : Int32), .int (0 : Int32), .int (0 : Int32), .int (1 : Int32), .int (0 : Int32), .int (0 : Int32), .int (0 : Int32), .null]))] H := hP
  have hD : va_D A [(a_rd, .inr (4, [.int (0 : Int32), .int (1 : Int32), .int (0 : Int32), .int (0 : Int32), .int (1 : Int32), .int (0 : Int32), .int (0 : Int32), .int (0 : Int32), .null]))] := hD
  refine lv_aload_n hx hb dX4_init_44 rfl (lv_at hl 0 rfl) ?_
  refine lv_iconst (v := 5) hx hb dX4_init_45 (by decide) ?_
  refine xnewI hx hb (hts _ kX4_init_aI) hK hP hD hS hA (n := 5) (N' := 5) (by decide) (by decide) (Nat.le_of_ble_eq_true rfl) (Nat.le_of_ble_eq_true rfl) (Nat.le_of_ble_eq_true rfl) dX4_init_46 (fun a_rr H hP hD hS => ?_)
  have hP : va_P D vwCl [(a_rd, .inr (4, [.int (0 : Int32), .int (1 : Int32), .int (0 : Int32), .int (0 : Int32), .int (1 : Int32), .int (0 : Int32), .int (0 : Int32), .int (0 : Int32), .null])), (a_rr, .inl (y 0, 5, .inl (fun _ => (0 : Int32))))] H := hP
  have hD : va_D A [(a_rd, .inr (4, [.int (0 : Int32), .int (1 : Int32), .int (0 : Int32), .int (0 : Int32), .int (1 : Int32), .int (0 : Int32), .int (0 : Int32), .int (0 : Int32), .null])), (a_rr, .inl (y 0, 5, .inl (fun _ => (0 : Int32))))] := hD
  refine va_putF (D := D) (ci := 4) (v := .ref a_rr) (ty := tyX4 8) (C := RX4) (T := TX4) (N := 9) hx hb hts kX4_init_wX4 tyX4 tyX4_ok nmX4 hown hK hP hD hS 0 rfl rfl 8 (by decide) (hts _ kX4_init_f37) (fun _ h9 => h9) rfl hin rfl (by decide +kernel) rfl rfl (Nat.le_of_ble_eq_true rfl) dX4_init_48 (fun H locs hP hD hS => ?_)
  have hP : va_P D vwCl [(a_rd, .inr (4, [.int (0 : Int32), .int (1 : Int32), .int (0 : Int32), .int (0 : Int32), .int (1 : Int32), .int (0 : Int32), .int (0 : Int32), .int (0 : Int32), .ref a_rr])), (a_rr, .inl (y 0, 5, .inl (fun _ => (0 : Int32))))] H := hP
  have hD : va_D A [(a_rd, .inr (4, [.int (0 : Int32), .int (1 : Int32), .int (0 : Int32), .int (0 : Int32), .int (1 : Int32), .int (0 : Int32), .int (0 : Int32), .int (0 : Int32), .ref a_rr])), (a_rr, .inl (y 0, 5, .inl (fun _ => (0 : Int32))))] := hD
  have hB := Option.some.inj hB
  subst hB
  refine W.widen (k := 1) (n := 5) (Nat.le_of_ble_eq_true rfl) (Nat.le_of_ble_eq_true rfl) ?_
  exact W.vret hx hb hr (fun t ht hW => ⟨⟨(), rfl, trivial, a_rr, by rw [ht]; exact hP, va_K.moved hW.alike hK, hD⟩, hS.F ht⟩) hS.2.2 dX4_init_51 hlocks
set_option maxHeartbeats 4000000 in
set_option maxRecDepth 100000 in
theorem c_X4_init (l : Launch) (D : va_G) (y : Nat → ClassId) (a_rd : Nat)  (sz : Nat) {R : Int32 × Int32 × Int32 × Int32 × Int32 × Int32 × Int32 × Int32 × (Nat → Int32)} (hF : F_X4_init = some R) : Met l yX4_init wsX4_init ({ frames := 1, cells := 1, slots := 5, locals := 20 } : Room) (xPre D y sz [.ref a_rd] [(a_rd, .inr (4, [.int (0 : Int32), .int (0 : Int32), .int (0 : Int32), .int (0 : Int32), .int (0 : Int32), .int (0 : Int32), .int (0 : Int32), .int (0 : Int32), .null]))]) (va_Qv (fun (_ : Unit) => True) (xBz D y (va_A [(a_rd, .inr (4, [.int (0 : Int32), .int (0 : Int32), .int (0 : Int32), .int (0 : Int32), .int (0 : Int32), .int (0 : Int32), .int (0 : Int32), .int (0 : Int32), .null]))] sz) (fun z : Nat => [(a_rd, .inr (4, [.int R.1, .int R.2.1, .int R.2.2.1, .int R.2.2.2.1, .int R.2.2.2.2.1, .int R.2.2.2.2.2.1, .int R.2.2.2.2.2.2.1, .int R.2.2.2.2.2.2.2.1, .ref z])), (z, .inl (y 0, 5, .inl R.2.2.2.2.2.2.2.2))])) (va_A [(a_rd, .inr (4, [.int (0 : Int32), .int (0 : Int32), .int (0 : Int32), .int (0 : Int32), .int (0 : Int32), .int (0 : Int32), .int (0 : Int32), .int (0 : Int32), .null]))] sz)) 1 5 (va_A [(a_rd, .inr (4, [.int (0 : Int32), .int (0 : Int32), .int (0 : Int32), .int (0 : Int32), .int (0 : Int32), .int (0 : Int32), .int (0 : Int32), .int (0 : Int32), .null]))] sz) := by
  refine Met.ofW (cc := cX4_init) (maxL := 1) (ret := none) (by decide) rfl ?_
  intro p e s m args below meth c s₁ B hml hv
  obtain ⟨rfl, hsz, hP, hK, hD0⟩ := hv
  subst hsz
  have hD := hD0.self (sz := s.heap.size)
  have C : xC p s m [.ref a_rd].toArray meth c (va_A [(a_rd, .inr (4, [.int (0 : Int32), .int (0 : Int32), .int (0 : Int32), .int (0 : Int32), .int (0 : Int32), .int (0 : Int32), .int (0 : Int32), .int (0 : Int32), .null]))] s.heap.size) cX4_init RX4 wsX4_init 1 none D y := ⟨B.exec, B.bytes, hml, findClass_of_methodNamed B.named, atoms_spec (ws := wsX4_init) B.pre, B.returns, B.notSynchronized, hK, fun q h => Or.inr h⟩
  have hl := lv_entry ([.ref a_rd]) (n := 1) (Nat.le_of_ble_eq_true rfl)
  rw [lg_entry_eq]
  generalize (lg_sl ([.ref a_rd]) ++ List.replicate (1 - (lg_sl ([.ref a_rd])).length) Slot.unset).toArray = ls at hl ⊢
  have hl : lv_has ls 1 [(0, .ref a_rd)] := hl
  exact B_X4_init_0 C (name_of_methodNamed B.named B.method).1  s.heap [] ls hP hD va_S.rf hl hF
theorem kX3_init_oi1 : Cond.methodLink RX3 3 objectInit ∈ wsX3_init := by decide +kernel
theorem kX3_init_oi2 : Cond.instanceMethod objectInit ∈ wsX3_init := by decide +kernel
theorem kX3_init_oi3 : Cond.code objectInit ⟨#[0xb1]⟩ 1 none ∈ wsX3_init := by decide +kernel
theorem kX3_init_aI : Cond.arrayClass .int ∈ wsX3_init := by decide +kernel
theorem kX3_init_f9 : Cond.fieldLink RX3 9 "DescentShuffles$Tables" "n" "I" ∈ wsX3_init := by decide +kernel
theorem kX3_init_wX3 : ∀ w ∈ u_ws RX3 TX3 6, w ∈ wsX3_init := by decide +kernel
theorem kX3_init_f15 : Cond.fieldLink RX3 15 "DescentShuffles$Tables" "across" "I" ∈ wsX3_init := by decide +kernel
theorem kX3_init_f18 : Cond.fieldLink RX3 18 "DescentShuffles$Tables" "down" "I" ∈ wsX3_init := by decide +kernel
theorem kX3_init_f21 : Cond.fieldLink RX3 21 "DescentShuffles$Tables" "wanted" "I" ∈ wsX3_init := by decide +kernel
theorem kX3_init_f24 : Cond.fieldLink RX3 24 "DescentShuffles$Tables" "rows" "[I" ∈ wsX3_init := by decide +kernel
theorem kX3_init_f28 : Cond.fieldLink RX3 28 "DescentShuffles$Tables" "columns" "[I" ∈ wsX3_init := by decide +kernel
def S_X3_init_0 (p : Program) (l : Launch) (e : Env) (s : State) (m : MethodId) (args : Array Value) (below : List Frame) (meth : Method) (c : Code) (A : Nat → Prop) (D : va_G) (y : Nat → ClassId) (a_tb : Nat) (R : Int32 × Int32 × Int32 × Int32 × (Nat → Int32) × (Nat → Int32)) (κ : Option (Int32 × Int32 × Int32 × Int32 × (Nat → Int32) × (Nat → Int32))) : Prop := ∀ (H : Heap) (locs : List Loc) (ls : Array Slot), va_P D vwCl [(a_tb, .inr (3, [.int (0 : Int32), .int (0 : Int32), .int (0 : Int32), .int (0 : Int32), .null, .null]))] H → va_D A [(a_tb, .inr (3, [.int (0 : Int32), .int (0 : Int32), .int (0 : Int32), .int (0 : Int32), .null, .null]))] → va_S A s.heap H locs → lv_has ls 1 [(0, .ref a_tb)] → κ = some R → W p l e ({ frames := 1, cells := 2, slots := 10, locals := 20 } : Room) s m args below meth c H locs 0 0 (MQ below (va_Qv (fun (_ : Unit) => True) (xBz D y A (fun z : Nat × Nat => [(a_tb, .inr (3, [.int R.1, .int R.2.1, .int R.2.2.1, .int R.2.2.2.1, .ref z.1, .ref z.2])), (z.1, .inl (y 0, 5, .inl R.2.2.2.2.1)), (z.2, .inl (y 0, 5, .inl R.2.2.2.2.2))])) A) args s 2 10 A) (F0 m 0 ls [])
set_option maxHeartbeats 4000000 in
set_option maxRecDepth 100000 in
theorem B_X3_init_0 {p : Program} {l : Launch} {e : Env} {s : State} {m : MethodId} {args : Array Value} {below : List Frame} {meth : Method} {c : Code} {A : Nat → Prop} {D : va_G} {y : Nat → ClassId} {a_tb : Nat} {R : Int32 × Int32 × Int32 × Int32 × (Nat → Int32) × (Nat → Int32)} (C : xC p s m args meth c A cX3_init RX3 wsX3_init 1 none D y) (hin : meth.name = "<init>")  : S_X3_init_0 p l e s m args below meth c A D y a_tb R (F_X3_init ) := by
  have C0 := C
  obtain ⟨hx, hb, hml, hown, hts, hr, hlocks, hK, hA⟩ := C
  intro H locs ls hP hD hS hl hB
  unfold F_X3_init at hB
  refine lv_aload_n hx hb dX3_init_0 rfl (lv_at hl 0 rfl) ?_
  refine W.objInit hx hb hown (hts _ kX3_init_oi1) (hts _ kX3_init_oi2) (hts _ kX3_init_oi3) rfl (by rw [hml]; exact hl.1) rfl dX3_init_1 (Nat.le_of_ble_eq_true rfl) (Nat.le_of_ble_eq_true rfl) ?_
  refine W.eq (g2 := F0 m 4 ls []) rfl ?_
  refine lv_aload_n hx hb dX3_init_4 rfl (lv_at hl 0 rfl) ?_
  refine lv_iconst (v := 1) hx hb dX3_init_5 (by decide) ?_
  refine va_put (D := D) (ci := 3) (v := .int (1 : Int32)) (ty := .int) (C := RX3) (T := TX3) (N := 6) hx hb hts kX3_init_wX3 tyX3 tyX3_ok nmX3 hown hK hP hD hS 0 rfl rfl 0 (by decide) (hts _ kX3_init_f9) (fun _ h9 => h9) rfl (by decide +kernel) rfl rfl (Nat.le_of_ble_eq_true rfl) dX3_init_6 (fun H locs hP hD hS => ?_)
  have hP : va_P D vwCl [(a_tb, .inr (3, [.int (1 : Int32), .int (0 : Int32), .int (0 : Int32), .int (0 : Int32), .null, .null]))] H := hP
  have hD : va_D A [(a_tb, .inr (3, [.int (1 : Int32), .int (0 : Int32), .int (0 : Int32), .int (0 : Int32), .null, .null]))] := hD
  refine lv_aload_n hx hb dX3_init_9 rfl (lv_at hl 0 rfl) ?_
  refine lv_iconst (v := 1) hx hb dX3_init_10 (by decide) ?_
  refine va_put (D := D) (ci := 3) (v := .int (1 : Int32)) (ty := .int) (C := RX3) (T := TX3) (N := 6) hx hb hts kX3_init_wX3 tyX3 tyX3_ok nmX3 hown hK hP hD hS 0 rfl rfl 1 (by decide) (hts _ kX3_init_f15) (fun _ h9 => h9) rfl (by decide +kernel) rfl rfl (Nat.le_of_ble_eq_true rfl) dX3_init_11 (fun H locs hP hD hS => ?_)
  have hP : va_P D vwCl [(a_tb, .inr (3, [.int (1 : Int32), .int (1 : Int32), .int (0 : Int32), .int (0 : Int32), .null, .null]))] H := hP
  have hD : va_D A [(a_tb, .inr (3, [.int (1 : Int32), .int (1 : Int32), .int (0 : Int32), .int (0 : Int32), .null, .null]))] := hD
  refine lv_aload_n hx hb dX3_init_14 rfl (lv_at hl 0 rfl) ?_
  refine lv_iconst (v := 1) hx hb dX3_init_15 (by decide) ?_
  refine va_put (D := D) (ci := 3) (v := .int (1 : Int32)) (ty := .int) (C := RX3) (T := TX3) (N := 6) hx hb hts kX3_init_wX3 tyX3 tyX3_ok nmX3 hown hK hP hD hS 0 rfl rfl 2 (by decide) (hts _ kX3_init_f18) (fun _ h9 => h9) rfl (by decide +kernel) rfl rfl (Nat.le_of_ble_eq_true rfl) dX3_init_16 (fun H locs hP hD hS => ?_)
  have hP : va_P D vwCl [(a_tb, .inr (3, [.int (1 : Int32), .int (1 : Int32), .int (1 : Int32), .int (0 : Int32), .null, .null]))] H := hP
  have hD : va_D A [(a_tb, .inr (3, [.int (1 : Int32), .int (1 : Int32), .int (1 : Int32), .int (0 : Int32), .null, .null]))] := hD
  refine lv_aload_n hx hb dX3_init_19 rfl (lv_at hl 0 rfl) ?_
  refine lv_iconst (v := -1) hx hb dX3_init_20 (by decide) ?_
  refine va_put (D := D) (ci := 3) (v := .int (-1 : Int32)) (ty := .int) (C := RX3) (T := TX3) (N := 6) hx hb hts kX3_init_wX3 tyX3 tyX3_ok nmX3 hown hK hP hD hS 0 rfl rfl 3 (by decide) (hts _ kX3_init_f21) (fun _ h9 => h9) rfl (by decide +kernel) rfl rfl (Nat.le_of_ble_eq_true rfl) dX3_init_21 (fun H locs hP hD hS => ?_)
  have hP : va_P D vwCl [(a_tb, .inr (3, [.int (1 : Int32), .int (1 : Int32), .int (1 : Int32), .int (-1 : Int32), .null, .null]))] H := hP
  have hD : va_D A [(a_tb, .inr (3, [.int (1 : Int32), .int (1 : Int32), .int (1 : Int32), .int (-1 : Int32), .null, .null]))] := hD
  refine lv_aload_n hx hb dX3_init_24 rfl (lv_at hl 0 rfl) ?_
  refine lv_iconst (v := 5) hx hb dX3_init_25 (by decide) ?_
  refine xnewI hx hb (hts _ kX3_init_aI) hK hP hD hS hA (n := 5) (N' := 5) (by decide) (by decide) (Nat.le_of_ble_eq_true rfl) (Nat.le_of_ble_eq_true rfl) (Nat.le_of_ble_eq_true rfl) dX3_init_26 (fun a_tr H hP hD hS => ?_)
  have hP : va_P D vwCl [(a_tb, .inr (3, [.int (1 : Int32), .int (1 : Int32), .int (1 : Int32), .int (-1 : Int32), .null, .null])), (a_tr, .inl (y 0, 5, .inl (fun _ => (0 : Int32))))] H := hP
  have hD : va_D A [(a_tb, .inr (3, [.int (1 : Int32), .int (1 : Int32), .int (1 : Int32), .int (-1 : Int32), .null, .null])), (a_tr, .inl (y 0, 5, .inl (fun _ => (0 : Int32))))] := hD
  refine va_putF (D := D) (ci := 3) (v := .ref a_tr) (ty := tyX3 4) (C := RX3) (T := TX3) (N := 6) hx hb hts kX3_init_wX3 tyX3 tyX3_ok nmX3 hown hK hP hD hS 0 rfl rfl 4 (by decide) (hts _ kX3_init_f24) (fun _ h9 => h9) rfl hin rfl (by decide +kernel) rfl rfl (Nat.le_of_ble_eq_true rfl) dX3_init_28 (fun H locs hP hD hS => ?_)
  have hP : va_P D vwCl [(a_tb, .inr (3, [.int (1 : Int32), .int (1 : Int32), .int (1 : Int32), .int (-1 : Int32), .ref a_tr, .null])), (a_tr, .inl (y 0, 5, .inl (fun _ => (0 : Int32))))] H := hP
  have hD : va_D A [(a_tb, .inr (3, [.int (1 : Int32), .int (1 : Int32), .int (1 : Int32), .int (-1 : Int32), .ref a_tr, .null])), (a_tr, .inl (y 0, 5, .inl (fun _ => (0 : Int32))))] := hD
  refine lv_aload_n hx hb dX3_init_31 rfl (lv_at hl 0 rfl) ?_
  refine lv_iconst (v := 5) hx hb dX3_init_32 (by decide) ?_
  refine xnewI hx hb (hts _ kX3_init_aI) hK hP hD hS hA (n := 5) (N' := 5) (by decide) (by decide) (Nat.le_of_ble_eq_true rfl) (Nat.le_of_ble_eq_true rfl) (Nat.le_of_ble_eq_true rfl) dX3_init_33 (fun a_tc H hP hD hS => ?_)
  have hP : va_P D vwCl [(a_tb, .inr (3, [.int (1 : Int32), .int (1 : Int32), .int (1 : Int32), .int (-1 : Int32), .ref a_tr, .null])), (a_tr, .inl (y 0, 5, .inl (fun _ => (0 : Int32)))), (a_tc, .inl (y 0, 5, .inl (fun _ => (0 : Int32))))] H := hP
  have hD : va_D A [(a_tb, .inr (3, [.int (1 : Int32), .int (1 : Int32), .int (1 : Int32), .int (-1 : Int32), .ref a_tr, .null])), (a_tr, .inl (y 0, 5, .inl (fun _ => (0 : Int32)))), (a_tc, .inl (y 0, 5, .inl (fun _ => (0 : Int32))))] := hD
  refine va_putF (D := D) (ci := 3) (v := .ref a_tc) (ty := tyX3 5) (C := RX3) (T := TX3) (N := 6) hx hb hts kX3_init_wX3 tyX3 tyX3_ok nmX3 hown hK hP hD hS 0 rfl rfl 5 (by decide) (hts _ kX3_init_f28) (fun _ h9 => h9) rfl hin rfl (by decide +kernel) rfl rfl (Nat.le_of_ble_eq_true rfl) dX3_init_35 (fun H locs hP hD hS => ?_)
  have hP : va_P D vwCl [(a_tb, .inr (3, [.int (1 : Int32), .int (1 : Int32), .int (1 : Int32), .int (-1 : Int32), .ref a_tr, .ref a_tc])), (a_tr, .inl (y 0, 5, .inl (fun _ => (0 : Int32)))), (a_tc, .inl (y 0, 5, .inl (fun _ => (0 : Int32))))] H := hP
  have hD : va_D A [(a_tb, .inr (3, [.int (1 : Int32), .int (1 : Int32), .int (1 : Int32), .int (-1 : Int32), .ref a_tr, .ref a_tc])), (a_tr, .inl (y 0, 5, .inl (fun _ => (0 : Int32)))), (a_tc, .inl (y 0, 5, .inl (fun _ => (0 : Int32))))] := hD
  have hB := Option.some.inj hB
  subst hB
  refine W.widen (k := 2) (n := 10) (Nat.le_of_ble_eq_true rfl) (Nat.le_of_ble_eq_true rfl) ?_
  exact W.vret hx hb hr (fun t ht hW => ⟨⟨(), rfl, trivial, ⟨a_tr, a_tc⟩, by rw [ht]; exact hP, va_K.moved hW.alike hK, hD⟩, hS.F ht⟩) hS.2.2 dX3_init_38 hlocks
set_option maxHeartbeats 4000000 in
set_option maxRecDepth 100000 in
theorem c_X3_init (l : Launch) (D : va_G) (y : Nat → ClassId) (a_tb : Nat)  (sz : Nat) {R : Int32 × Int32 × Int32 × Int32 × (Nat → Int32) × (Nat → Int32)} (hF : F_X3_init = some R) : Met l yX3_init wsX3_init ({ frames := 1, cells := 2, slots := 10, locals := 20 } : Room) (xPre D y sz [.ref a_tb] [(a_tb, .inr (3, [.int (0 : Int32), .int (0 : Int32), .int (0 : Int32), .int (0 : Int32), .null, .null]))]) (va_Qv (fun (_ : Unit) => True) (xBz D y (va_A [(a_tb, .inr (3, [.int (0 : Int32), .int (0 : Int32), .int (0 : Int32), .int (0 : Int32), .null, .null]))] sz) (fun z : Nat × Nat => [(a_tb, .inr (3, [.int R.1, .int R.2.1, .int R.2.2.1, .int R.2.2.2.1, .ref z.1, .ref z.2])), (z.1, .inl (y 0, 5, .inl R.2.2.2.2.1)), (z.2, .inl (y 0, 5, .inl R.2.2.2.2.2))])) (va_A [(a_tb, .inr (3, [.int (0 : Int32), .int (0 : Int32), .int (0 : Int32), .int (0 : Int32), .null, .null]))] sz)) 2 10 (va_A [(a_tb, .inr (3, [.int (0 : Int32), .int (0 : Int32), .int (0 : Int32), .int (0 : Int32), .null, .null]))] sz) := by
  refine Met.ofW (cc := cX3_init) (maxL := 1) (ret := none) (by decide) rfl ?_
  intro p e s m args below meth c s₁ B hml hv
  obtain ⟨rfl, hsz, hP, hK, hD0⟩ := hv
  subst hsz
  have hD := hD0.self (sz := s.heap.size)
  have C : xC p s m [.ref a_tb].toArray meth c (va_A [(a_tb, .inr (3, [.int (0 : Int32), .int (0 : Int32), .int (0 : Int32), .int (0 : Int32), .null, .null]))] s.heap.size) cX3_init RX3 wsX3_init 1 none D y := ⟨B.exec, B.bytes, hml, findClass_of_methodNamed B.named, atoms_spec (ws := wsX3_init) B.pre, B.returns, B.notSynchronized, hK, fun q h => Or.inr h⟩
  have hl := lv_entry ([.ref a_tb]) (n := 1) (Nat.le_of_ble_eq_true rfl)
  rw [lg_entry_eq]
  generalize (lg_sl ([.ref a_tb]) ++ List.replicate (1 - (lg_sl ([.ref a_tb])).length) Slot.unset).toArray = ls at hl ⊢
  have hl : lv_has ls 1 [(0, .ref a_tb)] := hl
  exact B_X3_init_0 C (name_of_methodNamed B.named B.method).1  s.heap [] ls hP hD va_S.rf hl hF
theorem kX1_spell_f7 : Cond.fieldLink RX1 7 "DescentShuffles$Orders" "n" "I" ∈ wsX1_spell := by decide +kernel
theorem kX1_spell_wX1 : ∀ w ∈ u_ws RX1 TX1 11, w ∈ wsX1_spell := by decide +kernel
theorem kX1_spell_f35 : Cond.fieldLink RX1 35 "DescentShuffles$Orders" "letters" "[I" ∈ wsX1_spell := by decide +kernel
theorem kX1_spell_f41 : Cond.fieldLink RX1 41 "DescentShuffles$Orders" "row" "[I" ∈ wsX1_spell := by decide +kernel
def S_X1_spell_93 (p : Program) (l : Launch) (e : Env) (s : State) (m : MethodId) (args : Array Value) (below : List Frame) (meth : Method) (c : Code) (A : Nat → Prop) (D : va_G) (y : Nat → ClassId) (a_o : Nat) (a_od : Nat) (a_op : Nat) (a_oi : Nat) (a_ov : Nat) (a_of : Nat) (a_ol : Nat) (a_om : Nat) (a_ow : Nat) (ll_o : Nat) (ln_o : Nat) (f_o_n : Int32) (f_o_many : Int32) (f_o_sets : Int32) (p1 : Int32) (R : (Nat → Int32) × (Nat → Int32)) (κ : Int32 → (Nat → Int32) → (Nat → Int32) → Option ((Nat → Int32) × (Nat → Int32))) : Prop := ∀ (x3 : Int32) (v_ol : Nat → Int32) (v_ow : Nat → Int32) (H : Heap) (locs : List Loc) (ls : Array Slot), va_P D vwCl [(a_o, .inr (1, [.int f_o_n, .int f_o_many, .int f_o_sets, .ref a_od, .ref a_op, .ref a_oi, .ref a_ov, .ref a_of, .ref a_ol, .ref a_om, .ref a_ow])), (a_ol, .inl (y 0, ll_o, .inl v_ol)), (a_ow, .inl (y 0, ln_o, .inl v_ow))] H → va_D A [(a_o, .inr (1, [.int f_o_n, .int f_o_many, .int f_o_sets, .ref a_od, .ref a_op, .ref a_oi, .ref a_ov, .ref a_of, .ref a_ol, .ref a_om, .ref a_ow])), (a_ol, .inl (y 0, ll_o, .inl v_ol)), (a_ow, .inl (y 0, ln_o, .inl v_ow))] → va_S A s.heap H locs → lv_has ls 6 [(0, .ref a_o), (1, .int p1), (3, .int x3)] → κ x3 v_ol v_ow = some R → W p l e ({ frames := 0, cells := 0, slots := 0, locals := 0 } : Room) s m args below meth c H locs 0 0 (MQ below (va_Qv (fun (_ : Unit) => True) (xB D y A [(a_o, .inr (1, [.int f_o_n, .int f_o_many, .int f_o_sets, .ref a_od, .ref a_op, .ref a_oi, .ref a_ov, .ref a_of, .ref a_ol, .ref a_om, .ref a_ow])), (a_ol, .inl (y 0, ll_o, .inl R.1)), (a_ow, .inl (y 0, ln_o, .inl R.2))]) A) args s 0 0 A) (F0 m 93 ls [])
def S_X1_spell_47 (p : Program) (l : Launch) (e : Env) (s : State) (m : MethodId) (args : Array Value) (below : List Frame) (meth : Method) (c : Code) (A : Nat → Prop) (D : va_G) (y : Nat → ClassId) (a_o : Nat) (a_od : Nat) (a_op : Nat) (a_oi : Nat) (a_ov : Nat) (a_of : Nat) (a_ol : Nat) (a_om : Nat) (a_ow : Nat) (ll_o : Nat) (ln_o : Nat) (f_o_n : Int32) (f_o_many : Int32) (f_o_sets : Int32) (p1 : Int32) (R : (Nat → Int32) × (Nat → Int32)) (κ : Int32 → Int32 → Int32 → Int32 → (Nat → Int32) → (Nat → Int32) → Option ((Nat → Int32) × (Nat → Int32))) : Prop := ∀ (x2 : Int32) (x3 : Int32) (x4 : Int32) (x5 : Int32) (v_ol : Nat → Int32) (v_ow : Nat → Int32) (H : Heap) (locs : List Loc) (ls : Array Slot), va_P D vwCl [(a_o, .inr (1, [.int f_o_n, .int f_o_many, .int f_o_sets, .ref a_od, .ref a_op, .ref a_oi, .ref a_ov, .ref a_of, .ref a_ol, .ref a_om, .ref a_ow])), (a_ol, .inl (y 0, ll_o, .inl v_ol)), (a_ow, .inl (y 0, ln_o, .inl v_ow))] H → va_D A [(a_o, .inr (1, [.int f_o_n, .int f_o_many, .int f_o_sets, .ref a_od, .ref a_op, .ref a_oi, .ref a_ov, .ref a_of, .ref a_ol, .ref a_om, .ref a_ow])), (a_ol, .inl (y 0, ll_o, .inl v_ol)), (a_ow, .inl (y 0, ln_o, .inl v_ow))] → va_S A s.heap H locs → lv_has ls 6 [(0, .ref a_o), (1, .int p1), (2, .int x2), (3, .int x3), (4, .int x4), (5, .int x5)] → κ x2 x3 x4 x5 v_ol v_ow = some R → W p l e ({ frames := 0, cells := 0, slots := 0, locals := 0 } : Room) s m args below meth c H locs 0 0 (MQ below (va_Qv (fun (_ : Unit) => True) (xB D y A [(a_o, .inr (1, [.int f_o_n, .int f_o_many, .int f_o_sets, .ref a_od, .ref a_op, .ref a_oi, .ref a_ov, .ref a_of, .ref a_ol, .ref a_om, .ref a_ow])), (a_ol, .inl (y 0, ll_o, .inl R.1)), (a_ow, .inl (y 0, ln_o, .inl R.2))]) A) args s 0 0 A) (F0 m 47 ls [])
def S_X1_spell_9 (p : Program) (l : Launch) (e : Env) (s : State) (m : MethodId) (args : Array Value) (below : List Frame) (meth : Method) (c : Code) (A : Nat → Prop) (D : va_G) (y : Nat → ClassId) (a_o : Nat) (a_od : Nat) (a_op : Nat) (a_oi : Nat) (a_ov : Nat) (a_of : Nat) (a_ol : Nat) (a_om : Nat) (a_ow : Nat) (ll_o : Nat) (ln_o : Nat) (f_o_n : Int32) (f_o_many : Int32) (f_o_sets : Int32) (p1 : Int32) (R : (Nat → Int32) × (Nat → Int32)) (κ : Int32 → Int32 → (Nat → Int32) → (Nat → Int32) → Option ((Nat → Int32) × (Nat → Int32))) : Prop := ∀ (x2 : Int32) (x3 : Int32) (v_ol : Nat → Int32) (v_ow : Nat → Int32) (H : Heap) (locs : List Loc) (ls : Array Slot), va_P D vwCl [(a_o, .inr (1, [.int f_o_n, .int f_o_many, .int f_o_sets, .ref a_od, .ref a_op, .ref a_oi, .ref a_ov, .ref a_of, .ref a_ol, .ref a_om, .ref a_ow])), (a_ol, .inl (y 0, ll_o, .inl v_ol)), (a_ow, .inl (y 0, ln_o, .inl v_ow))] H → va_D A [(a_o, .inr (1, [.int f_o_n, .int f_o_many, .int f_o_sets, .ref a_od, .ref a_op, .ref a_oi, .ref a_ov, .ref a_of, .ref a_ol, .ref a_om, .ref a_ow])), (a_ol, .inl (y 0, ll_o, .inl v_ol)), (a_ow, .inl (y 0, ln_o, .inl v_ow))] → va_S A s.heap H locs → lv_has ls 6 [(0, .ref a_o), (1, .int p1), (2, .int x2), (3, .int x3)] → κ x2 x3 v_ol v_ow = some R → W p l e ({ frames := 0, cells := 0, slots := 0, locals := 0 } : Room) s m args below meth c H locs 0 0 (MQ below (va_Qv (fun (_ : Unit) => True) (xB D y A [(a_o, .inr (1, [.int f_o_n, .int f_o_many, .int f_o_sets, .ref a_od, .ref a_op, .ref a_oi, .ref a_ov, .ref a_of, .ref a_ol, .ref a_om, .ref a_ow])), (a_ol, .inl (y 0, ll_o, .inl R.1)), (a_ow, .inl (y 0, ln_o, .inl R.2))]) A) args s 0 0 A) (F0 m 9 ls [])
def S_X1_spell_0 (p : Program) (l : Launch) (e : Env) (s : State) (m : MethodId) (args : Array Value) (below : List Frame) (meth : Method) (c : Code) (A : Nat → Prop) (D : va_G) (y : Nat → ClassId) (a_o : Nat) (a_od : Nat) (a_op : Nat) (a_oi : Nat) (a_ov : Nat) (a_of : Nat) (a_ol : Nat) (a_om : Nat) (a_ow : Nat) (ll_o : Nat) (ln_o : Nat) (f_o_n : Int32) (f_o_many : Int32) (f_o_sets : Int32) (p1 : Int32) (R : (Nat → Int32) × (Nat → Int32)) (κ : (Nat → Int32) → (Nat → Int32) → Option ((Nat → Int32) × (Nat → Int32))) : Prop := ∀ (v_ol : Nat → Int32) (v_ow : Nat → Int32) (H : Heap) (locs : List Loc) (ls : Array Slot), va_P D vwCl [(a_o, .inr (1, [.int f_o_n, .int f_o_many, .int f_o_sets, .ref a_od, .ref a_op, .ref a_oi, .ref a_ov, .ref a_of, .ref a_ol, .ref a_om, .ref a_ow])), (a_ol, .inl (y 0, ll_o, .inl v_ol)), (a_ow, .inl (y 0, ln_o, .inl v_ow))] H → va_D A [(a_o, .inr (1, [.int f_o_n, .int f_o_many, .int f_o_sets, .ref a_od, .ref a_op, .ref a_oi, .ref a_ov, .ref a_of, .ref a_ol, .ref a_om, .ref a_ow])), (a_ol, .inl (y 0, ll_o, .inl v_ol)), (a_ow, .inl (y 0, ln_o, .inl v_ow))] → va_S A s.heap H locs → lv_has ls 6 [(0, .ref a_o), (1, .int p1)] → κ v_ol v_ow = some R → W p l e ({ frames := 0, cells := 0, slots := 0, locals := 0 } : Room) s m args below meth c H locs 0 0 (MQ below (va_Qv (fun (_ : Unit) => True) (xB D y A [(a_o, .inr (1, [.int f_o_n, .int f_o_many, .int f_o_sets, .ref a_od, .ref a_op, .ref a_oi, .ref a_ov, .ref a_of, .ref a_ol, .ref a_om, .ref a_ow])), (a_ol, .inl (y 0, ll_o, .inl R.1)), (a_ow, .inl (y 0, ln_o, .inl R.2))]) A) args s 0 0 A) (F0 m 0 ls [])
set_option maxHeartbeats 4000000 in
set_option maxRecDepth 100000 in
theorem B_X1_spell_93 {p : Program} {l : Launch} {e : Env} {s : State} {m : MethodId} {args : Array Value} {below : List Frame} {meth : Method} {c : Code} {A : Nat → Prop} {D : va_G} {y : Nat → ClassId} {a_o : Nat} {a_od : Nat} {a_op : Nat} {a_oi : Nat} {a_ov : Nat} {a_of : Nat} {a_ol : Nat} {a_om : Nat} {a_ow : Nat} {ll_o : Nat} {ln_o : Nat} {f_o_n : Int32} {f_o_many : Int32} {f_o_sets : Int32} {p1 : Int32} {R : (Nat → Int32) × (Nat → Int32)} (C : xC p s m args meth c A cX1_spell RX1 wsX1_spell 6 none D y)  : ∀ f : Nat, S_X1_spell_93 p l e s m args below meth c A D y a_o a_od a_op a_oi a_ov a_of a_ol a_om a_ow ll_o ln_o f_o_n f_o_many f_o_sets p1 R (F_X1_spell_93 ll_o ln_o f_o_n p1  f) := by
  have C0 := C
  obtain ⟨hx, hb, hml, hown, hts, hr, hlocks, hK, hA⟩ := C
  intro f
  induction f with
  | zero =>
    intro x3 v_ol v_ow H locs ls hP hD hS hl hB
    rw [Z_X1_spell_93] at hB
    cases hB
  | succ f ih =>
    intro x3 v_ol v_ow H locs ls hP hD hS hl hB
    rw [E_X1_spell_93] at hB
    refine lv_iload_n hx hb dX1_spell_93 rfl (lv_at hl 2 rfl) ?_
    refine lv_aload_n hx hb dX1_spell_94 rfl (lv_at hl 0 rfl) ?_
    refine va_get (D := D) (ci := 1) (v := .int f_o_n) (C := RX1) (T := TX1) (N := 11) hx hb hts kX1_spell_wX1 hown hK hP 0 rfl rfl 0 (by decide) (hts _ kX1_spell_f7) (fun _ h9 => h9) rfl dX1_spell_95 ?_
    refine lv_icmp_ge (tgt := 126) hx hb dX1_spell_98 (by decide) (fun c1 => ?_) (fun c1 => ?_)
    · have hB := xip c1 hB
      have hB := Option.some.inj hB
      subst hB
      exact W.vret hx hb hr (fun t ht hW => ⟨⟨(), rfl, trivial, by rw [ht]; exact hP, va_K.moved hW.alike hK, hD⟩, hS.F ht⟩) hS.2.2 dX1_spell_126 hlocks
    · have hB := xin c1 hB
      refine lv_aload_n hx hb dX1_spell_101 rfl (lv_at hl 0 rfl) ?_
      refine va_get (D := D) (ci := 1) (v := .ref a_ol) (C := RX1) (T := TX1) (N := 11) hx hb hts kX1_spell_wX1 hown hK hP 0 rfl rfl 8 (by decide) (hts _ kX1_spell_f35) (fun _ h9 => h9) rfl dX1_spell_102 ?_
      refine lv_iload_n hx hb dX1_spell_105 rfl (lv_at hl 1 rfl) ?_
      refine lv_aload_n hx hb dX1_spell_106 rfl (lv_at hl 0 rfl) ?_
      refine va_get (D := D) (ci := 1) (v := .int f_o_n) (C := RX1) (T := TX1) (N := 11) hx hb hts kX1_spell_wX1 hown hK hP 0 rfl rfl 0 (by decide) (hts _ kX1_spell_f7) (fun _ h9 => h9) rfl dX1_spell_107 ?_
      refine lv_imul hx hb dX1_spell_110 ?_
      refine lv_iload_n hx hb dX1_spell_111 rfl (lv_at hl 2 rfl) ?_
      refine lv_iadd hx hb dX1_spell_112 ?_
      refine lv_aload_n hx hb dX1_spell_113 rfl (lv_at hl 0 rfl) ?_
      refine va_get (D := D) (ci := 1) (v := .ref a_ow) (C := RX1) (T := TX1) (N := 11) hx hb hts kX1_spell_wX1 hown hK hP 0 rfl rfl 10 (by decide) (hts _ kX1_spell_f41) (fun _ h9 => h9) rfl dX1_spell_114 ?_
      refine lv_iload_n hx hb dX1_spell_117 rfl (lv_at hl 2 rfl) ?_
      obtain ⟨g2, hB⟩ := xg_some hB
      refine va_iald hx hb hK hP 2 0 rfl rfl g2 dX1_spell_118 ?_
      obtain ⟨g3, hB⟩ := xg_some hB
      refine va_iast hx hb hK hP hD hS 1 0 rfl rfl g3 dX1_spell_119 (fun H locs hP hD hS => ?_)
      have hP : va_P D vwCl [(a_o, .inr (1, [.int f_o_n, .int f_o_many, .int f_o_sets, .ref a_od, .ref a_op, .ref a_oi, .ref a_ov, .ref a_of, .ref a_ol, .ref a_om, .ref a_ow])), (a_ol, .inl (y 0, ll_o, .inl (upd v_ol ((p1 * f_o_n) + x3).toNatClampNeg (v_ow x3.toNatClampNeg)))), (a_ow, .inl (y 0, ln_o, .inl v_ow))] H := hP
      have hD : va_D A [(a_o, .inr (1, [.int f_o_n, .int f_o_many, .int f_o_sets, .ref a_od, .ref a_op, .ref a_oi, .ref a_ov, .ref a_of, .ref a_ol, .ref a_om, .ref a_ow])), (a_ol, .inl (y 0, ll_o, .inl (upd v_ol ((p1 * f_o_n) + x3).toNatClampNeg (v_ow x3.toNatClampNeg)))), (a_ow, .inl (y 0, ln_o, .inl v_ow))] := hD
      refine lv_iinc (v := x3 + 1) (lv' := [(3, .int (x3 + 1)), (0, .ref a_o), (1, .int p1)]) hx hb dX1_spell_120 hl (k := 2) rfl rfl (by decide) rfl (fun ls hl => ?_)
      refine lv_goto (tgt := 93) hx hb dX1_spell_123 (by decide) ?_
      exact ih (x3 + 1) (upd v_ol ((p1 * f_o_n) + x3).toNatClampNeg (v_ow x3.toNatClampNeg)) v_ow H locs ls hP hD hS (lv_sub hl [1, 2, 0] rfl) hB
set_option maxHeartbeats 4000000 in
set_option maxRecDepth 100000 in
theorem B_X1_spell_47 {p : Program} {l : Launch} {e : Env} {s : State} {m : MethodId} {args : Array Value} {below : List Frame} {meth : Method} {c : Code} {A : Nat → Prop} {D : va_G} {y : Nat → ClassId} {a_o : Nat} {a_od : Nat} {a_op : Nat} {a_oi : Nat} {a_ov : Nat} {a_of : Nat} {a_ol : Nat} {a_om : Nat} {a_ow : Nat} {ll_o : Nat} {ln_o : Nat} {f_o_n : Int32} {f_o_many : Int32} {f_o_sets : Int32} {p1 : Int32} {R : (Nat → Int32) × (Nat → Int32)} (C : xC p s m args meth c A cX1_spell RX1 wsX1_spell 6 none D y) {κ9 : Int32 → Int32 → (Nat → Int32) → (Nat → Int32) → Option ((Nat → Int32) × (Nat → Int32))} (k9 : S_X1_spell_9 p l e s m args below meth c A D y a_o a_od a_op a_oi a_ov a_of a_ol a_om a_ow ll_o ln_o f_o_n f_o_many f_o_sets p1 R κ9) : ∀ f : Nat, S_X1_spell_47 p l e s m args below meth c A D y a_o a_od a_op a_oi a_ov a_of a_ol a_om a_ow ll_o ln_o f_o_n f_o_many f_o_sets p1 R (F_X1_spell_47 ln_o f_o_n κ9 f) := by
  have C0 := C
  obtain ⟨hx, hb, hml, hown, hts, hr, hlocks, hK, hA⟩ := C
  intro f
  induction f with
  | zero =>
    intro x2 x3 x4 x5 v_ol v_ow H locs ls hP hD hS hl hB
    rw [Z_X1_spell_47] at hB
    cases hB
  | succ f ih =>
    intro x2 x3 x4 x5 v_ol v_ow H locs ls hP hD hS hl hB
    rw [E_X1_spell_47] at hB
    refine lv_iload hx hb dX1_spell_47 (lv_at hl 5 rfl) ?_
    refine lv_aload_n hx hb dX1_spell_49 rfl (lv_at hl 0 rfl) ?_
    refine va_get (D := D) (ci := 1) (v := .int f_o_n) (C := RX1) (T := TX1) (N := 11) hx hb hts kX1_spell_wX1 hown hK hP 0 rfl rfl 0 (by decide) (hts _ kX1_spell_f7) (fun _ h9 => h9) rfl dX1_spell_50 ?_
    refine lv_icmp_ge (tgt := 85) hx hb dX1_spell_53 (by decide) (fun c1 => ?_) (fun c1 => ?_)
    · have hB := xip c1 hB
      refine lv_iinc (v := x3 + (-1 : Int32)) (lv' := [(3, .int (x3 + (-1 : Int32))), (0, .ref a_o), (1, .int p1), (2, .int x2), (4, .int x4), (5, .int x5)]) hx hb dX1_spell_85 hl (k := 3) rfl rfl (by decide) rfl (fun ls hl => ?_)
      refine lv_goto (tgt := 9) hx hb dX1_spell_88 (by decide) ?_
      exact k9 x2 (x3 + (-1 : Int32)) v_ol v_ow H locs ls hP hD hS (lv_sub hl [1, 2, 3, 0] rfl) hB
    · have hB := xin c1 hB
      refine lv_aload_n hx hb dX1_spell_56 rfl (lv_at hl 0 rfl) ?_
      refine va_get (D := D) (ci := 1) (v := .ref a_ow) (C := RX1) (T := TX1) (N := 11) hx hb hts kX1_spell_wX1 hown hK hP 0 rfl rfl 10 (by decide) (hts _ kX1_spell_f41) (fun _ h9 => h9) rfl dX1_spell_57 ?_
      refine lv_iload hx hb dX1_spell_60 (lv_at hl 5 rfl) ?_
      obtain ⟨g2, hB⟩ := xg_some hB
      refine va_iald hx hb hK hP 2 0 rfl rfl g2 dX1_spell_62 ?_
      refine lv_iload hx hb dX1_spell_63 (lv_at hl 4 rfl) ?_
      refine lv_icmp_lt (tgt := 79) hx hb dX1_spell_65 (by decide) (fun c3 => ?_) (fun c3 => ?_)
      · have hB := xip c3 hB
        refine lv_iinc (v := x5 + 1) (lv' := [(5, .int (x5 + 1)), (0, .ref a_o), (1, .int p1), (2, .int x2), (3, .int x3), (4, .int x4)]) hx hb dX1_spell_79 hl (k := 5) rfl rfl (by decide) rfl (fun ls hl => ?_)
        refine lv_goto (tgt := 47) hx hb dX1_spell_82 (by decide) ?_
        exact ih x2 x3 x4 (x5 + 1) v_ol v_ow H locs ls hP hD hS (lv_sub hl [1, 2, 3, 4, 5, 0] rfl) hB
      · have hB := xin c3 hB
        refine lv_aload_n hx hb dX1_spell_68 rfl (lv_at hl 0 rfl) ?_
        refine va_get (D := D) (ci := 1) (v := .ref a_ow) (C := RX1) (T := TX1) (N := 11) hx hb hts kX1_spell_wX1 hown hK hP 0 rfl rfl 10 (by decide) (hts _ kX1_spell_f41) (fun _ h9 => h9) rfl dX1_spell_69 ?_
        refine lv_iload hx hb dX1_spell_72 (lv_at hl 5 rfl) ?_
        refine lv_dup2_11 hx hb dX1_spell_74 rfl rfl ?_
        refine va_iald hx hb hK hP 2 0 rfl rfl g2 dX1_spell_75 ?_
        refine lv_iconst (v := 1) hx hb dX1_spell_76 (by decide) ?_
        refine lv_iadd hx hb dX1_spell_77 ?_
        refine va_iast hx hb hK hP hD hS 2 0 rfl rfl g2 dX1_spell_78 (fun H locs hP hD hS => ?_)
        have hP : va_P D vwCl [(a_o, .inr (1, [.int f_o_n, .int f_o_many, .int f_o_sets, .ref a_od, .ref a_op, .ref a_oi, .ref a_ov, .ref a_of, .ref a_ol, .ref a_om, .ref a_ow])), (a_ol, .inl (y 0, ll_o, .inl v_ol)), (a_ow, .inl (y 0, ln_o, .inl (upd v_ow x5.toNatClampNeg ((v_ow x5.toNatClampNeg) + (1 : Int32)))))] H := hP
        have hD : va_D A [(a_o, .inr (1, [.int f_o_n, .int f_o_many, .int f_o_sets, .ref a_od, .ref a_op, .ref a_oi, .ref a_ov, .ref a_of, .ref a_ol, .ref a_om, .ref a_ow])), (a_ol, .inl (y 0, ll_o, .inl v_ol)), (a_ow, .inl (y 0, ln_o, .inl (upd v_ow x5.toNatClampNeg ((v_ow x5.toNatClampNeg) + (1 : Int32)))))] := hD
        refine lv_iinc (v := x5 + 1) (lv' := [(5, .int (x5 + 1)), (0, .ref a_o), (1, .int p1), (2, .int x2), (3, .int x3), (4, .int x4)]) hx hb dX1_spell_79 hl (k := 5) rfl rfl (by decide) rfl (fun ls hl => ?_)
        refine lv_goto (tgt := 47) hx hb dX1_spell_82 (by decide) ?_
        exact ih x2 x3 x4 (x5 + 1) v_ol (upd v_ow x5.toNatClampNeg ((v_ow x5.toNatClampNeg) + (1 : Int32))) H locs ls hP hD hS (lv_sub hl [1, 2, 3, 4, 5, 0] rfl) hB
set_option maxHeartbeats 4000000 in
set_option maxRecDepth 100000 in
theorem B_X1_spell_9 {p : Program} {l : Launch} {e : Env} {s : State} {m : MethodId} {args : Array Value} {below : List Frame} {meth : Method} {c : Code} {A : Nat → Prop} {D : va_G} {y : Nat → ClassId} {a_o : Nat} {a_od : Nat} {a_op : Nat} {a_oi : Nat} {a_ov : Nat} {a_of : Nat} {a_ol : Nat} {a_om : Nat} {a_ow : Nat} {ll_o : Nat} {ln_o : Nat} {f_o_n : Int32} {f_o_many : Int32} {f_o_sets : Int32} {p1 : Int32} {R : (Nat → Int32) × (Nat → Int32)} (C : xC p s m args meth c A cX1_spell RX1 wsX1_spell 6 none D y)  : ∀ f : Nat, S_X1_spell_9 p l e s m args below meth c A D y a_o a_od a_op a_oi a_ov a_of a_ol a_om a_ow ll_o ln_o f_o_n f_o_many f_o_sets p1 R (F_X1_spell_9 ll_o ln_o f_o_n p1  f) := by
  have C0 := C
  obtain ⟨hx, hb, hml, hown, hts, hr, hlocks, hK, hA⟩ := C
  intro f
  induction f with
  | zero =>
    intro x2 x3 v_ol v_ow H locs ls hP hD hS hl hB
    rw [Z_X1_spell_9] at hB
    cases hB
  | succ f ih =>
    intro x2 x3 v_ol v_ow H locs ls hP hD hS hl hB
    rw [E_X1_spell_9] at hB
    refine lv_iload_n hx hb dX1_spell_9 rfl (lv_at hl 3 rfl) ?_
    refine lv_if_lt (tgt := 91) hx hb dX1_spell_10 (by decide) (fun c1 => ?_) (fun c1 => ?_)
    · have hB := xip c1 hB
      refine lv_iconst (v := 0) hx hb dX1_spell_91 (by decide) ?_
      refine lv_istore_n (lv' := [(3, .int (0 : Int32)), (0, .ref a_o), (1, .int p1), (2, .int x2)]) hx hb dX1_spell_92 rfl hl (by decide) rfl (fun ls hl => ?_)
      exact B_X1_spell_93 (p1 := p1) C0 xF (0 : Int32) v_ol v_ow H locs ls hP hD hS (lv_sub hl [1, 2, 0] rfl) hB
    · have hB := xin c1 hB
      refine lv_iload_n hx hb dX1_spell_13 rfl (lv_at hl 2 rfl) ?_
      refine lv_aload_n hx hb dX1_spell_14 rfl (lv_at hl 0 rfl) ?_
      refine va_get (D := D) (ci := 1) (v := .int f_o_n) (C := RX1) (T := TX1) (N := 11) hx hb hts kX1_spell_wX1 hown hK hP 0 rfl rfl 0 (by decide) (hts _ kX1_spell_f7) (fun _ h9 => h9) rfl dX1_spell_15 ?_
      refine lv_iload_n hx hb dX1_spell_18 rfl (lv_at hl 3 rfl) ?_
      refine lv_isub hx hb dX1_spell_19 ?_
      obtain ⟨g2, hB⟩ := xd_some hB
      refine lv_irem hx hb dX1_spell_20 g2 ?_
      refine lv_iconst (v := 1) hx hb dX1_spell_21 (by decide) ?_
      refine lv_iadd hx hb dX1_spell_22 ?_
      refine lv_istore (lv' := [(4, .int ((x2 - x2 / (f_o_n - x3) * (f_o_n - x3)) + (1 : Int32))), (0, .ref a_o), (1, .int p1), (2, .int x2), (3, .int x3)]) hx hb dX1_spell_23 hl (by decide) rfl (fun ls hl => ?_)
      refine lv_iload_n hx hb dX1_spell_25 rfl (lv_at hl 3 rfl) ?_
      refine lv_aload_n hx hb dX1_spell_26 rfl (lv_at hl 1 rfl) ?_
      refine va_get (D := D) (ci := 1) (v := .int f_o_n) (C := RX1) (T := TX1) (N := 11) hx hb hts kX1_spell_wX1 hown hK hP 0 rfl rfl 0 (by decide) (hts _ kX1_spell_f7) (fun _ h9 => h9) rfl dX1_spell_27 ?_
      refine lv_iload_n hx hb dX1_spell_30 rfl (lv_at hl 4 rfl) ?_
      refine lv_isub hx hb dX1_spell_31 ?_
      obtain ⟨g3, hB⟩ := xd_some hB
      refine lv_idiv hx hb dX1_spell_32 g3 ?_
      refine lv_istore_n (lv' := [(2, .int (x2 / (f_o_n - x3))), (4, .int ((x2 - x2 / (f_o_n - x3) * (f_o_n - x3)) + (1 : Int32))), (0, .ref a_o), (1, .int p1), (3, .int x3)]) hx hb dX1_spell_33 rfl hl (by decide) rfl (fun ls hl => ?_)
      refine lv_aload_n hx hb dX1_spell_34 rfl (lv_at hl 2 rfl) ?_
      refine va_get (D := D) (ci := 1) (v := .ref a_ow) (C := RX1) (T := TX1) (N := 11) hx hb hts kX1_spell_wX1 hown hK hP 0 rfl rfl 10 (by decide) (hts _ kX1_spell_f41) (fun _ h9 => h9) rfl dX1_spell_35 ?_
      refine lv_iload_n hx hb dX1_spell_38 rfl (lv_at hl 4 rfl) ?_
      refine lv_iload hx hb dX1_spell_39 (lv_at hl 1 rfl) ?_
      obtain ⟨g4, hB⟩ := xg_some hB
      refine va_iast hx hb hK hP hD hS 2 0 rfl rfl g4 dX1_spell_41 (fun H locs hP hD hS => ?_)
      have hP : va_P D vwCl [(a_o, .inr (1, [.int f_o_n, .int f_o_many, .int f_o_sets, .ref a_od, .ref a_op, .ref a_oi, .ref a_ov, .ref a_of, .ref a_ol, .ref a_om, .ref a_ow])), (a_ol, .inl (y 0, ll_o, .inl v_ol)), (a_ow, .inl (y 0, ln_o, .inl (upd v_ow x3.toNatClampNeg ((x2 - x2 / (f_o_n - x3) * (f_o_n - x3)) + (1 : Int32)))))] H := hP
      have hD : va_D A [(a_o, .inr (1, [.int f_o_n, .int f_o_many, .int f_o_sets, .ref a_od, .ref a_op, .ref a_oi, .ref a_ov, .ref a_of, .ref a_ol, .ref a_om, .ref a_ow])), (a_ol, .inl (y 0, ll_o, .inl v_ol)), (a_ow, .inl (y 0, ln_o, .inl (upd v_ow x3.toNatClampNeg ((x2 - x2 / (f_o_n - x3) * (f_o_n - x3)) + (1 : Int32)))))] := hD
      refine lv_iload_n hx hb dX1_spell_42 rfl (lv_at hl 4 rfl) ?_
      refine lv_iconst (v := 1) hx hb dX1_spell_43 (by decide) ?_
      refine lv_iadd hx hb dX1_spell_44 ?_
      refine lv_istore (lv' := [(5, .int (x3 + (1 : Int32))), (2, .int (x2 / (f_o_n - x3))), (4, .int ((x2 - x2 / (f_o_n - x3) * (f_o_n - x3)) + (1 : Int32))), (0, .ref a_o), (1, .int p1), (3, .int x3)]) hx hb dX1_spell_45 hl (by decide) rfl (fun ls hl => ?_)
      exact B_X1_spell_47 (p1 := p1) C0 ih xF (x2 / (f_o_n - x3)) x3 ((x2 - x2 / (f_o_n - x3) * (f_o_n - x3)) + (1 : Int32)) (x3 + (1 : Int32)) v_ol (upd v_ow x3.toNatClampNeg ((x2 - x2 / (f_o_n - x3) * (f_o_n - x3)) + (1 : Int32))) H locs ls hP hD hS (lv_sub hl [3, 4, 1, 5, 2, 0] rfl) hB
set_option maxHeartbeats 4000000 in
set_option maxRecDepth 100000 in
theorem B_X1_spell_0 {p : Program} {l : Launch} {e : Env} {s : State} {m : MethodId} {args : Array Value} {below : List Frame} {meth : Method} {c : Code} {A : Nat → Prop} {D : va_G} {y : Nat → ClassId} {a_o : Nat} {a_od : Nat} {a_op : Nat} {a_oi : Nat} {a_ov : Nat} {a_of : Nat} {a_ol : Nat} {a_om : Nat} {a_ow : Nat} {ll_o : Nat} {ln_o : Nat} {f_o_n : Int32} {f_o_many : Int32} {f_o_sets : Int32} {p1 : Int32} {R : (Nat → Int32) × (Nat → Int32)} (C : xC p s m args meth c A cX1_spell RX1 wsX1_spell 6 none D y)  : S_X1_spell_0 p l e s m args below meth c A D y a_o a_od a_op a_oi a_ov a_of a_ol a_om a_ow ll_o ln_o f_o_n f_o_many f_o_sets p1 R (F_X1_spell ll_o ln_o f_o_n p1 ) := by
  have C0 := C
  obtain ⟨hx, hb, hml, hown, hts, hr, hlocks, hK, hA⟩ := C
  intro v_ol v_ow H locs ls hP hD hS hl hB
  unfold F_X1_spell at hB
  refine lv_iload_n hx hb dX1_spell_0 rfl (lv_at hl 1 rfl) ?_
  refine lv_istore_n (lv' := [(2, .int p1), (0, .ref a_o), (1, .int p1)]) hx hb dX1_spell_1 rfl hl (by decide) rfl (fun ls hl => ?_)
  refine lv_aload_n hx hb dX1_spell_2 rfl (lv_at hl 1 rfl) ?_
  refine va_get (D := D) (ci := 1) (v := .int f_o_n) (C := RX1) (T := TX1) (N := 11) hx hb hts kX1_spell_wX1 hown hK hP 0 rfl rfl 0 (by decide) (hts _ kX1_spell_f7) (fun _ h9 => h9) rfl dX1_spell_3 ?_
  refine lv_iconst (v := 1) hx hb dX1_spell_6 (by decide) ?_
  refine lv_isub hx hb dX1_spell_7 ?_
  refine lv_istore_n (lv' := [(3, .int (f_o_n - (1 : Int32))), (2, .int p1), (0, .ref a_o), (1, .int p1)]) hx hb dX1_spell_8 rfl hl (by decide) rfl (fun ls hl => ?_)
  exact B_X1_spell_9 (p1 := p1) C0 xF p1 (f_o_n - (1 : Int32)) v_ol v_ow H locs ls hP hD hS (lv_sub hl [2, 3, 1, 0] rfl) hB
set_option maxHeartbeats 4000000 in
set_option maxRecDepth 100000 in
theorem c_X1_spell (l : Launch) (D : va_G) (y : Nat → ClassId) (a_o : Nat) (a_od : Nat) (a_op : Nat) (a_oi : Nat) (a_ov : Nat) (a_of : Nat) (a_ol : Nat) (a_om : Nat) (a_ow : Nat) (ll_o : Nat) (ln_o : Nat) (f_o_n : Int32) (f_o_many : Int32) (f_o_sets : Int32) (v_ol : Nat → Int32) (v_ow : Nat → Int32) (p1 : Int32) (sz : Nat) {R : (Nat → Int32) × (Nat → Int32)} (hF : F_X1_spell ll_o ln_o f_o_n p1 v_ol v_ow = some R) : Met l yX1_spell wsX1_spell ({ frames := 0, cells := 0, slots := 0, locals := 0 } : Room) (xPre D y sz [.ref a_o, .int p1] [(a_o, .inr (1, [.int f_o_n, .int f_o_many, .int f_o_sets, .ref a_od, .ref a_op, .ref a_oi, .ref a_ov, .ref a_of, .ref a_ol, .ref a_om, .ref a_ow])), (a_ol, .inl (y 0, ll_o, .inl v_ol)), (a_ow, .inl (y 0, ln_o, .inl v_ow))]) (va_Qv (fun (_ : Unit) => True) (xB D y (va_A [(a_o, .inr (1, [.int f_o_n, .int f_o_many, .int f_o_sets, .ref a_od, .ref a_op, .ref a_oi, .ref a_ov, .ref a_of, .ref a_ol, .ref a_om, .ref a_ow])), (a_ol, .inl (y 0, ll_o, .inl v_ol)), (a_ow, .inl (y 0, ln_o, .inl v_ow))] sz) [(a_o, .inr (1, [.int f_o_n, .int f_o_many, .int f_o_sets, .ref a_od, .ref a_op, .ref a_oi, .ref a_ov, .ref a_of, .ref a_ol, .ref a_om, .ref a_ow])), (a_ol, .inl (y 0, ll_o, .inl R.1)), (a_ow, .inl (y 0, ln_o, .inl R.2))]) (va_A [(a_o, .inr (1, [.int f_o_n, .int f_o_many, .int f_o_sets, .ref a_od, .ref a_op, .ref a_oi, .ref a_ov, .ref a_of, .ref a_ol, .ref a_om, .ref a_ow])), (a_ol, .inl (y 0, ll_o, .inl v_ol)), (a_ow, .inl (y 0, ln_o, .inl v_ow))] sz)) 0 0 (va_A [(a_o, .inr (1, [.int f_o_n, .int f_o_many, .int f_o_sets, .ref a_od, .ref a_op, .ref a_oi, .ref a_ov, .ref a_of, .ref a_ol, .ref a_om, .ref a_ow])), (a_ol, .inl (y 0, ll_o, .inl v_ol)), (a_ow, .inl (y 0, ln_o, .inl v_ow))] sz) := by
  refine Met.ofW (cc := cX1_spell) (maxL := 6) (ret := none) (by decide) rfl ?_
  intro p e s m args below meth c s₁ B hml hv
  obtain ⟨rfl, hsz, hP, hK, hD0⟩ := hv
  subst hsz
  have hD := hD0.self (sz := s.heap.size)
  have C : xC p s m [.ref a_o, .int p1].toArray meth c (va_A [(a_o, .inr (1, [.int f_o_n, .int f_o_many, .int f_o_sets, .ref a_od, .ref a_op, .ref a_oi, .ref a_ov, .ref a_of, .ref a_ol, .ref a_om, .ref a_ow])), (a_ol, .inl (y 0, ll_o, .inl v_ol)), (a_ow, .inl (y 0, ln_o, .inl v_ow))] s.heap.size) cX1_spell RX1 wsX1_spell 6 none D y := ⟨B.exec, B.bytes, hml, findClass_of_methodNamed B.named, atoms_spec (ws := wsX1_spell) B.pre, B.returns, B.notSynchronized, hK, fun q h => Or.inr h⟩
  have hl := lv_entry ([.ref a_o, .int p1]) (n := 6) (Nat.le_of_ble_eq_true rfl)
  rw [lg_entry_eq]
  generalize (lg_sl ([.ref a_o, .int p1]) ++ List.replicate (6 - (lg_sl ([.ref a_o, .int p1])).length) Slot.unset).toArray = ls at hl ⊢
  have hl : lv_has ls 6 [(0, .ref a_o), (1, .int p1)] := hl
  exact B_X1_spell_0 (p1 := p1) C v_ol v_ow s.heap [] ls hP hD va_S.rf hl hF

def S_X1_smallerBehind_7 (p : Program) (l : Launch) (e : Env) (s : State) (m : MethodId) (args : Array Value) (below : List Frame) (meth : Method) (c : Code) (A : Nat → Prop) (D : va_G) (y : Nat → ClassId) (a_pa : Nat) (n_pa : Nat) (v_pa : Nat → Int32) (p1 : Int32) (p2 : Int32) (R : Int32) (κ : Int32 → Int32 → Option (Int32)) : Prop := ∀ (x3 : Int32) (x4 : Int32) (H : Heap) (locs : List Loc) (ls : Array Slot), va_P D vwCl [(a_pa, .inl (y 0, n_pa, .inl v_pa))] H → va_D A [(a_pa, .inl (y 0, n_pa, .inl v_pa))] → va_S A s.heap H locs → lv_has ls 5 [(0, .ref a_pa), (1, .int p1), (2, .int p2), (3, .int x3), (4, .int x4)] → κ x3 x4 = some R → W p l e ({ frames := 0, cells := 0, slots := 0, locals := 0 } : Room) s m args below meth c H locs 0 0 (MQ below (va_Qi (fun (r : Int32) (_ : Unit) => r = R) (xB D y A [(a_pa, .inl (y 0, n_pa, .inl v_pa))]) A) args s 0 0 A) (F0 m 7 ls [])
def S_X1_smallerBehind_0 (p : Program) (l : Launch) (e : Env) (s : State) (m : MethodId) (args : Array Value) (below : List Frame) (meth : Method) (c : Code) (A : Nat → Prop) (D : va_G) (y : Nat → ClassId) (a_pa : Nat) (n_pa : Nat) (v_pa : Nat → Int32) (p1 : Int32) (p2 : Int32) (R : Int32) (κ : Option (Int32)) : Prop := ∀ (H : Heap) (locs : List Loc) (ls : Array Slot), va_P D vwCl [(a_pa, .inl (y 0, n_pa, .inl v_pa))] H → va_D A [(a_pa, .inl (y 0, n_pa, .inl v_pa))] → va_S A s.heap H locs → lv_has ls 5 [(0, .ref a_pa), (1, .int p1), (2, .int p2)] → κ = some R → W p l e ({ frames := 0, cells := 0, slots := 0, locals := 0 } : Room) s m args below meth c H locs 0 0 (MQ below (va_Qi (fun (r : Int32) (_ : Unit) => r = R) (xB D y A [(a_pa, .inl (y 0, n_pa, .inl v_pa))]) A) args s 0 0 A) (F0 m 0 ls [])
set_option maxHeartbeats 4000000 in
set_option maxRecDepth 100000 in
theorem B_X1_smallerBehind_7 {p : Program} {l : Launch} {e : Env} {s : State} {m : MethodId} {args : Array Value} {below : List Frame} {meth : Method} {c : Code} {A : Nat → Prop} {D : va_G} {y : Nat → ClassId} {a_pa : Nat} {n_pa : Nat} {v_pa : Nat → Int32} {p1 : Int32} {p2 : Int32} {R : Int32} (C : xC p s m args meth c A cX1_smallerBehind RX1 wsX1_smallerBehind 5 (some .int) D y)  : ∀ f : Nat, S_X1_smallerBehind_7 p l e s m args below meth c A D y a_pa n_pa v_pa p1 p2 R (F_X1_smallerBehind_7 n_pa v_pa p1 p2  f) := by
  have C0 := C
  obtain ⟨hx, hb, hml, hown, hts, hr, hlocks, hK, hA⟩ := C
  intro f
  induction f with
  | zero =>
    intro x3 x4 H locs ls hP hD hS hl hB
    rw [Z_X1_smallerBehind_7] at hB
    cases hB
  | succ f ih =>
    intro x3 x4 H locs ls hP hD hS hl hB
    rw [E_X1_smallerBehind_7] at hB
    refine lv_iload hx hb dX1_smallerBehind_7 (lv_at hl 4 rfl) ?_
    refine lv_iload_n hx hb dX1_smallerBehind_9 rfl (lv_at hl 1 rfl) ?_
    refine lv_icmp_ge (tgt := 32) hx hb dX1_smallerBehind_10 (by decide) (fun c1 => ?_) (fun c1 => ?_)
    · have hB := xip c1 hB
      refine lv_iload_n hx hb dX1_smallerBehind_32 rfl (lv_at hl 3 rfl) ?_
      have hB := Option.some.inj hB
      subst hB
      exact W.iret hx hb hr (fun t ht hW => ⟨⟨_, (), rfl, rfl, by rw [ht]; exact hP, va_K.moved hW.alike hK, hD⟩, hS.F ht⟩) hS.2.2 dX1_smallerBehind_33 hlocks
    · have hB := xin c1 hB
      refine lv_aload_n hx hb dX1_smallerBehind_13 rfl (lv_at hl 0 rfl) ?_
      refine lv_iload hx hb dX1_smallerBehind_14 (lv_at hl 4 rfl) ?_
      obtain ⟨g2, hB⟩ := xg_some hB
      refine va_iald hx hb hK hP 0 0 rfl rfl g2 dX1_smallerBehind_16 ?_
      refine lv_aload_n hx hb dX1_smallerBehind_17 rfl (lv_at hl 0 rfl) ?_
      refine lv_iload_n hx hb dX1_smallerBehind_18 rfl (lv_at hl 2 rfl) ?_
      obtain ⟨g3, hB⟩ := xg_some hB
      refine va_iald hx hb hK hP 0 0 rfl rfl g3 dX1_smallerBehind_19 ?_
      refine lv_icmp_ge (tgt := 26) hx hb dX1_smallerBehind_20 (by decide) (fun c4 => ?_) (fun c4 => ?_)
      · have hB := xip c4 hB
        refine lv_iinc (v := x4 + 1) (lv' := [(4, .int (x4 + 1)), (0, .ref a_pa), (1, .int p1), (2, .int p2), (3, .int x3)]) hx hb dX1_smallerBehind_26 hl (k := 4) rfl rfl (by decide) rfl (fun ls hl => ?_)
        refine lv_goto (tgt := 7) hx hb dX1_smallerBehind_29 (by decide) ?_
        exact ih x3 (x4 + 1) H locs ls hP hD hS (lv_sub hl [1, 2, 3, 4, 0] rfl) hB
      · have hB := xin c4 hB
        refine lv_iinc (v := x3 + 1) (lv' := [(3, .int (x3 + 1)), (0, .ref a_pa), (1, .int p1), (2, .int p2), (4, .int x4)]) hx hb dX1_smallerBehind_23 hl (k := 3) rfl rfl (by decide) rfl (fun ls hl => ?_)
        refine lv_iinc (v := x4 + 1) (lv' := [(4, .int (x4 + 1)), (3, .int (x3 + 1)), (0, .ref a_pa), (1, .int p1), (2, .int p2)]) hx hb dX1_smallerBehind_26 hl (k := 4) rfl rfl (by decide) rfl (fun ls hl => ?_)
        refine lv_goto (tgt := 7) hx hb dX1_smallerBehind_29 (by decide) ?_
        exact ih (x3 + 1) (x4 + 1) H locs ls hP hD hS (lv_sub hl [2, 3, 4, 1, 0] rfl) hB
set_option maxHeartbeats 4000000 in
set_option maxRecDepth 100000 in
theorem B_X1_smallerBehind_0 {p : Program} {l : Launch} {e : Env} {s : State} {m : MethodId} {args : Array Value} {below : List Frame} {meth : Method} {c : Code} {A : Nat → Prop} {D : va_G} {y : Nat → ClassId} {a_pa : Nat} {n_pa : Nat} {v_pa : Nat → Int32} {p1 : Int32} {p2 : Int32} {R : Int32} (C : xC p s m args meth c A cX1_smallerBehind RX1 wsX1_smallerBehind 5 (some .int) D y)  : S_X1_smallerBehind_0 p l e s m args below meth c A D y a_pa n_pa v_pa p1 p2 R (F_X1_smallerBehind n_pa v_pa p1 p2 ) := by
  have C0 := C
  obtain ⟨hx, hb, hml, hown, hts, hr, hlocks, hK, hA⟩ := C
  intro H locs ls hP hD hS hl hB
  unfold F_X1_smallerBehind at hB
  refine lv_iconst (v := 0) hx hb dX1_smallerBehind_0 (by decide) ?_
  refine lv_istore_n (lv' := [(3, .int (0 : Int32)), (0, .ref a_pa), (1, .int p1), (2, .int p2)]) hx hb dX1_smallerBehind_1 rfl hl (by decide) rfl (fun ls hl => ?_)
  refine lv_iload_n hx hb dX1_smallerBehind_2 rfl (lv_at hl 3 rfl) ?_
  refine lv_iconst (v := 1) hx hb dX1_smallerBehind_3 (by decide) ?_
  refine lv_iadd hx hb dX1_smallerBehind_4 ?_
  refine lv_istore (lv' := [(4, .int (p2 + (1 : Int32))), (3, .int (0 : Int32)), (0, .ref a_pa), (1, .int p1), (2, .int p2)]) hx hb dX1_smallerBehind_5 hl (by decide) rfl (fun ls hl => ?_)
  exact B_X1_smallerBehind_7 (p1 := p1) (p2 := p2) C0 xF (0 : Int32) (p2 + (1 : Int32)) H locs ls hP hD hS (lv_sub hl [2, 3, 4, 1, 0] rfl) hB
set_option maxHeartbeats 4000000 in
set_option maxRecDepth 100000 in
theorem c_X1_smallerBehind (l : Launch) (D : va_G) (y : Nat → ClassId) (a_pa : Nat) (n_pa : Nat) (v_pa : Nat → Int32) (p1 : Int32) (p2 : Int32) (sz : Nat) {R : Int32} (hF : F_X1_smallerBehind n_pa v_pa p1 p2 = some R) : Met l yX1_smallerBehind wsX1_smallerBehind ({ frames := 0, cells := 0, slots := 0, locals := 0 } : Room) (xPre D y sz [.ref a_pa, .int p1, .int p2] [(a_pa, .inl (y 0, n_pa, .inl v_pa))]) (va_Qi (fun (r : Int32) (_ : Unit) => r = R) (xB D y (va_A [(a_pa, .inl (y 0, n_pa, .inl v_pa))] sz) [(a_pa, .inl (y 0, n_pa, .inl v_pa))]) (va_A [(a_pa, .inl (y 0, n_pa, .inl v_pa))] sz)) 0 0 (va_A [(a_pa, .inl (y 0, n_pa, .inl v_pa))] sz) := by
  refine Met.ofW (cc := cX1_smallerBehind) (maxL := 5) (ret := (some .int)) (by decide) rfl ?_
  intro p e s m args below meth c s₁ B hml hv
  obtain ⟨rfl, hsz, hP, hK, hD0⟩ := hv
  subst hsz
  have hD := hD0.self (sz := s.heap.size)
  have C : xC p s m [.ref a_pa, .int p1, .int p2].toArray meth c (va_A [(a_pa, .inl (y 0, n_pa, .inl v_pa))] s.heap.size) cX1_smallerBehind RX1 wsX1_smallerBehind 5 (some .int) D y := ⟨B.exec, B.bytes, hml, findClass_of_methodNamed B.named, atoms_spec (ws := wsX1_smallerBehind) B.pre, B.returns, B.notSynchronized, hK, fun q h => Or.inr h⟩
  have hl := lv_entry ([.ref a_pa, .int p1, .int p2]) (n := 5) (Nat.le_of_ble_eq_true rfl)
  rw [lg_entry_eq]
  generalize (lg_sl ([.ref a_pa, .int p1, .int p2]) ++ List.replicate (5 - (lg_sl ([.ref a_pa, .int p1, .int p2])).length) Slot.unset).toArray = ls at hl ⊢
  have hl : lv_has ls 5 [(0, .ref a_pa), (1, .int p1), (2, .int p2)] := hl
  exact B_X1_smallerBehind_0 (p1 := p1) (p2 := p2) C  s.heap [] ls hP hD va_S.rf hl hF
theorem kX1_letterAt_f35 : Cond.fieldLink RX1 35 "DescentShuffles$Orders" "letters" "[I" ∈ wsX1_letterAt := by decide +kernel
theorem kX1_letterAt_wX1 : ∀ w ∈ u_ws RX1 TX1 11, w ∈ wsX1_letterAt := by decide +kernel
theorem kX1_letterAt_f7 : Cond.fieldLink RX1 7 "DescentShuffles$Orders" "n" "I" ∈ wsX1_letterAt := by decide +kernel
def S_X1_letterAt_0 (p : Program) (l : Launch) (e : Env) (s : State) (m : MethodId) (args : Array Value) (below : List Frame) (meth : Method) (c : Code) (A : Nat → Prop) (D : va_G) (y : Nat → ClassId) (a_o : Nat) (a_od : Nat) (a_op : Nat) (a_oi : Nat) (a_ov : Nat) (a_of : Nat) (a_ol : Nat) (a_om : Nat) (a_ow : Nat) (ll_o : Nat) (f_o_n : Int32) (f_o_many : Int32) (f_o_sets : Int32) (v_ol : Nat → Int32) (p1 : Int32) (p2 : Int32) (R : Int32) (κ : Option (Int32)) : Prop := ∀ (H : Heap) (locs : List Loc) (ls : Array Slot), va_P D vwCl [(a_o, .inr (1, [.int f_o_n, .int f_o_many, .int f_o_sets, .ref a_od, .ref a_op, .ref a_oi, .ref a_ov, .ref a_of, .ref a_ol, .ref a_om, .ref a_ow])), (a_ol, .inl (y 0, ll_o, .inl v_ol))] H → va_D A [(a_o, .inr (1, [.int f_o_n, .int f_o_many, .int f_o_sets, .ref a_od, .ref a_op, .ref a_oi, .ref a_ov, .ref a_of, .ref a_ol, .ref a_om, .ref a_ow])), (a_ol, .inl (y 0, ll_o, .inl v_ol))] → va_S A s.heap H locs → lv_has ls 3 [(0, .ref a_o), (1, .int p1), (2, .int p2)] → κ = some R → W p l e ({ frames := 0, cells := 0, slots := 0, locals := 0 } : Room) s m args below meth c H locs 0 0 (MQ below (va_Qi (fun (r : Int32) (_ : Unit) => r = R) (xB D y A [(a_o, .inr (1, [.int f_o_n, .int f_o_many, .int f_o_sets, .ref a_od, .ref a_op, .ref a_oi, .ref a_ov, .ref a_of, .ref a_ol, .ref a_om, .ref a_ow])), (a_ol, .inl (y 0, ll_o, .inl v_ol))]) A) args s 0 0 A) (F0 m 0 ls [])
set_option maxHeartbeats 4000000 in
set_option maxRecDepth 100000 in
theorem B_X1_letterAt_0 {p : Program} {l : Launch} {e : Env} {s : State} {m : MethodId} {args : Array Value} {below : List Frame} {meth : Method} {c : Code} {A : Nat → Prop} {D : va_G} {y : Nat → ClassId} {a_o : Nat} {a_od : Nat} {a_op : Nat} {a_oi : Nat} {a_ov : Nat} {a_of : Nat} {a_ol : Nat} {a_om : Nat} {a_ow : Nat} {ll_o : Nat} {f_o_n : Int32} {f_o_many : Int32} {f_o_sets : Int32} {v_ol : Nat → Int32} {p1 : Int32} {p2 : Int32} {R : Int32} (C : xC p s m args meth c A cX1_letterAt RX1 wsX1_letterAt 3 (some .int) D y)  : S_X1_letterAt_0 p l e s m args below meth c A D y a_o a_od a_op a_oi a_ov a_of a_ol a_om a_ow ll_o f_o_n f_o_many f_o_sets v_ol p1 p2 R (F_X1_letterAt ll_o f_o_n v_ol p1 p2 ) := by
  have C0 := C
  obtain ⟨hx, hb, hml, hown, hts, hr, hlocks, hK, hA⟩ := C
  intro H locs ls hP hD hS hl hB
  unfold F_X1_letterAt at hB
  refine lv_aload_n hx hb dX1_letterAt_0 rfl (lv_at hl 0 rfl) ?_
  refine va_get (D := D) (ci := 1) (v := .ref a_ol) (C := RX1) (T := TX1) (N := 11) hx hb hts kX1_letterAt_wX1 hown hK hP 0 rfl rfl 8 (by decide) (hts _ kX1_letterAt_f35) (fun _ h9 => h9) rfl dX1_letterAt_1 ?_
  refine lv_iload_n hx hb dX1_letterAt_4 rfl (lv_at hl 1 rfl) ?_
  refine lv_aload_n hx hb dX1_letterAt_5 rfl (lv_at hl 0 rfl) ?_
  refine va_get (D := D) (ci := 1) (v := .int f_o_n) (C := RX1) (T := TX1) (N := 11) hx hb hts kX1_letterAt_wX1 hown hK hP 0 rfl rfl 0 (by decide) (hts _ kX1_letterAt_f7) (fun _ h9 => h9) rfl dX1_letterAt_6 ?_
  refine lv_imul hx hb dX1_letterAt_9 ?_
  refine lv_iload_n hx hb dX1_letterAt_10 rfl (lv_at hl 2 rfl) ?_
  refine lv_iadd hx hb dX1_letterAt_11 ?_
  obtain ⟨g1, hB⟩ := xg_some hB
  refine va_iald hx hb hK hP 1 0 rfl rfl g1 dX1_letterAt_12 ?_
  have hB := Option.some.inj hB
  subst hB
  exact W.iret hx hb hr (fun t ht hW => ⟨⟨_, (), rfl, rfl, by rw [ht]; exact hP, va_K.moved hW.alike hK, hD⟩, hS.F ht⟩) hS.2.2 dX1_letterAt_13 hlocks
set_option maxHeartbeats 4000000 in
set_option maxRecDepth 100000 in
theorem c_X1_letterAt (l : Launch) (D : va_G) (y : Nat → ClassId) (a_o : Nat) (a_od : Nat) (a_op : Nat) (a_oi : Nat) (a_ov : Nat) (a_of : Nat) (a_ol : Nat) (a_om : Nat) (a_ow : Nat) (ll_o : Nat) (f_o_n : Int32) (f_o_many : Int32) (f_o_sets : Int32) (v_ol : Nat → Int32) (p1 : Int32) (p2 : Int32) (sz : Nat) {R : Int32} (hF : F_X1_letterAt ll_o f_o_n v_ol p1 p2 = some R) : Met l yX1_letterAt wsX1_letterAt ({ frames := 0, cells := 0, slots := 0, locals := 0 } : Room) (xPre D y sz [.ref a_o, .int p1, .int p2] [(a_o, .inr (1, [.int f_o_n, .int f_o_many, .int f_o_sets, .ref a_od, .ref a_op, .ref a_oi, .ref a_ov, .ref a_of, .ref a_ol, .ref a_om, .ref a_ow])), (a_ol, .inl (y 0, ll_o, .inl v_ol))]) (va_Qi (fun (r : Int32) (_ : Unit) => r = R) (xB D y (va_A [(a_o, .inr (1, [.int f_o_n, .int f_o_many, .int f_o_sets, .ref a_od, .ref a_op, .ref a_oi, .ref a_ov, .ref a_of, .ref a_ol, .ref a_om, .ref a_ow])), (a_ol, .inl (y 0, ll_o, .inl v_ol))] sz) [(a_o, .inr (1, [.int f_o_n, .int f_o_many, .int f_o_sets, .ref a_od, .ref a_op, .ref a_oi, .ref a_ov, .ref a_of, .ref a_ol, .ref a_om, .ref a_ow])), (a_ol, .inl (y 0, ll_o, .inl v_ol))]) (va_A [(a_o, .inr (1, [.int f_o_n, .int f_o_many, .int f_o_sets, .ref a_od, .ref a_op, .ref a_oi, .ref a_ov, .ref a_of, .ref a_ol, .ref a_om, .ref a_ow])), (a_ol, .inl (y 0, ll_o, .inl v_ol))] sz)) 0 0 (va_A [(a_o, .inr (1, [.int f_o_n, .int f_o_many, .int f_o_sets, .ref a_od, .ref a_op, .ref a_oi, .ref a_ov, .ref a_of, .ref a_ol, .ref a_om, .ref a_ow])), (a_ol, .inl (y 0, ll_o, .inl v_ol))] sz) := by
  refine Met.ofW (cc := cX1_letterAt) (maxL := 3) (ret := (some .int)) (by decide) rfl ?_
  intro p e s m args below meth c s₁ B hml hv
  obtain ⟨rfl, hsz, hP, hK, hD0⟩ := hv
  subst hsz
  have hD := hD0.self (sz := s.heap.size)
  have C : xC p s m [.ref a_o, .int p1, .int p2].toArray meth c (va_A [(a_o, .inr (1, [.int f_o_n, .int f_o_many, .int f_o_sets, .ref a_od, .ref a_op, .ref a_oi, .ref a_ov, .ref a_of, .ref a_ol, .ref a_om, .ref a_ow])), (a_ol, .inl (y 0, ll_o, .inl v_ol))] s.heap.size) cX1_letterAt RX1 wsX1_letterAt 3 (some .int) D y := ⟨B.exec, B.bytes, hml, findClass_of_methodNamed B.named, atoms_spec (ws := wsX1_letterAt) B.pre, B.returns, B.notSynchronized, hK, fun q h => Or.inr h⟩
  have hl := lv_entry ([.ref a_o, .int p1, .int p2]) (n := 3) (Nat.le_of_ble_eq_true rfl)
  rw [lg_entry_eq]
  generalize (lg_sl ([.ref a_o, .int p1, .int p2]) ++ List.replicate (3 - (lg_sl ([.ref a_o, .int p1, .int p2])).length) Slot.unset).toArray = ls at hl ⊢
  have hl : lv_has ls 3 [(0, .ref a_o), (1, .int p1), (2, .int p2)] := hl
  exact B_X1_letterAt_0 (p1 := p1) (p2 := p2) C  s.heap [] ls hP hD va_S.rf hl hF

def S_X1_numberOf_4 (p : Program) (l : Launch) (e : Env) (s : State) (m : MethodId) (args : Array Value) (below : List Frame) (meth : Method) (c : Code) (A : Nat → Prop) (D : va_G) (y : Nat → ClassId) (a_pa : Nat) (n_pa : Nat) (v_pa : Nat → Int32) (p1 : Int32) (R : Int32) (κ : Int32 → Int32 → Option (Int32)) : Prop := ∀ (x2 : Int32) (x3 : Int32) (H : Heap) (locs : List Loc) (ls : Array Slot), va_P D vwCl [(a_pa, .inl (y 0, n_pa, .inl v_pa))] H → va_D A [(a_pa, .inl (y 0, n_pa, .inl v_pa))] → va_S A s.heap H locs → lv_has ls 4 [(0, .ref a_pa), (1, .int p1), (2, .int x2), (3, .int x3)] → κ x2 x3 = some R → W p l e ({ frames := 1, cells := 0, slots := 0, locals := 24 } : Room) s m args below meth c H locs 0 0 (MQ below (va_Qi (fun (r : Int32) (_ : Unit) => r = R) (xB D y A [(a_pa, .inl (y 0, n_pa, .inl v_pa))]) A) args s 0 0 A) (F0 m 4 ls [])
def S_X1_numberOf_0 (p : Program) (l : Launch) (e : Env) (s : State) (m : MethodId) (args : Array Value) (below : List Frame) (meth : Method) (c : Code) (A : Nat → Prop) (D : va_G) (y : Nat → ClassId) (a_pa : Nat) (n_pa : Nat) (v_pa : Nat → Int32) (p1 : Int32) (R : Int32) (κ : Option (Int32)) : Prop := ∀ (H : Heap) (locs : List Loc) (ls : Array Slot), va_P D vwCl [(a_pa, .inl (y 0, n_pa, .inl v_pa))] H → va_D A [(a_pa, .inl (y 0, n_pa, .inl v_pa))] → va_S A s.heap H locs → lv_has ls 4 [(0, .ref a_pa), (1, .int p1)] → κ = some R → W p l e ({ frames := 1, cells := 0, slots := 0, locals := 24 } : Room) s m args below meth c H locs 0 0 (MQ below (va_Qi (fun (r : Int32) (_ : Unit) => r = R) (xB D y A [(a_pa, .inl (y 0, n_pa, .inl v_pa))]) A) args s 0 0 A) (F0 m 0 ls [])
set_option maxHeartbeats 4000000 in
set_option maxRecDepth 100000 in
theorem B_X1_numberOf_4 {p : Program} {l : Launch} {e : Env} {s : State} {m : MethodId} {args : Array Value} {below : List Frame} {meth : Method} {c : Code} {A : Nat → Prop} {D : va_G} {y : Nat → ClassId} {a_pa : Nat} {n_pa : Nat} {v_pa : Nat → Int32} {p1 : Int32} {R : Int32} (C : xC p s m args meth c A cX1_numberOf RX1 wsX1_numberOf 4 (some .int) D y)  : ∀ f : Nat, S_X1_numberOf_4 p l e s m args below meth c A D y a_pa n_pa v_pa p1 R (F_X1_numberOf_4 n_pa v_pa p1  f) := by
  have C0 := C
  obtain ⟨hx, hb, hml, hown, hts, hr, hlocks, hK, hA⟩ := C
  intro f
  induction f with
  | zero =>
    intro x2 x3 H locs ls hP hD hS hl hB
    rw [Z_X1_numberOf_4] at hB
    cases hB
  | succ f ih =>
    intro x2 x3 H locs ls hP hD hS hl hB
    rw [E_X1_numberOf_4] at hB
    refine lv_iload_n hx hb dX1_numberOf_4 rfl (lv_at hl 3 rfl) ?_
    refine lv_iload_n hx hb dX1_numberOf_5 rfl (lv_at hl 1 rfl) ?_
    refine lv_icmp_ge (tgt := 28) hx hb dX1_numberOf_6 (by decide) (fun c1 => ?_) (fun c1 => ?_)
    · have hB := xip c1 hB
      refine lv_iload_n hx hb dX1_numberOf_28 rfl (lv_at hl 2 rfl) ?_
      have hB := Option.some.inj hB
      subst hB
      exact W.iret hx hb hr (fun t ht hW => ⟨⟨_, (), rfl, rfl, by rw [ht]; exact hP, va_K.moved hW.alike hK, hD⟩, hS.F ht⟩) hS.2.2 dX1_numberOf_29 hlocks
    · have hB := xin c1 hB
      refine lv_iload_n hx hb dX1_numberOf_9 rfl (lv_at hl 2 rfl) ?_
      refine lv_iload_n hx hb dX1_numberOf_10 rfl (lv_at hl 1 rfl) ?_
      refine lv_iload_n hx hb dX1_numberOf_11 rfl (lv_at hl 3 rfl) ?_
      refine lv_isub hx hb dX1_numberOf_12 ?_
      refine lv_imul hx hb dX1_numberOf_13 ?_
      refine lv_aload_n hx hb dX1_numberOf_14 rfl (lv_at hl 0 rfl) ?_
      refine lv_iload_n hx hb dX1_numberOf_15 rfl (lv_at hl 1 rfl) ?_
      refine lv_iload_n hx hb dX1_numberOf_16 rfl (lv_at hl 3 rfl) ?_
      obtain ⟨q2, e2, hB⟩ := xbd hB
      have hPc := hP.sub (ws' := [(a_pa, .inl (y 0, n_pa, .inl v_pa))]) [0] rfl
      have hDc := hD.sub (ws' := [(a_pa, .inl (y 0, n_pa, .inl v_pa))]) [0] (by decide) rfl
      refine xcalli (mc := 0) (ms := 0) (rv := q2) (wc := [(a_pa, .inl (y 0, n_pa, .inl v_pa))]) (wr := []) (w1 := [(a_pa, .inl (y 0, n_pa, .inl v_pa))]) (wf := [(a_pa, .inl (y 0, n_pa, .inl v_pa))]) (va_runS (As := [.ref a_pa, .int p1, .int x3]) (rest := [.int (x2 * (p1 - x3))]) ⟨hx, hb, hml, hown, hts⟩ (c_X1_smallerBehind l D y a_pa n_pa v_pa p1 x3 H.size e2) (va_cwS 3 hts gX1_numberOf_X1_smallerBehind rfl rfl rfl (by decide +kernel) ⟨Nat.le_of_ble_eq_true rfl, Nat.le_of_ble_eq_true rfl⟩) ⟨xblind, xprev hPc hK hDc⟩ rfl rfl hl.1 rfl (lv_room (Nat.le_of_ble_eq_true rfl)) dX1_numberOf_17 ⟨Nat.le_of_ble_eq_true rfl, Nat.le_of_ble_eq_true rfl⟩) hP hD hS hA [0] [] [0] rfl rfl (by decide) (by decide) rfl (by decide) (fun H locs hP hD hS => ?_)
      refine lv_iadd hx hb dX1_numberOf_20 ?_
      refine lv_istore_n (lv' := [(2, .int ((x2 * (p1 - x3)) + q2)), (0, .ref a_pa), (1, .int p1), (3, .int x3)]) hx hb dX1_numberOf_21 rfl hl (by decide) rfl (fun ls hl => ?_)
      refine lv_iinc (v := x3 + 1) (lv' := [(3, .int (x3 + 1)), (2, .int ((x2 * (p1 - x3)) + q2)), (0, .ref a_pa), (1, .int p1)]) hx hb dX1_numberOf_22 hl (k := 3) rfl rfl (by decide) rfl (fun ls hl => ?_)
      refine lv_goto (tgt := 4) hx hb dX1_numberOf_25 (by decide) ?_
      exact ih ((x2 * (p1 - x3)) + q2) (x3 + 1) H locs ls hP hD hS (lv_sub hl [2, 3, 1, 0] rfl) hB
set_option maxHeartbeats 4000000 in
set_option maxRecDepth 100000 in
theorem B_X1_numberOf_0 {p : Program} {l : Launch} {e : Env} {s : State} {m : MethodId} {args : Array Value} {below : List Frame} {meth : Method} {c : Code} {A : Nat → Prop} {D : va_G} {y : Nat → ClassId} {a_pa : Nat} {n_pa : Nat} {v_pa : Nat → Int32} {p1 : Int32} {R : Int32} (C : xC p s m args meth c A cX1_numberOf RX1 wsX1_numberOf 4 (some .int) D y)  : S_X1_numberOf_0 p l e s m args below meth c A D y a_pa n_pa v_pa p1 R (F_X1_numberOf n_pa v_pa p1 ) := by
  have C0 := C
  obtain ⟨hx, hb, hml, hown, hts, hr, hlocks, hK, hA⟩ := C
  intro H locs ls hP hD hS hl hB
  unfold F_X1_numberOf at hB
  refine lv_iconst (v := 0) hx hb dX1_numberOf_0 (by decide) ?_
  refine lv_istore_n (lv' := [(2, .int (0 : Int32)), (0, .ref a_pa), (1, .int p1)]) hx hb dX1_numberOf_1 rfl hl (by decide) rfl (fun ls hl => ?_)
  refine lv_iconst (v := 0) hx hb dX1_numberOf_2 (by decide) ?_
  refine lv_istore_n (lv' := [(3, .int (0 : Int32)), (2, .int (0 : Int32)), (0, .ref a_pa), (1, .int p1)]) hx hb dX1_numberOf_3 rfl hl (by decide) rfl (fun ls hl => ?_)
  exact B_X1_numberOf_4 (p1 := p1) C0 xF (0 : Int32) (0 : Int32) H locs ls hP hD hS (lv_sub hl [2, 3, 1, 0] rfl) hB
set_option maxHeartbeats 4000000 in
set_option maxRecDepth 100000 in
theorem c_X1_numberOf (l : Launch) (D : va_G) (y : Nat → ClassId) (a_pa : Nat) (n_pa : Nat) (v_pa : Nat → Int32) (p1 : Int32) (sz : Nat) {R : Int32} (hF : F_X1_numberOf n_pa v_pa p1 = some R) : Met l yX1_numberOf wsX1_numberOf ({ frames := 1, cells := 0, slots := 0, locals := 24 } : Room) (xPre D y sz [.ref a_pa, .int p1] [(a_pa, .inl (y 0, n_pa, .inl v_pa))]) (va_Qi (fun (r : Int32) (_ : Unit) => r = R) (xB D y (va_A [(a_pa, .inl (y 0, n_pa, .inl v_pa))] sz) [(a_pa, .inl (y 0, n_pa, .inl v_pa))]) (va_A [(a_pa, .inl (y 0, n_pa, .inl v_pa))] sz)) 0 0 (va_A [(a_pa, .inl (y 0, n_pa, .inl v_pa))] sz) := by
  refine Met.ofW (cc := cX1_numberOf) (maxL := 4) (ret := (some .int)) (by decide) rfl ?_
  intro p e s m args below meth c s₁ B hml hv
  obtain ⟨rfl, hsz, hP, hK, hD0⟩ := hv
  subst hsz
  have hD := hD0.self (sz := s.heap.size)
  have C : xC p s m [.ref a_pa, .int p1].toArray meth c (va_A [(a_pa, .inl (y 0, n_pa, .inl v_pa))] s.heap.size) cX1_numberOf RX1 wsX1_numberOf 4 (some .int) D y := ⟨B.exec, B.bytes, hml, findClass_of_methodNamed B.named, atoms_spec (ws := wsX1_numberOf) B.pre, B.returns, B.notSynchronized, hK, fun q h => Or.inr h⟩
  have hl := lv_entry ([.ref a_pa, .int p1]) (n := 4) (Nat.le_of_ble_eq_true rfl)
  rw [lg_entry_eq]
  generalize (lg_sl ([.ref a_pa, .int p1]) ++ List.replicate (4 - (lg_sl ([.ref a_pa, .int p1])).length) Slot.unset).toArray = ls at hl ⊢
  have hl : lv_has ls 4 [(0, .ref a_pa), (1, .int p1)] := hl
  exact B_X1_numberOf_0 (p1 := p1) C  s.heap [] ls hP hD va_S.rf hl hF
theorem kX1_describe_f7 : Cond.fieldLink RX1 7 "DescentShuffles$Orders" "n" "I" ∈ wsX1_describe := by decide +kernel
theorem kX1_describe_wX1 : ∀ w ∈ u_ws RX1 TX1 11, w ∈ wsX1_describe := by decide +kernel
theorem kX1_describe_f19 : Cond.fieldLink RX1 19 "DescentShuffles$Orders" "descents" "[I" ∈ wsX1_describe := by decide +kernel
theorem kX1_describe_f23 : Cond.fieldLink RX1 23 "DescentShuffles$Orders" "peaks" "[I" ∈ wsX1_describe := by decide +kernel
theorem kX1_describe_f26 : Cond.fieldLink RX1 26 "DescentShuffles$Orders" "inversions" "[I" ∈ wsX1_describe := by decide +kernel
theorem kX1_describe_f29 : Cond.fieldLink RX1 29 "DescentShuffles$Orders" "inverses" "[I" ∈ wsX1_describe := by decide +kernel
theorem kX1_describe_f41 : Cond.fieldLink RX1 41 "DescentShuffles$Orders" "row" "[I" ∈ wsX1_describe := by decide +kernel
def S_X1_describe_136 (p : Program) (l : Launch) (e : Env) (s : State) (m : MethodId) (args : Array Value) (below : List Frame) (meth : Method) (c : Code) (A : Nat → Prop) (D : va_G) (y : Nat → ClassId) (a_o : Nat) (a_od : Nat) (a_op : Nat) (a_oi : Nat) (a_ov : Nat) (a_of : Nat) (a_ol : Nat) (a_om : Nat) (a_ow : Nat) (lm_o : Nat) (ll_o : Nat) (ln_o : Nat) (f_o_n : Int32) (f_o_many : Int32) (f_o_sets : Int32) (v_ol : Nat → Int32) (p1 : Int32) (R : (Nat → Int32) × (Nat → Int32) × (Nat → Int32) × (Nat → Int32) × (Nat → Int32)) (κ : Int32 → (Nat → Int32) → (Nat → Int32) → (Nat → Int32) → (Nat → Int32) → (Nat → Int32) → Option ((Nat → Int32) × (Nat → Int32) × (Nat → Int32) × (Nat → Int32) × (Nat → Int32))) : Prop := ∀ (x5 : Int32) (v_od : Nat → Int32) (v_op : Nat → Int32) (v_oi : Nat → Int32) (v_ov : Nat → Int32) (v_ow : Nat → Int32) (H : Heap) (locs : List Loc) (ls : Array Slot), va_P D vwCl [(a_o, .inr (1, [.int f_o_n, .int f_o_many, .int f_o_sets, .ref a_od, .ref a_op, .ref a_oi, .ref a_ov, .ref a_of, .ref a_ol, .ref a_om, .ref a_ow])), (a_od, .inl (y 0, lm_o, .inl v_od)), (a_op, .inl (y 0, lm_o, .inl v_op)), (a_oi, .inl (y 0, lm_o, .inl v_oi)), (a_ov, .inl (y 0, lm_o, .inl v_ov)), (a_ol, .inl (y 0, ll_o, .inl v_ol)), (a_ow, .inl (y 0, ln_o, .inl v_ow))] H → va_D A [(a_o, .inr (1, [.int f_o_n, .int f_o_many, .int f_o_sets, .ref a_od, .ref a_op, .ref a_oi, .ref a_ov, .ref a_of, .ref a_ol, .ref a_om, .ref a_ow])), (a_od, .inl (y 0, lm_o, .inl v_od)), (a_op, .inl (y 0, lm_o, .inl v_op)), (a_oi, .inl (y 0, lm_o, .inl v_oi)), (a_ov, .inl (y 0, lm_o, .inl v_ov)), (a_ol, .inl (y 0, ll_o, .inl v_ol)), (a_ow, .inl (y 0, ln_o, .inl v_ow))] → va_S A s.heap H locs → lv_has ls 6 [(0, .ref a_o), (1, .int p1), (5, .int x5)] → κ x5 v_od v_op v_oi v_ov v_ow = some R → W p l e ({ frames := 2, cells := 0, slots := 0, locals := 47 } : Room) s m args below meth c H locs 0 0 (MQ below (va_Qv (fun (_ : Unit) => True) (xB D y A [(a_o, .inr (1, [.int f_o_n, .int f_o_many, .int f_o_sets, .ref a_od, .ref a_op, .ref a_oi, .ref a_ov, .ref a_of, .ref a_ol, .ref a_om, .ref a_ow])), (a_od, .inl (y 0, lm_o, .inl R.1)), (a_op, .inl (y 0, lm_o, .inl R.2.1)), (a_oi, .inl (y 0, lm_o, .inl R.2.2.1)), (a_ov, .inl (y 0, lm_o, .inl R.2.2.2.1)), (a_ol, .inl (y 0, ll_o, .inl v_ol)), (a_ow, .inl (y 0, ln_o, .inl R.2.2.2.2))]) A) args s 0 0 A) (F0 m 136 ls [])
def S_X1_describe_10 (p : Program) (l : Launch) (e : Env) (s : State) (m : MethodId) (args : Array Value) (below : List Frame) (meth : Method) (c : Code) (A : Nat → Prop) (D : va_G) (y : Nat → ClassId) (a_o : Nat) (a_od : Nat) (a_op : Nat) (a_oi : Nat) (a_ov : Nat) (a_of : Nat) (a_ol : Nat) (a_om : Nat) (a_ow : Nat) (lm_o : Nat) (ll_o : Nat) (ln_o : Nat) (f_o_n : Int32) (f_o_many : Int32) (f_o_sets : Int32) (v_ol : Nat → Int32) (p1 : Int32) (R : (Nat → Int32) × (Nat → Int32) × (Nat → Int32) × (Nat → Int32) × (Nat → Int32)) (κ : Int32 → Int32 → Int32 → Int32 → (Nat → Int32) → (Nat → Int32) → (Nat → Int32) → (Nat → Int32) → (Nat → Int32) → Option ((Nat → Int32) × (Nat → Int32) × (Nat → Int32) × (Nat → Int32) × (Nat → Int32))) : Prop := ∀ (x2 : Int32) (x3 : Int32) (x4 : Int32) (x5 : Int32) (v_od : Nat → Int32) (v_op : Nat → Int32) (v_oi : Nat → Int32) (v_ov : Nat → Int32) (v_ow : Nat → Int32) (H : Heap) (locs : List Loc) (ls : Array Slot), va_P D vwCl [(a_o, .inr (1, [.int f_o_n, .int f_o_many, .int f_o_sets, .ref a_od, .ref a_op, .ref a_oi, .ref a_ov, .ref a_of, .ref a_ol, .ref a_om, .ref a_ow])), (a_od, .inl (y 0, lm_o, .inl v_od)), (a_op, .inl (y 0, lm_o, .inl v_op)), (a_oi, .inl (y 0, lm_o, .inl v_oi)), (a_ov, .inl (y 0, lm_o, .inl v_ov)), (a_ol, .inl (y 0, ll_o, .inl v_ol)), (a_ow, .inl (y 0, ln_o, .inl v_ow))] H → va_D A [(a_o, .inr (1, [.int f_o_n, .int f_o_many, .int f_o_sets, .ref a_od, .ref a_op, .ref a_oi, .ref a_ov, .ref a_of, .ref a_ol, .ref a_om, .ref a_ow])), (a_od, .inl (y 0, lm_o, .inl v_od)), (a_op, .inl (y 0, lm_o, .inl v_op)), (a_oi, .inl (y 0, lm_o, .inl v_oi)), (a_ov, .inl (y 0, lm_o, .inl v_ov)), (a_ol, .inl (y 0, ll_o, .inl v_ol)), (a_ow, .inl (y 0, ln_o, .inl v_ow))] → va_S A s.heap H locs → lv_has ls 6 [(0, .ref a_o), (1, .int p1), (2, .int x2), (3, .int x3), (4, .int x4), (5, .int x5)] → κ x2 x3 x4 x5 v_od v_op v_oi v_ov v_ow = some R → W p l e ({ frames := 2, cells := 0, slots := 0, locals := 47 } : Room) s m args below meth c H locs 0 0 (MQ below (va_Qv (fun (_ : Unit) => True) (xB D y A [(a_o, .inr (1, [.int f_o_n, .int f_o_many, .int f_o_sets, .ref a_od, .ref a_op, .ref a_oi, .ref a_ov, .ref a_of, .ref a_ol, .ref a_om, .ref a_ow])), (a_od, .inl (y 0, lm_o, .inl R.1)), (a_op, .inl (y 0, lm_o, .inl R.2.1)), (a_oi, .inl (y 0, lm_o, .inl R.2.2.1)), (a_ov, .inl (y 0, lm_o, .inl R.2.2.2.1)), (a_ol, .inl (y 0, ll_o, .inl v_ol)), (a_ow, .inl (y 0, ln_o, .inl R.2.2.2.2))]) A) args s 0 0 A) (F0 m 10 ls [])
def S_X1_describe_0 (p : Program) (l : Launch) (e : Env) (s : State) (m : MethodId) (args : Array Value) (below : List Frame) (meth : Method) (c : Code) (A : Nat → Prop) (D : va_G) (y : Nat → ClassId) (a_o : Nat) (a_od : Nat) (a_op : Nat) (a_oi : Nat) (a_ov : Nat) (a_of : Nat) (a_ol : Nat) (a_om : Nat) (a_ow : Nat) (lm_o : Nat) (ll_o : Nat) (ln_o : Nat) (f_o_n : Int32) (f_o_many : Int32) (f_o_sets : Int32) (v_ol : Nat → Int32) (p1 : Int32) (R : (Nat → Int32) × (Nat → Int32) × (Nat → Int32) × (Nat → Int32) × (Nat → Int32)) (κ : (Nat → Int32) → (Nat → Int32) → (Nat → Int32) → (Nat → Int32) → (Nat → Int32) → Option ((Nat → Int32) × (Nat → Int32) × (Nat → Int32) × (Nat → Int32) × (Nat → Int32))) : Prop := ∀ (v_od : Nat → Int32) (v_op : Nat → Int32) (v_oi : Nat → Int32) (v_ov : Nat → Int32) (v_ow : Nat → Int32) (H : Heap) (locs : List Loc) (ls : Array Slot), va_P D vwCl [(a_o, .inr (1, [.int f_o_n, .int f_o_many, .int f_o_sets, .ref a_od, .ref a_op, .ref a_oi, .ref a_ov, .ref a_of, .ref a_ol, .ref a_om, .ref a_ow])), (a_od, .inl (y 0, lm_o, .inl v_od)), (a_op, .inl (y 0, lm_o, .inl v_op)), (a_oi, .inl (y 0, lm_o, .inl v_oi)), (a_ov, .inl (y 0, lm_o, .inl v_ov)), (a_ol, .inl (y 0, ll_o, .inl v_ol)), (a_ow, .inl (y 0, ln_o, .inl v_ow))] H → va_D A [(a_o, .inr (1, [.int f_o_n, .int f_o_many, .int f_o_sets, .ref a_od, .ref a_op, .ref a_oi, .ref a_ov, .ref a_of, .ref a_ol, .ref a_om, .ref a_ow])), (a_od, .inl (y 0, lm_o, .inl v_od)), (a_op, .inl (y 0, lm_o, .inl v_op)), (a_oi, .inl (y 0, lm_o, .inl v_oi)), (a_ov, .inl (y 0, lm_o, .inl v_ov)), (a_ol, .inl (y 0, ll_o, .inl v_ol)), (a_ow, .inl (y 0, ln_o, .inl v_ow))] → va_S A s.heap H locs → lv_has ls 6 [(0, .ref a_o), (1, .int p1)] → κ v_od v_op v_oi v_ov v_ow = some R → W p l e ({ frames := 2, cells := 0, slots := 0, locals := 47 } : Room) s m args below meth c H locs 0 0 (MQ below (va_Qv (fun (_ : Unit) => True) (xB D y A [(a_o, .inr (1, [.int f_o_n, .int f_o_many, .int f_o_sets, .ref a_od, .ref a_op, .ref a_oi, .ref a_ov, .ref a_of, .ref a_ol, .ref a_om, .ref a_ow])), (a_od, .inl (y 0, lm_o, .inl R.1)), (a_op, .inl (y 0, lm_o, .inl R.2.1)), (a_oi, .inl (y 0, lm_o, .inl R.2.2.1)), (a_ov, .inl (y 0, lm_o, .inl R.2.2.2.1)), (a_ol, .inl (y 0, ll_o, .inl v_ol)), (a_ow, .inl (y 0, ln_o, .inl R.2.2.2.2))]) A) args s 0 0 A) (F0 m 0 ls [])
set_option maxHeartbeats 4000000 in
set_option maxRecDepth 100000 in
theorem B_X1_describe_136 {p : Program} {l : Launch} {e : Env} {s : State} {m : MethodId} {args : Array Value} {below : List Frame} {meth : Method} {c : Code} {A : Nat → Prop} {D : va_G} {y : Nat → ClassId} {a_o : Nat} {a_od : Nat} {a_op : Nat} {a_oi : Nat} {a_ov : Nat} {a_of : Nat} {a_ol : Nat} {a_om : Nat} {a_ow : Nat} {lm_o : Nat} {ll_o : Nat} {ln_o : Nat} {f_o_n : Int32} {f_o_many : Int32} {f_o_sets : Int32} {v_ol : Nat → Int32} {p1 : Int32} {R : (Nat → Int32) × (Nat → Int32) × (Nat → Int32) × (Nat → Int32) × (Nat → Int32)} (C : xC p s m args meth c A cX1_describe RX1 wsX1_describe 6 none D y)  : ∀ f : Nat, S_X1_describe_136 p l e s m args below meth c A D y a_o a_od a_op a_oi a_ov a_of a_ol a_om a_ow lm_o ll_o ln_o f_o_n f_o_many f_o_sets v_ol p1 R (F_X1_describe_136 lm_o ll_o ln_o f_o_n v_ol p1  f) := by
  have C0 := C
  obtain ⟨hx, hb, hml, hown, hts, hr, hlocks, hK, hA⟩ := C
  intro f
  induction f with
  | zero =>
    intro x5 v_od v_op v_oi v_ov v_ow H locs ls hP hD hS hl hB
    rw [Z_X1_describe_136] at hB
    cases hB
  | succ f ih =>
    intro x5 v_od v_op v_oi v_ov v_ow H locs ls hP hD hS hl hB
    rw [E_X1_describe_136] at hB
    refine lv_iload hx hb dX1_describe_136 (lv_at hl 2 rfl) ?_
    refine lv_aload_n hx hb dX1_describe_138 rfl (lv_at hl 0 rfl) ?_
    refine va_get (D := D) (ci := 1) (v := .int f_o_n) (C := RX1) (T := TX1) (N := 11) hx hb hts kX1_describe_wX1 hown hK hP 0 rfl rfl 0 (by decide) (hts _ kX1_describe_f7) (fun _ h9 => h9) rfl dX1_describe_139 ?_
    refine lv_icmp_ge (tgt := 169) hx hb dX1_describe_142 (by decide) (fun c1 => ?_) (fun c1 => ?_)
    · have hB := xip c1 hB
      refine lv_aload_n hx hb dX1_describe_169 rfl (lv_at hl 0 rfl) ?_
      refine va_get (D := D) (ci := 1) (v := .ref a_ov) (C := RX1) (T := TX1) (N := 11) hx hb hts kX1_describe_wX1 hown hK hP 0 rfl rfl 6 (by decide) (hts _ kX1_describe_f29) (fun _ h9 => h9) rfl dX1_describe_170 ?_
      refine lv_iload_n hx hb dX1_describe_173 rfl (lv_at hl 1 rfl) ?_
      refine lv_aload_n hx hb dX1_describe_174 rfl (lv_at hl 0 rfl) ?_
      refine va_get (D := D) (ci := 1) (v := .ref a_ow) (C := RX1) (T := TX1) (N := 11) hx hb hts kX1_describe_wX1 hown hK hP 0 rfl rfl 10 (by decide) (hts _ kX1_describe_f41) (fun _ h9 => h9) rfl dX1_describe_175 ?_
      refine lv_aload_n hx hb dX1_describe_178 rfl (lv_at hl 0 rfl) ?_
      refine va_get (D := D) (ci := 1) (v := .int f_o_n) (C := RX1) (T := TX1) (N := 11) hx hb hts kX1_describe_wX1 hown hK hP 0 rfl rfl 0 (by decide) (hts _ kX1_describe_f7) (fun _ h9 => h9) rfl dX1_describe_179 ?_
      obtain ⟨q2, e2, hB⟩ := xbd hB
      have hPc := hP.sub (ws' := [(a_ow, .inl (y 0, ln_o, .inl v_ow))]) [6] rfl
      have hDc := hD.sub (ws' := [(a_ow, .inl (y 0, ln_o, .inl v_ow))]) [6] (by decide) rfl
      refine xcalli (mc := 0) (ms := 0) (rv := q2) (wc := [(a_ow, .inl (y 0, ln_o, .inl v_ow))]) (wr := [(a_o, .inr (1, [.int f_o_n, .int f_o_many, .int f_o_sets, .ref a_od, .ref a_op, .ref a_oi, .ref a_ov, .ref a_of, .ref a_ol, .ref a_om, .ref a_ow])), (a_od, .inl (y 0, lm_o, .inl v_od)), (a_op, .inl (y 0, lm_o, .inl v_op)), (a_oi, .inl (y 0, lm_o, .inl v_oi)), (a_ov, .inl (y 0, lm_o, .inl v_ov)), (a_ol, .inl (y 0, ll_o, .inl v_ol))]) (w1 := [(a_ow, .inl (y 0, ln_o, .inl v_ow))]) (wf := [(a_o, .inr (1, [.int f_o_n, .int f_o_many, .int f_o_sets, .ref a_od, .ref a_op, .ref a_oi, .ref a_ov, .ref a_of, .ref a_ol, .ref a_om, .ref a_ow])), (a_od, .inl (y 0, lm_o, .inl v_od)), (a_op, .inl (y 0, lm_o, .inl v_op)), (a_oi, .inl (y 0, lm_o, .inl v_oi)), (a_ov, .inl (y 0, lm_o, .inl v_ov)), (a_ol, .inl (y 0, ll_o, .inl v_ol)), (a_ow, .inl (y 0, ln_o, .inl v_ow))]) (va_runS (As := [.ref a_ow, .int f_o_n]) (rest := [.int p1, .ref a_ov]) ⟨hx, hb, hml, hown, hts⟩ (c_X1_numberOf l D y a_ow ln_o v_ow f_o_n H.size e2) (va_cwS 2 hts gX1_describe_X1_numberOf rfl rfl rfl (by decide +kernel) ⟨Nat.le_of_ble_eq_true rfl, Nat.le_of_ble_eq_true rfl⟩) ⟨xblind, xprev hPc hK hDc⟩ rfl rfl hl.1 rfl (lv_room (Nat.le_of_ble_eq_true rfl)) dX1_describe_182 ⟨Nat.le_of_ble_eq_true rfl, Nat.le_of_ble_eq_true rfl⟩) hP hD hS hA [6] [0, 1, 2, 3, 4, 5] [0, 1, 2, 3, 4, 5, 6] rfl rfl (by decide) (by decide) rfl (by decide) (fun H locs hP hD hS => ?_)
      obtain ⟨g3, hB⟩ := xg_some hB
      refine va_iast hx hb hK hP hD hS 4 0 rfl rfl g3 dX1_describe_185 (fun H locs hP hD hS => ?_)
      have hP : va_P D vwCl [(a_o, .inr (1, [.int f_o_n, .int f_o_many, .int f_o_sets, .ref a_od, .ref a_op, .ref a_oi, .ref a_ov, .ref a_of, .ref a_ol, .ref a_om, .ref a_ow])), (a_od, .inl (y 0, lm_o, .inl v_od)), (a_op, .inl (y 0, lm_o, .inl v_op)), (a_oi, .inl (y 0, lm_o, .inl v_oi)), (a_ov, .inl (y 0, lm_o, .inl (upd v_ov p1.toNatClampNeg q2))), (a_ol, .inl (y 0, ll_o, .inl v_ol)), (a_ow, .inl (y 0, ln_o, .inl v_ow))] H := hP
      have hD : va_D A [(a_o, .inr (1, [.int f_o_n, .int f_o_many, .int f_o_sets, .ref a_od, .ref a_op, .ref a_oi, .ref a_ov, .ref a_of, .ref a_ol, .ref a_om, .ref a_ow])), (a_od, .inl (y 0, lm_o, .inl v_od)), (a_op, .inl (y 0, lm_o, .inl v_op)), (a_oi, .inl (y 0, lm_o, .inl v_oi)), (a_ov, .inl (y 0, lm_o, .inl (upd v_ov p1.toNatClampNeg q2))), (a_ol, .inl (y 0, ll_o, .inl v_ol)), (a_ow, .inl (y 0, ln_o, .inl v_ow))] := hD
      have hB := Option.some.inj hB
      subst hB
      exact W.vret hx hb hr (fun t ht hW => ⟨⟨(), rfl, trivial, by rw [ht]; exact hP, va_K.moved hW.alike hK, hD⟩, hS.F ht⟩) hS.2.2 dX1_describe_186 hlocks
    · have hB := xin c1 hB
      refine lv_aload_n hx hb dX1_describe_145 rfl (lv_at hl 0 rfl) ?_
      refine va_get (D := D) (ci := 1) (v := .ref a_ow) (C := RX1) (T := TX1) (N := 11) hx hb hts kX1_describe_wX1 hown hK hP 0 rfl rfl 10 (by decide) (hts _ kX1_describe_f41) (fun _ h9 => h9) rfl dX1_describe_146 ?_
      refine lv_aload_n hx hb dX1_describe_149 rfl (lv_at hl 0 rfl) ?_
      refine lv_iload_n hx hb dX1_describe_150 rfl (lv_at hl 1 rfl) ?_
      refine lv_iload hx hb dX1_describe_151 (lv_at hl 2 rfl) ?_
      obtain ⟨q4, e4, hB⟩ := xbd hB
      have hPc := hP.sub (ws' := [(a_o, .inr (1, [.int f_o_n, .int f_o_many, .int f_o_sets, .ref a_od, .ref a_op, .ref a_oi, .ref a_ov, .ref a_of, .ref a_ol, .ref a_om, .ref a_ow])), (a_ol, .inl (y 0, ll_o, .inl v_ol))]) [0, 5] rfl
      have hDc := hD.sub (ws' := [(a_o, .inr (1, [.int f_o_n, .int f_o_many, .int f_o_sets, .ref a_od, .ref a_op, .ref a_oi, .ref a_ov, .ref a_of, .ref a_ol, .ref a_om, .ref a_ow])), (a_ol, .inl (y 0, ll_o, .inl v_ol))]) [0, 5] (by decide) rfl
      refine xcalli (mc := 0) (ms := 0) (rv := q4) (wc := [(a_o, .inr (1, [.int f_o_n, .int f_o_many, .int f_o_sets, .ref a_od, .ref a_op, .ref a_oi, .ref a_ov, .ref a_of, .ref a_ol, .ref a_om, .ref a_ow])), (a_ol, .inl (y 0, ll_o, .inl v_ol))]) (wr := [(a_od, .inl (y 0, lm_o, .inl v_od)), (a_op, .inl (y 0, lm_o, .inl v_op)), (a_oi, .inl (y 0, lm_o, .inl v_oi)), (a_ov, .inl (y 0, lm_o, .inl v_ov)), (a_ow, .inl (y 0, ln_o, .inl v_ow))]) (w1 := [(a_o, .inr (1, [.int f_o_n, .int f_o_many, .int f_o_sets, .ref a_od, .ref a_op, .ref a_oi, .ref a_ov, .ref a_of, .ref a_ol, .ref a_om, .ref a_ow])), (a_ol, .inl (y 0, ll_o, .inl v_ol))]) (wf := [(a_o, .inr (1, [.int f_o_n, .int f_o_many, .int f_o_sets, .ref a_od, .ref a_op, .ref a_oi, .ref a_ov, .ref a_of, .ref a_ol, .ref a_om, .ref a_ow])), (a_od, .inl (y 0, lm_o, .inl v_od)), (a_op, .inl (y 0, lm_o, .inl v_op)), (a_oi, .inl (y 0, lm_o, .inl v_oi)), (a_ov, .inl (y 0, lm_o, .inl v_ov)), (a_ol, .inl (y 0, ll_o, .inl v_ol)), (a_ow, .inl (y 0, ln_o, .inl v_ow))]) (va_runV (As := [.int p1, .int x5]) (rest := [.ref a_ow]) ⟨hx, hb, hml, hown, hts⟩ (c_X1_letterAt l D y a_o a_od a_op a_oi a_ov a_of a_ol a_om a_ow ll_o f_o_n f_o_many f_o_sets v_ol p1 x5 H.size e4) (cwV 2 hts gX1_describe_X1_letterAt rfl rfl rfl (by decide +kernel) ⟨Nat.le_of_ble_eq_true rfl, Nat.le_of_ble_eq_true rfl⟩) ⟨xblind, va_recv hK hP (ci := 1) (q0 := 0) rfl rfl, xprev hPc hK hDc⟩ rfl rfl hl.1 rfl (lv_room (Nat.le_of_ble_eq_true rfl)) dX1_describe_153 ⟨Nat.le_of_ble_eq_true rfl, Nat.le_of_ble_eq_true rfl⟩) hP hD hS hA [0, 5] [1, 2, 3, 4, 6] [5, 0, 1, 2, 3, 6, 4] rfl rfl (by decide) (by decide) rfl (by decide) (fun H locs hP hD hS => ?_)
      refine lv_iconst (v := 1) hx hb dX1_describe_156 (by decide) ?_
      refine lv_isub hx hb dX1_describe_157 ?_
      refine lv_iload hx hb dX1_describe_158 (lv_at hl 2 rfl) ?_
      refine lv_iconst (v := 1) hx hb dX1_describe_160 (by decide) ?_
      refine lv_iadd hx hb dX1_describe_161 ?_
      obtain ⟨g5, hB⟩ := xg_some hB
      refine va_iast hx hb hK hP hD hS 6 0 rfl rfl g5 dX1_describe_162 (fun H locs hP hD hS => ?_)
      have hP : va_P D vwCl [(a_o, .inr (1, [.int f_o_n, .int f_o_many, .int f_o_sets, .ref a_od, .ref a_op, .ref a_oi, .ref a_ov, .ref a_of, .ref a_ol, .ref a_om, .ref a_ow])), (a_od, .inl (y 0, lm_o, .inl v_od)), (a_op, .inl (y 0, lm_o, .inl v_op)), (a_oi, .inl (y 0, lm_o, .inl v_oi)), (a_ov, .inl (y 0, lm_o, .inl v_ov)), (a_ol, .inl (y 0, ll_o, .inl v_ol)), (a_ow, .inl (y 0, ln_o, .inl (upd v_ow (q4 - (1 : Int32)).toNatClampNeg (x5 + (1 : Int32)))))] H := hP
      have hD : va_D A [(a_o, .inr (1, [.int f_o_n, .int f_o_many, .int f_o_sets, .ref a_od, .ref a_op, .ref a_oi, .ref a_ov, .ref a_of, .ref a_ol, .ref a_om, .ref a_ow])), (a_od, .inl (y 0, lm_o, .inl v_od)), (a_op, .inl (y 0, lm_o, .inl v_op)), (a_oi, .inl (y 0, lm_o, .inl v_oi)), (a_ov, .inl (y 0, lm_o, .inl v_ov)), (a_ol, .inl (y 0, ll_o, .inl v_ol)), (a_ow, .inl (y 0, ln_o, .inl (upd v_ow (q4 - (1 : Int32)).toNatClampNeg (x5 + (1 : Int32)))))] := hD
      refine lv_iinc (v := x5 + 1) (lv' := [(5, .int (x5 + 1)), (0, .ref a_o), (1, .int p1)]) hx hb dX1_describe_163 hl (k := 2) rfl rfl (by decide) rfl (fun ls hl => ?_)
      refine lv_goto (tgt := 136) hx hb dX1_describe_166 (by decide) ?_
      exact ih (x5 + 1) v_od v_op v_oi v_ov (upd v_ow (q4 - (1 : Int32)).toNatClampNeg (x5 + (1 : Int32))) H locs ls hP hD hS (lv_sub hl [1, 2, 0] rfl) hB
set_option maxHeartbeats 4000000 in
set_option maxRecDepth 100000 in
theorem B_X1_describe_10 {p : Program} {l : Launch} {e : Env} {s : State} {m : MethodId} {args : Array Value} {below : List Frame} {meth : Method} {c : Code} {A : Nat → Prop} {D : va_G} {y : Nat → ClassId} {a_o : Nat} {a_od : Nat} {a_op : Nat} {a_oi : Nat} {a_ov : Nat} {a_of : Nat} {a_ol : Nat} {a_om : Nat} {a_ow : Nat} {lm_o : Nat} {ll_o : Nat} {ln_o : Nat} {f_o_n : Int32} {f_o_many : Int32} {f_o_sets : Int32} {v_ol : Nat → Int32} {p1 : Int32} {R : (Nat → Int32) × (Nat → Int32) × (Nat → Int32) × (Nat → Int32) × (Nat → Int32)} (C : xC p s m args meth c A cX1_describe RX1 wsX1_describe 6 none D y)  : ∀ f : Nat, S_X1_describe_10 p l e s m args below meth c A D y a_o a_od a_op a_oi a_ov a_of a_ol a_om a_ow lm_o ll_o ln_o f_o_n f_o_many f_o_sets v_ol p1 R (F_X1_describe_10 lm_o ll_o ln_o f_o_n v_ol p1  f) := by
  have C0 := C
  obtain ⟨hx, hb, hml, hown, hts, hr, hlocks, hK, hA⟩ := C
  intro f
  induction f with
  | zero =>
    intro x2 x3 x4 x5 v_od v_op v_oi v_ov v_ow H locs ls hP hD hS hl hB
    rw [Z_X1_describe_10] at hB
    cases hB
  | succ f ih =>
    intro x2 x3 x4 x5 v_od v_op v_oi v_ov v_ow H locs ls hP hD hS hl hB
    rw [E_X1_describe_10] at hB
    refine lv_iload hx hb dX1_describe_10 (lv_at hl 5 rfl) ?_
    refine lv_aload_n hx hb dX1_describe_12 rfl (lv_at hl 0 rfl) ?_
    refine va_get (D := D) (ci := 1) (v := .int f_o_n) (C := RX1) (T := TX1) (N := 11) hx hb hts kX1_describe_wX1 hown hK hP 0 rfl rfl 0 (by decide) (hts _ kX1_describe_f7) (fun _ h9 => h9) rfl dX1_describe_13 ?_
    refine lv_icmp_ge (tgt := 111) hx hb dX1_describe_16 (by decide) (fun c1 => ?_) (fun c1 => ?_)
    · have hB := xip c1 hB
      refine lv_aload_n hx hb dX1_describe_111 rfl (lv_at hl 0 rfl) ?_
      refine va_get (D := D) (ci := 1) (v := .ref a_od) (C := RX1) (T := TX1) (N := 11) hx hb hts kX1_describe_wX1 hown hK hP 0 rfl rfl 3 (by decide) (hts _ kX1_describe_f19) (fun _ h9 => h9) rfl dX1_describe_112 ?_
      refine lv_iload_n hx hb dX1_describe_115 rfl (lv_at hl 1 rfl) ?_
      refine lv_iload_n hx hb dX1_describe_116 rfl (lv_at hl 2 rfl) ?_
      obtain ⟨g2, hB⟩ := xg_some hB
      refine va_iast hx hb hK hP hD hS 1 0 rfl rfl g2 dX1_describe_117 (fun H locs hP hD hS => ?_)
      have hP : va_P D vwCl [(a_o, .inr (1, [.int f_o_n, .int f_o_many, .int f_o_sets, .ref a_od, .ref a_op, .ref a_oi, .ref a_ov, .ref a_of, .ref a_ol, .ref a_om, .ref a_ow])), (a_od, .inl (y 0, lm_o, .inl (upd v_od p1.toNatClampNeg x2))), (a_op, .inl (y 0, lm_o, .inl v_op)), (a_oi, .inl (y 0, lm_o, .inl v_oi)), (a_ov, .inl (y 0, lm_o, .inl v_ov)), (a_ol, .inl (y 0, ll_o, .inl v_ol)), (a_ow, .inl (y 0, ln_o, .inl v_ow))] H := hP
      have hD : va_D A [(a_o, .inr (1, [.int f_o_n, .int f_o_many, .int f_o_sets, .ref a_od, .ref a_op, .ref a_oi, .ref a_ov, .ref a_of, .ref a_ol, .ref a_om, .ref a_ow])), (a_od, .inl (y 0, lm_o, .inl (upd v_od p1.toNatClampNeg x2))), (a_op, .inl (y 0, lm_o, .inl v_op)), (a_oi, .inl (y 0, lm_o, .inl v_oi)), (a_ov, .inl (y 0, lm_o, .inl v_ov)), (a_ol, .inl (y 0, ll_o, .inl v_ol)), (a_ow, .inl (y 0, ln_o, .inl v_ow))] := hD
      refine lv_aload_n hx hb dX1_describe_118 rfl (lv_at hl 0 rfl) ?_
      refine va_get (D := D) (ci := 1) (v := .ref a_op) (C := RX1) (T := TX1) (N := 11) hx hb hts kX1_describe_wX1 hown hK hP 0 rfl rfl 4 (by decide) (hts _ kX1_describe_f23) (fun _ h9 => h9) rfl dX1_describe_119 ?_
      refine lv_iload_n hx hb dX1_describe_122 rfl (lv_at hl 1 rfl) ?_
      refine lv_iload_n hx hb dX1_describe_123 rfl (lv_at hl 3 rfl) ?_
      refine va_iast hx hb hK hP hD hS 2 0 rfl rfl g2 dX1_describe_124 (fun H locs hP hD hS => ?_)
      have hP : va_P D vwCl [(a_o, .inr (1, [.int f_o_n, .int f_o_many, .int f_o_sets, .ref a_od, .ref a_op, .ref a_oi, .ref a_ov, .ref a_of, .ref a_ol, .ref a_om, .ref a_ow])), (a_od, .inl (y 0, lm_o, .inl (upd v_od p1.toNatClampNeg x2))), (a_op, .inl (y 0, lm_o, .inl (upd v_op p1.toNatClampNeg x3))), (a_oi, .inl (y 0, lm_o, .inl v_oi)), (a_ov, .inl (y 0, lm_o, .inl v_ov)), (a_ol, .inl (y 0, ll_o, .inl v_ol)), (a_ow, .inl (y 0, ln_o, .inl v_ow))] H := hP
      have hD : va_D A [(a_o, .inr (1, [.int f_o_n, .int f_o_many, .int f_o_sets, .ref a_od, .ref a_op, .ref a_oi, .ref a_ov, .ref a_of, .ref a_ol, .ref a_om, .ref a_ow])), (a_od, .inl (y 0, lm_o, .inl (upd v_od p1.toNatClampNeg x2))), (a_op, .inl (y 0, lm_o, .inl (upd v_op p1.toNatClampNeg x3))), (a_oi, .inl (y 0, lm_o, .inl v_oi)), (a_ov, .inl (y 0, lm_o, .inl v_ov)), (a_ol, .inl (y 0, ll_o, .inl v_ol)), (a_ow, .inl (y 0, ln_o, .inl v_ow))] := hD
      refine lv_aload_n hx hb dX1_describe_125 rfl (lv_at hl 0 rfl) ?_
      refine va_get (D := D) (ci := 1) (v := .ref a_oi) (C := RX1) (T := TX1) (N := 11) hx hb hts kX1_describe_wX1 hown hK hP 0 rfl rfl 5 (by decide) (hts _ kX1_describe_f26) (fun _ h9 => h9) rfl dX1_describe_126 ?_
      refine lv_iload_n hx hb dX1_describe_129 rfl (lv_at hl 1 rfl) ?_
      refine lv_iload hx hb dX1_describe_130 (lv_at hl 4 rfl) ?_
      refine va_iast hx hb hK hP hD hS 3 0 rfl rfl g2 dX1_describe_132 (fun H locs hP hD hS => ?_)
      have hP : va_P D vwCl [(a_o, .inr (1, [.int f_o_n, .int f_o_many, .int f_o_sets, .ref a_od, .ref a_op, .ref a_oi, .ref a_ov, .ref a_of, .ref a_ol, .ref a_om, .ref a_ow])), (a_od, .inl (y 0, lm_o, .inl (upd v_od p1.toNatClampNeg x2))), (a_op, .inl (y 0, lm_o, .inl (upd v_op p1.toNatClampNeg x3))), (a_oi, .inl (y 0, lm_o, .inl (upd v_oi p1.toNatClampNeg x4))), (a_ov, .inl (y 0, lm_o, .inl v_ov)), (a_ol, .inl (y 0, ll_o, .inl v_ol)), (a_ow, .inl (y 0, ln_o, .inl v_ow))] H := hP
      have hD : va_D A [(a_o, .inr (1, [.int f_o_n, .int f_o_many, .int f_o_sets, .ref a_od, .ref a_op, .ref a_oi, .ref a_ov, .ref a_of, .ref a_ol, .ref a_om, .ref a_ow])), (a_od, .inl (y 0, lm_o, .inl (upd v_od p1.toNatClampNeg x2))), (a_op, .inl (y 0, lm_o, .inl (upd v_op p1.toNatClampNeg x3))), (a_oi, .inl (y 0, lm_o, .inl (upd v_oi p1.toNatClampNeg x4))), (a_ov, .inl (y 0, lm_o, .inl v_ov)), (a_ol, .inl (y 0, ll_o, .inl v_ol)), (a_ow, .inl (y 0, ln_o, .inl v_ow))] := hD
      refine lv_iconst (v := 0) hx hb dX1_describe_133 (by decide) ?_
      refine lv_istore (lv' := [(5, .int (0 : Int32)), (0, .ref a_o), (1, .int p1), (2, .int x2), (3, .int x3), (4, .int x4)]) hx hb dX1_describe_134 hl (by decide) rfl (fun ls hl => ?_)
      exact B_X1_describe_136 (p1 := p1) C0 xF (0 : Int32) (upd v_od p1.toNatClampNeg x2) (upd v_op p1.toNatClampNeg x3) (upd v_oi p1.toNatClampNeg x4) v_ov v_ow H locs ls hP hD hS (lv_sub hl [1, 2, 0] rfl) hB
    · have hB := xin c1 hB
      refine lv_iload hx hb dX1_describe_19 (lv_at hl 4 rfl) ?_
      refine lv_aload_n hx hb dX1_describe_21 rfl (lv_at hl 0 rfl) ?_
      refine va_get (D := D) (ci := 1) (v := .ref a_ow) (C := RX1) (T := TX1) (N := 11) hx hb hts kX1_describe_wX1 hown hK hP 0 rfl rfl 10 (by decide) (hts _ kX1_describe_f41) (fun _ h9 => h9) rfl dX1_describe_22 ?_
      refine lv_aload_n hx hb dX1_describe_25 rfl (lv_at hl 0 rfl) ?_
      refine va_get (D := D) (ci := 1) (v := .int f_o_n) (C := RX1) (T := TX1) (N := 11) hx hb hts kX1_describe_wX1 hown hK hP 0 rfl rfl 0 (by decide) (hts _ kX1_describe_f7) (fun _ h9 => h9) rfl dX1_describe_26 ?_
      refine lv_iload hx hb dX1_describe_29 (lv_at hl 5 rfl) ?_
      obtain ⟨q3, e3, hB⟩ := xbd hB
      have hPc := hP.sub (ws' := [(a_ow, .inl (y 0, ln_o, .inl v_ow))]) [6] rfl
      have hDc := hD.sub (ws' := [(a_ow, .inl (y 0, ln_o, .inl v_ow))]) [6] (by decide) rfl
      refine xcalli (mc := 0) (ms := 0) (rv := q3) (wc := [(a_ow, .inl (y 0, ln_o, .inl v_ow))]) (wr := [(a_o, .inr (1, [.int f_o_n, .int f_o_many, .int f_o_sets, .ref a_od, .ref a_op, .ref a_oi, .ref a_ov, .ref a_of, .ref a_ol, .ref a_om, .ref a_ow])), (a_od, .inl (y 0, lm_o, .inl v_od)), (a_op, .inl (y 0, lm_o, .inl v_op)), (a_oi, .inl (y 0, lm_o, .inl v_oi)), (a_ov, .inl (y 0, lm_o, .inl v_ov)), (a_ol, .inl (y 0, ll_o, .inl v_ol))]) (w1 := [(a_ow, .inl (y 0, ln_o, .inl v_ow))]) (wf := [(a_o, .inr (1, [.int f_o_n, .int f_o_many, .int f_o_sets, .ref a_od, .ref a_op, .ref a_oi, .ref a_ov, .ref a_of, .ref a_ol, .ref a_om, .ref a_ow])), (a_od, .inl (y 0, lm_o, .inl v_od)), (a_op, .inl (y 0, lm_o, .inl v_op)), (a_oi, .inl (y 0, lm_o, .inl v_oi)), (a_ov, .inl (y 0, lm_o, .inl v_ov)), (a_ol, .inl (y 0, ll_o, .inl v_ol)), (a_ow, .inl (y 0, ln_o, .inl v_ow))]) (va_runS (As := [.ref a_ow, .int f_o_n, .int x5]) (rest := [.int x4]) ⟨hx, hb, hml, hown, hts⟩ (c_X1_smallerBehind l D y a_ow ln_o v_ow f_o_n x5 H.size e3) (va_cwS 3 hts gX1_describe_X1_smallerBehind rfl rfl rfl (by decide +kernel) ⟨Nat.le_of_ble_eq_true rfl, Nat.le_of_ble_eq_true rfl⟩) ⟨xblind, xprev hPc hK hDc⟩ rfl rfl hl.1 rfl (lv_room (Nat.le_of_ble_eq_true rfl)) dX1_describe_31 ⟨Nat.le_of_ble_eq_true rfl, Nat.le_of_ble_eq_true rfl⟩) hP hD hS hA [6] [0, 1, 2, 3, 4, 5] [0, 1, 2, 3, 4, 5, 6] rfl rfl (by decide) (by decide) rfl (by decide) (fun H locs hP hD hS => ?_)
      refine lv_iadd hx hb dX1_describe_34 ?_
      refine lv_istore (lv' := [(4, .int (x4 + q3)), (0, .ref a_o), (1, .int p1), (2, .int x2), (3, .int x3), (5, .int x5)]) hx hb dX1_describe_35 hl (by decide) rfl (fun ls hl => ?_)
      refine lv_iload hx hb dX1_describe_37 (lv_at hl 5 rfl) ?_
      refine lv_aload_n hx hb dX1_describe_39 rfl (lv_at hl 1 rfl) ?_
      refine va_get (D := D) (ci := 1) (v := .int f_o_n) (C := RX1) (T := TX1) (N := 11) hx hb hts kX1_describe_wX1 hown hK hP 0 rfl rfl 0 (by decide) (hts _ kX1_describe_f7) (fun _ h9 => h9) rfl dX1_describe_40 ?_
      refine lv_iconst (v := 1) hx hb dX1_describe_43 (by decide) ?_
      refine lv_isub hx hb dX1_describe_44 ?_
      refine lv_icmp_ge (tgt := 105) hx hb dX1_describe_45 (by decide) (fun c4 => ?_) (fun c4 => ?_)
      · have hB := xip c4 hB
        refine lv_iinc (v := x5 + 1) (lv' := [(5, .int (x5 + 1)), (4, .int (x4 + q3)), (0, .ref a_o), (1, .int p1), (2, .int x2), (3, .int x3)]) hx hb dX1_describe_105 hl (k := 5) rfl rfl (by decide) rfl (fun ls hl => ?_)
        refine lv_goto (tgt := 10) hx hb dX1_describe_108 (by decide) ?_
        exact ih x2 x3 (x4 + q3) (x5 + 1) v_od v_op v_oi v_ov v_ow H locs ls hP hD hS (lv_sub hl [2, 3, 4, 5, 1, 0] rfl) hB
      · have hB := xin c4 hB
        refine lv_aload_n hx hb dX1_describe_48 rfl (lv_at hl 1 rfl) ?_
        refine va_get (D := D) (ci := 1) (v := .ref a_ow) (C := RX1) (T := TX1) (N := 11) hx hb hts kX1_describe_wX1 hown hK hP 0 rfl rfl 10 (by decide) (hts _ kX1_describe_f41) (fun _ h9 => h9) rfl dX1_describe_49 ?_
        refine lv_iload hx hb dX1_describe_52 (lv_at hl 5 rfl) ?_
        obtain ⟨g5, hB⟩ := xg_some hB
        refine va_iald hx hb hK hP 6 0 rfl rfl g5 dX1_describe_54 ?_
        refine lv_aload_n hx hb dX1_describe_55 rfl (lv_at hl 1 rfl) ?_
        refine va_get (D := D) (ci := 1) (v := .ref a_ow) (C := RX1) (T := TX1) (N := 11) hx hb hts kX1_describe_wX1 hown hK hP 0 rfl rfl 10 (by decide) (hts _ kX1_describe_f41) (fun _ h9 => h9) rfl dX1_describe_56 ?_
        refine lv_iload hx hb dX1_describe_59 (lv_at hl 5 rfl) ?_
        refine lv_iconst (v := 1) hx hb dX1_describe_61 (by decide) ?_
        refine lv_iadd hx hb dX1_describe_62 ?_
        obtain ⟨g6, hB⟩ := xg_some hB
        refine va_iald hx hb hK hP 6 0 rfl rfl g6 dX1_describe_63 ?_
        refine lv_icmp_le (tgt := 105) hx hb dX1_describe_64 (by decide) (fun c7 => ?_) (fun c7 => ?_)
        · have hB := xip c7 hB
          refine lv_iinc (v := x5 + 1) (lv' := [(5, .int (x5 + 1)), (4, .int (x4 + q3)), (0, .ref a_o), (1, .int p1), (2, .int x2), (3, .int x3)]) hx hb dX1_describe_105 hl (k := 5) rfl rfl (by decide) rfl (fun ls hl => ?_)
          refine lv_goto (tgt := 10) hx hb dX1_describe_108 (by decide) ?_
          exact ih x2 x3 (x4 + q3) (x5 + 1) v_od v_op v_oi v_ov v_ow H locs ls hP hD hS (lv_sub hl [2, 3, 4, 5, 1, 0] rfl) hB
        · have hB := xin c7 hB
          refine lv_iload_n hx hb dX1_describe_67 rfl (lv_at hl 3 rfl) ?_
          refine lv_iconst (v := 1) hx hb dX1_describe_68 (by decide) ?_
          refine lv_iload hx hb dX1_describe_69 (lv_at hl 5 rfl) ?_
          refine lv_ishl hx hb dX1_describe_71 ?_
          refine lv_ior hx hb dX1_describe_72 ?_
          refine lv_istore_n (lv' := [(2, .int (x2 ||| ((1 : Int32) <<< (x5 &&& 31)))), (4, .int (x4 + q3)), (0, .ref a_o), (1, .int p1), (3, .int x3), (5, .int x5)]) hx hb dX1_describe_73 rfl hl (by decide) rfl (fun ls hl => ?_)
          refine lv_iload hx hb dX1_describe_74 (lv_at hl 5 rfl) ?_
          refine lv_if_le (tgt := 105) hx hb dX1_describe_76 (by decide) (fun c8 => ?_) (fun c8 => ?_)
          · have hB := xip c8 hB
            refine lv_iinc (v := x5 + 1) (lv' := [(5, .int (x5 + 1)), (2, .int (x2 ||| ((1 : Int32) <<< (x5 &&& 31)))), (4, .int (x4 + q3)), (0, .ref a_o), (1, .int p1), (3, .int x3)]) hx hb dX1_describe_105 hl (k := 5) rfl rfl (by decide) rfl (fun ls hl => ?_)
            refine lv_goto (tgt := 10) hx hb dX1_describe_108 (by decide) ?_
            exact ih (x2 ||| ((1 : Int32) <<< (x5 &&& 31))) x3 (x4 + q3) (x5 + 1) v_od v_op v_oi v_ov v_ow H locs ls hP hD hS (lv_sub hl [3, 4, 1, 5, 2, 0] rfl) hB
          · have hB := xin c8 hB
            refine lv_aload_n hx hb dX1_describe_79 rfl (lv_at hl 2 rfl) ?_
            refine va_get (D := D) (ci := 1) (v := .ref a_ow) (C := RX1) (T := TX1) (N := 11) hx hb hts kX1_describe_wX1 hown hK hP 0 rfl rfl 10 (by decide) (hts _ kX1_describe_f41) (fun _ h9 => h9) rfl dX1_describe_80 ?_
            refine lv_iload hx hb dX1_describe_83 (lv_at hl 5 rfl) ?_
            refine va_iald hx hb hK hP 6 0 rfl rfl g5 dX1_describe_85 ?_
            refine lv_aload_n hx hb dX1_describe_86 rfl (lv_at hl 2 rfl) ?_
            refine va_get (D := D) (ci := 1) (v := .ref a_ow) (C := RX1) (T := TX1) (N := 11) hx hb hts kX1_describe_wX1 hown hK hP 0 rfl rfl 10 (by decide) (hts _ kX1_describe_f41) (fun _ h9 => h9) rfl dX1_describe_87 ?_
            refine lv_iload hx hb dX1_describe_90 (lv_at hl 5 rfl) ?_
            refine lv_iconst (v := 1) hx hb dX1_describe_92 (by decide) ?_
            refine lv_isub hx hb dX1_describe_93 ?_
            obtain ⟨g9, hB⟩ := xg_some hB
            refine va_iald hx hb hK hP 6 0 rfl rfl g9 dX1_describe_94 ?_
            refine lv_icmp_le (tgt := 105) hx hb dX1_describe_95 (by decide) (fun c10 => ?_) (fun c10 => ?_)
            · have hB := xip c10 hB
              refine lv_iinc (v := x5 + 1) (lv' := [(5, .int (x5 + 1)), (2, .int (x2 ||| ((1 : Int32) <<< (x5 &&& 31)))), (4, .int (x4 + q3)), (0, .ref a_o), (1, .int p1), (3, .int x3)]) hx hb dX1_describe_105 hl (k := 5) rfl rfl (by decide) rfl (fun ls hl => ?_)
              refine lv_goto (tgt := 10) hx hb dX1_describe_108 (by decide) ?_
              exact ih (x2 ||| ((1 : Int32) <<< (x5 &&& 31))) x3 (x4 + q3) (x5 + 1) v_od v_op v_oi v_ov v_ow H locs ls hP hD hS (lv_sub hl [3, 4, 1, 5, 2, 0] rfl) hB
            · have hB := xin c10 hB
              refine lv_iload_n hx hb dX1_describe_98 rfl (lv_at hl 4 rfl) ?_
              refine lv_iconst (v := 1) hx hb dX1_describe_99 (by decide) ?_
              refine lv_iload hx hb dX1_describe_100 (lv_at hl 5 rfl) ?_
              refine lv_ishl hx hb dX1_describe_102 ?_
              refine lv_ior hx hb dX1_describe_103 ?_
              refine lv_istore_n (lv' := [(3, .int (x3 ||| ((1 : Int32) <<< (x5 &&& 31)))), (2, .int (x2 ||| ((1 : Int32) <<< (x5 &&& 31)))), (4, .int (x4 + q3)), (0, .ref a_o), (1, .int p1), (5, .int x5)]) hx hb dX1_describe_104 rfl hl (by decide) rfl (fun ls hl => ?_)
              refine lv_iinc (v := x5 + 1) (lv' := [(5, .int (x5 + 1)), (3, .int (x3 ||| ((1 : Int32) <<< (x5 &&& 31)))), (2, .int (x2 ||| ((1 : Int32) <<< (x5 &&& 31)))), (4, .int (x4 + q3)), (0, .ref a_o), (1, .int p1)]) hx hb dX1_describe_105 hl (k := 5) rfl rfl (by decide) rfl (fun ls hl => ?_)
              refine lv_goto (tgt := 10) hx hb dX1_describe_108 (by decide) ?_
              exact ih (x2 ||| ((1 : Int32) <<< (x5 &&& 31))) (x3 ||| ((1 : Int32) <<< (x5 &&& 31))) (x4 + q3) (x5 + 1) v_od v_op v_oi v_ov v_ow H locs ls hP hD hS (lv_sub hl [4, 5, 2, 1, 3, 0] rfl) hB
set_option maxHeartbeats 4000000 in
set_option maxRecDepth 100000 in
theorem B_X1_describe_0 {p : Program} {l : Launch} {e : Env} {s : State} {m : MethodId} {args : Array Value} {below : List Frame} {meth : Method} {c : Code} {A : Nat → Prop} {D : va_G} {y : Nat → ClassId} {a_o : Nat} {a_od : Nat} {a_op : Nat} {a_oi : Nat} {a_ov : Nat} {a_of : Nat} {a_ol : Nat} {a_om : Nat} {a_ow : Nat} {lm_o : Nat} {ll_o : Nat} {ln_o : Nat} {f_o_n : Int32} {f_o_many : Int32} {f_o_sets : Int32} {v_ol : Nat → Int32} {p1 : Int32} {R : (Nat → Int32) × (Nat → Int32) × (Nat → Int32) × (Nat → Int32) × (Nat → Int32)} (C : xC p s m args meth c A cX1_describe RX1 wsX1_describe 6 none D y)  : S_X1_describe_0 p l e s m args below meth c A D y a_o a_od a_op a_oi a_ov a_of a_ol a_om a_ow lm_o ll_o ln_o f_o_n f_o_many f_o_sets v_ol p1 R (F_X1_describe lm_o ll_o ln_o f_o_n v_ol p1 ) := by
  have C0 := C
  obtain ⟨hx, hb, hml, hown, hts, hr, hlocks, hK, hA⟩ := C
  intro v_od v_op v_oi v_ov v_ow H locs ls hP hD hS hl hB
  unfold F_X1_describe at hB
  refine lv_iconst (v := 0) hx hb dX1_describe_0 (by decide) ?_
  refine lv_istore_n (lv' := [(2, .int (0 : Int32)), (0, .ref a_o), (1, .int p1)]) hx hb dX1_describe_1 rfl hl (by decide) rfl (fun ls hl => ?_)
  refine lv_iconst (v := 0) hx hb dX1_describe_2 (by decide) ?_
  refine lv_istore_n (lv' := [(3, .int (0 : Int32)), (2, .int (0 : Int32)), (0, .ref a_o), (1, .int p1)]) hx hb dX1_describe_3 rfl hl (by decide) rfl (fun ls hl => ?_)
  refine lv_iconst (v := 0) hx hb dX1_describe_4 (by decide) ?_
  refine lv_istore (lv' := [(4, .int (0 : Int32)), (3, .int (0 : Int32)), (2, .int (0 : Int32)), (0, .ref a_o), (1, .int p1)]) hx hb dX1_describe_5 hl (by decide) rfl (fun ls hl => ?_)
  refine lv_iconst (v := 0) hx hb dX1_describe_7 (by decide) ?_
  refine lv_istore (lv' := [(5, .int (0 : Int32)), (4, .int (0 : Int32)), (3, .int (0 : Int32)), (2, .int (0 : Int32)), (0, .ref a_o), (1, .int p1)]) hx hb dX1_describe_8 hl (by decide) rfl (fun ls hl => ?_)
  exact B_X1_describe_10 (p1 := p1) C0 xF (0 : Int32) (0 : Int32) (0 : Int32) (0 : Int32) v_od v_op v_oi v_ov v_ow H locs ls hP hD hS (lv_sub hl [4, 5, 3, 2, 1, 0] rfl) hB
set_option maxHeartbeats 4000000 in
set_option maxRecDepth 100000 in
theorem c_X1_describe (l : Launch) (D : va_G) (y : Nat → ClassId) (a_o : Nat) (a_od : Nat) (a_op : Nat) (a_oi : Nat) (a_ov : Nat) (a_of : Nat) (a_ol : Nat) (a_om : Nat) (a_ow : Nat) (lm_o : Nat) (ll_o : Nat) (ln_o : Nat) (f_o_n : Int32) (f_o_many : Int32) (f_o_sets : Int32) (v_od : Nat → Int32) (v_op : Nat → Int32) (v_oi : Nat → Int32) (v_ov : Nat → Int32) (v_ol : Nat → Int32) (v_ow : Nat → Int32) (p1 : Int32) (sz : Nat) {R : (Nat → Int32) × (Nat → Int32) × (Nat → Int32) × (Nat → Int32) × (Nat → Int32)} (hF : F_X1_describe lm_o ll_o ln_o f_o_n v_ol p1 v_od v_op v_oi v_ov v_ow = some R) : Met l yX1_describe wsX1_describe ({ frames := 2, cells := 0, slots := 0, locals := 47 } : Room) (xPre D y sz [.ref a_o, .int p1] [(a_o, .inr (1, [.int f_o_n, .int f_o_many, .int f_o_sets, .ref a_od, .ref a_op, .ref a_oi, .ref a_ov, .ref a_of, .ref a_ol, .ref a_om, .ref a_ow])), (a_od, .inl (y 0, lm_o, .inl v_od)), (a_op, .inl (y 0, lm_o, .inl v_op)), (a_oi, .inl (y 0, lm_o, .inl v_oi)), (a_ov, .inl (y 0, lm_o, .inl v_ov)), (a_ol, .inl (y 0, ll_o, .inl v_ol)), (a_ow, .inl (y 0, ln_o, .inl v_ow))]) (va_Qv (fun (_ : Unit) => True) (xB D y (va_A [(a_o, .inr (1, [.int f_o_n, .int f_o_many, .int f_o_sets, .ref a_od, .ref a_op, .ref a_oi, .ref a_ov, .ref a_of, .ref a_ol, .ref a_om, .ref a_ow])), (a_od, .inl (y 0, lm_o, .inl v_od)), (a_op, .inl (y 0, lm_o, .inl v_op)), (a_oi, .inl (y 0, lm_o, .inl v_oi)), (a_ov, .inl (y 0, lm_o, .inl v_ov)), (a_ol, .inl (y 0, ll_o, .inl v_ol)), (a_ow, .inl (y 0, ln_o, .inl v_ow))] sz) [(a_o, .inr (1, [.int f_o_n, .int f_o_many, .int f_o_sets, .ref a_od, .ref a_op, .ref a_oi, .ref a_ov, .ref a_of, .ref a_ol, .ref a_om, .ref a_ow])), (a_od, .inl (y 0, lm_o, .inl R.1)), (a_op, .inl (y 0, lm_o, .inl R.2.1)), (a_oi, .inl (y 0, lm_o, .inl R.2.2.1)), (a_ov, .inl (y 0, lm_o, .inl R.2.2.2.1)), (a_ol, .inl (y 0, ll_o, .inl v_ol)), (a_ow, .inl (y 0, ln_o, .inl R.2.2.2.2))]) (va_A [(a_o, .inr (1, [.int f_o_n, .int f_o_many, .int f_o_sets, .ref a_od, .ref a_op, .ref a_oi, .ref a_ov, .ref a_of, .ref a_ol, .ref a_om, .ref a_ow])), (a_od, .inl (y 0, lm_o, .inl v_od)), (a_op, .inl (y 0, lm_o, .inl v_op)), (a_oi, .inl (y 0, lm_o, .inl v_oi)), (a_ov, .inl (y 0, lm_o, .inl v_ov)), (a_ol, .inl (y 0, ll_o, .inl v_ol)), (a_ow, .inl (y 0, ln_o, .inl v_ow))] sz)) 0 0 (va_A [(a_o, .inr (1, [.int f_o_n, .int f_o_many, .int f_o_sets, .ref a_od, .ref a_op, .ref a_oi, .ref a_ov, .ref a_of, .ref a_ol, .ref a_om, .ref a_ow])), (a_od, .inl (y 0, lm_o, .inl v_od)), (a_op, .inl (y 0, lm_o, .inl v_op)), (a_oi, .inl (y 0, lm_o, .inl v_oi)), (a_ov, .inl (y 0, lm_o, .inl v_ov)), (a_ol, .inl (y 0, ll_o, .inl v_ol)), (a_ow, .inl (y 0, ln_o, .inl v_ow))] sz) := by
  refine Met.ofW (cc := cX1_describe) (maxL := 6) (ret := none) (by decide) rfl ?_
  intro p e s m args below meth c s₁ B hml hv
  obtain ⟨rfl, hsz, hP, hK, hD0⟩ := hv
  subst hsz
  have hD := hD0.self (sz := s.heap.size)
  have C : xC p s m [.ref a_o, .int p1].toArray meth c (va_A [(a_o, .inr (1, [.int f_o_n, .int f_o_many, .int f_o_sets, .ref a_od, .ref a_op, .ref a_oi, .ref a_ov, .ref a_of, .ref a_ol, .ref a_om, .ref a_ow])), (a_od, .inl (y 0, lm_o, .inl v_od)), (a_op, .inl (y 0, lm_o, .inl v_op)), (a_oi, .inl (y 0, lm_o, .inl v_oi)), (a_ov, .inl (y 0, lm_o, .inl v_ov)), (a_ol, .inl (y 0, ll_o, .inl v_ol)), (a_ow, .inl (y 0, ln_o, .inl v_ow))] s.heap.size) cX1_describe RX1 wsX1_describe 6 none D y := ⟨B.exec, B.bytes, hml, findClass_of_methodNamed B.named, atoms_spec (ws := wsX1_describe) B.pre, B.returns, B.notSynchronized, hK, fun q h => Or.inr h⟩
  have hl := lv_entry ([.ref a_o, .int p1]) (n := 6) (Nat.le_of_ble_eq_true rfl)
  rw [lg_entry_eq]
  generalize (lg_sl ([.ref a_o, .int p1]) ++ List.replicate (6 - (lg_sl ([.ref a_o, .int p1])).length) Slot.unset).toArray = ls at hl ⊢
  have hl : lv_has ls 6 [(0, .ref a_o), (1, .int p1)] := hl
  exact B_X1_describe_0 (p1 := p1) C v_od v_op v_oi v_ov v_ow s.heap [] ls hP hD va_S.rf hl hF
theorem kX1_withExchanged_f7 : Cond.fieldLink RX1 7 "DescentShuffles$Orders" "n" "I" ∈ wsX1_withExchanged := by decide +kernel
theorem kX1_withExchanged_wX1 : ∀ w ∈ u_ws RX1 TX1 11, w ∈ wsX1_withExchanged := by decide +kernel
theorem kX1_withExchanged_f41 : Cond.fieldLink RX1 41 "DescentShuffles$Orders" "row" "[I" ∈ wsX1_withExchanged := by decide +kernel
def S_X1_withExchanged_2 (p : Program) (l : Launch) (e : Env) (s : State) (m : MethodId) (args : Array Value) (below : List Frame) (meth : Method) (c : Code) (A : Nat → Prop) (D : va_G) (y : Nat → ClassId) (a_o : Nat) (a_od : Nat) (a_op : Nat) (a_oi : Nat) (a_ov : Nat) (a_of : Nat) (a_ol : Nat) (a_om : Nat) (a_ow : Nat) (ll_o : Nat) (ln_o : Nat) (f_o_n : Int32) (f_o_many : Int32) (f_o_sets : Int32) (v_ol : Nat → Int32) (p1 : Int32) (p2 : Int32) (R : Int32 × (Nat → Int32)) (κ : Int32 → (Nat → Int32) → Option (Int32 × (Nat → Int32))) : Prop := ∀ (x3 : Int32) (v_ow : Nat → Int32) (H : Heap) (locs : List Loc) (ls : Array Slot), va_P D vwCl [(a_o, .inr (1, [.int f_o_n, .int f_o_many, .int f_o_sets, .ref a_od, .ref a_op, .ref a_oi, .ref a_ov, .ref a_of, .ref a_ol, .ref a_om, .ref a_ow])), (a_ol, .inl (y 0, ll_o, .inl v_ol)), (a_ow, .inl (y 0, ln_o, .inl v_ow))] H → va_D A [(a_o, .inr (1, [.int f_o_n, .int f_o_many, .int f_o_sets, .ref a_od, .ref a_op, .ref a_oi, .ref a_ov, .ref a_of, .ref a_ol, .ref a_om, .ref a_ow])), (a_ol, .inl (y 0, ll_o, .inl v_ol)), (a_ow, .inl (y 0, ln_o, .inl v_ow))] → va_S A s.heap H locs → lv_has ls 4 [(0, .ref a_o), (1, .int p1), (2, .int p2), (3, .int x3)] → κ x3 v_ow = some R → W p l e ({ frames := 2, cells := 0, slots := 0, locals := 47 } : Room) s m args below meth c H locs 0 0 (MQ below (va_Qi (fun (r : Int32) (_ : Unit) => r = R.1) (xB D y A [(a_o, .inr (1, [.int f_o_n, .int f_o_many, .int f_o_sets, .ref a_od, .ref a_op, .ref a_oi, .ref a_ov, .ref a_of, .ref a_ol, .ref a_om, .ref a_ow])), (a_ol, .inl (y 0, ll_o, .inl v_ol)), (a_ow, .inl (y 0, ln_o, .inl R.2))]) A) args s 0 0 A) (F0 m 2 ls [])
def S_X1_withExchanged_0 (p : Program) (l : Launch) (e : Env) (s : State) (m : MethodId) (args : Array Value) (below : List Frame) (meth : Method) (c : Code) (A : Nat → Prop) (D : va_G) (y : Nat → ClassId) (a_o : Nat) (a_od : Nat) (a_op : Nat) (a_oi : Nat) (a_ov : Nat) (a_of : Nat) (a_ol : Nat) (a_om : Nat) (a_ow : Nat) (ll_o : Nat) (ln_o : Nat) (f_o_n : Int32) (f_o_many : Int32) (f_o_sets : Int32) (v_ol : Nat → Int32) (p1 : Int32) (p2 : Int32) (R : Int32 × (Nat → Int32)) (κ : (Nat → Int32) → Option (Int32 × (Nat → Int32))) : Prop := ∀ (v_ow : Nat → Int32) (H : Heap) (locs : List Loc) (ls : Array Slot), va_P D vwCl [(a_o, .inr (1, [.int f_o_n, .int f_o_many, .int f_o_sets, .ref a_od, .ref a_op, .ref a_oi, .ref a_ov, .ref a_of, .ref a_ol, .ref a_om, .ref a_ow])), (a_ol, .inl (y 0, ll_o, .inl v_ol)), (a_ow, .inl (y 0, ln_o, .inl v_ow))] H → va_D A [(a_o, .inr (1, [.int f_o_n, .int f_o_many, .int f_o_sets, .ref a_od, .ref a_op, .ref a_oi, .ref a_ov, .ref a_of, .ref a_ol, .ref a_om, .ref a_ow])), (a_ol, .inl (y 0, ll_o, .inl v_ol)), (a_ow, .inl (y 0, ln_o, .inl v_ow))] → va_S A s.heap H locs → lv_has ls 4 [(0, .ref a_o), (1, .int p1), (2, .int p2)] → κ v_ow = some R → W p l e ({ frames := 2, cells := 0, slots := 0, locals := 47 } : Room) s m args below meth c H locs 0 0 (MQ below (va_Qi (fun (r : Int32) (_ : Unit) => r = R.1) (xB D y A [(a_o, .inr (1, [.int f_o_n, .int f_o_many, .int f_o_sets, .ref a_od, .ref a_op, .ref a_oi, .ref a_ov, .ref a_of, .ref a_ol, .ref a_om, .ref a_ow])), (a_ol, .inl (y 0, ll_o, .inl v_ol)), (a_ow, .inl (y 0, ln_o, .inl R.2))]) A) args s 0 0 A) (F0 m 0 ls [])
set_option maxHeartbeats 4000000 in
set_option maxRecDepth 100000 in
theorem B_X1_withExchanged_2 {p : Program} {l : Launch} {e : Env} {s : State} {m : MethodId} {args : Array Value} {below : List Frame} {meth : Method} {c : Code} {A : Nat → Prop} {D : va_G} {y : Nat → ClassId} {a_o : Nat} {a_od : Nat} {a_op : Nat} {a_oi : Nat} {a_ov : Nat} {a_of : Nat} {a_ol : Nat} {a_om : Nat} {a_ow : Nat} {ll_o : Nat} {ln_o : Nat} {f_o_n : Int32} {f_o_many : Int32} {f_o_sets : Int32} {v_ol : Nat → Int32} {p1 : Int32} {p2 : Int32} {R : Int32 × (Nat → Int32)} (C : xC p s m args meth c A cX1_withExchanged RX1 wsX1_withExchanged 4 (some .int) D y)  : ∀ f : Nat, S_X1_withExchanged_2 p l e s m args below meth c A D y a_o a_od a_op a_oi a_ov a_of a_ol a_om a_ow ll_o ln_o f_o_n f_o_many f_o_sets v_ol p1 p2 R (F_X1_withExchanged_2 ll_o ln_o f_o_n v_ol p1 p2  f) := by
  have C0 := C
  obtain ⟨hx, hb, hml, hown, hts, hr, hlocks, hK, hA⟩ := C
  intro f
  induction f with
  | zero =>
    intro x3 v_ow H locs ls hP hD hS hl hB
    rw [Z_X1_withExchanged_2] at hB
    cases hB
  | succ f ih =>
    intro x3 v_ow H locs ls hP hD hS hl hB
    rw [E_X1_withExchanged_2] at hB
    refine lv_iload_n hx hb dX1_withExchanged_2 rfl (lv_at hl 3 rfl) ?_
    refine lv_aload_n hx hb dX1_withExchanged_3 rfl (lv_at hl 0 rfl) ?_
    refine va_get (D := D) (ci := 1) (v := .int f_o_n) (C := RX1) (T := TX1) (N := 11) hx hb hts kX1_withExchanged_wX1 hown hK hP 0 rfl rfl 0 (by decide) (hts _ kX1_withExchanged_f7) (fun _ h9 => h9) rfl dX1_withExchanged_4 ?_
    refine lv_icmp_ge (tgt := 28) hx hb dX1_withExchanged_7 (by decide) (fun c1 => ?_) (fun c1 => ?_)
    · have hB := xip c1 hB
      refine lv_aload_n hx hb dX1_withExchanged_28 rfl (lv_at hl 0 rfl) ?_
      refine va_get (D := D) (ci := 1) (v := .ref a_ow) (C := RX1) (T := TX1) (N := 11) hx hb hts kX1_withExchanged_wX1 hown hK hP 0 rfl rfl 10 (by decide) (hts _ kX1_withExchanged_f41) (fun _ h9 => h9) rfl dX1_withExchanged_29 ?_
      refine lv_iload_n hx hb dX1_withExchanged_32 rfl (lv_at hl 2 rfl) ?_
      refine lv_aload_n hx hb dX1_withExchanged_33 rfl (lv_at hl 0 rfl) ?_
      refine lv_iload_n hx hb dX1_withExchanged_34 rfl (lv_at hl 1 rfl) ?_
      refine lv_iload_n hx hb dX1_withExchanged_35 rfl (lv_at hl 2 rfl) ?_
      refine lv_iconst (v := 1) hx hb dX1_withExchanged_36 (by decide) ?_
      refine lv_iadd hx hb dX1_withExchanged_37 ?_
      obtain ⟨q2, e2, hB⟩ := xbd hB
      have hPc := hP.sub (ws' := [(a_o, .inr (1, [.int f_o_n, .int f_o_many, .int f_o_sets, .ref a_od, .ref a_op, .ref a_oi, .ref a_ov, .ref a_of, .ref a_ol, .ref a_om, .ref a_ow])), (a_ol, .inl (y 0, ll_o, .inl v_ol))]) [0, 1] rfl
      have hDc := hD.sub (ws' := [(a_o, .inr (1, [.int f_o_n, .int f_o_many, .int f_o_sets, .ref a_od, .ref a_op, .ref a_oi, .ref a_ov, .ref a_of, .ref a_ol, .ref a_om, .ref a_ow])), (a_ol, .inl (y 0, ll_o, .inl v_ol))]) [0, 1] (by decide) rfl
      refine xcalli (mc := 0) (ms := 0) (rv := q2) (wc := [(a_o, .inr (1, [.int f_o_n, .int f_o_many, .int f_o_sets, .ref a_od, .ref a_op, .ref a_oi, .ref a_ov, .ref a_of, .ref a_ol, .ref a_om, .ref a_ow])), (a_ol, .inl (y 0, ll_o, .inl v_ol))]) (wr := [(a_ow, .inl (y 0, ln_o, .inl v_ow))]) (w1 := [(a_o, .inr (1, [.int f_o_n, .int f_o_many, .int f_o_sets, .ref a_od, .ref a_op, .ref a_oi, .ref a_ov, .ref a_of, .ref a_ol, .ref a_om, .ref a_ow])), (a_ol, .inl (y 0, ll_o, .inl v_ol))]) (wf := [(a_o, .inr (1, [.int f_o_n, .int f_o_many, .int f_o_sets, .ref a_od, .ref a_op, .ref a_oi, .ref a_ov, .ref a_of, .ref a_ol, .ref a_om, .ref a_ow])), (a_ol, .inl (y 0, ll_o, .inl v_ol)), (a_ow, .inl (y 0, ln_o, .inl v_ow))]) (va_runV (As := [.int p1, .int (p2 + (1 : Int32))]) (rest := [.int p2, .ref a_ow]) ⟨hx, hb, hml, hown, hts⟩ (c_X1_letterAt l D y a_o a_od a_op a_oi a_ov a_of a_ol a_om a_ow ll_o f_o_n f_o_many f_o_sets v_ol p1 (p2 + (1 : Int32)) H.size e2) (cwV 2 hts gX1_withExchanged_X1_letterAt rfl rfl rfl (by decide +kernel) ⟨Nat.le_of_ble_eq_true rfl, Nat.le_of_ble_eq_true rfl⟩) ⟨xblind, va_recv hK hP (ci := 1) (q0 := 0) rfl rfl, xprev hPc hK hDc⟩ rfl rfl hl.1 rfl (lv_room (Nat.le_of_ble_eq_true rfl)) dX1_withExchanged_38 ⟨Nat.le_of_ble_eq_true rfl, Nat.le_of_ble_eq_true rfl⟩) hP hD hS hA [0, 1] [2] [1, 2, 0] rfl rfl (by decide) (by decide) rfl (by decide) (fun H locs hP hD hS => ?_)
      obtain ⟨g3, hB⟩ := xg_some hB
      refine va_iast hx hb hK hP hD hS 2 0 rfl rfl g3 dX1_withExchanged_41 (fun H locs hP hD hS => ?_)
      have hP : va_P D vwCl [(a_o, .inr (1, [.int f_o_n, .int f_o_many, .int f_o_sets, .ref a_od, .ref a_op, .ref a_oi, .ref a_ov, .ref a_of, .ref a_ol, .ref a_om, .ref a_ow])), (a_ol, .inl (y 0, ll_o, .inl v_ol)), (a_ow, .inl (y 0, ln_o, .inl (upd v_ow p2.toNatClampNeg q2)))] H := hP
      have hD : va_D A [(a_o, .inr (1, [.int f_o_n, .int f_o_many, .int f_o_sets, .ref a_od, .ref a_op, .ref a_oi, .ref a_ov, .ref a_of, .ref a_ol, .ref a_om, .ref a_ow])), (a_ol, .inl (y 0, ll_o, .inl v_ol)), (a_ow, .inl (y 0, ln_o, .inl (upd v_ow p2.toNatClampNeg q2)))] := hD
      refine lv_aload_n hx hb dX1_withExchanged_42 rfl (lv_at hl 0 rfl) ?_
      refine va_get (D := D) (ci := 1) (v := .ref a_ow) (C := RX1) (T := TX1) (N := 11) hx hb hts kX1_withExchanged_wX1 hown hK hP 0 rfl rfl 10 (by decide) (hts _ kX1_withExchanged_f41) (fun _ h9 => h9) rfl dX1_withExchanged_43 ?_
      refine lv_iload_n hx hb dX1_withExchanged_46 rfl (lv_at hl 2 rfl) ?_
      refine lv_iconst (v := 1) hx hb dX1_withExchanged_47 (by decide) ?_
      refine lv_iadd hx hb dX1_withExchanged_48 ?_
      refine lv_aload_n hx hb dX1_withExchanged_49 rfl (lv_at hl 0 rfl) ?_
      refine lv_iload_n hx hb dX1_withExchanged_50 rfl (lv_at hl 1 rfl) ?_
      refine lv_iload_n hx hb dX1_withExchanged_51 rfl (lv_at hl 2 rfl) ?_
      obtain ⟨q4, e4, hB⟩ := xbd hB
      have hPc := hP.sub (ws' := [(a_o, .inr (1, [.int f_o_n, .int f_o_many, .int f_o_sets, .ref a_od, .ref a_op, .ref a_oi, .ref a_ov, .ref a_of, .ref a_ol, .ref a_om, .ref a_ow])), (a_ol, .inl (y 0, ll_o, .inl v_ol))]) [0, 1] rfl
      have hDc := hD.sub (ws' := [(a_o, .inr (1, [.int f_o_n, .int f_o_many, .int f_o_sets, .ref a_od, .ref a_op, .ref a_oi, .ref a_ov, .ref a_of, .ref a_ol, .ref a_om, .ref a_ow])), (a_ol, .inl (y 0, ll_o, .inl v_ol))]) [0, 1] (by decide) rfl
      refine xcalli (mc := 0) (ms := 0) (rv := q4) (wc := [(a_o, .inr (1, [.int f_o_n, .int f_o_many, .int f_o_sets, .ref a_od, .ref a_op, .ref a_oi, .ref a_ov, .ref a_of, .ref a_ol, .ref a_om, .ref a_ow])), (a_ol, .inl (y 0, ll_o, .inl v_ol))]) (wr := [(a_ow, .inl (y 0, ln_o, .inl (upd v_ow p2.toNatClampNeg q2)))]) (w1 := [(a_o, .inr (1, [.int f_o_n, .int f_o_many, .int f_o_sets, .ref a_od, .ref a_op, .ref a_oi, .ref a_ov, .ref a_of, .ref a_ol, .ref a_om, .ref a_ow])), (a_ol, .inl (y 0, ll_o, .inl v_ol))]) (wf := [(a_o, .inr (1, [.int f_o_n, .int f_o_many, .int f_o_sets, .ref a_od, .ref a_op, .ref a_oi, .ref a_ov, .ref a_of, .ref a_ol, .ref a_om, .ref a_ow])), (a_ol, .inl (y 0, ll_o, .inl v_ol)), (a_ow, .inl (y 0, ln_o, .inl (upd v_ow p2.toNatClampNeg q2)))]) (va_runV (As := [.int p1, .int p2]) (rest := [.int (p2 + (1 : Int32)), .ref a_ow]) ⟨hx, hb, hml, hown, hts⟩ (c_X1_letterAt l D y a_o a_od a_op a_oi a_ov a_of a_ol a_om a_ow ll_o f_o_n f_o_many f_o_sets v_ol p1 p2 H.size e4) (cwV 2 hts gX1_withExchanged_X1_letterAt rfl rfl rfl (by decide +kernel) ⟨Nat.le_of_ble_eq_true rfl, Nat.le_of_ble_eq_true rfl⟩) ⟨xblind, va_recv hK hP (ci := 1) (q0 := 0) rfl rfl, xprev hPc hK hDc⟩ rfl rfl hl.1 rfl (lv_room (Nat.le_of_ble_eq_true rfl)) dX1_withExchanged_52 ⟨Nat.le_of_ble_eq_true rfl, Nat.le_of_ble_eq_true rfl⟩) hP hD hS hA [0, 1] [2] [1, 2, 0] rfl rfl (by decide) (by decide) rfl (by decide) (fun H locs hP hD hS => ?_)
      obtain ⟨g5, hB⟩ := xg_some hB
      refine va_iast hx hb hK hP hD hS 2 0 rfl rfl g5 dX1_withExchanged_55 (fun H locs hP hD hS => ?_)
      have hP : va_P D vwCl [(a_o, .inr (1, [.int f_o_n, .int f_o_many, .int f_o_sets, .ref a_od, .ref a_op, .ref a_oi, .ref a_ov, .ref a_of, .ref a_ol, .ref a_om, .ref a_ow])), (a_ol, .inl (y 0, ll_o, .inl v_ol)), (a_ow, .inl (y 0, ln_o, .inl (upd (upd v_ow p2.toNatClampNeg q2) (p2 + (1 : Int32)).toNatClampNeg q4)))] H := hP
      have hD : va_D A [(a_o, .inr (1, [.int f_o_n, .int f_o_many, .int f_o_sets, .ref a_od, .ref a_op, .ref a_oi, .ref a_ov, .ref a_of, .ref a_ol, .ref a_om, .ref a_ow])), (a_ol, .inl (y 0, ll_o, .inl v_ol)), (a_ow, .inl (y 0, ln_o, .inl (upd (upd v_ow p2.toNatClampNeg q2) (p2 + (1 : Int32)).toNatClampNeg q4)))] := hD
      refine lv_aload_n hx hb dX1_withExchanged_56 rfl (lv_at hl 0 rfl) ?_
      refine va_get (D := D) (ci := 1) (v := .ref a_ow) (C := RX1) (T := TX1) (N := 11) hx hb hts kX1_withExchanged_wX1 hown hK hP 0 rfl rfl 10 (by decide) (hts _ kX1_withExchanged_f41) (fun _ h9 => h9) rfl dX1_withExchanged_57 ?_
      refine lv_aload_n hx hb dX1_withExchanged_60 rfl (lv_at hl 0 rfl) ?_
      refine va_get (D := D) (ci := 1) (v := .int f_o_n) (C := RX1) (T := TX1) (N := 11) hx hb hts kX1_withExchanged_wX1 hown hK hP 0 rfl rfl 0 (by decide) (hts _ kX1_withExchanged_f7) (fun _ h9 => h9) rfl dX1_withExchanged_61 ?_
      obtain ⟨q6, e6, hB⟩ := xbd hB
      have hPc := hP.sub (ws' := [(a_ow, .inl (y 0, ln_o, .inl (upd (upd v_ow p2.toNatClampNeg q2) (p2 + (1 : Int32)).toNatClampNeg q4)))]) [2] rfl
      have hDc := hD.sub (ws' := [(a_ow, .inl (y 0, ln_o, .inl (upd (upd v_ow p2.toNatClampNeg q2) (p2 + (1 : Int32)).toNatClampNeg q4)))]) [2] (by decide) rfl
      refine xcalli (mc := 0) (ms := 0) (rv := q6) (wc := [(a_ow, .inl (y 0, ln_o, .inl (upd (upd v_ow p2.toNatClampNeg q2) (p2 + (1 : Int32)).toNatClampNeg q4)))]) (wr := [(a_o, .inr (1, [.int f_o_n, .int f_o_many, .int f_o_sets, .ref a_od, .ref a_op, .ref a_oi, .ref a_ov, .ref a_of, .ref a_ol, .ref a_om, .ref a_ow])), (a_ol, .inl (y 0, ll_o, .inl v_ol))]) (w1 := [(a_ow, .inl (y 0, ln_o, .inl (upd (upd v_ow p2.toNatClampNeg q2) (p2 + (1 : Int32)).toNatClampNeg q4)))]) (wf := [(a_o, .inr (1, [.int f_o_n, .int f_o_many, .int f_o_sets, .ref a_od, .ref a_op, .ref a_oi, .ref a_ov, .ref a_of, .ref a_ol, .ref a_om, .ref a_ow])), (a_ol, .inl (y 0, ll_o, .inl v_ol)), (a_ow, .inl (y 0, ln_o, .inl (upd (upd v_ow p2.toNatClampNeg q2) (p2 + (1 : Int32)).toNatClampNeg q4)))]) (va_runS (As := [.ref a_ow, .int f_o_n]) (rest := []) ⟨hx, hb, hml, hown, hts⟩ (c_X1_numberOf l D y a_ow ln_o (upd (upd v_ow p2.toNatClampNeg q2) (p2 + (1 : Int32)).toNatClampNeg q4) f_o_n H.size e6) (va_cwS 2 hts gX1_withExchanged_X1_numberOf rfl rfl rfl (by decide +kernel) ⟨Nat.le_of_ble_eq_true rfl, Nat.le_of_ble_eq_true rfl⟩) ⟨xblind, xprev hPc hK hDc⟩ rfl rfl hl.1 rfl (lv_room (Nat.le_of_ble_eq_true rfl)) dX1_withExchanged_64 ⟨Nat.le_of_ble_eq_true rfl, Nat.le_of_ble_eq_true rfl⟩) hP hD hS hA [2] [0, 1] [0, 1, 2] rfl rfl (by decide) (by decide) rfl (by decide) (fun H locs hP hD hS => ?_)
      have hB := Option.some.inj hB
      subst hB
      exact W.iret hx hb hr (fun t ht hW => ⟨⟨_, (), rfl, rfl, by rw [ht]; exact hP, va_K.moved hW.alike hK, hD⟩, hS.F ht⟩) hS.2.2 dX1_withExchanged_67 hlocks
    · have hB := xin c1 hB
      refine lv_aload_n hx hb dX1_withExchanged_10 rfl (lv_at hl 0 rfl) ?_
      refine va_get (D := D) (ci := 1) (v := .ref a_ow) (C := RX1) (T := TX1) (N := 11) hx hb hts kX1_withExchanged_wX1 hown hK hP 0 rfl rfl 10 (by decide) (hts _ kX1_withExchanged_f41) (fun _ h9 => h9) rfl dX1_withExchanged_11 ?_
      refine lv_iload_n hx hb dX1_withExchanged_14 rfl (lv_at hl 3 rfl) ?_
      refine lv_aload_n hx hb dX1_withExchanged_15 rfl (lv_at hl 0 rfl) ?_
      refine lv_iload_n hx hb dX1_withExchanged_16 rfl (lv_at hl 1 rfl) ?_
      refine lv_iload_n hx hb dX1_withExchanged_17 rfl (lv_at hl 3 rfl) ?_
      obtain ⟨q7, e7, hB⟩ := xbd hB
      have hPc := hP.sub (ws' := [(a_o, .inr (1, [.int f_o_n, .int f_o_many, .int f_o_sets, .ref a_od, .ref a_op, .ref a_oi, .ref a_ov, .ref a_of, .ref a_ol, .ref a_om, .ref a_ow])), (a_ol, .inl (y 0, ll_o, .inl v_ol))]) [0, 1] rfl
      have hDc := hD.sub (ws' := [(a_o, .inr (1, [.int f_o_n, .int f_o_many, .int f_o_sets, .ref a_od, .ref a_op, .ref a_oi, .ref a_ov, .ref a_of, .ref a_ol, .ref a_om, .ref a_ow])), (a_ol, .inl (y 0, ll_o, .inl v_ol))]) [0, 1] (by decide) rfl
      refine xcalli (mc := 0) (ms := 0) (rv := q7) (wc := [(a_o, .inr (1, [.int f_o_n, .int f_o_many, .int f_o_sets, .ref a_od, .ref a_op, .ref a_oi, .ref a_ov, .ref a_of, .ref a_ol, .ref a_om, .ref a_ow])), (a_ol, .inl (y 0, ll_o, .inl v_ol))]) (wr := [(a_ow, .inl (y 0, ln_o, .inl v_ow))]) (w1 := [(a_o, .inr (1, [.int f_o_n, .int f_o_many, .int f_o_sets, .ref a_od, .ref a_op, .ref a_oi, .ref a_ov, .ref a_of, .ref a_ol, .ref a_om, .ref a_ow])), (a_ol, .inl (y 0, ll_o, .inl v_ol))]) (wf := [(a_o, .inr (1, [.int f_o_n, .int f_o_many, .int f_o_sets, .ref a_od, .ref a_op, .ref a_oi, .ref a_ov, .ref a_of, .ref a_ol, .ref a_om, .ref a_ow])), (a_ol, .inl (y 0, ll_o, .inl v_ol)), (a_ow, .inl (y 0, ln_o, .inl v_ow))]) (va_runV (As := [.int p1, .int x3]) (rest := [.int x3, .ref a_ow]) ⟨hx, hb, hml, hown, hts⟩ (c_X1_letterAt l D y a_o a_od a_op a_oi a_ov a_of a_ol a_om a_ow ll_o f_o_n f_o_many f_o_sets v_ol p1 x3 H.size e7) (cwV 2 hts gX1_withExchanged_X1_letterAt rfl rfl rfl (by decide +kernel) ⟨Nat.le_of_ble_eq_true rfl, Nat.le_of_ble_eq_true rfl⟩) ⟨xblind, va_recv hK hP (ci := 1) (q0 := 0) rfl rfl, xprev hPc hK hDc⟩ rfl rfl hl.1 rfl (lv_room (Nat.le_of_ble_eq_true rfl)) dX1_withExchanged_18 ⟨Nat.le_of_ble_eq_true rfl, Nat.le_of_ble_eq_true rfl⟩) hP hD hS hA [0, 1] [2] [1, 2, 0] rfl rfl (by decide) (by decide) rfl (by decide) (fun H locs hP hD hS => ?_)
      obtain ⟨g8, hB⟩ := xg_some hB
      refine va_iast hx hb hK hP hD hS 2 0 rfl rfl g8 dX1_withExchanged_21 (fun H locs hP hD hS => ?_)
      have hP : va_P D vwCl [(a_o, .inr (1, [.int f_o_n, .int f_o_many, .int f_o_sets, .ref a_od, .ref a_op, .ref a_oi, .ref a_ov, .ref a_of, .ref a_ol, .ref a_om, .ref a_ow])), (a_ol, .inl (y 0, ll_o, .inl v_ol)), (a_ow, .inl (y 0, ln_o, .inl (upd v_ow x3.toNatClampNeg q7)))] H := hP
      have hD : va_D A [(a_o, .inr (1, [.int f_o_n, .int f_o_many, .int f_o_sets, .ref a_od, .ref a_op, .ref a_oi, .ref a_ov, .ref a_of, .ref a_ol, .ref a_om, .ref a_ow])), (a_ol, .inl (y 0, ll_o, .inl v_ol)), (a_ow, .inl (y 0, ln_o, .inl (upd v_ow x3.toNatClampNeg q7)))] := hD
      refine lv_iinc (v := x3 + 1) (lv' := [(3, .int (x3 + 1)), (0, .ref a_o), (1, .int p1), (2, .int p2)]) hx hb dX1_withExchanged_22 hl (k := 3) rfl rfl (by decide) rfl (fun ls hl => ?_)
      refine lv_goto (tgt := 2) hx hb dX1_withExchanged_25 (by decide) ?_
      exact ih (x3 + 1) (upd v_ow x3.toNatClampNeg q7) H locs ls hP hD hS (lv_sub hl [1, 2, 3, 0] rfl) hB
set_option maxHeartbeats 4000000 in
set_option maxRecDepth 100000 in
theorem B_X1_withExchanged_0 {p : Program} {l : Launch} {e : Env} {s : State} {m : MethodId} {args : Array Value} {below : List Frame} {meth : Method} {c : Code} {A : Nat → Prop} {D : va_G} {y : Nat → ClassId} {a_o : Nat} {a_od : Nat} {a_op : Nat} {a_oi : Nat} {a_ov : Nat} {a_of : Nat} {a_ol : Nat} {a_om : Nat} {a_ow : Nat} {ll_o : Nat} {ln_o : Nat} {f_o_n : Int32} {f_o_many : Int32} {f_o_sets : Int32} {v_ol : Nat → Int32} {p1 : Int32} {p2 : Int32} {R : Int32 × (Nat → Int32)} (C : xC p s m args meth c A cX1_withExchanged RX1 wsX1_withExchanged 4 (some .int) D y)  : S_X1_withExchanged_0 p l e s m args below meth c A D y a_o a_od a_op a_oi a_ov a_of a_ol a_om a_ow ll_o ln_o f_o_n f_o_many f_o_sets v_ol p1 p2 R (F_X1_withExchanged ll_o ln_o f_o_n v_ol p1 p2 ) := by
  have C0 := C
  obtain ⟨hx, hb, hml, hown, hts, hr, hlocks, hK, hA⟩ := C
  intro v_ow H locs ls hP hD hS hl hB
  unfold F_X1_withExchanged at hB
  refine lv_iconst (v := 0) hx hb dX1_withExchanged_0 (by decide) ?_
  refine lv_istore_n (lv' := [(3, .int (0 : Int32)), (0, .ref a_o), (1, .int p1), (2, .int p2)]) hx hb dX1_withExchanged_1 rfl hl (by decide) rfl (fun ls hl => ?_)
  exact B_X1_withExchanged_2 (p1 := p1) (p2 := p2) C0 xF (0 : Int32) v_ow H locs ls hP hD hS (lv_sub hl [1, 2, 3, 0] rfl) hB
set_option maxHeartbeats 4000000 in
set_option maxRecDepth 100000 in
theorem c_X1_withExchanged (l : Launch) (D : va_G) (y : Nat → ClassId) (a_o : Nat) (a_od : Nat) (a_op : Nat) (a_oi : Nat) (a_ov : Nat) (a_of : Nat) (a_ol : Nat) (a_om : Nat) (a_ow : Nat) (ll_o : Nat) (ln_o : Nat) (f_o_n : Int32) (f_o_many : Int32) (f_o_sets : Int32) (v_ol : Nat → Int32) (v_ow : Nat → Int32) (p1 : Int32) (p2 : Int32) (sz : Nat) {R : Int32 × (Nat → Int32)} (hF : F_X1_withExchanged ll_o ln_o f_o_n v_ol p1 p2 v_ow = some R) : Met l yX1_withExchanged wsX1_withExchanged ({ frames := 2, cells := 0, slots := 0, locals := 47 } : Room) (xPre D y sz [.ref a_o, .int p1, .int p2] [(a_o, .inr (1, [.int f_o_n, .int f_o_many, .int f_o_sets, .ref a_od, .ref a_op, .ref a_oi, .ref a_ov, .ref a_of, .ref a_ol, .ref a_om, .ref a_ow])), (a_ol, .inl (y 0, ll_o, .inl v_ol)), (a_ow, .inl (y 0, ln_o, .inl v_ow))]) (va_Qi (fun (r : Int32) (_ : Unit) => r = R.1) (xB D y (va_A [(a_o, .inr (1, [.int f_o_n, .int f_o_many, .int f_o_sets, .ref a_od, .ref a_op, .ref a_oi, .ref a_ov, .ref a_of, .ref a_ol, .ref a_om, .ref a_ow])), (a_ol, .inl (y 0, ll_o, .inl v_ol)), (a_ow, .inl (y 0, ln_o, .inl v_ow))] sz) [(a_o, .inr (1, [.int f_o_n, .int f_o_many, .int f_o_sets, .ref a_od, .ref a_op, .ref a_oi, .ref a_ov, .ref a_of, .ref a_ol, .ref a_om, .ref a_ow])), (a_ol, .inl (y 0, ll_o, .inl v_ol)), (a_ow, .inl (y 0, ln_o, .inl R.2))]) (va_A [(a_o, .inr (1, [.int f_o_n, .int f_o_many, .int f_o_sets, .ref a_od, .ref a_op, .ref a_oi, .ref a_ov, .ref a_of, .ref a_ol, .ref a_om, .ref a_ow])), (a_ol, .inl (y 0, ll_o, .inl v_ol)), (a_ow, .inl (y 0, ln_o, .inl v_ow))] sz)) 0 0 (va_A [(a_o, .inr (1, [.int f_o_n, .int f_o_many, .int f_o_sets, .ref a_od, .ref a_op, .ref a_oi, .ref a_ov, .ref a_of, .ref a_ol, .ref a_om, .ref a_ow])), (a_ol, .inl (y 0, ll_o, .inl v_ol)), (a_ow, .inl (y 0, ln_o, .inl v_ow))] sz) := by
  refine Met.ofW (cc := cX1_withExchanged) (maxL := 4) (ret := (some .int)) (by decide) rfl ?_
  intro p e s m args below meth c s₁ B hml hv
  obtain ⟨rfl, hsz, hP, hK, hD0⟩ := hv
  subst hsz
  have hD := hD0.self (sz := s.heap.size)
  have C : xC p s m [.ref a_o, .int p1, .int p2].toArray meth c (va_A [(a_o, .inr (1, [.int f_o_n, .int f_o_many, .int f_o_sets, .ref a_od, .ref a_op, .ref a_oi, .ref a_ov, .ref a_of, .ref a_ol, .ref a_om, .ref a_ow])), (a_ol, .inl (y 0, ll_o, .inl v_ol)), (a_ow, .inl (y 0, ln_o, .inl v_ow))] s.heap.size) cX1_withExchanged RX1 wsX1_withExchanged 4 (some .int) D y := ⟨B.exec, B.bytes, hml, findClass_of_methodNamed B.named, atoms_spec (ws := wsX1_withExchanged) B.pre, B.returns, B.notSynchronized, hK, fun q h => Or.inr h⟩
  have hl := lv_entry ([.ref a_o, .int p1, .int p2]) (n := 4) (Nat.le_of_ble_eq_true rfl)
  rw [lg_entry_eq]
  generalize (lg_sl ([.ref a_o, .int p1, .int p2]) ++ List.replicate (4 - (lg_sl ([.ref a_o, .int p1, .int p2])).length) Slot.unset).toArray = ls at hl ⊢
  have hl : lv_has ls 4 [(0, .ref a_o), (1, .int p1), (2, .int p2)] := hl
  exact B_X1_withExchanged_0 (p1 := p1) (p2 := p2) C v_ow s.heap [] ls hP hD va_S.rf hl hF
theorem kX1_firstDescent_f7 : Cond.fieldLink RX1 7 "DescentShuffles$Orders" "n" "I" ∈ wsX1_firstDescent := by decide +kernel
theorem kX1_firstDescent_wX1 : ∀ w ∈ u_ws RX1 TX1 11, w ∈ wsX1_firstDescent := by decide +kernel
theorem kX1_firstDescent_f19 : Cond.fieldLink RX1 19 "DescentShuffles$Orders" "descents" "[I" ∈ wsX1_firstDescent := by decide +kernel
def S_X1_firstDescent_2 (p : Program) (l : Launch) (e : Env) (s : State) (m : MethodId) (args : Array Value) (below : List Frame) (meth : Method) (c : Code) (A : Nat → Prop) (D : va_G) (y : Nat → ClassId) (a_o : Nat) (a_od : Nat) (a_op : Nat) (a_oi : Nat) (a_ov : Nat) (a_of : Nat) (a_ol : Nat) (a_om : Nat) (a_ow : Nat) (lm_o : Nat) (f_o_n : Int32) (f_o_many : Int32) (f_o_sets : Int32) (v_od : Nat → Int32) (p1 : Int32) (R : Int32) (κ : Int32 → Option (Int32)) : Prop := ∀ (x2 : Int32) (H : Heap) (locs : List Loc) (ls : Array Slot), va_P D vwCl [(a_o, .inr (1, [.int f_o_n, .int f_o_many, .int f_o_sets, .ref a_od, .ref a_op, .ref a_oi, .ref a_ov, .ref a_of, .ref a_ol, .ref a_om, .ref a_ow])), (a_od, .inl (y 0, lm_o, .inl v_od))] H → va_D A [(a_o, .inr (1, [.int f_o_n, .int f_o_many, .int f_o_sets, .ref a_od, .ref a_op, .ref a_oi, .ref a_ov, .ref a_of, .ref a_ol, .ref a_om, .ref a_ow])), (a_od, .inl (y 0, lm_o, .inl v_od))] → va_S A s.heap H locs → lv_has ls 3 [(0, .ref a_o), (1, .int p1), (2, .int x2)] → κ x2 = some R → W p l e ({ frames := 0, cells := 0, slots := 0, locals := 0 } : Room) s m args below meth c H locs 0 0 (MQ below (va_Qi (fun (r : Int32) (_ : Unit) => r = R) (xB D y A [(a_o, .inr (1, [.int f_o_n, .int f_o_many, .int f_o_sets, .ref a_od, .ref a_op, .ref a_oi, .ref a_ov, .ref a_of, .ref a_ol, .ref a_om, .ref a_ow])), (a_od, .inl (y 0, lm_o, .inl v_od))]) A) args s 0 0 A) (F0 m 2 ls [])
def S_X1_firstDescent_0 (p : Program) (l : Launch) (e : Env) (s : State) (m : MethodId) (args : Array Value) (below : List Frame) (meth : Method) (c : Code) (A : Nat → Prop) (D : va_G) (y : Nat → ClassId) (a_o : Nat) (a_od : Nat) (a_op : Nat) (a_oi : Nat) (a_ov : Nat) (a_of : Nat) (a_ol : Nat) (a_om : Nat) (a_ow : Nat) (lm_o : Nat) (f_o_n : Int32) (f_o_many : Int32) (f_o_sets : Int32) (v_od : Nat → Int32) (p1 : Int32) (R : Int32) (κ : Option (Int32)) : Prop := ∀ (H : Heap) (locs : List Loc) (ls : Array Slot), va_P D vwCl [(a_o, .inr (1, [.int f_o_n, .int f_o_many, .int f_o_sets, .ref a_od, .ref a_op, .ref a_oi, .ref a_ov, .ref a_of, .ref a_ol, .ref a_om, .ref a_ow])), (a_od, .inl (y 0, lm_o, .inl v_od))] H → va_D A [(a_o, .inr (1, [.int f_o_n, .int f_o_many, .int f_o_sets, .ref a_od, .ref a_op, .ref a_oi, .ref a_ov, .ref a_of, .ref a_ol, .ref a_om, .ref a_ow])), (a_od, .inl (y 0, lm_o, .inl v_od))] → va_S A s.heap H locs → lv_has ls 3 [(0, .ref a_o), (1, .int p1)] → κ = some R → W p l e ({ frames := 0, cells := 0, slots := 0, locals := 0 } : Room) s m args below meth c H locs 0 0 (MQ below (va_Qi (fun (r : Int32) (_ : Unit) => r = R) (xB D y A [(a_o, .inr (1, [.int f_o_n, .int f_o_many, .int f_o_sets, .ref a_od, .ref a_op, .ref a_oi, .ref a_ov, .ref a_of, .ref a_ol, .ref a_om, .ref a_ow])), (a_od, .inl (y 0, lm_o, .inl v_od))]) A) args s 0 0 A) (F0 m 0 ls [])
set_option maxHeartbeats 4000000 in
set_option maxRecDepth 100000 in
theorem B_X1_firstDescent_2 {p : Program} {l : Launch} {e : Env} {s : State} {m : MethodId} {args : Array Value} {below : List Frame} {meth : Method} {c : Code} {A : Nat → Prop} {D : va_G} {y : Nat → ClassId} {a_o : Nat} {a_od : Nat} {a_op : Nat} {a_oi : Nat} {a_ov : Nat} {a_of : Nat} {a_ol : Nat} {a_om : Nat} {a_ow : Nat} {lm_o : Nat} {f_o_n : Int32} {f_o_many : Int32} {f_o_sets : Int32} {v_od : Nat → Int32} {p1 : Int32} {R : Int32} (C : xC p s m args meth c A cX1_firstDescent RX1 wsX1_firstDescent 3 (some .int) D y)  : ∀ f : Nat, S_X1_firstDescent_2 p l e s m args below meth c A D y a_o a_od a_op a_oi a_ov a_of a_ol a_om a_ow lm_o f_o_n f_o_many f_o_sets v_od p1 R (F_X1_firstDescent_2 lm_o f_o_n v_od p1  f) := by
  have C0 := C
  obtain ⟨hx, hb, hml, hown, hts, hr, hlocks, hK, hA⟩ := C
  intro f
  induction f with
  | zero =>
    intro x2 H locs ls hP hD hS hl hB
    rw [Z_X1_firstDescent_2] at hB
    cases hB
  | succ f ih =>
    intro x2 H locs ls hP hD hS hl hB
    rw [E_X1_firstDescent_2] at hB
    refine lv_iload_n hx hb dX1_firstDescent_2 rfl (lv_at hl 2 rfl) ?_
    refine lv_aload_n hx hb dX1_firstDescent_3 rfl (lv_at hl 0 rfl) ?_
    refine va_get (D := D) (ci := 1) (v := .int f_o_n) (C := RX1) (T := TX1) (N := 11) hx hb hts kX1_firstDescent_wX1 hown hK hP 0 rfl rfl 0 (by decide) (hts _ kX1_firstDescent_f7) (fun _ h9 => h9) rfl dX1_firstDescent_4 ?_
    refine lv_iconst (v := 1) hx hb dX1_firstDescent_7 (by decide) ?_
    refine lv_isub hx hb dX1_firstDescent_8 ?_
    refine lv_icmp_ge (tgt := 34) hx hb dX1_firstDescent_9 (by decide) (fun c1 => ?_) (fun c1 => ?_)
    · have hB := xip c1 hB
      refine lv_iconst (v := 0) hx hb dX1_firstDescent_34 (by decide) ?_
      have hB := Option.some.inj hB
      subst hB
      exact W.iret hx hb hr (fun t ht hW => ⟨⟨_, (), rfl, rfl, by rw [ht]; exact hP, va_K.moved hW.alike hK, hD⟩, hS.F ht⟩) hS.2.2 dX1_firstDescent_35 hlocks
    · have hB := xin c1 hB
      refine lv_aload_n hx hb dX1_firstDescent_12 rfl (lv_at hl 0 rfl) ?_
      refine va_get (D := D) (ci := 1) (v := .ref a_od) (C := RX1) (T := TX1) (N := 11) hx hb hts kX1_firstDescent_wX1 hown hK hP 0 rfl rfl 3 (by decide) (hts _ kX1_firstDescent_f19) (fun _ h9 => h9) rfl dX1_firstDescent_13 ?_
      refine lv_iload_n hx hb dX1_firstDescent_16 rfl (lv_at hl 1 rfl) ?_
      obtain ⟨g2, hB⟩ := xg_some hB
      refine va_iald hx hb hK hP 1 0 rfl rfl g2 dX1_firstDescent_17 ?_
      refine lv_iload_n hx hb dX1_firstDescent_18 rfl (lv_at hl 2 rfl) ?_
      refine lv_ishr hx hb dX1_firstDescent_19 ?_
      refine lv_iconst (v := 1) hx hb dX1_firstDescent_20 (by decide) ?_
      refine lv_iand hx hb dX1_firstDescent_21 ?_
      refine lv_iconst (v := 1) hx hb dX1_firstDescent_22 (by decide) ?_
      refine lv_icmp_ne (tgt := 28) hx hb dX1_firstDescent_23 (by decide) (fun c3 => ?_) (fun c3 => ?_)
      · have hB := xin c3 hB
        refine lv_iinc (v := x2 + 1) (lv' := [(2, .int (x2 + 1)), (0, .ref a_o), (1, .int p1)]) hx hb dX1_firstDescent_28 hl (k := 2) rfl rfl (by decide) rfl (fun ls hl => ?_)
        refine lv_goto (tgt := 2) hx hb dX1_firstDescent_31 (by decide) ?_
        exact ih (x2 + 1) H locs ls hP hD hS (lv_sub hl [1, 2, 0] rfl) hB
      · have hB := xip c3 hB
        refine lv_iload_n hx hb dX1_firstDescent_26 rfl (lv_at hl 2 rfl) ?_
        have hB := Option.some.inj hB
        subst hB
        exact W.iret hx hb hr (fun t ht hW => ⟨⟨_, (), rfl, rfl, by rw [ht]; exact hP, va_K.moved hW.alike hK, hD⟩, hS.F ht⟩) hS.2.2 dX1_firstDescent_27 hlocks
set_option maxHeartbeats 4000000 in
set_option maxRecDepth 100000 in
theorem B_X1_firstDescent_0 {p : Program} {l : Launch} {e : Env} {s : State} {m : MethodId} {args : Array Value} {below : List Frame} {meth : Method} {c : Code} {A : Nat → Prop} {D : va_G} {y : Nat → ClassId} {a_o : Nat} {a_od : Nat} {a_op : Nat} {a_oi : Nat} {a_ov : Nat} {a_of : Nat} {a_ol : Nat} {a_om : Nat} {a_ow : Nat} {lm_o : Nat} {f_o_n : Int32} {f_o_many : Int32} {f_o_sets : Int32} {v_od : Nat → Int32} {p1 : Int32} {R : Int32} (C : xC p s m args meth c A cX1_firstDescent RX1 wsX1_firstDescent 3 (some .int) D y)  : S_X1_firstDescent_0 p l e s m args below meth c A D y a_o a_od a_op a_oi a_ov a_of a_ol a_om a_ow lm_o f_o_n f_o_many f_o_sets v_od p1 R (F_X1_firstDescent lm_o f_o_n v_od p1 ) := by
  have C0 := C
  obtain ⟨hx, hb, hml, hown, hts, hr, hlocks, hK, hA⟩ := C
  intro H locs ls hP hD hS hl hB
  unfold F_X1_firstDescent at hB
  refine lv_iconst (v := 0) hx hb dX1_firstDescent_0 (by decide) ?_
  refine lv_istore_n (lv' := [(2, .int (0 : Int32)), (0, .ref a_o), (1, .int p1)]) hx hb dX1_firstDescent_1 rfl hl (by decide) rfl (fun ls hl => ?_)
  exact B_X1_firstDescent_2 (p1 := p1) C0 xF (0 : Int32) H locs ls hP hD hS (lv_sub hl [1, 2, 0] rfl) hB
set_option maxHeartbeats 4000000 in
set_option maxRecDepth 100000 in
theorem c_X1_firstDescent (l : Launch) (D : va_G) (y : Nat → ClassId) (a_o : Nat) (a_od : Nat) (a_op : Nat) (a_oi : Nat) (a_ov : Nat) (a_of : Nat) (a_ol : Nat) (a_om : Nat) (a_ow : Nat) (lm_o : Nat) (f_o_n : Int32) (f_o_many : Int32) (f_o_sets : Int32) (v_od : Nat → Int32) (p1 : Int32) (sz : Nat) {R : Int32} (hF : F_X1_firstDescent lm_o f_o_n v_od p1 = some R) : Met l yX1_firstDescent wsX1_firstDescent ({ frames := 0, cells := 0, slots := 0, locals := 0 } : Room) (xPre D y sz [.ref a_o, .int p1] [(a_o, .inr (1, [.int f_o_n, .int f_o_many, .int f_o_sets, .ref a_od, .ref a_op, .ref a_oi, .ref a_ov, .ref a_of, .ref a_ol, .ref a_om, .ref a_ow])), (a_od, .inl (y 0, lm_o, .inl v_od))]) (va_Qi (fun (r : Int32) (_ : Unit) => r = R) (xB D y (va_A [(a_o, .inr (1, [.int f_o_n, .int f_o_many, .int f_o_sets, .ref a_od, .ref a_op, .ref a_oi, .ref a_ov, .ref a_of, .ref a_ol, .ref a_om, .ref a_ow])), (a_od, .inl (y 0, lm_o, .inl v_od))] sz) [(a_o, .inr (1, [.int f_o_n, .int f_o_many, .int f_o_sets, .ref a_od, .ref a_op, .ref a_oi, .ref a_ov, .ref a_of, .ref a_ol, .ref a_om, .ref a_ow])), (a_od, .inl (y 0, lm_o, .inl v_od))]) (va_A [(a_o, .inr (1, [.int f_o_n, .int f_o_many, .int f_o_sets, .ref a_od, .ref a_op, .ref a_oi, .ref a_ov, .ref a_of, .ref a_ol, .ref a_om, .ref a_ow])), (a_od, .inl (y 0, lm_o, .inl v_od))] sz)) 0 0 (va_A [(a_o, .inr (1, [.int f_o_n, .int f_o_many, .int f_o_sets, .ref a_od, .ref a_op, .ref a_oi, .ref a_ov, .ref a_of, .ref a_ol, .ref a_om, .ref a_ow])), (a_od, .inl (y 0, lm_o, .inl v_od))] sz) := by
  refine Met.ofW (cc := cX1_firstDescent) (maxL := 3) (ret := (some .int)) (by decide) rfl ?_
  intro p e s m args below meth c s₁ B hml hv
  obtain ⟨rfl, hsz, hP, hK, hD0⟩ := hv
  subst hsz
  have hD := hD0.self (sz := s.heap.size)
  have C : xC p s m [.ref a_o, .int p1].toArray meth c (va_A [(a_o, .inr (1, [.int f_o_n, .int f_o_many, .int f_o_sets, .ref a_od, .ref a_op, .ref a_oi, .ref a_ov, .ref a_of, .ref a_ol, .ref a_om, .ref a_ow])), (a_od, .inl (y 0, lm_o, .inl v_od))] s.heap.size) cX1_firstDescent RX1 wsX1_firstDescent 3 (some .int) D y := ⟨B.exec, B.bytes, hml, findClass_of_methodNamed B.named, atoms_spec (ws := wsX1_firstDescent) B.pre, B.returns, B.notSynchronized, hK, fun q h => Or.inr h⟩
  have hl := lv_entry ([.ref a_o, .int p1]) (n := 3) (Nat.le_of_ble_eq_true rfl)
  rw [lg_entry_eq]
  generalize (lg_sl ([.ref a_o, .int p1]) ++ List.replicate (3 - (lg_sl ([.ref a_o, .int p1])).length) Slot.unset).toArray = ls at hl ⊢
  have hl : lv_has ls 3 [(0, .ref a_o), (1, .int p1)] := hl
  exact B_X1_firstDescent_0 (p1 := p1) C  s.heap [] ls hP hD va_S.rf hl hF
theorem kX1_times_f38 : Cond.fieldLink RX1 38 "DescentShuffles$Orders" "products" "[I" ∈ wsX1_times := by decide +kernel
theorem kX1_times_wX1 : ∀ w ∈ u_ws RX1 TX1 11, w ∈ wsX1_times := by decide +kernel
theorem kX1_times_f13 : Cond.fieldLink RX1 13 "DescentShuffles$Orders" "many" "I" ∈ wsX1_times := by decide +kernel
def S_X1_times_0 (p : Program) (l : Launch) (e : Env) (s : State) (m : MethodId) (args : Array Value) (below : List Frame) (meth : Method) (c : Code) (A : Nat → Prop) (D : va_G) (y : Nat → ClassId) (a_o : Nat) (a_od : Nat) (a_op : Nat) (a_oi : Nat) (a_ov : Nat) (a_of : Nat) (a_ol : Nat) (a_om : Nat) (a_ow : Nat) (lp_o : Nat) (f_o_n : Int32) (f_o_many : Int32) (f_o_sets : Int32) (v_om : Nat → Int32) (p1 : Int32) (p2 : Int32) (R : Int32) (κ : Option (Int32)) : Prop := ∀ (H : Heap) (locs : List Loc) (ls : Array Slot), va_P D vwCl [(a_o, .inr (1, [.int f_o_n, .int f_o_many, .int f_o_sets, .ref a_od, .ref a_op, .ref a_oi, .ref a_ov, .ref a_of, .ref a_ol, .ref a_om, .ref a_ow])), (a_om, .inl (y 0, lp_o, .inl v_om))] H → va_D A [(a_o, .inr (1, [.int f_o_n, .int f_o_many, .int f_o_sets, .ref a_od, .ref a_op, .ref a_oi, .ref a_ov, .ref a_of, .ref a_ol, .ref a_om, .ref a_ow])), (a_om, .inl (y 0, lp_o, .inl v_om))] → va_S A s.heap H locs → lv_has ls 3 [(0, .ref a_o), (1, .int p1), (2, .int p2)] → κ = some R → W p l e ({ frames := 0, cells := 0, slots := 0, locals := 0 } : Room) s m args below meth c H locs 0 0 (MQ below (va_Qi (fun (r : Int32) (_ : Unit) => r = R) (xB D y A [(a_o, .inr (1, [.int f_o_n, .int f_o_many, .int f_o_sets, .ref a_od, .ref a_op, .ref a_oi, .ref a_ov, .ref a_of, .ref a_ol, .ref a_om, .ref a_ow])), (a_om, .inl (y 0, lp_o, .inl v_om))]) A) args s 0 0 A) (F0 m 0 ls [])
set_option maxHeartbeats 4000000 in
set_option maxRecDepth 100000 in
theorem B_X1_times_0 {p : Program} {l : Launch} {e : Env} {s : State} {m : MethodId} {args : Array Value} {below : List Frame} {meth : Method} {c : Code} {A : Nat → Prop} {D : va_G} {y : Nat → ClassId} {a_o : Nat} {a_od : Nat} {a_op : Nat} {a_oi : Nat} {a_ov : Nat} {a_of : Nat} {a_ol : Nat} {a_om : Nat} {a_ow : Nat} {lp_o : Nat} {f_o_n : Int32} {f_o_many : Int32} {f_o_sets : Int32} {v_om : Nat → Int32} {p1 : Int32} {p2 : Int32} {R : Int32} (C : xC p s m args meth c A cX1_times RX1 wsX1_times 3 (some .int) D y)  : S_X1_times_0 p l e s m args below meth c A D y a_o a_od a_op a_oi a_ov a_of a_ol a_om a_ow lp_o f_o_n f_o_many f_o_sets v_om p1 p2 R (F_X1_times lp_o f_o_many v_om p1 p2 ) := by
  have C0 := C
  obtain ⟨hx, hb, hml, hown, hts, hr, hlocks, hK, hA⟩ := C
  intro H locs ls hP hD hS hl hB
  unfold F_X1_times at hB
  refine lv_aload_n hx hb dX1_times_0 rfl (lv_at hl 0 rfl) ?_
  refine va_get (D := D) (ci := 1) (v := .ref a_om) (C := RX1) (T := TX1) (N := 11) hx hb hts kX1_times_wX1 hown hK hP 0 rfl rfl 9 (by decide) (hts _ kX1_times_f38) (fun _ h9 => h9) rfl dX1_times_1 ?_
  refine lv_iload_n hx hb dX1_times_4 rfl (lv_at hl 1 rfl) ?_
  refine lv_aload_n hx hb dX1_times_5 rfl (lv_at hl 0 rfl) ?_
  refine va_get (D := D) (ci := 1) (v := .int f_o_many) (C := RX1) (T := TX1) (N := 11) hx hb hts kX1_times_wX1 hown hK hP 0 rfl rfl 1 (by decide) (hts _ kX1_times_f13) (fun _ h9 => h9) rfl dX1_times_6 ?_
  refine lv_imul hx hb dX1_times_9 ?_
  refine lv_iload_n hx hb dX1_times_10 rfl (lv_at hl 2 rfl) ?_
  refine lv_iadd hx hb dX1_times_11 ?_
  obtain ⟨g1, hB⟩ := xg_some hB
  refine va_iald hx hb hK hP 1 0 rfl rfl g1 dX1_times_12 ?_
  have hB := Option.some.inj hB
  subst hB
  exact W.iret hx hb hr (fun t ht hW => ⟨⟨_, (), rfl, rfl, by rw [ht]; exact hP, va_K.moved hW.alike hK, hD⟩, hS.F ht⟩) hS.2.2 dX1_times_13 hlocks
set_option maxHeartbeats 4000000 in
set_option maxRecDepth 100000 in
theorem c_X1_times (l : Launch) (D : va_G) (y : Nat → ClassId) (a_o : Nat) (a_od : Nat) (a_op : Nat) (a_oi : Nat) (a_ov : Nat) (a_of : Nat) (a_ol : Nat) (a_om : Nat) (a_ow : Nat) (lp_o : Nat) (f_o_n : Int32) (f_o_many : Int32) (f_o_sets : Int32) (v_om : Nat → Int32) (p1 : Int32) (p2 : Int32) (sz : Nat) {R : Int32} (hF : F_X1_times lp_o f_o_many v_om p1 p2 = some R) : Met l yX1_times wsX1_times ({ frames := 0, cells := 0, slots := 0, locals := 0 } : Room) (xPre D y sz [.ref a_o, .int p1, .int p2] [(a_o, .inr (1, [.int f_o_n, .int f_o_many, .int f_o_sets, .ref a_od, .ref a_op, .ref a_oi, .ref a_ov, .ref a_of, .ref a_ol, .ref a_om, .ref a_ow])), (a_om, .inl (y 0, lp_o, .inl v_om))]) (va_Qi (fun (r : Int32) (_ : Unit) => r = R) (xB D y (va_A [(a_o, .inr (1, [.int f_o_n, .int f_o_many, .int f_o_sets, .ref a_od, .ref a_op, .ref a_oi, .ref a_ov, .ref a_of, .ref a_ol, .ref a_om, .ref a_ow])), (a_om, .inl (y 0, lp_o, .inl v_om))] sz) [(a_o, .inr (1, [.int f_o_n, .int f_o_many, .int f_o_sets, .ref a_od, .ref a_op, .ref a_oi, .ref a_ov, .ref a_of, .ref a_ol, .ref a_om, .ref a_ow])), (a_om, .inl (y 0, lp_o, .inl v_om))]) (va_A [(a_o, .inr (1, [.int f_o_n, .int f_o_many, .int f_o_sets, .ref a_od, .ref a_op, .ref a_oi, .ref a_ov, .ref a_of, .ref a_ol, .ref a_om, .ref a_ow])), (a_om, .inl (y 0, lp_o, .inl v_om))] sz)) 0 0 (va_A [(a_o, .inr (1, [.int f_o_n, .int f_o_many, .int f_o_sets, .ref a_od, .ref a_op, .ref a_oi, .ref a_ov, .ref a_of, .ref a_ol, .ref a_om, .ref a_ow])), (a_om, .inl (y 0, lp_o, .inl v_om))] sz) := by
  refine Met.ofW (cc := cX1_times) (maxL := 3) (ret := (some .int)) (by decide) rfl ?_
  intro p e s m args below meth c s₁ B hml hv
  obtain ⟨rfl, hsz, hP, hK, hD0⟩ := hv
  subst hsz
  have hD := hD0.self (sz := s.heap.size)
  have C : xC p s m [.ref a_o, .int p1, .int p2].toArray meth c (va_A [(a_o, .inr (1, [.int f_o_n, .int f_o_many, .int f_o_sets, .ref a_od, .ref a_op, .ref a_oi, .ref a_ov, .ref a_of, .ref a_ol, .ref a_om, .ref a_ow])), (a_om, .inl (y 0, lp_o, .inl v_om))] s.heap.size) cX1_times RX1 wsX1_times 3 (some .int) D y := ⟨B.exec, B.bytes, hml, findClass_of_methodNamed B.named, atoms_spec (ws := wsX1_times) B.pre, B.returns, B.notSynchronized, hK, fun q h => Or.inr h⟩
  have hl := lv_entry ([.ref a_o, .int p1, .int p2]) (n := 3) (Nat.le_of_ble_eq_true rfl)
  rw [lg_entry_eq]
  generalize (lg_sl ([.ref a_o, .int p1, .int p2]) ++ List.replicate (3 - (lg_sl ([.ref a_o, .int p1, .int p2])).length) Slot.unset).toArray = ls at hl ⊢
  have hl : lv_has ls 3 [(0, .ref a_o), (1, .int p1), (2, .int p2)] := hl
  exact B_X1_times_0 (p1 := p1) (p2 := p2) C  s.heap [] ls hP hD va_S.rf hl hF
theorem kX1_fillProducts_aI : Cond.arrayClass .int ∈ wsX1_fillProducts := by decide +kernel
theorem kX1_fillProducts_f7 : Cond.fieldLink RX1 7 "DescentShuffles$Orders" "n" "I" ∈ wsX1_fillProducts := by decide +kernel
theorem kX1_fillProducts_wX1 : ∀ w ∈ u_ws RX1 TX1 11, w ∈ wsX1_fillProducts := by decide +kernel
theorem kX1_fillProducts_f13 : Cond.fieldLink RX1 13 "DescentShuffles$Orders" "many" "I" ∈ wsX1_fillProducts := by decide +kernel
theorem kX1_fillProducts_f38 : Cond.fieldLink RX1 38 "DescentShuffles$Orders" "products" "[I" ∈ wsX1_fillProducts := by decide +kernel
def S_X1_fillProducts_104 (p : Program) (l : Launch) (e : Env) (s : State) (m : MethodId) (args : Array Value) (below : List Frame) (meth : Method) (c : Code) (A : Nat → Prop) (D : va_G) (y : Nat → ClassId) (N : Nat) (a_o : Nat) (a_od : Nat) (a_op : Nat) (a_oi : Nat) (a_ov : Nat) (a_of : Nat) (a_ol : Nat) (a_om : Nat) (a_ow : Nat) (lm_o : Nat) (ll_o : Nat) (lp_o : Nat) (ln_o : Nat) (f_o_n : Int32) (f_o_many : Int32) (f_o_sets : Int32) (v_od : Nat → Int32) (v_ol : Nat → Int32) (R : Nat × (Nat → Int32) × (Nat → Int32) × (Nat → Int32)) (κ : Int32 → Int32 → Int32 → Int32 → Int32 → Nat → (Nat → Int32) → (Nat → Int32) → (Nat → Int32) → Option (Nat × (Nat → Int32) × (Nat → Int32) × (Nat → Int32))) : Prop := ∀ (a_ex : Nat) (x1 : Int32) (x3 : Int32) (x4 : Int32) (x5 : Int32) (x6 : Int32) (n_ex : Nat) (v_om : Nat → Int32) (v_ow : Nat → Int32) (v_ex : Nat → Int32) (H : Heap) (locs : List Loc) (ls : Array Slot), va_P D vwCl [(a_o, .inr (1, [.int f_o_n, .int f_o_many, .int f_o_sets, .ref a_od, .ref a_op, .ref a_oi, .ref a_ov, .ref a_of, .ref a_ol, .ref a_om, .ref a_ow])), (a_od, .inl (y 0, lm_o, .inl v_od)), (a_ol, .inl (y 0, ll_o, .inl v_ol)), (a_om, .inl (y 0, lp_o, .inl v_om)), (a_ow, .inl (y 0, ln_o, .inl v_ow)), (a_ex, .inl (y 0, n_ex, .inl v_ex))] H → va_D A [(a_o, .inr (1, [.int f_o_n, .int f_o_many, .int f_o_sets, .ref a_od, .ref a_op, .ref a_oi, .ref a_ov, .ref a_of, .ref a_ol, .ref a_om, .ref a_ow])), (a_od, .inl (y 0, lm_o, .inl v_od)), (a_ol, .inl (y 0, ll_o, .inl v_ol)), (a_om, .inl (y 0, lp_o, .inl v_om)), (a_ow, .inl (y 0, ln_o, .inl v_ow)), (a_ex, .inl (y 0, n_ex, .inl v_ex))] → va_S A s.heap H locs → lv_has ls 7 [(0, .ref a_o), (1, .int x1), (2, .ref a_ex), (3, .int x3), (4, .int x4), (5, .int x5), (6, .int x6)] → 0 + n_ex ≤ N → κ x1 x3 x4 x5 x6 n_ex v_om v_ow v_ex = some R → W p l e ({ frames := 3, cells := 1, slots := N, locals := 70 } : Room) s m args below meth c H locs 1 (0 + n_ex) (MQ below (va_Qv (fun (_ : Unit) => True) (xBz D y A (fun z : Nat => [(a_o, .inr (1, [.int f_o_n, .int f_o_many, .int f_o_sets, .ref a_od, .ref a_op, .ref a_oi, .ref a_ov, .ref a_of, .ref a_ol, .ref a_om, .ref a_ow])), (a_od, .inl (y 0, lm_o, .inl v_od)), (a_ol, .inl (y 0, ll_o, .inl v_ol)), (a_om, .inl (y 0, lp_o, .inl R.2.1)), (a_ow, .inl (y 0, ln_o, .inl R.2.2.1)), (z, .inl (y 0, R.1, .inl R.2.2.2))])) A) args s 1 N A) (F0 m 104 ls [])
def S_X1_fillProducts_76 (p : Program) (l : Launch) (e : Env) (s : State) (m : MethodId) (args : Array Value) (below : List Frame) (meth : Method) (c : Code) (A : Nat → Prop) (D : va_G) (y : Nat → ClassId) (N : Nat) (a_o : Nat) (a_od : Nat) (a_op : Nat) (a_oi : Nat) (a_ov : Nat) (a_of : Nat) (a_ol : Nat) (a_om : Nat) (a_ow : Nat) (lm_o : Nat) (ll_o : Nat) (lp_o : Nat) (ln_o : Nat) (f_o_n : Int32) (f_o_many : Int32) (f_o_sets : Int32) (v_od : Nat → Int32) (v_ol : Nat → Int32) (R : Nat × (Nat → Int32) × (Nat → Int32) × (Nat → Int32)) (κ : Int32 → Int32 → Nat → (Nat → Int32) → (Nat → Int32) → (Nat → Int32) → Option (Nat × (Nat → Int32) × (Nat → Int32) × (Nat → Int32))) : Prop := ∀ (a_ex : Nat) (x1 : Int32) (x3 : Int32) (n_ex : Nat) (v_om : Nat → Int32) (v_ow : Nat → Int32) (v_ex : Nat → Int32) (H : Heap) (locs : List Loc) (ls : Array Slot), va_P D vwCl [(a_o, .inr (1, [.int f_o_n, .int f_o_many, .int f_o_sets, .ref a_od, .ref a_op, .ref a_oi, .ref a_ov, .ref a_of, .ref a_ol, .ref a_om, .ref a_ow])), (a_od, .inl (y 0, lm_o, .inl v_od)), (a_ol, .inl (y 0, ll_o, .inl v_ol)), (a_om, .inl (y 0, lp_o, .inl v_om)), (a_ow, .inl (y 0, ln_o, .inl v_ow)), (a_ex, .inl (y 0, n_ex, .inl v_ex))] H → va_D A [(a_o, .inr (1, [.int f_o_n, .int f_o_many, .int f_o_sets, .ref a_od, .ref a_op, .ref a_oi, .ref a_ov, .ref a_of, .ref a_ol, .ref a_om, .ref a_ow])), (a_od, .inl (y 0, lm_o, .inl v_od)), (a_ol, .inl (y 0, ll_o, .inl v_ol)), (a_om, .inl (y 0, lp_o, .inl v_om)), (a_ow, .inl (y 0, ln_o, .inl v_ow)), (a_ex, .inl (y 0, n_ex, .inl v_ex))] → va_S A s.heap H locs → lv_has ls 7 [(0, .ref a_o), (1, .int x1), (2, .ref a_ex), (3, .int x3)] → 0 + n_ex ≤ N → κ x1 x3 n_ex v_om v_ow v_ex = some R → W p l e ({ frames := 3, cells := 1, slots := N, locals := 70 } : Room) s m args below meth c H locs 1 (0 + n_ex) (MQ below (va_Qv (fun (_ : Unit) => True) (xBz D y A (fun z : Nat => [(a_o, .inr (1, [.int f_o_n, .int f_o_many, .int f_o_sets, .ref a_od, .ref a_op, .ref a_oi, .ref a_ov, .ref a_of, .ref a_ol, .ref a_om, .ref a_ow])), (a_od, .inl (y 0, lm_o, .inl v_od)), (a_ol, .inl (y 0, ll_o, .inl v_ol)), (a_om, .inl (y 0, lp_o, .inl R.2.1)), (a_ow, .inl (y 0, ln_o, .inl R.2.2.1)), (z, .inl (y 0, R.1, .inl R.2.2.2))])) A) args s 1 N A) (F0 m 76 ls [])
def S_X1_fillProducts_29 (p : Program) (l : Launch) (e : Env) (s : State) (m : MethodId) (args : Array Value) (below : List Frame) (meth : Method) (c : Code) (A : Nat → Prop) (D : va_G) (y : Nat → ClassId) (N : Nat) (a_o : Nat) (a_od : Nat) (a_op : Nat) (a_oi : Nat) (a_ov : Nat) (a_of : Nat) (a_ol : Nat) (a_om : Nat) (a_ow : Nat) (lm_o : Nat) (ll_o : Nat) (lp_o : Nat) (ln_o : Nat) (f_o_n : Int32) (f_o_many : Int32) (f_o_sets : Int32) (v_od : Nat → Int32) (v_ol : Nat → Int32) (R : Nat × (Nat → Int32) × (Nat → Int32) × (Nat → Int32)) (κ : Int32 → Int32 → Int32 → Nat → (Nat → Int32) → (Nat → Int32) → (Nat → Int32) → Option (Nat × (Nat → Int32) × (Nat → Int32) × (Nat → Int32))) : Prop := ∀ (a_ex : Nat) (x1 : Int32) (x3 : Int32) (x4 : Int32) (n_ex : Nat) (v_om : Nat → Int32) (v_ow : Nat → Int32) (v_ex : Nat → Int32) (H : Heap) (locs : List Loc) (ls : Array Slot), va_P D vwCl [(a_o, .inr (1, [.int f_o_n, .int f_o_many, .int f_o_sets, .ref a_od, .ref a_op, .ref a_oi, .ref a_ov, .ref a_of, .ref a_ol, .ref a_om, .ref a_ow])), (a_od, .inl (y 0, lm_o, .inl v_od)), (a_ol, .inl (y 0, ll_o, .inl v_ol)), (a_om, .inl (y 0, lp_o, .inl v_om)), (a_ow, .inl (y 0, ln_o, .inl v_ow)), (a_ex, .inl (y 0, n_ex, .inl v_ex))] H → va_D A [(a_o, .inr (1, [.int f_o_n, .int f_o_many, .int f_o_sets, .ref a_od, .ref a_op, .ref a_oi, .ref a_ov, .ref a_of, .ref a_ol, .ref a_om, .ref a_ow])), (a_od, .inl (y 0, lm_o, .inl v_od)), (a_ol, .inl (y 0, ll_o, .inl v_ol)), (a_om, .inl (y 0, lp_o, .inl v_om)), (a_ow, .inl (y 0, ln_o, .inl v_ow)), (a_ex, .inl (y 0, n_ex, .inl v_ex))] → va_S A s.heap H locs → lv_has ls 7 [(0, .ref a_o), (1, .int x1), (2, .ref a_ex), (3, .int x3), (4, .int x4)] → 0 + n_ex ≤ N → κ x1 x3 x4 n_ex v_om v_ow v_ex = some R → W p l e ({ frames := 3, cells := 1, slots := N, locals := 70 } : Room) s m args below meth c H locs 1 (0 + n_ex) (MQ below (va_Qv (fun (_ : Unit) => True) (xBz D y A (fun z : Nat => [(a_o, .inr (1, [.int f_o_n, .int f_o_many, .int f_o_sets, .ref a_od, .ref a_op, .ref a_oi, .ref a_ov, .ref a_of, .ref a_ol, .ref a_om, .ref a_ow])), (a_od, .inl (y 0, lm_o, .inl v_od)), (a_ol, .inl (y 0, ll_o, .inl v_ol)), (a_om, .inl (y 0, lp_o, .inl R.2.1)), (a_ow, .inl (y 0, ln_o, .inl R.2.2.1)), (z, .inl (y 0, R.1, .inl R.2.2.2))])) A) args s 1 N A) (F0 m 29 ls [])
def S_X1_fillProducts_18 (p : Program) (l : Launch) (e : Env) (s : State) (m : MethodId) (args : Array Value) (below : List Frame) (meth : Method) (c : Code) (A : Nat → Prop) (D : va_G) (y : Nat → ClassId) (N : Nat) (a_o : Nat) (a_od : Nat) (a_op : Nat) (a_oi : Nat) (a_ov : Nat) (a_of : Nat) (a_ol : Nat) (a_om : Nat) (a_ow : Nat) (lm_o : Nat) (ll_o : Nat) (lp_o : Nat) (ln_o : Nat) (f_o_n : Int32) (f_o_many : Int32) (f_o_sets : Int32) (v_od : Nat → Int32) (v_ol : Nat → Int32) (R : Nat × (Nat → Int32) × (Nat → Int32) × (Nat → Int32)) (κ : Int32 → Int32 → Nat → (Nat → Int32) → (Nat → Int32) → (Nat → Int32) → Option (Nat × (Nat → Int32) × (Nat → Int32) × (Nat → Int32))) : Prop := ∀ (a_ex : Nat) (x1 : Int32) (x3 : Int32) (n_ex : Nat) (v_om : Nat → Int32) (v_ow : Nat → Int32) (v_ex : Nat → Int32) (H : Heap) (locs : List Loc) (ls : Array Slot), va_P D vwCl [(a_o, .inr (1, [.int f_o_n, .int f_o_many, .int f_o_sets, .ref a_od, .ref a_op, .ref a_oi, .ref a_ov, .ref a_of, .ref a_ol, .ref a_om, .ref a_ow])), (a_od, .inl (y 0, lm_o, .inl v_od)), (a_ol, .inl (y 0, ll_o, .inl v_ol)), (a_om, .inl (y 0, lp_o, .inl v_om)), (a_ow, .inl (y 0, ln_o, .inl v_ow)), (a_ex, .inl (y 0, n_ex, .inl v_ex))] H → va_D A [(a_o, .inr (1, [.int f_o_n, .int f_o_many, .int f_o_sets, .ref a_od, .ref a_op, .ref a_oi, .ref a_ov, .ref a_of, .ref a_ol, .ref a_om, .ref a_ow])), (a_od, .inl (y 0, lm_o, .inl v_od)), (a_ol, .inl (y 0, ll_o, .inl v_ol)), (a_om, .inl (y 0, lp_o, .inl v_om)), (a_ow, .inl (y 0, ln_o, .inl v_ow)), (a_ex, .inl (y 0, n_ex, .inl v_ex))] → va_S A s.heap H locs → lv_has ls 7 [(0, .ref a_o), (1, .int x1), (2, .ref a_ex), (3, .int x3)] → 0 + n_ex ≤ N → κ x1 x3 n_ex v_om v_ow v_ex = some R → W p l e ({ frames := 3, cells := 1, slots := N, locals := 70 } : Room) s m args below meth c H locs 1 (0 + n_ex) (MQ below (va_Qv (fun (_ : Unit) => True) (xBz D y A (fun z : Nat => [(a_o, .inr (1, [.int f_o_n, .int f_o_many, .int f_o_sets, .ref a_od, .ref a_op, .ref a_oi, .ref a_ov, .ref a_of, .ref a_ol, .ref a_om, .ref a_ow])), (a_od, .inl (y 0, lm_o, .inl v_od)), (a_ol, .inl (y 0, ll_o, .inl v_ol)), (a_om, .inl (y 0, lp_o, .inl R.2.1)), (a_ow, .inl (y 0, ln_o, .inl R.2.2.1)), (z, .inl (y 0, R.1, .inl R.2.2.2))])) A) args s 1 N A) (F0 m 18 ls [])
def S_X1_fillProducts_0 (p : Program) (l : Launch) (e : Env) (s : State) (m : MethodId) (args : Array Value) (below : List Frame) (meth : Method) (c : Code) (A : Nat → Prop) (D : va_G) (y : Nat → ClassId) (N : Nat) (a_o : Nat) (a_od : Nat) (a_op : Nat) (a_oi : Nat) (a_ov : Nat) (a_of : Nat) (a_ol : Nat) (a_om : Nat) (a_ow : Nat) (lm_o : Nat) (ll_o : Nat) (lp_o : Nat) (ln_o : Nat) (f_o_n : Int32) (f_o_many : Int32) (f_o_sets : Int32) (v_od : Nat → Int32) (v_ol : Nat → Int32) (R : Nat × (Nat → Int32) × (Nat → Int32) × (Nat → Int32)) (κ : (Nat → Int32) → (Nat → Int32) → Option (Nat × (Nat → Int32) × (Nat → Int32) × (Nat → Int32))) : Prop := ∀ (v_om : Nat → Int32) (v_ow : Nat → Int32) (H : Heap) (locs : List Loc) (ls : Array Slot), va_P D vwCl [(a_o, .inr (1, [.int f_o_n, .int f_o_many, .int f_o_sets, .ref a_od, .ref a_op, .ref a_oi, .ref a_ov, .ref a_of, .ref a_ol, .ref a_om, .ref a_ow])), (a_od, .inl (y 0, lm_o, .inl v_od)), (a_ol, .inl (y 0, ll_o, .inl v_ol)), (a_om, .inl (y 0, lp_o, .inl v_om)), (a_ow, .inl (y 0, ln_o, .inl v_ow))] H → va_D A [(a_o, .inr (1, [.int f_o_n, .int f_o_many, .int f_o_sets, .ref a_od, .ref a_op, .ref a_oi, .ref a_ov, .ref a_of, .ref a_ol, .ref a_om, .ref a_ow])), (a_od, .inl (y 0, lm_o, .inl v_od)), (a_ol, .inl (y 0, ll_o, .inl v_ol)), (a_om, .inl (y 0, lp_o, .inl v_om)), (a_ow, .inl (y 0, ln_o, .inl v_ow))] → va_S A s.heap H locs → lv_has ls 7 [(0, .ref a_o)] → 0 ≤ N → κ v_om v_ow = some R → W p l e ({ frames := 3, cells := 1, slots := N, locals := 70 } : Room) s m args below meth c H locs 0 0 (MQ below (va_Qv (fun (_ : Unit) => True) (xBz D y A (fun z : Nat => [(a_o, .inr (1, [.int f_o_n, .int f_o_many, .int f_o_sets, .ref a_od, .ref a_op, .ref a_oi, .ref a_ov, .ref a_of, .ref a_ol, .ref a_om, .ref a_ow])), (a_od, .inl (y 0, lm_o, .inl v_od)), (a_ol, .inl (y 0, ll_o, .inl v_ol)), (a_om, .inl (y 0, lp_o, .inl R.2.1)), (a_ow, .inl (y 0, ln_o, .inl R.2.2.1)), (z, .inl (y 0, R.1, .inl R.2.2.2))])) A) args s 1 N A) (F0 m 0 ls [])
set_option maxHeartbeats 4000000 in
set_option maxRecDepth 100000 in
theorem B_X1_fillProducts_104 {p : Program} {l : Launch} {e : Env} {s : State} {m : MethodId} {args : Array Value} {below : List Frame} {meth : Method} {c : Code} {A : Nat → Prop} {D : va_G} {y : Nat → ClassId} {N : Nat} {a_o : Nat} {a_od : Nat} {a_op : Nat} {a_oi : Nat} {a_ov : Nat} {a_of : Nat} {a_ol : Nat} {a_om : Nat} {a_ow : Nat} {lm_o : Nat} {ll_o : Nat} {lp_o : Nat} {ln_o : Nat} {f_o_n : Int32} {f_o_many : Int32} {f_o_sets : Int32} {v_od : Nat → Int32} {v_ol : Nat → Int32} {R : Nat × (Nat → Int32) × (Nat → Int32) × (Nat → Int32)} (C : xC p s m args meth c A cX1_fillProducts RX1 wsX1_fillProducts 7 none D y) {κ76 : Int32 → Int32 → Nat → (Nat → Int32) → (Nat → Int32) → (Nat → Int32) → Option (Nat × (Nat → Int32) × (Nat → Int32) × (Nat → Int32))} (k76 : S_X1_fillProducts_76 p l e s m args below meth c A D y N a_o a_od a_op a_oi a_ov a_of a_ol a_om a_ow lm_o ll_o lp_o ln_o f_o_n f_o_many f_o_sets v_od v_ol R κ76) : ∀ f : Nat, S_X1_fillProducts_104 p l e s m args below meth c A D y N a_o a_od a_op a_oi a_ov a_of a_ol a_om a_ow lm_o ll_o lp_o ln_o f_o_n f_o_many f_o_sets v_od v_ol R (F_X1_fillProducts_104 lp_o f_o_many κ76 f) := by
  have C0 := C
  obtain ⟨hx, hb, hml, hown, hts, hr, hlocks, hK, hA⟩ := C
  intro f
  induction f with
  | zero =>
    intro a_ex x1 x3 x4 x5 x6 n_ex v_om v_ow v_ex H locs ls hP hD hS hl hN hB
    rw [Z_X1_fillProducts_104] at hB
    cases hB
  | succ f ih =>
    intro a_ex x1 x3 x4 x5 x6 n_ex v_om v_ow v_ex H locs ls hP hD hS hl hN hB
    rw [E_X1_fillProducts_104] at hB
    refine lv_iload hx hb dX1_fillProducts_104 (lv_at hl 6 rfl) ?_
    refine lv_aload_n hx hb dX1_fillProducts_106 rfl (lv_at hl 0 rfl) ?_
    refine va_get (D := D) (ci := 1) (v := .int f_o_many) (C := RX1) (T := TX1) (N := 11) hx hb hts kX1_fillProducts_wX1 hown hK hP 0 rfl rfl 1 (by decide) (hts _ kX1_fillProducts_f13) (fun _ h9 => h9) rfl dX1_fillProducts_107 ?_
    refine lv_icmp_ge (tgt := 148) hx hb dX1_fillProducts_110 (by decide) (fun c1 => ?_) (fun c1 => ?_)
    · have hB := xip c1 hB
      refine lv_iinc (v := x3 + 1) (lv' := [(3, .int (x3 + 1)), (0, .ref a_o), (1, .int x1), (2, .ref a_ex), (4, .int x4), (5, .int x5), (6, .int x6)]) hx hb dX1_fillProducts_148 hl (k := 3) rfl rfl (by decide) rfl (fun ls hl => ?_)
      refine lv_goto (tgt := 76) hx hb dX1_fillProducts_151 (by decide) ?_
      exact k76 a_ex x1 (x3 + 1) n_ex v_om v_ow v_ex H locs ls hP hD hS (lv_sub hl [1, 2, 3, 0] rfl) hN hB
    · have hB := xin c1 hB
      refine lv_aload_n hx hb dX1_fillProducts_113 rfl (lv_at hl 0 rfl) ?_
      refine va_get (D := D) (ci := 1) (v := .ref a_om) (C := RX1) (T := TX1) (N := 11) hx hb hts kX1_fillProducts_wX1 hown hK hP 0 rfl rfl 9 (by decide) (hts _ kX1_fillProducts_f38) (fun _ h9 => h9) rfl dX1_fillProducts_114 ?_
      refine lv_iload hx hb dX1_fillProducts_117 (lv_at hl 6 rfl) ?_
      refine lv_aload_n hx hb dX1_fillProducts_119 rfl (lv_at hl 0 rfl) ?_
      refine va_get (D := D) (ci := 1) (v := .int f_o_many) (C := RX1) (T := TX1) (N := 11) hx hb hts kX1_fillProducts_wX1 hown hK hP 0 rfl rfl 1 (by decide) (hts _ kX1_fillProducts_f13) (fun _ h9 => h9) rfl dX1_fillProducts_120 ?_
      refine lv_imul hx hb dX1_fillProducts_123 ?_
      refine lv_iload_n hx hb dX1_fillProducts_124 rfl (lv_at hl 3 rfl) ?_
      refine lv_iadd hx hb dX1_fillProducts_125 ?_
      refine lv_aload_n hx hb dX1_fillProducts_126 rfl (lv_at hl 2 rfl) ?_
      refine lv_aload_n hx hb dX1_fillProducts_127 rfl (lv_at hl 0 rfl) ?_
      refine lv_iload hx hb dX1_fillProducts_128 (lv_at hl 6 rfl) ?_
      refine lv_iload hx hb dX1_fillProducts_130 (lv_at hl 5 rfl) ?_
      obtain ⟨q2, e2, hB⟩ := xbd hB
      have hPc := hP.sub (ws' := [(a_o, .inr (1, [.int f_o_n, .int f_o_many, .int f_o_sets, .ref a_od, .ref a_op, .ref a_oi, .ref a_ov, .ref a_of, .ref a_ol, .ref a_om, .ref a_ow])), (a_om, .inl (y 0, lp_o, .inl v_om))]) [0, 3] rfl
      have hDc := hD.sub (ws' := [(a_o, .inr (1, [.int f_o_n, .int f_o_many, .int f_o_sets, .ref a_od, .ref a_op, .ref a_oi, .ref a_ov, .ref a_of, .ref a_ol, .ref a_om, .ref a_ow])), (a_om, .inl (y 0, lp_o, .inl v_om))]) [0, 3] (by decide) rfl
      refine xcalli (mc := 0) (ms := 0) (rv := q2) (wc := [(a_o, .inr (1, [.int f_o_n, .int f_o_many, .int f_o_sets, .ref a_od, .ref a_op, .ref a_oi, .ref a_ov, .ref a_of, .ref a_ol, .ref a_om, .ref a_ow])), (a_om, .inl (y 0, lp_o, .inl v_om))]) (wr := [(a_od, .inl (y 0, lm_o, .inl v_od)), (a_ol, .inl (y 0, ll_o, .inl v_ol)), (a_ow, .inl (y 0, ln_o, .inl v_ow)), (a_ex, .inl (y 0, n_ex, .inl v_ex))]) (w1 := [(a_o, .inr (1, [.int f_o_n, .int f_o_many, .int f_o_sets, .ref a_od, .ref a_op, .ref a_oi, .ref a_ov, .ref a_of, .ref a_ol, .ref a_om, .ref a_ow])), (a_om, .inl (y 0, lp_o, .inl v_om))]) (wf := [(a_o, .inr (1, [.int f_o_n, .int f_o_many, .int f_o_sets, .ref a_od, .ref a_op, .ref a_oi, .ref a_ov, .ref a_of, .ref a_ol, .ref a_om, .ref a_ow])), (a_od, .inl (y 0, lm_o, .inl v_od)), (a_ol, .inl (y 0, ll_o, .inl v_ol)), (a_om, .inl (y 0, lp_o, .inl v_om)), (a_ow, .inl (y 0, ln_o, .inl v_ow)), (a_ex, .inl (y 0, n_ex, .inl v_ex))]) (va_runV (As := [.int x6, .int x5]) (rest := [.ref a_ex, .int ((x6 * f_o_many) + x3), .ref a_om]) ⟨hx, hb, hml, hown, hts⟩ (c_X1_times l D y a_o a_od a_op a_oi a_ov a_of a_ol a_om a_ow lp_o f_o_n f_o_many f_o_sets v_om x6 x5 H.size e2) (cwV 2 hts gX1_fillProducts_X1_times rfl rfl rfl (by decide +kernel) ⟨Nat.le_of_ble_eq_true rfl, Nat.le_of_ble_eq_true rfl⟩) ⟨xblind, va_recv hK hP (ci := 1) (q0 := 0) rfl rfl, xprev hPc hK hDc⟩ rfl rfl hl.1 rfl (lv_room (Nat.le_of_ble_eq_true rfl)) dX1_fillProducts_132 ⟨Nat.le_of_ble_eq_true rfl, hN⟩) hP hD hS hA [0, 3] [1, 2, 4, 5] [4, 0, 1, 5, 2, 3] rfl rfl (by decide) (by decide) rfl (by decide) (fun H locs hP hD hS => ?_)
      refine lv_iload_n hx hb dX1_fillProducts_135 rfl (lv_at hl 1 rfl) ?_
      refine lv_imul hx hb dX1_fillProducts_136 ?_
      refine lv_iload hx hb dX1_fillProducts_137 (lv_at hl 4 rfl) ?_
      refine lv_iadd hx hb dX1_fillProducts_139 ?_
      obtain ⟨g3, hB⟩ := xg_some hB
      refine va_iald hx hb hK hP 5 0 rfl rfl g3 dX1_fillProducts_140 ?_
      obtain ⟨g4, hB⟩ := xg_some hB
      refine va_iast hx hb hK hP hD hS 3 0 rfl rfl g4 dX1_fillProducts_141 (fun H locs hP hD hS => ?_)
      have hP : va_P D vwCl [(a_o, .inr (1, [.int f_o_n, .int f_o_many, .int f_o_sets, .ref a_od, .ref a_op, .ref a_oi, .ref a_ov, .ref a_of, .ref a_ol, .ref a_om, .ref a_ow])), (a_od, .inl (y 0, lm_o, .inl v_od)), (a_ol, .inl (y 0, ll_o, .inl v_ol)), (a_om, .inl (y 0, lp_o, .inl (upd v_om ((x6 * f_o_many) + x3).toNatClampNeg (v_ex ((q2 * x1) + x4).toNatClampNeg)))), (a_ow, .inl (y 0, ln_o, .inl v_ow)), (a_ex, .inl (y 0, n_ex, .inl v_ex))] H := hP
      have hD : va_D A [(a_o, .inr (1, [.int f_o_n, .int f_o_many, .int f_o_sets, .ref a_od, .ref a_op, .ref a_oi, .ref a_ov, .ref a_of, .ref a_ol, .ref a_om, .ref a_ow])), (a_od, .inl (y 0, lm_o, .inl v_od)), (a_ol, .inl (y 0, ll_o, .inl v_ol)), (a_om, .inl (y 0, lp_o, .inl (upd v_om ((x6 * f_o_many) + x3).toNatClampNeg (v_ex ((q2 * x1) + x4).toNatClampNeg)))), (a_ow, .inl (y 0, ln_o, .inl v_ow)), (a_ex, .inl (y 0, n_ex, .inl v_ex))] := hD
      refine lv_iinc (v := x6 + 1) (lv' := [(6, .int (x6 + 1)), (0, .ref a_o), (1, .int x1), (2, .ref a_ex), (3, .int x3), (4, .int x4), (5, .int x5)]) hx hb dX1_fillProducts_142 hl (k := 6) rfl rfl (by decide) rfl (fun ls hl => ?_)
      refine lv_goto (tgt := 104) hx hb dX1_fillProducts_145 (by decide) ?_
      exact ih a_ex x1 x3 x4 x5 (x6 + 1) n_ex (upd v_om ((x6 * f_o_many) + x3).toNatClampNeg (v_ex ((q2 * x1) + x4).toNatClampNeg)) v_ow v_ex H locs ls hP hD hS (lv_sub hl [1, 2, 3, 4, 5, 6, 0] rfl) hN hB
set_option maxHeartbeats 4000000 in
set_option maxRecDepth 100000 in
theorem B_X1_fillProducts_76 {p : Program} {l : Launch} {e : Env} {s : State} {m : MethodId} {args : Array Value} {below : List Frame} {meth : Method} {c : Code} {A : Nat → Prop} {D : va_G} {y : Nat → ClassId} {N : Nat} {a_o : Nat} {a_od : Nat} {a_op : Nat} {a_oi : Nat} {a_ov : Nat} {a_of : Nat} {a_ol : Nat} {a_om : Nat} {a_ow : Nat} {lm_o : Nat} {ll_o : Nat} {lp_o : Nat} {ln_o : Nat} {f_o_n : Int32} {f_o_many : Int32} {f_o_sets : Int32} {v_od : Nat → Int32} {v_ol : Nat → Int32} {R : Nat × (Nat → Int32) × (Nat → Int32) × (Nat → Int32)} (C : xC p s m args meth c A cX1_fillProducts RX1 wsX1_fillProducts 7 none D y)  : ∀ f : Nat, S_X1_fillProducts_76 p l e s m args below meth c A D y N a_o a_od a_op a_oi a_ov a_of a_ol a_om a_ow lm_o ll_o lp_o ln_o f_o_n f_o_many f_o_sets v_od v_ol R (F_X1_fillProducts_76 lm_o lp_o f_o_n f_o_many v_od  f) := by
  have C0 := C
  obtain ⟨hx, hb, hml, hown, hts, hr, hlocks, hK, hA⟩ := C
  intro f
  induction f with
  | zero =>
    intro a_ex x1 x3 n_ex v_om v_ow v_ex H locs ls hP hD hS hl hN hB
    rw [Z_X1_fillProducts_76] at hB
    cases hB
  | succ f ih =>
    intro a_ex x1 x3 n_ex v_om v_ow v_ex H locs ls hP hD hS hl hN hB
    rw [E_X1_fillProducts_76] at hB
    refine lv_iload_n hx hb dX1_fillProducts_76 rfl (lv_at hl 3 rfl) ?_
    refine lv_aload_n hx hb dX1_fillProducts_77 rfl (lv_at hl 0 rfl) ?_
    refine va_get (D := D) (ci := 1) (v := .int f_o_many) (C := RX1) (T := TX1) (N := 11) hx hb hts kX1_fillProducts_wX1 hown hK hP 0 rfl rfl 1 (by decide) (hts _ kX1_fillProducts_f13) (fun _ h9 => h9) rfl dX1_fillProducts_78 ?_
    refine lv_icmp_ge (tgt := 154) hx hb dX1_fillProducts_81 (by decide) (fun c1 => ?_) (fun c1 => ?_)
    · have hB := xip c1 hB
      have hB := Option.some.inj hB
      subst hB
      refine W.widen (k := 1) (n := N) (Nat.le_of_ble_eq_true rfl) hN ?_
      exact W.vret hx hb hr (fun t ht hW => ⟨⟨(), rfl, trivial, a_ex, by rw [ht]; exact hP, va_K.moved hW.alike hK, hD⟩, hS.F ht⟩) hS.2.2 dX1_fillProducts_154 hlocks
    · have hB := xin c1 hB
      refine lv_aload_n hx hb dX1_fillProducts_84 rfl (lv_at hl 0 rfl) ?_
      refine lv_iload_n hx hb dX1_fillProducts_85 rfl (lv_at hl 3 rfl) ?_
      obtain ⟨q2, e2, hB⟩ := xbd hB
      have hPc := hP.sub (ws' := [(a_o, .inr (1, [.int f_o_n, .int f_o_many, .int f_o_sets, .ref a_od, .ref a_op, .ref a_oi, .ref a_ov, .ref a_of, .ref a_ol, .ref a_om, .ref a_ow])), (a_od, .inl (y 0, lm_o, .inl v_od))]) [0, 1] rfl
      have hDc := hD.sub (ws' := [(a_o, .inr (1, [.int f_o_n, .int f_o_many, .int f_o_sets, .ref a_od, .ref a_op, .ref a_oi, .ref a_ov, .ref a_of, .ref a_ol, .ref a_om, .ref a_ow])), (a_od, .inl (y 0, lm_o, .inl v_od))]) [0, 1] (by decide) rfl
      refine xcalli (mc := 0) (ms := 0) (rv := q2) (wc := [(a_o, .inr (1, [.int f_o_n, .int f_o_many, .int f_o_sets, .ref a_od, .ref a_op, .ref a_oi, .ref a_ov, .ref a_of, .ref a_ol, .ref a_om, .ref a_ow])), (a_od, .inl (y 0, lm_o, .inl v_od))]) (wr := [(a_ol, .inl (y 0, ll_o, .inl v_ol)), (a_om, .inl (y 0, lp_o, .inl v_om)), (a_ow, .inl (y 0, ln_o, .inl v_ow)), (a_ex, .inl (y 0, n_ex, .inl v_ex))]) (w1 := [(a_o, .inr (1, [.int f_o_n, .int f_o_many, .int f_o_sets, .ref a_od, .ref a_op, .ref a_oi, .ref a_ov, .ref a_of, .ref a_ol, .ref a_om, .ref a_ow])), (a_od, .inl (y 0, lm_o, .inl v_od))]) (wf := [(a_o, .inr (1, [.int f_o_n, .int f_o_many, .int f_o_sets, .ref a_od, .ref a_op, .ref a_oi, .ref a_ov, .ref a_of, .ref a_ol, .ref a_om, .ref a_ow])), (a_od, .inl (y 0, lm_o, .inl v_od)), (a_ol, .inl (y 0, ll_o, .inl v_ol)), (a_om, .inl (y 0, lp_o, .inl v_om)), (a_ow, .inl (y 0, ln_o, .inl v_ow)), (a_ex, .inl (y 0, n_ex, .inl v_ex))]) (va_runV (As := [.int x3]) (rest := []) ⟨hx, hb, hml, hown, hts⟩ (c_X1_firstDescent l D y a_o a_od a_op a_oi a_ov a_of a_ol a_om a_ow lm_o f_o_n f_o_many f_o_sets v_od x3 H.size e2) (cwV 1 hts gX1_fillProducts_X1_firstDescent rfl rfl rfl (by decide +kernel) ⟨Nat.le_of_ble_eq_true rfl, Nat.le_of_ble_eq_true rfl⟩) ⟨xblind, va_recv hK hP (ci := 1) (q0 := 0) rfl rfl, xprev hPc hK hDc⟩ rfl rfl hl.1 rfl (lv_room (Nat.le_of_ble_eq_true rfl)) dX1_fillProducts_86 ⟨Nat.le_of_ble_eq_true rfl, hN⟩) hP hD hS hA [0, 1] [2, 3, 4, 5] [4, 5, 0, 1, 2, 3] rfl rfl (by decide) (by decide) rfl (by decide) (fun H locs hP hD hS => ?_)
      refine lv_istore (lv' := [(4, .int q2), (0, .ref a_o), (1, .int x1), (2, .ref a_ex), (3, .int x3)]) hx hb dX1_fillProducts_89 hl (by decide) rfl (fun ls hl => ?_)
      refine lv_aload_n hx hb dX1_fillProducts_91 rfl (lv_at hl 3 rfl) ?_
      refine lv_iload_n hx hb dX1_fillProducts_92 rfl (lv_at hl 4 rfl) ?_
      refine lv_iload_n hx hb dX1_fillProducts_93 rfl (lv_at hl 2 rfl) ?_
      refine lv_imul hx hb dX1_fillProducts_94 ?_
      refine lv_iload hx hb dX1_fillProducts_95 (lv_at hl 0 rfl) ?_
      refine lv_iadd hx hb dX1_fillProducts_97 ?_
      obtain ⟨g3, hB⟩ := xg_some hB
      refine va_iald hx hb hK hP 5 0 rfl rfl g3 dX1_fillProducts_98 ?_
      refine lv_istore (lv' := [(5, .int (v_ex ((x3 * x1) + q2).toNatClampNeg)), (4, .int q2), (0, .ref a_o), (1, .int x1), (2, .ref a_ex), (3, .int x3)]) hx hb dX1_fillProducts_99 hl (by decide) rfl (fun ls hl => ?_)
      refine lv_iconst (v := 0) hx hb dX1_fillProducts_101 (by decide) ?_
      refine lv_istore (lv' := [(6, .int (0 : Int32)), (5, .int (v_ex ((x3 * x1) + q2).toNatClampNeg)), (4, .int q2), (0, .ref a_o), (1, .int x1), (2, .ref a_ex), (3, .int x3)]) hx hb dX1_fillProducts_102 hl (by decide) rfl (fun ls hl => ?_)
      exact B_X1_fillProducts_104 (N := N) C0 ih xF a_ex x1 x3 q2 (v_ex ((x3 * x1) + q2).toNatClampNeg) (0 : Int32) n_ex v_om v_ow v_ex H locs ls hP hD hS (lv_sub hl [3, 4, 5, 6, 2, 1, 0] rfl) hN hB
set_option maxHeartbeats 4000000 in
set_option maxRecDepth 100000 in
theorem B_X1_fillProducts_29 {p : Program} {l : Launch} {e : Env} {s : State} {m : MethodId} {args : Array Value} {below : List Frame} {meth : Method} {c : Code} {A : Nat → Prop} {D : va_G} {y : Nat → ClassId} {N : Nat} {a_o : Nat} {a_od : Nat} {a_op : Nat} {a_oi : Nat} {a_ov : Nat} {a_of : Nat} {a_ol : Nat} {a_om : Nat} {a_ow : Nat} {lm_o : Nat} {ll_o : Nat} {lp_o : Nat} {ln_o : Nat} {f_o_n : Int32} {f_o_many : Int32} {f_o_sets : Int32} {v_od : Nat → Int32} {v_ol : Nat → Int32} {R : Nat × (Nat → Int32) × (Nat → Int32) × (Nat → Int32)} (C : xC p s m args meth c A cX1_fillProducts RX1 wsX1_fillProducts 7 none D y) {κ18 : Int32 → Int32 → Nat → (Nat → Int32) → (Nat → Int32) → (Nat → Int32) → Option (Nat × (Nat → Int32) × (Nat → Int32) × (Nat → Int32))} (k18 : S_X1_fillProducts_18 p l e s m args below meth c A D y N a_o a_od a_op a_oi a_ov a_of a_ol a_om a_ow lm_o ll_o lp_o ln_o f_o_n f_o_many f_o_sets v_od v_ol R κ18) : ∀ f : Nat, S_X1_fillProducts_29 p l e s m args below meth c A D y N a_o a_od a_op a_oi a_ov a_of a_ol a_om a_ow lm_o ll_o lp_o ln_o f_o_n f_o_many f_o_sets v_od v_ol R (F_X1_fillProducts_29 ll_o lp_o ln_o f_o_n f_o_many v_ol κ18 f) := by
  have C0 := C
  obtain ⟨hx, hb, hml, hown, hts, hr, hlocks, hK, hA⟩ := C
  intro f
  induction f with
  | zero =>
    intro a_ex x1 x3 x4 n_ex v_om v_ow v_ex H locs ls hP hD hS hl hN hB
    rw [Z_X1_fillProducts_29] at hB
    cases hB
  | succ f ih =>
    intro a_ex x1 x3 x4 n_ex v_om v_ow v_ex H locs ls hP hD hS hl hN hB
    rw [E_X1_fillProducts_29] at hB
    refine lv_iload hx hb dX1_fillProducts_29 (lv_at hl 4 rfl) ?_
    refine lv_iload_n hx hb dX1_fillProducts_31 rfl (lv_at hl 1 rfl) ?_
    refine lv_icmp_ge (tgt := 56) hx hb dX1_fillProducts_32 (by decide) (fun c1 => ?_) (fun c1 => ?_)
    · have hB := xip c1 hB
      refine lv_aload_n hx hb dX1_fillProducts_56 rfl (lv_at hl 0 rfl) ?_
      refine va_get (D := D) (ci := 1) (v := .ref a_om) (C := RX1) (T := TX1) (N := 11) hx hb hts kX1_fillProducts_wX1 hown hK hP 0 rfl rfl 9 (by decide) (hts _ kX1_fillProducts_f38) (fun _ h9 => h9) rfl dX1_fillProducts_57 ?_
      refine lv_iload_n hx hb dX1_fillProducts_60 rfl (lv_at hl 3 rfl) ?_
      refine lv_aload_n hx hb dX1_fillProducts_61 rfl (lv_at hl 0 rfl) ?_
      refine va_get (D := D) (ci := 1) (v := .int f_o_many) (C := RX1) (T := TX1) (N := 11) hx hb hts kX1_fillProducts_wX1 hown hK hP 0 rfl rfl 1 (by decide) (hts _ kX1_fillProducts_f13) (fun _ h9 => h9) rfl dX1_fillProducts_62 ?_
      refine lv_imul hx hb dX1_fillProducts_65 ?_
      refine lv_iload_n hx hb dX1_fillProducts_66 rfl (lv_at hl 3 rfl) ?_
      obtain ⟨g2, hB⟩ := xg_some hB
      refine va_iast hx hb hK hP hD hS 3 0 rfl rfl g2 dX1_fillProducts_67 (fun H locs hP hD hS => ?_)
      have hP : va_P D vwCl [(a_o, .inr (1, [.int f_o_n, .int f_o_many, .int f_o_sets, .ref a_od, .ref a_op, .ref a_oi, .ref a_ov, .ref a_of, .ref a_ol, .ref a_om, .ref a_ow])), (a_od, .inl (y 0, lm_o, .inl v_od)), (a_ol, .inl (y 0, ll_o, .inl v_ol)), (a_om, .inl (y 0, lp_o, .inl (upd v_om (x3 * f_o_many).toNatClampNeg x3))), (a_ow, .inl (y 0, ln_o, .inl v_ow)), (a_ex, .inl (y 0, n_ex, .inl v_ex))] H := hP
      have hD : va_D A [(a_o, .inr (1, [.int f_o_n, .int f_o_many, .int f_o_sets, .ref a_od, .ref a_op, .ref a_oi, .ref a_ov, .ref a_of, .ref a_ol, .ref a_om, .ref a_ow])), (a_od, .inl (y 0, lm_o, .inl v_od)), (a_ol, .inl (y 0, ll_o, .inl v_ol)), (a_om, .inl (y 0, lp_o, .inl (upd v_om (x3 * f_o_many).toNatClampNeg x3))), (a_ow, .inl (y 0, ln_o, .inl v_ow)), (a_ex, .inl (y 0, n_ex, .inl v_ex))] := hD
      refine lv_iinc (v := x3 + 1) (lv' := [(3, .int (x3 + 1)), (0, .ref a_o), (1, .int x1), (2, .ref a_ex), (4, .int x4)]) hx hb dX1_fillProducts_68 hl (k := 3) rfl rfl (by decide) rfl (fun ls hl => ?_)
      refine lv_goto (tgt := 18) hx hb dX1_fillProducts_71 (by decide) ?_
      exact k18 a_ex x1 (x3 + 1) n_ex (upd v_om (x3 * f_o_many).toNatClampNeg x3) v_ow v_ex H locs ls hP hD hS (lv_sub hl [1, 2, 3, 0] rfl) hN hB
    · have hB := xin c1 hB
      refine lv_aload_n hx hb dX1_fillProducts_35 rfl (lv_at hl 2 rfl) ?_
      refine lv_iload_n hx hb dX1_fillProducts_36 rfl (lv_at hl 3 rfl) ?_
      refine lv_iload_n hx hb dX1_fillProducts_37 rfl (lv_at hl 1 rfl) ?_
      refine lv_imul hx hb dX1_fillProducts_38 ?_
      refine lv_iload hx hb dX1_fillProducts_39 (lv_at hl 4 rfl) ?_
      refine lv_iadd hx hb dX1_fillProducts_41 ?_
      refine lv_aload_n hx hb dX1_fillProducts_42 rfl (lv_at hl 0 rfl) ?_
      refine lv_iload_n hx hb dX1_fillProducts_43 rfl (lv_at hl 3 rfl) ?_
      refine lv_iload hx hb dX1_fillProducts_44 (lv_at hl 4 rfl) ?_
      obtain ⟨q3, e3, hB⟩ := xbd hB
      have hPc := hP.sub (ws' := [(a_o, .inr (1, [.int f_o_n, .int f_o_many, .int f_o_sets, .ref a_od, .ref a_op, .ref a_oi, .ref a_ov, .ref a_of, .ref a_ol, .ref a_om, .ref a_ow])), (a_ol, .inl (y 0, ll_o, .inl v_ol)), (a_ow, .inl (y 0, ln_o, .inl v_ow))]) [0, 2, 4] rfl
      have hDc := hD.sub (ws' := [(a_o, .inr (1, [.int f_o_n, .int f_o_many, .int f_o_sets, .ref a_od, .ref a_op, .ref a_oi, .ref a_ov, .ref a_of, .ref a_ol, .ref a_om, .ref a_ow])), (a_ol, .inl (y 0, ll_o, .inl v_ol)), (a_ow, .inl (y 0, ln_o, .inl v_ow))]) [0, 2, 4] (by decide) rfl
      refine xcalli (mc := 0) (ms := 0) (rv := q3.1) (wc := [(a_o, .inr (1, [.int f_o_n, .int f_o_many, .int f_o_sets, .ref a_od, .ref a_op, .ref a_oi, .ref a_ov, .ref a_of, .ref a_ol, .ref a_om, .ref a_ow])), (a_ol, .inl (y 0, ll_o, .inl v_ol)), (a_ow, .inl (y 0, ln_o, .inl v_ow))]) (wr := [(a_od, .inl (y 0, lm_o, .inl v_od)), (a_om, .inl (y 0, lp_o, .inl v_om)), (a_ex, .inl (y 0, n_ex, .inl v_ex))]) (w1 := [(a_o, .inr (1, [.int f_o_n, .int f_o_many, .int f_o_sets, .ref a_od, .ref a_op, .ref a_oi, .ref a_ov, .ref a_of, .ref a_ol, .ref a_om, .ref a_ow])), (a_ol, .inl (y 0, ll_o, .inl v_ol)), (a_ow, .inl (y 0, ln_o, .inl q3.2))]) (wf := [(a_o, .inr (1, [.int f_o_n, .int f_o_many, .int f_o_sets, .ref a_od, .ref a_op, .ref a_oi, .ref a_ov, .ref a_of, .ref a_ol, .ref a_om, .ref a_ow])), (a_od, .inl (y 0, lm_o, .inl v_od)), (a_ol, .inl (y 0, ll_o, .inl v_ol)), (a_om, .inl (y 0, lp_o, .inl v_om)), (a_ow, .inl (y 0, ln_o, .inl q3.2)), (a_ex, .inl (y 0, n_ex, .inl v_ex))]) (va_runV (As := [.int x3, .int x4]) (rest := [.int ((x3 * x1) + x4), .ref a_ex]) ⟨hx, hb, hml, hown, hts⟩ (c_X1_withExchanged l D y a_o a_od a_op a_oi a_ov a_of a_ol a_om a_ow ll_o ln_o f_o_n f_o_many f_o_sets v_ol v_ow x3 x4 H.size e3) (cwV 2 hts gX1_fillProducts_X1_withExchanged rfl rfl rfl (by decide +kernel) ⟨Nat.le_of_ble_eq_true rfl, Nat.le_of_ble_eq_true rfl⟩) ⟨xblind, va_recv hK hP (ci := 1) (q0 := 0) rfl rfl, xprev hPc hK hDc⟩ rfl rfl hl.1 rfl (lv_room (Nat.le_of_ble_eq_true rfl)) dX1_fillProducts_46 ⟨Nat.le_of_ble_eq_true rfl, hN⟩) hP hD hS hA [0, 2, 4] [1, 3, 5] [3, 0, 4, 1, 5, 2] rfl rfl (by decide) (by decide) rfl (by decide) (fun H locs hP hD hS => ?_)
      obtain ⟨g4, hB⟩ := xg_some hB
      refine va_iast hx hb hK hP hD hS 5 0 rfl rfl g4 dX1_fillProducts_49 (fun H locs hP hD hS => ?_)
      have hP : va_P D vwCl [(a_o, .inr (1, [.int f_o_n, .int f_o_many, .int f_o_sets, .ref a_od, .ref a_op, .ref a_oi, .ref a_ov, .ref a_of, .ref a_ol, .ref a_om, .ref a_ow])), (a_od, .inl (y 0, lm_o, .inl v_od)), (a_ol, .inl (y 0, ll_o, .inl v_ol)), (a_om, .inl (y 0, lp_o, .inl v_om)), (a_ow, .inl (y 0, ln_o, .inl q3.2)), (a_ex, .inl (y 0, n_ex, .inl (upd v_ex ((x3 * x1) + x4).toNatClampNeg q3.1)))] H := hP
      have hD : va_D A [(a_o, .inr (1, [.int f_o_n, .int f_o_many, .int f_o_sets, .ref a_od, .ref a_op, .ref a_oi, .ref a_ov, .ref a_of, .ref a_ol, .ref a_om, .ref a_ow])), (a_od, .inl (y 0, lm_o, .inl v_od)), (a_ol, .inl (y 0, ll_o, .inl v_ol)), (a_om, .inl (y 0, lp_o, .inl v_om)), (a_ow, .inl (y 0, ln_o, .inl q3.2)), (a_ex, .inl (y 0, n_ex, .inl (upd v_ex ((x3 * x1) + x4).toNatClampNeg q3.1)))] := hD
      refine lv_iinc (v := x4 + 1) (lv' := [(4, .int (x4 + 1)), (0, .ref a_o), (1, .int x1), (2, .ref a_ex), (3, .int x3)]) hx hb dX1_fillProducts_50 hl (k := 4) rfl rfl (by decide) rfl (fun ls hl => ?_)
      refine lv_goto (tgt := 29) hx hb dX1_fillProducts_53 (by decide) ?_
      exact ih a_ex x1 x3 (x4 + 1) n_ex v_om q3.2 (upd v_ex ((x3 * x1) + x4).toNatClampNeg q3.1) H locs ls hP hD hS (lv_sub hl [1, 2, 3, 4, 0] rfl) hN hB
set_option maxHeartbeats 4000000 in
set_option maxRecDepth 100000 in
theorem B_X1_fillProducts_18 {p : Program} {l : Launch} {e : Env} {s : State} {m : MethodId} {args : Array Value} {below : List Frame} {meth : Method} {c : Code} {A : Nat → Prop} {D : va_G} {y : Nat → ClassId} {N : Nat} {a_o : Nat} {a_od : Nat} {a_op : Nat} {a_oi : Nat} {a_ov : Nat} {a_of : Nat} {a_ol : Nat} {a_om : Nat} {a_ow : Nat} {lm_o : Nat} {ll_o : Nat} {lp_o : Nat} {ln_o : Nat} {f_o_n : Int32} {f_o_many : Int32} {f_o_sets : Int32} {v_od : Nat → Int32} {v_ol : Nat → Int32} {R : Nat × (Nat → Int32) × (Nat → Int32) × (Nat → Int32)} (C : xC p s m args meth c A cX1_fillProducts RX1 wsX1_fillProducts 7 none D y)  : ∀ f : Nat, S_X1_fillProducts_18 p l e s m args below meth c A D y N a_o a_od a_op a_oi a_ov a_of a_ol a_om a_ow lm_o ll_o lp_o ln_o f_o_n f_o_many f_o_sets v_od v_ol R (F_X1_fillProducts_18 lm_o ll_o lp_o ln_o f_o_n f_o_many v_od v_ol  f) := by
  have C0 := C
  obtain ⟨hx, hb, hml, hown, hts, hr, hlocks, hK, hA⟩ := C
  intro f
  induction f with
  | zero =>
    intro a_ex x1 x3 n_ex v_om v_ow v_ex H locs ls hP hD hS hl hN hB
    rw [Z_X1_fillProducts_18] at hB
    cases hB
  | succ f ih =>
    intro a_ex x1 x3 n_ex v_om v_ow v_ex H locs ls hP hD hS hl hN hB
    rw [E_X1_fillProducts_18] at hB
    refine lv_iload_n hx hb dX1_fillProducts_18 rfl (lv_at hl 3 rfl) ?_
    refine lv_aload_n hx hb dX1_fillProducts_19 rfl (lv_at hl 0 rfl) ?_
    refine va_get (D := D) (ci := 1) (v := .int f_o_many) (C := RX1) (T := TX1) (N := 11) hx hb hts kX1_fillProducts_wX1 hown hK hP 0 rfl rfl 1 (by decide) (hts _ kX1_fillProducts_f13) (fun _ h9 => h9) rfl dX1_fillProducts_20 ?_
    refine lv_icmp_ge (tgt := 74) hx hb dX1_fillProducts_23 (by decide) (fun c1 => ?_) (fun c1 => ?_)
    · have hB := xip c1 hB
      refine lv_iconst (v := 1) hx hb dX1_fillProducts_74 (by decide) ?_
      refine lv_istore_n (lv' := [(3, .int (1 : Int32)), (0, .ref a_o), (1, .int x1), (2, .ref a_ex)]) hx hb dX1_fillProducts_75 rfl hl (by decide) rfl (fun ls hl => ?_)
      exact B_X1_fillProducts_76 (N := N) C0 xF a_ex x1 (1 : Int32) n_ex v_om v_ow v_ex H locs ls hP hD hS (lv_sub hl [1, 2, 3, 0] rfl) hN hB
    · have hB := xin c1 hB
      refine lv_iconst (v := 0) hx hb dX1_fillProducts_26 (by decide) ?_
      refine lv_istore (lv' := [(4, .int (0 : Int32)), (0, .ref a_o), (1, .int x1), (2, .ref a_ex), (3, .int x3)]) hx hb dX1_fillProducts_27 hl (by decide) rfl (fun ls hl => ?_)
      exact B_X1_fillProducts_29 (N := N) C0 ih xF a_ex x1 x3 (0 : Int32) n_ex v_om v_ow v_ex H locs ls hP hD hS (lv_sub hl [1, 2, 3, 4, 0] rfl) hN hB
set_option maxHeartbeats 4000000 in
set_option maxRecDepth 100000 in
theorem B_X1_fillProducts_0 {p : Program} {l : Launch} {e : Env} {s : State} {m : MethodId} {args : Array Value} {below : List Frame} {meth : Method} {c : Code} {A : Nat → Prop} {D : va_G} {y : Nat → ClassId} {N : Nat} {a_o : Nat} {a_od : Nat} {a_op : Nat} {a_oi : Nat} {a_ov : Nat} {a_of : Nat} {a_ol : Nat} {a_om : Nat} {a_ow : Nat} {lm_o : Nat} {ll_o : Nat} {lp_o : Nat} {ln_o : Nat} {f_o_n : Int32} {f_o_many : Int32} {f_o_sets : Int32} {v_od : Nat → Int32} {v_ol : Nat → Int32} {R : Nat × (Nat → Int32) × (Nat → Int32) × (Nat → Int32)} (C : xC p s m args meth c A cX1_fillProducts RX1 wsX1_fillProducts 7 none D y)  : S_X1_fillProducts_0 p l e s m args below meth c A D y N a_o a_od a_op a_oi a_ov a_of a_ol a_om a_ow lm_o ll_o lp_o ln_o f_o_n f_o_many f_o_sets v_od v_ol R (F_X1_fillProducts N lm_o ll_o lp_o ln_o f_o_n f_o_many v_od v_ol ) := by
  have C0 := C
  obtain ⟨hx, hb, hml, hown, hts, hr, hlocks, hK, hA⟩ := C
  intro v_om v_ow H locs ls hP hD hS hl hN hB
  unfold F_X1_fillProducts at hB
  refine lv_aload_n hx hb dX1_fillProducts_0 rfl (lv_at hl 0 rfl) ?_
  refine va_get (D := D) (ci := 1) (v := .int f_o_n) (C := RX1) (T := TX1) (N := 11) hx hb hts kX1_fillProducts_wX1 hown hK hP 0 rfl rfl 0 (by decide) (hts _ kX1_fillProducts_f7) (fun _ h9 => h9) rfl dX1_fillProducts_1 ?_
  refine lv_iconst (v := 1) hx hb dX1_fillProducts_4 (by decide) ?_
  refine lv_isub hx hb dX1_fillProducts_5 ?_
  refine lv_istore_n (lv' := [(1, .int (f_o_n - (1 : Int32))), (0, .ref a_o)]) hx hb dX1_fillProducts_6 rfl hl (by decide) rfl (fun ls hl => ?_)
  refine lv_aload_n hx hb dX1_fillProducts_7 rfl (lv_at hl 1 rfl) ?_
  refine va_get (D := D) (ci := 1) (v := .int f_o_many) (C := RX1) (T := TX1) (N := 11) hx hb hts kX1_fillProducts_wX1 hown hK hP 0 rfl rfl 1 (by decide) (hts _ kX1_fillProducts_f13) (fun _ h9 => h9) rfl dX1_fillProducts_8 ?_
  refine lv_iload_n hx hb dX1_fillProducts_11 rfl (lv_at hl 0 rfl) ?_
  refine lv_imul hx hb dX1_fillProducts_12 ?_
  obtain ⟨g1n, g1s, g1b, hB⟩ := xn_some hB
  refine xnewI hx hb (hts _ kX1_fillProducts_aI) hK hP hD hS hA (N' := (f_o_many * (f_o_n - (1 : Int32))).toNatClampNeg) g1n rfl (by omega) (Nat.le_of_ble_eq_true rfl) g1s dX1_fillProducts_13 (fun a_ex H hP hD hS => ?_)
  have hP : va_P D vwCl [(a_o, .inr (1, [.int f_o_n, .int f_o_many, .int f_o_sets, .ref a_od, .ref a_op, .ref a_oi, .ref a_ov, .ref a_of, .ref a_ol, .ref a_om, .ref a_ow])), (a_od, .inl (y 0, lm_o, .inl v_od)), (a_ol, .inl (y 0, ll_o, .inl v_ol)), (a_om, .inl (y 0, lp_o, .inl v_om)), (a_ow, .inl (y 0, ln_o, .inl v_ow)), (a_ex, .inl (y 0, ((f_o_many * (f_o_n - (1 : Int32))).toNatClampNeg), .inl (fun _ => (0 : Int32))))] H := hP
  have hD : va_D A [(a_o, .inr (1, [.int f_o_n, .int f_o_many, .int f_o_sets, .ref a_od, .ref a_op, .ref a_oi, .ref a_ov, .ref a_of, .ref a_ol, .ref a_om, .ref a_ow])), (a_od, .inl (y 0, lm_o, .inl v_od)), (a_ol, .inl (y 0, ll_o, .inl v_ol)), (a_om, .inl (y 0, lp_o, .inl v_om)), (a_ow, .inl (y 0, ln_o, .inl v_ow)), (a_ex, .inl (y 0, ((f_o_many * (f_o_n - (1 : Int32))).toNatClampNeg), .inl (fun _ => (0 : Int32))))] := hD
  refine lv_astore_n (lv' := [(2, .ref a_ex), (1, .int (f_o_n - (1 : Int32))), (0, .ref a_o)]) hx hb dX1_fillProducts_15 rfl hl (by decide) rfl (fun ls hl => ?_)
  refine lv_iconst (v := 0) hx hb dX1_fillProducts_16 (by decide) ?_
  refine lv_istore_n (lv' := [(3, .int (0 : Int32)), (2, .ref a_ex), (1, .int (f_o_n - (1 : Int32))), (0, .ref a_o)]) hx hb dX1_fillProducts_17 rfl hl (by decide) rfl (fun ls hl => ?_)
  exact B_X1_fillProducts_18 (N := N) C0 xF a_ex (f_o_n - (1 : Int32)) (0 : Int32) ((f_o_many * (f_o_n - (1 : Int32))).toNatClampNeg) v_om v_ow (fun _ => (0 : Int32)) H locs ls hP hD hS (lv_sub hl [3, 2, 1, 0] rfl) g1s hB
set_option maxHeartbeats 4000000 in
set_option maxRecDepth 100000 in
theorem c_X1_fillProducts (l : Launch) (D : va_G) (y : Nat → ClassId) (N : Nat) (a_o : Nat) (a_od : Nat) (a_op : Nat) (a_oi : Nat) (a_ov : Nat) (a_of : Nat) (a_ol : Nat) (a_om : Nat) (a_ow : Nat) (lm_o : Nat) (ll_o : Nat) (lp_o : Nat) (ln_o : Nat) (f_o_n : Int32) (f_o_many : Int32) (f_o_sets : Int32) (v_od : Nat → Int32) (v_ol : Nat → Int32) (v_om : Nat → Int32) (v_ow : Nat → Int32)  (sz : Nat) {R : Nat × (Nat → Int32) × (Nat → Int32) × (Nat → Int32)} (hF : F_X1_fillProducts N lm_o ll_o lp_o ln_o f_o_n f_o_many v_od v_ol v_om v_ow = some R) : Met l yX1_fillProducts wsX1_fillProducts ({ frames := 3, cells := 1, slots := N, locals := 70 } : Room) (xPre D y sz [.ref a_o] [(a_o, .inr (1, [.int f_o_n, .int f_o_many, .int f_o_sets, .ref a_od, .ref a_op, .ref a_oi, .ref a_ov, .ref a_of, .ref a_ol, .ref a_om, .ref a_ow])), (a_od, .inl (y 0, lm_o, .inl v_od)), (a_ol, .inl (y 0, ll_o, .inl v_ol)), (a_om, .inl (y 0, lp_o, .inl v_om)), (a_ow, .inl (y 0, ln_o, .inl v_ow))]) (va_Qv (fun (_ : Unit) => True) (xBz D y (va_A [(a_o, .inr (1, [.int f_o_n, .int f_o_many, .int f_o_sets, .ref a_od, .ref a_op, .ref a_oi, .ref a_ov, .ref a_of, .ref a_ol, .ref a_om, .ref a_ow])), (a_od, .inl (y 0, lm_o, .inl v_od)), (a_ol, .inl (y 0, ll_o, .inl v_ol)), (a_om, .inl (y 0, lp_o, .inl v_om)), (a_ow, .inl (y 0, ln_o, .inl v_ow))] sz) (fun z : Nat => [(a_o, .inr (1, [.int f_o_n, .int f_o_many, .int f_o_sets, .ref a_od, .ref a_op, .ref a_oi, .ref a_ov, .ref a_of, .ref a_ol, .ref a_om, .ref a_ow])), (a_od, .inl (y 0, lm_o, .inl v_od)), (a_ol, .inl (y 0, ll_o, .inl v_ol)), (a_om, .inl (y 0, lp_o, .inl R.2.1)), (a_ow, .inl (y 0, ln_o, .inl R.2.2.1)), (z, .inl (y 0, R.1, .inl R.2.2.2))])) (va_A [(a_o, .inr (1, [.int f_o_n, .int f_o_many, .int f_o_sets, .ref a_od, .ref a_op, .ref a_oi, .ref a_ov, .ref a_of, .ref a_ol, .ref a_om, .ref a_ow])), (a_od, .inl (y 0, lm_o, .inl v_od)), (a_ol, .inl (y 0, ll_o, .inl v_ol)), (a_om, .inl (y 0, lp_o, .inl v_om)), (a_ow, .inl (y 0, ln_o, .inl v_ow))] sz)) 1 N (va_A [(a_o, .inr (1, [.int f_o_n, .int f_o_many, .int f_o_sets, .ref a_od, .ref a_op, .ref a_oi, .ref a_ov, .ref a_of, .ref a_ol, .ref a_om, .ref a_ow])), (a_od, .inl (y 0, lm_o, .inl v_od)), (a_ol, .inl (y 0, ll_o, .inl v_ol)), (a_om, .inl (y 0, lp_o, .inl v_om)), (a_ow, .inl (y 0, ln_o, .inl v_ow))] sz) := by
  refine Met.ofW (cc := cX1_fillProducts) (maxL := 7) (ret := none) (by decide) rfl ?_
  intro p e s m args below meth c s₁ B hml hv
  obtain ⟨rfl, hsz, hP, hK, hD0⟩ := hv
  subst hsz
  have hD := hD0.self (sz := s.heap.size)
  have C : xC p s m [.ref a_o].toArray meth c (va_A [(a_o, .inr (1, [.int f_o_n, .int f_o_many, .int f_o_sets, .ref a_od, .ref a_op, .ref a_oi, .ref a_ov, .ref a_of, .ref a_ol, .ref a_om, .ref a_ow])), (a_od, .inl (y 0, lm_o, .inl v_od)), (a_ol, .inl (y 0, ll_o, .inl v_ol)), (a_om, .inl (y 0, lp_o, .inl v_om)), (a_ow, .inl (y 0, ln_o, .inl v_ow))] s.heap.size) cX1_fillProducts RX1 wsX1_fillProducts 7 none D y := ⟨B.exec, B.bytes, hml, findClass_of_methodNamed B.named, atoms_spec (ws := wsX1_fillProducts) B.pre, B.returns, B.notSynchronized, hK, fun q h => Or.inr h⟩
  have hl := lv_entry ([.ref a_o]) (n := 7) (Nat.le_of_ble_eq_true rfl)
  rw [lg_entry_eq]
  generalize (lg_sl ([.ref a_o]) ++ List.replicate (7 - (lg_sl ([.ref a_o])).length) Slot.unset).toArray = ls at hl ⊢
  have hl : lv_has ls 7 [(0, .ref a_o)] := hl
  exact B_X1_fillProducts_0 (N := N) C v_om v_ow s.heap [] ls hP hD va_S.rf hl (Nat.zero_le N) hF
theorem kX1_init_oi1 : Cond.methodLink RX1 1 objectInit ∈ wsX1_init := by decide +kernel
theorem kX1_init_oi2 : Cond.instanceMethod objectInit ∈ wsX1_init := by decide +kernel
theorem kX1_init_oi3 : Cond.code objectInit ⟨#[0xb1]⟩ 1 none ∈ wsX1_init := by decide +kernel
theorem kX1_init_aI : Cond.arrayClass .int ∈ wsX1_init := by decide +kernel
theorem kX1_init_f7 : Cond.fieldLink RX1 7 "DescentShuffles$Orders" "n" "I" ∈ wsX1_init := by decide +kernel
theorem kX1_init_wX1 : ∀ w ∈ u_ws RX1 TX1 11, w ∈ wsX1_init := by decide +kernel
theorem kX1_init_f13 : Cond.fieldLink RX1 13 "DescentShuffles$Orders" "many" "I" ∈ wsX1_init := by decide +kernel
theorem kX1_init_f16 : Cond.fieldLink RX1 16 "DescentShuffles$Orders" "sets" "I" ∈ wsX1_init := by decide +kernel
theorem kX1_init_f19 : Cond.fieldLink RX1 19 "DescentShuffles$Orders" "descents" "[I" ∈ wsX1_init := by decide +kernel
theorem kX1_init_f23 : Cond.fieldLink RX1 23 "DescentShuffles$Orders" "peaks" "[I" ∈ wsX1_init := by decide +kernel
theorem kX1_init_f26 : Cond.fieldLink RX1 26 "DescentShuffles$Orders" "inversions" "[I" ∈ wsX1_init := by decide +kernel
theorem kX1_init_f29 : Cond.fieldLink RX1 29 "DescentShuffles$Orders" "inverses" "[I" ∈ wsX1_init := by decide +kernel
theorem kX1_init_f32 : Cond.fieldLink RX1 32 "DescentShuffles$Orders" "firsts" "[I" ∈ wsX1_init := by decide +kernel
theorem kX1_init_f35 : Cond.fieldLink RX1 35 "DescentShuffles$Orders" "letters" "[I" ∈ wsX1_init := by decide +kernel
theorem kX1_init_f38 : Cond.fieldLink RX1 38 "DescentShuffles$Orders" "products" "[I" ∈ wsX1_init := by decide +kernel
theorem kX1_init_f41 : Cond.fieldLink RX1 41 "DescentShuffles$Orders" "row" "[I" ∈ wsX1_init := by decide +kernel
def S_X1_init_133 (p : Program) (l : Launch) (e : Env) (s : State) (m : MethodId) (args : Array Value) (below : List Frame) (meth : Method) (c : Code) (A : Nat → Prop) (D : va_G) (y : Nat → ClassId) (N : Nat) (a_o : Nat) (p1 : Int32) (R : Nat × Nat × Nat × Nat × Nat × Nat × Int32 × Int32 × Int32 × (Nat → Int32) × (Nat → Int32) × (Nat → Int32) × (Nat → Int32) × (Nat → Int32) × (Nat → Int32) × (Nat → Int32) × (Nat → Int32) × (Nat → Int32)) (κ : Int32 → Nat → Nat → Nat → Nat → Nat → Int32 → Int32 → Int32 → (Nat → Int32) → (Nat → Int32) → (Nat → Int32) → (Nat → Int32) → (Nat → Int32) → (Nat → Int32) → (Nat → Int32) → (Nat → Int32) → Option (Nat × Nat × Nat × Nat × Nat × Nat × Int32 × Int32 × Int32 × (Nat → Int32) × (Nat → Int32) × (Nat → Int32) × (Nat → Int32) × (Nat → Int32) × (Nat → Int32) × (Nat → Int32) × (Nat → Int32) × (Nat → Int32))) : Prop := ∀ (a_od : Nat) (a_op : Nat) (a_oi : Nat) (a_ov : Nat) (a_of : Nat) (a_ol : Nat) (a_om : Nat) (a_ow : Nat) (x3 : Int32) (lm_o : Nat) (ls_o : Nat) (ll_o : Nat) (lp_o : Nat) (ln_o : Nat) (f_o_n : Int32) (f_o_many : Int32) (f_o_sets : Int32) (v_od : Nat → Int32) (v_op : Nat → Int32) (v_oi : Nat → Int32) (v_ov : Nat → Int32) (v_of : Nat → Int32) (v_ol : Nat → Int32) (v_om : Nat → Int32) (v_ow : Nat → Int32) (H : Heap) (locs : List Loc) (ls : Array Slot), va_P D vwCl [(a_o, .inr (1, [.int f_o_n, .int f_o_many, .int f_o_sets, .ref a_od, .ref a_op, .ref a_oi, .ref a_ov, .ref a_of, .ref a_ol, .ref a_om, .ref a_ow])), (a_od, .inl (y 0, lm_o, .inl v_od)), (a_op, .inl (y 0, lm_o, .inl v_op)), (a_oi, .inl (y 0, lm_o, .inl v_oi)), (a_ov, .inl (y 0, lm_o, .inl v_ov)), (a_of, .inl (y 0, ls_o, .inl v_of)), (a_ol, .inl (y 0, ll_o, .inl v_ol)), (a_om, .inl (y 0, lp_o, .inl v_om)), (a_ow, .inl (y 0, ln_o, .inl v_ow))] H → va_D A [(a_o, .inr (1, [.int f_o_n, .int f_o_many, .int f_o_sets, .ref a_od, .ref a_op, .ref a_oi, .ref a_ov, .ref a_of, .ref a_ol, .ref a_om, .ref a_ow])), (a_od, .inl (y 0, lm_o, .inl v_od)), (a_op, .inl (y 0, lm_o, .inl v_op)), (a_oi, .inl (y 0, lm_o, .inl v_oi)), (a_ov, .inl (y 0, lm_o, .inl v_ov)), (a_of, .inl (y 0, ls_o, .inl v_of)), (a_ol, .inl (y 0, ll_o, .inl v_ol)), (a_om, .inl (y 0, lp_o, .inl v_om)), (a_ow, .inl (y 0, ln_o, .inl v_ow))] → va_S A s.heap H locs → lv_has ls 4 [(0, .ref a_o), (3, .int x3)] → 0 + lm_o + lm_o + lm_o + lm_o + ls_o + ll_o + lp_o + ln_o ≤ N → κ x3 lm_o ls_o ll_o lp_o ln_o f_o_n f_o_many f_o_sets v_od v_op v_oi v_ov v_of v_ol v_om v_ow = some R → W p l e ({ frames := 4, cells := 9, slots := N, locals := 96 } : Room) s m args below meth c H locs 8 (0 + lm_o + lm_o + lm_o + lm_o + ls_o + ll_o + lp_o + ln_o) (MQ below (va_Qv (fun (_ : Unit) => True) (xBz D y A (fun z : Nat × Nat × Nat × Nat × Nat × Nat × Nat × Nat × Nat => [(a_o, .inr (1, [.int R.2.2.2.2.2.2.1, .int R.2.2.2.2.2.2.2.1, .int R.2.2.2.2.2.2.2.2.1, .ref z.1, .ref z.2.1, .ref z.2.2.1, .ref z.2.2.2.1, .ref z.2.2.2.2.1, .ref z.2.2.2.2.2.1, .ref z.2.2.2.2.2.2.1, .ref z.2.2.2.2.2.2.2.1])), (z.1, .inl (y 0, R.1, .inl R.2.2.2.2.2.2.2.2.2.1)), (z.2.1, .inl (y 0, R.1, .inl R.2.2.2.2.2.2.2.2.2.2.1)), (z.2.2.1, .inl (y 0, R.1, .inl R.2.2.2.2.2.2.2.2.2.2.2.1)), (z.2.2.2.1, .inl (y 0, R.1, .inl R.2.2.2.2.2.2.2.2.2.2.2.2.1)), (z.2.2.2.2.1, .inl (y 0, R.2.1, .inl R.2.2.2.2.2.2.2.2.2.2.2.2.2.1)), (z.2.2.2.2.2.1, .inl (y 0, R.2.2.1, .inl R.2.2.2.2.2.2.2.2.2.2.2.2.2.2.1)), (z.2.2.2.2.2.2.1, .inl (y 0, R.2.2.2.1, .inl R.2.2.2.2.2.2.2.2.2.2.2.2.2.2.2.1)), (z.2.2.2.2.2.2.2.1, .inl (y 0, R.2.2.2.2.1, .inl R.2.2.2.2.2.2.2.2.2.2.2.2.2.2.2.2.1)), (z.2.2.2.2.2.2.2.2, .inl (y 0, R.2.2.2.2.2.1, .inl R.2.2.2.2.2.2.2.2.2.2.2.2.2.2.2.2.2))])) A) args s 9 N A) (F0 m 133 ls [])
def S_X1_init_13 (p : Program) (l : Launch) (e : Env) (s : State) (m : MethodId) (args : Array Value) (below : List Frame) (meth : Method) (c : Code) (A : Nat → Prop) (D : va_G) (y : Nat → ClassId) (N : Nat) (a_o : Nat) (p1 : Int32) (R : Nat × Nat × Nat × Nat × Nat × Nat × Int32 × Int32 × Int32 × (Nat → Int32) × (Nat → Int32) × (Nat → Int32) × (Nat → Int32) × (Nat → Int32) × (Nat → Int32) × (Nat → Int32) × (Nat → Int32) × (Nat → Int32)) (κ : Int32 → Int32 → Int32 → Int32 → Int32 → Option (Nat × Nat × Nat × Nat × Nat × Nat × Int32 × Int32 × Int32 × (Nat → Int32) × (Nat → Int32) × (Nat → Int32) × (Nat → Int32) × (Nat → Int32) × (Nat → Int32) × (Nat → Int32) × (Nat → Int32) × (Nat → Int32))) : Prop := ∀ (x2 : Int32) (x3 : Int32) (f_o_n : Int32) (f_o_many : Int32) (f_o_sets : Int32) (H : Heap) (locs : List Loc) (ls : Array Slot), va_P D vwCl [(a_o, .inr (1, [.int f_o_n, .int f_o_many, .int f_o_sets, .null, .null, .null, .null, .null, .null, .null, .null]))] H → va_D A [(a_o, .inr (1, [.int f_o_n, .int f_o_many, .int f_o_sets, .null, .null, .null, .null, .null, .null, .null, .null]))] → va_S A s.heap H locs → lv_has ls 4 [(0, .ref a_o), (1, .int p1), (2, .int x2), (3, .int x3)] → 0 ≤ N → κ x2 x3 f_o_n f_o_many f_o_sets = some R → W p l e ({ frames := 4, cells := 9, slots := N, locals := 96 } : Room) s m args below meth c H locs 0 0 (MQ below (va_Qv (fun (_ : Unit) => True) (xBz D y A (fun z : Nat × Nat × Nat × Nat × Nat × Nat × Nat × Nat × Nat => [(a_o, .inr (1, [.int R.2.2.2.2.2.2.1, .int R.2.2.2.2.2.2.2.1, .int R.2.2.2.2.2.2.2.2.1, .ref z.1, .ref z.2.1, .ref z.2.2.1, .ref z.2.2.2.1, .ref z.2.2.2.2.1, .ref z.2.2.2.2.2.1, .ref z.2.2.2.2.2.2.1, .ref z.2.2.2.2.2.2.2.1])), (z.1, .inl (y 0, R.1, .inl R.2.2.2.2.2.2.2.2.2.1)), (z.2.1, .inl (y 0, R.1, .inl R.2.2.2.2.2.2.2.2.2.2.1)), (z.2.2.1, .inl (y 0, R.1, .inl R.2.2.2.2.2.2.2.2.2.2.2.1)), (z.2.2.2.1, .inl (y 0, R.1, .inl R.2.2.2.2.2.2.2.2.2.2.2.2.1)), (z.2.2.2.2.1, .inl (y 0, R.2.1, .inl R.2.2.2.2.2.2.2.2.2.2.2.2.2.1)), (z.2.2.2.2.2.1, .inl (y 0, R.2.2.1, .inl R.2.2.2.2.2.2.2.2.2.2.2.2.2.2.1)), (z.2.2.2.2.2.2.1, .inl (y 0, R.2.2.2.1, .inl R.2.2.2.2.2.2.2.2.2.2.2.2.2.2.2.1)), (z.2.2.2.2.2.2.2.1, .inl (y 0, R.2.2.2.2.1, .inl R.2.2.2.2.2.2.2.2.2.2.2.2.2.2.2.2.1)), (z.2.2.2.2.2.2.2.2, .inl (y 0, R.2.2.2.2.2.1, .inl R.2.2.2.2.2.2.2.2.2.2.2.2.2.2.2.2.2))])) A) args s 9 N A) (F0 m 13 ls [])
def S_X1_init_0 (p : Program) (l : Launch) (e : Env) (s : State) (m : MethodId) (args : Array Value) (below : List Frame) (meth : Method) (c : Code) (A : Nat → Prop) (D : va_G) (y : Nat → ClassId) (N : Nat) (a_o : Nat) (p1 : Int32) (R : Nat × Nat × Nat × Nat × Nat × Nat × Int32 × Int32 × Int32 × (Nat → Int32) × (Nat → Int32) × (Nat → Int32) × (Nat → Int32) × (Nat → Int32) × (Nat → Int32) × (Nat → Int32) × (Nat → Int32) × (Nat → Int32)) (κ : Option (Nat × Nat × Nat × Nat × Nat × Nat × Int32 × Int32 × Int32 × (Nat → Int32) × (Nat → Int32) × (Nat → Int32) × (Nat → Int32) × (Nat → Int32) × (Nat → Int32) × (Nat → Int32) × (Nat → Int32) × (Nat → Int32))) : Prop := ∀ (H : Heap) (locs : List Loc) (ls : Array Slot), va_P D vwCl [(a_o, .inr (1, [.int (0 : Int32), .int (0 : Int32), .int (0 : Int32), .null, .null, .null, .null, .null, .null, .null, .null]))] H → va_D A [(a_o, .inr (1, [.int (0 : Int32), .int (0 : Int32), .int (0 : Int32), .null, .null, .null, .null, .null, .null, .null, .null]))] → va_S A s.heap H locs → lv_has ls 4 [(0, .ref a_o), (1, .int p1)] → 0 ≤ N → κ = some R → W p l e ({ frames := 4, cells := 9, slots := N, locals := 96 } : Room) s m args below meth c H locs 0 0 (MQ below (va_Qv (fun (_ : Unit) => True) (xBz D y A (fun z : Nat × Nat × Nat × Nat × Nat × Nat × Nat × Nat × Nat => [(a_o, .inr (1, [.int R.2.2.2.2.2.2.1, .int R.2.2.2.2.2.2.2.1, .int R.2.2.2.2.2.2.2.2.1, .ref z.1, .ref z.2.1, .ref z.2.2.1, .ref z.2.2.2.1, .ref z.2.2.2.2.1, .ref z.2.2.2.2.2.1, .ref z.2.2.2.2.2.2.1, .ref z.2.2.2.2.2.2.2.1])), (z.1, .inl (y 0, R.1, .inl R.2.2.2.2.2.2.2.2.2.1)), (z.2.1, .inl (y 0, R.1, .inl R.2.2.2.2.2.2.2.2.2.2.1)), (z.2.2.1, .inl (y 0, R.1, .inl R.2.2.2.2.2.2.2.2.2.2.2.1)), (z.2.2.2.1, .inl (y 0, R.1, .inl R.2.2.2.2.2.2.2.2.2.2.2.2.1)), (z.2.2.2.2.1, .inl (y 0, R.2.1, .inl R.2.2.2.2.2.2.2.2.2.2.2.2.2.1)), (z.2.2.2.2.2.1, .inl (y 0, R.2.2.1, .inl R.2.2.2.2.2.2.2.2.2.2.2.2.2.2.1)), (z.2.2.2.2.2.2.1, .inl (y 0, R.2.2.2.1, .inl R.2.2.2.2.2.2.2.2.2.2.2.2.2.2.2.1)), (z.2.2.2.2.2.2.2.1, .inl (y 0, R.2.2.2.2.1, .inl R.2.2.2.2.2.2.2.2.2.2.2.2.2.2.2.2.1)), (z.2.2.2.2.2.2.2.2, .inl (y 0, R.2.2.2.2.2.1, .inl R.2.2.2.2.2.2.2.2.2.2.2.2.2.2.2.2.2))])) A) args s 9 N A) (F0 m 0 ls [])
set_option maxHeartbeats 4000000 in
set_option maxRecDepth 100000 in
theorem B_X1_init_133 {p : Program} {l : Launch} {e : Env} {s : State} {m : MethodId} {args : Array Value} {below : List Frame} {meth : Method} {c : Code} {A : Nat → Prop} {D : va_G} {y : Nat → ClassId} {N : Nat} {a_o : Nat} {p1 : Int32} {R : Nat × Nat × Nat × Nat × Nat × Nat × Int32 × Int32 × Int32 × (Nat → Int32) × (Nat → Int32) × (Nat → Int32) × (Nat → Int32) × (Nat → Int32) × (Nat → Int32) × (Nat → Int32) × (Nat → Int32) × (Nat → Int32)} (C : xC p s m args meth c A cX1_init RX1 wsX1_init 4 none D y) (hin : meth.name = "<init>")  : ∀ f : Nat, S_X1_init_133 p l e s m args below meth c A D y N a_o p1 R (F_X1_init_133 N  f) := by
  have C0 := C
  obtain ⟨hx, hb, hml, hown, hts, hr, hlocks, hK, hA⟩ := C
  intro f
  induction f with
  | zero =>
    intro a_od a_op a_oi a_ov a_of a_ol a_om a_ow x3 lm_o ls_o ll_o lp_o ln_o f_o_n f_o_many f_o_sets v_od v_op v_oi v_ov v_of v_ol v_om v_ow H locs ls hP hD hS hl hN hB
    rw [Z_X1_init_133] at hB
    cases hB
  | succ f ih =>
    intro a_od a_op a_oi a_ov a_of a_ol a_om a_ow x3 lm_o ls_o ll_o lp_o ln_o f_o_n f_o_many f_o_sets v_od v_op v_oi v_ov v_of v_ol v_om v_ow H locs ls hP hD hS hl hN hB
    rw [E_X1_init_133] at hB
    refine lv_iload_n hx hb dX1_init_133 rfl (lv_at hl 1 rfl) ?_
    refine lv_if_lt (tgt := 165) hx hb dX1_init_134 (by decide) (fun c1 => ?_) (fun c1 => ?_)
    · have hB := xip c1 hB
      refine lv_aload_n hx hb dX1_init_165 rfl (lv_at hl 0 rfl) ?_
      obtain ⟨q2, e2, hB⟩ := xbd hB
      have hPc := hP.sub (ws' := [(a_o, .inr (1, [.int f_o_n, .int f_o_many, .int f_o_sets, .ref a_od, .ref a_op, .ref a_oi, .ref a_ov, .ref a_of, .ref a_ol, .ref a_om, .ref a_ow])), (a_od, .inl (y 0, lm_o, .inl v_od)), (a_ol, .inl (y 0, ll_o, .inl v_ol)), (a_om, .inl (y 0, lp_o, .inl v_om)), (a_ow, .inl (y 0, ln_o, .inl v_ow))]) [0, 1, 6, 7, 8] rfl
      have hDc := hD.sub (ws' := [(a_o, .inr (1, [.int f_o_n, .int f_o_many, .int f_o_sets, .ref a_od, .ref a_op, .ref a_oi, .ref a_ov, .ref a_of, .ref a_ol, .ref a_om, .ref a_ow])), (a_od, .inl (y 0, lm_o, .inl v_od)), (a_ol, .inl (y 0, ll_o, .inl v_ol)), (a_om, .inl (y 0, lp_o, .inl v_om)), (a_ow, .inl (y 0, ln_o, .inl v_ow))]) [0, 1, 6, 7, 8] (by decide) rfl
      refine xcallc (Z := Nat) (mc := 1) (ms := (N - (0 + lm_o + lm_o + lm_o + lm_o + ls_o + ll_o + lp_o + ln_o))) (wc := [(a_o, .inr (1, [.int f_o_n, .int f_o_many, .int f_o_sets, .ref a_od, .ref a_op, .ref a_oi, .ref a_ov, .ref a_of, .ref a_ol, .ref a_om, .ref a_ow])), (a_od, .inl (y 0, lm_o, .inl v_od)), (a_ol, .inl (y 0, ll_o, .inl v_ol)), (a_om, .inl (y 0, lp_o, .inl v_om)), (a_ow, .inl (y 0, ln_o, .inl v_ow))]) (wr := [(a_op, .inl (y 0, lm_o, .inl v_op)), (a_oi, .inl (y 0, lm_o, .inl v_oi)), (a_ov, .inl (y 0, lm_o, .inl v_ov)), (a_of, .inl (y 0, ls_o, .inl v_of))]) (w1 := fun z => [(a_o, .inr (1, [.int f_o_n, .int f_o_many, .int f_o_sets, .ref a_od, .ref a_op, .ref a_oi, .ref a_ov, .ref a_of, .ref a_ol, .ref a_om, .ref a_ow])), (a_od, .inl (y 0, lm_o, .inl v_od)), (a_ol, .inl (y 0, ll_o, .inl v_ol)), (a_om, .inl (y 0, lp_o, .inl q2.2.1)), (a_ow, .inl (y 0, ln_o, .inl q2.2.2.1)), (z, .inl (y 0, q2.1, .inl q2.2.2.2))]) (wf := fun z => [(a_o, .inr (1, [.int f_o_n, .int f_o_many, .int f_o_sets, .ref a_od, .ref a_op, .ref a_oi, .ref a_ov, .ref a_of, .ref a_ol, .ref a_om, .ref a_ow])), (a_od, .inl (y 0, lm_o, .inl v_od)), (a_op, .inl (y 0, lm_o, .inl v_op)), (a_oi, .inl (y 0, lm_o, .inl v_oi)), (a_ov, .inl (y 0, lm_o, .inl v_ov)), (a_of, .inl (y 0, ls_o, .inl v_of)), (a_ol, .inl (y 0, ll_o, .inl v_ol)), (a_om, .inl (y 0, lp_o, .inl q2.2.1)), (a_ow, .inl (y 0, ln_o, .inl q2.2.2.1)), (z, .inl (y 0, q2.1, .inl q2.2.2.2))]) (va_runV (As := []) (rest := []) ⟨hx, hb, hml, hown, hts⟩ (c_X1_fillProducts l D y (N - (0 + lm_o + lm_o + lm_o + lm_o + ls_o + ll_o + lp_o + ln_o)) a_o a_od a_op a_oi a_ov a_of a_ol a_om a_ow lm_o ll_o lp_o ln_o f_o_n f_o_many f_o_sets v_od v_ol v_om v_ow H.size e2) (cwV 0 hts gX1_init_X1_fillProducts rfl rfl rfl (by decide +kernel) ⟨Nat.le_of_ble_eq_true rfl, Nat.le_of_ble_eq_true rfl⟩) ⟨xblind, va_recv hK hP (ci := 1) (q0 := 0) rfl rfl, xprev hPc hK hDc⟩ rfl rfl hl.1 rfl (lv_room (Nat.le_of_ble_eq_true rfl)) dX1_init_166 ⟨Nat.le_of_ble_eq_true rfl, by show _ ≤ N; omega⟩) hP hD hS hA [0, 1, 6, 7, 8] [2, 3, 4, 5] [4, 5, 0, 1, 2, 3, 6, 7, 8, 9] rfl rfl (by decide) (by decide) (fun _ => rfl) (by decide) (fun a_ex H locs hP hD hS => ?_)
      have h3N : 0 + lm_o + lm_o + lm_o + lm_o + ls_o + ll_o + lp_o + ln_o + (N - (0 + lm_o + lm_o + lm_o + lm_o + ls_o + ll_o + lp_o + ln_o)) ≤ N := by omega
      have hP : va_P D vwCl [(a_o, .inr (1, [.int f_o_n, .int f_o_many, .int f_o_sets, .ref a_od, .ref a_op, .ref a_oi, .ref a_ov, .ref a_of, .ref a_ol, .ref a_om, .ref a_ow])), (a_od, .inl (y 0, lm_o, .inl v_od)), (a_op, .inl (y 0, lm_o, .inl v_op)), (a_oi, .inl (y 0, lm_o, .inl v_oi)), (a_ov, .inl (y 0, lm_o, .inl v_ov)), (a_of, .inl (y 0, ls_o, .inl v_of)), (a_ol, .inl (y 0, ll_o, .inl v_ol)), (a_om, .inl (y 0, lp_o, .inl q2.2.1)), (a_ow, .inl (y 0, ln_o, .inl q2.2.2.1)), (a_ex, .inl (y 0, q2.1, .inl q2.2.2.2))] H := hP
      have hD : va_D A [(a_o, .inr (1, [.int f_o_n, .int f_o_many, .int f_o_sets, .ref a_od, .ref a_op, .ref a_oi, .ref a_ov, .ref a_of, .ref a_ol, .ref a_om, .ref a_ow])), (a_od, .inl (y 0, lm_o, .inl v_od)), (a_op, .inl (y 0, lm_o, .inl v_op)), (a_oi, .inl (y 0, lm_o, .inl v_oi)), (a_ov, .inl (y 0, lm_o, .inl v_ov)), (a_of, .inl (y 0, ls_o, .inl v_of)), (a_ol, .inl (y 0, ll_o, .inl v_ol)), (a_om, .inl (y 0, lp_o, .inl q2.2.1)), (a_ow, .inl (y 0, ln_o, .inl q2.2.2.1)), (a_ex, .inl (y 0, q2.1, .inl q2.2.2.2))] := hD
      have hB := Option.some.inj hB
      subst hB
      refine W.widen (k := 9) (n := N) (Nat.le_of_ble_eq_true rfl) h3N ?_
      exact W.vret hx hb hr (fun t ht hW => ⟨⟨(), rfl, trivial, ⟨a_od, a_op, a_oi, a_ov, a_of, a_ol, a_om, a_ow, a_ex⟩, by rw [ht]; exact hP, va_K.moved hW.alike hK, hD⟩, hS.F ht⟩) hS.2.2 dX1_init_169 hlocks
    · have hB := xin c1 hB
      refine lv_aload_n hx hb dX1_init_137 rfl (lv_at hl 0 rfl) ?_
      refine lv_iload_n hx hb dX1_init_138 rfl (lv_at hl 1 rfl) ?_
      obtain ⟨q4, e4, hB⟩ := xbd hB
      have hPc := hP.sub (ws' := [(a_o, .inr (1, [.int f_o_n, .int f_o_many, .int f_o_sets, .ref a_od, .ref a_op, .ref a_oi, .ref a_ov, .ref a_of, .ref a_ol, .ref a_om, .ref a_ow])), (a_ol, .inl (y 0, ll_o, .inl v_ol)), (a_ow, .inl (y 0, ln_o, .inl v_ow))]) [0, 6, 8] rfl
      have hDc := hD.sub (ws' := [(a_o, .inr (1, [.int f_o_n, .int f_o_many, .int f_o_sets, .ref a_od, .ref a_op, .ref a_oi, .ref a_ov, .ref a_of, .ref a_ol, .ref a_om, .ref a_ow])), (a_ol, .inl (y 0, ll_o, .inl v_ol)), (a_ow, .inl (y 0, ln_o, .inl v_ow))]) [0, 6, 8] (by decide) rfl
      refine xcallv (mc := 0) (ms := 0) (wc := [(a_o, .inr (1, [.int f_o_n, .int f_o_many, .int f_o_sets, .ref a_od, .ref a_op, .ref a_oi, .ref a_ov, .ref a_of, .ref a_ol, .ref a_om, .ref a_ow])), (a_ol, .inl (y 0, ll_o, .inl v_ol)), (a_ow, .inl (y 0, ln_o, .inl v_ow))]) (wr := [(a_od, .inl (y 0, lm_o, .inl v_od)), (a_op, .inl (y 0, lm_o, .inl v_op)), (a_oi, .inl (y 0, lm_o, .inl v_oi)), (a_ov, .inl (y 0, lm_o, .inl v_ov)), (a_of, .inl (y 0, ls_o, .inl v_of)), (a_om, .inl (y 0, lp_o, .inl v_om))]) (w1 := [(a_o, .inr (1, [.int f_o_n, .int f_o_many, .int f_o_sets, .ref a_od, .ref a_op, .ref a_oi, .ref a_ov, .ref a_of, .ref a_ol, .ref a_om, .ref a_ow])), (a_ol, .inl (y 0, ll_o, .inl q4.1)), (a_ow, .inl (y 0, ln_o, .inl q4.2))]) (wf := [(a_o, .inr (1, [.int f_o_n, .int f_o_many, .int f_o_sets, .ref a_od, .ref a_op, .ref a_oi, .ref a_ov, .ref a_of, .ref a_ol, .ref a_om, .ref a_ow])), (a_od, .inl (y 0, lm_o, .inl v_od)), (a_op, .inl (y 0, lm_o, .inl v_op)), (a_oi, .inl (y 0, lm_o, .inl v_oi)), (a_ov, .inl (y 0, lm_o, .inl v_ov)), (a_of, .inl (y 0, ls_o, .inl v_of)), (a_ol, .inl (y 0, ll_o, .inl q4.1)), (a_om, .inl (y 0, lp_o, .inl v_om)), (a_ow, .inl (y 0, ln_o, .inl q4.2))]) (va_runV (As := [.int x3]) (rest := []) ⟨hx, hb, hml, hown, hts⟩ (c_X1_spell l D y a_o a_od a_op a_oi a_ov a_of a_ol a_om a_ow ll_o ln_o f_o_n f_o_many f_o_sets v_ol v_ow x3 H.size e4) (cwV 1 hts gX1_init_X1_spell rfl rfl rfl (by decide +kernel) ⟨Nat.le_of_ble_eq_true rfl, Nat.le_of_ble_eq_true rfl⟩) ⟨xblind, va_recv hK hP (ci := 1) (q0 := 0) rfl rfl, xprev hPc hK hDc⟩ rfl rfl hl.1 rfl (lv_room (Nat.le_of_ble_eq_true rfl)) dX1_init_139 ⟨Nat.le_of_ble_eq_true rfl, hN⟩) hP hD hS hA [0, 6, 8] [1, 2, 3, 4, 5, 7] [6, 0, 1, 2, 3, 4, 7, 5, 8] rfl rfl (by decide) (by decide) rfl (by decide) (fun H locs hP hD hS => ?_)
      refine lv_aload_n hx hb dX1_init_142 rfl (lv_at hl 0 rfl) ?_
      refine lv_iload_n hx hb dX1_init_143 rfl (lv_at hl 1 rfl) ?_
      obtain ⟨q5, e5, hB⟩ := xbd hB
      have hPc := hP.sub (ws' := [(a_o, .inr (1, [.int f_o_n, .int f_o_many, .int f_o_sets, .ref a_od, .ref a_op, .ref a_oi, .ref a_ov, .ref a_of, .ref a_ol, .ref a_om, .ref a_ow])), (a_od, .inl (y 0, lm_o, .inl v_od)), (a_op, .inl (y 0, lm_o, .inl v_op)), (a_oi, .inl (y 0, lm_o, .inl v_oi)), (a_ov, .inl (y 0, lm_o, .inl v_ov)), (a_ol, .inl (y 0, ll_o, .inl q4.1)), (a_ow, .inl (y 0, ln_o, .inl q4.2))]) [0, 1, 2, 3, 4, 6, 8] rfl
      have hDc := hD.sub (ws' := [(a_o, .inr (1, [.int f_o_n, .int f_o_many, .int f_o_sets, .ref a_od, .ref a_op, .ref a_oi, .ref a_ov, .ref a_of, .ref a_ol, .ref a_om, .ref a_ow])), (a_od, .inl (y 0, lm_o, .inl v_od)), (a_op, .inl (y 0, lm_o, .inl v_op)), (a_oi, .inl (y 0, lm_o, .inl v_oi)), (a_ov, .inl (y 0, lm_o, .inl v_ov)), (a_ol, .inl (y 0, ll_o, .inl q4.1)), (a_ow, .inl (y 0, ln_o, .inl q4.2))]) [0, 1, 2, 3, 4, 6, 8] (by decide) rfl
      refine xcallv (mc := 0) (ms := 0) (wc := [(a_o, .inr (1, [.int f_o_n, .int f_o_many, .int f_o_sets, .ref a_od, .ref a_op, .ref a_oi, .ref a_ov, .ref a_of, .ref a_ol, .ref a_om, .ref a_ow])), (a_od, .inl (y 0, lm_o, .inl v_od)), (a_op, .inl (y 0, lm_o, .inl v_op)), (a_oi, .inl (y 0, lm_o, .inl v_oi)), (a_ov, .inl (y 0, lm_o, .inl v_ov)), (a_ol, .inl (y 0, ll_o, .inl q4.1)), (a_ow, .inl (y 0, ln_o, .inl q4.2))]) (wr := [(a_of, .inl (y 0, ls_o, .inl v_of)), (a_om, .inl (y 0, lp_o, .inl v_om))]) (w1 := [(a_o, .inr (1, [.int f_o_n, .int f_o_many, .int f_o_sets, .ref a_od, .ref a_op, .ref a_oi, .ref a_ov, .ref a_of, .ref a_ol, .ref a_om, .ref a_ow])), (a_od, .inl (y 0, lm_o, .inl q5.1)), (a_op, .inl (y 0, lm_o, .inl q5.2.1)), (a_oi, .inl (y 0, lm_o, .inl q5.2.2.1)), (a_ov, .inl (y 0, lm_o, .inl q5.2.2.2.1)), (a_ol, .inl (y 0, ll_o, .inl q4.1)), (a_ow, .inl (y 0, ln_o, .inl q5.2.2.2.2))]) (wf := [(a_o, .inr (1, [.int f_o_n, .int f_o_many, .int f_o_sets, .ref a_od, .ref a_op, .ref a_oi, .ref a_ov, .ref a_of, .ref a_ol, .ref a_om, .ref a_ow])), (a_od, .inl (y 0, lm_o, .inl q5.1)), (a_op, .inl (y 0, lm_o, .inl q5.2.1)), (a_oi, .inl (y 0, lm_o, .inl q5.2.2.1)), (a_ov, .inl (y 0, lm_o, .inl q5.2.2.2.1)), (a_of, .inl (y 0, ls_o, .inl v_of)), (a_ol, .inl (y 0, ll_o, .inl q4.1)), (a_om, .inl (y 0, lp_o, .inl v_om)), (a_ow, .inl (y 0, ln_o, .inl q5.2.2.2.2))]) (va_runV (As := [.int x3]) (rest := []) ⟨hx, hb, hml, hown, hts⟩ (c_X1_describe l D y a_o a_od a_op a_oi a_ov a_of a_ol a_om a_ow lm_o ll_o ln_o f_o_n f_o_many f_o_sets v_od v_op v_oi v_ov q4.1 q4.2 x3 H.size e5) (cwV 1 hts gX1_init_X1_describe rfl rfl rfl (by decide +kernel) ⟨Nat.le_of_ble_eq_true rfl, Nat.le_of_ble_eq_true rfl⟩) ⟨xblind, va_recv hK hP (ci := 1) (q0 := 0) rfl rfl, xprev hPc hK hDc⟩ rfl rfl hl.1 rfl (lv_room (Nat.le_of_ble_eq_true rfl)) dX1_init_144 ⟨Nat.le_of_ble_eq_true rfl, hN⟩) hP hD hS hA [0, 1, 2, 3, 4, 6, 8] [5, 7] [2, 3, 4, 5, 6, 0, 7, 1, 8] rfl rfl (by decide) (by decide) rfl (by decide) (fun H locs hP hD hS => ?_)
      refine lv_aload_n hx hb dX1_init_147 rfl (lv_at hl 0 rfl) ?_
      refine va_get (D := D) (ci := 1) (v := .ref a_of) (C := RX1) (T := TX1) (N := 11) hx hb hts kX1_init_wX1 hown hK hP 0 rfl rfl 7 (by decide) (hts _ kX1_init_f32) (fun _ h9 => h9) rfl dX1_init_148 ?_
      refine lv_aload_n hx hb dX1_init_151 rfl (lv_at hl 0 rfl) ?_
      refine va_get (D := D) (ci := 1) (v := .ref a_od) (C := RX1) (T := TX1) (N := 11) hx hb hts kX1_init_wX1 hown hK hP 0 rfl rfl 3 (by decide) (hts _ kX1_init_f19) (fun _ h9 => h9) rfl dX1_init_152 ?_
      refine lv_iload_n hx hb dX1_init_155 rfl (lv_at hl 1 rfl) ?_
      obtain ⟨g6, hB⟩ := xg_some hB
      refine va_iald hx hb hK hP 1 0 rfl rfl g6 dX1_init_156 ?_
      refine lv_iload_n hx hb dX1_init_157 rfl (lv_at hl 1 rfl) ?_
      obtain ⟨g7, hB⟩ := xg_some hB
      refine va_iast hx hb hK hP hD hS 5 0 rfl rfl g7 dX1_init_158 (fun H locs hP hD hS => ?_)
      have hP : va_P D vwCl [(a_o, .inr (1, [.int f_o_n, .int f_o_many, .int f_o_sets, .ref a_od, .ref a_op, .ref a_oi, .ref a_ov, .ref a_of, .ref a_ol, .ref a_om, .ref a_ow])), (a_od, .inl (y 0, lm_o, .inl q5.1)), (a_op, .inl (y 0, lm_o, .inl q5.2.1)), (a_oi, .inl (y 0, lm_o, .inl q5.2.2.1)), (a_ov, .inl (y 0, lm_o, .inl q5.2.2.2.1)), (a_of, .inl (y 0, ls_o, .inl (upd v_of (q5.1 x3.toNatClampNeg).toNatClampNeg x3))), (a_ol, .inl (y 0, ll_o, .inl q4.1)), (a_om, .inl (y 0, lp_o, .inl v_om)), (a_ow, .inl (y 0, ln_o, .inl q5.2.2.2.2))] H := hP
      have hD : va_D A [(a_o, .inr (1, [.int f_o_n, .int f_o_many, .int f_o_sets, .ref a_od, .ref a_op, .ref a_oi, .ref a_ov, .ref a_of, .ref a_ol, .ref a_om, .ref a_ow])), (a_od, .inl (y 0, lm_o, .inl q5.1)), (a_op, .inl (y 0, lm_o, .inl q5.2.1)), (a_oi, .inl (y 0, lm_o, .inl q5.2.2.1)), (a_ov, .inl (y 0, lm_o, .inl q5.2.2.2.1)), (a_of, .inl (y 0, ls_o, .inl (upd v_of (q5.1 x3.toNatClampNeg).toNatClampNeg x3))), (a_ol, .inl (y 0, ll_o, .inl q4.1)), (a_om, .inl (y 0, lp_o, .inl v_om)), (a_ow, .inl (y 0, ln_o, .inl q5.2.2.2.2))] := hD
      refine lv_iinc (v := x3 + (-1 : Int32)) (lv' := [(3, .int (x3 + (-1 : Int32))), (0, .ref a_o)]) hx hb dX1_init_159 hl (k := 1) rfl rfl (by decide) rfl (fun ls hl => ?_)
      refine lv_goto (tgt := 133) hx hb dX1_init_162 (by decide) ?_
      exact ih a_od a_op a_oi a_ov a_of a_ol a_om a_ow (x3 + (-1 : Int32)) lm_o ls_o ll_o lp_o ln_o f_o_n f_o_many f_o_sets q5.1 q5.2.1 q5.2.2.1 q5.2.2.2.1 (upd v_of (q5.1 x3.toNatClampNeg).toNatClampNeg x3) q4.1 v_om q5.2.2.2.2 H locs ls hP hD hS (lv_sub hl [1, 0] rfl) hN hB
set_option maxHeartbeats 4000000 in
set_option maxRecDepth 100000 in
theorem B_X1_init_13 {p : Program} {l : Launch} {e : Env} {s : State} {m : MethodId} {args : Array Value} {below : List Frame} {meth : Method} {c : Code} {A : Nat → Prop} {D : va_G} {y : Nat → ClassId} {N : Nat} {a_o : Nat} {p1 : Int32} {R : Nat × Nat × Nat × Nat × Nat × Nat × Int32 × Int32 × Int32 × (Nat → Int32) × (Nat → Int32) × (Nat → Int32) × (Nat → Int32) × (Nat → Int32) × (Nat → Int32) × (Nat → Int32) × (Nat → Int32) × (Nat → Int32)} (C : xC p s m args meth c A cX1_init RX1 wsX1_init 4 none D y) (hin : meth.name = "<init>")  : ∀ f : Nat, S_X1_init_13 p l e s m args below meth c A D y N a_o p1 R (F_X1_init_13 N p1  f) := by
  have C0 := C
  obtain ⟨hx, hb, hml, hown, hts, hr, hlocks, hK, hA⟩ := C
  intro f
  induction f with
  | zero =>
    intro x2 x3 f_o_n f_o_many f_o_sets H locs ls hP hD hS hl hN hB
    rw [Z_X1_init_13] at hB
    cases hB
  | succ f ih =>
    intro x2 x3 f_o_n f_o_many f_o_sets H locs ls hP hD hS hl hN hB
    rw [E_X1_init_13] at hB
    refine lv_iload_n hx hb dX1_init_13 rfl (lv_at hl 3 rfl) ?_
    refine lv_iload_n hx hb dX1_init_14 rfl (lv_at hl 1 rfl) ?_
    refine lv_icmp_gt (tgt := 28) hx hb dX1_init_15 (by decide) (fun c1 => ?_) (fun c1 => ?_)
    · have hB := xip c1 hB
      refine lv_aload_n hx hb dX1_init_28 rfl (lv_at hl 0 rfl) ?_
      refine lv_iload_n hx hb dX1_init_29 rfl (lv_at hl 2 rfl) ?_
      refine va_putF (D := D) (ci := 1) (v := .int x2) (ty := .int) (C := RX1) (T := TX1) (N := 11) hx hb hts kX1_init_wX1 tyX1 tyX1_ok nmX1 hown hK hP hD hS 0 rfl rfl 1 (by decide) (hts _ kX1_init_f13) (fun _ h9 => h9) rfl hin rfl (by decide +kernel) rfl rfl (Nat.le_of_ble_eq_true rfl) dX1_init_30 (fun H locs hP hD hS => ?_)
      have hP : va_P D vwCl [(a_o, .inr (1, [.int f_o_n, .int x2, .int f_o_sets, .null, .null, .null, .null, .null, .null, .null, .null]))] H := hP
      have hD : va_D A [(a_o, .inr (1, [.int f_o_n, .int x2, .int f_o_sets, .null, .null, .null, .null, .null, .null, .null, .null]))] := hD
      refine lv_aload_n hx hb dX1_init_33 rfl (lv_at hl 0 rfl) ?_
      refine lv_iconst (v := 1) hx hb dX1_init_34 (by decide) ?_
      refine lv_iload_n hx hb dX1_init_35 rfl (lv_at hl 1 rfl) ?_
      refine lv_iconst (v := 1) hx hb dX1_init_36 (by decide) ?_
      refine lv_isub hx hb dX1_init_37 ?_
      refine lv_ishl hx hb dX1_init_38 ?_
      refine va_putF (D := D) (ci := 1) (v := .int ((1 : Int32) <<< ((p1 - (1 : Int32)) &&& 31))) (ty := .int) (C := RX1) (T := TX1) (N := 11) hx hb hts kX1_init_wX1 tyX1 tyX1_ok nmX1 hown hK hP hD hS 0 rfl rfl 2 (by decide) (hts _ kX1_init_f16) (fun _ h9 => h9) rfl hin rfl (by decide +kernel) rfl rfl (Nat.le_of_ble_eq_true rfl) dX1_init_39 (fun H locs hP hD hS => ?_)
      have hP : va_P D vwCl [(a_o, .inr (1, [.int f_o_n, .int x2, .int ((1 : Int32) <<< ((p1 - (1 : Int32)) &&& 31)), .null, .null, .null, .null, .null, .null, .null, .null]))] H := hP
      have hD : va_D A [(a_o, .inr (1, [.int f_o_n, .int x2, .int ((1 : Int32) <<< ((p1 - (1 : Int32)) &&& 31)), .null, .null, .null, .null, .null, .null, .null, .null]))] := hD
      refine lv_aload_n hx hb dX1_init_42 rfl (lv_at hl 0 rfl) ?_
      refine lv_aload_n hx hb dX1_init_43 rfl (lv_at hl 0 rfl) ?_
      refine va_get (D := D) (ci := 1) (v := .int x2) (C := RX1) (T := TX1) (N := 11) hx hb hts kX1_init_wX1 hown hK hP 0 rfl rfl 1 (by decide) (hts _ kX1_init_f13) (fun _ h9 => h9) rfl dX1_init_44 ?_
      obtain ⟨g2n, g2s, g2b, hB⟩ := xn_some hB
      refine xnewI hx hb (hts _ kX1_init_aI) hK hP hD hS hA (N' := x2.toNatClampNeg) g2n rfl (by omega) (Nat.le_of_ble_eq_true rfl) g2s dX1_init_47 (fun a_od H hP hD hS => ?_)
      have hP : va_P D vwCl [(a_o, .inr (1, [.int f_o_n, .int x2, .int ((1 : Int32) <<< ((p1 - (1 : Int32)) &&& 31)), .null, .null, .null, .null, .null, .null, .null, .null])), (a_od, .inl (y 0, x2.toNatClampNeg, .inl (fun _ => (0 : Int32))))] H := hP
      have hD : va_D A [(a_o, .inr (1, [.int f_o_n, .int x2, .int ((1 : Int32) <<< ((p1 - (1 : Int32)) &&& 31)), .null, .null, .null, .null, .null, .null, .null, .null])), (a_od, .inl (y 0, x2.toNatClampNeg, .inl (fun _ => (0 : Int32))))] := hD
      refine va_putF (D := D) (ci := 1) (v := .ref a_od) (ty := tyX1 3) (C := RX1) (T := TX1) (N := 11) hx hb hts kX1_init_wX1 tyX1 tyX1_ok nmX1 hown hK hP hD hS 0 rfl rfl 3 (by decide) (hts _ kX1_init_f19) (fun _ h9 => h9) rfl hin rfl (by decide +kernel) rfl rfl (Nat.le_of_ble_eq_true rfl) dX1_init_49 (fun H locs hP hD hS => ?_)
      have hP : va_P D vwCl [(a_o, .inr (1, [.int f_o_n, .int x2, .int ((1 : Int32) <<< ((p1 - (1 : Int32)) &&& 31)), .ref a_od, .null, .null, .null, .null, .null, .null, .null])), (a_od, .inl (y 0, x2.toNatClampNeg, .inl (fun _ => (0 : Int32))))] H := hP
      have hD : va_D A [(a_o, .inr (1, [.int f_o_n, .int x2, .int ((1 : Int32) <<< ((p1 - (1 : Int32)) &&& 31)), .ref a_od, .null, .null, .null, .null, .null, .null, .null])), (a_od, .inl (y 0, x2.toNatClampNeg, .inl (fun _ => (0 : Int32))))] := hD
      refine lv_aload_n hx hb dX1_init_52 rfl (lv_at hl 0 rfl) ?_
      refine lv_aload_n hx hb dX1_init_53 rfl (lv_at hl 0 rfl) ?_
      refine va_get (D := D) (ci := 1) (v := .int x2) (C := RX1) (T := TX1) (N := 11) hx hb hts kX1_init_wX1 hown hK hP 0 rfl rfl 1 (by decide) (hts _ kX1_init_f13) (fun _ h9 => h9) rfl dX1_init_54 ?_
      obtain ⟨g3n, g3s, g3b, hB⟩ := xn_some hB
      refine xnewI hx hb (hts _ kX1_init_aI) hK hP hD hS hA (N' := x2.toNatClampNeg) g3n rfl (by omega) (Nat.le_of_ble_eq_true rfl) g3s dX1_init_57 (fun a_op H hP hD hS => ?_)
      have hP : va_P D vwCl [(a_o, .inr (1, [.int f_o_n, .int x2, .int ((1 : Int32) <<< ((p1 - (1 : Int32)) &&& 31)), .ref a_od, .null, .null, .null, .null, .null, .null, .null])), (a_od, .inl (y 0, x2.toNatClampNeg, .inl (fun _ => (0 : Int32)))), (a_op, .inl (y 0, x2.toNatClampNeg, .inl (fun _ => (0 : Int32))))] H := hP
      have hD : va_D A [(a_o, .inr (1, [.int f_o_n, .int x2, .int ((1 : Int32) <<< ((p1 - (1 : Int32)) &&& 31)), .ref a_od, .null, .null, .null, .null, .null, .null, .null])), (a_od, .inl (y 0, x2.toNatClampNeg, .inl (fun _ => (0 : Int32)))), (a_op, .inl (y 0, x2.toNatClampNeg, .inl (fun _ => (0 : Int32))))] := hD
      refine va_putF (D := D) (ci := 1) (v := .ref a_op) (ty := tyX1 4) (C := RX1) (T := TX1) (N := 11) hx hb hts kX1_init_wX1 tyX1 tyX1_ok nmX1 hown hK hP hD hS 0 rfl rfl 4 (by decide) (hts _ kX1_init_f23) (fun _ h9 => h9) rfl hin rfl (by decide +kernel) rfl rfl (Nat.le_of_ble_eq_true rfl) dX1_init_59 (fun H locs hP hD hS => ?_)
      have hP : va_P D vwCl [(a_o, .inr (1, [.int f_o_n, .int x2, .int ((1 : Int32) <<< ((p1 - (1 : Int32)) &&& 31)), .ref a_od, .ref a_op, .null, .null, .null, .null, .null, .null])), (a_od, .inl (y 0, x2.toNatClampNeg, .inl (fun _ => (0 : Int32)))), (a_op, .inl (y 0, x2.toNatClampNeg, .inl (fun _ => (0 : Int32))))] H := hP
      have hD : va_D A [(a_o, .inr (1, [.int f_o_n, .int x2, .int ((1 : Int32) <<< ((p1 - (1 : Int32)) &&& 31)), .ref a_od, .ref a_op, .null, .null, .null, .null, .null, .null])), (a_od, .inl (y 0, x2.toNatClampNeg, .inl (fun _ => (0 : Int32)))), (a_op, .inl (y 0, x2.toNatClampNeg, .inl (fun _ => (0 : Int32))))] := hD
      refine lv_aload_n hx hb dX1_init_62 rfl (lv_at hl 0 rfl) ?_
      refine lv_aload_n hx hb dX1_init_63 rfl (lv_at hl 0 rfl) ?_
      refine va_get (D := D) (ci := 1) (v := .int x2) (C := RX1) (T := TX1) (N := 11) hx hb hts kX1_init_wX1 hown hK hP 0 rfl rfl 1 (by decide) (hts _ kX1_init_f13) (fun _ h9 => h9) rfl dX1_init_64 ?_
      obtain ⟨g4n, g4s, g4b, hB⟩ := xn_some hB
      refine xnewI hx hb (hts _ kX1_init_aI) hK hP hD hS hA (N' := x2.toNatClampNeg) g4n rfl (by omega) (Nat.le_of_ble_eq_true rfl) g4s dX1_init_67 (fun a_oi H hP hD hS => ?_)
      have hP : va_P D vwCl [(a_o, .inr (1, [.int f_o_n, .int x2, .int ((1 : Int32) <<< ((p1 - (1 : Int32)) &&& 31)), .ref a_od, .ref a_op, .null, .null, .null, .null, .null, .null])), (a_od, .inl (y 0, x2.toNatClampNeg, .inl (fun _ => (0 : Int32)))), (a_op, .inl (y 0, x2.toNatClampNeg, .inl (fun _ => (0 : Int32)))), (a_oi, .inl (y 0, x2.toNatClampNeg, .inl (fun _ => (0 : Int32))))] H := hP
      have hD : va_D A [(a_o, .inr (1, [.int f_o_n, .int x2, .int ((1 : Int32) <<< ((p1 - (1 : Int32)) &&& 31)), .ref a_od, .ref a_op, .null, .null, .null, .null, .null, .null])), (a_od, .inl (y 0, x2.toNatClampNeg, .inl (fun _ => (0 : Int32)))), (a_op, .inl (y 0, x2.toNatClampNeg, .inl (fun _ => (0 : Int32)))), (a_oi, .inl (y 0, x2.toNatClampNeg, .inl (fun _ => (0 : Int32))))] := hD
      refine va_putF (D := D) (ci := 1) (v := .ref a_oi) (ty := tyX1 5) (C := RX1) (T := TX1) (N := 11) hx hb hts kX1_init_wX1 tyX1 tyX1_ok nmX1 hown hK hP hD hS 0 rfl rfl 5 (by decide) (hts _ kX1_init_f26) (fun _ h9 => h9) rfl hin rfl (by decide +kernel) rfl rfl (Nat.le_of_ble_eq_true rfl) dX1_init_69 (fun H locs hP hD hS => ?_)
      have hP : va_P D vwCl [(a_o, .inr (1, [.int f_o_n, .int x2, .int ((1 : Int32) <<< ((p1 - (1 : Int32)) &&& 31)), .ref a_od, .ref a_op, .ref a_oi, .null, .null, .null, .null, .null])), (a_od, .inl (y 0, x2.toNatClampNeg, .inl (fun _ => (0 : Int32)))), (a_op, .inl (y 0, x2.toNatClampNeg, .inl (fun _ => (0 : Int32)))), (a_oi, .inl (y 0, x2.toNatClampNeg, .inl (fun _ => (0 : Int32))))] H := hP
      have hD : va_D A [(a_o, .inr (1, [.int f_o_n, .int x2, .int ((1 : Int32) <<< ((p1 - (1 : Int32)) &&& 31)), .ref a_od, .ref a_op, .ref a_oi, .null, .null, .null, .null, .null])), (a_od, .inl (y 0, x2.toNatClampNeg, .inl (fun _ => (0 : Int32)))), (a_op, .inl (y 0, x2.toNatClampNeg, .inl (fun _ => (0 : Int32)))), (a_oi, .inl (y 0, x2.toNatClampNeg, .inl (fun _ => (0 : Int32))))] := hD
      refine lv_aload_n hx hb dX1_init_72 rfl (lv_at hl 0 rfl) ?_
      refine lv_aload_n hx hb dX1_init_73 rfl (lv_at hl 0 rfl) ?_
      refine va_get (D := D) (ci := 1) (v := .int x2) (C := RX1) (T := TX1) (N := 11) hx hb hts kX1_init_wX1 hown hK hP 0 rfl rfl 1 (by decide) (hts _ kX1_init_f13) (fun _ h9 => h9) rfl dX1_init_74 ?_
      obtain ⟨g5n, g5s, g5b, hB⟩ := xn_some hB
      refine xnewI hx hb (hts _ kX1_init_aI) hK hP hD hS hA (N' := x2.toNatClampNeg) g5n rfl (by omega) (Nat.le_of_ble_eq_true rfl) g5s dX1_init_77 (fun a_ov H hP hD hS => ?_)
      have hP : va_P D vwCl [(a_o, .inr (1, [.int f_o_n, .int x2, .int ((1 : Int32) <<< ((p1 - (1 : Int32)) &&& 31)), .ref a_od, .ref a_op, .ref a_oi, .null, .null, .null, .null, .null])), (a_od, .inl (y 0, x2.toNatClampNeg, .inl (fun _ => (0 : Int32)))), (a_op, .inl (y 0, x2.toNatClampNeg, .inl (fun _ => (0 : Int32)))), (a_oi, .inl (y 0, x2.toNatClampNeg, .inl (fun _ => (0 : Int32)))), (a_ov, .inl (y 0, x2.toNatClampNeg, .inl (fun _ => (0 : Int32))))] H := hP
      have hD : va_D A [(a_o, .inr (1, [.int f_o_n, .int x2, .int ((1 : Int32) <<< ((p1 - (1 : Int32)) &&& 31)), .ref a_od, .ref a_op, .ref a_oi, .null, .null, .null, .null, .null])), (a_od, .inl (y 0, x2.toNatClampNeg, .inl (fun _ => (0 : Int32)))), (a_op, .inl (y 0, x2.toNatClampNeg, .inl (fun _ => (0 : Int32)))), (a_oi, .inl (y 0, x2.toNatClampNeg, .inl (fun _ => (0 : Int32)))), (a_ov, .inl (y 0, x2.toNatClampNeg, .inl (fun _ => (0 : Int32))))] := hD
      refine va_putF (D := D) (ci := 1) (v := .ref a_ov) (ty := tyX1 6) (C := RX1) (T := TX1) (N := 11) hx hb hts kX1_init_wX1 tyX1 tyX1_ok nmX1 hown hK hP hD hS 0 rfl rfl 6 (by decide) (hts _ kX1_init_f29) (fun _ h9 => h9) rfl hin rfl (by decide +kernel) rfl rfl (Nat.le_of_ble_eq_true rfl) dX1_init_79 (fun H locs hP hD hS => ?_)
      have hP : va_P D vwCl [(a_o, .inr (1, [.int f_o_n, .int x2, .int ((1 : Int32) <<< ((p1 - (1 : Int32)) &&& 31)), .ref a_od, .ref a_op, .ref a_oi, .ref a_ov, .null, .null, .null, .null])), (a_od, .inl (y 0, x2.toNatClampNeg, .inl (fun _ => (0 : Int32)))), (a_op, .inl (y 0, x2.toNatClampNeg, .inl (fun _ => (0 : Int32)))), (a_oi, .inl (y 0, x2.toNatClampNeg, .inl (fun _ => (0 : Int32)))), (a_ov, .inl (y 0, x2.toNatClampNeg, .inl (fun _ => (0 : Int32))))] H := hP
      have hD : va_D A [(a_o, .inr (1, [.int f_o_n, .int x2, .int ((1 : Int32) <<< ((p1 - (1 : Int32)) &&& 31)), .ref a_od, .ref a_op, .ref a_oi, .ref a_ov, .null, .null, .null, .null])), (a_od, .inl (y 0, x2.toNatClampNeg, .inl (fun _ => (0 : Int32)))), (a_op, .inl (y 0, x2.toNatClampNeg, .inl (fun _ => (0 : Int32)))), (a_oi, .inl (y 0, x2.toNatClampNeg, .inl (fun _ => (0 : Int32)))), (a_ov, .inl (y 0, x2.toNatClampNeg, .inl (fun _ => (0 : Int32))))] := hD
      refine lv_aload_n hx hb dX1_init_82 rfl (lv_at hl 0 rfl) ?_
      refine lv_aload_n hx hb dX1_init_83 rfl (lv_at hl 0 rfl) ?_
      refine va_get (D := D) (ci := 1) (v := .int ((1 : Int32) <<< ((p1 - (1 : Int32)) &&& 31))) (C := RX1) (T := TX1) (N := 11) hx hb hts kX1_init_wX1 hown hK hP 0 rfl rfl 2 (by decide) (hts _ kX1_init_f16) (fun _ h9 => h9) rfl dX1_init_84 ?_
      obtain ⟨g6n, g6s, g6b, hB⟩ := xn_some hB
      refine xnewI hx hb (hts _ kX1_init_aI) hK hP hD hS hA (N' := ((1 : Int32) <<< ((p1 - (1 : Int32)) &&& 31)).toNatClampNeg) g6n rfl (by omega) (Nat.le_of_ble_eq_true rfl) g6s dX1_init_87 (fun a_of H hP hD hS => ?_)
      have hP : va_P D vwCl [(a_o, .inr (1, [.int f_o_n, .int x2, .int ((1 : Int32) <<< ((p1 - (1 : Int32)) &&& 31)), .ref a_od, .ref a_op, .ref a_oi, .ref a_ov, .null, .null, .null, .null])), (a_od, .inl (y 0, x2.toNatClampNeg, .inl (fun _ => (0 : Int32)))), (a_op, .inl (y 0, x2.toNatClampNeg, .inl (fun _ => (0 : Int32)))), (a_oi, .inl (y 0, x2.toNatClampNeg, .inl (fun _ => (0 : Int32)))), (a_ov, .inl (y 0, x2.toNatClampNeg, .inl (fun _ => (0 : Int32)))), (a_of, .inl (y 0, (((1 : Int32) <<< ((p1 - (1 : Int32)) &&& 31)).toNatClampNeg), .inl (fun _ => (0 : Int32))))] H := hP
      have hD : va_D A [(a_o, .inr (1, [.int f_o_n, .int x2, .int ((1 : Int32) <<< ((p1 - (1 : Int32)) &&& 31)), .ref a_od, .ref a_op, .ref a_oi, .ref a_ov, .null, .null, .null, .null])), (a_od, .inl (y 0, x2.toNatClampNeg, .inl (fun _ => (0 : Int32)))), (a_op, .inl (y 0, x2.toNatClampNeg, .inl (fun _ => (0 : Int32)))), (a_oi, .inl (y 0, x2.toNatClampNeg, .inl (fun _ => (0 : Int32)))), (a_ov, .inl (y 0, x2.toNatClampNeg, .inl (fun _ => (0 : Int32)))), (a_of, .inl (y 0, (((1 : Int32) <<< ((p1 - (1 : Int32)) &&& 31)).toNatClampNeg), .inl (fun _ => (0 : Int32))))] := hD
      refine va_putF (D := D) (ci := 1) (v := .ref a_of) (ty := tyX1 7) (C := RX1) (T := TX1) (N := 11) hx hb hts kX1_init_wX1 tyX1 tyX1_ok nmX1 hown hK hP hD hS 0 rfl rfl 7 (by decide) (hts _ kX1_init_f32) (fun _ h9 => h9) rfl hin rfl (by decide +kernel) rfl rfl (Nat.le_of_ble_eq_true rfl) dX1_init_89 (fun H locs hP hD hS => ?_)
      have hP : va_P D vwCl [(a_o, .inr (1, [.int f_o_n, .int x2, .int ((1 : Int32) <<< ((p1 - (1 : Int32)) &&& 31)), .ref a_od, .ref a_op, .ref a_oi, .ref a_ov, .ref a_of, .null, .null, .null])), (a_od, .inl (y 0, x2.toNatClampNeg, .inl (fun _ => (0 : Int32)))), (a_op, .inl (y 0, x2.toNatClampNeg, .inl (fun _ => (0 : Int32)))), (a_oi, .inl (y 0, x2.toNatClampNeg, .inl (fun _ => (0 : Int32)))), (a_ov, .inl (y 0, x2.toNatClampNeg, .inl (fun _ => (0 : Int32)))), (a_of, .inl (y 0, (((1 : Int32) <<< ((p1 - (1 : Int32)) &&& 31)).toNatClampNeg), .inl (fun _ => (0 : Int32))))] H := hP
      have hD : va_D A [(a_o, .inr (1, [.int f_o_n, .int x2, .int ((1 : Int32) <<< ((p1 - (1 : Int32)) &&& 31)), .ref a_od, .ref a_op, .ref a_oi, .ref a_ov, .ref a_of, .null, .null, .null])), (a_od, .inl (y 0, x2.toNatClampNeg, .inl (fun _ => (0 : Int32)))), (a_op, .inl (y 0, x2.toNatClampNeg, .inl (fun _ => (0 : Int32)))), (a_oi, .inl (y 0, x2.toNatClampNeg, .inl (fun _ => (0 : Int32)))), (a_ov, .inl (y 0, x2.toNatClampNeg, .inl (fun _ => (0 : Int32)))), (a_of, .inl (y 0, (((1 : Int32) <<< ((p1 - (1 : Int32)) &&& 31)).toNatClampNeg), .inl (fun _ => (0 : Int32))))] := hD
      refine lv_aload_n hx hb dX1_init_92 rfl (lv_at hl 0 rfl) ?_
      refine lv_aload_n hx hb dX1_init_93 rfl (lv_at hl 0 rfl) ?_
      refine va_get (D := D) (ci := 1) (v := .int x2) (C := RX1) (T := TX1) (N := 11) hx hb hts kX1_init_wX1 hown hK hP 0 rfl rfl 1 (by decide) (hts _ kX1_init_f13) (fun _ h9 => h9) rfl dX1_init_94 ?_
      refine lv_iload_n hx hb dX1_init_97 rfl (lv_at hl 1 rfl) ?_
      refine lv_imul hx hb dX1_init_98 ?_
      obtain ⟨g7n, g7s, g7b, hB⟩ := xn_some hB
      refine xnewI hx hb (hts _ kX1_init_aI) hK hP hD hS hA (N' := (x2 * p1).toNatClampNeg) g7n rfl (by omega) (Nat.le_of_ble_eq_true rfl) g7s dX1_init_99 (fun a_ol H hP hD hS => ?_)
      have hP : va_P D vwCl [(a_o, .inr (1, [.int f_o_n, .int x2, .int ((1 : Int32) <<< ((p1 - (1 : Int32)) &&& 31)), .ref a_od, .ref a_op, .ref a_oi, .ref a_ov, .ref a_of, .null, .null, .null])), (a_od, .inl (y 0, x2.toNatClampNeg, .inl (fun _ => (0 : Int32)))), (a_op, .inl (y 0, x2.toNatClampNeg, .inl (fun _ => (0 : Int32)))), (a_oi, .inl (y 0, x2.toNatClampNeg, .inl (fun _ => (0 : Int32)))), (a_ov, .inl (y 0, x2.toNatClampNeg, .inl (fun _ => (0 : Int32)))), (a_of, .inl (y 0, (((1 : Int32) <<< ((p1 - (1 : Int32)) &&& 31)).toNatClampNeg), .inl (fun _ => (0 : Int32)))), (a_ol, .inl (y 0, ((x2 * p1).toNatClampNeg), .inl (fun _ => (0 : Int32))))] H := hP
      have hD : va_D A [(a_o, .inr (1, [.int f_o_n, .int x2, .int ((1 : Int32) <<< ((p1 - (1 : Int32)) &&& 31)), .ref a_od, .ref a_op, .ref a_oi, .ref a_ov, .ref a_of, .null, .null, .null])), (a_od, .inl (y 0, x2.toNatClampNeg, .inl (fun _ => (0 : Int32)))), (a_op, .inl (y 0, x2.toNatClampNeg, .inl (fun _ => (0 : Int32)))), (a_oi, .inl (y 0, x2.toNatClampNeg, .inl (fun _ => (0 : Int32)))), (a_ov, .inl (y 0, x2.toNatClampNeg, .inl (fun _ => (0 : Int32)))), (a_of, .inl (y 0, (((1 : Int32) <<< ((p1 - (1 : Int32)) &&& 31)).toNatClampNeg), .inl (fun _ => (0 : Int32)))), (a_ol, .inl (y 0, ((x2 * p1).toNatClampNeg), .inl (fun _ => (0 : Int32))))] := hD
      refine va_putF (D := D) (ci := 1) (v := .ref a_ol) (ty := tyX1 8) (C := RX1) (T := TX1) (N := 11) hx hb hts kX1_init_wX1 tyX1 tyX1_ok nmX1 hown hK hP hD hS 0 rfl rfl 8 (by decide) (hts _ kX1_init_f35) (fun _ h9 => h9) rfl hin rfl (by decide +kernel) rfl rfl (Nat.le_of_ble_eq_true rfl) dX1_init_101 (fun H locs hP hD hS => ?_)
      have hP : va_P D vwCl [(a_o, .inr (1, [.int f_o_n, .int x2, .int ((1 : Int32) <<< ((p1 - (1 : Int32)) &&& 31)), .ref a_od, .ref a_op, .ref a_oi, .ref a_ov, .ref a_of, .ref a_ol, .null, .null])), (a_od, .inl (y 0, x2.toNatClampNeg, .inl (fun _ => (0 : Int32)))), (a_op, .inl (y 0, x2.toNatClampNeg, .inl (fun _ => (0 : Int32)))), (a_oi, .inl (y 0, x2.toNatClampNeg, .inl (fun _ => (0 : Int32)))), (a_ov, .inl (y 0, x2.toNatClampNeg, .inl (fun _ => (0 : Int32)))), (a_of, .inl (y 0, (((1 : Int32) <<< ((p1 - (1 : Int32)) &&& 31)).toNatClampNeg), .inl (fun _ => (0 : Int32)))), (a_ol, .inl (y 0, ((x2 * p1).toNatClampNeg), .inl (fun _ => (0 : Int32))))] H := hP
      have hD : va_D A [(a_o, .inr (1, [.int f_o_n, .int x2, .int ((1 : Int32) <<< ((p1 - (1 : Int32)) &&& 31)), .ref a_od, .ref a_op, .ref a_oi, .ref a_ov, .ref a_of, .ref a_ol, .null, .null])), (a_od, .inl (y 0, x2.toNatClampNeg, .inl (fun _ => (0 : Int32)))), (a_op, .inl (y 0, x2.toNatClampNeg, .inl (fun _ => (0 : Int32)))), (a_oi, .inl (y 0, x2.toNatClampNeg, .inl (fun _ => (0 : Int32)))), (a_ov, .inl (y 0, x2.toNatClampNeg, .inl (fun _ => (0 : Int32)))), (a_of, .inl (y 0, (((1 : Int32) <<< ((p1 - (1 : Int32)) &&& 31)).toNatClampNeg), .inl (fun _ => (0 : Int32)))), (a_ol, .inl (y 0, ((x2 * p1).toNatClampNeg), .inl (fun _ => (0 : Int32))))] := hD
      refine lv_aload_n hx hb dX1_init_104 rfl (lv_at hl 0 rfl) ?_
      refine lv_aload_n hx hb dX1_init_105 rfl (lv_at hl 0 rfl) ?_
      refine va_get (D := D) (ci := 1) (v := .int x2) (C := RX1) (T := TX1) (N := 11) hx hb hts kX1_init_wX1 hown hK hP 0 rfl rfl 1 (by decide) (hts _ kX1_init_f13) (fun _ h9 => h9) rfl dX1_init_106 ?_
      refine lv_aload_n hx hb dX1_init_109 rfl (lv_at hl 0 rfl) ?_
      refine va_get (D := D) (ci := 1) (v := .int x2) (C := RX1) (T := TX1) (N := 11) hx hb hts kX1_init_wX1 hown hK hP 0 rfl rfl 1 (by decide) (hts _ kX1_init_f13) (fun _ h9 => h9) rfl dX1_init_110 ?_
      refine lv_imul hx hb dX1_init_113 ?_
      obtain ⟨g8n, g8s, g8b, hB⟩ := xn_some hB
      refine xnewI hx hb (hts _ kX1_init_aI) hK hP hD hS hA (N' := (x2 * x2).toNatClampNeg) g8n rfl (by omega) (Nat.le_of_ble_eq_true rfl) g8s dX1_init_114 (fun a_om H hP hD hS => ?_)
      have hP : va_P D vwCl [(a_o, .inr (1, [.int f_o_n, .int x2, .int ((1 : Int32) <<< ((p1 - (1 : Int32)) &&& 31)), .ref a_od, .ref a_op, .ref a_oi, .ref a_ov, .ref a_of, .ref a_ol, .null, .null])), (a_od, .inl (y 0, x2.toNatClampNeg, .inl (fun _ => (0 : Int32)))), (a_op, .inl (y 0, x2.toNatClampNeg, .inl (fun _ => (0 : Int32)))), (a_oi, .inl (y 0, x2.toNatClampNeg, .inl (fun _ => (0 : Int32)))), (a_ov, .inl (y 0, x2.toNatClampNeg, .inl (fun _ => (0 : Int32)))), (a_of, .inl (y 0, (((1 : Int32) <<< ((p1 - (1 : Int32)) &&& 31)).toNatClampNeg), .inl (fun _ => (0 : Int32)))), (a_ol, .inl (y 0, ((x2 * p1).toNatClampNeg), .inl (fun _ => (0 : Int32)))), (a_om, .inl (y 0, ((x2 * x2).toNatClampNeg), .inl (fun _ => (0 : Int32))))] H := hP
      have hD : va_D A [(a_o, .inr (1, [.int f_o_n, .int x2, .int ((1 : Int32) <<< ((p1 - (1 : Int32)) &&& 31)), .ref a_od, .ref a_op, .ref a_oi, .ref a_ov, .ref a_of, .ref a_ol, .null, .null])), (a_od, .inl (y 0, x2.toNatClampNeg, .inl (fun _ => (0 : Int32)))), (a_op, .inl (y 0, x2.toNatClampNeg, .inl (fun _ => (0 : Int32)))), (a_oi, .inl (y 0, x2.toNatClampNeg, .inl (fun _ => (0 : Int32)))), (a_ov, .inl (y 0, x2.toNatClampNeg, .inl (fun _ => (0 : Int32)))), (a_of, .inl (y 0, (((1 : Int32) <<< ((p1 - (1 : Int32)) &&& 31)).toNatClampNeg), .inl (fun _ => (0 : Int32)))), (a_ol, .inl (y 0, ((x2 * p1).toNatClampNeg), .inl (fun _ => (0 : Int32)))), (a_om, .inl (y 0, ((x2 * x2).toNatClampNeg), .inl (fun _ => (0 : Int32))))] := hD
      refine va_putF (D := D) (ci := 1) (v := .ref a_om) (ty := tyX1 9) (C := RX1) (T := TX1) (N := 11) hx hb hts kX1_init_wX1 tyX1 tyX1_ok nmX1 hown hK hP hD hS 0 rfl rfl 9 (by decide) (hts _ kX1_init_f38) (fun _ h9 => h9) rfl hin rfl (by decide +kernel) rfl rfl (Nat.le_of_ble_eq_true rfl) dX1_init_116 (fun H locs hP hD hS => ?_)
      have hP : va_P D vwCl [(a_o, .inr (1, [.int f_o_n, .int x2, .int ((1 : Int32) <<< ((p1 - (1 : Int32)) &&& 31)), .ref a_od, .ref a_op, .ref a_oi, .ref a_ov, .ref a_of, .ref a_ol, .ref a_om, .null])), (a_od, .inl (y 0, x2.toNatClampNeg, .inl (fun _ => (0 : Int32)))), (a_op, .inl (y 0, x2.toNatClampNeg, .inl (fun _ => (0 : Int32)))), (a_oi, .inl (y 0, x2.toNatClampNeg, .inl (fun _ => (0 : Int32)))), (a_ov, .inl (y 0, x2.toNatClampNeg, .inl (fun _ => (0 : Int32)))), (a_of, .inl (y 0, (((1 : Int32) <<< ((p1 - (1 : Int32)) &&& 31)).toNatClampNeg), .inl (fun _ => (0 : Int32)))), (a_ol, .inl (y 0, ((x2 * p1).toNatClampNeg), .inl (fun _ => (0 : Int32)))), (a_om, .inl (y 0, ((x2 * x2).toNatClampNeg), .inl (fun _ => (0 : Int32))))] H := hP
      have hD : va_D A [(a_o, .inr (1, [.int f_o_n, .int x2, .int ((1 : Int32) <<< ((p1 - (1 : Int32)) &&& 31)), .ref a_od, .ref a_op, .ref a_oi, .ref a_ov, .ref a_of, .ref a_ol, .ref a_om, .null])), (a_od, .inl (y 0, x2.toNatClampNeg, .inl (fun _ => (0 : Int32)))), (a_op, .inl (y 0, x2.toNatClampNeg, .inl (fun _ => (0 : Int32)))), (a_oi, .inl (y 0, x2.toNatClampNeg, .inl (fun _ => (0 : Int32)))), (a_ov, .inl (y 0, x2.toNatClampNeg, .inl (fun _ => (0 : Int32)))), (a_of, .inl (y 0, (((1 : Int32) <<< ((p1 - (1 : Int32)) &&& 31)).toNatClampNeg), .inl (fun _ => (0 : Int32)))), (a_ol, .inl (y 0, ((x2 * p1).toNatClampNeg), .inl (fun _ => (0 : Int32)))), (a_om, .inl (y 0, ((x2 * x2).toNatClampNeg), .inl (fun _ => (0 : Int32))))] := hD
      refine lv_aload_n hx hb dX1_init_119 rfl (lv_at hl 0 rfl) ?_
      refine lv_iload_n hx hb dX1_init_120 rfl (lv_at hl 1 rfl) ?_
      obtain ⟨g9n, g9s, g9b, hB⟩ := xn_some hB
      refine xnewI hx hb (hts _ kX1_init_aI) hK hP hD hS hA (N' := p1.toNatClampNeg) g9n rfl (by omega) (Nat.le_of_ble_eq_true rfl) g9s dX1_init_121 (fun a_ow H hP hD hS => ?_)
      have hP : va_P D vwCl [(a_o, .inr (1, [.int f_o_n, .int x2, .int ((1 : Int32) <<< ((p1 - (1 : Int32)) &&& 31)), .ref a_od, .ref a_op, .ref a_oi, .ref a_ov, .ref a_of, .ref a_ol, .ref a_om, .null])), (a_od, .inl (y 0, x2.toNatClampNeg, .inl (fun _ => (0 : Int32)))), (a_op, .inl (y 0, x2.toNatClampNeg, .inl (fun _ => (0 : Int32)))), (a_oi, .inl (y 0, x2.toNatClampNeg, .inl (fun _ => (0 : Int32)))), (a_ov, .inl (y 0, x2.toNatClampNeg, .inl (fun _ => (0 : Int32)))), (a_of, .inl (y 0, (((1 : Int32) <<< ((p1 - (1 : Int32)) &&& 31)).toNatClampNeg), .inl (fun _ => (0 : Int32)))), (a_ol, .inl (y 0, ((x2 * p1).toNatClampNeg), .inl (fun _ => (0 : Int32)))), (a_om, .inl (y 0, ((x2 * x2).toNatClampNeg), .inl (fun _ => (0 : Int32)))), (a_ow, .inl (y 0, p1.toNatClampNeg, .inl (fun _ => (0 : Int32))))] H := hP
      have hD : va_D A [(a_o, .inr (1, [.int f_o_n, .int x2, .int ((1 : Int32) <<< ((p1 - (1 : Int32)) &&& 31)), .ref a_od, .ref a_op, .ref a_oi, .ref a_ov, .ref a_of, .ref a_ol, .ref a_om, .null])), (a_od, .inl (y 0, x2.toNatClampNeg, .inl (fun _ => (0 : Int32)))), (a_op, .inl (y 0, x2.toNatClampNeg, .inl (fun _ => (0 : Int32)))), (a_oi, .inl (y 0, x2.toNatClampNeg, .inl (fun _ => (0 : Int32)))), (a_ov, .inl (y 0, x2.toNatClampNeg, .inl (fun _ => (0 : Int32)))), (a_of, .inl (y 0, (((1 : Int32) <<< ((p1 - (1 : Int32)) &&& 31)).toNatClampNeg), .inl (fun _ => (0 : Int32)))), (a_ol, .inl (y 0, ((x2 * p1).toNatClampNeg), .inl (fun _ => (0 : Int32)))), (a_om, .inl (y 0, ((x2 * x2).toNatClampNeg), .inl (fun _ => (0 : Int32)))), (a_ow, .inl (y 0, p1.toNatClampNeg, .inl (fun _ => (0 : Int32))))] := hD
      refine va_putF (D := D) (ci := 1) (v := .ref a_ow) (ty := tyX1 10) (C := RX1) (T := TX1) (N := 11) hx hb hts kX1_init_wX1 tyX1 tyX1_ok nmX1 hown hK hP hD hS 0 rfl rfl 10 (by decide) (hts _ kX1_init_f41) (fun _ h9 => h9) rfl hin rfl (by decide +kernel) rfl rfl (Nat.le_of_ble_eq_true rfl) dX1_init_123 (fun H locs hP hD hS => ?_)
      have hP : va_P D vwCl [(a_o, .inr (1, [.int f_o_n, .int x2, .int ((1 : Int32) <<< ((p1 - (1 : Int32)) &&& 31)), .ref a_od, .ref a_op, .ref a_oi, .ref a_ov, .ref a_of, .ref a_ol, .ref a_om, .ref a_ow])), (a_od, .inl (y 0, x2.toNatClampNeg, .inl (fun _ => (0 : Int32)))), (a_op, .inl (y 0, x2.toNatClampNeg, .inl (fun _ => (0 : Int32)))), (a_oi, .inl (y 0, x2.toNatClampNeg, .inl (fun _ => (0 : Int32)))), (a_ov, .inl (y 0, x2.toNatClampNeg, .inl (fun _ => (0 : Int32)))), (a_of, .inl (y 0, (((1 : Int32) <<< ((p1 - (1 : Int32)) &&& 31)).toNatClampNeg), .inl (fun _ => (0 : Int32)))), (a_ol, .inl (y 0, ((x2 * p1).toNatClampNeg), .inl (fun _ => (0 : Int32)))), (a_om, .inl (y 0, ((x2 * x2).toNatClampNeg), .inl (fun _ => (0 : Int32)))), (a_ow, .inl (y 0, p1.toNatClampNeg, .inl (fun _ => (0 : Int32))))] H := hP
      have hD : va_D A [(a_o, .inr (1, [.int f_o_n, .int x2, .int ((1 : Int32) <<< ((p1 - (1 : Int32)) &&& 31)), .ref a_od, .ref a_op, .ref a_oi, .ref a_ov, .ref a_of, .ref a_ol, .ref a_om, .ref a_ow])), (a_od, .inl (y 0, x2.toNatClampNeg, .inl (fun _ => (0 : Int32)))), (a_op, .inl (y 0, x2.toNatClampNeg, .inl (fun _ => (0 : Int32)))), (a_oi, .inl (y 0, x2.toNatClampNeg, .inl (fun _ => (0 : Int32)))), (a_ov, .inl (y 0, x2.toNatClampNeg, .inl (fun _ => (0 : Int32)))), (a_of, .inl (y 0, (((1 : Int32) <<< ((p1 - (1 : Int32)) &&& 31)).toNatClampNeg), .inl (fun _ => (0 : Int32)))), (a_ol, .inl (y 0, ((x2 * p1).toNatClampNeg), .inl (fun _ => (0 : Int32)))), (a_om, .inl (y 0, ((x2 * x2).toNatClampNeg), .inl (fun _ => (0 : Int32)))), (a_ow, .inl (y 0, p1.toNatClampNeg, .inl (fun _ => (0 : Int32))))] := hD
      refine lv_aload_n hx hb dX1_init_126 rfl (lv_at hl 0 rfl) ?_
      refine va_get (D := D) (ci := 1) (v := .int x2) (C := RX1) (T := TX1) (N := 11) hx hb hts kX1_init_wX1 hown hK hP 0 rfl rfl 1 (by decide) (hts _ kX1_init_f13) (fun _ h9 => h9) rfl dX1_init_127 ?_
      refine lv_iconst (v := 1) hx hb dX1_init_130 (by decide) ?_
      refine lv_isub hx hb dX1_init_131 ?_
      refine lv_istore_n (lv' := [(3, .int (x2 - (1 : Int32))), (0, .ref a_o), (1, .int p1), (2, .int x2)]) hx hb dX1_init_132 rfl hl (by decide) rfl (fun ls hl => ?_)
      exact B_X1_init_133 (p1 := p1) (N := N) C0 hin xF a_od a_op a_oi a_ov a_of a_ol a_om a_ow (x2 - (1 : Int32)) x2.toNatClampNeg (((1 : Int32) <<< ((p1 - (1 : Int32)) &&& 31)).toNatClampNeg) ((x2 * p1).toNatClampNeg) ((x2 * x2).toNatClampNeg) p1.toNatClampNeg f_o_n x2 ((1 : Int32) <<< ((p1 - (1 : Int32)) &&& 31)) (fun _ => (0 : Int32)) (fun _ => (0 : Int32)) (fun _ => (0 : Int32)) (fun _ => (0 : Int32)) (fun _ => (0 : Int32)) (fun _ => (0 : Int32)) (fun _ => (0 : Int32)) (fun _ => (0 : Int32)) H locs ls hP hD hS (lv_sub hl [1, 0] rfl) g9s hB
    · have hB := xin c1 hB
      refine lv_iload_n hx hb dX1_init_18 rfl (lv_at hl 2 rfl) ?_
      refine lv_iload_n hx hb dX1_init_19 rfl (lv_at hl 3 rfl) ?_
      refine lv_imul hx hb dX1_init_20 ?_
      refine lv_istore_n (lv' := [(2, .int (x2 * x3)), (0, .ref a_o), (1, .int p1), (3, .int x3)]) hx hb dX1_init_21 rfl hl (by decide) rfl (fun ls hl => ?_)
      refine lv_iinc (v := x3 + 1) (lv' := [(3, .int (x3 + 1)), (2, .int (x2 * x3)), (0, .ref a_o), (1, .int p1)]) hx hb dX1_init_22 hl (k := 3) rfl rfl (by decide) rfl (fun ls hl => ?_)
      refine lv_goto (tgt := 13) hx hb dX1_init_25 (by decide) ?_
      exact ih (x2 * x3) (x3 + 1) f_o_n f_o_many f_o_sets H locs ls hP hD hS (lv_sub hl [2, 3, 1, 0] rfl) hN hB
set_option maxHeartbeats 4000000 in
set_option maxRecDepth 100000 in
theorem B_X1_init_0 {p : Program} {l : Launch} {e : Env} {s : State} {m : MethodId} {args : Array Value} {below : List Frame} {meth : Method} {c : Code} {A : Nat → Prop} {D : va_G} {y : Nat → ClassId} {N : Nat} {a_o : Nat} {p1 : Int32} {R : Nat × Nat × Nat × Nat × Nat × Nat × Int32 × Int32 × Int32 × (Nat → Int32) × (Nat → Int32) × (Nat → Int32) × (Nat → Int32) × (Nat → Int32) × (Nat → Int32) × (Nat → Int32) × (Nat → Int32) × (Nat → Int32)} (C : xC p s m args meth c A cX1_init RX1 wsX1_init 4 none D y) (hin : meth.name = "<init>")  : S_X1_init_0 p l e s m args below meth c A D y N a_o p1 R (F_X1_init N p1 ) := by
  have C0 := C
  obtain ⟨hx, hb, hml, hown, hts, hr, hlocks, hK, hA⟩ := C
  intro H locs ls hP hD hS hl hN hB
  unfold F_X1_init at hB
  refine lv_aload_n hx hb dX1_init_0 rfl (lv_at hl 0 rfl) ?_
  refine W.objInit hx hb hown (hts _ kX1_init_oi1) (hts _ kX1_init_oi2) (hts _ kX1_init_oi3) rfl (by rw [hml]; exact hl.1) rfl dX1_init_1 (Nat.le_of_ble_eq_true rfl) (Nat.le_of_ble_eq_true rfl) ?_
  refine W.eq (g2 := F0 m 4 ls []) rfl ?_
  refine lv_aload_n hx hb dX1_init_4 rfl (lv_at hl 0 rfl) ?_
  refine lv_iload_n hx hb dX1_init_5 rfl (lv_at hl 1 rfl) ?_
  refine va_putF (D := D) (ci := 1) (v := .int p1) (ty := .int) (C := RX1) (T := TX1) (N := 11) hx hb hts kX1_init_wX1 tyX1 tyX1_ok nmX1 hown hK hP hD hS 0 rfl rfl 0 (by decide) (hts _ kX1_init_f7) (fun _ h9 => h9) rfl hin rfl (by decide +kernel) rfl rfl (Nat.le_of_ble_eq_true rfl) dX1_init_6 (fun H locs hP hD hS => ?_)
  have hP : va_P D vwCl [(a_o, .inr (1, [.int p1, .int (0 : Int32), .int (0 : Int32), .null, .null, .null, .null, .null, .null, .null, .null]))] H := hP
  have hD : va_D A [(a_o, .inr (1, [.int p1, .int (0 : Int32), .int (0 : Int32), .null, .null, .null, .null, .null, .null, .null, .null]))] := hD
  refine lv_iconst (v := 1) hx hb dX1_init_9 (by decide) ?_
  refine lv_istore_n (lv' := [(2, .int (1 : Int32)), (0, .ref a_o), (1, .int p1)]) hx hb dX1_init_10 rfl hl (by decide) rfl (fun ls hl => ?_)
  refine lv_iconst (v := 2) hx hb dX1_init_11 (by decide) ?_
  refine lv_istore_n (lv' := [(3, .int (2 : Int32)), (2, .int (1 : Int32)), (0, .ref a_o), (1, .int p1)]) hx hb dX1_init_12 rfl hl (by decide) rfl (fun ls hl => ?_)
  exact B_X1_init_13 (p1 := p1) (N := N) C0 hin xF (1 : Int32) (2 : Int32) p1 (0 : Int32) (0 : Int32) H locs ls hP hD hS (lv_sub hl [2, 3, 1, 0] rfl) hN hB
set_option maxHeartbeats 4000000 in
set_option maxRecDepth 100000 in
theorem c_X1_init (l : Launch) (D : va_G) (y : Nat → ClassId) (N : Nat) (a_o : Nat) (p1 : Int32) (sz : Nat) {R : Nat × Nat × Nat × Nat × Nat × Nat × Int32 × Int32 × Int32 × (Nat → Int32) × (Nat → Int32) × (Nat → Int32) × (Nat → Int32) × (Nat → Int32) × (Nat → Int32) × (Nat → Int32) × (Nat → Int32) × (Nat → Int32)} (hF : F_X1_init N p1 = some R) : Met l yX1_init wsX1_init ({ frames := 4, cells := 9, slots := N, locals := 96 } : Room) (xPre D y sz [.ref a_o, .int p1] [(a_o, .inr (1, [.int (0 : Int32), .int (0 : Int32), .int (0 : Int32), .null, .null, .null, .null, .null, .null, .null, .null]))]) (va_Qv (fun (_ : Unit) => True) (xBz D y (va_A [(a_o, .inr (1, [.int (0 : Int32), .int (0 : Int32), .int (0 : Int32), .null, .null, .null, .null, .null, .null, .null, .null]))] sz) (fun z : Nat × Nat × Nat × Nat × Nat × Nat × Nat × Nat × Nat => [(a_o, .inr (1, [.int R.2.2.2.2.2.2.1, .int R.2.2.2.2.2.2.2.1, .int R.2.2.2.2.2.2.2.2.1, .ref z.1, .ref z.2.1, .ref z.2.2.1, .ref z.2.2.2.1, .ref z.2.2.2.2.1, .ref z.2.2.2.2.2.1, .ref z.2.2.2.2.2.2.1, .ref z.2.2.2.2.2.2.2.1])), (z.1, .inl (y 0, R.1, .inl R.2.2.2.2.2.2.2.2.2.1)), (z.2.1, .inl (y 0, R.1, .inl R.2.2.2.2.2.2.2.2.2.2.1)), (z.2.2.1, .inl (y 0, R.1, .inl R.2.2.2.2.2.2.2.2.2.2.2.1)), (z.2.2.2.1, .inl (y 0, R.1, .inl R.2.2.2.2.2.2.2.2.2.2.2.2.1)), (z.2.2.2.2.1, .inl (y 0, R.2.1, .inl R.2.2.2.2.2.2.2.2.2.2.2.2.2.1)), (z.2.2.2.2.2.1, .inl (y 0, R.2.2.1, .inl R.2.2.2.2.2.2.2.2.2.2.2.2.2.2.1)), (z.2.2.2.2.2.2.1, .inl (y 0, R.2.2.2.1, .inl R.2.2.2.2.2.2.2.2.2.2.2.2.2.2.2.1)), (z.2.2.2.2.2.2.2.1, .inl (y 0, R.2.2.2.2.1, .inl R.2.2.2.2.2.2.2.2.2.2.2.2.2.2.2.2.1)), (z.2.2.2.2.2.2.2.2, .inl (y 0, R.2.2.2.2.2.1, .inl R.2.2.2.2.2.2.2.2.2.2.2.2.2.2.2.2.2))])) (va_A [(a_o, .inr (1, [.int (0 : Int32), .int (0 : Int32), .int (0 : Int32), .null, .null, .null, .null, .null, .null, .null, .null]))] sz)) 9 N (va_A [(a_o, .inr (1, [.int (0 : Int32), .int (0 : Int32), .int (0 : Int32), .null, .null, .null, .null, .null, .null, .null, .null]))] sz) := by
  refine Met.ofW (cc := cX1_init) (maxL := 4) (ret := none) (by decide) rfl ?_
  intro p e s m args below meth c s₁ B hml hv
  obtain ⟨rfl, hsz, hP, hK, hD0⟩ := hv
  subst hsz
  have hD := hD0.self (sz := s.heap.size)
  have C : xC p s m [.ref a_o, .int p1].toArray meth c (va_A [(a_o, .inr (1, [.int (0 : Int32), .int (0 : Int32), .int (0 : Int32), .null, .null, .null, .null, .null, .null, .null, .null]))] s.heap.size) cX1_init RX1 wsX1_init 4 none D y := ⟨B.exec, B.bytes, hml, findClass_of_methodNamed B.named, atoms_spec (ws := wsX1_init) B.pre, B.returns, B.notSynchronized, hK, fun q h => Or.inr h⟩
  have hl := lv_entry ([.ref a_o, .int p1]) (n := 4) (Nat.le_of_ble_eq_true rfl)
  rw [lg_entry_eq]
  generalize (lg_sl ([.ref a_o, .int p1]) ++ List.replicate (4 - (lg_sl ([.ref a_o, .int p1])).length) Slot.unset).toArray = ls at hl ⊢
  have hl : lv_has ls 4 [(0, .ref a_o), (1, .int p1)] := hl
  exact B_X1_init_0 (p1 := p1) (N := N) C (name_of_methodNamed B.named B.method).1  s.heap [] ls hP hD va_S.rf hl (Nat.zero_le N) hF
theorem kX5_ordersWithH_f11 : Cond.fieldLink RX5 11 "DescentShuffles" "known" "[LDescentShuffles$Orders;" ∈ wsX5_ordersWith := by decide +kernel
theorem kX5_ordersWithH_wX5 : ∀ w ∈ u_ws RX5 TX5 9, w ∈ wsX5_ordersWith := by decide +kernel
def S_X5_ordersWithH_0 (p : Program) (l : Launch) (e : Env) (s : State) (m : MethodId) (args : Array Value) (below : List Frame) (meth : Method) (c : Code) (A : Nat → Prop) (D : va_G) (y : Nat → ClassId) (r : Nat) (a_x : Nat) (a_known : Nat) (a_so : Nat) (a_made : Nat) (a_pcl : Nat) (a_hi : Nat) (a_tx : Nat) (a_rd : Nat) (a_tb : Nat) (a_o : Nat) (v_known : Nat → Option Nat) (p1 : Int32) (R : Unit) (κ : Option (Unit)) : Prop := ∀ (H : Heap) (locs : List Loc) (ls : Array Slot), va_P D vwCl [(a_x, .inr (5, [.ref a_known, .ref a_so, .ref a_made, .ref a_pcl, .ref a_hi, .ref a_tx, .ref a_rd, .ref a_tb, .ref a_o])), (a_known, .inl (y 3, 6, .inr (.inr (.inr (.inr v_known)))))] H → va_D A [(a_x, .inr (5, [.ref a_known, .ref a_so, .ref a_made, .ref a_pcl, .ref a_hi, .ref a_tx, .ref a_rd, .ref a_tb, .ref a_o])), (a_known, .inl (y 3, 6, .inr (.inr (.inr (.inr v_known)))))] → va_S A s.heap H locs → lv_has ls 3 [(0, .ref a_x), (1, .int p1)] → κ = some R → W p l e ({ frames := 0, cells := 0, slots := 0, locals := 0 } : Room) s m args below meth c H locs 0 0 (MQ below (va_Qr (fun (_ : Unit) => True) (xBr D y A r [(a_x, .inr (5, [.ref a_known, .ref a_so, .ref a_made, .ref a_pcl, .ref a_hi, .ref a_tx, .ref a_rd, .ref a_tb, .ref a_o])), (a_known, .inl (y 3, 6, .inr (.inr (.inr (.inr v_known)))))]) A) args s 0 0 A) (F0 m 0 ls [])
set_option maxHeartbeats 4000000 in
set_option maxRecDepth 100000 in
theorem B_X5_ordersWithH_0 {p : Program} {l : Launch} {e : Env} {s : State} {m : MethodId} {args : Array Value} {below : List Frame} {meth : Method} {c : Code} {A : Nat → Prop} {D : va_G} {y : Nat → ClassId} {r : Nat} {a_x : Nat} {a_known : Nat} {a_so : Nat} {a_made : Nat} {a_pcl : Nat} {a_hi : Nat} {a_tx : Nat} {a_rd : Nat} {a_tb : Nat} {a_o : Nat} {v_known : Nat → Option Nat} {p1 : Int32} {R : Unit} (C : xC p s m args meth c A cX5_ordersWith RX5 wsX5_ordersWith 3 (some (.object "DescentShuffles$Orders")) D y) (hk : v_known p1.toNatClampNeg = some r)  : S_X5_ordersWithH_0 p l e s m args below meth c A D y r a_x a_known a_so a_made a_pcl a_hi a_tx a_rd a_tb a_o v_known p1 R (F_X5_ordersWithH p1 ) := by
  have C0 := C
  obtain ⟨hx, hb, hml, hown, hts, hr, hlocks, hK, hA⟩ := C
  intro H locs ls hP hD hS hl hB
  unfold F_X5_ordersWithH at hB
  refine lv_aload_n hx hb dX5_ordersWith_0 rfl (lv_at hl 0 rfl) ?_
  refine va_get (D := D) (ci := 5) (v := .ref a_known) (C := RX5) (T := TX5) (N := 9) hx hb hts kX5_ordersWithH_wX5 hown hK hP 0 rfl rfl 0 (by decide) (hts _ kX5_ordersWithH_f11) (fun _ h9 => h9) rfl dX5_ordersWith_1 ?_
  refine lv_iload_n hx hb dX5_ordersWith_4 rfl (lv_at hl 1 rfl) ?_
  obtain ⟨g1, hB⟩ := xg_some hB
  refine va_aldq hx hb hK hP 1 3 rfl rfl g1 dX5_ordersWith_5 ?_
  rw [show va_rf (v_known p1.toNatClampNeg) = .ref r by rw [hk]; rfl]
  refine lv_astore_n (lv' := [(2, .ref r), (0, .ref a_x), (1, .int p1)]) hx hb dX5_ordersWith_6 rfl hl (by decide) rfl (fun ls hl => ?_)
  refine lv_aload_n hx hb dX5_ordersWith_7 rfl (lv_at hl 0 rfl) ?_
  refine lv_ifnonnull (tgt := 27) hx hb dX5_ordersWith_8 (by decide) ?_
  refine lv_aload_n hx hb dX5_ordersWith_27 rfl (lv_at hl 0 rfl) ?_
  have hB := Option.some.inj hB
  subst hB
  exact W.aret hx hb hr (Or.inl ⟨_, rfl⟩) (Or.inr ⟨_, rfl⟩) (fun t ht hW => ⟨⟨(), _, rfl, trivial, rfl, by rw [ht]; exact hP, va_K.moved hW.alike hK, hD⟩, hS.F ht⟩) hS.2.2 dX5_ordersWith_28 hlocks
set_option maxHeartbeats 4000000 in
set_option maxRecDepth 100000 in
theorem c_X5_ordersWithH (l : Launch) (D : va_G) (y : Nat → ClassId) (r : Nat) (a_x : Nat) (a_known : Nat) (a_so : Nat) (a_made : Nat) (a_pcl : Nat) (a_hi : Nat) (a_tx : Nat) (a_rd : Nat) (a_tb : Nat) (a_o : Nat)  (v_known : Nat → Option Nat) (p1 : Int32) (sz : Nat) {R : Unit} (hk : v_known p1.toNatClampNeg = some r) (hF : F_X5_ordersWithH p1 = some R) : Met l yX5_ordersWith wsX5_ordersWith ({ frames := 0, cells := 0, slots := 0, locals := 0 } : Room) (xPre D y sz [.ref a_x, .int p1] [(a_x, .inr (5, [.ref a_known, .ref a_so, .ref a_made, .ref a_pcl, .ref a_hi, .ref a_tx, .ref a_rd, .ref a_tb, .ref a_o])), (a_known, .inl (y 3, 6, .inr (.inr (.inr (.inr v_known)))))]) (va_Qr (fun (_ : Unit) => True) (xBr D y (va_A [(a_x, .inr (5, [.ref a_known, .ref a_so, .ref a_made, .ref a_pcl, .ref a_hi, .ref a_tx, .ref a_rd, .ref a_tb, .ref a_o])), (a_known, .inl (y 3, 6, .inr (.inr (.inr (.inr v_known)))))] sz) r [(a_x, .inr (5, [.ref a_known, .ref a_so, .ref a_made, .ref a_pcl, .ref a_hi, .ref a_tx, .ref a_rd, .ref a_tb, .ref a_o])), (a_known, .inl (y 3, 6, .inr (.inr (.inr (.inr v_known)))))]) (va_A [(a_x, .inr (5, [.ref a_known, .ref a_so, .ref a_made, .ref a_pcl, .ref a_hi, .ref a_tx, .ref a_rd, .ref a_tb, .ref a_o])), (a_known, .inl (y 3, 6, .inr (.inr (.inr (.inr v_known)))))] sz)) 0 0 (va_A [(a_x, .inr (5, [.ref a_known, .ref a_so, .ref a_made, .ref a_pcl, .ref a_hi, .ref a_tx, .ref a_rd, .ref a_tb, .ref a_o])), (a_known, .inl (y 3, 6, .inr (.inr (.inr (.inr v_known)))))] sz) := by
  refine Met.ofW (cc := cX5_ordersWith) (maxL := 3) (ret := (some (.object "DescentShuffles$Orders"))) (by decide) rfl ?_
  intro p e s m args below meth c s₁ B hml hv
  obtain ⟨rfl, hsz, hP, hK, hD0⟩ := hv
  subst hsz
  have hD := hD0.self (sz := s.heap.size)
  have C : xC p s m [.ref a_x, .int p1].toArray meth c (va_A [(a_x, .inr (5, [.ref a_known, .ref a_so, .ref a_made, .ref a_pcl, .ref a_hi, .ref a_tx, .ref a_rd, .ref a_tb, .ref a_o])), (a_known, .inl (y 3, 6, .inr (.inr (.inr (.inr v_known)))))] s.heap.size) cX5_ordersWith RX5 wsX5_ordersWith 3 (some (.object "DescentShuffles$Orders")) D y := ⟨B.exec, B.bytes, hml, findClass_of_methodNamed B.named, atoms_spec (ws := wsX5_ordersWith) B.pre, B.returns, B.notSynchronized, hK, fun q h => Or.inr h⟩
  have hl := lv_entry ([.ref a_x, .int p1]) (n := 3) (Nat.le_of_ble_eq_true rfl)
  rw [lg_entry_eq]
  generalize (lg_sl ([.ref a_x, .int p1]) ++ List.replicate (3 - (lg_sl ([.ref a_x, .int p1])).length) Slot.unset).toArray = ls at hl ⊢
  have hl : lv_has ls 3 [(0, .ref a_x), (1, .int p1)] := hl
  exact B_X5_ordersWithH_0 (p1 := p1) (r := r) C hk  s.heap [] ls hP hD va_S.rf hl hF
theorem kX5_ordersWithM_c9 : Cond.classLink RX5 9 RX1 ∈ wsX5_ordersWith := by decide +kernel
theorem kX5_ordersWithM_nX1 : Cond.instantiable RX1 11 ∈ wsX5_ordersWith := by decide +kernel
theorem kX5_ordersWithM_iX1 : Cond.initialized RX1 ∈ wsX5_ordersWith := by decide +kernel
theorem kX5_ordersWithM_wX1 : ∀ w ∈ u_ws RX1 TX1 11, w ∈ wsX5_ordersWith := by decide +kernel
theorem kX5_ordersWithM_f11 : Cond.fieldLink RX5 11 "DescentShuffles" "known" "[LDescentShuffles$Orders;" ∈ wsX5_ordersWith := by decide +kernel
theorem kX5_ordersWithM_wX5 : ∀ w ∈ u_ws RX5 TX5 9, w ∈ wsX5_ordersWith := by decide +kernel
theorem kX5_ordersWithM_mX1 : Cond.instanceMethod yX1_init ∈ wsX5_ordersWith := by decide +kernel
theorem kX5_ordersWithM_l212 : Cond.methodLink RX5 212 yX1_init ∈ wsX5_ordersWith := by decide +kernel
def S_X5_ordersWithM_0 (p : Program) (l : Launch) (e : Env) (s : State) (m : MethodId) (args : Array Value) (below : List Frame) (meth : Method) (c : Code) (A : Nat → Prop) (D : va_G) (y : Nat → ClassId) (N : Nat) (a_x : Nat) (a_known : Nat) (a_so : Nat) (a_made : Nat) (a_pcl : Nat) (a_hi : Nat) (a_tx : Nat) (a_rd : Nat) (a_tb : Nat) (a_o : Nat) (v_known : Nat → Option Nat) (p1 : Int32) (R : Nat × Nat × Nat × Nat × Nat × Nat × Int32 × Int32 × Int32 × (Nat → Int32) × (Nat → Int32) × (Nat → Int32) × (Nat → Int32) × (Nat → Int32) × (Nat → Int32) × (Nat → Int32) × (Nat → Int32) × (Nat → Int32)) (κ : Option (Nat × Nat × Nat × Nat × Nat × Nat × Int32 × Int32 × Int32 × (Nat → Int32) × (Nat → Int32) × (Nat → Int32) × (Nat → Int32) × (Nat → Int32) × (Nat → Int32) × (Nat → Int32) × (Nat → Int32) × (Nat → Int32))) : Prop := ∀ (H : Heap) (locs : List Loc) (ls : Array Slot), va_P D vwCl [(a_x, .inr (5, [.ref a_known, .ref a_so, .ref a_made, .ref a_pcl, .ref a_hi, .ref a_tx, .ref a_rd, .ref a_tb, .ref a_o])), (a_known, .inl (y 3, 6, .inr (.inr (.inr (.inr v_known)))))] H → va_D A [(a_x, .inr (5, [.ref a_known, .ref a_so, .ref a_made, .ref a_pcl, .ref a_hi, .ref a_tx, .ref a_rd, .ref a_tb, .ref a_o])), (a_known, .inl (y 3, 6, .inr (.inr (.inr (.inr v_known)))))] → va_S A s.heap H locs → lv_has ls 3 [(0, .ref a_x), (1, .int p1)] → 0 ≤ N → κ = some R → W p l e ({ frames := 5, cells := 10, slots := N, locals := 119 } : Room) s m args below meth c H locs 0 0 (MQ below (va_Qr (fun (_ : Unit) => True) (xBzr D y A (fun z : Nat × Nat × Nat × Nat × Nat × Nat × Nat × Nat × Nat × Nat => z.1) (fun z : Nat × Nat × Nat × Nat × Nat × Nat × Nat × Nat × Nat × Nat => [(a_x, .inr (5, [.ref a_known, .ref a_so, .ref a_made, .ref a_pcl, .ref a_hi, .ref a_tx, .ref a_rd, .ref a_tb, .ref a_o])), (a_known, .inl (y 3, 6, .inr (.inr (.inr (.inr (va_up v_known p1.toNatClampNeg (some z.1))))))), (z.1, .inr (1, [.int R.2.2.2.2.2.2.1, .int R.2.2.2.2.2.2.2.1, .int R.2.2.2.2.2.2.2.2.1, .ref z.2.1, .ref z.2.2.1, .ref z.2.2.2.1, .ref z.2.2.2.2.1, .ref z.2.2.2.2.2.1, .ref z.2.2.2.2.2.2.1, .ref z.2.2.2.2.2.2.2.1, .ref z.2.2.2.2.2.2.2.2.1])), (z.2.1, .inl (y 0, R.1, .inl R.2.2.2.2.2.2.2.2.2.1)), (z.2.2.1, .inl (y 0, R.1, .inl R.2.2.2.2.2.2.2.2.2.2.1)), (z.2.2.2.1, .inl (y 0, R.1, .inl R.2.2.2.2.2.2.2.2.2.2.2.1)), (z.2.2.2.2.1, .inl (y 0, R.1, .inl R.2.2.2.2.2.2.2.2.2.2.2.2.1)), (z.2.2.2.2.2.1, .inl (y 0, R.2.1, .inl R.2.2.2.2.2.2.2.2.2.2.2.2.2.1)), (z.2.2.2.2.2.2.1, .inl (y 0, R.2.2.1, .inl R.2.2.2.2.2.2.2.2.2.2.2.2.2.2.1)), (z.2.2.2.2.2.2.2.1, .inl (y 0, R.2.2.2.1, .inl R.2.2.2.2.2.2.2.2.2.2.2.2.2.2.2.1)), (z.2.2.2.2.2.2.2.2.1, .inl (y 0, R.2.2.2.2.1, .inl R.2.2.2.2.2.2.2.2.2.2.2.2.2.2.2.2.1)), (z.2.2.2.2.2.2.2.2.2, .inl (y 0, R.2.2.2.2.2.1, .inl R.2.2.2.2.2.2.2.2.2.2.2.2.2.2.2.2.2))])) A) args s 10 N A) (F0 m 0 ls [])
set_option maxHeartbeats 4000000 in
set_option maxRecDepth 100000 in
theorem B_X5_ordersWithM_0 {p : Program} {l : Launch} {e : Env} {s : State} {m : MethodId} {args : Array Value} {below : List Frame} {meth : Method} {c : Code} {A : Nat → Prop} {D : va_G} {y : Nat → ClassId} {N : Nat} {a_x : Nat} {a_known : Nat} {a_so : Nat} {a_made : Nat} {a_pcl : Nat} {a_hi : Nat} {a_tx : Nat} {a_rd : Nat} {a_tb : Nat} {a_o : Nat} {v_known : Nat → Option Nat} {p1 : Int32} {R : Nat × Nat × Nat × Nat × Nat × Nat × Int32 × Int32 × Int32 × (Nat → Int32) × (Nat → Int32) × (Nat → Int32) × (Nat → Int32) × (Nat → Int32) × (Nat → Int32) × (Nat → Int32) × (Nat → Int32) × (Nat → Int32)} (C : xC p s m args meth c A cX5_ordersWith RX5 wsX5_ordersWith 3 (some (.object "DescentShuffles$Orders")) D y) (hk : v_known p1.toNatClampNeg = none)  : S_X5_ordersWithM_0 p l e s m args below meth c A D y N a_x a_known a_so a_made a_pcl a_hi a_tx a_rd a_tb a_o v_known p1 R (F_X5_ordersWithM N p1 ) := by
  have C0 := C
  obtain ⟨hx, hb, hml, hown, hts, hr, hlocks, hK, hA⟩ := C
  intro H locs ls hP hD hS hl hN hB
  unfold F_X5_ordersWithM at hB
  refine lv_aload_n hx hb dX5_ordersWith_0 rfl (lv_at hl 0 rfl) ?_
  refine va_get (D := D) (ci := 5) (v := .ref a_known) (C := RX5) (T := TX5) (N := 9) hx hb hts kX5_ordersWithM_wX5 hown hK hP 0 rfl rfl 0 (by decide) (hts _ kX5_ordersWithM_f11) (fun _ h9 => h9) rfl dX5_ordersWith_1 ?_
  refine lv_iload_n hx hb dX5_ordersWith_4 rfl (lv_at hl 1 rfl) ?_
  obtain ⟨g1, hB⟩ := xg_some hB
  refine va_aldq hx hb hK hP 1 3 rfl rfl g1 dX5_ordersWith_5 ?_
  rw [show va_rf (v_known p1.toNatClampNeg) = .null by rw [hk]; rfl]
  refine lv_astore_nN (lv' := [(2, .null), (0, .ref a_x), (1, .int p1)]) hx hb dX5_ordersWith_6 rfl hl (by decide) rfl (fun ls hl => ?_)
  refine lv_aload_nN hx hb dX5_ordersWith_7 rfl (lv_at hl 0 rfl) ?_
  refine lv_ifnonnullN hx hb dX5_ordersWith_8 ?_
  obtain ⟨g2, hB⟩ := xle_some hB
  refine va_new (ci := 1) (fs := [.int 0, .int 0, .int 0, .null, .null, .null, .null, .null, .null, .null, .null]) (C := RX1) (T := TX1) (N := 11) hx hb hts kX5_ordersWithM_wX1 tyX1 tyX1_ok hown (hts _ kX5_ordersWithM_c9) (hts _ kX5_ordersWithM_nX1) (hts _ kX5_ordersWithM_iX1) hK hP hD hS hA rfl (fun j hj => by rcases (show j = 0 ∨ j = 1 ∨ j = 2 ∨ j = 3 ∨ j = 4 ∨ j = 5 ∨ j = 6 ∨ j = 7 ∨ j = 8 ∨ j = 9 ∨ j = 10 by omega) with rfl | rfl | rfl | rfl | rfl | rfl | rfl | rfl | rfl | rfl | rfl <;> rfl) (Nat.le_of_ble_eq_true rfl) g2 dX5_ordersWith_11 (fun a_lo H hP hD hS => ?_)
  have hP : va_P D vwCl [(a_x, .inr (5, [.ref a_known, .ref a_so, .ref a_made, .ref a_pcl, .ref a_hi, .ref a_tx, .ref a_rd, .ref a_tb, .ref a_o])), (a_known, .inl (y 3, 6, .inr (.inr (.inr (.inr v_known))))), (a_lo, .inr (1, [.int (0 : Int32), .int (0 : Int32), .int (0 : Int32), .null, .null, .null, .null, .null, .null, .null, .null]))] H := hP
  have hD : va_D A [(a_x, .inr (5, [.ref a_known, .ref a_so, .ref a_made, .ref a_pcl, .ref a_hi, .ref a_tx, .ref a_rd, .ref a_tb, .ref a_o])), (a_known, .inl (y 3, 6, .inr (.inr (.inr (.inr v_known))))), (a_lo, .inr (1, [.int (0 : Int32), .int (0 : Int32), .int (0 : Int32), .null, .null, .null, .null, .null, .null, .null, .null]))] := hD
  refine lv_dup hx hb dX5_ordersWith_14 rfl ?_
  refine lv_iload_n hx hb dX5_ordersWith_15 rfl (lv_at hl 2 rfl) ?_
  obtain ⟨q3, e3, hB⟩ := xbd hB
  have hPc := hP.sub (ws' := [(a_lo, .inr (1, [.int (0 : Int32), .int (0 : Int32), .int (0 : Int32), .null, .null, .null, .null, .null, .null, .null, .null]))]) [2] rfl
  have hDc := hD.sub (ws' := [(a_lo, .inr (1, [.int (0 : Int32), .int (0 : Int32), .int (0 : Int32), .null, .null, .null, .null, .null, .null, .null, .null]))]) [2] (by decide) rfl
  refine xcallc (Z := Nat × Nat × Nat × Nat × Nat × Nat × Nat × Nat × Nat) (mc := 9) (ms := (N - (11))) (wc := [(a_lo, .inr (1, [.int (0 : Int32), .int (0 : Int32), .int (0 : Int32), .null, .null, .null, .null, .null, .null, .null, .null]))]) (wr := [(a_x, .inr (5, [.ref a_known, .ref a_so, .ref a_made, .ref a_pcl, .ref a_hi, .ref a_tx, .ref a_rd, .ref a_tb, .ref a_o])), (a_known, .inl (y 3, 6, .inr (.inr (.inr (.inr v_known)))))]) (w1 := fun z => [(a_lo, .inr (1, [.int q3.2.2.2.2.2.2.1, .int q3.2.2.2.2.2.2.2.1, .int q3.2.2.2.2.2.2.2.2.1, .ref z.1, .ref z.2.1, .ref z.2.2.1, .ref z.2.2.2.1, .ref z.2.2.2.2.1, .ref z.2.2.2.2.2.1, .ref z.2.2.2.2.2.2.1, .ref z.2.2.2.2.2.2.2.1])), (z.1, .inl (y 0, q3.1, .inl q3.2.2.2.2.2.2.2.2.2.1)), (z.2.1, .inl (y 0, q3.1, .inl q3.2.2.2.2.2.2.2.2.2.2.1)), (z.2.2.1, .inl (y 0, q3.1, .inl q3.2.2.2.2.2.2.2.2.2.2.2.1)), (z.2.2.2.1, .inl (y 0, q3.1, .inl q3.2.2.2.2.2.2.2.2.2.2.2.2.1)), (z.2.2.2.2.1, .inl (y 0, q3.2.1, .inl q3.2.2.2.2.2.2.2.2.2.2.2.2.2.1)), (z.2.2.2.2.2.1, .inl (y 0, q3.2.2.1, .inl q3.2.2.2.2.2.2.2.2.2.2.2.2.2.2.1)), (z.2.2.2.2.2.2.1, .inl (y 0, q3.2.2.2.1, .inl q3.2.2.2.2.2.2.2.2.2.2.2.2.2.2.2.1)), (z.2.2.2.2.2.2.2.1, .inl (y 0, q3.2.2.2.2.1, .inl q3.2.2.2.2.2.2.2.2.2.2.2.2.2.2.2.2.1)), (z.2.2.2.2.2.2.2.2, .inl (y 0, q3.2.2.2.2.2.1, .inl q3.2.2.2.2.2.2.2.2.2.2.2.2.2.2.2.2.2))]) (wf := fun z => [(a_x, .inr (5, [.ref a_known, .ref a_so, .ref a_made, .ref a_pcl, .ref a_hi, .ref a_tx, .ref a_rd, .ref a_tb, .ref a_o])), (a_known, .inl (y 3, 6, .inr (.inr (.inr (.inr v_known))))), (a_lo, .inr (1, [.int q3.2.2.2.2.2.2.1, .int q3.2.2.2.2.2.2.2.1, .int q3.2.2.2.2.2.2.2.2.1, .ref z.1, .ref z.2.1, .ref z.2.2.1, .ref z.2.2.2.1, .ref z.2.2.2.2.1, .ref z.2.2.2.2.2.1, .ref z.2.2.2.2.2.2.1, .ref z.2.2.2.2.2.2.2.1])), (z.1, .inl (y 0, q3.1, .inl q3.2.2.2.2.2.2.2.2.2.1)), (z.2.1, .inl (y 0, q3.1, .inl q3.2.2.2.2.2.2.2.2.2.2.1)), (z.2.2.1, .inl (y 0, q3.1, .inl q3.2.2.2.2.2.2.2.2.2.2.2.1)), (z.2.2.2.1, .inl (y 0, q3.1, .inl q3.2.2.2.2.2.2.2.2.2.2.2.2.1)), (z.2.2.2.2.1, .inl (y 0, q3.2.1, .inl q3.2.2.2.2.2.2.2.2.2.2.2.2.2.1)), (z.2.2.2.2.2.1, .inl (y 0, q3.2.2.1, .inl q3.2.2.2.2.2.2.2.2.2.2.2.2.2.2.1)), (z.2.2.2.2.2.2.1, .inl (y 0, q3.2.2.2.1, .inl q3.2.2.2.2.2.2.2.2.2.2.2.2.2.2.2.1)), (z.2.2.2.2.2.2.2.1, .inl (y 0, q3.2.2.2.2.1, .inl q3.2.2.2.2.2.2.2.2.2.2.2.2.2.2.2.2.1)), (z.2.2.2.2.2.2.2.2, .inl (y 0, q3.2.2.2.2.2.1, .inl q3.2.2.2.2.2.2.2.2.2.2.2.2.2.2.2.2.2))]) (va_runI (As := [.int p1]) (rest := [.ref a_lo]) ⟨hx, hb, hml, hown, hts⟩ (c_X1_init l D y (N - (11)) a_lo p1 H.size e3) (cwI 1 hts gX5_ordersWith_X1_init rfl rfl rfl (hts _ kX5_ordersWithM_iX1) (hts _ kX5_ordersWithM_l212) (hts _ kX5_ordersWithM_mX1) rfl (by decide +kernel) ⟨Nat.le_of_ble_eq_true rfl, Nat.le_of_ble_eq_true rfl⟩) ⟨xblind, (xprev hPc hK hDc)⟩ rfl rfl hl.1 rfl (lv_room (Nat.le_of_ble_eq_true rfl)) dX5_ordersWith_16 ⟨Nat.le_of_ble_eq_true rfl, by show _ ≤ N; omega⟩) hP hD hS hA [2] [0, 1] [0, 1, 2, 3, 4, 5, 6, 7, 8, 9, 10, 11] rfl rfl (by decide) (by decide) (fun _ => rfl) (by decide) (fun z H locs hP hD hS => ?_)
  obtain ⟨a_lod, a_lop, a_loi, a_lov, a_lof, a_lol, a_lom, a_low, a_ex⟩ := z
  have h4N : 0 + 11 + (N - (11)) ≤ N := by omega
  have hP : va_P D vwCl [(a_x, .inr (5, [.ref a_known, .ref a_so, .ref a_made, .ref a_pcl, .ref a_hi, .ref a_tx, .ref a_rd, .ref a_tb, .ref a_o])), (a_known, .inl (y 3, 6, .inr (.inr (.inr (.inr v_known))))), (a_lo, .inr (1, [.int q3.2.2.2.2.2.2.1, .int q3.2.2.2.2.2.2.2.1, .int q3.2.2.2.2.2.2.2.2.1, .ref a_lod, .ref a_lop, .ref a_loi, .ref a_lov, .ref a_lof, .ref a_lol, .ref a_lom, .ref a_low])), (a_lod, .inl (y 0, q3.1, .inl q3.2.2.2.2.2.2.2.2.2.1)), (a_lop, .inl (y 0, q3.1, .inl q3.2.2.2.2.2.2.2.2.2.2.1)), (a_loi, .inl (y 0, q3.1, .inl q3.2.2.2.2.2.2.2.2.2.2.2.1)), (a_lov, .inl (y 0, q3.1, .inl q3.2.2.2.2.2.2.2.2.2.2.2.2.1)), (a_lof, .inl (y 0, q3.2.1, .inl q3.2.2.2.2.2.2.2.2.2.2.2.2.2.1)), (a_lol, .inl (y 0, q3.2.2.1, .inl q3.2.2.2.2.2.2.2.2.2.2.2.2.2.2.1)), (a_lom, .inl (y 0, q3.2.2.2.1, .inl q3.2.2.2.2.2.2.2.2.2.2.2.2.2.2.2.1)), (a_low, .inl (y 0, q3.2.2.2.2.1, .inl q3.2.2.2.2.2.2.2.2.2.2.2.2.2.2.2.2.1)), (a_ex, .inl (y 0, q3.2.2.2.2.2.1, .inl q3.2.2.2.2.2.2.2.2.2.2.2.2.2.2.2.2.2))] H := hP
  have hD : va_D A [(a_x, .inr (5, [.ref a_known, .ref a_so, .ref a_made, .ref a_pcl, .ref a_hi, .ref a_tx, .ref a_rd, .ref a_tb, .ref a_o])), (a_known, .inl (y 3, 6, .inr (.inr (.inr (.inr v_known))))), (a_lo, .inr (1, [.int q3.2.2.2.2.2.2.1, .int q3.2.2.2.2.2.2.2.1, .int q3.2.2.2.2.2.2.2.2.1, .ref a_lod, .ref a_lop, .ref a_loi, .ref a_lov, .ref a_lof, .ref a_lol, .ref a_lom, .ref a_low])), (a_lod, .inl (y 0, q3.1, .inl q3.2.2.2.2.2.2.2.2.2.1)), (a_lop, .inl (y 0, q3.1, .inl q3.2.2.2.2.2.2.2.2.2.2.1)), (a_loi, .inl (y 0, q3.1, .inl q3.2.2.2.2.2.2.2.2.2.2.2.1)), (a_lov, .inl (y 0, q3.1, .inl q3.2.2.2.2.2.2.2.2.2.2.2.2.1)), (a_lof, .inl (y 0, q3.2.1, .inl q3.2.2.2.2.2.2.2.2.2.2.2.2.2.1)), (a_lol, .inl (y 0, q3.2.2.1, .inl q3.2.2.2.2.2.2.2.2.2.2.2.2.2.2.1)), (a_lom, .inl (y 0, q3.2.2.2.1, .inl q3.2.2.2.2.2.2.2.2.2.2.2.2.2.2.2.1)), (a_low, .inl (y 0, q3.2.2.2.2.1, .inl q3.2.2.2.2.2.2.2.2.2.2.2.2.2.2.2.2.1)), (a_ex, .inl (y 0, q3.2.2.2.2.2.1, .inl q3.2.2.2.2.2.2.2.2.2.2.2.2.2.2.2.2.2))] := hD
  refine lv_astore_n (lv' := [(2, .ref a_lo), (0, .ref a_x), (1, .int p1)]) hx hb dX5_ordersWith_19 rfl hl (by decide) rfl (fun ls hl => ?_)
  refine lv_aload_n hx hb dX5_ordersWith_20 rfl (lv_at hl 1 rfl) ?_
  refine va_get (D := D) (ci := 5) (v := .ref a_known) (C := RX5) (T := TX5) (N := 9) hx hb hts kX5_ordersWithM_wX5 hown hK hP 0 rfl rfl 0 (by decide) (hts _ kX5_ordersWithM_f11) (fun _ h9 => h9) rfl dX5_ordersWith_21 ?_
  refine lv_iload_n hx hb dX5_ordersWith_24 rfl (lv_at hl 2 rfl) ?_
  refine lv_aload_n hx hb dX5_ordersWith_25 rfl (lv_at hl 0 rfl) ?_
  refine va_astq hx hb hK hP hD hS 1 3 2 1 rfl rfl rfl rfl g1 dX5_ordersWith_26 (fun H locs hP hD hS => ?_)
  have hP : va_P D vwCl [(a_x, .inr (5, [.ref a_known, .ref a_so, .ref a_made, .ref a_pcl, .ref a_hi, .ref a_tx, .ref a_rd, .ref a_tb, .ref a_o])), (a_known, .inl (y 3, 6, .inr (.inr (.inr (.inr (va_up v_known p1.toNatClampNeg (some a_lo))))))), (a_lo, .inr (1, [.int q3.2.2.2.2.2.2.1, .int q3.2.2.2.2.2.2.2.1, .int q3.2.2.2.2.2.2.2.2.1, .ref a_lod, .ref a_lop, .ref a_loi, .ref a_lov, .ref a_lof, .ref a_lol, .ref a_lom, .ref a_low])), (a_lod, .inl (y 0, q3.1, .inl q3.2.2.2.2.2.2.2.2.2.1)), (a_lop, .inl (y 0, q3.1, .inl q3.2.2.2.2.2.2.2.2.2.2.1)), (a_loi, .inl (y 0, q3.1, .inl q3.2.2.2.2.2.2.2.2.2.2.2.1)), (a_lov, .inl (y 0, q3.1, .inl q3.2.2.2.2.2.2.2.2.2.2.2.2.1)), (a_lof, .inl (y 0, q3.2.1, .inl q3.2.2.2.2.2.2.2.2.2.2.2.2.2.1)), (a_lol, .inl (y 0, q3.2.2.1, .inl q3.2.2.2.2.2.2.2.2.2.2.2.2.2.2.1)), (a_lom, .inl (y 0, q3.2.2.2.1, .inl q3.2.2.2.2.2.2.2.2.2.2.2.2.2.2.2.1)), (a_low, .inl (y 0, q3.2.2.2.2.1, .inl q3.2.2.2.2.2.2.2.2.2.2.2.2.2.2.2.2.1)), (a_ex, .inl (y 0, q3.2.2.2.2.2.1, .inl q3.2.2.2.2.2.2.2.2.2.2.2.2.2.2.2.2.2))] H := hP
  have hD : va_D A [(a_x, .inr (5, [.ref a_known, .ref a_so, .ref a_made, .ref a_pcl, .ref a_hi, .ref a_tx, .ref a_rd, .ref a_tb, .ref a_o])), (a_known, .inl (y 3, 6, .inr (.inr (.inr (.inr (va_up v_known p1.toNatClampNeg (some a_lo))))))), (a_lo, .inr (1, [.int q3.2.2.2.2.2.2.1, .int q3.2.2.2.2.2.2.2.1, .int q3.2.2.2.2.2.2.2.2.1, .ref a_lod, .ref a_lop, .ref a_loi, .ref a_lov, .ref a_lof, .ref a_lol, .ref a_lom, .ref a_low])), (a_lod, .inl (y 0, q3.1, .inl q3.2.2.2.2.2.2.2.2.2.1)), (a_lop, .inl (y 0, q3.1, .inl q3.2.2.2.2.2.2.2.2.2.2.1)), (a_loi, .inl (y 0, q3.1, .inl q3.2.2.2.2.2.2.2.2.2.2.2.1)), (a_lov, .inl (y 0, q3.1, .inl q3.2.2.2.2.2.2.2.2.2.2.2.2.1)), (a_lof, .inl (y 0, q3.2.1, .inl q3.2.2.2.2.2.2.2.2.2.2.2.2.2.1)), (a_lol, .inl (y 0, q3.2.2.1, .inl q3.2.2.2.2.2.2.2.2.2.2.2.2.2.2.1)), (a_lom, .inl (y 0, q3.2.2.2.1, .inl q3.2.2.2.2.2.2.2.2.2.2.2.2.2.2.2.1)), (a_low, .inl (y 0, q3.2.2.2.2.1, .inl q3.2.2.2.2.2.2.2.2.2.2.2.2.2.2.2.2.1)), (a_ex, .inl (y 0, q3.2.2.2.2.2.1, .inl q3.2.2.2.2.2.2.2.2.2.2.2.2.2.2.2.2.2))] := hD
  refine lv_aload_n hx hb dX5_ordersWith_27 rfl (lv_at hl 0 rfl) ?_
  have hB := Option.some.inj hB
  subst hB
  refine W.widen (k := 10) (n := N) (Nat.le_of_ble_eq_true rfl) h4N ?_
  exact W.aret hx hb hr (Or.inl ⟨_, rfl⟩) (Or.inr ⟨_, rfl⟩) (fun t ht hW => ⟨⟨(), _, rfl, trivial, ⟨a_lo, a_lod, a_lop, a_loi, a_lov, a_lof, a_lol, a_lom, a_low, a_ex⟩, rfl, by rw [ht]; exact hP, va_K.moved hW.alike hK, hD⟩, hS.F ht⟩) hS.2.2 dX5_ordersWith_28 hlocks
set_option maxHeartbeats 4000000 in
set_option maxRecDepth 100000 in
theorem c_X5_ordersWithM (l : Launch) (D : va_G) (y : Nat → ClassId) (N : Nat) (a_x : Nat) (a_known : Nat) (a_so : Nat) (a_made : Nat) (a_pcl : Nat) (a_hi : Nat) (a_tx : Nat) (a_rd : Nat) (a_tb : Nat) (a_o : Nat)  (v_known : Nat → Option Nat) (p1 : Int32) (sz : Nat) {R : Nat × Nat × Nat × Nat × Nat × Nat × Int32 × Int32 × Int32 × (Nat → Int32) × (Nat → Int32) × (Nat → Int32) × (Nat → Int32) × (Nat → Int32) × (Nat → Int32) × (Nat → Int32) × (Nat → Int32) × (Nat → Int32)} (hk : v_known p1.toNatClampNeg = none) (hF : F_X5_ordersWithM N p1 = some R) : Met l yX5_ordersWith wsX5_ordersWith ({ frames := 5, cells := 10, slots := N, locals := 119 } : Room) (xPre D y sz [.ref a_x, .int p1] [(a_x, .inr (5, [.ref a_known, .ref a_so, .ref a_made, .ref a_pcl, .ref a_hi, .ref a_tx, .ref a_rd, .ref a_tb, .ref a_o])), (a_known, .inl (y 3, 6, .inr (.inr (.inr (.inr v_known)))))]) (va_Qr (fun (_ : Unit) => True) (xBzr D y (va_A [(a_x, .inr (5, [.ref a_known, .ref a_so, .ref a_made, .ref a_pcl, .ref a_hi, .ref a_tx, .ref a_rd, .ref a_tb, .ref a_o])), (a_known, .inl (y 3, 6, .inr (.inr (.inr (.inr v_known)))))] sz) (fun z : Nat × Nat × Nat × Nat × Nat × Nat × Nat × Nat × Nat × Nat => z.1) (fun z : Nat × Nat × Nat × Nat × Nat × Nat × Nat × Nat × Nat × Nat => [(a_x, .inr (5, [.ref a_known, .ref a_so, .ref a_made, .ref a_pcl, .ref a_hi, .ref a_tx, .ref a_rd, .ref a_tb, .ref a_o])), (a_known, .inl (y 3, 6, .inr (.inr (.inr (.inr (va_up v_known p1.toNatClampNeg (some z.1))))))), (z.1, .inr (1, [.int R.2.2.2.2.2.2.1, .int R.2.2.2.2.2.2.2.1, .int R.2.2.2.2.2.2.2.2.1, .ref z.2.1, .ref z.2.2.1, .ref z.2.2.2.1, .ref z.2.2.2.2.1, .ref z.2.2.2.2.2.1, .ref z.2.2.2.2.2.2.1, .ref z.2.2.2.2.2.2.2.1, .ref z.2.2.2.2.2.2.2.2.1])), (z.2.1, .inl (y 0, R.1, .inl R.2.2.2.2.2.2.2.2.2.1)), (z.2.2.1, .inl (y 0, R.1, .inl R.2.2.2.2.2.2.2.2.2.2.1)), (z.2.2.2.1, .inl (y 0, R.1, .inl R.2.2.2.2.2.2.2.2.2.2.2.1)), (z.2.2.2.2.1, .inl (y 0, R.1, .inl R.2.2.2.2.2.2.2.2.2.2.2.2.1)), (z.2.2.2.2.2.1, .inl (y 0, R.2.1, .inl R.2.2.2.2.2.2.2.2.2.2.2.2.2.1)), (z.2.2.2.2.2.2.1, .inl (y 0, R.2.2.1, .inl R.2.2.2.2.2.2.2.2.2.2.2.2.2.2.1)), (z.2.2.2.2.2.2.2.1, .inl (y 0, R.2.2.2.1, .inl R.2.2.2.2.2.2.2.2.2.2.2.2.2.2.2.1)), (z.2.2.2.2.2.2.2.2.1, .inl (y 0, R.2.2.2.2.1, .inl R.2.2.2.2.2.2.2.2.2.2.2.2.2.2.2.2.1)), (z.2.2.2.2.2.2.2.2.2, .inl (y 0, R.2.2.2.2.2.1, .inl R.2.2.2.2.2.2.2.2.2.2.2.2.2.2.2.2.2))])) (va_A [(a_x, .inr (5, [.ref a_known, .ref a_so, .ref a_made, .ref a_pcl, .ref a_hi, .ref a_tx, .ref a_rd, .ref a_tb, .ref a_o])), (a_known, .inl (y 3, 6, .inr (.inr (.inr (.inr v_known)))))] sz)) 10 N (va_A [(a_x, .inr (5, [.ref a_known, .ref a_so, .ref a_made, .ref a_pcl, .ref a_hi, .ref a_tx, .ref a_rd, .ref a_tb, .ref a_o])), (a_known, .inl (y 3, 6, .inr (.inr (.inr (.inr v_known)))))] sz) := by
  refine Met.ofW (cc := cX5_ordersWith) (maxL := 3) (ret := (some (.object "DescentShuffles$Orders"))) (by decide) rfl ?_
  intro p e s m args below meth c s₁ B hml hv
  obtain ⟨rfl, hsz, hP, hK, hD0⟩ := hv
  subst hsz
  have hD := hD0.self (sz := s.heap.size)
  have C : xC p s m [.ref a_x, .int p1].toArray meth c (va_A [(a_x, .inr (5, [.ref a_known, .ref a_so, .ref a_made, .ref a_pcl, .ref a_hi, .ref a_tx, .ref a_rd, .ref a_tb, .ref a_o])), (a_known, .inl (y 3, 6, .inr (.inr (.inr (.inr v_known)))))] s.heap.size) cX5_ordersWith RX5 wsX5_ordersWith 3 (some (.object "DescentShuffles$Orders")) D y := ⟨B.exec, B.bytes, hml, findClass_of_methodNamed B.named, atoms_spec (ws := wsX5_ordersWith) B.pre, B.returns, B.notSynchronized, hK, fun q h => Or.inr h⟩
  have hl := lv_entry ([.ref a_x, .int p1]) (n := 3) (Nat.le_of_ble_eq_true rfl)
  rw [lg_entry_eq]
  generalize (lg_sl ([.ref a_x, .int p1]) ++ List.replicate (3 - (lg_sl ([.ref a_x, .int p1])).length) Slot.unset).toArray = ls at hl ⊢
  have hl : lv_has ls 3 [(0, .ref a_x), (1, .int p1)] := hl
  exact B_X5_ordersWithM_0 (p1 := p1) (N := N) C hk  s.heap [] ls hP hD va_S.rf hl (Nat.zero_le N) hF
theorem kX5_ordersWithI_c9 : Cond.classLink RX5 9 RX1 ∈ wsX5_ordersWith := by decide +kernel
theorem kX5_ordersWithI_nX1 : Cond.instantiable RX1 11 ∈ wsX5_ordersWith := by decide +kernel
theorem kX5_ordersWithI_iX1 : Cond.initialized RX1 ∈ wsX5_ordersWith := by decide +kernel
theorem kX5_ordersWithI_wX1 : ∀ w ∈ u_ws RX1 TX1 11, w ∈ wsX5_ordersWith := by decide +kernel
theorem kX5_ordersWithI_f11 : Cond.fieldLink RX5 11 "DescentShuffles" "known" "[LDescentShuffles$Orders;" ∈ wsX5_ordersWith := by decide +kernel
theorem kX5_ordersWithI_wX5 : ∀ w ∈ u_ws RX5 TX5 9, w ∈ wsX5_ordersWith := by decide +kernel
theorem kX5_ordersWithI_mX1 : Cond.instanceMethod yX1_init ∈ wsX5_ordersWith := by decide +kernel
theorem kX5_ordersWithI_l212 : Cond.methodLink RX5 212 yX1_init ∈ wsX5_ordersWith := by decide +kernel
def S_X5_ordersWithI_0 (p : Program) (l : Launch) (e : Env) (s : State) (m : MethodId) (args : Array Value) (below : List Frame) (meth : Method) (c : Code) (A : Nat → Prop) (D : va_G) (y : Nat → ClassId) (N : Nat) (a_x : Nat) (a_known : Nat) (a_so : Nat) (a_made : Nat) (a_pcl : Nat) (a_hi : Nat) (a_tx : Nat) (a_rd : Nat) (a_tb : Nat) (a_o : Nat) (v_known : Nat → Option Nat) (p1 : Int32) (R : Nat × Nat × Nat × Nat × Nat × Nat × Int32 × Int32 × Int32 × (Nat → Int32) × (Nat → Int32) × (Nat → Int32) × (Nat → Int32) × (Nat → Int32) × (Nat → Int32) × (Nat → Int32) × (Nat → Int32) × (Nat → Int32)) (κ : Option (Nat × Nat × Nat × Nat × Nat × Nat × Int32 × Int32 × Int32 × (Nat → Int32) × (Nat → Int32) × (Nat → Int32) × (Nat → Int32) × (Nat → Int32) × (Nat → Int32) × (Nat → Int32) × (Nat → Int32) × (Nat → Int32))) : Prop := ∀ (H : Heap) (locs : List Loc) (ls : Array Slot), va_P D vwCl [(a_x, .inr (5, [.ref a_known, .ref a_so, .ref a_made, .ref a_pcl, .ref a_hi, .ref a_tx, .ref a_rd, .ref a_tb, .null])), (a_known, .inl (y 3, 6, .inr (.inr (.inr (.inr v_known)))))] H → va_D A [(a_x, .inr (5, [.ref a_known, .ref a_so, .ref a_made, .ref a_pcl, .ref a_hi, .ref a_tx, .ref a_rd, .ref a_tb, .null])), (a_known, .inl (y 3, 6, .inr (.inr (.inr (.inr v_known)))))] → va_S A s.heap H locs → lv_has ls 3 [(0, .ref a_x), (1, .int p1)] → 0 ≤ N → κ = some R → W p l e ({ frames := 5, cells := 10, slots := N, locals := 119 } : Room) s m args below meth c H locs 0 0 (MQ below (va_Qr (fun (_ : Unit) => True) (xBzr D y A (fun z : Nat × Nat × Nat × Nat × Nat × Nat × Nat × Nat × Nat × Nat => z.1) (fun z : Nat × Nat × Nat × Nat × Nat × Nat × Nat × Nat × Nat × Nat => [(a_x, .inr (5, [.ref a_known, .ref a_so, .ref a_made, .ref a_pcl, .ref a_hi, .ref a_tx, .ref a_rd, .ref a_tb, .null])), (a_known, .inl (y 3, 6, .inr (.inr (.inr (.inr (va_up v_known p1.toNatClampNeg (some z.1))))))), (z.1, .inr (1, [.int R.2.2.2.2.2.2.1, .int R.2.2.2.2.2.2.2.1, .int R.2.2.2.2.2.2.2.2.1, .ref z.2.1, .ref z.2.2.1, .ref z.2.2.2.1, .ref z.2.2.2.2.1, .ref z.2.2.2.2.2.1, .ref z.2.2.2.2.2.2.1, .ref z.2.2.2.2.2.2.2.1, .ref z.2.2.2.2.2.2.2.2.1])), (z.2.1, .inl (y 0, R.1, .inl R.2.2.2.2.2.2.2.2.2.1)), (z.2.2.1, .inl (y 0, R.1, .inl R.2.2.2.2.2.2.2.2.2.2.1)), (z.2.2.2.1, .inl (y 0, R.1, .inl R.2.2.2.2.2.2.2.2.2.2.2.1)), (z.2.2.2.2.1, .inl (y 0, R.1, .inl R.2.2.2.2.2.2.2.2.2.2.2.2.1)), (z.2.2.2.2.2.1, .inl (y 0, R.2.1, .inl R.2.2.2.2.2.2.2.2.2.2.2.2.2.1)), (z.2.2.2.2.2.2.1, .inl (y 0, R.2.2.1, .inl R.2.2.2.2.2.2.2.2.2.2.2.2.2.2.1)), (z.2.2.2.2.2.2.2.1, .inl (y 0, R.2.2.2.1, .inl R.2.2.2.2.2.2.2.2.2.2.2.2.2.2.2.1)), (z.2.2.2.2.2.2.2.2.1, .inl (y 0, R.2.2.2.2.1, .inl R.2.2.2.2.2.2.2.2.2.2.2.2.2.2.2.2.1)), (z.2.2.2.2.2.2.2.2.2, .inl (y 0, R.2.2.2.2.2.1, .inl R.2.2.2.2.2.2.2.2.2.2.2.2.2.2.2.2.2))])) A) args s 10 N A) (F0 m 0 ls [])
set_option maxHeartbeats 4000000 in
set_option maxRecDepth 100000 in
theorem B_X5_ordersWithI_0 {p : Program} {l : Launch} {e : Env} {s : State} {m : MethodId} {args : Array Value} {below : List Frame} {meth : Method} {c : Code} {A : Nat → Prop} {D : va_G} {y : Nat → ClassId} {N : Nat} {a_x : Nat} {a_known : Nat} {a_so : Nat} {a_made : Nat} {a_pcl : Nat} {a_hi : Nat} {a_tx : Nat} {a_rd : Nat} {a_tb : Nat} {a_o : Nat} {v_known : Nat → Option Nat} {p1 : Int32} {R : Nat × Nat × Nat × Nat × Nat × Nat × Int32 × Int32 × Int32 × (Nat → Int32) × (Nat → Int32) × (Nat → Int32) × (Nat → Int32) × (Nat → Int32) × (Nat → Int32) × (Nat → Int32) × (Nat → Int32) × (Nat → Int32)} (C : xC p s m args meth c A cX5_ordersWith RX5 wsX5_ordersWith 3 (some (.object "DescentShuffles$Orders")) D y) (hk : v_known p1.toNatClampNeg = none)  : S_X5_ordersWithI_0 p l e s m args below meth c A D y N a_x a_known a_so a_made a_pcl a_hi a_tx a_rd a_tb a_o v_known p1 R (F_X5_ordersWithI N p1 ) := by
  have C0 := C
  obtain ⟨hx, hb, hml, hown, hts, hr, hlocks, hK, hA⟩ := C
  intro H locs ls hP hD hS hl hN hB
  unfold F_X5_ordersWithI at hB
  refine lv_aload_n hx hb dX5_ordersWith_0 rfl (lv_at hl 0 rfl) ?_
  refine va_get (D := D) (ci := 5) (v := .ref a_known) (C := RX5) (T := TX5) (N := 9) hx hb hts kX5_ordersWithI_wX5 hown hK hP 0 rfl rfl 0 (by decide) (hts _ kX5_ordersWithI_f11) (fun _ h9 => h9) rfl dX5_ordersWith_1 ?_
  refine lv_iload_n hx hb dX5_ordersWith_4 rfl (lv_at hl 1 rfl) ?_
  obtain ⟨g1, hB⟩ := xg_some hB
  refine va_aldq hx hb hK hP 1 3 rfl rfl g1 dX5_ordersWith_5 ?_
  rw [show va_rf (v_known p1.toNatClampNeg) = .null by rw [hk]; rfl]
  refine lv_astore_nN (lv' := [(2, .null), (0, .ref a_x), (1, .int p1)]) hx hb dX5_ordersWith_6 rfl hl (by decide) rfl (fun ls hl => ?_)
  refine lv_aload_nN hx hb dX5_ordersWith_7 rfl (lv_at hl 0 rfl) ?_
  refine lv_ifnonnullN hx hb dX5_ordersWith_8 ?_
  obtain ⟨g2, hB⟩ := xle_some hB
  refine va_new (ci := 1) (fs := [.int 0, .int 0, .int 0, .null, .null, .null, .null, .null, .null, .null, .null]) (C := RX1) (T := TX1) (N := 11) hx hb hts kX5_ordersWithI_wX1 tyX1 tyX1_ok hown (hts _ kX5_ordersWithI_c9) (hts _ kX5_ordersWithI_nX1) (hts _ kX5_ordersWithI_iX1) hK hP hD hS hA rfl (fun j hj => by rcases (show j = 0 ∨ j = 1 ∨ j = 2 ∨ j = 3 ∨ j = 4 ∨ j = 5 ∨ j = 6 ∨ j = 7 ∨ j = 8 ∨ j = 9 ∨ j = 10 by omega) with rfl | rfl | rfl | rfl | rfl | rfl | rfl | rfl | rfl | rfl | rfl <;> rfl) (Nat.le_of_ble_eq_true rfl) g2 dX5_ordersWith_11 (fun a_lo H hP hD hS => ?_)
  have hP : va_P D vwCl [(a_x, .inr (5, [.ref a_known, .ref a_so, .ref a_made, .ref a_pcl, .ref a_hi, .ref a_tx, .ref a_rd, .ref a_tb, .null])), (a_known, .inl (y 3, 6, .inr (.inr (.inr (.inr v_known))))), (a_lo, .inr (1, [.int (0 : Int32), .int (0 : Int32), .int (0 : Int32), .null, .null, .null, .null, .null, .null, .null, .null]))] H := hP
  have hD : va_D A [(a_x, .inr (5, [.ref a_known, .ref a_so, .ref a_made, .ref a_pcl, .ref a_hi, .ref a_tx, .ref a_rd, .ref a_tb, .null])), (a_known, .inl (y 3, 6, .inr (.inr (.inr (.inr v_known))))), (a_lo, .inr (1, [.int (0 : Int32), .int (0 : Int32), .int (0 : Int32), .null, .null, .null, .null, .null, .null, .null, .null]))] := hD
  refine lv_dup hx hb dX5_ordersWith_14 rfl ?_
  refine lv_iload_n hx hb dX5_ordersWith_15 rfl (lv_at hl 2 rfl) ?_
  obtain ⟨q3, e3, hB⟩ := xbd hB
  have hPc := hP.sub (ws' := [(a_lo, .inr (1, [.int (0 : Int32), .int (0 : Int32), .int (0 : Int32), .null, .null, .null, .null, .null, .null, .null, .null]))]) [2] rfl
  have hDc := hD.sub (ws' := [(a_lo, .inr (1, [.int (0 : Int32), .int (0 : Int32), .int (0 : Int32), .null, .null, .null, .null, .null, .null, .null, .null]))]) [2] (by decide) rfl
  refine xcallc (Z := Nat × Nat × Nat × Nat × Nat × Nat × Nat × Nat × Nat) (mc := 9) (ms := (N - (11))) (wc := [(a_lo, .inr (1, [.int (0 : Int32), .int (0 : Int32), .int (0 : Int32), .null, .null, .null, .null, .null, .null, .null, .null]))]) (wr := [(a_x, .inr (5, [.ref a_known, .ref a_so, .ref a_made, .ref a_pcl, .ref a_hi, .ref a_tx, .ref a_rd, .ref a_tb, .null])), (a_known, .inl (y 3, 6, .inr (.inr (.inr (.inr v_known)))))]) (w1 := fun z => [(a_lo, .inr (1, [.int q3.2.2.2.2.2.2.1, .int q3.2.2.2.2.2.2.2.1, .int q3.2.2.2.2.2.2.2.2.1, .ref z.1, .ref z.2.1, .ref z.2.2.1, .ref z.2.2.2.1, .ref z.2.2.2.2.1, .ref z.2.2.2.2.2.1, .ref z.2.2.2.2.2.2.1, .ref z.2.2.2.2.2.2.2.1])), (z.1, .inl (y 0, q3.1, .inl q3.2.2.2.2.2.2.2.2.2.1)), (z.2.1, .inl (y 0, q3.1, .inl q3.2.2.2.2.2.2.2.2.2.2.1)), (z.2.2.1, .inl (y 0, q3.1, .inl q3.2.2.2.2.2.2.2.2.2.2.2.1)), (z.2.2.2.1, .inl (y 0, q3.1, .inl q3.2.2.2.2.2.2.2.2.2.2.2.2.1)), (z.2.2.2.2.1, .inl (y 0, q3.2.1, .inl q3.2.2.2.2.2.2.2.2.2.2.2.2.2.1)), (z.2.2.2.2.2.1, .inl (y 0, q3.2.2.1, .inl q3.2.2.2.2.2.2.2.2.2.2.2.2.2.2.1)), (z.2.2.2.2.2.2.1, .inl (y 0, q3.2.2.2.1, .inl q3.2.2.2.2.2.2.2.2.2.2.2.2.2.2.2.1)), (z.2.2.2.2.2.2.2.1, .inl (y 0, q3.2.2.2.2.1, .inl q3.2.2.2.2.2.2.2.2.2.2.2.2.2.2.2.2.1)), (z.2.2.2.2.2.2.2.2, .inl (y 0, q3.2.2.2.2.2.1, .inl q3.2.2.2.2.2.2.2.2.2.2.2.2.2.2.2.2.2))]) (wf := fun z => [(a_x, .inr (5, [.ref a_known, .ref a_so, .ref a_made, .ref a_pcl, .ref a_hi, .ref a_tx, .ref a_rd, .ref a_tb, .null])), (a_known, .inl (y 3, 6, .inr (.inr (.inr (.inr v_known))))), (a_lo, .inr (1, [.int q3.2.2.2.2.2.2.1, .int q3.2.2.2.2.2.2.2.1, .int q3.2.2.2.2.2.2.2.2.1, .ref z.1, .ref z.2.1, .ref z.2.2.1, .ref z.2.2.2.1, .ref z.2.2.2.2.1, .ref z.2.2.2.2.2.1, .ref z.2.2.2.2.2.2.1, .ref z.2.2.2.2.2.2.2.1])), (z.1, .inl (y 0, q3.1, .inl q3.2.2.2.2.2.2.2.2.2.1)), (z.2.1, .inl (y 0, q3.1, .inl q3.2.2.2.2.2.2.2.2.2.2.1)), (z.2.2.1, .inl (y 0, q3.1, .inl q3.2.2.2.2.2.2.2.2.2.2.2.1)), (z.2.2.2.1, .inl (y 0, q3.1, .inl q3.2.2.2.2.2.2.2.2.2.2.2.2.1)), (z.2.2.2.2.1, .inl (y 0, q3.2.1, .inl q3.2.2.2.2.2.2.2.2.2.2.2.2.2.1)), (z.2.2.2.2.2.1, .inl (y 0, q3.2.2.1, .inl q3.2.2.2.2.2.2.2.2.2.2.2.2.2.2.1)), (z.2.2.2.2.2.2.1, .inl (y 0, q3.2.2.2.1, .inl q3.2.2.2.2.2.2.2.2.2.2.2.2.2.2.2.1)), (z.2.2.2.2.2.2.2.1, .inl (y 0, q3.2.2.2.2.1, .inl q3.2.2.2.2.2.2.2.2.2.2.2.2.2.2.2.2.1)), (z.2.2.2.2.2.2.2.2, .inl (y 0, q3.2.2.2.2.2.1, .inl q3.2.2.2.2.2.2.2.2.2.2.2.2.2.2.2.2.2))]) (va_runI (As := [.int p1]) (rest := [.ref a_lo]) ⟨hx, hb, hml, hown, hts⟩ (c_X1_init l D y (N - (11)) a_lo p1 H.size e3) (cwI 1 hts gX5_ordersWith_X1_init rfl rfl rfl (hts _ kX5_ordersWithI_iX1) (hts _ kX5_ordersWithI_l212) (hts _ kX5_ordersWithI_mX1) rfl (by decide +kernel) ⟨Nat.le_of_ble_eq_true rfl, Nat.le_of_ble_eq_true rfl⟩) ⟨xblind, (xprev hPc hK hDc)⟩ rfl rfl hl.1 rfl (lv_room (Nat.le_of_ble_eq_true rfl)) dX5_ordersWith_16 ⟨Nat.le_of_ble_eq_true rfl, by show _ ≤ N; omega⟩) hP hD hS hA [2] [0, 1] [0, 1, 2, 3, 4, 5, 6, 7, 8, 9, 10, 11] rfl rfl (by decide) (by decide) (fun _ => rfl) (by decide) (fun z H locs hP hD hS => ?_)
  obtain ⟨a_lod, a_lop, a_loi, a_lov, a_lof, a_lol, a_lom, a_low, a_ex⟩ := z
  have h4N : 0 + 11 + (N - (11)) ≤ N := by omega
  have hP : va_P D vwCl [(a_x, .inr (5, [.ref a_known, .ref a_so, .ref a_made, .ref a_pcl, .ref a_hi, .ref a_tx, .ref a_rd, .ref a_tb, .null])), (a_known, .inl (y 3, 6, .inr (.inr (.inr (.inr v_known))))), (a_lo, .inr (1, [.int q3.2.2.2.2.2.2.1, .int q3.2.2.2.2.2.2.2.1, .int q3.2.2.2.2.2.2.2.2.1, .ref a_lod, .ref a_lop, .ref a_loi, .ref a_lov, .ref a_lof, .ref a_lol, .ref a_lom, .ref a_low])), (a_lod, .inl (y 0, q3.1, .inl q3.2.2.2.2.2.2.2.2.2.1)), (a_lop, .inl (y 0, q3.1, .inl q3.2.2.2.2.2.2.2.2.2.2.1)), (a_loi, .inl (y 0, q3.1, .inl q3.2.2.2.2.2.2.2.2.2.2.2.1)), (a_lov, .inl (y 0, q3.1, .inl q3.2.2.2.2.2.2.2.2.2.2.2.2.1)), (a_lof, .inl (y 0, q3.2.1, .inl q3.2.2.2.2.2.2.2.2.2.2.2.2.2.1)), (a_lol, .inl (y 0, q3.2.2.1, .inl q3.2.2.2.2.2.2.2.2.2.2.2.2.2.2.1)), (a_lom, .inl (y 0, q3.2.2.2.1, .inl q3.2.2.2.2.2.2.2.2.2.2.2.2.2.2.2.1)), (a_low, .inl (y 0, q3.2.2.2.2.1, .inl q3.2.2.2.2.2.2.2.2.2.2.2.2.2.2.2.2.1)), (a_ex, .inl (y 0, q3.2.2.2.2.2.1, .inl q3.2.2.2.2.2.2.2.2.2.2.2.2.2.2.2.2.2))] H := hP
  have hD : va_D A [(a_x, .inr (5, [.ref a_known, .ref a_so, .ref a_made, .ref a_pcl, .ref a_hi, .ref a_tx, .ref a_rd, .ref a_tb, .null])), (a_known, .inl (y 3, 6, .inr (.inr (.inr (.inr v_known))))), (a_lo, .inr (1, [.int q3.2.2.2.2.2.2.1, .int q3.2.2.2.2.2.2.2.1, .int q3.2.2.2.2.2.2.2.2.1, .ref a_lod, .ref a_lop, .ref a_loi, .ref a_lov, .ref a_lof, .ref a_lol, .ref a_lom, .ref a_low])), (a_lod, .inl (y 0, q3.1, .inl q3.2.2.2.2.2.2.2.2.2.1)), (a_lop, .inl (y 0, q3.1, .inl q3.2.2.2.2.2.2.2.2.2.2.1)), (a_loi, .inl (y 0, q3.1, .inl q3.2.2.2.2.2.2.2.2.2.2.2.1)), (a_lov, .inl (y 0, q3.1, .inl q3.2.2.2.2.2.2.2.2.2.2.2.2.1)), (a_lof, .inl (y 0, q3.2.1, .inl q3.2.2.2.2.2.2.2.2.2.2.2.2.2.1)), (a_lol, .inl (y 0, q3.2.2.1, .inl q3.2.2.2.2.2.2.2.2.2.2.2.2.2.2.1)), (a_lom, .inl (y 0, q3.2.2.2.1, .inl q3.2.2.2.2.2.2.2.2.2.2.2.2.2.2.2.1)), (a_low, .inl (y 0, q3.2.2.2.2.1, .inl q3.2.2.2.2.2.2.2.2.2.2.2.2.2.2.2.2.1)), (a_ex, .inl (y 0, q3.2.2.2.2.2.1, .inl q3.2.2.2.2.2.2.2.2.2.2.2.2.2.2.2.2.2))] := hD
  refine lv_astore_n (lv' := [(2, .ref a_lo), (0, .ref a_x), (1, .int p1)]) hx hb dX5_ordersWith_19 rfl hl (by decide) rfl (fun ls hl => ?_)
  refine lv_aload_n hx hb dX5_ordersWith_20 rfl (lv_at hl 1 rfl) ?_
  refine va_get (D := D) (ci := 5) (v := .ref a_known) (C := RX5) (T := TX5) (N := 9) hx hb hts kX5_ordersWithI_wX5 hown hK hP 0 rfl rfl 0 (by decide) (hts _ kX5_ordersWithI_f11) (fun _ h9 => h9) rfl dX5_ordersWith_21 ?_
  refine lv_iload_n hx hb dX5_ordersWith_24 rfl (lv_at hl 2 rfl) ?_
  refine lv_aload_n hx hb dX5_ordersWith_25 rfl (lv_at hl 0 rfl) ?_
  refine va_astq hx hb hK hP hD hS 1 3 2 1 rfl rfl rfl rfl g1 dX5_ordersWith_26 (fun H locs hP hD hS => ?_)
  have hP : va_P D vwCl [(a_x, .inr (5, [.ref a_known, .ref a_so, .ref a_made, .ref a_pcl, .ref a_hi, .ref a_tx, .ref a_rd, .ref a_tb, .null])), (a_known, .inl (y 3, 6, .inr (.inr (.inr (.inr (va_up v_known p1.toNatClampNeg (some a_lo))))))), (a_lo, .inr (1, [.int q3.2.2.2.2.2.2.1, .int q3.2.2.2.2.2.2.2.1, .int q3.2.2.2.2.2.2.2.2.1, .ref a_lod, .ref a_lop, .ref a_loi, .ref a_lov, .ref a_lof, .ref a_lol, .ref a_lom, .ref a_low])), (a_lod, .inl (y 0, q3.1, .inl q3.2.2.2.2.2.2.2.2.2.1)), (a_lop, .inl (y 0, q3.1, .inl q3.2.2.2.2.2.2.2.2.2.2.1)), (a_loi, .inl (y 0, q3.1, .inl q3.2.2.2.2.2.2.2.2.2.2.2.1)), (a_lov, .inl (y 0, q3.1, .inl q3.2.2.2.2.2.2.2.2.2.2.2.2.1)), (a_lof, .inl (y 0, q3.2.1, .inl q3.2.2.2.2.2.2.2.2.2.2.2.2.2.1)), (a_lol, .inl (y 0, q3.2.2.1, .inl q3.2.2.2.2.2.2.2.2.2.2.2.2.2.2.1)), (a_lom, .inl (y 0, q3.2.2.2.1, .inl q3.2.2.2.2.2.2.2.2.2.2.2.2.2.2.2.1)), (a_low, .inl (y 0, q3.2.2.2.2.1, .inl q3.2.2.2.2.2.2.2.2.2.2.2.2.2.2.2.2.1)), (a_ex, .inl (y 0, q3.2.2.2.2.2.1, .inl q3.2.2.2.2.2.2.2.2.2.2.2.2.2.2.2.2.2))] H := hP
  have hD : va_D A [(a_x, .inr (5, [.ref a_known, .ref a_so, .ref a_made, .ref a_pcl, .ref a_hi, .ref a_tx, .ref a_rd, .ref a_tb, .null])), (a_known, .inl (y 3, 6, .inr (.inr (.inr (.inr (va_up v_known p1.toNatClampNeg (some a_lo))))))), (a_lo, .inr (1, [.int q3.2.2.2.2.2.2.1, .int q3.2.2.2.2.2.2.2.1, .int q3.2.2.2.2.2.2.2.2.1, .ref a_lod, .ref a_lop, .ref a_loi, .ref a_lov, .ref a_lof, .ref a_lol, .ref a_lom, .ref a_low])), (a_lod, .inl (y 0, q3.1, .inl q3.2.2.2.2.2.2.2.2.2.1)), (a_lop, .inl (y 0, q3.1, .inl q3.2.2.2.2.2.2.2.2.2.2.1)), (a_loi, .inl (y 0, q3.1, .inl q3.2.2.2.2.2.2.2.2.2.2.2.1)), (a_lov, .inl (y 0, q3.1, .inl q3.2.2.2.2.2.2.2.2.2.2.2.2.1)), (a_lof, .inl (y 0, q3.2.1, .inl q3.2.2.2.2.2.2.2.2.2.2.2.2.2.1)), (a_lol, .inl (y 0, q3.2.2.1, .inl q3.2.2.2.2.2.2.2.2.2.2.2.2.2.2.1)), (a_lom, .inl (y 0, q3.2.2.2.1, .inl q3.2.2.2.2.2.2.2.2.2.2.2.2.2.2.2.1)), (a_low, .inl (y 0, q3.2.2.2.2.1, .inl q3.2.2.2.2.2.2.2.2.2.2.2.2.2.2.2.2.1)), (a_ex, .inl (y 0, q3.2.2.2.2.2.1, .inl q3.2.2.2.2.2.2.2.2.2.2.2.2.2.2.2.2.2))] := hD
  refine lv_aload_n hx hb dX5_ordersWith_27 rfl (lv_at hl 0 rfl) ?_
  have hB := Option.some.inj hB
  subst hB
  refine W.widen (k := 10) (n := N) (Nat.le_of_ble_eq_true rfl) h4N ?_
  exact W.aret hx hb hr (Or.inl ⟨_, rfl⟩) (Or.inr ⟨_, rfl⟩) (fun t ht hW => ⟨⟨(), _, rfl, trivial, ⟨a_lo, a_lod, a_lop, a_loi, a_lov, a_lof, a_lol, a_lom, a_low, a_ex⟩, rfl, by rw [ht]; exact hP, va_K.moved hW.alike hK, hD⟩, hS.F ht⟩) hS.2.2 dX5_ordersWith_28 hlocks
set_option maxHeartbeats 4000000 in
set_option maxRecDepth 100000 in
theorem c_X5_ordersWithI (l : Launch) (D : va_G) (y : Nat → ClassId) (N : Nat) (a_x : Nat) (a_known : Nat) (a_so : Nat) (a_made : Nat) (a_pcl : Nat) (a_hi : Nat) (a_tx : Nat) (a_rd : Nat) (a_tb : Nat) (a_o : Nat)  (v_known : Nat → Option Nat) (p1 : Int32) (sz : Nat) {R : Nat × Nat × Nat × Nat × Nat × Nat × Int32 × Int32 × Int32 × (Nat → Int32) × (Nat → Int32) × (Nat → Int32) × (Nat → Int32) × (Nat → Int32) × (Nat → Int32) × (Nat → Int32) × (Nat → Int32) × (Nat → Int32)} (hk : v_known p1.toNatClampNeg = none) (hF : F_X5_ordersWithI N p1 = some R) : Met l yX5_ordersWith wsX5_ordersWith ({ frames := 5, cells := 10, slots := N, locals := 119 } : Room) (xPre D y sz [.ref a_x, .int p1] [(a_x, .inr (5, [.ref a_known, .ref a_so, .ref a_made, .ref a_pcl, .ref a_hi, .ref a_tx, .ref a_rd, .ref a_tb, .null])), (a_known, .inl (y 3, 6, .inr (.inr (.inr (.inr v_known)))))]) (va_Qr (fun (_ : Unit) => True) (xBzr D y (va_A [(a_x, .inr (5, [.ref a_known, .ref a_so, .ref a_made, .ref a_pcl, .ref a_hi, .ref a_tx, .ref a_rd, .ref a_tb, .null])), (a_known, .inl (y 3, 6, .inr (.inr (.inr (.inr v_known)))))] sz) (fun z : Nat × Nat × Nat × Nat × Nat × Nat × Nat × Nat × Nat × Nat => z.1) (fun z : Nat × Nat × Nat × Nat × Nat × Nat × Nat × Nat × Nat × Nat => [(a_x, .inr (5, [.ref a_known, .ref a_so, .ref a_made, .ref a_pcl, .ref a_hi, .ref a_tx, .ref a_rd, .ref a_tb, .null])), (a_known, .inl (y 3, 6, .inr (.inr (.inr (.inr (va_up v_known p1.toNatClampNeg (some z.1))))))), (z.1, .inr (1, [.int R.2.2.2.2.2.2.1, .int R.2.2.2.2.2.2.2.1, .int R.2.2.2.2.2.2.2.2.1, .ref z.2.1, .ref z.2.2.1, .ref z.2.2.2.1, .ref z.2.2.2.2.1, .ref z.2.2.2.2.2.1, .ref z.2.2.2.2.2.2.1, .ref z.2.2.2.2.2.2.2.1, .ref z.2.2.2.2.2.2.2.2.1])), (z.2.1, .inl (y 0, R.1, .inl R.2.2.2.2.2.2.2.2.2.1)), (z.2.2.1, .inl (y 0, R.1, .inl R.2.2.2.2.2.2.2.2.2.2.1)), (z.2.2.2.1, .inl (y 0, R.1, .inl R.2.2.2.2.2.2.2.2.2.2.2.1)), (z.2.2.2.2.1, .inl (y 0, R.1, .inl R.2.2.2.2.2.2.2.2.2.2.2.2.1)), (z.2.2.2.2.2.1, .inl (y 0, R.2.1, .inl R.2.2.2.2.2.2.2.2.2.2.2.2.2.1)), (z.2.2.2.2.2.2.1, .inl (y 0, R.2.2.1, .inl R.2.2.2.2.2.2.2.2.2.2.2.2.2.2.1)), (z.2.2.2.2.2.2.2.1, .inl (y 0, R.2.2.2.1, .inl R.2.2.2.2.2.2.2.2.2.2.2.2.2.2.2.1)), (z.2.2.2.2.2.2.2.2.1, .inl (y 0, R.2.2.2.2.1, .inl R.2.2.2.2.2.2.2.2.2.2.2.2.2.2.2.2.1)), (z.2.2.2.2.2.2.2.2.2, .inl (y 0, R.2.2.2.2.2.1, .inl R.2.2.2.2.2.2.2.2.2.2.2.2.2.2.2.2.2))])) (va_A [(a_x, .inr (5, [.ref a_known, .ref a_so, .ref a_made, .ref a_pcl, .ref a_hi, .ref a_tx, .ref a_rd, .ref a_tb, .null])), (a_known, .inl (y 3, 6, .inr (.inr (.inr (.inr v_known)))))] sz)) 10 N (va_A [(a_x, .inr (5, [.ref a_known, .ref a_so, .ref a_made, .ref a_pcl, .ref a_hi, .ref a_tx, .ref a_rd, .ref a_tb, .null])), (a_known, .inl (y 3, 6, .inr (.inr (.inr (.inr v_known)))))] sz) := by
  refine Met.ofW (cc := cX5_ordersWith) (maxL := 3) (ret := (some (.object "DescentShuffles$Orders"))) (by decide) rfl ?_
  intro p e s m args below meth c s₁ B hml hv
  obtain ⟨rfl, hsz, hP, hK, hD0⟩ := hv
  subst hsz
  have hD := hD0.self (sz := s.heap.size)
  have C : xC p s m [.ref a_x, .int p1].toArray meth c (va_A [(a_x, .inr (5, [.ref a_known, .ref a_so, .ref a_made, .ref a_pcl, .ref a_hi, .ref a_tx, .ref a_rd, .ref a_tb, .null])), (a_known, .inl (y 3, 6, .inr (.inr (.inr (.inr v_known)))))] s.heap.size) cX5_ordersWith RX5 wsX5_ordersWith 3 (some (.object "DescentShuffles$Orders")) D y := ⟨B.exec, B.bytes, hml, findClass_of_methodNamed B.named, atoms_spec (ws := wsX5_ordersWith) B.pre, B.returns, B.notSynchronized, hK, fun q h => Or.inr h⟩
  have hl := lv_entry ([.ref a_x, .int p1]) (n := 3) (Nat.le_of_ble_eq_true rfl)
  rw [lg_entry_eq]
  generalize (lg_sl ([.ref a_x, .int p1]) ++ List.replicate (3 - (lg_sl ([.ref a_x, .int p1])).length) Slot.unset).toArray = ls at hl ⊢
  have hl : lv_has ls 3 [(0, .ref a_x), (1, .int p1)] := hl
  exact B_X5_ordersWithI_0 (p1 := p1) (N := N) (a_o := a_o) C hk  s.heap [] ls hP hD va_S.rf hl (Nat.zero_le N) hF
