/-! by program (wip/whole/gen): the bytecode meets the functions -/
theorem kX5_square_c154 : Cond.constant RX5 154 (-10000004) ∈ wsX5_square := by decide +kernel
theorem kX5_square_c67 : Cond.constant RX5 67 (-10000001) ∈ wsX5_square := by decide +kernel
theorem kX5_square_f17 : Cond.fieldLink RX5 17 "DescentShuffles" "sums" "[[I" ∈ wsX5_square := by decide +kernel
theorem kX5_square_wX5 : ∀ w ∈ u_ws RX5 TX5 9, w ∈ wsX5_square := by decide +kernel
theorem kX5_square_f20 : Cond.fieldLink RX5 20 "DescentShuffles" "made" "[J" ∈ wsX5_square := by decide +kernel
theorem kX5_square_f59 : Cond.fieldLink RX5 59 "DescentShuffles" "orders" "LDescentShuffles$Orders;" ∈ wsX5_square := by decide +kernel
theorem kX5_square_f76 : Cond.fieldLink RX5 76 "DescentShuffles$Orders" "many" "I" ∈ wsX5_square := by decide +kernel
theorem kX5_square_wX1 : ∀ w ∈ u_ws RX1 TX1 11, w ∈ wsX5_square := by decide +kernel
def S_X5_square_64 (p : Program) (l : Launch) (e : Env) (s : State) (m : MethodId) (args : Array Value) (below : List Frame) (meth : Method) (c : Code) (A : Nat → Prop) (D : va_G) (y : Nat → ClassId) (a_x : Nat) (a_known : Nat) (a_so : Nat) (a_made : Nat) (a_pcl : Nat) (a_hi : Nat) (a_tx : Nat) (a_rd : Nat) (a_tb : Nat) (a_o : Nat) (a_s : Nat → Nat) (a_od : Nat) (a_op : Nat) (a_oi : Nat) (a_ov : Nat) (a_of : Nat) (a_ol : Nat) (a_om : Nat) (a_ow : Nat) (lp_o : Nat) (v_s : Nat → Nat → Int32) (f_o_n : Int32) (f_o_many : Int32) (f_o_sets : Int32) (v_om : Nat → Int32) (p1 : Int32) (R : Int32 × (Nat → Int64)) (κ : Int64 → Int32 → (Nat → Int64) → Option (Int32 × (Nat → Int64))) : Prop := ∀ (x4 : Int64) (x6 : Int32) (v_made : Nat → Int64) (H : Heap) (locs : List Loc) (ls : Array Slot), va_P D vwCl [(a_x, .inr (5, [.ref a_known, .ref a_so, .ref a_made, .ref a_pcl, .ref a_hi, .ref a_tx, .ref a_rd, .ref a_tb, .ref a_o])), (a_so, .inl (y 4, 3, .inr (.inr (.inr (.inr (xO a_s 3)))))), xE a_s (y 0) 120 v_s 0, xE a_s (y 0) 120 v_s 1, xE a_s (y 0) 120 v_s 2, (a_made, .inl (y 1, 120, .inr (.inl v_made))), (a_o, .inr (1, [.int f_o_n, .int f_o_many, .int f_o_sets, .ref a_od, .ref a_op, .ref a_oi, .ref a_ov, .ref a_of, .ref a_ol, .ref a_om, .ref a_ow])), (a_om, .inl (y 0, lp_o, .inl v_om))] H → va_D A [(a_x, .inr (5, [.ref a_known, .ref a_so, .ref a_made, .ref a_pcl, .ref a_hi, .ref a_tx, .ref a_rd, .ref a_tb, .ref a_o])), (a_so, .inl (y 4, 3, .inr (.inr (.inr (.inr (xO a_s 3)))))), xE a_s (y 0) 120 v_s 0, xE a_s (y 0) 120 v_s 1, xE a_s (y 0) 120 v_s 2, (a_made, .inl (y 1, 120, .inr (.inl v_made))), (a_o, .inr (1, [.int f_o_n, .int f_o_many, .int f_o_sets, .ref a_od, .ref a_op, .ref a_oi, .ref a_ov, .ref a_of, .ref a_ol, .ref a_om, .ref a_ow])), (a_om, .inl (y 0, lp_o, .inl v_om))] → va_S A s.heap H locs → lv_has ls 7 [(0, .ref a_x), (2, .ref (a_s p1.toNatClampNeg)), (4, .long x4), (6, .int x6)] → κ x4 x6 v_made = some R → W p l e ({ frames := 3, cells := 0, slots := 0, locals := 67 } : Room) s m args below meth c H locs 0 0 (MQ below (va_Qi (fun (r : Int32) (_ : Unit) => r = R.1) (xB D y A [(a_x, .inr (5, [.ref a_known, .ref a_so, .ref a_made, .ref a_pcl, .ref a_hi, .ref a_tx, .ref a_rd, .ref a_tb, .ref a_o])), (a_so, .inl (y 4, 3, .inr (.inr (.inr (.inr (xO a_s 3)))))), xE a_s (y 0) 120 v_s 0, xE a_s (y 0) 120 v_s 1, xE a_s (y 0) 120 v_s 2, (a_made, .inl (y 1, 120, .inr (.inl R.2))), (a_o, .inr (1, [.int f_o_n, .int f_o_many, .int f_o_sets, .ref a_od, .ref a_op, .ref a_oi, .ref a_ov, .ref a_of, .ref a_ol, .ref a_om, .ref a_ow])), (a_om, .inl (y 0, lp_o, .inl v_om))]) A) args s 0 0 A) (F0 m 64 ls [])
def S_X5_square_0 (p : Program) (l : Launch) (e : Env) (s : State) (m : MethodId) (args : Array Value) (below : List Frame) (meth : Method) (c : Code) (A : Nat → Prop) (D : va_G) (y : Nat → ClassId) (a_x : Nat) (a_known : Nat) (a_so : Nat) (a_made : Nat) (a_pcl : Nat) (a_hi : Nat) (a_tx : Nat) (a_rd : Nat) (a_tb : Nat) (a_o : Nat) (a_s : Nat → Nat) (a_od : Nat) (a_op : Nat) (a_oi : Nat) (a_ov : Nat) (a_of : Nat) (a_ol : Nat) (a_om : Nat) (a_ow : Nat) (lp_o : Nat) (v_s : Nat → Nat → Int32) (f_o_n : Int32) (f_o_many : Int32) (f_o_sets : Int32) (v_om : Nat → Int32) (p1 : Int32) (R : Int32 × (Nat → Int64)) (κ : (Nat → Int64) → Option (Int32 × (Nat → Int64))) : Prop := ∀ (v_made : Nat → Int64) (H : Heap) (locs : List Loc) (ls : Array Slot), va_P D vwCl [(a_x, .inr (5, [.ref a_known, .ref a_so, .ref a_made, .ref a_pcl, .ref a_hi, .ref a_tx, .ref a_rd, .ref a_tb, .ref a_o])), (a_so, .inl (y 4, 3, .inr (.inr (.inr (.inr (xO a_s 3)))))), xE a_s (y 0) 120 v_s 0, xE a_s (y 0) 120 v_s 1, xE a_s (y 0) 120 v_s 2, (a_made, .inl (y 1, 120, .inr (.inl v_made))), (a_o, .inr (1, [.int f_o_n, .int f_o_many, .int f_o_sets, .ref a_od, .ref a_op, .ref a_oi, .ref a_ov, .ref a_of, .ref a_ol, .ref a_om, .ref a_ow])), (a_om, .inl (y 0, lp_o, .inl v_om))] H → va_D A [(a_x, .inr (5, [.ref a_known, .ref a_so, .ref a_made, .ref a_pcl, .ref a_hi, .ref a_tx, .ref a_rd, .ref a_tb, .ref a_o])), (a_so, .inl (y 4, 3, .inr (.inr (.inr (.inr (xO a_s 3)))))), xE a_s (y 0) 120 v_s 0, xE a_s (y 0) 120 v_s 1, xE a_s (y 0) 120 v_s 2, (a_made, .inl (y 1, 120, .inr (.inl v_made))), (a_o, .inr (1, [.int f_o_n, .int f_o_many, .int f_o_sets, .ref a_od, .ref a_op, .ref a_oi, .ref a_ov, .ref a_of, .ref a_ol, .ref a_om, .ref a_ow])), (a_om, .inl (y 0, lp_o, .inl v_om))] → va_S A s.heap H locs → lv_has ls 7 [(0, .ref a_x), (1, .int p1)] → κ v_made = some R → W p l e ({ frames := 3, cells := 0, slots := 0, locals := 67 } : Room) s m args below meth c H locs 0 0 (MQ below (va_Qi (fun (r : Int32) (_ : Unit) => r = R.1) (xB D y A [(a_x, .inr (5, [.ref a_known, .ref a_so, .ref a_made, .ref a_pcl, .ref a_hi, .ref a_tx, .ref a_rd, .ref a_tb, .ref a_o])), (a_so, .inl (y 4, 3, .inr (.inr (.inr (.inr (xO a_s 3)))))), xE a_s (y 0) 120 v_s 0, xE a_s (y 0) 120 v_s 1, xE a_s (y 0) 120 v_s 2, (a_made, .inl (y 1, 120, .inr (.inl R.2))), (a_o, .inr (1, [.int f_o_n, .int f_o_many, .int f_o_sets, .ref a_od, .ref a_op, .ref a_oi, .ref a_ov, .ref a_of, .ref a_ol, .ref a_om, .ref a_ow])), (a_om, .inl (y 0, lp_o, .inl v_om))]) A) args s 0 0 A) (F0 m 0 ls [])
set_option maxHeartbeats 4000000 in
set_option maxRecDepth 100000 in
theorem B_X5_square_64 {p : Program} {l : Launch} {e : Env} {s : State} {m : MethodId} {args : Array Value} {below : List Frame} {meth : Method} {c : Code} {A : Nat → Prop} {D : va_G} {y : Nat → ClassId} {a_x : Nat} {a_known : Nat} {a_so : Nat} {a_made : Nat} {a_pcl : Nat} {a_hi : Nat} {a_tx : Nat} {a_rd : Nat} {a_tb : Nat} {a_o : Nat} {a_s : Nat → Nat} {a_od : Nat} {a_op : Nat} {a_oi : Nat} {a_ov : Nat} {a_of : Nat} {a_ol : Nat} {a_om : Nat} {a_ow : Nat} {lp_o : Nat} {v_s : Nat → Nat → Int32} {f_o_n : Int32} {f_o_many : Int32} {f_o_sets : Int32} {v_om : Nat → Int32} {p1 : Int32} {R : Int32 × (Nat → Int64)} (C : xC p s m args meth c A cX5_square RX5 wsX5_square 7 (some .int) D y)  : ∀ f : Nat, S_X5_square_64 p l e s m args below meth c A D y a_x a_known a_so a_made a_pcl a_hi a_tx a_rd a_tb a_o a_s a_od a_op a_oi a_ov a_of a_ol a_om a_ow lp_o v_s f_o_n f_o_many f_o_sets v_om p1 R (F_X5_square_64 v_s f_o_many p1  f) := by
  have C0 := C
  obtain ⟨hx, hb, hml, hown, hts, hr, hlocks, hK, hA⟩ := C
  intro f
  induction f with
  | zero =>
    intro x4 x6 v_made H locs ls hP hD hS hl hB
    rw [Z_X5_square_64] at hB
    cases hB
  | succ f ih =>
    intro x4 x6 v_made H locs ls hP hD hS hl hB
    rw [E_X5_square_64] at hB
    refine lv_iload hx hb dX5_square_64 (lv_at hl 3 rfl) ?_
    refine lv_aload_n hx hb dX5_square_66 rfl (lv_at hl 0 rfl) ?_
    refine va_get (D := D) (ci := 5) (v := .ref a_o) (C := RX5) (T := TX5) (N := 9) hx hb hts kX5_square_wX5 hown hK hP 0 rfl rfl 8 (by decide) (hts _ kX5_square_f59) (fun _ h9 => h9) rfl dX5_square_67 ?_
    refine va_get (D := D) (ci := 1) (v := .int f_o_many) (C := RX1) (T := TX1) (N := 11) hx hb hts kX5_square_wX1 hown hK hP 6 rfl rfl 1 (by decide) (hts _ kX5_square_f76) (fun _ h9 => h9) rfl dX5_square_70 ?_
    refine lv_icmp_ge (tgt := 104) hx hb dX5_square_73 (by decide) (fun c1 => ?_) (fun c1 => ?_)
    · have hB := xip c1 hB
      refine lv_lload hx hb dX5_square_104 (lv_at hl 2 rfl) ?_
      refine lv_l2i hx hb dX5_square_106 rfl ?_
      have hB := Option.some.inj hB
      subst hB
      exact W.iret hx hb hr (fun t ht hW => ⟨⟨_, (), rfl, rfl, by rw [ht]; exact hP, va_K.moved hW.alike hK, hD⟩, hS.F ht⟩) hS.2.2 dX5_square_107 hlocks
    · have hB := xin c1 hB
      refine lv_aload_n hx hb dX5_square_76 rfl (lv_at hl 0 rfl) ?_
      refine va_get (D := D) (ci := 5) (v := .ref a_made) (C := RX5) (T := TX5) (N := 9) hx hb hts kX5_square_wX5 hown hK hP 0 rfl rfl 2 (by decide) (hts _ kX5_square_f20) (fun _ h9 => h9) rfl dX5_square_77 ?_
      refine lv_iload hx hb dX5_square_80 (lv_at hl 3 rfl) ?_
      obtain ⟨g2, hB⟩ := xg_some hB
      refine va_lald hx hb hK hP 5 1 rfl rfl g2 dX5_square_82 ?_
      refine lv_lload hx hb dX5_square_83 (lv_at hl 2 rfl) ?_
      refine lv_aload_n hx hb dX5_square_85 rfl (lv_at hl 1 rfl) ?_
      refine lv_iload hx hb dX5_square_86 (lv_at hl 3 rfl) ?_
      obtain ⟨g3, hB⟩ := xg_some hB
      refine va_iald hx hb hK hP (2 + p1.toNatClampNeg) 0 (xg3 (xE a_s (y 0) 120 v_s) rfl rfl rfl (xlt g3)) rfl g2 dX5_square_88 ?_
      refine lv_i2l hx hb dX5_square_89 rfl ?_
      refine lv_lmul hx hb dX5_square_90 ?_
      refine W.lcmp hx hb dX5_square_91 ?_
      refine lv_if_eq (tgt := 98) hx hb dX5_square_92 (by decide) (fun c4 => ?_) (fun c4 => ?_)
      · have hB := xip c4 hB
        refine lv_iinc (v := x6 + 1) (lv' := [(6, .int (x6 + 1)), (0, .ref a_x), (2, .ref (a_s p1.toNatClampNeg)), (4, .long x4)]) hx hb dX5_square_98 hl (k := 3) rfl rfl (by decide) rfl (fun ls hl => ?_)
        refine lv_goto (tgt := 64) hx hb dX5_square_101 (by decide) ?_
        exact ih x4 (x6 + 1) v_made H locs ls hP hD hS (lv_sub hl [1, 2, 3, 0] rfl) hB
      · have hB := xin c4 hB
        refine lv_ldc (v := -10000004) hx hb hown (hts _ kX5_square_c154) dX5_square_95 ?_
        have hB := Option.some.inj hB
        subst hB
        exact W.iret hx hb hr (fun t ht hW => ⟨⟨_, (), rfl, rfl, by rw [ht]; exact hP, va_K.moved hW.alike hK, hD⟩, hS.F ht⟩) hS.2.2 dX5_square_97 hlocks
set_option maxHeartbeats 4000000 in
set_option maxRecDepth 100000 in
theorem B_X5_square_0 {p : Program} {l : Launch} {e : Env} {s : State} {m : MethodId} {args : Array Value} {below : List Frame} {meth : Method} {c : Code} {A : Nat → Prop} {D : va_G} {y : Nat → ClassId} {a_x : Nat} {a_known : Nat} {a_so : Nat} {a_made : Nat} {a_pcl : Nat} {a_hi : Nat} {a_tx : Nat} {a_rd : Nat} {a_tb : Nat} {a_o : Nat} {a_s : Nat → Nat} {a_od : Nat} {a_op : Nat} {a_oi : Nat} {a_ov : Nat} {a_of : Nat} {a_ol : Nat} {a_om : Nat} {a_ow : Nat} {lp_o : Nat} {v_s : Nat → Nat → Int32} {f_o_n : Int32} {f_o_many : Int32} {f_o_sets : Int32} {v_om : Nat → Int32} {p1 : Int32} {R : Int32 × (Nat → Int64)} (C : xC p s m args meth c A cX5_square RX5 wsX5_square 7 (some .int) D y)  : S_X5_square_0 p l e s m args below meth c A D y a_x a_known a_so a_made a_pcl a_hi a_tx a_rd a_tb a_o a_s a_od a_op a_oi a_ov a_of a_ol a_om a_ow lp_o v_s f_o_n f_o_many f_o_sets v_om p1 R (F_X5_square lp_o v_s f_o_many v_om p1 ) := by
  have C0 := C
  obtain ⟨hx, hb, hml, hown, hts, hr, hlocks, hK, hA⟩ := C
  intro v_made H locs ls hP hD hS hl hB
  unfold F_X5_square at hB
  refine lv_iload_n hx hb dX5_square_0 rfl (lv_at hl 1 rfl) ?_
  obtain ⟨q1, e1, hB⟩ := xbd hB
  have hPc := hP.sub (ws' := []) [] rfl
  have hDc := hD.sub (ws' := []) [] (by decide) rfl
  refine xcalli (mc := 0) (ms := 0) (rv := q1) (wc := []) (wr := [(a_x, .inr (5, [.ref a_known, .ref a_so, .ref a_made, .ref a_pcl, .ref a_hi, .ref a_tx, .ref a_rd, .ref a_tb, .ref a_o])), (a_so, .inl (y 4, 3, .inr (.inr (.inr (.inr (xO a_s 3)))))), xE a_s (y 0) 120 v_s 0, xE a_s (y 0) 120 v_s 1, xE a_s (y 0) 120 v_s 2, (a_made, .inl (y 1, 120, .inr (.inl v_made))), (a_o, .inr (1, [.int f_o_n, .int f_o_many, .int f_o_sets, .ref a_od, .ref a_op, .ref a_oi, .ref a_ov, .ref a_of, .ref a_ol, .ref a_om, .ref a_ow])), (a_om, .inl (y 0, lp_o, .inl v_om))]) (w1 := []) (wf := [(a_x, .inr (5, [.ref a_known, .ref a_so, .ref a_made, .ref a_pcl, .ref a_hi, .ref a_tx, .ref a_rd, .ref a_tb, .ref a_o])), (a_so, .inl (y 4, 3, .inr (.inr (.inr (.inr (xO a_s 3)))))), xE a_s (y 0) 120 v_s 0, xE a_s (y 0) 120 v_s 1, xE a_s (y 0) 120 v_s 2, (a_made, .inl (y 1, 120, .inr (.inl v_made))), (a_o, .inr (1, [.int f_o_n, .int f_o_many, .int f_o_sets, .ref a_od, .ref a_op, .ref a_oi, .ref a_ov, .ref a_of, .ref a_ol, .ref a_om, .ref a_ow])), (a_om, .inl (y 0, lp_o, .inl v_om))]) (va_runS (As := [.int p1]) (rest := []) ⟨hx, hb, hml, hown, hts⟩ (c_X5_isSum l D y p1 H.size e1) (va_cwS 1 hts gX5_square_X5_isSum rfl rfl rfl (by decide +kernel) ⟨Nat.le_of_ble_eq_true rfl, Nat.le_of_ble_eq_true rfl⟩) ⟨xblind, xprev hPc hK hDc⟩ rfl rfl hl.1 rfl (lv_room (Nat.le_of_ble_eq_true rfl)) dX5_square_1 ⟨Nat.le_of_ble_eq_true rfl, Nat.le_of_ble_eq_true rfl⟩) hP hD hS hA [] [0, 1, 2, 3, 4, 5, 6, 7] [0, 1, 2, 3, 4, 5, 6, 7] rfl rfl (by decide) (by decide) rfl (by decide) (fun H locs hP hD hS => ?_)
  refine lv_if_ne (tgt := 10) hx hb dX5_square_4 (by decide) (fun c2 => ?_) (fun c2 => ?_)
  · have hB := xin c2 hB
    refine lv_aload_n hx hb dX5_square_10 rfl (lv_at hl 0 rfl) ?_
    refine va_get (D := D) (ci := 5) (v := .ref a_so) (C := RX5) (T := TX5) (N := 9) hx hb hts kX5_square_wX5 hown hK hP 0 rfl rfl 1 (by decide) (hts _ kX5_square_f17) (fun _ h9 => h9) rfl dX5_square_11 ?_
    refine lv_iload_n hx hb dX5_square_14 rfl (lv_at hl 1 rfl) ?_
    obtain ⟨g3, hB⟩ := xg_some hB
    refine xaald hx hb hK hP 1 4 rfl rfl g3 dX5_square_15 ?_
    refine lv_astore_n (lv' := [(2, .ref (a_s p1.toNatClampNeg)), (0, .ref a_x), (1, .int p1)]) hx hb dX5_square_16 rfl hl (by decide) rfl (fun ls hl => ?_)
    refine lv_aload_n hx hb dX5_square_17 rfl (lv_at hl 1 rfl) ?_
    refine lv_aload_n hx hb dX5_square_18 rfl (lv_at hl 0 rfl) ?_
    refine lv_aload_n hx hb dX5_square_19 rfl (lv_at hl 0 rfl) ?_
    obtain ⟨q4, e4, hB⟩ := xbd hB
    have hPc := hP.sub (ws' := [(a_x, .inr (5, [.ref a_known, .ref a_so, .ref a_made, .ref a_pcl, .ref a_hi, .ref a_tx, .ref a_rd, .ref a_tb, .ref a_o])), xE a_s (y 0) 120 v_s 0, xE a_s (y 0) 120 v_s 1, xE a_s (y 0) 120 v_s 2, (a_made, .inl (y 1, 120, .inr (.inl v_made))), (a_o, .inr (1, [.int f_o_n, .int f_o_many, .int f_o_sets, .ref a_od, .ref a_op, .ref a_oi, .ref a_ov, .ref a_of, .ref a_ol, .ref a_om, .ref a_ow])), (a_om, .inl (y 0, lp_o, .inl v_om))]) [0, 2, 3, 4, 5, 6, 7] rfl
    have hDc := hD.sub (ws' := [(a_x, .inr (5, [.ref a_known, .ref a_so, .ref a_made, .ref a_pcl, .ref a_hi, .ref a_tx, .ref a_rd, .ref a_tb, .ref a_o])), xE a_s (y 0) 120 v_s 0, xE a_s (y 0) 120 v_s 1, xE a_s (y 0) 120 v_s 2, (a_made, .inl (y 1, 120, .inr (.inl v_made))), (a_o, .inr (1, [.int f_o_n, .int f_o_many, .int f_o_sets, .ref a_od, .ref a_op, .ref a_oi, .ref a_ov, .ref a_of, .ref a_ol, .ref a_om, .ref a_ow])), (a_om, .inl (y 0, lp_o, .inl v_om))]) [0, 2, 3, 4, 5, 6, 7] (by decide) rfl
    refine xcallv (mc := 0) (ms := 0) (wc := [(a_x, .inr (5, [.ref a_known, .ref a_so, .ref a_made, .ref a_pcl, .ref a_hi, .ref a_tx, .ref a_rd, .ref a_tb, .ref a_o])), xE a_s (y 0) 120 v_s 0, xE a_s (y 0) 120 v_s 1, xE a_s (y 0) 120 v_s 2, (a_made, .inl (y 1, 120, .inr (.inl v_made))), (a_o, .inr (1, [.int f_o_n, .int f_o_many, .int f_o_sets, .ref a_od, .ref a_op, .ref a_oi, .ref a_ov, .ref a_of, .ref a_ol, .ref a_om, .ref a_ow])), (a_om, .inl (y 0, lp_o, .inl v_om))]) (wr := [(a_so, .inl (y 4, 3, .inr (.inr (.inr (.inr (xO a_s 3))))))]) (w1 := [(a_x, .inr (5, [.ref a_known, .ref a_so, .ref a_made, .ref a_pcl, .ref a_hi, .ref a_tx, .ref a_rd, .ref a_tb, .ref a_o])), xE a_s (y 0) 120 v_s 0, xE a_s (y 0) 120 v_s 1, xE a_s (y 0) 120 v_s 2, (a_made, .inl (y 1, 120, .inr (.inl q4))), (a_o, .inr (1, [.int f_o_n, .int f_o_many, .int f_o_sets, .ref a_od, .ref a_op, .ref a_oi, .ref a_ov, .ref a_of, .ref a_ol, .ref a_om, .ref a_ow])), (a_om, .inl (y 0, lp_o, .inl v_om))]) (wf := [(a_x, .inr (5, [.ref a_known, .ref a_so, .ref a_made, .ref a_pcl, .ref a_hi, .ref a_tx, .ref a_rd, .ref a_tb, .ref a_o])), (a_so, .inl (y 4, 3, .inr (.inr (.inr (.inr (xO a_s 3)))))), xE a_s (y 0) 120 v_s 0, xE a_s (y 0) 120 v_s 1, xE a_s (y 0) 120 v_s 2, (a_made, .inl (y 1, 120, .inr (.inl q4))), (a_o, .inr (1, [.int f_o_n, .int f_o_many, .int f_o_sets, .ref a_od, .ref a_op, .ref a_oi, .ref a_ov, .ref a_of, .ref a_ol, .ref a_om, .ref a_ow])), (a_om, .inl (y 0, lp_o, .inl v_om))]) (va_runV (As := [.ref (a_s p1.toNatClampNeg), .ref (a_s p1.toNatClampNeg)]) (rest := []) ⟨hx, hb, hml, hown, hts⟩ (c_X5_makeProduct l D y a_x a_known a_so a_made a_pcl a_hi a_tx a_rd a_tb a_o a_s a_od a_op a_oi a_ov a_of a_ol a_om a_ow lp_o v_s v_made f_o_n f_o_many f_o_sets v_om p1 p1 H.size e4) (cwV 2 hts gX5_square_X5_makeProduct rfl rfl rfl (by decide +kernel) ⟨Nat.le_of_ble_eq_true rfl, Nat.le_of_ble_eq_true rfl⟩) ⟨xblind, va_recv hK hP (ci := 5) (q0 := 0) rfl rfl, xprev hPc hK hDc⟩ rfl rfl hl.1 rfl (lv_room (Nat.le_of_ble_eq_true rfl)) dX5_square_20 ⟨Nat.le_of_ble_eq_true rfl, Nat.le_of_ble_eq_true rfl⟩) hP hD hS hA [0, 2, 3, 4, 5, 6, 7] [1] [1, 0, 2, 3, 4, 5, 6, 7] rfl rfl (by decide) (by decide) rfl (by decide) (fun H locs hP hD hS => ?_)
    refine lv_aload_n hx hb dX5_square_23 rfl (lv_at hl 1 rfl) ?_
    refine lv_iload_n hx hb dX5_square_24 rfl (lv_at hl 2 rfl) ?_
    refine lv_iconst (v := 0) hx hb dX5_square_25 (by decide) ?_
    refine lv_iconst (v := 0) hx hb dX5_square_26 (by decide) ?_
    obtain ⟨q5, e5, hB⟩ := xbd hB
    have hPc := hP.sub (ws' := [(a_x, .inr (5, [.ref a_known, .ref a_so, .ref a_made, .ref a_pcl, .ref a_hi, .ref a_tx, .ref a_rd, .ref a_tb, .ref a_o])), (a_so, .inl (y 4, 3, .inr (.inr (.inr (.inr (xO a_s 3)))))), xE a_s (y 0) 120 v_s 0, xE a_s (y 0) 120 v_s 1, xE a_s (y 0) 120 v_s 2, (a_o, .inr (1, [.int f_o_n, .int f_o_many, .int f_o_sets, .ref a_od, .ref a_op, .ref a_oi, .ref a_ov, .ref a_of, .ref a_ol, .ref a_om, .ref a_ow]))]) [0, 1, 2, 3, 4, 6] rfl
    have hDc := hD.sub (ws' := [(a_x, .inr (5, [.ref a_known, .ref a_so, .ref a_made, .ref a_pcl, .ref a_hi, .ref a_tx, .ref a_rd, .ref a_tb, .ref a_o])), (a_so, .inl (y 4, 3, .inr (.inr (.inr (.inr (xO a_s 3)))))), xE a_s (y 0) 120 v_s 0, xE a_s (y 0) 120 v_s 1, xE a_s (y 0) 120 v_s 2, (a_o, .inr (1, [.int f_o_n, .int f_o_many, .int f_o_sets, .ref a_od, .ref a_op, .ref a_oi, .ref a_ov, .ref a_of, .ref a_ol, .ref a_om, .ref a_ow]))]) [0, 1, 2, 3, 4, 6] (by decide) rfl
    refine xcalli (mc := 0) (ms := 0) (rv := q5) (wc := [(a_x, .inr (5, [.ref a_known, .ref a_so, .ref a_made, .ref a_pcl, .ref a_hi, .ref a_tx, .ref a_rd, .ref a_tb, .ref a_o])), (a_so, .inl (y 4, 3, .inr (.inr (.inr (.inr (xO a_s 3)))))), xE a_s (y 0) 120 v_s 0, xE a_s (y 0) 120 v_s 1, xE a_s (y 0) 120 v_s 2, (a_o, .inr (1, [.int f_o_n, .int f_o_many, .int f_o_sets, .ref a_od, .ref a_op, .ref a_oi, .ref a_ov, .ref a_of, .ref a_ol, .ref a_om, .ref a_ow]))]) (wr := [(a_made, .inl (y 1, 120, .inr (.inl q4))), (a_om, .inl (y 0, lp_o, .inl v_om))]) (w1 := [(a_x, .inr (5, [.ref a_known, .ref a_so, .ref a_made, .ref a_pcl, .ref a_hi, .ref a_tx, .ref a_rd, .ref a_tb, .ref a_o])), (a_so, .inl (y 4, 3, .inr (.inr (.inr (.inr (xO a_s 3)))))), xE a_s (y 0) 120 v_s 0, xE a_s (y 0) 120 v_s 1, xE a_s (y 0) 120 v_s 2, (a_o, .inr (1, [.int f_o_n, .int f_o_many, .int f_o_sets, .ref a_od, .ref a_op, .ref a_oi, .ref a_ov, .ref a_of, .ref a_ol, .ref a_om, .ref a_ow]))]) (wf := [(a_x, .inr (5, [.ref a_known, .ref a_so, .ref a_made, .ref a_pcl, .ref a_hi, .ref a_tx, .ref a_rd, .ref a_tb, .ref a_o])), (a_so, .inl (y 4, 3, .inr (.inr (.inr (.inr (xO a_s 3)))))), xE a_s (y 0) 120 v_s 0, xE a_s (y 0) 120 v_s 1, xE a_s (y 0) 120 v_s 2, (a_made, .inl (y 1, 120, .inr (.inl q4))), (a_o, .inr (1, [.int f_o_n, .int f_o_many, .int f_o_sets, .ref a_od, .ref a_op, .ref a_oi, .ref a_ov, .ref a_of, .ref a_ol, .ref a_om, .ref a_ow])), (a_om, .inl (y 0, lp_o, .inl v_om))]) (va_runV (As := [.int p1, .int (0 : Int32), .int (0 : Int32)]) (rest := []) ⟨hx, hb, hml, hown, hts⟩ (c_X5_termOf l D y a_x a_known a_so a_made a_pcl a_hi a_tx a_rd a_tb a_o a_s a_od a_op a_oi a_ov a_of a_ol a_om a_ow v_s f_o_n f_o_many f_o_sets p1 (0 : Int32) (0 : Int32) H.size e5) (cwV 3 hts gX5_square_X5_termOf rfl rfl rfl (by decide +kernel) ⟨Nat.le_of_ble_eq_true rfl, Nat.le_of_ble_eq_true rfl⟩) ⟨xblind, va_recv hK hP (ci := 5) (q0 := 0) rfl rfl, xprev hPc hK hDc⟩ rfl rfl hl.1 rfl (lv_room (Nat.le_of_ble_eq_true rfl)) dX5_square_27 ⟨Nat.le_of_ble_eq_true rfl, Nat.le_of_ble_eq_true rfl⟩) hP hD hS hA [0, 1, 2, 3, 4, 6] [5, 7] [2, 3, 4, 5, 6, 0, 7, 1] rfl rfl (by decide) (by decide) rfl (by decide) (fun H locs hP hD hS => ?_)
    refine lv_istore_n (lv' := [(3, .int q5), (2, .ref (a_s p1.toNatClampNeg)), (0, .ref a_x), (1, .int p1)]) hx hb dX5_square_30 rfl hl (by decide) rfl (fun ls hl => ?_)
    refine lv_aload_n hx hb dX5_square_31 rfl (lv_at hl 2 rfl) ?_
    refine lv_iload_n hx hb dX5_square_32 rfl (lv_at hl 0 rfl) ?_
    obtain ⟨q6, e6, hB⟩ := xbd hB
    have hPc := hP.sub (ws' := [(a_x, .inr (5, [.ref a_known, .ref a_so, .ref a_made, .ref a_pcl, .ref a_hi, .ref a_tx, .ref a_rd, .ref a_tb, .ref a_o])), (a_o, .inr (1, [.int f_o_n, .int f_o_many, .int f_o_sets, .ref a_od, .ref a_op, .ref a_oi, .ref a_ov, .ref a_of, .ref a_ol, .ref a_om, .ref a_ow]))]) [0, 6] rfl
    have hDc := hD.sub (ws' := [(a_x, .inr (5, [.ref a_known, .ref a_so, .ref a_made, .ref a_pcl, .ref a_hi, .ref a_tx, .ref a_rd, .ref a_tb, .ref a_o])), (a_o, .inr (1, [.int f_o_n, .int f_o_many, .int f_o_sets, .ref a_od, .ref a_op, .ref a_oi, .ref a_ov, .ref a_of, .ref a_ol, .ref a_om, .ref a_ow]))]) [0, 6] (by decide) rfl
    refine xcalli (mc := 0) (ms := 0) (rv := q6) (wc := [(a_x, .inr (5, [.ref a_known, .ref a_so, .ref a_made, .ref a_pcl, .ref a_hi, .ref a_tx, .ref a_rd, .ref a_tb, .ref a_o])), (a_o, .inr (1, [.int f_o_n, .int f_o_many, .int f_o_sets, .ref a_od, .ref a_op, .ref a_oi, .ref a_ov, .ref a_of, .ref a_ol, .ref a_om, .ref a_ow]))]) (wr := [(a_so, .inl (y 4, 3, .inr (.inr (.inr (.inr (xO a_s 3)))))), xE a_s (y 0) 120 v_s 0, xE a_s (y 0) 120 v_s 1, xE a_s (y 0) 120 v_s 2, (a_made, .inl (y 1, 120, .inr (.inl q4))), (a_om, .inl (y 0, lp_o, .inl v_om))]) (w1 := [(a_x, .inr (5, [.ref a_known, .ref a_so, .ref a_made, .ref a_pcl, .ref a_hi, .ref a_tx, .ref a_rd, .ref a_tb, .ref a_o])), (a_o, .inr (1, [.int f_o_n, .int f_o_many, .int f_o_sets, .ref a_od, .ref a_op, .ref a_oi, .ref a_ov, .ref a_of, .ref a_ol, .ref a_om, .ref a_ow]))]) (wf := [(a_x, .inr (5, [.ref a_known, .ref a_so, .ref a_made, .ref a_pcl, .ref a_hi, .ref a_tx, .ref a_rd, .ref a_tb, .ref a_o])), (a_so, .inl (y 4, 3, .inr (.inr (.inr (.inr (xO a_s 3)))))), xE a_s (y 0) 120 v_s 0, xE a_s (y 0) 120 v_s 1, xE a_s (y 0) 120 v_s 2, (a_made, .inl (y 1, 120, .inr (.inl q4))), (a_o, .inr (1, [.int f_o_n, .int f_o_many, .int f_o_sets, .ref a_od, .ref a_op, .ref a_oi, .ref a_ov, .ref a_of, .ref a_ol, .ref a_om, .ref a_ow])), (a_om, .inl (y 0, lp_o, .inl v_om))]) (va_runV (As := [.int q5]) (rest := []) ⟨hx, hb, hml, hown, hts⟩ (c_X5_isOrder l D y a_x a_known a_so a_made a_pcl a_hi a_tx a_rd a_tb a_o a_od a_op a_oi a_ov a_of a_ol a_om a_ow f_o_n f_o_many f_o_sets q5 H.size e6) (cwV 1 hts gX5_square_X5_isOrder rfl rfl rfl (by decide +kernel) ⟨Nat.le_of_ble_eq_true rfl, Nat.le_of_ble_eq_true rfl⟩) ⟨xblind, va_recv hK hP (ci := 5) (q0 := 0) rfl rfl, xprev hPc hK hDc⟩ rfl rfl hl.1 rfl (lv_room (Nat.le_of_ble_eq_true rfl)) dX5_square_33 ⟨Nat.le_of_ble_eq_true rfl, Nat.le_of_ble_eq_true rfl⟩) hP hD hS hA [0, 6] [1, 2, 3, 4, 5, 7] [6, 0, 1, 2, 3, 4, 7, 5] rfl rfl (by decide) (by decide) rfl (by decide) (fun H locs hP hD hS => ?_)
    refine lv_if_eq (tgt := 45) hx hb dX5_square_36 (by decide) (fun c7 => ?_) (fun c7 => ?_)
    · have hB := xip c7 hB
      refine lv_ldc (v := -10000004) hx hb hown (hts _ kX5_square_c154) dX5_square_45 ?_
      have hB := Option.some.inj hB
      subst hB
      exact W.iret hx hb hr (fun t ht hW => ⟨⟨_, (), rfl, rfl, by rw [ht]; exact hP, va_K.moved hW.alike hK, hD⟩, hS.F ht⟩) hS.2.2 dX5_square_47 hlocks
    · have hB := xin c7 hB
      refine lv_aload_n hx hb dX5_square_39 rfl (lv_at hl 1 rfl) ?_
      refine lv_iload_n hx hb dX5_square_40 rfl (lv_at hl 0 rfl) ?_
      obtain ⟨g8, hB⟩ := xg_some hB
      refine va_iald hx hb hK hP (2 + p1.toNatClampNeg) 0 (xg3 (xE a_s (y 0) 120 v_s) rfl rfl rfl (xlt g3)) rfl g8 dX5_square_41 ?_
      refine lv_if_ne (tgt := 48) hx hb dX5_square_42 (by decide) (fun c9 => ?_) (fun c9 => ?_)
      · have hB := xin c9 hB
        refine lv_aload_n hx hb dX5_square_48 rfl (lv_at hl 2 rfl) ?_
        refine va_get (D := D) (ci := 5) (v := .ref a_made) (C := RX5) (T := TX5) (N := 9) hx hb hts kX5_square_wX5 hown hK hP 0 rfl rfl 2 (by decide) (hts _ kX5_square_f20) (fun _ h9 => h9) rfl dX5_square_49 ?_
        refine lv_iload_n hx hb dX5_square_52 rfl (lv_at hl 0 rfl) ?_
        refine va_lald hx hb hK hP 5 1 rfl rfl g8 dX5_square_53 ?_
        refine lv_aload_n hx hb dX5_square_54 rfl (lv_at hl 1 rfl) ?_
        refine lv_iload_n hx hb dX5_square_55 rfl (lv_at hl 0 rfl) ?_
        refine va_iald hx hb hK hP (2 + p1.toNatClampNeg) 0 (xg3 (xE a_s (y 0) 120 v_s) rfl rfl rfl (xlt g3)) rfl g8 dX5_square_56 ?_
        refine lv_i2l hx hb dX5_square_57 rfl ?_
        obtain ⟨g10, hB⟩ := xdL_some hB
        refine lv_ldiv hx hb dX5_square_58 g10 ?_
        refine lv_lstore (lv' := [(4, .long ((q4 q5.toNatClampNeg) / ((v_s p1.toNatClampNeg q5.toNatClampNeg).toInt64))), (3, .int q5), (2, .ref (a_s p1.toNatClampNeg)), (0, .ref a_x), (1, .int p1)]) hx hb dX5_square_59 hl (by decide) rfl (fun ls hl => ?_)
        refine lv_iconst (v := 0) hx hb dX5_square_61 (by decide) ?_
        refine lv_istore (lv' := [(6, .int (0 : Int32)), (4, .long ((q4 q5.toNatClampNeg) / ((v_s p1.toNatClampNeg q5.toNatClampNeg).toInt64))), (3, .int q5), (2, .ref (a_s p1.toNatClampNeg)), (0, .ref a_x), (1, .int p1)]) hx hb dX5_square_62 hl (by decide) rfl (fun ls hl => ?_)
        exact B_X5_square_64 (p1 := p1) C0 xF ((q4 q5.toNatClampNeg) / ((v_s p1.toNatClampNeg q5.toNatClampNeg).toInt64)) (0 : Int32) q4 H locs ls hP hD hS (lv_sub hl [4, 3, 1, 0] rfl) hB
      · have hB := xip c9 hB
        refine lv_ldc (v := -10000004) hx hb hown (hts _ kX5_square_c154) dX5_square_45 ?_
        have hB := Option.some.inj hB
        subst hB
        exact W.iret hx hb hr (fun t ht hW => ⟨⟨_, (), rfl, rfl, by rw [ht]; exact hP, va_K.moved hW.alike hK, hD⟩, hS.F ht⟩) hS.2.2 dX5_square_47 hlocks
  · have hB := xip c2 hB
    refine lv_ldc (v := -10000001) hx hb hown (hts _ kX5_square_c67) dX5_square_7 ?_
    have hB := Option.some.inj hB
    subst hB
    exact W.iret hx hb hr (fun t ht hW => ⟨⟨_, (), rfl, rfl, by rw [ht]; exact hP, va_K.moved hW.alike hK, hD⟩, hS.F ht⟩) hS.2.2 dX5_square_9 hlocks
set_option maxHeartbeats 4000000 in
set_option maxRecDepth 100000 in
theorem c_X5_square (l : Launch) (D : va_G) (y : Nat → ClassId) (a_x : Nat) (a_known : Nat) (a_so : Nat) (a_made : Nat) (a_pcl : Nat) (a_hi : Nat) (a_tx : Nat) (a_rd : Nat) (a_tb : Nat) (a_o : Nat) (a_s : Nat → Nat) (a_od : Nat) (a_op : Nat) (a_oi : Nat) (a_ov : Nat) (a_of : Nat) (a_ol : Nat) (a_om : Nat) (a_ow : Nat) (lp_o : Nat) (v_s : Nat → Nat → Int32) (v_made : Nat → Int64) (f_o_n : Int32) (f_o_many : Int32) (f_o_sets : Int32) (v_om : Nat → Int32) (p1 : Int32) (sz : Nat) {R : Int32 × (Nat → Int64)} (hF : F_X5_square lp_o v_s f_o_many v_om p1 v_made = some R) : Met l yX5_square wsX5_square ({ frames := 3, cells := 0, slots := 0, locals := 67 } : Room) (xPre D y sz [.ref a_x, .int p1] [(a_x, .inr (5, [.ref a_known, .ref a_so, .ref a_made, .ref a_pcl, .ref a_hi, .ref a_tx, .ref a_rd, .ref a_tb, .ref a_o])), (a_so, .inl (y 4, 3, .inr (.inr (.inr (.inr (xO a_s 3)))))), xE a_s (y 0) 120 v_s 0, xE a_s (y 0) 120 v_s 1, xE a_s (y 0) 120 v_s 2, (a_made, .inl (y 1, 120, .inr (.inl v_made))), (a_o, .inr (1, [.int f_o_n, .int f_o_many, .int f_o_sets, .ref a_od, .ref a_op, .ref a_oi, .ref a_ov, .ref a_of, .ref a_ol, .ref a_om, .ref a_ow])), (a_om, .inl (y 0, lp_o, .inl v_om))]) (va_Qi (fun (r : Int32) (_ : Unit) => r = R.1) (xB D y (va_A [(a_x, .inr (5, [.ref a_known, .ref a_so, .ref a_made, .ref a_pcl, .ref a_hi, .ref a_tx, .ref a_rd, .ref a_tb, .ref a_o])), (a_so, .inl (y 4, 3, .inr (.inr (.inr (.inr (xO a_s 3)))))), xE a_s (y 0) 120 v_s 0, xE a_s (y 0) 120 v_s 1, xE a_s (y 0) 120 v_s 2, (a_made, .inl (y 1, 120, .inr (.inl v_made))), (a_o, .inr (1, [.int f_o_n, .int f_o_many, .int f_o_sets, .ref a_od, .ref a_op, .ref a_oi, .ref a_ov, .ref a_of, .ref a_ol, .ref a_om, .ref a_ow])), (a_om, .inl (y 0, lp_o, .inl v_om))] sz) [(a_x, .inr (5, [.ref a_known, .ref a_so, .ref a_made, .ref a_pcl, .ref a_hi, .ref a_tx, .ref a_rd, .ref a_tb, .ref a_o])), (a_so, .inl (y 4, 3, .inr (.inr (.inr (.inr (xO a_s 3)))))), xE a_s (y 0) 120 v_s 0, xE a_s (y 0) 120 v_s 1, xE a_s (y 0) 120 v_s 2, (a_made, .inl (y 1, 120, .inr (.inl R.2))), (a_o, .inr (1, [.int f_o_n, .int f_o_many, .int f_o_sets, .ref a_od, .ref a_op, .ref a_oi, .ref a_ov, .ref a_of, .ref a_ol, .ref a_om, .ref a_ow])), (a_om, .inl (y 0, lp_o, .inl v_om))]) (va_A [(a_x, .inr (5, [.ref a_known, .ref a_so, .ref a_made, .ref a_pcl, .ref a_hi, .ref a_tx, .ref a_rd, .ref a_tb, .ref a_o])), (a_so, .inl (y 4, 3, .inr (.inr (.inr (.inr (xO a_s 3)))))), xE a_s (y 0) 120 v_s 0, xE a_s (y 0) 120 v_s 1, xE a_s (y 0) 120 v_s 2, (a_made, .inl (y 1, 120, .inr (.inl v_made))), (a_o, .inr (1, [.int f_o_n, .int f_o_many, .int f_o_sets, .ref a_od, .ref a_op, .ref a_oi, .ref a_ov, .ref a_of, .ref a_ol, .ref a_om, .ref a_ow])), (a_om, .inl (y 0, lp_o, .inl v_om))] sz)) 0 0 (va_A [(a_x, .inr (5, [.ref a_known, .ref a_so, .ref a_made, .ref a_pcl, .ref a_hi, .ref a_tx, .ref a_rd, .ref a_tb, .ref a_o])), (a_so, .inl (y 4, 3, .inr (.inr (.inr (.inr (xO a_s 3)))))), xE a_s (y 0) 120 v_s 0, xE a_s (y 0) 120 v_s 1, xE a_s (y 0) 120 v_s 2, (a_made, .inl (y 1, 120, .inr (.inl v_made))), (a_o, .inr (1, [.int f_o_n, .int f_o_many, .int f_o_sets, .ref a_od, .ref a_op, .ref a_oi, .ref a_ov, .ref a_of, .ref a_ol, .ref a_om, .ref a_ow])), (a_om, .inl (y 0, lp_o, .inl v_om))] sz) := by
  refine Met.ofW (cc := cX5_square) (maxL := 7) (ret := (some .int)) (by decide) rfl ?_
  intro p e s m args below meth c s₁ B hml hv
  obtain ⟨rfl, hsz, hP, hK, hD0⟩ := hv
  subst hsz
  have hD := hD0.self (sz := s.heap.size)
  have C : xC p s m [.ref a_x, .int p1].toArray meth c (va_A [(a_x, .inr (5, [.ref a_known, .ref a_so, .ref a_made, .ref a_pcl, .ref a_hi, .ref a_tx, .ref a_rd, .ref a_tb, .ref a_o])), (a_so, .inl (y 4, 3, .inr (.inr (.inr (.inr (xO a_s 3)))))), xE a_s (y 0) 120 v_s 0, xE a_s (y 0) 120 v_s 1, xE a_s (y 0) 120 v_s 2, (a_made, .inl (y 1, 120, .inr (.inl v_made))), (a_o, .inr (1, [.int f_o_n, .int f_o_many, .int f_o_sets, .ref a_od, .ref a_op, .ref a_oi, .ref a_ov, .ref a_of, .ref a_ol, .ref a_om, .ref a_ow])), (a_om, .inl (y 0, lp_o, .inl v_om))] s.heap.size) cX5_square RX5 wsX5_square 7 (some .int) D y := ⟨B.exec, B.bytes, hml, findClass_of_methodNamed B.named, atoms_spec (ws := wsX5_square) B.pre, B.returns, B.notSynchronized, hK, fun q h => Or.inr h⟩
  have hl := lv_entry ([.ref a_x, .int p1]) (n := 7) (Nat.le_of_ble_eq_true rfl)
  rw [lg_entry_eq]
  generalize (lg_sl ([.ref a_x, .int p1]) ++ List.replicate (7 - (lg_sl ([.ref a_x, .int p1])).length) Slot.unset).toArray = ls at hl ⊢
  have hl : lv_has ls 7 [(0, .ref a_x), (1, .int p1)] := hl
  exact B_X5_square_0 (p1 := p1) C v_made s.heap [] ls hP hD va_S.rf hl hF
theorem kX5_timesInProduct_f59 : Cond.fieldLink RX5 59 "DescentShuffles" "orders" "LDescentShuffles$Orders;" ∈ wsX5_timesInProduct := by decide +kernel
theorem kX5_timesInProduct_wX5 : ∀ w ∈ u_ws RX5 TX5 9, w ∈ wsX5_timesInProduct := by decide +kernel
theorem kX5_timesInProduct_f76 : Cond.fieldLink RX5 76 "DescentShuffles$Orders" "many" "I" ∈ wsX5_timesInProduct := by decide +kernel
theorem kX5_timesInProduct_wX1 : ∀ w ∈ u_ws RX1 TX1 11, w ∈ wsX5_timesInProduct := by decide +kernel
theorem kX5_timesInProduct_f142 : Cond.fieldLink RX5 142 "DescentShuffles$Orders" "inverses" "[I" ∈ wsX5_timesInProduct := by decide +kernel
def S_X5_timesInProduct_6 (p : Program) (l : Launch) (e : Env) (s : State) (m : MethodId) (args : Array Value) (below : List Frame) (meth : Method) (c : Code) (A : Nat → Prop) (D : va_G) (y : Nat → ClassId) (a_x : Nat) (a_known : Nat) (a_so : Nat) (a_made : Nat) (a_pcl : Nat) (a_hi : Nat) (a_tx : Nat) (a_rd : Nat) (a_tb : Nat) (a_o : Nat) (a_od : Nat) (a_op : Nat) (a_oi : Nat) (a_ov : Nat) (a_of : Nat) (a_ol : Nat) (a_om : Nat) (a_ow : Nat) (lm_o : Nat) (lp_o : Nat) (f_o_n : Int32) (f_o_many : Int32) (f_o_sets : Int32) (v_od : Nat → Int32) (v_ov : Nat → Int32) (v_om : Nat → Int32) (p1 : Int32) (p2 : Int32) (p3 : Int32) (R : Int32) (κ : Int32 → Int32 → Option (Int32)) : Prop := ∀ (x4 : Int32) (x5 : Int32) (H : Heap) (locs : List Loc) (ls : Array Slot), va_P D vwCl [(a_x, .inr (5, [.ref a_known, .ref a_so, .ref a_made, .ref a_pcl, .ref a_hi, .ref a_tx, .ref a_rd, .ref a_tb, .ref a_o])), (a_o, .inr (1, [.int f_o_n, .int f_o_many, .int f_o_sets, .ref a_od, .ref a_op, .ref a_oi, .ref a_ov, .ref a_of, .ref a_ol, .ref a_om, .ref a_ow])), (a_od, .inl (y 0, lm_o, .inl v_od)), (a_ov, .inl (y 0, lm_o, .inl v_ov)), (a_om, .inl (y 0, lp_o, .inl v_om))] H → va_D A [(a_x, .inr (5, [.ref a_known, .ref a_so, .ref a_made, .ref a_pcl, .ref a_hi, .ref a_tx, .ref a_rd, .ref a_tb, .ref a_o])), (a_o, .inr (1, [.int f_o_n, .int f_o_many, .int f_o_sets, .ref a_od, .ref a_op, .ref a_oi, .ref a_ov, .ref a_of, .ref a_ol, .ref a_om, .ref a_ow])), (a_od, .inl (y 0, lm_o, .inl v_od)), (a_ov, .inl (y 0, lm_o, .inl v_ov)), (a_om, .inl (y 0, lp_o, .inl v_om))] → va_S A s.heap H locs → lv_has ls 6 [(0, .ref a_x), (1, .int p1), (2, .int p2), (3, .int p3), (4, .int x4), (5, .int x5)] → κ x4 x5 = some R → W p l e ({ frames := 1, cells := 0, slots := 0, locals := 22 } : Room) s m args below meth c H locs 0 0 (MQ below (va_Qi (fun (r : Int32) (_ : Unit) => r = R) (xB D y A [(a_x, .inr (5, [.ref a_known, .ref a_so, .ref a_made, .ref a_pcl, .ref a_hi, .ref a_tx, .ref a_rd, .ref a_tb, .ref a_o])), (a_o, .inr (1, [.int f_o_n, .int f_o_many, .int f_o_sets, .ref a_od, .ref a_op, .ref a_oi, .ref a_ov, .ref a_of, .ref a_ol, .ref a_om, .ref a_ow])), (a_od, .inl (y 0, lm_o, .inl v_od)), (a_ov, .inl (y 0, lm_o, .inl v_ov)), (a_om, .inl (y 0, lp_o, .inl v_om))]) A) args s 0 0 A) (F0 m 6 ls [])
def S_X5_timesInProduct_0 (p : Program) (l : Launch) (e : Env) (s : State) (m : MethodId) (args : Array Value) (below : List Frame) (meth : Method) (c : Code) (A : Nat → Prop) (D : va_G) (y : Nat → ClassId) (a_x : Nat) (a_known : Nat) (a_so : Nat) (a_made : Nat) (a_pcl : Nat) (a_hi : Nat) (a_tx : Nat) (a_rd : Nat) (a_tb : Nat) (a_o : Nat) (a_od : Nat) (a_op : Nat) (a_oi : Nat) (a_ov : Nat) (a_of : Nat) (a_ol : Nat) (a_om : Nat) (a_ow : Nat) (lm_o : Nat) (lp_o : Nat) (f_o_n : Int32) (f_o_many : Int32) (f_o_sets : Int32) (v_od : Nat → Int32) (v_ov : Nat → Int32) (v_om : Nat → Int32) (p1 : Int32) (p2 : Int32) (p3 : Int32) (R : Int32) (κ : Option (Int32)) : Prop := ∀ (H : Heap) (locs : List Loc) (ls : Array Slot), va_P D vwCl [(a_x, .inr (5, [.ref a_known, .ref a_so, .ref a_made, .ref a_pcl, .ref a_hi, .ref a_tx, .ref a_rd, .ref a_tb, .ref a_o])), (a_o, .inr (1, [.int f_o_n, .int f_o_many, .int f_o_sets, .ref a_od, .ref a_op, .ref a_oi, .ref a_ov, .ref a_of, .ref a_ol, .ref a_om, .ref a_ow])), (a_od, .inl (y 0, lm_o, .inl v_od)), (a_ov, .inl (y 0, lm_o, .inl v_ov)), (a_om, .inl (y 0, lp_o, .inl v_om))] H → va_D A [(a_x, .inr (5, [.ref a_known, .ref a_so, .ref a_made, .ref a_pcl, .ref a_hi, .ref a_tx, .ref a_rd, .ref a_tb, .ref a_o])), (a_o, .inr (1, [.int f_o_n, .int f_o_many, .int f_o_sets, .ref a_od, .ref a_op, .ref a_oi, .ref a_ov, .ref a_of, .ref a_ol, .ref a_om, .ref a_ow])), (a_od, .inl (y 0, lm_o, .inl v_od)), (a_ov, .inl (y 0, lm_o, .inl v_ov)), (a_om, .inl (y 0, lp_o, .inl v_om))] → va_S A s.heap H locs → lv_has ls 6 [(0, .ref a_x), (1, .int p1), (2, .int p2), (3, .int p3)] → κ = some R → W p l e ({ frames := 1, cells := 0, slots := 0, locals := 22 } : Room) s m args below meth c H locs 0 0 (MQ below (va_Qi (fun (r : Int32) (_ : Unit) => r = R) (xB D y A [(a_x, .inr (5, [.ref a_known, .ref a_so, .ref a_made, .ref a_pcl, .ref a_hi, .ref a_tx, .ref a_rd, .ref a_tb, .ref a_o])), (a_o, .inr (1, [.int f_o_n, .int f_o_many, .int f_o_sets, .ref a_od, .ref a_op, .ref a_oi, .ref a_ov, .ref a_of, .ref a_ol, .ref a_om, .ref a_ow])), (a_od, .inl (y 0, lm_o, .inl v_od)), (a_ov, .inl (y 0, lm_o, .inl v_ov)), (a_om, .inl (y 0, lp_o, .inl v_om))]) A) args s 0 0 A) (F0 m 0 ls [])
set_option maxHeartbeats 4000000 in
set_option maxRecDepth 100000 in
theorem B_X5_timesInProduct_6 {p : Program} {l : Launch} {e : Env} {s : State} {m : MethodId} {args : Array Value} {below : List Frame} {meth : Method} {c : Code} {A : Nat → Prop} {D : va_G} {y : Nat → ClassId} {a_x : Nat} {a_known : Nat} {a_so : Nat} {a_made : Nat} {a_pcl : Nat} {a_hi : Nat} {a_tx : Nat} {a_rd : Nat} {a_tb : Nat} {a_o : Nat} {a_od : Nat} {a_op : Nat} {a_oi : Nat} {a_ov : Nat} {a_of : Nat} {a_ol : Nat} {a_om : Nat} {a_ow : Nat} {lm_o : Nat} {lp_o : Nat} {f_o_n : Int32} {f_o_many : Int32} {f_o_sets : Int32} {v_od : Nat → Int32} {v_ov : Nat → Int32} {v_om : Nat → Int32} {p1 : Int32} {p2 : Int32} {p3 : Int32} {R : Int32} (C : xC p s m args meth c A cX5_timesInProduct RX5 wsX5_timesInProduct 6 (some .int) D y)  : ∀ f : Nat, S_X5_timesInProduct_6 p l e s m args below meth c A D y a_x a_known a_so a_made a_pcl a_hi a_tx a_rd a_tb a_o a_od a_op a_oi a_ov a_of a_ol a_om a_ow lm_o lp_o f_o_n f_o_many f_o_sets v_od v_ov v_om p1 p2 p3 R (F_X5_timesInProduct_6 lm_o lp_o f_o_many v_od v_ov v_om p1 p2 p3  f) := by
  have C0 := C
  obtain ⟨hx, hb, hml, hown, hts, hr, hlocks, hK, hA⟩ := C
  intro f
  induction f with
  | zero =>
    intro x4 x5 H locs ls hP hD hS hl hB
    rw [Z_X5_timesInProduct_6] at hB
    cases hB
  | succ f ih =>
    intro x4 x5 H locs ls hP hD hS hl hB
    rw [E_X5_timesInProduct_6] at hB
    refine lv_iload hx hb dX5_timesInProduct_6 (lv_at hl 5 rfl) ?_
    refine lv_aload_n hx hb dX5_timesInProduct_8 rfl (lv_at hl 0 rfl) ?_
    refine va_get (D := D) (ci := 5) (v := .ref a_o) (C := RX5) (T := TX5) (N := 9) hx hb hts kX5_timesInProduct_wX5 hown hK hP 0 rfl rfl 8 (by decide) (hts _ kX5_timesInProduct_f59) (fun _ h9 => h9) rfl dX5_timesInProduct_9 ?_
    refine va_get (D := D) (ci := 1) (v := .int f_o_many) (C := RX1) (T := TX1) (N := 11) hx hb hts kX5_timesInProduct_wX1 hown hK hP 1 rfl rfl 1 (by decide) (hts _ kX5_timesInProduct_f76) (fun _ h9 => h9) rfl dX5_timesInProduct_12 ?_
    refine lv_icmp_ge (tgt := 69) hx hb dX5_timesInProduct_15 (by decide) (fun c1 => ?_) (fun c1 => ?_)
    · have hB := xip c1 hB
      refine lv_iload hx hb dX5_timesInProduct_69 (lv_at hl 4 rfl) ?_
      have hB := Option.some.inj hB
      subst hB
      exact W.iret hx hb hr (fun t ht hW => ⟨⟨_, (), rfl, rfl, by rw [ht]; exact hP, va_K.moved hW.alike hK, hD⟩, hS.F ht⟩) hS.2.2 dX5_timesInProduct_71 hlocks
    · have hB := xin c1 hB
      refine lv_aload_n hx hb dX5_timesInProduct_18 rfl (lv_at hl 0 rfl) ?_
      refine va_get (D := D) (ci := 5) (v := .ref a_o) (C := RX5) (T := TX5) (N := 9) hx hb hts kX5_timesInProduct_wX5 hown hK hP 0 rfl rfl 8 (by decide) (hts _ kX5_timesInProduct_f59) (fun _ h9 => h9) rfl dX5_timesInProduct_19 ?_
      refine lv_iload hx hb dX5_timesInProduct_22 (lv_at hl 5 rfl) ?_
      refine lv_iload_n hx hb dX5_timesInProduct_24 rfl (lv_at hl 2 rfl) ?_
      obtain ⟨q2, e2, hB⟩ := xbd hB
      have hPc := hP.sub (ws' := [(a_o, .inr (1, [.int f_o_n, .int f_o_many, .int f_o_sets, .ref a_od, .ref a_op, .ref a_oi, .ref a_ov, .ref a_of, .ref a_ol, .ref a_om, .ref a_ow])), (a_od, .inl (y 0, lm_o, .inl v_od))]) [1, 2] rfl
      have hDc := hD.sub (ws' := [(a_o, .inr (1, [.int f_o_n, .int f_o_many, .int f_o_sets, .ref a_od, .ref a_op, .ref a_oi, .ref a_ov, .ref a_of, .ref a_ol, .ref a_om, .ref a_ow])), (a_od, .inl (y 0, lm_o, .inl v_od))]) [1, 2] (by decide) rfl
      refine xcalli (mc := 0) (ms := 0) (rv := q2) (wc := [(a_o, .inr (1, [.int f_o_n, .int f_o_many, .int f_o_sets, .ref a_od, .ref a_op, .ref a_oi, .ref a_ov, .ref a_of, .ref a_ol, .ref a_om, .ref a_ow])), (a_od, .inl (y 0, lm_o, .inl v_od))]) (wr := [(a_x, .inr (5, [.ref a_known, .ref a_so, .ref a_made, .ref a_pcl, .ref a_hi, .ref a_tx, .ref a_rd, .ref a_tb, .ref a_o])), (a_ov, .inl (y 0, lm_o, .inl v_ov)), (a_om, .inl (y 0, lp_o, .inl v_om))]) (w1 := [(a_o, .inr (1, [.int f_o_n, .int f_o_many, .int f_o_sets, .ref a_od, .ref a_op, .ref a_oi, .ref a_ov, .ref a_of, .ref a_ol, .ref a_om, .ref a_ow])), (a_od, .inl (y 0, lm_o, .inl v_od))]) (wf := [(a_x, .inr (5, [.ref a_known, .ref a_so, .ref a_made, .ref a_pcl, .ref a_hi, .ref a_tx, .ref a_rd, .ref a_tb, .ref a_o])), (a_o, .inr (1, [.int f_o_n, .int f_o_many, .int f_o_sets, .ref a_od, .ref a_op, .ref a_oi, .ref a_ov, .ref a_of, .ref a_ol, .ref a_om, .ref a_ow])), (a_od, .inl (y 0, lm_o, .inl v_od)), (a_ov, .inl (y 0, lm_o, .inl v_ov)), (a_om, .inl (y 0, lp_o, .inl v_om))]) (va_runV (As := [.int x5, .int p2]) (rest := []) ⟨hx, hb, hml, hown, hts⟩ (c_X1_isInWideClass l D y a_o a_od a_op a_oi a_ov a_of a_ol a_om a_ow lm_o f_o_n f_o_many f_o_sets v_od x5 p2 H.size e2) (cwV 2 hts gX5_timesInProduct_X1_isInWideClass rfl rfl rfl (by decide +kernel) ⟨Nat.le_of_ble_eq_true rfl, Nat.le_of_ble_eq_true rfl⟩) ⟨xblind, va_recv hK hP (ci := 1) (q0 := 1) rfl rfl, xprev hPc hK hDc⟩ rfl rfl hl.1 rfl (lv_room (Nat.le_of_ble_eq_true rfl)) dX5_timesInProduct_25 ⟨Nat.le_of_ble_eq_true rfl, Nat.le_of_ble_eq_true rfl⟩) hP hD hS hA [1, 2] [0, 3, 4] [0, 3, 4, 1, 2] rfl rfl (by decide) (by decide) rfl (by decide) (fun H locs hP hD hS => ?_)
      refine lv_if_eq (tgt := 63) hx hb dX5_timesInProduct_28 (by decide) (fun c3 => ?_) (fun c3 => ?_)
      · have hB := xip c3 hB
        refine lv_iinc (v := x5 + 1) (lv' := [(5, .int (x5 + 1)), (0, .ref a_x), (1, .int p1), (2, .int p2), (3, .int p3), (4, .int x4)]) hx hb dX5_timesInProduct_63 hl (k := 5) rfl rfl (by decide) rfl (fun ls hl => ?_)
        refine lv_goto (tgt := 6) hx hb dX5_timesInProduct_66 (by decide) ?_
        exact ih x4 (x5 + 1) H locs ls hP hD hS (lv_sub hl [1, 2, 3, 4, 5, 0] rfl) hB
      · have hB := xin c3 hB
        refine lv_aload_n hx hb dX5_timesInProduct_31 rfl (lv_at hl 0 rfl) ?_
        refine va_get (D := D) (ci := 5) (v := .ref a_o) (C := RX5) (T := TX5) (N := 9) hx hb hts kX5_timesInProduct_wX5 hown hK hP 0 rfl rfl 8 (by decide) (hts _ kX5_timesInProduct_f59) (fun _ h9 => h9) rfl dX5_timesInProduct_32 ?_
        refine lv_aload_n hx hb dX5_timesInProduct_35 rfl (lv_at hl 0 rfl) ?_
        refine va_get (D := D) (ci := 5) (v := .ref a_o) (C := RX5) (T := TX5) (N := 9) hx hb hts kX5_timesInProduct_wX5 hown hK hP 0 rfl rfl 8 (by decide) (hts _ kX5_timesInProduct_f59) (fun _ h9 => h9) rfl dX5_timesInProduct_36 ?_
        refine lv_iload_n hx hb dX5_timesInProduct_39 rfl (lv_at hl 3 rfl) ?_
        refine lv_aload_n hx hb dX5_timesInProduct_40 rfl (lv_at hl 0 rfl) ?_
        refine va_get (D := D) (ci := 5) (v := .ref a_o) (C := RX5) (T := TX5) (N := 9) hx hb hts kX5_timesInProduct_wX5 hown hK hP 0 rfl rfl 8 (by decide) (hts _ kX5_timesInProduct_f59) (fun _ h9 => h9) rfl dX5_timesInProduct_41 ?_
        refine va_get (D := D) (ci := 1) (v := .ref a_ov) (C := RX1) (T := TX1) (N := 11) hx hb hts kX5_timesInProduct_wX1 hown hK hP 1 rfl rfl 6 (by decide) (hts _ kX5_timesInProduct_f142) (fun _ h9 => h9) rfl dX5_timesInProduct_44 ?_
        refine lv_iload hx hb dX5_timesInProduct_47 (lv_at hl 5 rfl) ?_
        obtain ⟨g4, hB⟩ := xg_some hB
        refine va_iald hx hb hK hP 3 0 rfl rfl g4 dX5_timesInProduct_49 ?_
        obtain ⟨q5, e5, hB⟩ := xbd hB
        have hPc := hP.sub (ws' := [(a_o, .inr (1, [.int f_o_n, .int f_o_many, .int f_o_sets, .ref a_od, .ref a_op, .ref a_oi, .ref a_ov, .ref a_of, .ref a_ol, .ref a_om, .ref a_ow])), (a_om, .inl (y 0, lp_o, .inl v_om))]) [1, 4] rfl
        have hDc := hD.sub (ws' := [(a_o, .inr (1, [.int f_o_n, .int f_o_many, .int f_o_sets, .ref a_od, .ref a_op, .ref a_oi, .ref a_ov, .ref a_of, .ref a_ol, .ref a_om, .ref a_ow])), (a_om, .inl (y 0, lp_o, .inl v_om))]) [1, 4] (by decide) rfl
        refine xcalli (mc := 0) (ms := 0) (rv := q5) (wc := [(a_o, .inr (1, [.int f_o_n, .int f_o_many, .int f_o_sets, .ref a_od, .ref a_op, .ref a_oi, .ref a_ov, .ref a_of, .ref a_ol, .ref a_om, .ref a_ow])), (a_om, .inl (y 0, lp_o, .inl v_om))]) (wr := [(a_x, .inr (5, [.ref a_known, .ref a_so, .ref a_made, .ref a_pcl, .ref a_hi, .ref a_tx, .ref a_rd, .ref a_tb, .ref a_o])), (a_od, .inl (y 0, lm_o, .inl v_od)), (a_ov, .inl (y 0, lm_o, .inl v_ov))]) (w1 := [(a_o, .inr (1, [.int f_o_n, .int f_o_many, .int f_o_sets, .ref a_od, .ref a_op, .ref a_oi, .ref a_ov, .ref a_of, .ref a_ol, .ref a_om, .ref a_ow])), (a_om, .inl (y 0, lp_o, .inl v_om))]) (wf := [(a_x, .inr (5, [.ref a_known, .ref a_so, .ref a_made, .ref a_pcl, .ref a_hi, .ref a_tx, .ref a_rd, .ref a_tb, .ref a_o])), (a_o, .inr (1, [.int f_o_n, .int f_o_many, .int f_o_sets, .ref a_od, .ref a_op, .ref a_oi, .ref a_ov, .ref a_of, .ref a_ol, .ref a_om, .ref a_ow])), (a_od, .inl (y 0, lm_o, .inl v_od)), (a_ov, .inl (y 0, lm_o, .inl v_ov)), (a_om, .inl (y 0, lp_o, .inl v_om))]) (va_runV (As := [.int p3, .int (v_ov x5.toNatClampNeg)]) (rest := [.ref a_o]) ⟨hx, hb, hml, hown, hts⟩ (c_X1_times l D y a_o a_od a_op a_oi a_ov a_of a_ol a_om a_ow lp_o f_o_n f_o_many f_o_sets v_om p3 (v_ov x5.toNatClampNeg) H.size e5) (cwV 2 hts gX5_timesInProduct_X1_times rfl rfl rfl (by decide +kernel) ⟨Nat.le_of_ble_eq_true rfl, Nat.le_of_ble_eq_true rfl⟩) ⟨xblind, va_recv hK hP (ci := 1) (q0 := 1) rfl rfl, xprev hPc hK hDc⟩ rfl rfl hl.1 rfl (lv_room (Nat.le_of_ble_eq_true rfl)) dX5_timesInProduct_50 ⟨Nat.le_of_ble_eq_true rfl, Nat.le_of_ble_eq_true rfl⟩) hP hD hS hA [1, 4] [0, 2, 3] [0, 3, 1, 2, 4] rfl rfl (by decide) (by decide) rfl (by decide) (fun H locs hP hD hS => ?_)
        refine lv_iload_n hx hb dX5_timesInProduct_53 rfl (lv_at hl 1 rfl) ?_
        obtain ⟨q6, e6, hB⟩ := xbd hB
        have hPc := hP.sub (ws' := [(a_o, .inr (1, [.int f_o_n, .int f_o_many, .int f_o_sets, .ref a_od, .ref a_op, .ref a_oi, .ref a_ov, .ref a_of, .ref a_ol, .ref a_om, .ref a_ow])), (a_od, .inl (y 0, lm_o, .inl v_od))]) [1, 2] rfl
        have hDc := hD.sub (ws' := [(a_o, .inr (1, [.int f_o_n, .int f_o_many, .int f_o_sets, .ref a_od, .ref a_op, .ref a_oi, .ref a_ov, .ref a_of, .ref a_ol, .ref a_om, .ref a_ow])), (a_od, .inl (y 0, lm_o, .inl v_od))]) [1, 2] (by decide) rfl
        refine xcalli (mc := 0) (ms := 0) (rv := q6) (wc := [(a_o, .inr (1, [.int f_o_n, .int f_o_many, .int f_o_sets, .ref a_od, .ref a_op, .ref a_oi, .ref a_ov, .ref a_of, .ref a_ol, .ref a_om, .ref a_ow])), (a_od, .inl (y 0, lm_o, .inl v_od))]) (wr := [(a_x, .inr (5, [.ref a_known, .ref a_so, .ref a_made, .ref a_pcl, .ref a_hi, .ref a_tx, .ref a_rd, .ref a_tb, .ref a_o])), (a_ov, .inl (y 0, lm_o, .inl v_ov)), (a_om, .inl (y 0, lp_o, .inl v_om))]) (w1 := [(a_o, .inr (1, [.int f_o_n, .int f_o_many, .int f_o_sets, .ref a_od, .ref a_op, .ref a_oi, .ref a_ov, .ref a_of, .ref a_ol, .ref a_om, .ref a_ow])), (a_od, .inl (y 0, lm_o, .inl v_od))]) (wf := [(a_x, .inr (5, [.ref a_known, .ref a_so, .ref a_made, .ref a_pcl, .ref a_hi, .ref a_tx, .ref a_rd, .ref a_tb, .ref a_o])), (a_o, .inr (1, [.int f_o_n, .int f_o_many, .int f_o_sets, .ref a_od, .ref a_op, .ref a_oi, .ref a_ov, .ref a_of, .ref a_ol, .ref a_om, .ref a_ow])), (a_od, .inl (y 0, lm_o, .inl v_od)), (a_ov, .inl (y 0, lm_o, .inl v_ov)), (a_om, .inl (y 0, lp_o, .inl v_om))]) (va_runV (As := [.int q5, .int p1]) (rest := []) ⟨hx, hb, hml, hown, hts⟩ (c_X1_isInWideClass l D y a_o a_od a_op a_oi a_ov a_of a_ol a_om a_ow lm_o f_o_n f_o_many f_o_sets v_od q5 p1 H.size e6) (cwV 2 hts gX5_timesInProduct_X1_isInWideClass rfl rfl rfl (by decide +kernel) ⟨Nat.le_of_ble_eq_true rfl, Nat.le_of_ble_eq_true rfl⟩) ⟨xblind, va_recv hK hP (ci := 1) (q0 := 1) rfl rfl, xprev hPc hK hDc⟩ rfl rfl hl.1 rfl (lv_room (Nat.le_of_ble_eq_true rfl)) dX5_timesInProduct_54 ⟨Nat.le_of_ble_eq_true rfl, Nat.le_of_ble_eq_true rfl⟩) hP hD hS hA [1, 2] [0, 3, 4] [0, 3, 4, 1, 2] rfl rfl (by decide) (by decide) rfl (by decide) (fun H locs hP hD hS => ?_)
        refine lv_if_eq (tgt := 63) hx hb dX5_timesInProduct_57 (by decide) (fun c7 => ?_) (fun c7 => ?_)
        · have hB := xip c7 hB
          refine lv_iinc (v := x5 + 1) (lv' := [(5, .int (x5 + 1)), (0, .ref a_x), (1, .int p1), (2, .int p2), (3, .int p3), (4, .int x4)]) hx hb dX5_timesInProduct_63 hl (k := 5) rfl rfl (by decide) rfl (fun ls hl => ?_)
          refine lv_goto (tgt := 6) hx hb dX5_timesInProduct_66 (by decide) ?_
          exact ih x4 (x5 + 1) H locs ls hP hD hS (lv_sub hl [1, 2, 3, 4, 5, 0] rfl) hB
        · have hB := xin c7 hB
          refine lv_iinc (v := x4 + 1) (lv' := [(4, .int (x4 + 1)), (0, .ref a_x), (1, .int p1), (2, .int p2), (3, .int p3), (5, .int x5)]) hx hb dX5_timesInProduct_60 hl (k := 4) rfl rfl (by decide) rfl (fun ls hl => ?_)
          refine lv_iinc (v := x5 + 1) (lv' := [(5, .int (x5 + 1)), (4, .int (x4 + 1)), (0, .ref a_x), (1, .int p1), (2, .int p2), (3, .int p3)]) hx hb dX5_timesInProduct_63 hl (k := 5) rfl rfl (by decide) rfl (fun ls hl => ?_)
          refine lv_goto (tgt := 6) hx hb dX5_timesInProduct_66 (by decide) ?_
          exact ih (x4 + 1) (x5 + 1) H locs ls hP hD hS (lv_sub hl [2, 3, 4, 5, 1, 0] rfl) hB
set_option maxHeartbeats 4000000 in
set_option maxRecDepth 100000 in
theorem B_X5_timesInProduct_0 {p : Program} {l : Launch} {e : Env} {s : State} {m : MethodId} {args : Array Value} {below : List Frame} {meth : Method} {c : Code} {A : Nat → Prop} {D : va_G} {y : Nat → ClassId} {a_x : Nat} {a_known : Nat} {a_so : Nat} {a_made : Nat} {a_pcl : Nat} {a_hi : Nat} {a_tx : Nat} {a_rd : Nat} {a_tb : Nat} {a_o : Nat} {a_od : Nat} {a_op : Nat} {a_oi : Nat} {a_ov : Nat} {a_of : Nat} {a_ol : Nat} {a_om : Nat} {a_ow : Nat} {lm_o : Nat} {lp_o : Nat} {f_o_n : Int32} {f_o_many : Int32} {f_o_sets : Int32} {v_od : Nat → Int32} {v_ov : Nat → Int32} {v_om : Nat → Int32} {p1 : Int32} {p2 : Int32} {p3 : Int32} {R : Int32} (C : xC p s m args meth c A cX5_timesInProduct RX5 wsX5_timesInProduct 6 (some .int) D y)  : S_X5_timesInProduct_0 p l e s m args below meth c A D y a_x a_known a_so a_made a_pcl a_hi a_tx a_rd a_tb a_o a_od a_op a_oi a_ov a_of a_ol a_om a_ow lm_o lp_o f_o_n f_o_many f_o_sets v_od v_ov v_om p1 p2 p3 R (F_X5_timesInProduct lm_o lp_o f_o_many v_od v_ov v_om p1 p2 p3 ) := by
  have C0 := C
  obtain ⟨hx, hb, hml, hown, hts, hr, hlocks, hK, hA⟩ := C
  intro H locs ls hP hD hS hl hB
  unfold F_X5_timesInProduct at hB
  refine lv_iconst (v := 0) hx hb dX5_timesInProduct_0 (by decide) ?_
  refine lv_istore (lv' := [(4, .int (0 : Int32)), (0, .ref a_x), (1, .int p1), (2, .int p2), (3, .int p3)]) hx hb dX5_timesInProduct_1 hl (by decide) rfl (fun ls hl => ?_)
  refine lv_iconst (v := 0) hx hb dX5_timesInProduct_3 (by decide) ?_
  refine lv_istore (lv' := [(5, .int (0 : Int32)), (4, .int (0 : Int32)), (0, .ref a_x), (1, .int p1), (2, .int p2), (3, .int p3)]) hx hb dX5_timesInProduct_4 hl (by decide) rfl (fun ls hl => ?_)
  exact B_X5_timesInProduct_6 (p1 := p1) (p2 := p2) (p3 := p3) C0 xF (0 : Int32) (0 : Int32) H locs ls hP hD hS (lv_sub hl [2, 3, 4, 5, 1, 0] rfl) hB
set_option maxHeartbeats 4000000 in
set_option maxRecDepth 100000 in
theorem c_X5_timesInProduct (l : Launch) (D : va_G) (y : Nat → ClassId) (a_x : Nat) (a_known : Nat) (a_so : Nat) (a_made : Nat) (a_pcl : Nat) (a_hi : Nat) (a_tx : Nat) (a_rd : Nat) (a_tb : Nat) (a_o : Nat) (a_od : Nat) (a_op : Nat) (a_oi : Nat) (a_ov : Nat) (a_of : Nat) (a_ol : Nat) (a_om : Nat) (a_ow : Nat) (lm_o : Nat) (lp_o : Nat) (f_o_n : Int32) (f_o_many : Int32) (f_o_sets : Int32) (v_od : Nat → Int32) (v_ov : Nat → Int32) (v_om : Nat → Int32) (p1 : Int32) (p2 : Int32) (p3 : Int32) (sz : Nat) {R : Int32} (hF : F_X5_timesInProduct lm_o lp_o f_o_many v_od v_ov v_om p1 p2 p3 = some R) : Met l yX5_timesInProduct wsX5_timesInProduct ({ frames := 1, cells := 0, slots := 0, locals := 22 } : Room) (xPre D y sz [.ref a_x, .int p1, .int p2, .int p3] [(a_x, .inr (5, [.ref a_known, .ref a_so, .ref a_made, .ref a_pcl, .ref a_hi, .ref a_tx, .ref a_rd, .ref a_tb, .ref a_o])), (a_o, .inr (1, [.int f_o_n, .int f_o_many, .int f_o_sets, .ref a_od, .ref a_op, .ref a_oi, .ref a_ov, .ref a_of, .ref a_ol, .ref a_om, .ref a_ow])), (a_od, .inl (y 0, lm_o, .inl v_od)), (a_ov, .inl (y 0, lm_o, .inl v_ov)), (a_om, .inl (y 0, lp_o, .inl v_om))]) (va_Qi (fun (r : Int32) (_ : Unit) => r = R) (xB D y (va_A [(a_x, .inr (5, [.ref a_known, .ref a_so, .ref a_made, .ref a_pcl, .ref a_hi, .ref a_tx, .ref a_rd, .ref a_tb, .ref a_o])), (a_o, .inr (1, [.int f_o_n, .int f_o_many, .int f_o_sets, .ref a_od, .ref a_op, .ref a_oi, .ref a_ov, .ref a_of, .ref a_ol, .ref a_om, .ref a_ow])), (a_od, .inl (y 0, lm_o, .inl v_od)), (a_ov, .inl (y 0, lm_o, .inl v_ov)), (a_om, .inl (y 0, lp_o, .inl v_om))] sz) [(a_x, .inr (5, [.ref a_known, .ref a_so, .ref a_made, .ref a_pcl, .ref a_hi, .ref a_tx, .ref a_rd, .ref a_tb, .ref a_o])), (a_o, .inr (1, [.int f_o_n, .int f_o_many, .int f_o_sets, .ref a_od, .ref a_op, .ref a_oi, .ref a_ov, .ref a_of, .ref a_ol, .ref a_om, .ref a_ow])), (a_od, .inl (y 0, lm_o, .inl v_od)), (a_ov, .inl (y 0, lm_o, .inl v_ov)), (a_om, .inl (y 0, lp_o, .inl v_om))]) (va_A [(a_x, .inr (5, [.ref a_known, .ref a_so, .ref a_made, .ref a_pcl, .ref a_hi, .ref a_tx, .ref a_rd, .ref a_tb, .ref a_o])), (a_o, .inr (1, [.int f_o_n, .int f_o_many, .int f_o_sets, .ref a_od, .ref a_op, .ref a_oi, .ref a_ov, .ref a_of, .ref a_ol, .ref a_om, .ref a_ow])), (a_od, .inl (y 0, lm_o, .inl v_od)), (a_ov, .inl (y 0, lm_o, .inl v_ov)), (a_om, .inl (y 0, lp_o, .inl v_om))] sz)) 0 0 (va_A [(a_x, .inr (5, [.ref a_known, .ref a_so, .ref a_made, .ref a_pcl, .ref a_hi, .ref a_tx, .ref a_rd, .ref a_tb, .ref a_o])), (a_o, .inr (1, [.int f_o_n, .int f_o_many, .int f_o_sets, .ref a_od, .ref a_op, .ref a_oi, .ref a_ov, .ref a_of, .ref a_ol, .ref a_om, .ref a_ow])), (a_od, .inl (y 0, lm_o, .inl v_od)), (a_ov, .inl (y 0, lm_o, .inl v_ov)), (a_om, .inl (y 0, lp_o, .inl v_om))] sz) := by
  refine Met.ofW (cc := cX5_timesInProduct) (maxL := 6) (ret := (some .int)) (by decide) rfl ?_
  intro p e s m args below meth c s₁ B hml hv
  obtain ⟨rfl, hsz, hP, hK, hD0⟩ := hv
  subst hsz
  have hD := hD0.self (sz := s.heap.size)
  have C : xC p s m [.ref a_x, .int p1, .int p2, .int p3].toArray meth c (va_A [(a_x, .inr (5, [.ref a_known, .ref a_so, .ref a_made, .ref a_pcl, .ref a_hi, .ref a_tx, .ref a_rd, .ref a_tb, .ref a_o])), (a_o, .inr (1, [.int f_o_n, .int f_o_many, .int f_o_sets, .ref a_od, .ref a_op, .ref a_oi, .ref a_ov, .ref a_of, .ref a_ol, .ref a_om, .ref a_ow])), (a_od, .inl (y 0, lm_o, .inl v_od)), (a_ov, .inl (y 0, lm_o, .inl v_ov)), (a_om, .inl (y 0, lp_o, .inl v_om))] s.heap.size) cX5_timesInProduct RX5 wsX5_timesInProduct 6 (some .int) D y := ⟨B.exec, B.bytes, hml, findClass_of_methodNamed B.named, atoms_spec (ws := wsX5_timesInProduct) B.pre, B.returns, B.notSynchronized, hK, fun q h => Or.inr h⟩
  have hl := lv_entry ([.ref a_x, .int p1, .int p2, .int p3]) (n := 6) (Nat.le_of_ble_eq_true rfl)
  rw [lg_entry_eq]
  generalize (lg_sl ([.ref a_x, .int p1, .int p2, .int p3]) ++ List.replicate (6 - (lg_sl ([.ref a_x, .int p1, .int p2, .int p3])).length) Slot.unset).toArray = ls at hl ⊢
  have hl : lv_has ls 6 [(0, .ref a_x), (1, .int p1), (2, .int p2), (3, .int p3)] := hl
  exact B_X5_timesInProduct_0 (p1 := p1) (p2 := p2) (p3 := p3) C  s.heap [] ls hP hD va_S.rf hl hF
theorem kX5_byOrders_c67 : Cond.constant RX5 67 (-10000001) ∈ wsX5_byOrders := by decide +kernel
theorem kX5_byOrders_f59 : Cond.fieldLink RX5 59 "DescentShuffles" "orders" "LDescentShuffles$Orders;" ∈ wsX5_byOrders := by decide +kernel
theorem kX5_byOrders_wX5 : ∀ w ∈ u_ws RX5 TX5 9, w ∈ wsX5_byOrders := by decide +kernel
theorem kX5_byOrders_f170 : Cond.fieldLink RX5 170 "DescentShuffles$Orders" "sets" "I" ∈ wsX5_byOrders := by decide +kernel
theorem kX5_byOrders_wX1 : ∀ w ∈ u_ws RX1 TX1 11, w ∈ wsX5_byOrders := by decide +kernel
theorem kX5_byOrders_f24 : Cond.fieldLink RX5 24 "DescentShuffles" "perClass" "[J" ∈ wsX5_byOrders := by decide +kernel
theorem kX5_byOrders_f167 : Cond.fieldLink RX5 167 "DescentShuffles$Orders" "firsts" "[I" ∈ wsX5_byOrders := by decide +kernel
def S_X5_byOrders_30 (p : Program) (l : Launch) (e : Env) (s : State) (m : MethodId) (args : Array Value) (below : List Frame) (meth : Method) (c : Code) (A : Nat → Prop) (D : va_G) (y : Nat → ClassId) (a_x : Nat) (a_known : Nat) (a_so : Nat) (a_made : Nat) (a_pcl : Nat) (a_hi : Nat) (a_tx : Nat) (a_rd : Nat) (a_tb : Nat) (a_o : Nat) (a_od : Nat) (a_op : Nat) (a_oi : Nat) (a_ov : Nat) (a_of : Nat) (a_ol : Nat) (a_om : Nat) (a_ow : Nat) (lm_o : Nat) (ls_o : Nat) (lp_o : Nat) (f_o_n : Int32) (f_o_many : Int32) (f_o_sets : Int32) (v_od : Nat → Int32) (v_ov : Nat → Int32) (v_of : Nat → Int32) (v_om : Nat → Int32) (p1 : Int32) (p2 : Int32) (p3 : Int32) (R : Int32 × (Nat → Int64)) (κ : Int32 → (Nat → Int64) → Option (Int32 × (Nat → Int64))) : Prop := ∀ (x4 : Int32) (v_pcl : Nat → Int64) (H : Heap) (locs : List Loc) (ls : Array Slot), va_P D vwCl [(a_x, .inr (5, [.ref a_known, .ref a_so, .ref a_made, .ref a_pcl, .ref a_hi, .ref a_tx, .ref a_rd, .ref a_tb, .ref a_o])), (a_pcl, .inl (y 1, 16, .inr (.inl v_pcl))), (a_o, .inr (1, [.int f_o_n, .int f_o_many, .int f_o_sets, .ref a_od, .ref a_op, .ref a_oi, .ref a_ov, .ref a_of, .ref a_ol, .ref a_om, .ref a_ow])), (a_od, .inl (y 0, lm_o, .inl v_od)), (a_ov, .inl (y 0, lm_o, .inl v_ov)), (a_of, .inl (y 0, ls_o, .inl v_of)), (a_om, .inl (y 0, lp_o, .inl v_om))] H → va_D A [(a_x, .inr (5, [.ref a_known, .ref a_so, .ref a_made, .ref a_pcl, .ref a_hi, .ref a_tx, .ref a_rd, .ref a_tb, .ref a_o])), (a_pcl, .inl (y 1, 16, .inr (.inl v_pcl))), (a_o, .inr (1, [.int f_o_n, .int f_o_many, .int f_o_sets, .ref a_od, .ref a_op, .ref a_oi, .ref a_ov, .ref a_of, .ref a_ol, .ref a_om, .ref a_ow])), (a_od, .inl (y 0, lm_o, .inl v_od)), (a_ov, .inl (y 0, lm_o, .inl v_ov)), (a_of, .inl (y 0, ls_o, .inl v_of)), (a_om, .inl (y 0, lp_o, .inl v_om))] → va_S A s.heap H locs → lv_has ls 5 [(0, .ref a_x), (1, .int p1), (2, .int p2), (3, .int p3), (4, .int x4)] → κ x4 v_pcl = some R → W p l e ({ frames := 2, cells := 0, slots := 0, locals := 47 } : Room) s m args below meth c H locs 0 0 (MQ below (va_Qi (fun (r : Int32) (_ : Unit) => r = R.1) (xB D y A [(a_x, .inr (5, [.ref a_known, .ref a_so, .ref a_made, .ref a_pcl, .ref a_hi, .ref a_tx, .ref a_rd, .ref a_tb, .ref a_o])), (a_pcl, .inl (y 1, 16, .inr (.inl R.2))), (a_o, .inr (1, [.int f_o_n, .int f_o_many, .int f_o_sets, .ref a_od, .ref a_op, .ref a_oi, .ref a_ov, .ref a_of, .ref a_ol, .ref a_om, .ref a_ow])), (a_od, .inl (y 0, lm_o, .inl v_od)), (a_ov, .inl (y 0, lm_o, .inl v_ov)), (a_of, .inl (y 0, ls_o, .inl v_of)), (a_om, .inl (y 0, lp_o, .inl v_om))]) A) args s 0 0 A) (F0 m 30 ls [])
def S_X5_byOrders_0 (p : Program) (l : Launch) (e : Env) (s : State) (m : MethodId) (args : Array Value) (below : List Frame) (meth : Method) (c : Code) (A : Nat → Prop) (D : va_G) (y : Nat → ClassId) (a_x : Nat) (a_known : Nat) (a_so : Nat) (a_made : Nat) (a_pcl : Nat) (a_hi : Nat) (a_tx : Nat) (a_rd : Nat) (a_tb : Nat) (a_o : Nat) (a_od : Nat) (a_op : Nat) (a_oi : Nat) (a_ov : Nat) (a_of : Nat) (a_ol : Nat) (a_om : Nat) (a_ow : Nat) (lm_o : Nat) (ls_o : Nat) (lp_o : Nat) (f_o_n : Int32) (f_o_many : Int32) (f_o_sets : Int32) (v_od : Nat → Int32) (v_ov : Nat → Int32) (v_of : Nat → Int32) (v_om : Nat → Int32) (p1 : Int32) (p2 : Int32) (p3 : Int32) (R : Int32 × (Nat → Int64)) (κ : (Nat → Int64) → Option (Int32 × (Nat → Int64))) : Prop := ∀ (v_pcl : Nat → Int64) (H : Heap) (locs : List Loc) (ls : Array Slot), va_P D vwCl [(a_x, .inr (5, [.ref a_known, .ref a_so, .ref a_made, .ref a_pcl, .ref a_hi, .ref a_tx, .ref a_rd, .ref a_tb, .ref a_o])), (a_pcl, .inl (y 1, 16, .inr (.inl v_pcl))), (a_o, .inr (1, [.int f_o_n, .int f_o_many, .int f_o_sets, .ref a_od, .ref a_op, .ref a_oi, .ref a_ov, .ref a_of, .ref a_ol, .ref a_om, .ref a_ow])), (a_od, .inl (y 0, lm_o, .inl v_od)), (a_ov, .inl (y 0, lm_o, .inl v_ov)), (a_of, .inl (y 0, ls_o, .inl v_of)), (a_om, .inl (y 0, lp_o, .inl v_om))] H → va_D A [(a_x, .inr (5, [.ref a_known, .ref a_so, .ref a_made, .ref a_pcl, .ref a_hi, .ref a_tx, .ref a_rd, .ref a_tb, .ref a_o])), (a_pcl, .inl (y 1, 16, .inr (.inl v_pcl))), (a_o, .inr (1, [.int f_o_n, .int f_o_many, .int f_o_sets, .ref a_od, .ref a_op, .ref a_oi, .ref a_ov, .ref a_of, .ref a_ol, .ref a_om, .ref a_ow])), (a_od, .inl (y 0, lm_o, .inl v_od)), (a_ov, .inl (y 0, lm_o, .inl v_ov)), (a_of, .inl (y 0, ls_o, .inl v_of)), (a_om, .inl (y 0, lp_o, .inl v_om))] → va_S A s.heap H locs → lv_has ls 5 [(0, .ref a_x), (1, .int p1), (2, .int p2), (3, .int p3)] → κ v_pcl = some R → W p l e ({ frames := 2, cells := 0, slots := 0, locals := 47 } : Room) s m args below meth c H locs 0 0 (MQ below (va_Qi (fun (r : Int32) (_ : Unit) => r = R.1) (xB D y A [(a_x, .inr (5, [.ref a_known, .ref a_so, .ref a_made, .ref a_pcl, .ref a_hi, .ref a_tx, .ref a_rd, .ref a_tb, .ref a_o])), (a_pcl, .inl (y 1, 16, .inr (.inl R.2))), (a_o, .inr (1, [.int f_o_n, .int f_o_many, .int f_o_sets, .ref a_od, .ref a_op, .ref a_oi, .ref a_ov, .ref a_of, .ref a_ol, .ref a_om, .ref a_ow])), (a_od, .inl (y 0, lm_o, .inl v_od)), (a_ov, .inl (y 0, lm_o, .inl v_ov)), (a_of, .inl (y 0, ls_o, .inl v_of)), (a_om, .inl (y 0, lp_o, .inl v_om))]) A) args s 0 0 A) (F0 m 0 ls [])
set_option maxHeartbeats 4000000 in
set_option maxRecDepth 100000 in
theorem B_X5_byOrders_30 {p : Program} {l : Launch} {e : Env} {s : State} {m : MethodId} {args : Array Value} {below : List Frame} {meth : Method} {c : Code} {A : Nat → Prop} {D : va_G} {y : Nat → ClassId} {a_x : Nat} {a_known : Nat} {a_so : Nat} {a_made : Nat} {a_pcl : Nat} {a_hi : Nat} {a_tx : Nat} {a_rd : Nat} {a_tb : Nat} {a_o : Nat} {a_od : Nat} {a_op : Nat} {a_oi : Nat} {a_ov : Nat} {a_of : Nat} {a_ol : Nat} {a_om : Nat} {a_ow : Nat} {lm_o : Nat} {ls_o : Nat} {lp_o : Nat} {f_o_n : Int32} {f_o_many : Int32} {f_o_sets : Int32} {v_od : Nat → Int32} {v_ov : Nat → Int32} {v_of : Nat → Int32} {v_om : Nat → Int32} {p1 : Int32} {p2 : Int32} {p3 : Int32} {R : Int32 × (Nat → Int64)} (C : xC p s m args meth c A cX5_byOrders RX5 wsX5_byOrders 5 (some .int) D y)  : ∀ f : Nat, S_X5_byOrders_30 p l e s m args below meth c A D y a_x a_known a_so a_made a_pcl a_hi a_tx a_rd a_tb a_o a_od a_op a_oi a_ov a_of a_ol a_om a_ow lm_o ls_o lp_o f_o_n f_o_many f_o_sets v_od v_ov v_of v_om p1 p2 p3 R (F_X5_byOrders_30 lm_o ls_o lp_o f_o_many f_o_sets v_od v_ov v_of v_om p1 p2 p3  f) := by
  have C0 := C
  obtain ⟨hx, hb, hml, hown, hts, hr, hlocks, hK, hA⟩ := C
  intro f
  induction f with
  | zero =>
    intro x4 v_pcl H locs ls hP hD hS hl hB
    rw [Z_X5_byOrders_30] at hB
    cases hB
  | succ f ih =>
    intro x4 v_pcl H locs ls hP hD hS hl hB
    rw [E_X5_byOrders_30] at hB
    refine lv_iload hx hb dX5_byOrders_30 (lv_at hl 4 rfl) ?_
    refine lv_aload_n hx hb dX5_byOrders_32 rfl (lv_at hl 0 rfl) ?_
    refine va_get (D := D) (ci := 5) (v := .ref a_o) (C := RX5) (T := TX5) (N := 9) hx hb hts kX5_byOrders_wX5 hown hK hP 0 rfl rfl 8 (by decide) (hts _ kX5_byOrders_f59) (fun _ h9 => h9) rfl dX5_byOrders_33 ?_
    refine va_get (D := D) (ci := 1) (v := .int f_o_sets) (C := RX1) (T := TX1) (N := 11) hx hb hts kX5_byOrders_wX1 hown hK hP 2 rfl rfl 2 (by decide) (hts _ kX5_byOrders_f170) (fun _ h9 => h9) rfl dX5_byOrders_36 ?_
    refine lv_icmp_ge (tgt := 72) hx hb dX5_byOrders_39 (by decide) (fun c1 => ?_) (fun c1 => ?_)
    · have hB := xip c1 hB
      refine lv_aload_n hx hb dX5_byOrders_72 rfl (lv_at hl 0 rfl) ?_
      refine lv_iload_n hx hb dX5_byOrders_73 rfl (lv_at hl 3 rfl) ?_
      obtain ⟨q2, e2, hB⟩ := xbd hB
      have hPc := hP.sub (ws' := [(a_x, .inr (5, [.ref a_known, .ref a_so, .ref a_made, .ref a_pcl, .ref a_hi, .ref a_tx, .ref a_rd, .ref a_tb, .ref a_o])), (a_pcl, .inl (y 1, 16, .inr (.inl v_pcl))), (a_o, .inr (1, [.int f_o_n, .int f_o_many, .int f_o_sets, .ref a_od, .ref a_op, .ref a_oi, .ref a_ov, .ref a_of, .ref a_ol, .ref a_om, .ref a_ow]))]) [0, 1, 2] rfl
      have hDc := hD.sub (ws' := [(a_x, .inr (5, [.ref a_known, .ref a_so, .ref a_made, .ref a_pcl, .ref a_hi, .ref a_tx, .ref a_rd, .ref a_tb, .ref a_o])), (a_pcl, .inl (y 1, 16, .inr (.inl v_pcl))), (a_o, .inr (1, [.int f_o_n, .int f_o_many, .int f_o_sets, .ref a_od, .ref a_op, .ref a_oi, .ref a_ov, .ref a_of, .ref a_ol, .ref a_om, .ref a_ow]))]) [0, 1, 2] (by decide) rfl
      refine xcalli (mc := 0) (ms := 0) (rv := q2) (wc := [(a_x, .inr (5, [.ref a_known, .ref a_so, .ref a_made, .ref a_pcl, .ref a_hi, .ref a_tx, .ref a_rd, .ref a_tb, .ref a_o])), (a_pcl, .inl (y 1, 16, .inr (.inl v_pcl))), (a_o, .inr (1, [.int f_o_n, .int f_o_many, .int f_o_sets, .ref a_od, .ref a_op, .ref a_oi, .ref a_ov, .ref a_of, .ref a_ol, .ref a_om, .ref a_ow]))]) (wr := [(a_od, .inl (y 0, lm_o, .inl v_od)), (a_ov, .inl (y 0, lm_o, .inl v_ov)), (a_of, .inl (y 0, ls_o, .inl v_of)), (a_om, .inl (y 0, lp_o, .inl v_om))]) (w1 := [(a_x, .inr (5, [.ref a_known, .ref a_so, .ref a_made, .ref a_pcl, .ref a_hi, .ref a_tx, .ref a_rd, .ref a_tb, .ref a_o])), (a_pcl, .inl (y 1, 16, .inr (.inl v_pcl))), (a_o, .inr (1, [.int f_o_n, .int f_o_many, .int f_o_sets, .ref a_od, .ref a_op, .ref a_oi, .ref a_ov, .ref a_of, .ref a_ol, .ref a_om, .ref a_ow]))]) (wf := [(a_x, .inr (5, [.ref a_known, .ref a_so, .ref a_made, .ref a_pcl, .ref a_hi, .ref a_tx, .ref a_rd, .ref a_tb, .ref a_o])), (a_pcl, .inl (y 1, 16, .inr (.inl v_pcl))), (a_o, .inr (1, [.int f_o_n, .int f_o_many, .int f_o_sets, .ref a_od, .ref a_op, .ref a_oi, .ref a_ov, .ref a_of, .ref a_ol, .ref a_om, .ref a_ow])), (a_od, .inl (y 0, lm_o, .inl v_od)), (a_ov, .inl (y 0, lm_o, .inl v_ov)), (a_of, .inl (y 0, ls_o, .inl v_of)), (a_om, .inl (y 0, lp_o, .inl v_om))]) (va_runV (As := [.int p3]) (rest := []) ⟨hx, hb, hml, hown, hts⟩ (c_X5_wideFactor l D y a_x a_known a_so a_made a_pcl a_hi a_tx a_rd a_tb a_o a_od a_op a_oi a_ov a_of a_ol a_om a_ow v_pcl f_o_n f_o_many f_o_sets p3 H.size e2) (cwV 1 hts gX5_byOrders_X5_wideFactor rfl rfl rfl (by decide +kernel) ⟨Nat.le_of_ble_eq_true rfl, Nat.le_of_ble_eq_true rfl⟩) ⟨xblind, va_recv hK hP (ci := 5) (q0 := 0) rfl rfl, xprev hPc hK hDc⟩ rfl rfl hl.1 rfl (lv_room (Nat.le_of_ble_eq_true rfl)) dX5_byOrders_74 ⟨Nat.le_of_ble_eq_true rfl, Nat.le_of_ble_eq_true rfl⟩) hP hD hS hA [0, 1, 2] [3, 4, 5, 6] [4, 5, 6, 0, 1, 2, 3] rfl rfl (by decide) (by decide) rfl (by decide) (fun H locs hP hD hS => ?_)
      have hB := Option.some.inj hB
      subst hB
      exact W.iret hx hb hr (fun t ht hW => ⟨⟨_, (), rfl, rfl, by rw [ht]; exact hP, va_K.moved hW.alike hK, hD⟩, hS.F ht⟩) hS.2.2 dX5_byOrders_77 hlocks
    · have hB := xin c1 hB
      refine lv_aload_n hx hb dX5_byOrders_42 rfl (lv_at hl 0 rfl) ?_
      refine va_get (D := D) (ci := 5) (v := .ref a_pcl) (C := RX5) (T := TX5) (N := 9) hx hb hts kX5_byOrders_wX5 hown hK hP 0 rfl rfl 3 (by decide) (hts _ kX5_byOrders_f24) (fun _ h9 => h9) rfl dX5_byOrders_43 ?_
      refine lv_iload hx hb dX5_byOrders_46 (lv_at hl 4 rfl) ?_
      refine lv_aload_n hx hb dX5_byOrders_48 rfl (lv_at hl 0 rfl) ?_
      refine lv_iload_n hx hb dX5_byOrders_49 rfl (lv_at hl 1 rfl) ?_
      refine lv_iload_n hx hb dX5_byOrders_50 rfl (lv_at hl 2 rfl) ?_
      refine lv_aload_n hx hb dX5_byOrders_51 rfl (lv_at hl 0 rfl) ?_
      refine va_get (D := D) (ci := 5) (v := .ref a_o) (C := RX5) (T := TX5) (N := 9) hx hb hts kX5_byOrders_wX5 hown hK hP 0 rfl rfl 8 (by decide) (hts _ kX5_byOrders_f59) (fun _ h9 => h9) rfl dX5_byOrders_52 ?_
      refine va_get (D := D) (ci := 1) (v := .ref a_of) (C := RX1) (T := TX1) (N := 11) hx hb hts kX5_byOrders_wX1 hown hK hP 2 rfl rfl 7 (by decide) (hts _ kX5_byOrders_f167) (fun _ h9 => h9) rfl dX5_byOrders_55 ?_
      refine lv_iload hx hb dX5_byOrders_58 (lv_at hl 4 rfl) ?_
      obtain ⟨g3, hB⟩ := xg_some hB
      refine va_iald hx hb hK hP 5 0 rfl rfl g3 dX5_byOrders_60 ?_
      obtain ⟨q4, e4, hB⟩ := xbd hB
      have hPc := hP.sub (ws' := [(a_x, .inr (5, [.ref a_known, .ref a_so, .ref a_made, .ref a_pcl, .ref a_hi, .ref a_tx, .ref a_rd, .ref a_tb, .ref a_o])), (a_o, .inr (1, [.int f_o_n, .int f_o_many, .int f_o_sets, .ref a_od, .ref a_op, .ref a_oi, .ref a_ov, .ref a_of, .ref a_ol, .ref a_om, .ref a_ow])), (a_od, .inl (y 0, lm_o, .inl v_od)), (a_ov, .inl (y 0, lm_o, .inl v_ov)), (a_om, .inl (y 0, lp_o, .inl v_om))]) [0, 2, 3, 4, 6] rfl
      have hDc := hD.sub (ws' := [(a_x, .inr (5, [.ref a_known, .ref a_so, .ref a_made, .ref a_pcl, .ref a_hi, .ref a_tx, .ref a_rd, .ref a_tb, .ref a_o])), (a_o, .inr (1, [.int f_o_n, .int f_o_many, .int f_o_sets, .ref a_od, .ref a_op, .ref a_oi, .ref a_ov, .ref a_of, .ref a_ol, .ref a_om, .ref a_ow])), (a_od, .inl (y 0, lm_o, .inl v_od)), (a_ov, .inl (y 0, lm_o, .inl v_ov)), (a_om, .inl (y 0, lp_o, .inl v_om))]) [0, 2, 3, 4, 6] (by decide) rfl
      refine xcalli (mc := 0) (ms := 0) (rv := q4) (wc := [(a_x, .inr (5, [.ref a_known, .ref a_so, .ref a_made, .ref a_pcl, .ref a_hi, .ref a_tx, .ref a_rd, .ref a_tb, .ref a_o])), (a_o, .inr (1, [.int f_o_n, .int f_o_many, .int f_o_sets, .ref a_od, .ref a_op, .ref a_oi, .ref a_ov, .ref a_of, .ref a_ol, .ref a_om, .ref a_ow])), (a_od, .inl (y 0, lm_o, .inl v_od)), (a_ov, .inl (y 0, lm_o, .inl v_ov)), (a_om, .inl (y 0, lp_o, .inl v_om))]) (wr := [(a_pcl, .inl (y 1, 16, .inr (.inl v_pcl))), (a_of, .inl (y 0, ls_o, .inl v_of))]) (w1 := [(a_x, .inr (5, [.ref a_known, .ref a_so, .ref a_made, .ref a_pcl, .ref a_hi, .ref a_tx, .ref a_rd, .ref a_tb, .ref a_o])), (a_o, .inr (1, [.int f_o_n, .int f_o_many, .int f_o_sets, .ref a_od, .ref a_op, .ref a_oi, .ref a_ov, .ref a_of, .ref a_ol, .ref a_om, .ref a_ow])), (a_od, .inl (y 0, lm_o, .inl v_od)), (a_ov, .inl (y 0, lm_o, .inl v_ov)), (a_om, .inl (y 0, lp_o, .inl v_om))]) (wf := [(a_x, .inr (5, [.ref a_known, .ref a_so, .ref a_made, .ref a_pcl, .ref a_hi, .ref a_tx, .ref a_rd, .ref a_tb, .ref a_o])), (a_pcl, .inl (y 1, 16, .inr (.inl v_pcl))), (a_o, .inr (1, [.int f_o_n, .int f_o_many, .int f_o_sets, .ref a_od, .ref a_op, .ref a_oi, .ref a_ov, .ref a_of, .ref a_ol, .ref a_om, .ref a_ow])), (a_od, .inl (y 0, lm_o, .inl v_od)), (a_ov, .inl (y 0, lm_o, .inl v_ov)), (a_of, .inl (y 0, ls_o, .inl v_of)), (a_om, .inl (y 0, lp_o, .inl v_om))]) (va_runV (As := [.int p1, .int p2, .int (v_of x4.toNatClampNeg)]) (rest := [.int x4, .ref a_pcl]) ⟨hx, hb, hml, hown, hts⟩ (c_X5_timesInProduct l D y a_x a_known a_so a_made a_pcl a_hi a_tx a_rd a_tb a_o a_od a_op a_oi a_ov a_of a_ol a_om a_ow lm_o lp_o f_o_n f_o_many f_o_sets v_od v_ov v_om p1 p2 (v_of x4.toNatClampNeg) H.size e4) (cwV 3 hts gX5_byOrders_X5_timesInProduct rfl rfl rfl (by decide +kernel) ⟨Nat.le_of_ble_eq_true rfl, Nat.le_of_ble_eq_true rfl⟩) ⟨xblind, va_recv hK hP (ci := 5) (q0 := 0) rfl rfl, xprev hPc hK hDc⟩ rfl rfl hl.1 rfl (lv_room (Nat.le_of_ble_eq_true rfl)) dX5_byOrders_61 ⟨Nat.le_of_ble_eq_true rfl, Nat.le_of_ble_eq_true rfl⟩) hP hD hS hA [0, 2, 3, 4, 6] [1, 5] [2, 0, 3, 4, 5, 1, 6] rfl rfl (by decide) (by decide) rfl (by decide) (fun H locs hP hD hS => ?_)
      refine lv_i2l hx hb dX5_byOrders_64 rfl ?_
      obtain ⟨g5, hB⟩ := xg_some hB
      refine va_last hx hb hK hP hD hS 1 1 rfl rfl g5 dX5_byOrders_65 (fun H locs hP hD hS => ?_)
      have hP : va_P D vwCl [(a_x, .inr (5, [.ref a_known, .ref a_so, .ref a_made, .ref a_pcl, .ref a_hi, .ref a_tx, .ref a_rd, .ref a_tb, .ref a_o])), (a_pcl, .inl (y 1, 16, .inr (.inl (vp_updL v_pcl x4.toNatClampNeg q4.toInt64)))), (a_o, .inr (1, [.int f_o_n, .int f_o_many, .int f_o_sets, .ref a_od, .ref a_op, .ref a_oi, .ref a_ov, .ref a_of, .ref a_ol, .ref a_om, .ref a_ow])), (a_od, .inl (y 0, lm_o, .inl v_od)), (a_ov, .inl (y 0, lm_o, .inl v_ov)), (a_of, .inl (y 0, ls_o, .inl v_of)), (a_om, .inl (y 0, lp_o, .inl v_om))] H := hP
      have hD : va_D A [(a_x, .inr (5, [.ref a_known, .ref a_so, .ref a_made, .ref a_pcl, .ref a_hi, .ref a_tx, .ref a_rd, .ref a_tb, .ref a_o])), (a_pcl, .inl (y 1, 16, .inr (.inl (vp_updL v_pcl x4.toNatClampNeg q4.toInt64)))), (a_o, .inr (1, [.int f_o_n, .int f_o_many, .int f_o_sets, .ref a_od, .ref a_op, .ref a_oi, .ref a_ov, .ref a_of, .ref a_ol, .ref a_om, .ref a_ow])), (a_od, .inl (y 0, lm_o, .inl v_od)), (a_ov, .inl (y 0, lm_o, .inl v_ov)), (a_of, .inl (y 0, ls_o, .inl v_of)), (a_om, .inl (y 0, lp_o, .inl v_om))] := hD
      refine lv_iinc (v := x4 + 1) (lv' := [(4, .int (x4 + 1)), (0, .ref a_x), (1, .int p1), (2, .int p2), (3, .int p3)]) hx hb dX5_byOrders_66 hl (k := 4) rfl rfl (by decide) rfl (fun ls hl => ?_)
      refine lv_goto (tgt := 30) hx hb dX5_byOrders_69 (by decide) ?_
      exact ih (x4 + 1) (vp_updL v_pcl x4.toNatClampNeg q4.toInt64) H locs ls hP hD hS (lv_sub hl [1, 2, 3, 4, 0] rfl) hB
set_option maxHeartbeats 4000000 in
set_option maxRecDepth 100000 in
theorem B_X5_byOrders_0 {p : Program} {l : Launch} {e : Env} {s : State} {m : MethodId} {args : Array Value} {below : List Frame} {meth : Method} {c : Code} {A : Nat → Prop} {D : va_G} {y : Nat → ClassId} {a_x : Nat} {a_known : Nat} {a_so : Nat} {a_made : Nat} {a_pcl : Nat} {a_hi : Nat} {a_tx : Nat} {a_rd : Nat} {a_tb : Nat} {a_o : Nat} {a_od : Nat} {a_op : Nat} {a_oi : Nat} {a_ov : Nat} {a_of : Nat} {a_ol : Nat} {a_om : Nat} {a_ow : Nat} {lm_o : Nat} {ls_o : Nat} {lp_o : Nat} {f_o_n : Int32} {f_o_many : Int32} {f_o_sets : Int32} {v_od : Nat → Int32} {v_ov : Nat → Int32} {v_of : Nat → Int32} {v_om : Nat → Int32} {p1 : Int32} {p2 : Int32} {p3 : Int32} {R : Int32 × (Nat → Int64)} (C : xC p s m args meth c A cX5_byOrders RX5 wsX5_byOrders 5 (some .int) D y)  : S_X5_byOrders_0 p l e s m args below meth c A D y a_x a_known a_so a_made a_pcl a_hi a_tx a_rd a_tb a_o a_od a_op a_oi a_ov a_of a_ol a_om a_ow lm_o ls_o lp_o f_o_n f_o_many f_o_sets v_od v_ov v_of v_om p1 p2 p3 R (F_X5_byOrders lm_o ls_o lp_o f_o_many f_o_sets v_od v_ov v_of v_om p1 p2 p3 ) := by
  have C0 := C
  obtain ⟨hx, hb, hml, hown, hts, hr, hlocks, hK, hA⟩ := C
  intro v_pcl H locs ls hP hD hS hl hB
  unfold F_X5_byOrders at hB
  refine lv_aload_n hx hb dX5_byOrders_0 rfl (lv_at hl 0 rfl) ?_
  refine lv_iload_n hx hb dX5_byOrders_1 rfl (lv_at hl 1 rfl) ?_
  obtain ⟨q1, e1, hB⟩ := xbd hB
  have hPc := hP.sub (ws' := [(a_x, .inr (5, [.ref a_known, .ref a_so, .ref a_made, .ref a_pcl, .ref a_hi, .ref a_tx, .ref a_rd, .ref a_tb, .ref a_o])), (a_o, .inr (1, [.int f_o_n, .int f_o_many, .int f_o_sets, .ref a_od, .ref a_op, .ref a_oi, .ref a_ov, .ref a_of, .ref a_ol, .ref a_om, .ref a_ow]))]) [0, 2] rfl
  have hDc := hD.sub (ws' := [(a_x, .inr (5, [.ref a_known, .ref a_so, .ref a_made, .ref a_pcl, .ref a_hi, .ref a_tx, .ref a_rd, .ref a_tb, .ref a_o])), (a_o, .inr (1, [.int f_o_n, .int f_o_many, .int f_o_sets, .ref a_od, .ref a_op, .ref a_oi, .ref a_ov, .ref a_of, .ref a_ol, .ref a_om, .ref a_ow]))]) [0, 2] (by decide) rfl
  refine xcalli (mc := 0) (ms := 0) (rv := q1) (wc := [(a_x, .inr (5, [.ref a_known, .ref a_so, .ref a_made, .ref a_pcl, .ref a_hi, .ref a_tx, .ref a_rd, .ref a_tb, .ref a_o])), (a_o, .inr (1, [.int f_o_n, .int f_o_many, .int f_o_sets, .ref a_od, .ref a_op, .ref a_oi, .ref a_ov, .ref a_of, .ref a_ol, .ref a_om, .ref a_ow]))]) (wr := [(a_pcl, .inl (y 1, 16, .inr (.inl v_pcl))), (a_od, .inl (y 0, lm_o, .inl v_od)), (a_ov, .inl (y 0, lm_o, .inl v_ov)), (a_of, .inl (y 0, ls_o, .inl v_of)), (a_om, .inl (y 0, lp_o, .inl v_om))]) (w1 := [(a_x, .inr (5, [.ref a_known, .ref a_so, .ref a_made, .ref a_pcl, .ref a_hi, .ref a_tx, .ref a_rd, .ref a_tb, .ref a_o])), (a_o, .inr (1, [.int f_o_n, .int f_o_many, .int f_o_sets, .ref a_od, .ref a_op, .ref a_oi, .ref a_ov, .ref a_of, .ref a_ol, .ref a_om, .ref a_ow]))]) (wf := [(a_x, .inr (5, [.ref a_known, .ref a_so, .ref a_made, .ref a_pcl, .ref a_hi, .ref a_tx, .ref a_rd, .ref a_tb, .ref a_o])), (a_pcl, .inl (y 1, 16, .inr (.inl v_pcl))), (a_o, .inr (1, [.int f_o_n, .int f_o_many, .int f_o_sets, .ref a_od, .ref a_op, .ref a_oi, .ref a_ov, .ref a_of, .ref a_ol, .ref a_om, .ref a_ow])), (a_od, .inl (y 0, lm_o, .inl v_od)), (a_ov, .inl (y 0, lm_o, .inl v_ov)), (a_of, .inl (y 0, ls_o, .inl v_of)), (a_om, .inl (y 0, lp_o, .inl v_om))]) (va_runV (As := [.int p1]) (rest := []) ⟨hx, hb, hml, hown, hts⟩ (c_X5_isSet l D y a_x a_known a_so a_made a_pcl a_hi a_tx a_rd a_tb a_o a_od a_op a_oi a_ov a_of a_ol a_om a_ow f_o_n f_o_many f_o_sets p1 H.size e1) (cwV 1 hts gX5_byOrders_X5_isSet rfl rfl rfl (by decide +kernel) ⟨Nat.le_of_ble_eq_true rfl, Nat.le_of_ble_eq_true rfl⟩) ⟨xblind, va_recv hK hP (ci := 5) (q0 := 0) rfl rfl, xprev hPc hK hDc⟩ rfl rfl hl.1 rfl (lv_room (Nat.le_of_ble_eq_true rfl)) dX5_byOrders_2 ⟨Nat.le_of_ble_eq_true rfl, Nat.le_of_ble_eq_true rfl⟩) hP hD hS hA [0, 2] [1, 3, 4, 5, 6] [5, 0, 6, 1, 2, 3, 4] rfl rfl (by decide) (by decide) rfl (by decide) (fun H locs hP hD hS => ?_)
  refine lv_if_eq (tgt := 24) hx hb dX5_byOrders_5 (by decide) (fun c2 => ?_) (fun c2 => ?_)
  · have hB := xip c2 hB
    refine lv_ldc (v := -10000001) hx hb hown (hts _ kX5_byOrders_c67) dX5_byOrders_24 ?_
    have hB := Option.some.inj hB
    subst hB
    exact W.iret hx hb hr (fun t ht hW => ⟨⟨_, (), rfl, rfl, by rw [ht]; exact hP, va_K.moved hW.alike hK, hD⟩, hS.F ht⟩) hS.2.2 dX5_byOrders_26 hlocks
  · have hB := xin c2 hB
    refine lv_aload_n hx hb dX5_byOrders_8 rfl (lv_at hl 0 rfl) ?_
    refine lv_iload_n hx hb dX5_byOrders_9 rfl (lv_at hl 2 rfl) ?_
    obtain ⟨q3, e3, hB⟩ := xbd hB
    have hPc := hP.sub (ws' := [(a_x, .inr (5, [.ref a_known, .ref a_so, .ref a_made, .ref a_pcl, .ref a_hi, .ref a_tx, .ref a_rd, .ref a_tb, .ref a_o])), (a_o, .inr (1, [.int f_o_n, .int f_o_many, .int f_o_sets, .ref a_od, .ref a_op, .ref a_oi, .ref a_ov, .ref a_of, .ref a_ol, .ref a_om, .ref a_ow]))]) [0, 2] rfl
    have hDc := hD.sub (ws' := [(a_x, .inr (5, [.ref a_known, .ref a_so, .ref a_made, .ref a_pcl, .ref a_hi, .ref a_tx, .ref a_rd, .ref a_tb, .ref a_o])), (a_o, .inr (1, [.int f_o_n, .int f_o_many, .int f_o_sets, .ref a_od, .ref a_op, .ref a_oi, .ref a_ov, .ref a_of, .ref a_ol, .ref a_om, .ref a_ow]))]) [0, 2] (by decide) rfl
    refine xcalli (mc := 0) (ms := 0) (rv := q3) (wc := [(a_x, .inr (5, [.ref a_known, .ref a_so, .ref a_made, .ref a_pcl, .ref a_hi, .ref a_tx, .ref a_rd, .ref a_tb, .ref a_o])), (a_o, .inr (1, [.int f_o_n, .int f_o_many, .int f_o_sets, .ref a_od, .ref a_op, .ref a_oi, .ref a_ov, .ref a_of, .ref a_ol, .ref a_om, .ref a_ow]))]) (wr := [(a_pcl, .inl (y 1, 16, .inr (.inl v_pcl))), (a_od, .inl (y 0, lm_o, .inl v_od)), (a_ov, .inl (y 0, lm_o, .inl v_ov)), (a_of, .inl (y 0, ls_o, .inl v_of)), (a_om, .inl (y 0, lp_o, .inl v_om))]) (w1 := [(a_x, .inr (5, [.ref a_known, .ref a_so, .ref a_made, .ref a_pcl, .ref a_hi, .ref a_tx, .ref a_rd, .ref a_tb, .ref a_o])), (a_o, .inr (1, [.int f_o_n, .int f_o_many, .int f_o_sets, .ref a_od, .ref a_op, .ref a_oi, .ref a_ov, .ref a_of, .ref a_ol, .ref a_om, .ref a_ow]))]) (wf := [(a_x, .inr (5, [.ref a_known, .ref a_so, .ref a_made, .ref a_pcl, .ref a_hi, .ref a_tx, .ref a_rd, .ref a_tb, .ref a_o])), (a_pcl, .inl (y 1, 16, .inr (.inl v_pcl))), (a_o, .inr (1, [.int f_o_n, .int f_o_many, .int f_o_sets, .ref a_od, .ref a_op, .ref a_oi, .ref a_ov, .ref a_of, .ref a_ol, .ref a_om, .ref a_ow])), (a_od, .inl (y 0, lm_o, .inl v_od)), (a_ov, .inl (y 0, lm_o, .inl v_ov)), (a_of, .inl (y 0, ls_o, .inl v_of)), (a_om, .inl (y 0, lp_o, .inl v_om))]) (va_runV (As := [.int p2]) (rest := []) ⟨hx, hb, hml, hown, hts⟩ (c_X5_isSet l D y a_x a_known a_so a_made a_pcl a_hi a_tx a_rd a_tb a_o a_od a_op a_oi a_ov a_of a_ol a_om a_ow f_o_n f_o_many f_o_sets p2 H.size e3) (cwV 1 hts gX5_byOrders_X5_isSet rfl rfl rfl (by decide +kernel) ⟨Nat.le_of_ble_eq_true rfl, Nat.le_of_ble_eq_true rfl⟩) ⟨xblind, va_recv hK hP (ci := 5) (q0 := 0) rfl rfl, xprev hPc hK hDc⟩ rfl rfl hl.1 rfl (lv_room (Nat.le_of_ble_eq_true rfl)) dX5_byOrders_10 ⟨Nat.le_of_ble_eq_true rfl, Nat.le_of_ble_eq_true rfl⟩) hP hD hS hA [0, 2] [1, 3, 4, 5, 6] [5, 0, 6, 1, 2, 3, 4] rfl rfl (by decide) (by decide) rfl (by decide) (fun H locs hP hD hS => ?_)
    refine lv_if_eq (tgt := 24) hx hb dX5_byOrders_13 (by decide) (fun c4 => ?_) (fun c4 => ?_)
    · have hB := xip c4 hB
      refine lv_ldc (v := -10000001) hx hb hown (hts _ kX5_byOrders_c67) dX5_byOrders_24 ?_
      have hB := Option.some.inj hB
      subst hB
      exact W.iret hx hb hr (fun t ht hW => ⟨⟨_, (), rfl, rfl, by rw [ht]; exact hP, va_K.moved hW.alike hK, hD⟩, hS.F ht⟩) hS.2.2 dX5_byOrders_26 hlocks
    · have hB := xin c4 hB
      refine lv_aload_n hx hb dX5_byOrders_16 rfl (lv_at hl 0 rfl) ?_
      refine lv_iload_n hx hb dX5_byOrders_17 rfl (lv_at hl 3 rfl) ?_
      obtain ⟨q5, e5, hB⟩ := xbd hB
      have hPc := hP.sub (ws' := [(a_x, .inr (5, [.ref a_known, .ref a_so, .ref a_made, .ref a_pcl, .ref a_hi, .ref a_tx, .ref a_rd, .ref a_tb, .ref a_o])), (a_o, .inr (1, [.int f_o_n, .int f_o_many, .int f_o_sets, .ref a_od, .ref a_op, .ref a_oi, .ref a_ov, .ref a_of, .ref a_ol, .ref a_om, .ref a_ow]))]) [0, 2] rfl
      have hDc := hD.sub (ws' := [(a_x, .inr (5, [.ref a_known, .ref a_so, .ref a_made, .ref a_pcl, .ref a_hi, .ref a_tx, .ref a_rd, .ref a_tb, .ref a_o])), (a_o, .inr (1, [.int f_o_n, .int f_o_many, .int f_o_sets, .ref a_od, .ref a_op, .ref a_oi, .ref a_ov, .ref a_of, .ref a_ol, .ref a_om, .ref a_ow]))]) [0, 2] (by decide) rfl
      refine xcalli (mc := 0) (ms := 0) (rv := q5) (wc := [(a_x, .inr (5, [.ref a_known, .ref a_so, .ref a_made, .ref a_pcl, .ref a_hi, .ref a_tx, .ref a_rd, .ref a_tb, .ref a_o])), (a_o, .inr (1, [.int f_o_n, .int f_o_many, .int f_o_sets, .ref a_od, .ref a_op, .ref a_oi, .ref a_ov, .ref a_of, .ref a_ol, .ref a_om, .ref a_ow]))]) (wr := [(a_pcl, .inl (y 1, 16, .inr (.inl v_pcl))), (a_od, .inl (y 0, lm_o, .inl v_od)), (a_ov, .inl (y 0, lm_o, .inl v_ov)), (a_of, .inl (y 0, ls_o, .inl v_of)), (a_om, .inl (y 0, lp_o, .inl v_om))]) (w1 := [(a_x, .inr (5, [.ref a_known, .ref a_so, .ref a_made, .ref a_pcl, .ref a_hi, .ref a_tx, .ref a_rd, .ref a_tb, .ref a_o])), (a_o, .inr (1, [.int f_o_n, .int f_o_many, .int f_o_sets, .ref a_od, .ref a_op, .ref a_oi, .ref a_ov, .ref a_of, .ref a_ol, .ref a_om, .ref a_ow]))]) (wf := [(a_x, .inr (5, [.ref a_known, .ref a_so, .ref a_made, .ref a_pcl, .ref a_hi, .ref a_tx, .ref a_rd, .ref a_tb, .ref a_o])), (a_pcl, .inl (y 1, 16, .inr (.inl v_pcl))), (a_o, .inr (1, [.int f_o_n, .int f_o_many, .int f_o_sets, .ref a_od, .ref a_op, .ref a_oi, .ref a_ov, .ref a_of, .ref a_ol, .ref a_om, .ref a_ow])), (a_od, .inl (y 0, lm_o, .inl v_od)), (a_ov, .inl (y 0, lm_o, .inl v_ov)), (a_of, .inl (y 0, ls_o, .inl v_of)), (a_om, .inl (y 0, lp_o, .inl v_om))]) (va_runV (As := [.int p3]) (rest := []) ⟨hx, hb, hml, hown, hts⟩ (c_X5_isSet l D y a_x a_known a_so a_made a_pcl a_hi a_tx a_rd a_tb a_o a_od a_op a_oi a_ov a_of a_ol a_om a_ow f_o_n f_o_many f_o_sets p3 H.size e5) (cwV 1 hts gX5_byOrders_X5_isSet rfl rfl rfl (by decide +kernel) ⟨Nat.le_of_ble_eq_true rfl, Nat.le_of_ble_eq_true rfl⟩) ⟨xblind, va_recv hK hP (ci := 5) (q0 := 0) rfl rfl, xprev hPc hK hDc⟩ rfl rfl hl.1 rfl (lv_room (Nat.le_of_ble_eq_true rfl)) dX5_byOrders_18 ⟨Nat.le_of_ble_eq_true rfl, Nat.le_of_ble_eq_true rfl⟩) hP hD hS hA [0, 2] [1, 3, 4, 5, 6] [5, 0, 6, 1, 2, 3, 4] rfl rfl (by decide) (by decide) rfl (by decide) (fun H locs hP hD hS => ?_)
      refine lv_if_ne (tgt := 27) hx hb dX5_byOrders_21 (by decide) (fun c6 => ?_) (fun c6 => ?_)
      · have hB := xin c6 hB
        refine lv_iconst (v := 0) hx hb dX5_byOrders_27 (by decide) ?_
        refine lv_istore (lv' := [(4, .int (0 : Int32)), (0, .ref a_x), (1, .int p1), (2, .int p2), (3, .int p3)]) hx hb dX5_byOrders_28 hl (by decide) rfl (fun ls hl => ?_)
        exact B_X5_byOrders_30 (p1 := p1) (p2 := p2) (p3 := p3) C0 xF (0 : Int32) v_pcl H locs ls hP hD hS (lv_sub hl [1, 2, 3, 4, 0] rfl) hB
      · have hB := xip c6 hB
        refine lv_ldc (v := -10000001) hx hb hown (hts _ kX5_byOrders_c67) dX5_byOrders_24 ?_
        have hB := Option.some.inj hB
        subst hB
        exact W.iret hx hb hr (fun t ht hW => ⟨⟨_, (), rfl, rfl, by rw [ht]; exact hP, va_K.moved hW.alike hK, hD⟩, hS.F ht⟩) hS.2.2 dX5_byOrders_26 hlocks
set_option maxHeartbeats 4000000 in
set_option maxRecDepth 100000 in
theorem c_X5_byOrders (l : Launch) (D : va_G) (y : Nat → ClassId) (a_x : Nat) (a_known : Nat) (a_so : Nat) (a_made : Nat) (a_pcl : Nat) (a_hi : Nat) (a_tx : Nat) (a_rd : Nat) (a_tb : Nat) (a_o : Nat) (a_od : Nat) (a_op : Nat) (a_oi : Nat) (a_ov : Nat) (a_of : Nat) (a_ol : Nat) (a_om : Nat) (a_ow : Nat) (lm_o : Nat) (ls_o : Nat) (lp_o : Nat) (v_pcl : Nat → Int64) (f_o_n : Int32) (f_o_many : Int32) (f_o_sets : Int32) (v_od : Nat → Int32) (v_ov : Nat → Int32) (v_of : Nat → Int32) (v_om : Nat → Int32) (p1 : Int32) (p2 : Int32) (p3 : Int32) (sz : Nat) {R : Int32 × (Nat → Int64)} (hF : F_X5_byOrders lm_o ls_o lp_o f_o_many f_o_sets v_od v_ov v_of v_om p1 p2 p3 v_pcl = some R) : Met l yX5_byOrders wsX5_byOrders ({ frames := 2, cells := 0, slots := 0, locals := 47 } : Room) (xPre D y sz [.ref a_x, .int p1, .int p2, .int p3] [(a_x, .inr (5, [.ref a_known, .ref a_so, .ref a_made, .ref a_pcl, .ref a_hi, .ref a_tx, .ref a_rd, .ref a_tb, .ref a_o])), (a_pcl, .inl (y 1, 16, .inr (.inl v_pcl))), (a_o, .inr (1, [.int f_o_n, .int f_o_many, .int f_o_sets, .ref a_od, .ref a_op, .ref a_oi, .ref a_ov, .ref a_of, .ref a_ol, .ref a_om, .ref a_ow])), (a_od, .inl (y 0, lm_o, .inl v_od)), (a_ov, .inl (y 0, lm_o, .inl v_ov)), (a_of, .inl (y 0, ls_o, .inl v_of)), (a_om, .inl (y 0, lp_o, .inl v_om))]) (va_Qi (fun (r : Int32) (_ : Unit) => r = R.1) (xB D y (va_A [(a_x, .inr (5, [.ref a_known, .ref a_so, .ref a_made, .ref a_pcl, .ref a_hi, .ref a_tx, .ref a_rd, .ref a_tb, .ref a_o])), (a_pcl, .inl (y 1, 16, .inr (.inl v_pcl))), (a_o, .inr (1, [.int f_o_n, .int f_o_many, .int f_o_sets, .ref a_od, .ref a_op, .ref a_oi, .ref a_ov, .ref a_of, .ref a_ol, .ref a_om, .ref a_ow])), (a_od, .inl (y 0, lm_o, .inl v_od)), (a_ov, .inl (y 0, lm_o, .inl v_ov)), (a_of, .inl (y 0, ls_o, .inl v_of)), (a_om, .inl (y 0, lp_o, .inl v_om))] sz) [(a_x, .inr (5, [.ref a_known, .ref a_so, .ref a_made, .ref a_pcl, .ref a_hi, .ref a_tx, .ref a_rd, .ref a_tb, .ref a_o])), (a_pcl, .inl (y 1, 16, .inr (.inl R.2))), (a_o, .inr (1, [.int f_o_n, .int f_o_many, .int f_o_sets, .ref a_od, .ref a_op, .ref a_oi, .ref a_ov, .ref a_of, .ref a_ol, .ref a_om, .ref a_ow])), (a_od, .inl (y 0, lm_o, .inl v_od)), (a_ov, .inl (y 0, lm_o, .inl v_ov)), (a_of, .inl (y 0, ls_o, .inl v_of)), (a_om, .inl (y 0, lp_o, .inl v_om))]) (va_A [(a_x, .inr (5, [.ref a_known, .ref a_so, .ref a_made, .ref a_pcl, .ref a_hi, .ref a_tx, .ref a_rd, .ref a_tb, .ref a_o])), (a_pcl, .inl (y 1, 16, .inr (.inl v_pcl))), (a_o, .inr (1, [.int f_o_n, .int f_o_many, .int f_o_sets, .ref a_od, .ref a_op, .ref a_oi, .ref a_ov, .ref a_of, .ref a_ol, .ref a_om, .ref a_ow])), (a_od, .inl (y 0, lm_o, .inl v_od)), (a_ov, .inl (y 0, lm_o, .inl v_ov)), (a_of, .inl (y 0, ls_o, .inl v_of)), (a_om, .inl (y 0, lp_o, .inl v_om))] sz)) 0 0 (va_A [(a_x, .inr (5, [.ref a_known, .ref a_so, .ref a_made, .ref a_pcl, .ref a_hi, .ref a_tx, .ref a_rd, .ref a_tb, .ref a_o])), (a_pcl, .inl (y 1, 16, .inr (.inl v_pcl))), (a_o, .inr (1, [.int f_o_n, .int f_o_many, .int f_o_sets, .ref a_od, .ref a_op, .ref a_oi, .ref a_ov, .ref a_of, .ref a_ol, .ref a_om, .ref a_ow])), (a_od, .inl (y 0, lm_o, .inl v_od)), (a_ov, .inl (y 0, lm_o, .inl v_ov)), (a_of, .inl (y 0, ls_o, .inl v_of)), (a_om, .inl (y 0, lp_o, .inl v_om))] sz) := by
  refine Met.ofW (cc := cX5_byOrders) (maxL := 5) (ret := (some .int)) (by decide) rfl ?_
  intro p e s m args below meth c s₁ B hml hv
  obtain ⟨rfl, hsz, hP, hK, hD0⟩ := hv
  subst hsz
  have hD := hD0.self (sz := s.heap.size)
  have C : xC p s m [.ref a_x, .int p1, .int p2, .int p3].toArray meth c (va_A [(a_x, .inr (5, [.ref a_known, .ref a_so, .ref a_made, .ref a_pcl, .ref a_hi, .ref a_tx, .ref a_rd, .ref a_tb, .ref a_o])), (a_pcl, .inl (y 1, 16, .inr (.inl v_pcl))), (a_o, .inr (1, [.int f_o_n, .int f_o_many, .int f_o_sets, .ref a_od, .ref a_op, .ref a_oi, .ref a_ov, .ref a_of, .ref a_ol, .ref a_om, .ref a_ow])), (a_od, .inl (y 0, lm_o, .inl v_od)), (a_ov, .inl (y 0, lm_o, .inl v_ov)), (a_of, .inl (y 0, ls_o, .inl v_of)), (a_om, .inl (y 0, lp_o, .inl v_om))] s.heap.size) cX5_byOrders RX5 wsX5_byOrders 5 (some .int) D y := ⟨B.exec, B.bytes, hml, findClass_of_methodNamed B.named, atoms_spec (ws := wsX5_byOrders) B.pre, B.returns, B.notSynchronized, hK, fun q h => Or.inr h⟩
  have hl := lv_entry ([.ref a_x, .int p1, .int p2, .int p3]) (n := 5) (Nat.le_of_ble_eq_true rfl)
  rw [lg_entry_eq]
  generalize (lg_sl ([.ref a_x, .int p1, .int p2, .int p3]) ++ List.replicate (5 - (lg_sl ([.ref a_x, .int p1, .int p2, .int p3])).length) Slot.unset).toArray = ls at hl ⊢
  have hl : lv_has ls 5 [(0, .ref a_x), (1, .int p1), (2, .int p2), (3, .int p3)] := hl
  exact B_X5_byOrders_0 (p1 := p1) (p2 := p2) (p3 := p3) C v_pcl s.heap [] ls hP hD va_S.rf hl hF

def S_X3_cut_35 (p : Program) (l : Launch) (e : Env) (s : State) (m : MethodId) (args : Array Value) (below : List Frame) (meth : Method) (c : Code) (A : Nat → Prop) (D : va_G) (y : Nat → ClassId) (a_pa : Nat) (n_pa : Nat) (p0 : Int32) (p1 : Int32) (R : Int32 × (Nat → Int32)) (κ : Int32 → Int32 → Int32 → (Nat → Int32) → Option (Int32 × (Nat → Int32))) : Prop := ∀ (x3 : Int32) (x4 : Int32) (x5 : Int32) (v_pa : Nat → Int32) (H : Heap) (locs : List Loc) (ls : Array Slot), va_P D vwCl [(a_pa, .inl (y 0, n_pa, .inl v_pa))] H → va_D A [(a_pa, .inl (y 0, n_pa, .inl v_pa))] → va_S A s.heap H locs → lv_has ls 6 [(0, .int p0), (1, .int p1), (2, .ref a_pa), (3, .int x3), (4, .int x4), (5, .int x5)] → κ x3 x4 x5 v_pa = some R → W p l e ({ frames := 0, cells := 0, slots := 0, locals := 0 } : Room) s m args below meth c H locs 0 0 (MQ below (va_Qi (fun (r : Int32) (_ : Unit) => r = R.1) (xB D y A [(a_pa, .inl (y 0, n_pa, .inl R.2))]) A) args s 0 0 A) (F0 m 35 ls [])
def S_X3_cut_8 (p : Program) (l : Launch) (e : Env) (s : State) (m : MethodId) (args : Array Value) (below : List Frame) (meth : Method) (c : Code) (A : Nat → Prop) (D : va_G) (y : Nat → ClassId) (a_pa : Nat) (n_pa : Nat) (p0 : Int32) (p1 : Int32) (R : Int32 × (Nat → Int32)) (κ : Int32 → Int32 → Int32 → (Nat → Int32) → Option (Int32 × (Nat → Int32))) : Prop := ∀ (x3 : Int32) (x4 : Int32) (x5 : Int32) (v_pa : Nat → Int32) (H : Heap) (locs : List Loc) (ls : Array Slot), va_P D vwCl [(a_pa, .inl (y 0, n_pa, .inl v_pa))] H → va_D A [(a_pa, .inl (y 0, n_pa, .inl v_pa))] → va_S A s.heap H locs → lv_has ls 6 [(0, .int p0), (1, .int p1), (2, .ref a_pa), (3, .int x3), (4, .int x4), (5, .int x5)] → κ x3 x4 x5 v_pa = some R → W p l e ({ frames := 0, cells := 0, slots := 0, locals := 0 } : Room) s m args below meth c H locs 0 0 (MQ below (va_Qi (fun (r : Int32) (_ : Unit) => r = R.1) (xB D y A [(a_pa, .inl (y 0, n_pa, .inl R.2))]) A) args s 0 0 A) (F0 m 8 ls [])
def S_X3_cut_0 (p : Program) (l : Launch) (e : Env) (s : State) (m : MethodId) (args : Array Value) (below : List Frame) (meth : Method) (c : Code) (A : Nat → Prop) (D : va_G) (y : Nat → ClassId) (a_pa : Nat) (n_pa : Nat) (p0 : Int32) (p1 : Int32) (R : Int32 × (Nat → Int32)) (κ : (Nat → Int32) → Option (Int32 × (Nat → Int32))) : Prop := ∀ (v_pa : Nat → Int32) (H : Heap) (locs : List Loc) (ls : Array Slot), va_P D vwCl [(a_pa, .inl (y 0, n_pa, .inl v_pa))] H → va_D A [(a_pa, .inl (y 0, n_pa, .inl v_pa))] → va_S A s.heap H locs → lv_has ls 6 [(0, .int p0), (1, .int p1), (2, .ref a_pa)] → κ v_pa = some R → W p l e ({ frames := 0, cells := 0, slots := 0, locals := 0 } : Room) s m args below meth c H locs 0 0 (MQ below (va_Qi (fun (r : Int32) (_ : Unit) => r = R.1) (xB D y A [(a_pa, .inl (y 0, n_pa, .inl R.2))]) A) args s 0 0 A) (F0 m 0 ls [])
set_option maxHeartbeats 4000000 in
set_option maxRecDepth 100000 in
theorem B_X3_cut_35 {p : Program} {l : Launch} {e : Env} {s : State} {m : MethodId} {args : Array Value} {below : List Frame} {meth : Method} {c : Code} {A : Nat → Prop} {D : va_G} {y : Nat → ClassId} {a_pa : Nat} {n_pa : Nat} {p0 : Int32} {p1 : Int32} {R : Int32 × (Nat → Int32)} (C : xC p s m args meth c A cX3_cut RX3 wsX3_cut 6 (some .int) D y) {κ8 : Int32 → Int32 → Int32 → (Nat → Int32) → Option (Int32 × (Nat → Int32))} (k8 : S_X3_cut_8 p l e s m args below meth c A D y a_pa n_pa p0 p1 R κ8) : S_X3_cut_35 p l e s m args below meth c A D y a_pa n_pa p0 p1 R (F_X3_cut_35 n_pa κ8) := by
  have C0 := C
  obtain ⟨hx, hb, hml, hown, hts, hr, hlocks, hK, hA⟩ := C
  intro x3 x4 x5 v_pa H locs ls hP hD hS hl hB
  unfold F_X3_cut_35 at hB
  refine lv_aload_n hx hb dX3_cut_35 rfl (lv_at hl 2 rfl) ?_
  refine lv_iload_n hx hb dX3_cut_36 rfl (lv_at hl 3 rfl) ?_
  refine lv_iload hx hb dX3_cut_37 (lv_at hl 4 rfl) ?_
  obtain ⟨g1, hB⟩ := xg_some hB
  refine va_iast hx hb hK hP hD hS 0 0 rfl rfl g1 dX3_cut_39 (fun H locs hP hD hS => ?_)
  have hP : va_P D vwCl [(a_pa, .inl (y 0, n_pa, .inl (upd v_pa x3.toNatClampNeg x4)))] H := hP
  have hD : va_D A [(a_pa, .inl (y 0, n_pa, .inl (upd v_pa x3.toNatClampNeg x4)))] := hD
  refine lv_iinc (v := x3 + 1) (lv' := [(3, .int (x3 + 1)), (0, .int p0), (1, .int p1), (2, .ref a_pa), (4, .int x4), (5, .int x5)]) hx hb dX3_cut_40 hl (k := 3) rfl rfl (by decide) rfl (fun ls hl => ?_)
  refine lv_iconst (v := 0) hx hb dX3_cut_43 (by decide) ?_
  refine lv_istore (lv' := [(4, .int (0 : Int32)), (3, .int (x3 + 1)), (0, .int p0), (1, .int p1), (2, .ref a_pa), (5, .int x5)]) hx hb dX3_cut_44 hl (by decide) rfl (fun ls hl => ?_)
  refine lv_iinc (v := x5 + 1) (lv' := [(5, .int (x5 + 1)), (4, .int (0 : Int32)), (3, .int (x3 + 1)), (0, .int p0), (1, .int p1), (2, .ref a_pa)]) hx hb dX3_cut_46 hl (k := 5) rfl rfl (by decide) rfl (fun ls hl => ?_)
  refine lv_goto (tgt := 8) hx hb dX3_cut_49 (by decide) ?_
  exact k8 (x3 + 1) (0 : Int32) (x5 + 1) (upd v_pa x3.toNatClampNeg x4) H locs ls hP hD hS (lv_sub hl [3, 4, 5, 2, 1, 0] rfl) hB
set_option maxHeartbeats 4000000 in
set_option maxRecDepth 100000 in
theorem B_X3_cut_8 {p : Program} {l : Launch} {e : Env} {s : State} {m : MethodId} {args : Array Value} {below : List Frame} {meth : Method} {c : Code} {A : Nat → Prop} {D : va_G} {y : Nat → ClassId} {a_pa : Nat} {n_pa : Nat} {p0 : Int32} {p1 : Int32} {R : Int32 × (Nat → Int32)} (C : xC p s m args meth c A cX3_cut RX3 wsX3_cut 6 (some .int) D y)  : ∀ f : Nat, S_X3_cut_8 p l e s m args below meth c A D y a_pa n_pa p0 p1 R (F_X3_cut_8 n_pa p0 p1  f) := by
  have C0 := C
  obtain ⟨hx, hb, hml, hown, hts, hr, hlocks, hK, hA⟩ := C
  intro f
  induction f with
  | zero =>
    intro x3 x4 x5 v_pa H locs ls hP hD hS hl hB
    rw [Z_X3_cut_8] at hB
    cases hB
  | succ f ih =>
    intro x3 x4 x5 v_pa H locs ls hP hD hS hl hB
    rw [E_X3_cut_8] at hB
    refine lv_iload hx hb dX3_cut_8 (lv_at hl 5 rfl) ?_
    refine lv_iload_n hx hb dX3_cut_10 rfl (lv_at hl 0 rfl) ?_
    refine lv_icmp_ge (tgt := 52) hx hb dX3_cut_11 (by decide) (fun c1 => ?_) (fun c1 => ?_)
    · have hB := xip c1 hB
      refine lv_iload_n hx hb dX3_cut_52 rfl (lv_at hl 3 rfl) ?_
      have hB := Option.some.inj hB
      subst hB
      exact W.iret hx hb hr (fun t ht hW => ⟨⟨_, (), rfl, rfl, by rw [ht]; exact hP, va_K.moved hW.alike hK, hD⟩, hS.F ht⟩) hS.2.2 dX3_cut_53 hlocks
    · have hB := xin c1 hB
      refine lv_iinc (v := x4 + 1) (lv' := [(4, .int (x4 + 1)), (0, .int p0), (1, .int p1), (2, .ref a_pa), (3, .int x3), (5, .int x5)]) hx hb dX3_cut_14 hl (k := 4) rfl rfl (by decide) rfl (fun ls hl => ?_)
      refine lv_iload hx hb dX3_cut_17 (lv_at hl 5 rfl) ?_
      refine lv_iload_n hx hb dX3_cut_19 rfl (lv_at hl 1 rfl) ?_
      refine lv_iconst (v := 1) hx hb dX3_cut_20 (by decide) ?_
      refine lv_isub hx hb dX3_cut_21 ?_
      refine lv_icmp_eq (tgt := 35) hx hb dX3_cut_22 (by decide) (fun c2 => ?_) (fun c2 => ?_)
      · have hB := xip c2 hB
        exact B_X3_cut_35 (p0 := p0) (p1 := p1) C0 ih x3 (x4 + 1) x5 v_pa H locs ls hP hD hS (lv_sub hl [1, 2, 3, 4, 0, 5] rfl) hB
      · have hB := xin c2 hB
        refine lv_iload_n hx hb dX3_cut_25 rfl (lv_at hl 2 rfl) ?_
        refine lv_iload hx hb dX3_cut_26 (lv_at hl 5 rfl) ?_
        refine lv_ishr hx hb dX3_cut_28 ?_
        refine lv_iconst (v := 1) hx hb dX3_cut_29 (by decide) ?_
        refine lv_iand hx hb dX3_cut_30 ?_
        refine lv_iconst (v := 1) hx hb dX3_cut_31 (by decide) ?_
        refine lv_icmp_ne (tgt := 46) hx hb dX3_cut_32 (by decide) (fun c3 => ?_) (fun c3 => ?_)
        · have hB := xin c3 hB
          refine lv_iinc (v := x5 + 1) (lv' := [(5, .int (x5 + 1)), (4, .int (x4 + 1)), (0, .int p0), (1, .int p1), (2, .ref a_pa), (3, .int x3)]) hx hb dX3_cut_46 hl (k := 5) rfl rfl (by decide) rfl (fun ls hl => ?_)
          refine lv_goto (tgt := 8) hx hb dX3_cut_49 (by decide) ?_
          exact ih x3 (x4 + 1) (x5 + 1) v_pa H locs ls hP hD hS (lv_sub hl [2, 3, 4, 5, 1, 0] rfl) hB
        · have hB := xip c3 hB
          exact B_X3_cut_35 (p0 := p0) (p1 := p1) C0 ih x3 (x4 + 1) x5 v_pa H locs ls hP hD hS (lv_sub hl [1, 2, 3, 4, 0, 5] rfl) hB
set_option maxHeartbeats 4000000 in
set_option maxRecDepth 100000 in
theorem B_X3_cut_0 {p : Program} {l : Launch} {e : Env} {s : State} {m : MethodId} {args : Array Value} {below : List Frame} {meth : Method} {c : Code} {A : Nat → Prop} {D : va_G} {y : Nat → ClassId} {a_pa : Nat} {n_pa : Nat} {p0 : Int32} {p1 : Int32} {R : Int32 × (Nat → Int32)} (C : xC p s m args meth c A cX3_cut RX3 wsX3_cut 6 (some .int) D y)  : S_X3_cut_0 p l e s m args below meth c A D y a_pa n_pa p0 p1 R (F_X3_cut n_pa p0 p1 ) := by
  have C0 := C
  obtain ⟨hx, hb, hml, hown, hts, hr, hlocks, hK, hA⟩ := C
  intro v_pa H locs ls hP hD hS hl hB
  unfold F_X3_cut at hB
  refine lv_iconst (v := 0) hx hb dX3_cut_0 (by decide) ?_
  refine lv_istore_n (lv' := [(3, .int (0 : Int32)), (0, .int p0), (1, .int p1), (2, .ref a_pa)]) hx hb dX3_cut_1 rfl hl (by decide) rfl (fun ls hl => ?_)
  refine lv_iconst (v := 0) hx hb dX3_cut_2 (by decide) ?_
  refine lv_istore (lv' := [(4, .int (0 : Int32)), (3, .int (0 : Int32)), (0, .int p0), (1, .int p1), (2, .ref a_pa)]) hx hb dX3_cut_3 hl (by decide) rfl (fun ls hl => ?_)
  refine lv_iconst (v := 0) hx hb dX3_cut_5 (by decide) ?_
  refine lv_istore (lv' := [(5, .int (0 : Int32)), (4, .int (0 : Int32)), (3, .int (0 : Int32)), (0, .int p0), (1, .int p1), (2, .ref a_pa)]) hx hb dX3_cut_6 hl (by decide) rfl (fun ls hl => ?_)
  exact B_X3_cut_8 (p0 := p0) (p1 := p1) C0 xF (0 : Int32) (0 : Int32) (0 : Int32) v_pa H locs ls hP hD hS (lv_sub hl [3, 4, 5, 2, 1, 0] rfl) hB
set_option maxHeartbeats 4000000 in
set_option maxRecDepth 100000 in
theorem c_X3_cut (l : Launch) (D : va_G) (y : Nat → ClassId) (a_pa : Nat) (n_pa : Nat) (v_pa : Nat → Int32) (p0 : Int32) (p1 : Int32) (sz : Nat) {R : Int32 × (Nat → Int32)} (hF : F_X3_cut n_pa p0 p1 v_pa = some R) : Met l yX3_cut wsX3_cut ({ frames := 0, cells := 0, slots := 0, locals := 0 } : Room) (xPre D y sz [.int p0, .int p1, .ref a_pa] [(a_pa, .inl (y 0, n_pa, .inl v_pa))]) (va_Qi (fun (r : Int32) (_ : Unit) => r = R.1) (xB D y (va_A [(a_pa, .inl (y 0, n_pa, .inl v_pa))] sz) [(a_pa, .inl (y 0, n_pa, .inl R.2))]) (va_A [(a_pa, .inl (y 0, n_pa, .inl v_pa))] sz)) 0 0 (va_A [(a_pa, .inl (y 0, n_pa, .inl v_pa))] sz) := by
  refine Met.ofW (cc := cX3_cut) (maxL := 6) (ret := (some .int)) (by decide) rfl ?_
  intro p e s m args below meth c s₁ B hml hv
  obtain ⟨rfl, hsz, hP, hK, hD0⟩ := hv
  subst hsz
  have hD := hD0.self (sz := s.heap.size)
  have C : xC p s m [.int p0, .int p1, .ref a_pa].toArray meth c (va_A [(a_pa, .inl (y 0, n_pa, .inl v_pa))] s.heap.size) cX3_cut RX3 wsX3_cut 6 (some .int) D y := ⟨B.exec, B.bytes, hml, findClass_of_methodNamed B.named, atoms_spec (ws := wsX3_cut) B.pre, B.returns, B.notSynchronized, hK, fun q h => Or.inr h⟩
  have hl := lv_entry ([.int p0, .int p1, .ref a_pa]) (n := 6) (Nat.le_of_ble_eq_true rfl)
  rw [lg_entry_eq]
  generalize (lg_sl ([.int p0, .int p1, .ref a_pa]) ++ List.replicate (6 - (lg_sl ([.int p0, .int p1, .ref a_pa])).length) Slot.unset).toArray = ls at hl ⊢
  have hl : lv_has ls 6 [(0, .int p0), (1, .int p1), (2, .ref a_pa)] := hl
  exact B_X3_cut_0 (p0 := p0) (p1 := p1) C v_pa s.heap [] ls hP hD va_S.rf hl hF

def S_X3_withCut_0 (p : Program) (l : Launch) (e : Env) (s : State) (m : MethodId) (args : Array Value) (below : List Frame) (meth : Method) (c : Code) (A : Nat → Prop) (D : va_G) (y : Nat → ClassId) (p0 : Int32) (p1 : Int32) (p2 : Int32) (R : Int32) (κ : Option (Int32)) : Prop := ∀ (H : Heap) (locs : List Loc) (ls : Array Slot), va_P D vwCl [] H → va_D A [] → va_S A s.heap H locs → lv_has ls 3 [(0, .int p0), (1, .int p1), (2, .int p2)] → κ = some R → W p l e ({ frames := 0, cells := 0, slots := 0, locals := 0 } : Room) s m args below meth c H locs 0 0 (MQ below (va_Qi (fun (r : Int32) (_ : Unit) => r = R) (xB D y A []) A) args s 0 0 A) (F0 m 0 ls [])
set_option maxHeartbeats 4000000 in
set_option maxRecDepth 100000 in
theorem B_X3_withCut_0 {p : Program} {l : Launch} {e : Env} {s : State} {m : MethodId} {args : Array Value} {below : List Frame} {meth : Method} {c : Code} {A : Nat → Prop} {D : va_G} {y : Nat → ClassId} {p0 : Int32} {p1 : Int32} {p2 : Int32} {R : Int32} (C : xC p s m args meth c A cX3_withCut RX3 wsX3_withCut 3 (some .int) D y)  : S_X3_withCut_0 p l e s m args below meth c A D y p0 p1 p2 R (F_X3_withCut p0 p1 p2 ) := by
  have C0 := C
  obtain ⟨hx, hb, hml, hown, hts, hr, hlocks, hK, hA⟩ := C
  intro H locs ls hP hD hS hl hB
  unfold F_X3_withCut at hB
  refine lv_iload_n hx hb dX3_withCut_0 rfl (lv_at hl 1 rfl) ?_
  refine lv_if_le (tgt := 19) hx hb dX3_withCut_1 (by decide) (fun c1 => ?_) (fun c1 => ?_)
  · have hB := xip c1 hB
    refine lv_iload_n hx hb dX3_withCut_19 rfl (lv_at hl 2 rfl) ?_
    have hB := Option.some.inj hB
    subst hB
    exact W.iret hx hb hr (fun t ht hW => ⟨⟨_, (), rfl, rfl, by rw [ht]; exact hP, va_K.moved hW.alike hK, hD⟩, hS.F ht⟩) hS.2.2 dX3_withCut_20 hlocks
  · have hB := xin c1 hB
    refine lv_iload_n hx hb dX3_withCut_4 rfl (lv_at hl 1 rfl) ?_
    refine lv_iload_n hx hb dX3_withCut_5 rfl (lv_at hl 0 rfl) ?_
    refine lv_icmp_ge (tgt := 19) hx hb dX3_withCut_6 (by decide) (fun c2 => ?_) (fun c2 => ?_)
    · have hB := xip c2 hB
      refine lv_iload_n hx hb dX3_withCut_19 rfl (lv_at hl 2 rfl) ?_
      have hB := Option.some.inj hB
      subst hB
      exact W.iret hx hb hr (fun t ht hW => ⟨⟨_, (), rfl, rfl, by rw [ht]; exact hP, va_K.moved hW.alike hK, hD⟩, hS.F ht⟩) hS.2.2 dX3_withCut_20 hlocks
    · have hB := xin c2 hB
      refine lv_iload_n hx hb dX3_withCut_9 rfl (lv_at hl 2 rfl) ?_
      refine lv_iconst (v := 1) hx hb dX3_withCut_10 (by decide) ?_
      refine lv_iload_n hx hb dX3_withCut_11 rfl (lv_at hl 1 rfl) ?_
      refine lv_iconst (v := 1) hx hb dX3_withCut_12 (by decide) ?_
      refine lv_isub hx hb dX3_withCut_13 ?_
      refine lv_ishl hx hb dX3_withCut_14 ?_
      refine lv_ior hx hb dX3_withCut_15 ?_
      refine lv_goto (tgt := 20) hx hb dX3_withCut_16 (by decide) ?_
      have hB := Option.some.inj hB
      subst hB
      exact W.iret hx hb hr (fun t ht hW => ⟨⟨_, (), rfl, rfl, by rw [ht]; exact hP, va_K.moved hW.alike hK, hD⟩, hS.F ht⟩) hS.2.2 dX3_withCut_20 hlocks
set_option maxHeartbeats 4000000 in
set_option maxRecDepth 100000 in
theorem c_X3_withCut (l : Launch) (D : va_G) (y : Nat → ClassId)    (p0 : Int32) (p1 : Int32) (p2 : Int32) (sz : Nat) {R : Int32} (hF : F_X3_withCut p0 p1 p2 = some R) : Met l yX3_withCut wsX3_withCut ({ frames := 0, cells := 0, slots := 0, locals := 0 } : Room) (xPre D y sz [.int p0, .int p1, .int p2] []) (va_Qi (fun (r : Int32) (_ : Unit) => r = R) (xB D y (va_A [] sz) []) (va_A [] sz)) 0 0 (va_A [] sz) := by
  refine Met.ofW (cc := cX3_withCut) (maxL := 3) (ret := (some .int)) (by decide) rfl ?_
  intro p e s m args below meth c s₁ B hml hv
  obtain ⟨rfl, hsz, hP, hK, hD0⟩ := hv
  subst hsz
  have hD := hD0.self (sz := s.heap.size)
  have C : xC p s m [.int p0, .int p1, .int p2].toArray meth c (va_A [] s.heap.size) cX3_withCut RX3 wsX3_withCut 3 (some .int) D y := ⟨B.exec, B.bytes, hml, findClass_of_methodNamed B.named, atoms_spec (ws := wsX3_withCut) B.pre, B.returns, B.notSynchronized, hK, fun q h => Or.inr h⟩
  have hl := lv_entry ([.int p0, .int p1, .int p2]) (n := 3) (Nat.le_of_ble_eq_true rfl)
  rw [lg_entry_eq]
  generalize (lg_sl ([.int p0, .int p1, .int p2]) ++ List.replicate (3 - (lg_sl ([.int p0, .int p1, .int p2])).length) Slot.unset).toArray = ls at hl ⊢
  have hl : lv_has ls 3 [(0, .int p0), (1, .int p1), (2, .int p2)] := hl
  exact B_X3_withCut_0 (p0 := p0) (p1 := p1) (p2 := p2) C  s.heap [] ls hP hD va_S.rf hl hF
theorem kX3_ways_f21 : Cond.fieldLink RX3 21 "DescentShuffles$Tables" "wanted" "I" ∈ wsX3_ways := by decide +kernel
theorem kX3_ways_wX3 : ∀ w ∈ u_ws RX3 TX3 6, w ∈ wsX3_ways := by decide +kernel
theorem kX3_ways_f18 : Cond.fieldLink RX3 18 "DescentShuffles$Tables" "down" "I" ∈ wsX3_ways := by decide +kernel
theorem kX3_ways_f24 : Cond.fieldLink RX3 24 "DescentShuffles$Tables" "rows" "[I" ∈ wsX3_ways := by decide +kernel
theorem kX3_ways_f15 : Cond.fieldLink RX3 15 "DescentShuffles$Tables" "across" "I" ∈ wsX3_ways := by decide +kernel
theorem kX3_ways_f28 : Cond.fieldLink RX3 28 "DescentShuffles$Tables" "columns" "[I" ∈ wsX3_ways := by decide +kernel
theorem kX3_ways_l39 : Cond.methodLink RX3 39 Lib.Math.min.name ∈ wsX3_ways := by decide +kernel
theorem kX3_ways_smin : Cond.static Lib.Math.min.name ∈ wsX3_ways := by decide +kernel
theorem kX3_ways_iMath : Cond.initialized "java/lang/Math" ∈ wsX3_ways := by decide +kernel
theorem kX3_ways_omin : Cond.code Lib.Math.min.name Lib.Math.min.code 2 (some .int) ∈ wsX3_ways := by decide +kernel
theorem kX3_ways_f9 : Cond.fieldLink RX3 9 "DescentShuffles$Tables" "n" "I" ∈ wsX3_ways := by decide +kernel
def S_X3_ways_12 (p : Program) (l : Launch) (e : Env) (s : State) (m : MethodId) (args : Array Value) (below : List Frame) (meth : Method) (c : Code) (A : Nat → Prop) (D : va_G) (y : Nat → ClassId) (d : Nat) (a_tb : Nat) (a_tr : Nat) (a_tc : Nat) (f_tb_n : Int32) (f_tb_across : Int32) (f_tb_down : Int32) (f_tb_wanted : Int32) (R : Int32 × (Nat → Int32) × (Nat → Int32)) (κ : Int32 → (Nat → Int32) → (Nat → Int32) → Option (Int32 × (Nat → Int32) × (Nat → Int32))) : Prop := ∀ (x4 : Int32) (v_tr : Nat → Int32) (v_tc : Nat → Int32) (H : Heap) (locs : List Loc) (ls : Array Slot), va_P D vwCl [(a_tb, .inr (3, [.int f_tb_n, .int f_tb_across, .int f_tb_down, .int f_tb_wanted, .ref a_tr, .ref a_tc])), (a_tr, .inl (y 0, 5, .inl v_tr)), (a_tc, .inl (y 0, 5, .inl v_tc))] H → va_D A [(a_tb, .inr (3, [.int f_tb_n, .int f_tb_across, .int f_tb_down, .int f_tb_wanted, .ref a_tr, .ref a_tc])), (a_tr, .inl (y 0, 5, .inl v_tr)), (a_tc, .inl (y 0, 5, .inl v_tc))] → va_S A s.heap H locs → lv_has ls 8 [(0, .ref a_tb), (4, .int x4)] → κ x4 v_tr v_tc = some R → W p l e ({ frames := d + 2, cells := 0, slots := 0, locals := 27 * d + 57 } : Room) s m args below meth c H locs 0 0 (MQ below (va_Qi (fun (r : Int32) (_ : Unit) => r = R.1) (xB D y A [(a_tb, .inr (3, [.int f_tb_n, .int f_tb_across, .int f_tb_down, .int f_tb_wanted, .ref a_tr, .ref a_tc])), (a_tr, .inl (y 0, 5, .inl R.2.1)), (a_tc, .inl (y 0, 5, .inl R.2.2))]) A) args s 0 0 A) (F0 m 12 ls [])
def S_X3_ways_47 (p : Program) (l : Launch) (e : Env) (s : State) (m : MethodId) (args : Array Value) (below : List Frame) (meth : Method) (c : Code) (A : Nat → Prop) (D : va_G) (y : Nat → ClassId) (d : Nat) (a_tb : Nat) (a_tr : Nat) (a_tc : Nat) (f_tb_n : Int32) (f_tb_across : Int32) (f_tb_down : Int32) (f_tb_wanted : Int32) (R : Int32 × (Nat → Int32) × (Nat → Int32)) (κ : Int32 → Int32 → Int32 → (Nat → Int32) → (Nat → Int32) → Option (Int32 × (Nat → Int32) × (Nat → Int32))) : Prop := ∀ (x1 : Int32) (x3 : Int32) (x4 : Int32) (v_tr : Nat → Int32) (v_tc : Nat → Int32) (H : Heap) (locs : List Loc) (ls : Array Slot), va_P D vwCl [(a_tb, .inr (3, [.int f_tb_n, .int f_tb_across, .int f_tb_down, .int f_tb_wanted, .ref a_tr, .ref a_tc])), (a_tr, .inl (y 0, 5, .inl v_tr)), (a_tc, .inl (y 0, 5, .inl v_tc))] H → va_D A [(a_tb, .inr (3, [.int f_tb_n, .int f_tb_across, .int f_tb_down, .int f_tb_wanted, .ref a_tr, .ref a_tc])), (a_tr, .inl (y 0, 5, .inl v_tr)), (a_tc, .inl (y 0, 5, .inl v_tc))] → va_S A s.heap H locs → lv_has ls 8 [(0, .ref a_tb), (1, .int x1), (3, .int x3), (4, .int x4)] → κ x1 x3 x4 v_tr v_tc = some R → W p l e ({ frames := d + 2, cells := 0, slots := 0, locals := 27 * d + 57 } : Room) s m args below meth c H locs 0 0 (MQ below (va_Qi (fun (r : Int32) (_ : Unit) => r = R.1) (xB D y A [(a_tb, .inr (3, [.int f_tb_n, .int f_tb_across, .int f_tb_down, .int f_tb_wanted, .ref a_tr, .ref a_tc])), (a_tr, .inl (y 0, 5, .inl R.2.1)), (a_tc, .inl (y 0, 5, .inl R.2.2))]) A) args s 0 0 A) (F0 m 47 ls [])
def S_X3_ways_95 (p : Program) (l : Launch) (e : Env) (s : State) (m : MethodId) (args : Array Value) (below : List Frame) (meth : Method) (c : Code) (A : Nat → Prop) (D : va_G) (y : Nat → ClassId) (d : Nat) (a_tb : Nat) (a_tr : Nat) (a_tc : Nat) (f_tb_n : Int32) (f_tb_across : Int32) (f_tb_down : Int32) (f_tb_wanted : Int32) (R : Int32 × (Nat → Int32) × (Nat → Int32)) (κ : Int32 → Int32 → Int32 → Int32 → Int32 → Int32 → Int32 → (Nat → Int32) → (Nat → Int32) → Option (Int32 × (Nat → Int32) × (Nat → Int32))) : Prop := ∀ (x1 : Int32) (x2 : Int32) (x3 : Int32) (x4 : Int32) (x5 : Int32) (x6 : Int32) (x7 : Int32) (v_tr : Nat → Int32) (v_tc : Nat → Int32) (H : Heap) (locs : List Loc) (ls : Array Slot), va_P D vwCl [(a_tb, .inr (3, [.int f_tb_n, .int f_tb_across, .int f_tb_down, .int f_tb_wanted, .ref a_tr, .ref a_tc])), (a_tr, .inl (y 0, 5, .inl v_tr)), (a_tc, .inl (y 0, 5, .inl v_tc))] H → va_D A [(a_tb, .inr (3, [.int f_tb_n, .int f_tb_across, .int f_tb_down, .int f_tb_wanted, .ref a_tr, .ref a_tc])), (a_tr, .inl (y 0, 5, .inl v_tr)), (a_tc, .inl (y 0, 5, .inl v_tc))] → va_S A s.heap H locs → lv_has ls 8 [(0, .ref a_tb), (1, .int x1), (2, .int x2), (3, .int x3), (4, .int x4), (5, .int x5), (6, .int x6), (7, .int x7)] → κ x1 x2 x3 x4 x5 x6 x7 v_tr v_tc = some R → W p l e ({ frames := d + 2, cells := 0, slots := 0, locals := 27 * d + 57 } : Room) s m args below meth c H locs 0 0 (MQ below (va_Qi (fun (r : Int32) (_ : Unit) => r = R.1) (xB D y A [(a_tb, .inr (3, [.int f_tb_n, .int f_tb_across, .int f_tb_down, .int f_tb_wanted, .ref a_tr, .ref a_tc])), (a_tr, .inl (y 0, 5, .inl R.2.1)), (a_tc, .inl (y 0, 5, .inl R.2.2))]) A) args s 0 0 A) (F0 m 95 ls [])
def S_X3_ways_0 (p : Program) (l : Launch) (e : Env) (s : State) (m : MethodId) (args : Array Value) (below : List Frame) (meth : Method) (c : Code) (A : Nat → Prop) (D : va_G) (y : Nat → ClassId) (d : Nat) (a_tb : Nat) (a_tr : Nat) (a_tc : Nat) (f_tb_n : Int32) (f_tb_across : Int32) (f_tb_down : Int32) (f_tb_wanted : Int32) (R : Int32 × (Nat → Int32) × (Nat → Int32)) (κ : Int32 → Int32 → Int32 → Int32 → (Nat → Int32) → (Nat → Int32) → Option (Int32 × (Nat → Int32) × (Nat → Int32))) : Prop := ∀ (x1 : Int32) (x2 : Int32) (x3 : Int32) (x4 : Int32) (v_tr : Nat → Int32) (v_tc : Nat → Int32) (H : Heap) (locs : List Loc) (ls : Array Slot), va_P D vwCl [(a_tb, .inr (3, [.int f_tb_n, .int f_tb_across, .int f_tb_down, .int f_tb_wanted, .ref a_tr, .ref a_tc])), (a_tr, .inl (y 0, 5, .inl v_tr)), (a_tc, .inl (y 0, 5, .inl v_tc))] H → va_D A [(a_tb, .inr (3, [.int f_tb_n, .int f_tb_across, .int f_tb_down, .int f_tb_wanted, .ref a_tr, .ref a_tc])), (a_tr, .inl (y 0, 5, .inl v_tr)), (a_tc, .inl (y 0, 5, .inl v_tc))] → va_S A s.heap H locs → lv_has ls 8 [(0, .ref a_tb), (1, .int x1), (2, .int x2), (3, .int x3), (4, .int x4)] → κ x1 x2 x3 x4 v_tr v_tc = some R → W p l e ({ frames := d + 2, cells := 0, slots := 0, locals := 27 * d + 57 } : Room) s m args below meth c H locs 0 0 (MQ below (va_Qi (fun (r : Int32) (_ : Unit) => r = R.1) (xB D y A [(a_tb, .inr (3, [.int f_tb_n, .int f_tb_across, .int f_tb_down, .int f_tb_wanted, .ref a_tr, .ref a_tc])), (a_tr, .inl (y 0, 5, .inl R.2.1)), (a_tc, .inl (y 0, 5, .inl R.2.2))]) A) args s 0 0 A) (F0 m 0 ls [])
def H_X3_ways (l : Launch) (D : va_G) (y : Nat → ClassId) (d : Nat) (f_tb_n : Int32) (f_tb_across : Int32) (f_tb_down : Int32) (f_tb_wanted : Int32) (ρ : Int32 → Int32 → Int32 → Int32 → (Nat → Int32) → (Nat → Int32) → Option (Int32 × (Nat → Int32) × (Nat → Int32))) : Prop := ∀ (a_tb : Nat) (a_tr : Nat) (a_tc : Nat) (v_tr : Nat → Int32) (v_tc : Nat → Int32) (p1 : Int32) (p2 : Int32) (p3 : Int32) (p4 : Int32) (sz : Nat) {R : Int32 × (Nat → Int32) × (Nat → Int32)}, ρ p1 p2 p3 p4 v_tr v_tc = some R → Met l yX3_ways wsX3_ways ({ frames := d + 1, cells := 0, slots := 0, locals := 27 * d + 30 } : Room) (xPre D y sz [.ref a_tb, .int p1, .int p2, .int p3, .int p4] [(a_tb, .inr (3, [.int f_tb_n, .int f_tb_across, .int f_tb_down, .int f_tb_wanted, .ref a_tr, .ref a_tc])), (a_tr, .inl (y 0, 5, .inl v_tr)), (a_tc, .inl (y 0, 5, .inl v_tc))]) (va_Qi (fun (r : Int32) (_ : Unit) => r = R.1) (xB D y (va_A [(a_tb, .inr (3, [.int f_tb_n, .int f_tb_across, .int f_tb_down, .int f_tb_wanted, .ref a_tr, .ref a_tc])), (a_tr, .inl (y 0, 5, .inl v_tr)), (a_tc, .inl (y 0, 5, .inl v_tc))] sz) [(a_tb, .inr (3, [.int f_tb_n, .int f_tb_across, .int f_tb_down, .int f_tb_wanted, .ref a_tr, .ref a_tc])), (a_tr, .inl (y 0, 5, .inl R.2.1)), (a_tc, .inl (y 0, 5, .inl R.2.2))]) (va_A [(a_tb, .inr (3, [.int f_tb_n, .int f_tb_across, .int f_tb_down, .int f_tb_wanted, .ref a_tr, .ref a_tc])), (a_tr, .inl (y 0, 5, .inl v_tr)), (a_tc, .inl (y 0, 5, .inl v_tc))] sz)) 0 0 (va_A [(a_tb, .inr (3, [.int f_tb_n, .int f_tb_across, .int f_tb_down, .int f_tb_wanted, .ref a_tr, .ref a_tc])), (a_tr, .inl (y 0, 5, .inl v_tr)), (a_tc, .inl (y 0, 5, .inl v_tc))] sz)
set_option maxHeartbeats 4000000 in
set_option maxRecDepth 100000 in
theorem B_X3_ways_12 {p : Program} {l : Launch} {e : Env} {s : State} {m : MethodId} {args : Array Value} {below : List Frame} {meth : Method} {c : Code} {A : Nat → Prop} {D : va_G} {y : Nat → ClassId} {d : Nat} {a_tb : Nat} {a_tr : Nat} {a_tc : Nat} {f_tb_n : Int32} {f_tb_across : Int32} {f_tb_down : Int32} {f_tb_wanted : Int32} {R : Int32 × (Nat → Int32) × (Nat → Int32)} (C : xC p s m args meth c A cX3_ways RX3 wsX3_ways 8 (some .int) D y) {ρ : Int32 → Int32 → Int32 → Int32 → (Nat → Int32) → (Nat → Int32) → Option (Int32 × (Nat → Int32) × (Nat → Int32))} (hρ : H_X3_ways l D y d f_tb_n f_tb_across f_tb_down f_tb_wanted ρ)  : S_X3_ways_12 p l e s m args below meth c A D y d a_tb a_tr a_tc f_tb_n f_tb_across f_tb_down f_tb_wanted R (F_X3_ways_12 ρ f_tb_wanted ) := by
  have C0 := C
  obtain ⟨hx, hb, hml, hown, hts, hr, hlocks, hK, hA⟩ := C
  intro x4 v_tr v_tc H locs ls hP hD hS hl hB
  unfold F_X3_ways_12 at hB
  refine lv_aload_n hx hb dX3_ways_12 rfl (lv_at hl 0 rfl) ?_
  refine va_get (D := D) (ci := 3) (v := .int f_tb_wanted) (C := RX3) (T := TX3) (N := 6) hx hb hts kX3_ways_wX3 hown hK hP 0 rfl rfl 3 (by decide) (hts _ kX3_ways_f21) (fun _ h9 => h9) rfl dX3_ways_13 ?_
  refine lv_iconst (v := -1) hx hb dX3_ways_16 (by decide) ?_
  refine lv_icmp_eq (tgt := 29) hx hb dX3_ways_17 (by decide) (fun c1 => ?_) (fun c1 => ?_)
  · have hB := xip c1 hB
    refine lv_iconst (v := 1) hx hb dX3_ways_29 (by decide) ?_
    refine lv_goto (tgt := 34) hx hb dX3_ways_30 (by decide) ?_
    have hB := Option.some.inj hB
    subst hB
    exact W.iret hx hb hr (fun t ht hW => ⟨⟨_, (), rfl, rfl, by rw [ht]; exact hP, va_K.moved hW.alike hK, hD⟩, hS.F ht⟩) hS.2.2 dX3_ways_34 hlocks
  · have hB := xin c1 hB
    refine lv_aload_n hx hb dX3_ways_20 rfl (lv_at hl 0 rfl) ?_
    refine va_get (D := D) (ci := 3) (v := .int f_tb_wanted) (C := RX3) (T := TX3) (N := 6) hx hb hts kX3_ways_wX3 hown hK hP 0 rfl rfl 3 (by decide) (hts _ kX3_ways_f21) (fun _ h9 => h9) rfl dX3_ways_21 ?_
    refine lv_iload hx hb dX3_ways_24 (lv_at hl 1 rfl) ?_
    refine lv_icmp_ne (tgt := 33) hx hb dX3_ways_26 (by decide) (fun c2 => ?_) (fun c2 => ?_)
    · have hB := xin c2 hB
      refine lv_iconst (v := 0) hx hb dX3_ways_33 (by decide) ?_
      have hB := Option.some.inj hB
      subst hB
      exact W.iret hx hb hr (fun t ht hW => ⟨⟨_, (), rfl, rfl, by rw [ht]; exact hP, va_K.moved hW.alike hK, hD⟩, hS.F ht⟩) hS.2.2 dX3_ways_34 hlocks
    · have hB := xip c2 hB
      refine lv_iconst (v := 1) hx hb dX3_ways_29 (by decide) ?_
      refine lv_goto (tgt := 34) hx hb dX3_ways_30 (by decide) ?_
      have hB := Option.some.inj hB
      subst hB
      exact W.iret hx hb hr (fun t ht hW => ⟨⟨_, (), rfl, rfl, by rw [ht]; exact hP, va_K.moved hW.alike hK, hD⟩, hS.F ht⟩) hS.2.2 dX3_ways_34 hlocks
set_option maxHeartbeats 4000000 in
set_option maxRecDepth 100000 in
theorem B_X3_ways_47 {p : Program} {l : Launch} {e : Env} {s : State} {m : MethodId} {args : Array Value} {below : List Frame} {meth : Method} {c : Code} {A : Nat → Prop} {D : va_G} {y : Nat → ClassId} {d : Nat} {a_tb : Nat} {a_tr : Nat} {a_tc : Nat} {f_tb_n : Int32} {f_tb_across : Int32} {f_tb_down : Int32} {f_tb_wanted : Int32} {R : Int32 × (Nat → Int32) × (Nat → Int32)} (C : xC p s m args meth c A cX3_ways RX3 wsX3_ways 8 (some .int) D y) {ρ : Int32 → Int32 → Int32 → Int32 → (Nat → Int32) → (Nat → Int32) → Option (Int32 × (Nat → Int32) × (Nat → Int32))} (hρ : H_X3_ways l D y d f_tb_n f_tb_across f_tb_down f_tb_wanted ρ)  : S_X3_ways_47 p l e s m args below meth c A D y d a_tb a_tr a_tc f_tb_n f_tb_across f_tb_down f_tb_wanted R (F_X3_ways_47 ρ  ) := by
  have C0 := C
  obtain ⟨hx, hb, hml, hown, hts, hr, hlocks, hK, hA⟩ := C
  intro x1 x3 x4 v_tr v_tc H locs ls hP hD hS hl hB
  unfold F_X3_ways_47 at hB
  refine lv_aload_n hx hb dX3_ways_47 rfl (lv_at hl 0 rfl) ?_
  refine va_get (D := D) (ci := 3) (v := .ref a_tr) (C := RX3) (T := TX3) (N := 6) hx hb hts kX3_ways_wX3 hown hK hP 0 rfl rfl 4 (by decide) (hts _ kX3_ways_f24) (fun _ h9 => h9) rfl dX3_ways_48 ?_
  refine lv_iload_n hx hb dX3_ways_51 rfl (lv_at hl 1 rfl) ?_
  obtain ⟨g1, hB⟩ := xg_some hB
  refine va_iald hx hb hK hP 1 0 rfl rfl g1 dX3_ways_52 ?_
  refine lv_if_ne (tgt := 70) hx hb dX3_ways_53 (by decide) (fun c2 => ?_) (fun c2 => ?_)
  · have hB := xin c2 hB
    refine lv_iconst (v := 0) hx hb dX3_ways_70 (by decide) ?_
    have hB := Option.some.inj hB
    subst hB
    exact W.iret hx hb hr (fun t ht hW => ⟨⟨_, (), rfl, rfl, by rw [ht]; exact hP, va_K.moved hW.alike hK, hD⟩, hS.F ht⟩) hS.2.2 dX3_ways_71 hlocks
  · have hB := xip c2 hB
    refine lv_aload_n hx hb dX3_ways_56 rfl (lv_at hl 0 rfl) ?_
    refine lv_iload_n hx hb dX3_ways_57 rfl (lv_at hl 1 rfl) ?_
    refine lv_iconst (v := 1) hx hb dX3_ways_58 (by decide) ?_
    refine lv_iadd hx hb dX3_ways_59 ?_
    refine lv_iconst (v := 0) hx hb dX3_ways_60 (by decide) ?_
    refine lv_iload_n hx hb dX3_ways_61 rfl (lv_at hl 2 rfl) ?_
    refine lv_iload hx hb dX3_ways_62 (lv_at hl 3 rfl) ?_
    obtain ⟨q3, e3, hB⟩ := xbd hB
    have hPc := hP.sub (ws' := [(a_tb, .inr (3, [.int f_tb_n, .int f_tb_across, .int f_tb_down, .int f_tb_wanted, .ref a_tr, .ref a_tc])), (a_tr, .inl (y 0, 5, .inl v_tr)), (a_tc, .inl (y 0, 5, .inl v_tc))]) [0, 1, 2] rfl
    have hDc := hD.sub (ws' := [(a_tb, .inr (3, [.int f_tb_n, .int f_tb_across, .int f_tb_down, .int f_tb_wanted, .ref a_tr, .ref a_tc])), (a_tr, .inl (y 0, 5, .inl v_tr)), (a_tc, .inl (y 0, 5, .inl v_tc))]) [0, 1, 2] (by decide) rfl
    refine xcalli (mc := 0) (ms := 0) (rv := q3.1) (wc := [(a_tb, .inr (3, [.int f_tb_n, .int f_tb_across, .int f_tb_down, .int f_tb_wanted, .ref a_tr, .ref a_tc])), (a_tr, .inl (y 0, 5, .inl v_tr)), (a_tc, .inl (y 0, 5, .inl v_tc))]) (wr := []) (w1 := [(a_tb, .inr (3, [.int f_tb_n, .int f_tb_across, .int f_tb_down, .int f_tb_wanted, .ref a_tr, .ref a_tc])), (a_tr, .inl (y 0, 5, .inl q3.2.1)), (a_tc, .inl (y 0, 5, .inl q3.2.2))]) (wf := [(a_tb, .inr (3, [.int f_tb_n, .int f_tb_across, .int f_tb_down, .int f_tb_wanted, .ref a_tr, .ref a_tc])), (a_tr, .inl (y 0, 5, .inl q3.2.1)), (a_tc, .inl (y 0, 5, .inl q3.2.2))]) (va_runS (As := [.ref a_tb, .int (x1 + (1 : Int32)), .int (0 : Int32), .int x3, .int x4]) (rest := []) ⟨hx, hb, hml, hown, hts⟩ (hρ a_tb a_tr a_tc v_tr v_tc (x1 + (1 : Int32)) (0 : Int32) x3 x4 H.size e3) (va_cwS 5 hts gX3_ways_X3_ways rfl rfl rfl (by decide +kernel) ⟨(by first | (dsimp only [List.map_nil, List.sum_nil]; omega) | (dsimp only; omega) | omega | decide), (by first | (dsimp only [List.map_nil, List.sum_nil]; omega) | (dsimp only; omega) | omega | decide)⟩) ⟨xblind, xprev hPc hK hDc⟩ rfl rfl hl.1 rfl (lv_room (Nat.le_of_ble_eq_true rfl)) dX3_ways_64 ⟨(by first | (dsimp only [List.map_nil, List.sum_nil]; omega) | (dsimp only; omega) | omega | decide), (by first | (dsimp only [List.map_nil, List.sum_nil]; omega) | (dsimp only; omega) | omega | decide)⟩) hP hD hS hA [0, 1, 2] [] [0, 1, 2] rfl rfl (by decide) (by decide) rfl (by decide) (fun H locs hP hD hS => ?_)
    refine lv_goto (tgt := 71) hx hb dX3_ways_67 (by decide) ?_
    have hB := Option.some.inj hB
    subst hB
    exact W.iret hx hb hr (fun t ht hW => ⟨⟨_, (), rfl, rfl, by rw [ht]; exact hP, va_K.moved hW.alike hK, hD⟩, hS.F ht⟩) hS.2.2 dX3_ways_71 hlocks
set_option maxHeartbeats 4000000 in
set_option maxRecDepth 100000 in
theorem B_X3_ways_95 {p : Program} {l : Launch} {e : Env} {s : State} {m : MethodId} {args : Array Value} {below : List Frame} {meth : Method} {c : Code} {A : Nat → Prop} {D : va_G} {y : Nat → ClassId} {d : Nat} {a_tb : Nat} {a_tr : Nat} {a_tc : Nat} {f_tb_n : Int32} {f_tb_across : Int32} {f_tb_down : Int32} {f_tb_wanted : Int32} {R : Int32 × (Nat → Int32) × (Nat → Int32)} (C : xC p s m args meth c A cX3_ways RX3 wsX3_ways 8 (some .int) D y) {ρ : Int32 → Int32 → Int32 → Int32 → (Nat → Int32) → (Nat → Int32) → Option (Int32 × (Nat → Int32) × (Nat → Int32))} (hρ : H_X3_ways l D y d f_tb_n f_tb_across f_tb_down f_tb_wanted ρ)  : ∀ f : Nat, S_X3_ways_95 p l e s m args below meth c A D y d a_tb a_tr a_tc f_tb_n f_tb_across f_tb_down f_tb_wanted R (F_X3_ways_95 ρ f_tb_n  f) := by
  have C0 := C
  obtain ⟨hx, hb, hml, hown, hts, hr, hlocks, hK, hA⟩ := C
  intro f
  induction f with
  | zero =>
    intro x1 x2 x3 x4 x5 x6 x7 v_tr v_tc H locs ls hP hD hS hl hB
    rw [Z_X3_ways_95] at hB
    cases hB
  | succ f ih =>
    intro x1 x2 x3 x4 x5 x6 x7 v_tr v_tc H locs ls hP hD hS hl hB
    rw [E_X3_ways_95] at hB
    refine lv_iload hx hb dX3_ways_95 (lv_at hl 7 rfl) ?_
    refine lv_iload hx hb dX3_ways_97 (lv_at hl 6 rfl) ?_
    refine lv_icmp_gt (tgt := 182) hx hb dX3_ways_99 (by decide) (fun c1 => ?_) (fun c1 => ?_)
    · have hB := xip c1 hB
      refine lv_iload hx hb dX3_ways_182 (lv_at hl 5 rfl) ?_
      have hB := Option.some.inj hB
      subst hB
      exact W.iret hx hb hr (fun t ht hW => ⟨⟨_, (), rfl, rfl, by rw [ht]; exact hP, va_K.moved hW.alike hK, hD⟩, hS.F ht⟩) hS.2.2 dX3_ways_184 hlocks
    · have hB := xin c1 hB
      refine lv_aload_n hx hb dX3_ways_102 rfl (lv_at hl 0 rfl) ?_
      refine va_get (D := D) (ci := 3) (v := .ref a_tr) (C := RX3) (T := TX3) (N := 6) hx hb hts kX3_ways_wX3 hown hK hP 0 rfl rfl 4 (by decide) (hts _ kX3_ways_f24) (fun _ h9 => h9) rfl dX3_ways_103 ?_
      refine lv_iload_n hx hb dX3_ways_106 rfl (lv_at hl 1 rfl) ?_
      refine lv_dup2_11 hx hb dX3_ways_107 rfl rfl ?_
      obtain ⟨g2, hB⟩ := xg_some hB
      refine va_iald hx hb hK hP 1 0 rfl rfl g2 dX3_ways_108 ?_
      refine lv_iload hx hb dX3_ways_109 (lv_at hl 7 rfl) ?_
      refine lv_isub hx hb dX3_ways_111 ?_
      refine va_iast hx hb hK hP hD hS 1 0 rfl rfl g2 dX3_ways_112 (fun H locs hP hD hS => ?_)
      have hP : va_P D vwCl [(a_tb, .inr (3, [.int f_tb_n, .int f_tb_across, .int f_tb_down, .int f_tb_wanted, .ref a_tr, .ref a_tc])), (a_tr, .inl (y 0, 5, .inl (upd v_tr x1.toNatClampNeg ((v_tr x1.toNatClampNeg) - x7)))), (a_tc, .inl (y 0, 5, .inl v_tc))] H := hP
      have hD : va_D A [(a_tb, .inr (3, [.int f_tb_n, .int f_tb_across, .int f_tb_down, .int f_tb_wanted, .ref a_tr, .ref a_tc])), (a_tr, .inl (y 0, 5, .inl (upd v_tr x1.toNatClampNeg ((v_tr x1.toNatClampNeg) - x7)))), (a_tc, .inl (y 0, 5, .inl v_tc))] := hD
      refine lv_aload_n hx hb dX3_ways_113 rfl (lv_at hl 0 rfl) ?_
      refine va_get (D := D) (ci := 3) (v := .ref a_tc) (C := RX3) (T := TX3) (N := 6) hx hb hts kX3_ways_wX3 hown hK hP 0 rfl rfl 5 (by decide) (hts _ kX3_ways_f28) (fun _ h9 => h9) rfl dX3_ways_114 ?_
      refine lv_iload_n hx hb dX3_ways_117 rfl (lv_at hl 2 rfl) ?_
      refine lv_dup2_11 hx hb dX3_ways_118 rfl rfl ?_
      obtain ⟨g3, hB⟩ := xg_some hB
      refine va_iald hx hb hK hP 2 0 rfl rfl g3 dX3_ways_119 ?_
      refine lv_iload hx hb dX3_ways_120 (lv_at hl 7 rfl) ?_
      refine lv_isub hx hb dX3_ways_122 ?_
      refine va_iast hx hb hK hP hD hS 2 0 rfl rfl g3 dX3_ways_123 (fun H locs hP hD hS => ?_)
      have hP : va_P D vwCl [(a_tb, .inr (3, [.int f_tb_n, .int f_tb_across, .int f_tb_down, .int f_tb_wanted, .ref a_tr, .ref a_tc])), (a_tr, .inl (y 0, 5, .inl (upd v_tr x1.toNatClampNeg ((v_tr x1.toNatClampNeg) - x7)))), (a_tc, .inl (y 0, 5, .inl (upd v_tc x2.toNatClampNeg ((v_tc x2.toNatClampNeg) - x7))))] H := hP
      have hD : va_D A [(a_tb, .inr (3, [.int f_tb_n, .int f_tb_across, .int f_tb_down, .int f_tb_wanted, .ref a_tr, .ref a_tc])), (a_tr, .inl (y 0, 5, .inl (upd v_tr x1.toNatClampNeg ((v_tr x1.toNatClampNeg) - x7)))), (a_tc, .inl (y 0, 5, .inl (upd v_tc x2.toNatClampNeg ((v_tc x2.toNatClampNeg) - x7))))] := hD
      refine lv_iload hx hb dX3_ways_124 (lv_at hl 5 rfl) ?_
      refine lv_aload_n hx hb dX3_ways_126 rfl (lv_at hl 0 rfl) ?_
      refine lv_iload_n hx hb dX3_ways_127 rfl (lv_at hl 1 rfl) ?_
      refine lv_iload_n hx hb dX3_ways_128 rfl (lv_at hl 2 rfl) ?_
      refine lv_iconst (v := 1) hx hb dX3_ways_129 (by decide) ?_
      refine lv_iadd hx hb dX3_ways_130 ?_
      refine lv_iload_n hx hb dX3_ways_131 rfl (lv_at hl 3 rfl) ?_
      refine lv_iload hx hb dX3_ways_132 (lv_at hl 7 rfl) ?_
      refine lv_iadd hx hb dX3_ways_134 ?_
      refine lv_aload_n hx hb dX3_ways_135 rfl (lv_at hl 0 rfl) ?_
      refine va_get (D := D) (ci := 3) (v := .int f_tb_n) (C := RX3) (T := TX3) (N := 6) hx hb hts kX3_ways_wX3 hown hK hP 0 rfl rfl 0 (by decide) (hts _ kX3_ways_f9) (fun _ h9 => h9) rfl dX3_ways_136 ?_
      refine lv_iload_n hx hb dX3_ways_139 rfl (lv_at hl 3 rfl) ?_
      refine lv_iload hx hb dX3_ways_140 (lv_at hl 7 rfl) ?_
      refine lv_iadd hx hb dX3_ways_142 ?_
      refine lv_iload hx hb dX3_ways_143 (lv_at hl 4 rfl) ?_
      obtain ⟨q4, e4, hB⟩ := xbd hB
      have hPc := hP.sub (ws' := []) [] rfl
      have hDc := hD.sub (ws' := []) [] (by decide) rfl
      refine xcalli (mc := 0) (ms := 0) (rv := q4) (wc := []) (wr := [(a_tb, .inr (3, [.int f_tb_n, .int f_tb_across, .int f_tb_down, .int f_tb_wanted, .ref a_tr, .ref a_tc])), (a_tr, .inl (y 0, 5, .inl (upd v_tr x1.toNatClampNeg ((v_tr x1.toNatClampNeg) - x7)))), (a_tc, .inl (y 0, 5, .inl (upd v_tc x2.toNatClampNeg ((v_tc x2.toNatClampNeg) - x7))))]) (w1 := []) (wf := [(a_tb, .inr (3, [.int f_tb_n, .int f_tb_across, .int f_tb_down, .int f_tb_wanted, .ref a_tr, .ref a_tc])), (a_tr, .inl (y 0, 5, .inl (upd v_tr x1.toNatClampNeg ((v_tr x1.toNatClampNeg) - x7)))), (a_tc, .inl (y 0, 5, .inl (upd v_tc x2.toNatClampNeg ((v_tc x2.toNatClampNeg) - x7))))]) (va_runS (As := [.int f_tb_n, .int (x3 + x7), .int x4]) (rest := [.int (x3 + x7), .int (x2 + (1 : Int32)), .int x1, .ref a_tb, .int x5]) ⟨hx, hb, hml, hown, hts⟩ (c_X3_withCut l D y f_tb_n (x3 + x7) x4 H.size e4) (va_cwS 3 hts gX3_ways_X3_withCut rfl rfl rfl (by decide +kernel) ⟨(by first | (dsimp only [List.map_nil, List.sum_nil]; omega) | (dsimp only; omega) | omega | decide), (by first | (dsimp only [List.map_nil, List.sum_nil]; omega) | (dsimp only; omega) | omega | decide)⟩) ⟨xblind, xprev hPc hK hDc⟩ rfl rfl hl.1 rfl (lv_room (Nat.le_of_ble_eq_true rfl)) dX3_ways_145 ⟨(by first | (dsimp only [List.map_nil, List.sum_nil]; omega) | (dsimp only; omega) | omega | decide), (by first | (dsimp only [List.map_nil, List.sum_nil]; omega) | (dsimp only; omega) | omega | decide)⟩) hP hD hS hA [] [0, 1, 2] [0, 1, 2] rfl rfl (by decide) (by decide) rfl (by decide) (fun H locs hP hD hS => ?_)
      obtain ⟨q5, e5, hB⟩ := xbd hB
      have hPc := hP.sub (ws' := [(a_tb, .inr (3, [.int f_tb_n, .int f_tb_across, .int f_tb_down, .int f_tb_wanted, .ref a_tr, .ref a_tc])), (a_tr, .inl (y 0, 5, .inl (upd v_tr x1.toNatClampNeg ((v_tr x1.toNatClampNeg) - x7)))), (a_tc, .inl (y 0, 5, .inl (upd v_tc x2.toNatClampNeg ((v_tc x2.toNatClampNeg) - x7))))]) [0, 1, 2] rfl
      have hDc := hD.sub (ws' := [(a_tb, .inr (3, [.int f_tb_n, .int f_tb_across, .int f_tb_down, .int f_tb_wanted, .ref a_tr, .ref a_tc])), (a_tr, .inl (y 0, 5, .inl (upd v_tr x1.toNatClampNeg ((v_tr x1.toNatClampNeg) - x7)))), (a_tc, .inl (y 0, 5, .inl (upd v_tc x2.toNatClampNeg ((v_tc x2.toNatClampNeg) - x7))))]) [0, 1, 2] (by decide) rfl
      refine xcalli (mc := 0) (ms := 0) (rv := q5.1) (wc := [(a_tb, .inr (3, [.int f_tb_n, .int f_tb_across, .int f_tb_down, .int f_tb_wanted, .ref a_tr, .ref a_tc])), (a_tr, .inl (y 0, 5, .inl (upd v_tr x1.toNatClampNeg ((v_tr x1.toNatClampNeg) - x7)))), (a_tc, .inl (y 0, 5, .inl (upd v_tc x2.toNatClampNeg ((v_tc x2.toNatClampNeg) - x7))))]) (wr := []) (w1 := [(a_tb, .inr (3, [.int f_tb_n, .int f_tb_across, .int f_tb_down, .int f_tb_wanted, .ref a_tr, .ref a_tc])), (a_tr, .inl (y 0, 5, .inl q5.2.1)), (a_tc, .inl (y 0, 5, .inl q5.2.2))]) (wf := [(a_tb, .inr (3, [.int f_tb_n, .int f_tb_across, .int f_tb_down, .int f_tb_wanted, .ref a_tr, .ref a_tc])), (a_tr, .inl (y 0, 5, .inl q5.2.1)), (a_tc, .inl (y 0, 5, .inl q5.2.2))]) (va_runS (As := [.ref a_tb, .int x1, .int (x2 + (1 : Int32)), .int (x3 + x7), .int q4]) (rest := [.int x5]) ⟨hx, hb, hml, hown, hts⟩ (hρ a_tb a_tr a_tc (upd v_tr x1.toNatClampNeg ((v_tr x1.toNatClampNeg) - x7)) (upd v_tc x2.toNatClampNeg ((v_tc x2.toNatClampNeg) - x7)) x1 (x2 + (1 : Int32)) (x3 + x7) q4 H.size e5) (va_cwS 5 hts gX3_ways_X3_ways rfl rfl rfl (by decide +kernel) ⟨(by first | (dsimp only [List.map_nil, List.sum_nil]; omega) | (dsimp only; omega) | omega | decide), (by first | (dsimp only [List.map_nil, List.sum_nil]; omega) | (dsimp only; omega) | omega | decide)⟩) ⟨xblind, xprev hPc hK hDc⟩ rfl rfl hl.1 rfl (lv_room (Nat.le_of_ble_eq_true rfl)) dX3_ways_148 ⟨(by first | (dsimp only [List.map_nil, List.sum_nil]; omega) | (dsimp only; omega) | omega | decide), (by first | (dsimp only [List.map_nil, List.sum_nil]; omega) | (dsimp only; omega) | omega | decide)⟩) hP hD hS hA [0, 1, 2] [] [0, 1, 2] rfl rfl (by decide) (by decide) rfl (by decide) (fun H locs hP hD hS => ?_)
      refine lv_iadd hx hb dX3_ways_151 ?_
      refine lv_istore (lv' := [(5, .int (x5 + q5.1)), (0, .ref a_tb), (1, .int x1), (2, .int x2), (3, .int x3), (4, .int x4), (6, .int x6), (7, .int x7)]) hx hb dX3_ways_152 hl (by decide) rfl (fun ls hl => ?_)
      refine lv_aload_n hx hb dX3_ways_154 rfl (lv_at hl 1 rfl) ?_
      refine va_get (D := D) (ci := 3) (v := .ref a_tr) (C := RX3) (T := TX3) (N := 6) hx hb hts kX3_ways_wX3 hown hK hP 0 rfl rfl 4 (by decide) (hts _ kX3_ways_f24) (fun _ h9 => h9) rfl dX3_ways_155 ?_
      refine lv_iload_n hx hb dX3_ways_158 rfl (lv_at hl 2 rfl) ?_
      refine lv_dup2_11 hx hb dX3_ways_159 rfl rfl ?_
      refine va_iald hx hb hK hP 1 0 rfl rfl g2 dX3_ways_160 ?_
      refine lv_iload hx hb dX3_ways_161 (lv_at hl 7 rfl) ?_
      refine lv_iadd hx hb dX3_ways_163 ?_
      refine va_iast hx hb hK hP hD hS 1 0 rfl rfl g2 dX3_ways_164 (fun H locs hP hD hS => ?_)
      have hP : va_P D vwCl [(a_tb, .inr (3, [.int f_tb_n, .int f_tb_across, .int f_tb_down, .int f_tb_wanted, .ref a_tr, .ref a_tc])), (a_tr, .inl (y 0, 5, .inl (upd q5.2.1 x1.toNatClampNeg ((q5.2.1 x1.toNatClampNeg) + x7)))), (a_tc, .inl (y 0, 5, .inl q5.2.2))] H := hP
      have hD : va_D A [(a_tb, .inr (3, [.int f_tb_n, .int f_tb_across, .int f_tb_down, .int f_tb_wanted, .ref a_tr, .ref a_tc])), (a_tr, .inl (y 0, 5, .inl (upd q5.2.1 x1.toNatClampNeg ((q5.2.1 x1.toNatClampNeg) + x7)))), (a_tc, .inl (y 0, 5, .inl q5.2.2))] := hD
      refine lv_aload_n hx hb dX3_ways_165 rfl (lv_at hl 1 rfl) ?_
      refine va_get (D := D) (ci := 3) (v := .ref a_tc) (C := RX3) (T := TX3) (N := 6) hx hb hts kX3_ways_wX3 hown hK hP 0 rfl rfl 5 (by decide) (hts _ kX3_ways_f28) (fun _ h9 => h9) rfl dX3_ways_166 ?_
      refine lv_iload_n hx hb dX3_ways_169 rfl (lv_at hl 3 rfl) ?_
      refine lv_dup2_11 hx hb dX3_ways_170 rfl rfl ?_
      refine va_iald hx hb hK hP 2 0 rfl rfl g3 dX3_ways_171 ?_
      refine lv_iload hx hb dX3_ways_172 (lv_at hl 7 rfl) ?_
      refine lv_iadd hx hb dX3_ways_174 ?_
      refine va_iast hx hb hK hP hD hS 2 0 rfl rfl g3 dX3_ways_175 (fun H locs hP hD hS => ?_)
      have hP : va_P D vwCl [(a_tb, .inr (3, [.int f_tb_n, .int f_tb_across, .int f_tb_down, .int f_tb_wanted, .ref a_tr, .ref a_tc])), (a_tr, .inl (y 0, 5, .inl (upd q5.2.1 x1.toNatClampNeg ((q5.2.1 x1.toNatClampNeg) + x7)))), (a_tc, .inl (y 0, 5, .inl (upd q5.2.2 x2.toNatClampNeg ((q5.2.2 x2.toNatClampNeg) + x7))))] H := hP
      have hD : va_D A [(a_tb, .inr (3, [.int f_tb_n, .int f_tb_across, .int f_tb_down, .int f_tb_wanted, .ref a_tr, .ref a_tc])), (a_tr, .inl (y 0, 5, .inl (upd q5.2.1 x1.toNatClampNeg ((q5.2.1 x1.toNatClampNeg) + x7)))), (a_tc, .inl (y 0, 5, .inl (upd q5.2.2 x2.toNatClampNeg ((q5.2.2 x2.toNatClampNeg) + x7))))] := hD
      refine lv_iinc (v := x7 + 1) (lv' := [(7, .int (x7 + 1)), (5, .int (x5 + q5.1)), (0, .ref a_tb), (1, .int x1), (2, .int x2), (3, .int x3), (4, .int x4), (6, .int x6)]) hx hb dX3_ways_176 hl (k := 7) rfl rfl (by decide) rfl (fun ls hl => ?_)
      refine lv_goto (tgt := 95) hx hb dX3_ways_179 (by decide) ?_
      exact ih x1 x2 x3 x4 (x5 + q5.1) x6 (x7 + 1) (upd q5.2.1 x1.toNatClampNeg ((q5.2.1 x1.toNatClampNeg) + x7)) (upd q5.2.2 x2.toNatClampNeg ((q5.2.2 x2.toNatClampNeg) + x7)) H locs ls hP hD hS (lv_sub hl [2, 3, 4, 5, 6, 1, 7, 0] rfl) hB
set_option maxHeartbeats 4000000 in
set_option maxRecDepth 100000 in
theorem B_X3_ways_0 {p : Program} {l : Launch} {e : Env} {s : State} {m : MethodId} {args : Array Value} {below : List Frame} {meth : Method} {c : Code} {A : Nat → Prop} {D : va_G} {y : Nat → ClassId} {d : Nat} {a_tb : Nat} {a_tr : Nat} {a_tc : Nat} {f_tb_n : Int32} {f_tb_across : Int32} {f_tb_down : Int32} {f_tb_wanted : Int32} {R : Int32 × (Nat → Int32) × (Nat → Int32)} (C : xC p s m args meth c A cX3_ways RX3 wsX3_ways 8 (some .int) D y) {ρ : Int32 → Int32 → Int32 → Int32 → (Nat → Int32) → (Nat → Int32) → Option (Int32 × (Nat → Int32) × (Nat → Int32))} (hρ : H_X3_ways l D y d f_tb_n f_tb_across f_tb_down f_tb_wanted ρ)  : S_X3_ways_0 p l e s m args below meth c A D y d a_tb a_tr a_tc f_tb_n f_tb_across f_tb_down f_tb_wanted R (FB_X3_ways ρ f_tb_n f_tb_across f_tb_down f_tb_wanted ) := by
  have C0 := C
  obtain ⟨hx, hb, hml, hown, hts, hr, hlocks, hK, hA⟩ := C
  intro x1 x2 x3 x4 v_tr v_tc H locs ls hP hD hS hl hB
  unfold FB_X3_ways at hB
  refine lv_iload_n hx hb dX3_ways_0 rfl (lv_at hl 1 rfl) ?_
  refine lv_if_lt (tgt := 12) hx hb dX3_ways_1 (by decide) (fun c1 => ?_) (fun c1 => ?_)
  · have hB := xip c1 hB
    exact B_X3_ways_12 (d := d) C0 hρ x4 v_tr v_tc H locs ls hP hD hS (lv_sub hl [0, 4] rfl) hB
  · have hB := xin c1 hB
    refine lv_iload_n hx hb dX3_ways_4 rfl (lv_at hl 1 rfl) ?_
    refine lv_aload_n hx hb dX3_ways_5 rfl (lv_at hl 0 rfl) ?_
    refine va_get (D := D) (ci := 3) (v := .int f_tb_down) (C := RX3) (T := TX3) (N := 6) hx hb hts kX3_ways_wX3 hown hK hP 0 rfl rfl 2 (by decide) (hts _ kX3_ways_f18) (fun _ h9 => h9) rfl dX3_ways_6 ?_
    refine lv_icmp_lt (tgt := 35) hx hb dX3_ways_9 (by decide) (fun c2 => ?_) (fun c2 => ?_)
    · have hB := xip c2 hB
      refine lv_iload_n hx hb dX3_ways_35 rfl (lv_at hl 2 rfl) ?_
      refine lv_if_lt (tgt := 47) hx hb dX3_ways_36 (by decide) (fun c3 => ?_) (fun c3 => ?_)
      · have hB := xip c3 hB
        exact B_X3_ways_47 (d := d) C0 hρ x1 x3 x4 v_tr v_tc H locs ls hP hD hS (lv_sub hl [0, 1, 3, 4] rfl) hB
      · have hB := xin c3 hB
        refine lv_iload_n hx hb dX3_ways_39 rfl (lv_at hl 2 rfl) ?_
        refine lv_aload_n hx hb dX3_ways_40 rfl (lv_at hl 0 rfl) ?_
        refine va_get (D := D) (ci := 3) (v := .int f_tb_across) (C := RX3) (T := TX3) (N := 6) hx hb hts kX3_ways_wX3 hown hK hP 0 rfl rfl 1 (by decide) (hts _ kX3_ways_f15) (fun _ h9 => h9) rfl dX3_ways_41 ?_
        refine lv_icmp_lt (tgt := 72) hx hb dX3_ways_44 (by decide) (fun c4 => ?_) (fun c4 => ?_)
        · have hB := xip c4 hB
          refine lv_iconst (v := 0) hx hb dX3_ways_72 (by decide) ?_
          refine lv_istore (lv' := [(5, .int (0 : Int32)), (0, .ref a_tb), (1, .int x1), (2, .int x2), (3, .int x3), (4, .int x4)]) hx hb dX3_ways_73 hl (by decide) rfl (fun ls hl => ?_)
          refine lv_aload_n hx hb dX3_ways_75 rfl (lv_at hl 1 rfl) ?_
          refine va_get (D := D) (ci := 3) (v := .ref a_tr) (C := RX3) (T := TX3) (N := 6) hx hb hts kX3_ways_wX3 hown hK hP 0 rfl rfl 4 (by decide) (hts _ kX3_ways_f24) (fun _ h9 => h9) rfl dX3_ways_76 ?_
          refine lv_iload_n hx hb dX3_ways_79 rfl (lv_at hl 2 rfl) ?_
          obtain ⟨g5, hB⟩ := xg_some hB
          refine va_iald hx hb hK hP 1 0 rfl rfl g5 dX3_ways_80 ?_
          refine lv_aload_n hx hb dX3_ways_81 rfl (lv_at hl 1 rfl) ?_
          refine va_get (D := D) (ci := 3) (v := .ref a_tc) (C := RX3) (T := TX3) (N := 6) hx hb hts kX3_ways_wX3 hown hK hP 0 rfl rfl 5 (by decide) (hts _ kX3_ways_f28) (fun _ h9 => h9) rfl dX3_ways_82 ?_
          refine lv_iload_n hx hb dX3_ways_85 rfl (lv_at hl 3 rfl) ?_
          obtain ⟨g6, hB⟩ := xg_some hB
          refine va_iald hx hb hK hP 2 0 rfl rfl g6 dX3_ways_86 ?_
          refine va_mmin hx hb (hml.trans hl.1.symm) hown (hts _ kX3_ways_l39) (hts _ kX3_ways_smin) (hts _ kX3_ways_iMath) (hts _ kX3_ways_omin) (by first | (dsimp only [List.map_nil, List.sum_nil]; omega) | (dsimp only; omega) | omega | decide) (by first | (dsimp only [List.map_nil, List.sum_nil]; omega) | (dsimp only; omega) | omega | decide) (by first | (dsimp only [List.map_nil, List.sum_nil]; omega) | (dsimp only; omega) | omega | decide) (by first | (dsimp only [List.map_nil, List.sum_nil]; omega) | (dsimp only; omega) | omega | decide) dX3_ways_87 ?_
          refine lv_istore (lv' := [(6, .int (if (v_tc x2.toNatClampNeg) < (v_tr x1.toNatClampNeg) then (v_tc x2.toNatClampNeg) else (v_tr x1.toNatClampNeg))), (5, .int (0 : Int32)), (0, .ref a_tb), (1, .int x1), (2, .int x2), (3, .int x3), (4, .int x4)]) hx hb dX3_ways_90 hl (by decide) rfl (fun ls hl => ?_)
          refine lv_iconst (v := 0) hx hb dX3_ways_92 (by decide) ?_
          refine lv_istore (lv' := [(7, .int (0 : Int32)), (6, .int (if (v_tc x2.toNatClampNeg) < (v_tr x1.toNatClampNeg) then (v_tc x2.toNatClampNeg) else (v_tr x1.toNatClampNeg))), (5, .int (0 : Int32)), (0, .ref a_tb), (1, .int x1), (2, .int x2), (3, .int x3), (4, .int x4)]) hx hb dX3_ways_93 hl (by decide) rfl (fun ls hl => ?_)
          exact B_X3_ways_95 (d := d) C0 hρ xF x1 x2 x3 x4 (0 : Int32) (if (v_tc x2.toNatClampNeg) < (v_tr x1.toNatClampNeg) then (v_tc x2.toNatClampNeg) else (v_tr x1.toNatClampNeg)) (0 : Int32) v_tr v_tc H locs ls hP hD hS (lv_sub hl [3, 4, 5, 6, 7, 2, 1, 0] rfl) hB
        · have hB := xin c4 hB
          exact B_X3_ways_47 (d := d) C0 hρ x1 x3 x4 v_tr v_tc H locs ls hP hD hS (lv_sub hl [0, 1, 3, 4] rfl) hB
    · have hB := xin c2 hB
      exact B_X3_ways_12 (d := d) C0 hρ x4 v_tr v_tc H locs ls hP hD hS (lv_sub hl [0, 4] rfl) hB
set_option maxHeartbeats 4000000 in
set_option maxRecDepth 100000 in
theorem c_X3_ways (l : Launch) (D : va_G) (y : Nat → ClassId) (f_tb_n : Int32) (f_tb_across : Int32) (f_tb_down : Int32) (f_tb_wanted : Int32) : ∀ d : Nat, H_X3_ways l D y d f_tb_n f_tb_across f_tb_down f_tb_wanted (F_X3_ways f_tb_n f_tb_across f_tb_down f_tb_wanted d) := by
  intro d
  induction d with
  | zero =>
    intro a_tb a_tr a_tc v_tr v_tc p1 p2 p3 p4 sz R hF
    have hF : (none : Option (Int32 × (Nat → Int32) × (Nat → Int32))) = some R := hF
    cases hF
  | succ d ih =>
    intro a_tb a_tr a_tc v_tr v_tc p1 p2 p3 p4 sz R hF
    have hF : FB_X3_ways (F_X3_ways f_tb_n f_tb_across f_tb_down f_tb_wanted d) f_tb_n f_tb_across f_tb_down f_tb_wanted p1 p2 p3 p4 v_tr v_tc = some R := hF
    refine Met.ofW (cc := cX3_ways) (maxL := 8) (ret := (some .int)) (by decide) rfl ?_
    intro p e s m args below meth c s₁ B hml hv
    obtain ⟨rfl, hsz, hP, hK, hD0⟩ := hv
    subst hsz
    have hD := hD0.self (sz := s.heap.size)
    have C : xC p s m [.ref a_tb, .int p1, .int p2, .int p3, .int p4].toArray meth c (va_A [(a_tb, .inr (3, [.int f_tb_n, .int f_tb_across, .int f_tb_down, .int f_tb_wanted, .ref a_tr, .ref a_tc])), (a_tr, .inl (y 0, 5, .inl v_tr)), (a_tc, .inl (y 0, 5, .inl v_tc))] s.heap.size) cX3_ways RX3 wsX3_ways 8 (some .int) D y := ⟨B.exec, B.bytes, hml, findClass_of_methodNamed B.named, atoms_spec (ws := wsX3_ways) B.pre, B.returns, B.notSynchronized, hK, fun q h => Or.inr h⟩
    have hl := lv_entry ([.ref a_tb, .int p1, .int p2, .int p3, .int p4]) (n := 8) (Nat.le_of_ble_eq_true rfl)
    rw [lg_entry_eq]
    generalize (lg_sl ([.ref a_tb, .int p1, .int p2, .int p3, .int p4]) ++ List.replicate (8 - (lg_sl ([.ref a_tb, .int p1, .int p2, .int p3, .int p4])).length) Slot.unset).toArray = ls at hl ⊢
    have hl : lv_has ls 8 [(0, .ref a_tb), (1, .int p1), (2, .int p2), (3, .int p3), (4, .int p4)] := hl
    exact B_X3_ways_0 (d := d) C ih p1 p2 p3 p4 v_tr v_tc s.heap [] ls hP hD va_S.rf hl hF
theorem kX3_tell_f9 : Cond.fieldLink RX3 9 "DescentShuffles$Tables" "n" "I" ∈ wsX3_tell := by decide +kernel
theorem kX3_tell_wX3 : ∀ w ∈ u_ws RX3 TX3 6, w ∈ wsX3_tell := by decide +kernel
theorem kX3_tell_f28 : Cond.fieldLink RX3 28 "DescentShuffles$Tables" "columns" "[I" ∈ wsX3_tell := by decide +kernel
theorem kX3_tell_f15 : Cond.fieldLink RX3 15 "DescentShuffles$Tables" "across" "I" ∈ wsX3_tell := by decide +kernel
theorem kX3_tell_f24 : Cond.fieldLink RX3 24 "DescentShuffles$Tables" "rows" "[I" ∈ wsX3_tell := by decide +kernel
theorem kX3_tell_f18 : Cond.fieldLink RX3 18 "DescentShuffles$Tables" "down" "I" ∈ wsX3_tell := by decide +kernel
theorem kX3_tell_f21 : Cond.fieldLink RX3 21 "DescentShuffles$Tables" "wanted" "I" ∈ wsX3_tell := by decide +kernel
def S_X3_tell_0 (p : Program) (l : Launch) (e : Env) (s : State) (m : MethodId) (args : Array Value) (below : List Frame) (meth : Method) (c : Code) (A : Nat → Prop) (D : va_G) (y : Nat → ClassId) (a_tb : Nat) (a_tr : Nat) (a_tc : Nat) (p1 : Int32) (p2 : Int32) (p3 : Int32) (p4 : Int32) (R : Int32 × Int32 × Int32 × Int32 × Int32 × (Nat → Int32) × (Nat → Int32)) (κ : Int32 → Int32 → Int32 → Int32 → (Nat → Int32) → (Nat → Int32) → Option (Int32 × Int32 × Int32 × Int32 × Int32 × (Nat → Int32) × (Nat → Int32))) : Prop := ∀ (f_tb_n : Int32) (f_tb_across : Int32) (f_tb_down : Int32) (f_tb_wanted : Int32) (v_tr : Nat → Int32) (v_tc : Nat → Int32) (H : Heap) (locs : List Loc) (ls : Array Slot), va_P D vwCl [(a_tb, .inr (3, [.int f_tb_n, .int f_tb_across, .int f_tb_down, .int f_tb_wanted, .ref a_tr, .ref a_tc])), (a_tr, .inl (y 0, 5, .inl v_tr)), (a_tc, .inl (y 0, 5, .inl v_tc))] H → va_D A [(a_tb, .inr (3, [.int f_tb_n, .int f_tb_across, .int f_tb_down, .int f_tb_wanted, .ref a_tr, .ref a_tc])), (a_tr, .inl (y 0, 5, .inl v_tr)), (a_tc, .inl (y 0, 5, .inl v_tc))] → va_S A s.heap H locs → lv_has ls 5 [(0, .ref a_tb), (1, .int p1), (2, .int p2), (3, .int p3), (4, .int p4)] → κ f_tb_n f_tb_across f_tb_down f_tb_wanted v_tr v_tc = some R → W p l e ({ frames := 42, cells := 0, slots := 0, locals := 1137 } : Room) s m args below meth c H locs 0 0 (MQ below (va_Qi (fun (r : Int32) (_ : Unit) => r = R.1) (xB D y A [(a_tb, .inr (3, [.int R.2.1, .int R.2.2.1, .int R.2.2.2.1, .int R.2.2.2.2.1, .ref a_tr, .ref a_tc])), (a_tr, .inl (y 0, 5, .inl R.2.2.2.2.2.1)), (a_tc, .inl (y 0, 5, .inl R.2.2.2.2.2.2))]) A) args s 0 0 A) (F0 m 0 ls [])
set_option maxHeartbeats 4000000 in
set_option maxRecDepth 100000 in
theorem B_X3_tell_0 {p : Program} {l : Launch} {e : Env} {s : State} {m : MethodId} {args : Array Value} {below : List Frame} {meth : Method} {c : Code} {A : Nat → Prop} {D : va_G} {y : Nat → ClassId} {a_tb : Nat} {a_tr : Nat} {a_tc : Nat} {p1 : Int32} {p2 : Int32} {p3 : Int32} {p4 : Int32} {R : Int32 × Int32 × Int32 × Int32 × Int32 × (Nat → Int32) × (Nat → Int32)} (C : xC p s m args meth c A cX3_tell RX3 wsX3_tell 5 (some .int) D y)  : S_X3_tell_0 p l e s m args below meth c A D y a_tb a_tr a_tc p1 p2 p3 p4 R (F_X3_tell p1 p2 p3 p4 ) := by
  have C0 := C
  obtain ⟨hx, hb, hml, hown, hts, hr, hlocks, hK, hA⟩ := C
  intro f_tb_n f_tb_across f_tb_down f_tb_wanted v_tr v_tc H locs ls hP hD hS hl hB
  unfold F_X3_tell at hB
  refine lv_aload_n hx hb dX3_tell_0 rfl (lv_at hl 0 rfl) ?_
  refine lv_iload_n hx hb dX3_tell_1 rfl (lv_at hl 1 rfl) ?_
  refine va_put (D := D) (ci := 3) (v := .int p1) (ty := .int) (C := RX3) (T := TX3) (N := 6) hx hb hts kX3_tell_wX3 tyX3 tyX3_ok nmX3 hown hK hP hD hS 0 rfl rfl 0 (by decide) (hts _ kX3_tell_f9) (fun _ h9 => h9) rfl (by decide +kernel) rfl rfl (Nat.le_of_ble_eq_true rfl) dX3_tell_2 (fun H locs hP hD hS => ?_)
  have hP : va_P D vwCl [(a_tb, .inr (3, [.int p1, .int f_tb_across, .int f_tb_down, .int f_tb_wanted, .ref a_tr, .ref a_tc])), (a_tr, .inl (y 0, 5, .inl v_tr)), (a_tc, .inl (y 0, 5, .inl v_tc))] H := hP
  have hD : va_D A [(a_tb, .inr (3, [.int p1, .int f_tb_across, .int f_tb_down, .int f_tb_wanted, .ref a_tr, .ref a_tc])), (a_tr, .inl (y 0, 5, .inl v_tr)), (a_tc, .inl (y 0, 5, .inl v_tc))] := hD
  refine lv_aload_n hx hb dX3_tell_5 rfl (lv_at hl 0 rfl) ?_
  refine lv_iload_n hx hb dX3_tell_6 rfl (lv_at hl 1 rfl) ?_
  refine lv_iload_n hx hb dX3_tell_7 rfl (lv_at hl 2 rfl) ?_
  refine lv_aload_n hx hb dX3_tell_8 rfl (lv_at hl 0 rfl) ?_
  refine va_get (D := D) (ci := 3) (v := .ref a_tc) (C := RX3) (T := TX3) (N := 6) hx hb hts kX3_tell_wX3 hown hK hP 0 rfl rfl 5 (by decide) (hts _ kX3_tell_f28) (fun _ h9 => h9) rfl dX3_tell_9 ?_
  obtain ⟨q1, e1, hB⟩ := xbd hB
  have hPc := hP.sub (ws' := [(a_tc, .inl (y 0, 5, .inl v_tc))]) [2] rfl
  have hDc := hD.sub (ws' := [(a_tc, .inl (y 0, 5, .inl v_tc))]) [2] (by decide) rfl
  refine xcalli (mc := 0) (ms := 0) (rv := q1.1) (wc := [(a_tc, .inl (y 0, 5, .inl v_tc))]) (wr := [(a_tb, .inr (3, [.int p1, .int f_tb_across, .int f_tb_down, .int f_tb_wanted, .ref a_tr, .ref a_tc])), (a_tr, .inl (y 0, 5, .inl v_tr))]) (w1 := [(a_tc, .inl (y 0, 5, .inl q1.2))]) (wf := [(a_tb, .inr (3, [.int p1, .int f_tb_across, .int f_tb_down, .int f_tb_wanted, .ref a_tr, .ref a_tc])), (a_tr, .inl (y 0, 5, .inl v_tr)), (a_tc, .inl (y 0, 5, .inl q1.2))]) (va_runS (As := [.int p1, .int p2, .ref a_tc]) (rest := [.ref a_tb]) ⟨hx, hb, hml, hown, hts⟩ (c_X3_cut l D y a_tc 5 v_tc p1 p2 H.size e1) (va_cwS 3 hts gX3_tell_X3_cut rfl rfl rfl (by decide +kernel) ⟨Nat.le_of_ble_eq_true rfl, Nat.le_of_ble_eq_true rfl⟩) ⟨xblind, xprev hPc hK hDc⟩ rfl rfl hl.1 rfl (lv_room (Nat.le_of_ble_eq_true rfl)) dX3_tell_12 ⟨Nat.le_of_ble_eq_true rfl, Nat.le_of_ble_eq_true rfl⟩) hP hD hS hA [2] [0, 1] [0, 1, 2] rfl rfl (by decide) (by decide) rfl (by decide) (fun H locs hP hD hS => ?_)
  refine va_put (D := D) (ci := 3) (v := .int q1.1) (ty := .int) (C := RX3) (T := TX3) (N := 6) hx hb hts kX3_tell_wX3 tyX3 tyX3_ok nmX3 hown hK hP hD hS 0 rfl rfl 1 (by decide) (hts _ kX3_tell_f15) (fun _ h9 => h9) rfl (by decide +kernel) rfl rfl (Nat.le_of_ble_eq_true rfl) dX3_tell_15 (fun H locs hP hD hS => ?_)
  have hP : va_P D vwCl [(a_tb, .inr (3, [.int p1, .int q1.1, .int f_tb_down, .int f_tb_wanted, .ref a_tr, .ref a_tc])), (a_tr, .inl (y 0, 5, .inl v_tr)), (a_tc, .inl (y 0, 5, .inl q1.2))] H := hP
  have hD : va_D A [(a_tb, .inr (3, [.int p1, .int q1.1, .int f_tb_down, .int f_tb_wanted, .ref a_tr, .ref a_tc])), (a_tr, .inl (y 0, 5, .inl v_tr)), (a_tc, .inl (y 0, 5, .inl q1.2))] := hD
  refine lv_aload_n hx hb dX3_tell_18 rfl (lv_at hl 0 rfl) ?_
  refine lv_iload_n hx hb dX3_tell_19 rfl (lv_at hl 1 rfl) ?_
  refine lv_iload_n hx hb dX3_tell_20 rfl (lv_at hl 3 rfl) ?_
  refine lv_aload_n hx hb dX3_tell_21 rfl (lv_at hl 0 rfl) ?_
  refine va_get (D := D) (ci := 3) (v := .ref a_tr) (C := RX3) (T := TX3) (N := 6) hx hb hts kX3_tell_wX3 hown hK hP 0 rfl rfl 4 (by decide) (hts _ kX3_tell_f24) (fun _ h9 => h9) rfl dX3_tell_22 ?_
  obtain ⟨q2, e2, hB⟩ := xbd hB
  have hPc := hP.sub (ws' := [(a_tr, .inl (y 0, 5, .inl v_tr))]) [1] rfl
  have hDc := hD.sub (ws' := [(a_tr, .inl (y 0, 5, .inl v_tr))]) [1] (by decide) rfl
  refine xcalli (mc := 0) (ms := 0) (rv := q2.1) (wc := [(a_tr, .inl (y 0, 5, .inl v_tr))]) (wr := [(a_tb, .inr (3, [.int p1, .int q1.1, .int f_tb_down, .int f_tb_wanted, .ref a_tr, .ref a_tc])), (a_tc, .inl (y 0, 5, .inl q1.2))]) (w1 := [(a_tr, .inl (y 0, 5, .inl q2.2))]) (wf := [(a_tb, .inr (3, [.int p1, .int q1.1, .int f_tb_down, .int f_tb_wanted, .ref a_tr, .ref a_tc])), (a_tr, .inl (y 0, 5, .inl q2.2)), (a_tc, .inl (y 0, 5, .inl q1.2))]) (va_runS (As := [.int p1, .int p3, .ref a_tr]) (rest := [.ref a_tb]) ⟨hx, hb, hml, hown, hts⟩ (c_X3_cut l D y a_tr 5 v_tr p1 p3 H.size e2) (va_cwS 3 hts gX3_tell_X3_cut rfl rfl rfl (by decide +kernel) ⟨Nat.le_of_ble_eq_true rfl, Nat.le_of_ble_eq_true rfl⟩) ⟨xblind, xprev hPc hK hDc⟩ rfl rfl hl.1 rfl (lv_room (Nat.le_of_ble_eq_true rfl)) dX3_tell_25 ⟨Nat.le_of_ble_eq_true rfl, Nat.le_of_ble_eq_true rfl⟩) hP hD hS hA [1] [0, 2] [0, 2, 1] rfl rfl (by decide) (by decide) rfl (by decide) (fun H locs hP hD hS => ?_)
  refine va_put (D := D) (ci := 3) (v := .int q2.1) (ty := .int) (C := RX3) (T := TX3) (N := 6) hx hb hts kX3_tell_wX3 tyX3 tyX3_ok nmX3 hown hK hP hD hS 0 rfl rfl 2 (by decide) (hts _ kX3_tell_f18) (fun _ h9 => h9) rfl (by decide +kernel) rfl rfl (Nat.le_of_ble_eq_true rfl) dX3_tell_28 (fun H locs hP hD hS => ?_)
  have hP : va_P D vwCl [(a_tb, .inr (3, [.int p1, .int q1.1, .int q2.1, .int f_tb_wanted, .ref a_tr, .ref a_tc])), (a_tr, .inl (y 0, 5, .inl q2.2)), (a_tc, .inl (y 0, 5, .inl q1.2))] H := hP
  have hD : va_D A [(a_tb, .inr (3, [.int p1, .int q1.1, .int q2.1, .int f_tb_wanted, .ref a_tr, .ref a_tc])), (a_tr, .inl (y 0, 5, .inl q2.2)), (a_tc, .inl (y 0, 5, .inl q1.2))] := hD
  refine lv_aload_n hx hb dX3_tell_31 rfl (lv_at hl 0 rfl) ?_
  refine lv_iload hx hb dX3_tell_32 (lv_at hl 4 rfl) ?_
  refine va_put (D := D) (ci := 3) (v := .int p4) (ty := .int) (C := RX3) (T := TX3) (N := 6) hx hb hts kX3_tell_wX3 tyX3 tyX3_ok nmX3 hown hK hP hD hS 0 rfl rfl 3 (by decide) (hts _ kX3_tell_f21) (fun _ h9 => h9) rfl (by decide +kernel) rfl rfl (Nat.le_of_ble_eq_true rfl) dX3_tell_34 (fun H locs hP hD hS => ?_)
  have hP : va_P D vwCl [(a_tb, .inr (3, [.int p1, .int q1.1, .int q2.1, .int p4, .ref a_tr, .ref a_tc])), (a_tr, .inl (y 0, 5, .inl q2.2)), (a_tc, .inl (y 0, 5, .inl q1.2))] H := hP
  have hD : va_D A [(a_tb, .inr (3, [.int p1, .int q1.1, .int q2.1, .int p4, .ref a_tr, .ref a_tc])), (a_tr, .inl (y 0, 5, .inl q2.2)), (a_tc, .inl (y 0, 5, .inl q1.2))] := hD
  refine lv_aload_n hx hb dX3_tell_37 rfl (lv_at hl 0 rfl) ?_
  refine lv_iconst (v := 0) hx hb dX3_tell_38 (by decide) ?_
  refine lv_iconst (v := 0) hx hb dX3_tell_39 (by decide) ?_
  refine lv_iconst (v := 0) hx hb dX3_tell_40 (by decide) ?_
  refine lv_iconst (v := 0) hx hb dX3_tell_41 (by decide) ?_
  obtain ⟨q3, e3, hB⟩ := xbd hB
  have hPc := hP.sub (ws' := [(a_tb, .inr (3, [.int p1, .int q1.1, .int q2.1, .int p4, .ref a_tr, .ref a_tc])), (a_tr, .inl (y 0, 5, .inl q2.2)), (a_tc, .inl (y 0, 5, .inl q1.2))]) [0, 1, 2] rfl
  have hDc := hD.sub (ws' := [(a_tb, .inr (3, [.int p1, .int q1.1, .int q2.1, .int p4, .ref a_tr, .ref a_tc])), (a_tr, .inl (y 0, 5, .inl q2.2)), (a_tc, .inl (y 0, 5, .inl q1.2))]) [0, 1, 2] (by decide) rfl
  refine xcalli (mc := 0) (ms := 0) (rv := q3.1) (wc := [(a_tb, .inr (3, [.int p1, .int q1.1, .int q2.1, .int p4, .ref a_tr, .ref a_tc])), (a_tr, .inl (y 0, 5, .inl q2.2)), (a_tc, .inl (y 0, 5, .inl q1.2))]) (wr := []) (w1 := [(a_tb, .inr (3, [.int p1, .int q1.1, .int q2.1, .int p4, .ref a_tr, .ref a_tc])), (a_tr, .inl (y 0, 5, .inl q3.2.1)), (a_tc, .inl (y 0, 5, .inl q3.2.2))]) (wf := [(a_tb, .inr (3, [.int p1, .int q1.1, .int q2.1, .int p4, .ref a_tr, .ref a_tc])), (a_tr, .inl (y 0, 5, .inl q3.2.1)), (a_tc, .inl (y 0, 5, .inl q3.2.2))]) (va_runS (As := [.ref a_tb, .int (0 : Int32), .int (0 : Int32), .int (0 : Int32), .int (0 : Int32)]) (rest := []) ⟨hx, hb, hml, hown, hts⟩ (c_X3_ways l D y p1 q1.1 q2.1 p4 40 a_tb a_tr a_tc q2.2 q1.2 (0 : Int32) (0 : Int32) (0 : Int32) (0 : Int32) H.size e3) (va_cwS 5 hts gX3_tell_X3_ways rfl rfl rfl (by decide +kernel) ⟨Nat.le_of_ble_eq_true rfl, Nat.le_of_ble_eq_true rfl⟩) ⟨xblind, xprev hPc hK hDc⟩ rfl rfl hl.1 rfl (lv_room (Nat.le_of_ble_eq_true rfl)) dX3_tell_42 ⟨Nat.le_of_ble_eq_true rfl, Nat.le_of_ble_eq_true rfl⟩) hP hD hS hA [0, 1, 2] [] [0, 1, 2] rfl rfl (by decide) (by decide) rfl (by decide) (fun H locs hP hD hS => ?_)
  have hB := Option.some.inj hB
  subst hB
  exact W.iret hx hb hr (fun t ht hW => ⟨⟨_, (), rfl, rfl, by rw [ht]; exact hP, va_K.moved hW.alike hK, hD⟩, hS.F ht⟩) hS.2.2 dX3_tell_45 hlocks
set_option maxHeartbeats 4000000 in
set_option maxRecDepth 100000 in
theorem c_X3_tell (l : Launch) (D : va_G) (y : Nat → ClassId) (a_tb : Nat) (a_tr : Nat) (a_tc : Nat)  (f_tb_n : Int32) (f_tb_across : Int32) (f_tb_down : Int32) (f_tb_wanted : Int32) (v_tr : Nat → Int32) (v_tc : Nat → Int32) (p1 : Int32) (p2 : Int32) (p3 : Int32) (p4 : Int32) (sz : Nat) {R : Int32 × Int32 × Int32 × Int32 × Int32 × (Nat → Int32) × (Nat → Int32)} (hF : F_X3_tell p1 p2 p3 p4 f_tb_n f_tb_across f_tb_down f_tb_wanted v_tr v_tc = some R) : Met l yX3_tell wsX3_tell ({ frames := 42, cells := 0, slots := 0, locals := 1137 } : Room) (xPre D y sz [.ref a_tb, .int p1, .int p2, .int p3, .int p4] [(a_tb, .inr (3, [.int f_tb_n, .int f_tb_across, .int f_tb_down, .int f_tb_wanted, .ref a_tr, .ref a_tc])), (a_tr, .inl (y 0, 5, .inl v_tr)), (a_tc, .inl (y 0, 5, .inl v_tc))]) (va_Qi (fun (r : Int32) (_ : Unit) => r = R.1) (xB D y (va_A [(a_tb, .inr (3, [.int f_tb_n, .int f_tb_across, .int f_tb_down, .int f_tb_wanted, .ref a_tr, .ref a_tc])), (a_tr, .inl (y 0, 5, .inl v_tr)), (a_tc, .inl (y 0, 5, .inl v_tc))] sz) [(a_tb, .inr (3, [.int R.2.1, .int R.2.2.1, .int R.2.2.2.1, .int R.2.2.2.2.1, .ref a_tr, .ref a_tc])), (a_tr, .inl (y 0, 5, .inl R.2.2.2.2.2.1)), (a_tc, .inl (y 0, 5, .inl R.2.2.2.2.2.2))]) (va_A [(a_tb, .inr (3, [.int f_tb_n, .int f_tb_across, .int f_tb_down, .int f_tb_wanted, .ref a_tr, .ref a_tc])), (a_tr, .inl (y 0, 5, .inl v_tr)), (a_tc, .inl (y 0, 5, .inl v_tc))] sz)) 0 0 (va_A [(a_tb, .inr (3, [.int f_tb_n, .int f_tb_across, .int f_tb_down, .int f_tb_wanted, .ref a_tr, .ref a_tc])), (a_tr, .inl (y 0, 5, .inl v_tr)), (a_tc, .inl (y 0, 5, .inl v_tc))] sz) := by
  refine Met.ofW (cc := cX3_tell) (maxL := 5) (ret := (some .int)) (by decide) rfl ?_
  intro p e s m args below meth c s₁ B hml hv
  obtain ⟨rfl, hsz, hP, hK, hD0⟩ := hv
  subst hsz
  have hD := hD0.self (sz := s.heap.size)
  have C : xC p s m [.ref a_tb, .int p1, .int p2, .int p3, .int p4].toArray meth c (va_A [(a_tb, .inr (3, [.int f_tb_n, .int f_tb_across, .int f_tb_down, .int f_tb_wanted, .ref a_tr, .ref a_tc])), (a_tr, .inl (y 0, 5, .inl v_tr)), (a_tc, .inl (y 0, 5, .inl v_tc))] s.heap.size) cX3_tell RX3 wsX3_tell 5 (some .int) D y := ⟨B.exec, B.bytes, hml, findClass_of_methodNamed B.named, atoms_spec (ws := wsX3_tell) B.pre, B.returns, B.notSynchronized, hK, fun q h => Or.inr h⟩
  have hl := lv_entry ([.ref a_tb, .int p1, .int p2, .int p3, .int p4]) (n := 5) (Nat.le_of_ble_eq_true rfl)
  rw [lg_entry_eq]
  generalize (lg_sl ([.ref a_tb, .int p1, .int p2, .int p3, .int p4]) ++ List.replicate (5 - (lg_sl ([.ref a_tb, .int p1, .int p2, .int p3, .int p4])).length) Slot.unset).toArray = ls at hl ⊢
  have hl : lv_has ls 5 [(0, .ref a_tb), (1, .int p1), (2, .int p2), (3, .int p3), (4, .int p4)] := hl
  exact B_X3_tell_0 (p1 := p1) (p2 := p2) (p3 := p3) (p4 := p4) C f_tb_n f_tb_across f_tb_down f_tb_wanted v_tr v_tc s.heap [] ls hP hD va_S.rf hl hF
theorem kX5_byTables_c67 : Cond.constant RX5 67 (-10000001) ∈ wsX5_byTables := by decide +kernel
theorem kX5_byTables_f51 : Cond.fieldLink RX5 51 "DescentShuffles" "tables" "LDescentShuffles$Tables;" ∈ wsX5_byTables := by decide +kernel
theorem kX5_byTables_wX5 : ∀ w ∈ u_ws RX5 TX5 9, w ∈ wsX5_byTables := by decide +kernel
theorem kX5_byTables_f59 : Cond.fieldLink RX5 59 "DescentShuffles" "orders" "LDescentShuffles$Orders;" ∈ wsX5_byTables := by decide +kernel
theorem kX5_byTables_f68 : Cond.fieldLink RX5 68 "DescentShuffles$Orders" "n" "I" ∈ wsX5_byTables := by decide +kernel
theorem kX5_byTables_wX1 : ∀ w ∈ u_ws RX1 TX1 11, w ∈ wsX5_byTables := by decide +kernel
def S_X5_byTables_32 (p : Program) (l : Launch) (e : Env) (s : State) (m : MethodId) (args : Array Value) (below : List Frame) (meth : Method) (c : Code) (A : Nat → Prop) (D : va_G) (y : Nat → ClassId) (a_x : Nat) (a_known : Nat) (a_so : Nat) (a_made : Nat) (a_pcl : Nat) (a_hi : Nat) (a_tx : Nat) (a_rd : Nat) (a_tb : Nat) (a_o : Nat) (a_tr : Nat) (a_tc : Nat) (a_od : Nat) (a_op : Nat) (a_oi : Nat) (a_ov : Nat) (a_of : Nat) (a_ol : Nat) (a_om : Nat) (a_ow : Nat) (f_o_n : Int32) (f_o_many : Int32) (f_o_sets : Int32) (p1 : Int32) (p2 : Int32) (p3 : Int32) (R : Int32 × Int32 × Int32 × Int32 × Int32 × (Nat → Int32) × (Nat → Int32)) (κ : Int32 → Int32 → Int32 → Int32 → (Nat → Int32) → (Nat → Int32) → Option (Int32 × Int32 × Int32 × Int32 × Int32 × (Nat → Int32) × (Nat → Int32))) : Prop := ∀ (f_tb_n : Int32) (f_tb_across : Int32) (f_tb_down : Int32) (f_tb_wanted : Int32) (v_tr : Nat → Int32) (v_tc : Nat → Int32) (H : Heap) (locs : List Loc) (ls : Array Slot), va_P D vwCl [(a_x, .inr (5, [.ref a_known, .ref a_so, .ref a_made, .ref a_pcl, .ref a_hi, .ref a_tx, .ref a_rd, .ref a_tb, .ref a_o])), (a_tb, .inr (3, [.int f_tb_n, .int f_tb_across, .int f_tb_down, .int f_tb_wanted, .ref a_tr, .ref a_tc])), (a_tr, .inl (y 0, 5, .inl v_tr)), (a_tc, .inl (y 0, 5, .inl v_tc)), (a_o, .inr (1, [.int f_o_n, .int f_o_many, .int f_o_sets, .ref a_od, .ref a_op, .ref a_oi, .ref a_ov, .ref a_of, .ref a_ol, .ref a_om, .ref a_ow]))] H → va_D A [(a_x, .inr (5, [.ref a_known, .ref a_so, .ref a_made, .ref a_pcl, .ref a_hi, .ref a_tx, .ref a_rd, .ref a_tb, .ref a_o])), (a_tb, .inr (3, [.int f_tb_n, .int f_tb_across, .int f_tb_down, .int f_tb_wanted, .ref a_tr, .ref a_tc])), (a_tr, .inl (y 0, 5, .inl v_tr)), (a_tc, .inl (y 0, 5, .inl v_tc)), (a_o, .inr (1, [.int f_o_n, .int f_o_many, .int f_o_sets, .ref a_od, .ref a_op, .ref a_oi, .ref a_ov, .ref a_of, .ref a_ol, .ref a_om, .ref a_ow]))] → va_S A s.heap H locs → lv_has ls 4 [(0, .ref a_x), (1, .int p1), (2, .int p2), (3, .int p3)] → κ f_tb_n f_tb_across f_tb_down f_tb_wanted v_tr v_tc = some R → W p l e ({ frames := 43, cells := 0, slots := 0, locals := 1161 } : Room) s m args below meth c H locs 0 0 (MQ below (va_Qi (fun (r : Int32) (_ : Unit) => r = R.1) (xB D y A [(a_x, .inr (5, [.ref a_known, .ref a_so, .ref a_made, .ref a_pcl, .ref a_hi, .ref a_tx, .ref a_rd, .ref a_tb, .ref a_o])), (a_tb, .inr (3, [.int R.2.1, .int R.2.2.1, .int R.2.2.2.1, .int R.2.2.2.2.1, .ref a_tr, .ref a_tc])), (a_tr, .inl (y 0, 5, .inl R.2.2.2.2.2.1)), (a_tc, .inl (y 0, 5, .inl R.2.2.2.2.2.2)), (a_o, .inr (1, [.int f_o_n, .int f_o_many, .int f_o_sets, .ref a_od, .ref a_op, .ref a_oi, .ref a_ov, .ref a_of, .ref a_ol, .ref a_om, .ref a_ow]))]) A) args s 0 0 A) (F0 m 32 ls [])
def S_X5_byTables_0 (p : Program) (l : Launch) (e : Env) (s : State) (m : MethodId) (args : Array Value) (below : List Frame) (meth : Method) (c : Code) (A : Nat → Prop) (D : va_G) (y : Nat → ClassId) (a_x : Nat) (a_known : Nat) (a_so : Nat) (a_made : Nat) (a_pcl : Nat) (a_hi : Nat) (a_tx : Nat) (a_rd : Nat) (a_tb : Nat) (a_o : Nat) (a_tr : Nat) (a_tc : Nat) (a_od : Nat) (a_op : Nat) (a_oi : Nat) (a_ov : Nat) (a_of : Nat) (a_ol : Nat) (a_om : Nat) (a_ow : Nat) (f_o_n : Int32) (f_o_many : Int32) (f_o_sets : Int32) (p1 : Int32) (p2 : Int32) (p3 : Int32) (R : Int32 × Int32 × Int32 × Int32 × Int32 × (Nat → Int32) × (Nat → Int32)) (κ : Int32 → Int32 → Int32 → Int32 → (Nat → Int32) → (Nat → Int32) → Option (Int32 × Int32 × Int32 × Int32 × Int32 × (Nat → Int32) × (Nat → Int32))) : Prop := ∀ (f_tb_n : Int32) (f_tb_across : Int32) (f_tb_down : Int32) (f_tb_wanted : Int32) (v_tr : Nat → Int32) (v_tc : Nat → Int32) (H : Heap) (locs : List Loc) (ls : Array Slot), va_P D vwCl [(a_x, .inr (5, [.ref a_known, .ref a_so, .ref a_made, .ref a_pcl, .ref a_hi, .ref a_tx, .ref a_rd, .ref a_tb, .ref a_o])), (a_tb, .inr (3, [.int f_tb_n, .int f_tb_across, .int f_tb_down, .int f_tb_wanted, .ref a_tr, .ref a_tc])), (a_tr, .inl (y 0, 5, .inl v_tr)), (a_tc, .inl (y 0, 5, .inl v_tc)), (a_o, .inr (1, [.int f_o_n, .int f_o_many, .int f_o_sets, .ref a_od, .ref a_op, .ref a_oi, .ref a_ov, .ref a_of, .ref a_ol, .ref a_om, .ref a_ow]))] H → va_D A [(a_x, .inr (5, [.ref a_known, .ref a_so, .ref a_made, .ref a_pcl, .ref a_hi, .ref a_tx, .ref a_rd, .ref a_tb, .ref a_o])), (a_tb, .inr (3, [.int f_tb_n, .int f_tb_across, .int f_tb_down, .int f_tb_wanted, .ref a_tr, .ref a_tc])), (a_tr, .inl (y 0, 5, .inl v_tr)), (a_tc, .inl (y 0, 5, .inl v_tc)), (a_o, .inr (1, [.int f_o_n, .int f_o_many, .int f_o_sets, .ref a_od, .ref a_op, .ref a_oi, .ref a_ov, .ref a_of, .ref a_ol, .ref a_om, .ref a_ow]))] → va_S A s.heap H locs → lv_has ls 4 [(0, .ref a_x), (1, .int p1), (2, .int p2), (3, .int p3)] → κ f_tb_n f_tb_across f_tb_down f_tb_wanted v_tr v_tc = some R → W p l e ({ frames := 43, cells := 0, slots := 0, locals := 1161 } : Room) s m args below meth c H locs 0 0 (MQ below (va_Qi (fun (r : Int32) (_ : Unit) => r = R.1) (xB D y A [(a_x, .inr (5, [.ref a_known, .ref a_so, .ref a_made, .ref a_pcl, .ref a_hi, .ref a_tx, .ref a_rd, .ref a_tb, .ref a_o])), (a_tb, .inr (3, [.int R.2.1, .int R.2.2.1, .int R.2.2.2.1, .int R.2.2.2.2.1, .ref a_tr, .ref a_tc])), (a_tr, .inl (y 0, 5, .inl R.2.2.2.2.2.1)), (a_tc, .inl (y 0, 5, .inl R.2.2.2.2.2.2)), (a_o, .inr (1, [.int f_o_n, .int f_o_many, .int f_o_sets, .ref a_od, .ref a_op, .ref a_oi, .ref a_ov, .ref a_of, .ref a_ol, .ref a_om, .ref a_ow]))]) A) args s 0 0 A) (F0 m 0 ls [])
set_option maxHeartbeats 4000000 in
set_option maxRecDepth 100000 in
theorem B_X5_byTables_32 {p : Program} {l : Launch} {e : Env} {s : State} {m : MethodId} {args : Array Value} {below : List Frame} {meth : Method} {c : Code} {A : Nat → Prop} {D : va_G} {y : Nat → ClassId} {a_x : Nat} {a_known : Nat} {a_so : Nat} {a_made : Nat} {a_pcl : Nat} {a_hi : Nat} {a_tx : Nat} {a_rd : Nat} {a_tb : Nat} {a_o : Nat} {a_tr : Nat} {a_tc : Nat} {a_od : Nat} {a_op : Nat} {a_oi : Nat} {a_ov : Nat} {a_of : Nat} {a_ol : Nat} {a_om : Nat} {a_ow : Nat} {f_o_n : Int32} {f_o_many : Int32} {f_o_sets : Int32} {p1 : Int32} {p2 : Int32} {p3 : Int32} {R : Int32 × Int32 × Int32 × Int32 × Int32 × (Nat → Int32) × (Nat → Int32)} (C : xC p s m args meth c A cX5_byTables RX5 wsX5_byTables 4 (some .int) D y)  : S_X5_byTables_32 p l e s m args below meth c A D y a_x a_known a_so a_made a_pcl a_hi a_tx a_rd a_tb a_o a_tr a_tc a_od a_op a_oi a_ov a_of a_ol a_om a_ow f_o_n f_o_many f_o_sets p1 p2 p3 R (F_X5_byTables_32 f_o_n p1 p2 p3 ) := by
  have C0 := C
  obtain ⟨hx, hb, hml, hown, hts, hr, hlocks, hK, hA⟩ := C
  intro f_tb_n f_tb_across f_tb_down f_tb_wanted v_tr v_tc H locs ls hP hD hS hl hB
  unfold F_X5_byTables_32 at hB
  refine lv_aload_n hx hb dX5_byTables_32 rfl (lv_at hl 0 rfl) ?_
  refine va_get (D := D) (ci := 5) (v := .ref a_tb) (C := RX5) (T := TX5) (N := 9) hx hb hts kX5_byTables_wX5 hown hK hP 0 rfl rfl 7 (by decide) (hts _ kX5_byTables_f51) (fun _ h9 => h9) rfl dX5_byTables_33 ?_
  refine lv_aload_n hx hb dX5_byTables_36 rfl (lv_at hl 0 rfl) ?_
  refine va_get (D := D) (ci := 5) (v := .ref a_o) (C := RX5) (T := TX5) (N := 9) hx hb hts kX5_byTables_wX5 hown hK hP 0 rfl rfl 8 (by decide) (hts _ kX5_byTables_f59) (fun _ h9 => h9) rfl dX5_byTables_37 ?_
  refine va_get (D := D) (ci := 1) (v := .int f_o_n) (C := RX1) (T := TX1) (N := 11) hx hb hts kX5_byTables_wX1 hown hK hP 4 rfl rfl 0 (by decide) (hts _ kX5_byTables_f68) (fun _ h9 => h9) rfl dX5_byTables_40 ?_
  refine lv_iload_n hx hb dX5_byTables_43 rfl (lv_at hl 1 rfl) ?_
  refine lv_iload_n hx hb dX5_byTables_44 rfl (lv_at hl 2 rfl) ?_
  refine lv_iload_n hx hb dX5_byTables_45 rfl (lv_at hl 3 rfl) ?_
  obtain ⟨q1, e1, hB⟩ := xbd hB
  have hPc := hP.sub (ws' := [(a_tb, .inr (3, [.int f_tb_n, .int f_tb_across, .int f_tb_down, .int f_tb_wanted, .ref a_tr, .ref a_tc])), (a_tr, .inl (y 0, 5, .inl v_tr)), (a_tc, .inl (y 0, 5, .inl v_tc))]) [1, 2, 3] rfl
  have hDc := hD.sub (ws' := [(a_tb, .inr (3, [.int f_tb_n, .int f_tb_across, .int f_tb_down, .int f_tb_wanted, .ref a_tr, .ref a_tc])), (a_tr, .inl (y 0, 5, .inl v_tr)), (a_tc, .inl (y 0, 5, .inl v_tc))]) [1, 2, 3] (by decide) rfl
  refine xcalli (mc := 0) (ms := 0) (rv := q1.1) (wc := [(a_tb, .inr (3, [.int f_tb_n, .int f_tb_across, .int f_tb_down, .int f_tb_wanted, .ref a_tr, .ref a_tc])), (a_tr, .inl (y 0, 5, .inl v_tr)), (a_tc, .inl (y 0, 5, .inl v_tc))]) (wr := [(a_x, .inr (5, [.ref a_known, .ref a_so, .ref a_made, .ref a_pcl, .ref a_hi, .ref a_tx, .ref a_rd, .ref a_tb, .ref a_o])), (a_o, .inr (1, [.int f_o_n, .int f_o_many, .int f_o_sets, .ref a_od, .ref a_op, .ref a_oi, .ref a_ov, .ref a_of, .ref a_ol, .ref a_om, .ref a_ow]))]) (w1 := [(a_tb, .inr (3, [.int q1.2.1, .int q1.2.2.1, .int q1.2.2.2.1, .int q1.2.2.2.2.1, .ref a_tr, .ref a_tc])), (a_tr, .inl (y 0, 5, .inl q1.2.2.2.2.2.1)), (a_tc, .inl (y 0, 5, .inl q1.2.2.2.2.2.2))]) (wf := [(a_x, .inr (5, [.ref a_known, .ref a_so, .ref a_made, .ref a_pcl, .ref a_hi, .ref a_tx, .ref a_rd, .ref a_tb, .ref a_o])), (a_tb, .inr (3, [.int q1.2.1, .int q1.2.2.1, .int q1.2.2.2.1, .int q1.2.2.2.2.1, .ref a_tr, .ref a_tc])), (a_tr, .inl (y 0, 5, .inl q1.2.2.2.2.2.1)), (a_tc, .inl (y 0, 5, .inl q1.2.2.2.2.2.2)), (a_o, .inr (1, [.int f_o_n, .int f_o_many, .int f_o_sets, .ref a_od, .ref a_op, .ref a_oi, .ref a_ov, .ref a_of, .ref a_ol, .ref a_om, .ref a_ow]))]) (va_runV (As := [.int f_o_n, .int p1, .int p2, .int p3]) (rest := []) ⟨hx, hb, hml, hown, hts⟩ (c_X3_tell l D y a_tb a_tr a_tc f_tb_n f_tb_across f_tb_down f_tb_wanted v_tr v_tc f_o_n p1 p2 p3 H.size e1) (cwV 4 hts gX5_byTables_X3_tell rfl rfl rfl (by decide +kernel) ⟨Nat.le_of_ble_eq_true rfl, Nat.le_of_ble_eq_true rfl⟩) ⟨xblind, va_recv hK hP (ci := 3) (q0 := 1) rfl rfl, xprev hPc hK hDc⟩ rfl rfl hl.1 rfl (lv_room (Nat.le_of_ble_eq_true rfl)) dX5_byTables_46 ⟨Nat.le_of_ble_eq_true rfl, Nat.le_of_ble_eq_true rfl⟩) hP hD hS hA [1, 2, 3] [0, 4] [0, 2, 3, 4, 1] rfl rfl (by decide) (by decide) rfl (by decide) (fun H locs hP hD hS => ?_)
  have hB := Option.some.inj hB
  subst hB
  exact W.iret hx hb hr (fun t ht hW => ⟨⟨_, (), rfl, rfl, by rw [ht]; exact hP, va_K.moved hW.alike hK, hD⟩, hS.F ht⟩) hS.2.2 dX5_byTables_49 hlocks
set_option maxHeartbeats 4000000 in
set_option maxRecDepth 100000 in
theorem B_X5_byTables_0 {p : Program} {l : Launch} {e : Env} {s : State} {m : MethodId} {args : Array Value} {below : List Frame} {meth : Method} {c : Code} {A : Nat → Prop} {D : va_G} {y : Nat → ClassId} {a_x : Nat} {a_known : Nat} {a_so : Nat} {a_made : Nat} {a_pcl : Nat} {a_hi : Nat} {a_tx : Nat} {a_rd : Nat} {a_tb : Nat} {a_o : Nat} {a_tr : Nat} {a_tc : Nat} {a_od : Nat} {a_op : Nat} {a_oi : Nat} {a_ov : Nat} {a_of : Nat} {a_ol : Nat} {a_om : Nat} {a_ow : Nat} {f_o_n : Int32} {f_o_many : Int32} {f_o_sets : Int32} {p1 : Int32} {p2 : Int32} {p3 : Int32} {R : Int32 × Int32 × Int32 × Int32 × Int32 × (Nat → Int32) × (Nat → Int32)} (C : xC p s m args meth c A cX5_byTables RX5 wsX5_byTables 4 (some .int) D y)  : S_X5_byTables_0 p l e s m args below meth c A D y a_x a_known a_so a_made a_pcl a_hi a_tx a_rd a_tb a_o a_tr a_tc a_od a_op a_oi a_ov a_of a_ol a_om a_ow f_o_n f_o_many f_o_sets p1 p2 p3 R (F_X5_byTables f_o_n f_o_sets p1 p2 p3 ) := by
  have C0 := C
  obtain ⟨hx, hb, hml, hown, hts, hr, hlocks, hK, hA⟩ := C
  intro f_tb_n f_tb_across f_tb_down f_tb_wanted v_tr v_tc H locs ls hP hD hS hl hB
  unfold F_X5_byTables at hB
  refine lv_aload_n hx hb dX5_byTables_0 rfl (lv_at hl 0 rfl) ?_
  refine lv_iload_n hx hb dX5_byTables_1 rfl (lv_at hl 1 rfl) ?_
  obtain ⟨q1, e1, hB⟩ := xbd hB
  have hPc := hP.sub (ws' := [(a_x, .inr (5, [.ref a_known, .ref a_so, .ref a_made, .ref a_pcl, .ref a_hi, .ref a_tx, .ref a_rd, .ref a_tb, .ref a_o])), (a_o, .inr (1, [.int f_o_n, .int f_o_many, .int f_o_sets, .ref a_od, .ref a_op, .ref a_oi, .ref a_ov, .ref a_of, .ref a_ol, .ref a_om, .ref a_ow]))]) [0, 4] rfl
  have hDc := hD.sub (ws' := [(a_x, .inr (5, [.ref a_known, .ref a_so, .ref a_made, .ref a_pcl, .ref a_hi, .ref a_tx, .ref a_rd, .ref a_tb, .ref a_o])), (a_o, .inr (1, [.int f_o_n, .int f_o_many, .int f_o_sets, .ref a_od, .ref a_op, .ref a_oi, .ref a_ov, .ref a_of, .ref a_ol, .ref a_om, .ref a_ow]))]) [0, 4] (by decide) rfl
  refine xcalli (mc := 0) (ms := 0) (rv := q1) (wc := [(a_x, .inr (5, [.ref a_known, .ref a_so, .ref a_made, .ref a_pcl, .ref a_hi, .ref a_tx, .ref a_rd, .ref a_tb, .ref a_o])), (a_o, .inr (1, [.int f_o_n, .int f_o_many, .int f_o_sets, .ref a_od, .ref a_op, .ref a_oi, .ref a_ov, .ref a_of, .ref a_ol, .ref a_om, .ref a_ow]))]) (wr := [(a_tb, .inr (3, [.int f_tb_n, .int f_tb_across, .int f_tb_down, .int f_tb_wanted, .ref a_tr, .ref a_tc])), (a_tr, .inl (y 0, 5, .inl v_tr)), (a_tc, .inl (y 0, 5, .inl v_tc))]) (w1 := [(a_x, .inr (5, [.ref a_known, .ref a_so, .ref a_made, .ref a_pcl, .ref a_hi, .ref a_tx, .ref a_rd, .ref a_tb, .ref a_o])), (a_o, .inr (1, [.int f_o_n, .int f_o_many, .int f_o_sets, .ref a_od, .ref a_op, .ref a_oi, .ref a_ov, .ref a_of, .ref a_ol, .ref a_om, .ref a_ow]))]) (wf := [(a_x, .inr (5, [.ref a_known, .ref a_so, .ref a_made, .ref a_pcl, .ref a_hi, .ref a_tx, .ref a_rd, .ref a_tb, .ref a_o])), (a_tb, .inr (3, [.int f_tb_n, .int f_tb_across, .int f_tb_down, .int f_tb_wanted, .ref a_tr, .ref a_tc])), (a_tr, .inl (y 0, 5, .inl v_tr)), (a_tc, .inl (y 0, 5, .inl v_tc)), (a_o, .inr (1, [.int f_o_n, .int f_o_many, .int f_o_sets, .ref a_od, .ref a_op, .ref a_oi, .ref a_ov, .ref a_of, .ref a_ol, .ref a_om, .ref a_ow]))]) (va_runV (As := [.int p1]) (rest := []) ⟨hx, hb, hml, hown, hts⟩ (c_X5_isSet l D y a_x a_known a_so a_made a_pcl a_hi a_tx a_rd a_tb a_o a_od a_op a_oi a_ov a_of a_ol a_om a_ow f_o_n f_o_many f_o_sets p1 H.size e1) (cwV 1 hts gX5_byTables_X5_isSet rfl rfl rfl (by decide +kernel) ⟨Nat.le_of_ble_eq_true rfl, Nat.le_of_ble_eq_true rfl⟩) ⟨xblind, va_recv hK hP (ci := 5) (q0 := 0) rfl rfl, xprev hPc hK hDc⟩ rfl rfl hl.1 rfl (lv_room (Nat.le_of_ble_eq_true rfl)) dX5_byTables_2 ⟨Nat.le_of_ble_eq_true rfl, Nat.le_of_ble_eq_true rfl⟩) hP hD hS hA [0, 4] [1, 2, 3] [3, 0, 1, 2, 4] rfl rfl (by decide) (by decide) rfl (by decide) (fun H locs hP hD hS => ?_)
  refine lv_if_eq (tgt := 29) hx hb dX5_byTables_5 (by decide) (fun c2 => ?_) (fun c2 => ?_)
  · have hB := xip c2 hB
    refine lv_ldc (v := -10000001) hx hb hown (hts _ kX5_byTables_c67) dX5_byTables_29 ?_
    have hB := Option.some.inj hB
    subst hB
    exact W.iret hx hb hr (fun t ht hW => ⟨⟨_, (), rfl, rfl, by rw [ht]; exact hP, va_K.moved hW.alike hK, hD⟩, hS.F ht⟩) hS.2.2 dX5_byTables_31 hlocks
  · have hB := xin c2 hB
    refine lv_aload_n hx hb dX5_byTables_8 rfl (lv_at hl 0 rfl) ?_
    refine lv_iload_n hx hb dX5_byTables_9 rfl (lv_at hl 2 rfl) ?_
    obtain ⟨q3, e3, hB⟩ := xbd hB
    have hPc := hP.sub (ws' := [(a_x, .inr (5, [.ref a_known, .ref a_so, .ref a_made, .ref a_pcl, .ref a_hi, .ref a_tx, .ref a_rd, .ref a_tb, .ref a_o])), (a_o, .inr (1, [.int f_o_n, .int f_o_many, .int f_o_sets, .ref a_od, .ref a_op, .ref a_oi, .ref a_ov, .ref a_of, .ref a_ol, .ref a_om, .ref a_ow]))]) [0, 4] rfl
    have hDc := hD.sub (ws' := [(a_x, .inr (5, [.ref a_known, .ref a_so, .ref a_made, .ref a_pcl, .ref a_hi, .ref a_tx, .ref a_rd, .ref a_tb, .ref a_o])), (a_o, .inr (1, [.int f_o_n, .int f_o_many, .int f_o_sets, .ref a_od, .ref a_op, .ref a_oi, .ref a_ov, .ref a_of, .ref a_ol, .ref a_om, .ref a_ow]))]) [0, 4] (by decide) rfl
    refine xcalli (mc := 0) (ms := 0) (rv := q3) (wc := [(a_x, .inr (5, [.ref a_known, .ref a_so, .ref a_made, .ref a_pcl, .ref a_hi, .ref a_tx, .ref a_rd, .ref a_tb, .ref a_o])), (a_o, .inr (1, [.int f_o_n, .int f_o_many, .int f_o_sets, .ref a_od, .ref a_op, .ref a_oi, .ref a_ov, .ref a_of, .ref a_ol, .ref a_om, .ref a_ow]))]) (wr := [(a_tb, .inr (3, [.int f_tb_n, .int f_tb_across, .int f_tb_down, .int f_tb_wanted, .ref a_tr, .ref a_tc])), (a_tr, .inl (y 0, 5, .inl v_tr)), (a_tc, .inl (y 0, 5, .inl v_tc))]) (w1 := [(a_x, .inr (5, [.ref a_known, .ref a_so, .ref a_made, .ref a_pcl, .ref a_hi, .ref a_tx, .ref a_rd, .ref a_tb, .ref a_o])), (a_o, .inr (1, [.int f_o_n, .int f_o_many, .int f_o_sets, .ref a_od, .ref a_op, .ref a_oi, .ref a_ov, .ref a_of, .ref a_ol, .ref a_om, .ref a_ow]))]) (wf := [(a_x, .inr (5, [.ref a_known, .ref a_so, .ref a_made, .ref a_pcl, .ref a_hi, .ref a_tx, .ref a_rd, .ref a_tb, .ref a_o])), (a_tb, .inr (3, [.int f_tb_n, .int f_tb_across, .int f_tb_down, .int f_tb_wanted, .ref a_tr, .ref a_tc])), (a_tr, .inl (y 0, 5, .inl v_tr)), (a_tc, .inl (y 0, 5, .inl v_tc)), (a_o, .inr (1, [.int f_o_n, .int f_o_many, .int f_o_sets, .ref a_od, .ref a_op, .ref a_oi, .ref a_ov, .ref a_of, .ref a_ol, .ref a_om, .ref a_ow]))]) (va_runV (As := [.int p2]) (rest := []) ⟨hx, hb, hml, hown, hts⟩ (c_X5_isSet l D y a_x a_known a_so a_made a_pcl a_hi a_tx a_rd a_tb a_o a_od a_op a_oi a_ov a_of a_ol a_om a_ow f_o_n f_o_many f_o_sets p2 H.size e3) (cwV 1 hts gX5_byTables_X5_isSet rfl rfl rfl (by decide +kernel) ⟨Nat.le_of_ble_eq_true rfl, Nat.le_of_ble_eq_true rfl⟩) ⟨xblind, va_recv hK hP (ci := 5) (q0 := 0) rfl rfl, xprev hPc hK hDc⟩ rfl rfl hl.1 rfl (lv_room (Nat.le_of_ble_eq_true rfl)) dX5_byTables_10 ⟨Nat.le_of_ble_eq_true rfl, Nat.le_of_ble_eq_true rfl⟩) hP hD hS hA [0, 4] [1, 2, 3] [3, 0, 1, 2, 4] rfl rfl (by decide) (by decide) rfl (by decide) (fun H locs hP hD hS => ?_)
    refine lv_if_eq (tgt := 29) hx hb dX5_byTables_13 (by decide) (fun c4 => ?_) (fun c4 => ?_)
    · have hB := xip c4 hB
      refine lv_ldc (v := -10000001) hx hb hown (hts _ kX5_byTables_c67) dX5_byTables_29 ?_
      have hB := Option.some.inj hB
      subst hB
      exact W.iret hx hb hr (fun t ht hW => ⟨⟨_, (), rfl, rfl, by rw [ht]; exact hP, va_K.moved hW.alike hK, hD⟩, hS.F ht⟩) hS.2.2 dX5_byTables_31 hlocks
    · have hB := xin c4 hB
      refine lv_iload_n hx hb dX5_byTables_16 rfl (lv_at hl 3 rfl) ?_
      refine lv_iconst (v := -1) hx hb dX5_byTables_17 (by decide) ?_
      refine lv_icmp_eq (tgt := 32) hx hb dX5_byTables_18 (by decide) (fun c5 => ?_) (fun c5 => ?_)
      · have hB := xip c5 hB
        exact B_X5_byTables_32 (p1 := p1) (p2 := p2) (p3 := p3) C0 f_tb_n f_tb_across f_tb_down f_tb_wanted v_tr v_tc H locs ls hP hD hS (lv_sub hl [0, 1, 2, 3] rfl) hB
      · have hB := xin c5 hB
        refine lv_aload_n hx hb dX5_byTables_21 rfl (lv_at hl 0 rfl) ?_
        refine lv_iload_n hx hb dX5_byTables_22 rfl (lv_at hl 3 rfl) ?_
        obtain ⟨q6, e6, hB⟩ := xbd hB
        have hPc := hP.sub (ws' := [(a_x, .inr (5, [.ref a_known, .ref a_so, .ref a_made, .ref a_pcl, .ref a_hi, .ref a_tx, .ref a_rd, .ref a_tb, .ref a_o])), (a_o, .inr (1, [.int f_o_n, .int f_o_many, .int f_o_sets, .ref a_od, .ref a_op, .ref a_oi, .ref a_ov, .ref a_of, .ref a_ol, .ref a_om, .ref a_ow]))]) [0, 4] rfl
        have hDc := hD.sub (ws' := [(a_x, .inr (5, [.ref a_known, .ref a_so, .ref a_made, .ref a_pcl, .ref a_hi, .ref a_tx, .ref a_rd, .ref a_tb, .ref a_o])), (a_o, .inr (1, [.int f_o_n, .int f_o_many, .int f_o_sets, .ref a_od, .ref a_op, .ref a_oi, .ref a_ov, .ref a_of, .ref a_ol, .ref a_om, .ref a_ow]))]) [0, 4] (by decide) rfl
        refine xcalli (mc := 0) (ms := 0) (rv := q6) (wc := [(a_x, .inr (5, [.ref a_known, .ref a_so, .ref a_made, .ref a_pcl, .ref a_hi, .ref a_tx, .ref a_rd, .ref a_tb, .ref a_o])), (a_o, .inr (1, [.int f_o_n, .int f_o_many, .int f_o_sets, .ref a_od, .ref a_op, .ref a_oi, .ref a_ov, .ref a_of, .ref a_ol, .ref a_om, .ref a_ow]))]) (wr := [(a_tb, .inr (3, [.int f_tb_n, .int f_tb_across, .int f_tb_down, .int f_tb_wanted, .ref a_tr, .ref a_tc])), (a_tr, .inl (y 0, 5, .inl v_tr)), (a_tc, .inl (y 0, 5, .inl v_tc))]) (w1 := [(a_x, .inr (5, [.ref a_known, .ref a_so, .ref a_made, .ref a_pcl, .ref a_hi, .ref a_tx, .ref a_rd, .ref a_tb, .ref a_o])), (a_o, .inr (1, [.int f_o_n, .int f_o_many, .int f_o_sets, .ref a_od, .ref a_op, .ref a_oi, .ref a_ov, .ref a_of, .ref a_ol, .ref a_om, .ref a_ow]))]) (wf := [(a_x, .inr (5, [.ref a_known, .ref a_so, .ref a_made, .ref a_pcl, .ref a_hi, .ref a_tx, .ref a_rd, .ref a_tb, .ref a_o])), (a_tb, .inr (3, [.int f_tb_n, .int f_tb_across, .int f_tb_down, .int f_tb_wanted, .ref a_tr, .ref a_tc])), (a_tr, .inl (y 0, 5, .inl v_tr)), (a_tc, .inl (y 0, 5, .inl v_tc)), (a_o, .inr (1, [.int f_o_n, .int f_o_many, .int f_o_sets, .ref a_od, .ref a_op, .ref a_oi, .ref a_ov, .ref a_of, .ref a_ol, .ref a_om, .ref a_ow]))]) (va_runV (As := [.int p3]) (rest := []) ⟨hx, hb, hml, hown, hts⟩ (c_X5_isSet l D y a_x a_known a_so a_made a_pcl a_hi a_tx a_rd a_tb a_o a_od a_op a_oi a_ov a_of a_ol a_om a_ow f_o_n f_o_many f_o_sets p3 H.size e6) (cwV 1 hts gX5_byTables_X5_isSet rfl rfl rfl (by decide +kernel) ⟨Nat.le_of_ble_eq_true rfl, Nat.le_of_ble_eq_true rfl⟩) ⟨xblind, va_recv hK hP (ci := 5) (q0 := 0) rfl rfl, xprev hPc hK hDc⟩ rfl rfl hl.1 rfl (lv_room (Nat.le_of_ble_eq_true rfl)) dX5_byTables_23 ⟨Nat.le_of_ble_eq_true rfl, Nat.le_of_ble_eq_true rfl⟩) hP hD hS hA [0, 4] [1, 2, 3] [3, 0, 1, 2, 4] rfl rfl (by decide) (by decide) rfl (by decide) (fun H locs hP hD hS => ?_)
        refine lv_if_ne (tgt := 32) hx hb dX5_byTables_26 (by decide) (fun c7 => ?_) (fun c7 => ?_)
        · have hB := xin c7 hB
          exact B_X5_byTables_32 (p1 := p1) (p2 := p2) (p3 := p3) C0 f_tb_n f_tb_across f_tb_down f_tb_wanted v_tr v_tc H locs ls hP hD hS (lv_sub hl [0, 1, 2, 3] rfl) hB
        · have hB := xip c7 hB
          refine lv_ldc (v := -10000001) hx hb hown (hts _ kX5_byTables_c67) dX5_byTables_29 ?_
          have hB := Option.some.inj hB
          subst hB
          exact W.iret hx hb hr (fun t ht hW => ⟨⟨_, (), rfl, rfl, by rw [ht]; exact hP, va_K.moved hW.alike hK, hD⟩, hS.F ht⟩) hS.2.2 dX5_byTables_31 hlocks
set_option maxHeartbeats 4000000 in
set_option maxRecDepth 100000 in
theorem c_X5_byTables (l : Launch) (D : va_G) (y : Nat → ClassId) (a_x : Nat) (a_known : Nat) (a_so : Nat) (a_made : Nat) (a_pcl : Nat) (a_hi : Nat) (a_tx : Nat) (a_rd : Nat) (a_tb : Nat) (a_o : Nat) (a_tr : Nat) (a_tc : Nat) (a_od : Nat) (a_op : Nat) (a_oi : Nat) (a_ov : Nat) (a_of : Nat) (a_ol : Nat) (a_om : Nat) (a_ow : Nat)  (f_tb_n : Int32) (f_tb_across : Int32) (f_tb_down : Int32) (f_tb_wanted : Int32) (v_tr : Nat → Int32) (v_tc : Nat → Int32) (f_o_n : Int32) (f_o_many : Int32) (f_o_sets : Int32) (p1 : Int32) (p2 : Int32) (p3 : Int32) (sz : Nat) {R : Int32 × Int32 × Int32 × Int32 × Int32 × (Nat → Int32) × (Nat → Int32)} (hF : F_X5_byTables f_o_n f_o_sets p1 p2 p3 f_tb_n f_tb_across f_tb_down f_tb_wanted v_tr v_tc = some R) : Met l yX5_byTables wsX5_byTables ({ frames := 43, cells := 0, slots := 0, locals := 1161 } : Room) (xPre D y sz [.ref a_x, .int p1, .int p2, .int p3] [(a_x, .inr (5, [.ref a_known, .ref a_so, .ref a_made, .ref a_pcl, .ref a_hi, .ref a_tx, .ref a_rd, .ref a_tb, .ref a_o])), (a_tb, .inr (3, [.int f_tb_n, .int f_tb_across, .int f_tb_down, .int f_tb_wanted, .ref a_tr, .ref a_tc])), (a_tr, .inl (y 0, 5, .inl v_tr)), (a_tc, .inl (y 0, 5, .inl v_tc)), (a_o, .inr (1, [.int f_o_n, .int f_o_many, .int f_o_sets, .ref a_od, .ref a_op, .ref a_oi, .ref a_ov, .ref a_of, .ref a_ol, .ref a_om, .ref a_ow]))]) (va_Qi (fun (r : Int32) (_ : Unit) => r = R.1) (xB D y (va_A [(a_x, .inr (5, [.ref a_known, .ref a_so, .ref a_made, .ref a_pcl, .ref a_hi, .ref a_tx, .ref a_rd, .ref a_tb, .ref a_o])), (a_tb, .inr (3, [.int f_tb_n, .int f_tb_across, .int f_tb_down, .int f_tb_wanted, .ref a_tr, .ref a_tc])), (a_tr, .inl (y 0, 5, .inl v_tr)), (a_tc, .inl (y 0, 5, .inl v_tc)), (a_o, .inr (1, [.int f_o_n, .int f_o_many, .int f_o_sets, .ref a_od, .ref a_op, .ref a_oi, .ref a_ov, .ref a_of, .ref a_ol, .ref a_om, .ref a_ow]))] sz) [(a_x, .inr (5, [.ref a_known, .ref a_so, .ref a_made, .ref a_pcl, .ref a_hi, .ref a_tx, .ref a_rd, .ref a_tb, .ref a_o])), (a_tb, .inr (3, [.int R.2.1, .int R.2.2.1, .int R.2.2.2.1, .int R.2.2.2.2.1, .ref a_tr, .ref a_tc])), (a_tr, .inl (y 0, 5, .inl R.2.2.2.2.2.1)), (a_tc, .inl (y 0, 5, .inl R.2.2.2.2.2.2)), (a_o, .inr (1, [.int f_o_n, .int f_o_many, .int f_o_sets, .ref a_od, .ref a_op, .ref a_oi, .ref a_ov, .ref a_of, .ref a_ol, .ref a_om, .ref a_ow]))]) (va_A [(a_x, .inr (5, [.ref a_known, .ref a_so, .ref a_made, .ref a_pcl, .ref a_hi, .ref a_tx, .ref a_rd, .ref a_tb, .ref a_o])), (a_tb, .inr (3, [.int f_tb_n, .int f_tb_across, .int f_tb_down, .int f_tb_wanted, .ref a_tr, .ref a_tc])), (a_tr, .inl (y 0, 5, .inl v_tr)), (a_tc, .inl (y 0, 5, .inl v_tc)), (a_o, .inr (1, [.int f_o_n, .int f_o_many, .int f_o_sets, .ref a_od, .ref a_op, .ref a_oi, .ref a_ov, .ref a_of, .ref a_ol, .ref a_om, .ref a_ow]))] sz)) 0 0 (va_A [(a_x, .inr (5, [.ref a_known, .ref a_so, .ref a_made, .ref a_pcl, .ref a_hi, .ref a_tx, .ref a_rd, .ref a_tb, .ref a_o])), (a_tb, .inr (3, [.int f_tb_n, .int f_tb_across, .int f_tb_down, .int f_tb_wanted, .ref a_tr, .ref a_tc])), (a_tr, .inl (y 0, 5, .inl v_tr)), (a_tc, .inl (y 0, 5, .inl v_tc)), (a_o, .inr (1, [.int f_o_n, .int f_o_many, .int f_o_sets, .ref a_od, .ref a_op, .ref a_oi, .ref a_ov, .ref a_of, .ref a_ol, .ref a_om, .ref a_ow]))] sz) := by
  refine Met.ofW (cc := cX5_byTables) (maxL := 4) (ret := (some .int)) (by decide) rfl ?_
  intro p e s m args below meth c s₁ B hml hv
  obtain ⟨rfl, hsz, hP, hK, hD0⟩ := hv
  subst hsz
  have hD := hD0.self (sz := s.heap.size)
  have C : xC p s m [.ref a_x, .int p1, .int p2, .int p3].toArray meth c (va_A [(a_x, .inr (5, [.ref a_known, .ref a_so, .ref a_made, .ref a_pcl, .ref a_hi, .ref a_tx, .ref a_rd, .ref a_tb, .ref a_o])), (a_tb, .inr (3, [.int f_tb_n, .int f_tb_across, .int f_tb_down, .int f_tb_wanted, .ref a_tr, .ref a_tc])), (a_tr, .inl (y 0, 5, .inl v_tr)), (a_tc, .inl (y 0, 5, .inl v_tc)), (a_o, .inr (1, [.int f_o_n, .int f_o_many, .int f_o_sets, .ref a_od, .ref a_op, .ref a_oi, .ref a_ov, .ref a_of, .ref a_ol, .ref a_om, .ref a_ow]))] s.heap.size) cX5_byTables RX5 wsX5_byTables 4 (some .int) D y := ⟨B.exec, B.bytes, hml, findClass_of_methodNamed B.named, atoms_spec (ws := wsX5_byTables) B.pre, B.returns, B.notSynchronized, hK, fun q h => Or.inr h⟩
  have hl := lv_entry ([.ref a_x, .int p1, .int p2, .int p3]) (n := 4) (Nat.le_of_ble_eq_true rfl)
  rw [lg_entry_eq]
  generalize (lg_sl ([.ref a_x, .int p1, .int p2, .int p3]) ++ List.replicate (4 - (lg_sl ([.ref a_x, .int p1, .int p2, .int p3])).length) Slot.unset).toArray = ls at hl ⊢
  have hl : lv_has ls 4 [(0, .ref a_x), (1, .int p1), (2, .int p2), (3, .int p3)] := hl
  exact B_X5_byTables_0 (p1 := p1) (p2 := p2) (p3 := p3) C f_tb_n f_tb_across f_tb_down f_tb_wanted v_tr v_tc s.heap [] ls hP hD va_S.rf hl hF
theorem kX5_count_c67 : Cond.constant RX5 67 (-10000001) ∈ wsX5_count := by decide +kernel
theorem kX5_count_f59 : Cond.fieldLink RX5 59 "DescentShuffles" "orders" "LDescentShuffles$Orders;" ∈ wsX5_count := by decide +kernel
theorem kX5_count_wX5 : ∀ w ∈ u_ws RX5 TX5 9, w ∈ wsX5_count := by decide +kernel
theorem kX5_count_f68 : Cond.fieldLink RX5 68 "DescentShuffles$Orders" "n" "I" ∈ wsX5_count := by decide +kernel
theorem kX5_count_wX1 : ∀ w ∈ u_ws RX1 TX1 11, w ∈ wsX5_count := by decide +kernel
theorem kX5_count_f76 : Cond.fieldLink RX5 76 "DescentShuffles$Orders" "many" "I" ∈ wsX5_count := by decide +kernel
theorem kX5_count_f30 : Cond.fieldLink RX5 30 "DescentShuffles" "history" "LDescentShuffles$History;" ∈ wsX5_count := by decide +kernel
theorem kX5_count_f187 : Cond.fieldLink RX5 187 "DescentShuffles$History" "many" "I" ∈ wsX5_count := by decide +kernel
theorem kX5_count_wX0 : ∀ w ∈ u_ws RX0 TX0 4, w ∈ wsX5_count := by decide +kernel
theorem kX5_count_f37 : Cond.fieldLink RX5 37 "DescentShuffles" "text" "LDescentShuffles$SumText;" ∈ wsX5_count := by decide +kernel
theorem kX5_count_f188 : Cond.fieldLink RX5 188 "DescentShuffles$SumText" "length" "I" ∈ wsX5_count := by decide +kernel
theorem kX5_count_wX2 : ∀ w ∈ u_ws RX2 TX2 2, w ∈ wsX5_count := by decide +kernel
def S_X5_count_0 (p : Program) (l : Launch) (e : Env) (s : State) (m : MethodId) (args : Array Value) (below : List Frame) (meth : Method) (c : Code) (A : Nat → Prop) (D : va_G) (y : Nat → ClassId) (a_x : Nat) (a_known : Nat) (a_so : Nat) (a_made : Nat) (a_pcl : Nat) (a_hi : Nat) (a_tx : Nat) (a_rd : Nat) (a_tb : Nat) (a_o : Nat) (a_hl : Nat) (a_hfo : Nat) (a_tg : Nat) (a_od : Nat) (a_op : Nat) (a_oi : Nat) (a_ov : Nat) (a_of : Nat) (a_ol : Nat) (a_om : Nat) (a_ow : Nat) (f_hi_many : Int32) (f_hi_next : Int32) (f_tx_length : Int32) (f_o_n : Int32) (f_o_many : Int32) (f_o_sets : Int32) (p1 : Int32) (R : Int32) (κ : Option (Int32)) : Prop := ∀ (H : Heap) (locs : List Loc) (ls : Array Slot), va_P D vwCl [(a_x, .inr (5, [.ref a_known, .ref a_so, .ref a_made, .ref a_pcl, .ref a_hi, .ref a_tx, .ref a_rd, .ref a_tb, .ref a_o])), (a_hi, .inr (0, [.int f_hi_many, .int f_hi_next, .ref a_hl, .ref a_hfo])), (a_tx, .inr (2, [.int f_tx_length, .ref a_tg])), (a_o, .inr (1, [.int f_o_n, .int f_o_many, .int f_o_sets, .ref a_od, .ref a_op, .ref a_oi, .ref a_ov, .ref a_of, .ref a_ol, .ref a_om, .ref a_ow]))] H → va_D A [(a_x, .inr (5, [.ref a_known, .ref a_so, .ref a_made, .ref a_pcl, .ref a_hi, .ref a_tx, .ref a_rd, .ref a_tb, .ref a_o])), (a_hi, .inr (0, [.int f_hi_many, .int f_hi_next, .ref a_hl, .ref a_hfo])), (a_tx, .inr (2, [.int f_tx_length, .ref a_tg])), (a_o, .inr (1, [.int f_o_n, .int f_o_many, .int f_o_sets, .ref a_od, .ref a_op, .ref a_oi, .ref a_ov, .ref a_of, .ref a_ol, .ref a_om, .ref a_ow]))] → va_S A s.heap H locs → lv_has ls 2 [(0, .ref a_x), (1, .int p1)] → κ = some R → W p l e ({ frames := 0, cells := 0, slots := 0, locals := 0 } : Room) s m args below meth c H locs 0 0 (MQ below (va_Qi (fun (r : Int32) (_ : Unit) => r = R) (xB D y A [(a_x, .inr (5, [.ref a_known, .ref a_so, .ref a_made, .ref a_pcl, .ref a_hi, .ref a_tx, .ref a_rd, .ref a_tb, .ref a_o])), (a_hi, .inr (0, [.int f_hi_many, .int f_hi_next, .ref a_hl, .ref a_hfo])), (a_tx, .inr (2, [.int f_tx_length, .ref a_tg])), (a_o, .inr (1, [.int f_o_n, .int f_o_many, .int f_o_sets, .ref a_od, .ref a_op, .ref a_oi, .ref a_ov, .ref a_of, .ref a_ol, .ref a_om, .ref a_ow]))]) A) args s 0 0 A) (F0 m 0 ls [])
set_option maxHeartbeats 4000000 in
set_option maxRecDepth 100000 in
theorem B_X5_count_0 {p : Program} {l : Launch} {e : Env} {s : State} {m : MethodId} {args : Array Value} {below : List Frame} {meth : Method} {c : Code} {A : Nat → Prop} {D : va_G} {y : Nat → ClassId} {a_x : Nat} {a_known : Nat} {a_so : Nat} {a_made : Nat} {a_pcl : Nat} {a_hi : Nat} {a_tx : Nat} {a_rd : Nat} {a_tb : Nat} {a_o : Nat} {a_hl : Nat} {a_hfo : Nat} {a_tg : Nat} {a_od : Nat} {a_op : Nat} {a_oi : Nat} {a_ov : Nat} {a_of : Nat} {a_ol : Nat} {a_om : Nat} {a_ow : Nat} {f_hi_many : Int32} {f_hi_next : Int32} {f_tx_length : Int32} {f_o_n : Int32} {f_o_many : Int32} {f_o_sets : Int32} {p1 : Int32} {R : Int32} (C : xC p s m args meth c A cX5_count RX5 wsX5_count 2 (some .int) D y)  : S_X5_count_0 p l e s m args below meth c A D y a_x a_known a_so a_made a_pcl a_hi a_tx a_rd a_tb a_o a_hl a_hfo a_tg a_od a_op a_oi a_ov a_of a_ol a_om a_ow f_hi_many f_hi_next f_tx_length f_o_n f_o_many f_o_sets p1 R (F_X5_count f_hi_many f_tx_length f_o_n f_o_many p1 ) := by
  have C0 := C
  obtain ⟨hx, hb, hml, hown, hts, hr, hlocks, hK, hA⟩ := C
  intro H locs ls hP hD hS hl hB
  unfold F_X5_count at hB
  refine lv_iload_n hx hb dX5_count_0 rfl (lv_at hl 1 rfl) ?_
  by_cases h1_0 : p1 = 0
  · have hB := xip h1_0 hB
    have ht1 : p1.toInt = 0 := by rw [h1_0]; decide
    refine lv_tableIn (off := 31) (tgt := 32) hx hb dX5_count_1 (by rw [ht1]; decide) (by rw [ht1]; decide) (by rw [ht1]; rfl) (by decide) ?_
    refine lv_aload_n hx hb dX5_count_32 rfl (lv_at hl 0 rfl) ?_
    refine va_get (D := D) (ci := 5) (v := .ref a_o) (C := RX5) (T := TX5) (N := 9) hx hb hts kX5_count_wX5 hown hK hP 0 rfl rfl 8 (by decide) (hts _ kX5_count_f59) (fun _ h9 => h9) rfl dX5_count_33 ?_
    refine va_get (D := D) (ci := 1) (v := .int f_o_n) (C := RX1) (T := TX1) (N := 11) hx hb hts kX5_count_wX1 hown hK hP 3 rfl rfl 0 (by decide) (hts _ kX5_count_f68) (fun _ h9 => h9) rfl dX5_count_36 ?_
    have hB := Option.some.inj hB
    subst hB
    exact W.iret hx hb hr (fun t ht hW => ⟨⟨_, (), rfl, rfl, by rw [ht]; exact hP, va_K.moved hW.alike hK, hD⟩, hS.F ht⟩) hS.2.2 dX5_count_39 hlocks
  · have hB := xin h1_0 hB
    by_cases h1_1 : p1 = 1
    · have hB := xip h1_1 hB
      have ht1 : p1.toInt = 1 := by rw [h1_1]; decide
      refine lv_tableIn (off := 39) (tgt := 40) hx hb dX5_count_1 (by rw [ht1]; decide) (by rw [ht1]; decide) (by rw [ht1]; rfl) (by decide) ?_
      refine lv_aload_n hx hb dX5_count_40 rfl (lv_at hl 0 rfl) ?_
      refine va_get (D := D) (ci := 5) (v := .ref a_o) (C := RX5) (T := TX5) (N := 9) hx hb hts kX5_count_wX5 hown hK hP 0 rfl rfl 8 (by decide) (hts _ kX5_count_f59) (fun _ h9 => h9) rfl dX5_count_41 ?_
      refine va_get (D := D) (ci := 1) (v := .int f_o_many) (C := RX1) (T := TX1) (N := 11) hx hb hts kX5_count_wX1 hown hK hP 3 rfl rfl 1 (by decide) (hts _ kX5_count_f76) (fun _ h9 => h9) rfl dX5_count_44 ?_
      have hB := Option.some.inj hB
      subst hB
      exact W.iret hx hb hr (fun t ht hW => ⟨⟨_, (), rfl, rfl, by rw [ht]; exact hP, va_K.moved hW.alike hK, hD⟩, hS.F ht⟩) hS.2.2 dX5_count_47 hlocks
    · have hB := xin h1_1 hB
      by_cases h1_2 : p1 = 2
      · have hB := xip h1_2 hB
        have ht1 : p1.toInt = 2 := by rw [h1_2]; decide
        refine lv_tableIn (off := 47) (tgt := 48) hx hb dX5_count_1 (by rw [ht1]; decide) (by rw [ht1]; decide) (by rw [ht1]; rfl) (by decide) ?_
        refine lv_aload_n hx hb dX5_count_48 rfl (lv_at hl 0 rfl) ?_
        refine va_get (D := D) (ci := 5) (v := .ref a_hi) (C := RX5) (T := TX5) (N := 9) hx hb hts kX5_count_wX5 hown hK hP 0 rfl rfl 4 (by decide) (hts _ kX5_count_f30) (fun _ h9 => h9) rfl dX5_count_49 ?_
        refine va_get (D := D) (ci := 0) (v := .int f_hi_many) (C := RX0) (T := TX0) (N := 4) hx hb hts kX5_count_wX0 hown hK hP 1 rfl rfl 0 (by decide) (hts _ kX5_count_f187) (fun _ h9 => h9) rfl dX5_count_52 ?_
        have hB := Option.some.inj hB
        subst hB
        exact W.iret hx hb hr (fun t ht hW => ⟨⟨_, (), rfl, rfl, by rw [ht]; exact hP, va_K.moved hW.alike hK, hD⟩, hS.F ht⟩) hS.2.2 dX5_count_55 hlocks
      · have hB := xin h1_2 hB
        by_cases h1_3 : p1 = 3
        · have hB := xip h1_3 hB
          have ht1 : p1.toInt = 3 := by rw [h1_3]; decide
          refine lv_tableIn (off := 55) (tgt := 56) hx hb dX5_count_1 (by rw [ht1]; decide) (by rw [ht1]; decide) (by rw [ht1]; rfl) (by decide) ?_
          refine lv_aload_n hx hb dX5_count_56 rfl (lv_at hl 0 rfl) ?_
          refine va_get (D := D) (ci := 5) (v := .ref a_tx) (C := RX5) (T := TX5) (N := 9) hx hb hts kX5_count_wX5 hown hK hP 0 rfl rfl 5 (by decide) (hts _ kX5_count_f37) (fun _ h9 => h9) rfl dX5_count_57 ?_
          refine va_get (D := D) (ci := 2) (v := .int f_tx_length) (C := RX2) (T := TX2) (N := 2) hx hb hts kX5_count_wX2 hown hK hP 2 rfl rfl 0 (by decide) (hts _ kX5_count_f188) (fun _ h9 => h9) rfl dX5_count_60 ?_
          have hB := Option.some.inj hB
          subst hB
          exact W.iret hx hb hr (fun t ht hW => ⟨⟨_, (), rfl, rfl, by rw [ht]; exact hP, va_K.moved hW.alike hK, hD⟩, hS.F ht⟩) hS.2.2 dX5_count_63 hlocks
        · have hB := xin h1_3 hB
          have hout : p1.toInt < 0 ∨ 3 < p1.toInt := by
            have z0 := lv_neT h1_0 (show (0 : Int32).toInt = 0 by decide)
            have z1 := lv_neT h1_1 (show (1 : Int32).toInt = 1 by decide)
            have z2 := lv_neT h1_2 (show (2 : Int32).toInt = 2 by decide)
            have z3 := lv_neT h1_3 (show (3 : Int32).toInt = 3 by decide)
            omega
          refine lv_tableOut (tgt := 64) hx hb dX5_count_1 hout (by decide) ?_
          refine lv_ldc (v := -10000001) hx hb hown (hts _ kX5_count_c67) dX5_count_64 ?_
          have hB := Option.some.inj hB
          subst hB
          exact W.iret hx hb hr (fun t ht hW => ⟨⟨_, (), rfl, rfl, by rw [ht]; exact hP, va_K.moved hW.alike hK, hD⟩, hS.F ht⟩) hS.2.2 dX5_count_66 hlocks
set_option maxHeartbeats 4000000 in
set_option maxRecDepth 100000 in
theorem c_X5_count (l : Launch) (D : va_G) (y : Nat → ClassId) (a_x : Nat) (a_known : Nat) (a_so : Nat) (a_made : Nat) (a_pcl : Nat) (a_hi : Nat) (a_tx : Nat) (a_rd : Nat) (a_tb : Nat) (a_o : Nat) (a_hl : Nat) (a_hfo : Nat) (a_tg : Nat) (a_od : Nat) (a_op : Nat) (a_oi : Nat) (a_ov : Nat) (a_of : Nat) (a_ol : Nat) (a_om : Nat) (a_ow : Nat)  (f_hi_many : Int32) (f_hi_next : Int32) (f_tx_length : Int32) (f_o_n : Int32) (f_o_many : Int32) (f_o_sets : Int32) (p1 : Int32) (sz : Nat) {R : Int32} (hF : F_X5_count f_hi_many f_tx_length f_o_n f_o_many p1 = some R) : Met l yX5_count wsX5_count ({ frames := 0, cells := 0, slots := 0, locals := 0 } : Room) (xPre D y sz [.ref a_x, .int p1] [(a_x, .inr (5, [.ref a_known, .ref a_so, .ref a_made, .ref a_pcl, .ref a_hi, .ref a_tx, .ref a_rd, .ref a_tb, .ref a_o])), (a_hi, .inr (0, [.int f_hi_many, .int f_hi_next, .ref a_hl, .ref a_hfo])), (a_tx, .inr (2, [.int f_tx_length, .ref a_tg])), (a_o, .inr (1, [.int f_o_n, .int f_o_many, .int f_o_sets, .ref a_od, .ref a_op, .ref a_oi, .ref a_ov, .ref a_of, .ref a_ol, .ref a_om, .ref a_ow]))]) (va_Qi (fun (r : Int32) (_ : Unit) => r = R) (xB D y (va_A [(a_x, .inr (5, [.ref a_known, .ref a_so, .ref a_made, .ref a_pcl, .ref a_hi, .ref a_tx, .ref a_rd, .ref a_tb, .ref a_o])), (a_hi, .inr (0, [.int f_hi_many, .int f_hi_next, .ref a_hl, .ref a_hfo])), (a_tx, .inr (2, [.int f_tx_length, .ref a_tg])), (a_o, .inr (1, [.int f_o_n, .int f_o_many, .int f_o_sets, .ref a_od, .ref a_op, .ref a_oi, .ref a_ov, .ref a_of, .ref a_ol, .ref a_om, .ref a_ow]))] sz) [(a_x, .inr (5, [.ref a_known, .ref a_so, .ref a_made, .ref a_pcl, .ref a_hi, .ref a_tx, .ref a_rd, .ref a_tb, .ref a_o])), (a_hi, .inr (0, [.int f_hi_many, .int f_hi_next, .ref a_hl, .ref a_hfo])), (a_tx, .inr (2, [.int f_tx_length, .ref a_tg])), (a_o, .inr (1, [.int f_o_n, .int f_o_many, .int f_o_sets, .ref a_od, .ref a_op, .ref a_oi, .ref a_ov, .ref a_of, .ref a_ol, .ref a_om, .ref a_ow]))]) (va_A [(a_x, .inr (5, [.ref a_known, .ref a_so, .ref a_made, .ref a_pcl, .ref a_hi, .ref a_tx, .ref a_rd, .ref a_tb, .ref a_o])), (a_hi, .inr (0, [.int f_hi_many, .int f_hi_next, .ref a_hl, .ref a_hfo])), (a_tx, .inr (2, [.int f_tx_length, .ref a_tg])), (a_o, .inr (1, [.int f_o_n, .int f_o_many, .int f_o_sets, .ref a_od, .ref a_op, .ref a_oi, .ref a_ov, .ref a_of, .ref a_ol, .ref a_om, .ref a_ow]))] sz)) 0 0 (va_A [(a_x, .inr (5, [.ref a_known, .ref a_so, .ref a_made, .ref a_pcl, .ref a_hi, .ref a_tx, .ref a_rd, .ref a_tb, .ref a_o])), (a_hi, .inr (0, [.int f_hi_many, .int f_hi_next, .ref a_hl, .ref a_hfo])), (a_tx, .inr (2, [.int f_tx_length, .ref a_tg])), (a_o, .inr (1, [.int f_o_n, .int f_o_many, .int f_o_sets, .ref a_od, .ref a_op, .ref a_oi, .ref a_ov, .ref a_of, .ref a_ol, .ref a_om, .ref a_ow]))] sz) := by
  refine Met.ofW (cc := cX5_count) (maxL := 2) (ret := (some .int)) (by decide) rfl ?_
  intro p e s m args below meth c s₁ B hml hv
  obtain ⟨rfl, hsz, hP, hK, hD0⟩ := hv
  subst hsz
  have hD := hD0.self (sz := s.heap.size)
  have C : xC p s m [.ref a_x, .int p1].toArray meth c (va_A [(a_x, .inr (5, [.ref a_known, .ref a_so, .ref a_made, .ref a_pcl, .ref a_hi, .ref a_tx, .ref a_rd, .ref a_tb, .ref a_o])), (a_hi, .inr (0, [.int f_hi_many, .int f_hi_next, .ref a_hl, .ref a_hfo])), (a_tx, .inr (2, [.int f_tx_length, .ref a_tg])), (a_o, .inr (1, [.int f_o_n, .int f_o_many, .int f_o_sets, .ref a_od, .ref a_op, .ref a_oi, .ref a_ov, .ref a_of, .ref a_ol, .ref a_om, .ref a_ow]))] s.heap.size) cX5_count RX5 wsX5_count 2 (some .int) D y := ⟨B.exec, B.bytes, hml, findClass_of_methodNamed B.named, atoms_spec (ws := wsX5_count) B.pre, B.returns, B.notSynchronized, hK, fun q h => Or.inr h⟩
  have hl := lv_entry ([.ref a_x, .int p1]) (n := 2) (Nat.le_of_ble_eq_true rfl)
  rw [lg_entry_eq]
  generalize (lg_sl ([.ref a_x, .int p1]) ++ List.replicate (2 - (lg_sl ([.ref a_x, .int p1])).length) Slot.unset).toArray = ls at hl ⊢
  have hl : lv_has ls 2 [(0, .ref a_x), (1, .int p1)] := hl
  exact B_X5_count_0 (p1 := p1) C  s.heap [] ls hP hD va_S.rf hl hF
theorem kX0_takeBack_f15 : Cond.fieldLink RX0 15 "DescentShuffles$History" "next" "I" ∈ wsX0_takeBack := by decide +kernel
theorem kX0_takeBack_wX0 : ∀ w ∈ u_ws RX0 TX0 4, w ∈ wsX0_takeBack := by decide +kernel
theorem kX0_takeBack_f9 : Cond.fieldLink RX0 9 "DescentShuffles$History" "many" "I" ∈ wsX0_takeBack := by decide +kernel
theorem kX0_takeBack_f18 : Cond.fieldLink RX0 18 "DescentShuffles$History" "lengths" "[I" ∈ wsX0_takeBack := by decide +kernel
theorem kX0_takeBack_f24 : Cond.fieldLink RX0 24 "DescentShuffles$History" "factors" "[[I" ∈ wsX0_takeBack := by decide +kernel
theorem kX0_takeBack_l27 : Cond.methodLink RX0 27 arraycopyName ∈ wsX0_takeBack := by decide +kernel
theorem kX0_takeBack_nac : Cond.native arraycopyName ∈ wsX0_takeBack := by decide +kernel
theorem kX0_takeBack_sac : Cond.static arraycopyName ∈ wsX0_takeBack := by decide +kernel
theorem kX0_takeBack_iSys : Cond.initialized "java/lang/System" ∈ wsX0_takeBack := by decide +kernel
def S_X0_takeBack_26 (p : Program) (l : Launch) (e : Env) (s : State) (m : MethodId) (args : Array Value) (below : List Frame) (meth : Method) (c : Code) (A : Nat → Prop) (D : va_G) (y : Nat → ClassId) (a_so : Nat) (a_s : Nat → Nat) (a_hi : Nat) (a_hl : Nat) (a_hfo : Nat) (a_hf : Nat → Nat) (v_hl : Nat → Int32) (v_hf : Nat → Nat → Int32) (R : Int32 × (Nat → Nat → Int32) × Int32 × Int32) (κ : Int32 → (Nat → Nat → Int32) → Int32 → Int32 → Option (Int32 × (Nat → Nat → Int32) × Int32 × Int32)) : Prop := ∀ (x2 : Int32) (v_s : Nat → Nat → Int32) (f_hi_many : Int32) (f_hi_next : Int32) (H : Heap) (locs : List Loc) (ls : Array Slot), va_P D vwCl [(a_so, .inl (y 4, 3, .inr (.inr (.inr (.inr (xO a_s 3)))))), xE a_s (y 0) 120 v_s 0, xE a_s (y 0) 120 v_s 1, xE a_s (y 0) 120 v_s 2, (a_hi, .inr (0, [.int f_hi_many, .int f_hi_next, .ref a_hl, .ref a_hfo])), (a_hl, .inl (y 0, 4, .inl v_hl)), (a_hfo, .inl (y 4, 4, .inr (.inr (.inr (.inr (xO a_hf 4)))))), xE a_hf (y 0) 360 v_hf 0, xE a_hf (y 0) 360 v_hf 1, xE a_hf (y 0) 360 v_hf 2, xE a_hf (y 0) 360 v_hf 3] H → va_D A [(a_so, .inl (y 4, 3, .inr (.inr (.inr (.inr (xO a_s 3)))))), xE a_s (y 0) 120 v_s 0, xE a_s (y 0) 120 v_s 1, xE a_s (y 0) 120 v_s 2, (a_hi, .inr (0, [.int f_hi_many, .int f_hi_next, .ref a_hl, .ref a_hfo])), (a_hl, .inl (y 0, 4, .inl v_hl)), (a_hfo, .inl (y 4, 4, .inr (.inr (.inr (.inr (xO a_hf 4)))))), xE a_hf (y 0) 360 v_hf 0, xE a_hf (y 0) 360 v_hf 1, xE a_hf (y 0) 360 v_hf 2, xE a_hf (y 0) 360 v_hf 3] → va_S A s.heap H locs → lv_has ls 3 [(0, .ref a_hi), (1, .ref a_so), (2, .int x2)] → κ x2 v_s f_hi_many f_hi_next = some R → W p l e ({ frames := 1, cells := 0, slots := 0, locals := 40 } : Room) s m args below meth c H locs 0 0 (MQ below (va_Qi (fun (r : Int32) (_ : Unit) => r = R.1) (xB D y A [(a_so, .inl (y 4, 3, .inr (.inr (.inr (.inr (xO a_s 3)))))), xE a_s (y 0) 120 R.2.1 0, xE a_s (y 0) 120 R.2.1 1, xE a_s (y 0) 120 R.2.1 2, (a_hi, .inr (0, [.int R.2.2.1, .int R.2.2.2, .ref a_hl, .ref a_hfo])), (a_hl, .inl (y 0, 4, .inl v_hl)), (a_hfo, .inl (y 4, 4, .inr (.inr (.inr (.inr (xO a_hf 4)))))), xE a_hf (y 0) 360 v_hf 0, xE a_hf (y 0) 360 v_hf 1, xE a_hf (y 0) 360 v_hf 2, xE a_hf (y 0) 360 v_hf 3]) A) args s 0 0 A) (F0 m 26 ls [])
def S_X0_takeBack_0 (p : Program) (l : Launch) (e : Env) (s : State) (m : MethodId) (args : Array Value) (below : List Frame) (meth : Method) (c : Code) (A : Nat → Prop) (D : va_G) (y : Nat → ClassId) (a_so : Nat) (a_s : Nat → Nat) (a_hi : Nat) (a_hl : Nat) (a_hfo : Nat) (a_hf : Nat → Nat) (v_hl : Nat → Int32) (v_hf : Nat → Nat → Int32) (R : Int32 × (Nat → Nat → Int32) × Int32 × Int32) (κ : (Nat → Nat → Int32) → Int32 → Int32 → Option (Int32 × (Nat → Nat → Int32) × Int32 × Int32)) : Prop := ∀ (v_s : Nat → Nat → Int32) (f_hi_many : Int32) (f_hi_next : Int32) (H : Heap) (locs : List Loc) (ls : Array Slot), va_P D vwCl [(a_so, .inl (y 4, 3, .inr (.inr (.inr (.inr (xO a_s 3)))))), xE a_s (y 0) 120 v_s 0, xE a_s (y 0) 120 v_s 1, xE a_s (y 0) 120 v_s 2, (a_hi, .inr (0, [.int f_hi_many, .int f_hi_next, .ref a_hl, .ref a_hfo])), (a_hl, .inl (y 0, 4, .inl v_hl)), (a_hfo, .inl (y 4, 4, .inr (.inr (.inr (.inr (xO a_hf 4)))))), xE a_hf (y 0) 360 v_hf 0, xE a_hf (y 0) 360 v_hf 1, xE a_hf (y 0) 360 v_hf 2, xE a_hf (y 0) 360 v_hf 3] H → va_D A [(a_so, .inl (y 4, 3, .inr (.inr (.inr (.inr (xO a_s 3)))))), xE a_s (y 0) 120 v_s 0, xE a_s (y 0) 120 v_s 1, xE a_s (y 0) 120 v_s 2, (a_hi, .inr (0, [.int f_hi_many, .int f_hi_next, .ref a_hl, .ref a_hfo])), (a_hl, .inl (y 0, 4, .inl v_hl)), (a_hfo, .inl (y 4, 4, .inr (.inr (.inr (.inr (xO a_hf 4)))))), xE a_hf (y 0) 360 v_hf 0, xE a_hf (y 0) 360 v_hf 1, xE a_hf (y 0) 360 v_hf 2, xE a_hf (y 0) 360 v_hf 3] → va_S A s.heap H locs → lv_has ls 3 [(0, .ref a_hi), (1, .ref a_so)] → κ v_s f_hi_many f_hi_next = some R → W p l e ({ frames := 1, cells := 0, slots := 0, locals := 40 } : Room) s m args below meth c H locs 0 0 (MQ below (va_Qi (fun (r : Int32) (_ : Unit) => r = R.1) (xB D y A [(a_so, .inl (y 4, 3, .inr (.inr (.inr (.inr (xO a_s 3)))))), xE a_s (y 0) 120 R.2.1 0, xE a_s (y 0) 120 R.2.1 1, xE a_s (y 0) 120 R.2.1 2, (a_hi, .inr (0, [.int R.2.2.1, .int R.2.2.2, .ref a_hl, .ref a_hfo])), (a_hl, .inl (y 0, 4, .inl v_hl)), (a_hfo, .inl (y 4, 4, .inr (.inr (.inr (.inr (xO a_hf 4)))))), xE a_hf (y 0) 360 v_hf 0, xE a_hf (y 0) 360 v_hf 1, xE a_hf (y 0) 360 v_hf 2, xE a_hf (y 0) 360 v_hf 3]) A) args s 0 0 A) (F0 m 0 ls [])
set_option maxHeartbeats 4000000 in
set_option maxRecDepth 100000 in
theorem B_X0_takeBack_26 {p : Program} {l : Launch} {e : Env} {s : State} {m : MethodId} {args : Array Value} {below : List Frame} {meth : Method} {c : Code} {A : Nat → Prop} {D : va_G} {y : Nat → ClassId} {a_so : Nat} {a_s : Nat → Nat} {a_hi : Nat} {a_hl : Nat} {a_hfo : Nat} {a_hf : Nat → Nat} {v_hl : Nat → Int32} {v_hf : Nat → Nat → Int32} {R : Int32 × (Nat → Nat → Int32) × Int32 × Int32} (C : xC p s m args meth c A cX0_takeBack RX0 wsX0_takeBack 3 (some .int) D y)  : ∀ f : Nat, S_X0_takeBack_26 p l e s m args below meth c A D y a_so a_s a_hi a_hl a_hfo a_hf v_hl v_hf R (F_X0_takeBack_26 v_hl v_hf  f) := by
  have C0 := C
  obtain ⟨hx, hb, hml, hown, hts, hr, hlocks, hK, hA⟩ := C
  intro f
  induction f with
  | zero =>
    intro x2 v_s f_hi_many f_hi_next H locs ls hP hD hS hl hB
    rw [Z_X0_takeBack_26] at hB
    cases hB
  | succ f ih =>
    intro x2 v_s f_hi_many f_hi_next H locs ls hP hD hS hl hB
    rw [E_X0_takeBack_26] at hB
    refine lv_iload_n hx hb dX0_takeBack_26 rfl (lv_at hl 2 rfl) ?_
    refine lv_iconst (v := 3) hx hb dX0_takeBack_27 (by decide) ?_
    refine lv_icmp_ge (tgt := 59) hx hb dX0_takeBack_28 (by decide) (fun c1 => ?_) (fun c1 => ?_)
    · have hB := xip c1 hB
      refine lv_aload_n hx hb dX0_takeBack_59 rfl (lv_at hl 0 rfl) ?_
      refine va_get (D := D) (ci := 0) (v := .ref a_hl) (C := RX0) (T := TX0) (N := 4) hx hb hts kX0_takeBack_wX0 hown hK hP 4 rfl rfl 2 (by decide) (hts _ kX0_takeBack_f18) (fun _ h9 => h9) rfl dX0_takeBack_60 ?_
      refine lv_aload_n hx hb dX0_takeBack_63 rfl (lv_at hl 0 rfl) ?_
      refine va_get (D := D) (ci := 0) (v := .int f_hi_next) (C := RX0) (T := TX0) (N := 4) hx hb hts kX0_takeBack_wX0 hown hK hP 4 rfl rfl 1 (by decide) (hts _ kX0_takeBack_f15) (fun _ h9 => h9) rfl dX0_takeBack_64 ?_
      obtain ⟨g2, hB⟩ := xg_some hB
      refine va_iald hx hb hK hP 5 0 rfl rfl g2 dX0_takeBack_67 ?_
      have hB := Option.some.inj hB
      subst hB
      exact W.iret hx hb hr (fun t ht hW => ⟨⟨_, (), rfl, rfl, by rw [ht]; exact hP, va_K.moved hW.alike hK, hD⟩, hS.F ht⟩) hS.2.2 dX0_takeBack_68 hlocks
    · have hB := xin c1 hB
      refine lv_aload_n hx hb dX0_takeBack_31 rfl (lv_at hl 0 rfl) ?_
      refine va_get (D := D) (ci := 0) (v := .ref a_hfo) (C := RX0) (T := TX0) (N := 4) hx hb hts kX0_takeBack_wX0 hown hK hP 4 rfl rfl 3 (by decide) (hts _ kX0_takeBack_f24) (fun _ h9 => h9) rfl dX0_takeBack_32 ?_
      refine lv_aload_n hx hb dX0_takeBack_35 rfl (lv_at hl 0 rfl) ?_
      refine va_get (D := D) (ci := 0) (v := .int f_hi_next) (C := RX0) (T := TX0) (N := 4) hx hb hts kX0_takeBack_wX0 hown hK hP 4 rfl rfl 1 (by decide) (hts _ kX0_takeBack_f15) (fun _ h9 => h9) rfl dX0_takeBack_36 ?_
      obtain ⟨g3, hB⟩ := xg_some hB
      refine xaald hx hb hK hP 6 4 rfl rfl g3 dX0_takeBack_39 ?_
      refine lv_iload_n hx hb dX0_takeBack_40 rfl (lv_at hl 2 rfl) ?_
      refine lv_bipush (v := 120) hx hb dX0_takeBack_41 (by decide) ?_
      refine lv_imul hx hb dX0_takeBack_43 ?_
      refine lv_aload_n hx hb dX0_takeBack_44 rfl (lv_at hl 1 rfl) ?_
      refine lv_iload_n hx hb dX0_takeBack_45 rfl (lv_at hl 2 rfl) ?_
      obtain ⟨g4, hB⟩ := xg_some hB
      refine xaald hx hb hK hP 0 4 rfl rfl g4 dX0_takeBack_46 ?_
      refine lv_iconst (v := 0) hx hb dX0_takeBack_47 (by decide) ?_
      refine lv_bipush (v := 120) hx hb dX0_takeBack_48 (by decide) ?_
      obtain ⟨g5a, g5b, g5c, g5d, g5e, hB⟩ := xac_some hB
      refine va_copyi (ty := .int) hx hb (hml.trans hl.1.symm) hown (hts _ kX0_takeBack_l27) (hts _ kX0_takeBack_nac) (hts _ kX0_takeBack_sac) (hts _ kX0_takeBack_iSys) hK hP hD hS (7 + f_hi_next.toNatClampNeg) (1 + x2.toNatClampNeg) 0 0 (xg4 (xE a_hf (y 0) 360 v_hf) rfl rfl rfl rfl (xlt g3)) (xg3 (xE a_s (y 0) 120 v_s) rfl rfl rfl (xlt g4)) rfl rfl rfl g5a g5b g5c g5d g5e (fun _ _ => rfl) (Nat.le_of_ble_eq_true rfl) (by decide) dX0_takeBack_50 (fun H locs hP hD hS => ?_)
      have hrw := xs3 (g := a_s) (cA := y 0) (n := 120) (v := v_s) [(a_so, .inl (y 4, 3, .inr (.inr (.inr (.inr (xO a_s 3))))))] [(a_hi, .inr (0, [.int f_hi_many, .int f_hi_next, .ref a_hl, .ref a_hfo])), (a_hl, .inl (y 0, 4, .inl v_hl)), (a_hfo, .inl (y 4, 4, .inr (.inr (.inr (.inr (xO a_hf 4)))))), xE a_hf (y 0) 360 v_hf 0, xE a_hf (y 0) 360 v_hf 1, xE a_hf (y 0) 360 v_hf 2, xE a_hf (y 0) 360 v_hf 3] 1 rfl (xlt g4) (va_cpy (v_hf f_hi_next.toNatClampNeg) (v_s x2.toNatClampNeg) (x2 * (120 : Int32)).toNatClampNeg (0 : Int32).toNatClampNeg (120 : Int32).toNatClampNeg)
      have hP := (congrArg (fun w => va_P D vwCl w H) hrw).mp hP
      have hD := (congrArg (fun w => va_D A w) hrw).mp hD
      have hP : va_P D vwCl [(a_so, .inl (y 4, 3, .inr (.inr (.inr (.inr (xO a_s 3)))))), xE a_s (y 0) 120 (va_up v_s x2.toNatClampNeg (va_cpy (v_hf f_hi_next.toNatClampNeg) (v_s x2.toNatClampNeg) (x2 * (120 : Int32)).toNatClampNeg (0 : Int32).toNatClampNeg (120 : Int32).toNatClampNeg)) 0, xE a_s (y 0) 120 (va_up v_s x2.toNatClampNeg (va_cpy (v_hf f_hi_next.toNatClampNeg) (v_s x2.toNatClampNeg) (x2 * (120 : Int32)).toNatClampNeg (0 : Int32).toNatClampNeg (120 : Int32).toNatClampNeg)) 1, xE a_s (y 0) 120 (va_up v_s x2.toNatClampNeg (va_cpy (v_hf f_hi_next.toNatClampNeg) (v_s x2.toNatClampNeg) (x2 * (120 : Int32)).toNatClampNeg (0 : Int32).toNatClampNeg (120 : Int32).toNatClampNeg)) 2, (a_hi, .inr (0, [.int f_hi_many, .int f_hi_next, .ref a_hl, .ref a_hfo])), (a_hl, .inl (y 0, 4, .inl v_hl)), (a_hfo, .inl (y 4, 4, .inr (.inr (.inr (.inr (xO a_hf 4)))))), xE a_hf (y 0) 360 v_hf 0, xE a_hf (y 0) 360 v_hf 1, xE a_hf (y 0) 360 v_hf 2, xE a_hf (y 0) 360 v_hf 3] H := hP
      have hD : va_D A [(a_so, .inl (y 4, 3, .inr (.inr (.inr (.inr (xO a_s 3)))))), xE a_s (y 0) 120 (va_up v_s x2.toNatClampNeg (va_cpy (v_hf f_hi_next.toNatClampNeg) (v_s x2.toNatClampNeg) (x2 * (120 : Int32)).toNatClampNeg (0 : Int32).toNatClampNeg (120 : Int32).toNatClampNeg)) 0, xE a_s (y 0) 120 (va_up v_s x2.toNatClampNeg (va_cpy (v_hf f_hi_next.toNatClampNeg) (v_s x2.toNatClampNeg) (x2 * (120 : Int32)).toNatClampNeg (0 : Int32).toNatClampNeg (120 : Int32).toNatClampNeg)) 1, xE a_s (y 0) 120 (va_up v_s x2.toNatClampNeg (va_cpy (v_hf f_hi_next.toNatClampNeg) (v_s x2.toNatClampNeg) (x2 * (120 : Int32)).toNatClampNeg (0 : Int32).toNatClampNeg (120 : Int32).toNatClampNeg)) 2, (a_hi, .inr (0, [.int f_hi_many, .int f_hi_next, .ref a_hl, .ref a_hfo])), (a_hl, .inl (y 0, 4, .inl v_hl)), (a_hfo, .inl (y 4, 4, .inr (.inr (.inr (.inr (xO a_hf 4)))))), xE a_hf (y 0) 360 v_hf 0, xE a_hf (y 0) 360 v_hf 1, xE a_hf (y 0) 360 v_hf 2, xE a_hf (y 0) 360 v_hf 3] := hD
      refine lv_iinc (v := x2 + 1) (lv' := [(2, .int (x2 + 1)), (0, .ref a_hi), (1, .ref a_so)]) hx hb dX0_takeBack_53 hl (k := 2) rfl rfl (by decide) rfl (fun ls hl => ?_)
      refine lv_goto (tgt := 26) hx hb dX0_takeBack_56 (by decide) ?_
      exact ih (x2 + 1) (va_up v_s x2.toNatClampNeg (va_cpy (v_hf f_hi_next.toNatClampNeg) (v_s x2.toNatClampNeg) (x2 * (120 : Int32)).toNatClampNeg (0 : Int32).toNatClampNeg (120 : Int32).toNatClampNeg)) f_hi_many f_hi_next H locs ls hP hD hS (lv_sub hl [1, 2, 0] rfl) hB
set_option maxHeartbeats 4000000 in
set_option maxRecDepth 100000 in
theorem B_X0_takeBack_0 {p : Program} {l : Launch} {e : Env} {s : State} {m : MethodId} {args : Array Value} {below : List Frame} {meth : Method} {c : Code} {A : Nat → Prop} {D : va_G} {y : Nat → ClassId} {a_so : Nat} {a_s : Nat → Nat} {a_hi : Nat} {a_hl : Nat} {a_hfo : Nat} {a_hf : Nat → Nat} {v_hl : Nat → Int32} {v_hf : Nat → Nat → Int32} {R : Int32 × (Nat → Nat → Int32) × Int32 × Int32} (C : xC p s m args meth c A cX0_takeBack RX0 wsX0_takeBack 3 (some .int) D y)  : S_X0_takeBack_0 p l e s m args below meth c A D y a_so a_s a_hi a_hl a_hfo a_hf v_hl v_hf R (F_X0_takeBack v_hl v_hf ) := by
  have C0 := C
  obtain ⟨hx, hb, hml, hown, hts, hr, hlocks, hK, hA⟩ := C
  intro v_s f_hi_many f_hi_next H locs ls hP hD hS hl hB
  unfold F_X0_takeBack at hB
  refine lv_aload_n hx hb dX0_takeBack_0 rfl (lv_at hl 0 rfl) ?_
  refine lv_aload_n hx hb dX0_takeBack_1 rfl (lv_at hl 0 rfl) ?_
  refine va_get (D := D) (ci := 0) (v := .int f_hi_next) (C := RX0) (T := TX0) (N := 4) hx hb hts kX0_takeBack_wX0 hown hK hP 4 rfl rfl 1 (by decide) (hts _ kX0_takeBack_f15) (fun _ h9 => h9) rfl dX0_takeBack_2 ?_
  refine lv_iconst (v := 4) hx hb dX0_takeBack_5 (by decide) ?_
  refine lv_iadd hx hb dX0_takeBack_6 ?_
  refine lv_iconst (v := 1) hx hb dX0_takeBack_7 (by decide) ?_
  refine lv_isub hx hb dX0_takeBack_8 ?_
  refine lv_iconst (v := 4) hx hb dX0_takeBack_9 (by decide) ?_
  refine lv_irem hx hb dX0_takeBack_10 (by decide) ?_
  refine va_put (D := D) (ci := 0) (v := .int (((f_hi_next + (4 : Int32)) - (1 : Int32)) - ((f_hi_next + (4 : Int32)) - (1 : Int32)) / (4 : Int32) * (4 : Int32))) (ty := .int) (C := RX0) (T := TX0) (N := 4) hx hb hts kX0_takeBack_wX0 tyX0 tyX0_ok nmX0 hown hK hP hD hS 4 rfl rfl 1 (by decide) (hts _ kX0_takeBack_f15) (fun _ h9 => h9) rfl (by decide +kernel) rfl rfl (Nat.le_of_ble_eq_true rfl) dX0_takeBack_11 (fun H locs hP hD hS => ?_)
  have hP : va_P D vwCl [(a_so, .inl (y 4, 3, .inr (.inr (.inr (.inr (xO a_s 3)))))), xE a_s (y 0) 120 v_s 0, xE a_s (y 0) 120 v_s 1, xE a_s (y 0) 120 v_s 2, (a_hi, .inr (0, [.int f_hi_many, .int (((f_hi_next + (4 : Int32)) - (1 : Int32)) - ((f_hi_next + (4 : Int32)) - (1 : Int32)) / (4 : Int32) * (4 : Int32)), .ref a_hl, .ref a_hfo])), (a_hl, .inl (y 0, 4, .inl v_hl)), (a_hfo, .inl (y 4, 4, .inr (.inr (.inr (.inr (xO a_hf 4)))))), xE a_hf (y 0) 360 v_hf 0, xE a_hf (y 0) 360 v_hf 1, xE a_hf (y 0) 360 v_hf 2, xE a_hf (y 0) 360 v_hf 3] H := hP
  have hD : va_D A [(a_so, .inl (y 4, 3, .inr (.inr (.inr (.inr (xO a_s 3)))))), xE a_s (y 0) 120 v_s 0, xE a_s (y 0) 120 v_s 1, xE a_s (y 0) 120 v_s 2, (a_hi, .inr (0, [.int f_hi_many, .int (((f_hi_next + (4 : Int32)) - (1 : Int32)) - ((f_hi_next + (4 : Int32)) - (1 : Int32)) / (4 : Int32) * (4 : Int32)), .ref a_hl, .ref a_hfo])), (a_hl, .inl (y 0, 4, .inl v_hl)), (a_hfo, .inl (y 4, 4, .inr (.inr (.inr (.inr (xO a_hf 4)))))), xE a_hf (y 0) 360 v_hf 0, xE a_hf (y 0) 360 v_hf 1, xE a_hf (y 0) 360 v_hf 2, xE a_hf (y 0) 360 v_hf 3] := hD
  refine lv_aload_n hx hb dX0_takeBack_14 rfl (lv_at hl 0 rfl) ?_
  refine lv_dup hx hb dX0_takeBack_15 rfl ?_
  refine va_get (D := D) (ci := 0) (v := .int f_hi_many) (C := RX0) (T := TX0) (N := 4) hx hb hts kX0_takeBack_wX0 hown hK hP 4 rfl rfl 0 (by decide) (hts _ kX0_takeBack_f9) (fun _ h9 => h9) rfl dX0_takeBack_16 ?_
  refine lv_iconst (v := 1) hx hb dX0_takeBack_19 (by decide) ?_
  refine lv_isub hx hb dX0_takeBack_20 ?_
  refine va_put (D := D) (ci := 0) (v := .int (f_hi_many - (1 : Int32))) (ty := .int) (C := RX0) (T := TX0) (N := 4) hx hb hts kX0_takeBack_wX0 tyX0 tyX0_ok nmX0 hown hK hP hD hS 4 rfl rfl 0 (by decide) (hts _ kX0_takeBack_f9) (fun _ h9 => h9) rfl (by decide +kernel) rfl rfl (Nat.le_of_ble_eq_true rfl) dX0_takeBack_21 (fun H locs hP hD hS => ?_)
  have hP : va_P D vwCl [(a_so, .inl (y 4, 3, .inr (.inr (.inr (.inr (xO a_s 3)))))), xE a_s (y 0) 120 v_s 0, xE a_s (y 0) 120 v_s 1, xE a_s (y 0) 120 v_s 2, (a_hi, .inr (0, [.int (f_hi_many - (1 : Int32)), .int (((f_hi_next + (4 : Int32)) - (1 : Int32)) - ((f_hi_next + (4 : Int32)) - (1 : Int32)) / (4 : Int32) * (4 : Int32)), .ref a_hl, .ref a_hfo])), (a_hl, .inl (y 0, 4, .inl v_hl)), (a_hfo, .inl (y 4, 4, .inr (.inr (.inr (.inr (xO a_hf 4)))))), xE a_hf (y 0) 360 v_hf 0, xE a_hf (y 0) 360 v_hf 1, xE a_hf (y 0) 360 v_hf 2, xE a_hf (y 0) 360 v_hf 3] H := hP
  have hD : va_D A [(a_so, .inl (y 4, 3, .inr (.inr (.inr (.inr (xO a_s 3)))))), xE a_s (y 0) 120 v_s 0, xE a_s (y 0) 120 v_s 1, xE a_s (y 0) 120 v_s 2, (a_hi, .inr (0, [.int (f_hi_many - (1 : Int32)), .int (((f_hi_next + (4 : Int32)) - (1 : Int32)) - ((f_hi_next + (4 : Int32)) - (1 : Int32)) / (4 : Int32) * (4 : Int32)), .ref a_hl, .ref a_hfo])), (a_hl, .inl (y 0, 4, .inl v_hl)), (a_hfo, .inl (y 4, 4, .inr (.inr (.inr (.inr (xO a_hf 4)))))), xE a_hf (y 0) 360 v_hf 0, xE a_hf (y 0) 360 v_hf 1, xE a_hf (y 0) 360 v_hf 2, xE a_hf (y 0) 360 v_hf 3] := hD
  refine lv_iconst (v := 0) hx hb dX0_takeBack_24 (by decide) ?_
  refine lv_istore_n (lv' := [(2, .int (0 : Int32)), (0, .ref a_hi), (1, .ref a_so)]) hx hb dX0_takeBack_25 rfl hl (by decide) rfl (fun ls hl => ?_)
  exact B_X0_takeBack_26 C0 xF (0 : Int32) v_s (f_hi_many - (1 : Int32)) (((f_hi_next + (4 : Int32)) - (1 : Int32)) - ((f_hi_next + (4 : Int32)) - (1 : Int32)) / (4 : Int32) * (4 : Int32)) H locs ls hP hD hS (lv_sub hl [1, 2, 0] rfl) hB
set_option maxHeartbeats 4000000 in
set_option maxRecDepth 100000 in
theorem c_X0_takeBack (l : Launch) (D : va_G) (y : Nat → ClassId) (a_so : Nat) (a_s : Nat → Nat) (a_hi : Nat) (a_hl : Nat) (a_hfo : Nat) (a_hf : Nat → Nat)  (v_s : Nat → Nat → Int32) (f_hi_many : Int32) (f_hi_next : Int32) (v_hl : Nat → Int32) (v_hf : Nat → Nat → Int32)  (sz : Nat) {R : Int32 × (Nat → Nat → Int32) × Int32 × Int32} (hF : F_X0_takeBack v_hl v_hf v_s f_hi_many f_hi_next = some R) : Met l yX0_takeBack wsX0_takeBack ({ frames := 1, cells := 0, slots := 0, locals := 40 } : Room) (xPre D y sz [.ref a_hi, .ref a_so] [(a_so, .inl (y 4, 3, .inr (.inr (.inr (.inr (xO a_s 3)))))), xE a_s (y 0) 120 v_s 0, xE a_s (y 0) 120 v_s 1, xE a_s (y 0) 120 v_s 2, (a_hi, .inr (0, [.int f_hi_many, .int f_hi_next, .ref a_hl, .ref a_hfo])), (a_hl, .inl (y 0, 4, .inl v_hl)), (a_hfo, .inl (y 4, 4, .inr (.inr (.inr (.inr (xO a_hf 4)))))), xE a_hf (y 0) 360 v_hf 0, xE a_hf (y 0) 360 v_hf 1, xE a_hf (y 0) 360 v_hf 2, xE a_hf (y 0) 360 v_hf 3]) (va_Qi (fun (r : Int32) (_ : Unit) => r = R.1) (xB D y (va_A [(a_so, .inl (y 4, 3, .inr (.inr (.inr (.inr (xO a_s 3)))))), xE a_s (y 0) 120 v_s 0, xE a_s (y 0) 120 v_s 1, xE a_s (y 0) 120 v_s 2, (a_hi, .inr (0, [.int f_hi_many, .int f_hi_next, .ref a_hl, .ref a_hfo])), (a_hl, .inl (y 0, 4, .inl v_hl)), (a_hfo, .inl (y 4, 4, .inr (.inr (.inr (.inr (xO a_hf 4)))))), xE a_hf (y 0) 360 v_hf 0, xE a_hf (y 0) 360 v_hf 1, xE a_hf (y 0) 360 v_hf 2, xE a_hf (y 0) 360 v_hf 3] sz) [(a_so, .inl (y 4, 3, .inr (.inr (.inr (.inr (xO a_s 3)))))), xE a_s (y 0) 120 R.2.1 0, xE a_s (y 0) 120 R.2.1 1, xE a_s (y 0) 120 R.2.1 2, (a_hi, .inr (0, [.int R.2.2.1, .int R.2.2.2, .ref a_hl, .ref a_hfo])), (a_hl, .inl (y 0, 4, .inl v_hl)), (a_hfo, .inl (y 4, 4, .inr (.inr (.inr (.inr (xO a_hf 4)))))), xE a_hf (y 0) 360 v_hf 0, xE a_hf (y 0) 360 v_hf 1, xE a_hf (y 0) 360 v_hf 2, xE a_hf (y 0) 360 v_hf 3]) (va_A [(a_so, .inl (y 4, 3, .inr (.inr (.inr (.inr (xO a_s 3)))))), xE a_s (y 0) 120 v_s 0, xE a_s (y 0) 120 v_s 1, xE a_s (y 0) 120 v_s 2, (a_hi, .inr (0, [.int f_hi_many, .int f_hi_next, .ref a_hl, .ref a_hfo])), (a_hl, .inl (y 0, 4, .inl v_hl)), (a_hfo, .inl (y 4, 4, .inr (.inr (.inr (.inr (xO a_hf 4)))))), xE a_hf (y 0) 360 v_hf 0, xE a_hf (y 0) 360 v_hf 1, xE a_hf (y 0) 360 v_hf 2, xE a_hf (y 0) 360 v_hf 3] sz)) 0 0 (va_A [(a_so, .inl (y 4, 3, .inr (.inr (.inr (.inr (xO a_s 3)))))), xE a_s (y 0) 120 v_s 0, xE a_s (y 0) 120 v_s 1, xE a_s (y 0) 120 v_s 2, (a_hi, .inr (0, [.int f_hi_many, .int f_hi_next, .ref a_hl, .ref a_hfo])), (a_hl, .inl (y 0, 4, .inl v_hl)), (a_hfo, .inl (y 4, 4, .inr (.inr (.inr (.inr (xO a_hf 4)))))), xE a_hf (y 0) 360 v_hf 0, xE a_hf (y 0) 360 v_hf 1, xE a_hf (y 0) 360 v_hf 2, xE a_hf (y 0) 360 v_hf 3] sz) := by
  refine Met.ofW (cc := cX0_takeBack) (maxL := 3) (ret := (some .int)) (by decide) rfl ?_
  intro p e s m args below meth c s₁ B hml hv
  obtain ⟨rfl, hsz, hP, hK, hD0⟩ := hv
  subst hsz
  have hD := hD0.self (sz := s.heap.size)
  have C : xC p s m [.ref a_hi, .ref a_so].toArray meth c (va_A [(a_so, .inl (y 4, 3, .inr (.inr (.inr (.inr (xO a_s 3)))))), xE a_s (y 0) 120 v_s 0, xE a_s (y 0) 120 v_s 1, xE a_s (y 0) 120 v_s 2, (a_hi, .inr (0, [.int f_hi_many, .int f_hi_next, .ref a_hl, .ref a_hfo])), (a_hl, .inl (y 0, 4, .inl v_hl)), (a_hfo, .inl (y 4, 4, .inr (.inr (.inr (.inr (xO a_hf 4)))))), xE a_hf (y 0) 360 v_hf 0, xE a_hf (y 0) 360 v_hf 1, xE a_hf (y 0) 360 v_hf 2, xE a_hf (y 0) 360 v_hf 3] s.heap.size) cX0_takeBack RX0 wsX0_takeBack 3 (some .int) D y := ⟨B.exec, B.bytes, hml, findClass_of_methodNamed B.named, atoms_spec (ws := wsX0_takeBack) B.pre, B.returns, B.notSynchronized, hK, fun q h => Or.inr h⟩
  have hl := lv_entry ([.ref a_hi, .ref a_so]) (n := 3) (Nat.le_of_ble_eq_true rfl)
  rw [lg_entry_eq]
  generalize (lg_sl ([.ref a_hi, .ref a_so]) ++ List.replicate (3 - (lg_sl ([.ref a_hi, .ref a_so])).length) Slot.unset).toArray = ls at hl ⊢
  have hl : lv_has ls 3 [(0, .ref a_hi), (1, .ref a_so)] := hl
  exact B_X0_takeBack_0 C v_s f_hi_many f_hi_next s.heap [] ls hP hD va_S.rf hl hF
theorem kX5_undoC_c191 : Cond.constant RX5 191 (-10000002) ∈ wsX5_undo := by decide +kernel
theorem kX5_undoC_f30 : Cond.fieldLink RX5 30 "DescentShuffles" "history" "LDescentShuffles$History;" ∈ wsX5_undo := by decide +kernel
theorem kX5_undoC_wX5 : ∀ w ∈ u_ws RX5 TX5 9, w ∈ wsX5_undo := by decide +kernel
theorem kX5_undoC_f187 : Cond.fieldLink RX5 187 "DescentShuffles$History" "many" "I" ∈ wsX5_undo := by decide +kernel
theorem kX5_undoC_wX0 : ∀ w ∈ u_ws RX0 TX0 4, w ∈ wsX5_undo := by decide +kernel
theorem kX5_undoC_f17 : Cond.fieldLink RX5 17 "DescentShuffles" "sums" "[[I" ∈ wsX5_undo := by decide +kernel
theorem kX5_undoC_f59 : Cond.fieldLink RX5 59 "DescentShuffles" "orders" "LDescentShuffles$Orders;" ∈ wsX5_undo := by decide +kernel
def S_X5_undoC_0 (p : Program) (l : Launch) (e : Env) (s : State) (m : MethodId) (args : Array Value) (below : List Frame) (meth : Method) (c : Code) (A : Nat → Prop) (D : va_G) (y : Nat → ClassId) (a_x : Nat) (a_known : Nat) (a_so : Nat) (a_made : Nat) (a_pcl : Nat) (a_hi : Nat) (a_tx : Nat) (a_rd : Nat) (a_tb : Nat) (a_o : Nat) (a_s : Nat → Nat) (a_hl : Nat) (a_hfo : Nat) (a_hf : Nat → Nat) (v_known : Nat → Option Nat) (v_hl : Nat → Int32) (v_hf : Nat → Nat → Int32) (R : Int32 × (Nat → Nat → Int32) × Int32 × Int32) (κ : (Nat → Nat → Int32) → Int32 → Int32 → Option (Int32 × (Nat → Nat → Int32) × Int32 × Int32)) : Prop := ∀ (v_s : Nat → Nat → Int32) (f_hi_many : Int32) (f_hi_next : Int32) (H : Heap) (locs : List Loc) (ls : Array Slot), va_P D vwCl [(a_x, .inr (5, [.ref a_known, .ref a_so, .ref a_made, .ref a_pcl, .ref a_hi, .ref a_tx, .ref a_rd, .ref a_tb, .ref a_o])), (a_known, .inl (y 3, 6, .inr (.inr (.inr (.inr v_known))))), (a_so, .inl (y 4, 3, .inr (.inr (.inr (.inr (xO a_s 3)))))), xE a_s (y 0) 120 v_s 0, xE a_s (y 0) 120 v_s 1, xE a_s (y 0) 120 v_s 2, (a_hi, .inr (0, [.int f_hi_many, .int f_hi_next, .ref a_hl, .ref a_hfo])), (a_hl, .inl (y 0, 4, .inl v_hl)), (a_hfo, .inl (y 4, 4, .inr (.inr (.inr (.inr (xO a_hf 4)))))), xE a_hf (y 0) 360 v_hf 0, xE a_hf (y 0) 360 v_hf 1, xE a_hf (y 0) 360 v_hf 2, xE a_hf (y 0) 360 v_hf 3] H → va_D A [(a_x, .inr (5, [.ref a_known, .ref a_so, .ref a_made, .ref a_pcl, .ref a_hi, .ref a_tx, .ref a_rd, .ref a_tb, .ref a_o])), (a_known, .inl (y 3, 6, .inr (.inr (.inr (.inr v_known))))), (a_so, .inl (y 4, 3, .inr (.inr (.inr (.inr (xO a_s 3)))))), xE a_s (y 0) 120 v_s 0, xE a_s (y 0) 120 v_s 1, xE a_s (y 0) 120 v_s 2, (a_hi, .inr (0, [.int f_hi_many, .int f_hi_next, .ref a_hl, .ref a_hfo])), (a_hl, .inl (y 0, 4, .inl v_hl)), (a_hfo, .inl (y 4, 4, .inr (.inr (.inr (.inr (xO a_hf 4)))))), xE a_hf (y 0) 360 v_hf 0, xE a_hf (y 0) 360 v_hf 1, xE a_hf (y 0) 360 v_hf 2, xE a_hf (y 0) 360 v_hf 3] → va_S A s.heap H locs → lv_has ls 1 [(0, .ref a_x)] → κ v_s f_hi_many f_hi_next = some R → W p l e ({ frames := 2, cells := 0, slots := 0, locals := 62 } : Room) s m args below meth c H locs 0 0 (MQ below (va_Qi (fun (r : Int32) (_ : Unit) => r = R.1) (xB D y A [(a_x, .inr (5, [.ref a_known, .ref a_so, .ref a_made, .ref a_pcl, .ref a_hi, .ref a_tx, .ref a_rd, .ref a_tb, .ref a_o])), (a_known, .inl (y 3, 6, .inr (.inr (.inr (.inr v_known))))), (a_so, .inl (y 4, 3, .inr (.inr (.inr (.inr (xO a_s 3)))))), xE a_s (y 0) 120 R.2.1 0, xE a_s (y 0) 120 R.2.1 1, xE a_s (y 0) 120 R.2.1 2, (a_hi, .inr (0, [.int R.2.2.1, .int R.2.2.2, .ref a_hl, .ref a_hfo])), (a_hl, .inl (y 0, 4, .inl v_hl)), (a_hfo, .inl (y 4, 4, .inr (.inr (.inr (.inr (xO a_hf 4)))))), xE a_hf (y 0) 360 v_hf 0, xE a_hf (y 0) 360 v_hf 1, xE a_hf (y 0) 360 v_hf 2, xE a_hf (y 0) 360 v_hf 3]) A) args s 0 0 A) (F0 m 0 ls [])
set_option maxHeartbeats 4000000 in
set_option maxRecDepth 100000 in
theorem B_X5_undoC_0 {p : Program} {l : Launch} {e : Env} {s : State} {m : MethodId} {args : Array Value} {below : List Frame} {meth : Method} {c : Code} {A : Nat → Prop} {D : va_G} {y : Nat → ClassId} {a_x : Nat} {a_known : Nat} {a_so : Nat} {a_made : Nat} {a_pcl : Nat} {a_hi : Nat} {a_tx : Nat} {a_rd : Nat} {a_tb : Nat} {a_o : Nat} {a_s : Nat → Nat} {a_hl : Nat} {a_hfo : Nat} {a_hf : Nat → Nat} {v_known : Nat → Option Nat} {v_hl : Nat → Int32} {v_hf : Nat → Nat → Int32} {R : Int32 × (Nat → Nat → Int32) × Int32 × Int32} (C : xC p s m args meth c A cX5_undo RX5 wsX5_undo 1 (some .int) D y) (hk0 : ∀ q, F_X0_takeBack @TB@ = some q → v_known q.1.toNatClampNeg = some a_o)  : S_X5_undoC_0 p l e s m args below meth c A D y a_x a_known a_so a_made a_pcl a_hi a_tx a_rd a_tb a_o a_s a_hl a_hfo a_hf v_known v_hl v_hf R (F_X5_undoC v_hl v_hf ) := by
  have C0 := C
  obtain ⟨hx, hb, hml, hown, hts, hr, hlocks, hK, hA⟩ := C
  intro v_s f_hi_many f_hi_next H locs ls hP hD hS hl hB
  unfold F_X5_undoC at hB
  refine lv_aload_n hx hb dX5_undo_0 rfl (lv_at hl 0 rfl) ?_
  refine va_get (D := D) (ci := 5) (v := .ref a_hi) (C := RX5) (T := TX5) (N := 9) hx hb hts kX5_undoC_wX5 hown hK hP 0 rfl rfl 4 (by decide) (hts _ kX5_undoC_f30) (fun _ h9 => h9) rfl dX5_undo_1 ?_
  refine va_get (D := D) (ci := 0) (v := .int f_hi_many) (C := RX0) (T := TX0) (N := 4) hx hb hts kX5_undoC_wX0 hown hK hP 6 rfl rfl 0 (by decide) (hts _ kX5_undoC_f187) (fun _ h9 => h9) rfl dX5_undo_4 ?_
  refine lv_if_ne (tgt := 13) hx hb dX5_undo_7 (by decide) (fun c1 => ?_) (fun c1 => ?_)
  · have hB := xin c1 hB
    refine lv_aload_n hx hb dX5_undo_13 rfl (lv_at hl 0 rfl) ?_
    refine lv_aload_n hx hb dX5_undo_14 rfl (lv_at hl 0 rfl) ?_
    refine lv_aload_n hx hb dX5_undo_15 rfl (lv_at hl 0 rfl) ?_
    refine va_get (D := D) (ci := 5) (v := .ref a_hi) (C := RX5) (T := TX5) (N := 9) hx hb hts kX5_undoC_wX5 hown hK hP 0 rfl rfl 4 (by decide) (hts _ kX5_undoC_f30) (fun _ h9 => h9) rfl dX5_undo_16 ?_
    refine lv_aload_n hx hb dX5_undo_19 rfl (lv_at hl 0 rfl) ?_
    refine va_get (D := D) (ci := 5) (v := .ref a_so) (C := RX5) (T := TX5) (N := 9) hx hb hts kX5_undoC_wX5 hown hK hP 0 rfl rfl 1 (by decide) (hts _ kX5_undoC_f17) (fun _ h9 => h9) rfl dX5_undo_20 ?_
    obtain ⟨q2, e2, hB⟩ := xbd hB
    have hPc := hP.sub (ws' := [(a_so, .inl (y 4, 3, .inr (.inr (.inr (.inr (xO a_s 3)))))), xE a_s (y 0) 120 v_s 0, xE a_s (y 0) 120 v_s 1, xE a_s (y 0) 120 v_s 2, (a_hi, .inr (0, [.int f_hi_many, .int f_hi_next, .ref a_hl, .ref a_hfo])), (a_hl, .inl (y 0, 4, .inl v_hl)), (a_hfo, .inl (y 4, 4, .inr (.inr (.inr (.inr (xO a_hf 4)))))), xE a_hf (y 0) 360 v_hf 0, xE a_hf (y 0) 360 v_hf 1, xE a_hf (y 0) 360 v_hf 2, xE a_hf (y 0) 360 v_hf 3]) [2, 3, 4, 5, 6, 7, 8, 9, 10, 11, 12] rfl
    have hDc := hD.sub (ws' := [(a_so, .inl (y 4, 3, .inr (.inr (.inr (.inr (xO a_s 3)))))), xE a_s (y 0) 120 v_s 0, xE a_s (y 0) 120 v_s 1, xE a_s (y 0) 120 v_s 2, (a_hi, .inr (0, [.int f_hi_many, .int f_hi_next, .ref a_hl, .ref a_hfo])), (a_hl, .inl (y 0, 4, .inl v_hl)), (a_hfo, .inl (y 4, 4, .inr (.inr (.inr (.inr (xO a_hf 4)))))), xE a_hf (y 0) 360 v_hf 0, xE a_hf (y 0) 360 v_hf 1, xE a_hf (y 0) 360 v_hf 2, xE a_hf (y 0) 360 v_hf 3]) [2, 3, 4, 5, 6, 7, 8, 9, 10, 11, 12] (by decide) rfl
    refine xcalli (mc := 0) (ms := 0) (rv := q2.1) (wc := [(a_so, .inl (y 4, 3, .inr (.inr (.inr (.inr (xO a_s 3)))))), xE a_s (y 0) 120 v_s 0, xE a_s (y 0) 120 v_s 1, xE a_s (y 0) 120 v_s 2, (a_hi, .inr (0, [.int f_hi_many, .int f_hi_next, .ref a_hl, .ref a_hfo])), (a_hl, .inl (y 0, 4, .inl v_hl)), (a_hfo, .inl (y 4, 4, .inr (.inr (.inr (.inr (xO a_hf 4)))))), xE a_hf (y 0) 360 v_hf 0, xE a_hf (y 0) 360 v_hf 1, xE a_hf (y 0) 360 v_hf 2, xE a_hf (y 0) 360 v_hf 3]) (wr := [(a_x, .inr (5, [.ref a_known, .ref a_so, .ref a_made, .ref a_pcl, .ref a_hi, .ref a_tx, .ref a_rd, .ref a_tb, .ref a_o])), (a_known, .inl (y 3, 6, .inr (.inr (.inr (.inr v_known)))))]) (w1 := [(a_so, .inl (y 4, 3, .inr (.inr (.inr (.inr (xO a_s 3)))))), xE a_s (y 0) 120 q2.2.1 0, xE a_s (y 0) 120 q2.2.1 1, xE a_s (y 0) 120 q2.2.1 2, (a_hi, .inr (0, [.int q2.2.2.1, .int q2.2.2.2, .ref a_hl, .ref a_hfo])), (a_hl, .inl (y 0, 4, .inl v_hl)), (a_hfo, .inl (y 4, 4, .inr (.inr (.inr (.inr (xO a_hf 4)))))), xE a_hf (y 0) 360 v_hf 0, xE a_hf (y 0) 360 v_hf 1, xE a_hf (y 0) 360 v_hf 2, xE a_hf (y 0) 360 v_hf 3]) (wf := [(a_x, .inr (5, [.ref a_known, .ref a_so, .ref a_made, .ref a_pcl, .ref a_hi, .ref a_tx, .ref a_rd, .ref a_tb, .ref a_o])), (a_known, .inl (y 3, 6, .inr (.inr (.inr (.inr v_known))))), (a_so, .inl (y 4, 3, .inr (.inr (.inr (.inr (xO a_s 3)))))), xE a_s (y 0) 120 q2.2.1 0, xE a_s (y 0) 120 q2.2.1 1, xE a_s (y 0) 120 q2.2.1 2, (a_hi, .inr (0, [.int q2.2.2.1, .int q2.2.2.2, .ref a_hl, .ref a_hfo])), (a_hl, .inl (y 0, 4, .inl v_hl)), (a_hfo, .inl (y 4, 4, .inr (.inr (.inr (.inr (xO a_hf 4)))))), xE a_hf (y 0) 360 v_hf 0, xE a_hf (y 0) 360 v_hf 1, xE a_hf (y 0) 360 v_hf 2, xE a_hf (y 0) 360 v_hf 3]) (va_runV (As := [.ref a_so]) (rest := [.ref a_x, .ref a_x]) ⟨hx, hb, hml, hown, hts⟩ (c_X0_takeBack l D y a_so a_s a_hi a_hl a_hfo a_hf v_s f_hi_many f_hi_next v_hl v_hf H.size e2) (cwV 1 hts gX5_undo_X0_takeBack rfl rfl rfl (by decide +kernel) ⟨Nat.le_of_ble_eq_true rfl, Nat.le_of_ble_eq_true rfl⟩) ⟨xblind, va_recv hK hP (ci := 0) (q0 := 6) rfl rfl, xprev hPc hK hDc⟩ rfl rfl hl.1 rfl (lv_room (Nat.le_of_ble_eq_true rfl)) dX5_undo_23 ⟨Nat.le_of_ble_eq_true rfl, Nat.le_of_ble_eq_true rfl⟩) hP hD hS hA [2, 3, 4, 5, 6, 7, 8, 9, 10, 11, 12] [0, 1] [0, 1, 2, 3, 4, 5, 6, 7, 8, 9, 10, 11, 12] rfl rfl (by decide) (by decide) rfl (by decide) (fun H locs hP hD hS => ?_)
    obtain ⟨q3, e3, hB⟩ := xbd hB
    have hPc := hP.sub (ws' := [(a_x, .inr (5, [.ref a_known, .ref a_so, .ref a_made, .ref a_pcl, .ref a_hi, .ref a_tx, .ref a_rd, .ref a_tb, .ref a_o])), (a_known, .inl (y 3, 6, .inr (.inr (.inr (.inr v_known)))))]) [0, 1] rfl
    have hDc := hD.sub (ws' := [(a_x, .inr (5, [.ref a_known, .ref a_so, .ref a_made, .ref a_pcl, .ref a_hi, .ref a_tx, .ref a_rd, .ref a_tb, .ref a_o])), (a_known, .inl (y 3, 6, .inr (.inr (.inr (.inr v_known)))))]) [0, 1] (by decide) rfl
    refine xcallr (mc := 0) (ms := 0) (wc := [(a_x, .inr (5, [.ref a_known, .ref a_so, .ref a_made, .ref a_pcl, .ref a_hi, .ref a_tx, .ref a_rd, .ref a_tb, .ref a_o])), (a_known, .inl (y 3, 6, .inr (.inr (.inr (.inr v_known)))))]) (wr := [(a_so, .inl (y 4, 3, .inr (.inr (.inr (.inr (xO a_s 3)))))), xE a_s (y 0) 120 q2.2.1 0, xE a_s (y 0) 120 q2.2.1 1, xE a_s (y 0) 120 q2.2.1 2, (a_hi, .inr (0, [.int q2.2.2.1, .int q2.2.2.2, .ref a_hl, .ref a_hfo])), (a_hl, .inl (y 0, 4, .inl v_hl)), (a_hfo, .inl (y 4, 4, .inr (.inr (.inr (.inr (xO a_hf 4)))))), xE a_hf (y 0) 360 v_hf 0, xE a_hf (y 0) 360 v_hf 1, xE a_hf (y 0) 360 v_hf 2, xE a_hf (y 0) 360 v_hf 3]) (w1 := [(a_x, .inr (5, [.ref a_known, .ref a_so, .ref a_made, .ref a_pcl, .ref a_hi, .ref a_tx, .ref a_rd, .ref a_tb, .ref a_o])), (a_known, .inl (y 3, 6, .inr (.inr (.inr (.inr v_known)))))]) (wf := [(a_x, .inr (5, [.ref a_known, .ref a_so, .ref a_made, .ref a_pcl, .ref a_hi, .ref a_tx, .ref a_rd, .ref a_tb, .ref a_o])), (a_known, .inl (y 3, 6, .inr (.inr (.inr (.inr v_known))))), (a_so, .inl (y 4, 3, .inr (.inr (.inr (.inr (xO a_s 3)))))), xE a_s (y 0) 120 q2.2.1 0, xE a_s (y 0) 120 q2.2.1 1, xE a_s (y 0) 120 q2.2.1 2, (a_hi, .inr (0, [.int q2.2.2.1, .int q2.2.2.2, .ref a_hl, .ref a_hfo])), (a_hl, .inl (y 0, 4, .inl v_hl)), (a_hfo, .inl (y 4, 4, .inr (.inr (.inr (.inr (xO a_hf 4)))))), xE a_hf (y 0) 360 v_hf 0, xE a_hf (y 0) 360 v_hf 1, xE a_hf (y 0) 360 v_hf 2, xE a_hf (y 0) 360 v_hf 3]) (va_runV (As := [.int q2.1]) (rest := [.ref a_x]) ⟨hx, hb, hml, hown, hts⟩ (c_X5_ordersWithH l D y a_o a_x a_known a_so a_made a_pcl a_hi a_tx a_rd a_tb a_o v_known q2.1 H.size (hk0 _ e2) e3) (cwV 1 hts gX5_undo_X5_ordersWith rfl rfl rfl (by decide +kernel) ⟨Nat.le_of_ble_eq_true rfl, Nat.le_of_ble_eq_true rfl⟩) ⟨xblind, va_recv hK hP (ci := 5) (q0 := 0) rfl rfl, xprev hPc hK hDc⟩ rfl rfl hl.1 rfl (lv_room (Nat.le_of_ble_eq_true rfl)) dX5_undo_26 ⟨Nat.le_of_ble_eq_true rfl, Nat.le_of_ble_eq_true rfl⟩) hP hD hS hA [0, 1] [2, 3, 4, 5, 6, 7, 8, 9, 10, 11, 12] [11, 12, 0, 1, 2, 3, 4, 5, 6, 7, 8, 9, 10] rfl rfl (by decide) (by decide) rfl (by decide) (fun H locs hP hD hS => ?_)
    refine va_put (D := D) (ci := 5) (v := .ref a_o) (ty := tyX5 8) (C := RX5) (T := TX5) (N := 9) hx hb hts kX5_undoC_wX5 tyX5 tyX5_ok nmX5 hown hK hP hD hS 0 rfl rfl 8 (by decide) (hts _ kX5_undoC_f59) (fun _ h9 => h9) rfl (by decide +kernel) rfl rfl (Nat.le_of_ble_eq_true rfl) dX5_undo_29 (fun H locs hP hD hS => ?_)
    have hP : va_P D vwCl [(a_x, .inr (5, [.ref a_known, .ref a_so, .ref a_made, .ref a_pcl, .ref a_hi, .ref a_tx, .ref a_rd, .ref a_tb, .ref a_o])), (a_known, .inl (y 3, 6, .inr (.inr (.inr (.inr v_known))))), (a_so, .inl (y 4, 3, .inr (.inr (.inr (.inr (xO a_s 3)))))), xE a_s (y 0) 120 q2.2.1 0, xE a_s (y 0) 120 q2.2.1 1, xE a_s (y 0) 120 q2.2.1 2, (a_hi, .inr (0, [.int q2.2.2.1, .int q2.2.2.2, .ref a_hl, .ref a_hfo])), (a_hl, .inl (y 0, 4, .inl v_hl)), (a_hfo, .inl (y 4, 4, .inr (.inr (.inr (.inr (xO a_hf 4)))))), xE a_hf (y 0) 360 v_hf 0, xE a_hf (y 0) 360 v_hf 1, xE a_hf (y 0) 360 v_hf 2, xE a_hf (y 0) 360 v_hf 3] H := hP
    have hD : va_D A [(a_x, .inr (5, [.ref a_known, .ref a_so, .ref a_made, .ref a_pcl, .ref a_hi, .ref a_tx, .ref a_rd, .ref a_tb, .ref a_o])), (a_known, .inl (y 3, 6, .inr (.inr (.inr (.inr v_known))))), (a_so, .inl (y 4, 3, .inr (.inr (.inr (.inr (xO a_s 3)))))), xE a_s (y 0) 120 q2.2.1 0, xE a_s (y 0) 120 q2.2.1 1, xE a_s (y 0) 120 q2.2.1 2, (a_hi, .inr (0, [.int q2.2.2.1, .int q2.2.2.2, .ref a_hl, .ref a_hfo])), (a_hl, .inl (y 0, 4, .inl v_hl)), (a_hfo, .inl (y 4, 4, .inr (.inr (.inr (.inr (xO a_hf 4)))))), xE a_hf (y 0) 360 v_hf 0, xE a_hf (y 0) 360 v_hf 1, xE a_hf (y 0) 360 v_hf 2, xE a_hf (y 0) 360 v_hf 3] := hD
    refine lv_aload_n hx hb dX5_undo_32 rfl (lv_at hl 0 rfl) ?_
    refine va_get (D := D) (ci := 5) (v := .ref a_hi) (C := RX5) (T := TX5) (N := 9) hx hb hts kX5_undoC_wX5 hown hK hP 0 rfl rfl 4 (by decide) (hts _ kX5_undoC_f30) (fun _ h9 => h9) rfl dX5_undo_33 ?_
    refine va_get (D := D) (ci := 0) (v := .int q2.2.2.1) (C := RX0) (T := TX0) (N := 4) hx hb hts kX5_undoC_wX0 hown hK hP 6 rfl rfl 0 (by decide) (hts _ kX5_undoC_f187) (fun _ h9 => h9) rfl dX5_undo_36 ?_
    have hB := Option.some.inj hB
    subst hB
    exact W.iret hx hb hr (fun t ht hW => ⟨⟨_, (), rfl, rfl, by rw [ht]; exact hP, va_K.moved hW.alike hK, hD⟩, hS.F ht⟩) hS.2.2 dX5_undo_39 hlocks
  · have hB := xip c1 hB
    refine lv_ldc (v := -10000002) hx hb hown (hts _ kX5_undoC_c191) dX5_undo_10 ?_
    have hB := Option.some.inj hB
    subst hB
    exact W.iret hx hb hr (fun t ht hW => ⟨⟨_, (), rfl, rfl, by rw [ht]; exact hP, va_K.moved hW.alike hK, hD⟩, hS.F ht⟩) hS.2.2 dX5_undo_12 hlocks
set_option maxHeartbeats 4000000 in
set_option maxRecDepth 100000 in
theorem c_X5_undoC (l : Launch) (D : va_G) (y : Nat → ClassId) (a_x : Nat) (a_known : Nat) (a_so : Nat) (a_made : Nat) (a_pcl : Nat) (a_hi : Nat) (a_tx : Nat) (a_rd : Nat) (a_tb : Nat) (a_o : Nat) (a_s : Nat → Nat) (a_hl : Nat) (a_hfo : Nat) (a_hf : Nat → Nat)  (v_known : Nat → Option Nat) (v_s : Nat → Nat → Int32) (f_hi_many : Int32) (f_hi_next : Int32) (v_hl : Nat → Int32) (v_hf : Nat → Nat → Int32)  (sz : Nat) {R : Int32 × (Nat → Nat → Int32) × Int32 × Int32} (hk0 : ∀ q, F_X0_takeBack @TB@ = some q → v_known q.1.toNatClampNeg = some a_o) (hF : F_X5_undoC v_hl v_hf v_s f_hi_many f_hi_next = some R) : Met l yX5_undo wsX5_undo ({ frames := 2, cells := 0, slots := 0, locals := 62 } : Room) (xPre D y sz [.ref a_x] [(a_x, .inr (5, [.ref a_known, .ref a_so, .ref a_made, .ref a_pcl, .ref a_hi, .ref a_tx, .ref a_rd, .ref a_tb, .ref a_o])), (a_known, .inl (y 3, 6, .inr (.inr (.inr (.inr v_known))))), (a_so, .inl (y 4, 3, .inr (.inr (.inr (.inr (xO a_s 3)))))), xE a_s (y 0) 120 v_s 0, xE a_s (y 0) 120 v_s 1, xE a_s (y 0) 120 v_s 2, (a_hi, .inr (0, [.int f_hi_many, .int f_hi_next, .ref a_hl, .ref a_hfo])), (a_hl, .inl (y 0, 4, .inl v_hl)), (a_hfo, .inl (y 4, 4, .inr (.inr (.inr (.inr (xO a_hf 4)))))), xE a_hf (y 0) 360 v_hf 0, xE a_hf (y 0) 360 v_hf 1, xE a_hf (y 0) 360 v_hf 2, xE a_hf (y 0) 360 v_hf 3]) (va_Qi (fun (r : Int32) (_ : Unit) => r = R.1) (xB D y (va_A [(a_x, .inr (5, [.ref a_known, .ref a_so, .ref a_made, .ref a_pcl, .ref a_hi, .ref a_tx, .ref a_rd, .ref a_tb, .ref a_o])), (a_known, .inl (y 3, 6, .inr (.inr (.inr (.inr v_known))))), (a_so, .inl (y 4, 3, .inr (.inr (.inr (.inr (xO a_s 3)))))), xE a_s (y 0) 120 v_s 0, xE a_s (y 0) 120 v_s 1, xE a_s (y 0) 120 v_s 2, (a_hi, .inr (0, [.int f_hi_many, .int f_hi_next, .ref a_hl, .ref a_hfo])), (a_hl, .inl (y 0, 4, .inl v_hl)), (a_hfo, .inl (y 4, 4, .inr (.inr (.inr (.inr (xO a_hf 4)))))), xE a_hf (y 0) 360 v_hf 0, xE a_hf (y 0) 360 v_hf 1, xE a_hf (y 0) 360 v_hf 2, xE a_hf (y 0) 360 v_hf 3] sz) [(a_x, .inr (5, [.ref a_known, .ref a_so, .ref a_made, .ref a_pcl, .ref a_hi, .ref a_tx, .ref a_rd, .ref a_tb, .ref a_o])), (a_known, .inl (y 3, 6, .inr (.inr (.inr (.inr v_known))))), (a_so, .inl (y 4, 3, .inr (.inr (.inr (.inr (xO a_s 3)))))), xE a_s (y 0) 120 R.2.1 0, xE a_s (y 0) 120 R.2.1 1, xE a_s (y 0) 120 R.2.1 2, (a_hi, .inr (0, [.int R.2.2.1, .int R.2.2.2, .ref a_hl, .ref a_hfo])), (a_hl, .inl (y 0, 4, .inl v_hl)), (a_hfo, .inl (y 4, 4, .inr (.inr (.inr (.inr (xO a_hf 4)))))), xE a_hf (y 0) 360 v_hf 0, xE a_hf (y 0) 360 v_hf 1, xE a_hf (y 0) 360 v_hf 2, xE a_hf (y 0) 360 v_hf 3]) (va_A [(a_x, .inr (5, [.ref a_known, .ref a_so, .ref a_made, .ref a_pcl, .ref a_hi, .ref a_tx, .ref a_rd, .ref a_tb, .ref a_o])), (a_known, .inl (y 3, 6, .inr (.inr (.inr (.inr v_known))))), (a_so, .inl (y 4, 3, .inr (.inr (.inr (.inr (xO a_s 3)))))), xE a_s (y 0) 120 v_s 0, xE a_s (y 0) 120 v_s 1, xE a_s (y 0) 120 v_s 2, (a_hi, .inr (0, [.int f_hi_many, .int f_hi_next, .ref a_hl, .ref a_hfo])), (a_hl, .inl (y 0, 4, .inl v_hl)), (a_hfo, .inl (y 4, 4, .inr (.inr (.inr (.inr (xO a_hf 4)))))), xE a_hf (y 0) 360 v_hf 0, xE a_hf (y 0) 360 v_hf 1, xE a_hf (y 0) 360 v_hf 2, xE a_hf (y 0) 360 v_hf 3] sz)) 0 0 (va_A [(a_x, .inr (5, [.ref a_known, .ref a_so, .ref a_made, .ref a_pcl, .ref a_hi, .ref a_tx, .ref a_rd, .ref a_tb, .ref a_o])), (a_known, .inl (y 3, 6, .inr (.inr (.inr (.inr v_known))))), (a_so, .inl (y 4, 3, .inr (.inr (.inr (.inr (xO a_s 3)))))), xE a_s (y 0) 120 v_s 0, xE a_s (y 0) 120 v_s 1, xE a_s (y 0) 120 v_s 2, (a_hi, .inr (0, [.int f_hi_many, .int f_hi_next, .ref a_hl, .ref a_hfo])), (a_hl, .inl (y 0, 4, .inl v_hl)), (a_hfo, .inl (y 4, 4, .inr (.inr (.inr (.inr (xO a_hf 4)))))), xE a_hf (y 0) 360 v_hf 0, xE a_hf (y 0) 360 v_hf 1, xE a_hf (y 0) 360 v_hf 2, xE a_hf (y 0) 360 v_hf 3] sz) := by
  refine Met.ofW (cc := cX5_undo) (maxL := 1) (ret := (some .int)) (by decide) rfl ?_
  intro p e s m args below meth c s₁ B hml hv
  obtain ⟨rfl, hsz, hP, hK, hD0⟩ := hv
  subst hsz
  have hD := hD0.self (sz := s.heap.size)
  have C : xC p s m [.ref a_x].toArray meth c (va_A [(a_x, .inr (5, [.ref a_known, .ref a_so, .ref a_made, .ref a_pcl, .ref a_hi, .ref a_tx, .ref a_rd, .ref a_tb, .ref a_o])), (a_known, .inl (y 3, 6, .inr (.inr (.inr (.inr v_known))))), (a_so, .inl (y 4, 3, .inr (.inr (.inr (.inr (xO a_s 3)))))), xE a_s (y 0) 120 v_s 0, xE a_s (y 0) 120 v_s 1, xE a_s (y 0) 120 v_s 2, (a_hi, .inr (0, [.int f_hi_many, .int f_hi_next, .ref a_hl, .ref a_hfo])), (a_hl, .inl (y 0, 4, .inl v_hl)), (a_hfo, .inl (y 4, 4, .inr (.inr (.inr (.inr (xO a_hf 4)))))), xE a_hf (y 0) 360 v_hf 0, xE a_hf (y 0) 360 v_hf 1, xE a_hf (y 0) 360 v_hf 2, xE a_hf (y 0) 360 v_hf 3] s.heap.size) cX5_undo RX5 wsX5_undo 1 (some .int) D y := ⟨B.exec, B.bytes, hml, findClass_of_methodNamed B.named, atoms_spec (ws := wsX5_undo) B.pre, B.returns, B.notSynchronized, hK, fun q h => Or.inr h⟩
  have hl := lv_entry ([.ref a_x]) (n := 1) (Nat.le_of_ble_eq_true rfl)
  rw [lg_entry_eq]
  generalize (lg_sl ([.ref a_x]) ++ List.replicate (1 - (lg_sl ([.ref a_x])).length) Slot.unset).toArray = ls at hl ⊢
  have hl : lv_has ls 1 [(0, .ref a_x)] := hl
  exact B_X5_undoC_0 C hk0 v_s f_hi_many f_hi_next s.heap [] ls hP hD va_S.rf hl hF
theorem kX5_undoH_c191 : Cond.constant RX5 191 (-10000002) ∈ wsX5_undo := by decide +kernel
theorem kX5_undoH_f30 : Cond.fieldLink RX5 30 "DescentShuffles" "history" "LDescentShuffles$History;" ∈ wsX5_undo := by decide +kernel
theorem kX5_undoH_wX5 : ∀ w ∈ u_ws RX5 TX5 9, w ∈ wsX5_undo := by decide +kernel
theorem kX5_undoH_f187 : Cond.fieldLink RX5 187 "DescentShuffles$History" "many" "I" ∈ wsX5_undo := by decide +kernel
theorem kX5_undoH_wX0 : ∀ w ∈ u_ws RX0 TX0 4, w ∈ wsX5_undo := by decide +kernel
theorem kX5_undoH_f17 : Cond.fieldLink RX5 17 "DescentShuffles" "sums" "[[I" ∈ wsX5_undo := by decide +kernel
theorem kX5_undoH_f59 : Cond.fieldLink RX5 59 "DescentShuffles" "orders" "LDescentShuffles$Orders;" ∈ wsX5_undo := by decide +kernel
def S_X5_undoH_0 (p : Program) (l : Launch) (e : Env) (s : State) (m : MethodId) (args : Array Value) (below : List Frame) (meth : Method) (c : Code) (A : Nat → Prop) (D : va_G) (y : Nat → ClassId) (a_x : Nat) (a_known : Nat) (a_so : Nat) (a_made : Nat) (a_pcl : Nat) (a_hi : Nat) (a_tx : Nat) (a_rd : Nat) (a_tb : Nat) (a_o : Nat) (a_s : Nat → Nat) (a_hl : Nat) (a_hfo : Nat) (a_hf : Nat → Nat) (a_lo : Nat) (a_lod : Nat) (a_lop : Nat) (a_loi : Nat) (a_lov : Nat) (a_lof : Nat) (a_lol : Nat) (a_lom : Nat) (a_low : Nat) (v_known : Nat → Option Nat) (v_hl : Nat → Int32) (v_hf : Nat → Nat → Int32) (f_lo_n : Int32) (f_lo_many : Int32) (f_lo_sets : Int32) (R : Int32 × (Nat → Nat → Int32) × Int32 × Int32) (κ : (Nat → Nat → Int32) → Int32 → Int32 → Option (Int32 × (Nat → Nat → Int32) × Int32 × Int32)) : Prop := ∀ (v_s : Nat → Nat → Int32) (f_hi_many : Int32) (f_hi_next : Int32) (H : Heap) (locs : List Loc) (ls : Array Slot), va_P D vwCl [(a_x, .inr (5, [.ref a_known, .ref a_so, .ref a_made, .ref a_pcl, .ref a_hi, .ref a_tx, .ref a_rd, .ref a_tb, .ref a_o])), (a_known, .inl (y 3, 6, .inr (.inr (.inr (.inr v_known))))), (a_so, .inl (y 4, 3, .inr (.inr (.inr (.inr (xO a_s 3)))))), xE a_s (y 0) 120 v_s 0, xE a_s (y 0) 120 v_s 1, xE a_s (y 0) 120 v_s 2, (a_hi, .inr (0, [.int f_hi_many, .int f_hi_next, .ref a_hl, .ref a_hfo])), (a_hl, .inl (y 0, 4, .inl v_hl)), (a_hfo, .inl (y 4, 4, .inr (.inr (.inr (.inr (xO a_hf 4)))))), xE a_hf (y 0) 360 v_hf 0, xE a_hf (y 0) 360 v_hf 1, xE a_hf (y 0) 360 v_hf 2, xE a_hf (y 0) 360 v_hf 3, (a_lo, .inr (1, [.int f_lo_n, .int f_lo_many, .int f_lo_sets, .ref a_lod, .ref a_lop, .ref a_loi, .ref a_lov, .ref a_lof, .ref a_lol, .ref a_lom, .ref a_low]))] H → va_D A [(a_x, .inr (5, [.ref a_known, .ref a_so, .ref a_made, .ref a_pcl, .ref a_hi, .ref a_tx, .ref a_rd, .ref a_tb, .ref a_o])), (a_known, .inl (y 3, 6, .inr (.inr (.inr (.inr v_known))))), (a_so, .inl (y 4, 3, .inr (.inr (.inr (.inr (xO a_s 3)))))), xE a_s (y 0) 120 v_s 0, xE a_s (y 0) 120 v_s 1, xE a_s (y 0) 120 v_s 2, (a_hi, .inr (0, [.int f_hi_many, .int f_hi_next, .ref a_hl, .ref a_hfo])), (a_hl, .inl (y 0, 4, .inl v_hl)), (a_hfo, .inl (y 4, 4, .inr (.inr (.inr (.inr (xO a_hf 4)))))), xE a_hf (y 0) 360 v_hf 0, xE a_hf (y 0) 360 v_hf 1, xE a_hf (y 0) 360 v_hf 2, xE a_hf (y 0) 360 v_hf 3, (a_lo, .inr (1, [.int f_lo_n, .int f_lo_many, .int f_lo_sets, .ref a_lod, .ref a_lop, .ref a_loi, .ref a_lov, .ref a_lof, .ref a_lol, .ref a_lom, .ref a_low]))] → va_S A s.heap H locs → lv_has ls 1 [(0, .ref a_x)] → κ v_s f_hi_many f_hi_next = some R → W p l e ({ frames := 2, cells := 0, slots := 0, locals := 62 } : Room) s m args below meth c H locs 0 0 (MQ below (va_Qi (fun (r : Int32) (_ : Unit) => r = R.1) (xB D y A [(a_x, .inr (5, [.ref a_known, .ref a_so, .ref a_made, .ref a_pcl, .ref a_hi, .ref a_tx, .ref a_rd, .ref a_tb, .ref a_o])), (a_known, .inl (y 3, 6, .inr (.inr (.inr (.inr v_known))))), (a_so, .inl (y 4, 3, .inr (.inr (.inr (.inr (xO a_s 3)))))), xE a_s (y 0) 120 R.2.1 0, xE a_s (y 0) 120 R.2.1 1, xE a_s (y 0) 120 R.2.1 2, (a_hi, .inr (0, [.int R.2.2.1, .int R.2.2.2, .ref a_hl, .ref a_hfo])), (a_hl, .inl (y 0, 4, .inl v_hl)), (a_hfo, .inl (y 4, 4, .inr (.inr (.inr (.inr (xO a_hf 4)))))), xE a_hf (y 0) 360 v_hf 0, xE a_hf (y 0) 360 v_hf 1, xE a_hf (y 0) 360 v_hf 2, xE a_hf (y 0) 360 v_hf 3, (a_lo, .inr (1, [.int f_lo_n, .int f_lo_many, .int f_lo_sets, .ref a_lod, .ref a_lop, .ref a_loi, .ref a_lov, .ref a_lof, .ref a_lol, .ref a_lom, .ref a_low]))]) A) args s 0 0 A) (F0 m 0 ls [])
set_option maxHeartbeats 4000000 in
set_option maxRecDepth 100000 in
theorem B_X5_undoH_0 {p : Program} {l : Launch} {e : Env} {s : State} {m : MethodId} {args : Array Value} {below : List Frame} {meth : Method} {c : Code} {A : Nat → Prop} {D : va_G} {y : Nat → ClassId} {a_x : Nat} {a_known : Nat} {a_so : Nat} {a_made : Nat} {a_pcl : Nat} {a_hi : Nat} {a_tx : Nat} {a_rd : Nat} {a_tb : Nat} {a_o : Nat} {a_s : Nat → Nat} {a_hl : Nat} {a_hfo : Nat} {a_hf : Nat → Nat} {a_lo : Nat} {a_lod : Nat} {a_lop : Nat} {a_loi : Nat} {a_lov : Nat} {a_lof : Nat} {a_lol : Nat} {a_lom : Nat} {a_low : Nat} {v_known : Nat → Option Nat} {v_hl : Nat → Int32} {v_hf : Nat → Nat → Int32} {f_lo_n : Int32} {f_lo_many : Int32} {f_lo_sets : Int32} {R : Int32 × (Nat → Nat → Int32) × Int32 × Int32} (C : xC p s m args meth c A cX5_undo RX5 wsX5_undo 1 (some .int) D y) (hk0 : ∀ q, F_X0_takeBack @TB@ = some q → v_known q.1.toNatClampNeg = some a_lo)  : S_X5_undoH_0 p l e s m args below meth c A D y a_x a_known a_so a_made a_pcl a_hi a_tx a_rd a_tb a_o a_s a_hl a_hfo a_hf a_lo a_lod a_lop a_loi a_lov a_lof a_lol a_lom a_low v_known v_hl v_hf f_lo_n f_lo_many f_lo_sets R (F_X5_undoH v_hl v_hf ) := by
  have C0 := C
  obtain ⟨hx, hb, hml, hown, hts, hr, hlocks, hK, hA⟩ := C
  intro v_s f_hi_many f_hi_next H locs ls hP hD hS hl hB
  unfold F_X5_undoH at hB
  refine lv_aload_n hx hb dX5_undo_0 rfl (lv_at hl 0 rfl) ?_
  refine va_get (D := D) (ci := 5) (v := .ref a_hi) (C := RX5) (T := TX5) (N := 9) hx hb hts kX5_undoH_wX5 hown hK hP 0 rfl rfl 4 (by decide) (hts _ kX5_undoH_f30) (fun _ h9 => h9) rfl dX5_undo_1 ?_
  refine va_get (D := D) (ci := 0) (v := .int f_hi_many) (C := RX0) (T := TX0) (N := 4) hx hb hts kX5_undoH_wX0 hown hK hP 6 rfl rfl 0 (by decide) (hts _ kX5_undoH_f187) (fun _ h9 => h9) rfl dX5_undo_4 ?_
  refine lv_if_ne (tgt := 13) hx hb dX5_undo_7 (by decide) (fun c1 => ?_) (fun c1 => ?_)
  · have hB := xin c1 hB
    refine lv_aload_n hx hb dX5_undo_13 rfl (lv_at hl 0 rfl) ?_
    refine lv_aload_n hx hb dX5_undo_14 rfl (lv_at hl 0 rfl) ?_
    refine lv_aload_n hx hb dX5_undo_15 rfl (lv_at hl 0 rfl) ?_
    refine va_get (D := D) (ci := 5) (v := .ref a_hi) (C := RX5) (T := TX5) (N := 9) hx hb hts kX5_undoH_wX5 hown hK hP 0 rfl rfl 4 (by decide) (hts _ kX5_undoH_f30) (fun _ h9 => h9) rfl dX5_undo_16 ?_
    refine lv_aload_n hx hb dX5_undo_19 rfl (lv_at hl 0 rfl) ?_
    refine va_get (D := D) (ci := 5) (v := .ref a_so) (C := RX5) (T := TX5) (N := 9) hx hb hts kX5_undoH_wX5 hown hK hP 0 rfl rfl 1 (by decide) (hts _ kX5_undoH_f17) (fun _ h9 => h9) rfl dX5_undo_20 ?_
    obtain ⟨q2, e2, hB⟩ := xbd hB
    have hPc := hP.sub (ws' := [(a_so, .inl (y 4, 3, .inr (.inr (.inr (.inr (xO a_s 3)))))), xE a_s (y 0) 120 v_s 0, xE a_s (y 0) 120 v_s 1, xE a_s (y 0) 120 v_s 2, (a_hi, .inr (0, [.int f_hi_many, .int f_hi_next, .ref a_hl, .ref a_hfo])), (a_hl, .inl (y 0, 4, .inl v_hl)), (a_hfo, .inl (y 4, 4, .inr (.inr (.inr (.inr (xO a_hf 4)))))), xE a_hf (y 0) 360 v_hf 0, xE a_hf (y 0) 360 v_hf 1, xE a_hf (y 0) 360 v_hf 2, xE a_hf (y 0) 360 v_hf 3]) [2, 3, 4, 5, 6, 7, 8, 9, 10, 11, 12] rfl
    have hDc := hD.sub (ws' := [(a_so, .inl (y 4, 3, .inr (.inr (.inr (.inr (xO a_s 3)))))), xE a_s (y 0) 120 v_s 0, xE a_s (y 0) 120 v_s 1, xE a_s (y 0) 120 v_s 2, (a_hi, .inr (0, [.int f_hi_many, .int f_hi_next, .ref a_hl, .ref a_hfo])), (a_hl, .inl (y 0, 4, .inl v_hl)), (a_hfo, .inl (y 4, 4, .inr (.inr (.inr (.inr (xO a_hf 4)))))), xE a_hf (y 0) 360 v_hf 0, xE a_hf (y 0) 360 v_hf 1, xE a_hf (y 0) 360 v_hf 2, xE a_hf (y 0) 360 v_hf 3]) [2, 3, 4, 5, 6, 7, 8, 9, 10, 11, 12] (by decide) rfl
    refine xcalli (mc := 0) (ms := 0) (rv := q2.1) (wc := [(a_so, .inl (y 4, 3, .inr (.inr (.inr (.inr (xO a_s 3)))))), xE a_s (y 0) 120 v_s 0, xE a_s (y 0) 120 v_s 1, xE a_s (y 0) 120 v_s 2, (a_hi, .inr (0, [.int f_hi_many, .int f_hi_next, .ref a_hl, .ref a_hfo])), (a_hl, .inl (y 0, 4, .inl v_hl)), (a_hfo, .inl (y 4, 4, .inr (.inr (.inr (.inr (xO a_hf 4)))))), xE a_hf (y 0) 360 v_hf 0, xE a_hf (y 0) 360 v_hf 1, xE a_hf (y 0) 360 v_hf 2, xE a_hf (y 0) 360 v_hf 3]) (wr := [(a_x, .inr (5, [.ref a_known, .ref a_so, .ref a_made, .ref a_pcl, .ref a_hi, .ref a_tx, .ref a_rd, .ref a_tb, .ref a_o])), (a_known, .inl (y 3, 6, .inr (.inr (.inr (.inr v_known))))), (a_lo, .inr (1, [.int f_lo_n, .int f_lo_many, .int f_lo_sets, .ref a_lod, .ref a_lop, .ref a_loi, .ref a_lov, .ref a_lof, .ref a_lol, .ref a_lom, .ref a_low]))]) (w1 := [(a_so, .inl (y 4, 3, .inr (.inr (.inr (.inr (xO a_s 3)))))), xE a_s (y 0) 120 q2.2.1 0, xE a_s (y 0) 120 q2.2.1 1, xE a_s (y 0) 120 q2.2.1 2, (a_hi, .inr (0, [.int q2.2.2.1, .int q2.2.2.2, .ref a_hl, .ref a_hfo])), (a_hl, .inl (y 0, 4, .inl v_hl)), (a_hfo, .inl (y 4, 4, .inr (.inr (.inr (.inr (xO a_hf 4)))))), xE a_hf (y 0) 360 v_hf 0, xE a_hf (y 0) 360 v_hf 1, xE a_hf (y 0) 360 v_hf 2, xE a_hf (y 0) 360 v_hf 3]) (wf := [(a_x, .inr (5, [.ref a_known, .ref a_so, .ref a_made, .ref a_pcl, .ref a_hi, .ref a_tx, .ref a_rd, .ref a_tb, .ref a_o])), (a_known, .inl (y 3, 6, .inr (.inr (.inr (.inr v_known))))), (a_so, .inl (y 4, 3, .inr (.inr (.inr (.inr (xO a_s 3)))))), xE a_s (y 0) 120 q2.2.1 0, xE a_s (y 0) 120 q2.2.1 1, xE a_s (y 0) 120 q2.2.1 2, (a_hi, .inr (0, [.int q2.2.2.1, .int q2.2.2.2, .ref a_hl, .ref a_hfo])), (a_hl, .inl (y 0, 4, .inl v_hl)), (a_hfo, .inl (y 4, 4, .inr (.inr (.inr (.inr (xO a_hf 4)))))), xE a_hf (y 0) 360 v_hf 0, xE a_hf (y 0) 360 v_hf 1, xE a_hf (y 0) 360 v_hf 2, xE a_hf (y 0) 360 v_hf 3, (a_lo, .inr (1, [.int f_lo_n, .int f_lo_many, .int f_lo_sets, .ref a_lod, .ref a_lop, .ref a_loi, .ref a_lov, .ref a_lof, .ref a_lol, .ref a_lom, .ref a_low]))]) (va_runV (As := [.ref a_so]) (rest := [.ref a_x, .ref a_x]) ⟨hx, hb, hml, hown, hts⟩ (c_X0_takeBack l D y a_so a_s a_hi a_hl a_hfo a_hf v_s f_hi_many f_hi_next v_hl v_hf H.size e2) (cwV 1 hts gX5_undo_X0_takeBack rfl rfl rfl (by decide +kernel) ⟨Nat.le_of_ble_eq_true rfl, Nat.le_of_ble_eq_true rfl⟩) ⟨xblind, va_recv hK hP (ci := 0) (q0 := 6) rfl rfl, xprev hPc hK hDc⟩ rfl rfl hl.1 rfl (lv_room (Nat.le_of_ble_eq_true rfl)) dX5_undo_23 ⟨Nat.le_of_ble_eq_true rfl, Nat.le_of_ble_eq_true rfl⟩) hP hD hS hA [2, 3, 4, 5, 6, 7, 8, 9, 10, 11, 12] [0, 1, 13] [0, 1, 3, 4, 5, 6, 7, 8, 9, 10, 11, 12, 13, 2] rfl rfl (by decide) (by decide) rfl (by decide) (fun H locs hP hD hS => ?_)
    obtain ⟨q3, e3, hB⟩ := xbd hB
    have hPc := hP.sub (ws' := [(a_x, .inr (5, [.ref a_known, .ref a_so, .ref a_made, .ref a_pcl, .ref a_hi, .ref a_tx, .ref a_rd, .ref a_tb, .ref a_o])), (a_known, .inl (y 3, 6, .inr (.inr (.inr (.inr v_known)))))]) [0, 1] rfl
    have hDc := hD.sub (ws' := [(a_x, .inr (5, [.ref a_known, .ref a_so, .ref a_made, .ref a_pcl, .ref a_hi, .ref a_tx, .ref a_rd, .ref a_tb, .ref a_o])), (a_known, .inl (y 3, 6, .inr (.inr (.inr (.inr v_known)))))]) [0, 1] (by decide) rfl
    refine xcallr (mc := 0) (ms := 0) (wc := [(a_x, .inr (5, [.ref a_known, .ref a_so, .ref a_made, .ref a_pcl, .ref a_hi, .ref a_tx, .ref a_rd, .ref a_tb, .ref a_o])), (a_known, .inl (y 3, 6, .inr (.inr (.inr (.inr v_known)))))]) (wr := [(a_so, .inl (y 4, 3, .inr (.inr (.inr (.inr (xO a_s 3)))))), xE a_s (y 0) 120 q2.2.1 0, xE a_s (y 0) 120 q2.2.1 1, xE a_s (y 0) 120 q2.2.1 2, (a_hi, .inr (0, [.int q2.2.2.1, .int q2.2.2.2, .ref a_hl, .ref a_hfo])), (a_hl, .inl (y 0, 4, .inl v_hl)), (a_hfo, .inl (y 4, 4, .inr (.inr (.inr (.inr (xO a_hf 4)))))), xE a_hf (y 0) 360 v_hf 0, xE a_hf (y 0) 360 v_hf 1, xE a_hf (y 0) 360 v_hf 2, xE a_hf (y 0) 360 v_hf 3, (a_lo, .inr (1, [.int f_lo_n, .int f_lo_many, .int f_lo_sets, .ref a_lod, .ref a_lop, .ref a_loi, .ref a_lov, .ref a_lof, .ref a_lol, .ref a_lom, .ref a_low]))]) (w1 := [(a_x, .inr (5, [.ref a_known, .ref a_so, .ref a_made, .ref a_pcl, .ref a_hi, .ref a_tx, .ref a_rd, .ref a_tb, .ref a_o])), (a_known, .inl (y 3, 6, .inr (.inr (.inr (.inr v_known)))))]) (wf := [(a_x, .inr (5, [.ref a_known, .ref a_so, .ref a_made, .ref a_pcl, .ref a_hi, .ref a_tx, .ref a_rd, .ref a_tb, .ref a_o])), (a_known, .inl (y 3, 6, .inr (.inr (.inr (.inr v_known))))), (a_so, .inl (y 4, 3, .inr (.inr (.inr (.inr (xO a_s 3)))))), xE a_s (y 0) 120 q2.2.1 0, xE a_s (y 0) 120 q2.2.1 1, xE a_s (y 0) 120 q2.2.1 2, (a_hi, .inr (0, [.int q2.2.2.1, .int q2.2.2.2, .ref a_hl, .ref a_hfo])), (a_hl, .inl (y 0, 4, .inl v_hl)), (a_hfo, .inl (y 4, 4, .inr (.inr (.inr (.inr (xO a_hf 4)))))), xE a_hf (y 0) 360 v_hf 0, xE a_hf (y 0) 360 v_hf 1, xE a_hf (y 0) 360 v_hf 2, xE a_hf (y 0) 360 v_hf 3, (a_lo, .inr (1, [.int f_lo_n, .int f_lo_many, .int f_lo_sets, .ref a_lod, .ref a_lop, .ref a_loi, .ref a_lov, .ref a_lof, .ref a_lol, .ref a_lom, .ref a_low]))]) (va_runV (As := [.int q2.1]) (rest := [.ref a_x]) ⟨hx, hb, hml, hown, hts⟩ (c_X5_ordersWithH l D y a_lo a_x a_known a_so a_made a_pcl a_hi a_tx a_rd a_tb a_o v_known q2.1 H.size (hk0 _ e2) e3) (cwV 1 hts gX5_undo_X5_ordersWith rfl rfl rfl (by decide +kernel) ⟨Nat.le_of_ble_eq_true rfl, Nat.le_of_ble_eq_true rfl⟩) ⟨xblind, va_recv hK hP (ci := 5) (q0 := 0) rfl rfl, xprev hPc hK hDc⟩ rfl rfl hl.1 rfl (lv_room (Nat.le_of_ble_eq_true rfl)) dX5_undo_26 ⟨Nat.le_of_ble_eq_true rfl, Nat.le_of_ble_eq_true rfl⟩) hP hD hS hA [0, 1] [2, 3, 4, 5, 6, 7, 8, 9, 10, 11, 12, 13] [12, 13, 0, 1, 2, 3, 4, 5, 6, 7, 8, 9, 10, 11] rfl rfl (by decide) (by decide) rfl (by decide) (fun H locs hP hD hS => ?_)
    refine va_put (D := D) (ci := 5) (v := .ref a_lo) (ty := tyX5 8) (C := RX5) (T := TX5) (N := 9) hx hb hts kX5_undoH_wX5 tyX5 tyX5_ok nmX5 hown hK hP hD hS 0 rfl rfl 8 (by decide) (hts _ kX5_undoH_f59) (fun _ h9 => h9) rfl (by decide +kernel) rfl rfl (Nat.le_of_ble_eq_true rfl) dX5_undo_29 (fun H locs hP hD hS => ?_)
    have hP : va_P D vwCl [(a_x, .inr (5, [.ref a_known, .ref a_so, .ref a_made, .ref a_pcl, .ref a_hi, .ref a_tx, .ref a_rd, .ref a_tb, .ref a_lo])), (a_known, .inl (y 3, 6, .inr (.inr (.inr (.inr v_known))))), (a_so, .inl (y 4, 3, .inr (.inr (.inr (.inr (xO a_s 3)))))), xE a_s (y 0) 120 q2.2.1 0, xE a_s (y 0) 120 q2.2.1 1, xE a_s (y 0) 120 q2.2.1 2, (a_hi, .inr (0, [.int q2.2.2.1, .int q2.2.2.2, .ref a_hl, .ref a_hfo])), (a_hl, .inl (y 0, 4, .inl v_hl)), (a_hfo, .inl (y 4, 4, .inr (.inr (.inr (.inr (xO a_hf 4)))))), xE a_hf (y 0) 360 v_hf 0, xE a_hf (y 0) 360 v_hf 1, xE a_hf (y 0) 360 v_hf 2, xE a_hf (y 0) 360 v_hf 3, (a_lo, .inr (1, [.int f_lo_n, .int f_lo_many, .int f_lo_sets, .ref a_lod, .ref a_lop, .ref a_loi, .ref a_lov, .ref a_lof, .ref a_lol, .ref a_lom, .ref a_low]))] H := hP
    have hD : va_D A [(a_x, .inr (5, [.ref a_known, .ref a_so, .ref a_made, .ref a_pcl, .ref a_hi, .ref a_tx, .ref a_rd, .ref a_tb, .ref a_lo])), (a_known, .inl (y 3, 6, .inr (.inr (.inr (.inr v_known))))), (a_so, .inl (y 4, 3, .inr (.inr (.inr (.inr (xO a_s 3)))))), xE a_s (y 0) 120 q2.2.1 0, xE a_s (y 0) 120 q2.2.1 1, xE a_s (y 0) 120 q2.2.1 2, (a_hi, .inr (0, [.int q2.2.2.1, .int q2.2.2.2, .ref a_hl, .ref a_hfo])), (a_hl, .inl (y 0, 4, .inl v_hl)), (a_hfo, .inl (y 4, 4, .inr (.inr (.inr (.inr (xO a_hf 4)))))), xE a_hf (y 0) 360 v_hf 0, xE a_hf (y 0) 360 v_hf 1, xE a_hf (y 0) 360 v_hf 2, xE a_hf (y 0) 360 v_hf 3, (a_lo, .inr (1, [.int f_lo_n, .int f_lo_many, .int f_lo_sets, .ref a_lod, .ref a_lop, .ref a_loi, .ref a_lov, .ref a_lof, .ref a_lol, .ref a_lom, .ref a_low]))] := hD
    refine lv_aload_n hx hb dX5_undo_32 rfl (lv_at hl 0 rfl) ?_
    refine va_get (D := D) (ci := 5) (v := .ref a_hi) (C := RX5) (T := TX5) (N := 9) hx hb hts kX5_undoH_wX5 hown hK hP 0 rfl rfl 4 (by decide) (hts _ kX5_undoH_f30) (fun _ h9 => h9) rfl dX5_undo_33 ?_
    refine va_get (D := D) (ci := 0) (v := .int q2.2.2.1) (C := RX0) (T := TX0) (N := 4) hx hb hts kX5_undoH_wX0 hown hK hP 6 rfl rfl 0 (by decide) (hts _ kX5_undoH_f187) (fun _ h9 => h9) rfl dX5_undo_36 ?_
    have hB := Option.some.inj hB
    subst hB
    exact W.iret hx hb hr (fun t ht hW => ⟨⟨_, (), rfl, rfl, by rw [ht]; exact hP, va_K.moved hW.alike hK, hD⟩, hS.F ht⟩) hS.2.2 dX5_undo_39 hlocks
  · have hB := xip c1 hB
    refine lv_ldc (v := -10000002) hx hb hown (hts _ kX5_undoH_c191) dX5_undo_10 ?_
    have hB := Option.some.inj hB
    subst hB
    exact W.iret hx hb hr (fun t ht hW => ⟨⟨_, (), rfl, rfl, by rw [ht]; exact hP, va_K.moved hW.alike hK, hD⟩, hS.F ht⟩) hS.2.2 dX5_undo_12 hlocks
set_option maxHeartbeats 4000000 in
set_option maxRecDepth 100000 in
theorem c_X5_undoH (l : Launch) (D : va_G) (y : Nat → ClassId) (a_x : Nat) (a_known : Nat) (a_so : Nat) (a_made : Nat) (a_pcl : Nat) (a_hi : Nat) (a_tx : Nat) (a_rd : Nat) (a_tb : Nat) (a_o : Nat) (a_s : Nat → Nat) (a_hl : Nat) (a_hfo : Nat) (a_hf : Nat → Nat) (a_lo : Nat) (a_lod : Nat) (a_lop : Nat) (a_loi : Nat) (a_lov : Nat) (a_lof : Nat) (a_lol : Nat) (a_lom : Nat) (a_low : Nat)  (v_known : Nat → Option Nat) (v_s : Nat → Nat → Int32) (f_hi_many : Int32) (f_hi_next : Int32) (v_hl : Nat → Int32) (v_hf : Nat → Nat → Int32) (f_lo_n : Int32) (f_lo_many : Int32) (f_lo_sets : Int32)  (sz : Nat) {R : Int32 × (Nat → Nat → Int32) × Int32 × Int32} (hk0 : ∀ q, F_X0_takeBack @TB@ = some q → v_known q.1.toNatClampNeg = some a_lo) (hF : F_X5_undoH v_hl v_hf v_s f_hi_many f_hi_next = some R) : Met l yX5_undo wsX5_undo ({ frames := 2, cells := 0, slots := 0, locals := 62 } : Room) (xPre D y sz [.ref a_x] [(a_x, .inr (5, [.ref a_known, .ref a_so, .ref a_made, .ref a_pcl, .ref a_hi, .ref a_tx, .ref a_rd, .ref a_tb, .ref a_o])), (a_known, .inl (y 3, 6, .inr (.inr (.inr (.inr v_known))))), (a_so, .inl (y 4, 3, .inr (.inr (.inr (.inr (xO a_s 3)))))), xE a_s (y 0) 120 v_s 0, xE a_s (y 0) 120 v_s 1, xE a_s (y 0) 120 v_s 2, (a_hi, .inr (0, [.int f_hi_many, .int f_hi_next, .ref a_hl, .ref a_hfo])), (a_hl, .inl (y 0, 4, .inl v_hl)), (a_hfo, .inl (y 4, 4, .inr (.inr (.inr (.inr (xO a_hf 4)))))), xE a_hf (y 0) 360 v_hf 0, xE a_hf (y 0) 360 v_hf 1, xE a_hf (y 0) 360 v_hf 2, xE a_hf (y 0) 360 v_hf 3, (a_lo, .inr (1, [.int f_lo_n, .int f_lo_many, .int f_lo_sets, .ref a_lod, .ref a_lop, .ref a_loi, .ref a_lov, .ref a_lof, .ref a_lol, .ref a_lom, .ref a_low]))]) (va_Qi (fun (r : Int32) (_ : Unit) => r = R.1) (xB D y (va_A [(a_x, .inr (5, [.ref a_known, .ref a_so, .ref a_made, .ref a_pcl, .ref a_hi, .ref a_tx, .ref a_rd, .ref a_tb, .ref a_o])), (a_known, .inl (y 3, 6, .inr (.inr (.inr (.inr v_known))))), (a_so, .inl (y 4, 3, .inr (.inr (.inr (.inr (xO a_s 3)))))), xE a_s (y 0) 120 v_s 0, xE a_s (y 0) 120 v_s 1, xE a_s (y 0) 120 v_s 2, (a_hi, .inr (0, [.int f_hi_many, .int f_hi_next, .ref a_hl, .ref a_hfo])), (a_hl, .inl (y 0, 4, .inl v_hl)), (a_hfo, .inl (y 4, 4, .inr (.inr (.inr (.inr (xO a_hf 4)))))), xE a_hf (y 0) 360 v_hf 0, xE a_hf (y 0) 360 v_hf 1, xE a_hf (y 0) 360 v_hf 2, xE a_hf (y 0) 360 v_hf 3, (a_lo, .inr (1, [.int f_lo_n, .int f_lo_many, .int f_lo_sets, .ref a_lod, .ref a_lop, .ref a_loi, .ref a_lov, .ref a_lof, .ref a_lol, .ref a_lom, .ref a_low]))] sz) [(a_x, .inr (5, [.ref a_known, .ref a_so, .ref a_made, .ref a_pcl, .ref a_hi, .ref a_tx, .ref a_rd, .ref a_tb, .ref a_o])), (a_known, .inl (y 3, 6, .inr (.inr (.inr (.inr v_known))))), (a_so, .inl (y 4, 3, .inr (.inr (.inr (.inr (xO a_s 3)))))), xE a_s (y 0) 120 R.2.1 0, xE a_s (y 0) 120 R.2.1 1, xE a_s (y 0) 120 R.2.1 2, (a_hi, .inr (0, [.int R.2.2.1, .int R.2.2.2, .ref a_hl, .ref a_hfo])), (a_hl, .inl (y 0, 4, .inl v_hl)), (a_hfo, .inl (y 4, 4, .inr (.inr (.inr (.inr (xO a_hf 4)))))), xE a_hf (y 0) 360 v_hf 0, xE a_hf (y 0) 360 v_hf 1, xE a_hf (y 0) 360 v_hf 2, xE a_hf (y 0) 360 v_hf 3, (a_lo, .inr (1, [.int f_lo_n, .int f_lo_many, .int f_lo_sets, .ref a_lod, .ref a_lop, .ref a_loi, .ref a_lov, .ref a_lof, .ref a_lol, .ref a_lom, .ref a_low]))]) (va_A [(a_x, .inr (5, [.ref a_known, .ref a_so, .ref a_made, .ref a_pcl, .ref a_hi, .ref a_tx, .ref a_rd, .ref a_tb, .ref a_o])), (a_known, .inl (y 3, 6, .inr (.inr (.inr (.inr v_known))))), (a_so, .inl (y 4, 3, .inr (.inr (.inr (.inr (xO a_s 3)))))), xE a_s (y 0) 120 v_s 0, xE a_s (y 0) 120 v_s 1, xE a_s (y 0) 120 v_s 2, (a_hi, .inr (0, [.int f_hi_many, .int f_hi_next, .ref a_hl, .ref a_hfo])), (a_hl, .inl (y 0, 4, .inl v_hl)), (a_hfo, .inl (y 4, 4, .inr (.inr (.inr (.inr (xO a_hf 4)))))), xE a_hf (y 0) 360 v_hf 0, xE a_hf (y 0) 360 v_hf 1, xE a_hf (y 0) 360 v_hf 2, xE a_hf (y 0) 360 v_hf 3, (a_lo, .inr (1, [.int f_lo_n, .int f_lo_many, .int f_lo_sets, .ref a_lod, .ref a_lop, .ref a_loi, .ref a_lov, .ref a_lof, .ref a_lol, .ref a_lom, .ref a_low]))] sz)) 0 0 (va_A [(a_x, .inr (5, [.ref a_known, .ref a_so, .ref a_made, .ref a_pcl, .ref a_hi, .ref a_tx, .ref a_rd, .ref a_tb, .ref a_o])), (a_known, .inl (y 3, 6, .inr (.inr (.inr (.inr v_known))))), (a_so, .inl (y 4, 3, .inr (.inr (.inr (.inr (xO a_s 3)))))), xE a_s (y 0) 120 v_s 0, xE a_s (y 0) 120 v_s 1, xE a_s (y 0) 120 v_s 2, (a_hi, .inr (0, [.int f_hi_many, .int f_hi_next, .ref a_hl, .ref a_hfo])), (a_hl, .inl (y 0, 4, .inl v_hl)), (a_hfo, .inl (y 4, 4, .inr (.inr (.inr (.inr (xO a_hf 4)))))), xE a_hf (y 0) 360 v_hf 0, xE a_hf (y 0) 360 v_hf 1, xE a_hf (y 0) 360 v_hf 2, xE a_hf (y 0) 360 v_hf 3, (a_lo, .inr (1, [.int f_lo_n, .int f_lo_many, .int f_lo_sets, .ref a_lod, .ref a_lop, .ref a_loi, .ref a_lov, .ref a_lof, .ref a_lol, .ref a_lom, .ref a_low]))] sz) := by
  refine Met.ofW (cc := cX5_undo) (maxL := 1) (ret := (some .int)) (by decide) rfl ?_
  intro p e s m args below meth c s₁ B hml hv
  obtain ⟨rfl, hsz, hP, hK, hD0⟩ := hv
  subst hsz
  have hD := hD0.self (sz := s.heap.size)
  have C : xC p s m [.ref a_x].toArray meth c (va_A [(a_x, .inr (5, [.ref a_known, .ref a_so, .ref a_made, .ref a_pcl, .ref a_hi, .ref a_tx, .ref a_rd, .ref a_tb, .ref a_o])), (a_known, .inl (y 3, 6, .inr (.inr (.inr (.inr v_known))))), (a_so, .inl (y 4, 3, .inr (.inr (.inr (.inr (xO a_s 3)))))), xE a_s (y 0) 120 v_s 0, xE a_s (y 0) 120 v_s 1, xE a_s (y 0) 120 v_s 2, (a_hi, .inr (0, [.int f_hi_many, .int f_hi_next, .ref a_hl, .ref a_hfo])), (a_hl, .inl (y 0, 4, .inl v_hl)), (a_hfo, .inl (y 4, 4, .inr (.inr (.inr (.inr (xO a_hf 4)))))), xE a_hf (y 0) 360 v_hf 0, xE a_hf (y 0) 360 v_hf 1, xE a_hf (y 0) 360 v_hf 2, xE a_hf (y 0) 360 v_hf 3, (a_lo, .inr (1, [.int f_lo_n, .int f_lo_many, .int f_lo_sets, .ref a_lod, .ref a_lop, .ref a_loi, .ref a_lov, .ref a_lof, .ref a_lol, .ref a_lom, .ref a_low]))] s.heap.size) cX5_undo RX5 wsX5_undo 1 (some .int) D y := ⟨B.exec, B.bytes, hml, findClass_of_methodNamed B.named, atoms_spec (ws := wsX5_undo) B.pre, B.returns, B.notSynchronized, hK, fun q h => Or.inr h⟩
  have hl := lv_entry ([.ref a_x]) (n := 1) (Nat.le_of_ble_eq_true rfl)
  rw [lg_entry_eq]
  generalize (lg_sl ([.ref a_x]) ++ List.replicate (1 - (lg_sl ([.ref a_x])).length) Slot.unset).toArray = ls at hl ⊢
  have hl : lv_has ls 1 [(0, .ref a_x)] := hl
  exact B_X5_undoH_0 C hk0 v_s f_hi_many f_hi_next s.heap [] ls hP hD va_S.rf hl hF
theorem kX2_isFull_f7 : Cond.fieldLink RX2 7 "DescentShuffles$SumText" "length" "I" ∈ wsX2_isFull := by decide +kernel
theorem kX2_isFull_wX2 : ∀ w ∈ u_ws RX2 TX2 2, w ∈ wsX2_isFull := by decide +kernel
def S_X2_isFull_0 (p : Program) (l : Launch) (e : Env) (s : State) (m : MethodId) (args : Array Value) (below : List Frame) (meth : Method) (c : Code) (A : Nat → Prop) (D : va_G) (y : Nat → ClassId) (a_tx : Nat) (a_tg : Nat) (f_tx_length : Int32) (R : Int32) (κ : Option (Int32)) : Prop := ∀ (H : Heap) (locs : List Loc) (ls : Array Slot), va_P D vwCl [(a_tx, .inr (2, [.int f_tx_length, .ref a_tg]))] H → va_D A [(a_tx, .inr (2, [.int f_tx_length, .ref a_tg]))] → va_S A s.heap H locs → lv_has ls 1 [(0, .ref a_tx)] → κ = some R → W p l e ({ frames := 0, cells := 0, slots := 0, locals := 0 } : Room) s m args below meth c H locs 0 0 (MQ below (va_Qi (fun (r : Int32) (_ : Unit) => r = R) (xB D y A [(a_tx, .inr (2, [.int f_tx_length, .ref a_tg]))]) A) args s 0 0 A) (F0 m 0 ls [])
set_option maxHeartbeats 4000000 in
set_option maxRecDepth 100000 in
theorem B_X2_isFull_0 {p : Program} {l : Launch} {e : Env} {s : State} {m : MethodId} {args : Array Value} {below : List Frame} {meth : Method} {c : Code} {A : Nat → Prop} {D : va_G} {y : Nat → ClassId} {a_tx : Nat} {a_tg : Nat} {f_tx_length : Int32} {R : Int32} (C : xC p s m args meth c A cX2_isFull RX2 wsX2_isFull 1 (some .boolean) D y)  : S_X2_isFull_0 p l e s m args below meth c A D y a_tx a_tg f_tx_length R (F_X2_isFull f_tx_length ) := by
  have C0 := C
  obtain ⟨hx, hb, hml, hown, hts, hr, hlocks, hK, hA⟩ := C
  intro H locs ls hP hD hS hl hB
  unfold F_X2_isFull at hB
  refine lv_aload_n hx hb dX2_isFull_0 rfl (lv_at hl 0 rfl) ?_
  refine va_get (D := D) (ci := 2) (v := .int f_tx_length) (C := RX2) (T := TX2) (N := 2) hx hb hts kX2_isFull_wX2 hown hK hP 0 rfl rfl 0 (by decide) (hts _ kX2_isFull_f7) (fun _ h9 => h9) rfl dX2_isFull_1 ?_
  refine lv_bipush (v := 60) hx hb dX2_isFull_4 (by decide) ?_
  refine lv_icmp_lt (tgt := 13) hx hb dX2_isFull_6 (by decide) (fun c1 => ?_) (fun c1 => ?_)
  · have hB := xip c1 hB
    refine lv_iconst (v := 0) hx hb dX2_isFull_13 (by decide) ?_
    have hB := Option.some.inj hB
    subst hB
    exact W.zret hx hb hr (by decide) (fun t ht hW => ⟨⟨_, (), rfl, rfl, by rw [ht]; exact hP, va_K.moved hW.alike hK, hD⟩, hS.F ht⟩) hS.2.2 dX2_isFull_14 hlocks
  · have hB := xin c1 hB
    refine lv_iconst (v := 1) hx hb dX2_isFull_9 (by decide) ?_
    refine lv_goto (tgt := 14) hx hb dX2_isFull_10 (by decide) ?_
    have hB := Option.some.inj hB
    subst hB
    exact W.zret hx hb hr (by decide) (fun t ht hW => ⟨⟨_, (), rfl, rfl, by rw [ht]; exact hP, va_K.moved hW.alike hK, hD⟩, hS.F ht⟩) hS.2.2 dX2_isFull_14 hlocks
set_option maxHeartbeats 4000000 in
set_option maxRecDepth 100000 in
theorem c_X2_isFull (l : Launch) (D : va_G) (y : Nat → ClassId) (a_tx : Nat) (a_tg : Nat)  (f_tx_length : Int32)  (sz : Nat) {R : Int32} (hF : F_X2_isFull f_tx_length = some R) : Met l yX2_isFull wsX2_isFull ({ frames := 0, cells := 0, slots := 0, locals := 0 } : Room) (xPre D y sz [.ref a_tx] [(a_tx, .inr (2, [.int f_tx_length, .ref a_tg]))]) (va_Qi (fun (r : Int32) (_ : Unit) => r = R) (xB D y (va_A [(a_tx, .inr (2, [.int f_tx_length, .ref a_tg]))] sz) [(a_tx, .inr (2, [.int f_tx_length, .ref a_tg]))]) (va_A [(a_tx, .inr (2, [.int f_tx_length, .ref a_tg]))] sz)) 0 0 (va_A [(a_tx, .inr (2, [.int f_tx_length, .ref a_tg]))] sz) := by
  refine Met.ofW (cc := cX2_isFull) (maxL := 1) (ret := (some .boolean)) (by decide) rfl ?_
  intro p e s m args below meth c s₁ B hml hv
  obtain ⟨rfl, hsz, hP, hK, hD0⟩ := hv
  subst hsz
  have hD := hD0.self (sz := s.heap.size)
  have C : xC p s m [.ref a_tx].toArray meth c (va_A [(a_tx, .inr (2, [.int f_tx_length, .ref a_tg]))] s.heap.size) cX2_isFull RX2 wsX2_isFull 1 (some .boolean) D y := ⟨B.exec, B.bytes, hml, findClass_of_methodNamed B.named, atoms_spec (ws := wsX2_isFull) B.pre, B.returns, B.notSynchronized, hK, fun q h => Or.inr h⟩
  have hl := lv_entry ([.ref a_tx]) (n := 1) (Nat.le_of_ble_eq_true rfl)
  rw [lg_entry_eq]
  generalize (lg_sl ([.ref a_tx]) ++ List.replicate (1 - (lg_sl ([.ref a_tx])).length) Slot.unset).toArray = ls at hl ⊢
  have hl : lv_has ls 1 [(0, .ref a_tx)] := hl
  exact B_X2_isFull_0 C  s.heap [] ls hP hD va_S.rf hl hF
theorem kX2_append_f13 : Cond.fieldLink RX2 13 "DescentShuffles$SumText" "signs" "[C" ∈ wsX2_append := by decide +kernel
theorem kX2_append_wX2 : ∀ w ∈ u_ws RX2 TX2 2, w ∈ wsX2_append := by decide +kernel
theorem kX2_append_f7 : Cond.fieldLink RX2 7 "DescentShuffles$SumText" "length" "I" ∈ wsX2_append := by decide +kernel
def S_X2_append_0 (p : Program) (l : Launch) (e : Env) (s : State) (m : MethodId) (args : Array Value) (below : List Frame) (meth : Method) (c : Code) (A : Nat → Prop) (D : va_G) (y : Nat → ClassId) (a_tx : Nat) (a_tg : Nat) (p1 : Int32) (R : Int32 × (Nat → Int32)) (κ : Int32 → (Nat → Int32) → Option (Int32 × (Nat → Int32))) : Prop := ∀ (f_tx_length : Int32) (v_tg : Nat → Int32) (H : Heap) (locs : List Loc) (ls : Array Slot), va_P D vwCl [(a_tx, .inr (2, [.int f_tx_length, .ref a_tg])), (a_tg, .inl (y 2, 60, .inl v_tg))] H → va_D A [(a_tx, .inr (2, [.int f_tx_length, .ref a_tg])), (a_tg, .inl (y 2, 60, .inl v_tg))] → va_S A s.heap H locs → lv_has ls 2 [(0, .ref a_tx), (1, .int p1)] → κ f_tx_length v_tg = some R → W p l e ({ frames := 0, cells := 0, slots := 0, locals := 0 } : Room) s m args below meth c H locs 0 0 (MQ below (va_Qv (fun (_ : Unit) => True) (xB D y A [(a_tx, .inr (2, [.int R.1, .ref a_tg])), (a_tg, .inl (y 2, 60, .inl R.2))]) A) args s 0 0 A) (F0 m 0 ls [])
set_option maxHeartbeats 4000000 in
set_option maxRecDepth 100000 in
theorem B_X2_append_0 {p : Program} {l : Launch} {e : Env} {s : State} {m : MethodId} {args : Array Value} {below : List Frame} {meth : Method} {c : Code} {A : Nat → Prop} {D : va_G} {y : Nat → ClassId} {a_tx : Nat} {a_tg : Nat} {p1 : Int32} {R : Int32 × (Nat → Int32)} (C : xC p s m args meth c A cX2_append RX2 wsX2_append 2 none D y)  : S_X2_append_0 p l e s m args below meth c A D y a_tx a_tg p1 R (F_X2_append p1 ) := by
  have C0 := C
  obtain ⟨hx, hb, hml, hown, hts, hr, hlocks, hK, hA⟩ := C
  intro f_tx_length v_tg H locs ls hP hD hS hl hB
  unfold F_X2_append at hB
  refine lv_aload_n hx hb dX2_append_0 rfl (lv_at hl 0 rfl) ?_
  refine va_get (D := D) (ci := 2) (v := .ref a_tg) (C := RX2) (T := TX2) (N := 2) hx hb hts kX2_append_wX2 hown hK hP 0 rfl rfl 1 (by decide) (hts _ kX2_append_f13) (fun _ h9 => h9) rfl dX2_append_1 ?_
  refine lv_aload_n hx hb dX2_append_4 rfl (lv_at hl 0 rfl) ?_
  refine va_get (D := D) (ci := 2) (v := .int f_tx_length) (C := RX2) (T := TX2) (N := 2) hx hb hts kX2_append_wX2 hown hK hP 0 rfl rfl 0 (by decide) (hts _ kX2_append_f7) (fun _ h9 => h9) rfl dX2_append_5 ?_
  refine lv_iload_n hx hb dX2_append_8 rfl (lv_at hl 1 rfl) ?_
  obtain ⟨g1, hB⟩ := xg_some hB
  refine va_cast hx hb hK hP hD hS 1 2 rfl rfl g1 dX2_append_9 (fun H locs hP hD hS => ?_)
  have hP : va_P D vwCl [(a_tx, .inr (2, [.int f_tx_length, .ref a_tg])), (a_tg, .inl (y 2, 60, .inl (upd v_tg f_tx_length.toNatClampNeg (vp_nar .char p1))))] H := hP
  have hD : va_D A [(a_tx, .inr (2, [.int f_tx_length, .ref a_tg])), (a_tg, .inl (y 2, 60, .inl (upd v_tg f_tx_length.toNatClampNeg (vp_nar .char p1))))] := hD
  refine lv_aload_n hx hb dX2_append_10 rfl (lv_at hl 0 rfl) ?_
  refine lv_dup hx hb dX2_append_11 rfl ?_
  refine va_get (D := D) (ci := 2) (v := .int f_tx_length) (C := RX2) (T := TX2) (N := 2) hx hb hts kX2_append_wX2 hown hK hP 0 rfl rfl 0 (by decide) (hts _ kX2_append_f7) (fun _ h9 => h9) rfl dX2_append_12 ?_
  refine lv_iconst (v := 1) hx hb dX2_append_15 (by decide) ?_
  refine lv_iadd hx hb dX2_append_16 ?_
  refine va_put (D := D) (ci := 2) (v := .int (f_tx_length + (1 : Int32))) (ty := .int) (C := RX2) (T := TX2) (N := 2) hx hb hts kX2_append_wX2 tyX2 tyX2_ok nmX2 hown hK hP hD hS 0 rfl rfl 0 (by decide) (hts _ kX2_append_f7) (fun _ h9 => h9) rfl (by decide +kernel) rfl rfl (Nat.le_of_ble_eq_true rfl) dX2_append_17 (fun H locs hP hD hS => ?_)
  have hP : va_P D vwCl [(a_tx, .inr (2, [.int (f_tx_length + (1 : Int32)), .ref a_tg])), (a_tg, .inl (y 2, 60, .inl (upd v_tg f_tx_length.toNatClampNeg (vp_nar .char p1))))] H := hP
  have hD : va_D A [(a_tx, .inr (2, [.int (f_tx_length + (1 : Int32)), .ref a_tg])), (a_tg, .inl (y 2, 60, .inl (upd v_tg f_tx_length.toNatClampNeg (vp_nar .char p1))))] := hD
  have hB := Option.some.inj hB
  subst hB
  exact W.vret hx hb hr (fun t ht hW => ⟨⟨(), rfl, trivial, by rw [ht]; exact hP, va_K.moved hW.alike hK, hD⟩, hS.F ht⟩) hS.2.2 dX2_append_20 hlocks
set_option maxHeartbeats 4000000 in
set_option maxRecDepth 100000 in
theorem c_X2_append (l : Launch) (D : va_G) (y : Nat → ClassId) (a_tx : Nat) (a_tg : Nat)  (f_tx_length : Int32) (v_tg : Nat → Int32) (p1 : Int32) (sz : Nat) {R : Int32 × (Nat → Int32)} (hF : F_X2_append p1 f_tx_length v_tg = some R) : Met l yX2_append wsX2_append ({ frames := 0, cells := 0, slots := 0, locals := 0 } : Room) (xPre D y sz [.ref a_tx, .int p1] [(a_tx, .inr (2, [.int f_tx_length, .ref a_tg])), (a_tg, .inl (y 2, 60, .inl v_tg))]) (va_Qv (fun (_ : Unit) => True) (xB D y (va_A [(a_tx, .inr (2, [.int f_tx_length, .ref a_tg])), (a_tg, .inl (y 2, 60, .inl v_tg))] sz) [(a_tx, .inr (2, [.int R.1, .ref a_tg])), (a_tg, .inl (y 2, 60, .inl R.2))]) (va_A [(a_tx, .inr (2, [.int f_tx_length, .ref a_tg])), (a_tg, .inl (y 2, 60, .inl v_tg))] sz)) 0 0 (va_A [(a_tx, .inr (2, [.int f_tx_length, .ref a_tg])), (a_tg, .inl (y 2, 60, .inl v_tg))] sz) := by
  refine Met.ofW (cc := cX2_append) (maxL := 2) (ret := none) (by decide) rfl ?_
  intro p e s m args below meth c s₁ B hml hv
  obtain ⟨rfl, hsz, hP, hK, hD0⟩ := hv
  subst hsz
  have hD := hD0.self (sz := s.heap.size)
  have C : xC p s m [.ref a_tx, .int p1].toArray meth c (va_A [(a_tx, .inr (2, [.int f_tx_length, .ref a_tg])), (a_tg, .inl (y 2, 60, .inl v_tg))] s.heap.size) cX2_append RX2 wsX2_append 2 none D y := ⟨B.exec, B.bytes, hml, findClass_of_methodNamed B.named, atoms_spec (ws := wsX2_append) B.pre, B.returns, B.notSynchronized, hK, fun q h => Or.inr h⟩
  have hl := lv_entry ([.ref a_tx, .int p1]) (n := 2) (Nat.le_of_ble_eq_true rfl)
  rw [lg_entry_eq]
  generalize (lg_sl ([.ref a_tx, .int p1]) ++ List.replicate (2 - (lg_sl ([.ref a_tx, .int p1])).length) Slot.unset).toArray = ls at hl ⊢
  have hl : lv_has ls 2 [(0, .ref a_tx), (1, .int p1)] := hl
  exact B_X2_append_0 (p1 := p1) C f_tx_length v_tg s.heap [] ls hP hD va_S.rf hl hF
theorem kX5_type_c200 : Cond.constant RX5 200 (-10000003) ∈ wsX5_type := by decide +kernel
theorem kX5_type_c67 : Cond.constant RX5 67 (-10000001) ∈ wsX5_type := by decide +kernel
theorem kX5_type_f37 : Cond.fieldLink RX5 37 "DescentShuffles" "text" "LDescentShuffles$SumText;" ∈ wsX5_type := by decide +kernel
theorem kX5_type_wX5 : ∀ w ∈ u_ws RX5 TX5 9, w ∈ wsX5_type := by decide +kernel
theorem kX5_type_f188 : Cond.fieldLink RX5 188 "DescentShuffles$SumText" "length" "I" ∈ wsX5_type := by decide +kernel
theorem kX5_type_wX2 : ∀ w ∈ u_ws RX2 TX2 2, w ∈ wsX5_type := by decide +kernel
def S_X5_type_0 (p : Program) (l : Launch) (e : Env) (s : State) (m : MethodId) (args : Array Value) (below : List Frame) (meth : Method) (c : Code) (A : Nat → Prop) (D : va_G) (y : Nat → ClassId) (a_x : Nat) (a_known : Nat) (a_so : Nat) (a_made : Nat) (a_pcl : Nat) (a_hi : Nat) (a_tx : Nat) (a_rd : Nat) (a_tb : Nat) (a_o : Nat) (a_tg : Nat) (p1 : Int32) (R : Int32 × Int32 × (Nat → Int32)) (κ : Int32 → (Nat → Int32) → Option (Int32 × Int32 × (Nat → Int32))) : Prop := ∀ (f_tx_length : Int32) (v_tg : Nat → Int32) (H : Heap) (locs : List Loc) (ls : Array Slot), va_P D vwCl [(a_x, .inr (5, [.ref a_known, .ref a_so, .ref a_made, .ref a_pcl, .ref a_hi, .ref a_tx, .ref a_rd, .ref a_tb, .ref a_o])), (a_tx, .inr (2, [.int f_tx_length, .ref a_tg])), (a_tg, .inl (y 2, 60, .inl v_tg))] H → va_D A [(a_x, .inr (5, [.ref a_known, .ref a_so, .ref a_made, .ref a_pcl, .ref a_hi, .ref a_tx, .ref a_rd, .ref a_tb, .ref a_o])), (a_tx, .inr (2, [.int f_tx_length, .ref a_tg])), (a_tg, .inl (y 2, 60, .inl v_tg))] → va_S A s.heap H locs → lv_has ls 2 [(0, .ref a_x), (1, .int p1)] → κ f_tx_length v_tg = some R → W p l e ({ frames := 1, cells := 0, slots := 0, locals := 22 } : Room) s m args below meth c H locs 0 0 (MQ below (va_Qi (fun (r : Int32) (_ : Unit) => r = R.1) (xB D y A [(a_x, .inr (5, [.ref a_known, .ref a_so, .ref a_made, .ref a_pcl, .ref a_hi, .ref a_tx, .ref a_rd, .ref a_tb, .ref a_o])), (a_tx, .inr (2, [.int R.2.1, .ref a_tg])), (a_tg, .inl (y 2, 60, .inl R.2.2))]) A) args s 0 0 A) (F0 m 0 ls [])
set_option maxHeartbeats 4000000 in
set_option maxRecDepth 100000 in
theorem B_X5_type_0 {p : Program} {l : Launch} {e : Env} {s : State} {m : MethodId} {args : Array Value} {below : List Frame} {meth : Method} {c : Code} {A : Nat → Prop} {D : va_G} {y : Nat → ClassId} {a_x : Nat} {a_known : Nat} {a_so : Nat} {a_made : Nat} {a_pcl : Nat} {a_hi : Nat} {a_tx : Nat} {a_rd : Nat} {a_tb : Nat} {a_o : Nat} {a_tg : Nat} {p1 : Int32} {R : Int32 × Int32 × (Nat → Int32)} (C : xC p s m args meth c A cX5_type RX5 wsX5_type 2 (some .int) D y)  : S_X5_type_0 p l e s m args below meth c A D y a_x a_known a_so a_made a_pcl a_hi a_tx a_rd a_tb a_o a_tg p1 R (F_X5_type p1 ) := by
  have C0 := C
  obtain ⟨hx, hb, hml, hown, hts, hr, hlocks, hK, hA⟩ := C
  intro f_tx_length v_tg H locs ls hP hD hS hl hB
  unfold F_X5_type at hB
  refine lv_iload_n hx hb dX5_type_0 rfl (lv_at hl 1 rfl) ?_
  refine lv_bipush (v := 32) hx hb dX5_type_1 (by decide) ?_
  refine lv_bipush (v := 126) hx hb dX5_type_3 (by decide) ?_
  obtain ⟨q1, e1, hB⟩ := xbd hB
  have hPc := hP.sub (ws' := []) [] rfl
  have hDc := hD.sub (ws' := []) [] (by decide) rfl
  refine xcalli (mc := 0) (ms := 0) (rv := q1) (wc := []) (wr := [(a_x, .inr (5, [.ref a_known, .ref a_so, .ref a_made, .ref a_pcl, .ref a_hi, .ref a_tx, .ref a_rd, .ref a_tb, .ref a_o])), (a_tx, .inr (2, [.int f_tx_length, .ref a_tg])), (a_tg, .inl (y 2, 60, .inl v_tg))]) (w1 := []) (wf := [(a_x, .inr (5, [.ref a_known, .ref a_so, .ref a_made, .ref a_pcl, .ref a_hi, .ref a_tx, .ref a_rd, .ref a_tb, .ref a_o])), (a_tx, .inr (2, [.int f_tx_length, .ref a_tg])), (a_tg, .inl (y 2, 60, .inl v_tg))]) (va_runS (As := [.int p1, .int (32 : Int32), .int (126 : Int32)]) (rest := []) ⟨hx, hb, hml, hown, hts⟩ (c_X5_isWithin l D y p1 (32 : Int32) (126 : Int32) H.size e1) (va_cwS 3 hts gX5_type_X5_isWithin rfl rfl rfl (by decide +kernel) ⟨Nat.le_of_ble_eq_true rfl, Nat.le_of_ble_eq_true rfl⟩) ⟨xblind, xprev hPc hK hDc⟩ rfl rfl hl.1 rfl (lv_room (Nat.le_of_ble_eq_true rfl)) dX5_type_5 ⟨Nat.le_of_ble_eq_true rfl, Nat.le_of_ble_eq_true rfl⟩) hP hD hS hA [] [0, 1, 2] [0, 1, 2] rfl rfl (by decide) (by decide) rfl (by decide) (fun H locs hP hD hS => ?_)
  refine lv_if_ne (tgt := 14) hx hb dX5_type_8 (by decide) (fun c2 => ?_) (fun c2 => ?_)
  · have hB := xin c2 hB
    refine lv_aload_n hx hb dX5_type_14 rfl (lv_at hl 0 rfl) ?_
    refine va_get (D := D) (ci := 5) (v := .ref a_tx) (C := RX5) (T := TX5) (N := 9) hx hb hts kX5_type_wX5 hown hK hP 0 rfl rfl 5 (by decide) (hts _ kX5_type_f37) (fun _ h9 => h9) rfl dX5_type_15 ?_
    obtain ⟨q3, e3, hB⟩ := xbd hB
    have hPc := hP.sub (ws' := [(a_tx, .inr (2, [.int f_tx_length, .ref a_tg]))]) [1] rfl
    have hDc := hD.sub (ws' := [(a_tx, .inr (2, [.int f_tx_length, .ref a_tg]))]) [1] (by decide) rfl
    refine xcalli (mc := 0) (ms := 0) (rv := q3) (wc := [(a_tx, .inr (2, [.int f_tx_length, .ref a_tg]))]) (wr := [(a_x, .inr (5, [.ref a_known, .ref a_so, .ref a_made, .ref a_pcl, .ref a_hi, .ref a_tx, .ref a_rd, .ref a_tb, .ref a_o])), (a_tg, .inl (y 2, 60, .inl v_tg))]) (w1 := [(a_tx, .inr (2, [.int f_tx_length, .ref a_tg]))]) (wf := [(a_x, .inr (5, [.ref a_known, .ref a_so, .ref a_made, .ref a_pcl, .ref a_hi, .ref a_tx, .ref a_rd, .ref a_tb, .ref a_o])), (a_tx, .inr (2, [.int f_tx_length, .ref a_tg])), (a_tg, .inl (y 2, 60, .inl v_tg))]) (va_runV (As := []) (rest := []) ⟨hx, hb, hml, hown, hts⟩ (c_X2_isFull l D y a_tx a_tg f_tx_length H.size e3) (cwV 0 hts gX5_type_X2_isFull rfl rfl rfl (by decide +kernel) ⟨Nat.le_of_ble_eq_true rfl, Nat.le_of_ble_eq_true rfl⟩) ⟨xblind, va_recv hK hP (ci := 2) (q0 := 1) rfl rfl, xprev hPc hK hDc⟩ rfl rfl hl.1 rfl (lv_room (Nat.le_of_ble_eq_true rfl)) dX5_type_18 ⟨Nat.le_of_ble_eq_true rfl, Nat.le_of_ble_eq_true rfl⟩) hP hD hS hA [1] [0, 2] [0, 2, 1] rfl rfl (by decide) (by decide) rfl (by decide) (fun H locs hP hD hS => ?_)
    refine lv_if_eq (tgt := 27) hx hb dX5_type_21 (by decide) (fun c4 => ?_) (fun c4 => ?_)
    · have hB := xip c4 hB
      refine lv_aload_n hx hb dX5_type_27 rfl (lv_at hl 0 rfl) ?_
      refine va_get (D := D) (ci := 5) (v := .ref a_tx) (C := RX5) (T := TX5) (N := 9) hx hb hts kX5_type_wX5 hown hK hP 0 rfl rfl 5 (by decide) (hts _ kX5_type_f37) (fun _ h9 => h9) rfl dX5_type_28 ?_
      refine lv_iload_n hx hb dX5_type_31 rfl (lv_at hl 1 rfl) ?_
      refine lv_i2c hx hb dX5_type_32 rfl ?_
      obtain ⟨q5, e5, hB⟩ := xbd hB
      have hPc := hP.sub (ws' := [(a_tx, .inr (2, [.int f_tx_length, .ref a_tg])), (a_tg, .inl (y 2, 60, .inl v_tg))]) [1, 2] rfl
      have hDc := hD.sub (ws' := [(a_tx, .inr (2, [.int f_tx_length, .ref a_tg])), (a_tg, .inl (y 2, 60, .inl v_tg))]) [1, 2] (by decide) rfl
      refine xcallv (mc := 0) (ms := 0) (wc := [(a_tx, .inr (2, [.int f_tx_length, .ref a_tg])), (a_tg, .inl (y 2, 60, .inl v_tg))]) (wr := [(a_x, .inr (5, [.ref a_known, .ref a_so, .ref a_made, .ref a_pcl, .ref a_hi, .ref a_tx, .ref a_rd, .ref a_tb, .ref a_o]))]) (w1 := [(a_tx, .inr (2, [.int q5.1, .ref a_tg])), (a_tg, .inl (y 2, 60, .inl q5.2))]) (wf := [(a_x, .inr (5, [.ref a_known, .ref a_so, .ref a_made, .ref a_pcl, .ref a_hi, .ref a_tx, .ref a_rd, .ref a_tb, .ref a_o])), (a_tx, .inr (2, [.int q5.1, .ref a_tg])), (a_tg, .inl (y 2, 60, .inl q5.2))]) (va_runV (As := [.int ((p1.toUInt32 % 65536).toInt32)]) (rest := []) ⟨hx, hb, hml, hown, hts⟩ (c_X2_append l D y a_tx a_tg f_tx_length v_tg ((p1.toUInt32 % 65536).toInt32) H.size e5) (cwV 1 hts gX5_type_X2_append rfl rfl rfl (by decide +kernel) ⟨Nat.le_of_ble_eq_true rfl, Nat.le_of_ble_eq_true rfl⟩) ⟨xblind, va_recv hK hP (ci := 2) (q0 := 1) rfl rfl, xprev hPc hK hDc⟩ rfl rfl hl.1 rfl (lv_room (Nat.le_of_ble_eq_true rfl)) dX5_type_33 ⟨Nat.le_of_ble_eq_true rfl, Nat.le_of_ble_eq_true rfl⟩) hP hD hS hA [1, 2] [0] [0, 1, 2] rfl rfl (by decide) (by decide) rfl (by decide) (fun H locs hP hD hS => ?_)
      refine lv_aload_n hx hb dX5_type_36 rfl (lv_at hl 0 rfl) ?_
      refine va_get (D := D) (ci := 5) (v := .ref a_tx) (C := RX5) (T := TX5) (N := 9) hx hb hts kX5_type_wX5 hown hK hP 0 rfl rfl 5 (by decide) (hts _ kX5_type_f37) (fun _ h9 => h9) rfl dX5_type_37 ?_
      refine va_get (D := D) (ci := 2) (v := .int q5.1) (C := RX2) (T := TX2) (N := 2) hx hb hts kX5_type_wX2 hown hK hP 1 rfl rfl 0 (by decide) (hts _ kX5_type_f188) (fun _ h9 => h9) rfl dX5_type_40 ?_
      have hB := Option.some.inj hB
      subst hB
      exact W.iret hx hb hr (fun t ht hW => ⟨⟨_, (), rfl, rfl, by rw [ht]; exact hP, va_K.moved hW.alike hK, hD⟩, hS.F ht⟩) hS.2.2 dX5_type_43 hlocks
    · have hB := xin c4 hB
      refine lv_ldc (v := -10000003) hx hb hown (hts _ kX5_type_c200) dX5_type_24 ?_
      have hB := Option.some.inj hB
      subst hB
      exact W.iret hx hb hr (fun t ht hW => ⟨⟨_, (), rfl, rfl, by rw [ht]; exact hP, va_K.moved hW.alike hK, hD⟩, hS.F ht⟩) hS.2.2 dX5_type_26 hlocks
  · have hB := xip c2 hB
    refine lv_ldc (v := -10000001) hx hb hown (hts _ kX5_type_c67) dX5_type_11 ?_
    have hB := Option.some.inj hB
    subst hB
    exact W.iret hx hb hr (fun t ht hW => ⟨⟨_, (), rfl, rfl, by rw [ht]; exact hP, va_K.moved hW.alike hK, hD⟩, hS.F ht⟩) hS.2.2 dX5_type_13 hlocks
set_option maxHeartbeats 4000000 in
set_option maxRecDepth 100000 in
theorem c_X5_type (l : Launch) (D : va_G) (y : Nat → ClassId) (a_x : Nat) (a_known : Nat) (a_so : Nat) (a_made : Nat) (a_pcl : Nat) (a_hi : Nat) (a_tx : Nat) (a_rd : Nat) (a_tb : Nat) (a_o : Nat) (a_tg : Nat)  (f_tx_length : Int32) (v_tg : Nat → Int32) (p1 : Int32) (sz : Nat) {R : Int32 × Int32 × (Nat → Int32)} (hF : F_X5_type p1 f_tx_length v_tg = some R) : Met l yX5_type wsX5_type ({ frames := 1, cells := 0, slots := 0, locals := 22 } : Room) (xPre D y sz [.ref a_x, .int p1] [(a_x, .inr (5, [.ref a_known, .ref a_so, .ref a_made, .ref a_pcl, .ref a_hi, .ref a_tx, .ref a_rd, .ref a_tb, .ref a_o])), (a_tx, .inr (2, [.int f_tx_length, .ref a_tg])), (a_tg, .inl (y 2, 60, .inl v_tg))]) (va_Qi (fun (r : Int32) (_ : Unit) => r = R.1) (xB D y (va_A [(a_x, .inr (5, [.ref a_known, .ref a_so, .ref a_made, .ref a_pcl, .ref a_hi, .ref a_tx, .ref a_rd, .ref a_tb, .ref a_o])), (a_tx, .inr (2, [.int f_tx_length, .ref a_tg])), (a_tg, .inl (y 2, 60, .inl v_tg))] sz) [(a_x, .inr (5, [.ref a_known, .ref a_so, .ref a_made, .ref a_pcl, .ref a_hi, .ref a_tx, .ref a_rd, .ref a_tb, .ref a_o])), (a_tx, .inr (2, [.int R.2.1, .ref a_tg])), (a_tg, .inl (y 2, 60, .inl R.2.2))]) (va_A [(a_x, .inr (5, [.ref a_known, .ref a_so, .ref a_made, .ref a_pcl, .ref a_hi, .ref a_tx, .ref a_rd, .ref a_tb, .ref a_o])), (a_tx, .inr (2, [.int f_tx_length, .ref a_tg])), (a_tg, .inl (y 2, 60, .inl v_tg))] sz)) 0 0 (va_A [(a_x, .inr (5, [.ref a_known, .ref a_so, .ref a_made, .ref a_pcl, .ref a_hi, .ref a_tx, .ref a_rd, .ref a_tb, .ref a_o])), (a_tx, .inr (2, [.int f_tx_length, .ref a_tg])), (a_tg, .inl (y 2, 60, .inl v_tg))] sz) := by
  refine Met.ofW (cc := cX5_type) (maxL := 2) (ret := (some .int)) (by decide) rfl ?_
  intro p e s m args below meth c s₁ B hml hv
  obtain ⟨rfl, hsz, hP, hK, hD0⟩ := hv
  subst hsz
  have hD := hD0.self (sz := s.heap.size)
  have C : xC p s m [.ref a_x, .int p1].toArray meth c (va_A [(a_x, .inr (5, [.ref a_known, .ref a_so, .ref a_made, .ref a_pcl, .ref a_hi, .ref a_tx, .ref a_rd, .ref a_tb, .ref a_o])), (a_tx, .inr (2, [.int f_tx_length, .ref a_tg])), (a_tg, .inl (y 2, 60, .inl v_tg))] s.heap.size) cX5_type RX5 wsX5_type 2 (some .int) D y := ⟨B.exec, B.bytes, hml, findClass_of_methodNamed B.named, atoms_spec (ws := wsX5_type) B.pre, B.returns, B.notSynchronized, hK, fun q h => Or.inr h⟩
  have hl := lv_entry ([.ref a_x, .int p1]) (n := 2) (Nat.le_of_ble_eq_true rfl)
  rw [lg_entry_eq]
  generalize (lg_sl ([.ref a_x, .int p1]) ++ List.replicate (2 - (lg_sl ([.ref a_x, .int p1])).length) Slot.unset).toArray = ls at hl ⊢
  have hl : lv_has ls 2 [(0, .ref a_x), (1, .int p1)] := hl
  exact B_X5_type_0 (p1 := p1) C f_tx_length v_tg s.heap [] ls hP hD va_S.rf hl hF
theorem kX5_clearText_f37 : Cond.fieldLink RX5 37 "DescentShuffles" "text" "LDescentShuffles$SumText;" ∈ wsX5_clearText := by decide +kernel
theorem kX5_clearText_wX5 : ∀ w ∈ u_ws RX5 TX5 9, w ∈ wsX5_clearText := by decide +kernel
theorem kX5_clearText_f188 : Cond.fieldLink RX5 188 "DescentShuffles$SumText" "length" "I" ∈ wsX5_clearText := by decide +kernel
theorem kX5_clearText_wX2 : ∀ w ∈ u_ws RX2 TX2 2, w ∈ wsX5_clearText := by decide +kernel
def S_X5_clearText_0 (p : Program) (l : Launch) (e : Env) (s : State) (m : MethodId) (args : Array Value) (below : List Frame) (meth : Method) (c : Code) (A : Nat → Prop) (D : va_G) (y : Nat → ClassId) (a_x : Nat) (a_known : Nat) (a_so : Nat) (a_made : Nat) (a_pcl : Nat) (a_hi : Nat) (a_tx : Nat) (a_rd : Nat) (a_tb : Nat) (a_o : Nat) (a_tg : Nat) (R : Int32 × Int32) (κ : Int32 → Option (Int32 × Int32)) : Prop := ∀ (f_tx_length : Int32) (H : Heap) (locs : List Loc) (ls : Array Slot), va_P D vwCl [(a_x, .inr (5, [.ref a_known, .ref a_so, .ref a_made, .ref a_pcl, .ref a_hi, .ref a_tx, .ref a_rd, .ref a_tb, .ref a_o])), (a_tx, .inr (2, [.int f_tx_length, .ref a_tg]))] H → va_D A [(a_x, .inr (5, [.ref a_known, .ref a_so, .ref a_made, .ref a_pcl, .ref a_hi, .ref a_tx, .ref a_rd, .ref a_tb, .ref a_o])), (a_tx, .inr (2, [.int f_tx_length, .ref a_tg]))] → va_S A s.heap H locs → lv_has ls 2 [(0, .ref a_x)] → κ f_tx_length = some R → W p l e ({ frames := 0, cells := 0, slots := 0, locals := 0 } : Room) s m args below meth c H locs 0 0 (MQ below (va_Qi (fun (r : Int32) (_ : Unit) => r = R.1) (xB D y A [(a_x, .inr (5, [.ref a_known, .ref a_so, .ref a_made, .ref a_pcl, .ref a_hi, .ref a_tx, .ref a_rd, .ref a_tb, .ref a_o])), (a_tx, .inr (2, [.int R.2, .ref a_tg]))]) A) args s 0 0 A) (F0 m 0 ls [])
set_option maxHeartbeats 4000000 in
set_option maxRecDepth 100000 in
theorem B_X5_clearText_0 {p : Program} {l : Launch} {e : Env} {s : State} {m : MethodId} {args : Array Value} {below : List Frame} {meth : Method} {c : Code} {A : Nat → Prop} {D : va_G} {y : Nat → ClassId} {a_x : Nat} {a_known : Nat} {a_so : Nat} {a_made : Nat} {a_pcl : Nat} {a_hi : Nat} {a_tx : Nat} {a_rd : Nat} {a_tb : Nat} {a_o : Nat} {a_tg : Nat} {R : Int32 × Int32} (C : xC p s m args meth c A cX5_clearText RX5 wsX5_clearText 2 (some .int) D y)  : S_X5_clearText_0 p l e s m args below meth c A D y a_x a_known a_so a_made a_pcl a_hi a_tx a_rd a_tb a_o a_tg R (F_X5_clearText ) := by
  have C0 := C
  obtain ⟨hx, hb, hml, hown, hts, hr, hlocks, hK, hA⟩ := C
  intro f_tx_length H locs ls hP hD hS hl hB
  unfold F_X5_clearText at hB
  refine lv_aload_n hx hb dX5_clearText_0 rfl (lv_at hl 0 rfl) ?_
  refine va_get (D := D) (ci := 5) (v := .ref a_tx) (C := RX5) (T := TX5) (N := 9) hx hb hts kX5_clearText_wX5 hown hK hP 0 rfl rfl 5 (by decide) (hts _ kX5_clearText_f37) (fun _ h9 => h9) rfl dX5_clearText_1 ?_
  refine va_get (D := D) (ci := 2) (v := .int f_tx_length) (C := RX2) (T := TX2) (N := 2) hx hb hts kX5_clearText_wX2 hown hK hP 1 rfl rfl 0 (by decide) (hts _ kX5_clearText_f188) (fun _ h9 => h9) rfl dX5_clearText_4 ?_
  refine lv_istore_n (lv' := [(1, .int f_tx_length), (0, .ref a_x)]) hx hb dX5_clearText_7 rfl hl (by decide) rfl (fun ls hl => ?_)
  refine lv_aload_n hx hb dX5_clearText_8 rfl (lv_at hl 1 rfl) ?_
  refine va_get (D := D) (ci := 5) (v := .ref a_tx) (C := RX5) (T := TX5) (N := 9) hx hb hts kX5_clearText_wX5 hown hK hP 0 rfl rfl 5 (by decide) (hts _ kX5_clearText_f37) (fun _ h9 => h9) rfl dX5_clearText_9 ?_
  refine lv_iconst (v := 0) hx hb dX5_clearText_12 (by decide) ?_
  refine va_put (D := D) (ci := 2) (v := .int (0 : Int32)) (ty := .int) (C := RX2) (T := TX2) (N := 2) hx hb hts kX5_clearText_wX2 tyX2 tyX2_ok nmX2 hown hK hP hD hS 1 rfl rfl 0 (by decide) (hts _ kX5_clearText_f188) (fun _ h9 => h9) rfl (by decide +kernel) rfl rfl (Nat.le_of_ble_eq_true rfl) dX5_clearText_13 (fun H locs hP hD hS => ?_)
  have hP : va_P D vwCl [(a_x, .inr (5, [.ref a_known, .ref a_so, .ref a_made, .ref a_pcl, .ref a_hi, .ref a_tx, .ref a_rd, .ref a_tb, .ref a_o])), (a_tx, .inr (2, [.int (0 : Int32), .ref a_tg]))] H := hP
  have hD : va_D A [(a_x, .inr (5, [.ref a_known, .ref a_so, .ref a_made, .ref a_pcl, .ref a_hi, .ref a_tx, .ref a_rd, .ref a_tb, .ref a_o])), (a_tx, .inr (2, [.int (0 : Int32), .ref a_tg]))] := hD
  refine lv_iload_n hx hb dX5_clearText_16 rfl (lv_at hl 0 rfl) ?_
  have hB := Option.some.inj hB
  subst hB
  exact W.iret hx hb hr (fun t ht hW => ⟨⟨_, (), rfl, rfl, by rw [ht]; exact hP, va_K.moved hW.alike hK, hD⟩, hS.F ht⟩) hS.2.2 dX5_clearText_17 hlocks
set_option maxHeartbeats 4000000 in
set_option maxRecDepth 100000 in
theorem c_X5_clearText (l : Launch) (D : va_G) (y : Nat → ClassId) (a_x : Nat) (a_known : Nat) (a_so : Nat) (a_made : Nat) (a_pcl : Nat) (a_hi : Nat) (a_tx : Nat) (a_rd : Nat) (a_tb : Nat) (a_o : Nat) (a_tg : Nat)  (f_tx_length : Int32)  (sz : Nat) {R : Int32 × Int32} (hF : F_X5_clearText f_tx_length = some R) : Met l yX5_clearText wsX5_clearText ({ frames := 0, cells := 0, slots := 0, locals := 0 } : Room) (xPre D y sz [.ref a_x] [(a_x, .inr (5, [.ref a_known, .ref a_so, .ref a_made, .ref a_pcl, .ref a_hi, .ref a_tx, .ref a_rd, .ref a_tb, .ref a_o])), (a_tx, .inr (2, [.int f_tx_length, .ref a_tg]))]) (va_Qi (fun (r : Int32) (_ : Unit) => r = R.1) (xB D y (va_A [(a_x, .inr (5, [.ref a_known, .ref a_so, .ref a_made, .ref a_pcl, .ref a_hi, .ref a_tx, .ref a_rd, .ref a_tb, .ref a_o])), (a_tx, .inr (2, [.int f_tx_length, .ref a_tg]))] sz) [(a_x, .inr (5, [.ref a_known, .ref a_so, .ref a_made, .ref a_pcl, .ref a_hi, .ref a_tx, .ref a_rd, .ref a_tb, .ref a_o])), (a_tx, .inr (2, [.int R.2, .ref a_tg]))]) (va_A [(a_x, .inr (5, [.ref a_known, .ref a_so, .ref a_made, .ref a_pcl, .ref a_hi, .ref a_tx, .ref a_rd, .ref a_tb, .ref a_o])), (a_tx, .inr (2, [.int f_tx_length, .ref a_tg]))] sz)) 0 0 (va_A [(a_x, .inr (5, [.ref a_known, .ref a_so, .ref a_made, .ref a_pcl, .ref a_hi, .ref a_tx, .ref a_rd, .ref a_tb, .ref a_o])), (a_tx, .inr (2, [.int f_tx_length, .ref a_tg]))] sz) := by
  refine Met.ofW (cc := cX5_clearText) (maxL := 2) (ret := (some .int)) (by decide) rfl ?_
  intro p e s m args below meth c s₁ B hml hv
  obtain ⟨rfl, hsz, hP, hK, hD0⟩ := hv
  subst hsz
  have hD := hD0.self (sz := s.heap.size)
  have C : xC p s m [.ref a_x].toArray meth c (va_A [(a_x, .inr (5, [.ref a_known, .ref a_so, .ref a_made, .ref a_pcl, .ref a_hi, .ref a_tx, .ref a_rd, .ref a_tb, .ref a_o])), (a_tx, .inr (2, [.int f_tx_length, .ref a_tg]))] s.heap.size) cX5_clearText RX5 wsX5_clearText 2 (some .int) D y := ⟨B.exec, B.bytes, hml, findClass_of_methodNamed B.named, atoms_spec (ws := wsX5_clearText) B.pre, B.returns, B.notSynchronized, hK, fun q h => Or.inr h⟩
  have hl := lv_entry ([.ref a_x]) (n := 2) (Nat.le_of_ble_eq_true rfl)
  rw [lg_entry_eq]
  generalize (lg_sl ([.ref a_x]) ++ List.replicate (2 - (lg_sl ([.ref a_x])).length) Slot.unset).toArray = ls at hl ⊢
  have hl : lv_has ls 2 [(0, .ref a_x)] := hl
  exact B_X5_clearText_0 C f_tx_length s.heap [] ls hP hD va_S.rf hl hF
theorem kX4_beginTerm_f18 : Cond.fieldLink RX4 18 "DescentShuffles$TermReader" "stage" "I" ∈ wsX4_beginTerm := by decide +kernel
theorem kX4_beginTerm_wX4 : ∀ w ∈ u_ws RX4 TX4 9, w ∈ wsX4_beginTerm := by decide +kernel
theorem kX4_beginTerm_f21 : Cond.fieldLink RX4 21 "DescentShuffles$TermReader" "isMinus" "Z" ∈ wsX4_beginTerm := by decide +kernel
theorem kX4_beginTerm_f25 : Cond.fieldLink RX4 25 "DescentShuffles$TermReader" "number" "I" ∈ wsX4_beginTerm := by decide +kernel
theorem kX4_beginTerm_f28 : Cond.fieldLink RX4 28 "DescentShuffles$TermReader" "digits" "I" ∈ wsX4_beginTerm := by decide +kernel
theorem kX4_beginTerm_f31 : Cond.fieldLink RX4 31 "DescentShuffles$TermReader" "used" "I" ∈ wsX4_beginTerm := by decide +kernel
theorem kX4_beginTerm_f34 : Cond.fieldLink RX4 34 "DescentShuffles$TermReader" "taken" "I" ∈ wsX4_beginTerm := by decide +kernel
def S_X4_beginTerm_0 (p : Program) (l : Launch) (e : Env) (s : State) (m : MethodId) (args : Array Value) (below : List Frame) (meth : Method) (c : Code) (A : Nat → Prop) (D : va_G) (y : Nat → ClassId) (a_rd : Nat) (a_rr : Nat) (f_rd_terms : Int32) (f_rd_n : Int32) (p1 : Int32) (p2 : Int32) (R : Int32 × Int32 × Int32 × Int32 × Int32 × Int32) (κ : Int32 → Int32 → Int32 → Int32 → Int32 → Int32 → Option (Int32 × Int32 × Int32 × Int32 × Int32 × Int32)) : Prop := ∀ (f_rd_stage : Int32) (f_rd_isMinus : Int32) (f_rd_number : Int32) (f_rd_digits : Int32) (f_rd_used : Int32) (f_rd_taken : Int32) (H : Heap) (locs : List Loc) (ls : Array Slot), va_P D vwCl [(a_rd, .inr (4, [.int f_rd_terms, .int f_rd_n, .int f_rd_stage, .int f_rd_isMinus, .int f_rd_number, .int f_rd_digits, .int f_rd_used, .int f_rd_taken, .ref a_rr]))] H → va_D A [(a_rd, .inr (4, [.int f_rd_terms, .int f_rd_n, .int f_rd_stage, .int f_rd_isMinus, .int f_rd_number, .int f_rd_digits, .int f_rd_used, .int f_rd_taken, .ref a_rr]))] → va_S A s.heap H locs → lv_has ls 3 [(0, .ref a_rd), (1, .int p1), (2, .int p2)] → κ f_rd_stage f_rd_isMinus f_rd_number f_rd_digits f_rd_used f_rd_taken = some R → W p l e ({ frames := 0, cells := 0, slots := 0, locals := 0 } : Room) s m args below meth c H locs 0 0 (MQ below (va_Qv (fun (_ : Unit) => True) (xB D y A [(a_rd, .inr (4, [.int f_rd_terms, .int f_rd_n, .int R.1, .int R.2.1, .int R.2.2.1, .int R.2.2.2.1, .int R.2.2.2.2.1, .int R.2.2.2.2.2, .ref a_rr]))]) A) args s 0 0 A) (F0 m 0 ls [])
set_option maxHeartbeats 4000000 in
set_option maxRecDepth 100000 in
theorem B_X4_beginTerm_0 {p : Program} {l : Launch} {e : Env} {s : State} {m : MethodId} {args : Array Value} {below : List Frame} {meth : Method} {c : Code} {A : Nat → Prop} {D : va_G} {y : Nat → ClassId} {a_rd : Nat} {a_rr : Nat} {f_rd_terms : Int32} {f_rd_n : Int32} {p1 : Int32} {p2 : Int32} {R : Int32 × Int32 × Int32 × Int32 × Int32 × Int32} (C : xC p s m args meth c A cX4_beginTerm RX4 wsX4_beginTerm 3 none D y)  : S_X4_beginTerm_0 p l e s m args below meth c A D y a_rd a_rr f_rd_terms f_rd_n p1 p2 R (F_X4_beginTerm p1 p2 ) := by
  have C0 := C
  obtain ⟨hx, hb, hml, hown, hts, hr, hlocks, hK, hA⟩ := C
  intro f_rd_stage f_rd_isMinus f_rd_number f_rd_digits f_rd_used f_rd_taken H locs ls hP hD hS hl hB
  unfold F_X4_beginTerm at hB
  refine lv_aload_n hx hb dX4_beginTerm_0 rfl (lv_at hl 0 rfl) ?_
  refine lv_iload_n hx hb dX4_beginTerm_1 rfl (lv_at hl 1 rfl) ?_
  refine va_put (D := D) (ci := 4) (v := .int p1) (ty := .int) (C := RX4) (T := TX4) (N := 9) hx hb hts kX4_beginTerm_wX4 tyX4 tyX4_ok nmX4 hown hK hP hD hS 0 rfl rfl 2 (by decide) (hts _ kX4_beginTerm_f18) (fun _ h9 => h9) rfl (by decide +kernel) rfl rfl (Nat.le_of_ble_eq_true rfl) dX4_beginTerm_2 (fun H locs hP hD hS => ?_)
  have hP : va_P D vwCl [(a_rd, .inr (4, [.int f_rd_terms, .int f_rd_n, .int p1, .int f_rd_isMinus, .int f_rd_number, .int f_rd_digits, .int f_rd_used, .int f_rd_taken, .ref a_rr]))] H := hP
  have hD : va_D A [(a_rd, .inr (4, [.int f_rd_terms, .int f_rd_n, .int p1, .int f_rd_isMinus, .int f_rd_number, .int f_rd_digits, .int f_rd_used, .int f_rd_taken, .ref a_rr]))] := hD
  refine lv_aload_n hx hb dX4_beginTerm_5 rfl (lv_at hl 0 rfl) ?_
  refine lv_iload_n hx hb dX4_beginTerm_6 rfl (lv_at hl 2 rfl) ?_
  obtain ⟨g1, g1f, hB⟩ := xb_some hB
  refine va_put (D := D) (ci := 4) (v := .int p2) (ty := .boolean) (C := RX4) (T := TX4) (N := 9) hx hb hts kX4_beginTerm_wX4 tyX4 tyX4_ok nmX4 hown hK hP hD hS 0 rfl rfl 3 (by decide) (hts _ kX4_beginTerm_f21) (fun _ h9 => h9) rfl (by decide +kernel) g1 g1f (Nat.le_of_ble_eq_true rfl) dX4_beginTerm_7 (fun H locs hP hD hS => ?_)
  have hP : va_P D vwCl [(a_rd, .inr (4, [.int f_rd_terms, .int f_rd_n, .int p1, .int p2, .int f_rd_number, .int f_rd_digits, .int f_rd_used, .int f_rd_taken, .ref a_rr]))] H := hP
  have hD : va_D A [(a_rd, .inr (4, [.int f_rd_terms, .int f_rd_n, .int p1, .int p2, .int f_rd_number, .int f_rd_digits, .int f_rd_used, .int f_rd_taken, .ref a_rr]))] := hD
  refine lv_aload_n hx hb dX4_beginTerm_10 rfl (lv_at hl 0 rfl) ?_
  refine lv_iconst (v := 1) hx hb dX4_beginTerm_11 (by decide) ?_
  refine va_put (D := D) (ci := 4) (v := .int (1 : Int32)) (ty := .int) (C := RX4) (T := TX4) (N := 9) hx hb hts kX4_beginTerm_wX4 tyX4 tyX4_ok nmX4 hown hK hP hD hS 0 rfl rfl 4 (by decide) (hts _ kX4_beginTerm_f25) (fun _ h9 => h9) rfl (by decide +kernel) rfl rfl (Nat.le_of_ble_eq_true rfl) dX4_beginTerm_12 (fun H locs hP hD hS => ?_)
  have hP : va_P D vwCl [(a_rd, .inr (4, [.int f_rd_terms, .int f_rd_n, .int p1, .int p2, .int (1 : Int32), .int f_rd_digits, .int f_rd_used, .int f_rd_taken, .ref a_rr]))] H := hP
  have hD : va_D A [(a_rd, .inr (4, [.int f_rd_terms, .int f_rd_n, .int p1, .int p2, .int (1 : Int32), .int f_rd_digits, .int f_rd_used, .int f_rd_taken, .ref a_rr]))] := hD
  refine lv_aload_n hx hb dX4_beginTerm_15 rfl (lv_at hl 0 rfl) ?_
  refine lv_iconst (v := 0) hx hb dX4_beginTerm_16 (by decide) ?_
  refine va_put (D := D) (ci := 4) (v := .int (0 : Int32)) (ty := .int) (C := RX4) (T := TX4) (N := 9) hx hb hts kX4_beginTerm_wX4 tyX4 tyX4_ok nmX4 hown hK hP hD hS 0 rfl rfl 5 (by decide) (hts _ kX4_beginTerm_f28) (fun _ h9 => h9) rfl (by decide +kernel) rfl rfl (Nat.le_of_ble_eq_true rfl) dX4_beginTerm_17 (fun H locs hP hD hS => ?_)
  have hP : va_P D vwCl [(a_rd, .inr (4, [.int f_rd_terms, .int f_rd_n, .int p1, .int p2, .int (1 : Int32), .int (0 : Int32), .int f_rd_used, .int f_rd_taken, .ref a_rr]))] H := hP
  have hD : va_D A [(a_rd, .inr (4, [.int f_rd_terms, .int f_rd_n, .int p1, .int p2, .int (1 : Int32), .int (0 : Int32), .int f_rd_used, .int f_rd_taken, .ref a_rr]))] := hD
  refine lv_aload_n hx hb dX4_beginTerm_20 rfl (lv_at hl 0 rfl) ?_
  refine lv_iconst (v := 0) hx hb dX4_beginTerm_21 (by decide) ?_
  refine va_put (D := D) (ci := 4) (v := .int (0 : Int32)) (ty := .int) (C := RX4) (T := TX4) (N := 9) hx hb hts kX4_beginTerm_wX4 tyX4 tyX4_ok nmX4 hown hK hP hD hS 0 rfl rfl 6 (by decide) (hts _ kX4_beginTerm_f31) (fun _ h9 => h9) rfl (by decide +kernel) rfl rfl (Nat.le_of_ble_eq_true rfl) dX4_beginTerm_22 (fun H locs hP hD hS => ?_)
  have hP : va_P D vwCl [(a_rd, .inr (4, [.int f_rd_terms, .int f_rd_n, .int p1, .int p2, .int (1 : Int32), .int (0 : Int32), .int (0 : Int32), .int f_rd_taken, .ref a_rr]))] H := hP
  have hD : va_D A [(a_rd, .inr (4, [.int f_rd_terms, .int f_rd_n, .int p1, .int p2, .int (1 : Int32), .int (0 : Int32), .int (0 : Int32), .int f_rd_taken, .ref a_rr]))] := hD
  refine lv_aload_n hx hb dX4_beginTerm_25 rfl (lv_at hl 0 rfl) ?_
  refine lv_iconst (v := 0) hx hb dX4_beginTerm_26 (by decide) ?_
  refine va_put (D := D) (ci := 4) (v := .int (0 : Int32)) (ty := .int) (C := RX4) (T := TX4) (N := 9) hx hb hts kX4_beginTerm_wX4 tyX4 tyX4_ok nmX4 hown hK hP hD hS 0 rfl rfl 7 (by decide) (hts _ kX4_beginTerm_f34) (fun _ h9 => h9) rfl (by decide +kernel) rfl rfl (Nat.le_of_ble_eq_true rfl) dX4_beginTerm_27 (fun H locs hP hD hS => ?_)
  have hP : va_P D vwCl [(a_rd, .inr (4, [.int f_rd_terms, .int f_rd_n, .int p1, .int p2, .int (1 : Int32), .int (0 : Int32), .int (0 : Int32), .int (0 : Int32), .ref a_rr]))] H := hP
  have hD : va_D A [(a_rd, .inr (4, [.int f_rd_terms, .int f_rd_n, .int p1, .int p2, .int (1 : Int32), .int (0 : Int32), .int (0 : Int32), .int (0 : Int32), .ref a_rr]))] := hD
  have hB := Option.some.inj hB
  subst hB
  exact W.vret hx hb hr (fun t ht hW => ⟨⟨(), rfl, trivial, by rw [ht]; exact hP, va_K.moved hW.alike hK, hD⟩, hS.F ht⟩) hS.2.2 dX4_beginTerm_30 hlocks
set_option maxHeartbeats 4000000 in
set_option maxRecDepth 100000 in
theorem c_X4_beginTerm (l : Launch) (D : va_G) (y : Nat → ClassId) (a_rd : Nat) (a_rr : Nat)  (f_rd_terms : Int32) (f_rd_n : Int32) (f_rd_stage : Int32) (f_rd_isMinus : Int32) (f_rd_number : Int32) (f_rd_digits : Int32) (f_rd_used : Int32) (f_rd_taken : Int32) (p1 : Int32) (p2 : Int32) (sz : Nat) {R : Int32 × Int32 × Int32 × Int32 × Int32 × Int32} (hF : F_X4_beginTerm p1 p2 f_rd_stage f_rd_isMinus f_rd_number f_rd_digits f_rd_used f_rd_taken = some R) : Met l yX4_beginTerm wsX4_beginTerm ({ frames := 0, cells := 0, slots := 0, locals := 0 } : Room) (xPre D y sz [.ref a_rd, .int p1, .int p2] [(a_rd, .inr (4, [.int f_rd_terms, .int f_rd_n, .int f_rd_stage, .int f_rd_isMinus, .int f_rd_number, .int f_rd_digits, .int f_rd_used, .int f_rd_taken, .ref a_rr]))]) (va_Qv (fun (_ : Unit) => True) (xB D y (va_A [(a_rd, .inr (4, [.int f_rd_terms, .int f_rd_n, .int f_rd_stage, .int f_rd_isMinus, .int f_rd_number, .int f_rd_digits, .int f_rd_used, .int f_rd_taken, .ref a_rr]))] sz) [(a_rd, .inr (4, [.int f_rd_terms, .int f_rd_n, .int R.1, .int R.2.1, .int R.2.2.1, .int R.2.2.2.1, .int R.2.2.2.2.1, .int R.2.2.2.2.2, .ref a_rr]))]) (va_A [(a_rd, .inr (4, [.int f_rd_terms, .int f_rd_n, .int f_rd_stage, .int f_rd_isMinus, .int f_rd_number, .int f_rd_digits, .int f_rd_used, .int f_rd_taken, .ref a_rr]))] sz)) 0 0 (va_A [(a_rd, .inr (4, [.int f_rd_terms, .int f_rd_n, .int f_rd_stage, .int f_rd_isMinus, .int f_rd_number, .int f_rd_digits, .int f_rd_used, .int f_rd_taken, .ref a_rr]))] sz) := by
  refine Met.ofW (cc := cX4_beginTerm) (maxL := 3) (ret := none) (by decide) rfl ?_
  intro p e s m args below meth c s₁ B hml hv
  obtain ⟨rfl, hsz, hP, hK, hD0⟩ := hv
  subst hsz
  have hD := hD0.self (sz := s.heap.size)
  have C : xC p s m [.ref a_rd, .int p1, .int p2].toArray meth c (va_A [(a_rd, .inr (4, [.int f_rd_terms, .int f_rd_n, .int f_rd_stage, .int f_rd_isMinus, .int f_rd_number, .int f_rd_digits, .int f_rd_used, .int f_rd_taken, .ref a_rr]))] s.heap.size) cX4_beginTerm RX4 wsX4_beginTerm 3 none D y := ⟨B.exec, B.bytes, hml, findClass_of_methodNamed B.named, atoms_spec (ws := wsX4_beginTerm) B.pre, B.returns, B.notSynchronized, hK, fun q h => Or.inr h⟩
  have hl := lv_entry ([.ref a_rd, .int p1, .int p2]) (n := 3) (Nat.le_of_ble_eq_true rfl)
  rw [lg_entry_eq]
  generalize (lg_sl ([.ref a_rd, .int p1, .int p2]) ++ List.replicate (3 - (lg_sl ([.ref a_rd, .int p1, .int p2])).length) Slot.unset).toArray = ls at hl ⊢
  have hl : lv_has ls 3 [(0, .ref a_rd), (1, .int p1), (2, .int p2)] := hl
  exact B_X4_beginTerm_0 (p1 := p1) (p2 := p2) C f_rd_stage f_rd_isMinus f_rd_number f_rd_digits f_rd_used f_rd_taken s.heap [] ls hP hD va_S.rf hl hF
