/-! the law's world: the two objects, and any number of orders behind them (by program: wip/whole/gen/law.py) -/
abbrev BK : Type := (Nat → Nat) × Nat × (Nat → Nat → Int32)
def bkW (y : Nat → ClassId) (t : BK) : va_W := [((t.1 0), .inr (1, [.int (nI t.2.1), .int (nI (fac t.2.1)), .int (nI (2 ^ (t.2.1 - 1))), .ref (t.1 1), .ref (t.1 2), .ref (t.1 3), .ref (t.1 4), .ref (t.1 5), .ref (t.1 6), .ref (t.1 7), .ref (t.1 8)])), ((t.1 1), .inl (y 0, (fac t.2.1), .inl (t.2.2 0))), ((t.1 2), .inl (y 0, (fac t.2.1), .inl (t.2.2 1))), ((t.1 3), .inl (y 0, (fac t.2.1), .inl (t.2.2 2))), ((t.1 4), .inl (y 0, (fac t.2.1), .inl (t.2.2 3))), ((t.1 5), .inl (y 0, (2 ^ (t.2.1 - 1)), .inl (t.2.2 4))), ((t.1 6), .inl (y 0, (fac t.2.1 * t.2.1), .inl (t.2.2 5))), ((t.1 7), .inl (y 0, (fac t.2.1 * fac t.2.1), .inl (t.2.2 6))), ((t.1 8), .inl (y 0, t.2.1, .inl (t.2.2 7)))]
def flt (y : Nat → ClassId) (ts : List BK) : va_W := ts.flatMap (bkW y)
def bf (a0 a1 a2 a3 a4 a5 a6 a7 a8 : Nat) : Nat → Nat
  | 0 => a0
  | 1 => a1
  | 2 => a2
  | 3 => a3
  | 4 => a4
  | 5 => a5
  | 6 => a6
  | 7 => a7
  | _ => a8
def cf (c0 c1 c2 c3 c4 c5 c6 c7 : Nat → Int32) : Nat → Nat → Int32
  | 0 => c0
  | 1 => c1
  | 2 => c2
  | 3 => c3
  | 4 => c4
  | 5 => c5
  | 6 => c6
  | _ => c7
def TBk (k : Nat) (c : Nat → Nat → Int32) : Prop := TB k (fac k) (2 ^ (k - 1)) (fac k * k) (fac k * fac k) k (nI k) (nI (fac k)) (nI (2 ^ (k - 1))) (c 0) (c 1) (c 2) (c 3) (c 4) (c 5) (c 6)
/-- which orders are known, and where -/
def KN (v : Nat → Option Nat) (n : Nat) (ao : Nat) (ts : List BK) : Prop := v n = some ao ∧ (∀ k, 1 ≤ k → k ≤ 5 → k ≠ n → v k = none ∨ ∃ t ∈ ts, t.2.1 = k ∧ v k = some (t.1 0)) ∧ ∀ t ∈ ts, TBk t.2.1 t.2.2
def k1 : Option Nat → Nat
  | none => 0
  | some _ => 1
def kc (v : Nat → Option Nat) : Nat := k1 (v 1) + k1 (v 2) + k1 (v 3) + k1 (v 4) + k1 (v 5)
theorem k1_le (o : Option Nat) : k1 o ≤ 1 := by
  cases o
  · exact Nat.zero_le _
  · exact Nat.le_refl _
theorem kc_le (v : Nat → Option Nat) : kc v ≤ 5 := by
  have h1 := k1_le (v 1)
  have h2 := k1_le (v 2)
  have h3 := k1_le (v 3)
  have h4 := k1_le (v 4)
  have h5 := k1_le (v 5)
  unfold kc
  omega
theorem kc_up {v : Nat → Option Nat} {k a : Nat} (h1 : 1 ≤ k) (h5 : k ≤ 5) (h : v k = none) : kc (va_up v k (some a)) = kc v + 1 := by
  rcases (show k = 1 ∨ k = 2 ∨ k = 3 ∨ k = 4 ∨ k = 5 by omega) with rfl | rfl | rfl | rfl | rfl
  · simp [kc, va_up, h, k1]; omega
  · simp [kc, va_up, h, k1]; omega
  · simp [kc, va_up, h, k1]; omega
  · simp [kc, va_up, h, k1]; omega
  · simp [kc, va_up, h, k1]
theorem flt_mv {D : va_G} {y : Nat → ClassId} {X : va_W} {l1 l2 : List BK} {t : BK} {H : Heap} (h : va_P D vwCl (X ++ flt y (l1 ++ t :: l2)) H) : va_P D vwCl (X ++ flt y (t :: (l1 ++ l2))) H := by
  have e1 : X ++ flt y (l1 ++ t :: l2) = ((X ++ flt y l1) ++ bkW y t) ++ flt y l2 := by simp [flt]
  rw [e1] at h
  have h2 := va_P.swap h
  have e2 : ((X ++ flt y l1) ++ flt y l2) ++ bkW y t = (X ++ (flt y l1 ++ flt y l2)) ++ bkW y t := by simp
  rw [e2] at h2
  have h3 := va_P.swap h2
  have e3 : (X ++ bkW y t) ++ (flt y l1 ++ flt y l2) = X ++ flt y (t :: (l1 ++ l2)) := by simp [flt]
  rw [e3] at h3
  exact h3
theorem flt_mvD {y : Nat → ClassId} {X : va_W} {l1 l2 : List BK} {t : BK} {A : Nat → Prop} (h : va_D A (X ++ flt y (l1 ++ t :: l2))) : va_D A (X ++ flt y (t :: (l1 ++ l2))) := by
  have e1 : X ++ flt y (l1 ++ t :: l2) = ((X ++ flt y l1) ++ bkW y t) ++ flt y l2 := by simp [flt]
  rw [e1] at h
  have h2 := va_D.swap h
  have e2 : ((X ++ flt y l1) ++ flt y l2) ++ bkW y t = (X ++ (flt y l1 ++ flt y l2)) ++ bkW y t := by simp
  rw [e2] at h2
  have h3 := va_D.swap h2
  have e3 : (X ++ bkW y t) ++ (flt y l1 ++ flt y l2) = X ++ flt y (t :: (l1 ++ l2)) := by simp [flt]
  rw [e3] at h3
  exact h3
theorem KN.mv {v : Nat → Option Nat} {n ao : Nat} {l1 l2 : List BK} {t : BK} (h : KN v n ao (l1 ++ t :: l2)) : KN v n ao (t :: (l1 ++ l2)) := by
  have mm : ∀ u : BK, u ∈ l1 ++ t :: l2 ↔ u ∈ t :: (l1 ++ l2) := fun u => by
    simp only [List.mem_append, List.mem_cons]
    exact or_left_comm
  obtain ⟨a, b, c⟩ := h
  refine ⟨a, fun k h1 h5 hk => ?_, fun u hu => c u ((mm u).mpr hu)⟩
  rcases b k h1 h5 hk with e | ⟨u, m, e1, e2⟩
  · exact Or.inl e
  · exact Or.inr ⟨u, (mm u).mp m, e1, e2⟩
theorem KN.pick {v : Nat → Option Nat} {n ao : Nat} {ts : List BK} (h : KN v n ao ts) {k a : Nat} (h1 : 1 ≤ k) (h5 : k ≤ 5) (hk : k ≠ n) (hv : v k = some a) : ∃ (bl : Nat → Nat) (cl : Nat → Nat → Int32) (r : List BK), a = bl 0 ∧ TBk k cl ∧ KN v n ao ((bl, k, cl) :: r) ∧ (∀ (D : va_G) (y : Nat → ClassId) (X : va_W) (H : Heap), va_P D vwCl (X ++ flt y ts) H → va_P D vwCl (X ++ flt y ((bl, k, cl) :: r)) H) ∧ (∀ (y : Nat → ClassId) (X : va_W) (A : Nat → Prop), va_D A (X ++ flt y ts) → va_D A (X ++ flt y ((bl, k, cl) :: r))) := by
  rcases h.2.1 k h1 h5 hk with e | ⟨t, m, e1, e2⟩
  · rw [hv] at e; cases e
  · obtain ⟨l1, l2, rfl⟩ := List.append_of_mem m
    obtain ⟨bl, k', cl⟩ := t
    have e1' : k' = k := e1
    subst e1'
    rw [hv] at e2
    exact ⟨bl, cl, l1 ++ l2, Option.some.inj e2, h.2.2 _ m, h.mv, fun _ _ _ _ q => flt_mv q, fun _ _ _ q => flt_mvD q⟩
theorem KN.pick2 {v : Nat → Option Nat} {n ao : Nat} {t0 : BK} {ts : List BK} (h : KN v n ao (t0 :: ts)) {k a : Nat} (h1 : 1 ≤ k) (h5 : k ≤ 5) (hk : k ≠ n) (h0 : t0.2.1 ≠ k) (hv : v k = some a) : ∃ (bl : Nat → Nat) (cl : Nat → Nat → Int32) (r : List BK), a = bl 0 ∧ TBk k cl ∧ KN v n ao ((bl, k, cl) :: t0 :: r) ∧ (∀ (D : va_G) (y : Nat → ClassId) (X : va_W) (H : Heap), va_P D vwCl (X ++ flt y (t0 :: ts)) H → va_P D vwCl (X ++ flt y ((bl, k, cl) :: t0 :: r)) H) ∧ (∀ (y : Nat → ClassId) (X : va_W) (A : Nat → Prop), va_D A (X ++ flt y (t0 :: ts)) → va_D A (X ++ flt y ((bl, k, cl) :: t0 :: r))) := by
  rcases h.2.1 k h1 h5 hk with e | ⟨t, m, e1, e2⟩
  · rw [hv] at e; cases e
  · have m2 : t ∈ ts := by
      rcases List.mem_cons.mp m with q | q
      · subst q; exact absurd e1 h0
      · exact q
    obtain ⟨l1, l2, rfl⟩ := List.append_of_mem m2
    obtain ⟨bl, k', cl⟩ := t
    have e1' : k' = k := e1
    subst e1'
    rw [hv] at e2
    exact ⟨bl, cl, l1 ++ l2, Option.some.inj e2, h.2.2 _ m, KN.mv (l1 := t0 :: l1) h, fun _ _ _ _ q => flt_mv (l1 := t0 :: l1) q, fun _ _ _ q => flt_mvD (l1 := t0 :: l1) q⟩
theorem KN.toH {v : Nat → Option Nat} {n k : Nat} {bo bl : Nat → Nat} {co cl : Nat → Nat → Int32} {r : List BK} (h : KN v n (bo 0) ((bl, k, cl) :: r)) (hT : TBk n co) (hv : v k = some (bl 0)) : KN v k (bl 0) ((bo, n, co) :: r) := by
  refine ⟨hv, fun j h1 h5 hne => ?_, fun u hu => ?_⟩
  · by_cases c : j = n
    · subst c; exact Or.inr ⟨(bo, j, co), List.mem_cons_self, rfl, h.1⟩
    · rcases h.2.1 j h1 h5 c with e | ⟨t, m, e1, e2⟩
      · exact Or.inl e
      · rcases List.mem_cons.mp m with q | q
        · subst q; exact absurd e1.symm hne
        · exact Or.inr ⟨t, List.mem_cons_of_mem _ q, e1, e2⟩
  · rcases List.mem_cons.mp hu with q | q
    · subst q; exact hT
    · exact h.2.2 u (List.mem_cons_of_mem _ q)
theorem KN.toM {v : Nat → Option Nat} {n k a : Nat} {bo : Nat → Nat} {co : Nat → Nat → Int32} {r : List BK} (h : KN v n (bo 0) r) (hT : TBk n co) (hk : k ≠ n) : KN (va_up v k (some a)) k a ((bo, n, co) :: r) := by
  refine ⟨by simp [va_up], fun j h1 h5 hne => ?_, fun u hu => ?_⟩
  · rw [va_up_ne _ _ hne]
    by_cases c : j = n
    · subst c; exact Or.inr ⟨(bo, j, co), List.mem_cons_self, rfl, h.1⟩
    · rcases h.2.1 j h1 h5 c with e | ⟨t, m, e1, e2⟩
      · exact Or.inl e
      · exact Or.inr ⟨t, List.mem_cons_of_mem _ m, e1, e2⟩
  · rcases List.mem_cons.mp hu with q | q
    · subst q; exact hT
    · exact h.2.2 u q
theorem KN.add {v : Nat → Option Nat} {n k ao : Nat} {bl : Nat → Nat} {cl : Nat → Nat → Int32} {r : List BK} (h : KN v n ao r) (hT : TBk k cl) (hk : k ≠ n) : KN (va_up v k (some (bl 0))) n ao ((bl, k, cl) :: r) := by
  refine ⟨by rw [va_up_ne _ _ (Ne.symm hk)]; exact h.1, fun j h1 h5 hne => ?_, fun u hu => ?_⟩
  · by_cases c : j = k
    · subst c; exact Or.inr ⟨(bl, j, cl), List.mem_cons_self, rfl, by simp [va_up]⟩
    · rw [va_up_ne _ _ c]
      rcases h.2.1 j h1 h5 hne with e | ⟨t, m, e1, e2⟩
      · exact Or.inl e
      · exact Or.inr ⟨t, List.mem_cons_of_mem _ m, e1, e2⟩
  · rcases List.mem_cons.mp hu with q | q
    · subst q; exact hT
    · exact h.2.2 u q
theorem cost_le (k : Nat) (h : k ≤ 5) : 11 + cost k ≤ 20000 := by
  have : ∀ k, k ≤ 5 → 11 + cost k ≤ 20000 := by decide
  exact this k h
theorem RH.eq {hm hx : Int32} {hl : Nat → Int32} {hf : Nat → Nat → Int32} {hlong : Int32} {mh : Nat → Int32} (h : RH hm hx hl hf hlong mh) : hlong = hm := by
  obtain ⟨_, _, _, _, e1, _, e2, _⟩ := h
  rw [e1, e2]
theorem RT.eq {xl ml : Int32} {tg mt : Nat → Int32} (h : RT xl ml tg mt) : ml = xl := by
  obtain ⟨_, _, e1, e2, _⟩ := h
  rw [e1, e2]
section ZC
variable {p : Program} {l : Launch} {e : Env} {R : Room} {s : State} {m : MethodId} {args : Array Value} {below : List Frame} {meth : Method} {c : Code} {H : Heap} {locs : List Loc} {cells slots mc ms : Nat} {Q : State → Prop}
variable {pc : Nat} {ls : Array Slot} {rest st0 : List Value} {a : Array Value} {A : Nat → Prop} {D : va_G} {y : Nat → ClassId}
theorem zfree {X wc pl : va_W} (isC : List Nat) (hD : va_D A (X ++ pl)) (hS : va_S A s.heap H locs) (hA : ∀ q : Nat, s.heap.size ≤ q → A q) (hC : isC.map (fun i => X[i]?) = wc.map some) : ∀ q, va_A wc H.size q → A q := by
  intro q h
  rcases h with ⟨k, e, h⟩ | h
  · obtain ⟨i, _, h6⟩ := va_in_of isC hC h
    have h7 : (X ++ pl)[i]? = some (q, e) := by rw [List.getElem?_append_left (List.getElem?_eq_some_iff.mp h6).1]; exact h6
    exact hD.2 i (q, e) h7
  · exact hA q (Nat.le_trans hS.1 h)
theorem zjoin {H1 : Heap} {X wc wr w1 wf pl : va_W} (isC isR ps : List Nat) (hP : va_P D vwCl (X ++ pl) H) (hD : va_D A (X ++ pl)) (hS : va_S A s.heap H locs) (hA : ∀ q : Nat, s.heap.size ≤ q → A q) (hC : isC.map (fun i => X[i]?) = wc.map some) (hR : isR.map (fun i => X[i]?) = wr.map some) (hn : va_nd isR = true) (hdis : ∀ i ∈ isR, i ∉ isC) (hps : ps.map (fun i => (wr ++ w1)[i]?) = wf.map some) (hpn : va_nd ps = true)
    (hk : ∀ q : Nat, q < H.size → ¬ va_A wc H.size q → H1[q]? = H[q]?) (hP1 : va_P D vwCl w1 H1) (hD1 : va_D (va_A wc H.size) w1) : va_P D vwCl (wf ++ pl) H1 ∧ va_D A (wf ++ pl) := by
  obtain ⟨h1, h2⟩ := va_joinQ hP hD isC isR hC hR hn hdis hk (zfree isC hD hS hA hC) hP1 hD1
  exact ⟨h1.part ps hps, h2.part ps hpn hps⟩
theorem zcalli {X wc wr w1 wf pl : va_W} {rv : Int32} (hr : va_Run p l e R s m args below meth c H locs cells slots mc ms (F0 m pc ls st0) rest (va_Qi (fun (r : Int32) (_ : Unit) => r = rv) (xB D y (va_A wc H.size) w1) (va_A wc H.size) a) (va_A wc H.size))
    (hP : va_P D vwCl (X ++ pl) H) (hD : va_D A (X ++ pl)) (hS : va_S A s.heap H locs) (hA : ∀ q : Nat, s.heap.size ≤ q → A q) (isC isR ps : List Nat) (hC : isC.map (fun i => X[i]?) = wc.map some) (hR : isR.map (fun i => X[i]?) = wr.map some) (hn : va_nd isR = true) (hdis : ∀ i ∈ isR, i ∉ isC) (hps : ps.map (fun i => (wr ++ w1)[i]?) = wf.map some) (hpn : va_nd ps = true)
    (kk : ∀ (H1 : Heap) (locs1 : List Loc), va_P D vwCl (wf ++ pl) H1 → va_D A (wf ++ pl) → va_S A s.heap H1 locs1 → W p l e R s m args below meth c H1 locs1 (cells + mc) (slots + ms) Q (F0 m (pc + 3) ls (.int rv :: rest))) : W p l e R s m args below meth c H locs cells slots Q (F0 m pc ls st0) := by
  have hFc := zfree isC hD hS hA hC
  refine va_calli hr hS (fun q _ h => hFc q h) hFc (fun r u t H1 locs1 ht hvm hw hB hz1 hk1 hS1 => ?_)
  obtain ⟨hP1, hK1, hD1⟩ := hB
  rw [ht] at hP1
  subst hw
  obtain ⟨hP2, hD2⟩ := zjoin isC isR ps hP hD hS hA hC hR hn hdis hps hpn hk1 hP1 hD1
  exact kk H1 locs1 hP2 hD2 hS1
theorem zcallz {Z : Type} {X wc wr pl : va_W} {w1 wf : Z → va_W} {rv : Int32} (hr : va_Run p l e R s m args below meth c H locs cells slots mc ms (F0 m pc ls st0) rest (va_Qi (fun (r : Int32) (_ : Unit) => r = rv) (xBz D y (va_A wc H.size) w1) (va_A wc H.size) a) (va_A wc H.size))
    (hP : va_P D vwCl (X ++ pl) H) (hD : va_D A (X ++ pl)) (hS : va_S A s.heap H locs) (hA : ∀ q : Nat, s.heap.size ≤ q → A q) (isC isR ps : List Nat) (hC : isC.map (fun i => X[i]?) = wc.map some) (hR : isR.map (fun i => X[i]?) = wr.map some) (hn : va_nd isR = true) (hdis : ∀ i ∈ isR, i ∉ isC) (hps : ∀ z, ps.map (fun i => (wr ++ w1 z)[i]?) = (wf z).map some) (hpn : va_nd ps = true)
    (kk : ∀ (z : Z) (H1 : Heap) (locs1 : List Loc), va_P D vwCl (wf z ++ pl) H1 → va_D A (wf z ++ pl) → va_S A s.heap H1 locs1 → W p l e R s m args below meth c H1 locs1 (cells + mc) (slots + ms) Q (F0 m (pc + 3) ls (.int rv :: rest))) : W p l e R s m args below meth c H locs cells slots Q (F0 m pc ls st0) := by
  have hFc := zfree isC hD hS hA hC
  refine va_calli hr hS (fun q _ h => hFc q h) hFc (fun r u t H1 locs1 ht hvm hw hB hz1 hk1 hS1 => ?_)
  obtain ⟨z, hP1, hK1, hD1⟩ := hB
  rw [ht] at hP1
  subst hw
  obtain ⟨hP2, hD2⟩ := zjoin isC isR ps hP hD hS hA hC hR hn hdis (hps z) hpn hk1 hP1 hD1
  exact kk z H1 locs1 hP2 hD2 hS1
end ZC
/-- the law's world at a call -/
def LW (D : va_G) (y : Nat → ClassId) (s : State) (b i : Nat) (H : Heap) (locs : List Loc) (cells slots : Nat) (ls : Array Slot) : Prop := ∀ G : Prop, (∀ (a_x : Nat) (a_known : Nat) (a_so : Nat) (a_s : Nat → Nat) (a_made : Nat) (a_pcl : Nat) (a_hi : Nat) (a_hl : Nat) (a_hfo : Nat) (a_hf : Nat → Nat) (a_tx : Nat) (a_tg : Nat) (a_rd : Nat) (a_rr : Nat) (a_tb : Nat) (a_tr : Nat) (a_tc : Nat) (a_m : Nat) (a_al : Nat) (a_mh : Nat) (a_wd : Nat) (a_lt : Nat) (a_mm : Nat) (a_lw : Nat) (a_hg : Nat) (a_bd : Nat) (a_il : Nat) (a_rl : Nat) (a_cl : Nat) (a_ce : Nat) (a_mt : Nat) (bo : Nat → Nat) (v_known : Nat → Option Nat) (v_s : Nat → Nat → Int32) (v_made : Nat → Int64) (v_pcl : Nat → Int64) (f_hi_many : Int32) (f_hi_next : Int32) (v_hl : Nat → Int32) (v_hf : Nat → Nat → Int32) (f_tx_length : Int32) (v_tg : Nat → Int32) (f_rd_terms : Int32) (f_rd_n : Int32) (f_rd_stage : Int32) (f_rd_isMinus : Int32) (f_rd_number : Int32) (f_rd_digits : Int32) (f_rd_used : Int32) (f_rd_taken : Int32) (v_rr : Nat → Int32) (f_tb_n : Int32) (f_tb_across : Int32) (f_tb_down : Int32) (f_tb_wanted : Int32) (v_tr : Nat → Int32) (v_tc : Nat → Int32) (f_m_historyLong : Int32) (f_m_laid : Int32) (f_m_rows : Int32) (f_m_columns : Int32) (f_m_textLong : Int32) (f_m_spot : Int32) (f_m_terms : Int32) (f_m_times : Int32) (v_al : Nat → Int32) (v_mh : Nat → Int32) (v_wd : Nat → Int32) (v_lt : Nat → Int32) (v_mm : Nat → Int64) (v_lw : Nat → Int32) (v_hg : Nat → Int32) (v_bd : Nat → Int64) (v_il : Nat → Int32) (v_rl : Nat → Int32) (v_cl : Nat → Int32) (v_ce : Nat → Int32) (v_mt : Nat → Int32) (n : Nat) (co : Nat → Nat → Int32) (ts : List BK), va_P D vwCl ([(a_x, .inr (5, [.ref a_known, .ref a_so, .ref a_made, .ref a_pcl, .ref a_hi, .ref a_tx, .ref a_rd, .ref a_tb, .ref (bo 0)])), (a_known, .inl (y 3, 6, .inr (.inr (.inr (.inr v_known))))), (a_so, .inl (y 4, 3, .inr (.inr (.inr (.inr (xO a_s 3)))))), xE a_s (y 0) 120 v_s 0, xE a_s (y 0) 120 v_s 1, xE a_s (y 0) 120 v_s 2, (a_made, .inl (y 1, 120, .inr (.inl v_made))), (a_pcl, .inl (y 1, 16, .inr (.inl v_pcl))), (a_hi, .inr (0, [.int f_hi_many, .int f_hi_next, .ref a_hl, .ref a_hfo])), (a_hl, .inl (y 0, 4, .inl v_hl)), (a_hfo, .inl (y 4, 4, .inr (.inr (.inr (.inr (xO a_hf 4)))))), xE a_hf (y 0) 360 v_hf 0, xE a_hf (y 0) 360 v_hf 1, xE a_hf (y 0) 360 v_hf 2, xE a_hf (y 0) 360 v_hf 3, (a_tx, .inr (2, [.int f_tx_length, .ref a_tg])), (a_tg, .inl (y 2, 60, .inl v_tg)), (a_rd, .inr (4, [.int f_rd_terms, .int f_rd_n, .int f_rd_stage, .int f_rd_isMinus, .int f_rd_number, .int f_rd_digits, .int f_rd_used, .int f_rd_taken, .ref a_rr])), (a_rr, .inl (y 0, 5, .inl v_rr)), (a_tb, .inr (3, [.int f_tb_n, .int f_tb_across, .int f_tb_down, .int f_tb_wanted, .ref a_tr, .ref a_tc])), (a_tr, .inl (y 0, 5, .inl v_tr)), (a_tc, .inl (y 0, 5, .inl v_tc)), ((bo 0), .inr (1, [.int (nI n), .int (nI (fac n)), .int (nI (2 ^ (n - 1))), .ref (bo 1), .ref (bo 2), .ref (bo 3), .ref (bo 4), .ref (bo 5), .ref (bo 6), .ref (bo 7), .ref (bo 8)])), ((bo 1), .inl (y 0, (fac n), .inl (co 0))), ((bo 2), .inl (y 0, (fac n), .inl (co 1))), ((bo 3), .inl (y 0, (fac n), .inl (co 2))), ((bo 4), .inl (y 0, (fac n), .inl (co 3))), ((bo 5), .inl (y 0, (2 ^ (n - 1)), .inl (co 4))), ((bo 6), .inl (y 0, (fac n * n), .inl (co 5))), ((bo 7), .inl (y 0, (fac n * fac n), .inl (co 6))), ((bo 8), .inl (y 0, n, .inl (co 7))), (a_m, .inr (6, [.ref a_al, .ref a_mh, .int f_m_historyLong, .ref a_wd, .ref a_lt, .int f_m_laid, .ref a_mm, .ref a_lw, .ref a_hg, .ref a_bd, .ref a_il, .ref a_rl, .ref a_cl, .ref a_ce, .int f_m_rows, .int f_m_columns, .ref a_mt, .int f_m_textLong, .int f_m_spot, .int f_m_terms, .int f_m_times])), (a_al, .inl (y 0, 364, .inl v_al)), (a_mh, .inl (y 0, 1456, .inl v_mh)), (a_wd, .inl (y 0, 5, .inl v_wd)), (a_lt, .inl (y 0, 600, .inl v_lt)), (a_mm, .inl (y 1, 120, .inr (.inl v_mm))), (a_lw, .inl (y 0, 5, .inl v_lw)), (a_hg, .inl (y 0, 5, .inl v_hg)), (a_bd, .inl (y 1, 16, .inr (.inl v_bd))), (a_il, .inl (y 0, 16, .inl v_il)), (a_rl, .inl (y 0, 5, .inl v_rl)), (a_cl, .inl (y 0, 5, .inl v_cl)), (a_ce, .inl (y 0, 25, .inl v_ce)), (a_mt, .inl (y 0, 60, .inl v_mt))] ++ flt y ts) H → va_D (fun q : Nat => s.heap.size ≤ q) ([(a_x, .inr (5, [.ref a_known, .ref a_so, .ref a_made, .ref a_pcl, .ref a_hi, .ref a_tx, .ref a_rd, .ref a_tb, .ref (bo 0)])), (a_known, .inl (y 3, 6, .inr (.inr (.inr (.inr v_known))))), (a_so, .inl (y 4, 3, .inr (.inr (.inr (.inr (xO a_s 3)))))), xE a_s (y 0) 120 v_s 0, xE a_s (y 0) 120 v_s 1, xE a_s (y 0) 120 v_s 2, (a_made, .inl (y 1, 120, .inr (.inl v_made))), (a_pcl, .inl (y 1, 16, .inr (.inl v_pcl))), (a_hi, .inr (0, [.int f_hi_many, .int f_hi_next, .ref a_hl, .ref a_hfo])), (a_hl, .inl (y 0, 4, .inl v_hl)), (a_hfo, .inl (y 4, 4, .inr (.inr (.inr (.inr (xO a_hf 4)))))), xE a_hf (y 0) 360 v_hf 0, xE a_hf (y 0) 360 v_hf 1, xE a_hf (y 0) 360 v_hf 2, xE a_hf (y 0) 360 v_hf 3, (a_tx, .inr (2, [.int f_tx_length, .ref a_tg])), (a_tg, .inl (y 2, 60, .inl v_tg)), (a_rd, .inr (4, [.int f_rd_terms, .int f_rd_n, .int f_rd_stage, .int f_rd_isMinus, .int f_rd_number, .int f_rd_digits, .int f_rd_used, .int f_rd_taken, .ref a_rr])), (a_rr, .inl (y 0, 5, .inl v_rr)), (a_tb, .inr (3, [.int f_tb_n, .int f_tb_across, .int f_tb_down, .int f_tb_wanted, .ref a_tr, .ref a_tc])), (a_tr, .inl (y 0, 5, .inl v_tr)), (a_tc, .inl (y 0, 5, .inl v_tc)), ((bo 0), .inr (1, [.int (nI n), .int (nI (fac n)), .int (nI (2 ^ (n - 1))), .ref (bo 1), .ref (bo 2), .ref (bo 3), .ref (bo 4), .ref (bo 5), .ref (bo 6), .ref (bo 7), .ref (bo 8)])), ((bo 1), .inl (y 0, (fac n), .inl (co 0))), ((bo 2), .inl (y 0, (fac n), .inl (co 1))), ((bo 3), .inl (y 0, (fac n), .inl (co 2))), ((bo 4), .inl (y 0, (fac n), .inl (co 3))), ((bo 5), .inl (y 0, (2 ^ (n - 1)), .inl (co 4))), ((bo 6), .inl (y 0, (fac n * n), .inl (co 5))), ((bo 7), .inl (y 0, (fac n * fac n), .inl (co 6))), ((bo 8), .inl (y 0, n, .inl (co 7))), (a_m, .inr (6, [.ref a_al, .ref a_mh, .int f_m_historyLong, .ref a_wd, .ref a_lt, .int f_m_laid, .ref a_mm, .ref a_lw, .ref a_hg, .ref a_bd, .ref a_il, .ref a_rl, .ref a_cl, .ref a_ce, .int f_m_rows, .int f_m_columns, .ref a_mt, .int f_m_textLong, .int f_m_spot, .int f_m_terms, .int f_m_times])), (a_al, .inl (y 0, 364, .inl v_al)), (a_mh, .inl (y 0, 1456, .inl v_mh)), (a_wd, .inl (y 0, 5, .inl v_wd)), (a_lt, .inl (y 0, 600, .inl v_lt)), (a_mm, .inl (y 1, 120, .inr (.inl v_mm))), (a_lw, .inl (y 0, 5, .inl v_lw)), (a_hg, .inl (y 0, 5, .inl v_hg)), (a_bd, .inl (y 1, 16, .inr (.inl v_bd))), (a_il, .inl (y 0, 16, .inl v_il)), (a_rl, .inl (y 0, 5, .inl v_rl)), (a_cl, .inl (y 0, 5, .inl v_cl)), (a_ce, .inl (y 0, 25, .inl v_ce)), (a_mt, .inl (y 0, 60, .inl v_mt))] ++ flt y ts) → va_S (fun q : Nat => s.heap.size ≤ q) s.heap H locs → lv_has ls 4 [(0, .ref b), (1, .ref a_x), (2, .ref a_m), (3, .int (nI i))] → RS n v_s v_al → RH f_hi_many f_hi_next v_hl v_hf f_m_historyLong v_mh → TBk n co → LK f_m_laid v_lt → RT f_tx_length f_m_textLong v_tg v_mt → KN v_known n (bo 0) ts → cells = 60 + 20 * kc v_known → slots = 20000 + 20000 * kc v_known → G) → G
/-- what a case of the switch comes to -/
def LG (p : Program) (l : Launch) (e : Env) (s : State) (m : MethodId) (below : List Frame) (meth : Method) (c : Code) (D : va_G) (y : Nat → ClassId) (b i pc : Nat) : Prop := ∀ (H : Heap) (locs : List Loc) (cells slots : Nat) (ls : Array Slot), LW D y s b i H locs cells slots ls → W p l e room_1 s m #[.ref b] below meth c H locs cells slots (lw_Z below #[.ref b] s) (F0 m pc ls [])
theorem in_s {i L j : Nat} (h : i + 6 ≤ L) (hL : L ≤ 3072) (hj : j < 6) : vp_in (nI i + nI j) L := by
  rw [nI_add]
  exact vp_in_nI (by omega) (by omega)
