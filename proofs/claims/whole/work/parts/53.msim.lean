/-! the model's tables -/
/-- cells below c1 hold their number, and 1 more in E -/
def RE (E c1 : Nat) (ce : Nat → Int32) : Prop := ∀ i, i < c1 → ce i = nI (gt E i) + (-1 : Int32)
theorem e0m : nI 0 + (-1 : Int32) = -1 := by decide
theorem cellv {e : Nat} (h : 1 ≤ e) : nI e + (-1 : Int32) = nI (e - 1) := by
  obtain ⟨d, rfl⟩ : ∃ d, e = d + 1 := ⟨e - 1, by omega⟩
  rw [pk_m1]; rfl
theorem cell_ge {e : Nat} (h : e < 100) {α : Type} (A B : α) : (if (0 : Int32) ≤ nI e + (-1 : Int32) then A else B) = if e = 0 then B else A := by
  by_cases c : e = 0
  · subst c; rw [if_pos rfl, e0m, if_neg (by decide)]
  · rw [cellv (by omega), if_neg c, if_pos (nI_pos' (by omega))]
theorem cell_d {e : Nat} (h : e < 100) : nI e - (if e = 0 then (0 : Int32) else nI e + (-1 : Int32)) = nI (mn e 1) := by
  rw [mn_eq]
  by_cases c : e = 0
  · subst c; rfl
  · rw [if_neg c, cellv (by omega), pk_sub (by omega)]; exact congrArg nI (by omega)
theorem cell_n {e : Nat} (h : e < 100) : nI e + (-1 : Int32) + 1 = nI e := by
  by_cases c : e = 0
  · subst c; rfl
  · rw [cellv (by omega), nI_1]; exact congrArg nI (by omega)
theorem m_told {n : Nat} {al ce : Nat → Int32} (hal : al 0 = nI n) (hn : n ≤ 5) {ac dn E : Nat} (hac : ac ≤ 5) (hdn : dn ≤ 5) (hE : RE E (dn * ac) ce) : ∀ d i x1 x2 f L, TD n E d i x1 x2 = some L → i + d = dn * ac → d < f → x2 < 100 → F_X6_told_6 (nI dn) (nI ac) al ce f (nI x1) (nI x2) (nI i) = some (nI L) := by
  have hb : dn * ac ≤ 5 * 5 := Nat.mul_le_mul hdn hac
  intro d
  induction d with
  | zero =>
    intro i x1 x2 f L h hi hf hx
    obtain ⟨f, rfl⟩ : ∃ g, f = g + 1 := ⟨f - 1, by omega⟩
    obtain rfl := Option.some.inj h
    rw [E_X6_told_6, pk_mul, ifLe (by omega) (by omega) (by omega)]
  | succ d ih =>
    intro i x1 x2 f L h hi hf hx
    obtain ⟨f, rfl⟩ : ∃ g, f = g + 1 := ⟨f - 1, by omega⟩
    unfold TD at h
    simp only [fo_eq] at h
    have hg := gt_lt E i
    by_cases c0 : gt E i = 0
    · rw [cond_t (beq_t c0)] at h; cases h
    rw [cond_f (beq_f c0)] at h
    by_cases c1 : 20 ≤ x2 + (gt E i - 1)
    · rw [cond_t (show Nat.ble 20 (Nat.add x2 (Nat.sub (gt E i) 1)) = true from ble_t c1)] at h; cases h
    rw [cond_f (show Nat.ble 20 (Nat.add x2 (Nat.sub (gt E i) 1)) = false from ble_f (by show x2 + (gt E i - 1) < 20; omega))] at h
    have h5 := ih (i + 1) (cb n (x2 + (gt E i - 1)) (gt E i - 1) x1) (x2 + (gt E i - 1)) f L h (by omega) (by omega) (by omega)
    rw [E_X6_told_6, pk_mul, ifNle (by omega) (by omega) (by omega), xgI (by omega) (by omega), nI_clamp (by omega), hE i (by omega), cellv (by omega), nI_add, bnd (m_n hal), i0, nI_or, Nat.or_zero, nI_1]
    unfold cb at h5
    by_cases c2 : gt E i - 1 = 0
    · rw [ifLe (by omega) (by omega) (by omega)]
      rw [cond_t (beq_t c2)] at h5
      exact h5
    · rw [ifNle (by omega) (by omega) (by omega)]
      rw [cond_f (beq_f c2)] at h5
      by_cases c3 : n ≤ x2 + (gt E i - 1)
      · rw [ifLe (by omega) (by omega) c3]
        rw [cond_t (ble_t c3)] at h5
        exact h5
      · rw [ifNle (by omega) (by omega) (by omega), i1, pk_sub (by omega), ← i1, shl1 (by omega), nI_or]
        rw [cond_f (ble_f (by omega))] at h5
        exact h5
section MT
variable {ac dn c R C E : Nat} {rl cl ce : Nat → Int32}
theorem cell_ix (hac : ac ≤ 5) (hdn : dn ≤ 5) (hc : c < dn * ac) : c / ac < dn ∧ c % ac < ac ∧ 0 < ac ∧ dn * ac ≤ 25 := by
  have hb : dn * ac ≤ 5 * 5 := Nat.mul_le_mul hdn hac
  have h0 : 0 < ac := by
    rcases Nat.eq_zero_or_pos ac with h | h
    · subst h; rw [Nat.mul_zero] at hc; omega
    · exact h
  exact ⟨Nat.div_lt_of_lt_mul (by rw [Nat.mul_comm]; exact hc), Nat.mod_lt _ h0, h0, hb⟩
theorem m_puts (hac : ac ≤ 5) (hdn : dn ≤ 5) (hc : c < dn * ac) (hR : RD R dn rl) (hC : RD C ac cl) (hE : RE E (c + 1) ce) (x : Int32) :
    F_X6_puts (nI ac) (nI c) x rl cl ce = some (upd rl (c / ac) (nI (gt R (c / ac)) - (x - (if gt E c = 0 then (0 : Int32) else nI (gt E c) + (-1 : Int32)))), upd cl (c % ac) (nI (gt C (c % ac)) - (x - (if gt E c = 0 then (0 : Int32) else nI (gt E c) + (-1 : Int32)))), upd ce c x) := by
  obtain ⟨h1, h2, h3, h4⟩ := cell_ix hac hdn hc
  have hg := gt_lt E c
  have e20 : ∀ t, F_X6_puts_20 (nI ac) (nI c) x x t rl cl ce = some (upd rl (c / ac) (nI (gt R (c / ac)) - (x - t)), upd cl (c % ac) (nI (gt C (c % ac)) - (x - t)), upd ce c x) := fun t => by
    unfold F_X6_puts_20
    rw [xdI h3 (by omega), xdI h3 (by omega), pk_rem (by omega) h3 (by omega), pk_div (by omega) h3 (by omega), xgI (by omega) (by omega), xgI (by omega) (by omega), xgI (by omega) (by omega), nI_clamp (by omega), nI_clamp (by omega), nI_clamp (by omega), hR _ h1, hC _ h2]
  unfold F_X6_puts
  rw [xgI (by omega) (by omega), nI_clamp (by omega), e20, e20, hE c (by omega), cell_ge (by omega)]
  by_cases c0 : gt E c = 0
  · rw [if_pos c0, if_pos c0]
  · rw [if_neg c0, if_neg c0]
theorem m_putsNext (hac : ac ≤ 5) (hdn : dn ≤ 5) (hc : c < dn * ac) (hR : RD R dn rl) (hC : RD C ac cl) (hE : RE E (c + 1) ce) :
    F_X6_putsNext (nI ac) (nI c) rl cl ce = if mn (gt E c) 1 ≤ gt R (c / ac) ∧ mn (gt E c) 1 ≤ gt C (c % ac) then some (1, upd rl (c / ac) (nI (gt R (c / ac) - mn (gt E c) 1)), upd cl (c % ac) (nI (gt C (c % ac) - mn (gt E c) 1)), upd ce c (nI (gt E c))) else some (0, rl, cl, ce) := by
  obtain ⟨h1, h2, h3, h4⟩ := cell_ix hac hdn hc
  have hg := gt_lt E c
  have hgR := gt_lt R (c / ac)
  have hgC := gt_lt C (c % ac)
  have hm : mn (gt E c) 1 ≤ 1 := by rw [mn_eq]; omega
  have e43 : F_X6_putsNext_43 (nI ac) (nI c) (nI (c / ac)) (nI (c % ac)) (nI (gt E c)) (if gt E c = 0 then (0 : Int32) else nI (gt E c) + (-1 : Int32)) rl cl ce = if mn (gt E c) 1 ≤ gt R (c / ac) ∧ mn (gt E c) 1 ≤ gt C (c % ac) then some (1, upd rl (c / ac) (nI (gt R (c / ac) - mn (gt E c) 1)), upd cl (c % ac) (nI (gt C (c % ac) - mn (gt E c) 1)), upd ce c (nI (gt E c))) else some (0, rl, cl, ce) := by
    unfold F_X6_putsNext_43
    rw [xgI (by omega) (by omega), xgI (by omega) (by omega), nI_clamp (by omega), nI_clamp (by omega), hR _ h1, hC _ h2, bnd (m_puts hac hdn hc hR hC hE _), cell_d (by omega)]
    by_cases a1 : mn (gt E c) 1 ≤ gt R (c / ac)
    · rw [ifNlt (by omega) (by omega) a1]
      by_cases a2 : mn (gt E c) 1 ≤ gt C (c % ac)
      · rw [ifLe (by omega) (by omega) a2, if_pos ⟨a1, a2⟩, pk_sub a1, pk_sub a2]
      · rw [ifNle (by omega) (by omega) (by omega), if_neg (fun q => a2 q.2)]
    · rw [ifLt (by omega) (by omega) (by omega), if_neg (fun q => a1 q.1)]
  unfold F_X6_putsNext
  rw [xdI h3 (by omega), xdI h3 (by omega), xgI (by omega) (by omega), nI_clamp (by omega), hE c (by omega), cell_n (by omega), pk_rem (by omega) h3 (by omega), pk_div (by omega) h3 (by omega), cell_ge (by omega)]
  by_cases c0 : gt E c = 0
  · rw [if_pos c0] at e43 ⊢; exact e43
  · rw [if_neg c0] at e43 ⊢; exact e43
theorem m_isWhole (hac : ac ≤ 5) (hdn : dn ≤ 5) (hc : c < dn * ac) (hR : RD R dn rl) (hC : RD C ac cl) :
    F_X6_isWhole (nI dn) (nI ac) rl cl (nI c) = some (bI ((decide (c % ac + 2 ≤ ac) || decide (gt R (c / ac) = 0)) && (decide (c / ac + 2 ≤ dn) || decide (gt C (c % ac) = 0)))) := by
  obtain ⟨h1, h2, h3, h4⟩ := cell_ix hac hdn hc
  obtain ⟨r, hr⟩ : ∃ r, c / ac = r := ⟨_, rfl⟩
  obtain ⟨k, hk⟩ : ∃ k, c % ac = k := ⟨_, rfl⟩
  rw [hr] at h1 ⊢
  rw [hk] at h2 ⊢
  have hgR := gt_lt R r
  have hgC := gt_lt C k
  have e29 : F_X6_isWhole_29 (nI dn) (nI ac) cl (nI c) = some (bI (decide (r + 2 ≤ dn) || decide (gt C k = 0))) := by
    unfold F_X6_isWhole_29
    rw [xdI h3 (by omega), xdI h3 (by omega), pk_rem (by omega) h3 (by omega), pk_div (by omega) h3 (by omega), hr, hk, xgI (by omega) (by omega), nI_clamp (by omega), hC _ h2, i1, pk_sub (by omega), i0]
    by_cases a1 : r + 2 ≤ dn
    · rw [ifLt (by omega) (by omega) (by omega), decide_eq_true a1]; rfl
    · rw [ifNlt (by omega) (by omega) (by omega), decide_eq_false a1]
      by_cases a2 : gt C k = 0
      · rw [ifEq a2, decide_eq_true a2]; rfl
      · rw [ifNe (by omega) (by omega) a2, decide_eq_false a2]; rfl
  unfold F_X6_isWhole
  rw [xdI h3 (by omega), xdI h3 (by omega), pk_rem (by omega) h3 (by omega), pk_div (by omega) h3 (by omega), hr, hk, xgI (by omega) (by omega), nI_clamp (by omega), hR _ h1, i1, pk_sub (by omega), e29, i0]
  by_cases a1 : k + 2 ≤ ac
  · rw [ifLt (by omega) (by omega) (by omega), decide_eq_true a1]; rfl
  · rw [ifNlt (by omega) (by omega) (by omega), decide_eq_false a1]
    by_cases a2 : gt R r = 0
    · rw [ifEq a2, decide_eq_true a2]; rfl
    · rw [ifNe (by omega) (by omega) a2, decide_eq_false a2]; rfl
end MT
theorem leaf_m (w : Int32) (cuts : Nat) (L : List Nat) (x : Nat) : x + (cuts :: L).countP (mt w) = (if mt w cuts then x + 1 else x) + L.countP (mt w) := by
  rw [List.countP_cons]
  by_cases c : mt w cuts
  · rw [if_pos c, if_pos c]; omega
  · rw [if_neg c, if_neg c]; omega
theorem m_ways {n ac dn : Nat} {al : Nat → Int32} (hal : al 0 = nI n) (hn : n ≤ 5) (hac : ac ≤ 5) (hdn : dn ≤ 5) (w : Int32) : ∀ g f c1 R C E L x rl cl ce, ML n ac dn g c1 R C E = some L → g ≤ f → RD R dn rl → RD C ac cl → (∀ i, i < c1 → i < dn * ac → ce i = nI (gt E i) + (-1 : Int32)) →
    ∃ rl' cl' ce', F_X6_byTables_71 al w f (nI x) (nI c1 + (-1 : Int32)) (nI dn) (nI ac) rl cl ce = some (nI (x + L.countP (mt w)), nI dn, nI ac, rl', cl', ce') := by
  have hb : dn * ac ≤ 5 * 5 := Nat.mul_le_mul hdn hac
  intro g
  induction g with
  | zero => intro f c1 R C E L x rl cl ce h; cases h
  | succ g ih =>
    intro f c1 R C E L x rl cl ce h hf hR hC hE
    obtain ⟨f, rfl⟩ : ∃ g, f = g + 1 := ⟨f - 1, by omega⟩
    cases c1 with
    | zero =>
      obtain rfl := Option.some.inj h
      rw [E_X6_byTables_71, e0m, if_pos (by decide)]
      exact ⟨rl, cl, ce, rfl⟩
    | succ c =>
      have h' : MLc n ac dn (ML n ac dn g) c R C E = some L := h
      clear h
      unfold MLc at h'
      simp only [fo_eq] at h'
      by_cases c0 : c = dn * ac
      · rw [cond_t (show Nat.beq c (Nat.mul dn ac) = true from beq_t c0)] at h'
        cases hT : TD n E (Nat.mul dn ac) 0 0 0 with
        | none => rw [hT] at h'; cases h'
        | some cuts =>
          rw [hT] at h'
          dsimp only at h'
          cases hM : ML n ac dn g c R C E with
          | none => rw [hM] at h'; cases h'
          | some L' =>
            rw [hM] at h'
            obtain rfl := Option.some.inj h'
            have ht := m_told hal hn hac hdn (E := E) (ce := ce) (fun i hi => hE i (by omega) hi) (dn * ac) 0 0 0 xF cuts hT (by omega) (xF_ge (by omega)) (by omega)
            have hrec := fun y => ih f c R C E L' y rl cl ce hM (by omega) hR hC (fun i h1 h2 => hE i (by omega) h2)
            rw [E_X6_byTables_71, pk_m1, if_neg (nI_pos (by omega)), pk_mul, ifEq c0, leaf_m]
            by_cases cw : w = -1
            · rw [if_pos cw, i1, nI_add, if_pos (show mt w cuts = true from decide_eq_true (Or.inl cw))]
              exact hrec (x + 1)
            · have ht' : F_X6_told (nI dn) (nI ac) al ce = some (nI cuts) := ht
              rw [if_neg cw, bnd ht', i1, nI_add, i0, nI_add, Nat.add_zero]
              by_cases cw2 : nI cuts = w
              · rw [if_pos cw2, if_pos (show mt w cuts = true from decide_eq_true (Or.inr cw2.symm))]
                exact hrec (x + 1)
              · rw [if_neg cw2, if_neg (show ¬ mt w cuts = true by unfold mt; rw [decide_eq_false (fun q => q.elim cw (fun q => cw2 q.symm))]; decide)]
                exact hrec x
      · rw [cond_f (show Nat.beq c (Nat.mul dn ac) = false from beq_f c0)] at h'
        by_cases c0' : dn * ac ≤ c
        · rw [cond_t (show Nat.ble (Nat.mul dn ac) c = true from ble_t c0')] at h'; cases h'
        rw [cond_f (show Nat.ble (Nat.mul dn ac) c = false from ble_f (by show c < dn * ac; omega))] at h'
        have hc : c < dn * ac := by omega
        obtain ⟨h1, h2, h3, h4⟩ := cell_ix hac hdn hc
        by_cases c9 : 9 ≤ gt E c
        · rw [cond_t (ble_t c9)] at h'; cases h'
        rw [cond_f (ble_f (by omega))] at h'
        have hE1 : RE E (c + 1) ce := fun i hi => hE i hi (by omega)
        have hu : mn (gt E c) 1 = min (gt E c) 1 := mn_eq _ _
        rw [E_X6_byTables_71, pk_m1, if_neg (nI_pos (by omega)), pk_mul, ifNe (by omega) (by omega) c0, m_putsNext hac hdn hc hR hC hE1]
        by_cases cc : mn (gt E c) 1 ≤ gt R (c / ac) ∧ mn (gt E c) 1 ≤ gt C (c % ac)
        · rw [cond_t (show cond (Nat.ble (mn (gt E c) 1) (gt R (Nat.div c ac))) (Nat.ble (mn (gt E c) 1) (gt C (Nat.mod c ac))) false = true by rw [cond_t (show Nat.ble (mn (gt E c) 1) (gt R (Nat.div c ac)) = true from ble_t cc.1)]; exact ble_t cc.2)] at h'
          have hR' := hR.sub h1 cc.1
          have hC' := hC.sub h2 cc.2
          have hw := m_isWhole hac hdn hc hR' hC'
          have g1 : gt (sb R (c / ac) (mn (gt E c) 1)) (c / ac) = gt R (c / ac) - mn (gt E c) 1 := gt_sb0 cc.1
          have g2 : gt (sb C (c % ac) (mn (gt E c) 1)) (c % ac) = gt C (c % ac) - mn (gt E c) 1 := gt_sb0 cc.2
          rw [g1, g2] at hw
          have hEad : ∀ i, i < c + 1 → i < dn * ac → upd ce c (nI (gt E c)) i = nI (gt (ad E c 1) i) + (-1 : Int32) := fun i hi h5 => by
            rw [gt_ad (by omega)]
            unfold upd
            by_cases q : i = c
            · rw [if_pos q, if_pos q, pk_m1]
            · rw [if_neg q, if_neg q]; exact hE i hi h5
          rw [if_pos cc, bnd rfl, if_neg n10]
          dsimp only
          rw [bnd hw]
          by_cases ca : c % ac + 2 ≤ ac ∨ gt R (c / ac) = mn (gt E c) 1
          · have ca' : (decide (c % ac + 2 ≤ ac) || decide (gt R (c / ac) - mn (gt E c) 1 = 0)) = true := by
              rcases ca with ca | ca
              · rw [decide_eq_true ca]; rfl
              · rw [decide_eq_true (show gt R (c / ac) - mn (gt E c) 1 = 0 by omega)]; exact Bool.or_true _
            by_cases cb : c / ac + 2 ≤ dn ∨ gt C (c % ac) = mn (gt E c) 1
            · have cb' : (decide (c / ac + 2 ≤ dn) || decide (gt C (c % ac) - mn (gt E c) 1 = 0)) = true := by
                rcases cb with cb | cb
                · rw [decide_eq_true cb]; rfl
                · rw [decide_eq_true (show gt C (c % ac) - mn (gt E c) 1 = 0 by omega)]; exact Bool.or_true _
              have e1 : cond (cond (Nat.ble (Nat.add (Nat.mod c ac) 2) ac) true (Nat.beq (gt R (Nat.div c ac)) (mn (gt E c) 1))) (cond (Nat.ble (Nat.add (Nat.div c ac) 2) dn) true (Nat.beq (gt C (Nat.mod c ac)) (mn (gt E c) 1))) false = true := by
                have q1 : cond (Nat.ble (Nat.add (Nat.mod c ac) 2) ac) true (Nat.beq (gt R (Nat.div c ac)) (mn (gt E c) 1)) = true := by
                  rcases ca with ca | ca
                  · rw [cond_t (show Nat.ble (Nat.add (Nat.mod c ac) 2) ac = true from ble_t ca)]
                  · rw [show Nat.beq (gt R (Nat.div c ac)) (mn (gt E c) 1) = true from beq_t ca]; cases Nat.ble (Nat.add (Nat.mod c ac) 2) ac <;> rfl
                have q2 : cond (Nat.ble (Nat.add (Nat.div c ac) 2) dn) true (Nat.beq (gt C (Nat.mod c ac)) (mn (gt E c) 1)) = true := by
                  rcases cb with cb | cb
                  · rw [cond_t (show Nat.ble (Nat.add (Nat.div c ac) 2) dn = true from ble_t cb)]
                  · rw [show Nat.beq (gt C (Nat.mod c ac)) (mn (gt E c) 1) = true from beq_t cb]; cases Nat.ble (Nat.add (Nat.div c ac) 2) dn <;> rfl
                rw [q1, q2]; rfl
              rw [cond_t e1] at h'
              rw [ca', cb', if_neg (show ¬ bI (true && true) = 0 by decide), nI_1]
              by_cases cd : c + 1 < dn * ac
              · rw [cond_t (show Nat.ble (Nat.add c 2) (Nat.mul dn ac) = true from ble_t (by show c + 2 ≤ dn * ac; omega))] at h'
                rw [ifNle (by omega) (by omega) cd, xgI (by omega) (by omega), nI_clamp (by omega), ← pk_m1 (c + 1)]
                refine ih f (c + 2) _ _ _ L x _ _ _ h' (by omega) hR' hC' (fun i hi h5 => ?_)
                show upd _ (c + 1) (-1) i = nI (gt (sb (ad E c 1) (c + 1) (gt (ad E c 1) (c + 1))) i) + (-1 : Int32)
                rw [gt_sb (Nat.le_refl _), Nat.sub_self]
                by_cases q : i = c + 1
                · rw [if_pos q, e0m]; unfold upd; rw [if_pos q]
                · rw [if_neg q, ← hEad i (by omega) h5]; show (if i = c + 1 then _ else _) = _; rw [if_neg q]
              · rw [cond_f (show Nat.ble (Nat.add c 2) (Nat.mul dn ac) = false from ble_f (by show dn * ac < c + 2; omega))] at h'
                rw [ifLe (by omega) (by omega) (by omega), ← pk_m1 (c + 1)]
                exact ih f (c + 2) _ _ _ L x _ _ _ h' (by omega) hR' hC' (fun i hi h5 => hEad i (by omega) h5)
            · have cb' : (decide (c / ac + 2 ≤ dn) || decide (gt C (c % ac) - mn (gt E c) 1 = 0)) = false := by
                rw [decide_eq_false (fun q => cb (Or.inl q)), decide_eq_false (fun q => cb (Or.inr (by omega)))]; rfl
              have e1 : cond (cond (Nat.ble (Nat.add (Nat.mod c ac) 2) ac) true (Nat.beq (gt R (Nat.div c ac)) (mn (gt E c) 1))) (cond (Nat.ble (Nat.add (Nat.div c ac) 2) dn) true (Nat.beq (gt C (Nat.mod c ac)) (mn (gt E c) 1))) false = false := by
                have q2 : cond (Nat.ble (Nat.add (Nat.div c ac) 2) dn) true (Nat.beq (gt C (Nat.mod c ac)) (mn (gt E c) 1)) = false := by
                  rw [cond_f (show Nat.ble (Nat.add (Nat.div c ac) 2) dn = false from ble_f (by show dn < c / ac + 2; omega))]
                  exact beq_f (fun q => cb (Or.inr q))
                rw [q2]; cases cond (Nat.ble (Nat.add (Nat.mod c ac) 2) ac) true (Nat.beq (gt R (Nat.div c ac)) (mn (gt E c) 1)) <;> rfl
              rw [cond_f e1] at h'
              rw [cb', Bool.and_false, if_pos (show bI false = 0 from rfl), ← pk_m1 c]
              exact ih f (c + 1) _ _ _ L x _ _ _ h' (by omega) hR' hC' hEad
          · have ca' : (decide (c % ac + 2 ≤ ac) || decide (gt R (c / ac) - mn (gt E c) 1 = 0)) = false := by
              rw [decide_eq_false (fun q => ca (Or.inl q)), decide_eq_false (fun q => ca (Or.inr (by omega)))]; rfl
            have e1 : cond (cond (Nat.ble (Nat.add (Nat.mod c ac) 2) ac) true (Nat.beq (gt R (Nat.div c ac)) (mn (gt E c) 1))) (cond (Nat.ble (Nat.add (Nat.div c ac) 2) dn) true (Nat.beq (gt C (Nat.mod c ac)) (mn (gt E c) 1))) false = false := by
              have q1 : cond (Nat.ble (Nat.add (Nat.mod c ac) 2) ac) true (Nat.beq (gt R (Nat.div c ac)) (mn (gt E c) 1)) = false := by
                rw [cond_f (show Nat.ble (Nat.add (Nat.mod c ac) 2) ac = false from ble_f (by show ac < c % ac + 2; omega))]
                exact beq_f (fun q => ca (Or.inr q))
              rw [q1]; rfl
            rw [cond_f e1] at h'
            rw [ca', Bool.false_and, if_pos (show bI false = 0 from rfl), ← pk_m1 c]
            exact ih f (c + 1) _ _ _ L x _ _ _ h' (by omega) hR' hC' hEad
        · rw [cond_f (show cond (Nat.ble (mn (gt E c) 1) (gt R (Nat.div c ac))) (Nat.ble (mn (gt E c) 1) (gt C (Nat.mod c ac))) false = false by
            by_cases q : mn (gt E c) 1 ≤ gt R (c / ac)
            · rw [cond_t (show Nat.ble (mn (gt E c) 1) (gt R (Nat.div c ac)) = true from ble_t q)]
              exact ble_f (by show gt C (c % ac) < mn (gt E c) 1; omega)
            · rw [cond_f (show Nat.ble (mn (gt E c) 1) (gt R (Nat.div c ac)) = false from ble_f (by show gt R (c / ac) < mn (gt E c) 1; omega))])] at h'
          by_cases c16 : 16 ≤ gt R (c / ac) + gt E c
          · rw [cond_t (show cond (Nat.ble 16 (Nat.add (gt R (Nat.div c ac)) (gt E c))) true (Nat.ble 16 (Nat.add (gt C (Nat.mod c ac)) (gt E c))) = true by rw [cond_t (show Nat.ble 16 (Nat.add (gt R (Nat.div c ac)) (gt E c)) = true from ble_t c16)])] at h'
            cases h'
          by_cases c17 : 16 ≤ gt C (c % ac) + gt E c
          · rw [cond_t (show cond (Nat.ble 16 (Nat.add (gt R (Nat.div c ac)) (gt E c))) true (Nat.ble 16 (Nat.add (gt C (Nat.mod c ac)) (gt E c))) = true by rw [cond_f (show Nat.ble 16 (Nat.add (gt R (Nat.div c ac)) (gt E c)) = false from ble_f (by show gt R (c / ac) + gt E c < 16; omega))]; exact ble_t c17)] at h'
            cases h'
          rw [cond_f (show cond (Nat.ble 16 (Nat.add (gt R (Nat.div c ac)) (gt E c))) true (Nat.ble 16 (Nat.add (gt C (Nat.mod c ac)) (gt E c))) = false by rw [cond_f (show Nat.ble 16 (Nat.add (gt R (Nat.div c ac)) (gt E c)) = false from ble_f (by show gt R (c / ac) + gt E c < 16; omega))]; exact ble_f (by show gt C (c % ac) + gt E c < 16; omega))] at h'
          have eback : ∀ y, nI y - ((0 : Int32) - (if gt E c = 0 then (0 : Int32) else nI (gt E c) + (-1 : Int32))) = nI (y + (gt E c - 1)) := fun y => by
            rw [Int32.zero_sub, Int32.sub_eq_add_neg, Int32.neg_neg]
            by_cases q : gt E c = 0
            · rw [if_pos q, q, i0, nI_add]
            · rw [if_neg q, cellv (by omega), nI_add]
          rw [if_neg cc, bnd rfl, if_pos rfl]
          dsimp only
          rw [bnd (m_puts hac hdn hc hR hC hE1 0), eback, eback]
          dsimp only
          rw [xgI (by omega) (by omega), nI_clamp (by omega)]
          refine ih f c _ _ _ L x _ _ _ h' (by omega) (hR.add h1 (show gt R (c / ac) + (gt E c - 1) < 16 by omega)) (hC.add h2 (show gt C (c % ac) + (gt E c - 1) < 16 by omega)) (fun i hi h5 => ?_)
          show upd (upd ce c 0) c (-1) i = nI (gt (sb E c (gt E c)) i) + (-1 : Int32)
          rw [gt_sb (Nat.le_refl _), if_neg (by omega)]
          unfold upd
          rw [if_neg (by omega), if_neg (by omega)]
          exact hE i (by omega) h5
