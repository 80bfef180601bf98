/-! tables: both searches on packed numbers, with all that must hold checked on the way; run in the kernel they visit the same leaves -/
def gt (x i : Nat) : Nat := Nat.mod (Nat.div x (Nat.pow 16 i)) 16
def sb (x i v : Nat) : Nat := Nat.sub x (Nat.mul v (Nat.pow 16 i))
def ad (x i v : Nat) : Nat := Nat.add x (Nat.mul v (Nat.pow 16 i))
/-- the same, but worked out first -/
def fo {α : Type} (x : Nat) (k : Nat → α) : α := Nat.rec (motive := fun _ => α) (k 0) (fun n _ => k (Nat.succ n)) x
theorem fo_eq {α : Type} (x : Nat) (k : Nat → α) : fo x k = k x := by cases x <;> rfl
def mn (a b : Nat) : Nat := cond (Nat.ble a b) a b
def ctX (n s k : Nat) (q : Nat × Nat × Nat) : Nat × Nat × Nat := if k + 1 = n ∨ s / 2 ^ k % 2 = 1 then (q.1 + 1, ad q.2.1 q.1 (q.2.2 + 1), 0) else (q.1, q.2.1, q.2.2 + 1)
def ctA (n s k : Nat) : Nat × Nat × Nat := itr (ctX n s) k 0 (0, 0, 0)
def cm (n s : Nat) : Nat := (ctA n s n).1
def cp (n s : Nat) : Nat := (ctA n s n).2.1
def wcN (n told cuts : Nat) : Nat := cond (Nat.beq told 0) cuts (cond (Nat.ble n told) cuts (Nat.lor cuts (Nat.pow 2 (Nat.sub told 1))))
def CLi (ρ : Nat → Option (List Nat)) : Nat → Nat → Option (List Nat)
  | 0, _ => some []
  | k + 1, v => match ρ v with
    | none => none
    | some L => match CLi ρ k (v + 1) with
      | none => none
      | some L' => some (L ++ L')
def CL (n ac dn : Nat) : Nat → Nat → Nat → Nat → Nat → Nat → Nat → Option (List Nat)
  | 0, _, _, _, _, _, _ => none
  | d + 1, x1, x2, told, cuts, R, C =>
    cond (Nat.ble dn x1) (some [cuts]) <|
    cond (Nat.ble ac x2) (cond (Nat.beq (gt R x1) 0) (fo (Nat.succ x1) fun x1 => CL n ac dn d x1 0 told cuts R C) (some [])) <|
    CLi (fun v => fo (Nat.add told v) fun t' => cond (Nat.ble t' n) (fo (Nat.succ x2) fun x2' => fo (wcN n t' cuts) fun cu => fo (sb R x1 v) fun R => fo (sb C x2 v) fun C => CL n ac dn d x1 x2' t' cu R C) none) (Nat.succ (mn (gt R x1) (gt C x2))) 0
/-- what a whole table tells: told cell by cell, a cell holds its number and 1 -/
def cb (n told e cuts : Nat) : Nat := cond (Nat.beq e 0) cuts (cond (Nat.ble n told) cuts (Nat.lor cuts (Nat.pow 2 (Nat.sub told 1))))
def TD (n : Nat) (E : Nat) : Nat → Nat → Nat → Nat → Option Nat
  | 0, _, x1, _ => some x1
  | d + 1, i, x1, x2 => cond (Nat.beq (gt E i) 0) none <| fo (Nat.sub (gt E i) 1) fun e => fo (Nat.add x2 e) fun t => cond (Nat.ble 20 t) none <| fo (cb n t e x1) fun x1 => fo (Nat.succ i) fun i => TD n E d i x1 t
/-- a step of the model's search; the place c stands as c + 1 -/
def MLc (n ac dn : Nat) (ρ : Nat → Nat → Nat → Nat → Option (List Nat)) (c R C E : Nat) : Option (List Nat) :=
  cond (Nat.beq c (Nat.mul dn ac)) (match TD n E (Nat.mul dn ac) 0 0 0 with
    | none => none
    | some cuts => match ρ c R C E with
      | none => none
      | some L => some (cuts :: L)) <|
  cond (Nat.ble (Nat.mul dn ac) c) none <|
  fo (Nat.div c ac) fun r => fo (Nat.mod c ac) fun k => fo (gt E c) fun e => fo (gt R r) fun R0 => fo (gt C k) fun C0 => fo (mn e 1) fun u =>
  cond (Nat.ble 9 e) none <|
  cond (cond (Nat.ble u R0) (Nat.ble u C0) false)
    (fo (sb R r u) fun R => fo (sb C k u) fun C => fo (ad E c 1) fun E =>
     cond (cond (cond (Nat.ble (Nat.add k 2) ac) true (Nat.beq R0 u)) (cond (Nat.ble (Nat.add r 2) dn) true (Nat.beq C0 u)) false)
      (fo (Nat.add c 2) fun c2 => cond (Nat.ble c2 (Nat.mul dn ac)) (fo (sb E (Nat.succ c) (gt E (Nat.succ c))) fun E => ρ c2 R C E) (ρ c2 R C E))
      (fo (Nat.succ c) fun c1 => ρ c1 R C E)) <|
  cond (cond (Nat.ble 16 (Nat.add R0 e)) true (Nat.ble 16 (Nat.add C0 e))) none <|
  fo (ad R r (Nat.sub e 1)) fun R => fo (ad C k (Nat.sub e 1)) fun C => fo (sb E c e) fun E => ρ c R C E
def MLs (n ac dn : Nat) (ρ : Nat → Nat → Nat → Nat → Option (List Nat)) (c1 R C E : Nat) : Option (List Nat) := Nat.rec (motive := fun _ => Option (List Nat)) (some []) (fun c _ => MLc n ac dn ρ c R C E) c1
def ML (n ac dn : Nat) : Nat → Nat → Nat → Nat → Nat → Option (List Nat)
  | 0, _, _, _, _ => none
  | f + 1, c1, R, C, E => MLs n ac dn (ML n ac dn f) c1 R C E
def tabs (n p q : Nat) : Option (List Nat) := CL n (cm n p) (cm n q) 40 0 0 0 0 (cp n q) (cp n p)
def tabB (n p q : Nat) : Bool := match tabs n p q with
  | none => false
  | some L => ML n (cm n p) (cm n q) 100000 1 (cp n q) (cp n p) 0 == some L && decide (L.length < 1000)
theorem tab_1 : ∀ n, n ≤ 4 → 1 ≤ n → ∀ p, p < 2 ^ (n - 1) → ∀ q, q < 2 ^ (n - 1) → tabB n p q = true := by decide +kernel
theorem tab_5a : ∀ p, p < 4 → ∀ q, q < 16 → tabB 5 p q = true := by decide +kernel
theorem tab_5b : ∀ p, p < 4 → ∀ q, q < 16 → tabB 5 (4 + p) q = true := by decide +kernel
theorem tab_5c : ∀ p, p < 4 → ∀ q, q < 16 → tabB 5 (8 + p) q = true := by decide +kernel
theorem tab_5d : ∀ p, p < 4 → ∀ q, q < 16 → tabB 5 (12 + p) q = true := by decide +kernel
theorem tab_ok {n p q : Nat} (hn : n ≤ 5) (hn1 : 1 ≤ n) (hp : p < 2 ^ (n - 1)) (hq : q < 2 ^ (n - 1)) : tabB n p q = true := by
  by_cases c : n ≤ 4
  · exact tab_1 n c hn1 p hp q hq
  · obtain rfl : n = 5 := by omega
    have hp' : p < 16 := hp
    have hq' : q < 16 := hq
    by_cases c1 : p < 4
    · exact tab_5a p c1 q hq'
    · by_cases c2 : p < 8
      · have := tab_5b (p - 4) (by omega) q hq'
        rwa [show 4 + (p - 4) = p by omega] at this
      · by_cases c3 : p < 12
        · have := tab_5c (p - 8) (by omega) q hq'
          rwa [show 8 + (p - 8) = p by omega] at this
        · have := tab_5d (p - 12) (by omega) q hq'
          rwa [show 12 + (p - 12) = p by omega] at this
theorem cut_ok : ∀ n, n ≤ 5 → ∀ s, s < 16 → ∀ k, k ≤ n → gt (ctA n s k).2.1 (ctA n s k).1 = 0 ∧ (ctA n s k).1 ≤ k ∧ (ctA n s k).2.2 ≤ k := by decide +kernel
theorem cm_ok : ∀ n, n ≤ 5 → 1 ≤ n → ∀ s, s < 16 → 1 ≤ cm n s ∧ cm n s ≤ 5 := by decide +kernel
