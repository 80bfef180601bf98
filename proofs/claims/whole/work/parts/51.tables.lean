/-! tables: both searches on plain numbers, with all that must hold checked on the way; run in the kernel they visit the same leaves -/
def ctX (n s k : Nat) (q : List Nat × Nat) : List Nat × Nat := if k + 1 = n ∨ s / 2 ^ k % 2 = 1 then (q.1 ++ [q.2 + 1], 0) else (q.1, q.2 + 1)
def ct (n s : Nat) : List Nat := (itr (ctX n s) n 0 ([], 0)).1
def gt (l : List Nat) (i : Nat) : Nat := l.getD i 0
def wcN (n told cuts : Nat) : Nat := if told = 0 then cuts else if n ≤ told then cuts else cuts ||| 2 ^ (told - 1)
def CLi (ρ : Nat → Option (List Nat)) : Nat → Nat → Option (List Nat)
  | 0, _ => some []
  | k + 1, v => match ρ v with
    | none => none
    | some L => match CLi ρ k (v + 1) with
      | none => none
      | some L' => some (L ++ L')
def CL (n ac dn : Nat) : Nat → Nat → Nat → Nat → Nat → List Nat → List Nat → Option (List Nat)
  | 0, _, _, _, _, _, _ => none
  | d + 1, x1, x2, told, cuts, R, C =>
    if dn ≤ x1 then some [cuts]
    else if R.length ≤ x1 then none
    else if ac ≤ x2 then (if gt R x1 = 0 then CL n ac dn d (x1 + 1) 0 told cuts R C else some [])
    else if C.length ≤ x2 then none
    else CLi (fun v => if told + v ≤ n then CL n ac dn d x1 (x2 + 1) (told + v) (wcN n (told + v) cuts) (R.set x1 (gt R x1 - v)) (C.set x2 (gt C x2 - v)) else none) (min (gt R x1) (gt C x2) + 1) 0
/-- what a whole table tells: told cell by cell -/
def TD (n : Nat) (E : List Nat) : Nat → Nat → Nat → Nat → Option Nat
  | 0, _, x1, _ => some x1
  | d + 1, i, x1, x2 => if gt E i = 0 then none else if 20 < x2 + gt E i then none else if gt E i = 1 then TD n E d (i + 1) x1 x2 else if n ≤ x2 + (gt E i - 1) then TD n E d (i + 1) x1 (x2 + (gt E i - 1)) else TD n E d (i + 1) (x1 ||| 2 ^ (x2 + (gt E i - 1) - 1)) (x2 + (gt E i - 1))
/-- the model's search; cells hold their number and 1; the place c stands as c + 1 -/
def ML (n ac dn : Nat) : Nat → Nat → List Nat → List Nat → List Nat → Option (List Nat)
  | 0, _, _, _, _ => none
  | _ + 1, 0, _, _, _ => some []
  | f + 1, c + 1, R, C, E =>
    if c = dn * ac then
      match TD n E (dn * ac) 0 0 0 with
      | none => none
      | some cuts => match ML n ac dn f c R C E with
        | none => none
        | some L => some (cuts :: L)
    else if E.length ≤ c then none
    else if R.length ≤ c / ac then none
    else if C.length ≤ c % ac then none
    else if 9 < gt E c then none
    else if min (gt E c) 1 ≤ gt R (c / ac) ∧ min (gt E c) 1 ≤ gt C (c % ac) then
      (if (c % ac + 1 < ac ∨ gt R (c / ac) - min (gt E c) 1 = 0) ∧ (c / ac + 1 < dn ∨ gt C (c % ac) - min (gt E c) 1 = 0) then
        (if c + 1 < dn * ac then (if E.length ≤ c + 1 then none else ML n ac dn f (c + 2) (R.set (c / ac) (gt R (c / ac) - min (gt E c) 1)) (C.set (c % ac) (gt C (c % ac) - min (gt E c) 1)) ((E.set c (gt E c + 1)).set (c + 1) 0))
        else ML n ac dn f (c + 2) (R.set (c / ac) (gt R (c / ac) - min (gt E c) 1)) (C.set (c % ac) (gt C (c % ac) - min (gt E c) 1)) (E.set c (gt E c + 1)))
      else ML n ac dn f (c + 1) (R.set (c / ac) (gt R (c / ac) - min (gt E c) 1)) (C.set (c % ac) (gt C (c % ac) - min (gt E c) 1)) (E.set c (gt E c + 1)))
    else if 50 < gt R (c / ac) + gt E c ∨ 50 < gt C (c % ac) + gt E c then none
    else ML n ac dn f c (R.set (c / ac) (gt R (c / ac) + (gt E c - 1))) (C.set (c % ac) (gt C (c % ac) + (gt E c - 1))) (E.set c 0)
def z25 : List Nat := [0, 0, 0, 0, 0, 0, 0, 0, 0, 0, 0, 0, 0, 0, 0, 0, 0, 0, 0, 0, 0, 0, 0, 0, 0]
def tabs (n p q : Nat) : Option (List Nat) := CL n (ct n p).length (ct n q).length 40 0 0 0 0 (ct n q) (ct n p)
def tabB (n p q : Nat) : Bool := match tabs n p q with
  | none => false
  | some L => ML n (ct n p).length (ct n q).length 100000 1 (ct n q) (ct n p) z25 == some L && decide (L.length < 1000)
theorem tab_4 : ∀ n, n ≤ 4 → 1 ≤ n → ∀ p, p < 2 ^ (n - 1) → ∀ q, q < 2 ^ (n - 1) → tabB n p q = true := by decide +kernel
