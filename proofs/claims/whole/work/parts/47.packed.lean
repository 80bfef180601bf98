/-! descents, inverses, first and last orders of the classes, packed (wip/whole/gen/tab47.py) -/
def DQ : Nat → Nat
  | 1 => 0x0
  | 2 => 0x10
  | 3 => 0x312120
  | 4 => 0x735351625351624251624240
  | 5 => 0xf7b7b3d5b7b3d595b3d59591e6a6a2d5b7b3d595b3d59591e6a6a2c4a6a2d595b3d59591e6a6a2c4a6a2c484a2d59591e6a6a2c4a6a2c484a2c48480
  | _ => 0
def VQ : Nat → Nat
  | 1 => 0x0
  | 2 => 0x80
  | 3 => 0x2830808080
  | 4 => 0x2e44a8f1624b102838508263490c0e182830808080
  | 5 => 0xef7f8d98f07adddf5e2bfd74f4d176e57a95a9d1a1ed7b8588d03a5cdd5a23ed54b45074e17285899120e76f6d586f795ad95213ccf3f34e6ed95a55490f9ecb371cb6acf24cc529a32c32704862c0e9b3868c982e44a8f1624b102838508263490c0e182830808080
  | _ => 0
def FQ : Nat → Nat
  | 1 => 0x0
  | 2 => 0x80
  | 3 => 0xa04100
  | 4 => 0x2e143811c08300
  | 5 => 0xee5ce856e1cc81ac38d026c18c00
  | _ => 0
def LQ : Nat → Nat
  | 1 => 0x0
  | 2 => 0x80
  | 3 => 0xa0c200
  | 4 => 0x2e44a892c40900
  | 5 => 0xef7f8c1eb774a1ed7b840e56b000
  | _ => 0
def dq (n o : Nat) : Nat := (DQ n >>> (4 * o)) % 16
def vq (n o : Nat) : Nat := (VQ n >>> (7 * o)) % 128
def fq (n t : Nat) : Nat := (FQ n >>> (7 * t)) % 128
def lq (n t : Nat) : Nat := (LQ n >>> (7 * t)) % 128
theorem dq_ok : ∀ n, n ≤ 5 → ∀ o, o < fac n → dq n o = de n o ∧ vq n o = vi n o := by decide +kernel
theorem fq_ok : ∀ n, n ≤ 5 → 1 ≤ n → ∀ t, t < 2 ^ (n - 1) → fq n t = fi n t ∧ lq n t < fac n ∧ dq n (lq n t) = t ∧ fq n t ≤ lq n t := by decide +kernel
theorem fq_le : ∀ n, n ≤ 5 → ∀ o, o < fac n → fq n (dq n o) ≤ o ∧ o ≤ lq n (dq n o) := by decide +kernel
def KA (n t : Nat) : List Nat := (List.range (fac n)).map fun u => 16 * dq n u + dq n (mu n (vq n u) (lq n t))
def KB (n t : Nat) : List Nat := (List.range (fac n)).map fun v => 16 * dq n (mu n (fq n t) (vq n v)) + dq n v
theorem K_ok : ∀ n, n ≤ 5 → 1 ≤ n → ∀ t, t < 2 ^ (n - 1) → (KA n t).isPerm (KB n t) = true := by decide +kernel
theorem mu_vi : ∀ n, n ≤ 5 → ∀ u, u < fac n → ∀ v, v < fac n → mu n (vq n u) (mu n u v) = v ∧ mu n u (mu n (vq n u) v) = v := by decide +kernel
