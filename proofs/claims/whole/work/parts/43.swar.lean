/-! Long.bitCount, byte by byte -/
def lbE (x0 : Int) : Int := (Int32.toInt (Int32.ofInt ((((Int64.toInt (Int64.ofInt (((Int64.toInt (Int64.ofInt (x0 - (Int64.toInt (Int64.ofInt (Int64.toInt (((Int64.ofInt x0).toUInt64 >>> ((Int32.ofInt 1).toInt64.toUInt64 &&& Int64.toUInt64 63)).toInt64)) &&& Int64.ofInt 6148914691236517205))) &&& Int64.ofInt 3689348814741910323)) + (Int64.toInt (Int64.ofInt (Int64.toInt (((Int64.ofInt (x0 - (Int64.toInt (Int64.ofInt (Int64.toInt (((Int64.ofInt x0).toUInt64 >>> ((Int32.ofInt 1).toInt64.toUInt64 &&& Int64.toUInt64 63)).toInt64)) &&& Int64.ofInt 6148914691236517205)))).toUInt64 >>> ((Int32.ofInt 2).toInt64.toUInt64 &&& Int64.toUInt64 63)).toInt64)) &&& Int64.ofInt 3689348814741910323))) + (Int64.toInt (((Int64.ofInt ((Int64.toInt (Int64.ofInt (x0 - (Int64.toInt (Int64.ofInt (Int64.toInt (((Int64.ofInt x0).toUInt64 >>> ((Int32.ofInt 1).toInt64.toUInt64 &&& Int64.toUInt64 63)).toInt64)) &&& Int64.ofInt 6148914691236517205))) &&& Int64.ofInt 3689348814741910323)) + (Int64.toInt (Int64.ofInt (Int64.toInt (((Int64.ofInt (x0 - (Int64.toInt (Int64.ofInt (Int64.toInt (((Int64.ofInt x0).toUInt64 >>> ((Int32.ofInt 1).toInt64.toUInt64 &&& Int64.toUInt64 63)).toInt64)) &&& Int64.ofInt 6148914691236517205)))).toUInt64 >>> ((Int32.ofInt 2).toInt64.toUInt64 &&& Int64.toUInt64 63)).toInt64)) &&& Int64.ofInt 3689348814741910323)))).toUInt64 >>> ((Int32.ofInt 4).toInt64.toUInt64 &&& Int64.toUInt64 63)).toInt64))) &&& Int64.ofInt 1085102592571150095)) + (Int64.toInt (((Int64.ofInt (Int64.toInt (Int64.ofInt (((Int64.toInt (Int64.ofInt (x0 - (Int64.toInt (Int64.ofInt (Int64.toInt (((Int64.ofInt x0).toUInt64 >>> ((Int32.ofInt 1).toInt64.toUInt64 &&& Int64.toUInt64 63)).toInt64)) &&& Int64.ofInt 6148914691236517205))) &&& Int64.ofInt 3689348814741910323)) + (Int64.toInt (Int64.ofInt (Int64.toInt (((Int64.ofInt (x0 - (Int64.toInt (Int64.ofInt (Int64.toInt (((Int64.ofInt x0).toUInt64 >>> ((Int32.ofInt 1).toInt64.toUInt64 &&& Int64.toUInt64 63)).toInt64)) &&& Int64.ofInt 6148914691236517205)))).toUInt64 >>> ((Int32.ofInt 2).toInt64.toUInt64 &&& Int64.toUInt64 63)).toInt64)) &&& Int64.ofInt 3689348814741910323))) + (Int64.toInt (((Int64.ofInt ((Int64.toInt (Int64.ofInt (x0 - (Int64.toInt (Int64.ofInt (Int64.toInt (((Int64.ofInt x0).toUInt64 >>> ((Int32.ofInt 1).toInt64.toUInt64 &&& Int64.toUInt64 63)).toInt64)) &&& Int64.ofInt 6148914691236517205))) &&& Int64.ofInt 3689348814741910323)) + (Int64.toInt (Int64.ofInt (Int64.toInt (((Int64.ofInt (x0 - (Int64.toInt (Int64.ofInt (Int64.toInt (((Int64.ofInt x0).toUInt64 >>> ((Int32.ofInt 1).toInt64.toUInt64 &&& Int64.toUInt64 63)).toInt64)) &&& Int64.ofInt 6148914691236517205)))).toUInt64 >>> ((Int32.ofInt 2).toInt64.toUInt64 &&& Int64.toUInt64 63)).toInt64)) &&& Int64.ofInt 3689348814741910323)))).toUInt64 >>> ((Int32.ofInt 4).toInt64.toUInt64 &&& Int64.toUInt64 63)).toInt64))) &&& Int64.ofInt 1085102592571150095))).toUInt64 >>> ((Int32.ofInt 8).toInt64.toUInt64 &&& Int64.toUInt64 63)).toInt64))) + (Int64.toInt (((Int64.ofInt ((Int64.toInt (Int64.ofInt (((Int64.toInt (Int64.ofInt (x0 - (Int64.toInt (Int64.ofInt (Int64.toInt (((Int64.ofInt x0).toUInt64 >>> ((Int32.ofInt 1).toInt64.toUInt64 &&& Int64.toUInt64 63)).toInt64)) &&& Int64.ofInt 6148914691236517205))) &&& Int64.ofInt 3689348814741910323)) + (Int64.toInt (Int64.ofInt (Int64.toInt (((Int64.ofInt (x0 - (Int64.toInt (Int64.ofInt (Int64.toInt (((Int64.ofInt x0).toUInt64 >>> ((Int32.ofInt 1).toInt64.toUInt64 &&& Int64.toUInt64 63)).toInt64)) &&& Int64.ofInt 6148914691236517205)))).toUInt64 >>> ((Int32.ofInt 2).toInt64.toUInt64 &&& Int64.toUInt64 63)).toInt64)) &&& Int64.ofInt 3689348814741910323))) + (Int64.toInt (((Int64.ofInt ((Int64.toInt (Int64.ofInt (x0 - (Int64.toInt (Int64.ofInt (Int64.toInt (((Int64.ofInt x0).toUInt64 >>> ((Int32.ofInt 1).toInt64.toUInt64 &&& Int64.toUInt64 63)).toInt64)) &&& Int64.ofInt 6148914691236517205))) &&& Int64.ofInt 3689348814741910323)) + (Int64.toInt (Int64.ofInt (Int64.toInt (((Int64.ofInt (x0 - (Int64.toInt (Int64.ofInt (Int64.toInt (((Int64.ofInt x0).toUInt64 >>> ((Int32.ofInt 1).toInt64.toUInt64 &&& Int64.toUInt64 63)).toInt64)) &&& Int64.ofInt 6148914691236517205)))).toUInt64 >>> ((Int32.ofInt 2).toInt64.toUInt64 &&& Int64.toUInt64 63)).toInt64)) &&& Int64.ofInt 3689348814741910323)))).toUInt64 >>> ((Int32.ofInt 4).toInt64.toUInt64 &&& Int64.toUInt64 63)).toInt64))) &&& Int64.ofInt 1085102592571150095)) + (Int64.toInt (((Int64.ofInt (Int64.toInt (Int64.ofInt (((Int64.toInt (Int64.ofInt (x0 - (Int64.toInt (Int64.ofInt (Int64.toInt (((Int64.ofInt x0).toUInt64 >>> ((Int32.ofInt 1).toInt64.toUInt64 &&& Int64.toUInt64 63)).toInt64)) &&& Int64.ofInt 6148914691236517205))) &&& Int64.ofInt 3689348814741910323)) + (Int64.toInt (Int64.ofInt (Int64.toInt (((Int64.ofInt (x0 - (Int64.toInt (Int64.ofInt (Int64.toInt (((Int64.ofInt x0).toUInt64 >>> ((Int32.ofInt 1).toInt64.toUInt64 &&& Int64.toUInt64 63)).toInt64)) &&& Int64.ofInt 6148914691236517205)))).toUInt64 >>> ((Int32.ofInt 2).toInt64.toUInt64 &&& Int64.toUInt64 63)).toInt64)) &&& Int64.ofInt 3689348814741910323))) + (Int64.toInt (((Int64.ofInt ((Int64.toInt (Int64.ofInt (x0 - (Int64.toInt (Int64.ofInt (Int64.toInt (((Int64.ofInt x0).toUInt64 >>> ((Int32.ofInt 1).toInt64.toUInt64 &&& Int64.toUInt64 63)).toInt64)) &&& Int64.ofInt 6148914691236517205))) &&& Int64.ofInt 3689348814741910323)) + (Int64.toInt (Int64.ofInt (Int64.toInt (((Int64.ofInt (x0 - (Int64.toInt (Int64.ofInt (Int64.toInt (((Int64.ofInt x0).toUInt64 >>> ((Int32.ofInt 1).toInt64.toUInt64 &&& Int64.toUInt64 63)).toInt64)) &&& Int64.ofInt 6148914691236517205)))).toUInt64 >>> ((Int32.ofInt 2).toInt64.toUInt64 &&& Int64.toUInt64 63)).toInt64)) &&& Int64.ofInt 3689348814741910323)))).toUInt64 >>> ((Int32.ofInt 4).toInt64.toUInt64 &&& Int64.toUInt64 63)).toInt64))) &&& Int64.ofInt 1085102592571150095))).toUInt64 >>> ((Int32.ofInt 8).toInt64.toUInt64 &&& Int64.toUInt64 63)).toInt64)))).toUInt64 >>> ((Int32.ofInt 16).toInt64.toUInt64 &&& Int64.toUInt64 63)).toInt64))) + (Int64.toInt (((Int64.ofInt (((Int64.toInt (Int64.ofInt (((Int64.toInt (Int64.ofInt (x0 - (Int64.toInt (Int64.ofInt (Int64.toInt (((Int64.ofInt x0).toUInt64 >>> ((Int32.ofInt 1).toInt64.toUInt64 &&& Int64.toUInt64 63)).toInt64)) &&& Int64.ofInt 6148914691236517205))) &&& Int64.ofInt 3689348814741910323)) + (Int64.toInt (Int64.ofInt (Int64.toInt (((Int64.ofInt (x0 - (Int64.toInt (Int64.ofInt (Int64.toInt (((Int64.ofInt x0).toUInt64 >>> ((Int32.ofInt 1).toInt64.toUInt64 &&& Int64.toUInt64 63)).toInt64)) &&& Int64.ofInt 6148914691236517205)))).toUInt64 >>> ((Int32.ofInt 2).toInt64.toUInt64 &&& Int64.toUInt64 63)).toInt64)) &&& Int64.ofInt 3689348814741910323))) + (Int64.toInt (((Int64.ofInt ((Int64.toInt (Int64.ofInt (x0 - (Int64.toInt (Int64.ofInt (Int64.toInt (((Int64.ofInt x0).toUInt64 >>> ((Int32.ofInt 1).toInt64.toUInt64 &&& Int64.toUInt64 63)).toInt64)) &&& Int64.ofInt 6148914691236517205))) &&& Int64.ofInt 3689348814741910323)) + (Int64.toInt (Int64.ofInt (Int64.toInt (((Int64.ofInt (x0 - (Int64.toInt (Int64.ofInt (Int64.toInt (((Int64.ofInt x0).toUInt64 >>> ((Int32.ofInt 1).toInt64.toUInt64 &&& Int64.toUInt64 63)).toInt64)) &&& Int64.ofInt 6148914691236517205)))).toUInt64 >>> ((Int32.ofInt 2).toInt64.toUInt64 &&& Int64.toUInt64 63)).toInt64)) &&& Int64.ofInt 3689348814741910323)))).toUInt64 >>> ((Int32.ofInt 4).toInt64.toUInt64 &&& Int64.toUInt64 63)).toInt64))) &&& Int64.ofInt 1085102592571150095)) + (Int64.toInt (((Int64.ofInt (Int64.toInt (Int64.ofInt (((Int64.toInt (Int64.ofInt (x0 - (Int64.toInt (Int64.ofInt (Int64.toInt (((Int64.ofInt x0).toUInt64 >>> ((Int32.ofInt 1).toInt64.toUInt64 &&& Int64.toUInt64 63)).toInt64)) &&& Int64.ofInt 6148914691236517205))) &&& Int64.ofInt 3689348814741910323)) + (Int64.toInt (Int64.ofInt (Int64.toInt (((Int64.ofInt (x0 - (Int64.toInt (Int64.ofInt (Int64.toInt (((Int64.ofInt x0).toUInt64 >>> ((Int32.ofInt 1).toInt64.toUInt64 &&& Int64.toUInt64 63)).toInt64)) &&& Int64.ofInt 6148914691236517205)))).toUInt64 >>> ((Int32.ofInt 2).toInt64.toUInt64 &&& Int64.toUInt64 63)).toInt64)) &&& Int64.ofInt 3689348814741910323))) + (Int64.toInt (((Int64.ofInt ((Int64.toInt (Int64.ofInt (x0 - (Int64.toInt (Int64.ofInt (Int64.toInt (((Int64.ofInt x0).toUInt64 >>> ((Int32.ofInt 1).toInt64.toUInt64 &&& Int64.toUInt64 63)).toInt64)) &&& Int64.ofInt 6148914691236517205))) &&& Int64.ofInt 3689348814741910323)) + (Int64.toInt (Int64.ofInt (Int64.toInt (((Int64.ofInt (x0 - (Int64.toInt (Int64.ofInt (Int64.toInt (((Int64.ofInt x0).toUInt64 >>> ((Int32.ofInt 1).toInt64.toUInt64 &&& Int64.toUInt64 63)).toInt64)) &&& Int64.ofInt 6148914691236517205)))).toUInt64 >>> ((Int32.ofInt 2).toInt64.toUInt64 &&& Int64.toUInt64 63)).toInt64)) &&& Int64.ofInt 3689348814741910323)))).toUInt64 >>> ((Int32.ofInt 4).toInt64.toUInt64 &&& Int64.toUInt64 63)).toInt64))) &&& Int64.ofInt 1085102592571150095))).toUInt64 >>> ((Int32.ofInt 8).toInt64.toUInt64 &&& Int64.toUInt64 63)).toInt64))) + (Int64.toInt (((Int64.ofInt ((Int64.toInt (Int64.ofInt (((Int64.toInt (Int64.ofInt (x0 - (Int64.toInt (Int64.ofInt (Int64.toInt (((Int64.ofInt x0).toUInt64 >>> ((Int32.ofInt 1).toInt64.toUInt64 &&& Int64.toUInt64 63)).toInt64)) &&& Int64.ofInt 6148914691236517205))) &&& Int64.ofInt 3689348814741910323)) + (Int64.toInt (Int64.ofInt (Int64.toInt (((Int64.ofInt (x0 - (Int64.toInt (Int64.ofInt (Int64.toInt (((Int64.ofInt x0).toUInt64 >>> ((Int32.ofInt 1).toInt64.toUInt64 &&& Int64.toUInt64 63)).toInt64)) &&& Int64.ofInt 6148914691236517205)))).toUInt64 >>> ((Int32.ofInt 2).toInt64.toUInt64 &&& Int64.toUInt64 63)).toInt64)) &&& Int64.ofInt 3689348814741910323))) + (Int64.toInt (((Int64.ofInt ((Int64.toInt (Int64.ofInt (x0 - (Int64.toInt (Int64.ofInt (Int64.toInt (((Int64.ofInt x0).toUInt64 >>> ((Int32.ofInt 1).toInt64.toUInt64 &&& Int64.toUInt64 63)).toInt64)) &&& Int64.ofInt 6148914691236517205))) &&& Int64.ofInt 3689348814741910323)) + (Int64.toInt (Int64.ofInt (Int64.toInt (((Int64.ofInt (x0 - (Int64.toInt (Int64.ofInt (Int64.toInt (((Int64.ofInt x0).toUInt64 >>> ((Int32.ofInt 1).toInt64.toUInt64 &&& Int64.toUInt64 63)).toInt64)) &&& Int64.ofInt 6148914691236517205)))).toUInt64 >>> ((Int32.ofInt 2).toInt64.toUInt64 &&& Int64.toUInt64 63)).toInt64)) &&& Int64.ofInt 3689348814741910323)))).toUInt64 >>> ((Int32.ofInt 4).toInt64.toUInt64 &&& Int64.toUInt64 63)).toInt64))) &&& Int64.ofInt 1085102592571150095)) + (Int64.toInt (((Int64.ofInt (Int64.toInt (Int64.ofInt (((Int64.toInt (Int64.ofInt (x0 - (Int64.toInt (Int64.ofInt (Int64.toInt (((Int64.ofInt x0).toUInt64 >>> ((Int32.ofInt 1).toInt64.toUInt64 &&& Int64.toUInt64 63)).toInt64)) &&& Int64.ofInt 6148914691236517205))) &&& Int64.ofInt 3689348814741910323)) + (Int64.toInt (Int64.ofInt (Int64.toInt (((Int64.ofInt (x0 - (Int64.toInt (Int64.ofInt (Int64.toInt (((Int64.ofInt x0).toUInt64 >>> ((Int32.ofInt 1).toInt64.toUInt64 &&& Int64.toUInt64 63)).toInt64)) &&& Int64.ofInt 6148914691236517205)))).toUInt64 >>> ((Int32.ofInt 2).toInt64.toUInt64 &&& Int64.toUInt64 63)).toInt64)) &&& Int64.ofInt 3689348814741910323))) + (Int64.toInt (((Int64.ofInt ((Int64.toInt (Int64.ofInt (x0 - (Int64.toInt (Int64.ofInt (Int64.toInt (((Int64.ofInt x0).toUInt64 >>> ((Int32.ofInt 1).toInt64.toUInt64 &&& Int64.toUInt64 63)).toInt64)) &&& Int64.ofInt 6148914691236517205))) &&& Int64.ofInt 3689348814741910323)) + (Int64.toInt (Int64.ofInt (Int64.toInt (((Int64.ofInt (x0 - (Int64.toInt (Int64.ofInt (Int64.toInt (((Int64.ofInt x0).toUInt64 >>> ((Int32.ofInt 1).toInt64.toUInt64 &&& Int64.toUInt64 63)).toInt64)) &&& Int64.ofInt 6148914691236517205)))).toUInt64 >>> ((Int32.ofInt 2).toInt64.toUInt64 &&& Int64.toUInt64 63)).toInt64)) &&& Int64.ofInt 3689348814741910323)))).toUInt64 >>> ((Int32.ofInt 4).toInt64.toUInt64 &&& Int64.toUInt64 63)).toInt64))) &&& Int64.ofInt 1085102592571150095))).toUInt64 >>> ((Int32.ofInt 8).toInt64.toUInt64 &&& Int64.toUInt64 63)).toInt64)))).toUInt64 >>> ((Int32.ofInt 16).toInt64.toUInt64 &&& Int64.toUInt64 63)).toInt64)))).toUInt64 >>> ((Int32.ofInt 32).toInt64.toUInt64 &&& Int64.toUInt64 63)).toInt64))) &&& Int32.ofInt 127))
def m55 : Nat → Nat
  | 0 => 0
  | k + 1 => 256 * m55 k + 85
def m33 : Nat → Nat
  | 0 => 0
  | k + 1 => 256 * m33 k + 51
def m0f : Nat → Nat
  | 0 => 0
  | k + 1 => 256 * m0f k + 15
theorem and_sp (a b : Nat) : a &&& b = 256 * (a / 256 &&& b / 256) + (a % 256 &&& b % 256) := by
  have h1 : (a &&& b) / 2 ^ 8 = a / 2 ^ 8 &&& b / 2 ^ 8 := Nat.and_div_two_pow ..
  have h2 : (a &&& b) % 2 ^ 8 = a % 2 ^ 8 &&& b % 2 ^ 8 := Nat.and_mod_two_pow ..
  have h3 := Nat.div_add_mod (a &&& b) 256
  rw [show (256 : Nat) = 2 ^ 8 from rfl, h1, h2] at h3
  exact h3.symm
def g1 (b : Nat) : Nat := b - (b / 2 &&& 85)
def g2 (l : Nat) : Nat := (l &&& 51) + (l / 4 &&& 51)
def g3 (l : Nat) : Nat := (l + l / 16) % 16
def sA (k x : Nat) : Nat := x - (x / 2 &&& m55 k)
def sB (k y : Nat) : Nat := (y &&& m33 k) + (y / 4 &&& m33 k)
def sC (k z : Nat) : Nat := (z + z / 16) &&& m0f k
theorem t85 : ∀ y : Fin 256, y.val &&& 85 = y.val % 128 &&& 85 := by decide +kernel
theorem t51 : ∀ y : Fin 256, y.val &&& 51 = y.val % 64 &&& 51 := by decide +kernel
theorem t15 : ∀ y : Fin 256, y.val &&& 15 = y.val % 16 := by decide +kernel
theorem tgg : ∀ b : Fin 256, g1 b.val < 256 ∧ g2 (g1 b.val) ≤ 68 ∧ g2 (g1 b.val) % 16 ≤ 4 := by decide +kernel
theorem sA_s (k x : Nat) : sA (k + 1) x = 256 * sA k (x / 256) + g1 (x % 256) := by
  unfold sA g1
  have h := and_sp (x / 2) (m55 (k + 1))
  have e1 : m55 (k + 1) / 256 = m55 k := by show (256 * m55 k + 85) / 256 = m55 k; omega
  have e2 : m55 (k + 1) % 256 = 85 := by show (256 * m55 k + 85) % 256 = 85; omega
  rw [e1, e2, show x / 2 / 256 = x / 256 / 2 by omega] at h
  have t := t85 ⟨x / 2 % 256, by omega⟩
  have t' : x / 2 % 256 &&& 85 = x / 2 % 256 % 128 &&& 85 := t
  rw [t', show x / 2 % 256 % 128 = x % 256 / 2 by omega] at h
  rw [h]
  have l1 : x / 256 / 2 &&& m55 k ≤ x / 256 / 2 := Nat.and_le_left
  have l2 : x % 256 / 2 &&& 85 ≤ x % 256 / 2 := Nat.and_le_left
  omega
theorem sB_s (k h l : Nat) (hl : l < 256) : sB (k + 1) (256 * h + l) = 256 * sB k h + g2 l := by
  unfold sB g2
  have e1 : m33 (k + 1) / 256 = m33 k := by show (256 * m33 k + 51) / 256 = m33 k; omega
  have e2 : m33 (k + 1) % 256 = 51 := by show (256 * m33 k + 51) % 256 = 51; omega
  have a1 := and_sp (256 * h + l) (m33 (k + 1))
  have a2 := and_sp ((256 * h + l) / 4) (m33 (k + 1))
  rw [e1, e2, show (256 * h + l) / 256 = h by omega, show (256 * h + l) % 256 = l by omega] at a1
  rw [e1, e2, show (256 * h + l) / 4 / 256 = h / 4 by omega] at a2
  have t : (256 * h + l) / 4 % 256 &&& 51 = (256 * h + l) / 4 % 256 % 64 &&& 51 := t51 ⟨(256 * h + l) / 4 % 256, by omega⟩
  rw [t, show (256 * h + l) / 4 % 256 % 64 = l / 4 by omega] at a2
  rw [a1, a2]
  omega
theorem sC_s (k h l : Nat) (hl : l ≤ 68) (hh : h % 16 ≤ 4) : sC (k + 1) (256 * h + l) = 256 * sC k h + g3 l := by
  unfold sC g3
  have e1 : m0f (k + 1) / 256 = m0f k := by show (256 * m0f k + 15) / 256 = m0f k; omega
  have e2 : m0f (k + 1) % 256 = 15 := by show (256 * m0f k + 15) % 256 = 15; omega
  have a1 := and_sp (256 * h + l + (256 * h + l) / 16) (m0f (k + 1))
  have t : (256 * h + l + (256 * h + l) / 16) % 256 &&& 15 = (256 * h + l + (256 * h + l) / 16) % 256 % 16 := t15 ⟨(256 * h + l + (256 * h + l) / 16) % 256, by omega⟩
  rw [e1, e2, t, show (256 * h + l + (256 * h + l) / 16) / 256 = h + h / 16 by omega, show (256 * h + l + (256 * h + l) / 16) % 256 % 16 = (l + l / 16) % 16 by omega] at a1
  exact a1
def sT (k x : Nat) : Nat := sC k (sB k (sA k x))
theorem sB_16 (k x : Nat) : sB k (sA k x) % 16 ≤ 4 := by
  cases k with
  | zero =>
    show ((sA 0 x &&& 0) + (sA 0 x / 4 &&& 0)) % 16 ≤ 4
    rw [Nat.and_zero, Nat.and_zero]
    decide
  | succ k =>
    have t := tgg ⟨x % 256, by omega⟩
    rw [sA_s, sB_s k _ _ t.1]
    have := t.2.2
    show (256 * sB k (sA k (x / 256)) + g2 (g1 (x % 256))) % 16 ≤ 4
    have e : (g2 (g1 (x % 256))) % 16 ≤ 4 := this
    omega
theorem sT_s (k x : Nat) : sT (k + 1) x = 256 * sT k (x / 256) + g3 (g2 (g1 (x % 256))) := by
  unfold sT
  have t := tgg ⟨x % 256, by omega⟩
  rw [sA_s, sB_s k _ _ t.1, sC_s k _ _ t.2.1 (sB_16 k (x / 256))]
/-! the 64-bit readings -/
def sr (x s : Int) : Int := Int64.toInt (((Int64.ofInt x).toUInt64 >>> ((Int32.ofInt s).toInt64.toUInt64 &&& Int64.toUInt64 63)).toInt64)
def an (x z : Int) : Int := Int64.toInt (Int64.ofInt x &&& Int64.ofInt z)
def e1 (x : Int) : Int := x - an (sr x 1) 6148914691236517205
def e2 (y : Int) : Int := an y 3689348814741910323 + an (sr y 2) 3689348814741910323
def e3 (z : Int) : Int := an (z + sr z 4) 1085102592571150095
def e4 (v s : Int) : Int := v + sr v s
theorem lbE_e (x : Int) : lbE x = Int32.toInt (Int32.ofInt (e4 (e4 (e4 (e3 (e2 (e1 x))) 8) 16) 32) &&& Int32.ofInt 127) := rfl
theorem an_v {x z : Nat} (hx : x < 9223372036854775808) (hz : z < 9223372036854775808) : an (x : Int) (z : Int) = ((x &&& z : Nat) : Int) := by
  unfold an
  have e : Int64.ofInt (x : Int) &&& Int64.ofInt (z : Int) = Int64.ofInt ((x &&& z : Nat) : Int) := by
    apply Int64.toBitVec.inj
    show BitVec.ofInt 64 x &&& BitVec.ofInt 64 z = BitVec.ofInt 64 _
    rw [BitVec.ofInt_natCast, BitVec.ofInt_natCast, BitVec.ofInt_natCast, BitVec.ofNat_and]
  rw [e]
  have : x &&& z ≤ x := Nat.and_le_left
  exact Int64.toInt_ofInt_of_le (by omega) (by omega)
theorem sr_v {x s : Nat} (hx : x < 9223372036854775808) (hs : s < 64) : sr (x : Int) (s : Int) = ((x / 2 ^ s : Nat) : Int) := by
  have key : ∀ n, n < 64 → ((((Int32.ofInt (n : Nat)).toInt64.toUInt64 &&& Int64.toUInt64 63) % 64).toBitVec).toNat = n := by decide +kernel
  unfold sr
  have e : (((Int64.ofInt (x : Int)).toUInt64 >>> ((Int32.ofInt (s : Int)).toInt64.toUInt64 &&& Int64.toUInt64 63)).toInt64) = Int64.ofInt ((x / 2 ^ s : Nat) : Int) := by
    apply Int64.toBitVec.inj
    apply BitVec.eq_of_toNat_eq
    show ((BitVec.ofInt 64 x) >>> (((Int32.ofInt (s : Nat)).toInt64.toUInt64 &&& Int64.toUInt64 63) % 64).toBitVec).toNat = (BitVec.ofInt 64 ((x / 2 ^ s : Nat) : Int)).toNat
    rw [BitVec.ushiftRight_eq', key s hs, BitVec.toNat_ushiftRight, Nat.shiftRight_eq_div_pow, BitVec.ofInt_natCast, BitVec.ofInt_natCast, BitVec.toNat_ofNat, BitVec.toNat_ofNat]
    have h1 : x / 2 ^ s ≤ x := Nat.div_le_self _ _
    rw [Nat.mod_eq_of_lt (by omega), Nat.mod_eq_of_lt (by omega)]
  rw [e]
  have h1 : x / 2 ^ s ≤ x := Nat.div_le_self _ _
  generalize x / 2 ^ s = y at h1
  exact Int64.toInt_ofInt_of_le (by omega) (by omega)
def pbN (b : Nat) : Nat := b % 2 + b / 2 % 2 + b / 4 % 2 + b / 8 % 2 + b / 16 % 2 + b / 32 % 2 + b / 64 % 2 + b / 128 % 2
theorem pb_t : ∀ b : Fin 256, g3 (g2 (g1 b.val)) = pbN b.val := by decide +kernel
theorem sT_5 {x : Nat} (hx : x < 1099511627776) : sT 8 x = pbN (x % 256) + 256 * pbN (x / 256 % 256) + 65536 * pbN (x / 65536 % 256) + 16777216 * pbN (x / 16777216 % 256) + 4294967296 * pbN (x / 4294967296 % 256) := by
  have p0 : g3 (g2 (g1 (x % 256))) = pbN (x % 256) := pb_t ⟨x % 256, by omega⟩
  have p1 : g3 (g2 (g1 (x / 256 % 256))) = pbN (x / 256 % 256) := pb_t ⟨x / 256 % 256, by omega⟩
  have p2 : g3 (g2 (g1 (x / 256 / 256 % 256))) = pbN (x / 256 / 256 % 256) := pb_t ⟨x / 256 / 256 % 256, by omega⟩
  have p3 : g3 (g2 (g1 (x / 256 / 256 / 256 % 256))) = pbN (x / 256 / 256 / 256 % 256) := pb_t ⟨x / 256 / 256 / 256 % 256, by omega⟩
  have p4 : g3 (g2 (g1 (x / 256 / 256 / 256 / 256 % 256))) = pbN (x / 256 / 256 / 256 / 256 % 256) := pb_t ⟨x / 256 / 256 / 256 / 256 % 256, by omega⟩
  have z : sT 3 0 = 0 := by decide +kernel
  rw [sT_s, sT_s, sT_s, sT_s, sT_s, p0, p1, p2, p3, p4, show x / 256 / 256 / 256 / 256 / 256 = 0 by omega, z, show x / 256 / 256 / 256 / 256 = x / 4294967296 by omega, show x / 256 / 256 / 256 = x / 16777216 by omega, show x / 256 / 256 = x / 65536 by omega]
  omega
theorem pbN_b (b : Nat) : pbN b ≤ 8 := by unfold pbN; omega
theorem lb_v {x : Nat} (hx : x < 1099511627776) : lbE (x : Int) = ((pbN (x % 256) + pbN (x / 256 % 256) + pbN (x / 65536 % 256) + pbN (x / 16777216 % 256) + pbN (x / 4294967296 % 256) : Nat) : Int) := by
  have k1 : e1 (x : Int) = ((sA 8 x : Nat) : Int) := by
    have a : sr (x : Int) 1 = ((x / 2 : Nat) : Int) := sr_v (s := 1) (by omega) (by decide)
    have b : an ((x / 2 : Nat) : Int) 6148914691236517205 = ((x / 2 &&& 6148914691236517205 : Nat) : Int) := an_v (x := x / 2) (z := 6148914691236517205) (by omega) (by decide)
    have c : x / 2 &&& 6148914691236517205 ≤ x / 2 := Nat.and_le_left
    have d : m55 8 = 6148914691236517205 := by decide +kernel
    unfold e1 sA
    rw [a, b, d]
    omega
  have ha : sA 8 x ≤ x := Nat.sub_le _ _
  have k2 : e2 ((sA 8 x : Nat) : Int) = ((sB 8 (sA 8 x) : Nat) : Int) := by
    have a : sr ((sA 8 x : Nat) : Int) 2 = ((sA 8 x / 4 : Nat) : Int) := sr_v (s := 2) (by omega) (by decide)
    have b : an ((sA 8 x : Nat) : Int) 3689348814741910323 = ((sA 8 x &&& 3689348814741910323 : Nat) : Int) := an_v (z := 3689348814741910323) (by omega) (by decide)
    have c : an ((sA 8 x / 4 : Nat) : Int) 3689348814741910323 = ((sA 8 x / 4 &&& 3689348814741910323 : Nat) : Int) := an_v (x := sA 8 x / 4) (z := 3689348814741910323) (by omega) (by decide)
    have d : m33 8 = 3689348814741910323 := by decide +kernel
    unfold e2 sB
    rw [a, b, c, d]
    omega
  have hb : sB 8 (sA 8 x) ≤ 2 * x := by
    unfold sB
    have c1 : sA 8 x &&& m33 8 ≤ sA 8 x := Nat.and_le_left
    have c2 : sA 8 x / 4 &&& m33 8 ≤ sA 8 x / 4 := Nat.and_le_left
    omega
  have k3 : e3 ((sB 8 (sA 8 x) : Nat) : Int) = ((sT 8 x : Nat) : Int) := by
    have a : sr ((sB 8 (sA 8 x) : Nat) : Int) 4 = ((sB 8 (sA 8 x) / 16 : Nat) : Int) := sr_v (s := 4) (by omega) (by decide)
    have b : an ((sB 8 (sA 8 x) + sB 8 (sA 8 x) / 16 : Nat) : Int) 1085102592571150095 = ((sB 8 (sA 8 x) + sB 8 (sA 8 x) / 16 &&& 1085102592571150095 : Nat) : Int) := an_v (x := sB 8 (sA 8 x) + sB 8 (sA 8 x) / 16) (z := 1085102592571150095) (by omega) (by decide)
    have d : m0f 8 = 1085102592571150095 := by decide +kernel
    unfold e3 sT sC
    rw [a, d, ← b, Int.natCast_add]
  have e4v : ∀ (v s : Nat), v < 1099511627776 → s < 64 → e4 (v : Int) (s : Int) = ((v + v / 2 ^ s : Nat) : Int) := by
    intro v s hv hs
    unfold e4
    rw [sr_v (by omega) hs, Int.natCast_add]
  have t5 := sT_5 hx
  have b0 := pbN_b (x % 256)
  have b1 := pbN_b (x / 256 % 256)
  have b2 := pbN_b (x / 65536 % 256)
  have b3 := pbN_b (x / 16777216 % 256)
  have b4 := pbN_b (x / 4294967296 % 256)
  rw [lbE_e, k1, k2, k3]
  generalize pbN (x % 256) = q0 at *
  generalize pbN (x / 256 % 256) = q1 at *
  generalize pbN (x / 65536 % 256) = q2 at *
  generalize pbN (x / 16777216 % 256) = q3 at *
  generalize pbN (x / 4294967296 % 256) = q4 at *
  generalize sT 8 x = t at *
  have v1 : e4 (t : Int) 8 = ((t + t / 256 : Nat) : Int) := e4v t 8 (by omega) (by decide)
  have v2 : e4 ((t + t / 256 : Nat) : Int) 16 = ((t + t / 256 + (t + t / 256) / 65536 : Nat) : Int) := e4v (t + t / 256) 16 (by omega) (by decide)
  have v3 : e4 ((t + t / 256 + (t + t / 256) / 65536 : Nat) : Int) 32 = ((t + t / 256 + (t + t / 256) / 65536 + (t + t / 256 + (t + t / 256) / 65536) / 4294967296 : Nat) : Int) := e4v (t + t / 256 + (t + t / 256) / 65536) 32 (by omega) (by decide)
  rw [v1, v2, v3]
  have mk := bits_mask ((t + t / 256 + (t + t / 256) / 65536 + (t + t / 256 + (t + t / 256) / 65536) / 4294967296 : Nat) : Int) 7 (by decide)
  rw [show (2 : Int) ^ 7 - 1 = 127 from rfl] at mk
  rw [mk, show (2 : Int) ^ 7 = 128 from rfl]
  have d1 : t / 256 = q1 + 256 * q2 + 65536 * q3 + 16777216 * q4 := by omega
  rw [d1]
  have d2 : (t + (q1 + 256 * q2 + 65536 * q3 + 16777216 * q4)) / 65536 = (q2 + q3) + 256 * (q3 + q4) + 65536 * q4 := by omega
  rw [d2]
  have d3 : (t + (q1 + 256 * q2 + 65536 * q3 + 16777216 * q4) + ((q2 + q3) + 256 * (q3 + q4) + 65536 * q4)) / 4294967296 = q4 := by omega
  rw [d3]
  have r : ((t + (q1 + 256 * q2 + 65536 * q3 + 16777216 * q4) + ((q2 + q3) + 256 * (q3 + q4) + 65536 * q4) + q4 : Nat) : Int) % 128 = ((q0 + q1 + q2 + q3 + q4 : Nat) : Int) := by omega
  rw [r]
  exact Int32.toInt_ofInt_of_le (by omega) (by omega)
