abbrev QI (F : Int → Mem → Prop) : Vl → Mem → Prop := fun v M => match v with
  | .inl r => F r M
  | _ => True
abbrev QJ (F : Int → Mem → Prop) : Vl → Mem → Prop := fun v M => match v with
  | .inr (.inl r) => F r M
  | _ => True
abbrev QR (F : Int → Mem → Prop) : Vl → Mem → Prop := fun v M => match v with
  | .inr (.inr r) => F r M
  | _ => True
abbrev QV (F : Mem → Prop) : Vl → Mem → Prop := fun _ M => F M
/-- both objects stand: a place in a method, a call -/
abbrev wp (e0 : Nat) (y : Yx) (pc : Nat) (L : Lx) (S : List Vl) (M : Mem) (Q : Vl → Mem → Prop) : Prop := WPg e0 0 0 none 200 60000 y pc L S M Q
abbrev cl (e0 : Nat) (y : Yx) (as : List Vl) (M : Mem) (Q : Vl → Mem → Prop) : Prop := CL e0 0 0 none y as M Q
/-- a Line with room for n; an int array; a Word; Steps -/
def isA (a : Int) (n : Nat) : Prop := 1 ≤ a ∧ a ≤ 119 ∧ sg a = (20, n)
def isL (a : Int) (n : Nat) : Prop := 35 ≤ a ∧ a ≤ 77 ∧ sg a = (3, 2) ∧ isA (a + 1) n
def isW (a : Int) : Prop := 55 ≤ a ∧ a ≤ 76 ∧ sg a = (10, 4) ∧ isL (a + 1) 40
def isS (a : Int) : Prop := 18 ≤ a ∧ a ≤ 86 ∧ sg a = (8, 1) ∧ isA (a + 1) 246
theorem kd_of {M : Mem} {a : Int} {q : Nat × Nat} (h1 : 1 ≤ a) (h2 : a ≤ 119) (h : sg a = q) : kd 0 M a = q.1 := by
  unfold kd
  rw [if_pos rfl, if_neg (by omega), if_pos ⟨h1, h2⟩, h]
theorem isA.k {M : Mem} {a : Int} {n : Nat} (h : isA a n) : kd 0 M a = 20 := kd_of h.1 h.2.1 h.2.2
theorem isA.n {a : Int} {n : Nat} (h : isA a n) : (sg a).2 = n := by rw [h.2.2]
theorem isA.p {a : Int} {n : Nat} (h : isA a n) : 0 ≤ a := by have := h.1; omega
theorem isL.k {M : Mem} {a : Int} {n : Nat} (h : isL a n) : kd 0 M a = 3 := kd_of (by have := h.1; omega) (by have := h.2.1; omega) h.2.2.1
theorem isL.p {a : Int} {n : Nat} (h : isL a n) : 0 ≤ a := by have := h.1; omega
theorem isL.a {a : Int} {n : Nat} (h : isL a n) : isA (a + 1) n := h.2.2.2
theorem isW.k {M : Mem} {a : Int} (h : isW a) : kd 0 M a = 10 := kd_of (by have := h.1; omega) (by have := h.2.1; omega) h.2.2.1
theorem isW.p {a : Int} (h : isW a) : 0 ≤ a := by have := h.1; omega
theorem isW.l {a : Int} (h : isW a) : isL (a + 1) 40 := h.2.2.2
theorem isS.k {M : Mem} {a : Int} (h : isS a) : kd 0 M a = 8 := kd_of (by have := h.1; omega) (by have := h.2.1; omega) h.2.2.1
theorem isS.p {a : Int} (h : isS a) : 0 ≤ a := by have := h.1; omega
theorem isS.a {a : Int} (h : isS a) : isA (a + 1) 246 := h.2.2.2
theorem isL_row {r : Int} (h0 : 0 ≤ r) (h1 : r < 6) : isL (35 + 2 * r) 40 := by
  have : r = 0 ∨ r = 1 ∨ r = 2 ∨ r = 3 ∨ r = 4 ∨ r = 5 := by omega
  rcases this with rfl | rfl | rfl | rfl | rfl | rfl <;> exact ⟨by decide, by decide, rfl, by decide, by decide, rfl⟩
theorem isL_text {r : Int} (h0 : 0 ≤ r) (h1 : r < 4) : isL (47 + 2 * r) 60 := by
  have : r = 0 ∨ r = 1 ∨ r = 2 ∨ r = 3 := by omega
  rcases this with rfl | rfl | rfl | rfl <;> exact ⟨by decide, by decide, rfl, by decide, by decide, rfl⟩
theorem isW_word {r : Int} (h0 : 0 ≤ r) (h1 : r < 8) : isW (55 + 3 * r) := by
  have : r = 0 ∨ r = 1 ∨ r = 2 ∨ r = 3 ∨ r = 4 ∨ r = 5 ∨ r = 6 ∨ r = 7 := by omega
  rcases this with rfl | rfl | rfl | rfl | rfl | rfl | rfl | rfl <;> exact ⟨by decide, by decide, rfl, by decide, by decide, rfl, by decide, by decide, rfl⟩
theorem up_same (M : Mem) (a k v : Int) : up M a k v a k = v := if_pos ⟨rfl, rfl⟩
theorem retV_i {y : Yx} {v : Vl} (h : retV y v) (hy : y.2.2.2.1 = some .int) : ∃ x, v = Iv x := by unfold retV at h; rw [hy] at h; exact h
theorem retV_j {y : Yx} {v : Vl} (h : retV y v) (hy : y.2.2.2.1 = some .long) : ∃ x, v = Jv x := by unfold retV at h; rw [hy] at h; exact h
theorem retV_z {y : Yx} {v : Vl} (h : retV y v) (hy : y.2.2.2.1 = some .boolean) : ∃ x, v = Iv x ∧ (x = 0 ∨ x = 1) := by
  unfold retV at h
  rw [hy] at h
  rcases h with rfl | rfl
  · exact ⟨0, rfl, Or.inl rfl⟩
  · exact ⟨1, rfl, Or.inr rfl⟩
theorem retV_r {y : Yx} {v : Vl} {t : FieldType} (h : retV y v) (hy : y.2.2.2.1 = some (.array t)) : ∃ x, v = Rv x ∧ 0 ≤ x := by unfold retV at h; rw [hy] at h; exact h
/-! the wrap-free readings of shifts and masks -/
theorem bits_shl {x z : Int} (h0 : 0 ≤ z) (h1 : z < 32) : Int32.ofInt x <<< (Int32.ofInt z &&& 31) = Int32.ofInt (x * 2 ^ z.toNat) := by
  have key : ∀ n, n < 32 → ((Int32.ofInt (n : Nat) &&& 31).toBitVec.smod 32).toNat = n := by decide +kernel
  obtain ⟨n, rfl⟩ := Int.eq_ofNat_of_zero_le h0
  have hn : n < 32 := by omega
  apply Int32.toBitVec.inj
  apply BitVec.eq_of_toNat_eq
  rw [pk_shl _ _ n (key n hn)]
  show _ = (BitVec.ofInt 32 (x * 2 ^ n)).toNat
  show (BitVec.ofInt 32 x).toNat * 2 ^ n % 2 ^ 32 = _
  rw [BitVec.toNat_ofInt, BitVec.toNat_ofInt]
  have e : (x * 2 ^ n) % ((2 : Int) ^ 32) = ((x % (2 : Int) ^ 32) * 2 ^ n) % (2 : Int) ^ 32 := by simp [Int.mul_emod]
  have e2 : ((2 ^ 32 : Nat) : Int) = (2 : Int) ^ 32 := by norm_cast
  rw [e2, e]
  obtain ⟨k, hk⟩ := Int.eq_ofNat_of_zero_le (show (0 : Int) ≤ x % (2 : Int) ^ 32 from Int.emod_nonneg _ (by decide))
  rw [hk]
  norm_cast
theorem bits_shl64 {x z : Int} (h0 : 0 ≤ z) (h1 : z < 64) : Int64.ofInt x <<< ((Int32.ofInt z).toInt64 &&& 63) = Int64.ofInt (x * 2 ^ z.toNat) := by
  have key : ∀ n, n < 64 → (((Int32.ofInt (n : Nat)).toInt64 &&& 63).toBitVec.smod 64).toNat = n := by decide +kernel
  obtain ⟨n, rfl⟩ := Int.eq_ofNat_of_zero_le h0
  have hn : n < 64 := by omega
  apply Int64.toBitVec.inj
  apply BitVec.eq_of_toNat_eq
  show ((Int64.ofInt x).toBitVec <<< ((((Int32.ofInt (n : Nat)).toInt64 &&& 63).toBitVec.smod 64))).toNat = (BitVec.ofInt 64 (x * 2 ^ n)).toNat
  rw [BitVec.shiftLeft_eq', key n hn, BitVec.toNat_shiftLeft, Nat.shiftLeft_eq]
  show (BitVec.ofInt 64 x).toNat * 2 ^ n % 2 ^ 64 = _
  rw [BitVec.toNat_ofInt, BitVec.toNat_ofInt]
  have e : (x * 2 ^ n) % ((2 : Int) ^ 64) = ((x % (2 : Int) ^ 64) * 2 ^ n) % (2 : Int) ^ 64 := by simp [Int.mul_emod]
  have e2 : ((2 ^ 64 : Nat) : Int) = (2 : Int) ^ 64 := by norm_cast
  rw [e2, e]
  obtain ⟨k, hk⟩ := Int.eq_ofNat_of_zero_le (show (0 : Int) ≤ x % (2 : Int) ^ 64 from Int.emod_nonneg _ (by decide))
  rw [hk]
  norm_cast
theorem bits_shr {x z : Int} (hx : inr x) (h0 : 0 ≤ z) (h1 : z < 32) : Int32.ofInt x >>> (Int32.ofInt z &&& 31) = Int32.ofInt (x / 2 ^ z.toNat) := by
  have key : ∀ n, n < 32 → ((Int32.ofInt (n : Nat) &&& 31).toBitVec.smod 32).toNat = n := by decide +kernel
  obtain ⟨n, rfl⟩ := Int.eq_ofNat_of_zero_le h0
  have hn : n < 32 := by omega
  rw [← Int32.toInt_inj, pk_shr _ _ n (key n hn), inr_t hx, Int.shiftRight_eq_div_pow]
  have hp : (0 : Int) < 2 ^ n := Int.pow_pos (by decide)
  have hb : inr (x / 2 ^ n) := by
    have p1 : (1 : Int) ≤ 2 ^ n := hp
    constructor
    · have : -2147483648 * (2 : Int) ^ n ≤ x := by
        have : (2147483648 : Int) * 1 ≤ 2147483648 * 2 ^ n := Int.mul_le_mul_of_nonneg_left p1 (by decide)
        omega
      exact Int.le_ediv_of_mul_le hp this
    · refine Int.ediv_lt_of_lt_mul hp ?_
      have : (2147483648 : Int) * 1 ≤ 2147483648 * 2 ^ n := Int.mul_le_mul_of_nonneg_left p1 (by decide)
      omega
  rw [show ((n : Int)).toNat = n from rfl, inr_t hb]
  norm_cast
theorem bits_ofNat (n : Nat) : Int32.ofInt (n : Int) = nI n := Int32.ofInt_eq_ofNat
theorem bits_and {x z : Int} (hx : 0 ≤ x) (hz : 0 ≤ z) : Int32.ofInt x &&& Int32.ofInt z = Int32.ofInt ((x.toNat &&& z.toNat : Nat) : Int) := by
  obtain ⟨a, rfl⟩ := Int.eq_ofNat_of_zero_le hx
  obtain ⟨b, rfl⟩ := Int.eq_ofNat_of_zero_le hz
  simp only [Int.toNat_natCast]
  apply Int32.toBitVec.inj
  show BitVec.ofInt 32 a &&& BitVec.ofInt 32 b = BitVec.ofInt 32 _
  rw [BitVec.ofInt_natCast, BitVec.ofInt_natCast, BitVec.ofInt_natCast, BitVec.ofNat_and]
theorem bits_or {x z : Int} (hx : 0 ≤ x) (hz : 0 ≤ z) : Int32.ofInt x ||| Int32.ofInt z = Int32.ofInt ((x.toNat ||| z.toNat : Nat) : Int) := by
  obtain ⟨a, rfl⟩ := Int.eq_ofNat_of_zero_le hx
  obtain ⟨b, rfl⟩ := Int.eq_ofNat_of_zero_le hz
  simp only [Int.toNat_natCast]
  apply Int32.toBitVec.inj
  show BitVec.ofInt 32 a ||| BitVec.ofInt 32 b = BitVec.ofInt 32 _
  rw [BitVec.ofInt_natCast, BitVec.ofInt_natCast, BitVec.ofInt_natCast, BitVec.ofNat_or]
theorem bits_or64 {x z : Int} (hx : 0 ≤ x) (hz : 0 ≤ z) : Int64.ofInt x ||| Int64.ofInt z = Int64.ofInt ((x.toNat ||| z.toNat : Nat) : Int) := by
  obtain ⟨a, rfl⟩ := Int.eq_ofNat_of_zero_le hx
  obtain ⟨b, rfl⟩ := Int.eq_ofNat_of_zero_le hz
  simp only [Int.toNat_natCast]
  apply Int64.toBitVec.inj
  show BitVec.ofInt 64 a ||| BitVec.ofInt 64 b = BitVec.ofInt 64 _
  rw [BitVec.ofInt_natCast, BitVec.ofInt_natCast, BitVec.ofInt_natCast, BitVec.ofNat_or]
theorem bits_mask (x : Int) (k : Nat) (hk : k ≤ 31) : Int32.ofInt x &&& Int32.ofInt (2 ^ k - 1) = Int32.ofInt (x % 2 ^ k) := by
  apply Int32.toBitVec.inj
  apply BitVec.eq_of_toNat_eq
  show ((BitVec.ofInt 32 x) &&& BitVec.ofInt 32 (2 ^ k - 1)).toNat = (BitVec.ofInt 32 (x % 2 ^ k)).toNat
  have hp : (2 : Nat) ^ k ≤ 2 ^ 31 := Nat.pow_le_pow_right (by decide) hk
  have hp0 : 0 < (2 : Nat) ^ k := Nat.pow_pos (by decide)
  have e1 : ((2 : Int) ^ k - 1) = ((2 ^ k - 1 : Nat) : Int) := by rw [Int.natCast_sub hp0]; norm_cast
  rw [BitVec.toNat_and, BitVec.toNat_ofInt, e1, BitVec.ofInt_natCast, BitVec.toNat_ofNat, Nat.mod_eq_of_lt (by omega), Nat.and_two_pow_sub_one_eq_mod, BitVec.toNat_ofInt]
  have e2 : ((2 ^ 32 : Nat) : Int) = (2 : Int) ^ 32 := by norm_cast
  have e3 : (x % 2 ^ k) % ((2 ^ 32 : Nat) : Int) = x % 2 ^ k := by
    apply Int.emod_eq_of_lt (Int.emod_nonneg _ (by have : (0 : Int) < 2 ^ k := Int.pow_pos (by decide); omega))
    have h1 : x % 2 ^ k < 2 ^ k := Int.emod_lt_of_pos _ (Int.pow_pos (by decide))
    have h2 : ((2 : Int) ^ k) ≤ ((2 ^ 31 : Nat) : Int) := by have := Int.ofNat_le.mpr hp; norm_cast at this ⊢
    omega
  rw [e3]
  obtain ⟨q, hq⟩ := Int.eq_ofNat_of_zero_le (show (0 : Int) ≤ x % ((2 ^ 32 : Nat) : Int) from Int.emod_nonneg _ (by decide))
  have h4 : ((x % ((2 ^ 32 : Nat) : Int)) % ((2 ^ k : Nat) : Int)) = x % ((2 ^ k : Nat) : Int) := by
    apply Int.emod_emod_of_dvd
    exact Int.ofNat_dvd.mpr (Nat.pow_dvd_pow 2 (by omega))
  rw [hq] at h4 ⊢
  have e5 : ((2 : Int) ^ k) = ((2 ^ k : Nat) : Int) := by norm_cast
  rw [e5, ← h4]
  norm_cast

