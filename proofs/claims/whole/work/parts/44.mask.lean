/-! masks of places -/
def bmN (q : Int → Bool) : Nat → Nat
  | 0 => 0
  | t + 1 => bmN q t + if q t = true then 2 ^ t else 0
theorem bm_lt (q : Int → Bool) : ∀ t, bmN q t < 2 ^ t := by
  intro t
  induction t with
  | zero => exact Nat.zero_lt_one
  | succ t ih =>
    unfold bmN
    rw [Nat.pow_succ]
    split <;> omega
theorem or_add {a i : Nat} (h : a < 2 ^ i) : a ||| 2 ^ i = a + 2 ^ i := by
  have := Nat.two_pow_add_eq_or_of_lt h 1
  rw [Nat.mul_one] at this
  rw [Nat.or_comm, ← this, Nat.add_comm]
theorem bm_cg {p q : Int → Bool} : ∀ t : Nat, (∀ i, 0 ≤ i → i < (t : Int) → p i = q i) → bmN p t = bmN q t := by
  intro t
  induction t with
  | zero => intro _; rfl
  | succ t ih =>
    intro h
    unfold bmN
    rw [ih (fun i i0 i1 => h i i0 (by omega)), h t (by omega) (by omega)]
def st1 (q : Int → Bool) (i : Int) : Int → Bool := fun t => if t = i then true else q t
theorem bm_or {q : Int → Bool} {i : Nat} : ∀ t : Nat, i < t → bmN q t ||| 2 ^ i = bmN (st1 q i) t := by
  intro t
  induction t with
  | zero => intro h; exact absurd h (by omega)
  | succ t ih =>
    intro h
    have l1 := bm_lt q t
    by_cases c : i = t
    · subst c
      unfold bmN
      rw [show st1 q (i : Int) (i : Int) = true from if_pos rfl, if_pos rfl, bm_cg (p := st1 q (i : Int)) (q := q) i (fun j j0 j1 => if_neg (by omega))]
      by_cases hq : q i = true
      · rw [if_pos hq, ← or_add l1, Nat.or_assoc, Nat.or_self]
      · rw [if_neg hq, Nat.add_zero, or_add l1]
    · unfold bmN
      have l2 := bm_lt (st1 q (i : Int)) t
      rw [show st1 q (i : Int) (t : Int) = q t from if_neg (by omega)]
      by_cases hq : q t = true
      · rw [if_pos hq, ← or_add l1, ← or_add l2, Nat.or_assoc, Nat.or_comm (2 ^ t), ← Nat.or_assoc, ih (by omega)]
      · rw [if_neg hq, Nat.add_zero, Nat.add_zero]
        exact ih (by omega)
theorem byte_t : ∀ a b c d e f g h : Fin 2, pbN (a.val + 2 * b.val + 4 * c.val + 8 * d.val + 16 * e.val + 32 * f.val + 64 * g.val + 128 * h.val) = a.val + b.val + c.val + d.val + e.val + f.val + g.val + h.val := by decide +kernel
/-- how many of eight, from place o on -/
def bit (q : Int → Bool) (t : Nat) : Nat := if q t = true then 1 else 0
theorem bit_l (q : Int → Bool) (t : Nat) : bit q t < 2 := by unfold bit; split <;> decide
def b8 (q : Int → Bool) (o : Nat) : Nat := bit q o + 2 * bit q (o + 1) + 4 * bit q (o + 2) + 8 * bit q (o + 3) + 16 * bit q (o + 4) + 32 * bit q (o + 5) + 64 * bit q (o + 6) + 128 * bit q (o + 7)
def c8 (q : Int → Bool) (o : Nat) : Nat := bit q o + bit q (o + 1) + bit q (o + 2) + bit q (o + 3) + bit q (o + 4) + bit q (o + 5) + bit q (o + 6) + bit q (o + 7)
theorem b8_p (q : Int → Bool) (o : Nat) : pbN (b8 q o) = c8 q o := byte_t ⟨_, bit_l q o⟩ ⟨_, bit_l q (o + 1)⟩ ⟨_, bit_l q (o + 2)⟩ ⟨_, bit_l q (o + 3)⟩ ⟨_, bit_l q (o + 4)⟩ ⟨_, bit_l q (o + 5)⟩ ⟨_, bit_l q (o + 6)⟩ ⟨_, bit_l q (o + 7)⟩
theorem b8_l (q : Int → Bool) (o : Nat) : b8 q o < 256 := by
  have := bit_l q o
  have := bit_l q (o + 1)
  have := bit_l q (o + 2)
  have := bit_l q (o + 3)
  have := bit_l q (o + 4)
  have := bit_l q (o + 5)
  have := bit_l q (o + 6)
  have := bit_l q (o + 7)
  unfold b8
  omega
theorem bmN_s (q : Int → Bool) (t : Nat) : bmN q (t + 1) = bmN q t + 2 ^ t * bit q t := by
  show bmN q t + (if q t = true then 2 ^ t else 0) = _
  unfold bit
  split
  · rw [Nat.mul_one]
  · rw [Nat.mul_zero]
theorem bm_8 (q : Int → Bool) (o : Nat) : bmN q (o + 8) = bmN q o + 2 ^ o * b8 q o := by
  rw [show o + 8 = o + 7 + 1 from rfl, bmN_s, show o + 7 = o + 6 + 1 from rfl, bmN_s, show o + 6 = o + 5 + 1 from rfl, bmN_s, show o + 5 = o + 4 + 1 from rfl, bmN_s, show o + 4 = o + 3 + 1 from rfl, bmN_s, show o + 3 = o + 2 + 1 from rfl, bmN_s, show o + 2 = o + 1 + 1 from rfl, bmN_s, bmN_s]
  unfold b8
  simp only [Nat.pow_succ, Nat.mul_add, ← Nat.mul_assoc, Nat.add_assoc]
  rw [show 2 ^ o * 2 * 2 = 2 ^ o * 4 by omega, show 2 ^ o * 4 * 2 = 2 ^ o * 8 by omega, show 2 ^ o * 8 * 2 = 2 ^ o * 16 by omega, show 2 ^ o * 16 * 2 = 2 ^ o * 32 by omega, show 2 ^ o * 32 * 2 = 2 ^ o * 64 by omega, show 2 ^ o * 64 * 2 = 2 ^ o * 128 by omega]
def bcN (q : Int → Bool) : Nat → Nat
  | 0 => 0
  | t + 1 => bcN q t + bit q t
theorem bc_8 (q : Int → Bool) (o : Nat) : bcN q (o + 8) = bcN q o + c8 q o := by
  show bcN q o + bit q o + bit q (o + 1) + bit q (o + 2) + bit q (o + 3) + bit q (o + 4) + bit q (o + 5) + bit q (o + 6) + bit q (o + 7) = _
  unfold c8
  omega
theorem lb_m (q : Int → Bool) : lbE ((bmN q 40 : Nat) : Int) = ((bcN q 40 : Nat) : Int) := by
  have l0 := b8_l q 0
  have l1 := b8_l q 8
  have l2 := b8_l q 16
  have l3 := b8_l q 24
  have l4 := b8_l q 32
  have e : bmN q 40 = b8 q 0 + 256 * b8 q 8 + 65536 * b8 q 16 + 16777216 * b8 q 24 + 4294967296 * b8 q 32 := by
    have h4 := bm_8 q 32
    have h3 := bm_8 q 24
    have h2 := bm_8 q 16
    have h1 := bm_8 q 8
    have h0 := bm_8 q 0
    have z : bmN q 0 = 0 := rfl
    rw [show 32 + 8 = 40 from rfl, show (2 : Nat) ^ 32 = 4294967296 from rfl] at h4
    rw [show 24 + 8 = 32 from rfl, show (2 : Nat) ^ 24 = 16777216 from rfl] at h3
    rw [show 16 + 8 = 24 from rfl, show (2 : Nat) ^ 16 = 65536 from rfl] at h2
    rw [show 8 + 8 = 16 from rfl, show (2 : Nat) ^ 8 = 256 from rfl] at h1
    rw [show 0 + 8 = 8 from rfl, show (2 : Nat) ^ 0 = 1 from rfl] at h0
    omega
  have c : bcN q 40 = c8 q 0 + c8 q 8 + c8 q 16 + c8 q 24 + c8 q 32 := by
    have h4 := bc_8 q 32
    have h3 := bc_8 q 24
    have h2 := bc_8 q 16
    have h1 := bc_8 q 8
    have h0 := bc_8 q 0
    have z : bcN q 0 = 0 := rfl
    rw [show 32 + 8 = 40 from rfl] at h4
    rw [show 24 + 8 = 32 from rfl] at h3
    rw [show 16 + 8 = 24 from rfl] at h2
    rw [show 8 + 8 = 16 from rfl] at h1
    rw [show 0 + 8 = 8 from rfl] at h0
    omega
  rw [lb_v (by rw [e]; omega), e]
  have a0 : (b8 q 0 + 256 * b8 q 8 + 65536 * b8 q 16 + 16777216 * b8 q 24 + 4294967296 * b8 q 32) % 256 = b8 q 0 := by omega
  have a1 : (b8 q 0 + 256 * b8 q 8 + 65536 * b8 q 16 + 16777216 * b8 q 24 + 4294967296 * b8 q 32) / 256 % 256 = b8 q 8 := by omega
  have a2 : (b8 q 0 + 256 * b8 q 8 + 65536 * b8 q 16 + 16777216 * b8 q 24 + 4294967296 * b8 q 32) / 65536 % 256 = b8 q 16 := by omega
  have a3 : (b8 q 0 + 256 * b8 q 8 + 65536 * b8 q 16 + 16777216 * b8 q 24 + 4294967296 * b8 q 32) / 16777216 % 256 = b8 q 24 := by omega
  have a4 : (b8 q 0 + 256 * b8 q 8 + 65536 * b8 q 16 + 16777216 * b8 q 24 + 4294967296 * b8 q 32) / 4294967296 % 256 = b8 q 32 := by omega
  rw [a0, a1, a2, a3, a4, b8_p, b8_p, b8_p, b8_p, b8_p, c]
theorem c_lbits {q : Int → Bool} {M : Mem} {Q : Vl → Mem → Prop} (hq : Q (Iv ((bcN q 40 : Nat) : Int)) M) : cl 0 yJ13_bitCount_95d88 [Jv ((bmN q 40 : Nat) : Int)] M Q := by
  refine eJ13_bitCount_95d88 ?_
  show Q (Iv (lbE ((bmN q 40 : Nat) : Int))) M
  rw [lb_m]
  exact hq
