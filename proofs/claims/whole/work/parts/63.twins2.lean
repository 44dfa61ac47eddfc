/-! 39 twins: the class's counts -/
theorem pw1 (k : Int) : k ^ 1 = k := by rw [Int.pow_succ, Int.pow_zero, Int.one_mul]
theorem pw2 (k : Int) : k ^ 2 = k * k := by rw [Int.pow_succ, pw1]
theorem pw3 (k : Int) : k ^ 3 = k * k * k := by rw [Int.pow_succ, pw2]
theorem ix2 {k p x : Int} (k0 : 1 ≤ k) (k1 : k ≤ 6) (p0 : 0 ≤ p) (p1 : p < k) (x0 : 0 ≤ x) (x1 : x < k) : 0 ≤ p * k + x ∧ p * k + x < k * k ∧ k * k ≤ 36 := by
  have e : k = 1 ∨ k = 2 ∨ k = 3 ∨ k = 4 ∨ k = 5 ∨ k = 6 := by omega
  rcases e with rfl | rfl | rfl | rfl | rfl | rfl <;> omega
theorem ix3 {k p x : Int} (k0 : 1 ≤ k) (k1 : k ≤ 6) (p0 : 0 ≤ p) (p1 : p < k * k) (x0 : 0 ≤ x) (x1 : x < k) : 0 ≤ p * k + x ∧ p * k + x < k * k * k ∧ k * k * k ≤ 216 ∧ p < 36 := by
  have e : k = 1 ∨ k = 2 ∨ k = 3 ∨ k = 4 ∨ k = 5 ∨ k = 6 := by omega
  rcases e with rfl | rfl | rfl | rfl | rfl | rfl <;> omega
theorem kb {k : Int} (k0 : 1 ≤ k) (k1 : k ≤ 6) : 1 ≤ k * k ∧ k * k ≤ 36 ∧ 1 ≤ k * k * k ∧ k * k * k ≤ 216 := by
  have e : k = 1 ∨ k = 2 ∨ k = 3 ∨ k = 4 ∨ k = 5 ∨ k = 6 := by omega
  rcases e with rfl | rfl | rfl | rfl | rfl | rfl <;> decide
def adv (s k x m : Int) (f g : Int → Int) (p c : Int) : Int := if c < m * k then f c + s * (if c % k = x ∧ c / k < p then g (c / k) else 0) else 0
theorem adv_0 {s k x m c : Int} {f g : Int → Int} (k0 : 1 ≤ k) (c0 : 0 ≤ c) : adv s k x m f g 0 c = if c < m * k then f c else 0 := by
  have := Int.ediv_nonneg c0 (show 0 ≤ k by omega)
  have e : (if c % k = x ∧ c / k < 0 then g (c / k) else 0) = 0 := if_neg (fun q => by have := q.2; omega)
  unfold adv
  rw [e, Int.mul_zero, Int.add_zero]
theorem adv_e {s k x m c : Int} {f g : Int → Int} (k0 : 1 ≤ k) : adv s k x m f g m c = if c < m * k then f c + s * (if x = c % k then g (c / k) else 0) else 0 := by
  unfold adv
  by_cases h : c < m * k
  · rw [if_pos h, if_pos h]
    have := Int.ediv_lt_of_lt_mul (show 0 < k by omega) h
    by_cases e : c % k = x
    · rw [if_pos ⟨e, this⟩, if_pos e.symm]
    · rw [if_neg (fun q => e q.1), if_neg (fun q => e q.symm)]
  · rw [if_neg h, if_neg h]
theorem adv_y {s k x m p : Int} {f g : Int → Int} (x0 : 0 ≤ x) (x1 : x < k) (h : p * k + x < m * k) : adv s k x m f g p (p * k + x) + s * g p = adv s k x m f g (p + 1) (p * k + x) := by
  obtain ⟨e1, e2⟩ := dm (p := p) x0 x1
  unfold adv
  rw [if_pos h, if_pos h, e1, e2, if_neg (by omega), if_pos ⟨rfl, by omega⟩, Int.mul_zero, Int.add_zero]
theorem adv_n {s k x m p c : Int} {f g : Int → Int} (h : c ≠ p * k + x) : adv s k x m f g (p + 1) c = adv s k x m f g p c := by
  have e := Int.mul_ediv_add_emod c k
  rw [Int.mul_comm] at e
  have e2 : (if c % k = x ∧ c / k < p + 1 then g (c / k) else 0) = if c % k = x ∧ c / k < p then g (c / k) else 0 := by
    by_cases q : c % k = x ∧ c / k < p
    · rw [if_pos q, if_pos (show c % k = x ∧ c / k < p + 1 from ⟨q.1, by omega⟩)]
    · have nq : ¬ (c % k = x ∧ c / k < p + 1) := fun q2 => q ⟨q2.1, by
        by_cases q3 : c / k = p
        · rw [q3, q2.1] at e
          exact absurd e.symm h
        · have := q2.2
          omega⟩
      rw [if_neg q, if_neg nq]
  unfold adv
  rw [e2]
def c1v (k : Int) (i : Nat) (P c : Int) : Int := if c < k then cc k 1 i P c else 0
def c2v (k : Int) (i : Nat) (P c : Int) : Int := if c < k * k then cc k 2 i P c else 0
def c3v (k d : Int) (i : Nat) (P c : Int) : Int := if 2 < d ∧ c < k * k * k then cc k 3 i P c else 0
def ctM (M : Mem) (k d : Int) (i : Nat) (P : Int) : Prop := (∀ c, 0 ≤ c → c < 6 → M 31 c = c1v k i P c) ∧ (∀ c, 0 ≤ c → c < 36 → M 32 c = c2v k i P c) ∧ ∀ c, 0 ≤ c → c < 216 → M 33 c = c3v k d i P c
def kpT (M M2 : Mem) : Prop := ∀ a, a ≠ 31 → a ≠ 32 → a ≠ 33 → M2 a = M a
theorem kpT.rf {M : Mem} : kpT M M := fun _ _ _ _ => rfl
theorem kpT.tr {M M2 M3 : Mem} (h : kpT M M2) (h2 : kpT M2 M3) : kpT M M3 := fun a q1 q2 q3 => (h2 a q1 q2 q3).trans (h a q1 q2 q3)
theorem c1_s {k P x c : Int} {i : Nat} (x0 : 0 ≤ x) (x1 : x < k) (c0 : 0 ≤ c) (c1 : c < k) : cc k 1 (i + 1) (P * k + x) c = cc k 1 i P c + if c = x then 1 else 0 := by
  obtain ⟨e1, e2⟩ := dm (p := P) x0 x1
  rw [cc_s, e1, e2, cc_0, Int.emod_eq_of_lt c0 c1]
  by_cases q : c = x
  · rw [if_pos q, if_pos q.symm]
  · rw [if_neg q, if_neg (fun q2 => q q2.symm)]
theorem c_add {M : Mem} {k d x P : Int} {i : Nat} {Q : Vl → Mem → Prop} (k0 : 1 ≤ k) (k1 : k ≤ 6) (d0 : 1 ≤ d) (d3 : d ≤ 3) (e6 : M 28 6 = k) (e8 : M 28 8 = d) (h : ctM M k d i P) (x0 : 0 ≤ x) (x1 : x < k) (hq : ∀ M2, kpT M M2 → ctM M2 k d (i + 1) (P * k + x) → Q (Iv 0) M2) : cl 0 yX9_addLetter [Rv 28, Iv x] M Q := by
  obtain ⟨h1, h2, h3⟩ := h
  obtain ⟨dv, dx⟩ := dm (p := P) x0 x1
  have kk := kb k0 k1
  have mid : ∀ M2, kpT M M2 → M2 31 = M 31 → M2 32 = M 32 → (∀ c, 0 ≤ c → c < 216 → M2 33 c = c3v k d (i + 1) (P * k + x) c) → wp 0 yX9_addLetter 53 [some (Rv 28), some (Iv x), some (Iv 0)] [] M2 Q := by
    intro M2 o2 p31 p32 h33
    refine up_ind (P := fun p => ∀ M3, kpT M M3 → M3 31 = M 31 → (∀ c, 0 ≤ c → c < 36 → M3 32 c = adv 1 k x k (cc k 2 i P) (cc k 1 i P) p c) → (∀ c, 0 ≤ c → c < 216 → M3 33 c = c3v k d (i + 1) (P * k + x) c) → wp 0 yX9_addLetter 53 [some (Rv 28), some (Iv x), some (Iv p)] [] M3 Q) (a := 0) (n := k) (by omega) (fun M3 o3 q31 q32 q33 => ?_) (fun p p0 p1 ih M3 o3 q31 q32 q33 => ?_) M2 o2 p31 (fun c c0 c1 => by rw [p32, h2 c c0 c1, adv_0 k0 c0]; rfl) h33
    · have f6 : M3 28 6 = k := by rw [o3 28 (by decide) (by decide) (by decide)]; exact e6
      refine gX9_addLetter_53 ⟨⟨by omega, by omega⟩, by rw [f6]; exact ⟨by omega, by omega⟩, fun _ => ⟨x0, by omega, hq _ (fun a g1 g2 g3 => by rw [up_ne g1]; exact o3 a g1 g2 g3) ⟨fun c c0 c1 => ?_, fun c c0 c1 => ?_, fun c c0 c1 => ?_⟩⟩, fun q => absurd q (by omega)⟩
      · rw [up_at, q31]
        unfold c1v
        by_cases ck : c < k
        · rw [if_pos ck, c1_s x0 x1 c0 ck]
          by_cases e : c = x
          · rw [if_pos e, if_pos e, h1 x x0 (by omega), e]
            unfold c1v
            rw [if_pos x1]
          · rw [if_neg e, if_neg e, Int.add_zero, h1 c c0 c1]
            unfold c1v
            rw [if_pos ck]
        · rw [if_neg ck, if_neg (by omega), h1 c c0 c1]
          unfold c1v
          rw [if_neg ck]
      · rw [up_ne (by decide), q32 c c0 c1, adv_e k0]
        unfold c2v
        by_cases ck : c < k * k
        · rw [if_pos ck, if_pos ck, cc_s, dv, dx, Int.one_mul]
        · rw [if_neg ck, if_neg ck]
      · rw [up_ne (by decide)]; exact q33 c c0 c1
    · have f6 : M3 28 6 = k := by rw [o3 28 (by decide) (by decide) (by decide)]; exact e6
      have ix := ix2 k0 k1 p0 p1 x0 x1
      have v31 : M3 31 p = cc k 1 i P p := by rw [q31, h1 p p0 (by omega)]; unfold c1v; rw [if_pos p1]
      refine gX9_addLetter_53 ⟨⟨by omega, by omega⟩, by rw [f6]; exact ⟨by omega, by omega⟩, fun q => absurd q (by omega), fun _ => ?_⟩
      rw [f6]
      refine ⟨by omega, by omega, p0, by omega, ih _ (fun a g1 g2 g3 => by rw [up_ne g2]; exact o3 a g1 g2 g3) (by rw [up_ne (by decide)]; exact q31) (fun c c0 c1 => ?_) (fun c c0 c1 => by rw [up_ne (by decide)]; exact q33 c c0 c1)⟩
      rw [up_at]
      by_cases e : c = p * k + x
      · rw [if_pos e, q32 _ (by omega) (by omega), v31, e, ← adv_y x0 x1 (by omega), Int.one_mul]
      · rw [if_neg e, q32 c c0 c1, adv_n e]
  refine eX9_addLetter ⟨by rw [e8]; exact ⟨by omega, by omega⟩, fun q => mid M kpT.rf rfl rfl (fun c c0 c1 => ?_), fun q => ?_⟩
  · rw [h3 c c0 c1]
    unfold c3v
    rw [if_neg (fun q2 => by have := q2.1; omega), if_neg (fun q2 => by have := q2.1; omega)]
  · have d2 : 2 < d := by omega
    refine up_ind (P := fun p => ∀ M3, kpT M M3 → M3 31 = M 31 → M3 32 = M 32 → (∀ c, 0 ≤ c → c < 216 → M3 33 c = adv 1 k x (k * k) (cc k 3 i P) (cc k 2 i P) p c) → wp 0 yX9_addLetter 10 [some (Rv 28), some (Iv x), some (Iv p)] [] M3 Q) (a := 0) (n := k * k) (by omega) (fun M3 o3 q31 q32 q33 => ?_) (fun p p0 p1 ih M3 o3 q31 q32 q33 => ?_) M kpT.rf rfl rfl (fun c c0 c1 => ?_)
    · have f6 : M3 28 6 = k := by rw [o3 28 (by decide) (by decide) (by decide)]; exact e6
      refine gX9_addLetter_10 ⟨⟨by omega, by omega⟩, by rw [f6]; exact ⟨by omega, by omega⟩, fun _ => mid M3 o3 q31 q32 (fun c c0 c1 => ?_), fun q => absurd q (by rw [f6]; omega)⟩
      rw [q33 c c0 c1, adv_e k0]
      unfold c3v
      by_cases ck : c < k * k * k
      · rw [if_pos ck, if_pos (show 2 < d ∧ c < k * k * k from ⟨d2, ck⟩), cc_s, dv, dx, Int.one_mul]
      · rw [if_neg ck, if_neg (fun q2 => ck q2.2)]
    · have f6 : M3 28 6 = k := by rw [o3 28 (by decide) (by decide) (by decide)]; exact e6
      have ix := ix3 k0 k1 p0 p1 x0 x1
      have v32 : M3 32 p = cc k 2 i P p := by rw [q32, h2 p p0 (by omega)]; unfold c2v; rw [if_pos p1]
      refine gX9_addLetter_10 ⟨⟨by omega, by omega⟩, by rw [f6]; exact ⟨by omega, by omega⟩, fun q => absurd q (by rw [f6]; omega), fun _ => ?_⟩
      rw [f6]
      refine ⟨by omega, by omega, p0, by omega, ih _ (fun a g1 g2 g3 => by rw [up_ne g3]; exact o3 a g1 g2 g3) (by rw [up_ne (by decide)]; exact q31) (by rw [up_ne (by decide)]; exact q32) (fun c c0 c1 => ?_)⟩
      rw [up_at]
      by_cases e : c = p * k + x
      · rw [if_pos e, q33 _ (by omega) (by omega), v32, e, ← adv_y x0 x1 (by omega), Int.one_mul]
      · rw [if_neg e, q33 c c0 c1, adv_n e]
    · rw [h3 c c0 c1, adv_0 k0 c0]
      unfold c3v
      by_cases ck : c < k * k * k
      · rw [if_pos ck, if_pos (show 2 < d ∧ c < k * k * k from ⟨d2, ck⟩)]
      · rw [if_neg ck, if_neg (fun q2 => ck q2.2)]
theorem c_takeL {M : Mem} {k d x P : Int} {i : Nat} {Q : Vl → Mem → Prop} (k0 : 1 ≤ k) (k1 : k ≤ 6) (d0 : 1 ≤ d) (d3 : d ≤ 3) (e6 : M 28 6 = k) (e8 : M 28 8 = d) (h : ctM M k d (i + 1) (P * k + x)) (x0 : 0 ≤ x) (x1 : x < k) (hq : ∀ M2, kpT M M2 → ctM M2 k d i P → Q (Iv 0) M2) : cl 0 yX9_takeLetter [Rv 28, Iv x] M Q := by
  obtain ⟨h1, h2, h3⟩ := h
  obtain ⟨dv, dx⟩ := dm (p := P) x0 x1
  have kk := kb k0 k1
  have sub : ∀ d c, cc k (d + 1) (i + 1) (P * k + x) c + -1 * (if x = c % k then cc k d i P (c / k) else 0) = cc k (d + 1) i P c := fun d c => by
    rw [cc_s, dv, dx]
    split <;> omega
  refine eX9_takeLetter ⟨x0, by omega, ?_⟩
  have one : ∀ c, 0 ≤ c → c < 6 → up M 31 x (M 31 x - 1) 31 c = c1v k i P c := fun c c0 c1 => by
    rw [up_at]
    unfold c1v
    by_cases ck : c < k
    · have s := c1_s (P := P) (i := i) x0 x1 c0 ck
      rw [if_pos ck]
      by_cases e : c = x
      · rw [if_pos e] at s ⊢
        rw [e] at s ⊢
        rw [h1 x x0 (by omega)]
        unfold c1v
        rw [if_pos x1]
        omega
      · rw [if_neg e, Int.add_zero] at s
        rw [if_neg e, h1 c c0 c1]
        unfold c1v
        rw [if_pos ck, s]
    · rw [if_neg ck, if_neg (by omega), h1 c c0 c1]
      unfold c1v
      rw [if_neg ck]
  refine up_ind (P := fun p => ∀ M3, kpT M M3 → (∀ c, 0 ≤ c → c < 6 → M3 31 c = c1v k i P c) → (∀ c, 0 ≤ c → c < 36 → M3 32 c = adv (-1) k x k (cc k 2 (i + 1) (P * k + x)) (cc k 1 i P) p c) → M3 33 = M 33 → wp 0 yX9_takeLetter 12 [some (Rv 28), some (Iv x), some (Iv p)] [] M3 Q) (a := 0) (n := k) (by omega) (fun M3 o3 q31 q32 q33 => ?_) (fun p p0 p1 ih M3 o3 q31 q32 q33 => ?_) _ (fun a g1 _ _ => up_ne g1) one (fun c c0 c1 => by rw [up_ne (by decide), h2 c c0 c1, adv_0 k0 c0]; rfl) (up_ne (by decide))
  · have f6 : M3 28 6 = k := by rw [o3 28 (by decide) (by decide) (by decide)]; exact e6
    have f8 : M3 28 8 = d := by rw [o3 28 (by decide) (by decide) (by decide)]; exact e8
    have two : ∀ c, 0 ≤ c → c < 36 → M3 32 c = c2v k i P c := fun c c0 c1 => by
      rw [q32 c c0 c1, adv_e k0]
      unfold c2v
      by_cases ck : c < k * k
      · rw [if_pos ck, if_pos ck]; exact sub 1 c
      · rw [if_neg ck, if_neg ck]
    refine gX9_takeLetter_12 ⟨⟨by omega, by omega⟩, by rw [f6]; exact ⟨by omega, by omega⟩, fun _ => ⟨by rw [f8]; exact ⟨by omega, by omega⟩, fun q => hq M3 o3 ⟨q31, two, fun c c0 c1 => ?_⟩, fun q => ?_⟩, fun q => absurd q (by omega)⟩
    · rw [q33, h3 c c0 c1]
      unfold c3v
      rw [if_neg (fun q2 => by have := q2.1; omega), if_neg (fun q2 => by have := q2.1; omega)]
    · have d2 : 2 < d := by omega
      refine up_ind (P := fun p => ∀ M4, kpT M M4 → (∀ c, 0 ≤ c → c < 6 → M4 31 c = c1v k i P c) → (∀ c, 0 ≤ c → c < 36 → M4 32 c = c2v k i P c) → (∀ c, 0 ≤ c → c < 216 → M4 33 c = adv (-1) k x (k * k) (cc k 3 (i + 1) (P * k + x)) (cc k 2 i P) p c) → wp 0 yX9_takeLetter 58 [some (Rv 28), some (Iv x), some (Iv p)] [] M4 Q) (a := 0) (n := k * k) (by omega) (fun M4 o4 r31 r32 r33 => ?_) (fun p p0 p1 ih M4 o4 r31 r32 r33 => ?_) M3 o3 q31 two (fun c c0 c1 => ?_)
      · have f6 : M4 28 6 = k := by rw [o4 28 (by decide) (by decide) (by decide)]; exact e6
        refine gX9_takeLetter_58 ⟨⟨by omega, by omega⟩, by rw [f6]; exact ⟨by omega, by omega⟩, fun _ => hq M4 o4 ⟨r31, r32, fun c c0 c1 => ?_⟩, fun q => absurd q (by rw [f6]; omega)⟩
        rw [r33 c c0 c1, adv_e k0]
        unfold c3v
        by_cases ck : c < k * k * k
        · rw [if_pos ck, if_pos (show 2 < d ∧ c < k * k * k from ⟨d2, ck⟩)]; exact sub 2 c
        · rw [if_neg ck, if_neg (fun q2 => ck q2.2)]
      · have f6 : M4 28 6 = k := by rw [o4 28 (by decide) (by decide) (by decide)]; exact e6
        have ix := ix3 k0 k1 p0 p1 x0 x1
        have v32 : M4 32 p = cc k 2 i P p := by rw [r32 p p0 (by omega)]; unfold c2v; rw [if_pos p1]
        refine gX9_takeLetter_58 ⟨⟨by omega, by omega⟩, by rw [f6]; exact ⟨by omega, by omega⟩, fun q => absurd q (by rw [f6]; omega), fun _ => ?_⟩
        rw [f6]
        refine ⟨by omega, by omega, p0, by omega, ih _ (fun a g1 g2 g3 => by rw [up_ne g3]; exact o4 a g1 g2 g3) (fun c c0 c1 => by rw [up_ne (by decide)]; exact r31 c c0 c1) (fun c c0 c1 => by rw [up_ne (by decide)]; exact r32 c c0 c1) (fun c c0 c1 => ?_)⟩
        rw [up_at]
        by_cases e : c = p * k + x
        · rw [if_pos e, r33 _ (by omega) (by omega), v32, e, ← adv_y x0 x1 (by omega)]
          omega
        · rw [if_neg e, r33 c c0 c1, adv_n e]
      · rw [q33, h3 c c0 c1, adv_0 k0 c0]
        unfold c3v
        by_cases ck : c < k * k * k
        · rw [if_pos ck, if_pos (show 2 < d ∧ c < k * k * k from ⟨d2, ck⟩)]
        · rw [if_neg ck, if_neg (fun q2 => ck q2.2)]
  · have f6 : M3 28 6 = k := by rw [o3 28 (by decide) (by decide) (by decide)]; exact e6
    have ix := ix2 k0 k1 p0 p1 x0 x1
    have v31 : M3 31 p = cc k 1 i P p := by rw [q31 p p0 (by omega)]; unfold c1v; rw [if_pos p1]
    refine gX9_takeLetter_12 ⟨⟨by omega, by omega⟩, by rw [f6]; exact ⟨by omega, by omega⟩, fun q => absurd q (by omega), fun _ => ?_⟩
    rw [f6]
    refine ⟨by omega, by omega, p0, by omega, ih _ (fun a g1 g2 g3 => by rw [up_ne g2]; exact o3 a g1 g2 g3) (fun c c0 c1 => by rw [up_ne (by decide)]; exact q31 c c0 c1) (fun c c0 c1 => ?_) (by rw [up_ne (by decide)]; exact q33)⟩
    rw [up_at]
    by_cases e : c = p * k + x
    · rw [if_pos e, q32 _ (by omega) (by omega), v31, e, ← adv_y x0 x1 (by omega)]
      omega
    · rw [if_neg e, q32 c c0 c1, adv_n e]
theorem c_depth {M : Mem} {k d P : Int} {i : Nat} {Q : Vl → Mem → Prop} (k0 : 1 ≤ k) (k1 : k ≤ 6) (d0 : 1 ≤ d) (d3 : d ≤ 3) (e8 : M 28 8 = d) (h : ctM M k d i P) (hq : ∀ (a : Int) (m : Nat), isA a m → (31 ≤ a ∧ a ≤ 33) → k ^ d.toNat ≤ m → m ≤ 216 → (∀ c, 0 ≤ c → c < k ^ d.toNat → M a c = cc k d.toNat i P c) → Q (Rv a) M) : cl 0 yX9_countsOfDepth [Rv 28] M Q := by
  obtain ⟨h1, h2, h3⟩ := h
  have kk := kb k0 k1
  refine eX9_countsOfDepth ⟨by rw [e8]; exact ⟨by omega, by omega⟩, fun q => ⟨fun q2 => ?_, fun q2 => ?_⟩, fun q => ?_⟩
  · have ed : d = 3 := by omega
    subst ed
    rw [show Int.toNat 3 = 3 from rfl, pw3] at hq
    exact hq 33 216 ⟨by decide, by decide, rfl⟩ (by decide) (by omega) (by decide) (fun c c0 c1 => by rw [h3 c c0 (by omega)]; unfold c3v; rw [if_pos ⟨by decide, c1⟩])
  · have ed : d = 2 := by omega
    subst ed
    rw [show Int.toNat 2 = 2 from rfl, pw2] at hq
    exact hq 32 36 ⟨by decide, by decide, rfl⟩ (by decide) (by omega) (by decide) (fun c c0 c1 => by rw [h2 c c0 (by omega)]; unfold c2v; rw [if_pos c1])
  · have ed : d = 1 := by omega
    subst ed
    rw [show Int.toNat 1 = 1 from rfl, pw1] at hq
    exact hq 31 6 ⟨by decide, by decide, rfl⟩ (by decide) (by omega) (by decide) (fun c c0 c1 => by rw [h1 c c0 (by omega)]; unfold c1v; rw [if_pos c1])
theorem c_many {M : Mem} {k d x P : Int} {i : Nat} {D : Int → Int} {Q : Vl → Mem → Prop} (k0 : 1 ≤ k) (k1 : k ≤ 6) (d0 : 1 ≤ d) (d3 : d ≤ 3) (i4 : i ≤ 40) (e6 : M 28 6 = k) (e8 : M 28 8 = d) (h : ctM M k d i P) (x0 : 0 ≤ x) (x1 : x < k) (hD : ∀ c, 0 ≤ c → c < k ^ d.toNat → M 34 c = D c ∧ inr (D c)) (hy : ∀ c, 0 ≤ c → c < k ^ d.toNat → D c < cc k d.toNat i P c → Q (Iv 1) M) (hn : (∀ c, 0 ≤ c → c < k ^ d.toNat → c % k = x → cc k d.toNat i P c ≤ D c) → Q (Iv 0) M) : cl 0 yX9_hasTooMany [Rv 28, Iv x] M Q := by
  refine eX9_hasTooMany (c_depth k0 k1 d0 d3 e8 h (fun a m ha hab hm hm2 hc => ⟨m, ha, ?_⟩))
  have kk := kb k0 k1
  have pd : k ^ d.toNat = k ^ (d - 1).toNat * k := by rw [show d.toNat = (d - 1).toNat + 1 by omega, Int.pow_succ]
  have pp : 0 < k ^ (d - 1).toNat := Int.pow_pos (by omega)
  have pb : k ^ (d - 1).toNat ≤ 36 := by
    have e : d = 1 ∨ d = 2 ∨ d = 3 := by omega
    rcases e with rfl | rfl | rfl
    · show k ^ 0 ≤ 36; rw [Int.pow_zero]; decide
    · show k ^ 1 ≤ 36; rw [pw1]; omega
    · show k ^ 2 ≤ 36; rw [pw2]; omega
  have main : wp 0 yX9_hasTooMany 35 [some (Rv 28), some (Iv x), some (Rv a), some (Iv (k ^ (d - 1).toNat)), some (Iv 0)] [] M Q := by
    refine up_ind (P := fun p => (∀ c, 0 ≤ c → c < k ^ d.toNat → c % k = x → c / k < p → cc k d.toNat i P c ≤ D c) → wp 0 yX9_hasTooMany 35 [some (Rv 28), some (Iv x), some (Rv a), some (Iv (k ^ (d - 1).toNat)), some (Iv p)] [] M Q) (a := 0) (n := k ^ (d - 1).toNat) (by omega) (fun hl => ?_) (fun p p0 p1 ih hl => ?_) (fun c c0 c1 c2 c3 => absurd c3 (by have := Int.ediv_nonneg c0 (show 0 ≤ k by omega); omega))
    · exact gX9_hasTooMany_35 ha ⟨⟨by omega, by omega⟩, ⟨by omega, by omega⟩, fun _ => hn (fun c c0 c1 c2 => hl c c0 c1 c2 (Int.ediv_lt_of_lt_mul (by omega) (by rw [← pd]; exact c1))), fun q => absurd q (by omega)⟩
    · have pk0 : 0 ≤ p * k := Int.mul_nonneg p0 (by omega)
      have pk1 : (p + 1) * k ≤ k ^ (d - 1).toNat * k := Int.mul_le_mul_of_nonneg_right (by omega) (by omega)
      rw [Int.add_mul, Int.one_mul, ← pd] at pk1
      have lt : p * k + x < k ^ d.toNat := by omega
      obtain ⟨D1, D2⟩ := hD (p * k + x) (by omega) lt
      have cb := cc_b (k := k) (P := P) (c := p * k + x) (show d.toNat ≤ 3 by omega) i4
      have cv := hc (p * k + x) (by omega) lt
      refine gX9_hasTooMany_35 ha ⟨⟨by omega, by omega⟩, ⟨by omega, by omega⟩, fun q => absurd q (by omega), fun _ => ?_⟩
      rw [e6, cv, D1]
      refine ⟨by omega, by omega, ⟨by omega, by omega⟩, by omega, ⟨by omega, by omega⟩, D2, fun q => ih (fun c c0 c1 c2 c3 => ?_), fun q => hy _ (by omega) lt q⟩
      by_cases ce : c / k = p
      · have e := Int.mul_ediv_add_emod c k
        rw [Int.mul_comm, ce, c2] at e
        rw [← e]
        exact q
      · exact hl c c0 c1 c2 (by omega)
  show wp 0 yX9_hasTooMany 10 _ _ _ _
  have key := up_ind (P := fun j => 1 ≤ j → wp 0 yX9_hasTooMany 10 [some (Rv 28), some (Iv x), some (Rv a), some (Iv (k ^ (j - 1).toNat)), some (Iv j)] [] M Q) (a := 1) (n := d) d0 (fun _ => ?_) (fun j j0 j1 ih _ => ?_) (Int.le_refl 1)
  · rw [show ((1 : Int) - 1).toNat = 0 from rfl, Int.pow_zero] at key
    exact key
  · exact gX9_hasTooMany_10 ha ⟨⟨by omega, by omega⟩, by rw [e8]; exact ⟨by omega, by omega⟩, fun _ => main, fun q => absurd q (by omega)⟩
  · refine gX9_hasTooMany_10 ha ⟨⟨by omega, by omega⟩, by rw [e8]; exact ⟨by omega, by omega⟩, fun q => absurd q (by omega), fun _ => ?_⟩
    have := ih (by omega)
    rw [show (j + 1 - 1).toNat = (j - 1).toNat + 1 by omega, Int.pow_succ] at this
    rw [e6]
    exact this
