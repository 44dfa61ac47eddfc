theorem p2_nn (n : Nat) : (0 : Int) ≤ 1 * 2 ^ n := by rw [Int.one_mul]; exact Int.le_of_lt (Int.pow_pos (by decide))
theorem lc_inr {x z : Int} : inr (if x = z then 0 else if z < x then 1 else -1) := by
  by_cases h : x = z
  · rw [if_pos h]; decide
  · rw [if_neg h]
    by_cases h2 : z < x
    · rw [if_pos h2]; decide
    · rw [if_neg h2]; decide
theorem lc_lt {x z : Int} : (if x = z then 0 else if z < x then 1 else -1) < (0 : Int) ↔ x < z := by split <;> (try split) <;> omega
theorem lc_ge {x z : Int} : (0 : Int) ≤ (if x = z then 0 else if z < x then 1 else -1) ↔ z ≤ x := by split <;> (try split) <;> omega
theorem lc_gt {x z : Int} : (0 : Int) < (if x = z then 0 else if z < x then 1 else -1) ↔ z < x := by split <;> (try split) <;> omega
theorem lc_le {x z : Int} : (if x = z then 0 else if z < x then 1 else -1) ≤ (0 : Int) ↔ x ≤ z := by split <;> (try split) <;> omega
theorem lc_eq {x z : Int} : (if x = z then 0 else if z < x then 1 else -1) = (0 : Int) ↔ x = z := by split <;> (try split) <;> omega
theorem lc_ne {x z : Int} : (if x = z then 0 else if z < x then 1 else -1) ≠ (0 : Int) ↔ x ≠ z := by split <;> (try split) <;> omega
def lmask (ms : List Bool) (L : Lx) : Lx := match ms, L with
  | b :: ms, v :: L => (if b = true then v else none) :: lmask ms L
  | _, _ => []
theorem lmask_at (ms : List Bool) (L : Lx) (i : Nat) (v : Vl) (h : (lmask ms L)[i]? = some (some v)) : L[i]? = some (some v) := by
  induction ms generalizing L i with
  | nil => cases L <;> simp [lmask] at h
  | cons b ms ih =>
    cases L with
    | nil => simp [lmask] at h
    | cons w L =>
      cases i with
      | zero =>
        simp only [lmask, List.getElem?_cons_zero, Option.some.injEq] at h ⊢
        by_cases hb : b = true
        · rw [if_pos hb] at h; exact h
        · rw [if_neg hb] at h; cases h
      | succ i =>
        simp only [lmask, List.getElem?_cons_succ] at h ⊢
        exact ih L i h
theorem wp_weak {e0 : Nat} {N N2 : Int} {b : Option (Nat × Nat)} {cc ss : Nat} {y : Yx} {pc : Nat} {L L2 : Lx} {S : List Vl} {M : Mem} {Q : Vl → Mem → Prop} (ms : List Bool) (hm : lmask ms L = L2) (h : WPg e0 N N2 b cc ss y pc L2 S M Q) : WPg e0 N N2 b cc ss y pc L S M Q := by
  intro l G d R p e s m args below meth c Z a1 a2 a3 a4 a5 C hret H locs ls hH hS hL
  subst hm
  exact h l G d R p e s m args below meth c Z a1 a2 a3 a4 a5 C hret H locs ls hH hS ⟨hL.1, hL.2.1, fun i v hv => hL.2.2 i v (lmask_at ms L i v hv)⟩
theorem wp_imp {e0 : Nat} {N N2 : Int} {b : Option (Nat × Nat)} {cc ss : Nat} {y : Yx} {pc : Nat} {L : Lx} {S : List Vl} {M : Mem} {Q Q2 : Vl → Mem → Prop} (hq : ∀ v M2, Q v M2 → Q2 v M2) (h : WPg e0 N N2 b cc ss y pc L S M Q) : WPg e0 N N2 b cc ss y pc L S M Q2 := by
  intro l G d R p e s m args below meth c Z a1 a2 a3 a4 a5 C hret H locs ls hH hS hL
  exact h l G d R p e s m args below meth c Z a1 a2 a3 a4 a5 C (fun v M2 H1 locs1 ls1 pc1 q => hret v M2 H1 locs1 ls1 pc1 (hq v M2 q)) H locs ls hH hS hL
