/-! 25 places -/
def ft (W V : Int → Int) (n m l i j : Int) : Bool := decide (W i = V j ∧ ea W V n j ≤ i ∧ i ≤ la W V n m j ∧ (l = 0 ∨ ea W V n j = la W V n m j))
def pJ (W V : Int → Int) (n m l i : Int) : Nat → Bool
  | 0 => false
  | j + 1 => pJ W V n m l i j || ft W V n m l i j
def pj (W V : Int → Int) (n m l i j : Int) : Bool := pJ W V n m l i j.toNat
theorem pj_0 {W V : Int → Int} {n m l i : Int} : pj W V n m l i 0 = false := rfl
theorem pj_s {W V : Int → Int} {n m l i j : Int} (h : 0 ≤ j) : pj W V n m l i (j + 1) = (pj W V n m l i j || ft W V n m l i j) := by
  unfold pj
  rw [show (j + 1).toNat = j.toNat + 1 by omega]
  show (pJ W V n m l i j.toNat || ft W V n m l i (j.toNat : Int)) = _
  rw [show ((j.toNat : Nat) : Int) = j by omega]
theorem ft_i {W V : Int → Int} {n m l i j : Int} : ft W V n m l i j = true ↔ (W i = V j ∧ ea W V n j ≤ i ∧ i ≤ la W V n m j ∧ (l = 0 ∨ ea W V n j = la W V n m j)) := by
  unfold ft
  exact decide_eq_true_iff
theorem pj_z {W V : Int → Int} {n m l i : Int} (hn : 0 ≤ n) (hs : stn W V n m) (hi : n ≤ i) : ∀ j : Nat, (j : Int) ≤ m → pj W V n m l i j = false := by
  intro j
  induction j with
  | zero => intro _; rfl
  | succ j ih =>
    intro hj
    rw [show ((j + 1 : Nat) : Int) = (j : Int) + 1 by omega, pj_s (by omega), ih (by omega), Bool.false_or]
    have := la_b hn hs (show (0 : Int) ≤ j by omega) (by omega)
    refine Bool.eq_false_iff.2 (fun q => ?_)
    have := ft_i.1 q
    omega
theorem bm_tl {q : Int → Bool} {a : Nat} : ∀ b : Nat, a ≤ b → (∀ i, (a : Int) ≤ i → i < (b : Int) → q i = false) → bmN q b = bmN q a ∧ bcN q b = bcN q a := by
  intro b
  induction b with
  | zero => intro h _; rw [show a = 0 by omega]; exact ⟨rfl, rfl⟩
  | succ b ih =>
    intro h hq
    by_cases c : a = b + 1
    · rw [c]; exact ⟨rfl, rfl⟩
    · have h1 := ih (by omega) (fun i i0 i1 => hq i i0 (by omega))
      have h2 := hq b (by omega) (by omega)
      have e : bit q b = 0 := by unfold bit; rw [h2]; rfl
      rw [bmN_s, e, Nat.mul_zero, Nat.add_zero]
      show bmN q b = bmN q a ∧ bcN q b + bit q b = bcN q a
      rw [e, Nat.add_zero]
      exact h1
theorem or_I {q : Int → Bool} {x : Int} (x0 : 0 ≤ x) (x1 : x < 40) : ((Int.toNat ((bmN q 40 : Nat) : Int) ||| Int.toNat (1 * 2 ^ Int.toNat x) : Nat) : Int) = ((bmN (st1 q x) 40 : Nat) : Int) := by
  rw [p2_cast, Int.toNat_natCast, Int.toNat_natCast, bm_or 40 (by omega), show ((x.toNat : Nat) : Int) = x by omega]
theorem c_someWay {M : Mem} {a1 a2 n m k : Int} {W V : Int → Int} {Q : Vl → Mem → Prop} (h1 : isL a1 40) (h2 : isL a2 40) (l1 : lnX M a1 n W) (l2 : lnX M a2 m V) (b1 : wdB n W k) (b2 : wdB m V k) (hs : stn W V n m) (e : ∀ j, 0 ≤ j → j < m → M 11 j = ea W V n j ∧ M 12 j = la W V n m j) (hq : Q (Jv ((bmN (fun t => pj W V n m 0 t m) 40 : Nat) : Int)) M) : cl 0 yX7_someWay [Rv 10, Rv a1, Rv a2] M Q := by
  obtain ⟨n0, n1, k0, k1, hw⟩ := b1
  obtain ⟨m0, m1, -, -, hv⟩ := b2
  obtain ⟨e1', f1⟩ := l1
  obtain ⟨e2', f2⟩ := l2
  refine eX7_someWay h1 h2 ?_
  have := up_ind (P := fun j => wp 0 yX7_someWay 5 [some (Rv 10), some (Rv a1), some (Rv a2), some (Jv ((bmN (fun t => pj W V n m 0 t j) 40 : Nat) : Int)), none, some (Iv j), none] [] M Q) (a := 0) (n := m) m0 ?_ (fun j j0 j1 ih => ?_)
  · rw [show bmN (fun t => pj W V n m 0 t 0) 40 = 0 from (bm_tl (a := 0) 40 (by decide) (fun _ _ _ => rfl)).1] at this
    exact this
  · exact gX7_someWay_5 h1 h2 ⟨⟨by omega, by omega⟩, ⟨by omega, by omega⟩, fun _ => hq, fun q => absurd q (by omega)⟩
  · have lb := la_b n0 hs j0 j1
    have eb := ea_b n0 hs j0 j1
    obtain ⟨e11, e12⟩ := e j j0 j1
    refine gX7_someWay_5 h1 h2 ⟨⟨by omega, by omega⟩, ⟨by omega, by omega⟩, fun q => absurd q (by omega), fun _ => ⟨j0, by omega, ?_⟩⟩
    rw [e11]
    have inner := up_ind (P := fun x => wp 0 yX7_someWay 23 [some (Rv 10), some (Rv a1), some (Rv a2), some (Jv ((bmN (fun t => pj W V n m 0 t j || (ft W V n m 0 t j && decide (t < x))) 40 : Nat) : Int)), none, some (Iv j), some (Iv x)] [] M Q) (a := ea W V n j) (n := la W V n m j + 1) (by omega) ?_ (fun x x0 x1 ih2 => ?_)
    · rw [bm_cg (q := fun t => pj W V n m 0 t j) 40 (fun t t0 t1 => by
        show (pj W V n m 0 t j || (ft W V n m 0 t j && decide (t < ea W V n j))) = pj W V n m 0 t j
        by_cases c : ft W V n m 0 t j = true
        · have := ft_i.1 c
          rw [decide_eq_false (by omega), Bool.and_false, Bool.or_false]
        · rw [Bool.eq_false_iff.2 c, Bool.false_and, Bool.or_false])] at inner
      exact inner
    · refine gX7_someWay_23 h1 h2 ⟨j0, by omega, ⟨by omega, by omega⟩, ⟨by omega, by omega⟩, fun _ => ?_, fun q => absurd q (by omega)⟩
      rw [bm_cg (q := fun t => pj W V n m 0 t (j + 1)) 40 (fun t t0 t1 => by
        show (pj W V n m 0 t j || (ft W V n m 0 t j && decide (t < la W V n m j + 1))) = pj W V n m 0 t (j + 1)
        rw [pj_s j0]
        by_cases c : ft W V n m 0 t j = true
        · have := ft_i.1 c
          rw [decide_eq_true (by omega), Bool.and_true]
        · rw [Bool.eq_false_iff.2 c, Bool.false_and])]
      exact ih
    · have fx := f1 x (by omega) (by omega)
      have fj := f2 j j0 j1
      have gx := hw x (by omega) (by omega)
      have gj := hv j j0 j1
      refine gX7_someWay_23 h1 h2 ⟨j0, by omega, ⟨by omega, by omega⟩, ⟨by omega, by omega⟩, fun q => absurd q (by omega), fun _ => ⟨by omega, by omega, by omega, ⟨by omega, by omega⟩, Or.inr ⟨⟨by omega, by omega⟩, ⟨by omega, by omega⟩⟩, fun q => ?_, fun q => ⟨by omega, by omega, ?_⟩⟩⟩
      · rw [fx, fj] at q
        rw [bm_cg (q := fun t => pj W V n m 0 t j || (ft W V n m 0 t j && decide (t < x + 1))) 40 (fun t t0 t1 => by
          show (pj W V n m 0 t j || (ft W V n m 0 t j && decide (t < x))) = (pj W V n m 0 t j || (ft W V n m 0 t j && decide (t < x + 1)))
          by_cases c : ft W V n m 0 t j = true
          · have c2 := ft_i.1 c
            have : t ≠ x := fun q2 => q (by rw [← q2]; exact c2.1)
            by_cases c3 : t < x
            · rw [decide_eq_true c3, decide_eq_true (by omega)]
            · rw [decide_eq_false c3, decide_eq_false (by omega)]
          · rw [Bool.eq_false_iff.2 c, Bool.false_and, Bool.false_and])]
        exact ih2
      · rw [fx, fj] at q
        rw [or_I (by omega) (by omega), bm_cg (q := fun t => pj W V n m 0 t j || (ft W V n m 0 t j && decide (t < x + 1))) 40 (fun t t0 t1 => by
          show (if t = x then true else (pj W V n m 0 t j || (ft W V n m 0 t j && decide (t < x)))) = (pj W V n m 0 t j || (ft W V n m 0 t j && decide (t < x + 1)))
          by_cases c : t = x
          · rw [if_pos c, ft_i.2 ⟨by rw [c]; exact q, by omega, by omega, Or.inl rfl⟩, decide_eq_true (by omega), Bool.and_true, Bool.or_true]
          · rw [if_neg c]
            by_cases c3 : t < x
            · rw [decide_eq_true c3, decide_eq_true (by omega)]
            · rw [decide_eq_false c3, decide_eq_false (by omega)])]
        exact ih2
theorem c_everyWay {M : Mem} {n m k l : Int} {W V : Int → Int} {Q : Vl → Mem → Prop} (hl : l ≠ 0) (b1 : wdB n W k) (b2 : wdB m V k) (hs : stn W V n m) (e : ∀ j, 0 ≤ j → j < m → M 11 j = ea W V n j ∧ M 12 j = la W V n m j) (hq : Q (Jv ((bmN (fun t => pj W V n m l t m) 40 : Nat) : Int)) M) : cl 0 yX7_everyWay [Rv 10, Iv m] M Q := by
  obtain ⟨n0, n1, k0, k1, hw⟩ := b1
  obtain ⟨m0, m1, -, -, hv⟩ := b2
  refine eX7_everyWay ?_
  have := up_ind (P := fun j => wp 0 yX7_everyWay 5 [some (Rv 10), some (Iv m), some (Jv ((bmN (fun t => pj W V n m l t j) 40 : Nat) : Int)), none, some (Iv j)] [] M Q) (a := 0) (n := m) m0 ?_ (fun j j0 j1 ih => ?_)
  · rw [show bmN (fun t => pj W V n m l t 0) 40 = 0 from (bm_tl (a := 0) 40 (by decide) (fun _ _ _ => rfl)).1] at this
    exact this
  · exact gX7_everyWay_5 ⟨⟨by omega, by omega⟩, ⟨by omega, by omega⟩, fun _ => hq, fun q => absurd q (by omega)⟩
  · have lb := la_b n0 hs j0 j1
    have eb := ea_b n0 hs j0 j1
    obtain ⟨e11, e12⟩ := e j j0 j1
    refine gX7_everyWay_5 ⟨⟨by omega, by omega⟩, ⟨by omega, by omega⟩, fun q => absurd q (by omega), fun _ => ⟨j0, by omega, Or.inr ⟨⟨by omega, by omega⟩, ⟨by omega, by omega⟩⟩, fun q => ?_, fun q => ⟨by omega, by omega, by omega, ?_⟩⟩⟩
    · rw [bm_cg (q := fun t => pj W V n m l t (j + 1)) 40 (fun t t0 t1 => by
        show pj W V n m l t j = pj W V n m l t (j + 1)
        rw [pj_s j0, Bool.eq_false_iff.2 (fun c => by have := ft_i.1 c; omega), Bool.or_false])]
      exact ih
    · rw [e11, or_I (by omega) (by omega), bm_cg (q := fun t => pj W V n m l t (j + 1)) 40 (fun t t0 t1 => by
        show (if t = ea W V n j then true else pj W V n m l t j) = pj W V n m l t (j + 1)
        rw [pj_s j0]
        by_cases c : t = ea W V n j
        · rw [if_pos c, ft_i.2 ⟨by rw [c]; exact eb.2.2.2, by omega, by omega, Or.inr (by omega)⟩, Bool.or_true]
        · rw [if_neg c, Bool.eq_false_iff.2 (fun c2 => by have := ft_i.1 c2; omega), Bool.or_false])]
      exact ih
