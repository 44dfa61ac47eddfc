/-! 25 places -/
def ft (W V : Int → Int) (n m l i j : Int) : Bool := decide (W i = V j ∧ ea W V n j ≤ i ∧ i ≤ la W V n m j ∧ (l = 0 ∨ ea W V n j = la W V n m j))
def pJ (W V : Int → Int) (n m l i : Int) : Nat → Bool
  | 0 => false
  | j + 1 => pJ W V n m l i j || ft W V n m l i j
def pj (W V : Int → Int) (n m l i j : Int) : Bool := pJ W V n m l i j.toNat
theorem pj_0 {W V : Int → Int} {n m l i : Int} : pj W V n m l i 0 = false := rfl
theorem pj_s {W V : Int → Int} {n m l i j : Int} (h : 0 ≤ j) : pj W V n m l i (j + 1) = (pj W V n m l i j || ft W V n m l i j) := by
  unfold pj
  rw [show (j + 1).toNat = j.toNat + 1 by omega]
  show (pJ W V n m l i j.toNat || ft W V n m l i (j.toNat : Int)) = _
  rw [show ((j.toNat : Nat) : Int) = j by omega]
theorem ft_i {W V : Int → Int} {n m l i j : Int} : ft W V n m l i j = true ↔ (W i = V j ∧ ea W V n j ≤ i ∧ i ≤ la W V n m j ∧ (l = 0 ∨ ea W V n j = la W V n m j)) := by
  unfold ft
  exact decide_eq_true_iff
theorem pj_z {W V : Int → Int} {n m l i : Int} (hn : 0 ≤ n) (hs : stn W V n m) (hi : n ≤ i) : ∀ j : Nat, (j : Int) ≤ m → pj W V n m l i j = false := by
  intro j
  induction j with
  | zero => intro _; rfl
  | succ j ih =>
    intro hj
    rw [show ((j + 1 : Nat) : Int) = (j : Int) + 1 by omega, pj_s (by omega), ih (by omega), Bool.false_or]
    have := la_b hn hs (show (0 : Int) ≤ j by omega) (by omega)
    refine Bool.eq_false_iff.2 (fun q => ?_)
    have := ft_i.1 q
    omega
theorem bm_tl {q : Int → Bool} {a : Nat} : ∀ b : Nat, a ≤ b → (∀ i, (a : Int) ≤ i → i < (b : Int) → q i = false) → bmN q b = bmN q a ∧ bcN q b = bcN q a := by
  intro b
  induction b with
  | zero => intro h _; rw [show a = 0 by omega]; exact ⟨rfl, rfl⟩
  | succ b ih =>
    intro h hq
    by_cases c : a = b + 1
    · rw [c]; exact ⟨rfl, rfl⟩
    · have h1 := ih (by omega) (fun i i0 i1 => hq i i0 (by omega))
      have h2 := hq b (by omega) (by omega)
      have e : bit q b = 0 := by unfold bit; rw [h2]; rfl
      rw [bmN_s, e, Nat.mul_zero, Nat.add_zero]
      show bmN q b = bmN q a ∧ bcN q b + bit q b = bcN q a
      rw [e, Nat.add_zero]
      exact h1
theorem or_I {q : Int → Bool} {x : Int} (x0 : 0 ≤ x) (x1 : x < 40) : ((Int.toNat ((bmN q 40 : Nat) : Int) ||| Int.toNat (1 * 2 ^ Int.toNat x) : Nat) : Int) = ((bmN (st1 q x) 40 : Nat) : Int) := by
  rw [p2_cast, Int.toNat_natCast, Int.toNat_natCast, bm_or 40 (by omega), show ((x.toNat : Nat) : Int) = x by omega]
theorem c_someWay {M : Mem} {a1 a2 n m k : Int} {W V : Int → Int} {Q : Vl → Mem → Prop} (h1 : isL a1 40) (h2 : isL a2 40) (l1 : lnX M a1 n W) (l2 : lnX M a2 m V) (b1 : wdB n W k) (b2 : wdB m V k) (hs : stn W V n m) (e : ∀ j, 0 ≤ j → j < m → M 11 j = ea W V n j ∧ M 12 j = la W V n m j) (hq : Q (Jv ((bmN (fun t => pj W V n m 0 t m) 40 : Nat) : Int)) M) : cl 0 yX7_someWay [Rv 10, Rv a1, Rv a2] M Q := by
  obtain ⟨n0, n1, k0, k1, hw⟩ := b1
  obtain ⟨m0, m1, -, -, hv⟩ := b2
  obtain ⟨e1', f1⟩ := l1
  obtain ⟨e2', f2⟩ := l2
  refine eX7_someWay h1 h2 ?_
  have := up_ind (P := fun j => wp 0 yX7_someWay 5 [some (Rv 10), some (Rv a1), some (Rv a2), some (Jv ((bmN (fun t => pj W V n m 0 t j) 40 : Nat) : Int)), none, some (Iv j), none] [] M Q) (a := 0) (n := m) m0 ?_ (fun j j0 j1 ih => ?_)
  · rw [show bmN (fun t => pj W V n m 0 t 0) 40 = 0 from (bm_tl (a := 0) 40 (by decide) (fun _ _ _ => rfl)).1] at this
    exact this
  · exact gX7_someWay_5 h1 h2 ⟨⟨by omega, by omega⟩, ⟨by omega, by omega⟩, fun _ => hq, fun q => absurd q (by omega)⟩
  · have lb := la_b n0 hs j0 j1
    have eb := ea_b n0 hs j0 j1
    obtain ⟨e11, e12⟩ := e j j0 j1
    refine gX7_someWay_5 h1 h2 ⟨⟨by omega, by omega⟩, ⟨by omega, by omega⟩, fun q => absurd q (by omega), fun _ => ⟨j0, by omega, ?_⟩⟩
    rw [e11]
    have inner := up_ind (P := fun x => wp 0 yX7_someWay 23 [some (Rv 10), some (Rv a1), some (Rv a2), some (Jv ((bmN (fun t => pj W V n m 0 t j || (ft W V n m 0 t j && decide (t < x))) 40 : Nat) : Int)), none, some (Iv j), some (Iv x)] [] M Q) (a := ea W V n j) (n := la W V n m j + 1) (by omega) ?_ (fun x x0 x1 ih2 => ?_)
    · rw [bm_cg (q := fun t => pj W V n m 0 t j) 40 (fun t t0 t1 => by
        show (pj W V n m 0 t j || (ft W V n m 0 t j && decide (t < ea W V n j))) = pj W V n m 0 t j
        by_cases c : ft W V n m 0 t j = true
        · have := ft_i.1 c
          rw [decide_eq_false (by omega), Bool.and_false, Bool.or_false]
        · rw [Bool.eq_false_iff.2 c, Bool.false_and, Bool.or_false])] at inner
      exact inner
    · refine gX7_someWay_23 h1 h2 ⟨j0, by omega, ⟨by omega, by omega⟩, ⟨by omega, by omega⟩, fun _ => ?_, fun q => absurd q (by omega)⟩
      rw [bm_cg (q := fun t => pj W V n m 0 t (j + 1)) 40 (fun t t0 t1 => by
        show (pj W V n m 0 t j || (ft W V n m 0 t j && decide (t < la W V n m j + 1))) = pj W V n m 0 t (j + 1)
        rw [pj_s j0]
        by_cases c : ft W V n m 0 t j = true
        · have := ft_i.1 c
          rw [decide_eq_true (by omega), Bool.and_true]
        · rw [Bool.eq_false_iff.2 c, Bool.false_and])]
      exact ih
    · have fx := f1 x (by omega) (by omega)
      have fj := f2 j j0 j1
      have gx := hw x (by omega) (by omega)
      have gj := hv j j0 j1
      refine gX7_someWay_23 h1 h2 ⟨j0, by omega, ⟨by omega, by omega⟩, ⟨by omega, by omega⟩, fun q => absurd q (by omega), fun _ => ⟨by omega, by omega, by omega, ⟨by omega, by omega⟩, Or.inr ⟨⟨by omega, by omega⟩, ⟨by omega, by omega⟩⟩, fun q => ?_, fun q => ⟨by omega, by omega, ?_⟩⟩⟩
      · rw [fx, fj] at q
        rw [bm_cg (q := fun t => pj W V n m 0 t j || (ft W V n m 0 t j && decide (t < x + 1))) 40 (fun t t0 t1 => by
          show (pj W V n m 0 t j || (ft W V n m 0 t j && decide (t < x))) = (pj W V n m 0 t j || (ft W V n m 0 t j && decide (t < x + 1)))
          by_cases c : ft W V n m 0 t j = true
          · have c2 := ft_i.1 c
            have : t ≠ x := fun q2 => q (by rw [← q2]; exact c2.1)
            by_cases c3 : t < x
            · rw [decide_eq_true c3, decide_eq_true (by omega)]
            · rw [decide_eq_false c3, decide_eq_false (by omega)]
          · rw [Bool.eq_false_iff.2 c, Bool.false_and, Bool.false_and])]
        exact ih2
      · rw [fx, fj] at q
        rw [or_I (by omega) (by omega), bm_cg (q := fun t => pj W V n m 0 t j || (ft W V n m 0 t j && decide (t < x + 1))) 40 (fun t t0 t1 => by
          show (if t = x then true else (pj W V n m 0 t j || (ft W V n m 0 t j && decide (t < x)))) = (pj W V n m 0 t j || (ft W V n m 0 t j && decide (t < x + 1)))
          by_cases c : t = x
          · rw [if_pos c, ft_i.2 ⟨by rw [c]; exact q, by omega, by omega, Or.inl rfl⟩, decide_eq_true (by omega), Bool.and_true, Bool.or_true]
          · rw [if_neg c]
            by_cases c3 : t < x
            · rw [decide_eq_true c3, decide_eq_true (by omega)]
            · rw [decide_eq_false c3, decide_eq_false (by omega)])]
        exact ih2
theorem c_everyWay {M : Mem} {n m k l : Int} {W V : Int → Int} {Q : Vl → Mem → Prop} (hl : l ≠ 0) (b1 : wdB n W k) (b2 : wdB m V k) (hs : stn W V n m) (e : ∀ j, 0 ≤ j → j < m → M 11 j = ea W V n j ∧ M 12 j = la W V n m j) (hq : Q (Jv ((bmN (fun t => pj W V n m l t m) 40 : Nat) : Int)) M) : cl 0 yX7_everyWay [Rv 10, Iv m] M Q := by
  obtain ⟨n0, n1, k0, k1, hw⟩ := b1
  obtain ⟨m0, m1, -, -, hv⟩ := b2
  refine eX7_everyWay ?_
  have := up_ind (P := fun j => wp 0 yX7_everyWay 5 [some (Rv 10), some (Iv m), some (Jv ((bmN (fun t => pj W V n m l t j) 40 : Nat) : Int)), none, some (Iv j)] [] M Q) (a := 0) (n := m) m0 ?_ (fun j j0 j1 ih => ?_)
  · rw [show bmN (fun t => pj W V n m l t 0) 40 = 0 from (bm_tl (a := 0) 40 (by decide) (fun _ _ _ => rfl)).1] at this
    exact this
  · exact gX7_everyWay_5 ⟨⟨by omega, by omega⟩, ⟨by omega, by omega⟩, fun _ => hq, fun q => absurd q (by omega)⟩
  · have lb := la_b n0 hs j0 j1
    have eb := ea_b n0 hs j0 j1
    obtain ⟨e11, e12⟩ := e j j0 j1
    refine gX7_everyWay_5 ⟨⟨by omega, by omega⟩, ⟨by omega, by omega⟩, fun q => absurd q (by omega), fun _ => ⟨j0, by omega, Or.inr ⟨⟨by omega, by omega⟩, ⟨by omega, by omega⟩⟩, fun q => ?_, fun q => ⟨by omega, by omega, by omega, ?_⟩⟩⟩
    · rw [bm_cg (q := fun t => pj W V n m l t (j + 1)) 40 (fun t t0 t1 => by
        show pj W V n m l t j = pj W V n m l t (j + 1)
        rw [pj_s j0, show ft W V n m l t j = false from Bool.eq_false_iff.2 (fun c => by have := ft_i.1 c; omega), Bool.or_false])]
      exact ih
    · rw [e11, or_I (by omega) (by omega), bm_cg (q := fun t => pj W V n m l t (j + 1)) 40 (fun t t0 t1 => by
        show (if t = ea W V n j then true else pj W V n m l t j) = pj W V n m l t (j + 1)
        rw [pj_s j0]
        by_cases c : t = ea W V n j
        · rw [if_pos c, ft_i.2 ⟨by rw [c]; exact eb.2.2.2, by omega, by omega, Or.inr (by omega)⟩, Bool.or_true]
        · rw [if_neg c, show ft W V n m l t j = false from Bool.eq_false_iff.2 (fun c2 => by have := ft_i.1 c2; omega), Bool.or_false])]
      exact ih
theorem op_places {S : Mem} (hW : WF S) {w v l : Int} (hw : inr w) (hv : inr v) (hl : inr l) : OpOK S yX11_places yX12_places [Iv w, Iv v, Iv l] Iv := by
  by_cases c1 : (w < 0 ∨ 8 ≤ w) ∨ (v < 0 ∨ 8 ≤ v)
  · refine ⟨-1, S, hW, fun M hX => eX11_places ?_, fun M hY => eX12_places ?_⟩
    · repeat' first
        | omega
        | exact px_rf hX _
        | exact px_fnd hX _ (by decide) (by decide)
        | refine c_noRow ?_ (fun q => ?_) (fun q => ?_)
        | refine c_noText ?_ (fun q => ?_) (fun q => ?_)
        | refine c_noWord ?_ (fun q => ?_) (fun q => ?_)
        | refine c_noLength ?_ (fun q => ?_) (fun q => ?_)
        | refine c_found (by decide) ?_
        | refine c_refuseRow hW hX ?_ (fun q => ?_) (fun q => ?_) (fun q => ?_)
        | refine c_refusePlace hW hX ?_ ?_ (fun q => ?_) (fun q => ?_) (fun q => ?_) (fun q => ?_)
        | refine c_refuseText hW hX ?_ (fun q => ?_) (fun q => ?_) (fun q => ?_)
        | refine c_refuseWords hW hX ?_ ?_ (fun q => ?_) (fun q => ?_) (fun q => ?_)
        | refine c_refuseWord hW hX ?_ (fun q => ?_) (fun q => ?_) (fun q => ?_)
        | refine c_has hL ?_ ?_ (fun q => ?_) (fun q => ?_)
        | refine c_isMissing hL ?_ (fun q => ?_) (fun q => ?_)
        | refine c_reaches hL ?_ ?_ (fun q => ?_) (fun q => ?_)
        | refine c_has hL2 ?_ ?_ (fun q => ?_) (fun q => ?_)
        | refine c_isMissing hL2 ?_ (fun q => ?_) (fun q => ?_)
        | refine c_reaches hL2 ?_ ?_ (fun q => ?_) (fun q => ?_)
        | refine c_is hWd ?_ ?_ (fun q => ?_) (fun q => ?_)
        | refine c_markOf hWd ?_ (fun q => ?_) (fun q => ?_)
        | with_reducible refine ⟨?_, ?_⟩
        | with_reducible intro q
    · repeat' first
        | omega
        | exact py_rf hY _
        | exact py_fnd hY _ (by decide) (by decide)
        | refine m_isRow ?_ (fun q => ?_) (fun q => ?_)
        | refine m_isText ?_ (fun q => ?_) (fun q => ?_)
        | refine m_isWord ?_ (fun q => ?_) (fun q => ?_)
        | refine m_in ?_ ?_ ?_ (fun q => ?_) (fun q => ?_)
        | refine m_meets (by decide) ?_
        | refine m_needWord hW hY ?_ ?_ (fun q => ?_) (fun q => ?_) (fun q => ?_)
        | refine m_needTwo hW hY ?_ ?_ ?_ (fun q => ?_) (fun q => ?_) (fun q => ?_)
        | refine m_isThere ?_ ?_ ?_ (fun q => ?_) (fun q => ?_)
        | refine m_at0 ?_ ?_ ?_
        | refine m_rowAt ?_ ?_ ?_
        | refine m_markOf ?_ ?_ ?_ (fun q => ?_) (fun q => ?_) (fun q => ?_)
        | with_reducible refine ⟨?_, ?_⟩
        | with_reducible intro q
  have w0 : 0 ≤ w := by omega
  have w8 : w < 8 := by omega
  have v0 : 0 ≤ v := by omega
  have v8 : v < 8 := by omega
  by_cases c3 : S (30 + w) (-1) < 0 ∨ S (30 + v) (-1) < 0
  · refine ⟨-3, fS S 1, hW.fnd 1, fun M hX => eX11_places ?_, fun M hY => eX12_places ?_⟩
    · repeat' first
        | omega
        | exact px_rf hX _
        | exact px_fnd hX _ (by decide) (by decide)
        | refine c_noRow ?_ (fun q => ?_) (fun q => ?_)
        | refine c_noText ?_ (fun q => ?_) (fun q => ?_)
        | refine c_noWord ?_ (fun q => ?_) (fun q => ?_)
        | refine c_noLength ?_ (fun q => ?_) (fun q => ?_)
        | refine c_found (by decide) ?_
        | refine c_refuseRow hW hX ?_ (fun q => ?_) (fun q => ?_) (fun q => ?_)
        | refine c_refusePlace hW hX ?_ ?_ (fun q => ?_) (fun q => ?_) (fun q => ?_) (fun q => ?_)
        | refine c_refuseText hW hX ?_ (fun q => ?_) (fun q => ?_) (fun q => ?_)
        | refine c_refuseWords hW hX ?_ ?_ (fun q => ?_) (fun q => ?_) (fun q => ?_)
        | refine c_refuseWord hW hX ?_ (fun q => ?_) (fun q => ?_) (fun q => ?_)
        | refine c_has hL ?_ ?_ (fun q => ?_) (fun q => ?_)
        | refine c_isMissing hL ?_ (fun q => ?_) (fun q => ?_)
        | refine c_reaches hL ?_ ?_ (fun q => ?_) (fun q => ?_)
        | refine c_has hL2 ?_ ?_ (fun q => ?_) (fun q => ?_)
        | refine c_isMissing hL2 ?_ (fun q => ?_) (fun q => ?_)
        | refine c_reaches hL2 ?_ ?_ (fun q => ?_) (fun q => ?_)
        | refine c_is hWd ?_ ?_ (fun q => ?_) (fun q => ?_)
        | refine c_markOf hWd ?_ (fun q => ?_) (fun q => ?_)
        | with_reducible refine ⟨?_, ?_⟩
        | with_reducible intro q
    · repeat' first
        | omega
        | exact py_rf hY _
        | exact py_fnd hY _ (by decide) (by decide)
        | refine m_isRow ?_ (fun q => ?_) (fun q => ?_)
        | refine m_isText ?_ (fun q => ?_) (fun q => ?_)
        | refine m_isWord ?_ (fun q => ?_) (fun q => ?_)
        | refine m_in ?_ ?_ ?_ (fun q => ?_) (fun q => ?_)
        | refine m_meets (by decide) ?_
        | refine m_needWord hW hY ?_ ?_ (fun q => ?_) (fun q => ?_) (fun q => ?_)
        | refine m_needTwo hW hY ?_ ?_ ?_ (fun q => ?_) (fun q => ?_) (fun q => ?_)
        | refine m_isThere ?_ ?_ ?_ (fun q => ?_) (fun q => ?_)
        | refine m_at0 ?_ ?_ ?_
        | refine m_rowAt ?_ ?_ ?_
        | refine m_markOf ?_ ?_ ?_ (fun q => ?_) (fun q => ?_) (fun q => ?_)
        | with_reducible refine ⟨?_, ?_⟩
        | with_reducible intro q
  have bw := hW.wd w0 w8 (by omega)
  have bv := hW.wd v0 v8 (by omega)
  have n0 := bw.1
  have n1 := bw.2.1
  have m0 := bv.1
  have m1 := bv.2.1
  have k1 := bw.2.2.2.1
  by_cases hs : stn (S (30 + w)) (S (30 + v)) (S (30 + w) (-1)) (S (30 + v) (-1))
  · refine ⟨((bcN (fun t => pj (S (30 + w)) (S (30 + v)) (S (30 + w) (-1)) (S (30 + v) (-1)) l t (S (30 + v) (-1))) 40 : Nat) : Int), up S 0 2 ((bmN (fun t => pj (S (30 + w)) (S (30 + v)) (S (30 + w) (-1)) (S (30 + v) (-1)) l t (S (30 + v) (-1))) 40 : Nat) : Int), hW.scal 2 _ (by decide), fun M hX => eX11_places ?_, fun M hY => eX12_places ?_⟩
    · refine c_refuseWords hW hX hw hv (fun q => absurd q (by omega)) (fun q => absurd q (by omega)) (fun q => ⟨by decide, fun _ => ⟨w0, w8, v0, v8, c_readBounds (isW_word w0 w8).l (isW_word v0 v8).l (hX.ln w0 w8) (hX.ln v0 v8) bw bv (fun q => absurd hs q) (fun _ M2 o2 c2 => ⟨fun _ => ⟨hl, fun ql => ?_, fun ql => ?_⟩, fun q => absurd q (by decide)⟩)⟩, fun q => absurd rfl q⟩)
      · subst ql
        refine c_someWay (isW_word w0 w8).l (isW_word v0 v8).l ((hX.ln w0 w8).off o2 (by omega)) ((hX.ln v0 v8).off o2 (by omega)) bw bv hs c2 (c_lbits ?_)
        exact ⟨rfl, (o2.x hX (fun a a0 a1 => by unfold kX; omega)).scal 2 _ (by decide) (by decide), (o2.fx (by decide) (by decide)).up (by omega)⟩
      · rw [((hX.ln v0 v8).off o2 (by omega)).1]
        refine c_everyWay ql bw bv hs c2 (c_lbits ?_)
        exact ⟨rfl, (o2.x hX (fun a a0 a1 => by unfold kX; omega)).scal 2 _ (by decide) (by decide), (o2.fx (by decide) (by decide)).up (by omega)⟩
    · refine m_needTwo hW hY (Or.inr rfl) hw hv (fun q => absurd q (by omega)) (fun q => absurd q (by omega)) (fun q => ⟨by decide, fun _ => m_layPlaces w0 w8 v0 v8 (hY.ln w0 w8) (hY.ln v0 v8) bw bv (fun q => absurd hs q) (fun _ M2 o2 c2 => ⟨fun _ => ?_, fun q => absurd q (by decide)⟩), fun q => absurd q (by decide)⟩)
      have lw := (hY.ln w0 w8).off o2 (by decide)
      have lv := (hY.ln v0 v8).off o2 (by decide)
      have t40 := bm_tl (q := fun t => pj (S (30 + w)) (S (30 + v)) (S (30 + w) (-1)) (S (30 + v) (-1)) l t (S (30 + v) (-1))) (a := (S (30 + w) (-1)).toNat) 40 (by omega) (fun i i0 i1 => by
        have := pj_z (l := l) (i := i) n0 hs (by omega) (S (30 + v) (-1)).toNat (by omega)
        rw [show (((S (30 + v) (-1)).toNat : Nat) : Int) = S (30 + v) (-1) by omega] at this
        exact this)
      have := up_ind (P := fun i => wp 0 yX12_places 38 [some (Rv 88), some (Iv w), some (Iv v), some (Iv l), some (Iv 0), some (Jv ((bmN (fun t => pj (S (30 + w)) (S (30 + v)) (S (30 + w) (-1)) (S (30 + v) (-1)) l t (S (30 + v) (-1))) i.toNat : Nat) : Int)), none, some (Iv ((bcN (fun t => pj (S (30 + w)) (S (30 + v)) (S (30 + w) (-1)) (S (30 + v) (-1)) l t (S (30 + v) (-1))) i.toNat : Nat) : Int)), some (Iv i), none, none, none] [] M2 (PY (up S 0 2 ((bmN (fun t => pj (S (30 + w)) (S (30 + v)) (S (30 + w) (-1)) (S (30 + v) (-1)) l t (S (30 + v) (-1))) 40 : Nat) : Int)) (Iv ((bcN (fun t => pj (S (30 + w)) (S (30 + v)) (S (30 + w) (-1)) (S (30 + v) (-1)) l t (S (30 + v) (-1))) 40 : Nat) : Int)) M)) (a := 0) (n := S (30 + w) (-1)) n0 ?_ (fun i i0 i1 ih => ?_)
      · exact this
      · refine gX12_places_38 ⟨w0, w8, ⟨by omega, by omega⟩, by rw [lw.1]; exact ⟨by omega, by omega⟩, fun _ => m_tellsMany ?_, fun q => absurd q (by rw [lw.1]; omega)⟩
        rw [t40.1, t40.2]
        exact ⟨rfl, (o2.y hY (by decide)).scal 2 3 _ (by decide), (o2.fy (by decide)).up (by omega)⟩
      · refine gX12_places_38 ⟨w0, w8, ⟨by omega, by omega⟩, by rw [lw.1]; exact ⟨by omega, by omega⟩, fun q => absurd q (by rw [lw.1]; omega), fun _ => ?_⟩
        have fi := lw.2 i i0 i1
        have gi := bw.2.2.2.2 i i0 i1
        have inner := up_ind (P := fun j => ∀ z, z = (if pj (S (30 + w)) (S (30 + v)) (S (30 + w) (-1)) (S (30 + v) (-1)) l i j = true then 1 else 0) → wp 0 yX12_places 55 [some (Rv 88), some (Iv w), some (Iv v), some (Iv l), some (Iv 0), some (Jv ((bmN (fun t => pj (S (30 + w)) (S (30 + v)) (S (30 + w) (-1)) (S (30 + v) (-1)) l t (S (30 + v) (-1))) i.toNat : Nat) : Int)), none, some (Iv ((bcN (fun t => pj (S (30 + w)) (S (30 + v)) (S (30 + w) (-1)) (S (30 + v) (-1)) l t (S (30 + v) (-1))) i.toNat : Nat) : Int)), some (Iv i), some (Iv z), some (Iv j), none] [] M2 (PY (up S 0 2 ((bmN (fun t => pj (S (30 + w)) (S (30 + v)) (S (30 + w) (-1)) (S (30 + v) (-1)) l t (S (30 + v) (-1))) 40 : Nat) : Int)) (Iv ((bcN (fun t => pj (S (30 + w)) (S (30 + v)) (S (30 + w) (-1)) (S (30 + v) (-1)) l t (S (30 + v) (-1))) 40 : Nat) : Int)) M)) (a := 0) (n := S (30 + v) (-1)) m0 (fun z hz => ?_) (fun j j0 j1 ih2 z hz => ?_) 0 rfl
        · exact inner
        · have bl := bm_lt (fun t => pj (S (30 + w)) (S (30 + v)) (S (30 + w) (-1)) (S (30 + v) (-1)) l t (S (30 + v) (-1))) i.toNat
          rw [show (i + 1).toNat = i.toNat + 1 by omega] at ih
          have es : bmN (fun t => pj (S (30 + w)) (S (30 + v)) (S (30 + w) (-1)) (S (30 + v) (-1)) l t (S (30 + v) (-1))) (i.toNat + 1) = bmN (fun t => pj (S (30 + w)) (S (30 + v)) (S (30 + w) (-1)) (S (30 + v) (-1)) l t (S (30 + v) (-1))) i.toNat + if pj (S (30 + w)) (S (30 + v)) (S (30 + w) (-1)) (S (30 + v) (-1)) l i (S (30 + v) (-1)) = true then 2 ^ i.toNat else 0 := by
            show _ + (if pj (S (30 + w)) (S (30 + v)) (S (30 + w) (-1)) (S (30 + v) (-1)) l ((i.toNat : Nat) : Int) (S (30 + v) (-1)) = true then _ else _) = _
            rw [show ((i.toNat : Nat) : Int) = i by omega]
          have ec : bcN (fun t => pj (S (30 + w)) (S (30 + v)) (S (30 + w) (-1)) (S (30 + v) (-1)) l t (S (30 + v) (-1))) (i.toNat + 1) = bcN (fun t => pj (S (30 + w)) (S (30 + v)) (S (30 + w) (-1)) (S (30 + v) (-1)) l t (S (30 + v) (-1))) i.toNat + if pj (S (30 + w)) (S (30 + v)) (S (30 + w) (-1)) (S (30 + v) (-1)) l i (S (30 + v) (-1)) = true then 1 else 0 := by
            show _ + (if pj (S (30 + w)) (S (30 + v)) (S (30 + w) (-1)) (S (30 + v) (-1)) l ((i.toNat : Nat) : Int) (S (30 + v) (-1)) = true then _ else _) = _
            rw [show ((i.toNat : Nat) : Int) = i by omega]
          rw [es, ec] at ih
          by_cases c : pj (S (30 + w)) (S (30 + v)) (S (30 + w) (-1)) (S (30 + v) (-1)) l i (S (30 + v) (-1)) = true
          · rw [if_pos c] at hz ih
            rw [if_pos c] at ih
            subst hz
            refine gX12_places_55 ⟨v0, v8, ⟨by omega, by omega⟩, by rw [lv.1]; exact ⟨by omega, by omega⟩, fun _ => ⟨by decide, fun q => absurd q (by decide), fun _ => ⟨i0, by omega, by omega, fun q => absurd q (by decide), fun _ => ?_⟩⟩, fun q => absurd q (by rw [lv.1]; omega)⟩
            rw [p2_cast, Int.toNat_natCast, Int.toNat_natCast, or_add bl]
            rw [Int.natCast_add] at ih ⊢
            rw [Int.natCast_add] at ih
            exact ih
          · rw [if_neg c] at hz ih
            rw [if_neg c] at ih
            subst hz
            rw [Nat.add_zero, Nat.add_zero] at ih
            refine gX12_places_55 ⟨v0, v8, ⟨by omega, by omega⟩, by rw [lv.1]; exact ⟨by omega, by omega⟩, fun _ => ⟨by decide, fun _ => ⟨by omega, fun _ => ?_, fun q => absurd rfl q⟩, fun q => absurd rfl q⟩, fun q => absurd q (by rw [lv.1]; omega)⟩
            rw [Int.toNat_natCast, show Int.toNat 0 = 0 from rfl, Nat.or_zero, Int.add_zero]
            exact ih
        · have fj := lv.2 j j0 j1
          have gj := bv.2.2.2.2 j j0 j1
          obtain ⟨d1, d2⟩ := c2 j j0 j1
          have lb := la_b n0 hs j0 j1
          have eb := ea_b n0 hs j0 j1
          have ps := pj_s (W := S (30 + w)) (V := S (30 + v)) (n := S (30 + w) (-1)) (m := S (30 + v) (-1)) (l := l) (i := i) j0
          have zz : inr z := by rw [hz]; split <;> decide
          have yes : z ≠ 0 → (1 : Int) = (if pj (S (30 + w)) (S (30 + v)) (S (30 + w) (-1)) (S (30 + v) (-1)) l i (j + 1) = true then 1 else 0) := by
            intro q
            by_cases c : pj (S (30 + w)) (S (30 + v)) (S (30 + w) (-1)) (S (30 + v) (-1)) l i j = true
            · rw [ps, c, Bool.true_or, if_pos rfl]
            · rw [if_neg c] at hz
              exact absurd hz q
          have non : z = 0 → ¬ (ft (S (30 + w)) (S (30 + v)) (S (30 + w) (-1)) (S (30 + v) (-1)) l i j = true) → (0 : Int) = (if pj (S (30 + w)) (S (30 + v)) (S (30 + w) (-1)) (S (30 + v) (-1)) l i (j + 1) = true then 1 else 0) := by
            intro q q2
            by_cases c : pj (S (30 + w)) (S (30 + v)) (S (30 + w) (-1)) (S (30 + v) (-1)) l i j = true
            · rw [if_pos c] at hz
              omega
            · rw [ps, Bool.eq_false_iff.2 c, Bool.eq_false_iff.2 q2, if_neg (by decide)]
          have oui : ft (S (30 + w)) (S (30 + v)) (S (30 + w) (-1)) (S (30 + v) (-1)) l i j = true → (1 : Int) = (if pj (S (30 + w)) (S (30 + v)) (S (30 + w) (-1)) (S (30 + v) (-1)) l i (j + 1) = true then 1 else 0) := by
            intro q2
            rw [ps, q2, Bool.or_true, if_pos rfl]
          refine gX12_places_55 ⟨v0, v8, ⟨by omega, by omega⟩, by rw [lv.1]; exact ⟨by omega, by omega⟩, fun q => absurd q (by rw [lv.1]; omega), fun _ => m_at0 (by omega) (by omega) (m_at0 (by omega) (by omega) ?_)⟩
          rw [fi, fj]
          refine ⟨Or.inr ⟨⟨by omega, by omega⟩, ⟨by omega, by omega⟩⟩, fun q => ⟨zz, fun q2 => ih2 _ (yes q2), fun q2 => ⟨hl, fun _ => ih2 _ (non q2 (fun q3 => q (ft_i.1 q3).1)), fun _ => ih2 _ (non q2 (fun q3 => q (ft_i.1 q3).1))⟩⟩, fun q => ⟨j0, by omega, ⟨by omega, by omega⟩, by rw [d1]; exact ⟨by omega, by omega⟩, fun q4 => ⟨zz, fun q2 => ih2 _ (yes q2), fun q2 => ⟨hl, fun _ => ih2 _ (non q2 (fun q3 => ?_)), fun _ => ih2 _ (non q2 (fun q3 => ?_))⟩⟩, fun q4 => ⟨by rw [d2]; exact ⟨by omega, by omega⟩, fun q5 => ⟨zz, fun q2 => ih2 _ (yes q2), fun q2 => ⟨hl, fun _ => ih2 _ (non q2 (fun q3 => ?_)), fun _ => ih2 _ (non q2 (fun q3 => ?_))⟩⟩, fun q5 => ⟨zz, fun q2 => ih2 _ (yes q2), fun q2 => ⟨hl, fun q6 => ih2 _ (oui (ft_i.2 ⟨q, by omega, by omega, Or.inl q6⟩)), fun q6 => ⟨fun q7 => ih2 _ (non q2 (fun q3 => ?_)), fun q7 => ih2 _ (oui (ft_i.2 ⟨q, by omega, by omega, Or.inr (by omega)⟩))⟩⟩⟩⟩⟩⟩
          · have := ft_i.1 q3; omega
          · have := ft_i.1 q3; omega
          · have := ft_i.1 q3; omega
          · have := ft_i.1 q3; omega
          · have := ft_i.1 q3; omega
  · refine ⟨-9, S, hW, fun M hX => eX11_places ?_, fun M hY => eX12_places ?_⟩
    · exact c_refuseWords hW hX hw hv (fun q => absurd q (by omega)) (fun q => absurd q (by omega)) (fun q => ⟨by decide, fun _ => ⟨w0, w8, v0, v8, c_readBounds (isW_word w0 w8).l (isW_word v0 v8).l (hX.ln w0 w8) (hX.ln v0 v8) bw bv (fun _ M2 o2 => ⟨fun q => absurd rfl q, fun _ => ⟨rfl, o2.x hX (fun a a0 a1 => by unfold kX; omega), o2.fx (by decide) (by decide)⟩⟩) (fun q => absurd q hs)⟩, fun q => absurd rfl q⟩)
    · exact m_needTwo hW hY (Or.inr rfl) hw hv (fun q => absurd q (by omega)) (fun q => absurd q (by omega)) (fun q => ⟨by decide, fun _ => m_layPlaces w0 w8 v0 v8 (hY.ln w0 w8) (hY.ln v0 v8) bw bv (fun _ M2 o2 => ⟨fun q => absurd rfl q, fun _ => ⟨rfl, o2.y hY (by decide), o2.fy (by decide)⟩⟩) (fun q => absurd q hs), fun q => absurd q (by decide)⟩)
