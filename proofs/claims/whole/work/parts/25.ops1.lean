theorem px_rf {S M : Mem} (h : X S M) (r : Vl) : PX S r M r M := ⟨rfl, h, frx.rf M⟩
theorem py_rf {S M : Mem} (h : Y S M) (r : Vl) : PY S r M r M := ⟨rfl, h, fry.rf M⟩
theorem px_fnd {S M : Mem} (h : X S M) (f : Int) (h1 : 1 ≤ f) (h5 : f ≤ 5) : PX (fS S f) (Iv (-3)) M (Iv (-3)) (fnd M f) := ⟨rfl, h.fnd h1 h5, (frx.rf M).fnd⟩
theorem py_fnd {S M : Mem} (h : Y S M) (f : Int) (h1 : 1 ≤ f) (h5 : f ≤ 5) : PY (fS S f) (Iv (-3)) M (Iv (-3)) (mts M f) := ⟨rfl, h.fnd h1 h5, (fry.rf M).fnd⟩
/-! 2 row -/
theorem op_row {S : Mem} (hW : WF S) {r n : Int} (hr : inr r) (hn : inr n) : OpOK S yX11_row yX12_row [Iv r, Iv n] Iv := by
  by_cases c1 : (r < 0 ∨ 6 ≤ r) ∨ 40 < n
  · refine ⟨-1, S, hW, fun M hX => ?_, fun M hY => ?_⟩
    · exact eX11_row (c_noRow hr (fun q => ⟨fun _ => px_rf hX _, fun q2 => absurd q2 (by decide)⟩) (fun q => ⟨fun q2 => absurd rfl q2, fun _ => ⟨hn, fun q2 => absurd q2 (by omega), fun _ => px_rf hX _⟩⟩))
    · exact eX12_row (m_isRow hr (fun q => ⟨fun _ => py_rf hY _, fun q2 => absurd rfl q2⟩) (fun q => ⟨fun q2 => absurd q2 (by decide), fun _ => ⟨hn, fun q2 => absurd q2 (by omega), fun _ => py_rf hY _⟩⟩))
  by_cases c2 : n < 0
  · refine ⟨-3, fS S 5, hW.fnd 5, fun M hX => ?_, fun M hY => ?_⟩
    · exact eX11_row (c_noRow hr (fun q => absurd q (by omega)) (fun q => ⟨fun q2 => absurd rfl q2, fun _ => ⟨hn, fun _ => ⟨fun q2 => absurd q2 (by omega), fun _ => c_found (by decide) (px_fnd hX 5 (by decide) (by decide))⟩, fun q2 => absurd q2 (by omega)⟩⟩))
    · exact eX12_row (m_isRow hr (fun q => absurd q (by omega)) (fun q => ⟨fun q2 => absurd q2 (by decide), fun _ => ⟨hn, fun _ => ⟨fun q2 => absurd q2 (by omega), fun _ => m_meets (by decide) (py_fnd hY 5 (by decide) (by decide))⟩, fun q2 => absurd q2 (by omega)⟩⟩))
  refine ⟨n, setLn S (10 + r) n (fun _ => 0), hW.row (by omega) (by omega) (by omega) (by omega) (fun _ _ _ => by decide), fun M hX => ?_, fun M hY => ?_⟩
  · refine eX11_row (c_noRow hr (fun q => absurd q (by omega)) (fun q => ⟨fun q2 => absurd rfl q2, fun _ => ⟨hn, fun _ => ⟨fun _ => ⟨q.1, q.2, c_begin (isL_row q.1 q.2) (by omega) (by omega) (by decide) ?_⟩, fun q2 => absurd q2 (by omega)⟩, fun q2 => absurd q2 (by omega)⟩⟩))
    refine ⟨rfl, hX.row q.1 q.2 (fun a ka k1 k2 => ?_) ?_ (fun i i0 i1 => ?_), ((frx.rf M).setA (by omega)).up (by omega)⟩
    · unfold bgn; rw [up_ne k1, setA_ne k2]
    · unfold bgn; rw [up_at, if_pos rfl]
    · unfold bgn; rw [up_ne (by omega), setA_eq]; exact if_pos ⟨i0, i1⟩
  · refine eX12_row (m_isRow hr (fun q => absurd q (by omega)) (fun q => ⟨fun q2 => absurd q2 (by decide), fun _ => ⟨hn, fun _ => ⟨fun _ => ⟨q.1, q.2, ?_⟩, fun q2 => absurd q2 (by omega)⟩, fun q2 => absurd q2 (by omega)⟩⟩))
    have key : ∀ (m : Nat) (x : Int), 0 ≤ x → x ≤ 40 → (40 - x).toNat = m → wp 0 yX12_row 34 [some (Rv 88), some (Iv r), some (Iv n), some (Iv x)] [] (fil (up M 90 r n) 91 (40 * r) x (fun _ => 0)) (PY (setLn S (10 + r) n (fun _ => 0)) (Iv n) M) := by
      intro m
      induction m with
      | zero =>
        intro x x0 x1 xm
        have e : x = 40 := by omega
        subst e
        refine gX12_row_34 ⟨by decide, fun _ => ⟨rfl, ?_, ((fry.rf M).up (by decide)).setA (by decide)⟩, fun q => absurd q (by decide)⟩
        refine hY.row q.1 q.2 (fun q q0 q1 => (hW.1 q q0 q1).2.1) (by omega) (fun a ka k1 k2 => ?_) (fun k hk => ?_) (fun q q0 q1 => ?_) (fun i i0 i1 i2 => ?_) (fun i i0 i1 => ?_)
        · rw [fil_ne k2, up_ne k1]
        · rw [fil_ne (by decide), up_ne (by decide)]
        · rw [fil_ne (by decide), up_at]
        · rw [fil_out (by omega), up_ne (by decide)]
        · rw [fil_in i0 (by omega)]
      | succ m ih =>
        intro x x0 x1 xm
        refine gX12_row_34 ⟨⟨by omega, by omega⟩, fun q => absurd q (by omega), fun _ => ⟨by omega, by omega, ?_⟩⟩
        rw [fil_s x0 rfl rfl]
        exact ih (x + 1) (by omega) (by omega) (by omega)
    have h2 := key _ 0 (by decide) (by decide) rfl
    rw [fil_0] at h2
    exact h2
/-! 3 lay, 4 at, 5 tear -/
theorem up_ln {M : Mem} {a k v b j : Int} (h : ¬ (b = a ∧ j = k)) : up M a k v b j = M b j := if_neg h
theorem op_lay {S : Mem} (hW : WF S) {r i v : Int} (hr : inr r) (hi : inr i) (hv : inr v) : OpOK S yX11_lay yX12_lay [Iv r, Iv i, Iv v] Iv := by
  by_cases c1 : r < 0 ∨ 6 ≤ r
  · refine ⟨-1, S, hW, fun M hX => ?_, fun M hY => ?_⟩
    · exact eX11_lay (c_refusePlace hW hX hr hi (fun _ => ⟨by decide, fun q => absurd q (by decide), fun _ => px_rf hX _⟩) (fun q => absurd c1 (by omega)) (fun q => absurd c1 (by omega)) (fun q => absurd c1 (by omega)))
    · exact eX12_lay (m_isRow hr (fun q => ⟨fun q2 => absurd rfl q2, fun _ => py_rf hY _⟩) (fun q => absurd c1 (by omega)))
  have r0 : 0 ≤ r := by omega
  have r6 : r < 6 := by omega
  have w := hW.1 r r0 r6
  by_cases c2 : S (10 + r) (-1) < 0
  · refine ⟨-3, fS S 1, hW.fnd 1, fun M hX => ?_, fun M hY => ?_⟩
    · exact eX11_lay (c_refusePlace hW hX hr hi (fun q => absurd c1 (by omega)) (fun _ => ⟨by decide, fun q => absurd q (by decide), fun _ => px_fnd hX 1 (by decide) (by decide)⟩) (fun q => absurd c2 (by omega)) (fun q => absurd c2 (by omega)))
    · have e := (hY.1 r r0 r6).1
      exact eX12_lay (m_isRow hr (fun q => absurd c1 (by omega)) (fun q => ⟨fun _ => ⟨r0, r6, by rw [e]; omega, fun q2 => absurd q2 (by omega), fun _ => m_meets (by decide) (py_fnd hY 1 (by decide) (by decide))⟩, fun q2 => absurd q2 (by decide)⟩))
  by_cases c3 : i < 0 ∨ S (10 + r) (-1) ≤ i
  · refine ⟨-3, fS S 2, hW.fnd 2, fun M hX => ?_, fun M hY => ?_⟩
    · exact eX11_lay (c_refusePlace hW hX hr hi (fun q => absurd c1 (by omega)) (fun q => absurd c2 (by omega)) (fun _ => ⟨by decide, fun q => absurd q (by decide), fun _ => px_fnd hX 2 (by decide) (by decide)⟩) (fun q => absurd c3 (by omega)))
    · have e := (hY.1 r r0 r6).1
      exact eX12_lay (m_isRow hr (fun q => absurd c1 (by omega)) (fun q => ⟨fun _ => ⟨r0, r6, by rw [e]; omega, fun q2 => m_in hi (by decide) (by rw [e]; omega) (fun q3 => ⟨fun q4 => absurd rfl q4, fun _ => m_meets (by decide) (py_fnd hY 2 (by decide) (by decide))⟩) (fun q3 => absurd c3 (by omega)), fun q2 => absurd q2 (by omega)⟩, fun q2 => absurd q2 (by decide)⟩))
  have i0 : 0 ≤ i := by omega
  have i1 : i < S (10 + r) (-1) := by omega
  refine ⟨1, up (setLn S (10 + r) (S (10 + r) (-1)) (fun j => if j = i then v else S (10 + r) j)) 0 1 (S (10 + r) i), ?_, fun M hX => ?_, fun M hY => ?_⟩
  · refine (hW.row r0 r6 w.1 w.2.1 (fun j j0 j1 => ?_)).scal 1 _ (by decide)
    show inr (if j = i then v else S (10 + r) j)
    by_cases e : j = i
    · rw [if_pos e]; exact hv
    · rw [if_neg e]; exact w.2.2 j j0 j1
  · refine eX11_lay (c_refusePlace hW hX hr hi (fun q => absurd c1 (by omega)) (fun q => absurd c2 (by omega)) (fun q => absurd c3 (by omega)) (fun q => ⟨by decide, fun _ => ⟨r0, r6, i0, by omega, ?_⟩, fun q2 => absurd rfl q2⟩))
    obtain ⟨x1, x2⟩ := hX.1 r r0 r6
    refine ⟨rfl, ?_, ((frx.rf M).up (by omega)).up (by omega)⟩
    have hX2 : X (setLn S (10 + r) (S (10 + r) (-1)) (fun j => if j = i then v else S (10 + r) j)) (up M (35 + 2 * r + 1) i v) := by
      refine hX.row r0 r6 (fun a ka k1 k2 => up_ne k2) (by rw [up_ne (by omega)]; exact x1) (fun j j0 j1 => ?_)
      rw [up_at]
      by_cases e : j = i
      · rw [if_pos e]; exact (if_pos e).symm
      · rw [if_neg e, x2 j j0 j1]; exact (if_neg e).symm
    have h3 := hX2.scal 1 (S (10 + r) i) (by decide) (by decide)
    have e : up (up M 1 4 (M (35 + 2 * r + 1) i)) (35 + 2 * r + 1) i v = up (up M (35 + 2 * r + 1) i v) 1 (3 + 1) (S (10 + r) i) := by
      rw [x2 i i0 i1]
      funext b j
      unfold up
      by_cases hb : b = 1
      · subst hb; rw [if_neg (by omega)]; show (if (1 : Int) = 1 ∧ j = 4 then _ else _) = if (1 : Int) = 1 ∧ j = 4 then _ else _; rw [if_neg (c := (1 : Int) = 35 + 2 * r + 1 ∧ j = i) (by omega)]
      · rw [if_neg (c := b = 1 ∧ j = 4) (by omega), if_neg (c := b = 1 ∧ j = 3 + 1) (by omega)]
    rw [e]
    exact h3
  · obtain ⟨e, e2⟩ := hY.1 r r0 r6
    refine eX12_lay (m_isRow hr (fun q => absurd c1 (by omega)) (fun q => ⟨fun _ => ⟨r0, r6, by rw [e]; omega, fun q2 => m_in hi (by decide) (by rw [e]; omega) (fun q3 => absurd c3 (by omega)) (fun q3 => ⟨fun _ => m_rowAt (by omega) (by omega) ⟨by omega, by omega, m_tells ?_⟩, fun q4 => absurd q4 (by decide)⟩), fun q2 => absurd q2 (by omega)⟩, fun q2 => absurd q2 (by decide)⟩))
    rw [e2 i i0 i1]
    refine ⟨rfl, ?_, ((fry.rf M).up (by decide)).up (by decide)⟩
    refine Y.scal ?_ 1 2 _ (by decide)
    refine hY.row r0 r6 (fun q q0 q1 => (hW.1 q q0 q1).2.1) w.2.1 (fun a ka k1 k2 => up_ne k2) (fun k hk => by rw [up_ne (by decide)]) (fun q q0 q1 => ?_) (fun j j0 j1 j2 => ?_) (fun j j0 j1 => ?_)
    · rw [up_ne (by decide)]
      by_cases h : q = r
      · rw [if_pos h, h]; exact e
      · rw [if_neg h]
    · rw [up_at, if_neg (by omega)]
    · rw [up_at]
      by_cases h : j = i
      · rw [if_pos (by omega)]; exact (if_pos h).symm
      · rw [if_neg (by omega), e2 j j0 j1]; exact (if_neg h).symm
theorem op_at {S : Mem} (hW : WF S) {r i : Int} (hr : inr r) (hi : inr i) : OpOK S yX11_at yX12_at [Iv r, Iv i] Iv := by
  by_cases c1 : r < 0 ∨ 6 ≤ r
  · refine ⟨-1, S, hW, fun M hX => ?_, fun M hY => ?_⟩
    · exact eX11_at (c_refusePlace hW hX hr hi (fun _ => ⟨by decide, fun q => absurd q (by decide), fun _ => px_rf hX _⟩) (fun q => absurd c1 (by omega)) (fun q => absurd c1 (by omega)) (fun q => absurd c1 (by omega)))
    · exact eX12_at (m_isRow hr (fun q => ⟨fun q2 => absurd rfl q2, fun _ => py_rf hY _⟩) (fun q => absurd c1 (by omega)))
  have r0 : 0 ≤ r := by omega
  have r6 : r < 6 := by omega
  have w := hW.1 r r0 r6
  by_cases c2 : S (10 + r) (-1) < 0
  · refine ⟨-3, fS S 1, hW.fnd 1, fun M hX => ?_, fun M hY => ?_⟩
    · exact eX11_at (c_refusePlace hW hX hr hi (fun q => absurd c1 (by omega)) (fun _ => ⟨by decide, fun q => absurd q (by decide), fun _ => px_fnd hX 1 (by decide) (by decide)⟩) (fun q => absurd c2 (by omega)) (fun q => absurd c2 (by omega)))
    · have e := (hY.1 r r0 r6).1
      exact eX12_at (m_isRow hr (fun q => absurd c1 (by omega)) (fun q => ⟨fun _ => ⟨r0, r6, by rw [e]; omega, fun q2 => absurd q2 (by omega), fun _ => m_meets (by decide) (py_fnd hY 1 (by decide) (by decide))⟩, fun q2 => absurd q2 (by decide)⟩))
  by_cases c3 : i < 0 ∨ S (10 + r) (-1) ≤ i
  · refine ⟨-3, fS S 2, hW.fnd 2, fun M hX => ?_, fun M hY => ?_⟩
    · exact eX11_at (c_refusePlace hW hX hr hi (fun q => absurd c1 (by omega)) (fun q => absurd c2 (by omega)) (fun _ => ⟨by decide, fun q => absurd q (by decide), fun _ => px_fnd hX 2 (by decide) (by decide)⟩) (fun q => absurd c3 (by omega)))
    · have e := (hY.1 r r0 r6).1
      exact eX12_at (m_isRow hr (fun q => absurd c1 (by omega)) (fun q => ⟨fun _ => ⟨r0, r6, by rw [e]; omega, fun q2 => m_in hi (by decide) (by rw [e]; omega) (fun q3 => ⟨fun _ => m_meets (by decide) (py_fnd hY 2 (by decide) (by decide)), fun q4 => absurd rfl q4⟩) (fun q3 => absurd c3 (by omega)), fun q2 => absurd q2 (by omega)⟩, fun q2 => absurd q2 (by decide)⟩))
  have i0 : 0 ≤ i := by omega
  have i1 : i < S (10 + r) (-1) := by omega
  refine ⟨1, up S 0 1 (S (10 + r) i), hW.scal 1 _ (by decide), fun M hX => ?_, fun M hY => ?_⟩
  · refine eX11_at (c_refusePlace hW hX hr hi (fun q => absurd c1 (by omega)) (fun q => absurd c2 (by omega)) (fun q => absurd c3 (by omega)) (fun q => ⟨by decide, fun _ => ⟨r0, r6, i0, by omega, ?_⟩, fun q2 => absurd rfl q2⟩))
    rw [(hX.1 r r0 r6).2 i i0 i1]
    exact ⟨rfl, hX.scal 1 _ (by decide) (by decide), (frx.rf M).up (by omega)⟩
  · obtain ⟨e, e2⟩ := hY.1 r r0 r6
    refine eX12_at (m_isRow hr (fun q => absurd c1 (by omega)) (fun q => ⟨fun _ => ⟨r0, r6, by rw [e]; omega, fun q2 => m_in hi (by decide) (by rw [e]; omega) (fun q3 => absurd c3 (by omega)) (fun q3 => ⟨fun q4 => absurd q4 (by decide), fun _ => m_rowAt (by omega) (by omega) (m_tells ?_)⟩), fun q2 => absurd q2 (by omega)⟩, fun q2 => absurd q2 (by decide)⟩))
    rw [e2 i i0 i1]
    exact ⟨rfl, hY.scal 1 2 _ (by decide), (fry.rf M).up (by decide)⟩
