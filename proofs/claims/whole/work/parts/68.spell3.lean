/-! 12 fault, 13 tell -/
theorem rd_bd {T : Int → Int} {n k : Int} : ∀ (d : Nat) (i : Int) (s : Mem), (n - i).toNat = d → 0 ≤ i → i ≤ n → (rd9 T n k i s).1 = -9 ∨ (0 ≤ (rd9 T n k i s).1 ∧ (rd9 T n k i s).1 ≤ n) := by
  intro d
  induction d with
  | zero =>
    intro i s hd i0 i1
    rw [rd_e (show n ≤ i by omega)]
    show (if s 7 3 = 0 then (-9 : Int) else n) = -9 ∨ (0 ≤ (if s 7 3 = 0 then (-9 : Int) else n) ∧ (if s 7 3 = 0 then (-9 : Int) else n) ≤ n)
    split <;> omega
  | succ d ih =>
    intro i s hd i0 i1
    have hlt : i < n := by omega
    by_cases c : T i = 32 ∧ s 7 3 = 0
    · rw [rd_s hlt, if_pos c]
      have b := bl_b (T := T) i1
      show (if bl T n i = n then (-9 : Int) else bl T n i) = -9 ∨ (0 ≤ (if bl T n i = n then (-9 : Int) else bl T n i) ∧ (if bl T n i = n then (-9 : Int) else bl T n i) ≤ n)
      split <;> omega
    · by_cases c2 : sOk k (T i) s = true
      · rw [rd_y hlt c c2]
        exact ih (i + 1) _ (by omega) (by omega) (by omega)
      · rw [rd_n hlt c c2]
        show i = -9 ∨ (0 ≤ i ∧ i ≤ n)
        omega
theorem rd_I {T : Int → Int} {n k : Int} (k6 : k ≤ 6) : ∀ (d : Nat) (i : Int) (s : Mem), (n - i).toNat = d → 0 ≤ i → i ≤ n → sI s k i → ∃ j, sI (rd9 T n k i s).2 k j := by
  intro d
  induction d with
  | zero =>
    intro i s hd i0 i1 h
    rw [rd_e (show n ≤ i by omega)]
    exact ⟨i, h⟩
  | succ d ih =>
    intro i s hd i0 i1 h
    have hlt : i < n := by omega
    by_cases c : T i = 32 ∧ s 7 3 = 0
    · rw [rd_s hlt, if_pos c]
      exact ⟨i, h⟩
    · by_cases c2 : sOk k (T i) s = true
      · rw [rd_y hlt c c2]
        exact ih (i + 1) _ (by omega) (by omega) (by omega) (sI_N i0 k6 c2 h)
      · rw [rd_n hlt c c2]
        exact ⟨i, h⟩
theorem op_fault {S : Mem} (hW : WF S) {t : Int} (ht : inr t) : OpOK S yX11_fault yX12_fault [Iv t] Iv := by
  by_cases c1 : t < 0 ∨ 4 ≤ t
  · refine ⟨-1, S, hW, fun M hX => eX11_fault ?_, fun M hY => eX12_fault ?_⟩
    · exact c_refuseText hW hX ht (fun _ => ⟨by decide, fun q => absurd q (by decide), fun _ => ⟨rfl, hX, frx.rf M⟩⟩) (fun q => absurd q (by omega)) (fun q => absurd q (by omega))
    · exact m_isText ht (fun _ => ⟨fun q => absurd rfl q, fun _ => ⟨rfl, hY, fry.rf M⟩⟩) (fun q => absurd q (by omega))
  have t0 : 0 ≤ t := by omega
  have t4 : t < 4 := by omega
  have hb := hW.2.1 t t0 t4
  by_cases c3 : S (20 + t) (-1) < 0
  · refine ⟨-3, fS S 1, hW.fnd 1, fun M hX => eX11_fault ?_, fun M hY => eX12_fault ?_⟩
    · exact c_refuseText hW hX ht (fun q => absurd q (by omega)) (fun _ => ⟨by decide, fun q => absurd q (by decide), fun _ => ⟨rfl, hX.fnd (by decide) (by decide), (frx.rf M).fnd⟩⟩) (fun q => absurd q (by omega))
    · have e := (hY.2.1 t t0 t4).1
      exact m_isText ht (fun q => absurd q (by omega)) (fun _ => ⟨fun _ => ⟨t0, t4, by rw [e]; exact ⟨by omega, by omega⟩, fun q => absurd q (by omega), fun _ => m_meets (by decide) ⟨rfl, hY.fnd (by decide) (by decide), (fry.rf M).fnd⟩⟩, fun q => absurd q (by decide)⟩)
  have k0 := hW.2.2.2.1
  have k6 := hW.2.2.2.2
  refine ⟨(rd9 (S (20 + t)) (S (20 + t) (-1)) (S 0 0) (bl (S (20 + t)) (S (20 + t) (-1)) 0) s0).1, S, hW, fun M hX => eX11_fault ?_, fun M hY => eX12_fault ?_⟩
  · have e3 := hX.2.2.2.1.1
    refine c_refuseText hW hX ht (fun q => absurd q (by omega)) (fun q => absurd q (by omega)) (fun _ => ⟨by decide, fun _ => ⟨t0, t4, ?_⟩, fun q => absurd rfl q⟩)
    rw [e3]
    exact c_read (isL_text t0 t4) (hX.2.1 t t0 t4) (by omega) hb.2.1 k0 k6 hb.2.2 (fun M2 i o2 _ _ _ => ⟨rfl, o2.x hX (fun a q1 q2 => by unfold kX; omega), o2.fx (by decide) (by decide)⟩)
  · have e := (hY.2.1 t t0 t4).1
    exact m_isText ht (fun q => absurd q (by omega)) (fun _ => ⟨fun _ => ⟨t0, t4, by rw [e]; exact ⟨by omega, by omega⟩, fun _ => m_faultOf t0 t4 (hY.2.1 t t0 t4) (by omega) hb.2.1 k0 k6 hY.2.2.2.1.1 hb.2.2 (fun M2 i o2 _ => ⟨rfl, o2.y hY, o2.fy⟩), fun q => absurd q (by omega)⟩, fun q => absurd q (by decide)⟩)
theorem op_tell {S : Mem} (hW : WF S) {w t : Int} (hw : inr w) (ht : inr t) : OpOK S yX11_tell yX12_tell [Iv w, Iv t] Iv := by
  by_cases c0 : w < 0 ∨ 8 ≤ w
  · refine ⟨-1, S, hW, fun M hX => eX11_tell ?_, fun M hY => eX12_tell ?_⟩
    · exact c_noWord hw (fun _ => ⟨fun q => absurd q (by decide), fun _ => ⟨rfl, hX, frx.rf M⟩⟩) (fun q => absurd q (by omega))
    · exact m_isWord hw (fun _ => ⟨fun _ => ⟨rfl, hY, fry.rf M⟩, fun q => absurd rfl q⟩) (fun q => absurd q (by omega))
  have w0 : 0 ≤ w := by omega
  have w8 : w < 8 := by omega
  by_cases c1 : t < 0 ∨ 4 ≤ t
  · refine ⟨-1, S, hW, fun M hX => eX11_tell ?_, fun M hY => eX12_tell ?_⟩
    · exact c_noWord hw (fun q => absurd q (by omega)) (fun _ => ⟨fun _ => c_refuseText hW hX ht (fun _ => ⟨by decide, fun q => absurd q (by decide), fun _ => ⟨rfl, hX, frx.rf M⟩⟩) (fun q => absurd q (by omega)) (fun q => absurd q (by omega)), fun q => absurd rfl q⟩)
    · exact m_isWord hw (fun q => absurd q (by omega)) (fun _ => ⟨fun q => absurd q (by decide), fun _ => m_isText ht (fun _ => ⟨fun q => absurd rfl q, fun _ => ⟨rfl, hY, fry.rf M⟩⟩) (fun q => absurd q (by omega))⟩)
  have t0 : 0 ≤ t := by omega
  have t4 : t < 4 := by omega
  have hb := hW.2.1 t t0 t4
  by_cases c3 : S (20 + t) (-1) < 0
  · refine ⟨-3, fS S 1, hW.fnd 1, fun M hX => eX11_tell ?_, fun M hY => eX12_tell ?_⟩
    · exact c_noWord hw (fun q => absurd q (by omega)) (fun _ => ⟨fun _ => c_refuseText hW hX ht (fun q => absurd q (by omega)) (fun _ => ⟨by decide, fun q => absurd q (by decide), fun _ => ⟨rfl, hX.fnd (by decide) (by decide), (frx.rf M).fnd⟩⟩) (fun q => absurd q (by omega)), fun q => absurd rfl q⟩)
    · have e := (hY.2.1 t t0 t4).1
      exact m_isWord hw (fun q => absurd q (by omega)) (fun _ => ⟨fun q => absurd q (by decide), fun _ => m_isText ht (fun q => absurd q (by omega)) (fun _ => ⟨fun _ => ⟨t0, t4, by rw [e]; exact ⟨by omega, by omega⟩, fun q => absurd q (by omega), fun _ => m_meets (by decide) ⟨rfl, hY.fnd (by decide) (by decide), (fry.rf M).fnd⟩⟩, fun q => absurd q (by decide)⟩)⟩)
  have k0 := hW.2.2.2.1
  have k6 := hW.2.2.2.2
  have bb := bl_b (T := S (20 + t)) (n := S (20 + t) (-1)) (i := 0) (by omega)
  have rb := rd_bd (T := S (20 + t)) (n := S (20 + t) (-1)) (k := S 0 0) _ (bl (S (20 + t)) (S (20 + t) (-1)) 0) s0 rfl bb.1 bb.2
  have ri : inr (rd9 (S (20 + t)) (S (20 + t) (-1)) (S 0 0) (bl (S (20 + t)) (S (20 + t) (-1)) 0) s0).1 := by
    unfold inr
    omega
  have c6 := rd_I (T := S (20 + t)) (n := S (20 + t) (-1)) k6 _ (bl (S (20 + t)) (S (20 + t) (-1)) 0) s0 rfl bb.1 bb.2 (sI_0 bb.1)
  -- the class
  have cX : ∀ (v : Int) (S2 M : Mem), X S M → (∀ M2 i, off 7 9 M M2 → sI (rd9 (S (20 + t)) (S (20 + t) (-1)) (S 0 0) (bl (S (20 + t)) (S (20 + t) (-1)) 0) s0).2 (S 0 0) i → i ≤ 60 → Rl (rd9 (S (20 + t)) (S (20 + t) (-1)) (S 0 0) (bl (S (20 + t)) (S (20 + t) (-1)) 0) s0).2 M2 → ((rd9 (S (20 + t)) (S (20 + t) (-1)) (S 0 0) (bl (S (20 + t)) (S (20 + t) (-1)) 0) s0).1 = (-9) → inr (M2 7 1) ∧ ((M2 7 1) ≤ 40 → 0 ≤ w ∧ (w < 8 ∧ (cl 0 yX10_become [Rv (55 + 3 * w), Rv 8, Iv (M2 7 1), Iv 1, Iv 0, Iv (M2 (47 + 2 * t) 1)] M2 (QI (fun z15 M15 => (PX S2 (Iv v) M (Iv z15) M15)))))) ∧ (40 < (M2 7 1) → PX S2 (Iv v) M (Iv (-2)) M2)) ∧ ((rd9 (S (20 + t)) (S (20 + t) (-1)) (S 0 0) (bl (S (20 + t)) (S (20 + t) (-1)) 0) s0).1 ≠ (-9) → PX S2 (Iv v) M (Iv (-4)) M2)) → cl 0 yX11_tell [Rv 1, Iv w, Iv t] M (PX S2 (Iv v) M) := by
    intro v S2 M hX h
    refine eX11_tell (c_noWord hw (fun q => absurd q (by omega)) (fun _ => ⟨fun _ => c_refuseText hW hX ht (fun q => absurd q (by omega)) (fun q => absurd q (by omega)) (fun _ => ⟨by decide, fun _ => ⟨t0, t4, ?_⟩, fun q => absurd rfl q⟩), fun q => absurd rfl q⟩))
    rw [hX.2.2.2.1.1]
    exact c_read (isL_text t0 t4) (hX.2.1 t t0 t4) (by omega) hb.2.1 k0 k6 hb.2.2 (fun M2 i o2 h2 i6 R2 => ⟨ri, h M2 i o2 h2 i6 R2⟩)
  -- the reference
  have cY : ∀ (v : Int) (S2 M : Mem), Y S M → (∀ M2 i, kpF M M2 → Rm (rd9 (S (20 + t)) (S (20 + t) (-1)) (S 0 0) (bl (S (20 + t)) (S (20 + t) (-1)) 0) s0).2 i M2 → ((rd9 (S (20 + t)) (S (20 + t) (-1)) (S 0 0) (bl (S (20 + t)) (S (20 + t) (-1)) 0) s0).1 = (-9) → inr (M2 88 21) ∧ ((M2 88 21) = 0 → cl 0 yX12_comes [Rv 88, Iv w, Iv 1, Iv 0, Iv (M2 93 t)] M2 (QI (fun z14 M14 => (PY S2 (Iv v) M (Iv z14) M14)))) ∧ ((M2 88 21) ≠ 0 → PY S2 (Iv v) M (Iv (-2)) M2)) ∧ ((rd9 (S (20 + t)) (S (20 + t) (-1)) (S 0 0) (bl (S (20 + t)) (S (20 + t) (-1)) 0) s0).1 ≠ (-9) → PY S2 (Iv v) M (Iv (-4)) M2)) → cl 0 yX12_tell [Rv 88, Iv w, Iv t] M (PY S2 (Iv v) M) := by
    intro v S2 M hY h
    have e := (hY.2.1 t t0 t4).1
    exact eX12_tell (m_isWord hw (fun q => absurd q (by omega)) (fun _ => ⟨fun q => absurd q (by decide), fun _ => m_isText ht (fun q => absurd q (by omega)) (fun _ => ⟨fun _ => ⟨t0, t4, by rw [e]; exact ⟨by omega, by omega⟩, fun _ => m_faultOf t0 t4 (hY.2.1 t t0 t4) (by omega) hb.2.1 k0 k6 hY.2.2.2.1.1 hb.2.2 (fun M2 i o2 R2 => ⟨ri, h M2 i o2 R2⟩), fun q => absurd q (by omega)⟩, fun q => absurd q (by decide)⟩)⟩))
  generalize hg : rd9 (S (20 + t)) (S (20 + t) (-1)) (S 0 0) (bl (S (20 + t)) (S (20 + t) (-1)) 0) s0 = g at cX cY c6
  have kk : ∀ a : Int, 7 ≤ a → a ≤ 9 → ¬ kX a := fun a q1 q2 => by unfold kX; omega
  by_cases c4 : g.1 = -9
  · by_cases c5 : 40 < g.2 7 1
    · refine ⟨-2, S, hW, fun M hX => cX _ S M hX (fun M2 i o2 h2 i6 R2 => ⟨fun _ => ?_, fun q => absurd c4 q⟩), fun M hY => cY _ S M hY (fun M2 i o2 R2 => ⟨fun _ => ?_, fun q => absurd c4 q⟩)⟩
      · have e := R2.1.1
        have b1 := h2.1.2.1
        have b2 := h2.1.2.2
        rw [e]
        exact ⟨⟨by omega, by omega⟩, fun q => absurd q (by omega), fun _ => ⟨rfl, o2.x hX kk, o2.fx (by decide) (by decide)⟩⟩
      · have e := R2.1.2
        rw [if_pos c5] at e
        rw [e]
        exact ⟨by decide, fun q => absurd q (by decide), fun _ => ⟨rfl, o2.y hY, o2.fy⟩⟩
    · obtain ⟨i0, hi⟩ := c6
      have b1 := hi.1.2.1
      have hv := hi.2.2.2.2
      refine ⟨g.2 7 1, setWd S w (g.2 7 1) (g.2 8) 1 0 (S (20 + t) (-1)), hW.word w0 w8 (by omega) (by omega) (by omega) hv, fun M hX => cX _ _ M hX (fun M2 i o2 h2 i6 R2 => ⟨fun _ => ?_, fun q => absurd c4 q⟩), fun M hY => cY _ _ M hY (fun M2 i o2 R2 => ⟨fun _ => ?_, fun q => absurd c4 q⟩)⟩
      · have e := R2.1.1
        have e2 : M2 (47 + 2 * t) 1 = S (20 + t) (-1) := by rw [o2 _ (by omega)]; exact (hX.2.1 t t0 t4).1
        rw [e, e2]
        exact ⟨⟨by omega, by omega⟩, fun _ => ⟨w0, w8, c_become (isW_word w0 w8) (m := 40) ⟨by decide, by decide, rfl⟩ b1 (by omega) (by omega) ⟨rfl, X.bcm (o2.x hX kk) w0 w8 (by decide) (fun j j0 j1 => R2.2.1 j j0 j1 (by omega)), (o2.fx (by decide) (by decide)).bcm w0 w8⟩⟩, fun q => absurd q c5⟩
      · have e := R2.1.2
        have e17 := R2.1.1
        rw [(mn40_b b1).2.2.2.1 (by omega)] at e17
        rw [if_neg c5] at e
        have e2 : M2 93 t = S (20 + t) (-1) := by rw [o2.1 93 (by decide) (by decide) (by decide) (by decide)]; exact (hY.2.1 t t0 t4).1
        rw [e, e2]
        exact ⟨by decide, fun _ => m_comes w0 w8 e17 b1 (by omega) ⟨rfl, Y.cms hW (o2.y hY) w0 w8 e17 b1 (by omega) (fun j j0 j1 => R2.2.1 j j0 j1 (by omega)), o2.fy.cms⟩, fun q => absurd rfl q⟩
  · refine ⟨-4, S, hW, fun M hX => cX _ S M hX (fun M2 i o2 h2 i6 R2 => ⟨fun q => absurd q c4, fun _ => ⟨rfl, o2.x hX kk, o2.fx (by decide) (by decide)⟩⟩), fun M hY => cY _ S M hY (fun M2 i o2 R2 => ⟨fun q => absurd q c4, fun _ => ⟨rfl, o2.y hY, o2.fy⟩⟩)⟩
