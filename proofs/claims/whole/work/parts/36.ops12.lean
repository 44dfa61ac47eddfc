/-! 24 way -/
theorem c_readBounds {M : Mem} {a1 a2 nw nv k : Int} {W V : Int → Int} {Q : Vl → Mem → Prop} (h1 : isL a1 40) (h2 : isL a2 40) (l1 : lnX M a1 nw W) (l2 : lnX M a2 nv V) (b1 : wdB nw W k) (b2 : wdB nv V k) (hn : ¬ stn W V nw nv → ∀ M2, off 11 12 M M2 → Q (Iv 0) M2) (hy : stn W V nw nv → ∀ M2, off 11 12 M M2 → (∀ j, 0 ≤ j → j < nv → M2 11 j = ea W V nw j ∧ M2 12 j = la W V nw nv j) → Q (Iv 1) M2) : cl 0 yX7_readBounds [Rv 10, Rv a1, Rv a2] M Q := by
  have ha1 := h1.1
  have ha2 := h2.1
  obtain ⟨n0, n1, k0, k1, hw⟩ := b1
  obtain ⟨m0, m1, -, -, hv⟩ := b2
  have back : stn W V nw nv → ∀ M2, off 11 12 M M2 → (∀ j, 0 ≤ j → j < nv → M2 11 j = ea W V nw j) → wp 0 yX7_readBounds 73 [some (Rv 10), some (Rv a1), some (Rv a2), some (Iv nv), some (Iv (nw - 1))] [] M2 Q := by
    intro hs M2 o2 c2
    refine dn_ind (P := fun i => ∀ j M3, off 11 12 M M3 → 0 ≤ j → j ≤ nv → (∀ t, 0 ≤ t → t < nv → M3 11 t = ea W V nw t) → (∀ t, j ≤ t → t < nv → M3 12 t = la W V nw nv t) → (0 < j → pv W i (V (j - 1)) = la W V nw nv (j - 1) ∧ ea W V nw (j - 1) ≤ i) → i < nw → wp 0 yX7_readBounds 73 [some (Rv 10), some (Rv a1), some (Rv a2), some (Iv j), some (Iv i)] [] M3 Q) (a := -1) (n := nw - 1) (by omega) (fun j M3 o3 j0 j1 c3 d3 e3 i3 => ?_) (fun i i0 i1 ih j M3 o3 j0 j1 c3 d3 e3 i3 => ?_) nv M2 o2 m0 (Int.le_refl _) c2 (fun t t0 t1 => absurd t1 (by omega)) (fun q => ?_) (by omega)
    · have jz : j = 0 := by
        by_cases c : 0 < j
        · have := (e3 c).2
          have := ea_b n0 hs (show 0 ≤ j - 1 by omega) (by omega)
          omega
        · omega
      refine gX7_readBounds_73 h1 h2 ⟨by decide, fun _ => hy hs M3 o3 (fun t t0 t1 => ⟨c3 t t0 t1, d3 t (by omega) t1⟩), fun q => absurd q (by decide)⟩
    · by_cases c : 0 < j
      · obtain ⟨p1, p2⟩ := e3 c
        have f1 := (l1.off o3 (by omega)).2 i (by omega) (by omega)
        have f2 := (l2.off o3 (by omega)).2 (j - 1) (by omega) (by omega)
        have g1 := hw i (by omega) (by omega)
        have g2 := hv (j - 1) (by omega) (by omega)
        have eb := ea_b n0 hs (show 0 ≤ j - 1 by omega) (by omega)
        refine gX7_readBounds_73 h1 h2 ⟨⟨by omega, by omega⟩, fun q => absurd q (by omega), fun _ => ⟨⟨by omega, by omega⟩, fun q => absurd q (by omega), fun _ => ⟨by omega, by omega, by omega, ⟨by omega, by omega⟩, Or.inr ⟨⟨by omega, by omega⟩, ⟨by omega, by omega⟩⟩, fun q => ?_, fun q => ⟨by omega, by omega, ?_⟩⟩⟩⟩
        · rw [f1, f2] at q
          have pe := pv_s (W := W) (x := V (j - 1)) (show 0 ≤ i by omega)
          rw [if_neg q] at pe
          refine ih j M3 o3 j0 j1 c3 d3 (fun _ => ⟨by rw [← p1, pe], ?_⟩) (by omega)
          by_cases ce : ea W V nw (j - 1) = i
          · exact absurd (by rw [← ce]; exact eb.2.2.2) q
          · omega
        · rw [f1, f2] at q
          have pe := pv_s (W := W) (x := V (j - 1)) (show 0 ≤ i by omega)
          rw [if_pos q] at pe
          have ei : la W V nw nv (j - 1) = i := by rw [← p1, pe]
          refine ih (j + (-1)) _ (o3.upd (by decide) (by decide)) (by omega) (by omega) (fun t t0 t1 => by rw [up_ne (by decide)]; exact c3 t t0 t1) (fun t t0 t1 => ?_) (fun q2 => ?_) (by omega)
          · rw [up_at]
            by_cases ct : t = j + (-1)
            · rw [if_pos ct, ct, ← ei, show j + (-1) = j - 1 by omega]
            · rw [if_neg ct]
              exact d3 t (by omega) t1
          · rw [show j + (-1) - 1 = j - 1 - 1 by omega]
            have eb2 := ea_b n0 hs (show 0 ≤ j - 1 - 1 by omega) (by omega)
            have es := fr_s (W := W) (V := V) (n := nw) (show 0 ≤ j - 1 - 1 by omega)
            rw [show j - 1 - 1 + 1 = j - 1 by omega] at es
            refine ⟨?_, by omega⟩
            unfold la
            rw [show j - 1 - 1 + 1 = j - 1 by omega, bk_s (by omega), ei]
      · have jz : j = 0 := by omega
        refine gX7_readBounds_73 h1 h2 ⟨⟨by omega, by omega⟩, fun q => absurd q (by omega), fun _ => ⟨⟨by omega, by omega⟩, fun _ => hy hs M3 o3 (fun t t0 t1 => ⟨c3 t t0 t1, d3 t (by omega) t1⟩), fun q => absurd q (by omega)⟩⟩
    · have := la_b n0 hs (show 0 ≤ nv - 1 by omega) (by omega)
      rw [show nv - 1 + 1 = nv by omega, bk_e] at this
      refine ⟨?_, this.1⟩
      unfold la
      rw [show nv - 1 + 1 = nv by omega, bk_e]
  refine eX7_readBounds h1 h2 ?_
  refine up_ind (P := fun i => ∀ j M2, off 11 12 M M2 → 0 ≤ j → j ≤ nv → stn W V nw j → (∀ t, 0 ≤ t → t < j → M2 11 t = ea W V nw t) → (j < nv → nx W nw i (V j) = ea W V nw j) → wp 0 yX7_readBounds 5 [some (Rv 10), some (Rv a1), some (Rv a2), some (Iv j), some (Iv i)] [] M2 Q) (a := 0) (n := nw) n0 (fun j M2 o2 j0 j1 hs c2 d2 => ?_) (fun i i0 i1 ih j M2 o2 j0 j1 hs c2 d2 => ?_) 0 M off.rf (by decide) m0 (fun i i0 i1 => absurd i1 (by omega)) (fun i i0 i1 => absurd i1 (by omega)) (fun _ => rfl)
  · have e1 := (l1.off o2 (by omega)).1
    have e2 := (l2.off o2 (by omega)).1
    refine gX7_readBounds_5 h1 h2 ⟨⟨by omega, by omega⟩, ⟨by omega, by omega⟩, fun _ => ⟨⟨by omega, by omega⟩, ⟨by omega, by omega⟩, fun q => ?_, fun q => hn (fun hs2 => ?_) M2 o2⟩, fun q => absurd q (by omega)⟩
    · have je : j = nv := by omega
      rw [e1]
      subst je
      exact back hs M2 o2 c2
    · have d3 := d2 (by omega)
      rw [nx_end (Int.le_refl _)] at d3
      exact hs2 j j0 (by omega) d3.symm
  · have e1 := (l1.off o2 (by omega)).1
    have e2 := (l2.off o2 (by omega)).1
    refine gX7_readBounds_5 h1 h2 ⟨⟨by omega, by omega⟩, ⟨by omega, by omega⟩, fun q => absurd q (by omega), fun _ => ⟨⟨by omega, by omega⟩, ⟨by omega, by omega⟩, fun q => ⟨fun _ => ?_, fun q2 => absurd q2 (by omega)⟩, fun q => ?_⟩⟩
    · have je : j = nv := by omega
      rw [e1]
      subst je
      exact back hs M2 o2 c2
    · have f1 := (l1.off o2 (by omega)).2 i i0 i1
      have f2 := (l2.off o2 (by omega)).2 j j0 (by omega)
      have g1 := hw i i0 i1
      have g2 := hv j j0 (by omega)
      have d3 := d2 (by omega)
      rw [nx_step i1] at d3
      refine ⟨i0, by omega, j0, by omega, Or.inr ⟨⟨by omega, by omega⟩, ⟨by omega, by omega⟩⟩, fun q2 => ?_, fun q2 => ⟨by omega, ?_⟩⟩
      · rw [f1, f2] at q2
        rw [if_neg q2] at d3
        exact ih j M2 o2 j0 j1 hs c2 (fun _ => d3)
      · rw [f1, f2] at q2
        rw [if_pos q2] at d3
        refine ih (j + 1) _ (o2.upd (by decide) (by decide)) (by omega) (by omega) (fun t t0 t1 => ?_) (fun t t0 t1 => ?_) (fun q3 => ?_)
        · by_cases ct : t = j
          · rw [ct, ← d3]; omega
          · exact hs t t0 (by omega)
        · rw [up_at]
          by_cases ct : t = j
          · rw [if_pos ct, ct, ← d3]
          · rw [if_neg ct]; exact c2 t t0 (by omega)
        · show _ = nx W nw (fr W V nw (j + 1)) (V (j + 1))
          rw [fr_s j0, ← d3]
theorem m_layPlaces {M : Mem} {w v nw nv k : Int} {W V : Int → Int} {Q : Vl → Mem → Prop} (w0 : 0 ≤ w) (w8 : w < 8) (v0 : 0 ≤ v) (v8 : v < 8) (l1 : lnY M w nw W) (l2 : lnY M v nv V) (b1 : wdB nw W k) (b2 : wdB nv V k) (hn : ¬ stn W V nw nv → ∀ M2, off 104 105 M M2 → Q (Iv 0) M2) (hy : stn W V nw nv → ∀ M2, off 104 105 M M2 → (∀ j, 0 ≤ j → j < nv → M2 104 j = ea W V nw j ∧ M2 105 j = la W V nw nv j) → Q (Iv 1) M2) : cl 0 yX12_layPlaces [Rv 88, Iv w, Iv v] M Q := by
  have b1' := b1
  obtain ⟨n0, n1, k0, k1, hw⟩ := b1
  obtain ⟨m0, m1, -, -, hv⟩ := b2
  have back : stn W V nw nv → ∀ x4 M2, off 104 105 M M2 → (∀ j, 0 ≤ j → j < nv → M2 104 j = ea W V nw j) → wp 0 yX12_layPlaces 80 [some (Rv 88), some (Iv w), some (Iv v), some (Iv nv), some (Iv x4), some (Iv (nw - 1)), some (Iv (nv - 1))] [] M2 Q := by
    intro hs x4 M2 o2 c2
    have := dn_ind (P := fun j => ∀ M3, off 104 105 M M3 → (∀ t, 0 ≤ t → t < nv → M3 104 t = ea W V nw t) → (∀ t, j < t → t < nv → M3 105 t = la W V nw nv t) → wp 0 yX12_layPlaces 80 [some (Rv 88), some (Iv w), some (Iv v), some (Iv nv), some (Iv x4), some (Iv (bk W V nw nv (j + 1))), some (Iv j)] [] M3 Q) (a := -1) (n := nv - 1) (by omega) (fun M3 o3 c3 d3 => ?_) (fun j j0 j1 ih M3 o3 c3 d3 => ?_) M2 o2 c2 (fun t t0 t1 => absurd t1 (by omega))
    · rw [show nv - 1 + 1 = nv by omega, bk_e] at this
      exact this
    · exact gX12_layPlaces_80 ⟨by decide, fun _ => hy hs M3 o3 (fun t t0 t1 => ⟨c3 t t0 t1, d3 t (by omega) t1⟩), fun q => absurd q (by decide)⟩
    · have lb := la_b n0 hs (show 0 ≤ j by omega) (by omega)
      have eb := ea_b n0 hs (show 0 ≤ j by omega) (by omega)
      refine gX12_layPlaces_80 ⟨⟨by omega, by omega⟩, fun q => absurd q (by omega), fun _ => ?_⟩
      refine dn_ind (P := fun i => pv W i (V j) = la W V nw nv j → i < nw → wp 0 yX12_layPlaces 85 [some (Rv 88), some (Iv w), some (Iv v), some (Iv nv), some (Iv x4), some (Iv i), some (Iv j)] [] M3 Q) (a := ea W V nw j) (n := bk W V nw nv (j + 1)) lb.1 (fun q q2 => ?_) (fun i i0 i1 ih2 q q2 => ?_) rfl lb.2.1
      · have f1 := (l1.off o3 (by omega)).2 (ea W V nw j) (by omega) (by omega)
        have f2 := (l2.off o3 (by omega)).2 j (by omega) (by omega)
        have g2 := hv j (by omega) (by omega)
        refine gX12_layPlaces_85 (m_at0 (by omega) (by omega) (m_at0 (by omega) (by omega) ?_))
        rw [f1, f2]
        refine ⟨Or.inl eb.2.2.2, fun _ => ⟨by omega, by omega, ?_⟩, fun q3 => absurd eb.2.2.2 q3⟩
        rw [pv_s (by omega), if_pos eb.2.2.2] at q
        have := ih _ (o3.upd (k := j) (v := ea W V nw j) (a := 105) (by decide) (by decide)) (fun t t0 t1 => by rw [up_ne (by decide)]; exact c3 t t0 t1) (fun t t0 t1 => by
          rw [up_at]
          by_cases ct : t = j
          · rw [if_pos ct, ct, ← q]
          · rw [if_neg ct]; exact d3 t (by omega) t1)
        rw [show j - 1 + 1 = j by omega, bk_s (by omega), ← q] at this
        exact this
      · have f1 := (l1.off o3 (by omega)).2 i (by omega) (by omega)
        have f2 := (l2.off o3 (by omega)).2 j (by omega) (by omega)
        have g1 := hw i (by omega) (by omega)
        have g2 := hv j (by omega) (by omega)
        refine gX12_layPlaces_85 (m_at0 (by omega) (by omega) (m_at0 (by omega) (by omega) ?_))
        rw [f1, f2]
        rw [pv_s (by omega)] at q
        refine ⟨Or.inr ⟨⟨by omega, by omega⟩, ⟨by omega, by omega⟩⟩, fun q3 => ⟨by omega, by omega, ?_⟩, fun q3 => ?_⟩
        · rw [if_pos q3] at q
          have := ih _ (o3.upd (k := j) (v := i) (a := 105) (by decide) (by decide)) (fun t t0 t1 => by rw [up_ne (by decide)]; exact c3 t t0 t1) (fun t t0 t1 => by
            rw [up_at]
            by_cases ct : t = j
            · rw [if_pos ct, ct, ← q]
            · rw [if_neg ct]; exact d3 t (by omega) t1)
          rw [show j - 1 + 1 = j by omega, bk_s (by omega), ← q] at this
          exact this
        · rw [if_neg q3] at q
          exact ih2 q (by omega)
  refine eX12_layPlaces ⟨v0, v8, ?_⟩
  rw [l2.1]
  have := up_ind (P := fun j => ∀ M2, off 104 105 M M2 → stn W V nw j → (∀ t, 0 ≤ t → t < j → M2 104 t = ea W V nw t) → wp 0 yX12_layPlaces 13 [some (Rv 88), some (Iv w), some (Iv v), some (Iv nv), some (Iv (fr W V nw j)), some (Iv j), none] [] M2 Q) (a := 0) (n := nv) m0 (fun M2 o2 hs c2 => ?_) (fun j j0 j1 ih M2 o2 hs c2 => ?_) M off.rf (fun i i0 i1 => absurd i1 (by omega)) (fun i i0 i1 => absurd i1 (by omega))
  · exact this
  · refine gX12_layPlaces_13 ⟨⟨by omega, by omega⟩, ⟨by omega, by omega⟩, fun _ => ⟨w0, w8, ?_⟩, fun q => absurd q (by omega)⟩
    rw [(l1.off o2 (by omega)).1]
    exact back hs _ M2 o2 c2
  · have f2 := (l2.off o2 (by omega)).2 j j0 j1
    have g2 := hv j j0 j1
    have fb := fr_b (W := W) (V := V) n0 j.toNat (fun i i0 i1 => hs i i0 (by omega))
    rw [show ((j.toNat : Nat) : Int) = j by omega] at fb
    refine gX12_layPlaces_13 ⟨⟨by omega, by omega⟩, ⟨by omega, by omega⟩, fun q => absurd q (by omega), fun _ => m_at0 (by omega) (by omega) ?_⟩
    rw [f2]
    refine m_nextW w0 w8 (l1.off o2 (by omega)) b1' fb.1 (by omega) ⟨by omega, by omega⟩ ?_
    have nb := nx_b (W := W) (n := nw) (x := V j) fb.1
    refine ⟨⟨by omega, by omega⟩, fun q => ⟨j0, by omega, ?_⟩, fun q => hn (fun hs2 => hs2 j j0 j1 q) M2 o2⟩
    have e4 : fr W V nw (j + 1) = nx W nw (fr W V nw j) (V j) + 1 := fr_s j0
    rw [← e4]
    refine ih _ (o2.upd (by decide) (by decide)) (fun t t0 t1 => ?_) (fun t t0 t1 => ?_)
    · by_cases ct : t = j
      · rw [ct]; exact q
      · exact hs t t0 (by omega)
    · rw [up_at]
      by_cases ct : t = j
      · rw [if_pos ct, ct]; rfl
      · rw [if_neg ct]; exact c2 t t0 (by omega)
theorem py_ctr {S M M2 : Mem} (hW : WF S) (hY : Y S M2) (hf : fry M M2) {r n : Int} {f : Int → Int} (h0 : 0 ≤ r) (h1 : r < 6) (hn : M2 88 17 = n) (hn0 : 0 ≤ n) (hn1 : n ≤ 40) (hm : ∀ i, 0 ≤ i → i < n → M2 100 i = f i) (v : Vl) : PY (setLn S (10 + r) n f) v M v (ctr M2 r) := ⟨rfl, Y.ctr hW hY h0 h1 hn hn0 hn1 hm, hf.ctr⟩
theorem ctr_17 {M : Mem} {r : Int} : ctr M r 88 17 = M 88 17 := by
  unfold ctr
  rw [fil_ne (by decide), up_ne (by decide)]
theorem op_way {S : Mem} (hW : WF S) {w v r l : Int} (hw : inr w) (hv : inr v) (hr : inr r) (hl : inr l) : OpOK S yX11_way yX12_way [Iv w, Iv v, Iv r, Iv l] Iv := by
  by_cases c1 : (w < 0 ∨ 8 ≤ w) ∨ (v < 0 ∨ 8 ≤ v) ∨ (r < 0 ∨ 6 ≤ r)
  · refine ⟨-1, S, hW, fun M hX => eX11_way ?_, fun M hY => eX12_way ?_⟩
    · repeat' first
        | omega
        | exact px_rf hX _
        | exact px_fnd hX _ (by decide) (by decide)
        | refine c_noRow ?_ (fun q => ?_) (fun q => ?_)
        | refine c_noText ?_ (fun q => ?_) (fun q => ?_)
        | refine c_noWord ?_ (fun q => ?_) (fun q => ?_)
        | refine c_noLength ?_ (fun q => ?_) (fun q => ?_)
        | refine c_found (by decide) ?_
        | refine c_refuseRow hW hX ?_ (fun q => ?_) (fun q => ?_) (fun q => ?_)
        | refine c_refusePlace hW hX ?_ ?_ (fun q => ?_) (fun q => ?_) (fun q => ?_) (fun q => ?_)
        | refine c_refuseText hW hX ?_ (fun q => ?_) (fun q => ?_) (fun q => ?_)
        | refine c_refuseWords hW hX ?_ ?_ (fun q => ?_) (fun q => ?_) (fun q => ?_)
        | refine c_refuseWord hW hX ?_ (fun q => ?_) (fun q => ?_) (fun q => ?_)
        | refine c_has hL ?_ ?_ (fun q => ?_) (fun q => ?_)
        | refine c_isMissing hL ?_ (fun q => ?_) (fun q => ?_)
        | refine c_reaches hL ?_ ?_ (fun q => ?_) (fun q => ?_)
        | refine c_has hL2 ?_ ?_ (fun q => ?_) (fun q => ?_)
        | refine c_isMissing hL2 ?_ (fun q => ?_) (fun q => ?_)
        | refine c_reaches hL2 ?_ ?_ (fun q => ?_) (fun q => ?_)
        | refine c_is hWd ?_ ?_ (fun q => ?_) (fun q => ?_)
        | refine c_markOf hWd ?_ (fun q => ?_) (fun q => ?_)
        | with_reducible refine ⟨?_, ?_⟩
        | with_reducible intro q
    · repeat' first
        | omega
        | exact py_rf hY _
        | exact py_fnd hY _ (by decide) (by decide)
        | refine m_isRow ?_ (fun q => ?_) (fun q => ?_)
        | refine m_isText ?_ (fun q => ?_) (fun q => ?_)
        | refine m_isWord ?_ (fun q => ?_) (fun q => ?_)
        | refine m_in ?_ ?_ ?_ (fun q => ?_) (fun q => ?_)
        | refine m_meets (by decide) ?_
        | refine m_needWord hW hY ?_ ?_ (fun q => ?_) (fun q => ?_) (fun q => ?_)
        | refine m_needTwo hW hY ?_ ?_ ?_ (fun q => ?_) (fun q => ?_) (fun q => ?_)
        | refine m_isThere ?_ ?_ ?_ (fun q => ?_) (fun q => ?_)
        | refine m_at0 ?_ ?_ ?_
        | refine m_rowAt ?_ ?_ ?_
        | refine m_markOf ?_ ?_ ?_ (fun q => ?_) (fun q => ?_) (fun q => ?_)
        | with_reducible refine ⟨?_, ?_⟩
        | with_reducible intro q
  have w0 : 0 ≤ w := by omega
  have w8 : w < 8 := by omega
  have v0 : 0 ≤ v := by omega
  have v8 : v < 8 := by omega
  have r0 : 0 ≤ r := by omega
  have r6 : r < 6 := by omega
  by_cases c3 : S (30 + w) (-1) < 0 ∨ S (30 + v) (-1) < 0
  · refine ⟨-3, fS S 1, hW.fnd 1, fun M hX => eX11_way ?_, fun M hY => eX12_way ?_⟩
    · repeat' first
        | omega
        | exact px_rf hX _
        | exact px_fnd hX _ (by decide) (by decide)
        | refine c_noRow ?_ (fun q => ?_) (fun q => ?_)
        | refine c_noText ?_ (fun q => ?_) (fun q => ?_)
        | refine c_noWord ?_ (fun q => ?_) (fun q => ?_)
        | refine c_noLength ?_ (fun q => ?_) (fun q => ?_)
        | refine c_found (by decide) ?_
        | refine c_refuseRow hW hX ?_ (fun q => ?_) (fun q => ?_) (fun q => ?_)
        | refine c_refusePlace hW hX ?_ ?_ (fun q => ?_) (fun q => ?_) (fun q => ?_) (fun q => ?_)
        | refine c_refuseText hW hX ?_ (fun q => ?_) (fun q => ?_) (fun q => ?_)
        | refine c_refuseWords hW hX ?_ ?_ (fun q => ?_) (fun q => ?_) (fun q => ?_)
        | refine c_refuseWord hW hX ?_ (fun q => ?_) (fun q => ?_) (fun q => ?_)
        | refine c_has hL ?_ ?_ (fun q => ?_) (fun q => ?_)
        | refine c_isMissing hL ?_ (fun q => ?_) (fun q => ?_)
        | refine c_reaches hL ?_ ?_ (fun q => ?_) (fun q => ?_)
        | refine c_has hL2 ?_ ?_ (fun q => ?_) (fun q => ?_)
        | refine c_isMissing hL2 ?_ (fun q => ?_) (fun q => ?_)
        | refine c_reaches hL2 ?_ ?_ (fun q => ?_) (fun q => ?_)
        | refine c_is hWd ?_ ?_ (fun q => ?_) (fun q => ?_)
        | refine c_markOf hWd ?_ (fun q => ?_) (fun q => ?_)
        | with_reducible refine ⟨?_, ?_⟩
        | with_reducible intro q
    · repeat' first
        | omega
        | exact py_rf hY _
        | exact py_fnd hY _ (by decide) (by decide)
        | refine m_isRow ?_ (fun q => ?_) (fun q => ?_)
        | refine m_isText ?_ (fun q => ?_) (fun q => ?_)
        | refine m_isWord ?_ (fun q => ?_) (fun q => ?_)
        | refine m_in ?_ ?_ ?_ (fun q => ?_) (fun q => ?_)
        | refine m_meets (by decide) ?_
        | refine m_needWord hW hY ?_ ?_ (fun q => ?_) (fun q => ?_) (fun q => ?_)
        | refine m_needTwo hW hY ?_ ?_ ?_ (fun q => ?_) (fun q => ?_) (fun q => ?_)
        | refine m_isThere ?_ ?_ ?_ (fun q => ?_) (fun q => ?_)
        | refine m_at0 ?_ ?_ ?_
        | refine m_rowAt ?_ ?_ ?_
        | refine m_markOf ?_ ?_ ?_ (fun q => ?_) (fun q => ?_) (fun q => ?_)
        | with_reducible refine ⟨?_, ?_⟩
        | with_reducible intro q
  have bw := hW.wd w0 w8 (by omega)
  have bv := hW.wd v0 v8 (by omega)
  have n0 := bw.1
  have n1 := bw.2.1
  have m0 := bv.1
  have m1 := bv.2.1
  by_cases hs : stn (S (30 + w)) (S (30 + v)) (S (30 + w) (-1)) (S (30 + v) (-1))
  · have vb : ∀ j, 0 ≤ j → j < S (30 + v) (-1) → inr (if l = 0 then ea (S (30 + w)) (S (30 + v)) (S (30 + w) (-1)) j else la (S (30 + w)) (S (30 + v)) (S (30 + w) (-1)) (S (30 + v) (-1)) j) := by
      intro j j0 j1
      have h1 := ea_b n0 hs j0 j1
      have h2 := la_b n0 hs j0 j1
      split <;> exact ⟨by omega, by omega⟩
    refine ⟨S (30 + v) (-1), setLn S (10 + r) (S (30 + v) (-1)) (fun j => if l = 0 then ea (S (30 + w)) (S (30 + v)) (S (30 + w) (-1)) j else la (S (30 + w)) (S (30 + v)) (S (30 + w) (-1)) (S (30 + v) (-1)) j), hW.row r0 r6 (by omega) m1 vb, fun M hX => eX11_way ?_, fun M hY => eX12_way ?_⟩
    · refine c_noRow hr (fun q => absurd q (by omega)) (fun q => ⟨fun _ => c_refuseWords hW hX hw hv (fun q => absurd q (by omega)) (fun q => absurd q (by omega)) (fun q => ⟨by decide, fun _ => ⟨w0, w8, v0, v8, c_readBounds (isW_word w0 w8).l (isW_word v0 v8).l (hX.ln w0 w8) (hX.ln v0 v8) bw bv (fun q => absurd hs q) (fun _ M2 o2 c2 => ⟨fun _ => ⟨r0, r6, hl, fun ql => ?_, fun ql => ?_⟩, fun q => absurd q (by decide)⟩)⟩, fun q => absurd rfl q⟩), fun q => absurd rfl q⟩)
      · rw [((hX.ln v0 v8).off o2 (by omega)).1]
        refine c_take (isL_row r0 r6) (m := 40) ⟨by decide, by decide, rfl⟩ m0 m1 m1 (by decide) ⟨rfl, (o2.x hX (fun a a0 a1 => by unfold kX; omega)).tk r0 r6 (fun j j0 j1 => ?_), (o2.fx (by decide) (by decide)).tk r0 r6⟩
        rw [if_pos ql]
        exact (c2 j j0 j1).1
      · rw [((hX.ln v0 v8).off o2 (by omega)).1]
        refine c_take (isL_row r0 r6) (m := 40) ⟨by decide, by decide, rfl⟩ m0 m1 m1 (by decide) ⟨rfl, (o2.x hX (fun a a0 a1 => by unfold kX; omega)).tk r0 r6 (fun j j0 j1 => ?_), (o2.fx (by decide) (by decide)).tk r0 r6⟩
        rw [if_neg ql]
        exact (c2 j j0 j1).2
    · refine m_isRow hr (fun q => absurd q (by omega)) (fun _ => m_needTwo hW hY (Or.inr rfl) hw hv (fun q => absurd q (by omega)) (fun q => absurd q (by omega)) (fun q => ⟨by decide, fun _ => m_layPlaces w0 w8 v0 v8 (hY.ln w0 w8) (hY.ln v0 v8) bw bv (fun q => absurd hs q) (fun _ M2 o2 c2 => ⟨fun _ => ⟨v0, v8, ?_⟩, fun q => absurd q (by decide)⟩), fun q => absurd q (by decide)⟩))
      rw [((hY.ln v0 v8).off o2 (by omega)).1]
      refine up_ind (P := fun x => ∀ M3, off 100 100 (up M2 88 17 (S (30 + v) (-1))) M3 → (∀ j, 0 ≤ j → j < x → M3 100 j = if l = 0 then ea (S (30 + w)) (S (30 + v)) (S (30 + w) (-1)) j else la (S (30 + w)) (S (30 + v)) (S (30 + w) (-1)) (S (30 + v) (-1)) j) → wp 0 yX12_way 45 [some (Rv 88), some (Iv w), some (Iv v), some (Iv r), some (Iv l), some (Iv 0), some (Iv x)] [] M3 (PY (setLn S (10 + r) (S (30 + v) (-1)) (fun j => if l = 0 then ea (S (30 + w)) (S (30 + v)) (S (30 + w) (-1)) j else la (S (30 + w)) (S (30 + v)) (S (30 + w) (-1)) (S (30 + v) (-1)) j)) (Iv (S (30 + v) (-1))) M)) (a := 0) (n := S (30 + v) (-1)) m0 (fun M3 o3 c3 => ?_) (fun x x0 x1 ih M3 o3 c3 => ?_) _ off.rf (fun j j0 j1 => absurd j1 (by omega))
      · have e17 : M3 88 17 = S (30 + v) (-1) := by rw [o3 88 (by omega), up_at, if_pos rfl]
        refine gX12_way_45 ⟨⟨by omega, by omega⟩, ⟨by omega, by omega⟩, fun _ => m_comesToRow r0 r6 (by omega) (by omega) ?_, fun q => absurd q (by omega)⟩
        show PY _ _ _ (Iv (ctr M3 r 88 17)) _
        rw [ctr_17, e17]
        exact py_ctr hW (o3.y ((o2.y hY (by decide)).up (by unfold kY; omega) (by omega)) (by decide)) (((o2.fy (by decide)).up (by decide)).tr (o3.fy (by decide))) r0 r6 e17 m0 m1 c3 _
      · have e17 : M3 88 17 = S (30 + v) (-1) := by rw [o3 88 (by omega), up_at, if_pos rfl]
        have e4 : M3 104 x = ea (S (30 + w)) (S (30 + v)) (S (30 + w) (-1)) x := by rw [o3 104 (by omega), up_ne (by decide)]; exact (c2 x x0 x1).1
        have e5 : M3 105 x = la (S (30 + w)) (S (30 + v)) (S (30 + w) (-1)) (S (30 + v) (-1)) x := by rw [o3 105 (by omega), up_ne (by decide)]; exact (c2 x x0 x1).2
        refine gX12_way_45 ⟨⟨by omega, by omega⟩, ⟨by omega, by omega⟩, fun q => absurd q (by omega), fun _ => ⟨hl, fun ql => ⟨x0, by omega, ih _ (o3.upd (by decide) (by decide)) (fun j j0 j1 => ?_)⟩, fun ql => ⟨x0, by omega, ih _ (o3.upd (by decide) (by decide)) (fun j j0 j1 => ?_)⟩⟩⟩
        · rw [up_at]
          by_cases cj : j = x
          · rw [if_pos cj, if_pos ql, cj, e4]
          · rw [if_neg cj]; exact c3 j j0 (by omega)
        · rw [up_at]
          by_cases cj : j = x
          · rw [if_pos cj, if_neg ql, cj, e5]
          · rw [if_neg cj]; exact c3 j j0 (by omega)
  · refine ⟨-9, S, hW, fun M hX => eX11_way ?_, fun M hY => eX12_way ?_⟩
    · exact c_noRow hr (fun q => absurd q (by omega)) (fun q => ⟨fun _ => c_refuseWords hW hX hw hv (fun q => absurd q (by omega)) (fun q => absurd q (by omega)) (fun q => ⟨by decide, fun _ => ⟨w0, w8, v0, v8, c_readBounds (isW_word w0 w8).l (isW_word v0 v8).l (hX.ln w0 w8) (hX.ln v0 v8) bw bv (fun _ M2 o2 => ⟨fun q => absurd rfl q, fun _ => ⟨rfl, o2.x hX (fun a a0 a1 => by unfold kX; omega), o2.fx (by decide) (by decide)⟩⟩) (fun q => absurd q hs)⟩, fun q => absurd rfl q⟩), fun q => absurd rfl q⟩)
    · exact m_isRow hr (fun q => absurd q (by omega)) (fun _ => m_needTwo hW hY (Or.inr rfl) hw hv (fun q => absurd q (by omega)) (fun q => absurd q (by omega)) (fun q => ⟨by decide, fun _ => m_layPlaces w0 w8 v0 v8 (hY.ln w0 w8) (hY.ln v0 v8) bw bv (fun _ M2 o2 => ⟨fun q => absurd rfl q, fun _ => ⟨rfl, o2.y hY (by decide), o2.fy (by decide)⟩⟩) (fun q => absurd q hs), fun q => absurd q (by decide)⟩))
