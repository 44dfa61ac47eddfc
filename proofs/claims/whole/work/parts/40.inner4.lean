theorem c_pick {M : Mem} {n k m r : Int} {W : Int → Int} {Q : Vl → Mem → Prop} (h : inX M W n k) (b : wdB n W k) (m0 : 0 ≤ m) (m1 : m ≤ 40) (r0 : 0 ≤ r) (r1 : inr r) (hr : r < nn W n k m 0) (hq : ∀ M2, off 6 6 M M2 → (∀ j, 0 ≤ j → j < m → M2 6 j = pkX W n k m r j) → Q (Iv 0) M2) : cl 0 yX2_pick [Rv 80, Iv m, Iv r, Rv 6] M Q := by
  have n0 := b.1
  have n1 := b.2.1
  have k1 := b.2.2.2.1
  have isA6 : isA 6 80 := ⟨by decide, by decide, rfl⟩
  refine eX2_pick isA6 ⟨r1, ?_⟩
  refine up_ind (P := fun j => ∀ M2, off 6 6 M M2 → (∀ t, 0 ≤ t → t < j → M2 6 t = pkX W n k m r t) → wp 0 yX2_pick 10 [some (Rv 80), some (Iv m), some (Iv r), some (Rv 6), some (Jv (pkL W n k m r j)), none, some (Iv (pkI W n k m r j)), some (Iv j), none, none, none] [] M2 Q) (a := 0) (n := m) m0 (fun M2 o2 c2 => ?_) (fun j j0 j1 ih M2 o2 c2 => ?_) M off.rf (fun t t0 t1 => absurd t1 (by omega))
  · exact gX2_pick_10 isA6 ⟨⟨by omega, by omega⟩, ⟨by omega, by omega⟩, fun _ => hq M2 o2 c2, fun q => absurd q (by omega)⟩
  · have h2 : inX M2 W n k := by
      unfold inX stp
      rw [o2 82 (by omega), o2 80 (by omega), o2 79 (by omega)]
      exact h
    obtain ⟨a1, a2, a3, a4⟩ := pk_inv b r0 hr j.toNat (by omega)
    rw [show ((j.toNat : Nat) : Int) = j by omega] at a1 a2 a3 a4
    have nb := nn_b2 b a3 a4 (show 0 ≤ m - j by omega)
    rw [show m - j = m - 1 - j + 1 by omega] at a2 nb
    obtain ⟨b1, b2, b3, b4, b5⟩ := pk_step b (show 0 ≤ m - 1 - j by omega) a3 a1 a2
    refine gX2_pick_10 isA6 ⟨⟨by omega, by omega⟩, ⟨by omega, by omega⟩, fun q => absurd q (by omega), fun _ => c_countBegun h2 b a3 a4 (by decide) (by decide) (by omega) (by omega) ?_⟩
    have stop : ∀ c, c = pkX W n k m r j → wp 0 yX2_pick 10 [some (Rv 80), some (Iv m), some (Iv r), some (Rv 6), some (Jv (pkL W n k m r j - sm (inT W n k (m - 1 - j) (pkI W n k m r j)) c)), none, some (Iv (bh W n (pkI W n k m r j) c)), some (Iv (j + 1)), none, none, none] [] (up M2 6 j c) Q := by
      intro c hc
      have := ih _ (o2.upd (k := j) (v := c) (a := 6) (by decide) (by decide)) (fun t t0 t1 => by
        rw [up_at]
        by_cases ct : t = j
        · rw [if_pos ct, ct, hc]
        · rw [if_neg ct]; exact c2 t t0 (by omega))
      rw [pkL_s j0, pkI_s j0, ← hc] at this
      unfold bh
      rw [if_neg (by rw [hc]; exact b5)]
      exact this
    have step : ∀ c, 0 ≤ c → c ≤ pkX W n k m r j → cl 0 yX8_behind [Rv 81, Iv (pkI W n k m r j), Iv c] (up M2 6 j c) (QI (fun z6 M6 => (wp 0 yX2_pick 10 [some (Rv 80), some (Iv m), some (Iv r), some (Rv 6), some (Jv (pkL W n k m r j - sm (inT W n k (m - 1 - j) (pkI W n k m r j)) c)), none, some (Iv z6), some (Iv (j + 1)), none, none, none] [] M6 Q))) ∨ c < pkX W n k m r j := by
      intro c q0 q1
      by_cases e : c = pkX W n k m r j
      · refine Or.inl (c_behind isS_81 (h2.1.off (off.rf.upd (Int.le_refl 6) (Int.le_refl 6)) (by decide)) n1 a3 a4 q0 (by rw [e]; unfold pkX; omega) (stop c e))
      · exact Or.inr (by omega)
    have := up_ind (P := fun c => 0 ≤ c → wp 0 yX2_pick 35 [some (Rv 80), some (Iv m), some (Iv r), some (Rv 6), some (Jv (pkL W n k m r j - sm (inT W n k (m - 1 - j) (pkI W n k m r j)) c)), none, some (Iv (pkI W n k m r j)), some (Iv j), some (Iv c), some (Jv (inT W n k (m - 1 - j) (pkI W n k m r j) c)), none] [] M2 Q) (a := 0) (n := pkX W n k m r j) b1 (fun _ => ?_) (fun c q0 q1 ih2 _ => ?_) (Int.le_refl _)
    · rw [sm_0, Int.sub_zero] at this
      exact this
    · have tb := inT_b (x := pkX W n k m r j) b (show 0 ≤ m - 1 - j by omega) a3
      have cx : pkX W n k m r j < 6 ∧ 0 ≤ pkX W n k m r j := by unfold pkX; omega
      have b3' : sm (inT W n k (m - 1 - j) (pkI W n k m r j)) (pkX W n k m r j) ≤ pkL W n k m r j := b3
      have b4' : pkL W n k m r j < sm (inT W n k (m - 1 - j) (pkI W n k m r j)) (pkX W n k m r j + 1) := b4
      have sb := sm_bd (f := inT W n k (m - 1 - j) (pkI W n k m r j)) (lo := 0) (hi := 1099511627776) (n := (pkX W n k m r j).toNat) (fun x x0 x1 => inT_b b (by omega) a3)
      rw [show (((pkX W n k m r j).toNat : Nat) : Int) = pkX W n k m r j by omega] at sb
      rw [sm_s (by omega)] at b4'
      have go := (step (pkX W n k m r j) (by omega) (Int.le_refl _)).resolve_right (by omega)
      refine gX2_pick_35 isA6 ⟨⟨by omega, by omega⟩, fun _ => ⟨j0, by omega, ⟨by omega, by omega⟩, go⟩, fun _ => ⟨⟨by omega, by omega⟩, ⟨by omega, by omega⟩, fun _ => ⟨j0, by omega, ⟨by omega, by omega⟩, go⟩, fun q => absurd q (by omega)⟩⟩
    · have tb := inT_b (x := c) b (show 0 ≤ m - 1 - j by omega) a3
      have cx : pkX W n k m r j < 6 := by unfold pkX; omega
      have cx2 : pkX W n k m r j < k := by unfold pkX; omega
      have sb := sm_bd (f := inT W n k (m - 1 - j) (pkI W n k m r j)) (lo := 0) (hi := 1099511627776) (n := c.toNat) (fun x x0 x1 => inT_b b (by omega) a3)
      rw [show ((c.toNat : Nat) : Int) = c by omega] at sb
      have mono : sm (inT W n k (m - 1 - j) (pkI W n k m r j)) (c + 1) ≤ pkL W n k m r j := by
        have sp := fd_sp (p := fun c => decide (pkL W n k m r j < sm (inT W n k (m - 1 - j) (pkI W n k m r j)) (c + 1))) (a := 0) (e := pkX W n k m r j) b1 (by omega) (decide_eq_true b4)
        have := sp.2.2.2 c q0 q1
        have h9 : ¬ (pkL W n k m r j < sm (inT W n k (m - 1 - j) (pkI W n k m r j)) (c + 1)) := fun q => this (decide_eq_true q)
        omega
      have ms := sm_s (f := inT W n k (m - 1 - j) (pkI W n k m r j)) q0
      refine gX2_pick_35 isA6 ⟨⟨by omega, by omega⟩, fun q => absurd q (by omega), fun _ => ⟨⟨by omega, by omega⟩, ⟨by omega, by omega⟩, fun q => absurd q (by omega), fun _ => c_countBegun h2 b a3 a4 (by omega) (by omega) (by omega) (by omega) ?_⟩⟩
      have := ih2 (by omega)
      rw [ms] at this
      rw [show pkL W n k m r j - (sm (inT W n k (m - 1 - j) (pkI W n k m r j)) c + inT W n k (m - 1 - j) (pkI W n k m r j) c) = pkL W n k m r j - sm (inT W n k (m - 1 - j) (pkI W n k m r j)) c - inT W n k (m - 1 - j) (pkI W n k m r j) c by omega] at this
      exact this
theorem m_innersBy {M : Mem} {w n k i x l : Int} {W : Int → Int} {Q : Vl → Mem → Prop} (w0 : 0 ≤ w) (w8 : w < 8) (lw : lnY M w n W) (b : wdB n W k) (c : ∀ i l, 0 ≤ i → i ≤ n → 0 ≤ l → l ≤ 40 → M 107 (41 * i + l) = nn W n k l i) (i0 : 0 ≤ i) (i1 : i ≤ n) (hx : inr x) (l0 : 0 ≤ l) (l1 : l ≤ 39) (hq : Q (Jv (inT W n k l i x)) M) : cl 0 yX12_innersBy [Rv 88, Iv w, Iv i, Iv x, Iv (l + 1)] M Q := by
  have n1 := b.2.1
  have nb := nx_b (W := W) (n := n) (x := x) i0
  unfold inT at hq
  refine eX12_innersBy (m_nextW w0 w8 lw b i0 (by omega) hx ⟨⟨by omega, by omega⟩, fun q => ⟨by omega, by omega, ?_⟩, fun q => ?_⟩)
  · rw [if_neg q] at hq
    rw [show 41 * (nx W n i x + 1) + (l + 1) - 1 = 41 * (nx W n i x + 1) + l by omega, c _ _ (by omega) (by omega) l0 (by omega)]
    exact hq
  · rw [if_pos q] at hq
    exact hq
theorem op_byRank {S : Mem} (hW : WF S) {w m t r : Int} (hw : inr w) (hm : inr m) (ht : inr t) (hr : inr r) : OpOK S yX11_byRank yX12_byRank [Iv w, Iv m, Iv t, Iv r] Iv := by
  by_cases c1 : (w < 0 ∨ 8 ≤ w) ∨ (m < 0 ∨ 40 < m) ∨ t < 0 ∨ (r < 0 ∨ 6 ≤ r)
  · refine ⟨-1, S, hW, fun M hX => eX11_byRank ?_, fun M hY => eX12_byRank ?_⟩
    · repeat' first
        | omega
        | exact px_rf hX _
        | exact px_fnd hX _ (by decide) (by decide)
        | refine c_noRow ?_ (fun q => ?_) (fun q => ?_)
        | refine c_noText ?_ (fun q => ?_) (fun q => ?_)
        | refine c_noWord ?_ (fun q => ?_) (fun q => ?_)
        | refine c_noLength ?_ (fun q => ?_) (fun q => ?_)
        | refine c_found (by decide) ?_
        | refine c_refuseRow hW hX ?_ (fun q => ?_) (fun q => ?_) (fun q => ?_)
        | refine c_refusePlace hW hX ?_ ?_ (fun q => ?_) (fun q => ?_) (fun q => ?_) (fun q => ?_)
        | refine c_refuseText hW hX ?_ (fun q => ?_) (fun q => ?_) (fun q => ?_)
        | refine c_refuseWords hW hX ?_ ?_ (fun q => ?_) (fun q => ?_) (fun q => ?_)
        | refine c_refuseWord hW hX ?_ (fun q => ?_) (fun q => ?_) (fun q => ?_)
        | refine c_has hL ?_ ?_ (fun q => ?_) (fun q => ?_)
        | refine c_isMissing hL ?_ (fun q => ?_) (fun q => ?_)
        | refine c_reaches hL ?_ ?_ (fun q => ?_) (fun q => ?_)
        | refine c_has hL2 ?_ ?_ (fun q => ?_) (fun q => ?_)
        | refine c_isMissing hL2 ?_ (fun q => ?_) (fun q => ?_)
        | refine c_reaches hL2 ?_ ?_ (fun q => ?_) (fun q => ?_)
        | refine c_is hWd ?_ ?_ (fun q => ?_) (fun q => ?_)
        | refine c_markOf hWd ?_ (fun q => ?_) (fun q => ?_)
        | with_reducible refine ⟨?_, ?_⟩
        | with_reducible intro q
    · repeat' first
        | omega
        | exact py_rf hY _
        | exact py_fnd hY _ (by decide) (by decide)
        | refine m_isRow ?_ (fun q => ?_) (fun q => ?_)
        | refine m_isText ?_ (fun q => ?_) (fun q => ?_)
        | refine m_isWord ?_ (fun q => ?_) (fun q => ?_)
        | refine m_in ?_ ?_ ?_ (fun q => ?_) (fun q => ?_)
        | refine m_meets (by decide) ?_
        | refine m_needWord hW hY ?_ ?_ (fun q => ?_) (fun q => ?_) (fun q => ?_)
        | refine m_needTwo hW hY ?_ ?_ ?_ (fun q => ?_) (fun q => ?_) (fun q => ?_)
        | refine m_isThere ?_ ?_ ?_ (fun q => ?_) (fun q => ?_)
        | refine m_at0 ?_ ?_ ?_
        | refine m_rowAt ?_ ?_ ?_
        | refine m_markOf ?_ ?_ ?_ (fun q => ?_) (fun q => ?_) (fun q => ?_)
        | with_reducible refine ⟨?_, ?_⟩
        | with_reducible intro q
  have w0 : 0 ≤ w := by omega
  have w8 : w < 8 := by omega
  have m0 : 0 ≤ m := by omega
  have m40 : m ≤ 40 := by omega
  have r0 : 0 ≤ r := by omega
  have r6 : r < 6 := by omega
  have t0 : 0 ≤ t := by omega
  by_cases c3 : S (30 + w) (-1) < 0
  · refine ⟨-3, fS S 1, hW.fnd 1, fun M hX => eX11_byRank ?_, fun M hY => eX12_byRank ?_⟩
    · repeat' first
        | omega
        | exact px_rf hX _
        | exact px_fnd hX _ (by decide) (by decide)
        | refine c_noRow ?_ (fun q => ?_) (fun q => ?_)
        | refine c_noText ?_ (fun q => ?_) (fun q => ?_)
        | refine c_noWord ?_ (fun q => ?_) (fun q => ?_)
        | refine c_noLength ?_ (fun q => ?_) (fun q => ?_)
        | refine c_found (by decide) ?_
        | refine c_refuseRow hW hX ?_ (fun q => ?_) (fun q => ?_) (fun q => ?_)
        | refine c_refusePlace hW hX ?_ ?_ (fun q => ?_) (fun q => ?_) (fun q => ?_) (fun q => ?_)
        | refine c_refuseText hW hX ?_ (fun q => ?_) (fun q => ?_) (fun q => ?_)
        | refine c_refuseWords hW hX ?_ ?_ (fun q => ?_) (fun q => ?_) (fun q => ?_)
        | refine c_refuseWord hW hX ?_ (fun q => ?_) (fun q => ?_) (fun q => ?_)
        | refine c_has hL ?_ ?_ (fun q => ?_) (fun q => ?_)
        | refine c_isMissing hL ?_ (fun q => ?_) (fun q => ?_)
        | refine c_reaches hL ?_ ?_ (fun q => ?_) (fun q => ?_)
        | refine c_has hL2 ?_ ?_ (fun q => ?_) (fun q => ?_)
        | refine c_isMissing hL2 ?_ (fun q => ?_) (fun q => ?_)
        | refine c_reaches hL2 ?_ ?_ (fun q => ?_) (fun q => ?_)
        | refine c_is hWd ?_ ?_ (fun q => ?_) (fun q => ?_)
        | refine c_markOf hWd ?_ (fun q => ?_) (fun q => ?_)
        | with_reducible refine ⟨?_, ?_⟩
        | with_reducible intro q
    · repeat' first
        | omega
        | exact py_rf hY _
        | exact py_fnd hY _ (by decide) (by decide)
        | refine m_isRow ?_ (fun q => ?_) (fun q => ?_)
        | refine m_isText ?_ (fun q => ?_) (fun q => ?_)
        | refine m_isWord ?_ (fun q => ?_) (fun q => ?_)
        | refine m_in ?_ ?_ ?_ (fun q => ?_) (fun q => ?_)
        | refine m_meets (by decide) ?_
        | refine m_needWord hW hY ?_ ?_ (fun q => ?_) (fun q => ?_) (fun q => ?_)
        | refine m_needTwo hW hY ?_ ?_ ?_ (fun q => ?_) (fun q => ?_) (fun q => ?_)
        | refine m_isThere ?_ ?_ ?_ (fun q => ?_) (fun q => ?_)
        | refine m_at0 ?_ ?_ ?_
        | refine m_rowAt ?_ ?_ ?_
        | refine m_markOf ?_ ?_ ?_ (fun q => ?_) (fun q => ?_) (fun q => ?_)
        | with_reducible refine ⟨?_, ?_⟩
        | with_reducible intro q
  have bw := hW.wd w0 w8 (by omega)
  have n0 := bw.1
  have n1 := bw.2.1
  have k1 := bw.2.2.2.1
  have nb := nn_b2 bw (Int.le_refl 0) n0 m0
  have tl : inL t := ⟨by have := ht.1; omega, by have := ht.2; omega⟩
  by_cases c4 : nn (S (30 + w)) (S (30 + w) (-1)) (S 0 0) m 0 ≤ t
  · refine ⟨-9, S, hW, fun M hX => eX11_byRank ?_, fun M hY => eX12_byRank ?_⟩
    · refine c_noLength hm (fun q => absurd q (by omega)) (fun q => ⟨fun q => absurd rfl q, fun _ => ⟨ht, fun q => absurd q (by omega), fun _ => c_noRow hr (fun q => absurd q (by omega)) (fun q => ⟨fun _ => c_refuseWord hW hX hw (fun q => absurd q (by omega)) (fun q => absurd q (by omega)) (fun _ => ⟨by decide, fun _ => ⟨w0, w8, c_inner (isW_word w0 w8).l (hX.ln w0 w8) bw (fun M2 o2 i2 => eX2_ofLength ⟨by omega, by omega, ?_⟩)⟩, fun q => absurd rfl q⟩), fun q => absurd rfl q⟩)⟩⟩)
      have e4 := i2.2.2 0 m (by decide) n0 (by omega) (by omega)
      rw [show (0 : Int) * 41 + m = m by omega] at e4
      rw [e4]
      exact ⟨tl, ⟨by omega, by omega⟩, fun q => absurd q (by omega), fun _ => ⟨rfl, o2.x hX (fun a a0 a1 => by unfold kX; omega), o2.fx (by decide) (by decide)⟩⟩
    · have ek := hY.2.2.2.1.1
      refine m_in hm (by decide) (by decide) (fun q => absurd q (by omega)) (fun _ => ⟨fun q => absurd q (by decide), fun _ => ⟨ht, fun q => absurd q (by omega), fun _ => m_isRow hr (fun q => absurd q (by omega)) (fun _ => ⟨fun q => absurd q (by decide), fun _ => m_needWord hW hY (Or.inr rfl) hw (fun q => absurd q (by omega)) (fun q => absurd q (by omega)) (fun _ => ⟨by decide, fun _ => m_layInner w0 w8 (hY.ln w0 w8) bw ek (fun M2 o2 c2 => ?_), fun q => absurd q (by decide)⟩)⟩)⟩⟩)
      have e4 := c2 0 m (by decide) n0 m0 m40
      rw [show (41 : Int) * 0 + m = m by omega] at e4
      refine ⟨m0, by omega, tl, by rw [e4]; exact ⟨by omega, by omega⟩, fun q => absurd q (by rw [e4]; omega), fun _ => ⟨rfl, o2.y hY (by decide), o2.fy (by decide)⟩⟩
  have hr2 : t < nn (S (30 + w)) (S (30 + w) (-1)) (S 0 0) m 0 := by omega
  have xb : ∀ j, 0 ≤ j → j < m → 0 ≤ pkX (S (30 + w)) (S (30 + w) (-1)) (S 0 0) m t j ∧ pkX (S (30 + w)) (S (30 + w) (-1)) (S 0 0) m t j < S 0 0 := by
    intro j j0 j1
    obtain ⟨a1, a2, a3, a4⟩ := pk_inv bw t0 hr2 j.toNat (by omega)
    rw [show ((j.toNat : Nat) : Int) = j by omega] at a1 a2 a3 a4
    rw [show m - j = m - 1 - j + 1 by omega] at a2
    obtain ⟨b1, b2, b3, b4, b5⟩ := pk_step bw (show 0 ≤ m - 1 - j by omega) a3 a1 a2
    exact ⟨b1, b2⟩
  refine ⟨m, setLn S (10 + r) m (pkX (S (30 + w)) (S (30 + w) (-1)) (S 0 0) m t), hW.row r0 r6 (by omega) m40 (fun j j0 j1 => by have := xb j j0 j1; exact ⟨by omega, by omega⟩), fun M hX => eX11_byRank ?_, fun M hY => eX12_byRank ?_⟩
  · refine c_noLength hm (fun q => absurd q (by omega)) (fun q => ⟨fun q => absurd rfl q, fun _ => ⟨ht, fun q => absurd q (by omega), fun _ => c_noRow hr (fun q => absurd q (by omega)) (fun q => ⟨fun _ => c_refuseWord hW hX hw (fun q => absurd q (by omega)) (fun q => absurd q (by omega)) (fun _ => ⟨by decide, fun _ => ⟨w0, w8, c_inner (isW_word w0 w8).l (hX.ln w0 w8) bw (fun M2 o2 i2 => eX2_ofLength ⟨by omega, by omega, ?_⟩)⟩, fun q => absurd rfl q⟩), fun q => absurd rfl q⟩)⟩⟩)
    have e4 := i2.2.2 0 m (by decide) n0 (by omega) (by omega)
    rw [show (0 : Int) * 41 + m = m by omega] at e4
    rw [e4]
    refine ⟨tl, ⟨by omega, by omega⟩, fun _ => c_pick i2 bw m0 m40 t0 ht hr2 (fun M3 o3 c3 => ⟨r0, r6, c_take (isL_row r0 r6) (m := 80) ⟨by decide, by decide, rfl⟩ m0 m40 (by omega) (by decide) ⟨rfl, (o3.x (o2.x hX (fun a a0 a1 => by unfold kX; omega)) (fun a a0 a1 => by unfold kX; omega)).tk r0 r6 c3, ((o2.fx (by decide) (by decide)).tr (o3.fx (by decide) (by decide))).tk r0 r6⟩⟩), fun q => absurd q (by omega)⟩
  · have ek := hY.2.2.2.1.1
    refine m_in hm (by decide) (by decide) (fun q => absurd q (by omega)) (fun _ => ⟨fun q => absurd q (by decide), fun _ => ⟨ht, fun q => absurd q (by omega), fun _ => m_isRow hr (fun q => absurd q (by omega)) (fun _ => ⟨fun q => absurd q (by decide), fun _ => m_needWord hW hY (Or.inr rfl) hw (fun q => absurd q (by omega)) (fun q => absurd q (by omega)) (fun _ => ⟨by decide, fun _ => m_layInner w0 w8 (hY.ln w0 w8) bw ek (fun M2 o2 c2 => ?_), fun q => absurd q (by decide)⟩)⟩)⟩⟩)
    have e4 := c2 0 m (by decide) n0 m0 m40
    rw [show (41 : Int) * 0 + m = m by omega] at e4
    refine ⟨m0, by omega, tl, by rw [e4]; exact ⟨by omega, by omega⟩, fun _ => ?_, fun q => absurd q (by rw [e4]; omega)⟩
    refine up_ind (P := fun j => ∀ M3, (∀ a, a ≠ 88 → a ≠ 100 → M3 a = M2 a) → (∀ q, q ≠ 17 → M3 88 q = M2 88 q) → M3 88 17 = j → (∀ t', 0 ≤ t' → t' < j → M3 100 t' = pkX (S (30 + w)) (S (30 + w) (-1)) (S 0 0) m t t') → wp 0 yX12_byRank 74 [some (Rv 88), some (Iv w), some (Iv m), some (Iv t), some (Iv r), some (Iv 0), some (Jv (pkL (S (30 + w)) (S (30 + w) (-1)) (S 0 0) m t j)), none, some (Iv (pkI (S (30 + w)) (S (30 + w) (-1)) (S 0 0) m t j)), none, none, none] [] M3 (PY (setLn S (10 + r) m (pkX (S (30 + w)) (S (30 + w) (-1)) (S 0 0) m t)) (Iv m) M)) (a := 0) (n := m) m0 (fun M3 o3 p3 e3 c3 => ?_) (fun j j0 j1 ih M3 o3 p3 e3 c3 => ?_) _ (fun a a1 a2 => up_ne a1) (fun q hq => by rw [up_at, if_neg hq]) (by rw [up_at, if_pos rfl]) (fun t' t0 t1 => absurd t1 (by omega))
    · have hY3 : Y S M3 := (o2.y hY (by decide)).same (fun a ka => o3 a (by unfold kY at ka; omega) (by unfold kY at ka; omega)) (fun q hq => p3 q (by omega))
      refine gX12_byRank_74 ⟨⟨by omega, by omega⟩, hm, fun _ => m_comesToRow r0 r6 (by omega) (by omega) ?_, fun q => absurd q (by omega)⟩
      exact py_ctr hW hY3 ((o2.fy (by decide)).tr (fun a ha => o3 a (by omega) (by omega))) r0 r6 e3 m0 m40 c3 _
    · have lw : lnY M3 w (S (30 + w) (-1)) (S (30 + w)) := by
        unfold lnY
        rw [o3 95 (by decide) (by decide), o3 96 (by decide) (by decide)]
        exact (hY.ln w0 w8).off o2 (by decide)
      have c4 : ∀ i l, 0 ≤ i → i ≤ S (30 + w) (-1) → 0 ≤ l → l ≤ 40 → M3 107 (41 * i + l) = nn (S (30 + w)) (S (30 + w) (-1)) (S 0 0) l i := by
        rw [o3 107 (by decide) (by decide)]
        exact c2
      obtain ⟨a1, a2, a3, a4⟩ := pk_inv bw t0 hr2 j.toNat (by omega)
      rw [show ((j.toNat : Nat) : Int) = j by omega] at a1 a2 a3 a4
      have nb := nn_b2 bw a3 a4 (show 0 ≤ m - j by omega)
      rw [show m - j = m - 1 - j + 1 by omega] at a2 nb
      obtain ⟨b1, b2, b3, b4, b5⟩ := pk_step bw (show 0 ≤ m - 1 - j by omega) a3 a1 a2
      refine gX12_byRank_74 ⟨⟨by omega, by omega⟩, hm, fun q => absurd q (by omega), fun _ => ?_⟩
      rw [e3, show m - j = m - 1 - j + 1 by omega]
      refine m_innersBy w0 w8 lw bw c4 a3 a4 (by decide) (by omega) (by omega) ?_
      have := up_ind (P := fun c => 0 ≤ c → wp 0 yX12_byRank 102 [some (Rv 88), some (Iv w), some (Iv m), some (Iv t), some (Iv r), some (Iv 0), some (Jv (pkL (S (30 + w)) (S (30 + w) (-1)) (S 0 0) m t j - sm (inT (S (30 + w)) (S (30 + w) (-1)) (S 0 0) (m - 1 - j) (pkI (S (30 + w)) (S (30 + w) (-1)) (S 0 0) m t j)) c)), none, some (Iv (pkI (S (30 + w)) (S (30 + w) (-1)) (S 0 0) m t j)), some (Iv c), some (Jv (inT (S (30 + w)) (S (30 + w) (-1)) (S 0 0) (m - 1 - j) (pkI (S (30 + w)) (S (30 + w) (-1)) (S 0 0) m t j) c)), none] [] M3 (PY (setLn S (10 + r) m (pkX (S (30 + w)) (S (30 + w) (-1)) (S 0 0) m t)) (Iv m) M)) (a := 0) (n := pkX (S (30 + w)) (S (30 + w) (-1)) (S 0 0) m t j) b1 (fun _ => ?_) (fun c q0 q1 ih2 _ => ?_) (Int.le_refl _)
      · rw [sm_0, Int.sub_zero] at this
        exact this
      · have tb := inT_b (x := pkX (S (30 + w)) (S (30 + w) (-1)) (S 0 0) m t j) bw (show 0 ≤ m - 1 - j by omega) a3
        have cx := xb j j0 j1
        have b3' : sm (inT (S (30 + w)) (S (30 + w) (-1)) (S 0 0) (m - 1 - j) (pkI (S (30 + w)) (S (30 + w) (-1)) (S 0 0) m t j)) (pkX (S (30 + w)) (S (30 + w) (-1)) (S 0 0) m t j) ≤ pkL (S (30 + w)) (S (30 + w) (-1)) (S 0 0) m t j := b3
        have b4' : pkL (S (30 + w)) (S (30 + w) (-1)) (S 0 0) m t j < sm (inT (S (30 + w)) (S (30 + w) (-1)) (S 0 0) (m - 1 - j) (pkI (S (30 + w)) (S (30 + w) (-1)) (S 0 0) m t j)) (pkX (S (30 + w)) (S (30 + w) (-1)) (S 0 0) m t j + 1) := b4
        have sb := sm_bd (f := inT (S (30 + w)) (S (30 + w) (-1)) (S 0 0) (m - 1 - j) (pkI (S (30 + w)) (S (30 + w) (-1)) (S 0 0) m t j)) (lo := 0) (hi := 1099511627776) (n := (pkX (S (30 + w)) (S (30 + w) (-1)) (S 0 0) m t j).toNat) (fun x x0 x1 => inT_b bw (by omega) a3)
        rw [show (((pkX (S (30 + w)) (S (30 + w) (-1)) (S 0 0) m t j).toNat : Nat) : Int) = pkX (S (30 + w)) (S (30 + w) (-1)) (S 0 0) m t j by omega] at sb
        rw [sm_s (by omega)] at b4'
        refine gX12_byRank_102 ⟨⟨by omega, by omega⟩, ⟨by omega, by omega⟩, fun _ => m_nextW w0 w8 lw bw a3 (by omega) ⟨by omega, by omega⟩ ⟨by omega, by omega, ?_⟩, fun q => absurd q (by omega)⟩
        rw [e3]
        have := ih (up (up M3 100 j (pkX (S (30 + w)) (S (30 + w) (-1)) (S 0 0) m t j)) 88 17 (j + 1)) (fun a a1 a2 => by rw [up_ne a1, up_ne a2]; exact o3 a a1 a2) (fun q hq => by rw [up_at, if_neg hq, up_ne (by decide)]; exact p3 q hq) (by rw [up_at, if_pos rfl]) (fun t' t0 t1 => by
          rw [up_ne (by decide), up_at]
          by_cases ct : t' = j
          · rw [if_pos ct, ct]
          · rw [if_neg ct]; exact c3 t' t0 (by omega))
        rw [pkL_s j0, pkI_s j0] at this
        exact this
      · have tb := inT_b (x := c) bw (show 0 ≤ m - 1 - j by omega) a3
        have cx := xb j j0 j1
        have sb := sm_bd (f := inT (S (30 + w)) (S (30 + w) (-1)) (S 0 0) (m - 1 - j) (pkI (S (30 + w)) (S (30 + w) (-1)) (S 0 0) m t j)) (lo := 0) (hi := 1099511627776) (n := c.toNat) (fun x x0 x1 => inT_b bw (by omega) a3)
        rw [show ((c.toNat : Nat) : Int) = c by omega] at sb
        have mono : sm (inT (S (30 + w)) (S (30 + w) (-1)) (S 0 0) (m - 1 - j) (pkI (S (30 + w)) (S (30 + w) (-1)) (S 0 0) m t j)) (c + 1) ≤ pkL (S (30 + w)) (S (30 + w) (-1)) (S 0 0) m t j := by
          have sp := fd_sp (p := fun c => decide (pkL (S (30 + w)) (S (30 + w) (-1)) (S 0 0) m t j < sm (inT (S (30 + w)) (S (30 + w) (-1)) (S 0 0) (m - 1 - j) (pkI (S (30 + w)) (S (30 + w) (-1)) (S 0 0) m t j)) (c + 1))) (a := 0) (e := pkX (S (30 + w)) (S (30 + w) (-1)) (S 0 0) m t j) b1 (by omega) (decide_eq_true b4)
          have := sp.2.2.2 c q0 q1
          have h9 : ¬ (pkL (S (30 + w)) (S (30 + w) (-1)) (S 0 0) m t j < sm (inT (S (30 + w)) (S (30 + w) (-1)) (S 0 0) (m - 1 - j) (pkI (S (30 + w)) (S (30 + w) (-1)) (S 0 0) m t j)) (c + 1)) := fun q => this (decide_eq_true q)
          omega
        have ms := sm_s (f := inT (S (30 + w)) (S (30 + w) (-1)) (S 0 0) (m - 1 - j) (pkI (S (30 + w)) (S (30 + w) (-1)) (S 0 0) m t j)) q0
        refine gX12_byRank_102 ⟨⟨by omega, by omega⟩, ⟨by omega, by omega⟩, fun q => absurd q (by omega), fun _ => ?_⟩
        rw [e3, show m - j = m - 1 - j + 1 by omega]
        refine m_innersBy w0 w8 lw bw c4 a3 a4 ⟨by omega, by omega⟩ (by omega) (by omega) ?_
        have := ih2 (by omega)
        rw [ms] at this
        rw [show pkL (S (30 + w)) (S (30 + w) (-1)) (S 0 0) m t j - (sm (inT (S (30 + w)) (S (30 + w) (-1)) (S 0 0) (m - 1 - j) (pkI (S (30 + w)) (S (30 + w) (-1)) (S 0 0) m t j)) c + inT (S (30 + w)) (S (30 + w) (-1)) (S 0 0) (m - 1 - j) (pkI (S (30 + w)) (S (30 + w) (-1)) (S 0 0) m t j) c) = pkL (S (30 + w)) (S (30 + w) (-1)) (S 0 0) m t j - sm (inT (S (30 + w)) (S (30 + w) (-1)) (S 0 0) (m - 1 - j) (pkI (S (30 + w)) (S (30 + w) (-1)) (S 0 0) m t j)) c - inT (S (30 + w)) (S (30 + w) (-1)) (S 0 0) (m - 1 - j) (pkI (S (30 + w)) (S (30 + w) (-1)) (S 0 0) m t j) c by omega] at this
        exact this
