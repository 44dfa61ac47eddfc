/-! 29 rank -/
theorem inT_b {W : Int → Int} {n k l i x : Int} (b : wdB n W k) (l0 : 0 ≤ l) (i0 : 0 ≤ i) : 0 ≤ inT W n k l i x ∧ inT W n k l i x ≤ 1099511627776 := by
  unfold inT
  rcases nx_b (W := W) (n := n) (x := x) i0 with q | q
  · rw [if_pos q]; omega
  · rw [if_neg (by omega)]
    exact nn_b2 b (by omega) (by omega) l0
theorem c_countBegun {M : Mem} {n k i c m : Int} {W : Int → Int} {Q : Vl → Mem → Prop} (h : inX M W n k) (b : wdB n W k) (i0 : 0 ≤ i) (i1 : i ≤ n) (c0 : 0 ≤ c) (c1 : c < 6) (m0 : 0 ≤ m) (m1 : m ≤ 40) (hq : Q (Jv (inT W n k m i c)) M) : cl 0 yX2_countBegun [Rv 80, Iv i, Iv c, Iv m] M Q := by
  obtain ⟨s, -, e⟩ := h
  have n1 := b.2.1
  have bb := bh_b (W := W) (n := n) (c := c) i0
  refine eX2_countBegun (c_behind isS_81 s n1 i0 i1 c0 c1 ⟨⟨by omega, by omega⟩, fun q => ⟨by omega, by omega, ?_⟩, fun q => ?_⟩)
  · rw [e (bh W n i c) m (by omega) (by omega) m0 m1]
    unfold inT at hq
    rw [if_neg (fun q2 => q ((bh_z i0).2 q2))] at hq
    unfold bh
    rw [if_neg (fun q2 => q ((bh_z i0).2 q2))]
    exact hq
  · unfold inT at hq
    rw [if_pos ((bh_z i0).1 q)] at hq
    exact hq
def rkT (W V : Int → Int) (n m k j : Int) : Int := sm (inT W n k (m - 1 - j) (fr W V n j)) (V j)
theorem rkT_b {W V : Int → Int} {n m k j : Int} (b : wdB n W k) (b2 : wdB m V k) (j0 : 0 ≤ j) (j1 : j < m) (hs : stn W V n j) : 0 ≤ rkT W V n m k j ∧ rkT W V n m k j ≤ 6597069766656 := by
  have v := b2.2.2.2.2 j j0 j1
  have k6 := b.2.2.2.1
  have fb := fr_b (W := W) (V := V) b.1 j.toNat (fun i i0 i1 => hs i i0 (by omega))
  rw [show ((j.toNat : Nat) : Int) = j by omega] at fb
  have := sm_bd (f := inT W n k (m - 1 - j) (fr W V n j)) (lo := 0) (hi := 1099511627776) (n := (V j).toNat) (fun x x0 x1 => inT_b b (by omega) fb.1)
  rw [show (((V j).toNat : Nat) : Int) = V j by omega] at this
  unfold rkT
  omega
theorem rk_b {W V : Int → Int} {n m k : Int} (b : wdB n W k) (b2 : wdB m V k) {x : Int} (x0 : 0 ≤ x) (x1 : x ≤ m) (hs : stn W V n x) : 0 ≤ sm (rkT W V n m k) x ∧ sm (rkT W V n m k) x ≤ 263882790666240 := by
  have m1 := b2.2.1
  have := sm_bd (f := rkT W V n m k) (lo := 0) (hi := 6597069766656) (n := x.toNat) (fun j j0 j1 => rkT_b b b2 j0 (by omega) (fun i i0 i1 => hs i i0 (by omega)))
  rw [show ((x.toNat : Nat) : Int) = x by omega] at this
  omega
theorem c_ahead {M : Mem} {a n m k : Int} {W V : Int → Int} {Q : Vl → Mem → Prop} (hl : isL a 40) (h : inX M W n k) (b : wdB n W k) (l : lnX M a m V) (b2 : wdB m V k) (hn : ¬ stn W V n m → Q (Jv (-1)) M) (hy : stn W V n m → Q (Jv (sm (rkT W V n m k) m)) M) : cl 0 yX2_ahead [Rv 80, Rv a] M Q := by
  have n0 := b.1
  have n1 := b.2.1
  have k1 := b.2.2.2.1
  obtain ⟨m0, m1, -, -, hv⟩ := b2
  obtain ⟨e1, f1⟩ := l
  refine eX2_ahead hl ?_
  refine up_ind (P := fun j => stn W V n j → wp 0 yX2_ahead 8 [some (Rv 80), some (Rv a), some (Jv (sm (rkT W V n m k) j)), none, some (Iv (fr W V n j)), some (Iv j), none] [] M Q) (a := 0) (n := m) m0 (fun hs => ?_) (fun j j0 j1 ih hs => ?_) (fun i i0 i1 => absurd i1 (by omega))
  · exact gX2_ahead_8 hl ⟨⟨by omega, by omega⟩, ⟨by omega, by omega⟩, fun _ => hy hs, fun q => absurd q (by omega)⟩
  · refine gX2_ahead_8 hl ⟨⟨by omega, by omega⟩, ⟨by omega, by omega⟩, fun q => absurd q (by omega), fun _ => ?_⟩
    have fv := f1 j j0 j1
    have gv := hv j j0 j1
    have fb := fr_b (W := W) (V := V) n0 j.toNat (fun i i0 i1 => hs i i0 (by omega))
    rw [show ((j.toNat : Nat) : Int) = j by omega] at fb
    have := up_ind (P := fun x => wp 0 yX2_ahead 20 [some (Rv 80), some (Rv a), some (Jv (sm (rkT W V n m k) j + sm (inT W n k (m - 1 - j) (fr W V n j)) x)), none, some (Iv (fr W V n j)), some (Iv j), some (Iv x)] [] M Q) (a := 0) (n := V j) gv.1 ?_ (fun x x0 x1 ih2 => ?_)
    · rw [sm_0, Int.add_zero] at this
      exact this
    · refine gX2_ahead_20 hl ⟨j0, by omega, ⟨by omega, by omega⟩, ⟨by omega, by omega⟩, ⟨by omega, by omega⟩, fun _ => ?_, fun q => absurd q (by omega)⟩
      rw [fv]
      have bb := bh_b (W := W) (n := n) (c := V j) fb.1
      refine c_behind isS_81 h.1 n1 fb.1 fb.2 gv.1 (by omega) ⟨⟨by omega, by omega⟩, fun q => ?_, fun q => hn (fun hs2 => hs2 j j0 j1 ((bh_z fb.1).1 q))⟩
      have hz : ea W V n j ≠ -9 := fun q2 => q ((bh_z fb.1).2 q2)
      have := ih (fun t t0 t1 => by
        by_cases ct : t = j
        · rw [ct]; exact hz
        · exact hs t t0 (by omega))
      rw [sm_s j0, fr_s j0] at this
      show wp 0 yX2_ahead 8 [some (Rv 80), some (Rv a), some (Jv _), none, some (Iv (bh W n (fr W V n j) (V j))), some (Iv (j + 1)), none] [] M Q
      unfold bh
      rw [if_neg (show ¬ (nx W n (fr W V n j) (V j) = -9) from hz)]
      exact this
    · rw [sm_s x0, ← Int.add_assoc] at ih2
      refine gX2_ahead_20 hl ⟨j0, by omega, ⟨by omega, by omega⟩, ⟨by omega, by omega⟩, ⟨by omega, by omega⟩, fun q => absurd q (by omega), fun _ => ?_⟩
      rw [e1]
      exact c_countBegun h b fb.1 fb.2 x0 (by omega) (by omega) (by omega) ih2
theorem op_rank {S : Mem} (hW : WF S) {w v : Int} (hw : inr w) (hv : inr v) : OpOK S yX11_rank yX12_rank [Iv w, Iv v] Iv := by
  by_cases c1 : (w < 0 ∨ 8 ≤ w) ∨ (v < 0 ∨ 8 ≤ v)
  · refine ⟨-1, S, hW, fun M hX => eX11_rank ?_, fun M hY => eX12_rank ?_⟩
    · repeat' first
        | omega
        | exact px_rf hX _
        | exact px_fnd hX _ (by decide) (by decide)
        | refine c_noRow ?_ (fun q => ?_) (fun q => ?_)
        | refine c_noText ?_ (fun q => ?_) (fun q => ?_)
        | refine c_noWord ?_ (fun q => ?_) (fun q => ?_)
        | refine c_noLength ?_ (fun q => ?_) (fun q => ?_)
        | refine c_found (by decide) ?_
        | refine c_refuseRow hW hX ?_ (fun q => ?_) (fun q => ?_) (fun q => ?_)
        | refine c_refusePlace hW hX ?_ ?_ (fun q => ?_) (fun q => ?_) (fun q => ?_) (fun q => ?_)
        | refine c_refuseText hW hX ?_ (fun q => ?_) (fun q => ?_) (fun q => ?_)
        | refine c_refuseWords hW hX ?_ ?_ (fun q => ?_) (fun q => ?_) (fun q => ?_)
        | refine c_refuseWord hW hX ?_ (fun q => ?_) (fun q => ?_) (fun q => ?_)
        | refine c_has hL ?_ ?_ (fun q => ?_) (fun q => ?_)
        | refine c_isMissing hL ?_ (fun q => ?_) (fun q => ?_)
        | refine c_reaches hL ?_ ?_ (fun q => ?_) (fun q => ?_)
        | refine c_has hL2 ?_ ?_ (fun q => ?_) (fun q => ?_)
        | refine c_isMissing hL2 ?_ (fun q => ?_) (fun q => ?_)
        | refine c_reaches hL2 ?_ ?_ (fun q => ?_) (fun q => ?_)
        | refine c_is hWd ?_ ?_ (fun q => ?_) (fun q => ?_)
        | refine c_markOf hWd ?_ (fun q => ?_) (fun q => ?_)
        | with_reducible refine ⟨?_, ?_⟩
        | with_reducible intro q
    · repeat' first
        | omega
        | exact py_rf hY _
        | exact py_fnd hY _ (by decide) (by decide)
        | refine m_isRow ?_ (fun q => ?_) (fun q => ?_)
        | refine m_isText ?_ (fun q => ?_) (fun q => ?_)
        | refine m_isWord ?_ (fun q => ?_) (fun q => ?_)
        | refine m_in ?_ ?_ ?_ (fun q => ?_) (fun q => ?_)
        | refine m_meets (by decide) ?_
        | refine m_needWord hW hY ?_ ?_ (fun q => ?_) (fun q => ?_) (fun q => ?_)
        | refine m_needTwo hW hY ?_ ?_ ?_ (fun q => ?_) (fun q => ?_) (fun q => ?_)
        | refine m_isThere ?_ ?_ ?_ (fun q => ?_) (fun q => ?_)
        | refine m_at0 ?_ ?_ ?_
        | refine m_rowAt ?_ ?_ ?_
        | refine m_markOf ?_ ?_ ?_ (fun q => ?_) (fun q => ?_) (fun q => ?_)
        | with_reducible refine ⟨?_, ?_⟩
        | with_reducible intro q
  have w0 : 0 ≤ w := by omega
  have w8 : w < 8 := by omega
  have v0 : 0 ≤ v := by omega
  have v8 : v < 8 := by omega
  by_cases c3 : S (30 + w) (-1) < 0 ∨ S (30 + v) (-1) < 0
  · refine ⟨-3, fS S 1, hW.fnd 1, fun M hX => eX11_rank ?_, fun M hY => eX12_rank ?_⟩
    · repeat' first
        | omega
        | exact px_rf hX _
        | exact px_fnd hX _ (by decide) (by decide)
        | refine c_noRow ?_ (fun q => ?_) (fun q => ?_)
        | refine c_noText ?_ (fun q => ?_) (fun q => ?_)
        | refine c_noWord ?_ (fun q => ?_) (fun q => ?_)
        | refine c_noLength ?_ (fun q => ?_) (fun q => ?_)
        | refine c_found (by decide) ?_
        | refine c_refuseRow hW hX ?_ (fun q => ?_) (fun q => ?_) (fun q => ?_)
        | refine c_refusePlace hW hX ?_ ?_ (fun q => ?_) (fun q => ?_) (fun q => ?_) (fun q => ?_)
        | refine c_refuseText hW hX ?_ (fun q => ?_) (fun q => ?_) (fun q => ?_)
        | refine c_refuseWords hW hX ?_ ?_ (fun q => ?_) (fun q => ?_) (fun q => ?_)
        | refine c_refuseWord hW hX ?_ (fun q => ?_) (fun q => ?_) (fun q => ?_)
        | refine c_has hL ?_ ?_ (fun q => ?_) (fun q => ?_)
        | refine c_isMissing hL ?_ (fun q => ?_) (fun q => ?_)
        | refine c_reaches hL ?_ ?_ (fun q => ?_) (fun q => ?_)
        | refine c_has hL2 ?_ ?_ (fun q => ?_) (fun q => ?_)
        | refine c_isMissing hL2 ?_ (fun q => ?_) (fun q => ?_)
        | refine c_reaches hL2 ?_ ?_ (fun q => ?_) (fun q => ?_)
        | refine c_is hWd ?_ ?_ (fun q => ?_) (fun q => ?_)
        | refine c_markOf hWd ?_ (fun q => ?_) (fun q => ?_)
        | with_reducible refine ⟨?_, ?_⟩
        | with_reducible intro q
    · repeat' first
        | omega
        | exact py_rf hY _
        | exact py_fnd hY _ (by decide) (by decide)
        | refine m_isRow ?_ (fun q => ?_) (fun q => ?_)
        | refine m_isText ?_ (fun q => ?_) (fun q => ?_)
        | refine m_isWord ?_ (fun q => ?_) (fun q => ?_)
        | refine m_in ?_ ?_ ?_ (fun q => ?_) (fun q => ?_)
        | refine m_meets (by decide) ?_
        | refine m_needWord hW hY ?_ ?_ (fun q => ?_) (fun q => ?_) (fun q => ?_)
        | refine m_needTwo hW hY ?_ ?_ ?_ (fun q => ?_) (fun q => ?_) (fun q => ?_)
        | refine m_isThere ?_ ?_ ?_ (fun q => ?_) (fun q => ?_)
        | refine m_at0 ?_ ?_ ?_
        | refine m_rowAt ?_ ?_ ?_
        | refine m_markOf ?_ ?_ ?_ (fun q => ?_) (fun q => ?_) (fun q => ?_)
        | with_reducible refine ⟨?_, ?_⟩
        | with_reducible intro q
  have bw := hW.wd w0 w8 (by omega)
  have bv := hW.wd v0 v8 (by omega)
  have n0 := bw.1
  have n1 := bw.2.1
  have k1 := bw.2.2.2.1
  have m0 := bv.1
  have m1 := bv.2.1
  have main : ∀ (ans : Int) (S2 : Mem), WF S2 → (stn (S (30 + w)) (S (30 + v)) (S (30 + w) (-1)) (S (30 + v) (-1)) → ans = 1 ∧ S2 = up S 0 2 (sm (rkT (S (30 + w)) (S (30 + v)) (S (30 + w) (-1)) (S (30 + v) (-1)) (S 0 0)) (S (30 + v) (-1)))) → (¬ stn (S (30 + w)) (S (30 + v)) (S (30 + w) (-1)) (S (30 + v) (-1)) → ans = -9 ∧ S2 = S) → OpOK S yX11_rank yX12_rank [Iv w, Iv v] Iv := by
    intro ans S2 hW2 hy hn
    refine ⟨ans, S2, hW2, fun M hX => eX11_rank ?_, fun M hY => eX12_rank ?_⟩
    · refine c_refuseWords hW hX hw hv (fun q => absurd q (by omega)) (fun q => absurd q (by omega)) (fun q => ⟨by decide, fun _ => ⟨w0, w8, c_inner (isW_word w0 w8).l (hX.ln w0 w8) bw (fun M2 o2 i2 => ⟨v0, v8, c_ahead (isW_word v0 v8).l i2 bw ((hX.ln v0 v8).off o2 (by omega)) bv (fun hs => ⟨by decide, fun q => absurd q (by decide), fun _ => ?_⟩) (fun hs => ?_)⟩)⟩, fun q => absurd rfl q⟩)
      · rw [(hn hs).1, (hn hs).2]
        exact ⟨rfl, o2.x hX (fun a a0 a1 => by unfold kX; omega), o2.fx (by decide) (by decide)⟩
      · have rb := rk_b bw bv m0 (Int.le_refl _) hs
        refine ⟨⟨by omega, by omega⟩, fun _ => ?_, fun q => absurd q (by omega)⟩
        rw [(hy hs).1, (hy hs).2]
        exact ⟨rfl, (o2.x hX (fun a a0 a1 => by unfold kX; omega)).scal 2 _ (by decide) (by decide), (o2.fx (by decide) (by decide)).up (by omega)⟩
    · have ek := hY.2.2.2.1.1
      refine m_needTwo hW hY (Or.inr rfl) hw hv (fun q => absurd q (by omega)) (fun q => absurd q (by omega)) (fun q => ⟨by decide, fun _ => m_layInner w0 w8 (hY.ln w0 w8) bw ek (fun M2 o2 c2 => ?_), fun q => absurd q (by decide)⟩)
      have lw := (hY.ln w0 w8).off o2 (by decide)
      have lv := (hY.ln v0 v8).off o2 (by decide)
      refine up_ind (P := fun j => stn (S (30 + w)) (S (30 + v)) (S (30 + w) (-1)) j → wp 0 yX12_rank 28 [some (Rv 88), some (Iv w), some (Iv v), some (Iv 0), some (Jv (sm (rkT (S (30 + w)) (S (30 + v)) (S (30 + w) (-1)) (S (30 + v) (-1)) (S 0 0)) j)), none, some (Iv (fr (S (30 + w)) (S (30 + v)) (S (30 + w) (-1)) j)), some (Iv j), none, none, none] [] M2 (PY S2 (Iv ans) M)) (a := 0) (n := S (30 + v) (-1)) m0 (fun hs => ?_) (fun j j0 j1 ih hs => ?_) (fun i i0 i1 => absurd i1 (by omega))
      · refine gX12_rank_28 ⟨v0, v8, ⟨by omega, by omega⟩, by rw [lv.1]; exact ⟨by omega, by omega⟩, fun _ => m_tellsMany ?_, fun q => absurd q (by rw [lv.1]; omega)⟩
        rw [(hy hs).1, (hy hs).2]
        exact ⟨rfl, (o2.y hY (by decide)).scal 2 3 _ (by decide), (o2.fy (by decide)).up (by omega)⟩
      · refine gX12_rank_28 ⟨v0, v8, ⟨by omega, by omega⟩, by rw [lv.1]; exact ⟨by omega, by omega⟩, fun q => absurd q (by rw [lv.1]; omega), fun _ => ?_⟩
        rw [lv.1]
        have fv := lv.2 j j0 j1
        have gv := bv.2.2.2.2 j j0 j1
        have fb := fr_b (W := S (30 + w)) (V := S (30 + v)) n0 j.toNat (fun i i0 i1 => hs i i0 (by omega))
        rw [show ((j.toNat : Nat) : Int) = j by omega] at fb
        have := up_ind (P := fun x => wp 0 yX12_rank 55 [some (Rv 88), some (Iv w), some (Iv v), some (Iv 0), some (Jv (sm (rkT (S (30 + w)) (S (30 + v)) (S (30 + w) (-1)) (S (30 + v) (-1)) (S 0 0)) j + sm (inT (S (30 + w)) (S (30 + w) (-1)) (S 0 0) (S (30 + v) (-1) - 1 - j) (fr (S (30 + w)) (S (30 + v)) (S (30 + w) (-1)) j)) x)), none, some (Iv (fr (S (30 + w)) (S (30 + v)) (S (30 + w) (-1)) j)), some (Iv j), some (Iv (S (30 + v) (-1) - 1 - j)), some (Iv x), none] [] M2 (PY S2 (Iv ans) M)) (a := 0) (n := S (30 + v) j) gv.1 ?_ (fun x x0 x1 ih2 => ?_)
        · rw [sm_0, Int.add_zero] at this
          exact this
        · refine gX12_rank_55 (m_at0 (by omega) (by omega) ?_)
          rw [fv]
          refine ⟨⟨by omega, by omega⟩, ⟨by omega, by omega⟩, fun _ => m_at0 (by omega) (by omega) ?_, fun q => absurd q (by omega)⟩
          rw [fv]
          have nb := nx_b (W := S (30 + w)) (n := S (30 + w) (-1)) (x := S (30 + v) j) fb.1
          refine m_nextW w0 w8 lw bw fb.1 (by omega) ⟨by omega, by omega⟩ ⟨⟨by omega, by omega⟩, fun q => ?_, fun q => ?_⟩
          · have := ih (fun t t0 t1 => by
              by_cases ct : t = j
              · rw [ct]; exact q
              · exact hs t t0 (by omega))
            rw [sm_s j0, fr_s j0] at this
            exact this
          · have hb : ¬ stn (S (30 + w)) (S (30 + v)) (S (30 + w) (-1)) (S (30 + v) (-1)) := fun hs2 => hs2 j j0 j1 q
            rw [(hn hb).1, (hn hb).2]
            exact ⟨rfl, o2.y hY (by decide), o2.fy (by decide)⟩
        · rw [sm_s x0, ← Int.add_assoc] at ih2
          refine gX12_rank_55 (m_at0 (by omega) (by omega) ?_)
          rw [fv]
          have nb := nx_b (W := S (30 + w)) (n := S (30 + w) (-1)) (x := x) fb.1
          refine ⟨⟨by omega, by omega⟩, ⟨by omega, by omega⟩, fun q => absurd q (by omega), fun _ => m_nextW w0 w8 lw bw fb.1 (by omega) ⟨by omega, by omega⟩ ⟨⟨by omega, by omega⟩, fun q => ⟨by omega, by omega, ?_⟩, fun q => ?_⟩⟩
          · rw [c2 _ _ (by omega) (by omega) (by omega) (by omega)]
            unfold inT at ih2
            rw [if_neg q] at ih2
            exact ih2
          · unfold inT at ih2
            rw [if_pos q] at ih2
            exact ih2
  by_cases hs : stn (S (30 + w)) (S (30 + v)) (S (30 + w) (-1)) (S (30 + v) (-1))
  · exact main 1 _ (hW.scal 2 _ (by decide)) (fun _ => ⟨rfl, rfl⟩) (fun q => absurd hs q)
  · exact main (-9) _ hW (fun q => absurd q hs) (fun _ => ⟨rfl, rfl⟩)
/-! the first letter that will do -/
def fdN (p : Int → Bool) : Nat → Int → Int
  | 0, c => c
  | m + 1, c => if p c = true then c else fdN p m (c + 1)
def fd (p : Int → Bool) (c : Int) : Int := fdN p (6 - c).toNat c
theorem fd_y {p : Int → Bool} {c : Int} (h : p c = true) : fd p c = c := by
  unfold fd
  cases hm : (6 - c).toNat with
  | zero => rfl
  | succ m => show (if p c = true then c else fdN p m (c + 1)) = c; rw [if_pos h]
theorem fd_n {p : Int → Bool} {c : Int} (h6 : c < 6) (h : ¬ p c = true) : fd p c = fd p (c + 1) := by
  unfold fd
  rw [show (6 - c).toNat = (6 - (c + 1)).toNat + 1 by omega]
  show (if p c = true then c else fdN p _ (c + 1)) = _
  rw [if_neg h]
theorem fd_sp {p : Int → Bool} {a e : Int} (h0 : a ≤ e) (h6 : e < 6) (he : p e = true) : a ≤ fd p a ∧ fd p a ≤ e ∧ p (fd p a) = true ∧ ∀ x, a ≤ x → x < fd p a → ¬ p x = true := by
  refine up_ind (P := fun a => a ≤ fd p a ∧ fd p a ≤ e ∧ p (fd p a) = true ∧ ∀ x, a ≤ x → x < fd p a → ¬ p x = true) (a := a) (n := e) h0 ?_ (fun y y0 y1 ih => ?_)
  · show e ≤ fd p e ∧ fd p e ≤ e ∧ p (fd p e) = true ∧ ∀ x, e ≤ x → x < fd p e → ¬ p x = true
    rw [fd_y he]
    exact ⟨Int.le_refl _, Int.le_refl _, he, fun x x0 x1 => absurd x1 (by omega)⟩
  · show y ≤ fd p y ∧ fd p y ≤ e ∧ p (fd p y) = true ∧ ∀ x, y ≤ x → x < fd p y → ¬ p x = true
    by_cases c : p y = true
    · rw [fd_y c]
      exact ⟨Int.le_refl _, by omega, c, fun x x0 x1 => absurd x1 (by omega)⟩
    · rw [fd_n (by omega) c]
      refine ⟨by omega, ih.2.1, ih.2.2.1, fun x x0 x1 => ?_⟩
      by_cases q : x = y
      · rw [q]; exact c
      · exact ih.2.2.2 x (by omega) x1
/-! 30 byRank -/
def pkC (W : Int → Int) (n k l left i : Int) : Int := fd (fun c => decide (left < sm (inT W n k l i) (c + 1))) 0
def pkS (W : Int → Int) (n k m r : Int) : Nat → Int × Int
  | 0 => (r, 0)
  | j + 1 => ((pkS W n k m r j).1 - sm (inT W n k (m - 1 - j) (pkS W n k m r j).2) (pkC W n k (m - 1 - j) (pkS W n k m r j).1 (pkS W n k m r j).2), nx W n (pkS W n k m r j).2 (pkC W n k (m - 1 - j) (pkS W n k m r j).1 (pkS W n k m r j).2) + 1)
def pkL (W : Int → Int) (n k m r j : Int) : Int := (pkS W n k m r j.toNat).1
def pkI (W : Int → Int) (n k m r j : Int) : Int := (pkS W n k m r j.toNat).2
def pkX (W : Int → Int) (n k m r j : Int) : Int := pkC W n k (m - 1 - j) (pkL W n k m r j) (pkI W n k m r j)
theorem pkL_s {W : Int → Int} {n k m r j : Int} (h : 0 ≤ j) : pkL W n k m r (j + 1) = pkL W n k m r j - sm (inT W n k (m - 1 - j) (pkI W n k m r j)) (pkX W n k m r j) := by
  unfold pkX pkL pkI
  rw [show (j + 1).toNat = j.toNat + 1 by omega]
  show (pkS W n k m r j.toNat).1 - sm (inT W n k (m - 1 - (j.toNat : Int)) _) (pkC W n k (m - 1 - (j.toNat : Int)) _ _) = _
  rw [show ((j.toNat : Nat) : Int) = j by omega]
theorem pkI_s {W : Int → Int} {n k m r j : Int} (h : 0 ≤ j) : pkI W n k m r (j + 1) = nx W n (pkI W n k m r j) (pkX W n k m r j) + 1 := by
  unfold pkX pkL pkI
  rw [show (j + 1).toNat = j.toNat + 1 by omega]
  show nx W n _ (pkC W n k (m - 1 - (j.toNat : Int)) _ _) + 1 = _
  rw [show ((j.toNat : Nat) : Int) = j by omega]
theorem pk_step {W : Int → Int} {n k l left i : Int} (b : wdB n W k) (l0 : 0 ≤ l) (i0 : 0 ≤ i) (h0 : 0 ≤ left) (h1 : left < nn W n k (l + 1) i) : 0 ≤ pkC W n k l left i ∧ pkC W n k l left i < k ∧ sm (inT W n k l i) (pkC W n k l left i) ≤ left ∧ left < sm (inT W n k l i) (pkC W n k l left i + 1) ∧ nx W n i (pkC W n k l left i) ≠ -9 := by
  have k0 := b.2.2.1
  have k1 := b.2.2.2.1
  rw [nn_s l0] at h1
  have sp := fd_sp (p := fun c => decide (left < sm (inT W n k l i) (c + 1))) (a := 0) (e := k - 1) (by omega) (by omega) (by rw [show k - 1 + 1 = k by omega]; exact decide_eq_true h1)
  have e : pkC W n k l left i = fd (fun c => decide (left < sm (inT W n k l i) (c + 1))) 0 := rfl
  rw [← e] at sp
  obtain ⟨s0, s1, s2, s3⟩ := sp
  have s2' : left < sm (inT W n k l i) (pkC W n k l left i + 1) := of_decide_eq_true s2
  have s4 : sm (inT W n k l i) (pkC W n k l left i) ≤ left := by
    by_cases c : pkC W n k l left i = 0
    · rw [c, sm_0]; exact h0
    · have := s3 (pkC W n k l left i - 1) (by omega) (by omega)
      rw [show pkC W n k l left i - 1 + 1 = pkC W n k l left i by omega] at this
      have h9 : ¬ (left < sm (inT W n k l i) (pkC W n k l left i)) := fun q => this (decide_eq_true q)
      omega
  refine ⟨s0, by omega, s4, s2', fun q => ?_⟩
  rw [sm_s s0] at s2'
  unfold inT at s2' s4
  rw [if_pos q] at s2'
  omega
theorem pk_inv {W : Int → Int} {n k m r : Int} (b : wdB n W k) (r0 : 0 ≤ r) (hr : r < nn W n k m 0) : ∀ j : Nat, (j : Int) ≤ m → 0 ≤ pkL W n k m r j ∧ pkL W n k m r j < nn W n k (m - j) (pkI W n k m r j) ∧ 0 ≤ pkI W n k m r j ∧ pkI W n k m r j ≤ n := by
  intro j
  induction j with
  | zero =>
    intro _
    show 0 ≤ r ∧ r < nn W n k (m - 0) 0 ∧ (0 : Int) ≤ 0 ∧ 0 ≤ n
    rw [Int.sub_zero]
    exact ⟨r0, hr, Int.le_refl _, b.1⟩
  | succ j ih =>
    intro hj
    obtain ⟨a1, a2, a3, a4⟩ := ih (by omega)
    rw [show m - (j : Int) = m - 1 - j + 1 by omega] at a2
    obtain ⟨b1, b2, b3, b4, b5⟩ := pk_step b (show 0 ≤ m - 1 - (j : Int) by omega) a3 a1 a2
    have b5' := b5
    rcases nx_b (W := W) (n := n) (x := pkC W n k (m - 1 - j) (pkL W n k m r j) (pkI W n k m r j)) a3 with q | q
    · exact absurd q b5
    · rw [sm_s b1] at b4
      unfold inT at b4
      rw [if_neg b5] at b4
      rw [show ((j + 1 : Nat) : Int) = (j : Int) + 1 by omega, pkL_s (by omega), pkI_s (by omega)]
      unfold pkX
      rw [show m - ((j : Int) + 1) = m - 1 - j by omega]
      unfold inT at b3 ⊢
      exact ⟨by omega, by omega, by omega, by omega⟩
