/-! 38 both -/
def shN (W V : Int → Int) (n m : Int) : Nat → Int → Int → Int
  | 0, _, _ => 0
  | f + 1, i, j => 1 + sm (fun x => if bh W n i x = 0 ∨ bh V m j x = 0 then 0 else shN W V n m f (bh W n i x) (bh V m j x)) 6
def sh (W V : Int → Int) (n m i j : Int) : Int := shN W V n m 42 i j
def shT (W V : Int → Int) (n m i j x : Int) : Int := if bh W n i x = 0 ∨ bh V m j x = 0 then 0 else sh W V n m (bh W n i x) (bh V m j x)
theorem shN_f {W V : Int → Int} {n m : Int} : ∀ (f : Nat) (i j : Int), 0 ≤ i → i ≤ n → n - i + 1 ≤ f → shN W V n m (f + 1) i j = shN W V n m f i j := by
  intro f
  induction f with
  | zero => intro i j i0 i1 h; exact absurd h (by omega)
  | succ f ih =>
    intro i j i0 i1 h
    show 1 + sm (fun x => if bh W n i x = 0 ∨ bh V m j x = 0 then 0 else shN W V n m (f + 1) (bh W n i x) (bh V m j x)) 6 = 1 + sm (fun x => if bh W n i x = 0 ∨ bh V m j x = 0 then 0 else shN W V n m f (bh W n i x) (bh V m j x)) 6
    rw [sm_cg (g := fun x => if bh W n i x = 0 ∨ bh V m j x = 0 then 0 else shN W V n m f (bh W n i x) (bh V m j x)) (by decide) (fun x _ _ => by
      by_cases c : bh W n i x = 0 ∨ bh V m j x = 0
      · rw [if_pos c, if_pos c]
      · rw [if_neg c, if_neg c]
        have := bh_b (W := W) (n := n) (c := x) i0
        exact ih _ _ (by omega) (by omega) (by omega))]
theorem sh_s {W V : Int → Int} {n m i j : Int} (n1 : n ≤ 40) (i0 : 0 ≤ i) (i1 : i ≤ n) : sh W V n m i j = 1 + sm (shT W V n m i j) 6 := by
  show 1 + sm (fun x => if bh W n i x = 0 ∨ bh V m j x = 0 then 0 else shN W V n m 41 (bh W n i x) (bh V m j x)) 6 = _
  rw [sm_cg (g := shT W V n m i j) (by decide) (fun x _ _ => by
    unfold shT
    by_cases c : bh W n i x = 0 ∨ bh V m j x = 0
    · rw [if_pos c, if_pos c]
    · rw [if_neg c, if_neg c]
      have := bh_b (W := W) (n := n) (c := x) i0
      exact (shN_f 41 _ _ (by omega) (by omega) (by omega)).symm)]
def rch (W V : Int → Int) (i j : Int) : Prop := (i = 0 ∧ j = 0) ∨ (0 < i ∧ 0 < j ∧ W (i - 1) = V (j - 1))
theorem bh_v {W : Int → Int} {n i c : Int} (i0 : 0 ≤ i) (h : bh W n i c ≠ 0) : W (bh W n i c - 1) = c := by
  have hz : nx W n i c ≠ -9 := fun q => h ((bh_z i0).2 q)
  rcases nx_b (W := W) (n := n) (x := c) i0 with q | q
  · exact absurd q hz
  · unfold bh
    rw [if_neg hz, show nx W n i c + 1 - 1 = nx W n i c by omega]
    exact q.2.2
theorem bh_k {W : Int → Int} {n k i c : Int} (b : wdB n W k) (i0 : 0 ≤ i) (h : k ≤ c) : bh W n i c = 0 := by
  refine (bh_z i0).2 ?_
  rcases nx_b (W := W) (n := n) (x := c) i0 with q | q
  · exact q
  · have := b.2.2.2.2 _ (show 0 ≤ nx W n i c by omega) q.2.1
    omega
theorem c_isReached {M : Mem} {a1 a2 i j n m k : Int} {W V : Int → Int} {Q : Vl → Mem → Prop} (h1 : isL a1 40) (h2 : isL a2 40) (l1 : lnX M a1 n W) (l2 : lnX M a2 m V) (b1 : wdB n W k) (b2 : wdB m V k) (i0 : 0 ≤ i) (i1 : i ≤ n) (j0 : 0 ≤ j) (j1 : j ≤ m) (hn : ¬ rch W V i j → Q (Iv 0) M) (hy : rch W V i j → Q (Iv 1) M) : cl 0 yX4_isReached [Rv a1, Iv i, Rv a2, Iv j] M Q := by
  obtain ⟨n0, n1, k0, k1, hw⟩ := b1
  obtain ⟨m0, m1, -, -, hv⟩ := b2
  refine eX4_isReached h1 h2 ⟨⟨by omega, by omega⟩, fun q => ⟨Or.inr ⟨⟨by omega, by omega⟩, ⟨by omega, by omega⟩⟩, fun q2 => hn (fun q3 => ?_), fun q2 => hy (Or.inl ⟨q, by omega⟩)⟩, fun q => ⟨⟨by omega, by omega⟩, fun q2 => ?_, fun q2 => ⟨fun q3 => hn (fun q4 => ?_), fun q3 => absurd q3 (by omega)⟩⟩⟩
  · unfold rch at q3; omega
  · have f1 := l1.2 (i - 1) (by omega) (by omega)
    have f2 := l2.2 (j - 1) (by omega) (by omega)
    have g1 := hw (i - 1) (by omega) (by omega)
    have g2 := hv (j - 1) (by omega) (by omega)
    refine ⟨by omega, by omega, ⟨by omega, by omega⟩, by omega, by omega, ⟨by omega, by omega⟩, Or.inr ⟨⟨by omega, by omega⟩, ⟨by omega, by omega⟩⟩, fun q3 => hn (fun q4 => ?_), fun q3 => hy (Or.inr ⟨by omega, by omega, by rw [← f1, ← f2]; exact q3⟩)⟩
    unfold rch at q4
    omega
  · unfold rch at q4; omega
theorem c_countShared {M : Mem} {a1 a2 n m k : Int} {W V : Int → Int} {Q : Vl → Mem → Prop} (h1 : isL a1 40) (h2 : isL a2 40) (l1 : lnX M a1 n W) (l2 : lnX M a2 m V) (b1 : wdB n W k) (b2 : wdB m V k) (hq : ∀ M2, off 79 87 M M2 → Q (Jv (sh W V n m 0 0)) M2) : cl 0 yX4_countShared [Rv 83, Rv a1, Rv a2] M Q := by
  have ha1 := h1.1
  have ha1' := h1.2.1
  have ha2 := h2.1
  have ha2' := h2.2.1
  have n0 := b1.1
  have n1 := b1.2.1
  have m0 := b2.1
  have m1 := b2.2.1
  refine eX4_countShared h1 h2 (c_steps isS_84 h1 l1 b1 (by omega) (fun M1 o1 s1 => ?_))
  have o1' : off 79 87 M M1 := o1.wd (by decide) (by decide)
  refine c_steps isS_86 h2 (l2.off o1' (by omega)) b2 (by omega) (fun M2 o2 s2 => ?_)
  have o2' : off 79 87 M M2 := o1'.tr (o2.wd (by decide) (by decide))
  have s1' : stp M2 (84 + 1) W n := s1.off o2 (by decide)
  show wp 0 yX4_countShared 21 _ _ _ _
  rw [(l1.off o2' (by omega)).1]
  refine dn_ind (P := fun i => ∀ M3, off 79 79 M2 M3 → (∀ i' j', i < i' → i' ≤ n → 0 ≤ j' → j' ≤ m → rch W V i' j' → M3 79 (i' * 41 + j') = sh W V n m i' j') → wp 0 yX4_countShared 21 [some (Rv 83), some (Rv a1), some (Rv a2), some (Iv i), none] [] M3 Q) (a := -1) (n := n) (by omega) (fun M3 o3 c3 => ?_) (fun i i0 i1 ih M3 o3 c3 => ?_) M2 off.rf (fun i' j' q1 q2 => absurd q2 (by omega))
  · refine gX4_countShared_21 h1 h2 ⟨by decide, fun _ => ?_, fun q => absurd q (by decide)⟩
    have := c3 0 0 (by decide) n0 (by decide) m0 (Or.inl ⟨rfl, rfl⟩)
    rw [show (0 : Int) * 41 + 0 = 0 by decide] at this
    rw [this]
    exact hq M3 (o2'.tr (o3.wd (by decide) (by decide)))
  · refine gX4_countShared_21 h1 h2 ⟨⟨by omega, by omega⟩, fun q => absurd q (by omega), fun _ => ?_⟩
    have o3' : off 79 87 M M3 := o2'.tr (o3.wd (by decide) (by decide))
    rw [(l2.off o3' (by omega)).1]
    refine dn_ind (P := fun j => ∀ M4, off 79 79 M2 M4 → (∀ i' j', i ≤ i' → i' ≤ n → 0 ≤ j' → j' ≤ m → (i < i' ∨ j < j') → rch W V i' j' → M4 79 (i' * 41 + j') = sh W V n m i' j') → wp 0 yX4_countShared 31 [some (Rv 83), some (Rv a1), some (Rv a2), some (Iv i), some (Iv j)] [] M4 Q) (a := -1) (n := m) (by omega) (fun M4 o4 c4 => ?_) (fun j j0 j1 ih2 M4 o4 c4 => ?_) M3 o3 (fun i' j' q1 q2 q3 q4 q5 q6 => c3 i' j' (by omega) q2 q3 q4 q6)
    · exact gX4_countShared_31 h1 h2 ⟨by decide, fun _ => ih M4 o4 (fun i' j' q1 q2 q3 q4 q5 => c4 i' j' (by omega) q2 q3 q4 (by omega) q5), fun q => absurd q (by decide)⟩
    · have o4' : off 79 87 M M4 := o2'.tr (o4.wd (by decide) (by decide))
      refine gX4_countShared_31 h1 h2 ⟨⟨by omega, by omega⟩, fun q => absurd q (by omega), fun _ => c_isReached h1 h2 (l1.off o4' (by omega)) (l2.off o4' (by omega)) b1 b2 (by omega) i1 (by omega) j1 (fun hr => ⟨fun _ => ih2 M4 o4 (fun i' j' q1 q2 q3 q4 q5 q6 => ?_), fun q => absurd rfl q⟩) (fun hr => ⟨fun q => absurd q (by decide), fun _ => eX4_sharedFrom ?_⟩)⟩
      · by_cases c : i' = i ∧ j' = j
        · rw [c.1, c.2] at q6
          exact absurd q6 hr
        · exact c4 i' j' q1 q2 q3 q4 (by omega) q6
      · refine up_ind (P := fun x => wp 0 yX4_sharedFrom 5 [some (Rv 83), some (Iv i), some (Iv j), some (Jv (1 + sm (shT W V n m i j) x)), none, some (Iv x), none, none] [] M4 _) (a := 0) (n := 6) (by decide) ?_ (fun x x0 x1 ih3 => ?_)
        · refine gX4_sharedFrom_5 ⟨by decide, fun _ => ⟨by omega, by omega, ih2 _ (o4.upd (by decide) (by decide)) (fun i' j' q1 q2 q3 q4 q5 q6 => ?_)⟩, fun q => absurd q (by decide)⟩
          rw [up_at]
          by_cases c : i' = i ∧ j' = j
          · rw [if_pos (by omega), c.1, c.2, sh_s n1 (by omega) i1]
          · rw [if_neg (by omega)]
            exact c4 i' j' q1 q2 q3 q4 (by omega) q6
        · rw [sm_s x0, ← Int.add_assoc] at ih3
          have hb1 := bh_b (W := W) (n := n) (c := x) (show 0 ≤ i by omega)
          have hb2 := bh_b (W := V) (n := m) (c := x) (show 0 ≤ j by omega)
          refine gX4_sharedFrom_5 ⟨⟨by omega, by omega⟩, fun q => absurd q (by omega), fun _ => c_behind isS_84 (s1'.off o4 (by decide)) n1 (by omega) i1 x0 x1 (c_behind isS_86 (s2.off o4 (by decide)) m1 (by omega) j1 x0 x1 ⟨⟨by omega, by omega⟩, fun q => ?_, fun q => ⟨⟨by omega, by omega⟩, fun q2 => ?_, fun q2 => ⟨by omega, by omega, ?_⟩⟩⟩)⟩
          · unfold shT at ih3
            rw [if_pos (Or.inl q), Int.add_zero] at ih3
            exact ih3
          · unfold shT at ih3
            rw [if_pos (Or.inr q2), Int.add_zero] at ih3
            exact ih3
          · unfold shT at ih3
            rw [if_neg (by omega)] at ih3
            rw [c4 _ _ (by omega) (by omega) (by omega) (by omega) (by omega) (Or.inr ⟨by omega, by omega, by rw [bh_v (by omega) q, bh_v (by omega) q2]⟩)]
            exact ih3
theorem op_both {S : Mem} (hW : WF S) {w v : Int} (hw : inr w) (hv : inr v) : OpOK S yX11_both yX12_both [Iv w, Iv v] Iv := by
  by_cases c1 : (w < 0 ∨ 8 ≤ w) ∨ (v < 0 ∨ 8 ≤ v)
  · refine ⟨-1, S, hW, fun M hX => eX11_both ?_, fun M hY => eX12_both ?_⟩
    · repeat' first
        | omega
        | exact px_rf hX _
        | exact px_fnd hX _ (by decide) (by decide)
        | refine c_noRow ?_ (fun q => ?_) (fun q => ?_)
        | refine c_noText ?_ (fun q => ?_) (fun q => ?_)
        | refine c_noWord ?_ (fun q => ?_) (fun q => ?_)
        | refine c_noLength ?_ (fun q => ?_) (fun q => ?_)
        | refine c_found (by decide) ?_
        | refine c_refuseRow hW hX ?_ (fun q => ?_) (fun q => ?_) (fun q => ?_)
        | refine c_refusePlace hW hX ?_ ?_ (fun q => ?_) (fun q => ?_) (fun q => ?_) (fun q => ?_)
        | refine c_refuseText hW hX ?_ (fun q => ?_) (fun q => ?_) (fun q => ?_)
        | refine c_refuseWords hW hX ?_ ?_ (fun q => ?_) (fun q => ?_) (fun q => ?_)
        | refine c_refuseWord hW hX ?_ (fun q => ?_) (fun q => ?_) (fun q => ?_)
        | refine c_has hL ?_ ?_ (fun q => ?_) (fun q => ?_)
        | refine c_isMissing hL ?_ (fun q => ?_) (fun q => ?_)
        | refine c_reaches hL ?_ ?_ (fun q => ?_) (fun q => ?_)
        | refine c_has hL2 ?_ ?_ (fun q => ?_) (fun q => ?_)
        | refine c_isMissing hL2 ?_ (fun q => ?_) (fun q => ?_)
        | refine c_reaches hL2 ?_ ?_ (fun q => ?_) (fun q => ?_)
        | refine c_is hWd ?_ ?_ (fun q => ?_) (fun q => ?_)
        | refine c_markOf hWd ?_ (fun q => ?_) (fun q => ?_)
        | with_reducible refine ⟨?_, ?_⟩
        | with_reducible intro q
    · repeat' first
        | omega
        | exact py_rf hY _
        | exact py_fnd hY _ (by decide) (by decide)
        | refine m_isRow ?_ (fun q => ?_) (fun q => ?_)
        | refine m_isText ?_ (fun q => ?_) (fun q => ?_)
        | refine m_isWord ?_ (fun q => ?_) (fun q => ?_)
        | refine m_in ?_ ?_ ?_ (fun q => ?_) (fun q => ?_)
        | refine m_meets (by decide) ?_
        | refine m_needWord hW hY ?_ ?_ (fun q => ?_) (fun q => ?_) (fun q => ?_)
        | refine m_needTwo hW hY ?_ ?_ ?_ (fun q => ?_) (fun q => ?_) (fun q => ?_)
        | refine m_isThere ?_ ?_ ?_ (fun q => ?_) (fun q => ?_)
        | refine m_at0 ?_ ?_ ?_
        | refine m_rowAt ?_ ?_ ?_
        | refine m_markOf ?_ ?_ ?_ (fun q => ?_) (fun q => ?_) (fun q => ?_)
        | with_reducible refine ⟨?_, ?_⟩
        | with_reducible intro q
  have w0 : 0 ≤ w := by omega
  have w8 : w < 8 := by omega
  have v0 : 0 ≤ v := by omega
  have v8 : v < 8 := by omega
  by_cases c3 : S (30 + w) (-1) < 0 ∨ S (30 + v) (-1) < 0
  · refine ⟨-3, fS S 1, hW.fnd 1, fun M hX => eX11_both ?_, fun M hY => eX12_both ?_⟩
    · repeat' first
        | omega
        | exact px_rf hX _
        | exact px_fnd hX _ (by decide) (by decide)
        | refine c_noRow ?_ (fun q => ?_) (fun q => ?_)
        | refine c_noText ?_ (fun q => ?_) (fun q => ?_)
        | refine c_noWord ?_ (fun q => ?_) (fun q => ?_)
        | refine c_noLength ?_ (fun q => ?_) (fun q => ?_)
        | refine c_found (by decide) ?_
        | refine c_refuseRow hW hX ?_ (fun q => ?_) (fun q => ?_) (fun q => ?_)
        | refine c_refusePlace hW hX ?_ ?_ (fun q => ?_) (fun q => ?_) (fun q => ?_) (fun q => ?_)
        | refine c_refuseText hW hX ?_ (fun q => ?_) (fun q => ?_) (fun q => ?_)
        | refine c_refuseWords hW hX ?_ ?_ (fun q => ?_) (fun q => ?_) (fun q => ?_)
        | refine c_refuseWord hW hX ?_ (fun q => ?_) (fun q => ?_) (fun q => ?_)
        | refine c_has hL ?_ ?_ (fun q => ?_) (fun q => ?_)
        | refine c_isMissing hL ?_ (fun q => ?_) (fun q => ?_)
        | refine c_reaches hL ?_ ?_ (fun q => ?_) (fun q => ?_)
        | refine c_has hL2 ?_ ?_ (fun q => ?_) (fun q => ?_)
        | refine c_isMissing hL2 ?_ (fun q => ?_) (fun q => ?_)
        | refine c_reaches hL2 ?_ ?_ (fun q => ?_) (fun q => ?_)
        | refine c_is hWd ?_ ?_ (fun q => ?_) (fun q => ?_)
        | refine c_markOf hWd ?_ (fun q => ?_) (fun q => ?_)
        | with_reducible refine ⟨?_, ?_⟩
        | with_reducible intro q
    · repeat' first
        | omega
        | exact py_rf hY _
        | exact py_fnd hY _ (by decide) (by decide)
        | refine m_isRow ?_ (fun q => ?_) (fun q => ?_)
        | refine m_isText ?_ (fun q => ?_) (fun q => ?_)
        | refine m_isWord ?_ (fun q => ?_) (fun q => ?_)
        | refine m_in ?_ ?_ ?_ (fun q => ?_) (fun q => ?_)
        | refine m_meets (by decide) ?_
        | refine m_needWord hW hY ?_ ?_ (fun q => ?_) (fun q => ?_) (fun q => ?_)
        | refine m_needTwo hW hY ?_ ?_ ?_ (fun q => ?_) (fun q => ?_) (fun q => ?_)
        | refine m_isThere ?_ ?_ ?_ (fun q => ?_) (fun q => ?_)
        | refine m_at0 ?_ ?_ ?_
        | refine m_rowAt ?_ ?_ ?_
        | refine m_markOf ?_ ?_ ?_ (fun q => ?_) (fun q => ?_) (fun q => ?_)
        | with_reducible refine ⟨?_, ?_⟩
        | with_reducible intro q
  have bw := hW.wd w0 w8 (by omega)
  have bv := hW.wd v0 v8 (by omega)
  have n0 := bw.1
  have n1 := bw.2.1
  have k0 := bw.2.2.1
  have k1 := bw.2.2.2.1
  have m0 := bv.1
  have m1 := bv.2.1
  refine ⟨1, up S 0 2 (sh (S (30 + w)) (S (30 + v)) (S (30 + w) (-1)) (S (30 + v) (-1)) 0 0), hW.scal 2 _ (by decide), fun M hX => eX11_both ?_, fun M hY => eX12_both ?_⟩
  · exact c_refuseWords hW hX hw hv (fun q => absurd q (by omega)) (fun q => absurd q (by omega)) (fun q => ⟨by decide, fun _ => ⟨w0, w8, v0, v8, c_countShared (isW_word w0 w8).l (isW_word v0 v8).l (hX.ln w0 w8) (hX.ln v0 v8) bw bv (fun M2 o2 => ⟨rfl, (o2.x hX (fun a a0 a1 => by unfold kX; omega)).scal 2 _ (by decide) (by decide), (o2.fx (by decide) (by decide)).up (by omega)⟩)⟩, fun q => absurd rfl q⟩)
  · have ek := hY.2.2.2.1.1
    refine m_needTwo hW hY (Or.inr rfl) hw hv (fun q => absurd q (by omega)) (fun q => absurd q (by omega)) (fun q => ⟨by decide, fun _ => ⟨w0, w8, ?_⟩, fun q => absurd q (by decide)⟩)
    rw [(hY.ln w0 w8).1]
    refine dn_ind (P := fun i => ∀ M3, off 116 116 M M3 → (∀ i' j', i < i' → i' ≤ S (30 + w) (-1) → 0 ≤ j' → j' ≤ S (30 + v) (-1) → M3 116 (41 * i' + j') = sh (S (30 + w)) (S (30 + v)) (S (30 + w) (-1)) (S (30 + v) (-1)) i' j') → wp 0 yX12_both 22 [some (Rv 88), some (Iv w), some (Iv v), some (Iv 0), some (Iv i), none, none, none, none] [] M3 _) (a := -1) (n := S (30 + w) (-1)) (by omega) (fun M3 o3 c3 => ?_) (fun i i0 i1 ih M3 o3 c3 => ?_) M off.rf (fun i' j' q1 q2 => absurd q2 (by omega))
    · refine gX12_both_22 ⟨by decide, fun _ => m_tellsMany ?_, fun q => absurd q (by decide)⟩
      have := c3 0 0 (by decide) n0 (by decide) m0
      rw [show (41 : Int) * 0 + 0 = 0 by decide] at this
      rw [this]
      exact ⟨rfl, (o3.y hY (by decide)).scal 2 3 _ (by decide), (o3.fy (by decide)).up (by omega)⟩
    · refine gX12_both_22 ⟨⟨by omega, by omega⟩, fun q => absurd q (by omega), fun _ => ⟨v0, v8, ?_⟩⟩
      rw [((hY.ln v0 v8).off o3 (by decide)).1]
      refine dn_ind (P := fun j => ∀ M4, off 116 116 M M4 → (∀ i' j', i ≤ i' → i' ≤ S (30 + w) (-1) → 0 ≤ j' → j' ≤ S (30 + v) (-1) → (i < i' ∨ j < j') → M4 116 (41 * i' + j') = sh (S (30 + w)) (S (30 + v)) (S (30 + w) (-1)) (S (30 + v) (-1)) i' j') → wp 0 yX12_both 35 [some (Rv 88), some (Iv w), some (Iv v), some (Iv 0), some (Iv i), some (Iv j), none, none, none] [] M4 _) (a := -1) (n := S (30 + v) (-1)) (by omega) (fun M4 o4 c4 => ?_) (fun j j0 j1 ih2 M4 o4 c4 => ?_) M3 o3 (fun i' j' q1 q2 q3 q4 q5 => c3 i' j' (by omega) q2 q3 q4)
      · exact gX12_both_35 ⟨by decide, fun _ => ih M4 o4 (fun i' j' q1 q2 q3 q4 => c4 i' j' (by omega) q2 q3 q4 (by omega)), fun q => absurd q (by decide)⟩
      · refine gX12_both_35 ⟨⟨by omega, by omega⟩, fun q => absurd q (by omega), fun _ => ⟨by omega, by omega, ?_⟩⟩
        refine up_ind (P := fun x => ∀ M5, off 116 116 M M5 → (∀ i' j', i ≤ i' → i' ≤ S (30 + w) (-1) → 0 ≤ j' → j' ≤ S (30 + v) (-1) → (i < i' ∨ j < j') → M5 116 (41 * i' + j') = sh (S (30 + w)) (S (30 + v)) (S (30 + w) (-1)) (S (30 + v) (-1)) i' j') → M5 116 (41 * i + j) = 1 + sm (shT (S (30 + w)) (S (30 + v)) (S (30 + w) (-1)) (S (30 + v) (-1)) i j) x → wp 0 yX12_both 57 [some (Rv 88), some (Iv w), some (Iv v), some (Iv 0), some (Iv i), some (Iv j), some (Iv x), none, none] [] M5 _) (a := 0) (n := S 0 0) (by omega) (fun M5 o5 c5 d5 => ?_) (fun x x0 x1 ih3 M5 o5 c5 d5 => ?_) _ (o4.upd (by decide) (by decide)) (fun i' j' q1 q2 q3 q4 q5 => by rw [up_ln (by omega)]; exact c4 i' j' q1 q2 q3 q4 q5) (by rw [up_at, if_pos rfl, sm_0, Int.add_zero])
        · have ek5 : M5 88 11 = S 0 0 := by rw [o5 88 (by omega)]; exact ek
          refine gX12_both_57 ⟨⟨by omega, by omega⟩, ⟨by omega, by omega⟩, fun _ => ih2 M5 o5 (fun i' j' q1 q2 q3 q4 q5 => ?_), fun q => absurd q (by omega)⟩
          by_cases c : i' = i ∧ j' = j
          · rw [c.1, c.2, d5, sh_s n1 (by omega) i1, sm_tl (show (0 : Int) ≤ S 0 0 by omega) k1 (fun x x0 x1 => by unfold shT; rw [if_pos (Or.inl (bh_k bw (by omega) x0))])]
          · exact c5 i' j' q1 q2 q3 q4 (by omega)
        · have ek5 : M5 88 11 = S 0 0 := by rw [o5 88 (by omega)]; exact ek
          have nb1 := nx_b (W := S (30 + w)) (n := S (30 + w) (-1)) (x := x) (show 0 ≤ i by omega)
          have nb2 := nx_b (W := S (30 + v)) (n := S (30 + v) (-1)) (x := x) (show 0 ≤ j by omega)
          have fin : ∀ z, z = shT (S (30 + w)) (S (30 + v)) (S (30 + w) (-1)) (S (30 + v) (-1)) i j x → wp 0 yX12_both 57 [some (Rv 88), some (Iv w), some (Iv v), some (Iv 0), some (Iv i), some (Iv j), some (Iv (x + 1)), none, none] [] (up M5 116 ((41 * i) + j) ((M5 116 ((41 * i) + j)) + z)) (PY (up S 0 2 (sh (S (30 + w)) (S (30 + v)) (S (30 + w) (-1)) (S (30 + v) (-1)) 0 0)) (Iv 1) M) := by
            intro z hz
            refine ih3 _ (o5.upd (by decide) (by decide)) (fun i' j' q1 q2 q3 q4 q5 => by rw [up_ln (by omega)]; exact c5 i' j' q1 q2 q3 q4 q5) ?_
            rw [up_at, if_pos rfl, d5, sm_s x0, hz, Int.add_assoc]
          refine gX12_both_57 ⟨⟨by omega, by omega⟩, ⟨by omega, by omega⟩, fun q => absurd q (by omega), fun _ => m_nextW w0 w8 ((hY.ln w0 w8).off o5 (by decide)) bw (by omega) (by omega) ⟨by omega, by omega⟩ (m_nextW v0 v8 ((hY.ln v0 v8).off o5 (by decide)) bv (by omega) (by omega) ⟨by omega, by omega⟩ ⟨by omega, by omega, ⟨by omega, by omega⟩, fun q => fin _ ?_, fun q => ⟨⟨by omega, by omega⟩, fun q2 => ⟨by omega, by omega, fin _ ?_⟩, fun q2 => fin _ ?_⟩⟩)⟩
          · unfold shT
            rw [if_pos (Or.inl ((bh_z (by omega)).2 q))]
          · have e1 : bh (S (30 + w)) (S (30 + w) (-1)) i x = nx (S (30 + w)) (S (30 + w) (-1)) i x + 1 := by unfold bh; rw [if_neg q]
            have e2 : bh (S (30 + v)) (S (30 + v) (-1)) j x = nx (S (30 + v)) (S (30 + v) (-1)) j x + 1 := by unfold bh; rw [if_neg q2]
            unfold shT
            rw [if_neg (by omega), e1, e2, ← c5 _ _ (by omega) (by omega) (by omega) (by omega) (by omega), Int.add_assoc]
          · unfold shT
            rw [if_pos (Or.inr ((bh_z (by omega)).2 q2))]
