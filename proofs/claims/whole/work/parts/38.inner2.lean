theorem m_layInner {M : Mem} {w n k : Int} {W : Int → Int} {Q : Vl → Mem → Prop} (w0 : 0 ≤ w) (w8 : w < 8) (l : lnY M w n W) (b : wdB n W k) (hk : M 88 11 = k) (hq : ∀ M2, off 107 107 M M2 → (∀ i l, 0 ≤ i → i ≤ n → 0 ≤ l → l ≤ 40 → M2 107 (41 * i + l) = nn W n k l i) → Q (Iv 0) M2) : cl 0 yX12_layInner [Rv 88, Iv w] M Q := by
  have hb := b
  obtain ⟨n0, n1, k0, k1, hw⟩ := b
  refine eX12_layInner ⟨w0, w8, ?_⟩
  rw [l.1]
  refine dn_ind (P := fun i => ∀ M2, off 107 107 M M2 → (∀ i' l, i < i' → i' ≤ n → 0 ≤ l → l ≤ 40 → M2 107 (41 * i' + l) = nn W n k l i') → wp 0 yX12_layInner 9 [some (Rv 88), some (Iv w), some (Iv n), some (Iv i), none, none, none] [] M2 Q) (a := -1) (n := n) (by omega) (fun M2 o2 c2 => ?_) (fun i i0 i1 ih M2 o2 c2 => ?_) M off.rf (fun i' l q1 q2 => absurd q2 (by omega))
  · exact gX12_layInner_9 ⟨by decide, fun _ => hq M2 o2 (fun i l q1 q2 q3 q4 => c2 i l (by omega) q2 q3 q4), fun q => absurd q (by decide)⟩
  · refine gX12_layInner_9 ⟨⟨by omega, by omega⟩, fun q => absurd q (by omega), fun _ => ?_⟩
    have lett : ∀ M3, off 107 107 M M3 → (∀ i' l, i < i' → i' ≤ n → 0 ≤ l → l ≤ 40 → M3 107 (41 * i' + l) = nn W n k l i') → (∀ l, 0 ≤ l → l ≤ 40 → M3 107 (41 * i + l) = if l = 0 then 1 else sm (inT W n k (l - 1) i) 0) → wp 0 yX12_layInner 54 [some (Rv 88), some (Iv w), some (Iv n), some (Iv i), some (Iv 0), none, none] [] M3 Q := by
      refine up_ind (P := fun x => ∀ M3, off 107 107 M M3 → (∀ i' l, i < i' → i' ≤ n → 0 ≤ l → l ≤ 40 → M3 107 (41 * i' + l) = nn W n k l i') → (∀ l, 0 ≤ l → l ≤ 40 → M3 107 (41 * i + l) = if l = 0 then 1 else sm (inT W n k (l - 1) i) x) → wp 0 yX12_layInner 54 [some (Rv 88), some (Iv w), some (Iv n), some (Iv i), some (Iv x), none, none] [] M3 Q) (a := 0) (n := k) (by omega) (fun M3 o3 c3 d3 => ?_) (fun x x0 x1 ih2 M3 o3 c3 d3 => ?_)
      · have ek : M3 88 11 = k := by rw [o3 88 (by omega)]; exact hk
        refine gX12_layInner_54 ⟨⟨by omega, by omega⟩, ⟨by omega, by omega⟩, fun _ => ih M3 o3 (fun i' l q1 q2 q3 q4 => ?_), fun q => absurd q (by omega)⟩
        by_cases ci : i' = i
        · rw [ci, d3 l q3 q4]
          by_cases cl : l = 0
          · rw [if_pos cl, cl, nn_0]
          · rw [if_neg cl, ← nn_s (by omega), show l - 1 + 1 = l by omega]
        · exact c3 i' l (by omega) q2 q3 q4
      · have ek : M3 88 11 = k := by rw [o3 88 (by omega)]; exact hk
        refine gX12_layInner_54 ⟨⟨by omega, by omega⟩, ⟨by omega, by omega⟩, fun q => absurd q (by omega), fun _ => m_nextW w0 w8 (l.off o3 (by omega)) hb (by omega) (by omega) ⟨by omega, by omega⟩ ?_⟩
        rcases nx_b (W := W) (n := n) (x := x) (show 0 ≤ i by omega) with q | q
        · show wp 0 yX12_layInner 76 [some (Rv 88), some (Iv w), some (Iv n), some (Iv i), some (Iv x), some (Iv (nx W n i x)), some (Iv 1)] [] M3 Q
          rw [q]
          refine gX12_layInner_76 ⟨by decide, fun q => absurd q (by decide), fun _ => ⟨by decide, fun _ => ih2 M3 o3 c3 (fun l l0 l1 => ?_), fun q => absurd rfl q⟩⟩
          rw [d3 l l0 l1, sm_s x0]
          split
          · rfl
          · unfold inT
            rw [if_pos q, Int.add_zero]
        · refine up_ind (P := fun y => ∀ M4, off 107 107 M M4 → (∀ i' l, i < i' → i' ≤ n → 0 ≤ l → l ≤ 40 → M4 107 (41 * i' + l) = nn W n k l i') → (∀ l, 0 ≤ l → l ≤ 40 → M4 107 (41 * i + l) = if l = 0 then 1 else if l < y then sm (inT W n k (l - 1) i) (x + 1) else sm (inT W n k (l - 1) i) x) → wp 0 yX12_layInner 76 [some (Rv 88), some (Iv w), some (Iv n), some (Iv i), some (Iv x), some (Iv (nx W n i x)), some (Iv y)] [] M4 Q) (a := 1) (n := 41) (by decide) (fun M4 o4 c4 d4 => ?_) (fun y y0 y1 ih3 M4 o4 c4 d4 => ?_) M3 o3 c3 (fun l l0 l1 => by
            rw [d3 l l0 l1]
            by_cases cl : l = 0
            · rw [if_pos cl, if_pos cl]
            · rw [if_neg cl, if_neg cl, if_neg (by omega)])
          · refine gX12_layInner_76 ⟨by decide, fun _ => ih2 M4 o4 c4 (fun l l0 l1 => ?_), fun q => absurd q (by decide)⟩
            rw [d4 l l0 l1, if_pos (show l < 41 by omega)]
          · have e1 := d4 y (by omega) (by omega)
            rw [if_neg (by omega), if_neg (by omega)] at e1
            have e2 := c4 (nx W n i x + 1) (y - 1) (by omega) (by omega) (by omega) (by omega)
            rw [show 41 * (nx W n i x + 1) + (y - 1) = 41 * (nx W n i x + 1) + y - 1 by omega] at e2
            refine gX12_layInner_76 ⟨⟨by omega, by omega⟩, fun q => absurd q (by omega), fun _ => ⟨⟨by omega, by omega⟩, fun q2 => absurd q2 (by omega), fun _ => ⟨by omega, by omega, by omega, by omega, ih3 _ (o4.upd (by decide) (by decide)) (fun i' l q1 q2 q3 q4 => by rw [up_ln (by omega)]; exact c4 i' l q1 q2 q3 q4) (fun l l0 l1 => ?_)⟩⟩⟩
            rw [up_at]
            by_cases cl : l = y
            · rw [if_pos (by omega), if_neg (by omega), if_pos (by omega), e1, e2, cl, sm_s x0]
              congr 1
              unfold inT
              rw [if_neg (by omega)]
            · rw [if_neg (by omega), d4 l l0 l1]
              by_cases c5 : l = 0
              · rw [if_pos c5, if_pos c5]
              · rw [if_neg c5, if_neg c5]
                by_cases c6 : l < y
                · rw [if_pos c6, if_pos (by omega)]
                · rw [if_neg c6, if_neg (by omega)]
    refine up_ind (P := fun y => ∀ M3, off 107 107 M M3 → (∀ i' l, i < i' → i' ≤ n → 0 ≤ l → l ≤ 40 → M3 107 (41 * i' + l) = nn W n k l i') → (∀ l, 0 ≤ l → l < y → M3 107 (41 * i + l) = if l = 0 then 1 else sm (inT W n k (l - 1) i) 0) → wp 0 yX12_layInner 16 [some (Rv 88), some (Iv w), some (Iv n), some (Iv i), some (Iv y), none, none] [] M3 Q) (a := 0) (n := 41) (by decide) (fun M3 o3 c3 d3 => ?_) (fun y y0 y1 ih2 M3 o3 c3 d3 => ?_) M2 o2 c2 (fun l l0 l1 => absurd l1 (by omega))
    · exact gX12_layInner_16 ⟨by decide, fun _ => lett M3 o3 c3 (fun l l0 l1 => d3 l l0 (by omega)), fun q => absurd q (by decide)⟩
    · refine gX12_layInner_16 ⟨⟨by omega, by omega⟩, fun q => absurd q (by omega), fun _ => ⟨fun q => ⟨by omega, by omega, ih2 _ (o3.upd (by decide) (by decide)) (fun i' l q1 q2 q3 q4 => by rw [up_ln (by omega)]; exact c3 i' l q1 q2 q3 q4) (fun l l0 l1 => ?_)⟩, fun q => ⟨by omega, by omega, ih2 _ (o3.upd (by decide) (by decide)) (fun i' l q1 q2 q3 q4 => by rw [up_ln (by omega)]; exact c3 i' l q1 q2 q3 q4) (fun l l0 l1 => ?_)⟩⟩⟩
      · rw [up_at]
        by_cases cl : l = y
        · rw [if_pos (by omega), if_neg (by omega), sm_0]
        · rw [if_neg (by omega)]; exact d3 l l0 (by omega)
      · rw [up_at, if_pos (by omega), if_pos (by omega)]
/-! 28 inner -/
theorem sm_tl {f : Int → Int} {a b : Int} (h0 : 0 ≤ a) (h : a ≤ b) (hz : ∀ x, a ≤ x → x < b → f x = 0) : sm f b = sm f a := by
  refine dn_ind (P := fun b => (∀ x, a ≤ x → x < b → f x = 0) → sm f b = sm f a) (a := a) (n := b) h (fun _ => rfl) (fun y y0 y1 ih hz => ?_) hz
  have e : sm f y = sm f (y - 1) + f (y - 1) := by
    have := sm_s (f := f) (show 0 ≤ y - 1 by omega)
    rw [show y - 1 + 1 = y by omega] at this
    exact this
  rw [e, ih (fun x x0 x1 => hz x x0 (by omega)), hz (y - 1) (by omega) (by omega), Int.add_zero]
theorem op_inner {S : Mem} (hW : WF S) {w m : Int} (hw : inr w) (hm : inr m) : OpOK S yX11_inner yX12_inner [Iv w, Iv m] Iv := by
  by_cases c1 : (w < 0 ∨ 8 ≤ w) ∨ (m ≠ -9 ∧ (m < 0 ∨ 40 < m))
  · refine ⟨-1, S, hW, fun M hX => eX11_inner ?_, fun M hY => eX12_inner ?_⟩
    · repeat' first
        | omega
        | exact px_rf hX _
        | exact px_fnd hX _ (by decide) (by decide)
        | refine c_noRow ?_ (fun q => ?_) (fun q => ?_)
        | refine c_noText ?_ (fun q => ?_) (fun q => ?_)
        | refine c_noWord ?_ (fun q => ?_) (fun q => ?_)
        | refine c_noLength ?_ (fun q => ?_) (fun q => ?_)
        | refine c_found (by decide) ?_
        | refine c_refuseRow hW hX ?_ (fun q => ?_) (fun q => ?_) (fun q => ?_)
        | refine c_refusePlace hW hX ?_ ?_ (fun q => ?_) (fun q => ?_) (fun q => ?_) (fun q => ?_)
        | refine c_refuseText hW hX ?_ (fun q => ?_) (fun q => ?_) (fun q => ?_)
        | refine c_refuseWords hW hX ?_ ?_ (fun q => ?_) (fun q => ?_) (fun q => ?_)
        | refine c_refuseWord hW hX ?_ (fun q => ?_) (fun q => ?_) (fun q => ?_)
        | refine c_has hL ?_ ?_ (fun q => ?_) (fun q => ?_)
        | refine c_isMissing hL ?_ (fun q => ?_) (fun q => ?_)
        | refine c_reaches hL ?_ ?_ (fun q => ?_) (fun q => ?_)
        | refine c_has hL2 ?_ ?_ (fun q => ?_) (fun q => ?_)
        | refine c_isMissing hL2 ?_ (fun q => ?_) (fun q => ?_)
        | refine c_reaches hL2 ?_ ?_ (fun q => ?_) (fun q => ?_)
        | refine c_is hWd ?_ ?_ (fun q => ?_) (fun q => ?_)
        | refine c_markOf hWd ?_ (fun q => ?_) (fun q => ?_)
        | with_reducible refine ⟨?_, ?_⟩
        | with_reducible intro q
    · repeat' first
        | omega
        | exact py_rf hY _
        | exact py_fnd hY _ (by decide) (by decide)
        | refine m_isRow ?_ (fun q => ?_) (fun q => ?_)
        | refine m_isText ?_ (fun q => ?_) (fun q => ?_)
        | refine m_isWord ?_ (fun q => ?_) (fun q => ?_)
        | refine m_in ?_ ?_ ?_ (fun q => ?_) (fun q => ?_)
        | refine m_meets (by decide) ?_
        | refine m_needWord hW hY ?_ ?_ (fun q => ?_) (fun q => ?_) (fun q => ?_)
        | refine m_needTwo hW hY ?_ ?_ ?_ (fun q => ?_) (fun q => ?_) (fun q => ?_)
        | refine m_isThere ?_ ?_ ?_ (fun q => ?_) (fun q => ?_)
        | refine m_at0 ?_ ?_ ?_
        | refine m_rowAt ?_ ?_ ?_
        | refine m_markOf ?_ ?_ ?_ (fun q => ?_) (fun q => ?_) (fun q => ?_)
        | with_reducible refine ⟨?_, ?_⟩
        | with_reducible intro q
  have w0 : 0 ≤ w := by omega
  have w8 : w < 8 := by omega
  by_cases c3 : S (30 + w) (-1) < 0
  · refine ⟨-3, fS S 1, hW.fnd 1, fun M hX => eX11_inner ?_, fun M hY => eX12_inner ?_⟩
    · repeat' first
        | omega
        | exact px_rf hX _
        | exact px_fnd hX _ (by decide) (by decide)
        | refine c_noRow ?_ (fun q => ?_) (fun q => ?_)
        | refine c_noText ?_ (fun q => ?_) (fun q => ?_)
        | refine c_noWord ?_ (fun q => ?_) (fun q => ?_)
        | refine c_noLength ?_ (fun q => ?_) (fun q => ?_)
        | refine c_found (by decide) ?_
        | refine c_refuseRow hW hX ?_ (fun q => ?_) (fun q => ?_) (fun q => ?_)
        | refine c_refusePlace hW hX ?_ ?_ (fun q => ?_) (fun q => ?_) (fun q => ?_) (fun q => ?_)
        | refine c_refuseText hW hX ?_ (fun q => ?_) (fun q => ?_) (fun q => ?_)
        | refine c_refuseWords hW hX ?_ ?_ (fun q => ?_) (fun q => ?_) (fun q => ?_)
        | refine c_refuseWord hW hX ?_ (fun q => ?_) (fun q => ?_) (fun q => ?_)
        | refine c_has hL ?_ ?_ (fun q => ?_) (fun q => ?_)
        | refine c_isMissing hL ?_ (fun q => ?_) (fun q => ?_)
        | refine c_reaches hL ?_ ?_ (fun q => ?_) (fun q => ?_)
        | refine c_has hL2 ?_ ?_ (fun q => ?_) (fun q => ?_)
        | refine c_isMissing hL2 ?_ (fun q => ?_) (fun q => ?_)
        | refine c_reaches hL2 ?_ ?_ (fun q => ?_) (fun q => ?_)
        | refine c_is hWd ?_ ?_ (fun q => ?_) (fun q => ?_)
        | refine c_markOf hWd ?_ (fun q => ?_) (fun q => ?_)
        | with_reducible refine ⟨?_, ?_⟩
        | with_reducible intro q
    · repeat' first
        | omega
        | exact py_rf hY _
        | exact py_fnd hY _ (by decide) (by decide)
        | refine m_isRow ?_ (fun q => ?_) (fun q => ?_)
        | refine m_isText ?_ (fun q => ?_) (fun q => ?_)
        | refine m_isWord ?_ (fun q => ?_) (fun q => ?_)
        | refine m_in ?_ ?_ ?_ (fun q => ?_) (fun q => ?_)
        | refine m_meets (by decide) ?_
        | refine m_needWord hW hY ?_ ?_ (fun q => ?_) (fun q => ?_) (fun q => ?_)
        | refine m_needTwo hW hY ?_ ?_ ?_ (fun q => ?_) (fun q => ?_) (fun q => ?_)
        | refine m_isThere ?_ ?_ ?_ (fun q => ?_) (fun q => ?_)
        | refine m_at0 ?_ ?_ ?_
        | refine m_rowAt ?_ ?_ ?_
        | refine m_markOf ?_ ?_ ?_ (fun q => ?_) (fun q => ?_) (fun q => ?_)
        | with_reducible refine ⟨?_, ?_⟩
        | with_reducible intro q
  have bw := hW.wd w0 w8 (by omega)
  have n0 := bw.1
  have n1 := bw.2.1
  have k0 := bw.2.2.1
  have k1 := bw.2.2.2.1
  refine ⟨1, up S 0 2 (if m = -9 then sm (fun l => nn (S (30 + w)) (S (30 + w) (-1)) (S 0 0) l 0) 41 else nn (S (30 + w)) (S (30 + w) (-1)) (S 0 0) m 0), hW.scal 2 _ (by decide), fun M hX => eX11_inner ?_, fun M hY => eX12_inner ?_⟩
  · have tell : ∀ M2, off 79 82 M M2 → ∀ v z, v = z → PX (up S 0 2 z) (Iv 1) M (Iv 1) (up M2 1 5 v) := fun M2 o2 v z hv => by
      rw [hv]
      exact ⟨rfl, (o2.x hX (fun a a0 a1 => by unfold kX; omega)).scal 2 _ (by decide) (by decide), (o2.fx (by decide) (by decide)).up (by omega)⟩
    refine ⟨hm, fun q => c_refuseWord hW hX hw (fun q => absurd q (by omega)) (fun q => absurd q (by omega)) (fun _ => ⟨by decide, fun _ => ⟨w0, w8, c_inner (isW_word w0 w8).l (hX.ln w0 w8) bw (fun M2 o2 i2 => ⟨fun q2 => absurd q q2, fun _ => eX2_ofAnyLength ?_⟩)⟩, fun q => absurd rfl q⟩), fun q => c_noLength hm (fun q2 => absurd q2 (by omega)) (fun q2 => ⟨fun _ => c_refuseWord hW hX hw (fun q => absurd q (by omega)) (fun q => absurd q (by omega)) (fun _ => ⟨by decide, fun _ => ⟨w0, w8, c_inner (isW_word w0 w8).l (hX.ln w0 w8) bw (fun M2 o2 i2 => ⟨fun _ => eX2_ofLength ⟨by omega, by omega, ?_⟩, fun q2 => absurd q2 q⟩)⟩, fun q => absurd rfl q⟩), fun q => absurd rfl q⟩)⟩
    · obtain ⟨-, e2, e3⟩ := i2
      refine up_ind (P := fun x => wp 0 yX2_ofAnyLength 4 [some (Rv 80), some (Jv (sm (fun l => nn (S (30 + w)) (S (30 + w) (-1)) (S 0 0) l 0) x)), none, some (Iv x)] [] M2 _) (a := 0) (n := S (30 + w) (-1) + 1) (by omega) ?_ (fun x x0 x1 ih => ?_)
      · refine gX2_ofAnyLength_4 ⟨⟨by omega, by omega⟩, ⟨by omega, by omega⟩, fun _ => tell M2 o2 _ _ ?_, fun q => absurd q (by omega)⟩
        rw [if_pos q]
        exact (sm_tl (by omega) (by omega) (fun x x0 x1 => nn_z bw _ 0 x (by decide) n0 (by omega) rfl)).symm
      · rw [sm_s x0] at ih
        refine gX2_ofAnyLength_4 ⟨⟨by omega, by omega⟩, ⟨by omega, by omega⟩, fun q => absurd q (by omega), fun _ => ⟨x0, by omega, ?_⟩⟩
        have e4 := e3 0 x (by decide) n0 x0 (by omega)
        rw [show (0 : Int) * 41 + x = x by omega] at e4
        rw [e4]
        exact ih
    · have e4 := i2.2.2 0 m (by decide) n0 (by omega) (by omega)
      rw [show (0 : Int) * 41 + m = m by omega] at e4
      rw [e4]
      exact tell M2 o2 _ _ (by rw [if_neg q])
  · have ek := hY.2.2.2.1.1
    have fin : ∀ M2, off 107 107 M M2 → (∀ i l, 0 ≤ i → i ≤ S (30 + w) (-1) → 0 ≤ l → l ≤ 40 → M2 107 (41 * i + l) = nn (S (30 + w)) (S (30 + w) (-1)) (S 0 0) l i) → wp 0 yX12_inner 44 [some (Rv 88), some (Iv w), some (Iv m), some (Iv 0), some (Jv 0), none, some (Iv 0)] [] M2 (PY (up S 0 2 (if m = -9 then sm (fun l => nn (S (30 + w)) (S (30 + w) (-1)) (S 0 0) l 0) 41 else nn (S (30 + w)) (S (30 + w) (-1)) (S 0 0) m 0)) (Iv 1) M) := by
      intro M2 o2 c2
      refine up_ind (P := fun x => wp 0 yX12_inner 44 [some (Rv 88), some (Iv w), some (Iv m), some (Iv 0), some (Jv (sm (fun l => if m = -9 ∨ m = l then nn (S (30 + w)) (S (30 + w) (-1)) (S 0 0) l 0 else 0) x)), none, some (Iv x)] [] M2 _) (a := 0) (n := 41) (by decide) ?_ (fun x x0 x1 ih => ?_)
      · refine gX12_inner_44 ⟨by decide, fun _ => m_tellsMany ?_, fun q => absurd q (by decide)⟩
        have e : sm (fun l => if m = -9 ∨ m = l then nn (S (30 + w)) (S (30 + w) (-1)) (S 0 0) l 0 else 0) 41 = if m = -9 then sm (fun l => nn (S (30 + w)) (S (30 + w) (-1)) (S 0 0) l 0) 41 else nn (S (30 + w)) (S (30 + w) (-1)) (S 0 0) m 0 := by
          by_cases q : m = -9
          · rw [if_pos q]
            exact sm_cg (by decide) (fun i _ _ => by rw [if_pos (Or.inl q)])
          · rw [if_neg q]
            have := sm_one (f := fun l => if m = -9 ∨ m = l then nn (S (30 + w)) (S (30 + w) (-1)) (S 0 0) l 0 else 0) (g := fun _ => 0) (c := m) (by omega) (fun x hx => by rw [if_neg (by omega)]) 41
            rw [sm_zero (fun _ => rfl), show ((41 : Nat) : Int) = 41 from rfl, if_pos (show m < 41 by omega), if_pos (Or.inr rfl)] at this
            omega
        rw [e]
        exact ⟨rfl, (o2.y hY (by decide)).scal 2 3 _ (by decide), (o2.fy (by decide)).up (by omega)⟩
      · rw [sm_s x0] at ih
        have e4 := c2 0 x (by decide) n0 x0 (by omega)
        rw [show (41 : Int) * 0 + x = x by omega] at e4
        refine gX12_inner_44 ⟨⟨by omega, by omega⟩, fun q => absurd q (by omega), fun _ => ⟨hm, fun q => ⟨x0, by omega, ?_⟩, fun q => ⟨fun q2 => ?_, fun q2 => ⟨x0, by omega, ?_⟩⟩⟩⟩
        · rw [if_pos (Or.inl q)] at ih
          rw [e4]; exact ih
        · rw [if_neg (by omega)] at ih
          exact ih
        · rw [if_pos (Or.inr q2)] at ih
          rw [e4]; exact ih
    refine ⟨hm, fun q => m_needWord hW hY (Or.inr rfl) hw (fun q => absurd q (by omega)) (fun q => absurd q (by omega)) (fun _ => ⟨by decide, fun _ => m_layInner w0 w8 (hY.ln w0 w8) bw ek fin, fun q => absurd q (by decide)⟩), fun q => m_in hm (by decide) (by decide) (fun q2 => absurd q2 (by omega)) (fun _ => ⟨fun q => absurd q (by decide), fun _ => m_needWord hW hY (Or.inr rfl) hw (fun q => absurd q (by omega)) (fun q => absurd q (by omega)) (fun _ => ⟨by decide, fun _ => m_layInner w0 w8 (hY.ln w0 w8) bw ek fin, fun q => absurd q (by decide)⟩)⟩)⟩
