theorem c_absentFrom {M : Mem} {n k i c : Int} {W : Int → Int} {Q : Vl → Mem → Prop} (b : wdB n W k) (hs : stp M (18 + 1) W n) (hM : ∀ i', i < i' → i' ≤ n → M 16 i' = 1 + arC W k i' n) (i0 : 0 ≤ i) (i1 : i ≤ n) (c0 : 0 ≤ c) (c1 : c < 6) (hq : Q (Iv (gAb W n k i c)) M) : cl 0 yX0_absentFrom [Rv 15, Iv i, Iv c] M Q := by
  have n1 := b.2.1
  have bb := bh_b (W := W) (n := n) (c := c) i0
  refine eX0_absentFrom (c_behind isS_18 hs n1 i0 i1 c0 c1 ⟨⟨by omega, by omega⟩, fun q => ⟨by omega, by omega, ?_⟩, fun q => ?_⟩)
  · unfold gAb at hq
    rw [if_neg q] at hq
    rw [hM _ (by omega) (by omega), show 1 + (1 + arC W k (bh W n i c) n) = 2 + arC W k (bh W n i c) n by omega]
    exact hq
  · unfold gAb at hq
    rw [if_pos q] at hq
    exact hq
theorem c_readAbsent {M : Mem} {a n k : Int} {W : Int → Int} {Q : Vl → Mem → Prop} (hl : isL a 40) (l : lnX M a n W) (b : wdB n W k) (hq : ∀ M2, off 16 19 M M2 → stp M2 (18 + 1) W n → (∀ i, 0 ≤ i → i ≤ n → M2 16 i = 1 + arC W k i n ∧ M2 17 i = hmA W n k i) → Q (Iv 0) M2) : cl 0 yX0_readAbsent [Rv 15, Rv a, Iv k] M Q := by
  have ha := hl.1
  have hb := b
  obtain ⟨n0, n1, k0, k1, hw⟩ := b
  refine eX0_readAbsent hl (c_steps isS_18 hl l hb (by omega) (fun M1 o1 s1 => ?_))
  have o1' : off 16 19 M M1 := o1.wd (by decide) (by decide)
  show wp 0 yX0_readAbsent 13 _ _ _ _
  rw [(l.off o1' (by omega)).1]
  refine dn_ind (P := fun i => ∀ M2, off 16 17 M1 M2 → (∀ i', i < i' → i' ≤ n → M2 16 i' = 1 + arC W k i' n ∧ M2 17 i' = hmA W n k i') → wp 0 yX0_readAbsent 13 [some (Rv 15), some (Rv a), some (Iv k), some (Iv i), none, none, none, none, none, none, none, none] [] M2 Q) (a := -1) (n := n) (by omega) (fun M2 o2 c2 => ?_) (fun i i0 i1 ih M2 o2 c2 => ?_) M1 off.rf (fun i' q1 q2 => absurd q2 (by omega))
  · exact gX0_readAbsent_13 hl ⟨by decide, fun _ => hq M2 (o1'.tr (o2.wd (by decide) (by decide))) (s1.off o2 (by decide)) (fun i q1 q2 => c2 i (by omega) q2), fun q => absurd q (by decide)⟩
  · refine gX0_readAbsent_13 hl ⟨⟨by omega, by omega⟩, fun q => absurd q (by omega), fun _ => ?_⟩
    have s2 : stp M2 (18 + 1) W n := s1.off o2 (by decide)
    have i0' : 0 ≤ i := by omega
    have ab := ar_b hb i0' i1 (Int.le_refl n)
    refine up_ind (P := fun x => ∀ x4 x5, aJ W n k i x x4 x5 → wp 0 yX0_readAbsent 27 [some (Rv 15), some (Rv a), some (Iv k), some (Iv i), some (Iv x4), some (Jv x5), none, some (Iv x), none, none, none, none] [] M2 Q) (a := 0) (n := k) (by omega) (fun x4 x5 hj => ?_) (fun x x0 x1 ih2 x4 x5 hj => ?_) 42 0 (aJ_0 hb i0' i1)
    · obtain ⟨e4, e5⟩ := aJ_e hb i0' i1 hj
      refine gX0_readAbsent_27 hl ⟨⟨by omega, by omega⟩, ⟨by omega, by omega⟩, fun _ => ⟨i0', by omega, ih _ ((o2.upd (by decide) (by decide)).upd (by decide) (by decide)) (fun i' q1 q2 => ?_)⟩, fun q => absurd q (by omega)⟩
      rw [up_ne (show (16 : Int) ≠ 17 by decide), up_at, up_at, up_ne (show (17 : Int) ≠ 16 by decide)]
      by_cases ci : i' = i
      · rw [if_pos ci, if_pos ci, ci]
        exact ⟨e4, e5⟩
      · rw [if_neg ci, if_neg ci]
        exact c2 i' (by omega) q2
    · have gb := gAb_b hb i0' i1 x0 x1
      have bb := bh_b (W := W) (n := n) (c := x) i0'
      obtain ⟨t1, t2, t3⟩ := aJ_s hb i0' i1 x0 x1 hj
      have hj1 := hj.1
      have hj2 := hj.2.1
      have i4 : inr x4 := ⟨by omega, by omega⟩
      have ig : inr (gAb W n k i x) := ⟨by omega, by omega⟩
      refine gX0_readAbsent_27 hl ⟨⟨by omega, by omega⟩, ⟨by omega, by omega⟩, fun q => absurd q (by omega), fun _ => c_absentFrom hb s2 (fun i' q1 q2 => (c2 i' q1 q2).1) i0' i1 x0 (by omega) (c_behind isS_18 s2 n1 i0' i1 x0 (by omega) ⟨⟨by omega, by omega⟩, fun q => ⟨by omega, by omega, ig, i4, fun q2 => ⟨fun q3 => ih2 _ _ (t1 (by omega)), fun q3 => ih2 _ _ ?_⟩, fun q2 => ih2 _ _ ?_⟩, fun q => ⟨ig, i4, fun q2 => ⟨fun q3 => ih2 _ _ (t1 (by omega)), fun q3 => ih2 _ _ ?_⟩, fun q2 => ih2 _ _ ?_⟩⟩)⟩
      · rw [(c2 _ (by omega) (by omega)).2]
        have := t2 q3
        unfold hA at this
        rw [if_neg q] at this
        exact this
      · rw [(c2 _ (by omega) (by omega)).2]
        have := t3 q2
        unfold hA at this
        rw [if_neg q] at this
        exact this
      · have := t2 q3
        unfold hA at this
        rw [if_pos q] at this
        exact this
      · have := t3 q2
        unfold hA at this
        rw [if_pos q] at this
        exact this
def abN (W : Int → Int) (n k : Int) : Int := if 40 < 1 + arC W k 0 n then 40 else 1 + arC W k 0 n
theorem abN_b {W : Int → Int} {n k : Int} (b : wdB n W k) : 1 ≤ abN W n k ∧ abN W n k ≤ 40 ∧ abN W n k ≤ 1 + arC W k 0 n := by
  have := ar_b b (Int.le_refl 0) b.1 (Int.le_refl n)
  unfold abN
  split <;> omega
theorem c_firstAbsent {M : Mem} {n k : Int} {W : Int → Int} {Q : Vl → Mem → Prop} (b : wdB n W k) (hs : stp M (18 + 1) W n) (hM : ∀ i, 0 ≤ i → i ≤ n → M 16 i = 1 + arC W k i n) (hq : ∀ M2, off 6 6 M M2 → (∀ j, 0 ≤ j → j < abN W n k → M2 6 j = abX W n k j) → Q (Iv (abN W n k)) M2) : cl 0 yX0_firstAbsent [Rv 15, Iv k, Rv 6] M Q := by
  have hb := b
  obtain ⟨n0, n1, k0, k1, hw⟩ := b
  have h6 : isA 6 80 := ⟨by decide, by decide, rfl⟩
  have e0 := hM 0 (Int.le_refl 0) n0
  have ab := ar_b hb (Int.le_refl 0) n0 (Int.le_refl n)
  have nb := abN_b hb
  refine eX0_firstAbsent h6 ⟨⟨by omega, by omega⟩, ?_⟩
  rw [e0]
  show wp 0 yX0_firstAbsent 18 [some (Rv 15), some (Iv k), some (Rv 6), some (Iv (abN W n k)), some (Iv 0), some (Iv 0), none] [] M Q
  refine up_ind (P := fun j => ∀ M2, off 6 6 M M2 → (∀ t, 0 ≤ t → t < j → M2 6 t = abX W n k t) → wp 0 yX0_firstAbsent 18 [some (Rv 15), some (Iv k), some (Rv 6), some (Iv (abN W n k)), some (Iv (abI W n k j)), some (Iv j), none] [] M2 Q) (a := 0) (n := abN W n k) (by omega) (fun M2 o2 c2 => ?_) (fun j j0 j1 ih M2 o2 c2 => ?_) M off.rf (fun t t0 t1 => absurd t1 (by omega))
  · exact gX0_firstAbsent_18 h6 ⟨⟨by omega, by omega⟩, ⟨by omega, by omega⟩, fun _ => hq M2 o2 c2, fun q => absurd q (by omega)⟩
  · obtain ⟨a1, a2, a3⟩ := ab_inv hb j.toNat (by omega)
    rw [show ((j.toNat : Nat) : Int) = j by omega] at a1 a2 a3
    obtain ⟨x1, x2, x3, x4⟩ := abC_sp hb a1
    have s2 : stp M2 (18 + 1) W n := hs.off o2 (by decide)
    have hM2 : ∀ i, 0 ≤ i → i ≤ n → M2 16 i = 1 + arC W k i n := by rw [o2 16 (by decide)]; exact hM
    refine gX0_firstAbsent_18 h6 ⟨⟨by omega, by omega⟩, ⟨by omega, by omega⟩, fun q => absurd q (by omega), fun _ => ?_⟩
    have go : cl 0 yX8_behind [Rv 18, Iv (abI W n k j), Iv (abX W n k j)] (up M2 6 j (abX W n k j)) (QI (fun z M3 => wp 0 yX0_firstAbsent 18 [some (Rv 15), some (Iv k), some (Rv 6), some (Iv (abN W n k)), some (Iv z), some (Iv (j + 1)), none] [] M3 Q)) := by
      refine c_behind isS_18 (s2.off (off.rf.upd (Int.le_refl 6) (Int.le_refl 6)) (by decide)) n1 a1 a2 x1 (show abC W n k (abI W n k j) < 6 by omega) ?_
      have := ih (up M2 6 j (abX W n k j)) (o2.upd (by decide) (by decide)) (fun t t0 t1 => by
        rw [up_at]
        by_cases ct : t = j
        · rw [if_pos ct, ct]
        · rw [if_neg ct]; exact c2 t t0 (by omega))
      rw [abI_s j0] at this
      exact this
    refine up_ind (P := fun c => wp 0 yX0_firstAbsent 27 [some (Rv 15), some (Iv k), some (Rv 6), some (Iv (abN W n k)), some (Iv (abI W n k j)), some (Iv j), some (Iv c)] [] M2 Q) (a := 0) (n := abX W n k j) x1 ?_ (fun c c0 c1 ih2 => ?_)
    · have x1' : 0 ≤ abX W n k j := x1
      have x2' : abX W n k j < k := x2
      have e2 := hM2 _ a1 a2
      have gb := gAb_b hb a1 a2 x1' x2'
      have ge := gb.2.2.2 x3
      refine gX0_firstAbsent_27 h6 ⟨⟨by omega, by omega⟩, ⟨by omega, by omega⟩, fun _ => ⟨j0, by omega, ⟨by omega, by omega⟩, go⟩, fun _ => c_absentFrom hb s2 (fun i' q1 q2 => hM2 i' (by omega) q2) a1 a2 x1' (by omega) ⟨a1, by omega, Or.inr ⟨⟨by omega, by omega⟩, ⟨by omega, by omega⟩⟩, fun _ => ⟨j0, by omega, ⟨by omega, by omega⟩, go⟩, fun q => absurd (ge.trans e2.symm) q⟩⟩
    · have x2' : abX W n k j < k := x2
      have e2 := hM2 _ a1 a2
      have gb := gAb_b hb a1 a2 c0 (show c < k by omega)
      have nt := x4 c c0 c1
      refine gX0_firstAbsent_27 h6 ⟨⟨by omega, by omega⟩, ⟨by omega, by omega⟩, fun q => absurd q (by omega), fun _ => c_absentFrom hb s2 (fun i' q1 q2 => hM2 i' (by omega) q2) a1 a2 c0 (by omega) ⟨a1, by omega, Or.inr ⟨⟨by omega, by omega⟩, ⟨by omega, by omega⟩⟩, fun q => absurd (gb.2.2.1 (by rw [← e2]; exact q)) nt, fun _ => ih2⟩⟩
def kp2 (M M2 : Mem) : Prop := (∀ a, a ≠ 88 → a ≠ 100 → M2 a = M a) ∧ ∀ q, q ≠ 17 → q ≠ 27 → q ≠ 28 → M2 88 q = M 88 q
theorem kp2.y {S M M2 : Mem} (h : kp2 M M2) (hY : Y S M) : Y S M2 := hY.same (fun a ka => h.1 a (by unfold kY at ka; omega) (by unfold kY at ka; omega)) (fun q hq => h.2 q (by omega) (by omega) (by omega))
theorem kp2.fy {M M2 : Mem} (h : kp2 M M2) : fry M M2 := fun a ha => h.1 a (by omega) (by omega)
theorem kp2.ln {M M2 : Mem} (h : kp2 M M2) {w n : Int} {W : Int → Int} (l : lnY M w n W) : lnY M2 w n W := by
  unfold lnY
  rw [h.1 95 (by decide) (by decide), h.1 96 (by decide) (by decide)]
  exact l
theorem m_layAbsent {M : Mem} {w n k : Int} {W : Int → Int} {Q : Vl → Mem → Prop} (w0 : 0 ≤ w) (w8 : w < 8) (l : lnY M w n W) (b : wdB n W k) (hk : M 88 11 = k) (hq : ∀ M2, kp2 M M2 → (∀ j, 0 ≤ j → j < abN W n k → M2 100 j = abX W n k j) → Q (Iv 0) M2) : cl 0 yX12_layAbsent [Rv 88, Iv w, Iv (arC W k 0 n + 1)] M Q := by
  have hb := b
  obtain ⟨n0, n1, k0, k1, hw⟩ := b
  have ab := ar_b hb (Int.le_refl 0) n0 (Int.le_refl n)
  have nb := abN_b hb
  refine eX12_layAbsent ?_
  refine up_ind (P := fun j => ∀ f g M2, (j < arC W k 0 n + 1 → f = abI W n k j ∧ g = 0) → kp2 M M2 → M2 88 17 = j → (∀ t, 0 ≤ t → t < j → t < 40 → M2 100 t = abX W n k t) → wp 0 yX12_layAbsent 10 [some (Rv 88), some (Iv w), some (Iv (arC W k 0 n + 1)), some (Iv f), some (Iv g), none, none] [] M2 Q) (a := 0) (n := arC W k 0 n + 1) (by omega) (fun f g M2 hfg o2 e2 c2 => ?_) (fun j j0 j1 ih f g M2 hfg o2 e2 c2 => ?_) 0 0 (up M 88 17 0) (fun _ => ⟨rfl, rfl⟩) ⟨fun a h1 h2 => up_ne h1, fun q h1 _ _ => by rw [up_at, if_neg h1]⟩ (by rw [up_at, if_pos rfl]) (fun t t0 t1 => absurd t1 (by omega))
  · exact gX12_layAbsent_10 ⟨by rw [e2]; exact ⟨by omega, by omega⟩, ⟨by omega, by omega⟩, fun _ => hq M2 o2 (fun j j0 j1 => c2 j j0 (by omega) (by omega)), fun q => absurd q (by omega)⟩
  · obtain ⟨hf, hg⟩ := hfg j1
    subst hf
    subst hg
    obtain ⟨a1, a2, a3⟩ := ab_inv hb j.toNat (by omega)
    rw [show ((j.toNat : Nat) : Int) = j by omega] at a1 a2 a3
    obtain ⟨x1, x2, x3, x4⟩ := abC_sp hb a1
    have x1' : 0 ≤ abX W n k j := x1
    have x2' : abX W n k j < k := x2
    have x3' : abT W n k (abI W n k j) (abX W n k j) := x3
    refine gX12_layAbsent_10 ⟨by rw [e2]; exact ⟨by omega, by omega⟩, ⟨by omega, by omega⟩, fun q => absurd q (by omega), fun _ => ?_⟩
    refine up_ind (P := fun c => ∀ M3, kp2 M M3 → M3 88 17 = j → (∀ t, 0 ≤ t → t < j → t < 40 → M3 100 t = abX W n k t) → wp 0 yX12_layAbsent 21 [some (Rv 88), some (Iv w), some (Iv (arC W k 0 n + 1)), some (Iv (abI W n k j)), some (Iv 0), some (Iv c), none] [] M3 Q) (a := 0) (n := abX W n k j) x1 (fun M3 o3 e3 c3 => ?_) (fun c c0 c1 ih2 M3 o3 e3 c3 => ?_) M2 o2 e2 c2
    · have nb2 := nx_b (W := W) (n := n) (x := abX W n k j) a1
      have i3 : inr (abX W n k j) := ⟨by omega, by omega⟩
      have bz := bh_z (W := W) (n := n) (c := abX W n k j) a1
      -- the letter is laid
      have lay : ∀ M4, kp2 M M4 → M4 88 17 = j → (∀ t, 0 ≤ t → t < j → t < 40 → M4 100 t = abX W n k t) → ∀ f g, (j + 1 < arC W k 0 n + 1 → f = abI W n k (j + 1) ∧ g = 0) → (40 ≤ j → wp 0 yX12_layAbsent 10 [some (Rv 88), some (Iv w), some (Iv (arC W k 0 n + 1)), some (Iv f), some (Iv g), none, none] [] (up M4 88 17 (j + 1)) Q) ∧ (j < 40 → wp 0 yX12_layAbsent 10 [some (Rv 88), some (Iv w), some (Iv (arC W k 0 n + 1)), some (Iv f), some (Iv g), none, none] [] (up (up M4 100 j (abX W n k j)) 88 17 (j + 1)) Q) := by
        intro M4 o4 e4 c4 f g hfg
        refine ⟨fun q => ih f g _ hfg ⟨fun a h1 h2 => by rw [up_ne h1]; exact o4.1 a h1 h2, fun p h1 h2 h3 => by rw [up_at, if_neg h1]; exact o4.2 p h1 h2 h3⟩ (by rw [up_at, if_pos rfl]) (fun t t0 t1 t2 => ?_), fun q => ih f g _ hfg ⟨fun a h1 h2 => by rw [up_ne h1, up_ne h2]; exact o4.1 a h1 h2, fun p h1 h2 h3 => by rw [up_at, if_neg h1, up_ne (by decide)]; exact o4.2 p h1 h2 h3⟩ (by rw [up_at, if_pos rfl]) (fun t t0 t1 t2 => ?_)⟩
        · rw [up_ne (by decide)]
          exact c4 t t0 (by omega) t2
        · rw [up_ne (by decide), up_at]
          by_cases ct : t = j
          · rw [if_pos ct, ct]
          · rw [if_neg ct]; exact c4 t t0 (by omega) t2
      have fin : ∀ M4, kp2 M M4 → M4 88 17 = j → (∀ t, 0 ≤ t → t < j → t < 40 → M4 100 t = abX W n k t) → cl 0 yX12_next [Rv 88, Iv w, Iv (abI W n k j), Iv (abX W n k j)] M4 (QI (fun z27 M27 => (inr z27 ∧ ((z27 ≠ (-9) → inr (M27 88 17) ∧ ((40 ≤ (M27 88 17) → wp 0 yX12_layAbsent 10 [some (Rv 88), some (Iv w), some (Iv (arC W k 0 n + 1)), some (Iv (z27 + 1)), some (Iv 0), none, none] [] (up M27 88 17 ((M27 88 17) + 1)) Q) ∧ ((M27 88 17) < 40 → 0 ≤ M27 88 17 ∧ (M27 88 17 < 40 ∧ (wp 0 yX12_layAbsent 10 [some (Rv 88), some (Iv w), some (Iv (arC W k 0 n + 1)), some (Iv (z27 + 1)), some (Iv 0), none, none] [] (up (up M27 100 (M27 88 17) (abX W n k j)) 88 17 ((M27 88 17) + 1)) Q))))) ∧ (z27 = (-9) → inr (M27 88 17) ∧ ((40 ≤ (M27 88 17) → wp 0 yX12_layAbsent 10 [some (Rv 88), some (Iv w), some (Iv (arC W k 0 n + 1)), some (Iv (abI W n k j)), some (Iv 1), none, none] [] (up M27 88 17 ((M27 88 17) + 1)) Q) ∧ ((M27 88 17) < 40 → 0 ≤ M27 88 17 ∧ (M27 88 17 < 40 ∧ (wp 0 yX12_layAbsent 10 [some (Rv 88), some (Iv w), some (Iv (arC W k 0 n + 1)), some (Iv (abI W n k j)), some (Iv 1), none, none] [] (up (up M27 100 (M27 88 17) (abX W n k j)) 88 17 ((M27 88 17) + 1)) Q))))))))) := by
        intro M4 o4 e4 c4
        refine m_nextW w0 w8 (o4.ln l) hb a1 (by omega) i3 ⟨⟨by omega, by omega⟩, fun q => ⟨by rw [e4]; exact ⟨by omega, by omega⟩, ?_⟩, fun q => ⟨by rw [e4]; exact ⟨by omega, by omega⟩, ?_⟩⟩
        · have := lay M4 o4 e4 c4 (nx W n (abI W n k j) (abX W n k j) + 1) 0 (fun _ => ⟨by rw [abI_s j0]; unfold bh; rw [if_neg q], rfl⟩)
          rw [e4]
          exact ⟨this.1, fun q2 => ⟨j0, q2, this.2 q2⟩⟩
        · have z0 := ar_none hb a1 a2 x1' x2' (bz.2 q)
          have := lay M4 o4 e4 c4 (abI W n k j) 1 (fun q2 => absurd q2 (by omega))
          rw [e4]
          exact ⟨this.1, fun q2 => ⟨j0, q2, this.2 q2⟩⟩
      refine gX12_layAbsent_21 ⟨by decide, fun q => absurd rfl q, fun _ => m_nextW w0 w8 (o3.ln l) hb a1 (by omega) i3 (eX12_hasAll ⟨⟨by omega, by omega⟩, fun q => ⟨fun _ => ⟨fun _ => fin M3 o3 e3 c3, fun q => absurd rfl q⟩, fun q => absurd rfl q⟩, fun q => ?_⟩)⟩
      have ek : M3 88 11 = k := by rw [o3.2 11 (by decide) (by decide) (by decide)]; exact hk
      have eb : bh W n (abI W n k j) (abX W n k j) = nx W n (abI W n k j) (abX W n k j) + 1 := by unfold bh; rw [if_neg q]
      have x3'' := x3'
      unfold abT at x3''
      rw [eb] at x3''
      have ab2 := ar_b hb (show 0 ≤ nx W n (abI W n k j) (abX W n k j) + 1 by omega) (show nx W n (abI W n k j) (abX W n k j) + 1 ≤ n by omega) (Int.le_refl n)
      refine m_arches w0 w8 (o3.ln l) hb ek (by omega) (by omega) (fun M4 o4 _ _ => ⟨⟨by omega, by omega⟩, by rw [e3]; exact ⟨by omega, by omega⟩, fun q2 => ⟨fun _ => ⟨fun _ => fin M4 ⟨fun a h1 h2 => by rw [o4.1 a h1]; exact o3.1 a h1 h2, fun p h1 h2 h3 => by rw [o4.2 p h2 h3]; exact o3.2 p h1 h2 h3⟩ (by rw [o4.2 17 (by decide) (by decide)]; exact e3) (fun t t0 t1 t2 => by rw [o4.1 100 (by decide)]; exact c3 t t0 t1 t2), fun q => absurd rfl q⟩, fun q => absurd rfl q⟩, fun q2 => ?_⟩)
      rw [e3] at q2
      exact absurd q2 (by omega)
    · have nt := x4 c c0 c1
      have nz : bh W n (abI W n k j) c ≠ 0 := fun q => nt (Or.inl q)
      have ge := ar_ge hb a1 a2 c0 (show c < k by omega) nz
      have nb2 := nx_b (W := W) (n := n) (x := c) a1
      have q : nx W n (abI W n k j) c ≠ -9 := fun q => nz ((bh_z a1).2 q)
      have eb : bh W n (abI W n k j) c = nx W n (abI W n k j) c + 1 := by unfold bh; rw [if_neg q]
      have ng : ¬ (arC W k (nx W n (abI W n k j) c + 1) n < arC W k (abI W n k j) n) := fun q2 => nt (Or.inr (by rw [eb]; exact q2))
      have ek : M3 88 11 = k := by rw [o3.2 11 (by decide) (by decide) (by decide)]; exact hk
      have ab2 := ar_b hb (show 0 ≤ nx W n (abI W n k j) c + 1 by omega) (show nx W n (abI W n k j) c + 1 ≤ n by omega) (Int.le_refl n)
      refine gX12_layAbsent_21 ⟨by decide, fun q => absurd rfl q, fun _ => m_nextW w0 w8 (o3.ln l) hb a1 (by omega) ⟨by omega, by omega⟩ (eX12_hasAll ⟨⟨by omega, by omega⟩, fun q2 => absurd q2 q, fun _ => m_arches w0 w8 (o3.ln l) hb ek (by omega) (by omega) (fun M4 o4 _ _ => ⟨⟨by omega, by omega⟩, by rw [e3]; exact ⟨by omega, by omega⟩, fun q2 => absurd q2 (by rw [e3]; omega), fun q2 => ⟨fun q => absurd q (by decide), fun _ => ih2 M4 ⟨fun a h1 h2 => by rw [o4.1 a h1]; exact o3.1 a h1 h2, fun p h1 h2 h3 => by rw [o4.2 p h2 h3]; exact o3.2 p h1 h2 h3⟩ (by rw [o4.2 17 (by decide) (by decide)]; exact e3) (fun t t0 t1 t2 => by rw [o4.1 100 (by decide)]; exact c3 t t0 t1 t2)⟩⟩)⟩)⟩
theorem sl_up {S : Mem} {a n j v : Int} {f : Int → Int} (h : a ≠ 0) : setLn (up S 0 j v) a n f = up (setLn S a n f) 0 j v := by
  funext b q
  by_cases hb : b = a
  · subst hb
    rw [up_ne h]
    unfold setLn
    rw [setA_eq, setA_eq]
  · rw [setLn_n hb]
    by_cases h0 : b = 0
    · subst h0
      rw [up_at, up_at, setLn_n hb]
    · rw [up_ne h0, up_ne h0, setLn_n hb]
theorem op_absent {S : Mem} (hW : WF S) {w r : Int} (hw : inr w) (hr : inr r) : OpOK S yX11_absent yX12_absent [Iv w, Iv r] Iv := by
  by_cases c1 : (w < 0 ∨ 8 ≤ w) ∨ (r < 0 ∨ 6 ≤ r)
  · refine ⟨-1, S, hW, fun M hX => eX11_absent ?_, fun M hY => eX12_absent ?_⟩
    · repeat' first
        | omega
        | exact px_rf hX _
        | exact px_fnd hX _ (by decide) (by decide)
        | refine c_noRow ?_ (fun q => ?_) (fun q => ?_)
        | refine c_noText ?_ (fun q => ?_) (fun q => ?_)
        | refine c_noWord ?_ (fun q => ?_) (fun q => ?_)
        | refine c_noLength ?_ (fun q => ?_) (fun q => ?_)
        | refine c_found (by decide) ?_
        | refine c_refuseRow hW hX ?_ (fun q => ?_) (fun q => ?_) (fun q => ?_)
        | refine c_refusePlace hW hX ?_ ?_ (fun q => ?_) (fun q => ?_) (fun q => ?_) (fun q => ?_)
        | refine c_refuseText hW hX ?_ (fun q => ?_) (fun q => ?_) (fun q => ?_)
        | refine c_refuseWords hW hX ?_ ?_ (fun q => ?_) (fun q => ?_) (fun q => ?_)
        | refine c_refuseWord hW hX ?_ (fun q => ?_) (fun q => ?_) (fun q => ?_)
        | refine c_has hL ?_ ?_ (fun q => ?_) (fun q => ?_)
        | refine c_isMissing hL ?_ (fun q => ?_) (fun q => ?_)
        | refine c_reaches hL ?_ ?_ (fun q => ?_) (fun q => ?_)
        | refine c_has hL2 ?_ ?_ (fun q => ?_) (fun q => ?_)
        | refine c_isMissing hL2 ?_ (fun q => ?_) (fun q => ?_)
        | refine c_reaches hL2 ?_ ?_ (fun q => ?_) (fun q => ?_)
        | refine c_is hWd ?_ ?_ (fun q => ?_) (fun q => ?_)
        | refine c_markOf hWd ?_ (fun q => ?_) (fun q => ?_)
        | with_reducible refine ⟨?_, ?_⟩
        | with_reducible intro q
    · repeat' first
        | omega
        | exact py_rf hY _
        | exact py_fnd hY _ (by decide) (by decide)
        | refine m_isRow ?_ (fun q => ?_) (fun q => ?_)
        | refine m_isText ?_ (fun q => ?_) (fun q => ?_)
        | refine m_isWord ?_ (fun q => ?_) (fun q => ?_)
        | refine m_in ?_ ?_ ?_ (fun q => ?_) (fun q => ?_)
        | refine m_meets (by decide) ?_
        | refine m_needWord hW hY ?_ ?_ (fun q => ?_) (fun q => ?_) (fun q => ?_)
        | refine m_needTwo hW hY ?_ ?_ ?_ (fun q => ?_) (fun q => ?_) (fun q => ?_)
        | refine m_isThere ?_ ?_ ?_ (fun q => ?_) (fun q => ?_)
        | refine m_at0 ?_ ?_ ?_
        | refine m_rowAt ?_ ?_ ?_
        | refine m_markOf ?_ ?_ ?_ (fun q => ?_) (fun q => ?_) (fun q => ?_)
        | with_reducible refine ⟨?_, ?_⟩
        | with_reducible intro q
  have w0 : 0 ≤ w := by omega
  have w8 : w < 8 := by omega
  have r0 : 0 ≤ r := by omega
  have r6 : r < 6 := by omega
  by_cases c3 : S (30 + w) (-1) < 0
  · refine ⟨-3, fS S 1, hW.fnd 1, fun M hX => eX11_absent ?_, fun M hY => eX12_absent ?_⟩
    · repeat' first
        | omega
        | exact px_rf hX _
        | exact px_fnd hX _ (by decide) (by decide)
        | refine c_noRow ?_ (fun q => ?_) (fun q => ?_)
        | refine c_noText ?_ (fun q => ?_) (fun q => ?_)
        | refine c_noWord ?_ (fun q => ?_) (fun q => ?_)
        | refine c_noLength ?_ (fun q => ?_) (fun q => ?_)
        | refine c_found (by decide) ?_
        | refine c_refuseRow hW hX ?_ (fun q => ?_) (fun q => ?_) (fun q => ?_)
        | refine c_refusePlace hW hX ?_ ?_ (fun q => ?_) (fun q => ?_) (fun q => ?_) (fun q => ?_)
        | refine c_refuseText hW hX ?_ (fun q => ?_) (fun q => ?_) (fun q => ?_)
        | refine c_refuseWords hW hX ?_ ?_ (fun q => ?_) (fun q => ?_) (fun q => ?_)
        | refine c_refuseWord hW hX ?_ (fun q => ?_) (fun q => ?_) (fun q => ?_)
        | refine c_has hL ?_ ?_ (fun q => ?_) (fun q => ?_)
        | refine c_isMissing hL ?_ (fun q => ?_) (fun q => ?_)
        | refine c_reaches hL ?_ ?_ (fun q => ?_) (fun q => ?_)
        | refine c_has hL2 ?_ ?_ (fun q => ?_) (fun q => ?_)
        | refine c_isMissing hL2 ?_ (fun q => ?_) (fun q => ?_)
        | refine c_reaches hL2 ?_ ?_ (fun q => ?_) (fun q => ?_)
        | refine c_is hWd ?_ ?_ (fun q => ?_) (fun q => ?_)
        | refine c_markOf hWd ?_ (fun q => ?_) (fun q => ?_)
        | with_reducible refine ⟨?_, ?_⟩
        | with_reducible intro q
    · repeat' first
        | omega
        | exact py_rf hY _
        | exact py_fnd hY _ (by decide) (by decide)
        | refine m_isRow ?_ (fun q => ?_) (fun q => ?_)
        | refine m_isText ?_ (fun q => ?_) (fun q => ?_)
        | refine m_isWord ?_ (fun q => ?_) (fun q => ?_)
        | refine m_in ?_ ?_ ?_ (fun q => ?_) (fun q => ?_)
        | refine m_meets (by decide) ?_
        | refine m_needWord hW hY ?_ ?_ (fun q => ?_) (fun q => ?_) (fun q => ?_)
        | refine m_needTwo hW hY ?_ ?_ ?_ (fun q => ?_) (fun q => ?_) (fun q => ?_)
        | refine m_isThere ?_ ?_ ?_ (fun q => ?_) (fun q => ?_)
        | refine m_at0 ?_ ?_ ?_
        | refine m_rowAt ?_ ?_ ?_
        | refine m_markOf ?_ ?_ ?_ (fun q => ?_) (fun q => ?_) (fun q => ?_)
        | with_reducible refine ⟨?_, ?_⟩
        | with_reducible intro q
  have bw := hW.wd w0 w8 (by omega)
  have n0 := bw.1
  have n1 := bw.2.1
  have k0 := bw.2.2.1
  have k1 := bw.2.2.2.1
  have ab := ar_b bw (Int.le_refl 0) n0 (Int.le_refl _)
  have nb := abN_b bw
  have xb : ∀ j, 0 ≤ j → j < abN (S (30 + w)) (S (30 + w) (-1)) (S 0 0) → inr (abX (S (30 + w)) (S (30 + w) (-1)) (S 0 0) j) := fun j j0 j1 => by
    obtain ⟨a1, a2, a3⟩ := ab_inv bw j.toNat (by omega)
    rw [show ((j.toNat : Nat) : Int) = j by omega] at a1 a2 a3
    have := abC_sp bw a1
    have h1 : 0 ≤ abX (S (30 + w)) (S (30 + w) (-1)) (S 0 0) j := this.1
    have h2 : abX (S (30 + w)) (S (30 + w) (-1)) (S 0 0) j < S 0 0 := this.2.1
    exact ⟨by omega, by omega⟩
  refine ⟨1 + arC (S (30 + w)) (S 0 0) 0 (S (30 + w) (-1)), setLn (up S 0 2 (hmA (S (30 + w)) (S (30 + w) (-1)) (S 0 0) 0)) (10 + r) (abN (S (30 + w)) (S (30 + w) (-1)) (S 0 0)) (abX (S (30 + w)) (S (30 + w) (-1)) (S 0 0)), (hW.scal 2 _ (by decide)).row r0 r6 (by omega) (by omega) xb, fun M hX => eX11_absent ?_, fun M hY => eX12_absent ?_⟩
  · refine c_noRow hr (fun q => absurd q (by omega)) (fun _ => ⟨fun _ => c_refuseWord hW hX hw (fun q => absurd q (by omega)) (fun q => absurd q (by omega)) (fun _ => ⟨by decide, fun _ => ⟨w0, w8, ?_⟩, fun q => absurd rfl q⟩), fun q => absurd rfl q⟩)
    rw [hX.2.2.2.1.1]
    refine c_readAbsent (isW_word w0 w8).l (hX.ln w0 w8) bw (fun M2 o2 s2 c2 => ⟨r0, r6, ?_⟩)
    have hX2 : X S M2 := o2.x hX (fun a a0 a1 => by unfold kX; omega)
    obtain ⟨d1, d2⟩ := c2 0 (Int.le_refl 0) n0
    rw [hX2.2.2.2.1.1, d1, d2]
    refine c_firstAbsent bw (s2.off (off.rf.upd (Int.le_refl 1) (Int.le_refl 1)) (by decide)) (fun i i0 i1 => by rw [up_ne (by decide)]; exact (c2 i i0 i1).1) (fun M3 o3 c3 => c_take (isL_row r0 r6) (m := 80) ⟨by decide, by decide, rfl⟩ (by omega) (by omega) (by omega) (by decide) ?_)
    have hX3 := o3.x (hX2.scal 2 (hmA (S (30 + w)) (S (30 + w) (-1)) (S 0 0) 0) (by decide) (by decide)) (fun a a0 a1 => by unfold kX; omega)
    exact ⟨rfl, hX3.tk r0 r6 c3, (((o2.fx (by decide) (by decide)).up (by omega)).tr (o3.fx (by decide) (by decide))).tk r0 r6⟩
  · have ek := hY.2.2.2.1.1
    refine m_isRow hr (fun q => absurd q (by omega)) (fun _ => m_needWord hW hY (Or.inr rfl) hw (fun q => absurd q (by omega)) (fun q => absurd q (by omega)) (fun _ => ⟨by decide, fun _ => m_arches w0 w8 (hY.ln w0 w8) bw ek (by decide) n0 (fun M2 o2 _ _ => ?_), fun q => absurd q (by decide)⟩))
    have hY2 : Y S M2 := o2.y hY
    refine m_layInner w0 w8 (hY2.ln w0 w8) bw hY2.2.2.2.1.1 (fun M3 o3 c3 => ?_)
    have hY3 : Y S M3 := o3.y hY2 (by decide)
    have tail : ∀ M4, kp2 M3 M4 → (∀ j, 0 ≤ j → j < abN (S (30 + w)) (S (30 + w) (-1)) (S 0 0) → M4 100 j = abX (S (30 + w)) (S (30 + w) (-1)) (S 0 0) j) → ∀ z t, z = abN (S (30 + w)) (S (30 + w) (-1)) (S 0 0) → (S 0 0 ^ (arC (S (30 + w)) (S 0 0) 0 (S (30 + w) (-1)) + 1).toNat - t = hmA (S (30 + w)) (S (30 + w) (-1)) (S 0 0) 0) → cl 0 yX12_comesToRow [Rv 88, Iv r] (up M4 88 17 z) (QV (fun M13 => (inr (M13 88 11) ∧ (cl 0 yX12_powerOf [Jv (M13 88 11), Iv (arC (S (30 + w)) (S 0 0) 0 (S (30 + w) (-1)) + 1)] M13 (QJ (fun z15 M15 => (cl 0 yX12_tellsMany [Rv 88, Jv (z15 - t), Iv (arC (S (30 + w)) (S 0 0) 0 (S (30 + w) (-1)) + 1)] M15 (QI (fun z16 M16 => (PY (setLn (up S 0 2 (hmA (S (30 + w)) (S (30 + w) (-1)) (S 0 0) 0)) (10 + r) (abN (S (30 + w)) (S (30 + w) (-1)) (S 0 0)) (abX (S (30 + w)) (S (30 + w) (-1)) (S 0 0))) (Iv (1 + arC (S (30 + w)) (S 0 0) 0 (S (30 + w) (-1)))) M (Iv z16) M16)))))))))) := by
      intro M4 o4 c4 z t hz ht
      have hY4 : Y S (up M4 88 17 z) := (o4.y hY3).up (by unfold kY; omega) (by omega)
      have fy4 : fry M (up M4 88 17 z) := ((o2.fy.tr (o3.fy (by decide))).tr o4.fy).up (by omega)
      have e17 : up M4 88 17 z 88 17 = abN (S (30 + w)) (S (30 + w) (-1)) (S 0 0) := by rw [up_at, if_pos rfl, hz]
      refine m_comesToRow r0 r6 (by rw [e17]; omega) (by rw [e17]; omega) ?_
      obtain ⟨-, p2, p3⟩ := py_ctr (f := abX (S (30 + w)) (S (30 + w) (-1)) (S 0 0)) hW hY4 fy4 r0 r6 e17 (by omega) (by omega) (fun j j0 j1 => by rw [up_ne (by decide)]; exact c4 j j0 j1) (Iv 0)
      show inr _ ∧ _
      have ek5 := p2.2.2.2.1.1
      rw [setLn_n (by omega)] at ek5
      rw [ek5]
      refine ⟨⟨by omega, by omega⟩, m_powerOf (by omega) (by omega) (m_tellsMany ?_)⟩
      rw [ht]
      refine ⟨by rw [Int.add_comm], ?_, p3.up (by omega)⟩
      rw [sl_up (by omega)]
      exact p2.scal 2 3 _ (by decide)
    show inr (_ + 1) ∧ _
    refine ⟨⟨by omega, by omega⟩, fun q => ⟨by omega, by omega, m_layAbsent w0 w8 (hY3.ln w0 w8) bw hY3.2.2.2.1.1 (fun M4 o4 c4 => ⟨fun _ => tail M4 o4 c4 _ _ ?_ ?_, fun q => absurd q (by omega)⟩)⟩, fun q => m_layAbsent w0 w8 (hY3.ln w0 w8) bw hY3.2.2.2.1.1 (fun M4 o4 c4 => ⟨fun q => absurd q (by omega), fun _ => tail M4 o4 c4 _ _ ?_ ?_⟩)⟩
    · unfold abN; rw [if_neg (by omega), Int.add_comm]
    · have := c3 0 (arC (S (30 + w)) (S 0 0) 0 (S (30 + w) (-1)) + 1) (by decide) n0 (by omega) q
      rw [show (41 : Int) * 0 + (arC (S (30 + w)) (S 0 0) 0 (S (30 + w) (-1)) + 1) = arC (S (30 + w)) (S 0 0) 0 (S (30 + w) (-1)) + 1 by omega] at this
      rw [this]
      rfl
    · unfold abN; rw [if_pos (by omega)]
    · unfold hmA
      rw [nn_z bw _ 0 _ (Int.le_refl 0) n0 (by omega) rfl]
