/-! which words a set has, in their order -/
def cwQ (x : Int) : Nat → (Int → Int) × Int
  | 0 => (zf, 0)
  | j + 1 => if x / 2 ^ j % 2 = 0 then cwQ x j else (gup (cwQ x j).1 (cwQ x j).2 j, (cwQ x j).2 + 1)
theorem cwQ_s {x : Int} {j : Nat} : cwQ x (j + 1) = if x / 2 ^ j % 2 = 0 then cwQ x j else (gup (cwQ x j).1 (cwQ x j).2 j, (cwQ x j).2 + 1) := rfl
def cwF (x j : Int) : Int → Int := (cwQ x j.toNat).1
def cwN (x j : Int) : Int := (cwQ x j.toNat).2
theorem cw_n {x j : Int} (j0 : 0 ≤ j) (h : x / 2 ^ j.toNat % 2 = 0) : cwF x (j + 1) = cwF x j ∧ cwN x (j + 1) = cwN x j := by
  unfold cwF cwN
  rw [show (j + 1).toNat = j.toNat + 1 by omega, cwQ_s, if_pos h]
  exact ⟨rfl, rfl⟩
theorem cw_y {x j : Int} (j0 : 0 ≤ j) (h : x / 2 ^ j.toNat % 2 ≠ 0) : cwF x (j + 1) = gup (cwF x j) (cwN x j) j ∧ cwN x (j + 1) = cwN x j + 1 := by
  unfold cwF cwN
  rw [show (j + 1).toNat = j.toNat + 1 by omega, cwQ_s, if_neg h, show ((j.toNat : Nat) : Int) = j by omega]
  exact ⟨rfl, rfl⟩
theorem cw_inv {x j : Int} (j0 : 0 ≤ j) : 0 ≤ cwN x j ∧ cwN x j = sm (fun t => x / 2 ^ t.toNat % 2) j ∧ ∀ s, 0 ≤ s → s < cwN x j → 0 ≤ cwF x j s ∧ cwF x j s < j ∧ x / 2 ^ (cwF x j s).toNat % 2 ≠ 0 := by
  refine dn_ind (P := fun j => 0 ≤ cwN x j ∧ cwN x j = sm (fun t => x / 2 ^ t.toNat % 2) j ∧ ∀ s, 0 ≤ s → s < cwN x j → 0 ≤ cwF x j s ∧ cwF x j s < j ∧ x / 2 ^ (cwF x j s).toNat % 2 ≠ 0) (a := 0) (n := j) j0 ⟨Int.le_refl 0, rfl, fun s s0 s1 => absurd s1 (by show ¬ s < 0; omega)⟩ (fun y y0 y1 ih => ?_)
  obtain ⟨i1, i2, i3⟩ := ih
  have e := sm_s (f := fun t => x / 2 ^ t.toNat % 2) (show 0 ≤ y - 1 by omega)
  rw [show y - 1 + 1 = y by omega] at e
  by_cases h : x / 2 ^ (y - 1).toNat % 2 = 0
  · have c := cw_n (show 0 ≤ y - 1 by omega) h
    rw [show y - 1 + 1 = y by omega] at c
    rw [c.1, c.2, e, h, Int.add_zero]
    exact ⟨i1, i2, fun s s0 s1 => by have := i3 s s0 s1; exact ⟨this.1, by omega, this.2.2⟩⟩
  · have c := cw_y (show 0 ≤ y - 1 by omega) h
    rw [show y - 1 + 1 = y by omega] at c
    have h1 : x / 2 ^ (y - 1).toNat % 2 = 1 := by omega
    rw [c.1, c.2, e, h1]
    refine ⟨by omega, by omega, fun s s0 s1 => ?_⟩
    by_cases q : s = cwN x (y - 1)
    · rw [gup_e q]; exact ⟨by omega, by omega, h⟩
    · rw [gup_n q]
      have := i3 s s0 (by omega)
      exact ⟨this.1, by omega, this.2.2⟩
theorem cw_mono {x i j : Int} (i0 : 0 ≤ i) (h : i ≤ j) : cwN x i ≤ cwN x j ∧ ∀ s, s < cwN x i → cwF x j s = cwF x i s := by
  refine dn_ind (P := fun j => cwN x i ≤ cwN x j ∧ ∀ s, s < cwN x i → cwF x j s = cwF x i s) (a := i) (n := j) h ⟨Int.le_refl _, fun _ _ => rfl⟩ (fun y y0 y1 ih => ?_)
  by_cases q : x / 2 ^ (y - 1).toNat % 2 = 0
  · have c := cw_n (show 0 ≤ y - 1 by omega) q
    rw [show y - 1 + 1 = y by omega] at c
    rw [c.1, c.2]
    exact ih
  · have c := cw_y (show 0 ≤ y - 1 by omega) q
    rw [show y - 1 + 1 = y by omega] at c
    rw [c.1, c.2]
    exact ⟨by omega, fun s s1 => by rw [gup_n (by omega)]; exact ih.2 s s1⟩
theorem cw_at {x j : Int} (j0 : 0 ≤ j) (j8 : j < 8) (h : x / 2 ^ j.toNat % 2 ≠ 0) : cwF x 8 (cwN x j) = j ∧ cwN x (j + 1) = cwN x j + 1 ∧ cwN x j < cwN x 8 := by
  have c := cw_y j0 h
  have m := cw_mono (x := x) (show 0 ≤ j + 1 by omega) (show j + 1 ≤ 8 by omega)
  rw [c.2] at m
  refine ⟨?_, c.2, by omega⟩
  rw [m.2 _ (by omega), c.1, gup_e rfl]
theorem cw_pos {x : Int} (h0 : 1 ≤ x) (h1 : x < 256) : 1 ≤ cwN x 8 := by
  have key : ∀ x : Fin 256, 1 ≤ x.val → 1 ≤ sm (fun t => (x.val : Int) / 2 ^ t.toNat % 2) 8 := by decide +kernel
  rw [(cw_inv (x := x) (j := 8) (by decide)).2.1]
  have := key ⟨x.toNat, by omega⟩ (by show 1 ≤ x.toNat; omega)
  rw [show (((⟨x.toNat, by omega⟩ : Fin 256).val : Nat) : Int) = x by show ((x.toNat : Nat) : Int) = x; omega] at this
  exact this
def thr (S : Mem) (x j : Int) : Prop := ∀ t, 0 ≤ t → t < j → x / 2 ^ t.toNat % 2 ≠ 0 → 0 ≤ S (30 + t) (-1)
def fL (S : Mem) (x s : Int) : Int → Int := S (30 + cwF x 8 s)
def fN (S : Mem) (x s : Int) : Int := S (30 + cwF x 8 s) (-1)
theorem fam_S {S : Mem} (hW : WF S) {x : Int} (h0 : 1 ≤ x) (h1 : x < 256) (h4 : cwN x 8 ≤ 4) (ht : thr S x 8) : fam (fL S x) (fN S x) (cwN x 8) (S 0 0) := by
  refine ⟨cw_pos h0 h1, h4, fun s s0 s1 => ?_⟩
  have := (cw_inv (x := x) (j := 8) (by decide)).2.2 s s0 s1
  exact hW.wd this.1 this.2.1 (ht _ this.1 this.2.1 this.2.2)
theorem X.sev {S M M1 : Mem} (h : X S M) (hk : ∀ a, kX a → a ≠ 23 → a ≠ -1 → M1 a = M a) (h8 : (M1 23 4 = -1 ∧ M1 (-1) 0 = 0) ∨ (M1 23 4 = 120 ∧ M1 (-1) 0 = 1)) : X S M1 := by
  obtain ⟨g1, g2, g3, g4, g5, g6, g7, -⟩ := h
  have k1 := hk 1 (by unfold kX; omega) (by decide) (by decide)
  have k5 := hk 5 (by unfold kX; omega) (by decide) (by decide)
  have k14 := hk 14 (by unfold kX; omega) (by decide) (by decide)
  have k31 := hk 31 (by unfold kX; omega) (by decide) (by decide)
  have k32 := hk 32 (by unfold kX; omega) (by decide) (by decide)
  have k33 := hk 33 (by unfold kX; omega) (by decide) (by decide)
  refine ⟨fun r q1 q2 => ?_, fun r q1 q2 => ?_, fun r q1 q2 => ?_, by rw [k1]; exact g4, by rw [k5]; exact g5, by rw [k31, k32, k33]; exact g6, by rw [k14]; exact g7, h8⟩
  · rw [hk (35 + 2 * r) (by unfold kX; omega) (by omega) (by omega), hk (35 + 2 * r + 1) (by unfold kX; omega) (by omega) (by omega)]; exact g1 r q1 q2
  · rw [hk (47 + 2 * r) (by unfold kX; omega) (by omega) (by omega), hk (47 + 2 * r + 1) (by unfold kX; omega) (by omega) (by omega)]; exact g2 r q1 q2
  · rw [hk (55 + 3 * r) (by unfold kX; omega) (by omega) (by omega), hk (55 + 3 * r + 1) (by unfold kX; omega) (by omega) (by omega), hk (55 + 3 * r + 1 + 1) (by unfold kX; omega) (by omega) (by omega)]; exact g3 r q1 q2
def kpR (M M2 : Mem) : Prop := (∀ a, a ≠ 23 → a ≠ 24 → a ≠ 25 → M2 a = M a) ∧ ∀ q, q ≠ 5 → q ≠ 6 → M2 23 q = M 23 q
theorem kpR.x {S M M2 : Mem} (h : kpR M M2) (hX : X S M) : X S M2 := hX.sev (fun a ka h1 h2 => h.1 a h1 (by unfold kX at ka; omega) (by unfold kX at ka; omega)) (by rw [h.2 4 (by decide) (by decide), h.1 (-1) (by decide) (by decide) (by decide)]; exact hX.2.2.2.2.2.2.2)
theorem kpR.fx {M M2 : Mem} (h : kpR M M2) : frx M M2 := ⟨fun a q1 q2 => h.1 a (by omega) (by omega) (by omega), h.1 0 (by decide) (by decide) (by decide), h.1 (-2) (by decide) (by decide) (by decide)⟩
def sevX (M : Mem) (L : Int → Int → Int) (N : Int → Int) (r : Int) : Prop := M 23 5 = r ∧ M 23 6 = st N r ∧ ∀ s, 0 ≤ s → s < r → M 25 s = st N s ∧ isL (M 24 s) 40 ∧ lnX M (M 24 s) (N s) (L s)
theorem c_refuseSet {S M : Mem} {x r : Int} {Q : Vl → Mem → Prop} (hW : WF S) (hX : X S M) (hx : inr x) (hr : inr r) (h1 : (r < 0 ∨ 6 ≤ r ∨ x < 1 ∨ 256 ≤ x ∨ 4 < cwN x 8) → Q (Iv (-1)) M) (h2 : (0 ≤ r ∧ r < 6 ∧ 1 ≤ x ∧ x < 256 ∧ cwN x 8 ≤ 4) → ¬ thr S x 8 → ∀ M2, kpR M M2 → Q (Iv (-3)) (fnd M2 1)) (h3 : (0 ≤ r ∧ r < 6 ∧ 1 ≤ x ∧ x < 256 ∧ cwN x 8 ≤ 4) → thr S x 8 → ∀ M2, kpR M M2 → sevX M2 (fL S x) (fN S x) (cwN x 8) → (st (fN S x) (cwN x 8) ≤ 20000 → Q (Iv 0) M2) ∧ (20000 < st (fN S x) (cwN x 8) → Q (Iv (-6)) M2)) : cl 0 yX11_refuseSet [Rv 1, Iv x, Iv r] M Q := by
  have pc : pcI x = cwN x 8 := ((cw_inv (x := x) (j := 8) (by decide)).2.1).symm
  refine eX11_refuseSet (c_noRow hr (fun q => ⟨fun _ => h1 (by omega), fun q2 => absurd q2 (by decide)⟩) (fun q => ⟨fun q2 => absurd rfl q2, fun _ => ⟨hx, fun q2 => h1 (by omega), fun q2 => ⟨fun q3 => h1 (by omega), fun q3 => c_bits (by omega) q3 ?_⟩⟩⟩))
  rw [pc]
  have c0 := (cw_inv (x := x) (j := 8) (by decide)).1
  have c8 : cwN x 8 ≤ 8 := by
    rw [← pc]
    have := (sm_bd (f := fun j => x / 2 ^ j.toNat % 2) (lo := 0) (hi := 1) (n := 8) (fun i i0 i1 => by omega)).2
    exact this
  refine ⟨⟨by omega, by omega⟩, fun h4 => eX5_begin ?_, fun h4 => h1 (by omega)⟩
  have good : 0 ≤ r ∧ r < 6 ∧ 1 ≤ x ∧ x < 256 ∧ cwN x 8 ≤ 4 := ⟨q.1, q.2, q2, q3, h4⟩
  show wp 0 yX11_refuseSet 38 _ _ _ _
  refine up_ind (P := fun j => ∀ M2, kpR M M2 → thr S x j → M2 23 5 = cwN x j → M2 23 6 = st (fN S x) (cwN x j) → (∀ s, 0 ≤ s → s < cwN x j → M2 25 s = st (fN S x) s ∧ M2 24 s = 55 + 3 * cwF x 8 s + 1) → wp 0 yX11_refuseSet 38 [some (Rv 1), some (Iv x), some (Iv r), some (Iv j)] [] M2 Q) (a := 0) (n := 8) (by decide) (fun M2 o2 ht e5 e6 c2 => ?_) (fun j j0 j1 ih M2 o2 ht e5 e6 c2 => ?_) _ ⟨fun a g1 g2 g3 => by rw [up_ne g1, up_ne g1], fun p g1 g2 => by rw [up_at, if_neg g2, up_at, if_neg g1]⟩ (fun t t0 t1 => absurd t1 (by omega)) (by rw [up_at, if_neg (by decide), up_at, if_pos rfl]; rfl) (by rw [up_at, if_pos rfl]; rfl) (fun s s0 s1 => absurd s1 (by show ¬ s < 0; omega))
  · have fm := fam_S hW good.2.2.1 good.2.2.2.1 h4 ht
    have sb := st_b fm.n fm.2.1 (show 0 ≤ cwN x 8 by omega) (Int.le_refl _)
    have sv : sevX M2 (fL S x) (fN S x) (cwN x 8) := ⟨e5, e6, fun s s0 s1 => by
      have ci := (cw_inv (x := x) (j := 8) (by decide)).2.2 s s0 s1
      obtain ⟨d1, d2⟩ := c2 s s0 s1
      rw [d2]
      exact ⟨d1, (isW_word ci.1 ci.2.1).l, (o2.x hX).ln ci.1 ci.2.1⟩⟩
    have fin := h3 good ht M2 o2 sv
    refine gX11_refuseSet_38 ⟨by decide, fun _ => eX5_states ?_, fun q => absurd q (by decide)⟩
    rw [e6]
    exact ⟨⟨by omega, by omega⟩, fin.1, fin.2⟩
  · have hX2 := o2.x hX
    refine gX11_refuseSet_38 ⟨⟨by omega, by omega⟩, fun q => absurd q (by omega), fun _ => ⟨hx, j0, by omega, ?_⟩⟩
    rw [show (2 : Int) ^ 1 = 2 from rfl]
    refine ⟨⟨by omega, by omega⟩, fun qb => ?_, fun qb => ?_⟩
    · obtain ⟨a1, a2, a3⟩ := cw_at j0 j1 qb
      have e1 := (hX2.2.2.1 j j0 j1).2.1
      have w := hW.2.2.1 j j0 j1
      have ci := (cw_inv (x := x) (j := j) j0).1
      refine c_isMissing (isW_word j0 j1).l (by rw [e1]; exact ⟨by omega, by omega⟩) (fun q4 => ⟨fun _ => eX5_choose (isW_word j0 j1).l ⟨by rw [e5]; omega, by rw [e5]; omega, ?_⟩, fun q => absurd rfl q⟩) (fun q4 => ⟨fun q => absurd q (by decide), fun _ => c_found (by decide) (h2 good (fun ht8 => ?_) M2 o2)⟩)
      · rw [e5, e6, up_ne (show (55 + 3 * j + 1 : Int) ≠ 25 by omega), up_ne (show (55 + 3 * j + 1 : Int) ≠ 24 by omega), e1]
        refine ih _ ⟨fun a g1 g2 g3 => by rw [up_ne g1, up_ne g1, up_ne g3, up_ne g2]; exact o2.1 a g1 g2 g3, fun p g1 g2 => by rw [up_at, if_neg g1, up_at, if_neg g2, up_ne (by decide), up_ne (by decide)]; exact o2.2 p g1 g2⟩ (fun t t0 t1 tb => ?_) (by rw [up_at, if_pos rfl, a2]) ?_ (fun s s0 s1 => ?_)
        · by_cases et : t = j
          · rw [et]; omega
          · exact ht t t0 (by omega) tb
        · rw [up_at, if_neg (by decide), up_at, if_pos rfl, a2, st_s ci]
          unfold fN
          rw [a1]
        · rw [a2] at s1
          rw [up_ne (by decide), up_ne (by decide), up_at, up_ne (show (24 : Int) ≠ 23 by decide), up_ne (show (24 : Int) ≠ 23 by decide), up_ne (show (24 : Int) ≠ 25 by decide), up_at, up_ne (show (25 : Int) ≠ 24 by decide)]
          by_cases es : s = cwN x j
          · rw [if_pos es, if_pos es, es, a1]
            exact ⟨rfl, rfl⟩
          · rw [if_neg es, if_neg es]
            exact c2 s s0 (by omega)
      · have := ht8 j j0 j1 qb
        omega
    · obtain ⟨a1, a2⟩ := cw_n j0 qb
      refine ih M2 o2 (fun t t0 t1 tb => ?_) (by rw [a2]; exact e5) (by rw [a2]; exact e6) (by rw [a2]; exact c2)
      by_cases et : t = j
      · rw [et] at tb; exact absurd qb tb
      · exact ht t t0 (by omega) tb
/-! the reference -/
def kpN (M M2 : Mem) : Prop := (∀ a, a ≠ 88 → a ≠ 113 → M2 a = M a) ∧ ∀ q, q ≠ 35 → M2 88 q = M 88 q
theorem kpN.y {S M M2 : Mem} (h : kpN M M2) (hY : Y S M) : Y S M2 := hY.same (fun a ka => h.1 a (by unfold kY at ka; omega) (by unfold kY at ka; omega)) (fun q hq => h.2 q (by omega))
theorem kpN.fy {M M2 : Mem} (h : kpN M M2) : fry M M2 := fun a ha => h.1 a (by omega) (by omega)
theorem m_bits {M : Mem} {x : Int} {Q : Vl → Mem → Prop} (hx : inr x) (h : Q (Iv (cwN x 8)) M) : cl 0 yX12_bits [Iv x] M Q := by
  rw [(cw_inv (x := x) (j := 8) (by decide)).2.1] at h
  refine eX12_bits ?_
  refine up_ind (P := fun j => wp 0 yX12_bits 4 [some (Iv x), some (Iv (sm (fun t => x / 2 ^ t.toNat % 2) j)), some (Iv j)] [] M Q) (a := 0) (n := 8) (by decide) ?_ (fun j j0 j1 ih => ?_)
  · exact gX12_bits_4 ⟨by decide, fun _ => h, fun q => absurd q (by decide)⟩
  · rw [sm_s j0] at ih
    refine gX12_bits_4 ⟨⟨by omega, by omega⟩, fun q => absurd q (by omega), fun _ => ⟨hx, j0, by omega, ?_⟩⟩
    rw [show (2 : Int) ^ 1 = 2 from rfl]
    exact ih
def sevY (M : Mem) (x r : Int) : Prop := M 88 35 = r ∧ ∀ s, 0 ≤ s → s < r → M 113 s = cwF x 8 s
theorem m_needSeveral {S M : Mem} {x r : Int} {Q : Vl → Mem → Prop} (hW : WF S) (hY : Y S M) (hx : inr x) (hr : inr r) (h1 : (r < 0 ∨ 6 ≤ r ∨ x < 1 ∨ 256 ≤ x ∨ 4 < cwN x 8) → Q (Iv (-1)) M) (h2 : (0 ≤ r ∧ r < 6 ∧ 1 ≤ x ∧ x < 256 ∧ cwN x 8 ≤ 4) → ¬ thr S x 8 → ∀ M2, kpN M M2 → Q (Iv (-3)) (mts M2 1)) (h3 : (0 ≤ r ∧ r < 6 ∧ 1 ≤ x ∧ x < 256 ∧ cwN x 8 ≤ 4) → thr S x 8 → ∀ M2, kpN M M2 → sevY M2 x (cwN x 8) → (st (fN S x) (cwN x 8) ≤ 20000 → Q (Iv 0) M2) ∧ (20000 < st (fN S x) (cwN x 8) → Q (Iv (-6)) M2)) : cl 0 yX12_needSeveral [Rv 88, Iv x, Iv r] M Q := by
  have c0 := (cw_inv (x := x) (j := 8) (by decide)).1
  have c8 : cwN x 8 ≤ 8 := by
    rw [(cw_inv (x := x) (j := 8) (by decide)).2.1]
    exact (sm_bd (f := fun j => x / 2 ^ j.toNat % 2) (lo := 0) (hi := 1) (n := 8) (fun i i0 i1 => by omega)).2
  refine eX12_needSeveral (m_in hx (by decide) (by decide) (fun q => ⟨fun _ => h1 (by omega), fun q2 => absurd rfl q2⟩) (fun q => ⟨fun q2 => absurd q2 (by decide), fun _ => m_bits hx ⟨⟨by omega, by omega⟩, fun q2 => h1 (by omega), fun h4 => m_isRow hr (fun q3 => ⟨fun q2 => absurd rfl q2, fun _ => h1 (by omega)⟩) (fun q3 => ⟨fun _ => ?_, fun q2 => absurd q2 (by decide)⟩)⟩⟩))
  have good : 0 ≤ r ∧ r < 6 ∧ 1 ≤ x ∧ x < 256 ∧ cwN x 8 ≤ 4 := ⟨q3.1, q3.2, by omega, by omega, h4⟩
  refine up_ind (P := fun j => ∀ x3 x4 M2, kpN M M2 → ((x4 = 1 ∧ thr S x j ∧ x3 = st (fN S x) (cwN x j)) ∨ (x4 = 0 ∧ ¬ thr S x 8)) → sevY M2 x (cwN x j) → wp 0 yX12_needSeveral 41 [some (Rv 88), some (Iv x), some (Iv r), some (Iv x3), some (Iv x4), some (Iv j)] [] M2 Q) (a := 0) (n := 8) (by decide) (fun x3 x4 M2 o2 hc sv => ?_) (fun j j0 j1 ih x3 x4 M2 o2 hc sv => ?_) 1 1 _ ⟨fun a g1 _ => up_ne g1, fun p g => by rw [up_at, if_neg g]⟩ (Or.inl ⟨rfl, fun t t0 t1 => absurd t1 (by omega), rfl⟩) ⟨by rw [up_at, if_pos rfl]; rfl, fun s s0 s1 => absurd s1 (by show ¬ s < 0; omega)⟩
  · rcases hc with ⟨e4, ht, e3⟩ | ⟨e4, ht⟩
    · have fm := fam_S hW good.2.2.1 good.2.2.2.1 h4 ht
      have sb := st_b fm.n fm.2.1 (show 0 ≤ cwN x 8 by omega) (Int.le_refl _)
      have fin := h3 good ht M2 o2 sv
      rw [e4, e3]
      exact gX12_needSeveral_41 ⟨by decide, fun _ => ⟨by decide, fun _ => ⟨⟨by omega, by omega⟩, fin.1, fin.2⟩, fun q => absurd q (by decide)⟩, fun q => absurd q (by decide)⟩
    · rw [e4]
      exact gX12_needSeveral_41 ⟨by decide, fun _ => ⟨by decide, fun q => absurd rfl q, fun _ => m_meets (by decide) (h2 good ht M2 o2)⟩, fun q => absurd q (by decide)⟩
  · have hY2 := o2.y hY
    have ci := (cw_inv (x := x) (j := j) j0).1
    refine gX12_needSeveral_41 ⟨⟨by omega, by omega⟩, fun q => absurd q (by omega), fun _ => eX12_has ⟨hx, j0, by omega, ?_⟩⟩
    rw [show (2 : Int) ^ 1 = 2 from rfl]
    refine ⟨⟨by omega, by omega⟩, fun qb => ⟨fun _ => ?_, fun q => absurd rfl q⟩, fun qb => ⟨fun q => absurd q (by decide), fun _ => ?_⟩⟩
    · obtain ⟨a1, a2⟩ := cw_n (x := x) j0 (by omega)
      refine ih x3 x4 M2 o2 ?_ (by rw [a2]; exact sv)
      rcases hc with ⟨e4, ht, e3⟩ | hc
      · refine Or.inl ⟨e4, fun t t0 t1 tb => ?_, by rw [a2]; exact e3⟩
        by_cases et : t = j
        · rw [et] at tb; omega
        · exact ht t t0 (by omega) tb
      · exact Or.inr hc
    · have qn : x / 2 ^ j.toNat % 2 ≠ 0 := by omega
      obtain ⟨a1, a2, a3⟩ := cw_at j0 j1 qn
      have e1 := (hY2.2.2.1 j j0 j1).2.1
      have w := hW.2.2.1 j j0 j1
      have go : ∀ y3 y4, ((y4 = 1 ∧ thr S x (j + 1) ∧ y3 = st (fN S x) (cwN x (j + 1))) ∨ (y4 = 0 ∧ ¬ thr S x 8)) → wp 0 yX12_needSeveral 41 [some (Rv 88), some (Iv x), some (Iv r), some (Iv y3), some (Iv y4), some (Iv (j + 1))] [] (up (up M2 113 (M2 88 35) j) 88 35 ((M2 88 35) + 1)) Q := by
        intro y3 y4 hy
        refine ih y3 y4 _ ⟨fun a g1 g2 => by rw [up_ne g1, up_ne g2]; exact o2.1 a g1 g2, fun p g => by rw [up_at, if_neg g, up_ne (by decide)]; exact o2.2 p g⟩ hy ⟨by rw [up_at, if_pos rfl, sv.1, a2], fun s s0 s1 => ?_⟩
        rw [a2] at s1
        rw [up_ne (by decide), up_at, sv.1]
        by_cases es : s = cwN x j
        · rw [if_pos es, es, a1]
        · rw [if_neg es]; exact sv.2 s s0 (by omega)
      rcases hc with ⟨e4, ht, e3⟩ | ⟨e4, ht⟩
      · rw [e4]
        refine ⟨by decide, fun q => absurd q (by decide), fun _ => m_isThere j0 j1 (by rw [e1]; exact ⟨by omega, by omega⟩) (fun q4 => ⟨fun _ => ⟨by rw [sv.1]; omega, by rw [sv.1]; omega, j0, go _ _ (Or.inr ⟨rfl, fun h8 => ?_⟩)⟩, fun q => absurd rfl q⟩) (fun q4 => ⟨fun q => absurd q (by decide), fun _ => ⟨by rw [sv.1]; omega, by rw [sv.1]; omega, j0, go _ _ (Or.inl ⟨rfl, fun t t0 t1 tb => ?_, ?_⟩)⟩⟩)⟩
        · have := h8 j j0 j1 qn
          omega
        · by_cases et : t = j
          · rw [et]; omega
          · exact ht t t0 (by omega) tb
        · rw [a2, st_s ci, e3, e1]
          unfold fN
          rw [a1]
      · rw [e4]
        exact ⟨by decide, fun _ => ⟨by rw [sv.1]; omega, by rw [sv.1]; omega, j0, go _ _ (Or.inr ⟨rfl, ht⟩)⟩, fun q => absurd rfl q⟩
