/-! Integer.bitCount of what is below 256 -/
def bcE (x0 : Int) : Int := (Int32.toInt (Int32.ofInt (((Int32.toInt (Int32.ofInt (((Int32.toInt (Int32.ofInt (x0 - (Int32.toInt (Int32.ofInt (Int32.toInt (((Int32.ofInt x0).toUInt32 >>> ((Int32.ofInt 1).toUInt32 &&& Int32.toUInt32 31)).toInt32)) &&& Int32.ofInt 1431655765))) &&& Int32.ofInt 858993459)) + (Int32.toInt (Int32.ofInt (Int32.toInt (((Int32.ofInt (x0 - (Int32.toInt (Int32.ofInt (Int32.toInt (((Int32.ofInt x0).toUInt32 >>> ((Int32.ofInt 1).toUInt32 &&& Int32.toUInt32 31)).toInt32)) &&& Int32.ofInt 1431655765)))).toUInt32 >>> ((Int32.ofInt 2).toUInt32 &&& Int32.toUInt32 31)).toInt32)) &&& Int32.ofInt 858993459))) + (Int32.toInt (((Int32.ofInt ((Int32.toInt (Int32.ofInt (x0 - (Int32.toInt (Int32.ofInt (Int32.toInt (((Int32.ofInt x0).toUInt32 >>> ((Int32.ofInt 1).toUInt32 &&& Int32.toUInt32 31)).toInt32)) &&& Int32.ofInt 1431655765))) &&& Int32.ofInt 858993459)) + (Int32.toInt (Int32.ofInt (Int32.toInt (((Int32.ofInt (x0 - (Int32.toInt (Int32.ofInt (Int32.toInt (((Int32.ofInt x0).toUInt32 >>> ((Int32.ofInt 1).toUInt32 &&& Int32.toUInt32 31)).toInt32)) &&& Int32.ofInt 1431655765)))).toUInt32 >>> ((Int32.ofInt 2).toUInt32 &&& Int32.toUInt32 31)).toInt32)) &&& Int32.ofInt 858993459)))).toUInt32 >>> ((Int32.ofInt 4).toUInt32 &&& Int32.toUInt32 31)).toInt32))) &&& Int32.ofInt 252645135)) + (Int32.toInt (((Int32.ofInt (Int32.toInt (Int32.ofInt (((Int32.toInt (Int32.ofInt (x0 - (Int32.toInt (Int32.ofInt (Int32.toInt (((Int32.ofInt x0).toUInt32 >>> ((Int32.ofInt 1).toUInt32 &&& Int32.toUInt32 31)).toInt32)) &&& Int32.ofInt 1431655765))) &&& Int32.ofInt 858993459)) + (Int32.toInt (Int32.ofInt (Int32.toInt (((Int32.ofInt (x0 - (Int32.toInt (Int32.ofInt (Int32.toInt (((Int32.ofInt x0).toUInt32 >>> ((Int32.ofInt 1).toUInt32 &&& Int32.toUInt32 31)).toInt32)) &&& Int32.ofInt 1431655765)))).toUInt32 >>> ((Int32.ofInt 2).toUInt32 &&& Int32.toUInt32 31)).toInt32)) &&& Int32.ofInt 858993459))) + (Int32.toInt (((Int32.ofInt ((Int32.toInt (Int32.ofInt (x0 - (Int32.toInt (Int32.ofInt (Int32.toInt (((Int32.ofInt x0).toUInt32 >>> ((Int32.ofInt 1).toUInt32 &&& Int32.toUInt32 31)).toInt32)) &&& Int32.ofInt 1431655765))) &&& Int32.ofInt 858993459)) + (Int32.toInt (Int32.ofInt (Int32.toInt (((Int32.ofInt (x0 - (Int32.toInt (Int32.ofInt (Int32.toInt (((Int32.ofInt x0).toUInt32 >>> ((Int32.ofInt 1).toUInt32 &&& Int32.toUInt32 31)).toInt32)) &&& Int32.ofInt 1431655765)))).toUInt32 >>> ((Int32.ofInt 2).toUInt32 &&& Int32.toUInt32 31)).toInt32)) &&& Int32.ofInt 858993459)))).toUInt32 >>> ((Int32.ofInt 4).toUInt32 &&& Int32.toUInt32 31)).toInt32))) &&& Int32.ofInt 252645135))).toUInt32 >>> ((Int32.ofInt 8).toUInt32 &&& Int32.toUInt32 31)).toInt32))) + (Int32.toInt (((Int32.ofInt ((Int32.toInt (Int32.ofInt (((Int32.toInt (Int32.ofInt (x0 - (Int32.toInt (Int32.ofInt (Int32.toInt (((Int32.ofInt x0).toUInt32 >>> ((Int32.ofInt 1).toUInt32 &&& Int32.toUInt32 31)).toInt32)) &&& Int32.ofInt 1431655765))) &&& Int32.ofInt 858993459)) + (Int32.toInt (Int32.ofInt (Int32.toInt (((Int32.ofInt (x0 - (Int32.toInt (Int32.ofInt (Int32.toInt (((Int32.ofInt x0).toUInt32 >>> ((Int32.ofInt 1).toUInt32 &&& Int32.toUInt32 31)).toInt32)) &&& Int32.ofInt 1431655765)))).toUInt32 >>> ((Int32.ofInt 2).toUInt32 &&& Int32.toUInt32 31)).toInt32)) &&& Int32.ofInt 858993459))) + (Int32.toInt (((Int32.ofInt ((Int32.toInt (Int32.ofInt (x0 - (Int32.toInt (Int32.ofInt (Int32.toInt (((Int32.ofInt x0).toUInt32 >>> ((Int32.ofInt 1).toUInt32 &&& Int32.toUInt32 31)).toInt32)) &&& Int32.ofInt 1431655765))) &&& Int32.ofInt 858993459)) + (Int32.toInt (Int32.ofInt (Int32.toInt (((Int32.ofInt (x0 - (Int32.toInt (Int32.ofInt (Int32.toInt (((Int32.ofInt x0).toUInt32 >>> ((Int32.ofInt 1).toUInt32 &&& Int32.toUInt32 31)).toInt32)) &&& Int32.ofInt 1431655765)))).toUInt32 >>> ((Int32.ofInt 2).toUInt32 &&& Int32.toUInt32 31)).toInt32)) &&& Int32.ofInt 858993459)))).toUInt32 >>> ((Int32.ofInt 4).toUInt32 &&& Int32.toUInt32 31)).toInt32))) &&& Int32.ofInt 252645135)) + (Int32.toInt (((Int32.ofInt (Int32.toInt (Int32.ofInt (((Int32.toInt (Int32.ofInt (x0 - (Int32.toInt (Int32.ofInt (Int32.toInt (((Int32.ofInt x0).toUInt32 >>> ((Int32.ofInt 1).toUInt32 &&& Int32.toUInt32 31)).toInt32)) &&& Int32.ofInt 1431655765))) &&& Int32.ofInt 858993459)) + (Int32.toInt (Int32.ofInt (Int32.toInt (((Int32.ofInt (x0 - (Int32.toInt (Int32.ofInt (Int32.toInt (((Int32.ofInt x0).toUInt32 >>> ((Int32.ofInt 1).toUInt32 &&& Int32.toUInt32 31)).toInt32)) &&& Int32.ofInt 1431655765)))).toUInt32 >>> ((Int32.ofInt 2).toUInt32 &&& Int32.toUInt32 31)).toInt32)) &&& Int32.ofInt 858993459))) + (Int32.toInt (((Int32.ofInt ((Int32.toInt (Int32.ofInt (x0 - (Int32.toInt (Int32.ofInt (Int32.toInt (((Int32.ofInt x0).toUInt32 >>> ((Int32.ofInt 1).toUInt32 &&& Int32.toUInt32 31)).toInt32)) &&& Int32.ofInt 1431655765))) &&& Int32.ofInt 858993459)) + (Int32.toInt (Int32.ofInt (Int32.toInt (((Int32.ofInt (x0 - (Int32.toInt (Int32.ofInt (Int32.toInt (((Int32.ofInt x0).toUInt32 >>> ((Int32.ofInt 1).toUInt32 &&& Int32.toUInt32 31)).toInt32)) &&& Int32.ofInt 1431655765)))).toUInt32 >>> ((Int32.ofInt 2).toUInt32 &&& Int32.toUInt32 31)).toInt32)) &&& Int32.ofInt 858993459)))).toUInt32 >>> ((Int32.ofInt 4).toUInt32 &&& Int32.toUInt32 31)).toInt32))) &&& Int32.ofInt 252645135))).toUInt32 >>> ((Int32.ofInt 8).toUInt32 &&& Int32.toUInt32 31)).toInt32)))).toUInt32 >>> ((Int32.ofInt 16).toUInt32 &&& Int32.toUInt32 31)).toInt32))) &&& Int32.ofInt 63))
def pcI (x : Int) : Int := sm (fun j => x / 2 ^ j.toNat % 2) 8
theorem bcE_t : ∀ x : Fin 256, bcE (x.val : Int) = pcI (x.val : Int) := by decide +kernel
theorem c_bits {x : Int} {M : Mem} {Q : Vl → Mem → Prop} (h0 : 0 ≤ x) (h1 : x < 256) (hq : Q (Iv (pcI x)) M) : cl 0 yJ6_bitCount_0f7a4 [Iv x] M Q := by
  have e := bcE_t ⟨x.toNat, by omega⟩
  rw [show (((⟨x.toNat, by omega⟩ : Fin 256).val : Nat) : Int) = x by show ((x.toNat : Nat) : Int) = x; omega] at e
  refine eJ6_bitCount_0f7a4 ?_
  show Q (Iv (bcE x)) M
  rw [e]
  exact hq
/-! 31 arches -/
def orI (s x : Int) : Int := ((Int.toNat s ||| Int.toNat (1 * 2 ^ Int.toNat x) : Nat) : Int)
theorem p2_cast (n : Nat) : (1 * 2 ^ n : Int) = ((2 ^ n : Nat) : Int) := by
  rw [Int.one_mul, Int.natCast_pow]
  rfl
theorem orI_b {s x k : Int} (s0 : 0 ≤ s) (s1 : s < 2 ^ k.toNat) (x0 : 0 ≤ x) (x1 : x < k) : 0 ≤ orI s x ∧ orI s x < 2 ^ k.toNat := by
  unfold orI
  rw [p2_cast]
  have e : ((2 : Int) ^ k.toNat) = ((2 ^ k.toNat : Nat) : Int) := by rw [Int.natCast_pow]; rfl
  rw [e] at s1 ⊢
  have h2 : 2 ^ x.toNat < 2 ^ k.toNat := Nat.pow_lt_pow_right (by decide) (by omega)
  have := Nat.or_lt_two_pow (x := s.toNat) (y := ((2 ^ x.toNat : Nat) : Int).toNat) (n := k.toNat) (by omega) (by omega)
  omega
def arS (W : Int → Int) (k p : Int) : Nat → Int × Int × Int
  | 0 => (0, p, 0)
  | t + 1 => if orI (arS W k p t).2.2 (W (p + t)) = 1 * 2 ^ k.toNat - 1 then ((arS W k p t).1 + 1, p + t + 1, 0) else ((arS W k p t).1, (arS W k p t).2.1, orI (arS W k p t).2.2 (W (p + t)))
theorem arS_s {W : Int → Int} {k p : Int} {t : Nat} : arS W k p (t + 1) = if orI (arS W k p t).2.2 (W (p + t)) = 1 * 2 ^ k.toNat - 1 then ((arS W k p t).1 + 1, p + t + 1, 0) else ((arS W k p t).1, (arS W k p t).2.1, orI (arS W k p t).2.2 (W (p + t))) := rfl
def arC (W : Int → Int) (k p i : Int) : Int := (arS W k p (i - p).toNat).1
def arF (W : Int → Int) (k p i : Int) : Int := (arS W k p (i - p).toNat).2.1
def arT (W : Int → Int) (k p i : Int) : Int := (arS W k p (i - p).toNat).2.2
theorem ar_0 {W : Int → Int} {k p : Int} : arC W k p p = 0 ∧ arF W k p p = p ∧ arT W k p p = 0 := by
  unfold arC arF arT
  rw [Int.sub_self]
  exact ⟨rfl, rfl, rfl⟩
theorem ar_n {W : Int → Int} {k p i : Int} (h : p ≤ i) (hc : orI (arT W k p i) (W i) ≠ 1 * 2 ^ k.toNat - 1) : arC W k p (i + 1) = arC W k p i ∧ arF W k p (i + 1) = arF W k p i ∧ arT W k p (i + 1) = orI (arT W k p i) (W i) := by
  unfold arC arF arT at *
  rw [show (i + 1 - p).toNat = (i - p).toNat + 1 by omega]
  rw [show W i = W (p + ((i - p).toNat : Int)) by congr 1; omega] at hc ⊢
  rw [arS_s, if_neg hc]
  exact ⟨rfl, rfl, rfl⟩
theorem ar_y {W : Int → Int} {k p i : Int} (h : p ≤ i) (hc : orI (arT W k p i) (W i) = 1 * 2 ^ k.toNat - 1) : arC W k p (i + 1) = arC W k p i + 1 ∧ arF W k p (i + 1) = i + 1 ∧ arT W k p (i + 1) = 0 := by
  unfold arC arF arT at *
  rw [show (i + 1 - p).toNat = (i - p).toNat + 1 by omega]
  rw [show W i = W (p + ((i - p).toNat : Int)) by congr 1; omega] at hc
  rw [arS_s, if_pos hc]
  exact ⟨rfl, by show p + ((i - p).toNat : Int) + 1 = i + 1; omega, rfl⟩
theorem ar_b {W : Int → Int} {n k p : Int} (b : wdB n W k) (p0 : 0 ≤ p) {i : Int} (h0 : p ≤ i) (h1 : i ≤ n) : 0 ≤ arC W k p i ∧ arC W k p i ≤ i - p ∧ p ≤ arF W k p i ∧ arF W k p i ≤ i ∧ 0 ≤ arT W k p i ∧ arT W k p i < 2 ^ k.toNat := by
  obtain ⟨n0, n1, k0, k1, hw⟩ := b
  refine dn_ind (P := fun i => i ≤ n → 0 ≤ arC W k p i ∧ arC W k p i ≤ i - p ∧ p ≤ arF W k p i ∧ arF W k p i ≤ i ∧ 0 ≤ arT W k p i ∧ arT W k p i < 2 ^ k.toNat) (a := p) (n := i) h0 (fun _ => ?_) (fun y y0 y1 ih hy => ?_) h1
  · obtain ⟨a1, a2, a3⟩ := ar_0 (W := W) (k := k) (p := p)
    have := p2_pos k.toNat
    exact ⟨by omega, by omega, by omega, by omega, by omega, by omega⟩
  · have h := ih (by omega)
    have hw' := hw (y - 1) (by omega) (by omega)
    have ob := orI_b (x := W (y - 1)) h.2.2.2.2.1 h.2.2.2.2.2 hw'.1 hw'.2
    have := p2_pos k.toNat
    by_cases c : orI (arT W k p (y - 1)) (W (y - 1)) = 1 * 2 ^ k.toNat - 1
    · have := ar_y (show p ≤ y - 1 by omega) c
      rw [show y - 1 + 1 = y by omega] at this
      exact ⟨by omega, by omega, by omega, by omega, by omega, by omega⟩
    · have := ar_n (show p ≤ y - 1 by omega) c
      rw [show y - 1 + 1 = y by omega] at this
      exact ⟨by omega, by omega, by omega, by omega, by omega, by omega⟩
theorem p2_64 {k : Int} (h : k ≤ 6) : (2 : Int) ^ k.toNat ≤ 64 := p2_le (b := 6) (by omega)
theorem c_arches {M : Mem} {a n k : Int} {W : Int → Int} {Q : Vl → Mem → Prop} (hl : isL a 40) (l : lnX M a n W) (b : wdB n W k) (hq : ∀ M2, off 15 15 M M2 → M2 15 0 = arC W k 0 n → M2 15 1 = n - arF W k 0 n → M2 15 2 = pcI (arT W k 0 n) → Q (Iv 0) M2) : cl 0 yX0_read [Rv 15, Rv a, Iv k] M Q := by
  have ha := hl.1
  have hb := b
  obtain ⟨n0, n1, k0, k1, hw⟩ := b
  have k64 := p2_64 k1
  refine eX0_read hl ⟨by omega, by omega, ?_⟩
  obtain ⟨z1, z2, z3⟩ := ar_0 (W := W) (k := k) (p := 0)
  have := up_ind (P := fun i => ∀ M2, off 15 15 M M2 → M2 15 0 = arC W k 0 i → M2 15 1 = i - arF W k 0 i → wp 0 yX0_read 22 [some (Rv 15), some (Rv a), some (Iv k), some (Iv ((1 * 2 ^ Int.toNat k) - 1)), some (Iv (arT W k 0 i)), some (Iv i)] [] M2 Q) (a := 0) (n := n) n0 (fun M2 o2 e0 e1 => ?_) (fun i i0 i1 ih M2 o2 e0 e1 => ?_) (up (up M 15 0 0) 15 1 0) ((off.rf.upd (Int.le_refl _) (Int.le_refl _)).upd (Int.le_refl _) (Int.le_refl _)) (by rw [up_at, if_neg (by decide), up_at, if_pos rfl, z1]) (by rw [up_at, if_pos rfl, z2]; rfl)
  · rw [z3] at this
    exact this
  · obtain ⟨e2, -⟩ := l.off o2 (by omega)
    have ab := ar_b hb (Int.le_refl 0) n0 (Int.le_refl n)
    refine gX0_read_22 hl ⟨⟨by omega, by omega⟩, ⟨by omega, by omega⟩, fun _ => c_bits (by omega) (by omega) ?_, fun q => absurd q (by omega)⟩
    refine hq _ (o2.upd (by decide) (by decide)) ?_ ?_ ?_
    · rw [up_at, if_neg (by decide)]; exact e0
    · rw [up_at, if_neg (by decide)]; exact e1
    · rw [up_at, if_pos rfl]
  · obtain ⟨e2, f2⟩ := l.off o2 (by omega)
    have fw := f2 i i0 i1
    have gw := hw i i0 i1
    have ab := ar_b hb (Int.le_refl 0) i0 (Int.le_of_lt i1)
    have ob := orI_b (x := W i) ab.2.2.2.2.1 ab.2.2.2.2.2 gw.1 gw.2
    have kp := p2_pos k.toNat
    refine gX0_read_22 hl ⟨⟨by omega, by omega⟩, ⟨by omega, by omega⟩, fun q => absurd q (by omega), fun _ => ⟨i0, by omega, by omega, by omega, by omega, ?_⟩⟩
    rw [fw]
    show (orI (arT W k 0 i) (W i) = _ ∨ (inr (orI (arT W k 0 i) (W i)) ∧ inr _)) ∧ ((orI (arT W k 0 i) (W i) ≠ _ → _) ∧ (orI (arT W k 0 i) (W i) = _ → _))
    refine ⟨Or.inr ⟨⟨by omega, by omega⟩, ⟨by omega, by omega⟩⟩, fun q => ?_, fun q => ?_⟩
    · obtain ⟨y1, y2, y3⟩ := ar_n i0 q
      have := ih (up M2 15 1 (M2 15 1 + 1)) (o2.upd (by decide) (by decide)) (by rw [up_at, if_neg (by decide), y1]; exact e0) (by rw [up_at, if_pos rfl, y2, e1]; omega)
      rw [y3] at this
      exact this
    · obtain ⟨y1, y2, y3⟩ := ar_y i0 q
      have := ih (up (up (up M2 15 1 (M2 15 1 + 1)) 15 0 (M2 15 0 + 1)) 15 1 0) (((o2.upd (by decide) (by decide)).upd (by decide) (by decide)).upd (by decide) (by decide)) (by rw [up_at, if_neg (by decide), up_at, if_pos rfl, y1, e0]) (by rw [up_at, if_pos rfl, y2]; omega)
      rw [y3] at this
      exact this
def kept88 (M M2 : Mem) : Prop := (∀ a, a ≠ 88 → M2 a = M a) ∧ ∀ q, q ≠ 27 → q ≠ 28 → M2 88 q = M 88 q
theorem m_arches {M : Mem} {w n k p : Int} {W : Int → Int} {Q : Vl → Mem → Prop} (w0 : 0 ≤ w) (w8 : w < 8) (l : lnY M w n W) (b : wdB n W k) (hk : M 88 11 = k) (p0 : 0 ≤ p) (p1 : p ≤ n) (hq : ∀ M2, kept88 M M2 → M2 88 27 = arF W k p n → M2 88 28 = arT W k p n → Q (Iv (arC W k p n)) M2) : cl 0 yX12_archesFrom [Rv 88, Iv w, Iv p] M Q := by
  have hb := b
  obtain ⟨n0, n1, k0, k1, hw⟩ := b
  have k64 := p2_64 k1
  refine eX12_archesFrom ?_
  obtain ⟨z1, z2, z3⟩ := ar_0 (W := W) (k := k) (p := p)
  have := up_ind (P := fun i => ∀ M2, kept88 M M2 → M2 88 27 = arF W k p i → M2 88 28 = arT W k p i → wp 0 yX12_archesFrom 15 [some (Rv 88), some (Iv w), some (Iv p), some (Iv (arC W k p i)), some (Iv i)] [] M2 Q) (a := p) (n := n) p1 (fun M2 o2 e0 e1 => ?_) (fun i i0 i1 ih M2 o2 e0 e1 => ?_) (up (up M 88 27 p) 88 28 0) ⟨fun a ha => by rw [up_ne ha, up_ne ha], fun q h1 h2 => by rw [up_at, if_neg h2, up_at, if_neg h1]⟩ (by rw [up_at, if_neg (by decide), up_at, if_pos rfl, z2]) (by rw [up_at, if_pos rfl, z3])
  · rw [z1] at this
    exact this
  · have e2 : M2 95 w = n := by rw [o2.1 95 (by decide)]; exact l.1
    exact gX12_archesFrom_15 ⟨w0, w8, ⟨by omega, by omega⟩, ⟨by omega, by omega⟩, fun _ => hq M2 o2 e0 e1, fun q => absurd q (by omega)⟩
  · have e2 : M2 95 w = n := by rw [o2.1 95 (by decide)]; exact l.1
    have fw : M2 96 (40 * w + i) = W i := by rw [o2.1 96 (by decide)]; exact l.2 i (by omega) i1
    have ek : M2 88 11 = k := by rw [o2.2 11 (by decide) (by decide)]; exact hk
    have gw := hw i (by omega) i1
    have ab := ar_b hb p0 i0 (Int.le_of_lt i1)
    have ob := orI_b (x := W i) ab.2.2.2.2.1 ab.2.2.2.2.2 gw.1 gw.2
    have kp := p2_pos k.toNat
    refine gX12_archesFrom_15 ⟨w0, w8, ⟨by omega, by omega⟩, ⟨by omega, by omega⟩, fun q => absurd q (by omega), fun _ => m_at0 (by omega) (by omega) ?_⟩
    rw [fw]
    refine ⟨by omega, by omega, by omega, by omega, by omega, ?_⟩
    rw [ek, e1]
    show (orI (arT W k p i) (W i) = _ ∨ (inr (orI (arT W k p i) (W i)) ∧ inr _)) ∧ ((orI (arT W k p i) (W i) ≠ _ → _) ∧ (orI (arT W k p i) (W i) = _ → _))
    refine ⟨Or.inr ⟨⟨by omega, by omega⟩, ⟨by omega, by omega⟩⟩, fun q => ?_, fun q => ?_⟩
    · obtain ⟨y1, y2, y3⟩ := ar_n i0 q
      have := ih (up M2 88 28 (orI (arT W k p i) (W i))) ⟨fun a ha => by rw [up_ne ha]; exact o2.1 a ha, fun q h1 h2 => by rw [up_at, if_neg h2]; exact o2.2 q h1 h2⟩ (by rw [up_at, if_neg (by decide), y2]; exact e0) (by rw [up_at, if_pos rfl, y3])
      rw [y1] at this
      exact this
    · obtain ⟨y1, y2, y3⟩ := ar_y i0 q
      have := ih (up (up (up M2 88 28 (orI (arT W k p i) (W i))) 88 27 (i + 1)) 88 28 0) ⟨fun a ha => by rw [up_ne ha, up_ne ha, up_ne ha]; exact o2.1 a ha, fun q h1 h2 => by rw [up_at, if_neg h2, up_at, if_neg h1, up_at, if_neg h2]; exact o2.2 q h1 h2⟩ (by rw [up_at, if_neg (by decide), up_at, if_pos rfl, y2]) (by rw [up_at, if_pos rfl, y3])
      rw [y1] at this
      exact this
theorem kept88.y {S M M2 : Mem} (h : kept88 M M2) (hY : Y S M) : Y S M2 := hY.same (fun a ka => h.1 a (by unfold kY at ka; omega)) (fun q hq => h.2 q (by omega) (by omega))
theorem kept88.fy {M M2 : Mem} (h : kept88 M M2) : fry M M2 := fun a ha => h.1 a (by omega)
theorem op_arches {S : Mem} (hW : WF S) {w : Int} (hw : inr w) : OpOK S yX11_arches yX12_arches [Iv w] Iv := by
  by_cases c1 : w < 0 ∨ 8 ≤ w
  · refine ⟨-1, S, hW, fun M hX => eX11_arches ?_, fun M hY => eX12_arches ?_⟩
    · repeat' first
        | omega
        | exact px_rf hX _
        | exact px_fnd hX _ (by decide) (by decide)
        | refine c_noRow ?_ (fun q => ?_) (fun q => ?_)
        | refine c_noText ?_ (fun q => ?_) (fun q => ?_)
        | refine c_noWord ?_ (fun q => ?_) (fun q => ?_)
        | refine c_noLength ?_ (fun q => ?_) (fun q => ?_)
        | refine c_found (by decide) ?_
        | refine c_refuseRow hW hX ?_ (fun q => ?_) (fun q => ?_) (fun q => ?_)
        | refine c_refusePlace hW hX ?_ ?_ (fun q => ?_) (fun q => ?_) (fun q => ?_) (fun q => ?_)
        | refine c_refuseText hW hX ?_ (fun q => ?_) (fun q => ?_) (fun q => ?_)
        | refine c_refuseWords hW hX ?_ ?_ (fun q => ?_) (fun q => ?_) (fun q => ?_)
        | refine c_refuseWord hW hX ?_ (fun q => ?_) (fun q => ?_) (fun q => ?_)
        | refine c_has hL ?_ ?_ (fun q => ?_) (fun q => ?_)
        | refine c_isMissing hL ?_ (fun q => ?_) (fun q => ?_)
        | refine c_reaches hL ?_ ?_ (fun q => ?_) (fun q => ?_)
        | refine c_has hL2 ?_ ?_ (fun q => ?_) (fun q => ?_)
        | refine c_isMissing hL2 ?_ (fun q => ?_) (fun q => ?_)
        | refine c_reaches hL2 ?_ ?_ (fun q => ?_) (fun q => ?_)
        | refine c_is hWd ?_ ?_ (fun q => ?_) (fun q => ?_)
        | refine c_markOf hWd ?_ (fun q => ?_) (fun q => ?_)
        | with_reducible refine ⟨?_, ?_⟩
        | with_reducible intro q
    · repeat' first
        | omega
        | exact py_rf hY _
        | exact py_fnd hY _ (by decide) (by decide)
        | refine m_isRow ?_ (fun q => ?_) (fun q => ?_)
        | refine m_isText ?_ (fun q => ?_) (fun q => ?_)
        | refine m_isWord ?_ (fun q => ?_) (fun q => ?_)
        | refine m_in ?_ ?_ ?_ (fun q => ?_) (fun q => ?_)
        | refine m_meets (by decide) ?_
        | refine m_needWord hW hY ?_ ?_ (fun q => ?_) (fun q => ?_) (fun q => ?_)
        | refine m_needTwo hW hY ?_ ?_ ?_ (fun q => ?_) (fun q => ?_) (fun q => ?_)
        | refine m_isThere ?_ ?_ ?_ (fun q => ?_) (fun q => ?_)
        | refine m_at0 ?_ ?_ ?_
        | refine m_rowAt ?_ ?_ ?_
        | refine m_markOf ?_ ?_ ?_ (fun q => ?_) (fun q => ?_) (fun q => ?_)
        | with_reducible refine ⟨?_, ?_⟩
        | with_reducible intro q
  have w0 : 0 ≤ w := by omega
  have w8 : w < 8 := by omega
  by_cases c3 : S (30 + w) (-1) < 0
  · refine ⟨-3, fS S 1, hW.fnd 1, fun M hX => eX11_arches ?_, fun M hY => eX12_arches ?_⟩
    · repeat' first
        | omega
        | exact px_rf hX _
        | exact px_fnd hX _ (by decide) (by decide)
        | refine c_noRow ?_ (fun q => ?_) (fun q => ?_)
        | refine c_noText ?_ (fun q => ?_) (fun q => ?_)
        | refine c_noWord ?_ (fun q => ?_) (fun q => ?_)
        | refine c_noLength ?_ (fun q => ?_) (fun q => ?_)
        | refine c_found (by decide) ?_
        | refine c_refuseRow hW hX ?_ (fun q => ?_) (fun q => ?_) (fun q => ?_)
        | refine c_refusePlace hW hX ?_ ?_ (fun q => ?_) (fun q => ?_) (fun q => ?_) (fun q => ?_)
        | refine c_refuseText hW hX ?_ (fun q => ?_) (fun q => ?_) (fun q => ?_)
        | refine c_refuseWords hW hX ?_ ?_ (fun q => ?_) (fun q => ?_) (fun q => ?_)
        | refine c_refuseWord hW hX ?_ (fun q => ?_) (fun q => ?_) (fun q => ?_)
        | refine c_has hL ?_ ?_ (fun q => ?_) (fun q => ?_)
        | refine c_isMissing hL ?_ (fun q => ?_) (fun q => ?_)
        | refine c_reaches hL ?_ ?_ (fun q => ?_) (fun q => ?_)
        | refine c_has hL2 ?_ ?_ (fun q => ?_) (fun q => ?_)
        | refine c_isMissing hL2 ?_ (fun q => ?_) (fun q => ?_)
        | refine c_reaches hL2 ?_ ?_ (fun q => ?_) (fun q => ?_)
        | refine c_is hWd ?_ ?_ (fun q => ?_) (fun q => ?_)
        | refine c_markOf hWd ?_ (fun q => ?_) (fun q => ?_)
        | with_reducible refine ⟨?_, ?_⟩
        | with_reducible intro q
    · repeat' first
        | omega
        | exact py_rf hY _
        | exact py_fnd hY _ (by decide) (by decide)
        | refine m_isRow ?_ (fun q => ?_) (fun q => ?_)
        | refine m_isText ?_ (fun q => ?_) (fun q => ?_)
        | refine m_isWord ?_ (fun q => ?_) (fun q => ?_)
        | refine m_in ?_ ?_ ?_ (fun q => ?_) (fun q => ?_)
        | refine m_meets (by decide) ?_
        | refine m_needWord hW hY ?_ ?_ (fun q => ?_) (fun q => ?_) (fun q => ?_)
        | refine m_needTwo hW hY ?_ ?_ ?_ (fun q => ?_) (fun q => ?_) (fun q => ?_)
        | refine m_isThere ?_ ?_ ?_ (fun q => ?_) (fun q => ?_)
        | refine m_at0 ?_ ?_ ?_
        | refine m_rowAt ?_ ?_ ?_
        | refine m_markOf ?_ ?_ ?_ (fun q => ?_) (fun q => ?_) (fun q => ?_)
        | with_reducible refine ⟨?_, ?_⟩
        | with_reducible intro q
  have bw := hW.wd w0 w8 (by omega)
  have n0 := bw.1
  refine ⟨arC (S (30 + w)) (S 0 0) 0 (S (30 + w) (-1)), up S 0 1 (S (30 + w) (-1) - arF (S (30 + w)) (S 0 0) 0 (S (30 + w) (-1))), hW.scal 1 _ (by decide), fun M hX => eX11_arches ?_, fun M hY => eX12_arches ?_⟩
  · refine c_refuseWord hW hX hw (fun q => absurd q (by omega)) (fun q => absurd q (by omega)) (fun _ => ⟨by decide, fun _ => ⟨w0, w8, ?_⟩, fun q => absurd rfl q⟩)
    rw [hX.2.2.2.1.1]
    refine c_arches (isW_word w0 w8).l (hX.ln w0 w8) bw (fun M2 o2 e0 e1 _ => ?_)
    show PX _ _ _ (Iv (M2 15 0)) (up M2 1 4 (M2 15 1))
    rw [e0, e1]
    exact ⟨rfl, (o2.x hX (fun a a0 a1 => by unfold kX; omega)).scal 1 _ (by decide) (by decide), (o2.fx (by decide) (by decide)).up (by omega)⟩
  · refine m_needWord hW hY (Or.inr rfl) hw (fun q => absurd q (by omega)) (fun q => absurd q (by omega)) (fun _ => ⟨by decide, fun _ => m_arches w0 w8 (hY.ln w0 w8) bw hY.2.2.2.1.1 (by decide) n0 (fun M2 o2 e0 e1 => ⟨w0, w8, ?_⟩), fun q => absurd q (by decide)⟩)
    rw [o2.1 95 (by decide), (hY.ln w0 w8).1, e0]
    exact m_tells ⟨rfl, (o2.y hY).scal 1 2 _ (by decide), o2.fy.up (by omega)⟩
/-! 33 added -/
theorem pc_k : ∀ k : Fin 7, ∀ x : Fin 64, x.val < 2 ^ k.val → sm (fun j => (x.val : Int) / 2 ^ j.toNat % 2) k.val = pcI (x.val : Int) := by decide +kernel
theorem pc_eq {k x : Int} (k0 : 0 ≤ k) (k1 : k ≤ 6) (x0 : 0 ≤ x) (x1 : x < 2 ^ k.toNat) : sm (fun j => x / 2 ^ j.toNat % 2) k = pcI x := by
  have e : ((2 : Int) ^ k.toNat) = ((2 ^ k.toNat : Nat) : Int) := by rw [Int.natCast_pow]; rfl
  have h64 := p2_64 k1
  have := pc_k ⟨k.toNat, by omega⟩ ⟨x.toNat, by omega⟩ (by show x.toNat < 2 ^ k.toNat; omega)
  rw [show (((⟨x.toNat, by omega⟩ : Fin 64).val : Nat) : Int) = x by show ((x.toNat : Nat) : Int) = x; omega, show (((⟨k.toNat, by omega⟩ : Fin 7).val : Nat) : Int) = k by show ((k.toNat : Nat) : Int) = k; omega] at this
  exact this
theorem op_added {S : Mem} (hW : WF S) {w d : Int} (hw : inr w) (hd : inr d) : OpOK S yX11_added yX12_added [Iv w, Iv d] Iv := by
  by_cases c1 : (w < 0 ∨ 8 ≤ w) ∨ (d < 0 ∨ 40 < d)
  · refine ⟨-1, S, hW, fun M hX => eX11_added ?_, fun M hY => eX12_added ?_⟩
    · repeat' first
        | omega
        | exact px_rf hX _
        | exact px_fnd hX _ (by decide) (by decide)
        | refine c_noRow ?_ (fun q => ?_) (fun q => ?_)
        | refine c_noText ?_ (fun q => ?_) (fun q => ?_)
        | refine c_noWord ?_ (fun q => ?_) (fun q => ?_)
        | refine c_noLength ?_ (fun q => ?_) (fun q => ?_)
        | refine c_found (by decide) ?_
        | refine c_refuseRow hW hX ?_ (fun q => ?_) (fun q => ?_) (fun q => ?_)
        | refine c_refusePlace hW hX ?_ ?_ (fun q => ?_) (fun q => ?_) (fun q => ?_) (fun q => ?_)
        | refine c_refuseText hW hX ?_ (fun q => ?_) (fun q => ?_) (fun q => ?_)
        | refine c_refuseWords hW hX ?_ ?_ (fun q => ?_) (fun q => ?_) (fun q => ?_)
        | refine c_refuseWord hW hX ?_ (fun q => ?_) (fun q => ?_) (fun q => ?_)
        | refine c_has hL ?_ ?_ (fun q => ?_) (fun q => ?_)
        | refine c_isMissing hL ?_ (fun q => ?_) (fun q => ?_)
        | refine c_reaches hL ?_ ?_ (fun q => ?_) (fun q => ?_)
        | refine c_has hL2 ?_ ?_ (fun q => ?_) (fun q => ?_)
        | refine c_isMissing hL2 ?_ (fun q => ?_) (fun q => ?_)
        | refine c_reaches hL2 ?_ ?_ (fun q => ?_) (fun q => ?_)
        | refine c_is hWd ?_ ?_ (fun q => ?_) (fun q => ?_)
        | refine c_markOf hWd ?_ (fun q => ?_) (fun q => ?_)
        | with_reducible refine ⟨?_, ?_⟩
        | with_reducible intro q
    · repeat' first
        | omega
        | exact py_rf hY _
        | exact py_fnd hY _ (by decide) (by decide)
        | refine m_isRow ?_ (fun q => ?_) (fun q => ?_)
        | refine m_isText ?_ (fun q => ?_) (fun q => ?_)
        | refine m_isWord ?_ (fun q => ?_) (fun q => ?_)
        | refine m_in ?_ ?_ ?_ (fun q => ?_) (fun q => ?_)
        | refine m_meets (by decide) ?_
        | refine m_needWord hW hY ?_ ?_ (fun q => ?_) (fun q => ?_) (fun q => ?_)
        | refine m_needTwo hW hY ?_ ?_ ?_ (fun q => ?_) (fun q => ?_) (fun q => ?_)
        | refine m_isThere ?_ ?_ ?_ (fun q => ?_) (fun q => ?_)
        | refine m_at0 ?_ ?_ ?_
        | refine m_rowAt ?_ ?_ ?_
        | refine m_markOf ?_ ?_ ?_ (fun q => ?_) (fun q => ?_) (fun q => ?_)
        | with_reducible refine ⟨?_, ?_⟩
        | with_reducible intro q
  have w0 : 0 ≤ w := by omega
  have w8 : w < 8 := by omega
  by_cases c3 : S (30 + w) (-1) < 0
  · refine ⟨-3, fS S 1, hW.fnd 1, fun M hX => eX11_added ?_, fun M hY => eX12_added ?_⟩
    · repeat' first
        | omega
        | exact px_rf hX _
        | exact px_fnd hX _ (by decide) (by decide)
        | refine c_noRow ?_ (fun q => ?_) (fun q => ?_)
        | refine c_noText ?_ (fun q => ?_) (fun q => ?_)
        | refine c_noWord ?_ (fun q => ?_) (fun q => ?_)
        | refine c_noLength ?_ (fun q => ?_) (fun q => ?_)
        | refine c_found (by decide) ?_
        | refine c_refuseRow hW hX ?_ (fun q => ?_) (fun q => ?_) (fun q => ?_)
        | refine c_refusePlace hW hX ?_ ?_ (fun q => ?_) (fun q => ?_) (fun q => ?_) (fun q => ?_)
        | refine c_refuseText hW hX ?_ (fun q => ?_) (fun q => ?_) (fun q => ?_)
        | refine c_refuseWords hW hX ?_ ?_ (fun q => ?_) (fun q => ?_) (fun q => ?_)
        | refine c_refuseWord hW hX ?_ (fun q => ?_) (fun q => ?_) (fun q => ?_)
        | refine c_has hL ?_ ?_ (fun q => ?_) (fun q => ?_)
        | refine c_isMissing hL ?_ (fun q => ?_) (fun q => ?_)
        | refine c_reaches hL ?_ ?_ (fun q => ?_) (fun q => ?_)
        | refine c_has hL2 ?_ ?_ (fun q => ?_) (fun q => ?_)
        | refine c_isMissing hL2 ?_ (fun q => ?_) (fun q => ?_)
        | refine c_reaches hL2 ?_ ?_ (fun q => ?_) (fun q => ?_)
        | refine c_is hWd ?_ ?_ (fun q => ?_) (fun q => ?_)
        | refine c_markOf hWd ?_ (fun q => ?_) (fun q => ?_)
        | with_reducible refine ⟨?_, ?_⟩
        | with_reducible intro q
    · repeat' first
        | omega
        | exact py_rf hY _
        | exact py_fnd hY _ (by decide) (by decide)
        | refine m_isRow ?_ (fun q => ?_) (fun q => ?_)
        | refine m_isText ?_ (fun q => ?_) (fun q => ?_)
        | refine m_isWord ?_ (fun q => ?_) (fun q => ?_)
        | refine m_in ?_ ?_ ?_ (fun q => ?_) (fun q => ?_)
        | refine m_meets (by decide) ?_
        | refine m_needWord hW hY ?_ ?_ (fun q => ?_) (fun q => ?_) (fun q => ?_)
        | refine m_needTwo hW hY ?_ ?_ ?_ (fun q => ?_) (fun q => ?_) (fun q => ?_)
        | refine m_isThere ?_ ?_ ?_ (fun q => ?_) (fun q => ?_)
        | refine m_at0 ?_ ?_ ?_
        | refine m_rowAt ?_ ?_ ?_
        | refine m_markOf ?_ ?_ ?_ (fun q => ?_) (fun q => ?_) (fun q => ?_)
        | with_reducible refine ⟨?_, ?_⟩
        | with_reducible intro q
  have bw := hW.wd w0 w8 (by omega)
  have n0 := bw.1
  have n1 := bw.2.1
  have k0 := bw.2.2.1
  have k1 := bw.2.2.2.1
  have ab := ar_b bw (Int.le_refl 0) n0 (Int.le_refl _)
  have k64 := p2_64 k1
  refine ⟨if d ≤ arC (S (30 + w)) (S 0 0) 0 (S (30 + w) (-1)) then 0 else (d - arC (S (30 + w)) (S 0 0) 0 (S (30 + w) (-1))) * S 0 0 - pcI (arT (S (30 + w)) (S 0 0) 0 (S (30 + w) (-1))), S, hW, fun M hX => eX11_added ?_, fun M hY => eX12_added ?_⟩
  · refine c_noLength hd (fun q => absurd q (by omega)) (fun q => ⟨fun _ => c_refuseWord hW hX hw (fun q => absurd q (by omega)) (fun q => absurd q (by omega)) (fun _ => ⟨by decide, fun _ => ⟨w0, w8, ?_⟩, fun q => absurd rfl q⟩), fun q => absurd rfl q⟩)
    rw [hX.2.2.2.1.1]
    refine c_arches (isW_word w0 w8).l (hX.ln w0 w8) bw (fun M2 o2 e0 e1 e2 => ?_)
    show cl 0 yX0_toClose _ _ _
    rw [o2 1 (by omega), hX.2.2.2.1.1]
    have px : ∀ v, PX S (Iv v) M (Iv v) M2 := fun v => ⟨rfl, o2.x hX (fun a a0 a1 => by unfold kX; omega), o2.fx (by decide) (by decide)⟩
    refine eX0_toClose ⟨hd, ⟨by omega, by omega⟩, fun q => ?_, fun q => ?_⟩
    · rw [if_neg (by omega), e0, e2]
      exact px _
    · rw [if_pos (by omega)]
      exact px _
  · refine m_in hd (by decide) (by decide) (fun q => absurd q (by omega)) (fun _ => m_needWord hW hY (Or.inr rfl) hw (fun q => absurd q (by omega)) (fun q => absurd q (by omega)) (fun _ => ⟨by decide, fun _ => m_arches w0 w8 (hY.ln w0 w8) bw hY.2.2.2.1.1 (by decide) n0 (fun M2 o2 e0 e1 => ?_), fun q => absurd q (by decide)⟩))
    have ek : M2 88 11 = S 0 0 := by rw [o2.2 11 (by decide) (by decide)]; exact hY.2.2.2.1.1
    show wp 0 yX12_added 36 _ _ _ _
    rw [ek]
    have py : ∀ v z, z = v → PY S (Iv v) M (Iv z) M2 := fun v z e => by rw [e]; exact ⟨rfl, o2.y hY, o2.fy⟩
    have := up_ind (P := fun x => wp 0 yX12_added 36 [some (Rv 88), some (Iv w), some (Iv d), some (Iv 0), some (Iv (arC (S (30 + w)) (S 0 0) 0 (S (30 + w) (-1)))), some (Iv (S 0 0 - sm (fun j => arT (S (30 + w)) (S 0 0) 0 (S (30 + w) (-1)) / 2 ^ j.toNat % 2) x)), some (Iv x)] [] M2 (PY S (Iv (if d ≤ arC (S (30 + w)) (S 0 0) 0 (S (30 + w) (-1)) then 0 else (d - arC (S (30 + w)) (S 0 0) 0 (S (30 + w) (-1))) * S 0 0 - pcI (arT (S (30 + w)) (S 0 0) 0 (S (30 + w) (-1))))) M)) (a := 0) (n := S 0 0) (by omega) ?_ (fun x x0 x1 ih => ?_)
    · rw [sm_0, Int.sub_zero] at this
      exact this
    · refine gX12_added_36 ⟨⟨by omega, by omega⟩, ⟨by omega, by omega⟩, fun _ => ⟨⟨by omega, by omega⟩, hd, fun q => py _ _ ?_, fun q => py _ _ ?_⟩, fun q => absurd q (by omega)⟩
      · rw [if_neg (by omega), ek, pc_eq (by omega) k1 ab.2.2.2.2.1 ab.2.2.2.2.2]
        have e : (d - arC (S (30 + w)) (S 0 0) 0 (S (30 + w) (-1)) - 1) * S 0 0 = (d - arC (S (30 + w)) (S 0 0) 0 (S (30 + w) (-1))) * S 0 0 - S 0 0 := by rw [Int.sub_mul (d - arC (S (30 + w)) (S 0 0) 0 (S (30 + w) (-1))) 1 (S 0 0), Int.one_mul]
        rw [e]
        omega
      · rw [if_pos q]
    · rw [sm_s x0] at ih
      refine gX12_added_36 ⟨⟨by omega, by omega⟩, ⟨by omega, by omega⟩, fun q => absurd q (by omega), fun _ => eX12_has ⟨⟨by omega, by omega⟩, x0, by omega, ?_⟩⟩
      rw [e1, show (2 : Int) ^ 1 = 2 from rfl]
      refine ⟨⟨by omega, by omega⟩, fun q => ⟨fun _ => ?_, fun q => absurd rfl q⟩, fun q => ⟨fun q => absurd q (by decide), fun _ => ?_⟩⟩
      · rw [show arT (S (30 + w)) (S 0 0) 0 (S (30 + w) (-1)) / 2 ^ x.toNat % 2 = 0 by omega, Int.add_zero] at ih
        rw [Int.sub_zero]
        exact ih
      · rw [q] at ih
        rw [Int.sub_sub]
        exact ih
