/-! working cells: what a call leaves alone -/
def off (lo hi : Int) (M M2 : Mem) : Prop := ∀ b, (b < lo ∨ hi < b) → M2 b = M b
theorem off.rf {lo hi : Int} {M : Mem} : off lo hi M M := fun _ _ => rfl
theorem off.tr {lo hi : Int} {M M2 M3 : Mem} (h : off lo hi M M2) (h2 : off lo hi M2 M3) : off lo hi M M3 := fun b q => (h2 b q).trans (h b q)
theorem off.upd {lo hi a k v : Int} {M M2 : Mem} (h : off lo hi M M2) (h0 : lo ≤ a) (h1 : a ≤ hi) : off lo hi M (up M2 a k v) := fun b q => by rw [up_ne (by omega)]; exact h b q
theorem off.set {lo hi a : Int} {f : Int → Int} {M M2 : Mem} (h : off lo hi M M2) (h0 : lo ≤ a) (h1 : a ≤ hi) : off lo hi M (setA M2 a f) := fun b q => by rw [setA_ne (by omega)]; exact h b q
theorem off.wd {lo hi lo2 hi2 : Int} {M M2 : Mem} (h : off lo hi M M2) (h0 : lo2 ≤ lo) (h1 : hi ≤ hi2) : off lo2 hi2 M M2 := fun b q => h b (by omega)
theorem off.x {lo hi : Int} {S M M2 : Mem} (h : off lo hi M M2) (hX : X S M) (hk : ∀ a, lo ≤ a → a ≤ hi → ¬ kX a) : X S M2 := hX.same (fun a ka => by
  by_cases c : lo ≤ a ∧ a ≤ hi
  · exact absurd ka (hk a c.1 c.2)
  · exact h a (by omega))
theorem off.y {lo hi : Int} {S M M2 : Mem} (h : off lo hi M M2) (hY : Y S M) (h0 : 100 ≤ lo) : Y S M2 := hY.same (fun a ka => h a (by unfold kY at ka; omega)) (fun k _ => by rw [h 88 (by omega)])
theorem off.fx {lo hi : Int} {M M2 : Mem} (h : off lo hi M M2) (h0 : 1 ≤ lo) (h1 : hi ≤ 87) : frx M M2 := ⟨fun a q1 q2 => h a (by omega), h 0 (by omega), h (-2) (by omega)⟩
theorem off.fy {lo hi : Int} {M M2 : Mem} (h : off lo hi M M2) (h0 : 88 ≤ lo) : fry M M2 := fun a q => h a (by omega)
/-! words as functions -/
def lnX (M : Mem) (a n : Int) (W : Int → Int) : Prop := M a 1 = n ∧ ∀ i, 0 ≤ i → i < n → M (a + 1) i = W i
def lnY (M : Mem) (w n : Int) (W : Int → Int) : Prop := M 95 w = n ∧ ∀ i, 0 ≤ i → i < n → M 96 (40 * w + i) = W i
def wdB (n : Int) (W : Int → Int) (k : Int) : Prop := 0 ≤ n ∧ n ≤ 40 ∧ 1 ≤ k ∧ k ≤ 6 ∧ ∀ i, 0 ≤ i → i < n → 0 ≤ W i ∧ W i < k
theorem X.ln {S M : Mem} (h : X S M) {w : Int} (h0 : 0 ≤ w) (h1 : w < 8) : lnX M (55 + 3 * w + 1) (S (30 + w) (-1)) (S (30 + w)) := (h.2.2.1 w h0 h1).2
theorem Y.ln {S M : Mem} (h : Y S M) {w : Int} (h0 : 0 ≤ w) (h1 : w < 8) : lnY M w (S (30 + w) (-1)) (S (30 + w)) := (h.2.2.1 w h0 h1).2
theorem WF.wd {S : Mem} (h : WF S) {w : Int} (h0 : 0 ≤ w) (h1 : w < 8) (h2 : 0 ≤ S (30 + w) (-1)) : wdB (S (30 + w) (-1)) (S (30 + w)) (S 0 0) := ⟨h2, (h.2.2.1 w h0 h1).2.2.1, h.2.2.2.1, h.2.2.2.2, (h.2.2.1 w h0 h1).2.2.2⟩
theorem lnX.off {M M2 : Mem} {a n lo hi : Int} {W : Int → Int} (h : lnX M a n W) (ho : off lo hi M M2) (h1 : a + 1 < lo ∨ hi < a) : lnX M2 a n W := by
  unfold lnX
  rw [ho a (by omega), ho (a + 1) (by omega)]
  exact h
theorem lnY.off {M M2 : Mem} {a n lo hi : Int} {W : Int → Int} (h : lnY M a n W) (ho : off lo hi M M2) (h1 : 96 < lo) : lnY M2 a n W := by
  unfold lnY
  rw [ho 95 (by omega), ho 96 (by omega)]
  exact h
/-! 23 ways -/
def wyN (W V : Int → Int) : Nat → Nat → Int
  | _, 0 => 1
  | 0, _ + 1 => 0
  | i + 1, j + 1 => wyN W V i (j + 1) + if W i = V j then wyN W V i j else 0
def wy (W V : Int → Int) (i j : Int) : Int := wyN W V i.toNat j.toNat
theorem wy_z {W V : Int → Int} {i : Int} : wy W V i 0 = 1 := by
  unfold wy
  show wyN W V i.toNat 0 = 1
  unfold wyN
  rfl
theorem wy_0 {W V : Int → Int} {j : Int} (h : 0 < j) : wy W V 0 j = 0 := by
  unfold wy
  rw [show j.toNat = (j.toNat - 1) + 1 by omega]
  show wyN W V 0 _ = 0
  unfold wyN
  rfl
theorem wy_s {W V : Int → Int} {i j : Int} (hi : 0 ≤ i) (h : 0 < j) : wy W V (i + 1) j = wy W V i j + if W i = V (j - 1) then wy W V i (j - 1) else 0 := by
  unfold wy
  rw [show (j - 1).toNat = j.toNat - 1 by omega, show (i + 1).toNat = i.toNat + 1 by omega, show j.toNat = (j.toNat - 1) + 1 by omega]
  show wyN W V i.toNat (j.toNat - 1 + 1) + (if W (i.toNat : Int) = V ((j.toNat - 1 : Nat) : Int) then wyN W V i.toNat (j.toNat - 1) else 0) = _
  rw [show ((i.toNat : Nat) : Int) = i by omega, show ((j.toNat - 1 : Nat) : Int) = j - 1 by omega, show j.toNat - 1 + 1 - 1 = j.toNat - 1 by omega]
theorem p2_pos (n : Nat) : (1 : Int) ≤ 2 ^ n := by
  induction n with
  | zero => decide
  | succ n ih => rw [Int.pow_succ]; omega
theorem p2_le {a b : Nat} (h : a ≤ b) : (2 : Int) ^ a ≤ 2 ^ b := by
  obtain ⟨c, rfl⟩ := Nat.exists_eq_add_of_le h
  clear h
  induction c with
  | zero => exact Int.le_refl _
  | succ c ih =>
    have := p2_pos (a + c)
    rw [← Nat.add_assoc, Int.pow_succ]
    omega
theorem wyN_b {W V : Int → Int} : ∀ i j : Nat, 0 ≤ wyN W V i j ∧ wyN W V i j ≤ 2 ^ i := by
  intro i
  induction i with
  | zero =>
    intro j
    cases j with
    | zero => unfold wyN; exact ⟨by decide, by decide⟩
    | succ j => unfold wyN; exact ⟨by decide, by decide⟩
  | succ i ih =>
    intro j
    cases j with
    | zero =>
      unfold wyN
      exact ⟨by decide, p2_pos _⟩
    | succ j =>
      unfold wyN
      have h1 := ih (j + 1)
      have h2 := ih j
      have e : (2 : Int) ^ (i + 1) = 2 ^ i * 2 := Int.pow_succ 2 i
      rw [e]
      split <;> omega
theorem wy_b {W V : Int → Int} {i j : Int} (hi : i ≤ 40) : 0 ≤ wy W V i j ∧ wy W V i j ≤ 1099511627776 := by
  have h := wyN_b (W := W) (V := V) i.toNat j.toNat
  have h2 : (2 : Int) ^ i.toNat ≤ 2 ^ 40 := p2_le (by omega)
  have e : (2 : Int) ^ 40 = 1099511627776 := by decide
  unfold wy
  omega
theorem c_countWays {M : Mem} {a1 a2 nw nv k : Int} {W V : Int → Int} {Q : Vl → Mem → Prop} (h1 : isL a1 40) (h2 : isL a2 40) (l1 : lnX M a1 nw W) (l2 : lnX M a2 nv V) (b1 : wdB nw W k) (b2 : wdB nv V k) (hq : ∀ M2, off 13 13 M M2 → Q (Jv (wy W V nw nv)) M2) : cl 0 yX7_countWays [Rv 10, Rv a1, Rv a2] M Q := by
  have ha1 := h1.1
  have ha2 := h2.1
  obtain ⟨n0, n1, k0, k1, hw⟩ := b1
  obtain ⟨m0, m1, -, -, hv⟩ := b2
  have outer : ∀ M2, off 13 13 M M2 → (∀ j, 0 ≤ j → j ≤ nv → M2 13 j = wy W V 0 j) → wp 0 yX7_countWays 32 [some (Rv 10), some (Rv a1), some (Rv a2), some (Iv 0), none] [] M2 Q := by
    refine up_ind (P := fun i => ∀ M2, off 13 13 M M2 → (∀ j, 0 ≤ j → j ≤ nv → M2 13 j = wy W V i j) → wp 0 yX7_countWays 32 [some (Rv 10), some (Rv a1), some (Rv a2), some (Iv i), none] [] M2 Q) (a := 0) (n := nw) n0 (fun M2 o2 c2 => ?_) (fun i i0 i1 ih M2 o2 c2 => ?_)
    · obtain ⟨e1, -⟩ := l1.off o2 (by omega)
      obtain ⟨e2, -⟩ := l2.off o2 (by omega)
      refine gX7_countWays_32 h1 h2 ⟨⟨by omega, by omega⟩, ⟨by omega, by omega⟩, fun _ => ⟨by omega, by omega, ?_⟩, fun q => absurd q (by omega)⟩
      rw [e2, c2 nv m0 (by omega)]
      exact hq M2 o2
    · obtain ⟨e1, -⟩ := l1.off o2 (by omega)
      obtain ⟨e2, -⟩ := l2.off o2 (by omega)
      refine gX7_countWays_32 h1 h2 ⟨⟨by omega, by omega⟩, ⟨by omega, by omega⟩, fun q => absurd q (by omega), fun _ => ?_⟩
      rw [e2]
      have inner : ∀ M3, off 13 13 M M3 → (∀ j, 0 ≤ j → j ≤ nv → M3 13 j = if nv < j then wy W V (i + 1) j else wy W V i j) → wp 0 yX7_countWays 46 [some (Rv 10), some (Rv a1), some (Rv a2), some (Iv i), some (Iv nv)] [] M3 Q := by
        refine dn_ind (P := fun x => ∀ M3, off 13 13 M M3 → (∀ j, 0 ≤ j → j ≤ nv → M3 13 j = if x < j then wy W V (i + 1) j else wy W V i j) → wp 0 yX7_countWays 46 [some (Rv 10), some (Rv a1), some (Rv a2), some (Iv i), some (Iv x)] [] M3 Q) (a := 0) (n := nv) m0 (fun M3 o3 c3 => ?_) (fun x x0 x1 ih2 M3 o3 c3 => ?_)
        · refine gX7_countWays_46 h1 h2 ⟨by decide, fun _ => ih M3 o3 (fun j j0 j1 => ?_), fun q => absurd q (by decide)⟩
          rw [c3 j j0 j1]
          split
          · rfl
          · rw [show j = 0 by omega, wy_z, wy_z]
        · have f1 := (l1.off o3 (by omega)).2 i i0 i1
          have f2 := (l2.off o3 (by omega)).2 (x - 1) (by omega) (by omega)
          have g1 := hw i i0 i1
          have g2 := hv (x - 1) (by omega) (by omega)
          refine gX7_countWays_46 h1 h2 ⟨⟨by omega, by omega⟩, fun q => absurd q (by omega), fun _ => ⟨i0, by omega, ⟨by omega, by omega⟩, by omega, by omega, ⟨by omega, by omega⟩, Or.inr ⟨⟨by omega, by omega⟩, ⟨by omega, by omega⟩⟩, fun q => ?_, fun q => ⟨by omega, by omega, by omega, ?_⟩⟩⟩
          · refine ih2 M3 o3 (fun j j0 j1 => ?_)
            rw [c3 j j0 j1]
            by_cases c : x < j
            · rw [if_pos c, if_pos (by omega)]
            by_cases c' : j = x
            · rw [if_neg c, if_pos (by omega), wy_s i0 (by omega), if_neg (by rw [c', ← f1, ← f2]; exact q), Int.add_zero]
            · rw [if_neg c, if_neg (by omega)]
          · refine ih2 _ (o3.upd (by decide) (by decide)) (fun j j0 j1 => ?_)
            rw [up_at]
            by_cases c' : j = x
            · rw [if_pos c', if_pos (by omega), c3 x (by omega) x1, if_neg (by omega), c3 (x - 1) (by omega) (by omega), if_neg (by omega), c', wy_s i0 (by omega), if_pos (by rw [← f1, ← f2]; exact q)]
            · rw [if_neg c', c3 j j0 j1]
              by_cases c : x < j
              · rw [if_pos c, if_pos (by omega)]
              · rw [if_neg c, if_neg (by omega)]
      exact inner M2 o2 (fun j j0 j1 => by rw [if_neg (by omega)]; exact c2 j j0 j1)
  have fill : ∀ M2, off 13 13 M M2 → (∀ j, 0 ≤ j → j < 1 → M2 13 j = wy W V 0 j) → wp 0 yX7_countWays 9 [some (Rv 10), some (Rv a1), some (Rv a2), some (Iv 1), none] [] M2 Q := by
    refine up_ind (P := fun x => ∀ M2, off 13 13 M M2 → (∀ j, 0 ≤ j → j < x → M2 13 j = wy W V 0 j) → wp 0 yX7_countWays 9 [some (Rv 10), some (Rv a1), some (Rv a2), some (Iv x), none] [] M2 Q) (a := 1) (n := nv + 1) (by omega) (fun M2 o2 c2 => ?_) (fun x x0 x1 ih M2 o2 c2 => ?_)
    · obtain ⟨e2, -⟩ := l2.off o2 (by omega)
      exact gX7_countWays_9 h1 h2 ⟨⟨by omega, by omega⟩, ⟨by omega, by omega⟩, fun _ => outer M2 o2 (fun j j0 j1 => c2 j j0 (by omega)), fun q => absurd q (by omega)⟩
    · obtain ⟨e2, -⟩ := l2.off o2 (by omega)
      refine gX7_countWays_9 h1 h2 ⟨⟨by omega, by omega⟩, ⟨by omega, by omega⟩, fun q => absurd q (by omega), fun _ => ⟨by omega, by omega, ih _ (o2.upd (by decide) (by decide)) (fun j j0 j1 => ?_)⟩⟩
      rw [up_at]
      by_cases c : j = x
      · rw [if_pos c, wy_0 (by omega)]
      · rw [if_neg c]; exact c2 j j0 (by omega)
  refine eX7_countWays h1 h2 (fill _ (off.rf.upd (by decide) (by decide)) (fun j j0 j1 => ?_))
  rw [up_at, if_pos (by omega), show j = 0 by omega, wy_z]
theorem m_layWays {M : Mem} {w v nw nv k : Int} {W V : Int → Int} {Q : Vl → Mem → Prop} (w0 : 0 ≤ w) (w8 : w < 8) (v0 : 0 ≤ v) (v8 : v < 8) (l1 : lnY M w nw W) (l2 : lnY M v nv V) (b1 : wdB nw W k) (b2 : wdB nv V k) (hq : ∀ M2, off 103 103 M M2 → (∀ j, 0 ≤ j → j ≤ nv → M2 103 j = wy W V nw j) → Q (Iv 0) M2) : cl 0 yX12_layWays [Rv 88, Iv w, Iv v] M Q := by
  obtain ⟨n0, n1, k0, k1, hw⟩ := b1
  obtain ⟨m0, m1, -, -, hv⟩ := b2
  have outer : ∀ M2, off 103 103 M M2 → (∀ j, 0 ≤ j → j ≤ nv → M2 103 j = wy W V 0 j) → wp 0 yX12_layWays 31 [some (Rv 88), some (Iv w), some (Iv v), some (Iv 0), none] [] M2 Q := by
    refine up_ind (P := fun i => ∀ M2, off 103 103 M M2 → (∀ j, 0 ≤ j → j ≤ nv → M2 103 j = wy W V i j) → wp 0 yX12_layWays 31 [some (Rv 88), some (Iv w), some (Iv v), some (Iv i), none] [] M2 Q) (a := 0) (n := nw) n0 (fun M2 o2 c2 => ?_) (fun i i0 i1 ih M2 o2 c2 => ?_)
    · obtain ⟨e1, -⟩ := l1.off o2 (by omega)
      exact gX12_layWays_31 ⟨w0, w8, ⟨by omega, by omega⟩, ⟨by omega, by omega⟩, fun _ => hq M2 o2 c2, fun q => absurd q (by omega)⟩
    · obtain ⟨e1, -⟩ := l1.off o2 (by omega)
      obtain ⟨e2, -⟩ := l2.off o2 (by omega)
      refine gX12_layWays_31 ⟨w0, w8, ⟨by omega, by omega⟩, ⟨by omega, by omega⟩, fun q => absurd q (by omega), fun _ => ⟨v0, v8, ?_⟩⟩
      rw [e2]
      have inner : ∀ M3, off 103 103 M M3 → (∀ j, 0 ≤ j → j ≤ nv → M3 103 j = if nv < j then wy W V (i + 1) j else wy W V i j) → wp 0 yX12_layWays 49 [some (Rv 88), some (Iv w), some (Iv v), some (Iv i), some (Iv nv)] [] M3 Q := by
        refine dn_ind (P := fun x => ∀ M3, off 103 103 M M3 → (∀ j, 0 ≤ j → j ≤ nv → M3 103 j = if x < j then wy W V (i + 1) j else wy W V i j) → wp 0 yX12_layWays 49 [some (Rv 88), some (Iv w), some (Iv v), some (Iv i), some (Iv x)] [] M3 Q) (a := 0) (n := nv) m0 (fun M3 o3 c3 => ?_) (fun x x0 x1 ih2 M3 o3 c3 => ?_)
        · refine gX12_layWays_49 ⟨by decide, fun _ => ih M3 o3 (fun j j0 j1 => ?_), fun q => absurd q (by decide)⟩
          rw [c3 j j0 j1]
          split
          · rfl
          · rw [show j = 0 by omega, wy_z, wy_z]
        · have f1 := (l1.off o3 (by omega)).2 i i0 i1
          have f2 := (l2.off o3 (by omega)).2 (x - 1) (by omega) (by omega)
          have g1 := hw i i0 i1
          have g2 := hv (x - 1) (by omega) (by omega)
          refine gX12_layWays_49 ⟨⟨by omega, by omega⟩, fun q => absurd q (by omega), fun _ => ⟨by omega, by omega, m_at0 (by omega) (by omega) (m_at0 (by omega) (by omega) ?_)⟩⟩
          rw [f1, f2]
          refine ⟨Or.inr ⟨⟨by omega, by omega⟩, ⟨by omega, by omega⟩⟩, fun q => ?_, fun q => ⟨by omega, by omega, ?_⟩⟩
          · refine ih2 _ (o3.upd (by decide) (by decide)) (fun j j0 j1 => ?_)
            rw [up_at]
            by_cases c' : j = x
            · rw [if_pos c', c3 x (by omega) x1, if_neg (by omega), if_pos (by omega), c', wy_s i0 (by omega), if_neg q]
            · rw [if_neg c', c3 j j0 j1]
              by_cases c : x < j
              · rw [if_pos c, if_pos (by omega)]
              · rw [if_neg c, if_neg (by omega)]
          · refine ih2 _ (o3.upd (by decide) (by decide)) (fun j j0 j1 => ?_)
            rw [up_at]
            by_cases c' : j = x
            · rw [if_pos c', if_pos (by omega), c3 x (by omega) x1, if_neg (by omega), c3 (x - 1) (by omega) (by omega), if_neg (by omega), c', wy_s i0 (by omega), if_pos q]
            · rw [if_neg c', c3 j j0 j1]
              by_cases c : x < j
              · rw [if_pos c, if_pos (by omega)]
              · rw [if_neg c, if_neg (by omega)]
      exact inner M2 o2 (fun j j0 j1 => by rw [if_neg (by omega)]; exact c2 j j0 j1)
  have fill : ∀ M2, off 103 103 M M2 → (∀ j, 0 ≤ j → j < 0 → M2 103 j = wy W V 0 j) → wp 0 yX12_layWays 2 [some (Rv 88), some (Iv w), some (Iv v), some (Iv 0), none] [] M2 Q := by
    refine up_ind (P := fun x => ∀ M2, off 103 103 M M2 → (∀ j, 0 ≤ j → j < x → M2 103 j = wy W V 0 j) → wp 0 yX12_layWays 2 [some (Rv 88), some (Iv w), some (Iv v), some (Iv x), none] [] M2 Q) (a := 0) (n := 41) (by omega) (fun M2 o2 c2 => ?_) (fun x x0 x1 ih M2 o2 c2 => ?_)
    · exact gX12_layWays_2 ⟨⟨by omega, by omega⟩, fun _ => outer M2 o2 (fun j j0 j1 => c2 j j0 (by omega)), fun q => absurd q (by omega)⟩
    · refine gX12_layWays_2 ⟨⟨by omega, by omega⟩, fun q => absurd q (by omega), fun _ => ⟨fun q => ⟨by omega, by omega, ih _ (o2.upd (by decide) (by decide)) (fun j j0 j1 => ?_)⟩, fun q => ⟨by omega, by omega, ih _ (o2.upd (by decide) (by decide)) (fun j j0 j1 => ?_)⟩⟩⟩
      · rw [up_at]
        by_cases c : j = x
        · rw [if_pos c, wy_0 (by omega)]
        · rw [if_neg c]; exact c2 j j0 (by omega)
      · rw [up_at, if_pos (by omega), show j = 0 by omega, wy_z]
  exact eX12_layWays (fill M off.rf (fun j j0 j1 => absurd j1 (by omega)))
theorem op_ways {S : Mem} (hW : WF S) {w v : Int} (hw : inr w) (hv : inr v) : OpOK S yX11_ways yX12_ways [Iv w, Iv v] Iv := by
  by_cases c1 : (w < 0 ∨ 8 ≤ w) ∨ (v < 0 ∨ 8 ≤ v)
  · refine ⟨-1, S, hW, fun M hX => eX11_ways ?_, fun M hY => eX12_ways ?_⟩
    · repeat' first
        | omega
        | exact px_rf hX _
        | exact px_fnd hX _ (by decide) (by decide)
        | refine c_noRow ?_ (fun q => ?_) (fun q => ?_)
        | refine c_noText ?_ (fun q => ?_) (fun q => ?_)
        | refine c_noWord ?_ (fun q => ?_) (fun q => ?_)
        | refine c_noLength ?_ (fun q => ?_) (fun q => ?_)
        | refine c_found (by decide) ?_
        | refine c_refuseRow hW hX ?_ (fun q => ?_) (fun q => ?_) (fun q => ?_)
        | refine c_refusePlace hW hX ?_ ?_ (fun q => ?_) (fun q => ?_) (fun q => ?_) (fun q => ?_)
        | refine c_refuseText hW hX ?_ (fun q => ?_) (fun q => ?_) (fun q => ?_)
        | refine c_refuseWords hW hX ?_ ?_ (fun q => ?_) (fun q => ?_) (fun q => ?_)
        | refine c_refuseWord hW hX ?_ (fun q => ?_) (fun q => ?_) (fun q => ?_)
        | refine c_has hL ?_ ?_ (fun q => ?_) (fun q => ?_)
        | refine c_isMissing hL ?_ (fun q => ?_) (fun q => ?_)
        | refine c_reaches hL ?_ ?_ (fun q => ?_) (fun q => ?_)
        | refine c_has hL2 ?_ ?_ (fun q => ?_) (fun q => ?_)
        | refine c_isMissing hL2 ?_ (fun q => ?_) (fun q => ?_)
        | refine c_reaches hL2 ?_ ?_ (fun q => ?_) (fun q => ?_)
        | refine c_is hWd ?_ ?_ (fun q => ?_) (fun q => ?_)
        | refine c_markOf hWd ?_ (fun q => ?_) (fun q => ?_)
        | with_reducible refine ⟨?_, ?_⟩
        | with_reducible intro q
    · repeat' first
        | omega
        | exact py_rf hY _
        | exact py_fnd hY _ (by decide) (by decide)
        | refine m_isRow ?_ (fun q => ?_) (fun q => ?_)
        | refine m_isText ?_ (fun q => ?_) (fun q => ?_)
        | refine m_isWord ?_ (fun q => ?_) (fun q => ?_)
        | refine m_in ?_ ?_ ?_ (fun q => ?_) (fun q => ?_)
        | refine m_meets (by decide) ?_
        | refine m_needWord hW hY ?_ ?_ (fun q => ?_) (fun q => ?_) (fun q => ?_)
        | refine m_needTwo hW hY ?_ ?_ ?_ (fun q => ?_) (fun q => ?_) (fun q => ?_)
        | refine m_isThere ?_ ?_ ?_ (fun q => ?_) (fun q => ?_)
        | refine m_at0 ?_ ?_ ?_
        | refine m_rowAt ?_ ?_ ?_
        | refine m_markOf ?_ ?_ ?_ (fun q => ?_) (fun q => ?_) (fun q => ?_)
        | with_reducible refine ⟨?_, ?_⟩
        | with_reducible intro q
  have w0 : 0 ≤ w := by omega
  have w8 : w < 8 := by omega
  have v0 : 0 ≤ v := by omega
  have v8 : v < 8 := by omega
  by_cases c3 : S (30 + w) (-1) < 0 ∨ S (30 + v) (-1) < 0
  · refine ⟨-3, fS S 1, hW.fnd 1, fun M hX => eX11_ways ?_, fun M hY => eX12_ways ?_⟩
    · repeat' first
        | omega
        | exact px_rf hX _
        | exact px_fnd hX _ (by decide) (by decide)
        | refine c_noRow ?_ (fun q => ?_) (fun q => ?_)
        | refine c_noText ?_ (fun q => ?_) (fun q => ?_)
        | refine c_noWord ?_ (fun q => ?_) (fun q => ?_)
        | refine c_noLength ?_ (fun q => ?_) (fun q => ?_)
        | refine c_found (by decide) ?_
        | refine c_refuseRow hW hX ?_ (fun q => ?_) (fun q => ?_) (fun q => ?_)
        | refine c_refusePlace hW hX ?_ ?_ (fun q => ?_) (fun q => ?_) (fun q => ?_) (fun q => ?_)
        | refine c_refuseText hW hX ?_ (fun q => ?_) (fun q => ?_) (fun q => ?_)
        | refine c_refuseWords hW hX ?_ ?_ (fun q => ?_) (fun q => ?_) (fun q => ?_)
        | refine c_refuseWord hW hX ?_ (fun q => ?_) (fun q => ?_) (fun q => ?_)
        | refine c_has hL ?_ ?_ (fun q => ?_) (fun q => ?_)
        | refine c_isMissing hL ?_ (fun q => ?_) (fun q => ?_)
        | refine c_reaches hL ?_ ?_ (fun q => ?_) (fun q => ?_)
        | refine c_has hL2 ?_ ?_ (fun q => ?_) (fun q => ?_)
        | refine c_isMissing hL2 ?_ (fun q => ?_) (fun q => ?_)
        | refine c_reaches hL2 ?_ ?_ (fun q => ?_) (fun q => ?_)
        | refine c_is hWd ?_ ?_ (fun q => ?_) (fun q => ?_)
        | refine c_markOf hWd ?_ (fun q => ?_) (fun q => ?_)
        | with_reducible refine ⟨?_, ?_⟩
        | with_reducible intro q
    · repeat' first
        | omega
        | exact py_rf hY _
        | exact py_fnd hY _ (by decide) (by decide)
        | refine m_isRow ?_ (fun q => ?_) (fun q => ?_)
        | refine m_isText ?_ (fun q => ?_) (fun q => ?_)
        | refine m_isWord ?_ (fun q => ?_) (fun q => ?_)
        | refine m_in ?_ ?_ ?_ (fun q => ?_) (fun q => ?_)
        | refine m_meets (by decide) ?_
        | refine m_needWord hW hY ?_ ?_ (fun q => ?_) (fun q => ?_) (fun q => ?_)
        | refine m_needTwo hW hY ?_ ?_ ?_ (fun q => ?_) (fun q => ?_) (fun q => ?_)
        | refine m_isThere ?_ ?_ ?_ (fun q => ?_) (fun q => ?_)
        | refine m_at0 ?_ ?_ ?_
        | refine m_rowAt ?_ ?_ ?_
        | refine m_markOf ?_ ?_ ?_ (fun q => ?_) (fun q => ?_) (fun q => ?_)
        | with_reducible refine ⟨?_, ?_⟩
        | with_reducible intro q
  have bw := hW.wd w0 w8 (by omega)
  have bv := hW.wd v0 v8 (by omega)
  have b := wy_b (W := S (30 + w)) (V := S (30 + v)) (i := S (30 + w) (-1)) (j := S (30 + v) (-1)) bw.2.1
  refine ⟨if 0 < wy (S (30 + w)) (S (30 + v)) (S (30 + w) (-1)) (S (30 + v) (-1)) then 1 else 0, up S 0 2 (wy (S (30 + w)) (S (30 + v)) (S (30 + w) (-1)) (S (30 + v) (-1))), hW.scal 2 _ (by decide), fun M hX => eX11_ways ?_, fun M hY => eX12_ways ?_⟩
  · refine c_refuseWords hW hX hw hv (fun q => absurd q (by omega)) (fun q => absurd q (by omega)) (fun q => ⟨by decide, fun _ => ⟨w0, w8, v0, v8, c_countWays (isW_word w0 w8).l (isW_word v0 v8).l (hX.ln w0 w8) (hX.ln v0 v8) bw bv (fun M2 o2 => ⟨⟨by omega, by omega⟩, fun q2 => ?_, fun q2 => ?_⟩)⟩, fun q => absurd rfl q⟩)
    · rw [if_neg (by omega)]
      exact ⟨rfl, (o2.x hX (fun a a0 a1 => by unfold kX; omega)).scal 2 _ (by decide) (by decide), (o2.fx (by decide) (by decide)).up (by omega)⟩
    · rw [if_pos (by omega)]
      exact ⟨rfl, (o2.x hX (fun a a0 a1 => by unfold kX; omega)).scal 2 _ (by decide) (by decide), (o2.fx (by decide) (by decide)).up (by omega)⟩
  · refine m_needTwo hW hY (Or.inr rfl) hw hv (fun q => absurd q (by omega)) (fun q => absurd q (by omega)) (fun q => ⟨by decide, fun _ => m_layWays w0 w8 v0 v8 (hY.ln w0 w8) (hY.ln v0 v8) bw bv (fun M2 o2 c2 => ?_), fun q => absurd q (by decide)⟩)
    have e : M2 95 v = S (30 + v) (-1) := ((hY.ln v0 v8).off o2 (by decide)).1
    have e2 := c2 (S (30 + v) (-1)) (by omega) (by omega)
    refine ⟨v0, v8, by rw [e]; omega, by rw [e]; have := bv.2.1; omega, ?_⟩
    rw [e, e2]
    refine ⟨⟨by omega, by omega⟩, fun q2 => m_tellsMany ?_, fun q2 => m_tellsMany ?_⟩
    · rw [if_neg (by omega)]
      exact ⟨rfl, (o2.y hY (by decide)).scal 2 3 _ (by decide), (o2.fy (by decide)).up (by omega)⟩
    · rw [if_pos (by omega)]
      exact ⟨rfl, (o2.y hY (by decide)).scal 2 3 _ (by decide), (o2.fy (by decide)).up (by omega)⟩
