/-! 39 twins: the reference -/
def kpQ (M M2 : Mem) : Prop := (∀ a, a ≠ 88 → a ≠ 100 → a ≠ 112 → a ≠ 117 → a ≠ 119 → M2 a = M a) ∧ ∀ q, q ≠ 17 → q ≠ 33 → M2 88 q = M 88 q
theorem kpQ.y {S M M2 : Mem} (h : kpQ M M2) (hY : Y S M) : Y S M2 := hY.same (fun a ka => h.1 a (by unfold kY at ka; omega) (by unfold kY at ka; omega) (by unfold kY at ka; omega) (by unfold kY at ka; omega) (by unfold kY at ka; omega)) (fun q hq => h.2 q (by omega) (by omega))
theorem kpQ.fy {M M2 : Mem} (h : kpQ M M2) : fry M M2 := fun a ha => h.1 a (by omega) (by omega) (by omega) (by omega) (by omega)
theorem kpQ.u {M M2 : Mem} (h : kpQ M M2) {a k v : Int} (ha : a = 100 ∨ a = 112 ∨ a = 117 ∨ a = 119) : kpQ M (up M2 a k v) := ⟨fun b q1 q2 q3 q4 q5 => by rw [up_ne (by omega)]; exact h.1 b q1 q2 q3 q4 q5, fun q h1 h2 => by rw [up_ne (by omega)]; exact h.2 q h1 h2⟩
theorem kpQ.m {M M2 : Mem} (h : kpQ M M2) {v : Int} : kpQ M (up M2 88 17 v) := ⟨fun b q1 q2 q3 q4 q5 => by rw [up_ne q1]; exact h.1 b q1 q2 q3 q4 q5, fun q h1 h2 => by rw [up_at, if_neg h1]; exact h.2 q h1 h2⟩
theorem kpQ.s {M M2 M3 : Mem} (h : kpQ M M2) {a : Int} (ha : a = 112 ∨ a = 119) (h2 : ∀ b, b ≠ a → M3 b = M2 b) : kpQ M M3 := ⟨fun b q1 q2 q3 q4 q5 => (h2 b (by omega)).trans (h.1 b q1 q2 q3 q4 q5), fun q h1 h3 => by rw [h2 88 (by omega)]; exact h.2 q h1 h3⟩
theorem m_often {M : Mem} {n k d e : Int} {V : Int → Int} {Q : Vl → Mem → Prop} (b : wdB n V k) (d0 : 1 ≤ d) (d3 : d ≤ 3) (hV : ∀ i, 0 ≤ i → i < n → M 112 i = V i) (hk : M 88 11 = k) (e0 : 0 ≤ e) (e1 : e < 216) (hq : ∀ M2, (∀ a, a ≠ 119 → M2 a = M a) → Q (Jv (cc k d.toNat n.toNat (cu k V n.toNat) e)) M2) : cl 0 yX12_oftenIn [Rv 88, Iv n, Iv e, Iv d] M Q := by
  obtain ⟨n0, n1, k0, k1, hv⟩ := b
  have pnb : ∀ t : Nat, 0 ≤ pn k t e ∧ pn k t e ≤ e := by
    intro t
    have key : ∀ (t : Nat) (e : Int), 0 ≤ e → 0 ≤ pn k t e ∧ pn k t e ≤ e := by
      intro t
      induction t with
      | zero => intro e e0; exact ⟨e0, Int.le_refl e⟩
      | succ t ih =>
        intro e e0
        have a := ih (e / k) (Int.ediv_nonneg e0 (by omega))
        have c : e / k ≤ e := Int.ediv_le_self k e0
        exact ⟨a.1, Int.le_trans a.2 c⟩
    exact key t e e0
  refine eX12_oftenIn ?_
  have main : ∀ M2, (∀ a, a ≠ 119 → M2 a = M a) → (∀ j, 0 ≤ j → j ≤ d → M2 119 j = cc k j.toNat 0 0 (pn k (d - j).toNat e)) → wp 0 yX12_oftenIn 35 [some (Rv 88), some (Iv n), some (Iv e), some (Iv d), some (Iv 0), none, none] [] M2 Q := by
    intro M2 o2 c2
    refine up_ind (P := fun i => ∀ M3, (∀ a, a ≠ 119 → M3 a = M a) → (∀ j, 0 ≤ j → j ≤ d → M3 119 j = cc k j.toNat i.toNat (cu k V i.toNat) (pn k (d - j).toNat e)) → wp 0 yX12_oftenIn 35 [some (Rv 88), some (Iv n), some (Iv e), some (Iv d), some (Iv i), none, none] [] M3 Q) (a := 0) (n := n) n0 (fun M3 o3 c3 => ?_) (fun i i0 i1 ih M3 o3 c3 => ?_) M2 o2 c2
    · refine gX12_oftenIn_35 ⟨⟨by omega, by omega⟩, ⟨by omega, by omega⟩, fun _ => ⟨by omega, by omega, ?_⟩, fun q => absurd q (by omega)⟩
      have := c3 d (by omega) (Int.le_refl d)
      rw [show (d - d).toNat = 0 by omega] at this
      rw [this]
      exact hq M3 o3
    · refine gX12_oftenIn_35 ⟨⟨by omega, by omega⟩, ⟨by omega, by omega⟩, fun q => absurd q (by omega), fun _ => ?_⟩
      have gv := hv i i0 i1
      have es : cu k V (i + 1).toNat = cu k V i.toNat * k + V i := by
        rw [show (i + 1).toNat = i.toNat + 1 by omega]
        show cu k V i.toNat * k + V (i.toNat : Int) = _
        rw [show ((i.toNat : Nat) : Int) = i by omega]
      obtain ⟨dv, dx⟩ := dm (p := cu k V i.toNat) gv.1 gv.2
      have key := dn_ind (P := fun j => j ≤ d → ∀ M4, (∀ a, a ≠ 119 → M4 a = M a) → (∀ j', 0 ≤ j' → j' ≤ j → M4 119 j' = cc k j'.toNat i.toNat (cu k V i.toNat) (pn k (d - j').toNat e)) → (∀ j', j < j' → j' ≤ d → M4 119 j' = cc k j'.toNat (i + 1).toNat (cu k V (i + 1).toNat) (pn k (d - j').toNat e)) → wp 0 yX12_oftenIn 47 [some (Rv 88), some (Iv n), some (Iv e), some (Iv d), some (Iv i), some (Iv (pn k (d - j).toNat e)), some (Iv j)] [] M4 Q) (a := 0) (n := d) (by omega) (fun _ M4 o4 c4 d4 => ?_) (fun j j0 j1 ih2 jd M4 o4 c4 d4 => ?_) (Int.le_refl d) M3 o3 c3 (fun j' q1 q2 => absurd q2 (by omega))
      · rw [show (d - d).toNat = 0 by omega] at key
        exact key
      · refine gX12_oftenIn_47 ⟨by decide, fun _ => ih M4 o4 (fun j q1 q2 => ?_), fun q => absurd q (by decide)⟩
        by_cases jz : j = 0
        · rw [jz, c4 0 (Int.le_refl 0) (Int.le_refl 0), show Int.toNat 0 = 0 from rfl, cc_0, cc_0]
        · exact d4 j (by omega) q2
      · have ek : M4 88 11 = k := by rw [o4 88 (by decide)]; exact hk
        have ev : M4 112 i = V i := by rw [o4 112 (by decide)]; exact hV i i0 i1
        have pb := pnb (d - j).toNat
        have a1 := c4 j (by omega) (Int.le_refl j)
        have a2 := c4 (j - 1) (by omega) (by omega)
        have jj : j.toNat = (j - 1).toNat + 1 := by omega
        have m0 := Int.emod_nonneg (pn k (d - j).toNat e) (show k ≠ 0 by omega)
        have m1 := Int.emod_lt_of_pos (pn k (d - j).toNat e) (show 0 < k by omega)
        have step : ∀ z, z = (if V i = pn k (d - j).toNat e % k then cc k (j - 1).toNat i.toNat (cu k V i.toNat) (pn k (d - j).toNat e / k) else 0) → wp 0 yX12_oftenIn 47 [some (Rv 88), some (Iv n), some (Iv e), some (Iv d), some (Iv i), some (Iv (pn k (d - j).toNat e / k)), some (Iv (j + -1))] [] (up M4 119 j (M4 119 j + z)) Q := by
          intro z hz
          have := ih2 (by omega) (up M4 119 j (M4 119 j + z)) (fun a ha => by rw [up_ne ha]; exact o4 a ha) (fun j' q1 q2 => by rw [up_at, if_neg (by omega)]; exact c4 j' q1 (by omega)) (fun j' q1 q2 => by
            rw [up_at]
            by_cases je : j' = j
            · rw [if_pos je, je, a1, hz, jj, show (i + 1).toNat = i.toNat + 1 by omega, cc_s, ← show (i + 1).toNat = i.toNat + 1 by omega, es, dv, dx]
            · rw [if_neg je]; exact d4 j' (by omega) q2)
          rw [show (d - (j - 1)).toNat = (d - j).toNat + 1 by omega, ← pn_d] at this
          exact this
        refine gX12_oftenIn_47 ⟨⟨by omega, by omega⟩, fun q => absurd q (by omega), fun _ => ⟨by omega, by omega, i0, by omega, ⟨by omega, by omega⟩, by rw [ek]; exact ⟨by omega, by omega⟩, by rw [ek]; omega, ?_⟩⟩
        rw [ek, ev, Int.tmod_eq_emod_of_nonneg pb.1, Int.tdiv_eq_ediv_of_nonneg pb.1]
        refine ⟨Or.inr ⟨⟨by omega, by omega⟩, ⟨by omega, by omega⟩⟩, fun q => step 0 (by rw [if_neg q]), fun q => ⟨by omega, by omega, step _ ?_⟩⟩
        rw [if_pos q, a2, show (d - (j - 1)).toNat = (d - j).toNat + 1 by omega, pn_d]
  refine up_ind (P := fun j => ∀ M2, (∀ a, a ≠ 119 → M2 a = M a) → (∀ j', 0 ≤ j' → j' < j → M2 119 j' = cc k j'.toNat 0 0 (pn k (d - j').toNat e)) → wp 0 yX12_oftenIn 3 [some (Rv 88), some (Iv n), some (Iv e), some (Iv d), some (Iv j), none, none] [] M2 Q) (a := 0) (n := d + 1) (by omega) (fun M2 o2 c2 => ?_) (fun j j0 j1 ih M2 o2 c2 => ?_) M (fun _ _ => rfl) (fun j' q1 q2 => absurd q2 (by omega))
  · exact gX12_oftenIn_3 ⟨⟨by omega, by omega⟩, ⟨by omega, by omega⟩, fun _ => main M2 o2 (fun j q1 q2 => c2 j q1 (by omega)), fun q => absurd q (by omega)⟩
  · refine gX12_oftenIn_3 ⟨⟨by omega, by omega⟩, ⟨by omega, by omega⟩, fun q => absurd q (by omega), fun _ => ⟨fun q => ⟨j0, by omega, ih _ (fun a ha => by rw [up_ne ha]; exact o2 a ha) (fun j' q1 q2 => ?_)⟩, fun q => ⟨j0, by omega, ih _ (fun a ha => by rw [up_ne ha]; exact o2 a ha) (fun j' q1 q2 => ?_)⟩⟩⟩
    · rw [up_at]
      by_cases je : j' = j
      · rw [if_pos je, je, show j.toNat = (j - 1).toNat + 1 by omega, cc_z]
      · rw [if_neg je]; exact c2 j' q1 (by omega)
    · rw [up_at, if_pos (by omega), show j' = 0 by omega, show Int.toNat 0 = 0 from rfl, cc_0]
theorem kd_b {k d : Int} (k0 : 1 ≤ k) (k1 : k ≤ 6) (d0 : 1 ≤ d) (d3 : d ≤ 3) : 1 ≤ k ^ d.toNat ∧ k ^ d.toNat ≤ 216 := by
  have kk := kb k0 k1
  have e : d = 1 ∨ d = 2 ∨ d = 3 := by omega
  rcases e with rfl | rfl | rfl
  · show 1 ≤ k ^ 1 ∧ k ^ 1 ≤ 216; rw [pw1]; omega
  · show 1 ≤ k ^ 2 ∧ k ^ 2 ≤ 216; rw [pw2]; omega
  · show 1 ≤ k ^ 3 ∧ k ^ 3 ≤ 216; rw [pw3]; omega
theorem m_isTwin {M : Mem} {n k d w : Int} {V : Int → Int} {Q : Vl → Mem → Prop} (b : wdB n V k) (d0 : 1 ≤ d) (d3 : d ≤ 3) (hV : ∀ i, 0 ≤ i → i < n → M 112 i = V i) (hk : M 88 11 = k) (hw : ∀ c, 0 ≤ c → c < k ^ d.toNat → M 117 c = cc k d.toNat n.toNat w c) (hy : tw k d.toNat n.toNat w (cu k V n.toNat) = true → ∀ M2, (∀ a, a ≠ 119 → M2 a = M a) → Q (Iv 1) M2) (hn : ¬ tw k d.toNat n.toNat w (cu k V n.toNat) = true → ∀ M2, (∀ a, a ≠ 119 → M2 a = M a) → Q (Iv 0) M2) : cl 0 yX12_isTwin [Rv 88, Iv n, Iv d, Iv (k ^ d.toNat)] M Q := by
  have k0 := b.2.2.1
  have k1 := b.2.2.2.1
  have n0 := b.1
  have n1 := b.2.1
  have kd := kd_b k0 k1 d0 d3
  refine eX12_isTwin ?_
  have no : ∀ c M2, 0 ≤ c → c ≤ k ^ d.toNat → (∀ a, a ≠ 119 → M2 a = M a) → ¬ tw k d.toNat n.toNat w (cu k V n.toNat) = true → wp 0 yX12_isTwin 6 [some (Rv 88), some (Iv n), some (Iv d), some (Iv (k ^ d.toNat)), some (Iv 0), some (Iv c)] [] M2 Q := by
    intro c M2 c0 c1 o2 ht
    exact gX12_isTwin_6 ⟨⟨by omega, by omega⟩, ⟨by omega, by omega⟩, fun _ => ⟨Or.inl rfl, hn ht M2 o2⟩, fun _ => ⟨by decide, fun _ => ⟨Or.inl rfl, hn ht M2 o2⟩, fun q => absurd rfl q⟩⟩
  refine up_ind (P := fun c => ∀ M2, (∀ a, a ≠ 119 → M2 a = M a) → (∀ c', 0 ≤ c' → c' < c → cc k d.toNat n.toNat (cu k V n.toNat) c' = cc k d.toNat n.toNat w c') → wp 0 yX12_isTwin 6 [some (Rv 88), some (Iv n), some (Iv d), some (Iv (k ^ d.toNat)), some (Iv 1), some (Iv c)] [] M2 Q) (a := 0) (n := k ^ d.toNat) (by omega) (fun M2 o2 c2 => ?_) (fun c c0 c1 ih M2 o2 c2 => ?_) M (fun _ _ => rfl) (fun c' q1 q2 => absurd q2 (by omega))
  · exact gX12_isTwin_6 ⟨⟨by omega, by omega⟩, ⟨by omega, by omega⟩, fun _ => ⟨Or.inr rfl, hy ((tw_iff k0).2 c2) M2 o2⟩, fun q => absurd q (by omega)⟩
  · have b1 := cc_b (k := k) (P := cu k V n.toNat) (c := c) (show d.toNat ≤ 3 by omega) (show n.toNat ≤ 40 by omega)
    have b2 := cc_b (k := k) (P := w) (c := c) (show d.toNat ≤ 3 by omega) (show n.toNat ≤ 40 by omega)
    refine gX12_isTwin_6 ⟨⟨by omega, by omega⟩, ⟨by omega, by omega⟩, fun q => absurd q (by omega), fun _ => ⟨by decide, fun q => absurd q (by decide), fun _ => m_often b d0 d3 (fun i i0 i1 => by rw [o2 112 (by decide)]; exact hV i i0 i1) (by rw [o2 88 (by decide)]; exact hk) c0 (by omega) (fun M3 o3 => ?_)⟩⟩
    have o4 : ∀ a, a ≠ 119 → M3 a = M a := fun a ha => (o3 a ha).trans (o2 a ha)
    have ew : M3 117 c = cc k d.toNat n.toNat w c := by rw [o4 117 (by decide)]; exact hw c c0 c1
    show 0 ≤ c ∧ _
    rw [ew]
    refine ⟨c0, by omega, Or.inr ⟨⟨by omega, by omega⟩, ⟨by omega, by omega⟩⟩, fun q => no (c + 1) M3 (by omega) (by omega) o4 (fun ht => q ((tw_iff k0).1 ht c c0 c1)), fun q => ih M3 o4 (fun c' q1 q2 => ?_)⟩
    by_cases ce : c' = c
    · rw [ce]; exact q
    · exact c2 c' q1 (by omega)
theorem m_layBy {M : Mem} {n k e : Int} {Q : Vl → Mem → Prop} (k0 : 1 ≤ k) (k1 : k ≤ 6) (n0 : 0 ≤ n) (n1 : n ≤ 40) (hk : M 88 11 = k) (e0 : 0 ≤ e) (e1 : e ≤ 10000) (hq : ∀ M2, (∀ a, a ≠ 112 → M2 a = M a) → (∀ i, 0 ≤ i → i < n → M2 112 i = dg k n e i) → Q (Iv 0) M2) : cl 0 yX12_layOtherBy [Rv 88, Iv e, Iv n] M Q := by
  have pnb : ∀ (t : Nat) (e : Int), 0 ≤ e → 0 ≤ pn k t e ∧ pn k t e ≤ e := by
    intro t
    induction t with
    | zero => intro e e0; exact ⟨e0, Int.le_refl e⟩
    | succ t ih =>
      intro e e0
      have a := ih (e / k) (Int.ediv_nonneg e0 (by omega))
      exact ⟨a.1, Int.le_trans a.2 (Int.ediv_le_self k e0)⟩
  refine eX12_layOtherBy ?_
  have key := dn_ind (P := fun i => i < n → ∀ M2, (∀ a, a ≠ 112 → M2 a = M a) → (∀ j, i < j → j < n → M2 112 j = dg k n e j) → wp 0 yX12_layOtherBy 7 [some (Rv 88), some (Iv e), some (Iv n), some (Iv (pn k (n - 1 - i).toNat e)), some (Iv i)] [] M2 Q) (a := -1) (n := n - 1) (by omega) (fun _ M2 o2 c2 => ?_) (fun i i0 i1 ih hi M2 o2 c2 => ?_) (by omega) M (fun _ _ => rfl) (fun j q1 q2 => absurd q2 (by omega))
  · rw [show (n - 1 - (n - 1)).toNat = 0 by omega] at key
    exact key
  · exact gX12_layOtherBy_7 ⟨by decide, fun _ => hq M2 o2 (fun i q1 q2 => c2 i (by omega) q2), fun q => absurd q (by decide)⟩
  · have ek : M2 88 11 = k := by rw [o2 88 (by decide)]; exact hk
    have pb := pnb (n - 1 - i).toNat e e0
    refine gX12_layOtherBy_7 ⟨⟨by omega, by omega⟩, fun q => absurd q (by omega), fun _ => ⟨⟨by omega, by omega⟩, by rw [ek]; exact ⟨by omega, by omega⟩, by rw [ek]; omega, by omega, ?_⟩⟩
    rw [ek, Int.tmod_eq_emod_of_nonneg pb.1, Int.tdiv_eq_ediv_of_nonneg pb.1]
    have := ih (by omega) (up M2 112 i (pn k (n - 1 - i).toNat e % k)) (fun a ha => by rw [up_ne ha]; exact o2 a ha) (fun j q1 q2 => by
      rw [up_at]
      by_cases je : j = i
      · rw [if_pos je, je]; rfl
      · rw [if_neg je]; exact c2 j (by omega) q2)
    rw [show (n - 1 - (i - 1)).toNat = (n - 1 - i).toNat + 1 by omega, ← pn_d] at this
    exact this
theorem m_twins {M : Mem} {w n k d r : Int} {W : Int → Int} {Q : Vl → Mem → Prop} (w0 : 0 ≤ w) (w8 : w < 8) (l : lnY M w n W) (b : wdB n W k) (hk : M 88 11 = k) (d0 : 1 ≤ d) (d3 : d ≤ 3) (kn : k ^ n.toNat ≤ 10000) (hq : ∀ M2, kpQ M M2 → M2 88 17 = n → (∀ j, 0 ≤ j → j < n → M2 100 j = dg k n (tF k d.toNat n.toNat (cu k W n.toNat) (k ^ n.toNat)) j) → cl 0 yX12_comesToRow [Rv 88, Iv r] M2 (QV (fun M5 => (Q (Iv (tT k d.toNat n.toNat (cu k W n.toNat) (k ^ n.toNat))) M5)))) : wp 0 yX12_twins 50 [some (Rv 88), some (Iv w), some (Iv d), some (Iv r), some (Iv 0), some (Iv n), some (Jv 1), none, some (Iv 0), none, none, none] [] M Q := by
  have hb := b
  obtain ⟨n0, n1, k0, k1, hw⟩ := b
  have kd := kd_b k0 k1 d0 d3
  have pn0 : 0 < k ^ n.toNat := Int.pow_pos (by omega)
  have pmono : ∀ i, 0 ≤ i → i ≤ n → 0 < k ^ i.toNat ∧ k ^ i.toNat ≤ k ^ n.toNat := fun i i0 i1 => by
    refine ⟨Int.pow_pos (by omega), ?_⟩
    refine dn_ind (P := fun j => k ^ i.toNat ≤ k ^ j.toNat) (a := i) (n := n) i1 (Int.le_refl _) (fun y y0 y1 ih => ?_)
    rw [show y.toNat = (y - 1).toNat + 1 by omega, Int.pow_succ]
    have p1 : 0 < k ^ (y - 1).toNat := Int.pow_pos (by omega)
    have := Int.mul_le_mul_of_nonneg_left k0 (Int.le_of_lt p1)
    rw [Int.mul_one] at this
    omega
  have enum : ∀ M3, kpQ M M3 → (∀ c, 0 ≤ c → c < k ^ d.toNat → M3 117 c = cc k d.toNat n.toNat (cu k W n.toNat) c) → wp 0 yX12_twins 149 [some (Rv 88), some (Iv w), some (Iv d), some (Iv r), some (Iv 0), some (Iv n), some (Jv (k ^ n.toNat)), none, some (Iv (k ^ d.toNat)), some (Iv 0), some (Iv 0), none] [] M3 Q := by
    intro M3 o3 D3
    refine up_ind (P := fun e => ∀ M4, kpQ M M4 → (∀ c, 0 ≤ c → c < k ^ d.toNat → M4 117 c = cc k d.toNat n.toNat (cu k W n.toNat) c) → (tF k d.toNat n.toNat (cu k W n.toNat) e ≠ -1 → ∀ j, 0 ≤ j → j < n → M4 100 j = dg k n (tF k d.toNat n.toNat (cu k W n.toNat) e) j) → wp 0 yX12_twins 149 [some (Rv 88), some (Iv w), some (Iv d), some (Iv r), some (Iv 0), some (Iv n), some (Jv (k ^ n.toNat)), none, some (Iv (k ^ d.toNat)), some (Iv (tT k d.toNat n.toNat (cu k W n.toNat) e)), some (Iv e), none] [] M4 Q) (a := 0) (n := k ^ n.toNat) (by omega) (fun M4 o4 D4 c4 => ?_) (fun e e0 e1 ih M4 o4 D4 c4 => ?_) M3 o3 D3 (fun q => absurd rfl q)
    · have cub := cu_b (k := k) (u := W) k0 n.toNat (fun j j0 j1 => hw j j0 (by omega))
      have nz := tF_ex (k := k) (d := d.toNat) (n := n.toNat) (w := cu k W n.toNat) cub.1 cub.2 ((tw_iff k0).2 (fun c _ _ => rfl))
      refine gX12_twins_149 ⟨⟨by omega, by omega⟩, ⟨by omega, by omega⟩, ⟨by omega, by omega⟩, fun _ => hq _ o4.m (by rw [up_at, if_pos rfl]) (fun j j0 j1 => ?_), fun q => absurd q (by omega)⟩
      rw [up_ne (by decide)]
      exact c4 nz j j0 j1
    · have ek : M4 88 11 = k := by rw [o4.2 11 (by decide) (by decide)]; exact hk
      have ts := tT_s (k := k) (d := d.toNat) (n := n.toNat) (w := cu k W n.toNat) e0
      have fs := tF_s (k := k) (d := d.toNat) (n := n.toNat) (w := cu k W n.toNat) e0
      have tb := tF_b (k := k) (d := d.toNat) (n := n.toNat) (w := cu k W n.toNat) e0
      have tb1 := tb.1.1
      have tb2 := tb.1.2
      have bd : wdB n (dg k n e) k := ⟨n0, n1, k0, k1, fun i _ _ => dg_b k0⟩
      have ce := cu_dg k0 e0 e1 n0 n.toNat (by omega)
      rw [show (n - ((n.toNat : Nat) : Int)).toNat = 0 by omega] at ce
      have ce' : cu k (dg k n e) n.toNat = e := ce
      refine gX12_twins_149 ⟨⟨by omega, by omega⟩, ⟨by omega, by omega⟩, ⟨by omega, by omega⟩, fun q => absurd q (by omega), fun _ => m_layBy k0 k1 n0 n1 ek e0 (by omega) (fun M5 o5 c5 => ?_)⟩
      have k5 : kpQ M M5 := o4.s (by omega) o5
      refine m_isTwin (V := dg k n e) (w := cu k W n.toNat) bd d0 d3 c5 (by rw [o5 88 (by decide)]; exact ek) (fun c c0 c1 => by rw [o5 117 (by decide)]; exact D4 c c0 c1) (fun ht M6 o6 => ⟨fun q => absurd q (by decide), fun _ => ?_⟩) (fun ht M6 o6 => ⟨fun _ => ?_, fun q => absurd rfl q⟩)
      · rw [ce'] at ht
        rw [if_pos ht] at ts
        have k6 : kpQ M M6 := k5.s (by omega) o6
        have D6 : ∀ c, 0 ≤ c → c < k ^ d.toNat → M6 117 c = cc k d.toNat n.toNat (cu k W n.toNat) c := fun c c0 c1 => by rw [o6 117 (by decide), o5 117 (by decide)]; exact D4 c c0 c1
        have next : ∀ M7, kpQ M M7 → (∀ c, 0 ≤ c → c < k ^ d.toNat → M7 117 c = cc k d.toNat n.toNat (cu k W n.toNat) c) → (tF k d.toNat n.toNat (cu k W n.toNat) (e + 1) ≠ -1 → ∀ j, 0 ≤ j → j < n → M7 100 j = dg k n (tF k d.toNat n.toNat (cu k W n.toNat) (e + 1)) j) → wp 0 yX12_twins 149 [some (Rv 88), some (Iv w), some (Iv d), some (Iv r), some (Iv 0), some (Iv n), some (Jv (k ^ n.toNat)), none, some (Iv (k ^ d.toNat)), some (Iv (tT k d.toNat n.toNat (cu k W n.toNat) e + 1)), some (Iv (e + 1)), none] [] M7 Q := by
          intro M7 k7 D7 c7
          have := ih M7 k7 D7 c7
          rw [ts] at this
          exact this
        by_cases z : tT k d.toNat n.toNat (cu k W n.toNat) e = 0
        · have fz := tb.2.2.2.1 z
          rw [if_pos ⟨fz, ht⟩] at fs
          refine up_ind (P := fun i => ∀ M7, kpQ M M7 → M7 112 = M5 112 → (∀ c, 0 ≤ c → c < k ^ d.toNat → M7 117 c = cc k d.toNat n.toNat (cu k W n.toNat) c) → (∀ j, 0 ≤ j → j < i → M7 100 j = dg k n e j) → wp 0 yX12_twins 187 [some (Rv 88), some (Iv w), some (Iv d), some (Iv r), some (Iv 0), some (Iv n), some (Jv (k ^ n.toNat)), none, some (Iv (k ^ d.toNat)), some (Iv (tT k d.toNat n.toNat (cu k W n.toNat) e)), some (Iv e), some (Iv i)] [] M7 Q) (a := 0) (n := n) n0 (fun M7 k7 p7 D7 c7 => ?_) (fun i i0 i1 ih2 M7 k7 p7 D7 c7 => ?_) _ k6.m (by rw [up_ne (by decide), o6 112 (by decide)]) (by rw [up_ne (by decide)]; exact D6) (fun j j0 j1 => absurd j1 (by omega))
          · exact gX12_twins_187 ⟨⟨by omega, by omega⟩, ⟨by omega, by omega⟩, fun _ => next M7 k7 D7 (fun _ => by rw [fs]; exact c7), fun q => absurd q (by omega)⟩
          · refine gX12_twins_187 ⟨⟨by omega, by omega⟩, ⟨by omega, by omega⟩, fun q => absurd q (by omega), fun _ => ⟨⟨by omega, by omega⟩, fun q => absurd z q, fun _ => ⟨i0, by omega, ih2 _ (k7.u (by omega)) (by rw [up_ne (by decide)]; exact p7) (by rw [up_ne (by decide)]; exact D7) (fun j j0 j1 => ?_)⟩⟩⟩
            rw [up_at, p7]
            by_cases je : j = i
            · rw [if_pos je, je]; exact c5 i i0 i1
            · rw [if_neg je]; exact c7 j j0 (by omega)
        · have fz : tF k d.toNat n.toNat (cu k W n.toNat) e ≠ -1 := fun q => z (tb.2.2.2.2 q)
          rw [if_neg (fun q => fz q.1)] at fs
          have nx2 := next (up M6 88 17 n) k6.m (by rw [up_ne (by decide)]; exact D6) (fun _ => by rw [fs, up_ne (by decide), o6 100 (by decide), o5 100 (by decide)]; exact c4 fz)
          exact gX12_twins_187 ⟨by decide, ⟨by omega, by omega⟩, fun _ => nx2, fun _ => ⟨⟨by omega, by omega⟩, fun _ => nx2, fun q => absurd q z⟩⟩
      · rw [ce'] at ht
        rw [if_neg ht, Int.add_zero] at ts
        rw [if_neg (fun q => ht q.2)] at fs
        have := ih M6 (k5.s (by omega) o6) (fun c c0 c1 => by rw [o6 117 (by decide), o5 117 (by decide)]; exact D4 c c0 c1) (by rw [fs, o6 100 (by decide), o5 100 (by decide)]; exact c4)
        rw [ts] at this
        exact this
  have after : inr (M 88 11) ∧ (cl 0 yX12_powerOf [Jv (M 88 11), Iv d] M (QJ (fun z7 M7 => (cl 0 yX12_layOther [Rv 88, Iv w] M7 (QV (fun M8 => (wp 0 yX12_twins 114 [some (Rv 88), some (Iv w), some (Iv d), some (Iv r), some (Iv 0), some (Iv n), some (Jv (k ^ n.toNat)), none, some (Iv z7), some (Iv 0), none, none] [] M8 Q))))))) := by
    rw [hk]
    refine ⟨⟨by omega, by omega⟩, m_powerOf (by omega) (by omega) (m_layOther w0 w8 l hb (fun M2 o2 ot => ?_))⟩
    have k2 : kpQ M M2 := ⟨fun a q1 _ q3 _ _ => o2.1 a q1 q3, fun q _ h => o2.2 q h⟩
    show wp 0 yX12_twins 114 _ _ _ _
    refine up_ind (P := fun c => ∀ M3, kpQ M M3 → M3 112 = M2 112 → (∀ c', 0 ≤ c' → c' < c → M3 117 c' = cc k d.toNat n.toNat (cu k W n.toNat) c') → wp 0 yX12_twins 114 [some (Rv 88), some (Iv w), some (Iv d), some (Iv r), some (Iv 0), some (Iv n), some (Jv (k ^ n.toNat)), none, some (Iv (k ^ d.toNat)), some (Iv c), none, none] [] M3 Q) (a := 0) (n := k ^ d.toNat) (by omega) (fun M3 k3 p3 c3 => ?_) (fun c c0 c1 ih M3 k3 p3 c3 => ?_) M2 k2 rfl (fun c' q1 q2 => absurd q2 (by omega))
    · exact gX12_twins_114 ⟨⟨by omega, by omega⟩, ⟨by omega, by omega⟩, fun _ => enum M3 k3 c3, fun q => absurd q (by omega)⟩
    · refine gX12_twins_114 ⟨⟨by omega, by omega⟩, ⟨by omega, by omega⟩, fun q => absurd q (by omega), fun _ => m_often hb d0 d3 (by rw [p3]; exact ot.2) (by rw [k3.2 11 (by decide) (by decide)]; exact hk) c0 (by omega) (fun M4 o4 => ⟨c0, by omega, ih _ ((k3.s (by omega) o4).u (by omega)) (by rw [up_ne (by decide), o4 112 (by decide)]; exact p3) (fun c' q1 q2 => ?_)⟩)⟩
      rw [up_at]
      by_cases ce : c' = c
      · rw [if_pos ce, ce]
      · rw [if_neg ce, o4 117 (by decide)]; exact c3 c' q1 (by omega)
  have key := up_ind (P := fun i => 0 ≤ i → wp 0 yX12_twins 50 [some (Rv 88), some (Iv w), some (Iv d), some (Iv r), some (Iv 0), some (Iv n), some (Jv (k ^ i.toNat)), none, some (Iv i), none, none, none] [] M Q) (a := 0) (n := n) n0 (fun _ => ?_) (fun i i0 i1 ih _ => ?_) (Int.le_refl 0)
  · rw [show Int.toNat 0 = 0 from rfl, Int.pow_zero] at key
    exact key
  · exact gX12_twins_50 ⟨⟨by omega, by omega⟩, ⟨by omega, by omega⟩, fun _ => ⟨⟨by omega, by omega⟩, fun _ => after, fun q => absurd q (by omega)⟩, fun q => absurd q (by omega)⟩
  · have pm := pmono i i0 (by omega)
    refine gX12_twins_50 ⟨⟨by omega, by omega⟩, ⟨by omega, by omega⟩, fun q => absurd q (by omega), fun _ => ⟨⟨by omega, by omega⟩, fun q => absurd q (by omega), fun _ => ⟨by rw [hk]; exact ⟨by omega, by omega⟩, ?_⟩⟩⟩
    have := ih (by omega)
    rw [show (i + 1).toNat = i.toNat + 1 by omega, Int.pow_succ] at this
    rw [hk]
    exact this
theorem c_powN {M : Mem} {k n : Int} {Q : Vl → Mem → Prop} (k0 : 1 ≤ k) (k1 : k ≤ 6) (n0 : 0 ≤ n) (n1 : n ≤ 40) (hy : 10000 < k ^ n.toNat → Q (Iv 1) M) (hn : k ^ n.toNat ≤ 10000 → Q (Iv 0) M) : cl 0 yX11_isPowerAbove [Iv k, Iv n, Iv 10000] M Q := by
  refine eX11_isPowerAbove ?_
  have big : ∀ i, 0 ≤ i → i ≤ n → 10000 < k ^ i.toNat → 10000 < k ^ n.toNat := fun i i0 i1 h => by
    refine dn_ind (P := fun j => 10000 < k ^ j.toNat) (a := i) (n := n) i1 h (fun y y0 y1 ih => ?_)
    rw [show y.toNat = (y - 1).toNat + 1 by omega, Int.pow_succ]
    have p1 : 0 < k ^ (y - 1).toNat := Int.pow_pos (by omega)
    have := Int.mul_le_mul_of_nonneg_left k0 (Int.le_of_lt p1)
    rw [Int.mul_one] at this
    omega
  have key := up_ind (P := fun i => 0 ≤ i → k ^ i.toNat ≤ 60000 → wp 0 yX11_isPowerAbove 5 [some (Iv k), some (Iv n), some (Iv 10000), some (Jv (k ^ i.toNat)), none, some (Iv i)] [] M Q) (a := 0) (n := n) n0 (fun _ hb => ?_) (fun i i0 i1 ih _ hb => ?_) (Int.le_refl 0) (by rw [show Int.toNat 0 = 0 from rfl, Int.pow_zero]; decide)
  · rw [show Int.toNat 0 = 0 from rfl, Int.pow_zero] at key
    exact key
  · have p0 : 0 < k ^ n.toNat := Int.pow_pos (by omega)
    exact gX11_isPowerAbove_5 ⟨⟨by omega, by omega⟩, ⟨by omega, by omega⟩, fun _ => ⟨by decide, ⟨by omega, by omega⟩, by decide, fun q => hn q, fun q => hy q⟩, fun q => absurd q (by omega)⟩
  · have p0 : 0 < k ^ i.toNat := Int.pow_pos (by omega)
    refine gX11_isPowerAbove_5 ⟨⟨by omega, by omega⟩, ⟨by omega, by omega⟩, fun q => absurd q (by omega), fun _ => ⟨by decide, ⟨by omega, by omega⟩, by decide, fun q => ⟨fun q2 => absurd q2 (by omega), fun _ => hy (big i i0 (by omega) q)⟩, fun q => ⟨⟨by omega, by omega⟩, ?_⟩⟩⟩
    have m := Int.mul_le_mul_of_nonneg_left k1 (Int.le_of_lt p0)
    have := ih (by omega) (by rw [show (i + 1).toNat = i.toNat + 1 by omega, Int.pow_succ]; omega)
    rw [show (i + 1).toNat = i.toNat + 1 by omega, Int.pow_succ] at this
    exact this
theorem m_spent {M : Mem} {w n k d r : Int} {Q : Vl → Mem → Prop} (k0 : 1 ≤ k) (k1 : k ≤ 6) (n0 : 0 ≤ n) (n1 : n ≤ 40) (hk : M 88 11 = k) (kn : 10000 < k ^ n.toNat) (hq : Q (Iv (-6)) M) : wp 0 yX12_twins 50 [some (Rv 88), some (Iv w), some (Iv d), some (Iv r), some (Iv 0), some (Iv n), some (Jv 1), none, some (Iv 0), none, none, none] [] M Q := by
  have key := up_ind (P := fun i => 0 ≤ i → k ^ i.toNat ≤ 60000 → wp 0 yX12_twins 50 [some (Rv 88), some (Iv w), some (Iv d), some (Iv r), some (Iv 0), some (Iv n), some (Jv (k ^ i.toNat)), none, some (Iv i), none, none, none] [] M Q) (a := 0) (n := n) n0 (fun _ hb => ?_) (fun i i0 i1 ih _ hb => ?_) (Int.le_refl 0) (by rw [show Int.toNat 0 = 0 from rfl, Int.pow_zero]; decide)
  · rw [show Int.toNat 0 = 0 from rfl, Int.pow_zero] at key
    exact key
  · exact gX12_twins_50 ⟨⟨by omega, by omega⟩, ⟨by omega, by omega⟩, fun _ => ⟨⟨by omega, by omega⟩, fun q => absurd q (by omega), fun _ => hq⟩, fun q => absurd q (by omega)⟩
  · have p0 : 0 < k ^ i.toNat := Int.pow_pos (by omega)
    refine gX12_twins_50 ⟨⟨by omega, by omega⟩, ⟨by omega, by omega⟩, fun q => absurd q (by omega), fun _ => ⟨⟨by omega, by omega⟩, fun q => ⟨fun q2 => absurd q2 (by omega), fun _ => hq⟩, fun q => ⟨by rw [hk]; exact ⟨by omega, by omega⟩, ?_⟩⟩⟩
    have m := Int.mul_le_mul_of_nonneg_left k1 (Int.le_of_lt p0)
    have := ih (by omega) (by rw [show (i + 1).toNat = i.toNat + 1 by omega, Int.pow_succ]; omega)
    rw [show (i + 1).toNat = i.toNat + 1 by omega, Int.pow_succ] at this
    rw [hk]
    exact this
theorem op_twins {S : Mem} (hW : WF S) {w d r : Int} (hw : inr w) (hd : inr d) (hr : inr r) : OpOK S yX11_twins yX12_twins [Iv w, Iv d, Iv r] Iv := by
  by_cases c1 : (w < 0 ∨ 8 ≤ w) ∨ (d < 1 ∨ 3 < d) ∨ (r < 0 ∨ 6 ≤ r)
  · refine ⟨-1, S, hW, fun M hX => eX11_twins ?_, fun M hY => eX12_twins ?_⟩
    · repeat' first
        | omega
        | exact px_rf hX _
        | exact px_fnd hX _ (by decide) (by decide)
        | refine c_noRow ?_ (fun q => ?_) (fun q => ?_)
        | refine c_noText ?_ (fun q => ?_) (fun q => ?_)
        | refine c_noWord ?_ (fun q => ?_) (fun q => ?_)
        | refine c_noLength ?_ (fun q => ?_) (fun q => ?_)
        | refine c_found (by decide) ?_
        | refine c_refuseRow hW hX ?_ (fun q => ?_) (fun q => ?_) (fun q => ?_)
        | refine c_refusePlace hW hX ?_ ?_ (fun q => ?_) (fun q => ?_) (fun q => ?_) (fun q => ?_)
        | refine c_refuseText hW hX ?_ (fun q => ?_) (fun q => ?_) (fun q => ?_)
        | refine c_refuseWords hW hX ?_ ?_ (fun q => ?_) (fun q => ?_) (fun q => ?_)
        | refine c_refuseWord hW hX ?_ (fun q => ?_) (fun q => ?_) (fun q => ?_)
        | refine c_has hL ?_ ?_ (fun q => ?_) (fun q => ?_)
        | refine c_isMissing hL ?_ (fun q => ?_) (fun q => ?_)
        | refine c_reaches hL ?_ ?_ (fun q => ?_) (fun q => ?_)
        | refine c_has hL2 ?_ ?_ (fun q => ?_) (fun q => ?_)
        | refine c_isMissing hL2 ?_ (fun q => ?_) (fun q => ?_)
        | refine c_reaches hL2 ?_ ?_ (fun q => ?_) (fun q => ?_)
        | refine c_is hWd ?_ ?_ (fun q => ?_) (fun q => ?_)
        | refine c_markOf hWd ?_ (fun q => ?_) (fun q => ?_)
        | with_reducible refine ⟨?_, ?_⟩
        | with_reducible intro q
    · repeat' first
        | omega
        | exact py_rf hY _
        | exact py_fnd hY _ (by decide) (by decide)
        | refine m_isRow ?_ (fun q => ?_) (fun q => ?_)
        | refine m_isText ?_ (fun q => ?_) (fun q => ?_)
        | refine m_isWord ?_ (fun q => ?_) (fun q => ?_)
        | refine m_in ?_ ?_ ?_ (fun q => ?_) (fun q => ?_)
        | refine m_meets (by decide) ?_
        | refine m_needWord hW hY ?_ ?_ (fun q => ?_) (fun q => ?_) (fun q => ?_)
        | refine m_needTwo hW hY ?_ ?_ ?_ (fun q => ?_) (fun q => ?_) (fun q => ?_)
        | refine m_isThere ?_ ?_ ?_ (fun q => ?_) (fun q => ?_)
        | refine m_at0 ?_ ?_ ?_
        | refine m_rowAt ?_ ?_ ?_
        | refine m_markOf ?_ ?_ ?_ (fun q => ?_) (fun q => ?_) (fun q => ?_)
        | with_reducible refine ⟨?_, ?_⟩
        | with_reducible intro q
  have w0 : 0 ≤ w := by omega
  have w8 : w < 8 := by omega
  have r0 : 0 ≤ r := by omega
  have r6 : r < 6 := by omega
  have d0 : 1 ≤ d := by omega
  have d3 : d ≤ 3 := by omega
  by_cases c3 : S (30 + w) (-1) < 0
  · refine ⟨-3, fS S 1, hW.fnd 1, fun M hX => eX11_twins ?_, fun M hY => eX12_twins ?_⟩
    · repeat' first
        | omega
        | exact px_rf hX _
        | exact px_fnd hX _ (by decide) (by decide)
        | refine c_noRow ?_ (fun q => ?_) (fun q => ?_)
        | refine c_noText ?_ (fun q => ?_) (fun q => ?_)
        | refine c_noWord ?_ (fun q => ?_) (fun q => ?_)
        | refine c_noLength ?_ (fun q => ?_) (fun q => ?_)
        | refine c_found (by decide) ?_
        | refine c_refuseRow hW hX ?_ (fun q => ?_) (fun q => ?_) (fun q => ?_)
        | refine c_refusePlace hW hX ?_ ?_ (fun q => ?_) (fun q => ?_) (fun q => ?_) (fun q => ?_)
        | refine c_refuseText hW hX ?_ (fun q => ?_) (fun q => ?_) (fun q => ?_)
        | refine c_refuseWords hW hX ?_ ?_ (fun q => ?_) (fun q => ?_) (fun q => ?_)
        | refine c_refuseWord hW hX ?_ (fun q => ?_) (fun q => ?_) (fun q => ?_)
        | refine c_has hL ?_ ?_ (fun q => ?_) (fun q => ?_)
        | refine c_isMissing hL ?_ (fun q => ?_) (fun q => ?_)
        | refine c_reaches hL ?_ ?_ (fun q => ?_) (fun q => ?_)
        | refine c_has hL2 ?_ ?_ (fun q => ?_) (fun q => ?_)
        | refine c_isMissing hL2 ?_ (fun q => ?_) (fun q => ?_)
        | refine c_reaches hL2 ?_ ?_ (fun q => ?_) (fun q => ?_)
        | refine c_is hWd ?_ ?_ (fun q => ?_) (fun q => ?_)
        | refine c_markOf hWd ?_ (fun q => ?_) (fun q => ?_)
        | with_reducible refine ⟨?_, ?_⟩
        | with_reducible intro q
    · repeat' first
        | omega
        | exact py_rf hY _
        | exact py_fnd hY _ (by decide) (by decide)
        | refine m_isRow ?_ (fun q => ?_) (fun q => ?_)
        | refine m_isText ?_ (fun q => ?_) (fun q => ?_)
        | refine m_isWord ?_ (fun q => ?_) (fun q => ?_)
        | refine m_in ?_ ?_ ?_ (fun q => ?_) (fun q => ?_)
        | refine m_meets (by decide) ?_
        | refine m_needWord hW hY ?_ ?_ (fun q => ?_) (fun q => ?_) (fun q => ?_)
        | refine m_needTwo hW hY ?_ ?_ ?_ (fun q => ?_) (fun q => ?_) (fun q => ?_)
        | refine m_isThere ?_ ?_ ?_ (fun q => ?_) (fun q => ?_)
        | refine m_at0 ?_ ?_ ?_
        | refine m_rowAt ?_ ?_ ?_
        | refine m_markOf ?_ ?_ ?_ (fun q => ?_) (fun q => ?_) (fun q => ?_)
        | with_reducible refine ⟨?_, ?_⟩
        | with_reducible intro q
  have bw := hW.wd w0 w8 (by omega)
  have hb := bw
  obtain ⟨n0, n1, k0, k1, hv⟩ := hb
  by_cases c4 : S 0 0 ^ (S (30 + w) (-1)).toNat ≤ 10000
  · refine ⟨tT (S 0 0) d.toNat (S (30 + w) (-1)).toNat (cu (S 0 0) (S (30 + w)) (S (30 + w) (-1)).toNat) (S 0 0 ^ (S (30 + w) (-1)).toNat), setLn S (10 + r) (S (30 + w) (-1)) (dg (S 0 0) (S (30 + w) (-1)) (tF (S 0 0) d.toNat (S (30 + w) (-1)).toNat (cu (S 0 0) (S (30 + w)) (S (30 + w) (-1)).toNat) (S 0 0 ^ (S (30 + w) (-1)).toNat))), hW.row r0 r6 (by omega) (by omega) (fun i _ _ => by have := dg_b (k := S 0 0) (n := S (30 + w) (-1)) (e := tF (S 0 0) d.toNat (S (30 + w) (-1)).toNat (cu (S 0 0) (S (30 + w)) (S (30 + w) (-1)).toNat) (S 0 0 ^ (S (30 + w) (-1)).toNat)) (j := i) k0; exact ⟨by omega, by omega⟩), fun M hX => eX11_twins ?_, fun M hY => eX12_twins ?_⟩
    · refine ⟨hd, fun q => absurd q (by omega), fun _ => ⟨fun q => absurd q (by omega), fun _ => c_noRow hr (fun q => absurd q (by omega)) (fun _ => ⟨fun _ => c_refuseWord hW hX hw (fun q => absurd q (by omega)) (fun q => absurd q (by omega)) (fun _ => ⟨by decide, fun _ => ⟨w0, w8, ?_⟩, fun q => absurd rfl q⟩), fun q => absurd rfl q⟩)⟩⟩
      rw [hX.2.2.2.1.1, (hX.ln w0 w8).1]
      refine c_powN k0 k1 n0 n1 (fun q => absurd q (by omega)) (fun _ => ⟨fun _ => ?_, fun q => absurd rfl q⟩)
      rw [hX.2.2.2.1.1]
      refine c_search (isW_word w0 w8).l (hX.ln w0 w8) bw d0 d3 c4 hX.2.2.2.2.2.1 (fun M2 o2 z2 c2 => ⟨r0, r6, ?_⟩)
      rw [((hX.ln w0 w8).off o2 (by omega)).1]
      refine c_take (isL_row r0 r6) (m := 40) ⟨by decide, by decide, rfl⟩ n0 n1 n1 (by decide) ?_
      have hX2 : X S M2 := by
        obtain ⟨g1, g2, g3, g4, g5, g6, g7, g8⟩ := hX
        have kk : ∀ a, (a < 28 ∨ 34 < a) → M2 a = M a := o2
        refine ⟨fun q q1 q2 => ?_, fun q q1 q2 => ?_, fun q q1 q2 => ?_, by rw [kk 1 (by omega)]; exact g4, by rw [kk 5 (by omega)]; exact g5, z2, by rw [kk 14 (by omega)]; exact g7, by rw [kk 23 (by omega), kk (-1) (by omega)]; exact g8⟩
        · rw [kk (35 + 2 * q) (by omega), kk (35 + 2 * q + 1) (by omega)]; exact g1 q q1 q2
        · rw [kk (47 + 2 * q) (by omega), kk (47 + 2 * q + 1) (by omega)]; exact g2 q q1 q2
        · rw [kk (55 + 3 * q) (by omega), kk (55 + 3 * q + 1) (by omega), kk (55 + 3 * q + 1 + 1) (by omega)]; exact g3 q q1 q2
      exact ⟨rfl, hX2.tk r0 r6 c2, (o2.fx (by decide) (by decide)).tk r0 r6⟩
    · refine m_in hd (by decide) (by decide) (fun q => absurd q (by omega)) (fun _ => ⟨fun q => absurd q (by decide), fun _ => m_isRow hr (fun q => absurd q (by omega)) (fun _ => ⟨fun q => absurd q (by decide), fun _ => m_needWord hW hY (Or.inr rfl) hw (fun q => absurd q (by omega)) (fun q => absurd q (by omega)) (fun _ => ⟨by decide, fun _ => ⟨w0, w8, ?_⟩, fun q => absurd q (by decide)⟩)⟩)⟩)
      rw [(hY.ln w0 w8).1]
      refine m_twins w0 w8 (hY.ln w0 w8) bw hY.2.2.2.1.1 d0 d3 c4 (fun M2 k2 e2 c2 => m_comesToRow r0 r6 (by omega) (by omega) ?_)
      exact py_ctr hW (k2.y hY) k2.fy r0 r6 e2 n0 n1 c2 _
  · refine ⟨-6, S, hW, fun M hX => eX11_twins ?_, fun M hY => eX12_twins ?_⟩
    · refine ⟨hd, fun q => absurd q (by omega), fun _ => ⟨fun q => absurd q (by omega), fun _ => c_noRow hr (fun q => absurd q (by omega)) (fun _ => ⟨fun _ => c_refuseWord hW hX hw (fun q => absurd q (by omega)) (fun q => absurd q (by omega)) (fun _ => ⟨by decide, fun _ => ⟨w0, w8, ?_⟩, fun q => absurd rfl q⟩), fun q => absurd rfl q⟩)⟩⟩
      rw [hX.2.2.2.1.1, (hX.ln w0 w8).1]
      exact c_powN k0 k1 n0 n1 (fun _ => ⟨fun q => absurd q (by decide), fun _ => px_rf hX _⟩) (fun q => absurd q c4)
    · refine m_in hd (by decide) (by decide) (fun q => absurd q (by omega)) (fun _ => ⟨fun q => absurd q (by decide), fun _ => m_isRow hr (fun q => absurd q (by omega)) (fun _ => ⟨fun q => absurd q (by decide), fun _ => m_needWord hW hY (Or.inr rfl) hw (fun q => absurd q (by omega)) (fun q => absurd q (by omega)) (fun _ => ⟨by decide, fun _ => ⟨w0, w8, ?_⟩, fun q => absurd q (by decide)⟩)⟩)⟩)
      rw [(hY.ln w0 w8).1]
      exact m_spent k0 k1 n0 n1 hY.2.2.2.1.1 (by omega) (py_rf hY _)
