/-! 39 twins: words grown letter by letter -/
theorem cc_ne {k P c : Int} {d i : Nat} (d0 : 1 ≤ d) (h : P % k ≠ c % k) : cc k d (i + 1) P c = cc k d i (P / k) c := by
  obtain ⟨e, rfl⟩ : ∃ e, d = e + 1 := ⟨d - 1, by omega⟩
  rw [cc_s, if_neg h, Int.add_zero]
theorem tF_ex {k w e E : Int} {d n : Nat} (e0 : 0 ≤ e) (e1 : e < E) (h : tw k d n w e = true) : tF k d n w E ≠ -1 := by
  refine dn_ind (P := fun E => e < E → tF k d n w E ≠ -1) (a := e) (n := E) (by omega) (fun q => absurd q (by omega)) (fun y y0 y1 ih _ => ?_) e1
  have b := tF_s (k := k) (d := d) (n := n) (w := w) (show 0 ≤ y - 1 by omega)
  rw [show y - 1 + 1 = y by omega] at b
  rw [b]
  by_cases q : tF k d n w (y - 1) = -1 ∧ tw k d n w (y - 1) = true
  · rw [if_pos q]; omega
  · rw [if_neg q]
    intro q2
    by_cases c : e < y - 1
    · exact ih c q2
    · have ee : e = y - 1 := by omega
      rw [ee] at h
      exact q ⟨q2, h⟩
def bn (k n a P : Int) : Int := P * k ^ (n - a).toNat
theorem bn_0 {k n a P : Int} (h : a < n) : bn k n (a + 1) (P * k) = bn k n a P := by
  unfold bn
  rw [show (n - a).toNat = (n - (a + 1)).toNat + 1 by omega, Int.pow_succ, Int.mul_assoc, Int.mul_comm k]
theorem bn_e {k n P : Int} : bn k n n P = P := by
  unfold bn
  rw [show (n - n).toNat = 0 by omega, Int.pow_zero, Int.mul_one]
theorem dg_in {k a P x j : Int} (x0 : 0 ≤ x) (x1 : x < k) (j0 : 0 ≤ j) (j1 : j < a) : dg k (a + 1) (P * k + x) j = dg k a P j := by
  unfold dg
  rw [show (a + 1 - 1 - j).toNat = (a - 1 - j).toNat + 1 by omega]
  show pn k (a - 1 - j).toNat ((P * k + x) / k) % k = _
  rw [(dm x0 x1).1]
theorem dg_at {k a P x : Int} (x0 : 0 ≤ x) (x1 : x < k) : dg k (a + 1) (P * k + x) a = x := by
  unfold dg
  rw [show (a + 1 - 1 - a).toNat = 0 by omega]
  exact (dm x0 x1).2
def gI (M : Mem) (k d n w a P E : Int) : Prop := (M 28 6 = k ∧ M 28 7 = n ∧ M 28 8 = d) ∧ ctM M k d a.toNat P ∧ (∀ j, 0 ≤ j → j < a → M 30 j = dg k a P j) ∧ M 28 9 = tT k d.toNat n.toNat w E ∧ (tF k d.toNat n.toNat w E ≠ -1 → ∀ j, 0 ≤ j → j < n → M 29 j = dg k n (tF k d.toNat n.toNat w E) j)
def kpW (M M2 : Mem) : Prop := ∀ a, a ≠ 28 → a ≠ 29 → a ≠ 30 → a ≠ 31 → a ≠ 32 → a ≠ 33 → M2 a = M a
theorem kpW.rf {M : Mem} : kpW M M := fun _ _ _ _ _ _ _ => rfl
theorem kpW.tr {M M2 M3 : Mem} (h : kpW M M2) (h2 : kpW M2 M3) : kpW M M3 := fun a q1 q2 q3 q4 q5 q6 => (h2 a q1 q2 q3 q4 q5 q6).trans (h a q1 q2 q3 q4 q5 q6)
theorem kpT.w {M M2 : Mem} (h : kpT M M2) : kpW M M2 := fun a _ _ _ q4 q5 q6 => h a q4 q5 q6
theorem ctM.k {M M2 : Mem} {k d P : Int} {i : Nat} (h : ctM M k d i P) (h1 : M2 31 = M 31) (h2 : M2 32 = M 32) (h3 : M2 33 = M 33) : ctM M2 k d i P := by
  unfold ctM
  rw [h1, h2, h3]
  exact h
theorem c_grow {k d n w : Int} {Q : Vl → Mem → Prop} (k0 : 1 ≤ k) (k1 : k ≤ 6) (d0 : 1 ≤ d) (d3 : d ≤ 3) (n4 : n ≤ 40) (kn : k ^ n.toNat ≤ 10000) : ∀ (m : Nat) (a P : Int) (e : Nat) (M : Mem) (Q : Vl → Mem → Prop), (n - a).toNat = m → 0 ≤ a → a ≤ n → m + 1 ≤ e → 0 ≤ P → P < k ^ a.toNat → gI M k d n w a P (bn k n a P) → (∀ c, 0 ≤ c → c < k ^ d.toNat → M 34 c = cc k d.toNat n.toNat w c) → (∀ c, 0 ≤ c → c < k ^ d.toNat → cc k d.toNat a.toNat P c ≤ cc k d.toNat n.toNat w c) → (∀ M2, kpW M M2 → gI M2 k d n w a P (bn k n a (P + 1)) → Q (Iv 0) M2) → cl e yX9_grow [Rv 28, Iv a] M Q := by
  intro m
  induction m with
  | zero =>
    intro a P e M Q hm a0 an he P0 P1 g hD hok hq
    have ea : a = n := by omega
    subst ea
    obtain ⟨e, rfl⟩ : ∃ e', e = e' + 1 := ⟨e - 1, by omega⟩
    obtain ⟨⟨f6, f7, f8⟩, hc, h30, h9, h29⟩ := g
    have ht : tw k d.toNat a.toNat w P = true := tw_le k0 hok
    rw [bn_e] at h9 h29
    have tb := tF_b (k := k) (d := d.toNat) (n := a.toNat) (w := w) P0
    have ts := tT_s (k := k) (d := d.toNat) (n := a.toNat) (w := w) P0
    have fs := tF_s (k := k) (d := d.toNat) (n := a.toNat) (w := w) P0
    rw [if_pos ht] at ts
    have b1 := tb.1.1
    have b2 := tb.1.2
    refine eX9_grow ⟨⟨by omega, by omega⟩, by rw [f7]; exact ⟨by omega, by omega⟩, fun q => absurd q (by omega), fun _ => eX9_keepTwin ⟨by rw [h9]; exact ⟨by omega, by omega⟩, fun q => hq _ (fun b q1 _ _ _ _ _ => up_ne q1) ⟨⟨?_, ?_, ?_⟩, ?_, ?_, ?_, ?_⟩, fun q => ⟨by omega, by omega, hq _ (fun b q1 q2 _ _ _ _ => by rw [up_ne q1, setA_ne q2]) ⟨⟨?_, ?_, ?_⟩, ?_, ?_, ?_, ?_⟩⟩⟩⟩
    · rw [up_at, if_neg (by decide)]; exact f6
    · rw [up_at, if_neg (by decide)]; exact f7
    · rw [up_at, if_neg (by decide)]; exact f8
    · exact hc.k (up_ne (by decide)) (up_ne (by decide)) (up_ne (by decide))
    · rw [up_ne (by decide)]; exact h30
    · rw [up_at, if_pos rfl, bn_e, ts, h9]
    · have nz : tF k d.toNat a.toNat w P ≠ -1 := fun q2 => q (by rw [h9]; exact tb.2.2.2.2 q2)
      rw [bn_e, fs, if_neg (fun q2 => nz q2.1), up_ne (by decide)]
      exact h29
    · rw [up_at, if_neg (by decide), setA_ne (by decide)]; exact f6
    · rw [up_at, if_neg (by decide), setA_ne (by decide)]; exact f7
    · rw [up_at, if_neg (by decide), setA_ne (by decide)]; exact f8
    · exact hc.k (by rw [up_ne (by decide), setA_ne (by decide)]) (by rw [up_ne (by decide), setA_ne (by decide)]) (by rw [up_ne (by decide), setA_ne (by decide)])
    · rw [up_ne (by decide), setA_ne (by decide)]; exact h30
    · rw [up_at, if_pos rfl, bn_e, ts, h9]
    · have nz : tF k d.toNat a.toNat w P = -1 := tb.2.2.2.1 (by rw [← h9]; exact q)
      rw [bn_e, fs, if_pos ⟨nz, ht⟩, up_ne (by decide), setA_eq]
      intro _ j j0 j1
      unfold cpyf
      rw [if_pos (by omega), show (0 : Int) + (j - 0) = j by omega]
      exact h30 j j0 j1
  | succ m ih =>
    intro a P e M Q hm a0 an he P0 P1 g hD hok hq
    obtain ⟨e, rfl⟩ : ∃ e', e = e' + 1 := ⟨e - 1, by omega⟩
    have alt : a < n := by omega
    have f7 := g.1.2.1
    have at1 : (a + 1).toNat = a.toNat + 1 := by omega
    have pa : 0 < k ^ a.toNat := Int.pow_pos (by omega)
    refine eX9_grow ⟨⟨by omega, by omega⟩, by rw [f7]; exact ⟨by omega, by omega⟩, fun _ => ?_, fun q => absurd q (by omega)⟩
    refine up_ind (P := fun x => ∀ M2, kpW M M2 → gI M2 k d n w a P (bn k n (a + 1) (P * k + x)) → wp (e + 1) yX9_grow 15 [some (Rv 28), some (Iv a), some (Iv x)] [] M2 Q) (a := 0) (n := k) (by omega) (fun M2 o2 g2 => ?_) (fun x x0 x1 ih2 M2 o2 g2 => ?_) M kpW.rf (by rw [Int.add_zero, bn_0 alt]; exact g)
    · refine gX9_grow_15 ⟨⟨by omega, by omega⟩, by rw [g2.1.1]; exact ⟨by omega, by omega⟩, fun _ => hq M2 o2 ?_, fun q => absurd q (by rw [g2.1.1]; omega)⟩
      rw [show P * k + k = (P + 1) * k by rw [Int.add_mul, Int.one_mul], bn_0 alt] at g2
      exact g2
    · obtain ⟨⟨f6, f7, f8⟩, hc, h30, h9, h29⟩ := g2
      obtain ⟨dv, dx⟩ := dm (p := P) x0 x1
      have Pk0 : 0 ≤ P * k := Int.mul_nonneg P0 (by omega)
      have Pk1 : (P + 1) * k ≤ k ^ a.toNat * k := Int.mul_le_mul_of_nonneg_right (by omega) (by omega)
      rw [Int.add_mul, Int.one_mul, ← Int.pow_succ, show a.toNat.succ = (a + 1).toNat by omega] at Pk1
      have o3 : kpW M (up M2 30 a x) := fun b q1 q2 q3 q4 q5 q6 => by rw [up_ne q3]; exact o2 b q1 q2 q3 q4 q5 q6
      have D2 : ∀ M3, kpW M M3 → ∀ c, 0 ≤ c → c < k ^ d.toNat → M3 34 c = cc k d.toNat n.toNat w c := fun M3 o c c0 c1 => by rw [o 34 (by decide) (by decide) (by decide) (by decide) (by decide) (by decide)]; exact hD c c0 c1
      -- back to the beginning without the letter
      have back : ∀ M4 E, kpW M M4 → (M4 28 6 = k ∧ M4 28 7 = n ∧ M4 28 8 = d) → ctM M4 k d (a.toNat + 1) (P * k + x) → (∀ j, 0 ≤ j → j < a → M4 30 j = dg k a P j) → M4 28 9 = tT k d.toNat n.toNat w E → (tF k d.toNat n.toNat w E ≠ -1 → ∀ j, 0 ≤ j → j < n → M4 29 j = dg k n (tF k d.toNat n.toNat w E) j) → E = bn k n (a + 1) (P * k + (x + 1)) → cl 0 yX9_takeLetter [Rv 28, Iv x] M4 (QV (fun M9 => (wp (e + 1) yX9_grow 15 [some (Rv 28), some (Iv a), some (Iv (x + 1))] [] M9 Q))) := by
        intro M4 E o4 f4 c4 d4 n4' t4 hE
        subst hE
        refine c_takeL k0 k1 d0 d3 f4.1 f4.2.2 c4 x0 x1 (fun M5 o5 c5 => ih2 M5 (o4.tr o5.w) ⟨?_, c5, ?_, ?_, ?_⟩)
        · rw [o5 28 (by decide) (by decide) (by decide)]; exact f4
        · rw [o5 30 (by decide) (by decide) (by decide)]; exact d4
        · rw [o5 28 (by decide) (by decide) (by decide)]; exact n4'
        · rw [o5 29 (by decide) (by decide) (by decide)]; exact t4
      refine gX9_grow_15 ⟨⟨by omega, by omega⟩, by rw [f6]; exact ⟨by omega, by omega⟩, fun q => absurd q (by rw [f6]; omega), fun _ => ⟨a0, by omega, c_add k0 k1 d0 d3 (by rw [up_ne (by decide)]; exact f6) (by rw [up_ne (by decide)]; exact f8) (hc.k (up_ne (by decide)) (up_ne (by decide)) (up_ne (by decide))) x0 x1 (fun M4 o4 c4 => ?_)⟩⟩
      have k4 : kpW M M4 := o3.tr o4.w
      have e28 : M4 28 = M2 28 := by rw [o4 28 (by decide) (by decide) (by decide), up_ne (by decide)]
      have e29 : M4 29 = M2 29 := by rw [o4 29 (by decide) (by decide) (by decide), up_ne (by decide)]
      have e30 : ∀ j, M4 30 j = if j = a then x else M2 30 j := fun j => by rw [o4 30 (by decide) (by decide) (by decide), up_at]
      have f4 : M4 28 6 = k ∧ M4 28 7 = n ∧ M4 28 8 = d := by rw [e28]; exact ⟨f6, f7, f8⟩
      have d4 : ∀ j, 0 ≤ j → j < a → M4 30 j = dg k a P j := fun j j0 j1 => by rw [e30 j, if_neg (by omega)]; exact h30 j j0 j1
      refine c_many k0 k1 d0 d3 (show a.toNat + 1 ≤ 40 by omega) f4.1 f4.2.2 c4 x0 x1 (fun c c0 c1 => ⟨D2 M4 k4 c c0 c1, by have := cc_b (k := k) (P := w) (c := c) (show d.toNat ≤ 3 by omega) (show n.toNat ≤ 40 by omega); exact ⟨by omega, by omega⟩⟩) (fun c c0 c1 hc9 => ⟨fun _ => ?_, fun q => absurd q (by decide)⟩) (fun hn => ⟨fun q => absurd rfl q, fun _ => ?_⟩)
      · have bm : bn k n (a + 1) (P * k + x) ≤ bn k n (a + 1) (P * k + (x + 1)) := by
          unfold bn
          exact Int.mul_le_mul_of_nonneg_right (by omega) (Int.le_of_lt (Int.pow_pos (by omega)))
        have b0 : 0 ≤ bn k n (a + 1) (P * k + x) := by
          unfold bn
          exact Int.mul_nonneg (by omega) (Int.le_of_lt (Int.pow_pos (by omega)))
        have same := tT_same (k := k) (w := w) (d := d.toNat) (n := n.toNat) b0 bm (fun e' e0 e1 he => by
          have pb := pn_blk k0 (n - (a + 1)).toNat (P * k + x) e' e0 (by rw [Int.add_assoc]; exact e1)
          have mo := cc_mono (k := k) (c := c) (d := d.toNat) (i := a.toNat + 1) (n - (a + 1)).toNat e'
          rw [pb, show a.toNat + 1 + (n - (a + 1)).toNat = n.toNat by omega, (tw_iff k0).1 he c c0 c1] at mo
          omega)
        refine back M4 _ k4 f4 c4 d4 ?_ ?_ rfl
        · rw [e28, same.1]; exact h9
        · rw [e29, same.2]; exact h29
      · have hm' : (n - (a + 1)).toNat = m := by omega
        refine ih (a + 1) (P * k + x) e M4 _ hm' (by omega) (by omega) (by omega) (by omega) (by omega) ⟨f4, ?_, fun j j0 j1 => ?_, ?_, ?_⟩ (D2 M4 k4) (fun c c0 c1 => ?_) (fun M5 o5 g5 => ?_)
        · rw [at1]; exact c4
        · rw [e30 j]
          by_cases je : j = a
          · rw [if_pos je, je, dg_at x0 x1]
          · rw [if_neg je, dg_in x0 x1 j0 (by omega)]; exact h30 j j0 (by omega)
        · rw [e28]; exact h9
        · rw [e29]; exact h29
        · rw [at1]
          by_cases ce : c % k = x
          · exact hn c c0 c1 ce
          · rw [cc_ne (by omega) (by rw [dx]; exact fun q => ce q.symm), dv]
            exact hok c c0 c1
        · obtain ⟨g51, g52, g53, g54, g55⟩ := g5
          rw [at1] at g52
          exact back M5 _ (k4.tr o5) g51 g52 (fun j j0 j1 => by rw [g53 j j0 (by omega), dg_in x0 x1 j0 j1]) g54 g55 (by rw [Int.add_assoc])
def zM (M : Mem) : Prop := (∀ i, 0 ≤ i → i < 6 → M 31 i = 0) ∧ (∀ i, 0 ≤ i → i < 36 → M 32 i = 0) ∧ (∀ i, 0 ≤ i → i < 216 → M 33 i = 0)
theorem zM_c {M : Mem} {k d : Int} : zM M ↔ ctM M k d 0 0 := by
  have z1 : ∀ c, c1v k 0 0 c = 0 := fun c => by unfold c1v; rw [cc_z]; split <;> rfl
  have z2 : ∀ c, c2v k 0 0 c = 0 := fun c => by unfold c2v; rw [cc_z]; split <;> rfl
  have z3 : ∀ c, c3v k d 0 0 c = 0 := fun c => by unfold c3v; rw [cc_z]; split <;> rfl
  refine ⟨fun h => ⟨fun c c0 c1 => by rw [z1]; exact h.1 c c0 c1, fun c c0 c1 => by rw [z2]; exact h.2.1 c c0 c1, fun c c0 c1 => by rw [z3]; exact h.2.2 c c0 c1⟩, fun h => ⟨fun c c0 c1 => by rw [← z1 c]; exact h.1 c c0 c1, fun c c0 c1 => by rw [← z2 c]; exact h.2.1 c c0 c1, fun c c0 c1 => by rw [← z3 c]; exact h.2.2 c c0 c1⟩⟩
theorem c_search {M : Mem} {a n k d : Int} {W : Int → Int} {Q : Vl → Mem → Prop} (hl : isL a 40) (l : lnX M a n W) (b : wdB n W k) (d0 : 1 ≤ d) (d3 : d ≤ 3) (kn : k ^ n.toNat ≤ 10000) (hz : zM M) (hq : ∀ M2, off 28 34 M M2 → zM M2 → (∀ j, 0 ≤ j → j < n → M2 29 j = dg k n (tF k d.toNat n.toNat (cu k W n.toNat) (k ^ n.toNat)) j) → Q (Iv (tT k d.toNat n.toNat (cu k W n.toNat) (k ^ n.toNat))) M2) : cl 0 yX9_search [Rv 28, Rv a, Iv k, Iv d] M Q := by
  have ha := hl.1
  have ha1 := hl.2.1
  obtain ⟨n0, n1, k0, k1, hw⟩ := b
  have pd : 0 < k ^ d.toNat := Int.pow_pos (by omega)
  refine eX9_search hl ?_
  rw [up_ne (show a ≠ 28 by omega), l.1]
  have lnT : ∀ M2, off 28 34 M M2 → lnX M2 a n W := fun M2 o2 => l.off o2 (by omega)
  have start : ∀ M2, off 28 34 M M2 → (M2 28 6 = k ∧ M2 28 7 = n ∧ M2 28 8 = d ∧ M2 28 9 = 0) → ctM M2 k d 0 0 → (∀ c, 0 ≤ c → c < k ^ d.toNat → M2 34 c = cc k d.toNat n.toNat (cu k W n.toNat) c) → cl 41 yX9_grow [Rv 28, Iv 0] M2 (QV (fun M3 => (Q (Iv (M3 28 9)) M3))) := by
    intro M2 o2 f2 c2 D2
    have bz : bn k n 0 0 = 0 := by unfold bn; rw [Int.zero_mul]
    have b1 : bn k n 0 (0 + 1) = k ^ n.toNat := by unfold bn; rw [Int.zero_add, Int.one_mul, Int.sub_zero]
    refine c_grow (Q := Q) k0 k1 d0 d3 n1 kn n.toNat 0 0 41 M2 _ (by rw [Int.sub_zero]) (Int.le_refl 0) n0 (by omega) (Int.le_refl 0) (by rw [show Int.toNat 0 = 0 from rfl, Int.pow_zero]; decide) ⟨⟨f2.1, f2.2.1, f2.2.2.1⟩, c2, fun j j0 j1 => absurd j1 (by omega), by rw [bz, f2.2.2.2]; rfl, fun q => absurd (by rw [bz]; rfl) q⟩ D2 (fun c c0 c1 => ?_) (fun M3 o3 g3 => ?_)
    · obtain ⟨e, he⟩ : ∃ e, d.toNat = e + 1 := ⟨d.toNat - 1, by omega⟩
      rw [he, show Int.toNat 0 = 0 from rfl, cc_z]
      exact cc_nn _ _ _ _
    · obtain ⟨g31, g32, g33, g34, g35⟩ := g3
      rw [b1] at g34 g35
      have cub := cu_b (k := k) (u := W) k0 n.toNat (fun j j0 j1 => hw j j0 (by omega))
      have nz := tF_ex (k := k) (d := d.toNat) (n := n.toNat) (w := cu k W n.toNat) cub.1 cub.2 ((tw_iff k0).2 (fun c _ _ => rfl))
      show Q (Iv (M3 28 9)) M3
      rw [g34]
      exact hq M3 (fun b hb => by rw [o3 b (by omega) (by omega) (by omega) (by omega) (by omega) (by omega)]; exact o2 b hb) (zM_c.2 g32) (g35 nz)
  refine up_ind (P := fun i => ∀ M2, off 28 34 M M2 → (M2 28 6 = k ∧ M2 28 7 = n ∧ M2 28 8 = d ∧ M2 28 9 = 0) → ctM M2 k d i.toNat (cu k W i.toNat) → wp 0 yX9_search 26 [some (Rv 28), some (Rv a), some (Iv k), some (Iv d), some (Iv i), none] [] M2 Q) (a := 0) (n := n) n0 (fun M2 o2 f2 c2 => ?_) (fun i i0 i1 ih M2 o2 f2 c2 => ?_) _ ((((off.rf.upd (by decide) (by decide)).upd (by decide) (by decide)).upd (by decide) (by decide)).upd (by decide) (by decide)) ⟨by rw [up_at, if_neg (by decide), up_at, if_neg (by decide), up_at, if_neg (by decide), up_at, if_pos rfl], by rw [up_at, if_neg (by decide), up_at, if_neg (by decide), up_at, if_pos rfl], by rw [up_at, if_neg (by decide), up_at, if_pos rfl], by rw [up_at, if_pos rfl]⟩ ((zM_c (k := k) (d := d)).1 ⟨by rw [up_ne (by decide), up_ne (by decide), up_ne (by decide), up_ne (by decide)]; exact hz.1, by rw [up_ne (by decide), up_ne (by decide), up_ne (by decide), up_ne (by decide)]; exact hz.2.1, by rw [up_ne (by decide), up_ne (by decide), up_ne (by decide), up_ne (by decide)]; exact hz.2.2⟩)
  · have e1 := (lnT M2 o2).1
    refine gX9_search_26 hl ⟨⟨by omega, by omega⟩, by rw [e1]; exact ⟨by omega, by omega⟩, fun _ => c_depth k0 k1 d0 d3 f2.2.2.1 c2 (fun z m hz2 hzb hm hm2 hcz => ⟨m, hz2, by omega, by omega, by omega, ?_⟩), fun q => absurd q (by omega)⟩
    have o3 : off 28 34 M (setA M2 34 (cpyf M2 z 0 34 0 (m : Int))) := o2.set (by decide) (by decide)
    rw [(lnT _ o3).1]
    have D3 : ∀ c, 0 ≤ c → c < k ^ d.toNat → setA M2 34 (cpyf M2 z 0 34 0 (m : Int)) 34 c = cc k d.toNat n.toNat (cu k W n.toNat) c := fun c c0 c1 => by
      rw [setA_eq]
      unfold cpyf
      rw [if_pos (by omega), show (0 : Int) + (c - 0) = c by omega]
      exact hcz c c0 c1
    refine dn_ind (P := fun i => i < n → ∀ M4, off 28 34 M M4 → (M4 28 6 = k ∧ M4 28 7 = n ∧ M4 28 8 = d ∧ M4 28 9 = 0) → (∀ c, 0 ≤ c → c < k ^ d.toNat → M4 34 c = cc k d.toNat n.toNat (cu k W n.toNat) c) → ctM M4 k d (i + 1).toNat (cu k W (i + 1).toNat) → wp 0 yX9_search 80 [some (Rv 28), some (Rv a), some (Iv k), some (Iv d), some (Rv z), some (Iv i)] [] M4 Q) (a := -1) (n := n - 1) (by omega) (fun _ M4 o4 f4 D4 c4 => ?_) (fun i i0 i1 ih2 hi M4 o4 f4 D4 c4 => ?_) (by omega) _ o3 (by rw [setA_ne (by decide)]; exact f2) D3 (by rw [show n - 1 + 1 = n by omega]; exact c2.k (setA_ne (by decide)) (setA_ne (by decide)) (setA_ne (by decide)))
    · exact gX9_search_80 hl hz2 ⟨by decide, fun _ => start M4 o4 f4 c4 D4, fun q => absurd q (by decide)⟩
    · have e2 := (lnT M4 o4).2 i (by omega) hi
      have gw := hw i (by omega) hi
      refine gX9_search_80 hl hz2 ⟨⟨by omega, by omega⟩, fun q => absurd q (by omega), fun _ => ⟨by omega, ?_⟩⟩
      rw [e2]
      have es : cu k W (i + 1).toNat = cu k W i.toNat * k + W i := by
        rw [show (i + 1).toNat = i.toNat + 1 by omega]
        show cu k W i.toNat * k + W (i.toNat : Int) = _
        rw [show ((i.toNat : Nat) : Int) = i by omega]
      rw [es, show (i + 1).toNat = i.toNat + 1 by omega] at c4
      refine c_takeL k0 k1 d0 d3 f4.1 f4.2.2.1 c4 gw.1 gw.2 (fun M5 o5 c5 => ih2 (by omega) M5 (fun b hb => by rw [o5 b (by omega) (by omega) (by omega)]; exact o4 b hb) (by rw [o5 28 (by decide) (by decide) (by decide)]; exact f4) (by rw [o5 34 (by decide) (by decide) (by decide)]; exact D4) ?_)
      rw [show i - 1 + 1 = i by omega]
      exact c5
  · have e1 := (lnT M2 o2).1
    have e2 := (lnT M2 o2).2 i i0 i1
    have gw := hw i i0 i1
    refine gX9_search_26 hl ⟨⟨by omega, by omega⟩, by rw [e1]; exact ⟨by omega, by omega⟩, fun q => absurd q (by omega), fun _ => ⟨i0, by omega, ?_⟩⟩
    rw [e2]
    refine c_add k0 k1 d0 d3 f2.1 f2.2.2.1 c2 gw.1 gw.2 (fun M5 o5 c5 => ih M5 (fun b hb => by rw [o5 b (by omega) (by omega) (by omega)]; exact o2 b hb) (by rw [o5 28 (by decide) (by decide) (by decide)]; exact f2) ?_)
    rw [show (i + 1).toNat = i.toNat + 1 by omega]
    show ctM M5 k d (i.toNat + 1) (cu k W i.toNat * k + W (i.toNat : Int))
    rw [show ((i.toNat : Nat) : Int) = i by omega]
    exact c5
