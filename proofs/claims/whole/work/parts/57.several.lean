/-! 36 common, 37 cover: the class's places in several words -/
def kpS (M M2 : Mem) : Prop := ∀ a, a ≠ 6 → a ≠ 26 → a ≠ 27 → a ≠ 120 → M2 a = M a
theorem kpS.rf {M : Mem} : kpS M M := fun _ _ _ _ _ => rfl
theorem kpS.tr {M M2 M3 : Mem} (h : kpS M M2) (h2 : kpS M2 M3) : kpS M M3 := fun a q1 q2 q3 q4 => (h2 a q1 q2 q3 q4).trans (h a q1 q2 q3 q4)
theorem kpS.u {M M2 : Mem} (h : kpS M M2) {a k v : Int} (ha : a = 6 ∨ a = 26 ∨ a = 27 ∨ a = 120) : kpS M (up M2 a k v) := fun b q1 q2 q3 q4 => by rw [up_ne (by omega)]; exact h b q1 q2 q3 q4
theorem kpS.f {M M2 : Mem} (h : ∀ a, a ≠ 26 → M2 a = M a) : kpS M M2 := fun a _ q _ _ => h a q
theorem sevX.kp {M M2 : Mem} {L : Int → Int → Int} {N : Int → Int} {r : Int} (h : sevX M L N r) (k : kpS M M2) : sevX M2 L N r := by
  obtain ⟨h1, h2, h3⟩ := h
  refine ⟨by rw [k 23 (by decide) (by decide) (by decide) (by decide)]; exact h1, by rw [k 23 (by decide) (by decide) (by decide) (by decide)]; exact h2, fun s s0 s1 => ?_⟩
  obtain ⟨g1, g2, g3⟩ := h3 s s0 s1
  rw [k 25 (by decide) (by decide) (by decide) (by decide), k 24 (by decide) (by decide) (by decide) (by decide)]
  have a0 := g2.1
  have a1 := g2.2.1
  refine ⟨g1, g2, ?_⟩
  unfold lnX
  rw [k (M 24 s) (by omega) (by omega) (by omega) (by omega), k (M 24 s + 1) (by omega) (by omega) (by omega) (by omega)]
  exact g3
def plX (M : Mem) (p : Int → Int) (r : Int) : Prop := ∀ s, 0 ≤ s → s < r → M 26 s = p s
theorem c_head5 {M : Mem} {L : Int → Int → Int} {N p : Int → Int} {r k s : Int} {Q : Vl → Mem → Prop} (h : fam L N r k) (sv : sevX M L N r) (pl : M 26 s = p s) (v : vld N p r) (s0 : 0 ≤ s) (s1 : s < r) (hl : p s < N s) (hq : Q (Iv (L s (p s))) M) : cl 0 yX5_head [Rv 23, Iv s] M Q := by
  obtain ⟨g1, g2, g3⟩ := sv.2.2 s s0 s1
  have nb := h.n s s0 s1
  have r4 := h.2.1
  have vs := v s s0 s1
  refine eX5_head ⟨s0, by omega, g2, by rw [pl]; omega, by rw [pl]; omega, ?_⟩
  rw [pl, g3.2 _ vs.1 hl]
  exact hq
theorem c_next5 {M : Mem} {L : Int → Int → Int} {N p : Int → Int} {r k s x : Int} {Q : Vl → Mem → Prop} (h : fam L N r k) (sv : sevX M L N r) (pl : M 26 s = p s) (v : vld N p r) (s0 : 0 ≤ s) (s1 : s < r) (hx : inr x) (hq : Q (Iv (nv L N p x s)) M) : cl 0 yX5_behindNext [Rv 23, Iv s, Iv x] M Q := by
  obtain ⟨g1, g2, g3⟩ := sv.2.2 s s0 s1
  have fb := h.2.2 s s0 s1
  have nb := h.n s s0 s1
  have r4 := h.2.1
  have vs := v s s0 s1
  unfold nv at hq
  refine eX5_behindNext ⟨s0, by omega, ?_⟩
  rw [pl]
  refine up_ind (P := fun z => bh (L s) (N s) z x = bh (L s) (N s) (p s) x → wp 0 yX5_behindNext 7 [some (Rv 23), some (Iv s), some (Iv x), some (Iv z)] [] M Q) (a := p s) (n := N s) vs.2 (fun hz => ?_) (fun z z0 z1 ih hz => ?_) rfl
  · refine gX5_behindNext_7 ⟨s0, by omega, g2, ⟨by omega, by omega⟩, by rw [g3.1]; exact ⟨by omega, by omega⟩, fun q => ?_, fun q => absurd q (by rw [g3.1]; omega)⟩
    rw [← hz, bh_e (Int.le_refl _)] at hq
    exact hq
  · have lb := fb.2.2.2.2 z (by omega) z1
    have k6 := h.k
    refine gX5_behindNext_7 ⟨s0, by omega, g2, ⟨by omega, by omega⟩, by rw [g3.1]; exact ⟨by omega, by omega⟩, fun q => absurd q (by rw [g3.1]; omega), fun _ => ⟨by omega, by omega, ?_⟩⟩
    rw [g3.2 z (by omega) z1]
    refine ⟨Or.inr ⟨⟨by omega, by omega⟩, hx⟩, fun q => ih ?_, fun q => ?_⟩
    · rw [← hz, bh_s (by omega) z1, if_neg q]
    · rw [← hz, bh_s (by omega) z1, if_pos q] at hq
      exact hq
theorem c_goB {M : Mem} {r : Int} {Q : Vl → Mem → Prop} (e : M 23 5 = r) (r0 : 0 ≤ r) (r4 : r ≤ 4) (hq : ∀ M2, (∀ a, a ≠ 26 → M2 a = M a) → plX M2 zf r → Q (Iv 0) M2) : cl 0 yX5_goToBeginning [Rv 23] M Q := by
  refine eX5_goToBeginning ?_
  refine up_ind (P := fun s => ∀ M2, (∀ a, a ≠ 26 → M2 a = M a) → plX M2 zf s → wp 0 yX5_goToBeginning 2 [some (Rv 23), some (Iv s)] [] M2 Q) (a := 0) (n := r) r0 (fun M2 o2 c2 => ?_) (fun s s0 s1 ih M2 o2 c2 => ?_) M (fun _ _ => rfl) (fun s s0 s1 => absurd s1 (by omega))
  · have e2 : M2 23 5 = r := by rw [o2 23 (by decide)]; exact e
    exact gX5_goToBeginning_2 ⟨⟨by omega, by omega⟩, by rw [e2]; exact ⟨by omega, by omega⟩, fun _ => hq M2 o2 c2, fun q => absurd q (by omega)⟩
  · have e2 : M2 23 5 = r := by rw [o2 23 (by decide)]; exact e
    refine gX5_goToBeginning_2 ⟨⟨by omega, by omega⟩, by rw [e2]; exact ⟨by omega, by omega⟩, fun q => absurd q (by omega), fun _ => ⟨s0, by omega, ih _ (fun a h => by rw [up_ne h]; exact o2 a h) (fun t t0 t1 => ?_)⟩⟩
    rw [up_at]
    by_cases c : t = s
    · rw [if_pos c, zf_v]
    · rw [if_neg c]; exact c2 t t0 (by omega)
def kpE (M M2 : Mem) : Prop := (∀ a, a ≠ 26 → a ≠ 23 → a ≠ -1 → a ≠ 120 → M2 a = M a) ∧ (∀ q, q ≠ 4 → M2 23 q = M 23 q) ∧ M2 23 4 = 120 ∧ M2 (-1) 0 = 1
theorem sevX.kE {M M2 : Mem} {L : Int → Int → Int} {N : Int → Int} {r : Int} (h : sevX M L N r) (k : kpE M M2) : sevX M2 L N r := by
  obtain ⟨h1, h2, h3⟩ := h
  refine ⟨by rw [k.2.1 5 (by decide)]; exact h1, by rw [k.2.1 6 (by decide)]; exact h2, fun s s0 s1 => ?_⟩
  obtain ⟨g1, g2, g3⟩ := h3 s s0 s1
  rw [k.1 25 (by decide) (by decide) (by decide) (by decide), k.1 24 (by decide) (by decide) (by decide) (by decide)]
  have a0 := g2.1
  have a1 := g2.2.1
  refine ⟨g1, g2, ?_⟩
  unfold lnX
  rw [k.1 (M 24 s) (by omega) (by omega) (by omega) (by omega), k.1 (M 24 s + 1) (by omega) (by omega) (by omega) (by omega)]
  exact g3
theorem c_goE {M : Mem} {L : Int → Int → Int} {N : Int → Int} {r k : Int} {Q : Vl → Mem → Prop} (h : fam L N r k) (sv : sevX M L N r) (ht : (M 23 4 = -1 ∧ M (-1) 0 = 0) ∨ (M 23 4 = 120 ∧ M (-1) 0 = 1)) (hq : ∀ M2, kpE M M2 → plX M2 N r → Q (Iv 0) M2) : cl 0 yX5_goToEnd [Rv 23] M Q := by
  have r1 := h.1
  have r4 := h.2.1
  have main : ∀ M1, kpE M M1 → wp 0 yX5_goToEnd 18 [some (Rv 23), some (Iv 0)] [] M1 Q := by
    intro M1 k1
    refine up_ind (P := fun s => ∀ M2, kpE M M2 → plX M2 N s → wp 0 yX5_goToEnd 18 [some (Rv 23), some (Iv s)] [] M2 Q) (a := 0) (n := r) (by omega) (fun M2 o2 c2 => ?_) (fun s s0 s1 ih M2 o2 c2 => ?_) M1 k1 (fun s s0 s1 => absurd s1 (by omega))
    · have e2 := (sv.kE o2).1
      exact gX5_goToEnd_18 ⟨⟨by omega, by omega⟩, by rw [e2]; exact ⟨by omega, by omega⟩, fun _ => hq M2 o2 c2, fun q => absurd q (by omega)⟩
    · have e2 := (sv.kE o2).1
      obtain ⟨g1, g2, g3⟩ := (sv.kE o2).2.2 s s0 s1
      refine gX5_goToEnd_18 ⟨⟨by omega, by omega⟩, by rw [e2]; exact ⟨by omega, by omega⟩, fun q => absurd q (by omega), fun _ => ⟨s0, by omega, g2, ih _ ⟨fun a q1 q2 q3 q4 => by rw [up_ne q1]; exact o2.1 a q1 q2 q3 q4, fun q h => by rw [up_ne (by decide)]; exact o2.2.1 q h, by rw [up_ne (by decide)]; exact o2.2.2.1, by rw [up_ne (by decide)]; exact o2.2.2.2⟩ (fun t t0 t1 => ?_)⟩⟩
      rw [up_at]
      by_cases c : t = s
      · rw [if_pos c, g3.1, c]
      · rw [if_neg c]; exact c2 t t0 (by omega)
  refine eX5_goToEnd ⟨fun q => main M ?_, fun q => ⟨?_, main _ ?_⟩⟩
  · rcases ht with ⟨t1, t2⟩ | ⟨t1, t2⟩
    · exact absurd q (by omega)
    · exact ⟨fun _ _ _ _ _ => rfl, fun _ _ => rfl, t1, t2⟩
  · rcases ht with ⟨t1, t2⟩ | ⟨t1, t2⟩
    · omega
    · exact absurd q (by omega)
  · refine ⟨fun a q1 q2 q3 q4 => by rw [up_ne q2, up_ne q3, setA_ne q4], fun q h => by rw [up_at, if_neg h, up_ne (by decide), setA_ne (by decide)], by rw [up_at, if_pos rfl], by rw [up_ne (by decide), up_at, if_pos rfl]⟩
theorem c_back {M : Mem} {L : Int → Int → Int} {N p : Int → Int} {r k : Int} {Q : Vl → Mem → Prop} (h : fam L N r k) (sv : sevX M L N r) (pl : plX M p r) (v : vld N p r) (hq : ∀ M2 p2, (∀ a, a ≠ 26 → M2 a = M a) → plX M2 p2 r → vld N p2 r → (0 < en N p r → en N p2 r = en N p r - 1) → Q (Iv 0) M2) : cl 0 yX5_stepBack [Rv 23] M Q := by
  have r1 := h.1
  have r4 := h.2.1
  refine eX5_stepBack ?_
  refine up_ind (P := fun s => ∀ M2 q, (∀ a, a ≠ 26 → M2 a = M a) → plX M2 q r → vld N q r → en N q r = en N p r + st N s - 1 → wp 0 yX5_stepBack 2 [some (Rv 23), some (Iv s)] [] M2 Q) (a := 0) (n := r) (by omega) (fun M2 q o2 c2 w e => ?_) (fun s s0 s1 ih M2 q o2 c2 w e => ?_) M p (fun _ _ => rfl) pl v (by rw [st_0]; omega)
  · have e2 := (sv.kp (kpS.f o2)).1
    have b := en_b h.n w (show 0 ≤ r by omega) (Int.le_refl r)
    exact gX5_stepBack_2 ⟨⟨by omega, by omega⟩, by rw [e2]; exact ⟨by omega, by omega⟩, fun _ => hq M2 q o2 c2 w (fun h0 => by omega), fun q => absurd q (by omega)⟩
  · have sv2 := sv.kp (kpS.f o2)
    have e2 := sv2.1
    obtain ⟨g1, g2, g3⟩ := sv2.2.2 s s0 s1
    have ws := w s s0 s1
    have nb := h.n s s0 s1
    have es := c2 s s0 s1
    refine gX5_stepBack_2 ⟨⟨by omega, by omega⟩, by rw [e2]; exact ⟨by omega, by omega⟩, fun q => absurd q (by omega), fun _ => ⟨s0, by omega, by rw [es]; exact ⟨by omega, by omega⟩, fun q1 => ⟨g2, ih _ (gup q s (N s)) (fun a ha => by rw [up_ne ha]; exact o2 a ha) (fun t t0 t1 => ?_) (fun t t0 t1 => ?_) ?_⟩, fun q1 => hq _ (gup q s (q s - 1)) (fun a ha => by rw [up_ne ha]; exact o2 a ha) (fun t t0 t1 => ?_) (fun t t0 t1 => ?_) (fun h0 => ?_)⟩⟩
    · rw [up_at, g3.1]
      by_cases c : t = s
      · rw [if_pos c, gup_e c]
      · rw [if_neg c, gup_n c]; exact c2 t t0 t1
    · by_cases c : t = s
      · rw [gup_e c, c]; omega
      · rw [gup_n c]; exact w t t0 t1
    · have qz : q s = 0 := by omega
      rw [en_gup s0 s1, qz, Int.sub_zero, st_s s0, Int.mul_add, Int.mul_one, Int.mul_comm (st N s) (N s)]
      omega
    · rw [up_at, es]
      by_cases c : t = s
      · rw [if_pos c, gup_e c]
      · rw [if_neg c, gup_n c]; exact c2 t t0 t1
    · by_cases c : t = s
      · rw [gup_e c, c]; omega
      · rw [gup_n c]; exact w t t0 t1
    · rw [en_gup s0 s1, show q s - 1 - q s = -1 by omega, Int.neg_one_mul]
      omega
def tbX (M : Mem) (f : (Int → Int) → Int) (N : Int → Int) (r c : Int) : Prop := M 23 4 = 120 ∧ M (-1) 0 = 1 ∧ ∀ p, vld N p r → c < en N p r → M 120 (en N p r) = f p
def of1 (_ : Int) : Int := 1
theorem of1_v (t : Int) : of1 t = 1 := rfl
theorem c_cmFrom {M : Mem} {L : Int → Int → Int} {N p : Int → Int} {r k : Int} {Q : Vl → Mem → Prop} (h : fam L N r k) (sv : sevX M L N r) (pl : plX M p r) (v : vld N p r) (h20 : st N r ≤ 20000) (tb : tbX M (cm L N r) N r (en N p r)) (hq : Q (Iv (cm L N r p)) M) : cl 0 yX5_commonFrom [Rv 23, Iv (en N p r)] M Q := by
  have r1 := h.1
  have r4 := h.2.1
  obtain ⟨t1, t2, t3⟩ := tb
  have w : ∀ s, 0 ≤ s → s < r → p s < N s → vld N (gup p s (p s + 1)) r := fun s s0 s1 b t t0 t1 => by
    have a := v s s0 s1
    by_cases c : t = s
    · rw [gup_e c, c]; omega
    · rw [gup_n c]; exact v t t0 t1
  have eg : ∀ s, 0 ≤ s → s < r → en N (gup p s (p s + 1)) r = en N p r + st N s := fun s s0 s1 => by rw [en_gup s0 s1, show p s + 1 - p s = 1 by omega, Int.one_mul]
  have eb := en_b h.n v (show 0 ≤ r by omega) (Int.le_refl r)
  refine eX5_commonFrom ?_
  have key := up_ind (P := fun s => ∀ x4, ((x4 = 1 ∧ ∀ t, 0 ≤ t → t < s → L t (p t) = L 0 (p 0)) ∨ (x4 = 0 ∧ ¬ ∀ t, 0 ≤ t → t < r → L t (p t) = L 0 (p 0))) → (∀ t, 0 ≤ t → t < s → p t < N t) → wp 0 yX5_commonFrom 10 [some (Rv 23), some (Iv (en N p r)), some (Iv (mm (fun t => cm L N r (gup p t (p t + 1))) s)), some (Iv (en N p r + en N of1 s)), some (Iv x4), some (Iv s)] [] M Q) (a := 0) (n := r) (by omega) (fun x4 hx hl => ?_) (fun s s0 s1 ih x4 hx hl => ?_) 1 (Or.inl ⟨rfl, fun t t0 t1 => absurd t1 (by omega)⟩) (fun t t0 t1 => absurd t1 (by omega))
  · have e0 : en N of1 0 = 0 := rfl
    rw [e0, Int.add_zero, mm_0] at key
    exact key
  · refine gX5_commonFrom_10 ⟨⟨by omega, by omega⟩, by rw [sv.1]; exact ⟨by omega, by omega⟩, fun _ => ?_, fun q => absurd q (by rw [sv.1]; omega)⟩
    rcases hx with ⟨e4, hh⟩ | ⟨e4, hh⟩
    · have q1 : ∀ s, 0 ≤ s → s < r → (fun t => p t + 1) s = p s + 1 := fun s _ _ => rfl
      have ea := en_add (N := N) (p := p) (q := fun t => p t + 1) (d := of1) (show 0 ≤ r by omega) (fun s _ _ => rfl)
      have wq : vld N (fun t => p t + 1) r := fun s s0 s1 => by
        have a := v s s0 s1
        have b := hl s s0 s1
        show 0 ≤ p s + 1 ∧ p s + 1 ≤ N s
        omega
      have ebq := en_b h.n wq (show 0 ≤ r by omega) (Int.le_refl r)
      have pos : 0 < en N of1 r := by
        have e1 := en_s (N := N) (p := of1) (show 0 ≤ r - 1 by omega)
        rw [show r - 1 + 1 = r by omega, of1_v, Int.one_mul] at e1
        have sp := st_p h.n (show 0 ≤ r - 1 by omega) (by omega)
        have nn : 0 ≤ en N of1 (r - 1) := by
          have := sm_bd (f := fun t => if 0 ≤ t ∧ t < r then of1 t * st N t else 0) (lo := 0) (hi := 2825761) (n := (r - 1).toNat) (fun i i0 i1 => by
            have sb := st_b h.n r4 i0 (show i ≤ r by omega)
            rw [if_pos (by omega), of1_v, Int.one_mul]
            omega)
          rw [show (((r - 1).toNat : Nat) : Int) = r - 1 by omega, sm_cg (g := fun t => of1 t * st N t) (by omega) (fun i i0 i1 => by rw [if_pos (by omega)])] at this
          have t5 := this.1
          unfold en
          omega
        omega
      rw [e4]
      refine ⟨by decide, fun q => absurd q (by decide), fun _ => ⟨t1, t2, by omega, by omega, ?_⟩⟩
      rw [← ea, t3 _ wq (by omega), Int.add_comm, ← cm_all h v hl q1 hh]
      exact hq
    · rw [e4]
      refine ⟨by decide, fun _ => ?_, fun q => absurd rfl q⟩
      rw [← cm_mix h v hl hh]
      exact hq
  · obtain ⟨g1, g2, g3⟩ := sv.2.2 s s0 s1
    have vs := v s s0 s1
    have nb := h.n s s0 s1
    refine gX5_commonFrom_10 ⟨⟨by omega, by omega⟩, by rw [sv.1]; exact ⟨by omega, by omega⟩, fun q => absurd q (by rw [sv.1]; omega), fun _ => ⟨s0, by omega, g2, ?_⟩⟩
    rw [pl s s0 s1, g3.1]
    refine ⟨Or.inr ⟨⟨by omega, by omega⟩, ⟨by omega, by omega⟩⟩, fun q => ?_, fun q => ?_⟩
    · have lt : p s < N s := by omega
      have ws := w s s0 s1 lt
      have es := eg s s0 s1
      have ebs := en_b h.n ws (show 0 ≤ r by omega) (Int.le_refl r)
      have sp := st_p h.n s0 (show s ≤ r by omega)
      have tv := t3 _ ws (by omega)
      have cb := cm_b h ws
      have mb : 0 ≤ mm (fun t => cm L N r (gup p t (p t + 1))) s ∧ mm (fun t => cm L N r (gup p t (p t + 1))) s ≤ 40 := by
        have sp2 := mm_sp (g := fun t => cm L N r (gup p t (p t + 1))) (n := s) s0
        refine ⟨sp2.1, ?_⟩
        rcases sp2.2.1 with q2 | ⟨t, t0, t1, ht⟩
        · omega
        · have := cm_b h (w t t0 (by omega) (hl t t0 t1))
          have ht' : cm L N r (gup p t (p t + 1)) = mm (fun t => cm L N r (gup p t (p t + 1))) s := ht
          omega
      rw [g1, ← es, tv]
      have nx1 : ∀ y4, ((y4 = 1 ∧ ∀ t, 0 ≤ t → t < s + 1 → L t (p t) = L 0 (p 0)) ∨ (y4 = 0 ∧ ¬ ∀ t, 0 ≤ t → t < r → L t (p t) = L 0 (p 0))) → wp 0 yX5_commonFrom 10 [some (Rv 23), some (Iv (en N p r)), some (Iv (if mm (fun t => cm L N r (gup p t (p t + 1))) s < cm L N r (gup p s (p s + 1)) then cm L N r (gup p s (p s + 1)) else mm (fun t => cm L N r (gup p t (p t + 1))) s)), some (Iv (en N p r + en N of1 s + st N s)), some (Iv y4), some (Iv (s + 1))] [] M Q := by
        intro y4 hy
        have := ih y4 hy (fun t t0 t1 => by
          by_cases c : t = s
          · rw [c]; exact lt
          · exact hl t t0 (by omega))
        rw [mm_s s0, en_s s0, of1_v, Int.one_mul, ← Int.add_assoc] at this
        exact this
      refine ⟨t1, t2, by omega, by omega, ⟨by omega, by omega⟩, ⟨by omega, by omega⟩, ?_⟩
      rcases hx with ⟨e4, hh⟩ | ⟨e4, hh⟩
      · rw [e4]
        have p0 : p 0 < N 0 := by
          by_cases c : s = 0
          · rw [← c]; exact lt
          · exact hl 0 (Int.le_refl 0) (by omega)
        have k6 := h.k
        have l1 := (h.2.2 s s0 s1).2.2.2.2 (p s) vs.1 lt
        have l2 := (h.2.2 0 (Int.le_refl 0) (by omega)).2.2.2.2 (p 0) (v 0 (Int.le_refl 0) (by omega)).1 p0
        refine ⟨by decide, fun q => absurd q (by decide), fun _ => c_head5 h sv (pl s s0 s1) v s0 s1 lt (c_head5 h sv (pl 0 (Int.le_refl 0) (by omega)) v (Int.le_refl 0) (by omega) p0 ⟨Or.inr ⟨⟨by omega, by omega⟩, ⟨by omega, by omega⟩⟩, fun q2 => nx1 0 (Or.inr ⟨rfl, fun g => q2 (g s s0 s1)⟩), fun q2 => nx1 1 (Or.inl ⟨rfl, fun t t0 t1 => ?_⟩)⟩)⟩
        by_cases c : t = s
        · rw [c]; exact q2
        · exact hh t t0 (by omega)
      · rw [e4]
        exact ⟨by decide, fun _ => nx1 0 (Or.inr ⟨rfl, hh⟩), fun q => absurd rfl q⟩
    · rw [cm_end h v s0 s1 q] at hq
      exact hq
theorem c_leads {M : Mem} {L : Int → Int → Int} {N p : Int → Int} {r k x f : Int} {Q : Vl → Mem → Prop} (h : fam L N r k) (sv : sevX M L N r) (pl : plX M p r) (v : vld N p r) (h20 : st N r ≤ 20000) (tb : tbX M (cm L N r) N r (-1)) (hx : inr x) (hf : inr f) (hy : (ok L N p r x = true ∧ cm L N r (nv L N p x) = f) → Q (Iv 1) M) (hn : ¬ (ok L N p r x = true ∧ cm L N r (nv L N p x) = f) → Q (Iv 0) M) : cl 0 yX5_leads [Rv 23, Iv x, Iv f] M Q := by
  have r1 := h.1
  have r4 := h.2.1
  obtain ⟨t1, t2, t3⟩ := tb
  refine eX5_leads ?_
  refine up_ind (P := fun s => (∀ t, 0 ≤ t → t < s → nv L N p x t ≠ 0) → wp 0 yX5_leads 5 [some (Rv 23), some (Iv x), some (Iv f), some (Iv (en N (nv L N p x) s)), some (Iv s), none] [] M Q) (a := 0) (n := r) (by omega) (fun hz => ?_) (fun s s0 s1 ih hz => ?_) (fun t t0 t1 => absurd t1 (by omega))
  · have hok : ok L N p r x = true := (ok_iff (by omega)).2 hz
    obtain ⟨w, -⟩ := nv_v (by omega) v hok
    have eb := en_b h.n w (show 0 ≤ r by omega) (Int.le_refl r)
    have tv := t3 _ w (by omega)
    have cb := cm_b h w
    refine gX5_leads_5 ⟨⟨by omega, by omega⟩, by rw [sv.1]; exact ⟨by omega, by omega⟩, fun _ => ⟨t1, t2, by omega, by omega, ?_⟩, fun q => absurd q (by rw [sv.1]; omega)⟩
    rw [tv]
    exact ⟨Or.inr ⟨⟨by omega, by omega⟩, hf⟩, fun q => hn (fun q2 => q q2.2), fun q => hy ⟨hok, q⟩⟩
  · have vs := v s s0 s1
    have nb := h.n s s0 s1
    have bb := bh_b (W := L s) (n := N s) (c := x) vs.1
    refine gX5_leads_5 ⟨⟨by omega, by omega⟩, by rw [sv.1]; exact ⟨by omega, by omega⟩, fun q => absurd q (by rw [sv.1]; omega), fun _ => c_next5 h sv (pl s s0 s1) v s0 s1 hx ⟨?_, fun q => ⟨s0, by omega, ?_⟩, fun q => hn (fun q2 => (ok_iff (by omega)).1 q2.1 s s0 s1 q)⟩⟩
    · unfold nv
      exact ⟨by omega, by omega⟩
    · have := ih (fun t t0 t1 => by
        by_cases c : t = s
        · rw [c]; exact q
        · exact hz t t0 (by omega))
      rw [en_s s0] at this
      rw [(sv.2.2 s s0 s1).1]
      exact this
theorem c_cmLetter {M : Mem} {L : Int → Int → Int} {N p : Int → Int} {r k f : Int} {Q : Vl → Mem → Prop} (h : fam L N r k) (sv : sevX M L N r) (pl : plX M p r) (v : vld N p r) (h20 : st N r ≤ 20000) (tb : tbX M (cm L N r) N r (-1)) (hz : cm L N r p ≠ 0) (hf : f = cm L N r p - 1) (hq : ∀ M2, (∀ a, a ≠ 26 → M2 a = M a) → plX M2 (nv L N p (cmC L N r p)) r → Q (Iv (cmC L N r p)) M2) : cl 0 yX5_commonLetter [Rv 23, Iv f] M Q := by
  have r1 := h.1
  have r4 := h.2.1
  have k6 := h.k
  have cb := cm_b h v
  obtain ⟨x1, x2, x3, x4⟩ := cmC_sp h v hz
  refine eX5_commonLetter ?_
  have go : wp 0 yX5_commonLetter 24 [some (Rv 23), some (Iv f), some (Iv (cmC L N r p)), some (Iv 0)] [] M Q := by
    refine up_ind (P := fun s => ∀ M2, (∀ a, a ≠ 26 → M2 a = M a) → (∀ t, 0 ≤ t → t < r → M2 26 t = if t < s then nv L N p (cmC L N r p) t else p t) → wp 0 yX5_commonLetter 24 [some (Rv 23), some (Iv f), some (Iv (cmC L N r p)), some (Iv s)] [] M2 Q) (a := 0) (n := r) (by omega) (fun M2 o2 c2 => ?_) (fun s s0 s1 ih M2 o2 c2 => ?_) M (fun _ _ => rfl) (fun t t0 t1 => by rw [if_neg (by omega)]; exact pl t t0 t1)
    · have e2 := (sv.kp (kpS.f o2)).1
      exact gX5_commonLetter_24 ⟨⟨by omega, by omega⟩, by rw [e2]; exact ⟨by omega, by omega⟩, fun _ => hq M2 o2 (fun t t0 t1 => by rw [c2 t t0 t1, if_pos t1]), fun q => absurd q (by omega)⟩
    · have sv2 := sv.kp (kpS.f o2)
      have e2 := sv2.1
      have es := c2 s s0 s1
      rw [if_neg (by omega)] at es
      refine gX5_commonLetter_24 ⟨⟨by omega, by omega⟩, by rw [e2]; exact ⟨by omega, by omega⟩, fun q => absurd q (by omega), fun _ => c_next5 h sv2 es v s0 s1 ⟨by omega, by omega⟩ ⟨s0, by omega, ih _ (fun a ha => by rw [up_ne ha]; exact o2 a ha) (fun t t0 t1 => ?_)⟩⟩
      rw [up_at]
      by_cases c : t = s
      · rw [if_pos c, if_pos (by omega), c]
      · rw [if_neg c, c2 t t0 t1]
        by_cases c5 : t < s
        · rw [if_pos c5, if_pos (by omega)]
        · rw [if_neg c5, if_neg (by omega)]
  refine up_ind (P := fun c => wp 0 yX5_commonLetter 2 [some (Rv 23), some (Iv f), some (Iv c), none] [] M Q) (a := 0) (n := cmC L N r p) x1 ?_ (fun c c0 c1 ih => ?_)
  · exact gX5_commonLetter_2 ⟨⟨by omega, by omega⟩, fun _ => go, fun _ => c_leads h sv pl v h20 tb ⟨by omega, by omega⟩ ⟨by omega, by omega⟩ (fun _ => ⟨fun _ => go, fun q => absurd q (by decide)⟩) (fun q => absurd ⟨x3.1, by omega⟩ q)⟩
  · refine gX5_commonLetter_2 ⟨⟨by omega, by omega⟩, fun q => absurd q (by omega), fun _ => c_leads h sv pl v h20 tb ⟨by omega, by omega⟩ ⟨by omega, by omega⟩ (fun q => absurd ⟨q.1, ?_⟩ (x4 c c0 c1)) (fun _ => ⟨fun q => absurd rfl q, fun _ => ih⟩)⟩
    have := q.2
    omega
def kpL (M M2 : Mem) : Prop := (∀ a, a ≠ 6 → a ≠ 23 → a ≠ -1 → a ≠ 26 → a ≠ 27 → a ≠ 120 → M2 a = M a) ∧ M2 23 4 = 120 ∧ M2 (-1) 0 = 1
theorem kpL.x {S M M2 : Mem} (h : kpL M M2) (hX : X S M) : X S M2 := hX.sev (fun a ka h1 h2 => h.1 a (by unfold kX at ka; omega) h1 h2 (by unfold kX at ka; omega) (by unfold kX at ka; omega) (by unfold kX at ka; omega)) (Or.inr h.2)
theorem kpL.fx {M M2 : Mem} (h : kpL M M2) : frx M M2 := ⟨fun a q1 q2 => h.1 a (by omega) (by omega) (by omega) (by omega) (by omega) (by omega), h.1 0 (by decide) (by decide) (by decide) (by decide) (by decide) (by decide), h.1 (-2) (by decide) (by decide) (by decide) (by decide) (by decide) (by decide)⟩
theorem kpL.of {M M1 M2 : Mem} (h : kpE M M1) (h2 : kpS M1 M2) : kpL M M2 := ⟨fun a q1 q2 q3 q4 q5 q6 => (h2 a q1 q4 q5 q6).trans (h.1 a q4 q2 q3 q6), by rw [h2 23 (by decide) (by decide) (by decide) (by decide)]; exact h.2.2.1, by rw [h2 (-1) (by decide) (by decide) (by decide) (by decide)]; exact h.2.2.2⟩
theorem tbX.u {M : Mem} {f : (Int → Int) → Int} {N p : Int → Int} {r c v : Int} (hn : nnn N r) (r0 : 0 ≤ r) (w : vld N p r) (e : en N p r = c) (t : tbX M f N r c) (hf : ∀ q, (∀ s, 0 ≤ s → s < r → p s = q s) → f p = f q) (hv : v = f p) : tbX (up M 120 c v) f N r (c - 1) := by
  obtain ⟨t1, t2, t3⟩ := t
  refine ⟨by rw [up_ne (by decide)]; exact t1, by rw [up_ne (by decide)]; exact t2, fun q wq hc => ?_⟩
  rw [up_at]
  by_cases ce : en N q r = c
  · rw [if_pos ce, hv]
    exact hf q (en_inj hn w wq r0 (Int.le_refl r) (e.trans ce.symm))
  · rw [if_neg ce]
    exact t3 q wq (by omega)
theorem tbX.k {M M2 : Mem} {f : (Int → Int) → Int} {N : Int → Int} {r c : Int} (t : tbX M f N r c) (h : ∀ a, a ≠ 6 → a ≠ 26 → a ≠ 27 → M2 a = M a) : tbX M2 f N r c := by
  unfold tbX
  rw [h 23 (by decide) (by decide) (by decide), h (-1) (by decide) (by decide) (by decide), h 120 (by decide) (by decide) (by decide)]
  exact t
theorem c_longest {M : Mem} {L : Int → Int → Int} {N : Int → Int} {r k : Int} {Q : Vl → Mem → Prop} (h : fam L N r k) (sv : sevX M L N r) (ht : (M 23 4 = -1 ∧ M (-1) 0 = 0) ∨ (M 23 4 = 120 ∧ M (-1) 0 = 1)) (h20 : st N r ≤ 20000) (hq : ∀ M2, kpL M M2 → (∀ t, 0 ≤ t → t < cm L N r zf → M2 6 t = cmX L N r t) → Q (Iv (cm L N r zf)) M2) : cl 0 yX5_longestCommon [Rv 23, Rv 6] M Q := by
  have r1 := h.1
  have r4 := h.2.1
  have h6 : isA 6 80 := ⟨by decide, by decide, rfl⟩
  have vz := zf_vld h
  have cb := cm_b h vz
  have sp := st_b h.n r4 (show 0 ≤ r by omega) (Int.le_refl r)
  refine eX5_longestCommon h6 (c_goE h sv ht (fun M1 k1 pl1 => ?_))
  have sv1 := sv.kE k1
  show wp 0 yX5_longestCommon 11 _ _ _ _
  rw [sv1.2.1]
  have vN : vld N N r := fun s s0 s1 => ⟨(h.n s s0 s1).1, Int.le_refl _⟩
  refine dn_ind (P := fun c => ∀ M2 p, kpS M1 M2 → plX M2 p r → vld N p r → (0 ≤ c → en N p r = c) → tbX M2 (cm L N r) N r c → wp 0 yX5_longestCommon 11 [some (Rv 23), some (Rv 6), some (Iv c), none] [] M2 Q) (a := -1) (n := st N r - 1) (by omega) (fun M2 p k2 pl v e tb => ?_) (fun c c0 c1 ih M2 p k2 pl v e tb => ?_) M1 N kpS.rf pl1 vN (fun _ => en_end (by omega)) ⟨k1.2.2.1, k1.2.2.2, fun p v hc => absurd hc (by have := en_b h.n v (show 0 ≤ r by omega) (Int.le_refl r); omega)⟩
  · refine gX5_longestCommon_11 h6 ⟨by decide, fun _ => c_goB (sv1.kp k2).1 (by omega) r4 (fun M3 o3 pl3 => ?_), fun q => absurd q (by decide)⟩
    have tb3 : tbX M3 (cm L N r) N r (-1) := tb.k (fun a _ q _ => o3 a q)
    have k3 : kpS M1 M3 := k2.tr (kpS.f o3)
    have z0 := tb3.2.2 zf vz (by rw [en_zf (by omega)]; decide)
    rw [en_zf (by omega)] at z0
    refine ⟨tb3.1, tb3.2.1, ?_⟩
    rw [z0]
    refine up_ind (P := fun t => ∀ M4, kpS M1 M4 → plX M4 (cmV L N r t) r → tbX M4 (cm L N r) N r (-1) → (∀ t', 0 ≤ t' → t' < t → M4 6 t' = cmX L N r t') → wp 0 yX5_longestCommon 49 [some (Rv 23), some (Rv 6), some (Iv (cm L N r zf)), some (Iv t)] [] M4 Q) (a := 0) (n := cm L N r zf) cb.1 (fun M4 k4 pl4 tb4 c4 => ?_) (fun t t0 t1 ih M4 k4 pl4 tb4 c4 => ?_) M3 k3 pl3 tb3 (fun t' t0 t1 => absurd t1 (by omega))
    · exact gX5_longestCommon_49 h6 ⟨⟨by omega, by omega⟩, ⟨by omega, by omega⟩, fun _ => hq M4 (kpL.of k1 k4) c4, fun q => absurd q (by omega)⟩
    · obtain ⟨v4, e4⟩ := cm_inv h t.toNat (by omega)
      rw [show ((t.toNat : Nat) : Int) = t by omega] at v4 e4
      refine gX5_longestCommon_49 h6 ⟨⟨by omega, by omega⟩, ⟨by omega, by omega⟩, fun q => absurd q (by omega), fun _ => c_cmLetter h (sv1.kp k4) pl4 v4 h20 tb4 (by omega) (by omega) (fun M5 o5 pl5 => ⟨t0, by omega, ih _ ((k4.tr (kpS.f o5)).u (Or.inl rfl)) (fun s s0 s1 => ?_) (tb4.k (fun a q1 q2 _ => by rw [up_ne q1]; exact o5 a q2)) (fun t' t0' t1' => ?_)⟩)⟩
      · rw [up_ne (by decide), cmV_s t0]
        exact pl5 s s0 s1
      · rw [up_at]
        by_cases ce : t' = t
        · rw [if_pos ce, ce]; rfl
        · rw [if_neg ce, o5 6 (by decide)]; exact c4 t' t0' (by omega)
  · have e' := e (by omega)
    subst e'
    refine gX5_longestCommon_11 h6 ⟨⟨by omega, by omega⟩, fun q => absurd q (by omega), fun _ => ⟨tb.1, c_cmFrom h (sv1.kp k2) pl v h20 tb ⟨tb.2.1, by omega, ?_⟩⟩⟩
    have k3 : kpS M1 (up M2 120 (en N p r) (cm L N r p)) := k2.u (by omega)
    refine c_back h (sv1.kp k3) (fun s s0 s1 => by rw [up_ne (by decide)]; exact pl s s0 s1) v (fun M3 p3 o3 pl3 v3 e3 => ih M3 p3 (k3.tr (kpS.f o3)) pl3 v3 (fun q => e3 (by omega)) ?_)
    exact (tb.u h.n (by omega) v rfl (fun q hq => cm_cg (by omega) hq) rfl).k (fun a _ q _ => o3 a q)
