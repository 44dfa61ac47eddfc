/-! 12 fault, 13 tell: the reference -/
def mn40 (x : Int) : Int := if 40 < x then 40 else x
theorem mn40_b {x : Int} (h : 0 ≤ x) : 0 ≤ mn40 x ∧ mn40 x ≤ 40 ∧ mn40 x ≤ x ∧ (x ≤ 40 → mn40 x = x) ∧ (40 < x → mn40 x = 40) := by unfold mn40; split <;> omega
def kpF (M M2 : Mem) : Prop := (∀ a, a ≠ 88 → a ≠ 100 → a ≠ 101 → a ≠ 102 → M2 a = M a) ∧ ∀ q, q ≠ 17 → q ≠ 21 → M2 88 q = M 88 q
theorem kpF.rf {M : Mem} : kpF M M := ⟨fun _ _ _ _ _ => rfl, fun _ _ _ => rfl⟩
theorem kpF.tr {M M2 M3 : Mem} (h : kpF M M2) (h2 : kpF M2 M3) : kpF M M3 := ⟨fun a q1 q2 q3 q4 => (h2.1 a q1 q2 q3 q4).trans (h.1 a q1 q2 q3 q4), fun q h1 h3 => (h2.2 q h1 h3).trans (h.2 q h1 h3)⟩
theorem kpF.u {M M2 : Mem} (h : kpF M M2) {a k v : Int} (ha : a = 100 ∨ a = 101 ∨ a = 102) : kpF M (up M2 a k v) := ⟨fun b q1 q2 q3 q4 => by rw [up_ne (by omega)]; exact h.1 b q1 q2 q3 q4, fun q h1 h2 => by rw [up_ne (by omega)]; exact h.2 q h1 h2⟩
theorem kpF.m {M M2 : Mem} (h : kpF M M2) {k v : Int} (hk : k = 17 ∨ k = 21) : kpF M (up M2 88 k v) := ⟨fun b q1 q2 q3 q4 => by rw [up_ne q1]; exact h.1 b q1 q2 q3 q4, fun q h1 h2 => by rw [up_at, if_neg (by omega)]; exact h.2 q h1 h2⟩
theorem kpF.y {S M M2 : Mem} (h : kpF M M2) (hY : Y S M) : Y S M2 := hY.same (fun a ka => h.1 a (by unfold kY at ka; omega) (by unfold kY at ka; omega) (by unfold kY at ka; omega) (by unfold kY at ka; omega)) (fun q hq => h.2 q (by omega) (by omega))
theorem kpF.fy {M M2 : Mem} (h : kpF M M2) : fry M M2 := fun a ha => h.1 a (by omega) (by omega) (by omega) (by omega)
def txY (M : Mem) (t n : Int) (T : Int → Int) : Prop := M 93 t = n ∧ ∀ j, 0 ≤ j → j < n → M 94 (60 * t + j) = T j
theorem kpF.tx {M M2 : Mem} (h : kpF M M2) {t n : Int} {T : Int → Int} (l : txY M t n T) : txY M2 t n T := by
  unfold txY
  rw [h.1 93 (by decide) (by decide) (by decide) (by decide), h.1 94 (by decide) (by decide) (by decide) (by decide)]
  exact l
def byv (T : Int → Int) (n i : Int) : Int := if i < n then T i else 0
theorem m_byte {M : Mem} {t n i : Int} {T : Int → Int} {Q : Vl → Mem → Prop} (t0 : 0 ≤ t) (t4 : t < 4) (l : txY M t n T) (n0 : 0 ≤ n) (n6 : n ≤ 60) (i0 : 0 ≤ i) (i1 : i ≤ 100) (hq : Q (Iv (byv T n i)) M) : cl 0 yX12_byteAt [Rv 88, Iv t, Iv i] M Q := by
  refine m_byteAt t0 t4 i0 ⟨by omega, by omega⟩ (by rw [l.1]; exact n6) (by rw [l.1]; omega) (fun q => ?_) (fun q => ?_)
  · rw [l.1] at q
    unfold byv at hq
    rw [if_neg (by omega)] at hq
    exact hq
  · rw [l.1] at q
    unfold byv at hq
    rw [if_pos q] at hq
    rw [l.2 i i0 q]
    exact hq
theorem m_figure {M : Mem} {t n i : Int} {T : Int → Int} {Q : Vl → Mem → Prop} (t0 : 0 ≤ t) (t4 : t < 4) (l : txY M t n T) (n0 : 0 ≤ n) (n6 : n ≤ 60) (hT : ∀ j, 0 ≤ j → j < n → -128 ≤ T j ∧ T j ≤ 127) (i0 : 0 ≤ i) (i1 : i ≤ 100) (hn : ¬ (i < n ∧ 49 ≤ T i ∧ T i ≤ 57) → Q (Iv 0) M) (hy : i < n → 49 ≤ T i → T i ≤ 57 → Q (Iv (T i - 48)) M) : cl 0 yX12_figureAt [Rv 88, Iv t, Iv i] M Q := by
  have bb : -128 ≤ byv T n i ∧ byv T n i ≤ 127 := by
    unfold byv
    by_cases q : i < n
    · rw [if_pos q]; exact hT i i0 q
    · rw [if_neg q]; decide
  refine eX12_figureAt (m_byte t0 t4 l n0 n6 i0 i1 (m_in ⟨by omega, by omega⟩ (by decide) (by decide) (fun q => ⟨fun _ => hn (fun q2 => ?_), fun q2 => absurd rfl q2⟩) (fun q => ⟨fun q2 => absurd q2 (by decide), fun _ => m_byte t0 t4 l n0 n6 i0 i1 ?_⟩)))
  · unfold byv at q
    rw [if_pos q2.1] at q
    omega
  · unfold byv at q ⊢
    by_cases q2 : i < n
    · rw [if_pos q2] at q ⊢
      exact hy q2 q.1 q.2
    · rw [if_neg q2] at q
      omega
def Rm (s : Mem) (i : Int) (M : Mem) : Prop := (M 88 17 = mn40 (s 7 1) ∧ M 88 21 = (if 40 < s 7 1 then 1 else 0)) ∧ (∀ j, 0 ≤ j → j < s 7 1 → j < 40 → M 100 j = s 8 j) ∧ (∀ t, 1 ≤ t → t ≤ s 7 3 → M 101 t = mn40 (s 9 (t - 1))) ∧ (∀ t, 0 ≤ t → t ≤ s 7 3 → 0 ≤ M 102 t ∧ M 102 t ≤ i) ∧ (0 < M 102 (s 7 3) ↔ bL s (s 7 3) < s 7 1)
theorem m_again {s M : Mem} {k i b : Int} {Q : Vl → Mem → Prop} (h : sI s k i) (i0 : 0 ≤ i) (i6 : i ≤ 60) (b0 : 49 ≤ b) (b1 : b ≤ 57) (hl : 0 ≤ s 7 4) (R : Rm s i M) (hq : ∀ M2, kpF M M2 → Rm (sR b i s) (i + 1) M2 → Q (Iv 0) M2) : cl 0 yX12_comesAgain [Rv 88, Iv (mn40 (s 7 4)), Iv (b - 48 - 1)] M Q := by
  obtain ⟨⟨r17, r21⟩, r100, r101, r102, rit⟩ := R
  obtain ⟨⟨⟨d0, d4⟩, l0, l1⟩, h2, h3, h4, h5⟩ := h
  have hdd := h2 (s 7 3) d0 (Int.le_refl _)
  rcases h4 with h4 | ⟨q1, q2, q3, q4⟩
  · exact absurd h4.1 (by omega)
  have m1 : (s 7 1 - s 7 4) * 1 ≤ (s 7 1 - s 7 4) * (b - 48) := Int.mul_le_mul_of_nonneg_left (by omega) (by omega)
  rw [Int.mul_one] at m1
  have e1 : sR b i s 7 1 = s 7 4 + (s 7 1 - s 7 4) * (b - 48) := rfl
  have e3 : sR b i s 7 3 = s 7 3 := rfl
  have bl' : bL (sR b i s) (s 7 3) = bL s (s 7 3) := rfl
  have lb := mn40_b hl
  have nb := mn40_b l0
  have fin : ∀ M2, kpF M M2 → M2 101 = M 101 → M2 102 = M 102 → M2 88 17 = mn40 (s 7 4 + (s 7 1 - s 7 4) * (b - 48)) → M2 88 21 = (if 40 < s 7 4 + (s 7 1 - s 7 4) * (b - 48) then 1 else 0) → (∀ j, 0 ≤ j → j < s 7 4 + (s 7 1 - s 7 4) * (b - 48) → j < 40 → M2 100 j = rp (s 8) (s 7 4) (s 7 1 - s 7 4) (s 7 1) j) → Q (Iv 0) M2 := by
    intro M2 k2 p1 p2 p17 p21 c2
    refine hq M2 k2 ⟨⟨p17, p21⟩, c2, by rw [p1]; exact r101, fun t t0 t1 => ?_, ?_⟩
    · rw [p2]
      have := r102 t t0 t1
      omega
    · rw [p2, e3, bl', e1]
      have it : 0 < M 102 (s 7 3) := rit.2 (by omega)
      exact ⟨fun _ => by omega, fun _ => it⟩
  refine eX12_comesAgain ?_
  rw [r17]
  by_cases big : 40 < s 7 1
  · rw [if_pos big] at r21
    have n40 := nb.2.2.2.2 big
    rw [n40]
    have done : ∀ M2, (∀ a, a ≠ 88 → M2 a = M a) → (∀ q, q ≠ 21 → M2 88 q = M 88 q) → M2 88 21 = 1 → Q (Iv 0) M2 := by
      intro M2 o2 p2 e2
      have big2 : 40 < s 7 4 + (s 7 1 - s 7 4) * (b - 48) := by omega
      refine fin M2 ⟨fun a q1 _ _ _ => o2 a q1, fun q _ h => p2 q h⟩ (o2 101 (by decide)) (o2 102 (by decide)) ?_ ?_ (fun j j0 j1 j2 => ?_)
      · rw [p2 17 (by decide), r17, n40, (mn40_b (show 0 ≤ s 7 4 + (s 7 1 - s 7 4) * (b - 48) by omega)).2.2.2.2 big2]
      · rw [e2, if_pos big2]
      · rw [o2 100 (by decide), r100 j j0 (by omega) j2]
        unfold rp
        rw [if_neg (by omega)]
    refine up_ind (P := fun t => ∀ M2, (∀ a, a ≠ 88 → M2 a = M a) → (∀ q, q ≠ 21 → M2 88 q = M 88 q) → M2 88 21 = 1 → wp 0 yX12_comesAgain 8 [some (Rv 88), some (Iv (mn40 (s 7 4))), some (Iv (b - 48 - 1)), some (Iv 40), some (Iv t), none] [] M2 Q) (a := 0) (n := b - 48 - 1) (by omega) (fun M2 o2 p2 e2 => ?_) (fun t t0 t1 ih M2 o2 p2 e2 => ?_) M (fun _ _ => rfl) (fun _ _ => rfl) r21
    · exact gX12_comesAgain_8 ⟨⟨by omega, by omega⟩, ⟨by omega, by omega⟩, fun _ => done M2 o2 p2 e2, fun q => absurd q (by omega)⟩
    · refine gX12_comesAgain_8 ⟨⟨by omega, by omega⟩, ⟨by omega, by omega⟩, fun q => absurd q (by omega), fun _ => ?_⟩
      refine up_ind (P := fun x => ∀ M3, (∀ a, a ≠ 88 → M3 a = M a) → (∀ q, q ≠ 21 → M3 88 q = M 88 q) → M3 88 21 = 1 → wp 0 yX12_comesAgain 17 [some (Rv 88), some (Iv (mn40 (s 7 4))), some (Iv (b - 48 - 1)), some (Iv 40), some (Iv t), some (Iv x)] [] M3 Q) (a := mn40 (s 7 4)) (n := 40) lb.2.1 (fun M3 o3 p3 e3 => ?_) (fun x x0 x1 ih2 M3 o3 p3 e3 => ?_) M2 o2 p2 e2
      · exact gX12_comesAgain_17 ⟨by decide, by decide, fun _ => ih M3 o3 p3 e3, fun q => absurd q (by decide)⟩
      · have f17 : M3 88 17 = 40 := by rw [p3 17 (by decide), r17]; exact n40
        exact gX12_comesAgain_17 ⟨⟨by omega, by omega⟩, by decide, fun q => absurd q (by omega), fun _ => ⟨by omega, x1, eX12_comesOn ⟨by rw [f17]; decide, fun _ => ih2 _ (fun a ha => by rw [up_ne ha]; exact o3 a ha) (fun q hq => by rw [up_at, if_neg hq]; exact p3 q hq) (by rw [up_at, if_pos rfl]), fun q => absurd q (by omega)⟩⟩⟩
  · have m40 := nb.2.2.2.1 (by omega)
    have ml := lb.2.2.2.1 (by omega)
    rw [if_neg big] at r21
    rw [m40, ml]
    have pc0 : 0 < s 7 1 - s 7 4 := by omega
    -- comesOn at a virtual place v
    have on : ∀ (v x : Int) (M3 : Mem) (Q2 : Vl → Mem → Prop), s 7 1 ≤ v → s 7 4 ≤ x → x < s 7 1 → (v - s 7 4) % (s 7 1 - s 7 4) = x - s 7 4 → kpF M M3 → M3 101 = M 101 → M3 102 = M 102 → M3 88 17 = mn40 v → M3 88 21 = (if 40 < v then 1 else 0) → (∀ j, 0 ≤ j → j < v → j < 40 → M3 100 j = rp (s 8) (s 7 4) (s 7 1 - s 7 4) (s 7 1) j) → (∀ M4, kpF M M4 → M4 101 = M 101 → M4 102 = M 102 → M4 88 17 = mn40 (v + 1) → M4 88 21 = (if 40 < v + 1 then 1 else 0) → (∀ j, 0 ≤ j → j < v + 1 → j < 40 → M4 100 j = rp (s 8) (s 7 4) (s 7 1 - s 7 4) (s 7 1) j) → Q2 (Iv 0) M4) → cl 0 yX12_comesOn [Rv 88, Iv (M3 100 x)] M3 Q2 := by
      intro v x M3 Q2 v0 x0 x1 vm k3 p1 p2 p17 p21 c3 hq2
      have vb := mn40_b (show 0 ≤ v by omega)
      have ex : M3 100 x = s 8 x := by
        rw [c3 x (by omega) (by omega) (by omega)]
        unfold rp
        rw [if_neg (by omega)]
      refine eX12_comesOn ⟨by rw [p17]; exact ⟨by omega, by omega⟩, fun q => ?_, fun q => ⟨by rw [p17]; omega, q, ?_⟩⟩
      · rw [p17] at q
        have v40 : 40 ≤ v := by omega
        refine hq2 _ (k3.m (by omega)) (by rw [up_ne (by decide)]; exact p1) (by rw [up_ne (by decide)]; exact p2) ?_ ?_ (fun j j0 j1 j2 => by rw [up_ne (by decide)]; exact c3 j j0 (by omega) j2)
        · rw [up_at, if_neg (by decide), p17]
          unfold mn40
          split <;> split <;> omega
        · rw [up_at, if_pos rfl, if_pos (by omega)]
      · rw [p17] at q
        have v40 : v < 40 := by
          by_cases c : 40 < v
          · have := vb.2.2.2.2 c; omega
          · have := vb.2.2.2.1 (by omega); omega
        have ev := vb.2.2.2.1 (by omega)
        rw [p17, ev, ex]
        refine hq2 _ ((k3.u (by omega)).m (by omega)) (by rw [up_ne (by decide), up_ne (by decide)]; exact p1) (by rw [up_ne (by decide), up_ne (by decide)]; exact p2) ?_ ?_ (fun j j0 j1 j2 => ?_)
        · rw [up_at, if_pos rfl, (mn40_b (show 0 ≤ v + 1 by omega)).2.2.2.1 (by omega)]
        · rw [up_at, if_neg (by decide), up_ne (by decide), p21, if_neg (by omega), if_neg (by omega)]
        · rw [up_ne (by decide), up_at]
          by_cases ce : j = v
          · rw [if_pos ce, ce]
            unfold rp
            rw [if_pos v0, vm]
            congr 1
            omega
          · rw [if_neg ce]; exact c3 j j0 (by omega) j2
    refine up_ind (P := fun t => 0 ≤ t → ∀ M2, kpF M M2 → M2 101 = M 101 → M2 102 = M 102 → M2 88 17 = mn40 (s 7 1 + t * (s 7 1 - s 7 4)) → M2 88 21 = (if 40 < s 7 1 + t * (s 7 1 - s 7 4) then 1 else 0) → (∀ j, 0 ≤ j → j < s 7 1 + t * (s 7 1 - s 7 4) → j < 40 → M2 100 j = rp (s 8) (s 7 4) (s 7 1 - s 7 4) (s 7 1) j) → wp 0 yX12_comesAgain 8 [some (Rv 88), some (Iv (s 7 4)), some (Iv (b - 48 - 1)), some (Iv (s 7 1)), some (Iv t), none] [] M2 Q) (a := 0) (n := b - 48 - 1) (by omega) (fun _ M2 k2 p1 p2 p17 p21 c2 => ?_) (fun t t0 t1 ih _ M2 k2 p1 p2 p17 p21 c2 => ?_) (Int.le_refl 0) M kpF.rf rfl rfl (by rw [Int.zero_mul, Int.add_zero]; exact r17) (by rw [Int.zero_mul, Int.add_zero, if_neg big]; exact r21) (fun j j0 j1 j2 => by
      rw [Int.zero_mul, Int.add_zero] at j1
      rw [r100 j j0 j1 j2]
      unfold rp
      rw [if_neg (by omega)])
    · have ev : s 7 1 + (b - 48 - 1) * (s 7 1 - s 7 4) = s 7 4 + (s 7 1 - s 7 4) * (b - 48) := by
        rw [Int.sub_mul (b - 48) 1, Int.one_mul, Int.mul_comm (b - 48)]
        omega
      rw [ev] at p17 p21 c2
      exact gX12_comesAgain_8 ⟨⟨by omega, by omega⟩, ⟨by omega, by omega⟩, fun _ => fin M2 k2 p1 p2 p17 p21 c2, fun q => absurd q (by omega)⟩
    · have tp : 0 ≤ t * (s 7 1 - s 7 4) := Int.mul_nonneg t0 (by omega)
      refine gX12_comesAgain_8 ⟨⟨by omega, by omega⟩, ⟨by omega, by omega⟩, fun q => absurd q (by omega), fun _ => ?_⟩
      refine up_ind (P := fun x => ∀ M3, kpF M M3 → M3 101 = M 101 → M3 102 = M 102 → M3 88 17 = mn40 (s 7 1 + t * (s 7 1 - s 7 4) + (x - s 7 4)) → M3 88 21 = (if 40 < s 7 1 + t * (s 7 1 - s 7 4) + (x - s 7 4) then 1 else 0) → (∀ j, 0 ≤ j → j < s 7 1 + t * (s 7 1 - s 7 4) + (x - s 7 4) → j < 40 → M3 100 j = rp (s 8) (s 7 4) (s 7 1 - s 7 4) (s 7 1) j) → wp 0 yX12_comesAgain 17 [some (Rv 88), some (Iv (s 7 4)), some (Iv (b - 48 - 1)), some (Iv (s 7 1)), some (Iv t), some (Iv x)] [] M3 Q) (a := s 7 4) (n := s 7 1) (by omega) (fun M3 k3 p1 p2 p17 p21 c3 => ?_) (fun x x0 x1 ih2 M3 k3 p1 p2 p17 p21 c3 => ?_) M2 k2 p1 p2 (by rw [Int.sub_self, Int.add_zero]; exact p17) (by rw [Int.sub_self, Int.add_zero]; exact p21) (by rw [Int.sub_self, Int.add_zero]; exact c2)
      · have ev : s 7 1 + t * (s 7 1 - s 7 4) + (s 7 1 - s 7 4) = s 7 1 + (t + 1) * (s 7 1 - s 7 4) := by rw [Int.add_mul, Int.one_mul]; omega
        rw [ev] at p17 p21 c3
        exact gX12_comesAgain_17 ⟨⟨by omega, by omega⟩, ⟨by omega, by omega⟩, fun _ => ih (by omega) M3 k3 p1 p2 p17 p21 c3, fun q => absurd q (by omega)⟩
      · refine gX12_comesAgain_17 ⟨⟨by omega, by omega⟩, ⟨by omega, by omega⟩, fun q => absurd q (by omega), fun _ => ⟨by omega, by omega, on (s 7 1 + t * (s 7 1 - s 7 4) + (x - s 7 4)) x M3 _ (by omega) x0 x1 ?_ k3 p1 p2 p17 p21 c3 (fun M4 k4 g1 g2 g17 g21 c4 => ?_)⟩⟩
        · have am := Int.add_mul_emod_self_right (x - s 7 4) (t + 1) (s 7 1 - s 7 4)
          rw [show x - s 7 4 + (t + 1) * (s 7 1 - s 7 4) = s 7 1 + t * (s 7 1 - s 7 4) + (x - s 7 4) - s 7 4 by rw [Int.add_mul, Int.one_mul]; omega] at am
          rw [am, Int.emod_eq_of_lt (by omega) (by omega)]
        · rw [show s 7 1 + t * (s 7 1 - s 7 4) + (x - s 7 4) + 1 = s 7 1 + t * (s 7 1 - s 7 4) + (x + 1 - s 7 4) by omega] at g17 g21 c4
          exact ih2 M4 k4 g1 g2 g17 g21 c4
theorem m_tail {M : Mem} {t n i d x : Int} {T : Int → Int} {Q : Vl → Mem → Prop} (t0 : 0 ≤ t) (t4 : t < 4) (l : txY M t n T) (n0 : 0 ≤ n) (n6 : n ≤ 60) (hT : ∀ j, 0 ≤ j → j < n → -128 ≤ T j ∧ T j ≤ 127) (d0 : 0 ≤ d) (d4 : d ≤ 4) (i0 : 0 ≤ i) (i1 : i ≤ n) (hq : Q (Iv (if bl T n i < n then bl T n i else if d = 0 then -9 else n)) M) : wp 0 yX12_faultOf 239 [some (Rv 88), some (Iv t), some (Iv d), some (Iv i), some (Iv x), none, none, none] [] M Q := by
  refine up_ind (P := fun y => bl T n y = bl T n i → wp 0 yX12_faultOf 239 [some (Rv 88), some (Iv t), some (Iv d), some (Iv y), some (Iv x), none, none, none] [] M Q) (a := i) (n := n) i1 (fun hy => ?_) (fun y y0 y1 ih hy => ?_) rfl
  · have bz : byv T n n = 0 := by unfold byv; rw [if_neg (by omega)]
    rw [← hy, bl_e (Int.le_refl n), if_neg (by omega)] at hq
    refine gX12_faultOf_239 (m_byte t0 t4 l n0 n6 n0 (by omega) ?_)
    rw [bz]
    refine ⟨by decide, fun _ => ⟨t0, t4, ⟨by omega, by omega⟩, by rw [l.1]; exact ⟨by omega, by omega⟩, fun q => absurd q (by rw [l.1]; omega), fun _ => ⟨⟨by omega, by omega⟩, fun q => ?_, fun q => ?_⟩⟩, fun q => absurd q (by decide)⟩
    · rw [if_pos (by omega)] at hq; exact hq
    · rw [if_neg (by omega)] at hq; exact hq
  · have bz : byv T n y = T y := by unfold byv; rw [if_pos y1]
    have tb := hT y (by omega) y1
    refine gX12_faultOf_239 (m_byte t0 t4 l n0 n6 (by omega) (by omega) ?_)
    rw [bz]
    refine ⟨⟨by omega, by omega⟩, fun q => ⟨t0, t4, ⟨by omega, by omega⟩, by rw [l.1]; exact ⟨by omega, by omega⟩, fun _ => ?_, fun q2 => absurd q2 (by rw [l.1]; omega)⟩, fun q => ih ?_⟩
    · rw [← hy, bl_s y1, if_neg q, if_pos y1] at hq
      exact hq
    · rw [← hy, bl_s y1, if_pos q]
theorem m_faultOf {M : Mem} {t n k : Int} {T : Int → Int} {Q : Vl → Mem → Prop} (t0 : 0 ≤ t) (t4 : t < 4) (l : txY M t n T) (n0 : 0 ≤ n) (n6 : n ≤ 60) (k0 : 1 ≤ k) (k6 : k ≤ 6) (hk : M 88 11 = k) (hT : ∀ j, 0 ≤ j → j < n → -128 ≤ T j ∧ T j ≤ 127) (hq : ∀ M2 i, kpF M M2 → Rm (rd9 T n k (bl T n 0) s0).2 i M2 → Q (Iv (rd9 T n k (bl T n 0) s0).1) M2) : cl 0 yX12_faultOf [Rv 88, Iv t] M Q := by
  refine eX12_faultOf ?_
  have main : ∀ (m : Nat) (i : Int) (s M2 : Mem), (n - i).toNat = m → 0 ≤ i → i ≤ n → kpF M M2 → sI s k i → Rm s i M2 → (s 7 4 = -1 ∨ ¬ (i < n ∧ 49 ≤ T i ∧ T i ≤ 57)) → rd9 T n k i s = rd9 T n k (bl T n 0) s0 → wp 0 yX12_faultOf 41 [some (Rv 88), some (Iv t), some (Iv (s 7 3)), some (Iv i), some (Iv 1), none, none, none] [] M2 Q := by
    intro m
    induction m using Nat.strongRecOn with
    | _ m ih =>
      intro i s M2 hm i0 i1 k2 h2 R2 hd2 e2
      have l2 := k2.tx l
      have d := h2.1.1
      have ln0 := h2.1.2
      have ek : M2 88 11 = k := by rw [k2.2 11 (by decide) (by decide)]; exact hk
      have fin : ∀ v, rd9 T n k i s = (v, s) → Q (Iv v) M2 := fun v hv => by
        rw [hv] at e2
        have := hq M2 i k2 (by rw [← e2]; exact R2)
        rw [← e2] at this
        exact this
      by_cases ie : i = n
      · subst ie
        refine gX12_faultOf_41 ⟨t0, t4, ⟨by omega, by omega⟩, by rw [l2.1]; exact ⟨by omega, by omega⟩, fun _ => m_tail t0 t4 l2 n0 n6 hT d.1 d.2 i0 (Int.le_refl _) (fin _ ?_), fun q => absurd q (by rw [l2.1]; omega)⟩
        rw [rd_e (Int.le_refl i), bl_e (Int.le_refl i), if_neg (show ¬ i < i by omega)]
      · have ilt : i < n := by omega
        have tb := hT i i0 ilt
        have bz : byv T n i = T i := by unfold byv; rw [if_pos ilt]
        have hR := R2
        obtain ⟨⟨r17, r21⟩, r100, r101, r102, rit⟩ := R2
        have rdd := r102 (s 7 3) d.1 (Int.le_refl _)
        -- after an item: a figure, or none
        have item : ∀ (u M3 : Mem) (f : Int), kpF M M3 → sI u k (i + 1) → Rm u (i + 1) M3 → 0 ≤ u 7 4 → f = mn40 (u 7 4) → rd9 T n k (i + 1) u = rd9 T n k (bl T n 0) s0 → cl 0 yX12_figureAt [Rv 88, Iv t, Iv (i + 1)] M3 (QI (fun z21 M21 => (inr z21 ∧ ((z21 ≤ 0 → cl 0 yX12_comesAgain [Rv 88, Iv f, Iv (z21 - 1)] M21 (QV (fun M24 => (wp 0 yX12_faultOf 41 [some (Rv 88), some (Iv t), some (Iv (u 7 3)), some (Iv ((i + 1) + 0)), some (Iv 1), none, none, none] [] M24 Q)))) ∧ (0 < z21 → cl 0 yX12_comesAgain [Rv 88, Iv f, Iv (z21 - 1)] M21 (QV (fun M25 => (wp 0 yX12_faultOf 41 [some (Rv 88), some (Iv t), some (Iv (u 7 3)), some (Iv ((i + 1) + 1)), some (Iv 1), none, none, none] [] M25 Q)))))))) := by
          intro u M3 f k3 h3 R3 u4 hf e3
          refine m_figure t0 t4 (k3.tx l) n0 n6 hT (by omega) (by omega) (fun hn => ⟨by decide, fun _ => eX12_comesAgain (gX12_comesAgain_8 ⟨by decide, by decide, fun _ => ?_, fun q => absurd q (by decide)⟩), fun q => absurd q (by decide)⟩) (fun q1 q2 q3 => ⟨⟨by omega, by omega⟩, fun q => absurd q (by omega), fun _ => ?_⟩)
          · show wp 0 yX12_faultOf 41 _ _ _ _
            rw [Int.add_zero]
            exact ih (n - (i + 1)).toNat (by omega) (i + 1) u M3 rfl (by omega) (by omega) k3 h3 R3 (Or.inr hn) e3
          · rw [hf]
            refine m_again h3 (by omega) (by omega) q2 q3 u4 R3 (fun M4 k4 R4 => ?_)
            have hok : sOk k (T (i + 1)) u = true := sOk_iff.2 (Or.inr (Or.inr (Or.inr ⟨q2, q3, u4⟩)))
            have es : sN (T (i + 1)) (i + 1) u = sR (T (i + 1)) (i + 1) u := by unfold sN; rw [if_neg (by omega), if_neg (by omega), if_neg (by omega)]
            show wp 0 yX12_faultOf 41 _ _ _ _
            have e4 := rd_y (T := T) (k := k) q1 (fun q => by have := q.1; omega) hok
            rw [es] at e4
            have h4 := sI_R (show 0 ≤ i + 1 by omega) q2 q3 u4 h3
            exact ih (n - (i + 1 + 1)).toNat (by omega) (i + 1 + 1) (sR (T (i + 1)) (i + 1) u) M4 rfl (by omega) (by omega) (k3.tr k4) h4 R4 (Or.inl rfl) (by rw [← e4]; exact e3)
        refine gX12_faultOf_41 ⟨t0, t4, ⟨by omega, by omega⟩, by rw [l2.1]; exact ⟨by omega, by omega⟩, fun q => absurd q (by rw [l2.1]; omega), fun _ => ⟨by decide, fun q => absurd q (by decide), fun _ => m_byte t0 t4 l2 n0 n6 i0 (by omega) ?_⟩⟩
        rw [bz]
        have notOk : ¬ sOk k (T i) s = true → ¬ (T i = 32 ∧ s 7 3 = 0) → Q (Iv i) M2 := fun hn hb => fin i (rd_n ilt hb hn)
        refine ⟨⟨by omega, by omega⟩, fun b40 => ⟨fun b41 => m_isLetter ⟨by omega, by omega⟩ (by rw [ek]; exact ⟨k0, k6⟩) (fun nl => ⟨fun _ => ⟨fun b32 => notOk (fun hok => ?_) (fun q => b32 q.1), fun b32 => ⟨⟨by omega, by omega⟩, fun dn => notOk (fun hok => ?_) (fun q => dn q.2), fun dz => ?_⟩⟩, fun q => absurd rfl q⟩) (fun yl => ⟨fun q => absurd q (by decide), fun _ => ⟨fun _ => ?_, fun q => absurd q b41⟩⟩), fun b41 => ⟨⟨by omega, by omega⟩, fun dz => m_isLetter ⟨by omega, by omega⟩ (by rw [ek]; exact ⟨k0, k6⟩) (fun nl => ⟨fun _ => ⟨fun b32 => notOk (fun hok => ?_) (fun q => b32 q.1), fun b32 => absurd b32 (by omega)⟩, fun q => absurd rfl q⟩) (fun yl => absurd yl (by omega)), fun dp => ⟨by omega, by omega, ⟨by omega, by omega⟩, fun it => ⟨fun q => absurd b41 q, fun _ => ⟨by omega, by omega, ?_⟩⟩, fun it => m_isLetter ⟨by omega, by omega⟩ (by rw [ek]; exact ⟨k0, k6⟩) (fun nl => ⟨fun _ => ⟨fun b32 => notOk (fun hok => ?_) (fun q => b32 q.1), fun b32 => absurd b32 (by omega)⟩, fun q => absurd rfl q⟩) (fun yl => absurd yl (by omega))⟩⟩⟩, fun b40 => ⟨⟨by omega, by omega⟩, fun d4 => ⟨fun b41 => m_isLetter ⟨by omega, by omega⟩ (by rw [ek]; exact ⟨k0, k6⟩) (fun nl => ⟨fun _ => ⟨fun b32 => notOk (fun hok => ?_) (fun q => b32 q.1), fun b32 => absurd b32 (by omega)⟩, fun q => absurd rfl q⟩) (fun yl => absurd yl (by omega)), fun b41 => absurd b41 (by omega)⟩, fun d4 => ⟨by omega, by omega, ?_⟩⟩⟩
        · rcases sOk_iff.1 hok with q | q | q | q
          · rw [ek] at nl; omega
          · omega
          · omega
          · rcases hd2 with h | h
            · omega
            · exact h ⟨ilt, q.1, q.2.1⟩
        · rcases sOk_iff.1 hok with q | q | q | q <;> omega
        · refine gX12_faultOf_41 ⟨t0, t4, ⟨by omega, by omega⟩, by rw [l2.1]; exact ⟨by omega, by omega⟩, fun q => absurd q (by rw [l2.1]; omega), fun _ => ⟨by decide, fun _ => m_tail t0 t4 l2 n0 n6 hT d.1 d.2 i0 (by omega) (fin _ ?_), fun q => absurd rfl q⟩⟩
          have b3 := bl_b (T := T) (show i ≤ n by omega)
          rw [rd_s ilt, if_pos ⟨b32, dz⟩, if_pos dz]
          by_cases c : bl T n i = n
          · rw [if_pos c, if_neg (by omega)]
          · rw [if_neg c, if_pos (by omega)]
        · -- a letter
          rw [ek] at yl
          have b0 : 97 ≤ T i := by omega
          have b1 : T i < 97 + k := by omega
          have hok : sOk k (T i) s = true := sOk_iff.2 (Or.inl ⟨b0, b1⟩)
          have es : sN (T i) i s = sL (T i) i s := by unfold sN; rw [if_pos b0]
          have e4 := rd_y (T := T) (k := k) ilt (fun q => by have := q.1; omega) hok
          rw [es] at e4
          have h4 := sI_L i0 b0 b1 h2
          have nb := mn40_b ln0.1
          have lb : bL s (s 7 3) ≤ s 7 1 := (h2.2.1 (s 7 3) d.1 (Int.le_refl _)).2.2.2.1
          have e17 : sL (T i) i s 7 1 = s 7 1 + 1 := rfl
          have e73 : sL (T i) i s 7 3 = s 7 3 := rfl
          have e74 : sL (T i) i s 7 4 = s 7 1 := rfl
          have ebl : bL (sL (T i) i s) (s 7 3) = bL s (s 7 3) := rfl
          have goOn : ∀ M3, kpF M M3 → M3 101 = M2 101 → M3 102 = M2 102 → M3 88 17 = mn40 (s 7 1 + 1) → M3 88 21 = (if 40 < s 7 1 + 1 then 1 else 0) → (∀ j, 0 ≤ j → j < s 7 1 + 1 → j < 40 → M3 100 j = gup (s 8) (s 7 1) (T i - 97) j) → Rm (sL (T i) i s) (i + 1) (up M3 102 (s 7 3) (M3 102 (s 7 3) + 1)) := by
            intro M3 k3 p1 p2 p17 p21 c3
            refine ⟨⟨by rw [up_ne (by decide)]; exact p17, by rw [up_ne (by decide)]; exact p21⟩, fun j j0 j1 j2 => by rw [up_ne (by decide)]; exact c3 j j0 j1 j2, fun v v0 v1 => by rw [up_ne (by decide), p1]; exact r101 v v0 v1, fun v v0 v1 => ?_, ?_⟩
            · have v1' : v ≤ s 7 3 := v1
              rw [up_at, p2]
              have := r102 v v0 v1'
              by_cases c : v = s 7 3
              · rw [if_pos c]; omega
              · rw [if_neg c]; omega
            · rw [e73, ebl, e17, up_at, if_pos rfl, p2]
              exact ⟨fun _ => by omega, fun _ => by omega⟩
          refine eX12_comesOn ⟨by rw [r17]; exact ⟨by omega, by omega⟩, fun q => ?_, fun q => ⟨by rw [r17]; omega, q, ?_⟩⟩
          · rw [r17] at q
            have s40 : 40 ≤ s 7 1 := by omega
            refine ⟨d.1, by omega, item (sL (T i) i s) _ _ ((k2.m (by omega)).u (by omega)) h4 (goOn _ (k2.m (by omega)) (up_ne (by decide)) (up_ne (by decide)) ?_ ?_ (fun j j0 j1 j2 => ?_)) (by rw [e74]; exact ln0.1) (by rw [e74]; exact r17) (by rw [← e4]; exact e2)⟩
            · rw [up_at, if_neg (by decide), r17]
              unfold mn40
              split <;> split <;> omega
            · rw [up_at, if_pos rfl, if_pos (by omega)]
            · rw [up_ne (by decide), gup_n (by omega)]; exact r100 j j0 (by omega) j2
          · rw [r17] at q
            have s40 : s 7 1 < 40 := by
              by_cases c : 40 < s 7 1
              · have := nb.2.2.2.2 c; omega
              · have := nb.2.2.2.1 (by omega); omega
            have ev := nb.2.2.2.1 (by omega)
            refine ⟨d.1, by omega, ?_⟩
            have kk : kpF M (up (up M2 100 (M2 88 17) (T i - 97)) 88 17 (M2 88 17 + 1)) := (k2.u (by omega)).m (by omega)
            refine item (sL (T i) i s) _ _ (kk.u (by omega)) h4 (goOn _ kk (by rw [up_ne (by decide), up_ne (by decide)]) (by rw [up_ne (by decide), up_ne (by decide)]) ?_ ?_ (fun j j0 j1 j2 => ?_)) (by rw [e74]; exact ln0.1) (by rw [e74]; exact r17) (by rw [← e4]; exact e2)
            · rw [up_at, if_pos rfl, r17, ev, (mn40_b (show 0 ≤ s 7 1 + 1 by omega)).2.2.2.1 (by omega)]
            · rw [up_at, if_neg (by decide), up_ne (by decide), r21, if_neg (by omega), if_neg (by omega)]
            · rw [up_ne (by decide), up_at, r17, ev]
              by_cases c : j = s 7 1
              · rw [if_pos c, gup_e c]
              · rw [if_neg c, gup_n c]; exact r100 j j0 (by omega) j2
        · rcases sOk_iff.1 hok with q | q | q | q <;> omega
        · -- a bracket is closed
          have bt : bL s (s 7 3) = s 9 (s 7 3 - 1) := by unfold bL; rw [if_neg (by omega)]
          have bl2 := rit.1 it
          rw [bt] at bl2
          have hok : sOk k (T i) s = true := sOk_iff.2 (Or.inr (Or.inr (Or.inl ⟨b41, by omega, by omega⟩)))
          have es : sN (T i) i s = sCl s := by unfold sN; rw [if_neg (by omega), if_neg (by omega), if_pos b41]
          have e4 := rd_y (T := T) (k := k) ilt (fun q => by have := q.1; omega) hok
          rw [es] at e4
          have h4 := sI_C i0 (show s 7 3 ≠ 0 by omega) (show s 9 (s 7 3 - 1) ≠ s 7 1 by omega) h2
          have lo := (h2.2.1 (s 7 3) d.1 (Int.le_refl _)).2.2.1
          have mo := (h2.2.2.1 (s 7 3 - 1) (by omega) (by omega)).2.1
          rw [show s 7 3 - 1 + 1 = s 7 3 by omega, bt] at mo
          rw [bt] at lo
          have ebl : bL (sCl s) (s 7 3 - 1) = bL s (s 7 3 - 1) := rfl
          refine item (sCl s) _ _ (k2.u (by omega)) h4 ⟨⟨by rw [up_ne (by decide)]; exact r17, by rw [up_ne (by decide)]; exact r21⟩, fun j j0 j1 j2 => by rw [up_ne (by decide)]; exact r100 j j0 j1 j2, fun v v0 v1 => ?_, fun v v0 v1 => ?_, ?_⟩ lo (r101 (s 7 3) (by omega) (Int.le_refl _)) (by rw [← e4]; exact e2)
          · have v1' : v ≤ s 7 3 - 1 := v1
            rw [up_ne (by decide)]
            exact r101 v v0 (by omega)
          · have v1' : v ≤ s 7 3 - 1 := v1
            rw [up_at]
            have a1 := r102 v v0 (by omega)
            have a2 := r102 (s 7 3 + -1) (by omega) (by omega)
            by_cases c : v = s 7 3 + -1
            · rw [if_pos c]; omega
            · rw [if_neg c]; omega
          · show 0 < up M2 102 (s 7 3 + -1) (M2 102 (s 7 3 + -1) + 1) 102 (s 7 3 - 1) ↔ bL (sCl s) (s 7 3 - 1) < s 7 1
            rw [ebl, up_at, if_pos (by omega)]
            have a2 := r102 (s 7 3 + -1) (by omega) (by omega)
            exact ⟨fun _ => by omega, fun _ => by omega⟩
        · have bt : bL s (s 7 3) = s 9 (s 7 3 - 1) := by unfold bL; rw [if_neg (by omega)]
          have lb : bL s (s 7 3) ≤ s 7 1 := (h2.2.1 (s 7 3) d.1 (Int.le_refl _)).2.2.2.1
          rcases sOk_iff.1 hok with q | q | q | q
          · omega
          · omega
          · have := rit.2 (by rw [bt] at lb ⊢; have := q.2.2; omega)
            omega
          · omega
        · rcases sOk_iff.1 hok with q | q | q | q <;> omega
        · -- a bracket is opened
          have hok : sOk k (T i) s = true := sOk_iff.2 (Or.inr (Or.inl ⟨b40, d4⟩))
          have es : sN (T i) i s = sO i s := by unfold sN; rw [if_neg (by omega), if_pos b40]
          have e4 := rd_y (T := T) (k := k) ilt (fun q => by have := q.1; omega) hok
          rw [es] at e4
          have h4 := sI_O i0 d4 h2
          have top : bL (sO i s) (s 7 3 + 1) = s 7 1 := by
            unfold bL
            rw [if_neg (by omega)]
            show gup (s 9) (s 7 3) (s 7 1) (s 7 3 + 1 - 1) = s 7 1
            rw [gup_e (by omega)]
          refine ih (n - (i + 1)).toNat (by omega) (i + 1) (sO i s) _ rfl (by omega) (by omega) ((k2.u (by omega)).u (by omega)) h4 ⟨⟨by rw [up_ne (by decide), up_ne (by decide)]; exact r17, by rw [up_ne (by decide), up_ne (by decide)]; exact r21⟩, fun j j0 j1 j2 => by rw [up_ne (by decide), up_ne (by decide)]; exact r100 j j0 j1 j2, fun v v0 v1 => ?_, fun v v0 v1 => ?_, ?_⟩ (Or.inl rfl) (by rw [← e4]; exact e2)
          · have v1' : v ≤ s 7 3 + 1 := v1
            rw [up_ne (by decide), up_at]
            show _ = mn40 (gup (s 9) (s 7 3) (s 7 1) (v - 1))
            by_cases c : v = s 7 3 + 1
            · rw [if_pos c, gup_e (by omega)]; exact r17
            · rw [if_neg c, gup_n (by omega)]; exact r101 v v0 (by omega)
          · have v1' : v ≤ s 7 3 + 1 := v1
            rw [up_at]
            by_cases c : v = s 7 3 + 1
            · rw [if_pos c]; omega
            · rw [if_neg c, up_ne (by decide)]
              have := r102 v v0 (by omega)
              omega
          · show 0 < up (up M2 101 (s 7 3 + 1) (M2 88 17)) 102 (s 7 3 + 1) 0 102 (s 7 3 + 1) ↔ bL (sO i s) (s 7 3 + 1) < s 7 1
            rw [top, up_at, if_pos rfl]
            exact ⟨fun q => absurd q (by decide), fun q => absurd q (by omega)⟩
  have bb := bl_b (T := T) n0
  have kI : kpF M (up (up (up M 88 17 0) 88 21 0) 102 0 0) := ((kpF.rf.m (by omega)).m (by omega)).u (by omega)
  have lI := kI.tx l
  refine up_ind (P := fun x => 0 ≤ x → bl T n x = bl T n 0 → wp 0 yX12_faultOf 21 [some (Rv 88), some (Iv t), some (Iv 0), some (Iv x), none, none, none, none] [] (up (up (up M 88 17 0) 88 21 0) 102 0 0) Q) (a := 0) (n := n) n0 (fun _ hx => ?_) (fun x x0 x1 ih _ hx => ?_) (Int.le_refl 0) rfl
  all_goals
    have start : ∀ x, bl T n 0 = x → wp 0 yX12_faultOf 41 [some (Rv 88), some (Iv t), some (Iv 0), some (Iv x), some (Iv 1), none, none, none] [] (up (up (up M 88 17 0) 88 21 0) 102 0 0) Q := fun x hx => by
      refine main _ x s0 _ rfl (by omega) (by omega) kI (sI_0 (by omega)) ⟨⟨?_, ?_⟩, fun j j0 j1 => absurd j1 (by show ¬ j < 0; omega), fun v v0 v1 => absurd v1 (by show ¬ v ≤ 0; omega), fun v v0 v1 => ?_, ?_⟩ (Or.inl rfl) (by rw [hx])
      · rw [up_ne (by decide), up_at, if_neg (by decide), up_at, if_pos rfl]; rfl
      · rw [up_ne (by decide), up_at, if_pos rfl]; rfl
      · have v1' : v ≤ 0 := v1
        rw [up_at, if_pos (by omega)]
        omega
      · show 0 < up (up (up M 88 17 0) 88 21 0) 102 0 0 102 0 ↔ (0 : Int) < 0
        rw [up_at, if_pos rfl]
  · have bz : byv T n n = 0 := by unfold byv; rw [if_neg (by omega)]
    refine gX12_faultOf_21 (m_byte t0 t4 lI n0 n6 n0 (by omega) ?_)
    rw [bz]
    exact ⟨by decide, fun _ => start n (by rw [← hx, bl_e (Int.le_refl n)]), fun q => absurd q (by decide)⟩
  · have bz : byv T n x = T x := by unfold byv; rw [if_pos x1]
    have tb := hT x x0 x1
    refine gX12_faultOf_21 (m_byte t0 t4 lI n0 n6 x0 (by omega) ?_)
    rw [bz]
    exact ⟨⟨by omega, by omega⟩, fun q => start x (by rw [← hx, bl_s x1, if_neg q]), fun q => ih (by omega) (by rw [← hx, bl_s x1, if_pos q])⟩
