/-! 37 cover: the class -/
theorem c_heads {M : Mem} {L : Int → Int → Int} {N p : Int → Int} {r k : Int} {Q : Vl → Mem → Prop} (h : fam L N r k) (sv : sevX M L N r) (pl : plX M p r) (v : vld N p r) (hq : ∀ M2, (∀ a, a ≠ 27 → M2 a = M a) → (∀ c, 0 ≤ c → c < 6 → M2 27 c = en N (dvv L N p c) r) → Q (Iv 0) M2) : cl 0 yX5_readHeads [Rv 23] M Q := by
  have r1 := h.1
  have r4 := h.2.1
  have k6 := h.k
  have kf : ∀ {M2 : Mem}, (∀ a, a ≠ 27 → M2 a = M a) → kpS M M2 := fun o2 a _ _ q _ => o2 a q
  refine eX5_readHeads ?_
  refine up_ind (P := fun x => ∀ M2, (∀ a, a ≠ 27 → M2 a = M a) → (∀ c, 0 ≤ c → c < x → M2 27 c = 0) → wp 0 yX5_readHeads 2 [some (Rv 23), some (Iv x)] [] M2 Q) (a := 0) (n := 6) (by decide) (fun M2 o2 c2 => ?_) (fun x x0 x1 ih M2 o2 c2 => ?_) M (fun _ _ => rfl) (fun c c0 c1 => absurd c1 (by omega))
  · refine gX5_readHeads_2 ⟨by decide, fun _ => ?_, fun q => absurd q (by decide)⟩
    refine up_ind (P := fun s => ∀ M3, (∀ a, a ≠ 27 → M3 a = M a) → (∀ c, 0 ≤ c → c < 6 → M3 27 c = en N (dvv L N p c) s) → wp 0 yX5_readHeads 23 [some (Rv 23), some (Iv s)] [] M3 Q) (a := 0) (n := r) (by omega) (fun M3 o3 c3 => ?_) (fun s s0 s1 ih M3 o3 c3 => ?_) M2 o2 c2
    · have e3 := (sv.kp (kf o3)).1
      exact gX5_readHeads_23 ⟨⟨by omega, by omega⟩, by rw [e3]; exact ⟨by omega, by omega⟩, fun _ => hq M3 o3 c3, fun q => absurd q (by omega)⟩
    · have sv3 := sv.kp (kf o3)
      have e3 := sv3.1
      obtain ⟨g1, g2, g3⟩ := sv3.2.2 s s0 s1
      have g31 := g3.1
      have es : M3 26 s = p s := by rw [o3 26 (by decide)]; exact pl s s0 s1
      have vs := v s s0 s1
      have nb := h.n s s0 s1
      refine gX5_readHeads_23 ⟨⟨by omega, by omega⟩, by rw [e3]; exact ⟨by omega, by omega⟩, fun q => absurd q (by omega), fun _ => ⟨s0, by omega, g2, by rw [es]; exact ⟨by omega, by omega⟩, by rw [g3.1]; exact ⟨by omega, by omega⟩, fun q => ih M3 o3 (fun c c0 c1 => ?_), fun q => c_head5 h sv3 es v s0 s1 (by omega) ?_⟩⟩
      · rw [c3 c c0 c1, en_s s0]
        have : dvv L N p c s = 0 := by unfold dvv; rw [if_neg (by omega)]
        rw [this, Int.zero_mul, Int.add_zero]
      · have lt : p s < N s := by omega
        have lb := (h.2.2 s s0 s1).2.2.2.2 (p s) vs.1 lt
        refine ⟨lb.1, by omega, ih _ (fun a ha => by rw [up_ne ha]; exact o3 a ha) (fun c c0 c1 => ?_)⟩
        rw [up_at, en_s s0]
        by_cases ce : c = L s (p s)
        · have : dvv L N p c s = 1 := by unfold dvv; rw [if_pos ⟨lt, ce.symm⟩]
          rw [if_pos ce, this, Int.one_mul, ← ce, c3 c c0 c1, g1]
        · have : dvv L N p c s = 0 := by unfold dvv; rw [if_neg (fun q2 => ce q2.2.symm)]
          rw [if_neg ce, this, Int.zero_mul, Int.add_zero]
          exact c3 c c0 c1
  · refine gX5_readHeads_2 ⟨⟨by omega, by omega⟩, fun q => absurd q (by omega), fun _ => ⟨x0, ih _ (fun a ha => by rw [up_ne ha]; exact o2 a ha) (fun c c0 c1 => ?_)⟩⟩
    rw [up_at]
    by_cases ce : c = x
    · rw [if_pos ce]
    · rw [if_neg ce]; exact c2 c c0 (by omega)
theorem c_goBehind {M : Mem} {L : Int → Int → Int} {N p : Int → Int} {r k x : Int} {Q : Vl → Mem → Prop} (h : fam L N r k) (sv : sevX M L N r) (pl : plX M p r) (v : vld N p r) (hx : inr x) (hq : ∀ M2, (∀ a, a ≠ 26 → M2 a = M a) → plX M2 (av L N p x) r → Q (Iv 0) M2) : cl 0 yX5_goBehind [Rv 23, Iv x] M Q := by
  have r1 := h.1
  have r4 := h.2.1
  have k6 := h.k
  refine eX5_goBehind ?_
  refine up_ind (P := fun s => ∀ M2, (∀ a, a ≠ 26 → M2 a = M a) → (∀ t, 0 ≤ t → t < r → M2 26 t = if t < s then av L N p x t else p t) → wp 0 yX5_goBehind 2 [some (Rv 23), some (Iv x), some (Iv s)] [] M2 Q) (a := 0) (n := r) (by omega) (fun M2 o2 c2 => ?_) (fun s s0 s1 ih M2 o2 c2 => ?_) M (fun _ _ => rfl) (fun t t0 t1 => by rw [if_neg (by omega)]; exact pl t t0 t1)
  · have e2 := (sv.kp (kpS.f o2)).1
    exact gX5_goBehind_2 ⟨⟨by omega, by omega⟩, by rw [e2]; exact ⟨by omega, by omega⟩, fun _ => hq M2 o2 (fun t t0 t1 => by rw [c2 t t0 t1, if_pos t1]), fun q => absurd q (by omega)⟩
  · have sv2 := sv.kp (kpS.f o2)
    have e2 := sv2.1
    obtain ⟨g1, g2, g3⟩ := sv2.2.2 s s0 s1
    have g31 := g3.1
    have vs := v s s0 s1
    have nb := h.n s s0 s1
    have es := c2 s s0 s1
    rw [if_neg (by omega)] at es
    have same : av L N p x s = p s → ∀ t, 0 ≤ t → t < r → M2 26 t = if t < s + 1 then av L N p x t else p t := fun ea t t0 t1 => by
      rw [c2 t t0 t1]
      by_cases c : t = s
      · rw [if_neg (by omega), if_pos (by omega), c, ea]
      · by_cases c5 : t < s
        · rw [if_pos c5, if_pos (by omega)]
        · rw [if_neg c5, if_neg (by omega)]
    refine gX5_goBehind_2 ⟨⟨by omega, by omega⟩, by rw [e2]; exact ⟨by omega, by omega⟩, fun q => absurd q (by omega), fun _ => ⟨s0, by omega, g2, by rw [es]; exact ⟨by omega, by omega⟩, by rw [g3.1]; exact ⟨by omega, by omega⟩, fun q => ih M2 o2 (same ?_), fun q => c_head5 h sv2 es v s0 s1 (by omega) ?_⟩⟩
    · unfold av dvv
      rw [if_neg (by omega), Int.add_zero]
    · have lt : p s < N s := by omega
      have lb := (h.2.2 s s0 s1).2.2.2.2 (p s) vs.1 lt
      refine ⟨Or.inr ⟨⟨by omega, by omega⟩, hx⟩, fun q2 => ih M2 o2 (same ?_), fun q2 => ih _ (fun a ha => by rw [up_ne ha]; exact o2 a ha) (fun t t0 t1 => ?_)⟩
      · unfold av dvv
        rw [if_neg (fun q3 => q2 q3.2), Int.add_zero]
      · rw [up_at, es]
        by_cases c : t = s
        · rw [if_pos c, if_pos (by omega), c]
          unfold av dvv
          rw [if_pos ⟨lt, q2⟩]
        · rw [if_neg c, c2 t t0 t1]
          by_cases c5 : t < s
          · rw [if_pos c5, if_pos (by omega)]
          · rw [if_neg c5, if_neg (by omega)]
def cvJ (L : Int → Int → Int) (N : Int → Int) (r : Int) (p : Int → Int) (s v : Int) : Prop := ∃ t, 0 ≤ t ∧ t < s ∧ p t < N t ∧ v = 1 + cvr L N r (av L N p (L t (p t)))
theorem c_cvFrom {M : Mem} {L : Int → Int → Int} {N p : Int → Int} {r k : Int} {Q : Vl → Mem → Prop} (h : fam L N r k) (sv : sevX M L N r) (pl : plX M p r) (v : vld N p r) (h20 : st N r ≤ 20000) (tb : tbX M (cvr L N r) N r (en N p r)) (hq : ∀ M2, (∀ a, a ≠ 27 → M2 a = M a) → Q (Iv (cvr L N r p)) M2) : cl 0 yX5_coverFrom [Rv 23, Iv (en N p r)] M Q := by
  have r1 := h.1
  have r4 := h.2.1
  have k6 := h.k
  have eb := en_b h.n v (show 0 ≤ r by omega) (Int.le_refl r)
  refine eX5_coverFrom (c_heads h sv pl v (fun M1 o1 c1 => ?_))
  have sv1 : sevX M1 L N r := sv.kp (fun a _ _ q _ => o1 a q)
  have pl1 : plX M1 p r := fun s s0 s1 => by rw [o1 26 (by decide)]; exact pl s s0 s1
  obtain ⟨t1, t2, t3⟩ := tb.k (fun a _ _ q => o1 a q)
  show wp 0 yX5_coverFrom 8 _ _ _ _
  refine up_ind (P := fun s => ∀ x2, ((x2 = 0 ∧ ∀ t, 0 ≤ t → t < s → p t = N t) ∨ ((0 < x2 ∧ x2 ≤ 161) ∧ (∀ t, 0 ≤ t → t < s → p t < N t → x2 ≤ 1 + cvr L N r (av L N p (L t (p t)))) ∧ cvJ L N r p s x2)) → wp 0 yX5_coverFrom 8 [some (Rv 23), some (Iv (en N p r)), some (Iv x2), some (Iv s), none] [] M1 Q) (a := 0) (n := r) (by omega) (fun x2 hx => ?_) (fun s s0 s1 ih x2 hx => ?_) 0 (Or.inl ⟨rfl, fun t t0 t1 => absurd t1 (by omega)⟩)
  · have fin : x2 = cvr L N r p := by
      rcases hx with ⟨e2, hh⟩ | ⟨x0, hh, t, t0, t1, ht, e2⟩
      · rw [e2, cv_ed h v hh]
      · obtain ⟨y, y0, y1, hok, hy⟩ := cv_ex h v (fun q => by have := q t t0 t1; omega)
        obtain ⟨u, u0, u1, hu, hl⟩ := (an_iff (by omega)).1 hok
        have a := hh u u0 u1 hu
        rw [hl] at a
        have b := (cv_le h v ((an_iff (by omega)).2 ⟨t, t0, t1, ht, rfl⟩)).1
        omega
    refine gX5_coverFrom_8 ⟨⟨by omega, by omega⟩, by rw [sv1.1]; exact ⟨by omega, by omega⟩, fun _ => ?_, fun q => absurd q (by rw [sv1.1]; omega)⟩
    rw [fin]
    exact hq M1 o1
  · obtain ⟨g1, g2, g3⟩ := sv1.2.2 s s0 s1
    have g31 := g3.1
    have vs := v s s0 s1
    have nb := h.n s s0 s1
    have es := pl1 s s0 s1
    refine gX5_coverFrom_8 ⟨⟨by omega, by omega⟩, by rw [sv1.1]; exact ⟨by omega, by omega⟩, fun q => absurd q (by rw [sv1.1]; omega), fun _ => ⟨s0, by omega, g2, by rw [es]; exact ⟨by omega, by omega⟩, by rw [g3.1]; exact ⟨by omega, by omega⟩, fun q => ih x2 ?_, fun q => ⟨t1, c_head5 h sv1 es v s0 s1 (by omega) ?_⟩⟩⟩
    · have pe : p s = N s := by omega
      rcases hx with ⟨e2, hh⟩ | ⟨x0, hh, t, t0, t1, ht, e2⟩
      · refine Or.inl ⟨e2, fun t t0 t1 => ?_⟩
        by_cases c : t = s
        · rw [c]; exact pe
        · exact hh t t0 (by omega)
      · refine Or.inr ⟨x0, fun u u0 u1 hu => ?_, t, t0, by omega, ht, e2⟩
        by_cases c : u = s
        · rw [c] at hu; omega
        · exact hh u u0 (by omega) hu
    · have lt : p s < N s := by omega
      have lb := (h.2.2 s s0 s1).2.2.2.2 (p s) vs.1 lt
      have hok : an5 L N p r (L s (p s)) = true := (an_iff (by omega)).2 ⟨s, s0, s1, lt, rfl⟩
      have va := (av_v (L := L) (x := L s (p s)) v).1
      have ea := en_av (L := L) (N := N) (p := p) (x := L s (p s)) (show 0 ≤ r by omega)
      have pos := (dv_pos h v).1 hok
      have eba := en_b h.n va (show 0 ≤ r by omega) (Int.le_refl r)
      have tv := t3 _ va (by omega)
      have cb := cv_bd h va
      refine ⟨lb.1, by omega, t2, ?_⟩
      rw [c1 (L s (p s)) lb.1 (by omega), ← ea, tv]
      refine ⟨by omega, by omega, ?_⟩
      rcases hx with ⟨e2, hh⟩ | ⟨x0, hh, t, t0, t1', ht, e2⟩
      · rw [e2]
        refine ⟨by decide, fun q => absurd rfl q, fun _ => ih _ (Or.inr ⟨⟨by omega, by omega⟩, fun u u0 u1 hu => ?_, s, s0, by omega, lt, rfl⟩)⟩
        by_cases c : u = s
        · rw [c]; exact Int.le_refl _
        · have := hh u u0 (by omega); omega
      · refine ⟨⟨by omega, by omega⟩, fun _ => ⟨⟨by omega, by omega⟩, ih _ ?_⟩, fun q => absurd q (by omega)⟩
        by_cases c9 : 1 + cvr L N r (av L N p (L s (p s))) < x2
        · rw [if_pos c9]
          refine Or.inr ⟨⟨by omega, by omega⟩, fun u u0 u1 hu => ?_, s, s0, by omega, lt, rfl⟩
          by_cases c : u = s
          · rw [c]; exact Int.le_refl _
          · have := hh u u0 (by omega) hu; omega
        · rw [if_neg c9]
          refine Or.inr ⟨x0, fun u u0 u1 hu => ?_, t, t0, by omega, ht, e2⟩
          by_cases c : u = s
          · rw [c]; omega
          · exact hh u u0 (by omega) hu
theorem c_coversBy {M : Mem} {L : Int → Int → Int} {N p : Int → Int} {r k x : Int} {Q : Vl → Mem → Prop} (h : fam L N r k) (v : vld N p r) (h20 : st N r ≤ 20000) (tb : tbX M (cvr L N r) N r (-1)) (x0 : 0 ≤ x) (x6 : x < 6) (he : M 27 x = en N (dvv L N p x) r) (hy : (an5 L N p r x = true ∧ cvr L N r (av L N p x) + 1 = cvr L N r p) → Q (Iv 1) M) (hn : ¬ (an5 L N p r x = true ∧ cvr L N r (av L N p x) + 1 = cvr L N r p) → Q (Iv 0) M) : cl 0 yX5_coversBy [Rv 23, Iv (en N p r), Iv x] M Q := by
  have r1 := h.1
  have r4 := h.2.1
  obtain ⟨t1, t2, t3⟩ := tb
  have eb := en_b h.n v (show 0 ≤ r by omega) (Int.le_refl r)
  have va := (av_v (L := L) (x := x) v)
  have ebd := en_b h.n va.2.2 (show 0 ≤ r by omega) (Int.le_refl r)
  have eba := en_b h.n va.1 (show 0 ≤ r by omega) (Int.le_refl r)
  have ea := en_av (L := L) (N := N) (p := p) (x := x) (show 0 ≤ r by omega)
  have dp := dv_pos (x := x) h v
  have b1 := cv_bd h v
  have b2 := cv_bd h va.1
  refine eX5_coversBy ⟨x0, x6, ?_⟩
  rw [he]
  refine ⟨⟨by omega, by omega⟩, fun q => hn (fun q2 => by have := dp.1 q2.1; omega), fun q => ⟨t1, t2, by omega, by omega, by omega, by omega, ?_⟩⟩
  rw [← ea, t3 _ va.1 (by omega), t3 _ v (by omega)]
  exact ⟨Or.inr ⟨⟨by omega, by omega⟩, ⟨by omega, by omega⟩⟩, fun q2 => hn (fun q3 => q2 (by have := q3.2; omega)), fun q2 => hy ⟨dp.2 q, by omega⟩⟩
def cvT (L : Int → Int → Int) (N : Int → Int) (r : Int) : Int := if 40 < cvr L N r zf then 40 else cvr L N r zf
theorem c_shortest {M : Mem} {L : Int → Int → Int} {N : Int → Int} {r k : Int} {Q : Vl → Mem → Prop} (h : fam L N r k) (sv : sevX M L N r) (ht : (M 23 4 = -1 ∧ M (-1) 0 = 0) ∨ (M 23 4 = 120 ∧ M (-1) 0 = 1)) (h20 : st N r ≤ 20000) (hq : ∀ M2, kpL M M2 → (∀ t, 0 ≤ t → t < cvT L N r → M2 6 t = cvX L N r t) → Q (Iv (cvr L N r zf)) M2) : cl 0 yX5_shortestCover [Rv 23, Rv 6] M Q := by
  have r1 := h.1
  have r4 := h.2.1
  have k6 := h.k
  have h6 : isA 6 80 := ⟨by decide, by decide, rfl⟩
  have vz := zf_vld h
  have cb := cv_bd h vz
  have sp := st_b h.n r4 (show 0 ≤ r by omega) (Int.le_refl r)
  have Tb : 0 ≤ cvT L N r ∧ cvT L N r ≤ 40 ∧ cvT L N r ≤ cvr L N r zf ∧ (cvr L N r zf ≤ cvT L N r ∨ 40 ≤ cvT L N r) := by unfold cvT; split <;> omega
  refine eX5_shortestCover h6 (c_goE h sv ht (fun M1 k1 pl1 => ?_))
  have sv1 := sv.kE k1
  show wp 0 yX5_shortestCover 11 _ _ _ _
  rw [sv1.2.1]
  have vN : vld N N r := fun s s0 s1 => ⟨(h.n s s0 s1).1, Int.le_refl _⟩
  refine dn_ind (P := fun c => ∀ M2 p, kpS M1 M2 → plX M2 p r → vld N p r → (0 ≤ c → en N p r = c) → tbX M2 (cvr L N r) N r c → wp 0 yX5_shortestCover 11 [some (Rv 23), some (Rv 6), some (Iv c), none, none, none] [] M2 Q) (a := -1) (n := st N r - 1) (by omega) (fun M2 p k2 pl v e tb => ?_) (fun c c0 c1 ih M2 p k2 pl v e tb => ?_) M1 N kpS.rf pl1 vN (fun _ => en_end (by omega)) ⟨k1.2.2.1, k1.2.2.2, fun p v hc => absurd hc (by have := en_b h.n v (show 0 ≤ r by omega) (Int.le_refl r); omega)⟩
  · refine gX5_shortestCover_11 h6 ⟨by decide, fun _ => c_goB (sv1.kp k2).1 (by omega) r4 (fun M3 o3 pl3 => ?_), fun q => absurd q (by decide)⟩
    have tb3 : tbX M3 (cvr L N r) N r (-1) := tb.k (fun a _ q _ => o3 a q)
    have k3 : kpS M1 M3 := k2.tr (kpS.f o3)
    have z0 := tb3.2.2 zf vz (by rw [en_zf (by omega)]; decide)
    rw [en_zf (by omega)] at z0
    refine ⟨tb3.1, tb3.2.1, ?_⟩
    rw [z0]
    have key := up_ind (P := fun t => ∀ M4, kpS M1 M4 → plX M4 (cvV L N r t) r → tbX M4 (cvr L N r) N r (-1) → (∀ t', 0 ≤ t' → t' < t → M4 6 t' = cvX L N r t') → wp 0 yX5_shortestCover 52 [some (Rv 23), some (Rv 6), some (Iv (cvr L N r zf)), some (Iv (en N (cvV L N r t) r)), some (Iv t), none] [] M4 Q) (a := 0) (n := cvT L N r) Tb.1 (fun M4 k4 pl4 tb4 c4 => ?_) (fun t t0 t1 ih M4 k4 pl4 tb4 c4 => ?_) M3 k3 pl3 tb3 (fun t' t0 t1 => absurd t1 (by omega))
    · have e0 : en N (cvV L N r 0) r = 0 := en_zf (by omega)
      rw [e0] at key
      exact key
    · exact gX5_shortestCover_52 h6 ⟨⟨by omega, by omega⟩, ⟨by omega, by omega⟩, fun _ => hq M4 (kpL.of k1 k4) c4, fun _ => ⟨fun _ => hq M4 (kpL.of k1 k4) c4, fun q => absurd q (by omega)⟩⟩
    · obtain ⟨v4, e4⟩ := cv_inv h t.toNat (by omega)
      rw [show ((t.toNat : Nat) : Int) = t by omega] at v4 e4
      obtain ⟨y1, y2, y3, y4⟩ := cvC_sp h v4 (by omega)
      have y1' : 0 ≤ cvX L N r t := y1
      have y2' : cvX L N r t < k := y2
      have eb4 := en_b h.n v4 (show 0 ≤ r by omega) (Int.le_refl r)
      refine gX5_shortestCover_52 h6 ⟨⟨by omega, by omega⟩, ⟨by omega, by omega⟩, fun q => absurd q (by omega), fun _ => ⟨fun q => absurd q (by omega), fun _ => c_heads h (sv1.kp k4) pl4 v4 (fun M5 o5 c5 => ?_)⟩⟩
      have k5 : kpS M1 M5 := k4.tr (fun a _ _ q _ => o5 a q)
      have tb5 : tbX M5 (cvr L N r) N r (-1) := tb4.k (fun a _ _ q => o5 a q)
      have pl5 : plX M5 (cvV L N r t) r := fun s s0 s1 => by rw [o5 26 (by decide)]; exact pl4 s s0 s1
      have go : cl 0 yX5_goBehind [Rv 23, Iv (cvX L N r t)] (up M5 6 t (cvX L N r t)) (QV (fun M8 => (wp 0 yX5_shortestCover 52 [some (Rv 23), some (Rv 6), some (Iv (cvr L N r zf)), some (Iv (en N (cvV L N r t) r + ((up M5 6 t (cvX L N r t)) 27 (cvX L N r t)))), some (Iv (t + 1)), none] [] M8 Q))) := by
        have k6' : kpS M1 (up M5 6 t (cvX L N r t)) := k5.u (by omega)
        rw [up_ne (show (27 : Int) ≠ 6 by decide), c5 _ y1' (by omega), ← en_av (by omega)]
        refine c_goBehind h (sv1.kp k6') (fun s s0 s1 => by rw [up_ne (by decide)]; exact pl5 s s0 s1) v4 ⟨by omega, by omega⟩ (fun M7 o7 pl7 => ?_)
        have := ih M7 (k6'.tr (kpS.f o7)) (by rw [cvV_s t0]; exact pl7) (tb5.k (fun a q1 q2 _ => by rw [o7 a q2, up_ne q1])) (fun t' t0' t1' => by
          rw [o7 6 (by decide), up_at]
          by_cases ce : t' = t
          · rw [if_pos ce, ce]
          · rw [if_neg ce, o5 6 (by decide)]; exact c4 t' t0' (by omega))
        rw [cvV_s t0] at this
        exact this
      show wp 0 yX5_shortestCover 72 _ _ _ _
      refine up_ind (P := fun c => wp 0 yX5_shortestCover 72 [some (Rv 23), some (Rv 6), some (Iv (cvr L N r zf)), some (Iv (en N (cvV L N r t) r)), some (Iv t), some (Iv c)] [] M5 Q) (a := 0) (n := cvX L N r t) y1' ?_ (fun c c0 c1 ih2 => ?_)
      · exact gX5_shortestCover_72 h6 ⟨⟨by omega, by omega⟩, fun _ => ⟨t0, by omega, ⟨by omega, by omega⟩, y1', by omega, go⟩, fun _ => c_coversBy h v4 h20 tb5 y1' (by omega) (c5 _ y1' (by omega)) (fun _ => ⟨fun _ => ⟨t0, by omega, ⟨by omega, by omega⟩, y1', by omega, go⟩, fun q => absurd q (by decide)⟩) (fun q => absurd y3 q)⟩
      · exact gX5_shortestCover_72 h6 ⟨⟨by omega, by omega⟩, fun q => absurd q (by omega), fun _ => c_coversBy h v4 h20 tb5 c0 (by omega) (c5 _ c0 (by omega)) (fun q => absurd q (y4 c c0 c1)) (fun _ => ⟨fun q => absurd rfl q, fun _ => ih2⟩)⟩
  · have e' := e (by omega)
    subst e'
    refine gX5_shortestCover_11 h6 ⟨⟨by omega, by omega⟩, fun q => absurd q (by omega), fun _ => ⟨tb.1, c_cvFrom h (sv1.kp k2) pl v h20 tb (fun M5 o5 => ?_)⟩⟩
    have tb5 : tbX M5 (cvr L N r) N r (en N p r) := tb.k (fun a _ _ q => o5 a q)
    have k5 : kpS M1 M5 := k2.tr (fun a _ _ q _ => o5 a q)
    refine ⟨tb5.2.1, by omega, ?_⟩
    have k3 : kpS M1 (up M5 120 (en N p r) (cvr L N r p)) := k5.u (by omega)
    refine c_back h (sv1.kp k3) (fun s s0 s1 => by rw [up_ne (by decide), o5 26 (by decide)]; exact pl s s0 s1) v (fun M3 p3 o3 pl3 v3 e3 => ih M3 p3 (k3.tr (kpS.f o3)) pl3 v3 (fun q => e3 (by omega)) ?_)
    exact (tb5.u h.n (by omega) v rfl (fun q hq => cv_cg (by omega) hq) rfl).k (fun a _ q _ => o3 a q)
