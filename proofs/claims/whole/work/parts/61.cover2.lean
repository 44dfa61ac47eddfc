/-! 37 cover: the reference -/
def tgh (L : Int → Int → Int) (N : Int → Int) (r : Int) (p : Int → Int) (x : Int) : Int := if an5 L N p r x = true then cd N (av L N p x) r else -1
theorem m_bHere {M : Mem} {L : Int → Int → Int} {N p : Int → Int} {r k x : Int} {Q : Vl → Mem → Prop} (h : fam L N r k) (sv : sevM M L N r) (v : vld N p r) (hx : inr x) (hq : ∀ M2, (∀ a, a ≠ 115 → M2 a = M a) → Q (Iv (tgh L N r p x)) M2) : cl 0 yX12_behindHere [Rv 88, Iv (cd N p r), Iv x] M Q := by
  have r1 := h.1
  have r4 := h.2.1
  have k6 := h.k
  refine eX12_behindHere (m_layAt h sv v (fun M1 o1 c1 => ?_))
  show wp 0 yX12_behindHere 10 _ _ _ _
  refine up_ind (P := fun s => ∀ x3 M2, (∀ a, a ≠ 115 → M2 a = M a) → (∀ t, 0 ≤ t → t < r → M2 115 t = if t < s then av L N p x t else p t) → x3 = (if an5 L N p s x = true then 1 else 0) → wp 0 yX12_behindHere 10 [some (Rv 88), some (Iv (cd N p r)), some (Iv x), some (Iv x3), some (Iv s), none] [] M2 Q) (a := 0) (n := r) (by omega) (fun x3 M2 o2 c2 e3 => ?_) (fun s s0 s1 ih x3 M2 o2 c2 e3 => ?_) 0 M1 o1 (fun t t0 t1 => by rw [if_neg (by omega)]; exact c1 t t0 t1) rfl
  · have sv2 := sv.k (kpC.f o2)
    have e2 := sv2.1
    have q9 := hq M2 o2
    unfold tgh at q9
    by_cases hok : an5 L N p r x = true
    · rw [if_pos hok] at q9 e3
      rw [e3]
      exact gX12_behindHere_10 ⟨⟨by omega, by omega⟩, by rw [e2]; exact ⟨by omega, by omega⟩, fun _ => ⟨by decide, fun q => absurd q (by decide), fun _ => m_code h sv2 (fun t t0 t1 => by rw [c2 t t0 t1, if_pos t1]) q9⟩, fun q => absurd q (by omega)⟩
    · rw [if_neg hok] at q9 e3
      rw [e3]
      exact gX12_behindHere_10 ⟨⟨by omega, by omega⟩, by rw [e2]; exact ⟨by omega, by omega⟩, fun _ => ⟨by decide, fun _ => q9, fun q => absurd rfl q⟩, fun q => absurd q (by omega)⟩
  · have sv2 := sv.k (kpC.f o2)
    have e2 := sv2.1
    obtain ⟨⟨g1, g2⟩, g3⟩ := sv2.2 s s0 s1
    have g31 := g3.1
    have vs := v s s0 s1
    have nb := h.n s s0 s1
    have es := c2 s s0 s1
    rw [if_neg (by omega)] at es
    have i3 : inr x3 := by rw [e3]; split <;> decide
    have as := an_s (L := L) (N := N) (p := p) (x := x) s0
    have nxt : ∀ d y3, av L N p x s = p s + d → y3 = (if an5 L N p (s + 1) x = true then 1 else 0) → wp 0 yX12_behindHere 10 [some (Rv 88), some (Iv (cd N p r)), some (Iv x), some (Iv y3), some (Iv (s + 1)), none] [] (up M2 115 s (p s + d)) Q := by
      intro d y3 hd hy
      refine ih y3 _ (fun a ha => by rw [up_ne ha]; exact o2 a ha) (fun t t0 t1 => ?_) hy
      rw [up_at]
      by_cases c : t = s
      · rw [if_pos c, if_pos (by omega), c, hd]
      · rw [if_neg c, c2 t t0 t1]
        by_cases c5 : t < s
        · rw [if_pos c5, if_pos (by omega)]
        · rw [if_neg c5, if_neg (by omega)]
    have f1 : x3 ≠ 0 → (1 : Int) = (if an5 L N p (s + 1) x = true then 1 else 0) := fun q => by
      by_cases c : an5 L N p s x = true
      · rw [as, c, Bool.true_or, if_pos rfl]
      · rw [if_neg c] at e3; exact absurd e3 q
    have f0 : x3 = 0 → ¬ (p s < N s ∧ L s (p s) = x) → (0 : Int) = (if an5 L N p (s + 1) x = true then 1 else 0) := fun q q2 => by
      by_cases c : an5 L N p s x = true
      · rw [if_pos c] at e3; omega
      · rw [as, Bool.eq_false_iff.2 c, Bool.false_or, if_neg (fun q3 => q2 (of_decide_eq_true q3))]
    have f2 : (p s < N s ∧ L s (p s) = x) → (1 : Int) = (if an5 L N p (s + 1) x = true then 1 else 0) := fun q => by
      rw [as, decide_eq_true q, Bool.or_true, if_pos rfl]
    have d0 : ¬ (p s < N s ∧ L s (p s) = x) → av L N p x s = p s + 0 := fun q => by unfold av dvv; rw [if_neg q]
    have d1 : (p s < N s ∧ L s (p s) = x) → av L N p x s = p s + 1 := fun q => by unfold av dvv; rw [if_pos q]
    refine gX12_behindHere_10 ⟨⟨by omega, by omega⟩, by rw [e2]; exact ⟨by omega, by omega⟩, fun q => absurd q (by omega), fun _ => ⟨s0, by omega, g1, g2, by rw [es]; exact ⟨by omega, by omega⟩, by rw [g31]; exact ⟨by omega, by omega⟩, ?_⟩⟩
    rw [es, g31]
    refine ⟨fun q => ⟨i3, fun q2 => nxt 0 1 (d0 (by omega)) (f1 q2), fun q2 => nxt 0 0 (d0 (by omega)) (f0 q2 (by omega))⟩, fun q => m_at0 (by omega) (by omega) ?_⟩
    rw [g3.2 _ vs.1 q]
    have lb := (h.2.2 s s0 s1).2.2.2.2 (p s) vs.1 q
    show (L s (p s) = x ∨ _) ∧ _
    rw [es]
    exact ⟨Or.inr ⟨⟨by omega, by omega⟩, hx⟩, fun q2 => ⟨i3, fun q3 => nxt 0 1 (d0 (fun q4 => q2 q4.2)) (f1 q3), fun q3 => nxt 0 0 (d0 (fun q4 => q2 q4.2)) (f0 q3 (fun q4 => q2 q4.2))⟩, fun q2 => ⟨i3, fun q3 => nxt 1 1 (d1 ⟨q, q2⟩) (f2 ⟨q, q2⟩), fun q3 => nxt 1 1 (d1 ⟨q, q2⟩) (f2 ⟨q, q2⟩)⟩⟩
theorem cvD_k {L : Int → Int → Int} {N p : Int → Int} {r k x : Int} {f : (Int → Int) → Int} (h : fam L N r k) (v : vld N p r) (hx : k ≤ x) : cvI N p r ≤ cvD L N r f p x := by
  have r1 := h.1
  have hn : ¬ an5 L N p r x = true := fun hok => by
    obtain ⟨s, s0, s1, h1, h2⟩ := (an_iff (by omega)).1 hok
    have lb := (h.2.2 s s0 s1).2.2.2.2 (p s) (v s s0 s1).1 h1
    omega
  unfold cvD cvI
  rw [if_neg hn]
  split <;> decide
theorem m_cover {M : Mem} {L : Int → Int → Int} {N : Int → Int} {r k xs xr : Int} {Q : Vl → Mem → Prop} (h : fam L N r k) (sv : sevM M L N r) (hk : M 88 11 = k) (h20 : st N r ≤ 20000) (hq : ∀ M2, kpC M M2 → M2 88 17 = cvT L N r → (∀ t, 0 ≤ t → t < cvT L N r → M2 100 t = cvX L N r t) → cl 0 yX12_comesToRow [Rv 88, Iv xr] M2 (QV (fun M4 => Q (Iv (cvr L N r zf)) M4))) : wp 0 yX12_cover 25 [some (Rv 88), some (Iv xs), some (Iv xr), some (Iv 0), some (Iv (st N r - 1)), some (Iv (st N r - 1)), none, none, none, none] [] M Q := by
  have r1 := h.1
  have r4 := h.2.1
  have k6 := h.k
  have vz := zf_vld h
  have cb := cv_bd h vz
  have sp := st_b h.n r4 (show 0 ≤ r by omega) (Int.le_refl r)
  refine dn_ind (P := fun c => ∀ M2, kpC M M2 → tbM M2 (cvr L N r) N r c → wp 0 yX12_cover 25 [some (Rv 88), some (Iv xs), some (Iv xr), some (Iv 0), some (Iv (st N r - 1)), some (Iv c), none, none, none, none] [] M2 Q) (a := -1) (n := st N r - 1) (by omega) (fun M2 k2 tb => ?_) (fun c c0 c1 ih M2 k2 tb => ?_) M kpC.rf (fun p v hc => absurd hc (by have := cd_b h.n v (show 0 ≤ r by omega) (Int.le_refl r); omega))
  · have z0 := tb zf vz (by rw [cd_zf (by omega)]; decide)
    rw [cd_zf (by omega)] at z0
    refine gX12_cover_25 ⟨by decide, fun _ => ?_, fun q => absurd q (by decide)⟩
    rw [z0]
    have key := up_ind (P := fun t => ∀ M4, kpC M M4 → tbM M4 (cvr L N r) N r (-1) → (∀ t', 0 ≤ t' → t' < t → t' < 40 → M4 100 t' = cvX L N r t') → wp 0 yX12_cover 149 [some (Rv 88), some (Iv xs), some (Iv xr), some (Iv 0), some (Iv (st N r - 1)), some (Iv (cvr L N r zf)), some (Iv (cd N (cvV L N r t) r)), some (Iv t), none, none] [] M4 Q) (a := 0) (n := cvr L N r zf) cb.1 (fun M4 k4 tb4 c4 => ?_) (fun t t0 t1 ih M4 k4 tb4 c4 => ?_) M2 k2 tb (fun t' t0 t1 => absurd t1 (by omega))
    · have e0 : cd N (cvV L N r 0) r = 0 := cd_zf (by omega)
      rw [e0] at key
      exact key
    · refine gX12_cover_149 ⟨⟨by omega, by omega⟩, ⟨by omega, by omega⟩, fun _ => ⟨fun q => hq _ k4.m ?_ (fun t t0 t1 => ?_), fun q => hq _ k4.m ?_ (fun t t0 t1 => ?_)⟩, fun q => absurd q (by omega)⟩
      · rw [up_at, if_pos rfl]; unfold cvT; rw [if_neg (by omega)]
      · unfold cvT at t1; rw [if_neg (by omega)] at t1
        rw [up_ne (by decide)]; exact c4 t t0 t1 (by omega)
      · rw [up_at, if_pos rfl]; unfold cvT; rw [if_pos q]
      · unfold cvT at t1; rw [if_pos q] at t1
        rw [up_ne (by decide)]; exact c4 t t0 (by omega) t1
    · obtain ⟨v4, e5⟩ := cv_inv h t.toNat (by omega)
      rw [show ((t.toNat : Nat) : Int) = t by omega] at v4 e5
      obtain ⟨y1, y2, y3, y4⟩ := cvC_sp h v4 (by omega)
      have y1' : 0 ≤ cvX L N r t := y1
      have y2' : cvX L N r t < k := y2
      have y3' : an5 L N (cvV L N r t) r (cvX L N r t) = true ∧ cvr L N r (av L N (cvV L N r t) (cvX L N r t)) + 1 = cvr L N r (cvV L N r t) := y3
      have cdb := cd_b h.n v4 (show 0 ≤ r by omega) (Int.le_refl r)
      have b4 := cv_bd h v4
      refine gX12_cover_149 ⟨⟨by omega, by omega⟩, ⟨by omega, by omega⟩, fun q => absurd q (by omega), fun _ => m_bHere h (sv.k k4) v4 (by decide) (fun M5 o5 => ?_)⟩
      show wp 0 yX12_cover 169 _ _ _ _
      refine up_ind (P := fun x => ∀ M5, (∀ a, a ≠ 115 → M5 a = M4 a) → wp 0 yX12_cover 169 [some (Rv 88), some (Iv xs), some (Iv xr), some (Iv 0), some (Iv (st N r - 1)), some (Iv (cvr L N r zf)), some (Iv (cd N (cvV L N r t) r)), some (Iv t), some (Iv x), some (Iv (tgh L N r (cvV L N r t) x))] [] M5 Q) (a := 0) (n := cvX L N r t) y1' (fun M5 o5 => ?_) (fun x x0 x1 ih2 M5 o5 => ?_) M5 o5
      · have v5 := (av_v (L := L) (x := cvX L N r t) v4).1
        have cdb5 := cd_b h.n v5 (show 0 ≤ r by omega) (Int.le_refl r)
        have et : tgh L N r (cvV L N r t) (cvX L N r t) = cd N (av L N (cvV L N r t) (cvX L N r t)) r := by unfold tgh; rw [if_pos y3'.1]
        rw [et]
        have tb5 : tbM M5 (cvr L N r) N r (-1) := tb4.f (o5 114 (by decide))
        have a1 := tb5 _ v5 (by omega)
        have a2 := tb5 _ v4 (by omega)
        have b5 := cv_bd h v5
        have go : ∀ M6, kpC M M6 → tbM M6 (cvr L N r) N r (-1) → (∀ t', 0 ≤ t' → t' < t + 1 → t' < 40 → M6 100 t' = cvX L N r t') → wp 0 yX12_cover 149 [some (Rv 88), some (Iv xs), some (Iv xr), some (Iv 0), some (Iv (st N r - 1)), some (Iv (cvr L N r zf)), some (Iv (cd N (av L N (cvV L N r t) (cvX L N r t)) r)), some (Iv (t + 1)), none, none] [] M6 Q := by
          intro M6 k6' tb6 c6
          have := ih M6 k6' tb6 c6
          rw [cvV_s t0] at this
          exact this
        refine gX12_cover_169 ⟨⟨by omega, by omega⟩, fun q => absurd q (by omega), fun _ => ⟨by omega, by omega, by omega, by rw [a1]; exact ⟨by omega, by omega⟩, by rw [a2]; exact ⟨by omega, by omega⟩, fun _ => ⟨⟨by omega, by omega⟩, fun q40 => go M5 (k4.tr (kpC.f o5)) tb5 (fun t' t0' t1' t2' => ?_), fun q40 => ⟨t0, go _ ((k4.tr (kpC.f o5)).u (by omega)) (tb5.f (by rw [up_ne (by decide)])) (fun t' t0' t1' t2' => ?_)⟩⟩, fun q => absurd q (by omega)⟩⟩
        · rw [o5 100 (by decide)]; exact c4 t' t0' (by omega) t2'
        · rw [up_at]
          by_cases ce : t' = t
          · rw [if_pos ce, ce]
          · rw [if_neg ce, o5 100 (by decide)]; exact c4 t' t0' (by omega) t2'
      · have nt := y4 x x0 x1
        have go : ∀ M6, (∀ a, a ≠ 115 → M6 a = M4 a) → cl 0 yX12_behindHere [Rv 88, Iv (cd N (cvV L N r t) r), Iv (x + 1)] M6 (QI (fun z3 M3 => (wp 0 yX12_cover 169 [some (Rv 88), some (Iv xs), some (Iv xr), some (Iv 0), some (Iv (st N r - 1)), some (Iv (cvr L N r zf)), some (Iv (cd N (cvV L N r t) r)), some (Iv t), some (Iv (x + 1)), some (Iv z3)] [] M3 Q))) := by
          intro M6 o6
          exact m_bHere h (sv.k (k4.tr (kpC.f o6))) v4 ⟨by omega, by omega⟩ (fun M7 o7 => ih2 M7 (fun a ha => (o7 a ha).trans (o6 a ha)))
        by_cases hok : an5 L N (cvV L N r t) r x = true
        · have v5 := (av_v (L := L) (x := x) v4).1
          have cdb5 := cd_b h.n v5 (show 0 ≤ r by omega) (Int.le_refl r)
          have et : tgh L N r (cvV L N r t) x = cd N (av L N (cvV L N r t) x) r := by unfold tgh; rw [if_pos hok]
          have tb5 : tbM M5 (cvr L N r) N r (-1) := tb4.f (o5 114 (by decide))
          have a1 := tb5 _ v5 (by omega)
          have a2 := tb5 _ v4 (by omega)
          have b5 := cv_bd h v5
          have le := (cv_le h v4 hok).1
          have ne : cvr L N r (av L N (cvV L N r t) x) + 1 ≠ cvr L N r (cvV L N r t) := fun q => nt ⟨hok, q⟩
          rw [et]
          refine gX12_cover_169 ⟨⟨by omega, by omega⟩, fun q => absurd q (by omega), fun _ => ⟨by omega, by omega, by omega, by rw [a1]; exact ⟨by omega, by omega⟩, by rw [a2]; exact ⟨by omega, by omega⟩, fun q => absurd q (by omega), fun _ => go M5 o5⟩⟩
        · have et : tgh L N r (cvV L N r t) x = -1 := by unfold tgh; rw [if_neg hok]
          rw [et]
          exact gX12_cover_169 ⟨by decide, fun _ => go M5 o5, fun q => absurd q (by decide)⟩
  · obtain ⟨p, v, e⟩ := cd_ex h.n (show 0 ≤ r by omega) (c := c) (by omega) (by omega)
    subst e
    have cdb := cd_b h.n v (show 0 ≤ r by omega) (Int.le_refl r)
    have ci : cvI N p r = 0 ∨ cvI N p r = 1000 := by unfold cvI; split <;> omega
    have inner : ∀ z, z = cvI N p r → wp 0 yX12_cover 54 [some (Rv 88), some (Iv xs), some (Iv xr), some (Iv 0), some (Iv (st N r - 1)), some (Iv (cd N p r)), some (Iv 0), none, none, none] [] (up M2 114 (cd N p r) z) Q := by
      intro z hz
      refine up_ind (P := fun x => ∀ M3, kpC M M3 → tbM M3 (cvr L N r) N r (cd N p r) → M3 114 (cd N p r) = mnI (cvI N p r) (cvD L N r (cvr L N r) p) x → wp 0 yX12_cover 54 [some (Rv 88), some (Iv xs), some (Iv xr), some (Iv 0), some (Iv (st N r - 1)), some (Iv (cd N p r)), some (Iv x), none, none, none] [] M3 Q) (a := 0) (n := k) (by omega) (fun M3 k3 tb3 e3 => ?_) (fun x x0 x1 ih2 M3 k3 tb3 e3 => ?_) (up M2 114 (cd N p r) z) (k2.u (by omega)) tb.o (by rw [up_at, if_pos rfl]; exact hz)
      · have ek : M3 88 11 = k := by rw [k3.2 11 (by decide)]; exact hk
        refine gX12_cover_54 ⟨⟨by omega, by omega⟩, ⟨by omega, by omega⟩, fun _ => ih M3 k3 (tb3.u h.n (by omega) v (fun q hq => cv_cg (by omega) hq) ?_), fun q => absurd q (by omega)⟩
        rw [e3, cv_s h v, mn_tl (show 0 ≤ k by omega) k6.2 (fun x x0 x1 => cvD_k h v x0)]
      · have ek : M3 88 11 = k := by rw [k3.2 11 (by decide)]; exact hk
        have m40 : 0 ≤ mnI (cvI N p r) (cvD L N r (cvr L N r) p) x ∧ mnI (cvI N p r) (cvD L N r (cvr L N r) p) x ≤ 1000 := by
          have sp2 := mn_sp (a := cvI N p r) (g := cvD L N r (cvr L N r) p) (n := x) x0
          refine ⟨?_, by have := sp2.1; omega⟩
          rcases sp2.2.1 with q | ⟨y, yy0, yy1, hy⟩
          · omega
          · by_cases hok : an5 L N p r y = true
            · have dy : cvD L N r (cvr L N r) p y = cvr L N r (av L N p y) + 1 := by unfold cvD; rw [if_pos hok]
              have := cv_bd h (av_v (L := L) (x := y) v).1
              omega
            · have dy : cvD L N r (cvr L N r) p y = 1000 := by unfold cvD; rw [if_neg hok]
              omega
        refine gX12_cover_54 ⟨⟨by omega, by omega⟩, ⟨by omega, by omega⟩, fun q => absurd q (by omega), fun _ => m_bHere h (sv.k k3) v ⟨by omega, by omega⟩ (fun M4 o4 => ?_)⟩
        have e4 : M4 114 (cd N p r) = mnI (cvI N p r) (cvD L N r (cvr L N r) p) x := by rw [o4 114 (by decide)]; exact e3
        have tb4 : tbM M4 (cvr L N r) N r (cd N p r) := tb3.f (o4 114 (by decide))
        have k4 : kpC M M4 := k3.tr (kpC.f o4)
        have put : ∀ z, z = mnI (cvI N p r) (cvD L N r (cvr L N r) p) (x + 1) → wp 0 yX12_cover 54 [some (Rv 88), some (Iv xs), some (Iv xr), some (Iv 0), some (Iv (st N r - 1)), some (Iv (cd N p r)), some (Iv (x + 1)), none, none, none] [] (up M4 114 (cd N p r) z) Q := fun z hz => ih2 _ (k4.u (by omega)) tb4.o (by rw [up_at, if_pos rfl]; exact hz)
        by_cases hok : an5 L N p r x = true
        · have va := av_v (L := L) (x := x) v
          have v5 := va.1
          have cdb5 := cd_b h.n v5 (show 0 ≤ r by omega) (Int.le_refl r)
          obtain ⟨s, s0, s1, h1, h2⟩ := (an_iff (by omega)).1 hok
          have lt := cd_lt h.n v v5 (by omega) (fun s s0 s1 => va.2.1 s) s0 s1 (by unfold av dvv; rw [if_pos ⟨h1, h2⟩]; omega)
          have et : tgh L N r p x = cd N (av L N p x) r := by unfold tgh; rw [if_pos hok]
          have dx : cvD L N r (cvr L N r) p x = cvr L N r (av L N p x) + 1 := by unfold cvD; rw [if_pos hok]
          have a1 := tb4 _ v5 lt
          have b5 := cv_bd h v5
          show inr (tgh L N r p x) ∧ _
          rw [et, a1, e4]
          refine ⟨⟨by omega, by omega⟩, fun q => absurd q (by omega), fun _ => ⟨by omega, by omega, by omega, ⟨by omega, by omega⟩, ⟨by omega, by omega⟩, fun q => put _ ?_, fun q => put _ ?_⟩⟩
          · rw [mnI_s x0, dx, if_neg (by omega)]
          · rw [mnI_s x0, dx, if_pos q]
        · have et : tgh L N r p x = -1 := by unfold tgh; rw [if_neg hok]
          have dx : cvD L N r (cvr L N r) p x = 1000 := by unfold cvD; rw [if_neg hok]
          show inr (tgh L N r p x) ∧ _
          rw [et, e4]
          refine ⟨by decide, fun _ => ⟨by omega, by omega, put _ ?_⟩, fun q => absurd q (by decide)⟩
          rw [mnI_s x0, dx, if_neg (by omega)]
    refine gX12_cover_25 ⟨⟨by omega, by omega⟩, fun q => absurd q (by omega), fun _ => ⟨Or.inr ⟨⟨by omega, by omega⟩, ⟨by omega, by omega⟩⟩, fun q => ⟨by omega, inner 1000 ?_⟩, fun q => ⟨by omega, inner 0 ?_⟩⟩⟩
    · unfold cvI; rw [if_neg q]
    · unfold cvI; rw [if_pos q]
theorem op_cover {S : Mem} (hW : WF S) {x r : Int} (hx : inr x) (hr : inr r) : OpOK S yX11_cover yX12_cover [Iv x, Iv r] Iv := by
  by_cases c1 : r < 0 ∨ 6 ≤ r ∨ x < 1 ∨ 256 ≤ x ∨ 4 < cwN x 8
  · refine ⟨-1, S, hW, fun M hX => eX11_cover (c_refuseSet hW hX hx hr (fun _ => ⟨by decide, fun q => absurd q (by decide), fun _ => px_rf hX _⟩) (fun q => absurd q (by omega)) (fun q => absurd q (by omega))), fun M hY => eX12_cover (m_needSeveral hW hY hx hr (fun _ => ⟨by decide, fun q => absurd q (by decide), fun _ => py_rf hY _⟩) (fun q => absurd q (by omega)) (fun q => absurd q (by omega)))⟩
  by_cases c2 : thr S x 8
  · have fm := fam_S hW (by omega) (by omega) (by omega) c2
    have r0 : 0 ≤ r := by omega
    have r6 : r < 6 := by omega
    by_cases c3 : st (fN S x) (cwN x 8) ≤ 20000
    · have cb := cv_bd fm (zf_vld fm)
      have k6 := fm.k
      have Tb : 0 ≤ cvT (fL S x) (fN S x) (cwN x 8) ∧ cvT (fL S x) (fN S x) (cwN x 8) ≤ 40 ∧ cvT (fL S x) (fN S x) (cwN x 8) ≤ cvr (fL S x) (fN S x) (cwN x 8) zf := by unfold cvT; split <;> omega
      have xb : ∀ t, 0 ≤ t → t < cvT (fL S x) (fN S x) (cwN x 8) → inr (cvX (fL S x) (fN S x) (cwN x 8) t) := fun t t0 t1 => by
        obtain ⟨v4, e5⟩ := cv_inv fm t.toNat (by omega)
        rw [show ((t.toNat : Nat) : Int) = t by omega] at v4 e5
        obtain ⟨y1, y2, y3, y4⟩ := cvC_sp fm v4 (by omega)
        have y1' : 0 ≤ cvX (fL S x) (fN S x) (cwN x 8) t := y1
        have y2' : cvX (fL S x) (fN S x) (cwN x 8) t < S 0 0 := y2
        exact ⟨by omega, by omega⟩
      refine ⟨cvr (fL S x) (fN S x) (cwN x 8) zf, setLn S (10 + r) (cvT (fL S x) (fN S x) (cwN x 8)) (cvX (fL S x) (fN S x) (cwN x 8)), hW.row r0 r6 (by omega) (by omega) xb, fun M hX => eX11_cover (c_refuseSet hW hX hx hr (fun q => absurd q (by omega)) (fun _ q => absurd c2 q) (fun _ _ M2 o2 sv => ⟨fun _ => ⟨by decide, fun _ => c_shortest fm sv (o2.x hX).2.2.2.2.2.2.2 c3 (fun M3 o3 c3 => ⟨r0, r6, ⟨by omega, by omega⟩, ?_⟩), fun q => absurd rfl q⟩, fun q => absurd q (by omega)⟩)), fun M hY => eX12_cover (m_needSeveral hW hY hx hr (fun q => absurd q (by omega)) (fun _ q => absurd c2 q) (fun _ _ M2 o2 sv => ⟨fun _ => ⟨by decide, fun _ => ?_, fun q => absurd q (by decide)⟩, fun q => absurd q (by omega)⟩))⟩
      · show cl 0 yX3_take [Rv (35 + 2 * r), Rv 6, Iv (cvT (fL S x) (fN S x) (cwN x 8))] M3 _
        refine c_take (isL_row r0 r6) (m := 80) ⟨by decide, by decide, rfl⟩ Tb.1 (by omega) (by omega) (by decide) ?_
        exact ⟨rfl, (o3.x (o2.x hX)).tk r0 r6 c3, (o2.fx.tr o3.fx).tk r0 r6⟩
      · have hY2 := o2.y hY
        have svm := sevM.of hY2 sv (Int.le_refl _)
        refine m_allCodes fm svm ?_
        refine m_cover fm svm hY2.2.2.2.1.1 c3 (fun M3 o3 e3 c3 => m_comesToRow r0 r6 (by omega) (by omega) ?_)
        exact py_ctr hW (o3.y hY2) (o2.fy.tr o3.fy) r0 r6 e3 Tb.1 Tb.2.1 c3 _
    · exact ⟨-6, S, hW, fun M hX => eX11_cover (c_refuseSet hW hX hx hr (fun q => absurd q (by omega)) (fun _ q => absurd c2 q) (fun _ _ M2 o2 sv => ⟨fun q => absurd q c3, fun _ => ⟨by decide, fun q => absurd q (by decide), fun _ => ⟨rfl, o2.x hX, o2.fx⟩⟩⟩)), fun M hY => eX12_cover (m_needSeveral hW hY hx hr (fun q => absurd q (by omega)) (fun _ q => absurd c2 q) (fun _ _ M2 o2 sv => ⟨fun q => absurd q c3, fun _ => ⟨by decide, fun q => absurd q (by decide), fun _ => ⟨rfl, o2.y hY, o2.fy⟩⟩⟩))⟩
  · exact ⟨-3, fS S 1, hW.fnd 1, fun M hX => eX11_cover (c_refuseSet hW hX hx hr (fun q => absurd q (by omega)) (fun _ _ M2 o2 => ⟨by decide, fun q => absurd q (by decide), fun _ => ⟨rfl, (o2.x hX).fnd (by decide) (by decide), o2.fx.fnd⟩⟩) (fun _ q => absurd q c2)), fun M hY => eX12_cover (m_needSeveral hW hY hx hr (fun q => absurd q (by omega)) (fun _ _ M2 o2 => ⟨by decide, fun q => absurd q (by decide), fun _ => ⟨rfl, (o2.y hY).fnd (by decide) (by decide), o2.fy.fnd⟩⟩) (fun _ q => absurd q c2))⟩
