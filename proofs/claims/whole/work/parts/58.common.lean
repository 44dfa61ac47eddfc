/-! 36 common: the reference -/
def sevM (M : Mem) (L : Int → Int → Int) (N : Int → Int) (r : Int) : Prop := M 88 35 = r ∧ ∀ s, 0 ≤ s → s < r → (0 ≤ M 113 s ∧ M 113 s < 8) ∧ lnY M (M 113 s) (N s) (L s)
theorem sevM.of {S M : Mem} (hY : Y S M) {x r : Int} (h : sevY M x r) (hr : r ≤ cwN x 8) : sevM M (fL S x) (fN S x) r := ⟨h.1, fun s s0 s1 => by
  have ci := (cw_inv (x := x) (j := 8) (by decide)).2.2 s s0 (by omega)
  rw [h.2 s s0 s1]
  exact ⟨⟨ci.1, ci.2.1⟩, hY.ln ci.1 ci.2.1⟩⟩
def kpC (M M2 : Mem) : Prop := (∀ a, a ≠ 88 → a ≠ 100 → a ≠ 114 → a ≠ 115 → M2 a = M a) ∧ ∀ q, q ≠ 17 → M2 88 q = M 88 q
theorem kpC.rf {M : Mem} : kpC M M := ⟨fun _ _ _ _ _ => rfl, fun _ _ => rfl⟩
theorem kpC.tr {M M2 M3 : Mem} (h : kpC M M2) (h2 : kpC M2 M3) : kpC M M3 := ⟨fun a q1 q2 q3 q4 => (h2.1 a q1 q2 q3 q4).trans (h.1 a q1 q2 q3 q4), fun q h1 => (h2.2 q h1).trans (h.2 q h1)⟩
theorem kpC.u {M M2 : Mem} (h : kpC M M2) {a k v : Int} (ha : a = 100 ∨ a = 114 ∨ a = 115) : kpC M (up M2 a k v) := ⟨fun b q1 q2 q3 q4 => by rw [up_ne (by omega)]; exact h.1 b q1 q2 q3 q4, fun q h1 => by rw [up_ne (by omega)]; exact h.2 q h1⟩
theorem kpC.m {M M2 : Mem} (h : kpC M M2) {v : Int} : kpC M (up M2 88 17 v) := ⟨fun b q1 q2 q3 q4 => by rw [up_ne q1]; exact h.1 b q1 q2 q3 q4, fun q h1 => by rw [up_at, if_neg h1]; exact h.2 q h1⟩
theorem kpC.f {M M2 : Mem} (h : ∀ a, a ≠ 115 → M2 a = M a) : kpC M M2 := ⟨fun a _ _ _ q => h a q, fun q _ => by rw [h 88 (by decide)]⟩
theorem kpC.y {S M M2 : Mem} (h : kpC M M2) (hY : Y S M) : Y S M2 := hY.same (fun a ka => h.1 a (by unfold kY at ka; omega) (by unfold kY at ka; omega) (by unfold kY at ka; omega) (by unfold kY at ka; omega)) (fun q hq => h.2 q (by omega))
theorem kpC.fy {M M2 : Mem} (h : kpC M M2) : fry M M2 := fun a ha => h.1 a (by omega) (by omega) (by omega) (by omega)
theorem sevM.k {M M2 : Mem} {L : Int → Int → Int} {N : Int → Int} {r : Int} (h : sevM M L N r) (k : kpC M M2) : sevM M2 L N r := by
  obtain ⟨h1, h2⟩ := h
  refine ⟨by rw [k.2 35 (by decide)]; exact h1, fun s s0 s1 => ?_⟩
  rw [k.1 113 (by decide) (by decide) (by decide) (by decide)]
  refine ⟨(h2 s s0 s1).1, ?_⟩
  unfold lnY
  rw [k.1 95 (by decide) (by decide) (by decide) (by decide), k.1 96 (by decide) (by decide) (by decide) (by decide)]
  exact (h2 s s0 s1).2
theorem m_allCodes {M : Mem} {L : Int → Int → Int} {N : Int → Int} {r k : Int} {Q : Vl → Mem → Prop} (h : fam L N r k) (sv : sevM M L N r) (hq : Q (Iv (st N r)) M) : cl 0 yX12_allCodes [Rv 88] M Q := by
  have r1 := h.1
  have r4 := h.2.1
  refine eX12_allCodes ?_
  refine up_ind (P := fun s => wp 0 yX12_allCodes 4 [some (Rv 88), some (Iv (st N s)), some (Iv s)] [] M Q) (a := 0) (n := r) (by omega) ?_ (fun s s0 s1 ih => ?_)
  · exact gX12_allCodes_4 ⟨⟨by omega, by omega⟩, by rw [sv.1]; exact ⟨by omega, by omega⟩, fun _ => hq, fun q => absurd q (by rw [sv.1]; omega)⟩
  · obtain ⟨⟨g1, g2⟩, g3⟩ := sv.2 s s0 s1
    refine gX12_allCodes_4 ⟨⟨by omega, by omega⟩, by rw [sv.1]; exact ⟨by omega, by omega⟩, fun q => absurd q (by rw [sv.1]; omega), fun _ => ⟨s0, by omega, g1, g2, ?_⟩⟩
    rw [st_s s0] at ih
    rw [g3.1]
    exact ih
theorem m_code {M : Mem} {L : Int → Int → Int} {N p : Int → Int} {r k : Int} {Q : Vl → Mem → Prop} (h : fam L N r k) (sv : sevM M L N r) (pl : ∀ s, 0 ≤ s → s < r → M 115 s = p s) (hq : Q (Iv (cd N p r)) M) : cl 0 yX12_code [Rv 88] M Q := by
  have r1 := h.1
  have r4 := h.2.1
  refine eX12_code ?_
  refine up_ind (P := fun s => wp 0 yX12_code 4 [some (Rv 88), some (Iv (cd N p s)), some (Iv s)] [] M Q) (a := 0) (n := r) (by omega) ?_ (fun s s0 s1 ih => ?_)
  · exact gX12_code_4 ⟨⟨by omega, by omega⟩, by rw [sv.1]; exact ⟨by omega, by omega⟩, fun _ => hq, fun q => absurd q (by rw [sv.1]; omega)⟩
  · obtain ⟨⟨g1, g2⟩, g3⟩ := sv.2 s s0 s1
    refine gX12_code_4 ⟨⟨by omega, by omega⟩, by rw [sv.1]; exact ⟨by omega, by omega⟩, fun q => absurd q (by rw [sv.1]; omega), fun _ => ⟨s0, by omega, g1, g2, ?_⟩⟩
    rw [cd_s s0] at ih
    rw [g3.1, pl s s0 s1]
    exact ih
theorem m_layAt {M : Mem} {L : Int → Int → Int} {N p : Int → Int} {r k : Int} {Q : Vl → Mem → Prop} (h : fam L N r k) (sv : sevM M L N r) (v : vld N p r) (hq : ∀ M2, (∀ a, a ≠ 115 → M2 a = M a) → (∀ s, 0 ≤ s → s < r → M2 115 s = p s) → Q (Iv 0) M2) : cl 0 yX12_layAt [Rv 88, Iv (cd N p r)] M Q := by
  have r1 := h.1
  have r4 := h.2.1
  refine eX12_layAt ?_
  rw [sv.1]
  have key := dn_ind (P := fun s => s < r → ∀ M2, (∀ a, a ≠ 115 → M2 a = M a) → (∀ t, s < t → t < r → M2 115 t = p t) → wp 0 yX12_layAt 9 [some (Rv 88), some (Iv (cd N p r)), some (Iv (cd N p (s + 1))), some (Iv s)] [] M2 Q) (a := -1) (n := r - 1) (by omega) (fun _ M2 o2 c2 => ?_) (fun s s0 s1 ih sr M2 o2 c2 => ?_) (by omega) M (fun _ _ => rfl) (fun t t0 t1 => absurd t1 (by omega))
  · rw [show r - 1 + 1 = r by omega] at key
    exact key
  · exact gX12_layAt_9 ⟨by decide, fun _ => hq M2 o2 (fun s s0 s1 => c2 s (by omega) s1), fun q => absurd q (by decide)⟩
  · have sv2 := sv.k (kpC.f o2)
    obtain ⟨⟨g1, g2⟩, g3⟩ := sv2.2 s (by omega) sr
    have nb := h.n s (by omega) sr
    have cb := cd_b h.n v (show 0 ≤ s + 1 by omega) (show s + 1 ≤ r by omega)
    have sb := st_b h.n r4 (show 0 ≤ s + 1 by omega) (show s + 1 ≤ r by omega)
    have cd2 := cd_dec h.n v (show 0 ≤ s by omega) sr
    refine gX12_layAt_9 ⟨⟨by omega, by omega⟩, fun q => absurd q (by omega), fun _ => ⟨by omega, g1, g2, ⟨by omega, by omega⟩, ?_⟩⟩
    rw [g3.1, Int.tdiv_eq_ediv_of_nonneg cb.1, Int.tmod_eq_emod_of_nonneg cb.1, cd2.1, cd2.2]
    refine ⟨⟨by omega, by omega⟩, by omega, ?_⟩
    have := ih (by omega) (up M2 115 s (p s)) (fun a ha => by rw [up_ne ha]; exact o2 a ha) (fun t t0 t1 => by
      rw [up_at]
      by_cases c : t = s
      · rw [if_pos c, c]
      · rw [if_neg c]; exact c2 t (by omega) t1)
    rw [show s - 1 + 1 = s by omega] at this
    exact this
def tgt (L : Int → Int → Int) (N : Int → Int) (r : Int) (p : Int → Int) (x : Int) : Int := if ok L N p r x = true then cd N (nv L N p x) r else -1
theorem m_bNext {M : Mem} {L : Int → Int → Int} {N p : Int → Int} {r k x : Int} {Q : Vl → Mem → Prop} (h : fam L N r k) (sv : sevM M L N r) (v : vld N p r) (hx : inr x) (hq : ∀ M2, (∀ a, a ≠ 115 → M2 a = M a) → Q (Iv (tgt L N r p x)) M2) : cl 0 yX12_behindNext [Rv 88, Iv (cd N p r), Iv x] M Q := by
  have r1 := h.1
  have r4 := h.2.1
  refine eX12_behindNext (m_layAt h sv v (fun M1 o1 c1 => ?_))
  have no : ∀ s M2, (∀ a, a ≠ 115 → M2 a = M a) → 0 ≤ s → s ≤ r → ¬ ok L N p r x = true → wp 0 yX12_behindNext 10 [some (Rv 88), some (Iv (cd N p r)), some (Iv x), some (Iv 0), some (Iv s), none] [] M2 Q := by
    intro s M2 o2 s0 s1 hn
    have e2 := (sv.k (kpC.f o2)).1
    have q9 := hq M2 o2
    unfold tgt at q9
    rw [if_neg hn] at q9
    exact gX12_behindNext_10 ⟨⟨by omega, by omega⟩, by rw [e2]; exact ⟨by omega, by omega⟩, fun _ => ⟨by decide, fun _ => q9, fun q => absurd rfl q⟩, fun _ => ⟨by decide, fun _ => ⟨fun _ => q9, fun q => absurd rfl q⟩, fun q => absurd rfl q⟩⟩
  show wp 0 yX12_behindNext 10 _ _ _ _
  refine up_ind (P := fun s => ∀ M2, (∀ a, a ≠ 115 → M2 a = M a) → (∀ t, 0 ≤ t → t < r → M2 115 t = if t < s then nv L N p x t else p t) → (∀ t, 0 ≤ t → t < s → nv L N p x t ≠ 0) → wp 0 yX12_behindNext 10 [some (Rv 88), some (Iv (cd N p r)), some (Iv x), some (Iv 1), some (Iv s), none] [] M2 Q) (a := 0) (n := r) (by omega) (fun M2 o2 c2 hz => ?_) (fun s s0 s1 ih M2 o2 c2 hz => ?_) M1 o1 (fun t t0 t1 => by rw [if_neg (by omega)]; exact c1 t t0 t1) (fun t t0 t1 => absurd t1 (by omega))
  · have sv2 := sv.k (kpC.f o2)
    have e2 := sv2.1
    have hok : ok L N p r x = true := (ok_iff (by omega)).2 hz
    have q9 := hq M2 o2
    unfold tgt at q9
    rw [if_pos hok] at q9
    exact gX12_behindNext_10 ⟨⟨by omega, by omega⟩, by rw [e2]; exact ⟨by omega, by omega⟩, fun _ => ⟨by decide, fun q => absurd q (by decide), fun _ => m_code h sv2 (fun t t0 t1 => by rw [c2 t t0 t1, if_pos t1]) q9⟩, fun q => absurd q (by omega)⟩
  · have sv2 := sv.k (kpC.f o2)
    have e2 := sv2.1
    obtain ⟨⟨g1, g2⟩, g3⟩ := sv2.2 s s0 s1
    have vs := v s s0 s1
    have nb := h.n s s0 s1
    have es := c2 s s0 s1
    rw [if_neg (by omega)] at es
    have nxb := nx_b (W := L s) (n := N s) (x := x) vs.1
    refine gX12_behindNext_10 ⟨⟨by omega, by omega⟩, by rw [e2]; exact ⟨by omega, by omega⟩, fun q => absurd q (by omega), fun _ => ⟨by decide, fun q => absurd q (by decide), fun _ => ⟨s0, by omega, ?_⟩⟩⟩
    rw [es]
    refine m_nextW g1 g2 g3 (h.2.2 s s0 s1) vs.1 (by omega) hx ⟨⟨by omega, by omega⟩, fun q => no (s + 1) _ (fun a ha => by rw [up_ne ha]; exact o2 a ha) (by omega) (by omega) (fun hok => (ok_iff (by omega)).1 hok s s0 s1 ((bh_z vs.1).2 q)), fun q => ih _ (fun a ha => by rw [up_ne ha]; exact o2 a ha) (fun t t0 t1 => ?_) (fun t t0 t1 => ?_)⟩
    · rw [up_at]
      by_cases c : t = s
      · rw [if_pos c, if_pos (by omega), c]
        unfold nv bh
        rw [if_neg q]
      · rw [if_neg c, c2 t t0 t1]
        by_cases c5 : t < s
        · rw [if_pos c5, if_pos (by omega)]
        · rw [if_neg c5, if_neg (by omega)]
    · by_cases c : t = s
      · rw [c]
        exact fun q2 => q ((bh_z vs.1).1 q2)
      · exact hz t t0 (by omega)
def tbM (M : Mem) (f : (Int → Int) → Int) (N : Int → Int) (r c : Int) : Prop := ∀ p, vld N p r → c < cd N p r → M 114 (cd N p r) = f p
theorem tbM.f {M M2 : Mem} {f : (Int → Int) → Int} {N : Int → Int} {r c : Int} (t : tbM M f N r c) (h : M2 114 = M 114) : tbM M2 f N r c := by
  unfold tbM
  rw [h]
  exact t
theorem tbM.o {M : Mem} {f : (Int → Int) → Int} {N : Int → Int} {r c v : Int} (t : tbM M f N r c) : tbM (up M 114 c v) f N r c := fun p w hc => by rw [up_at, if_neg (by omega)]; exact t p w hc
theorem tbM.u {M : Mem} {f : (Int → Int) → Int} {N p : Int → Int} {r : Int} (hn : nnn N r) (r0 : 0 ≤ r) (w : vld N p r) (t : tbM M f N r (cd N p r)) (hf : ∀ q, (∀ s, 0 ≤ s → s < r → p s = q s) → f p = f q) (hv : M 114 (cd N p r) = f p) : tbM M f N r (cd N p r - 1) := by
  intro q wq hc
  by_cases ce : cd N q r = cd N p r
  · rw [ce, hv]
    exact hf q (cd_inj hn w wq r0 (Int.le_refl r) ce.symm)
  · exact t q wq (by omega)
theorem cmD_k {L : Int → Int → Int} {N p : Int → Int} {r k x : Int} {f : (Int → Int) → Int} (h : fam L N r k) (v : vld N p r) (hx : k ≤ x) : cmD L N r f p x ≤ 0 := by
  have r1 := h.1
  unfold cmD
  rw [if_neg (fun hok => (ok_iff (by omega)).1 hok 0 (Int.le_refl 0) (by omega) (bh_o (h.2.2 0 (Int.le_refl 0) (by omega)) (v 0 (Int.le_refl 0) (by omega)).1 (Or.inr hx)))]
  exact Int.le_refl 0
theorem m_common {M : Mem} {L : Int → Int → Int} {N : Int → Int} {r k xs xr : Int} {Q : Vl → Mem → Prop} (h : fam L N r k) (sv : sevM M L N r) (hk : M 88 11 = k) (h20 : st N r ≤ 20000) (hq : ∀ M2, kpC M M2 → M2 88 17 = cm L N r zf → (∀ t, 0 ≤ t → t < cm L N r zf → M2 100 t = cmX L N r t) → cl 0 yX12_comesToRow [Rv 88, Iv xr] M2 (QV (fun M4 => Q (Iv (cm L N r zf)) M4))) : wp 0 yX12_common 21 [some (Rv 88), some (Iv xs), some (Iv xr), some (Iv 0), some (Iv (st N r - 1)), none, none, none] [] M Q := by
  have r1 := h.1
  have r4 := h.2.1
  have k6 := h.k
  have vz := zf_vld h
  have cb := cm_b h vz
  have sp := st_b h.n r4 (show 0 ≤ r by omega) (Int.le_refl r)
  refine dn_ind (P := fun c => ∀ M2, kpC M M2 → tbM M2 (cm L N r) N r c → wp 0 yX12_common 21 [some (Rv 88), some (Iv xs), some (Iv xr), some (Iv 0), some (Iv c), none, none, none] [] M2 Q) (a := -1) (n := st N r - 1) (by omega) (fun M2 k2 tb => ?_) (fun c c0 c1 ih M2 k2 tb => ?_) M kpC.rf (fun p v hc => absurd hc (by have := cd_b h.n v (show 0 ≤ r by omega) (Int.le_refl r); omega))
  · have z0 := tb zf vz (by rw [cd_zf (by omega)]; decide)
    rw [cd_zf (by omega)] at z0
    refine gX12_common_21 ⟨by decide, fun _ => ?_, fun q => absurd q (by decide)⟩
    rw [z0]
    have key := up_ind (P := fun t => ∀ M4, kpC M M4 → tbM M4 (cm L N r) N r (-1) → M4 88 17 = t → (∀ t', 0 ≤ t' → t' < t → M4 100 t' = cmX L N r t') → wp 0 yX12_common 134 [some (Rv 88), some (Iv xs), some (Iv xr), some (Iv 0), some (Iv (cm L N r zf)), some (Iv (cd N (cmV L N r t) r)), none, none] [] M4 Q) (a := 0) (n := cm L N r zf) cb.1 (fun M4 k4 tb4 e4 c4 => ?_) (fun t t0 t1 ih M4 k4 tb4 e4 c4 => ?_) (up M2 88 17 0) k2.m (tb.f (up_ne (by decide))) (by rw [up_at, if_pos rfl]) (fun t' t0 t1 => absurd t1 (by omega))
    · have e0 : cd N (cmV L N r 0) r = 0 := cd_zf (by omega)
      rw [e0] at key
      exact key
    · exact gX12_common_134 ⟨by rw [e4]; exact ⟨by omega, by omega⟩, ⟨by omega, by omega⟩, fun _ => hq M4 k4 e4 c4, fun q => absurd q (by omega)⟩
    · obtain ⟨v4, e5⟩ := cm_inv h t.toNat (by omega)
      rw [show ((t.toNat : Nat) : Int) = t by omega] at v4 e5
      obtain ⟨y1, y2, y3, y4⟩ := cmC_sp h v4 (by omega)
      have y1' : 0 ≤ cmX L N r t := y1
      have y2' : cmX L N r t < k := y2
      have y3' : ok L N (cmV L N r t) r (cmX L N r t) = true ∧ cm L N r (nv L N (cmV L N r t) (cmX L N r t)) + 1 = cm L N r (cmV L N r t) := y3
      have cdb := cd_b h.n v4 (show 0 ≤ r by omega) (Int.le_refl r)
      refine gX12_common_134 ⟨by rw [e4]; exact ⟨by omega, by omega⟩, ⟨by omega, by omega⟩, fun q => absurd q (by omega), fun _ => m_bNext h (sv.k k4) v4 (by decide) (fun M5 o5 => ?_)⟩
      show wp 0 yX12_common 156 _ _ _ _
      refine up_ind (P := fun x => ∀ M5, (∀ a, a ≠ 115 → M5 a = M4 a) → wp 0 yX12_common 156 [some (Rv 88), some (Iv xs), some (Iv xr), some (Iv 0), some (Iv (cm L N r zf)), some (Iv (cd N (cmV L N r t) r)), some (Iv x), some (Iv (tgt L N r (cmV L N r t) x))] [] M5 Q) (a := 0) (n := cmX L N r t) y1' (fun M5 o5 => ?_) (fun x x0 x1 ih2 M5 o5 => ?_) M5 o5
      · have v5 := (nv_v (by omega) v4 y3'.1).1
        have cdb5 := cd_b h.n v5 (show 0 ≤ r by omega) (Int.le_refl r)
        have et : tgt L N r (cmV L N r t) (cmX L N r t) = cd N (nv L N (cmV L N r t) (cmX L N r t)) r := by unfold tgt; rw [if_pos y3'.1]
        rw [et]
        have tb5 : tbM M5 (cm L N r) N r (-1) := tb4.f (o5 114 (by decide))
        have a1 := tb5 _ v5 (by omega)
        have a2 := tb5 _ v4 (by omega)
        have e17 : M5 88 17 = t := by rw [o5 88 (by decide)]; exact e4
        refine gX12_common_156 ⟨⟨by omega, by omega⟩, fun q => absurd q (by omega), fun _ => ⟨by omega, by omega, by omega, by rw [a1]; exact ⟨by omega, by omega⟩, by rw [a2]; exact ⟨by omega, by omega⟩, fun _ => ⟨by omega, by omega, ?_⟩, fun q => absurd q (by omega)⟩⟩
        rw [e17]
        have := ih (up (up M5 100 t (cmX L N r t)) 88 17 (t + 1)) ((k4.tr (kpC.f o5)).u (by omega)).m (tb5.f (by rw [up_ne (by decide), up_ne (by decide)])) (by rw [up_at, if_pos rfl]) (fun t' t0' t1' => by
          rw [up_ne (by decide), up_at]
          by_cases ce : t' = t
          · rw [if_pos ce, ce]
          · rw [if_neg ce, o5 100 (by decide)]; exact c4 t' t0' (by omega))
        rw [cmV_s t0] at this
        exact this
      · have nt := y4 x x0 x1
        have go : ∀ M6, (∀ a, a ≠ 115 → M6 a = M4 a) → cl 0 yX12_behindNext [Rv 88, Iv (cd N (cmV L N r t) r), Iv (x + 1)] M6 (QI (fun z3 M3 => (wp 0 yX12_common 156 [some (Rv 88), some (Iv xs), some (Iv xr), some (Iv 0), some (Iv (cm L N r zf)), some (Iv (cd N (cmV L N r t) r)), some (Iv (x + 1)), some (Iv z3)] [] M3 Q))) := by
          intro M6 o6
          exact m_bNext h (sv.k (k4.tr (kpC.f o6))) v4 ⟨by omega, by omega⟩ (fun M7 o7 => ih2 M7 (fun a ha => (o7 a ha).trans (o6 a ha)))
        by_cases hok : ok L N (cmV L N r t) r x = true
        · have v5 := (nv_v (by omega) v4 hok).1
          have cdb5 := cd_b h.n v5 (show 0 ≤ r by omega) (Int.le_refl r)
          have et : tgt L N r (cmV L N r t) x = cd N (nv L N (cmV L N r t) x) r := by unfold tgt; rw [if_pos hok]
          have tb5 : tbM M5 (cm L N r) N r (-1) := tb4.f (o5 114 (by decide))
          have a1 := tb5 _ v5 (by omega)
          have a2 := tb5 _ v4 (by omega)
          have b5 := cm_b h v5
          have le := cm_le h v4 x0 (show x < 6 by omega) hok
          have ne : cm L N r (nv L N (cmV L N r t) x) + 1 ≠ cm L N r (cmV L N r t) := fun q => nt ⟨hok, q⟩
          rw [et]
          refine gX12_common_156 ⟨⟨by omega, by omega⟩, fun q => absurd q (by omega), fun _ => ⟨by omega, by omega, by omega, by rw [a1]; exact ⟨by omega, by omega⟩, by rw [a2]; exact ⟨by omega, by omega⟩, fun q => absurd q (by omega), fun _ => go M5 o5⟩⟩
        · have et : tgt L N r (cmV L N r t) x = -1 := by unfold tgt; rw [if_neg hok]
          rw [et]
          exact gX12_common_156 ⟨by decide, fun _ => go M5 o5, fun q => absurd q (by decide)⟩
  · obtain ⟨p, v, e⟩ := cd_ex h.n (show 0 ≤ r by omega) (c := c) (by omega) (by omega)
    subst e
    have cdb := cd_b h.n v (show 0 ≤ r by omega) (Int.le_refl r)
    refine gX12_common_21 ⟨⟨by omega, by omega⟩, fun q => absurd q (by omega), fun _ => ⟨by omega, ?_⟩⟩
    refine up_ind (P := fun x => ∀ M3, kpC M M3 → tbM M3 (cm L N r) N r (cd N p r) → M3 114 (cd N p r) = mm (cmD L N r (cm L N r) p) x → wp 0 yX12_common 37 [some (Rv 88), some (Iv xs), some (Iv xr), some (Iv 0), some (Iv (cd N p r)), some (Iv x), none, none] [] M3 Q) (a := 0) (n := k) (by omega) (fun M3 k3 tb3 e3 => ?_) (fun x x0 x1 ih2 M3 k3 tb3 e3 => ?_) (up M2 114 (cd N p r) 0) (k2.u (by omega)) tb.o (by rw [up_at, if_pos rfl]; rfl)
    · have ek : M3 88 11 = k := by rw [k3.2 11 (by decide)]; exact hk
      refine gX12_common_37 ⟨⟨by omega, by omega⟩, ⟨by omega, by omega⟩, fun _ => ih M3 k3 (tb3.u h.n (by omega) v (fun q hq => cm_cg (by omega) hq) ?_), fun q => absurd q (by omega)⟩
      rw [e3, cm_s h v, mm_tl (show 0 ≤ k by omega) k6.2 (fun x x0 x1 => cmD_k h v x0)]
    · have ek : M3 88 11 = k := by rw [k3.2 11 (by decide)]; exact hk
      have m40 : 0 ≤ mm (cmD L N r (cm L N r) p) x ∧ mm (cmD L N r (cm L N r) p) x ≤ 41 := by
        have sp2 := mm_sp (g := cmD L N r (cm L N r) p) (n := x) x0
        refine ⟨sp2.1, ?_⟩
        rcases sp2.2.1 with q | ⟨y, yy0, yy1, hy⟩
        · omega
        · by_cases hok : ok L N p r y = true
          · have dy : cmD L N r (cm L N r) p y = cm L N r (nv L N p y) + 1 := by unfold cmD; rw [if_pos hok]
            have := cm_b h (nv_v (by omega) v hok).1
            omega
          · have dy : cmD L N r (cm L N r) p y = 0 := by unfold cmD; rw [if_neg hok]
            omega
      refine gX12_common_37 ⟨⟨by omega, by omega⟩, ⟨by omega, by omega⟩, fun q => absurd q (by omega), fun _ => m_bNext h (sv.k k3) v ⟨by omega, by omega⟩ (fun M4 o4 => ?_)⟩
      have e4 : M4 114 (cd N p r) = mm (cmD L N r (cm L N r) p) x := by rw [o4 114 (by decide)]; exact e3
      have tb4 : tbM M4 (cm L N r) N r (cd N p r) := tb3.f (o4 114 (by decide))
      have k4 : kpC M M4 := k3.tr (kpC.f o4)
      have put : ∀ z, z = mm (cmD L N r (cm L N r) p) (x + 1) → wp 0 yX12_common 37 [some (Rv 88), some (Iv xs), some (Iv xr), some (Iv 0), some (Iv (cd N p r)), some (Iv (x + 1)), none, none] [] (up M4 114 (cd N p r) z) Q := fun z hz => ih2 _ (k4.u (by omega)) tb4.o (by rw [up_at, if_pos rfl]; exact hz)
      by_cases hok : ok L N p r x = true
      · obtain ⟨v5, lt5⟩ := nv_v (by omega) v hok
        have cdb5 := cd_b h.n v5 (show 0 ≤ r by omega) (Int.le_refl r)
        have lt := cd_lt h.n v v5 (by omega) (fun s s0 s1 => Int.le_of_lt (lt5 s s0 s1)) (Int.le_refl 0) (show 0 < r by omega) (by have := lt5 0 (Int.le_refl 0) (by omega); omega)
        have et : tgt L N r p x = cd N (nv L N p x) r := by unfold tgt; rw [if_pos hok]
        have dx : cmD L N r (cm L N r) p x = cm L N r (nv L N p x) + 1 := by unfold cmD; rw [if_pos hok]
        have a1 := tb4 _ v5 lt
        have b5 := cm_b h v5
        show inr (tgt L N r p x) ∧ _
        rw [et, a1, e4]
        refine ⟨⟨by omega, by omega⟩, fun q => absurd q (by omega), fun _ => ⟨by omega, by omega, by omega, ⟨by omega, by omega⟩, ⟨by omega, by omega⟩, fun q => put _ ?_, fun q => put _ ?_⟩⟩
        · rw [mm_s x0, dx, if_neg (by omega)]
        · rw [mm_s x0, dx, if_pos q]
      · have et : tgt L N r p x = -1 := by unfold tgt; rw [if_neg hok]
        have dx : cmD L N r (cm L N r) p x = 0 := by unfold cmD; rw [if_neg hok]
        show inr (tgt L N r p x) ∧ _
        rw [et, e4]
        refine ⟨by decide, fun _ => ⟨by omega, by omega, put _ ?_⟩, fun q => absurd q (by decide)⟩
        rw [mm_s x0, dx, if_neg (by omega)]
theorem op_common {S : Mem} (hW : WF S) {x r : Int} (hx : inr x) (hr : inr r) : OpOK S yX11_common yX12_common [Iv x, Iv r] Iv := by
  by_cases c1 : r < 0 ∨ 6 ≤ r ∨ x < 1 ∨ 256 ≤ x ∨ 4 < cwN x 8
  · refine ⟨-1, S, hW, fun M hX => eX11_common (c_refuseSet hW hX hx hr (fun _ => ⟨by decide, fun q => absurd q (by decide), fun _ => px_rf hX _⟩) (fun q => absurd q (by omega)) (fun q => absurd q (by omega))), fun M hY => eX12_common (m_needSeveral hW hY hx hr (fun _ => ⟨by decide, fun q => absurd q (by decide), fun _ => py_rf hY _⟩) (fun q => absurd q (by omega)) (fun q => absurd q (by omega)))⟩
  by_cases c2 : thr S x 8
  · have fm := fam_S hW (by omega) (by omega) (by omega) c2
    have r0 : 0 ≤ r := by omega
    have r6 : r < 6 := by omega
    by_cases c3 : st (fN S x) (cwN x 8) ≤ 20000
    · have cb := cm_b fm (zf_vld fm)
      have k6 := fm.k
      have xb : ∀ t, 0 ≤ t → t < cm (fL S x) (fN S x) (cwN x 8) zf → inr (cmX (fL S x) (fN S x) (cwN x 8) t) := fun t t0 t1 => by
        obtain ⟨v4, e5⟩ := cm_inv fm t.toNat (by omega)
        rw [show ((t.toNat : Nat) : Int) = t by omega] at v4 e5
        obtain ⟨y1, y2, y3, y4⟩ := cmC_sp fm v4 (by omega)
        have y1' : 0 ≤ cmX (fL S x) (fN S x) (cwN x 8) t := y1
        have y2' : cmX (fL S x) (fN S x) (cwN x 8) t < S 0 0 := y2
        exact ⟨by omega, by omega⟩
      refine ⟨cm (fL S x) (fN S x) (cwN x 8) zf, setLn S (10 + r) (cm (fL S x) (fN S x) (cwN x 8) zf) (cmX (fL S x) (fN S x) (cwN x 8)), hW.row r0 r6 (by omega) (by omega) xb, fun M hX => eX11_common (c_refuseSet hW hX hx hr (fun q => absurd q (by omega)) (fun _ q => absurd c2 q) (fun _ _ M2 o2 sv => ⟨fun _ => ⟨by decide, fun _ => c_longest fm sv (o2.x hX).2.2.2.2.2.2.2 c3 (fun M3 o3 c3 => ⟨r0, r6, c_take (isL_row r0 r6) (m := 80) ⟨by decide, by decide, rfl⟩ cb.1 (by omega) (by omega) (by decide) ?_⟩), fun q => absurd rfl q⟩, fun q => absurd q (by omega)⟩)), fun M hY => eX12_common (m_needSeveral hW hY hx hr (fun q => absurd q (by omega)) (fun _ q => absurd c2 q) (fun _ _ M2 o2 sv => ⟨fun _ => ⟨by decide, fun _ => ?_, fun q => absurd q (by decide)⟩, fun q => absurd q (by omega)⟩))⟩
      · exact ⟨rfl, (o3.x (o2.x hX)).tk r0 r6 c3, (o2.fx.tr o3.fx).tk r0 r6⟩
      · have hY2 := o2.y hY
        have svm := sevM.of hY2 sv (Int.le_refl _)
        refine m_allCodes fm svm ?_
        refine m_common fm svm hY2.2.2.2.1.1 c3 (fun M3 o3 e3 c3 => m_comesToRow r0 r6 (by omega) (by omega) ?_)
        exact py_ctr hW (o3.y hY2) (o2.fy.tr o3.fy) r0 r6 e3 cb.1 cb.2 c3 _
    · exact ⟨-6, S, hW, fun M hX => eX11_common (c_refuseSet hW hX hx hr (fun q => absurd q (by omega)) (fun _ q => absurd c2 q) (fun _ _ M2 o2 sv => ⟨fun q => absurd q c3, fun _ => ⟨by decide, fun q => absurd q (by decide), fun _ => ⟨rfl, o2.x hX, o2.fx⟩⟩⟩)), fun M hY => eX12_common (m_needSeveral hW hY hx hr (fun q => absurd q (by omega)) (fun _ q => absurd c2 q) (fun _ _ M2 o2 sv => ⟨fun q => absurd q c3, fun _ => ⟨by decide, fun q => absurd q (by decide), fun _ => ⟨rfl, o2.y hY, o2.fy⟩⟩⟩))⟩
  · exact ⟨-3, fS S 1, hW.fnd 1, fun M hX => eX11_common (c_refuseSet hW hX hx hr (fun q => absurd q (by omega)) (fun _ _ M2 o2 => ⟨by decide, fun q => absurd q (by decide), fun _ => ⟨rfl, (o2.x hX).fnd (by decide) (by decide), o2.fx.fnd⟩⟩) (fun _ q => absurd q c2)), fun M hY => eX12_common (m_needSeveral hW hY hx hr (fun q => absurd q (by omega)) (fun _ _ M2 o2 => ⟨by decide, fun q => absurd q (by decide), fun _ => ⟨rfl, (o2.y hY).fnd (by decide) (by decide), o2.fy.fnd⟩⟩) (fun _ q => absurd q c2))⟩
