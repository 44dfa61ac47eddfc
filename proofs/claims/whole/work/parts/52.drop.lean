/-! 17 drop: which letters are kept -/
def dkV (G : Int → Int) (c : Int) (W : Int → Int) (j t : Int) : Int := if t < c then G t else W (t - c + j)
theorem dkV_wl {G W : Int → Int} {c n j : Int} (c0 : 0 ≤ c) (j1 : j ≤ n) : wl (dkV G c W j) 0 (c + n - j) = wl G 0 c ++ wl W j n := by
  rw [wl_app (f := dkV G c W j) c0 (show c ≤ c + n - j by omega), wl_cg (f := dkV G c W j) (g := G) c0 (fun t t0 t1 => if_pos t1), wl_sh (f := dkV G c W j) (g := W) (s := j - c) (show c ≤ c + n - j by omega) (fun t t0 t1 => by
    unfold dkV
    rw [if_neg (by omega)]
    congr 1
    omega), show c + (j - c) = j by omega, show c + n - j + (j - c) = n by omega]
def dkT (W : Int → Int) (n : Int) (G : Int → Int) (c j : Int) : Int := pt W (dkV G c W (j + 1)) n (c + n - (j + 1)) 0 0
def dkS (W : Int → Int) (n d : Int) : Nat → (Int → Int) × Int
  | 0 => (zf, 0)
  | j + 1 => if dkT W n (dkS W n d j).1 (dkS W n d j).2 j ≠ 0 ∧ dkT W n (dkS W n d j).1 (dkS W n d j).2 j ≤ d then (gup (dkS W n d j).1 (dkS W n d j).2 (W j), (dkS W n d j).2 + 1) else dkS W n d j
theorem dkS_s {W : Int → Int} {n d : Int} {j : Nat} : dkS W n d (j + 1) = if dkT W n (dkS W n d j).1 (dkS W n d j).2 j ≠ 0 ∧ dkT W n (dkS W n d j).1 (dkS W n d j).2 j ≤ d then (gup (dkS W n d j).1 (dkS W n d j).2 (W j), (dkS W n d j).2 + 1) else dkS W n d j := rfl
def dkG (W : Int → Int) (n d j : Int) : Int → Int := (dkS W n d j.toNat).1
def dkC (W : Int → Int) (n d j : Int) : Int := (dkS W n d j.toNat).2
theorem dk_y {W : Int → Int} {n d j : Int} (h0 : 0 ≤ j) (h : dkT W n (dkG W n d j) (dkC W n d j) j ≠ 0 ∧ dkT W n (dkG W n d j) (dkC W n d j) j ≤ d) : dkG W n d (j + 1) = gup (dkG W n d j) (dkC W n d j) (W j) ∧ dkC W n d (j + 1) = dkC W n d j + 1 := by
  have e := dkS_s (W := W) (n := n) (d := d) (j := j.toNat)
  rw [show ((j.toNat : Nat) : Int) = j by omega] at e
  unfold dkG dkC at h ⊢
  rw [show (j + 1).toNat = j.toNat + 1 by omega, e, if_pos h]
  exact ⟨rfl, rfl⟩
theorem dk_n {W : Int → Int} {n d j : Int} (h0 : 0 ≤ j) (h : ¬ (dkT W n (dkG W n d j) (dkC W n d j) j ≠ 0 ∧ dkT W n (dkG W n d j) (dkC W n d j) j ≤ d)) : dkG W n d (j + 1) = dkG W n d j ∧ dkC W n d (j + 1) = dkC W n d j := by
  have e := dkS_s (W := W) (n := n) (d := d) (j := j.toNat)
  rw [show ((j.toNat : Nat) : Int) = j by omega] at e
  unfold dkG dkC at h ⊢
  rw [show (j + 1).toNat = j.toNat + 1 by omega, e, if_neg h]
  exact ⟨rfl, rfl⟩
theorem dkV_b {W G : Int → Int} {n k c j : Int} (b : wdB n W k) (c0 : 0 ≤ c) (cj : c ≤ j) (j0 : 0 ≤ j) (j1 : j ≤ n) (hG : ∀ s, 0 ≤ s → s < c → 0 ≤ G s ∧ G s < k) : wdB (c + n - j) (dkV G c W j) k := by
  obtain ⟨n0, n1, k0, k1, hw⟩ := b
  refine ⟨by omega, by omega, k0, k1, fun t t0 t1 => ?_⟩
  unfold dkV
  by_cases q : t < c
  · rw [if_pos q]; exact hG t t0 q
  · rw [if_neg q]; exact hw _ (by omega) (by omega)
theorem wl_gup {G : Int → Int} {c v : Int} (c0 : 0 ≤ c) : wl (gup G c v) 0 (c + 1) = wl G 0 c ++ [v] := by
  rw [wl_snoc c0, wl_cg (f := gup G c v) (g := G) c0 (fun t t0 t1 => gup_n (by omega)), gup_e rfl]
theorem dk_inv {W : Int → Int} {n k d : Int} (b : wdB n W k) : ∀ t : Nat, (t : Int) ≤ n → (0 ≤ dkC W n d t ∧ dkC W n d t ≤ t) ∧ (∀ s, 0 ≤ s → s < dkC W n d t → 0 ≤ dkG W n d t s ∧ dkG W n d t s < k) ∧ alk d (wl W 0 n) (wl (dkG W n d t) 0 (dkC W n d t) ++ wl W t n) := by
  intro t
  induction t with
  | zero =>
    intro _
    refine ⟨⟨Int.le_refl 0, Int.le_refl 0⟩, fun s s0 s1 => absurd s1 (by show ¬ s < 0; omega), ?_⟩
    show alk d (wl W 0 n) (wl zf 0 0 ++ wl W 0 n)
    rw [wl_e (Int.le_refl 0), List.nil_append]
    exact fun z _ => Iff.rfl
  | succ t ih =>
    intro ht
    obtain ⟨⟨c0, c1⟩, hG, hA⟩ := ih (by omega)
    rw [show ((t + 1 : Nat) : Int) = (t : Int) + 1 by omega]
    have t0 : (0 : Int) ≤ t := by omega
    by_cases q : dkT W n (dkG W n d t) (dkC W n d t) t ≠ 0 ∧ dkT W n (dkG W n d t) (dkC W n d t) t ≤ d
    · obtain ⟨e1, e2⟩ := dk_y t0 q
      rw [e1, e2]
      refine ⟨⟨by omega, by omega⟩, fun s s0 s1 => ?_, ?_⟩
      · by_cases e : s = dkC W n d t
        · rw [gup_e e]; exact b.2.2.2.2 t t0 (by omega)
        · rw [gup_n e]; exact hG s s0 (by omega)
      · rw [wl_gup c0, List.append_assoc]
        rw [wl_s (f := W) (i := (t : Int)) (show (t : Int) < n by omega)] at hA
        exact hA
    · obtain ⟨e1, e2⟩ := dk_n t0 q
      rw [e1, e2]
      refine ⟨⟨c0, by omega⟩, hG, ?_⟩
      have bV := dkV_b b c0 (show dkC W n d t ≤ (t : Int) + 1 by omega) (by omega) (show (t : Int) + 1 ≤ n by omega) hG
      have pa := pt_alk (d := d) b bV
      rw [dkV_wl c0 (by omega)] at pa
      exact Classical.byContradiction (fun q2 => q (pa.2 q2))
theorem dk_dec {W : Int → Int} {n k d j p q : Int} (b : wdB n W k) (j0 : 0 ≤ j) (j1 : j < n) (hA : pA (wl (dkG W n d j) 0 (dkC W n d j)) (W j) p) (hB : pB (W j) (wl W (j + 1) n) q) : (dkT W n (dkG W n d j) (dkC W n d j) j ≠ 0 ∧ dkT W n (dkG W n d j) (dkC W n d j) j ≤ d) ↔ p + q < d := by
  obtain ⟨⟨c0, c1⟩, hG, hK⟩ := dk_inv (d := d) b j.toNat (by omega)
  rw [show ((j.toNat : Nat) : Int) = j by omega] at c0 c1 hG hK
  have bV := dkV_b b c0 (show dkC W n d j ≤ j + 1 by omega) (by omega) (show j + 1 ≤ n by omega) hG
  have pa := pt_alk (d := d) b bV
  rw [dkV_wl c0 (by omega)] at pa
  rw [wl_s (f := W) (i := j) j1] at hK
  have sm := simon (d := d) hA hB
  refine pa.trans ⟨fun h => ?_, fun h h2 => ?_⟩
  · by_cases c : p + q < d
    · exact c
    · exact absurd (hK.tr (sm.2 (by omega))) h
  · have := sm.1 (hK.sy.tr h2)
    omega
/-! the class -/
theorem c_lookBehind {M : Mem} {a n k i : Int} {W : Int → Int} {Q : Vl → Mem → Prop} (hl : isL a 40) (l : lnX M a n W) (b : wdB n W k) (i0 : 0 ≤ i) (i1 : i < n) (hE : ∀ j, i < j → j < n → pB (W j) (wl W (j + 1) n) (M 22 j)) (hq : ∀ r, pB (W i) (wl W (i + 1) n) r → Q (Iv r) M) : cl 0 yX1_lookBehind [Rv 20, Rv a, Iv i] M Q := by
  obtain ⟨n0, n1, k0, k1, hw⟩ := b
  obtain ⟨l1, l2⟩ := l
  have wi := hw i i0 i1
  refine eX1_lookBehind hl ?_
  refine up_ind (P := fun j => ∀ least, lA (wl W (i + 1) n) (wl W j n) least → 0 ≤ least → least ≤ 40 → (∀ t, i + 1 ≤ t → t < j → W t ≠ W i) → wp 0 yX1_lookBehind 8 [some (Rv 20), some (Rv a), some (Iv i), some (Iv least), some (Iv j)] [] M Q) (a := i + 1) (n := n) (by omega) (fun least hL L0 L1 hn => ?_) (fun j j0 j1 ih least hL L0 L1 hn => ?_) 40 lA_0 (by decide) (by decide) (fun t t0 t1 => absurd t1 (by omega))
  · exact gX1_lookBehind_8 hl ⟨⟨by omega, by omega⟩, by rw [l1]; exact ⟨by omega, by omega⟩, fun _ => hq 0 (pB_0 (wl_mem (by omega) hn)), fun q => absurd q (by omega)⟩
  · have hB := hE j (by omega) j1
    have eb := pB_le hB
    rw [wl_len (by omega)] at eb
    have wj := hw j (by omega) j1
    have st : lA (wl W (i + 1) n) (wl W (j + 1) n) (if M 22 j + 1 < least then M 22 j + 1 else least) := by
      rw [wl_s (f := W) j1] at hL
      refine lB_s hL hB ?_
      rw [wl_app (f := W) j0 (show j ≤ n by omega), wl_s (f := W) j1]
      exact List.sublist_append_right _ _
    have lb : 0 ≤ (if M 22 j + 1 < least then M 22 j + 1 else least) ∧ (if M 22 j + 1 < least then M 22 j + 1 else least) ≤ 39 := by split <;> omega
    refine gX1_lookBehind_8 hl ⟨⟨by omega, by omega⟩, by rw [l1]; exact ⟨by omega, by omega⟩, fun q => absurd q (by omega), fun _ => ⟨by omega, by omega, ⟨by omega, by omega⟩, ⟨by omega, by omega⟩, by omega, i0, by omega, ⟨by omega, by omega⟩, ?_⟩⟩
    rw [l2 j (by omega) j1, l2 i i0 i1]
    refine ⟨Or.inr ⟨⟨by omega, by omega⟩, ⟨by omega, by omega⟩⟩, fun q => ih _ st lb.1 (by omega) (fun t t0 t1 => ?_), fun q => hq _ ?_⟩
    · by_cases e : t = j
      · rw [e]; exact q
      · exact hn t t0 (by omega)
    · have e : wl W (i + 1) n = wl W (i + 1) j ++ W i :: wl W (j + 1) n := by rw [wl_app (f := W) j0 (show j ≤ n by omega), wl_s (f := W) j1, q]
      rw [e] at st ⊢
      exact lB_e st (wl_mem j0 hn) (by omega) lb.1
theorem c_lookAhead {M : Mem} {c x : Int} {G : Int → Int} {Q : Vl → Mem → Prop} (c0 : 0 ≤ c) (c1 : c ≤ 39) (hx : inr x) (hG : ∀ t, 0 ≤ t → t < c → M 6 t = G t ∧ inr (G t)) (hD : ∀ t, 0 ≤ t → t < c → pA (wl G 0 t) (G t) (M 21 t)) (hq : ∀ r, pA (wl G 0 c) x r → Q (Iv r) M) : cl 0 yX1_lookAhead [Rv 20, Rv 6, Iv c, Iv x] M Q := by
  have h6 : isA 6 80 := ⟨by decide, by decide, rfl⟩
  refine eX1_lookAhead h6 ?_
  refine dn_ind (P := fun j => ∀ least, lA (wl G 0 c) (wl G 0 (j + 1)) least → 0 ≤ least → least ≤ 40 → (∀ t, j + 1 ≤ t → t < c → G t ≠ x) → wp 0 yX1_lookAhead 9 [some (Rv 20), some (Rv 6), some (Iv c), some (Iv x), some (Iv least), some (Iv j)] [] M Q) (a := -1) (n := c - 1) (by omega) (fun least hL L0 L1 hn => ?_) (fun j j0 j1 ih least hL L0 L1 hn => ?_) 40 (by rw [show c - 1 + 1 = c by omega]; exact lA_0) (by decide) (by decide) (fun t t0 t1 => absurd t1 (by omega))
  · exact gX1_lookAhead_9 h6 ⟨by decide, fun _ => hq 0 (pA_0 (wl_mem c0 hn)), fun q => absurd q (by decide)⟩
  · have hA := hD j (by omega) (by omega)
    have eb := pA_le hA
    rw [wl_len (by omega)] at eb
    obtain ⟨g1, g2⟩ := hG j (by omega) (by omega)
    have st : lA (wl G 0 c) (wl G 0 j) (if M 21 j + 1 < least then M 21 j + 1 else least) := by
      rw [wl_snoc (by omega)] at hL
      refine lA_s hL hA ?_
      rw [wl_app (f := G) (show 0 ≤ j + 1 by omega) (show j + 1 ≤ c by omega), wl_snoc (by omega)]
      exact List.sublist_append_left _ _
    have lb : 0 ≤ (if M 21 j + 1 < least then M 21 j + 1 else least) ∧ (if M 21 j + 1 < least then M 21 j + 1 else least) ≤ 39 := by split <;> omega
    refine gX1_lookAhead_9 h6 ⟨⟨by omega, by omega⟩, fun q => absurd q (by omega), fun _ => ⟨by omega, ⟨by omega, by omega⟩, ⟨by omega, by omega⟩, by omega, ?_⟩⟩
    rw [g1]
    refine ⟨Or.inr ⟨g2, hx⟩, fun q => ih _ (by rw [show j - 1 + 1 = j by omega]; exact st) lb.1 (by omega) (fun t t0 t1 => ?_), fun q => hq _ ?_⟩
    · by_cases e : t = j
      · rw [e]; exact q
      · exact hn t (by omega) t1
    · have e : wl G 0 c = wl G 0 j ++ x :: wl G (j + 1) c := by rw [wl_app (f := G) (show 0 ≤ j by omega) (show j ≤ c by omega), wl_s (f := G) (show j < c by omega), q]
      rw [e] at st ⊢
      exact lA_e st (wl_mem (by omega) hn) (by omega) lb.1
def kpD (M M2 : Mem) : Prop := ∀ a, a ≠ 6 → a ≠ 21 → a ≠ 22 → M2 a = M a
theorem kpD.ln {M M2 : Mem} (h : kpD M M2) {a n : Int} {W : Int → Int} (ha : 35 ≤ a) (l : lnX M a n W) : lnX M2 a n W := by
  unfold lnX
  rw [h a (by omega) (by omega) (by omega), h (a + 1) (by omega) (by omega) (by omega)]
  exact l
theorem c_keep {M : Mem} {a n k d : Int} {W : Int → Int} {Q : Vl → Mem → Prop} (hl : isL a 40) (l : lnX M a n W) (b : wdB n W k) (d0 : 0 ≤ d) (d1 : d ≤ 40) (hq : ∀ M2, kpD M M2 → (∀ t, 0 ≤ t → t < dkC W n d n → M2 6 t = dkG W n d n t) → Q (Iv (dkC W n d n)) M2) : cl 0 yX1_keep [Rv 20, Rv a, Iv d, Rv 6] M Q := by
  have ha := hl.1
  have hb := b
  obtain ⟨n0, n1, k0, k1, hw⟩ := b
  have h6 : isA 6 80 := ⟨by decide, by decide, rfl⟩
  refine eX1_keep hl h6 ?_
  rw [l.1]
  have main : ∀ M2, kpD M M2 → (∀ j, 0 ≤ j → j < n → pB (W j) (wl W (j + 1) n) (M2 22 j)) → wp 0 yX1_keep 39 [some (Rv 20), some (Rv a), some (Iv d), some (Rv 6), some (Iv 0), some (Iv 0), none] [] M2 Q := by
    intro M2 o2 hE
    refine up_ind (P := fun j => ∀ M3, kpD M M3 → M3 22 = M2 22 → (∀ t, 0 ≤ t → t < dkC W n d j → M3 6 t = dkG W n d j t) → (∀ t, 0 ≤ t → t < dkC W n d j → pA (wl (dkG W n d j) 0 t) (dkG W n d j t) (M3 21 t)) → wp 0 yX1_keep 39 [some (Rv 20), some (Rv a), some (Iv d), some (Rv 6), some (Iv (dkC W n d j)), some (Iv j), none] [] M3 Q) (a := 0) (n := n) n0 (fun M3 o3 e3 g3 p3 => ?_) (fun j j0 j1 ih M3 o3 e3 g3 p3 => ?_) M2 o2 rfl (fun t t0 t1 => absurd t1 (by show ¬ t < 0; omega)) (fun t t0 t1 => absurd t1 (by show ¬ t < 0; omega))
    · have e1 := (o3.ln ha l).1
      exact gX1_keep_39 hl h6 ⟨⟨by omega, by omega⟩, by rw [e1]; exact ⟨by omega, by omega⟩, fun _ => hq M3 o3 g3, fun q => absurd q (by omega)⟩
    · have lm := o3.ln ha l
      have e1 := lm.1
      have e2 := lm.2 j j0 j1
      have wj := hw j j0 j1
      obtain ⟨⟨c0, c1⟩, hG, -⟩ := dk_inv (d := d) hb j.toNat (by omega)
      rw [show ((j.toNat : Nat) : Int) = j by omega] at c0 c1 hG
      have hB := hE j j0 j1
      have eb := pB_le hB
      rw [wl_len (by omega)] at eb
      refine gX1_keep_39 hl h6 ⟨⟨by omega, by omega⟩, by rw [e1]; exact ⟨by omega, by omega⟩, fun q => absurd q (by omega), fun _ => ⟨j0, by omega, ?_⟩⟩
      rw [e2]
      refine c_lookAhead c0 (by omega) ⟨by omega, by omega⟩ (fun t t0 t1 => ⟨g3 t t0 t1, by have := hG t t0 t1; exact ⟨by omega, by omega⟩⟩) p3 (fun r hA => ?_)
      have ea := pA_le hA
      rw [wl_len c0] at ea
      show j < 40 ∧ _
      rw [e3]
      have dec := dk_dec hb j0 j1 hA hB
      refine ⟨by omega, ⟨by omega, by omega⟩, ⟨by omega, by omega⟩, fun q => ?_, fun q => ⟨c0, by omega, ⟨by omega, by omega⟩, by omega, ?_⟩⟩
      · obtain ⟨s1, s2⟩ := dk_n j0 (fun h => by have := dec.1 h; omega)
        have := ih M3 o3 e3 (by rw [s1, s2]; exact g3) (by rw [s1, s2]; exact p3)
        rw [s2] at this
        exact this
      · obtain ⟨s1, s2⟩ := dk_y j0 (dec.2 q)
        rw [e2]
        have := ih (up (up M3 6 (dkC W n d j) (W j)) 21 (dkC W n d j) r) (fun b h1 h2 h3 => by rw [up_ne h2, up_ne h1]; exact o3 b h1 h2 h3) (by rw [up_ne (by decide), up_ne (by decide)]; exact e3) (fun t t0 t1 => ?_) (fun t t0 t1 => ?_)
        · rw [s2] at this
          exact this
        · rw [s2] at t1
          rw [s1, up_ne (by decide), up_at]
          by_cases e : t = dkC W n d j
          · rw [if_pos e, gup_e e]
          · rw [if_neg e, gup_n e]; exact g3 t t0 (by omega)
        · rw [s2] at t1
          rw [s1, up_at, wl_cg (f := gup (dkG W n d j) (dkC W n d j) (W j)) (g := dkG W n d j) t0 (fun s s0 s1 => gup_n (by omega))]
          by_cases e : t = dkC W n d j
          · rw [if_pos e, gup_e e, e]; exact hA
          · rw [if_neg e, gup_n e, up_ne (by decide)]; exact p3 t t0 (by omega)
  refine dn_ind (P := fun i => ∀ M2, kpD M M2 → (∀ j, i < j → j < n → pB (W j) (wl W (j + 1) n) (M2 22 j)) → wp 0 yX1_keep 8 [some (Rv 20), some (Rv a), some (Iv d), some (Rv 6), some (Iv i), none, none] [] M2 Q) (a := -1) (n := n - 1) (by omega) (fun M2 o2 hE => ?_) (fun i i0 i1 ih M2 o2 hE => ?_) M (fun _ _ _ _ => rfl) (fun j q1 q2 => absurd q2 (by omega))
  · exact gX1_keep_8 hl h6 ⟨by decide, fun _ => main M2 o2 (fun j j0 j1 => hE j (by omega) j1), fun q => absurd q (by decide)⟩
  · refine gX1_keep_8 hl h6 ⟨⟨by omega, by omega⟩, fun q => absurd q (by omega), fun _ => c_lookBehind hl (o2.ln ha l) hb (by omega) (by omega) hE (fun r hr => ⟨by omega, ih _ (fun b h1 h2 h3 => by rw [up_ne h3]; exact o2 b h1 h2 h3) (fun j q1 q2 => ?_)⟩)⟩
    rw [up_at]
    by_cases e : j = i
    · rw [if_pos e, e]; exact hr
    · rw [if_neg e]; exact hE j (by omega) q2
