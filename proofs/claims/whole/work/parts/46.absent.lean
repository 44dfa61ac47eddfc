/-! 32 absent: arches by the next places -/
def bt (s y : Int) : Int := s / 2 ^ y.toNat % 2
theorem bt_or_t : ∀ s : Fin 64, ∀ x : Fin 6, ∀ y : Fin 6, bt (orI (s.val : Int) (x.val : Int)) (y.val : Int) = if (y.val : Int) = (x.val : Int) then 1 else bt (s.val : Int) (y.val : Int) := by decide +kernel
theorem bt_or {s x y : Int} (s0 : 0 ≤ s) (s1 : s < 64) (x0 : 0 ≤ x) (x1 : x < 6) (y0 : 0 ≤ y) (y1 : y < 6) : bt (orI s x) y = if y = x then 1 else bt s y := by
  obtain ⟨s, rfl⟩ := Int.eq_ofNat_of_zero_le s0
  obtain ⟨x, rfl⟩ := Int.eq_ofNat_of_zero_le x0
  obtain ⟨y, rfl⟩ := Int.eq_ofNat_of_zero_le y0
  exact bt_or_t ⟨s, by omega⟩ ⟨x, by omega⟩ ⟨y, by omega⟩
theorem bt_all_t : ∀ k : Fin 7, ∀ s : Fin 64, s.val < 2 ^ k.val → (∀ y : Fin 6, y.val < k.val → bt (s.val : Int) (y.val : Int) = 1) → (s.val : Int) = 1 * 2 ^ k.val - 1 := by decide +kernel
theorem bt_all {s k : Int} (k0 : 0 ≤ k) (k1 : k ≤ 6) (s0 : 0 ≤ s) (s1 : s < 2 ^ k.toNat) (h : ∀ y, 0 ≤ y → y < k → bt s y = 1) : s = 1 * 2 ^ k.toNat - 1 := by
  have h64 := p2_64 k1
  obtain ⟨s, rfl⟩ := Int.eq_ofNat_of_zero_le s0
  obtain ⟨k, rfl⟩ := Int.eq_ofNat_of_zero_le k0
  have e : ((2 : Int) ^ k) = ((2 ^ k : Nat) : Int) := by rw [Int.natCast_pow]; rfl
  rw [Int.toNat_natCast] at s1
  have s3 : (s : Int) < 64 := Int.lt_of_lt_of_le s1 h64
  have s2 : s < 2 ^ k := by rw [e] at s1; exact Int.ofNat_lt.1 s1
  exact bt_all_t ⟨k, by omega⟩ ⟨s, by omega⟩ s2 (fun y hy => h (y.val : Int) (by omega) (by have : y.val < k := hy; omega))
theorem bt_max_t : ∀ k : Fin 7, ∀ y : Fin 6, y.val < k.val → bt (1 * 2 ^ k.val - 1) (y.val : Int) = 1 := by decide +kernel
theorem bt_max {k y : Int} (k0 : 0 ≤ k) (k1 : k ≤ 6) (y0 : 0 ≤ y) (y1 : y < k) : bt (1 * 2 ^ k.toNat - 1) y = 1 := by
  obtain ⟨k, rfl⟩ := Int.eq_ofNat_of_zero_le k0
  obtain ⟨y, rfl⟩ := Int.eq_ofNat_of_zero_le y0
  exact bt_max_t ⟨k, by omega⟩ ⟨y, by omega⟩ (by show y < k; omega)
theorem bh_sp {W : Int → Int} {n i c : Int} (i0 : 0 ≤ i) : (bh W n i c = 0 ∧ ∀ j, i ≤ j → j < n → W j ≠ c) ∨ (i < bh W n i c ∧ bh W n i c ≤ n ∧ W (bh W n i c - 1) = c ∧ ∀ j, i ≤ j → j < bh W n i c - 1 → W j ≠ c) := by
  unfold bh
  rcases nx_sp (W := W) (n := n) (x := c) i0 with h | h
  · rw [if_pos h.1]; exact Or.inl ⟨rfl, h.2⟩
  · rw [if_neg (by omega), show nx W n i c + 1 - 1 = nx W n i c by omega]
    exact Or.inr ⟨by omega, by omega, h.2.2.1, h.2.2.2⟩
theorem bh_le {W : Int → Int} {n i c j : Int} (i0 : 0 ≤ i) (h0 : i ≤ j) (h1 : j < n) (h : W j = c) : i < bh W n i c ∧ bh W n i c ≤ j + 1 := by
  rcases bh_sp (W := W) (n := n) (c := c) i0 with q | q
  · exact absurd h (q.2 j h0 h1)
  · refine ⟨q.1, ?_⟩
    by_cases c2 : bh W n i c ≤ j + 1
    · exact c2
    · exact absurd h (q.2.2.2 j h0 (by omega))
theorem bh_mono {W : Int → Int} {n i i' c : Int} (i0 : 0 ≤ i) (h : i ≤ i') : bh W n i' c = 0 ∨ (i < bh W n i c ∧ bh W n i c ≤ bh W n i' c) := by
  rcases bh_sp (W := W) (n := n) (c := c) (show 0 ≤ i' by omega) with q | q
  · exact Or.inl q.1
  · have := bh_le (c := c) i0 (show i ≤ bh W n i' c - 1 by omega) (show bh W n i' c - 1 < n by omega) q.2.2.1
    exact Or.inr ⟨this.1, by omega⟩
def opn (W : Int → Int) (n k i j c : Int) : Prop := 0 ≤ c ∧ c < k ∧ (bh W n i c = 0 ∨ j < bh W n i c)
theorem ar_run {W : Int → Int} {n k i c j : Int} (b : wdB n W k) (i0 : 0 ≤ i) (h0 : i ≤ j) (h1 : j ≤ n) (ho : opn W n k i j c) : arC W k i j = 0 ∧ ∀ y, 0 ≤ y → y < k → bt (arT W k i j) y = if bh W n i y ≠ 0 ∧ bh W n i y ≤ j then 1 else 0 := by
  have hb := b
  obtain ⟨n0, n1, k0, k1, hw⟩ := b
  have k64 := p2_64 k1
  refine dn_ind (P := fun j => j ≤ n → opn W n k i j c → (arC W k i j = 0 ∧ ∀ y, 0 ≤ y → y < k → bt (arT W k i j) y = if bh W n i y ≠ 0 ∧ bh W n i y ≤ j then 1 else 0)) (a := i) (n := j) h0 (fun _ _ => ?_) (fun z z0 z1 ih hz hzo => ?_) h1 ho
  · obtain ⟨a1, a2, a3⟩ := ar_0 (W := W) (k := k) (p := i)
    refine ⟨a1, fun y y0 y1 => ?_⟩
    have := bh_b (W := W) (n := n) (c := y) i0
    rw [a3, if_neg (by omega)]
    show (0 : Int) / 2 ^ y.toNat % 2 = 0
    rw [Int.zero_ediv]
    rfl
  · unfold opn at hzo
    obtain ⟨a1, a2⟩ := ih (by omega) ⟨hzo.1, hzo.2.1, by omega⟩
    have ab := ar_b hb i0 (show i ≤ z - 1 by omega) (by omega)
    have gw := hw (z - 1) (by omega) (by omega)
    have ob := orI_b (x := W (z - 1)) ab.2.2.2.2.1 ab.2.2.2.2.2 gw.1 gw.2
    have bits : ∀ y, 0 ≤ y → y < k → bt (orI (arT W k i (z - 1)) (W (z - 1))) y = if bh W n i y ≠ 0 ∧ bh W n i y ≤ z then 1 else 0 := by
      intro y y0 y1
      rw [bt_or (by omega) (by omega) (by omega) (by omega) y0 (by omega), a2 y y0 y1]
      by_cases cy : y = W (z - 1)
      · have := bh_le (c := y) i0 (show i ≤ z - 1 by omega) (show z - 1 < n by omega) cy.symm
        rw [if_pos cy, if_pos (by omega)]
      · rw [if_neg cy]
        have ne : bh W n i y ≠ z := fun q => by
          rcases bh_sp (W := W) (n := n) (c := y) i0 with q2 | q2
          · omega
          · rw [q] at q2; exact cy q2.2.2.1.symm
        by_cases c5 : bh W n i y ≠ 0 ∧ bh W n i y ≤ z - 1
        · rw [if_pos c5, if_pos (by omega)]
        · rw [if_neg c5, if_neg (by omega)]
    have nf : orI (arT W k i (z - 1)) (W (z - 1)) ≠ 1 * 2 ^ k.toNat - 1 := fun q => by
      have h5 := bits c hzo.1 hzo.2.1
      rw [if_neg (by omega), q, bt_max (by omega) k1 hzo.1 hzo.2.1] at h5
      exact absurd h5 (by decide)
    have st := ar_n (show i ≤ z - 1 by omega) nf
    rw [show z - 1 + 1 = z by omega] at st
    exact ⟨by rw [st.1]; exact a1, fun y y0 y1 => by rw [st.2.2]; exact bits y y0 y1⟩
theorem ar_re {W : Int → Int} {k p e j : Int} (h0 : p ≤ e) (ht : arT W k p e = 0) (h1 : e ≤ j) : arC W k p j = arC W k p e + arC W k e j ∧ arT W k p j = arT W k e j := by
  refine dn_ind (P := fun j => arC W k p j = arC W k p e + arC W k e j ∧ arT W k p j = arT W k e j) (a := e) (n := j) h1 ?_ (fun z z0 z1 ih => ?_)
  · obtain ⟨a1, a2, a3⟩ := ar_0 (W := W) (k := k) (p := e)
    exact ⟨by rw [a1, Int.add_zero], by rw [a3, ht]⟩
  · obtain ⟨a1, a2⟩ := ih
    by_cases c : orI (arT W k e (z - 1)) (W (z - 1)) = 1 * 2 ^ k.toNat - 1
    · have s1 := ar_y (show e ≤ z - 1 by omega) c
      have s2 := ar_y (show p ≤ z - 1 by omega) (by rw [a2]; exact c)
      rw [show z - 1 + 1 = z by omega] at s1 s2
      exact ⟨by omega, by rw [s1.2.2, s2.2.2]⟩
    · have s1 := ar_n (show e ≤ z - 1 by omega) c
      have s2 := ar_n (show p ≤ z - 1 by omega) (by rw [a2]; exact c)
      rw [show z - 1 + 1 = z by omega] at s1 s2
      exact ⟨by omega, by rw [s1.2.2, s2.2.2, a2]⟩
theorem ar_first {W : Int → Int} {n k i c : Int} (b : wdB n W k) (i0 : 0 ≤ i) (c0 : 0 ≤ c) (c1 : c < k) (hall : ∀ y, 0 ≤ y → y < k → bh W n i y ≠ 0 ∧ bh W n i y ≤ bh W n i c) : arC W k i n = 1 + arC W k (bh W n i c) n := by
  have hb := b
  obtain ⟨n0, n1, k0, k1, hw⟩ := b
  have k64 := p2_64 k1
  have hc := hall c c0 c1
  rcases bh_sp (W := W) (n := n) (c := c) i0 with q | q
  · exact absurd q.1 hc.1
  have e0 : i ≤ bh W n i c - 1 := by omega
  have e1 : bh W n i c - 1 ≤ n := by omega
  have r := ar_run hb i0 e0 e1 (c := c) ⟨c0, c1, by omega⟩
  have ab := ar_b hb i0 e0 e1
  have gw := hw (bh W n i c - 1) (by omega) (by omega)
  have ob := orI_b (x := W (bh W n i c - 1)) ab.2.2.2.2.1 ab.2.2.2.2.2 gw.1 gw.2
  have full : orI (arT W k i (bh W n i c - 1)) (W (bh W n i c - 1)) = 1 * 2 ^ k.toNat - 1 := by
    refine bt_all (by omega) k1 ob.1 ob.2 (fun y y0 y1 => ?_)
    rw [bt_or (by omega) (by omega) (by omega) (by omega) y0 (by omega), r.2 y y0 y1, q.2.2.1]
    by_cases cy : y = c
    · rw [if_pos cy]
    · have hy := hall y y0 y1
      have ne : bh W n i y ≠ bh W n i c := fun q3 => by
        have := bh_v (W := W) (n := n) i0 hy.1
        rw [q3, q.2.2.1] at this
        exact cy this.symm
      rw [if_neg cy, if_pos (by omega)]
  have st := ar_y e0 full
  rw [show bh W n i c - 1 + 1 = bh W n i c by omega] at st
  have re := (ar_re (W := W) (k := k) (show i ≤ bh W n i c by omega) st.2.2 (show bh W n i c ≤ n by omega)).1
  have st1 := st.1
  have r1 := r.1
  omega
theorem ar_none {W : Int → Int} {n k i c : Int} (b : wdB n W k) (i0 : 0 ≤ i) (i1 : i ≤ n) (c0 : 0 ≤ c) (c1 : c < k) (h : bh W n i c = 0) : arC W k i n = 0 := (ar_run b i0 i1 (Int.le_refl n) (c := c) ⟨c0, c1, Or.inl h⟩).1
theorem mx_ex {f : Int → Int} : ∀ k : Nat, 1 ≤ k → ∃ c : Int, 0 ≤ c ∧ c < k ∧ ∀ y : Int, 0 ≤ y → y < k → f y ≤ f c := by
  intro k
  induction k with
  | zero => intro h; exact absurd h (by decide)
  | succ k ih =>
    intro _
    by_cases hk : k = 0
    · clear ih
      subst hk
      exact ⟨0, by decide, by decide, fun y y0 y1 => by rw [show y = 0 by omega]; exact Int.le_refl _⟩
    · obtain ⟨c, c0, c1, hc⟩ := ih (Nat.one_le_iff_ne_zero.2 hk)
      clear ih
      by_cases h : f c ≤ f k
      · exact ⟨k, by omega, by omega, fun y y0 y1 => by
          by_cases e : y = k
          · rw [e]; exact Int.le_refl _
          · exact Int.le_trans (hc y y0 (by omega)) h⟩
      · exact ⟨c, c0, by omega, fun y y0 y1 => by
          by_cases e : y = k
          · rw [e]; omega
          · exact hc y y0 (by omega)⟩
def arZ (W : Int → Int) (n k i : Int) : Prop := ∃ c, 0 ≤ c ∧ c < k ∧ bh W n i c = 0
def arY (W : Int → Int) (n k i : Int) : Prop := ∃ c, 0 ≤ c ∧ c < k ∧ (∀ y, 0 ≤ y → y < k → bh W n i y ≠ 0 ∧ bh W n i y ≤ bh W n i c) ∧ arC W k i n = 1 + arC W k (bh W n i c) n
theorem ar_cases {W : Int → Int} {n k i : Int} (b : wdB n W k) (i0 : 0 ≤ i) : arZ W n k i ∨ arY W n k i := by
  by_cases h : arZ W n k i
  · exact Or.inl h
  · obtain ⟨c, c0, c1, hc⟩ := mx_ex (f := bh W n i) k.toNat (by have := b.2.2.1; omega)
    have kk := b.2.2.1
    have hall : ∀ y, 0 ≤ y → y < k → bh W n i y ≠ 0 ∧ bh W n i y ≤ bh W n i c := fun y y0 y1 => ⟨fun q => h ⟨y, y0, y1, q⟩, hc y y0 (by omega)⟩
    exact Or.inr ⟨c, c0, by omega, hall, ar_first b i0 c0 (by omega) hall⟩
theorem ar_mono {W : Int → Int} {n k : Int} (b : wdB n W k) : ∀ (m : Nat) (i j : Int), 0 ≤ i → i ≤ j → j ≤ n → (n - i).toNat = m → arC W k j n ≤ arC W k i n := by
  intro m
  induction m using Nat.strongRecOn with
  | _ m ih =>
    intro i j i0 ij jn hm
    have i1 : i ≤ n := Int.le_trans ij jn
    have j0 : 0 ≤ j := Int.le_trans i0 ij
    rcases ar_cases b i0 with ⟨c, c0, c1, hc⟩ | ⟨c, c0, c1, hall, h1⟩
    · have hz : bh W n j c = 0 := by
        rcases bh_mono (W := W) (n := n) (c := c) i0 ij with q | q
        · exact q
        · omega
      rw [ar_none b j0 jn c0 c1 hz]
      exact (ar_b b i0 i1 (Int.le_refl n)).1
    · rcases ar_cases b j0 with ⟨d, d0, d1, hd⟩ | ⟨d, d0, d1, hall2, h2⟩
      · rw [ar_none b j0 jn d0 d1 hd]
        exact (ar_b b i0 i1 (Int.le_refl n)).1
      · have a1 := hall2 c c0 c1
        have a2 := hall2 d d0 d1
        have m1 := bh_mono (W := W) (n := n) (c := c) i0 ij
        have bb := bh_b (W := W) (n := n) (c := d) j0
        have := ih (n - bh W n i c).toNat (by omega) (bh W n i c) (bh W n j d) (by omega) (by omega) (by omega) rfl
        omega
theorem ar_ge {W : Int → Int} {n k i c : Int} (b : wdB n W k) (i0 : 0 ≤ i) (i1 : i ≤ n) (c0 : 0 ≤ c) (c1 : c < k) (h : bh W n i c ≠ 0) : arC W k i n ≤ 1 + arC W k (bh W n i c) n ∧ 0 ≤ arC W k (bh W n i c) n := by
  have bb := bh_b (W := W) (n := n) (c := c) i0
  have nn := (ar_b b (show 0 ≤ bh W n i c by omega) (show bh W n i c ≤ n by omega) (Int.le_refl n)).1
  rcases ar_cases b i0 with ⟨d, d0, d1, hd⟩ | ⟨d, d0, d1, hall, h1⟩
  · rw [ar_none b i0 i1 d0 d1 hd]
    exact ⟨by omega, nn⟩
  · have b2 := bh_b (W := W) (n := n) (c := d) i0
    have a1 := hall c c0 c1
    have a2 := hall d d0 d1
    have := ar_mono b _ (bh W n i c) (bh W n i d) (by omega) a1.2 (by omega) rfl
    exact ⟨by omega, nn⟩
def abT (W : Int → Int) (n k i c : Int) : Prop := bh W n i c = 0 ∨ arC W k (bh W n i c) n < arC W k i n
theorem ab_ex {W : Int → Int} {n k i : Int} (b : wdB n W k) (i0 : 0 ≤ i) : ∃ c, 0 ≤ c ∧ c < k ∧ abT W n k i c := by
  rcases ar_cases b i0 with ⟨d, d0, d1, hd⟩ | ⟨d, d0, d1, hall, h1⟩
  · exact ⟨d, d0, d1, Or.inl hd⟩
  · exact ⟨d, d0, d1, Or.inr (by omega)⟩
theorem sm_c {f : Int → Int} {c : Int} {n : Nat} (h : ∀ i, 0 ≤ i → i < (n : Int) → f i = c) : sm f n = c * n := by
  have := sm_bd (f := f) (lo := c) (hi := c) (n := n) (fun i i0 i1 => by rw [h i i0 i1]; exact ⟨Int.le_refl _, Int.le_refl _⟩)
  exact Int.le_antisymm this.2 this.1
theorem sm_sub {f g : Int → Int} : ∀ n : Nat, sm f n - sm g n = sm (fun x => f x - g x) n := by
  intro n
  induction n with
  | zero => rfl
  | succ n ih =>
    rw [show ((n + 1 : Nat) : Int) = (n : Int) + 1 by omega, sm_s (by omega), sm_s (by omega), sm_s (by omega), ← ih]
    omega
theorem inT_h {W : Int → Int} {n k l i x : Int} (i0 : 0 ≤ i) : inT W n k l i x = if bh W n i x = 0 then 0 else nn W n k l (bh W n i x) := by
  unfold inT
  by_cases q : nx W n i x = -9
  · rw [if_pos q, if_pos ((bh_z i0).2 q)]
  · rw [if_neg q, if_neg (fun q2 => q ((bh_z i0).1 q2))]
    unfold bh
    rw [if_neg q]
theorem ar_full {W : Int → Int} {n k : Int} (b : wdB n W k) : ∀ (l : Nat) (i : Int), 0 ≤ i → i ≤ n → (l : Int) ≤ arC W k i n → nn W n k l i = k ^ l := by
  have k0 := b.2.2.1
  intro l
  induction l with
  | zero => intro i i0 i1 _; rw [Int.pow_zero]; exact nn_0
  | succ l ih =>
    intro i i0 i1 hl
    rw [show ((l + 1 : Nat) : Int) = (l : Int) + 1 by omega, nn_s (by omega)]
    have h : ∀ x, 0 ≤ x → x < ((k.toNat : Nat) : Int) → inT W n k l i x = k ^ l := by
      intro x x0 x1
      have hx : bh W n i x ≠ 0 := fun q => by
        have := ar_none b i0 i1 x0 (show x < k by omega) q
        omega
      have ge := ar_ge b i0 i1 x0 (show x < k by omega) hx
      have bb := bh_b (W := W) (n := n) (c := x) i0
      rw [inT_h i0, if_neg hx]
      exact ih _ (by omega) (by omega) (by omega)
    have := sm_c h
    rw [show ((k.toNat : Nat) : Int) = k by omega] at this
    rw [this, Int.pow_succ]
def hmA (W : Int → Int) (n k i : Int) : Int := k ^ (arC W k i n + 1).toNat - nn W n k (arC W k i n + 1) i
def gAb (W : Int → Int) (n k i c : Int) : Int := if bh W n i c = 0 then 1 else 2 + arC W k (bh W n i c) n
def hA (W : Int → Int) (n k i c : Int) : Int := if bh W n i c = 0 then 1 else hmA W n k (bh W n i c)
theorem gAb_b {W : Int → Int} {n k i c : Int} (b : wdB n W k) (i0 : 0 ≤ i) (i1 : i ≤ n) (c0 : 0 ≤ c) (c1 : c < k) : 1 + arC W k i n ≤ gAb W n k i c ∧ gAb W n k i c ≤ 42 ∧ (gAb W n k i c = 1 + arC W k i n ↔ abT W n k i c) := by
  unfold gAb abT
  by_cases q : bh W n i c = 0
  · have := ar_none b i0 i1 c0 c1 q
    rw [if_pos q]
    exact ⟨by omega, by decide, fun _ => Or.inl q, fun _ => by omega⟩
  · have ge := ar_ge b i0 i1 c0 c1 q
    have bb := bh_b (W := W) (n := n) (c := c) i0
    have ab := ar_b b (show 0 ≤ bh W n i c by omega) (show bh W n i c ≤ n by omega) (Int.le_refl n)
    have n1 := b.2.1
    rw [if_neg q]
    exact ⟨by omega, by omega, fun _ => Or.inr (by omega), fun q2 => by omega⟩
theorem hm_s {W : Int → Int} {n k i : Int} (b : wdB n W k) (i0 : 0 ≤ i) (i1 : i ≤ n) : hmA W n k i = sm (fun c => if gAb W n k i c = 1 + arC W k i n then hA W n k i c else 0) k := by
  have k0 := b.2.2.1
  have L0 := (ar_b b i0 i1 (Int.le_refl n)).1
  have e1 : sm (fun _ => k ^ (arC W k i n).toNat) ((k.toNat : Nat) : Int) = k ^ (arC W k i n).toNat * ((k.toNat : Nat) : Int) := sm_c (fun _ _ _ => rfl)
  have e2 := sm_sub (f := fun _ => k ^ (arC W k i n).toNat) (g := inT W n k (arC W k i n) i) k.toNat
  rw [show ((k.toNat : Nat) : Int) = k by omega] at e1 e2
  unfold hmA
  rw [nn_s L0, show (arC W k i n + 1).toNat = (arC W k i n).toNat + 1 by omega, Int.pow_succ, ← e1, e2]
  refine sm_cg (by omega) (fun c c0 c1 => ?_)
  have gb := gAb_b b i0 i1 c0 c1
  show k ^ (arC W k i n).toNat - inT W n k (arC W k i n) i c = _
  rw [inT_h i0]
  by_cases q : bh W n i c = 0
  · have z := ar_none b i0 i1 c0 c1 q
    rw [if_pos q, if_pos (gb.2.2.2 (Or.inl q)), z]
    unfold hA
    rw [if_pos q, show Int.toNat 0 = 0 from rfl, Int.pow_zero]
    rfl
  · have ge := ar_ge b i0 i1 c0 c1 q
    have bb := bh_b (W := W) (n := n) (c := c) i0
    rw [if_neg q]
    by_cases q2 : arC W k (bh W n i c) n < arC W k i n
    · rw [if_pos (gb.2.2.2 (Or.inr q2))]
      unfold hA hmA
      rw [if_neg q, show arC W k (bh W n i c) n + 1 = arC W k i n by omega]
    · rw [if_neg (fun q3 => by
        rcases gb.2.2.1 q3 with q4 | q4
        · exact q q4
        · exact q2 q4)]
      have := ar_full b (arC W k i n).toNat (bh W n i c) (by omega) (by omega) (by omega)
      rw [show (((arC W k i n).toNat : Nat) : Int) = arC W k i n by omega] at this
      rw [this]
      omega
/-- the class's loop over letters: the least so far, and how many -/
def aJ (W : Int → Int) (n k i x x4 x5 : Int) : Prop := 1 + arC W k i n ≤ x4 ∧ x4 ≤ 42 ∧ (∀ c, 0 ≤ c → c < x → x4 ≤ gAb W n k i c) ∧ x5 = sm (fun c => if gAb W n k i c = x4 then hA W n k i c else 0) x
theorem aJ_0 {W : Int → Int} {n k i : Int} (b : wdB n W k) (i0 : 0 ≤ i) (i1 : i ≤ n) : aJ W n k i 0 42 0 := by
  have := ar_b b i0 i1 (Int.le_refl n)
  have n1 := b.2.1
  exact ⟨by omega, by decide, fun c c0 c1 => absurd c1 (by omega), rfl⟩
theorem aJ_e {W : Int → Int} {n k i x4 x5 : Int} (b : wdB n W k) (i0 : 0 ≤ i) (i1 : i ≤ n) (h : aJ W n k i k x4 x5) : x4 = 1 + arC W k i n ∧ x5 = hmA W n k i := by
  obtain ⟨h1, h2, h3, h4⟩ := h
  obtain ⟨c, c0, c1, hc⟩ := ab_ex b i0
  have gb := (gAb_b b i0 i1 c0 c1).2.2.2 hc
  have := h3 c c0 c1
  have e : x4 = 1 + arC W k i n := by omega
  exact ⟨e, by rw [h4, e, hm_s b i0 i1]⟩
theorem aJ_s {W : Int → Int} {n k i x x4 x5 : Int} (b : wdB n W k) (i0 : 0 ≤ i) (i1 : i ≤ n) (x0 : 0 ≤ x) (x1 : x < k) (h : aJ W n k i x x4 x5) : (x4 < gAb W n k i x → aJ W n k i (x + 1) x4 x5) ∧ (gAb W n k i x = x4 → aJ W n k i (x + 1) x4 (x5 + hA W n k i x)) ∧ (gAb W n k i x < x4 → aJ W n k i (x + 1) (gAb W n k i x) (hA W n k i x)) := by
  obtain ⟨h1, h2, h3, h4⟩ := h
  have gb := gAb_b b i0 i1 x0 x1
  refine ⟨fun q => ⟨h1, h2, fun c c0 c1 => ?_, ?_⟩, fun q => ⟨h1, h2, fun c c0 c1 => ?_, ?_⟩, fun q => ⟨gb.1, gb.2.1, fun c c0 c1 => ?_, ?_⟩⟩
  · by_cases e : c = x
    · rw [e]; omega
    · exact h3 c c0 (by omega)
  · rw [sm_s x0, if_neg (by omega), Int.add_zero]; exact h4
  · by_cases e : c = x
    · rw [e]; omega
    · exact h3 c c0 (by omega)
  · rw [sm_s x0, if_pos q, h4]
  · by_cases e : c = x
    · rw [e]; exact Int.le_refl _
    · have := h3 c c0 (by omega); omega
  · rw [sm_s x0, if_pos rfl, sm_cg (g := fun _ => 0) x0 (fun c c0 c1 => by have := h3 c c0 c1; rw [if_neg (by omega)])]
    have := sm_zero (f := fun _ => (0 : Int)) (fun _ => rfl) x.toNat
    rw [show ((x.toNat : Nat) : Int) = x by omega] at this
    rw [this, Int.zero_add]
/-- the FIRST of the shortest absent words -/
def abC (W : Int → Int) (n k i : Int) : Int := fd (fun c => decide (bh W n i c = 0 ∨ arC W k (bh W n i c) n < arC W k i n)) 0
def abP (W : Int → Int) (n k : Int) : Nat → Int
  | 0 => 0
  | j + 1 => bh W n (abP W n k j) (abC W n k (abP W n k j))
def abI (W : Int → Int) (n k j : Int) : Int := abP W n k j.toNat
def abX (W : Int → Int) (n k j : Int) : Int := abC W n k (abI W n k j)
theorem abI_0 {W : Int → Int} {n k : Int} : abI W n k 0 = 0 := rfl
theorem abI_s {W : Int → Int} {n k j : Int} (h : 0 ≤ j) : abI W n k (j + 1) = bh W n (abI W n k j) (abX W n k j) := by
  unfold abX abI
  rw [show (j + 1).toNat = j.toNat + 1 by omega]
  rfl
theorem abC_sp {W : Int → Int} {n k i : Int} (b : wdB n W k) (i0 : 0 ≤ i) : 0 ≤ abC W n k i ∧ abC W n k i < k ∧ abT W n k i (abC W n k i) ∧ ∀ x, 0 ≤ x → x < abC W n k i → ¬ abT W n k i x := by
  obtain ⟨c, c0, c1, hc⟩ := ab_ex b i0
  have k1 := b.2.2.2.1
  have sp := fd_sp (p := fun c => decide (bh W n i c = 0 ∨ arC W k (bh W n i c) n < arC W k i n)) (a := 0) (e := c) c0 (by omega) (decide_eq_true hc)
  unfold abC abT
  exact ⟨sp.1, by omega, of_decide_eq_true sp.2.2.1, fun x x0 x1 q => sp.2.2.2 x x0 x1 (decide_eq_true q)⟩
theorem ab_inv {W : Int → Int} {n k : Int} (b : wdB n W k) : ∀ j : Nat, (j : Int) ≤ arC W k 0 n → 0 ≤ abI W n k j ∧ abI W n k j ≤ n ∧ arC W k (abI W n k j) n = arC W k 0 n - j := by
  have n0 := b.1
  intro j
  induction j with
  | zero => intro _; rw [show ((0 : Nat) : Int) = 0 from rfl, abI_0]; exact ⟨by decide, n0, by omega⟩
  | succ j ih =>
    intro hj
    obtain ⟨a1, a2, a3⟩ := ih (by omega)
    rw [show ((j + 1 : Nat) : Int) = (j : Int) + 1 by omega, abI_s (by omega)]
    obtain ⟨s1, s2, s3, s4⟩ := abC_sp b a1
    have s3' : abT W n k (abI W n k j) (abX W n k j) := s3
    have s1' : 0 ≤ abX W n k j := s1
    have s2' : abX W n k j < k := s2
    have nz : bh W n (abI W n k j) (abX W n k j) ≠ 0 := fun q => by
      have := ar_none b a1 a2 s1' s2' q
      omega
    have ge := ar_ge b a1 a2 s1' s2' nz
    have bb := bh_b (W := W) (n := n) (c := abX W n k j) a1
    unfold abT at s3'
    exact ⟨by omega, by omega, by omega⟩
