/-! 34 alike, 35 parting: how long the shortest word is that parts two, from two places on (0: none) -/
def lsN (g : Int → Int) : Nat → Int
  | 0 => 0
  | c + 1 => if 0 < g c ∧ (lsN g c = 0 ∨ g c < lsN g c) then g c else lsN g c
def ls (g : Int → Int) (x : Int) : Int := lsN g x.toNat
theorem ls_s {g : Int → Int} {x : Int} (h : 0 ≤ x) : ls g (x + 1) = if 0 < g x ∧ (ls g x = 0 ∨ g x < ls g x) then g x else ls g x := by
  unfold ls
  rw [show (x + 1).toNat = x.toNat + 1 by omega]
  show (if 0 < g (x.toNat : Int) ∧ (lsN g x.toNat = 0 ∨ g (x.toNat : Int) < lsN g x.toNat) then g (x.toNat : Int) else lsN g x.toNat) = _
  rw [show (x.toNat : Int) = x by omega]
theorem ls_cg {g h : Int → Int} {n : Int} (n0 : 0 ≤ n) (e : ∀ c, 0 ≤ c → c < n → g c = h c) : ls g n = ls h n := by
  refine dn_ind (P := fun n => (∀ c, 0 ≤ c → c < n → g c = h c) → ls g n = ls h n) (a := 0) (n := n) n0 (fun _ => rfl) (fun y y0 y1 ih e => ?_) e
  have a := ls_s (g := g) (show 0 ≤ y - 1 by omega)
  have b := ls_s (g := h) (show 0 ≤ y - 1 by omega)
  rw [show y - 1 + 1 = y by omega] at a b
  rw [a, b, ih (fun c c0 c1 => e c c0 (by omega)), e (y - 1) (by omega) (by omega)]
def lsE (g : Int → Int) (n v : Int) : Prop := ∃ c, 0 ≤ c ∧ c < n ∧ g c = v
theorem ls_sp {g : Int → Int} {n : Int} (n0 : 0 ≤ n) : (ls g n = 0 ∨ (0 < ls g n ∧ lsE g n (ls g n))) ∧ ∀ c, 0 ≤ c → c < n → 0 < g c → (ls g n ≠ 0 ∧ ls g n ≤ g c) := by
  refine dn_ind (P := fun n => (ls g n = 0 ∨ (0 < ls g n ∧ lsE g n (ls g n))) ∧ ∀ c, 0 ≤ c → c < n → 0 < g c → (ls g n ≠ 0 ∧ ls g n ≤ g c)) (a := 0) (n := n) n0 ⟨Or.inl rfl, fun c c0 c1 => absurd c1 (by omega)⟩ (fun y y0 y1 ih => ?_)
  have a := ls_s (g := g) (show 0 ≤ y - 1 by omega)
  rw [show y - 1 + 1 = y by omega] at a
  obtain ⟨i1, i2⟩ := ih
  by_cases q : 0 < g (y - 1) ∧ (ls g (y - 1) = 0 ∨ g (y - 1) < ls g (y - 1))
  · rw [if_pos q] at a
    rw [a]
    refine ⟨Or.inr ⟨q.1, ⟨y - 1, by omega, by omega, rfl⟩⟩, fun c c0 c1 hc => ⟨by omega, ?_⟩⟩
    by_cases e : c = y - 1
    · rw [e]; exact Int.le_refl _
    · have := i2 c c0 (by omega) hc
      omega
  · rw [if_neg q] at a
    rw [a]
    refine ⟨?_, fun c c0 c1 hc => ?_⟩
    · rcases i1 with h | ⟨h, c, c0, c1, hc⟩
      · exact Or.inl h
      · exact Or.inr ⟨h, c, c0, by omega, hc⟩
    · by_cases e : c = y - 1
      · rw [e] at hc ⊢
        rcases i1 with h | h
        · exact absurd ⟨hc, Or.inl h⟩ q
        · have h1 := h.1
          exact ⟨by omega, by omega⟩
      · exact i2 c c0 (by omega) hc
def ptD (W V : Int → Int) (n m : Int) (f : Int → Int → Int) (i j c : Int) : Int := if bh W n i c = 0 ∨ bh V m j c = 0 then (if bh W n i c = bh V m j c then 0 else 1) else (if f (bh W n i c) (bh V m j c) = 0 then 0 else f (bh W n i c) (bh V m j c) + 1)
def ptN (W V : Int → Int) (n m : Int) : Nat → Int → Int → Int
  | 0, _, _ => 0
  | f + 1, i, j => ls (ptD W V n m (ptN W V n m f) i j) 6
def pt (W V : Int → Int) (n m i j : Int) : Int := ptN W V n m 42 i j
def ptd (W V : Int → Int) (n m i j c : Int) : Int := ptD W V n m (pt W V n m) i j c
theorem ptN_f {W V : Int → Int} {n m : Int} : ∀ (f : Nat) (i j : Int), 0 ≤ i → i ≤ n → n - i + 1 ≤ f → ptN W V n m (f + 1) i j = ptN W V n m f i j := by
  intro f
  induction f with
  | zero => intro i j i0 i1 h; exact absurd h (by omega)
  | succ f ih =>
    intro i j i0 i1 h
    show ls (ptD W V n m (ptN W V n m (f + 1)) i j) 6 = ls (ptD W V n m (ptN W V n m f) i j) 6
    refine ls_cg (by decide) (fun c _ _ => ?_)
    unfold ptD
    by_cases q : bh W n i c = 0 ∨ bh V m j c = 0
    · rw [if_pos q, if_pos q]
    · have := bh_b (W := W) (n := n) (c := c) i0
      rw [if_neg q, if_neg q, ih _ _ (by omega) (by omega) (by omega)]
theorem pt_s {W V : Int → Int} {n m i j : Int} (n1 : n ≤ 40) (i0 : 0 ≤ i) (i1 : i ≤ n) : pt W V n m i j = ls (ptd W V n m i j) 6 := by
  show ls (ptD W V n m (ptN W V n m 41) i j) 6 = _
  refine ls_cg (by decide) (fun c _ _ => ?_)
  unfold ptd ptD pt
  by_cases q : bh W n i c = 0 ∨ bh V m j c = 0
  · rw [if_pos q, if_pos q]
  · have := bh_b (W := W) (n := n) (c := c) i0
    rw [if_neg q, if_neg q, ptN_f 41 _ _ (by omega) (by omega) (by omega)]
theorem ptd_one {W V : Int → Int} {n m i j c : Int} (h : bh W n i c = 0 ∨ bh V m j c = 0) (h2 : bh W n i c ≠ bh V m j c) : ptd W V n m i j c = 1 := by
  unfold ptd ptD
  rw [if_pos h, if_neg h2]
theorem ptd_zero {W V : Int → Int} {n m i j c : Int} (h : bh W n i c = 0) (h2 : bh V m j c = 0) : ptd W V n m i j c = 0 := by
  unfold ptd ptD
  rw [if_pos (Or.inl h), if_pos (by omega)]
theorem ptd_more {W V : Int → Int} {n m i j c : Int} (h : bh W n i c ≠ 0) (h2 : bh V m j c ≠ 0) : ptd W V n m i j c = if pt W V n m (bh W n i c) (bh V m j c) = 0 then 0 else pt W V n m (bh W n i c) (bh V m j c) + 1 := by
  unfold ptd ptD
  rw [if_neg (by omega)]
theorem pt_b {W V : Int → Int} {n m : Int} (n1 : n ≤ 40) : ∀ (f : Nat) (i j : Int), 0 ≤ i → i ≤ n → 0 ≤ j → j ≤ m → (n - i).toNat = f → 0 ≤ pt W V n m i j ∧ (pt W V n m i j ≤ n - i ∨ pt W V n m i j ≤ m - j) := by
  intro f
  induction f using Nat.strongRecOn with
  | _ f ih =>
    intro i j i0 i1 j0 j1 hf
    rw [pt_s n1 i0 i1]
    rcases (ls_sp (g := ptd W V n m i j) (n := 6) (by decide)).1 with q | ⟨q, c, c0, c1, hc⟩
    · rw [q]; omega
    · rw [← hc] at q ⊢
      have b1 := bh_b (W := W) (n := n) (c := c) i0
      have b2 := bh_b (W := V) (n := m) (c := c) j0
      by_cases z1 : bh W n i c = 0
      · by_cases z2 : bh V m j c = 0
        · rw [ptd_zero z1 z2] at q
          exact absurd q (by decide)
        · rw [ptd_one (Or.inl z1) (by omega)]
          omega
      · by_cases z2 : bh V m j c = 0
        · rw [ptd_one (Or.inr z2) (by omega)]
          omega
        · have := ih (n - bh W n i c).toNat (by omega) (bh W n i c) (bh V m j c) (by omega) (by omega) (by omega) (by omega) rfl
          rw [ptd_more z1 z2]
          split <;> omega
theorem pt_bd {W V : Int → Int} {n m i j : Int} (n1 : n ≤ 40) (m1 : m ≤ 40) (i0 : 0 ≤ i) (i1 : i ≤ n) (j0 : 0 ≤ j) (j1 : j ≤ m) : 0 ≤ pt W V n m i j ∧ pt W V n m i j ≤ 40 := by
  have := pt_b (W := W) (V := V) n1 _ i j i0 i1 j0 j1 rfl
  omega
theorem ptd_bd {W V : Int → Int} {n m i j c : Int} (n1 : n ≤ 40) (m1 : m ≤ 40) (i0 : 0 ≤ i) (j0 : 0 ≤ j) : 0 ≤ ptd W V n m i j c ∧ ptd W V n m i j c ≤ 41 := by
  have b1 := bh_b (W := W) (n := n) (c := c) i0
  have b2 := bh_b (W := V) (n := m) (c := c) j0
  by_cases z1 : bh W n i c = 0
  · by_cases z2 : bh V m j c = 0
    · rw [ptd_zero z1 z2]; omega
    · rw [ptd_one (Or.inl z1) (by omega)]; omega
  · by_cases z2 : bh V m j c = 0
    · rw [ptd_one (Or.inr z2) (by omega)]; omega
    · have := pt_bd (W := W) (V := V) (i := bh W n i c) (j := bh V m j c) n1 m1 (by omega) (by omega) (by omega) (by omega)
      rw [ptd_more z1 z2]
      split <;> omega
theorem pt_le {W V : Int → Int} {n m i j c : Int} (n1 : n ≤ 40) (i0 : 0 ≤ i) (i1 : i ≤ n) (c0 : 0 ≤ c) (c6 : c < 6) (h : 0 < ptd W V n m i j c) : pt W V n m i j ≠ 0 ∧ pt W V n m i j ≤ ptd W V n m i j c := by
  rw [pt_s n1 i0 i1]
  exact (ls_sp (g := ptd W V n m i j) (n := 6) (by decide)).2 c c0 c6 h
/-- the FIRST letter with which the shortest goes on -/
def ptC (W V : Int → Int) (n m i j : Int) : Int := fd (fun c => decide (ptd W V n m i j c = pt W V n m i j)) 0
theorem ptC_sp {W V : Int → Int} {n m k i j : Int} (b1 : wdB n W k) (b2 : wdB m V k) (i0 : 0 ≤ i) (i1 : i ≤ n) (j0 : 0 ≤ j) (h : pt W V n m i j ≠ 0) : 0 ≤ ptC W V n m i j ∧ ptC W V n m i j < k ∧ ptd W V n m i j (ptC W V n m i j) = pt W V n m i j ∧ ∀ x, 0 ≤ x → x < ptC W V n m i j → ptd W V n m i j x ≠ pt W V n m i j := by
  have n1 := b1.2.1
  rcases (ls_sp (g := ptd W V n m i j) (n := 6) (by decide)).1 with q | ⟨q, c, c0, c1, hc⟩
  · rw [← pt_s n1 i0 i1] at q
    exact absurd q h
  · rw [← pt_s n1 i0 i1] at q hc
    have sp := fd_sp (p := fun c => decide (ptd W V n m i j c = pt W V n m i j)) (a := 0) (e := c) c0 c1 (decide_eq_true hc)
    have e3 : ptd W V n m i j (ptC W V n m i j) = pt W V n m i j := of_decide_eq_true sp.2.2.1
    refine ⟨sp.1, ?_, e3, fun x x0 x1 q2 => sp.2.2.2 x x0 x1 (decide_eq_true q2)⟩
    by_cases hk : ptC W V n m i j < k
    · exact hk
    · have := ptd_zero (bh_k b1 i0 (show k ≤ ptC W V n m i j by omega)) (bh_k b2 j0 (show k ≤ ptC W V n m i j by omega))
      omega
def ptS (W V : Int → Int) (n m : Int) : Nat → Int × Int
  | 0 => (0, 0)
  | t + 1 => (bh W n (ptS W V n m t).1 (ptC W V n m (ptS W V n m t).1 (ptS W V n m t).2), bh V m (ptS W V n m t).2 (ptC W V n m (ptS W V n m t).1 (ptS W V n m t).2))
def ptI (W V : Int → Int) (n m t : Int) : Int := (ptS W V n m t.toNat).1
def ptJ (W V : Int → Int) (n m t : Int) : Int := (ptS W V n m t.toNat).2
def ptX (W V : Int → Int) (n m t : Int) : Int := ptC W V n m (ptI W V n m t) (ptJ W V n m t)
theorem ptI_s {W V : Int → Int} {n m t : Int} (h : 0 ≤ t) : ptI W V n m (t + 1) = bh W n (ptI W V n m t) (ptX W V n m t) ∧ ptJ W V n m (t + 1) = bh V m (ptJ W V n m t) (ptX W V n m t) := by
  unfold ptX ptI ptJ
  rw [show (t + 1).toNat = t.toNat + 1 by omega]
  exact ⟨rfl, rfl⟩
theorem pt_inv {W V : Int → Int} {n m k : Int} (b1 : wdB n W k) (b2 : wdB m V k) : ∀ t : Nat, (t : Int) < pt W V n m 0 0 → 0 ≤ ptI W V n m t ∧ ptI W V n m t ≤ n ∧ 0 ≤ ptJ W V n m t ∧ ptJ W V n m t ≤ m ∧ pt W V n m (ptI W V n m t) (ptJ W V n m t) = pt W V n m 0 0 - t ∧ rch W V (ptI W V n m t) (ptJ W V n m t) := by
  have n0 := b1.1
  have m0 := b2.1
  intro t
  induction t with
  | zero => intro h; exact ⟨Int.le_refl 0, n0, Int.le_refl 0, m0, (Int.sub_zero _).symm, Or.inl ⟨rfl, rfl⟩⟩
  | succ t ih =>
    intro h
    obtain ⟨a1, a2, a3, a4, a5, a6⟩ := ih (by omega)
    obtain ⟨s1, s2, s3, s4⟩ := ptC_sp b1 b2 a1 a2 a3 (by omega)
    have s3' : ptd W V n m (ptI W V n m t) (ptJ W V n m t) (ptX W V n m t) = pt W V n m (ptI W V n m t) (ptJ W V n m t) := s3
    have bb1 := bh_b (W := W) (n := n) (c := ptX W V n m t) a1
    have bb2 := bh_b (W := V) (n := m) (c := ptX W V n m t) a3
    rw [show ((t + 1 : Nat) : Int) = (t : Int) + 1 by omega, (ptI_s (show (0 : Int) ≤ t by omega)).1, (ptI_s (show (0 : Int) ≤ t by omega)).2]
    have z1 : bh W n (ptI W V n m t) (ptX W V n m t) ≠ 0 := fun q => by
      by_cases z2 : bh V m (ptJ W V n m t) (ptX W V n m t) = 0
      · rw [ptd_zero q z2] at s3'; omega
      · rw [ptd_one (Or.inl q) (by omega)] at s3'; omega
    have z2 : bh V m (ptJ W V n m t) (ptX W V n m t) ≠ 0 := fun q => by
      rw [ptd_one (Or.inr q) (by omega)] at s3'; omega
    rw [ptd_more z1 z2] at s3'
    refine ⟨by omega, by omega, by omega, by omega, ?_, Or.inr ⟨by omega, by omega, by rw [bh_v a1 z1, bh_v a3 z2]⟩⟩
    by_cases q : pt W V n m (bh W n (ptI W V n m t) (ptX W V n m t)) (bh V m (ptJ W V n m t) (ptX W V n m t)) = 0
    · rw [if_pos q] at s3'; omega
    · rw [if_neg q] at s3'; omega
/-! the class -/
def ptM (M : Mem) (W V : Int → Int) (n m i : Int) : Prop := ∀ i' j', i < i' → i' ≤ n → 0 ≤ j' → j' ≤ m → rch W V i' j' → M 79 (i' * 41 + j') = pt W V n m i' j'
theorem c_partingFrom {M : Mem} {n m k i j c : Int} {W V : Int → Int} {Q : Vl → Mem → Prop} (b1 : wdB n W k) (b2 : wdB m V k) (s1 : stp M (84 + 1) W n) (s2 : stp M (86 + 1) V m) (hM : ptM M W V n m i) (i0 : 0 ≤ i) (i1 : i ≤ n) (j0 : 0 ≤ j) (j1 : j ≤ m) (c0 : 0 ≤ c) (c6 : c < 6) (hq : Q (Jv (ptd W V n m i j c)) M) : cl 0 yX4_partingFrom [Rv 83, Iv i, Iv j, Iv c] M Q := by
  have n1 := b1.2.1
  have m1 := b2.2.1
  have bb1 := bh_b (W := W) (n := n) (c := c) i0
  have bb2 := bh_b (W := V) (n := m) (c := c) j0
  have r1 : inr (bh W n i c) := ⟨by omega, by omega⟩
  have r2 : inr (bh V m j c) := ⟨by omega, by omega⟩
  refine eX4_partingFrom (c_behind isS_84 s1 n1 i0 i1 c0 c6 (c_behind isS_86 s2 m1 j0 j1 c0 c6 ⟨r1, fun q => ⟨Or.inr ⟨r1, r2⟩, fun q2 => ?_, fun q2 => ?_⟩, fun q => ⟨r2, fun q2 => ⟨by omega, by omega, ?_⟩, fun q2 => ⟨fun q3 => ?_, fun q3 => absurd q3 (by omega)⟩⟩⟩))
  · rw [ptd_one (Or.inl q) q2] at hq; exact hq
  · rw [ptd_zero q (by omega)] at hq; exact hq
  · have e := hM (bh W n i c) (bh V m j c) (by omega) (by omega) (by omega) (by omega) (Or.inr ⟨by omega, by omega, by rw [bh_v i0 q, bh_v j0 q2]⟩)
    have bd := pt_bd (W := W) (V := V) (i := bh W n i c) (j := bh V m j c) n1 m1 (by omega) (by omega) (by omega) (by omega)
    rw [ptd_more q q2] at hq
    rw [e]
    refine ⟨Or.inr ⟨⟨by omega, by omega⟩, by decide⟩, fun q3 => ?_, fun q3 => ?_⟩
    · rw [if_neg q3] at hq; exact hq
    · rw [if_pos q3] at hq; exact hq
  · rw [ptd_one (Or.inr q2) q3] at hq; exact hq
theorem c_shortestParting {M : Mem} {n m k i j : Int} {W V : Int → Int} {Q : Vl → Mem → Prop} (b1 : wdB n W k) (b2 : wdB m V k) (s1 : stp M (84 + 1) W n) (s2 : stp M (86 + 1) V m) (hM : ptM M W V n m i) (i0 : 0 ≤ i) (i1 : i ≤ n) (j0 : 0 ≤ j) (j1 : j ≤ m) (hq : Q (Jv (pt W V n m i j)) M) : cl 0 yX4_shortestParting [Rv 83, Iv i, Iv j] M Q := by
  have n1 := b1.2.1
  have m1 := b2.2.1
  refine eX4_shortestParting ?_
  refine up_ind (P := fun x => wp 0 yX4_shortestParting 5 [some (Rv 83), some (Iv i), some (Iv j), some (Jv (ls (ptd W V n m i j) x)), none, some (Iv x), none, none] [] M Q) (a := 0) (n := 6) (by decide) ?_ (fun x x0 x1 ih => ?_)
  · refine gX4_shortestParting_5 ⟨by decide, fun _ => ?_, fun q => absurd q (by decide)⟩
    rw [← pt_s n1 i0 i1]
    exact hq
  · have db := ptd_bd (W := W) (V := V) (n := n) (m := m) (c := x) n1 m1 i0 j0
    have lb : 0 ≤ ls (ptd W V n m i j) x ∧ ls (ptd W V n m i j) x ≤ 41 := by
      rcases (ls_sp (g := ptd W V n m i j) (n := x) x0).1 with q | ⟨q, c, c0, c1, hc⟩
      · omega
      · have := ptd_bd (W := W) (V := V) (n := n) (m := m) (c := c) n1 m1 i0 j0
        omega
    rw [ls_s x0] at ih
    have il : inL (ls (ptd W V n m i j) x) := ⟨by omega, by omega⟩
    refine gX4_shortestParting_5 ⟨⟨by omega, by omega⟩, fun q => absurd q (by omega), fun _ => c_partingFrom b1 b2 s1 s2 hM i0 i1 j0 j1 x0 x1 ⟨⟨by omega, by omega⟩, fun q => ?_, fun q => ⟨Or.inr ⟨il, by decide⟩, fun q2 => ?_, fun q2 => ⟨il, fun q3 => ?_, fun q3 => ?_⟩⟩⟩⟩
    · rw [if_neg (by omega)] at ih; exact ih
    · rw [if_pos ⟨q, Or.inl q2⟩] at ih; exact ih
    · rw [if_neg (by omega)] at ih; exact ih
    · rw [if_pos ⟨q, Or.inr q3⟩] at ih; exact ih
theorem c_measureParting {M : Mem} {a1 a2 n m k : Int} {W V : Int → Int} {Q : Vl → Mem → Prop} (h1 : isL a1 40) (h2 : isL a2 40) (l1 : lnX M a1 n W) (l2 : lnX M a2 m V) (b1 : wdB n W k) (b2 : wdB m V k) (hq : ∀ M2, off 79 87 M M2 → stp M2 (84 + 1) W n → stp M2 (86 + 1) V m → ptM M2 W V n m (-1) → Q (Iv (pt W V n m 0 0)) M2) : cl 0 yX4_measureParting [Rv 83, Rv a1, Rv a2] M Q := by
  have ha1 := h1.1
  have ha1' := h1.2.1
  have ha2 := h2.1
  have ha2' := h2.2.1
  have n0 := b1.1
  have n1 := b1.2.1
  have m0 := b2.1
  have m1 := b2.2.1
  refine eX4_measureParting h1 h2 (c_steps isS_84 h1 l1 b1 (by omega) (fun M1 o1 s1 => ?_))
  have o1' : off 79 87 M M1 := o1.wd (by decide) (by decide)
  refine c_steps isS_86 h2 (l2.off o1' (by omega)) b2 (by omega) (fun M2 o2 s2 => ?_)
  have o2' : off 79 87 M M2 := o1'.tr (o2.wd (by decide) (by decide))
  have s1' : stp M2 (84 + 1) W n := s1.off o2 (by decide)
  show wp 0 yX4_measureParting 21 _ _ _ _
  rw [(l1.off o2' (by omega)).1]
  refine dn_ind (P := fun i => ∀ M3, off 79 79 M2 M3 → ptM M3 W V n m i → wp 0 yX4_measureParting 21 [some (Rv 83), some (Rv a1), some (Rv a2), some (Iv i), none] [] M3 Q) (a := -1) (n := n) (by omega) (fun M3 o3 c3 => ?_) (fun i i0 i1 ih M3 o3 c3 => ?_) M2 off.rf (fun i' j' q1 q2 => absurd q2 (by omega))
  · refine gX4_measureParting_21 h1 h2 ⟨by decide, fun _ => ?_, fun q => absurd q (by decide)⟩
    have := c3 0 0 (by decide) n0 (by decide) m0 (Or.inl ⟨rfl, rfl⟩)
    rw [show (0 : Int) * 41 + 0 = 0 by decide] at this
    rw [this]
    exact hq M3 (o2'.tr (o3.wd (by decide) (by decide))) (s1'.off o3 (by decide)) (s2.off o3 (by decide)) c3
  · refine gX4_measureParting_21 h1 h2 ⟨⟨by omega, by omega⟩, fun q => absurd q (by omega), fun _ => ?_⟩
    have o3' : off 79 87 M M3 := o2'.tr (o3.wd (by decide) (by decide))
    rw [(l2.off o3' (by omega)).1]
    refine dn_ind (P := fun j => ∀ M4, off 79 79 M2 M4 → (∀ i' j', i ≤ i' → i' ≤ n → 0 ≤ j' → j' ≤ m → (i < i' ∨ j < j') → rch W V i' j' → M4 79 (i' * 41 + j') = pt W V n m i' j') → wp 0 yX4_measureParting 31 [some (Rv 83), some (Rv a1), some (Rv a2), some (Iv i), some (Iv j)] [] M4 Q) (a := -1) (n := m) (by omega) (fun M4 o4 c4 => ?_) (fun j j0 j1 ih2 M4 o4 c4 => ?_) M3 o3 (fun i' j' q1 q2 q3 q4 q5 q6 => c3 i' j' (by omega) q2 q3 q4 q6)
    · exact gX4_measureParting_31 h1 h2 ⟨by decide, fun _ => ih M4 o4 (fun i' j' q1 q2 q3 q4 q5 => c4 i' j' (by omega) q2 q3 q4 (by omega) q5), fun q => absurd q (by decide)⟩
    · have o4' : off 79 87 M M4 := o2'.tr (o4.wd (by decide) (by decide))
      refine gX4_measureParting_31 h1 h2 ⟨⟨by omega, by omega⟩, fun q => absurd q (by omega), fun _ => c_isReached h1 h2 (l1.off o4' (by omega)) (l2.off o4' (by omega)) b1 b2 (by omega) i1 (by omega) j1 (fun hr => ⟨fun _ => ih2 M4 o4 (fun i' j' q1 q2 q3 q4 q5 q6 => ?_), fun q => absurd rfl q⟩) (fun hr => ⟨fun q => absurd q (by decide), fun _ => c_shortestParting b1 b2 (s1'.off o4 (by decide)) (s2.off o4 (by decide)) (fun i' j' q1 q2 q3 q4 q5 => c4 i' j' (by omega) q2 q3 q4 (by omega) q5) (by omega) i1 (by omega) j1 ⟨by omega, by omega, ih2 _ (o4.upd (by decide) (by decide)) (fun i' j' q1 q2 q3 q4 q5 q6 => ?_)⟩⟩)⟩
      · by_cases c : i' = i ∧ j' = j
        · rw [c.1, c.2] at q6
          exact absurd q6 hr
        · exact c4 i' j' q1 q2 q3 q4 (by omega) q6
      · rw [up_at]
        by_cases c : i' = i ∧ j' = j
        · rw [if_pos (by omega), c.1, c.2]
        · rw [if_neg (by omega)]
          exact c4 i' j' q1 q2 q3 q4 (by omega) q6
theorem c_firstParting {M : Mem} {n m k : Int} {W V : Int → Int} {Q : Vl → Mem → Prop} (b1 : wdB n W k) (b2 : wdB m V k) (s1 : stp M (84 + 1) W n) (s2 : stp M (86 + 1) V m) (hM : ptM M W V n m (-1)) (h0 : pt W V n m 0 0 ≠ 0) (hq : ∀ M2, off 6 6 M M2 → (∀ j, 0 ≤ j → j < pt W V n m 0 0 → M2 6 j = ptX W V n m j) → Q (Iv 0) M2) : cl 0 yX4_firstParting [Rv 83, Iv (pt W V n m 0 0), Rv 6] M Q := by
  have n0 := b1.1
  have n1 := b1.2.1
  have k1 := b1.2.2.2.1
  have m0 := b2.1
  have m1 := b2.2.1
  have h6 : isA 6 80 := ⟨by decide, by decide, rfl⟩
  have bd := pt_bd (W := W) (V := V) (i := 0) (j := 0) n1 m1 (Int.le_refl 0) n0 (Int.le_refl 0) m0
  refine eX4_firstParting h6 ?_
  refine up_ind (P := fun j => ∀ M2, off 6 6 M M2 → (∀ t, 0 ≤ t → t < j → M2 6 t = ptX W V n m t) → wp 0 yX4_firstParting 8 [some (Rv 83), some (Iv (pt W V n m 0 0)), some (Rv 6), some (Iv (ptI W V n m j)), some (Iv (ptJ W V n m j)), some (Iv j), none] [] M2 Q) (a := 0) (n := pt W V n m 0 0) bd.1 (fun M2 o2 c2 => ?_) (fun j j0 j1 ih M2 o2 c2 => ?_) M off.rf (fun t t0 t1 => absurd t1 (by omega))
  · exact gX4_firstParting_8 h6 ⟨⟨by omega, by omega⟩, ⟨by omega, by omega⟩, fun _ => hq M2 o2 c2, fun q => absurd q (by omega)⟩
  · obtain ⟨e1, e2, e3, e4, e5, e6⟩ := pt_inv b1 b2 j.toNat (by omega)
    rw [show ((j.toNat : Nat) : Int) = j by omega] at e1 e2 e3 e4 e5 e6
    obtain ⟨x1, x2, x3, x4⟩ := ptC_sp b1 b2 e1 e2 e3 (by omega)
    have x1' : 0 ≤ ptX W V n m j := x1
    have x2' : ptX W V n m j < k := x2
    have x3' : ptd W V n m (ptI W V n m j) (ptJ W V n m j) (ptX W V n m j) = pt W V n m (ptI W V n m j) (ptJ W V n m j) := x3
    have s1' : stp M2 (84 + 1) W n := s1.off o2 (by decide)
    have s2' : stp M2 (86 + 1) V m := s2.off o2 (by decide)
    have hM2 : ptM M2 W V n m (ptI W V n m j) := by
      unfold ptM
      rw [o2 79 (by decide)]
      exact fun i' j' q1 q2 q3 q4 q5 => hM i' j' (by omega) q2 q3 q4 q5
    refine gX4_firstParting_8 h6 ⟨⟨by omega, by omega⟩, ⟨by omega, by omega⟩, fun q => absurd q (by omega), fun _ => ?_⟩
    have go : cl 0 yX8_behind [Rv 84, Iv (ptI W V n m j), Iv (ptX W V n m j)] (up M2 6 j (ptX W V n m j)) (QI (fun z6 M6 => (cl 0 yX8_behind [Rv 86, Iv (ptJ W V n m j), Iv (ptX W V n m j)] M6 (QI (fun z7 M7 => (wp 0 yX4_firstParting 8 [some (Rv 83), some (Iv (pt W V n m 0 0)), some (Rv 6), some (Iv z6), some (Iv z7), some (Iv (j + 1)), none] [] M7 Q)))))) := by
      refine c_behind isS_84 (s1'.off (off.rf.upd (Int.le_refl 6) (Int.le_refl 6)) (by decide)) n1 e1 e2 x1' (by omega) (c_behind isS_86 (s2'.off (off.rf.upd (Int.le_refl 6) (Int.le_refl 6)) (by decide)) m1 e3 e4 x1' (by omega) ?_)
      have := ih (up M2 6 j (ptX W V n m j)) (o2.upd (by decide) (by decide)) (fun t t0 t1 => by
        rw [up_at]
        by_cases ct : t = j
        · rw [if_pos ct, ct]
        · rw [if_neg ct]; exact c2 t t0 (by omega))
      rw [(ptI_s j0).1, (ptI_s j0).2] at this
      exact this
    refine up_ind (P := fun c => wp 0 yX4_firstParting 17 [some (Rv 83), some (Iv (pt W V n m 0 0)), some (Rv 6), some (Iv (ptI W V n m j)), some (Iv (ptJ W V n m j)), some (Iv j), some (Iv c)] [] M2 Q) (a := 0) (n := ptX W V n m j) x1' ?_ (fun c c0 c1 ih2 => ?_)
    · refine gX4_firstParting_17 h6 ⟨⟨by omega, by omega⟩, fun _ => ⟨j0, by omega, ⟨by omega, by omega⟩, go⟩, fun _ => c_partingFrom b1 b2 s1' s2' hM2 e1 e2 e3 e4 x1' (by omega) ⟨⟨by omega, by omega⟩, Or.inl (by omega), fun _ => ⟨j0, by omega, ⟨by omega, by omega⟩, go⟩, fun q => absurd (x3'.trans e5) q⟩⟩
    · have nt := x4 c c0 c1
      have db := ptd_bd (W := W) (V := V) (n := n) (m := m) (c := c) n1 m1 e1 e3
      refine gX4_firstParting_17 h6 ⟨⟨by omega, by omega⟩, fun q => absurd q (by omega), fun _ => c_partingFrom b1 b2 s1' s2' hM2 e1 e2 e3 e4 c0 (by omega) ⟨⟨by omega, by omega⟩, Or.inr ⟨⟨by omega, by omega⟩, ⟨by omega, by omega⟩⟩, fun q => absurd (q.trans e5.symm) nt, fun _ => ih2⟩⟩
