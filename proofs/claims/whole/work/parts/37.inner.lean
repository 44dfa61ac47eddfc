/-! steps: the place behind the next letter -/
def bh (W : Int → Int) (n i c : Int) : Int := if nx W n i c = -9 then 0 else nx W n i c + 1
theorem bh_e {W : Int → Int} {n i c : Int} (h : n ≤ i) : bh W n i c = 0 := by
  unfold bh
  rw [nx_end h, if_pos rfl]
theorem bh_s {W : Int → Int} {n i c : Int} (h0 : 0 ≤ i) (h : i < n) : bh W n i c = if W i = c then i + 1 else bh W n (i + 1) c := by
  unfold bh
  rw [nx_step h]
  by_cases q : W i = c
  · rw [if_pos q, if_pos q, if_neg (by omega)]
  · rw [if_neg q, if_neg q]
theorem bh_b {W : Int → Int} {n i c : Int} (h0 : 0 ≤ i) : bh W n i c = 0 ∨ (i < bh W n i c ∧ bh W n i c ≤ n) := by
  unfold bh
  rcases nx_b (W := W) (n := n) (x := c) h0 with h | h
  · rw [if_pos h]; exact Or.inl rfl
  · rw [if_neg (by omega)]; exact Or.inr ⟨by omega, by omega⟩
theorem bh_z {W : Int → Int} {n i c : Int} (h0 : 0 ≤ i) : bh W n i c = 0 ↔ nx W n i c = -9 := by
  unfold bh
  rcases nx_b (W := W) (n := n) (x := c) h0 with h | h
  · rw [if_pos h]; exact ⟨fun _ => h, fun _ => rfl⟩
  · rw [if_neg (by omega)]; exact ⟨fun q => absurd q (by omega), fun q => absurd q (by omega)⟩
def stp (M : Mem) (q : Int) (W : Int → Int) (n : Int) : Prop := ∀ i c, 0 ≤ i → i ≤ n → 0 ≤ c → c < 6 → M q (i * 6 + c) = bh W n i c
theorem stp.off {M M2 : Mem} {q n lo hi : Int} {W : Int → Int} (h : stp M q W n) (ho : off lo hi M M2) (hq : q < lo ∨ hi < q) : stp M2 q W n := by
  unfold stp
  rw [ho q hq]
  exact h
theorem isS_18 : isS 18 := ⟨by decide, by decide, rfl, by decide, by decide, rfl⟩
theorem isS_81 : isS 81 := ⟨by decide, by decide, rfl, by decide, by decide, rfl⟩
theorem isS_84 : isS 84 := ⟨by decide, by decide, rfl, by decide, by decide, rfl⟩
theorem isS_86 : isS 86 := ⟨by decide, by decide, rfl, by decide, by decide, rfl⟩
theorem c_steps {M : Mem} {st a n k : Int} {W : Int → Int} {Q : Vl → Mem → Prop} (hs : isS st) (hl : isL a 40) (l : lnX M a n W) (b : wdB n W k) (hd : st < 30 ∨ 80 ≤ st) (hq : ∀ M2, off (st + 1) (st + 1) M M2 → stp M2 (st + 1) W n → Q (Iv 0) M2) : cl 0 yX8_read [Rv st, Rv a] M Q := by
  have ha := hl.1
  have ha2 := hl.2.1
  obtain ⟨n0, n1, k0, k1, hw⟩ := b
  refine eX8_read hs hl ?_
  rw [l.1]
  have down : ∀ M2, off (st + 1) (st + 1) M M2 → (∀ c, 0 ≤ c → c < 6 → M2 (st + 1) (n * 6 + c) = 0) → wp 0 yX8_read 38 [some (Rv st), some (Rv a), some (Iv (n * 6)), some (Iv (n - 1)), none] [] M2 Q := by
    intro M2 o2 c2
    refine dn_ind (P := fun i => ∀ M3, off (st + 1) (st + 1) M M3 → (∀ i' c, i < i' → i' ≤ n → 0 ≤ c → c < 6 → M3 (st + 1) (i' * 6 + c) = bh W n i' c) → wp 0 yX8_read 38 [some (Rv st), some (Rv a), some (Iv (n * 6)), some (Iv i), none] [] M3 Q) (a := -1) (n := n - 1) (by omega) (fun M3 o3 c3 => ?_) (fun i i0 i1 ih M3 o3 c3 => ?_) M2 o2 (fun i' c q1 q2 q3 q4 => ?_)
    · exact gX8_read_38 hs hl ⟨by decide, fun _ => hq M3 o3 (fun i c q1 q2 q3 q4 => c3 i c (by omega) q2 q3 q4), fun q => absurd q (by decide)⟩
    · have f1 := (l.off o3 (by omega)).2 i (by omega) (by omega)
      have g1 := hw i (by omega) (by omega)
      refine gX8_read_38 hs hl ⟨⟨by omega, by omega⟩, fun q => absurd q (by omega), fun _ => ⟨by omega, by omega, by omega, by omega, by omega, ?_⟩⟩
      rw [setA_ne (show a + 1 ≠ st + 1 by omega), f1]
      refine ⟨by omega, by omega, ih _ ((o3.set (Int.le_refl _) (Int.le_refl _)).upd (Int.le_refl _) (Int.le_refl _)) (fun i' c q1 q2 q3 q4 => ?_)⟩
      rw [up_at, setA_eq]
      unfold cpyf
      by_cases ci : i' = i
      · subst ci
        rw [bh_s (by omega) (by omega)]
        by_cases cc : W i' = c
        · rw [if_pos (by omega), if_pos cc]
        · rw [if_neg (by omega), if_pos (by omega), if_neg cc]
          rw [show i' * 6 + 6 + (i' * 6 + c - i' * 6) = (i' + 1) * 6 + c by omega]
          exact c3 (i' + 1) c (by omega) (by omega) q3 q4
      · rw [if_neg (by omega), if_neg (by omega)]
        exact c3 i' c (by omega) q2 q3 q4
    · rw [show i' = n by omega, c2 c q3 q4, bh_e (Int.le_refl _)]
  refine up_ind (P := fun x => ∀ M2, off (st + 1) (st + 1) M M2 → (∀ c, 0 ≤ c → c < x → M2 (st + 1) (n * 6 + c) = 0) → wp 0 yX8_read 10 [some (Rv st), some (Rv a), some (Iv (n * 6)), some (Iv x), none] [] M2 Q) (a := 0) (n := 6) (by decide) (fun M2 o2 c2 => ?_) (fun x x0 x1 ih M2 o2 c2 => ?_) M off.rf (fun c c0 c1 => absurd c1 (by omega))
  · refine gX8_read_10 hs hl ⟨by decide, fun _ => ?_, fun q => absurd q (by decide)⟩
    rw [(l.off o2 (by omega)).1]
    exact down M2 o2 c2
  · refine gX8_read_10 hs hl ⟨⟨by omega, by omega⟩, fun q => absurd q (by omega), fun _ => ⟨by omega, by omega, ih _ (o2.upd (Int.le_refl _) (Int.le_refl _)) (fun c c0 c1 => ?_)⟩⟩
    rw [up_at]
    by_cases cc : c = x
    · rw [if_pos (by omega)]
    · rw [if_neg (by omega)]
      exact c2 c c0 (by omega)
theorem c_behind {M : Mem} {st n i c : Int} {W : Int → Int} {Q : Vl → Mem → Prop} (hs : isS st) (h : stp M (st + 1) W n) (n1 : n ≤ 40) (i0 : 0 ≤ i) (i1 : i ≤ n) (c0 : 0 ≤ c) (c1 : c < 6) (hq : Q (Iv (bh W n i c)) M) : cl 0 yX8_behind [Rv st, Iv i, Iv c] M Q := by
  refine eX8_behind hs ⟨by omega, by omega, ?_⟩
  rw [h i c i0 i1 c0 c1]
  exact hq
/-! INNER words -/
def nnN (W : Int → Int) (n k : Int) : Nat → Int → Int
  | 0, _ => 1
  | l + 1, i => sm (fun x => if nx W n i x = -9 then 0 else nnN W n k l (nx W n i x + 1)) k
def nn (W : Int → Int) (n k l i : Int) : Int := nnN W n k l.toNat i
def inT (W : Int → Int) (n k l i x : Int) : Int := if nx W n i x = -9 then 0 else nn W n k l (nx W n i x + 1)
theorem nn_0 {W : Int → Int} {n k i : Int} : nn W n k 0 i = 1 := by
  unfold nn
  show nnN W n k 0 i = 1
  unfold nnN
  rfl
theorem nn_s {W : Int → Int} {n k l i : Int} (h : 0 ≤ l) : nn W n k (l + 1) i = sm (inT W n k l i) k := by
  unfold nn
  rw [show (l + 1).toNat = l.toNat + 1 by omega]
  show sm (fun x => if nx W n i x = -9 then 0 else nnN W n k l.toNat (nx W n i x + 1)) k = _
  rfl
theorem nn_e {W : Int → Int} {n k l i : Int} (h : 0 < l) (hk : 0 ≤ k) (hi : n ≤ i) : nn W n k l i = 0 := by
  have := nn_s (W := W) (n := n) (k := k) (i := i) (show 0 ≤ l - 1 by omega)
  rw [show l - 1 + 1 = l by omega] at this
  rw [this, sm_cg (g := fun _ => 0) hk (fun x _ _ => by unfold inT; rw [nx_end hi, if_pos rfl])]
  have := sm_zero (f := fun _ => (0 : Int)) (fun _ => rfl) k.toNat
  rw [show ((k.toNat : Nat) : Int) = k by omega] at this
  exact this
theorem sm_one {f g : Int → Int} {c : Int} (c0 : 0 ≤ c) (h : ∀ x, x ≠ c → f x = g x) : ∀ n : Nat, sm f n = sm g n + if c < n then f c - g c else 0 := by
  intro n
  induction n with
  | zero => rw [if_neg (by omega), show ((0 : Nat) : Int) = 0 from rfl, sm_0, sm_0]; rfl
  | succ n ih =>
    rw [show ((n + 1 : Nat) : Int) = (n : Int) + 1 by omega, sm_s (by omega), sm_s (by omega), ih]
    by_cases q : (n : Int) = c
    · rw [q, if_neg (by omega), if_pos (by omega)]
      omega
    · rw [h n q]
      by_cases q2 : c < (n : Int)
      · rw [if_pos q2, if_pos (by omega)]; omega
      · rw [if_neg q2, if_neg (by omega)]; omega
theorem nn_id {W : Int → Int} {n k l i : Int} (b : wdB n W k) (h : 0 ≤ l) (i0 : 0 ≤ i) (i1 : i < n) : nn W n k (l + 1) i = nn W n k (l + 1) (i + 1) + nn W n k l (i + 1) - (if bh W n (i + 1) (W i) = 0 then 0 else nn W n k l (bh W n (i + 1) (W i))) := by
  obtain ⟨n0, n1, k0, k1, hw⟩ := b
  have wi := hw i i0 i1
  rw [nn_s h, nn_s h]
  have := sm_one (f := inT W n k l i) (g := inT W n k l (i + 1)) (c := W i) wi.1 (fun x hx => by unfold inT; rw [nx_step i1, if_neg (Ne.symm hx)]) k.toNat
  rw [show ((k.toNat : Nat) : Int) = k by omega, if_pos wi.2] at this
  have e1 : inT W n k l i (W i) = nn W n k l (i + 1) := by unfold inT; rw [nx_step i1, if_pos rfl, if_neg (by omega)]
  have e2 : inT W n k l (i + 1) (W i) = if bh W n (i + 1) (W i) = 0 then 0 else nn W n k l (bh W n (i + 1) (W i)) := by
    unfold inT
    by_cases q : nx W n (i + 1) (W i) = -9
    · rw [if_pos q, if_pos ((bh_z (by omega)).2 q)]
    · rw [if_neg q, if_neg (fun q2 => q ((bh_z (by omega)).1 q2))]
      unfold bh
      rw [if_neg q]
  rw [this, e1, e2]
  omega
theorem nn_b {W : Int → Int} {n k : Int} (b : wdB n W k) : ∀ (m : Nat) (i l : Int), 0 ≤ i → i ≤ n → 0 ≤ l → (n - i).toNat = m → 0 ≤ nn W n k l i ∧ nn W n k l i ≤ 2 ^ m := by
  have hb := b
  obtain ⟨n0, n1, k0, k1, hw⟩ := b
  intro m
  induction m using Nat.strongRecOn with
  | _ m ih =>
    intro i l i0 i1 l0 hm
    have hp := p2_pos m
    by_cases cl0 : l = 0
    · rw [cl0, nn_0]; omega
    by_cases ci : i = n
    · rw [ci, nn_e (by omega) (by omega) (Int.le_refl _)]; omega
    · have h1 := ih (m - 1) (by omega) (i + 1) l (by omega) (by omega) l0 (by omega)
      have h2 := ih (m - 1) (by omega) (i + 1) (l - 1) (by omega) (by omega) (by omega) (by omega)
      have hid := nn_id hb (l := l - 1) (i := i) (by omega) i0 (by omega)
      rw [show l - 1 + 1 = l by omega] at hid
      have e : (2 : Int) ^ m = 2 ^ (m - 1) * 2 := by
        have e0 := Int.pow_succ (2 : Int) (m - 1)
        rw [show (m - 1).succ = m by omega] at e0
        exact e0
      have up1 : nn W n k l i ≤ 2 ^ m := by
        rw [hid, e]
        rcases bh_b (W := W) (n := n) (i := i + 1) (c := W i) (by omega) with q | q
        · rw [if_pos q]; omega
        · rw [if_neg (by omega)]
          have h3 := ih (n - bh W n (i + 1) (W i)).toNat (by omega) (bh W n (i + 1) (W i)) (l - 1) (by omega) (by omega) (by omega) rfl
          omega
      refine ⟨?_, up1⟩
      have hs := nn_s (W := W) (n := n) (k := k) (i := i) (show 0 ≤ l - 1 by omega)
      rw [show l - 1 + 1 = l by omega] at hs
      rw [hs]
      have := (sm_bd (f := fun x => if 0 ≤ inT W n k (l - 1) i x then 0 else 1) (lo := 0) (hi := 0) (n := k.toNat) (fun x x0 x1 => by
        have : 0 ≤ inT W n k (l - 1) i x := by
          unfold inT
          rcases nx_b (W := W) (n := n) (x := x) i0 with q | q
          · rw [if_pos q]; omega
          · rw [if_neg (by omega)]
            exact (ih (n - (nx W n i x + 1)).toNat (by omega) (nx W n i x + 1) (l - 1) (by omega) (by omega) (by omega) rfl).1
        rw [if_pos this]; omega))
      have key : ∀ t : Nat, 0 ≤ sm (inT W n k (l - 1) i) t := by
        intro t
        induction t with
        | zero => exact Int.le_refl 0
        | succ t iht =>
          rw [show ((t + 1 : Nat) : Int) = (t : Int) + 1 by omega, sm_s (by omega)]
          have : 0 ≤ inT W n k (l - 1) i t := by
            unfold inT
            rcases nx_b (W := W) (n := n) (x := t) i0 with q | q
            · rw [if_pos q]; omega
            · rw [if_neg (by omega)]
              exact (ih (n - (nx W n i t + 1)).toNat (by omega) (nx W n i t + 1) (l - 1) (by omega) (by omega) (by omega) rfl).1
          omega
      have := key k.toNat
      rw [show ((k.toNat : Nat) : Int) = k by omega] at this
      exact this
theorem nn_b2 {W : Int → Int} {n k i l : Int} (b : wdB n W k) (i0 : 0 ≤ i) (i1 : i ≤ n) (l0 : 0 ≤ l) : 0 ≤ nn W n k l i ∧ nn W n k l i ≤ 1099511627776 := by
  have h := nn_b b (n - i).toNat i l i0 i1 l0 rfl
  have h2 : (2 : Int) ^ (n - i).toNat ≤ 2 ^ 40 := p2_le (by have := b.2.1; omega)
  have e : (2 : Int) ^ 40 = 1099511627776 := by decide
  omega
theorem nn_z {W : Int → Int} {n k : Int} (b : wdB n W k) : ∀ (m : Nat) (i l : Int), 0 ≤ i → i ≤ n → n - i < l → (n - i).toNat = m → nn W n k l i = 0 := by
  obtain ⟨n0, n1, k0, k1, hw⟩ := b
  intro m
  induction m using Nat.strongRecOn with
  | _ m ih =>
    intro i l i0 i1 hl hm
    have hs := nn_s (W := W) (n := n) (k := k) (i := i) (show 0 ≤ l - 1 by omega)
    rw [show l - 1 + 1 = l by omega] at hs
    rw [hs, sm_cg (g := fun _ => 0) (by omega) (fun x _ _ => by
      unfold inT
      rcases nx_b (W := W) (n := n) (x := x) i0 with q | q
      · rw [if_pos q]
      · rw [if_neg (by omega)]
        exact ih (n - (nx W n i x + 1)).toNat (by omega) (nx W n i x + 1) (l - 1) (by omega) (by omega) (by omega) rfl)]
    have := sm_zero (f := fun _ => (0 : Int)) (fun _ => rfl) k.toNat
    rw [show ((k.toNat : Nat) : Int) = k by omega] at this
    exact this
theorem c_readPlace {M : Mem} {i n k g : Int} {W : Int → Int} {Q : Vl → Mem → Prop} (b : wdB n W k) (i0 : 0 ≤ i) (i1 : i < n) (hg : g = bh W n (i + 1) (W i)) (c : ∀ i' l, i < i' → i' ≤ n → 0 ≤ l → l ≤ 40 → M 79 (i' * 41 + l) = nn W n k l i') (hq : ∀ M2, off 79 79 M M2 → (∀ i' l, i ≤ i' → i' ≤ n → 0 ≤ l → l ≤ 40 → M2 79 (i' * 41 + l) = nn W n k l i') → Q (Iv 0) M2) : cl 0 yX2_readPlace [Rv 80, Iv (i * 41), Iv g] M Q := by
  have n1 := b.2.1
  have gb := bh_b (W := W) (n := n) (i := i + 1) (c := W i) (by omega)
  rw [← hg] at gb
  refine eX2_readPlace ⟨by omega, by omega, ?_⟩
  refine up_ind (P := fun x => ∀ M2, off 79 79 M M2 → (∀ i' l, i < i' → i' ≤ n → 0 ≤ l → l ≤ 40 → M2 79 (i' * 41 + l) = nn W n k l i') → (∀ l, 0 ≤ l → l < x → M2 79 (i * 41 + l) = nn W n k l i) → wp 0 yX2_readPlace 9 [some (Rv 80), some (Iv (i * 41)), some (Iv g), some (Iv x), none, none] [] M2 Q) (a := 1) (n := 41) (by decide) (fun M2 o2 c2 d2 => ?_) (fun x x0 x1 ih M2 o2 c2 d2 => ?_) _ (off.rf.upd (by decide) (by decide)) (fun i' l q1 q2 q3 q4 => by rw [up_ln (by omega)]; exact c i' l q1 q2 q3 q4) (fun l l0 l1 => by rw [up_at, if_pos (by omega), show l = 0 by omega, nn_0])
  · refine gX2_readPlace_9 ⟨by decide, fun _ => hq M2 o2 (fun i' l q1 q2 q3 q4 => ?_), fun q => absurd q (by decide)⟩
    by_cases ci : i' = i
    · rw [ci]; exact d2 l q3 (by omega)
    · exact c2 i' l (by omega) q2 q3 q4
  · have e1 := c2 (i + 1) x (by omega) (by omega) (by omega) (by omega)
    have e2 := c2 (i + 1) (x - 1) (by omega) (by omega) (by omega) (by omega)
    rw [show (i + 1) * 41 + x = i * 41 + 41 + x by omega] at e1
    rw [show (i + 1) * 41 + (x - 1) = i * 41 + 41 + x - 1 by omega] at e2
    have hid := nn_id b (l := x - 1) (i := i) (by omega) i0 i1
    rw [show x - 1 + 1 = x by omega, ← hg] at hid
    refine gX2_readPlace_9 ⟨⟨by omega, by omega⟩, fun q => absurd q (by omega), fun _ => ⟨⟨by omega, by omega⟩, fun q => ⟨by omega, by omega, by omega, by omega, by omega, by omega, by omega, by omega, ?_⟩, fun q => ⟨by omega, by omega, by omega, by omega, by omega, by omega, ?_⟩⟩⟩
    · have e3 := c2 g (x - 1) (by omega) (by omega) (by omega) (by omega)
      rw [show g * 41 + (x - 1) = g * 41 + x - 1 by omega] at e3
      refine ih _ (o2.upd (by decide) (by decide)) (fun i' l q1 q2 q3 q4 => by rw [up_ln (by omega)]; exact c2 i' l q1 q2 q3 q4) (fun l l0 l1 => ?_)
      rw [up_at]
      by_cases cl : l = x
      · rw [if_pos (by omega), e1, e2, e3, cl, hid, if_neg q]
      · rw [if_neg (by omega)]
        exact d2 l l0 (by omega)
    · refine ih _ (o2.upd (by decide) (by decide)) (fun i' l q1 q2 q3 q4 => by rw [up_ln (by omega)]; exact c2 i' l q1 q2 q3 q4) (fun l l0 l1 => ?_)
      rw [up_at]
      by_cases cl : l = x
      · rw [if_pos (by omega), e1, e2, cl, hid, if_pos q]
      · rw [if_neg (by omega)]
        exact d2 l l0 (by omega)
def inX (M : Mem) (W : Int → Int) (n k : Int) : Prop := stp M 82 W n ∧ M 80 2 = n ∧ ∀ i l, 0 ≤ i → i ≤ n → 0 ≤ l → l ≤ 40 → M 79 (i * 41 + l) = nn W n k l i
theorem c_inner {M : Mem} {a n k : Int} {W : Int → Int} {Q : Vl → Mem → Prop} (hl : isL a 40) (l : lnX M a n W) (b : wdB n W k) (hq : ∀ M2, off 79 82 M M2 → inX M2 W n k → Q (Iv 0) M2) : cl 0 yX2_read [Rv 80, Rv a] M Q := by
  have ha := hl.1
  have ha2 := hl.2.1
  have hb := b
  obtain ⟨n0, n1, k0, k1, hw⟩ := b
  refine eX2_read hl (c_steps isS_81 hl l hb (by omega) (fun M1 o1 s1 => ?_))
  have o1' : off 79 82 M M1 := o1.wd (by decide) (by decide)
  have e1 := (l.off o1' (by omega)).1
  show 0 ≤ (up M1 80 2 (M1 a 1)) a 1 * 41 ∧ (_ ∧ wp 0 yX2_read 33 _ _ _ _)
  rw [up_ne (show a ≠ 80 by omega), e1]
  refine ⟨by omega, by omega, ?_⟩
  have o2 : off 79 82 M (up M1 80 2 n) := o1'.upd (by decide) (by decide)
  refine up_ind (P := fun x => ∀ M2, off 79 79 (up M1 80 2 n) M2 → (∀ l, 0 ≤ l → l < x → M2 79 (n * 41 + l) = nn W n k l n) → wp 0 yX2_read 33 [some (Rv 80), some (Rv a), some (Iv (n * 41)), some (Iv x)] [] M2 Q) (a := 1) (n := 41) (by decide) (fun M2 o3 c2 => ?_) (fun x x0 x1 ih M2 o3 c2 => ?_) _ (off.rf.upd (by decide) (by decide)) (fun l l0 l1 => by rw [up_at, if_pos (by omega), show l = 0 by omega, nn_0])
  · refine gX2_read_33 hl ⟨by decide, fun _ => ?_, fun q => absurd q (by decide)⟩
    have lm : lnX M2 a n W := (l.off o2 (by omega)).off o3 (by omega)
    rw [lm.1]
    refine dn_ind (P := fun i => ∀ M3, off 79 79 (up M1 80 2 n) M3 → (∀ i' l, i < i' → i' ≤ n → 0 ≤ l → l ≤ 40 → M3 79 (i' * 41 + l) = nn W n k l i') → wp 0 yX2_read 61 [some (Rv 80), some (Rv a), some (Iv (n * 41)), some (Iv i)] [] M3 Q) (a := -1) (n := n - 1) (by omega) (fun M3 o4 c3 => ?_) (fun i i0 i1 ih M3 o4 c3 => ?_) M2 o3 (fun i' l q1 q2 q3 q4 => by rw [show i' = n by omega]; exact c2 l q3 (by omega))
    · refine gX2_read_61 hl ⟨by decide, fun _ => hq M3 (o2.tr (o4.wd (by decide) (by decide))) ⟨?_, ?_, fun i l q1 q2 q3 q4 => c3 i l (by omega) q2 q3 q4⟩, fun q => absurd q (by decide)⟩
      · unfold stp
        rw [o4 82 (by omega), up_ne (by decide)]
        exact s1
      · rw [o4 80 (by omega), up_at, if_pos rfl]
    · have lm : lnX M3 a n W := (l.off o2 (by omega)).off o4 (by omega)
      have f1 := lm.2 i (by omega) (by omega)
      have g1 := hw i (by omega) (by omega)
      have s3 : stp M3 (81 + 1) W n := by
        unfold stp
        rw [o4 (81 + 1) (by omega), up_ne (by decide)]
        exact s1
      refine gX2_read_61 hl ⟨⟨by omega, by omega⟩, fun q => absurd q (by omega), fun _ => ⟨by omega, ?_⟩⟩
      rw [f1]
      refine c_behind isS_81 s3 n1 (by omega) (by omega) g1.1 (by omega) (c_readPlace hb (by omega) (by omega) rfl c3 (fun M4 o5 c4 => ih M4 (o4.tr o5) (fun i' l q1 q2 q3 q4 => c4 i' l (by omega) q2 q3 q4)))
  · refine gX2_read_33 hl ⟨⟨by omega, by omega⟩, fun q => absurd q (by omega), fun _ => ⟨by omega, by omega, ih _ (o3.upd (by decide) (by decide)) (fun l l0 l1 => ?_)⟩⟩
    rw [up_at]
    by_cases cl : l = x
    · rw [if_pos (by omega), nn_e (by omega) (by omega) (Int.le_refl _)]
    · rw [if_neg (by omega)]
      exact c2 l l0 (by omega)
