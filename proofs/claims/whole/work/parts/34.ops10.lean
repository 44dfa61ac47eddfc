/-! 27 bar -/
def bin (W V : Int → Int) (n i : Int) (g : Int → Int) (p : Int) : Int := g p + (if p < n ∧ W i = V p then 1 else 0)
def bst (W V : Int → Int) (n i : Int) (g : Int → Int) (p : Int) : Int := if 0 < p ∧ W i = V (p - 1) then (if g (p - 1) < bin W V n i g p then g (p - 1) else bin W V n i g p) else bin W V n i g p
def bI (W V : Int → Int) (n : Int) (f : Int → Int) : Nat → Int → Int
  | 0 => f
  | i + 1 => bst W V n i (bI W V n f i)
def bJ (W V : Int → Int) (n : Int) (f : Int → Int) (i : Int) : Int → Int := bI W V n f i.toNat
theorem bJ_s {W V : Int → Int} {n : Int} {f : Int → Int} {i : Int} (h : 0 ≤ i) : bJ W V n f (i + 1) = bst W V n i (bJ W V n f i) := by
  unfold bJ
  rw [show (i + 1).toNat = i.toNat + 1 by omega]
  show bst W V n (i.toNat : Int) _ = _
  rw [show ((i.toNat : Nat) : Int) = i by omega]
/-- the inner loop's state: x is next -/
def bpt (W V : Int → Int) (n i : Int) (g : Int → Int) (x p : Int) : Int := if x + 1 < p then bst W V n i g p else if p = x + 1 then bin W V n i g p else g p
theorem bpt_0 {W V : Int → Int} {n i : Int} {g : Int → Int} {p : Int} (h : p ≤ n) : bpt W V n i g (n - 1) p = g p := by
  unfold bpt bin
  rw [if_neg (by omega)]
  split
  · rw [if_neg (by omega), Int.add_zero]
  · rfl
theorem bpt_e {W V : Int → Int} {n i : Int} {g : Int → Int} {p : Int} (h : 0 ≤ p) : bpt W V n i g (-1) p = bst W V n i g p := by
  unfold bpt
  by_cases c : p = 0
  · rw [if_neg (by omega), if_pos (by omega)]
    unfold bst
    rw [if_neg (by omega)]
  · rw [if_pos (by omega)]
theorem bpt_n {W V : Int → Int} {n i : Int} {g : Int → Int} {x p : Int} (h0 : 0 ≤ x) (h1 : x < n) (hx : W i ≠ V x) : bpt W V n i g (x - 1) p = bpt W V n i g x p := by
  unfold bpt
  by_cases c : p = x + 1
  · subst c
    rw [if_pos (by omega), if_neg (by omega), if_pos rfl]
    unfold bst
    rw [if_neg (fun q => hx (by rw [q.2]; congr 1; omega))]
  by_cases c2 : p = x
  · subst c2
    rw [if_neg (by omega), if_pos (by omega), if_neg (by omega), if_neg (by omega)]
    unfold bin
    rw [if_neg (fun q => hx q.2), Int.add_zero]
  · by_cases c3 : x + 1 < p
    · rw [if_pos (by omega), if_pos c3]
    · rw [if_neg (by omega), if_neg (by omega), if_neg c3, if_neg c]
theorem bpt_y {W V : Int → Int} {n i : Int} {g h : Int → Int} {x p : Int} (h0 : 0 ≤ x) (h1 : x < n) (hx : W i = V x) (hh : h p = if p = x then g x + 1 else if p = x + 1 then (if g x < bin W V n i g (x + 1) then g x else bin W V n i g (x + 1)) else bpt W V n i g x p) : h p = bpt W V n i g (x - 1) p := by
  rw [hh]
  unfold bpt
  by_cases c : p = x
  · subst c
    rw [if_pos rfl, if_neg (by omega), if_pos (by omega)]
    unfold bin
    rw [if_pos ⟨h1, hx⟩]
  by_cases c2 : p = x + 1
  · subst c2
    rw [if_neg c, if_pos rfl, if_pos (show x - 1 + 1 < x + 1 by omega)]
    unfold bst
    rw [if_pos (show 0 < x + 1 ∧ W i = V (x + 1 - 1) from ⟨by omega, by rw [hx]; congr 1; omega⟩), show x + 1 - 1 = x by omega]
  · rw [if_neg c, if_neg c2]
    by_cases c3 : x + 1 < p
    · rw [if_pos c3, if_pos (by omega)]
    · rw [if_neg c3, if_neg c2, if_neg (by omega), if_neg (by omega)]
theorem bst_b {W V : Int → Int} {n i c : Int} {g : Int → Int} (hc : c ≤ 999) (h : ∀ p, 0 ≤ p → p < n → 0 ≤ g p ∧ g p ≤ c) (hn : 0 ≤ g n ∧ g n ≤ 1000) {p : Int} (p0 : 0 ≤ p) (p1 : p ≤ n) : 0 ≤ bst W V n i g p ∧ bst W V n i g p ≤ 1000 ∧ (p < n → bst W V n i g p ≤ c + 1) := by
  have hb : 0 ≤ bin W V n i g p ∧ bin W V n i g p ≤ 1000 ∧ (p < n → bin W V n i g p ≤ c + 1) := by
    unfold bin
    by_cases q : p < n
    · have := h p p0 q
      split <;> omega
    · have e : p = n := by omega
      rw [if_neg (by omega), e]
      omega
  unfold bst
  split
  · have := h (p - 1) (by omega) (by omega)
    split <;> omega
  · exact hb
theorem bJ_b {W V : Int → Int} {n c : Int} {f : Int → Int} (hc : c ≤ 900) (h : ∀ p, 0 ≤ p → p < n → 0 ≤ f p ∧ f p ≤ c) (hn : 0 ≤ f n ∧ f n ≤ 1000) (n0 : 0 ≤ n) : ∀ i : Nat, i ≤ 40 → ∀ p, 0 ≤ p → p ≤ n → 0 ≤ bI W V n f i p ∧ bI W V n f i p ≤ 1000 ∧ (p < n → bI W V n f i p ≤ c + i) := by
  intro i
  induction i with
  | zero =>
    intro _ p p0 p1
    show 0 ≤ f p ∧ f p ≤ 1000 ∧ (p < n → f p ≤ c + ((0 : Nat) : Int))
    by_cases q : p < n
    · have := h p p0 q
      exact ⟨by omega, by omega, fun _ => by omega⟩
    · have e : p = n := by omega
      rw [e]
      exact ⟨hn.1, hn.2, fun q => absurd q (by omega)⟩
  | succ i ih =>
    intro hi p p0 p1
    have ih2 := ih (by omega)
    have := bst_b (W := W) (V := V) (n := n) (i := i) (c := c + i) (g := bI W V n f i) (by omega) (fun p q0 q1 => ⟨(ih2 p q0 (by omega)).1, (ih2 p q0 (by omega)).2.2 q1⟩) ⟨(ih2 n n0 (Int.le_refl _)).1, (ih2 n n0 (Int.le_refl _)).2.1⟩ p0 p1
    show 0 ≤ bst W V n i (bI W V n f i) p ∧ bst W V n i (bI W V n f i) p ≤ 1000 ∧ (p < n → bst W V n i (bI W V n f i) p ≤ c + ((i + 1 : Nat) : Int))
    refine ⟨this.1, this.2.1, fun q => ?_⟩
    have := this.2.2 q
    omega
/-- alike below the cap -/
def cpd (k a b : Int) : Prop := (a < k ∧ a = b) ∨ (k ≤ a ∧ k ≤ b)
theorem bst_c {W V : Int → Int} {n i k : Int} {g h : Int → Int} (hh : ∀ p, 0 ≤ p → p < n → cpd k (g p) (h p)) {p : Int} (p0 : 0 ≤ p) (p1 : p < n) : cpd k (bst W V n i g p) (bst W V n i h p) := by
  have h1 := hh p p0 p1
  unfold bst bin
  unfold cpd at h1 ⊢
  by_cases c : 0 < p ∧ W i = V (p - 1)
  · have h2 := hh (p - 1) (by omega) (by omega)
    unfold cpd at h2
    rw [if_pos c, if_pos c]
    split <;> split <;> split <;> omega
  · rw [if_neg c, if_neg c]
    split <;> omega
theorem bI_c {W V : Int → Int} {n k : Int} {g h : Int → Int} (hh : ∀ p, 0 ≤ p → p < n → cpd k (g p) (h p)) : ∀ (i : Nat) (p : Int), 0 ≤ p → p < n → cpd k (bI W V n g i p) (bI W V n h i p) := by
  intro i
  induction i with
  | zero => exact hh
  | succ i ih => exact fun p p0 p1 => bst_c ih p0 p1
theorem bI_0 {W V : Int → Int} {n : Int} {f : Int → Int} (h : f 0 ≤ 0) : ∀ i : Nat, bI W V n f i 0 ≤ i := by
  intro i
  induction i with
  | zero => exact h
  | succ i ih =>
    show bst W V n i (bI W V n f i) 0 ≤ _
    unfold bst bin
    rw [if_neg (by omega)]
    split <;> omega
def mnN (a : Int) (g : Int → Int) : Nat → Int
  | 0 => a
  | p + 1 => if g p < mnN a g p then g p else mnN a g p
def mnI (a : Int) (g : Int → Int) (x : Int) : Int := mnN a g x.toNat
theorem mnI_s {a : Int} {g : Int → Int} {x : Int} (h : 0 ≤ x) : mnI a g (x + 1) = if g x < mnI a g x then g x else mnI a g x := by
  unfold mnI
  rw [show (x + 1).toNat = x.toNat + 1 by omega]
  show (if g (x.toNat : Int) < mnN a g x.toNat then g (x.toNat : Int) else mnN a g x.toNat) = _
  rw [show ((x.toNat : Nat) : Int) = x by omega]
theorem mnN_eq {k a : Int} {g h : Int → Int} {n : Nat} (hh : ∀ p, 0 ≤ p → p < (n : Int) → cpd k (g p) (h p)) (h0 : h 0 < k) (ka : k ≤ a) : ∀ m : Nat, 1 ≤ m → m ≤ n → mnN k g m = mnN a h m ∧ mnN a h m < k := by
  intro m
  induction m with
  | zero => intro h; exact absurd h (by decide)
  | succ m ih =>
    intro _ hm
    have hp := hh m (by omega) (by omega)
    unfold cpd at hp
    by_cases c : m = 0
    · subst c
      unfold mnN mnN
      rw [show ((0 : Nat) : Int) = 0 from rfl] at hp ⊢
      rw [if_pos (by omega), if_pos (by omega)]
      omega
    · have := ih (by omega) (by omega)
      unfold mnN
      split <;> split <;> omega
theorem mnI_b {a : Int} {g : Int → Int} {lo hi : Int} {n : Nat} (ha : lo ≤ a ∧ a ≤ hi) (hg : ∀ p, 0 ≤ p → p < (n : Int) → lo ≤ g p ∧ g p ≤ hi) : ∀ m : Nat, m ≤ n → lo ≤ mnN a g m ∧ mnN a g m ≤ hi := by
  intro m
  induction m with
  | zero => exact fun _ => ha
  | succ m ih =>
    intro hm
    have h1 := ih (by omega)
    have h2 := hg m (by omega) (by omega)
    unfold mnN
    split <;> omega
theorem mnN_cg {a : Int} {g h : Int → Int} {n : Nat} (hh : ∀ p, 0 ≤ p → p < (n : Int) → g p = h p) : ∀ m : Nat, m ≤ n → mnN a g m = mnN a h m := by
  intro m
  induction m with
  | zero => exact fun _ => rfl
  | succ m ih =>
    intro hm
    unfold mnN
    rw [ih (by omega), hh m (by omega) (by omega)]
theorem X.gone {S M M2 : Mem} (h : X S M) (ho : off 14 14 M M2) (hg : ∀ i, 0 ≤ i → i < 41 → 0 ≤ M2 14 i ∧ M2 14 i ≤ 1000) : X S M2 := by
  obtain ⟨h1, h2, h3, h4, h5, h6, h7, h8⟩ := h
  refine ⟨fun r q1 q2 => ?_, fun r q1 q2 => ?_, fun r q1 q2 => ?_, by rw [ho 1 (by omega)]; exact h4, by rw [ho 5 (by omega)]; exact h5, by rw [ho 31 (by omega), ho 32 (by omega), ho 33 (by omega)]; exact h6, hg, by rw [ho 23 (by omega), ho (-1) (by omega)]; exact h8⟩
  · rw [ho (35 + 2 * r) (by omega), ho (35 + 2 * r + 1) (by omega)]; exact h1 r q1 q2
  · rw [ho (47 + 2 * r) (by omega), ho (47 + 2 * r + 1) (by omega)]; exact h2 r q1 q2
  · rw [ho (55 + 3 * r) (by omega), ho (55 + 3 * r + 1) (by omega), ho (55 + 3 * r + 1 + 1) (by omega)]; exact h3 r q1 q2
def bF (M : Mem) (nw nv p : Int) : Int := if p = 0 then 0 else if p < nv then nw + 1 else M 14 p
theorem c_bar {M : Mem} {a1 a2 nw nv k : Int} {W V : Int → Int} {Q : Vl → Mem → Prop} (h1 : isL a1 40) (h2 : isL a2 40) (l1 : lnX M a1 nw W) (l2 : lnX M a2 nv V) (b1 : wdB nw W k) (b2 : wdB nv V k) (nv1 : 1 ≤ nv) (hg : ∀ i, 0 ≤ i → i < 41 → 0 ≤ M 14 i ∧ M 14 i ≤ 1000) (hq : ∀ M2, off 14 14 M M2 → (∀ i, 0 ≤ i → i < 41 → 0 ≤ M2 14 i ∧ M2 14 i ≤ 1000) → Q (Iv (mnI (nw + 1) (bJ W V nv (bF M nw nv) nw) nv)) M2) : cl 0 yX7_fewestToBar [Rv 10, Rv a1, Rv a2] M Q := by
  have ha1 := h1.1
  have ha2 := h2.1
  obtain ⟨n0, n1, k0, k1, hw⟩ := b1
  obtain ⟨m0, m1, -, -, hv⟩ := b2
  have gb : ∀ i : Int, 0 ≤ i → i ≤ nw → ∀ p, 0 ≤ p → p ≤ nv → 0 ≤ bJ W V nv (bF M nw nv) i p ∧ bJ W V nv (bF M nw nv) i p ≤ 1000 := by
    intro i i0 i1 p p0 p1
    have := bJ_b (W := W) (V := V) (n := nv) (c := 41) (f := bF M nw nv) (by decide) (fun p p0 p1 => by unfold bF; split <;> (try split) <;> omega) (by have := hg nv (by omega) (by omega); unfold bF; rw [if_neg (by omega), if_neg (by omega)]; exact this) m0 i.toNat (by omega) p p0 p1
    exact ⟨this.1, this.2.1⟩
  have outer : ∀ M2, off 14 14 M M2 → (∀ j, 0 ≤ j → j ≤ 40 → M2 14 j = if j ≤ nv then bJ W V nv (bF M nw nv) 0 j else M 14 j) → wp 0 yX7_fewestToBar 43 [some (Rv 10), some (Rv a1), some (Rv a2), some (Iv (nw + 1)), some (Iv 0), none] [] M2 Q := by
    refine up_ind (P := fun i => ∀ M2, off 14 14 M M2 → (∀ j, 0 ≤ j → j ≤ 40 → M2 14 j = if j ≤ nv then bJ W V nv (bF M nw nv) i j else M 14 j) → wp 0 yX7_fewestToBar 43 [some (Rv 10), some (Rv a1), some (Rv a2), some (Iv (nw + 1)), some (Iv i), none] [] M2 Q) (a := 0) (n := nw) n0 (fun M2 o2 c2 => ?_) (fun i i0 i1 ih M2 o2 c2 => ?_)
    · obtain ⟨e1, -⟩ := l1.off o2 (by omega)
      obtain ⟨e2, -⟩ := l2.off o2 (by omega)
      refine gX7_fewestToBar_43 h1 h2 ⟨⟨by omega, by omega⟩, ⟨by omega, by omega⟩, fun _ => ?_, fun q => absurd q (by omega)⟩
      have mb : ∀ x : Int, 0 ≤ x → x ≤ nv → 0 ≤ mnI (nw + 1) (bJ W V nv (bF M nw nv) nw) x ∧ mnI (nw + 1) (bJ W V nv (bF M nw nv) nw) x ≤ 1000 := fun x x0 x1 => mnI_b (n := nv.toNat) (by omega) (fun p p0 p1 => gb nw n0 (Int.le_refl _) p p0 (by omega)) x.toNat (by omega)
      refine up_ind (P := fun x => wp 0 yX7_fewestToBar 139 [some (Rv 10), some (Rv a1), some (Rv a2), some (Iv (nw + 1)), some (Iv (mnI (nw + 1) (bJ W V nv (bF M nw nv) nw) x)), some (Iv x)] [] M2 Q) (a := 0) (n := nv) m0 ?_ (fun x x0 x1 ih => ?_)
      · refine gX7_fewestToBar_139 h1 h2 ⟨⟨by omega, by omega⟩, ⟨by omega, by omega⟩, fun _ => hq M2 o2 (fun i i0 i1 => ?_), fun q => absurd q (by omega)⟩
        rw [c2 i i0 (by omega)]
        split
        · exact gb nw n0 (Int.le_refl _) i i0 (by omega)
        · exact hg i i0 i1
      · have cx := c2 x x0 (by omega)
        rw [if_pos (by omega)] at cx
        have b1 := gb nw n0 (Int.le_refl _) x x0 (by omega)
        have b2 := mb x x0 (by omega)
        refine gX7_fewestToBar_139 h1 h2 ⟨⟨by omega, by omega⟩, ⟨by omega, by omega⟩, fun q => absurd q (by omega), fun _ => ⟨x0, by omega, ⟨by omega, by omega⟩, ⟨by omega, by omega⟩, ?_⟩⟩
        rw [cx]
        rw [mnI_s x0] at ih
        exact ih
    · obtain ⟨e1, -⟩ := l1.off o2 (by omega)
      obtain ⟨e2, -⟩ := l2.off o2 (by omega)
      refine gX7_fewestToBar_43 h1 h2 ⟨⟨by omega, by omega⟩, ⟨by omega, by omega⟩, fun q => absurd q (by omega), fun _ => ?_⟩
      rw [e2]
      have inner : ∀ M3, off 14 14 M M3 → (∀ j, 0 ≤ j → j ≤ 40 → M3 14 j = if j ≤ nv then bpt W V nv i (bJ W V nv (bF M nw nv) i) (nv - 1) j else M 14 j) → wp 0 yX7_fewestToBar 60 [some (Rv 10), some (Rv a1), some (Rv a2), some (Iv (nw + 1)), some (Iv i), some (Iv (nv - 1))] [] M3 Q := by
        refine dn_ind (P := fun x => ∀ M3, off 14 14 M M3 → (∀ j, 0 ≤ j → j ≤ 40 → M3 14 j = if j ≤ nv then bpt W V nv i (bJ W V nv (bF M nw nv) i) x j else M 14 j) → wp 0 yX7_fewestToBar 60 [some (Rv 10), some (Rv a1), some (Rv a2), some (Iv (nw + 1)), some (Iv i), some (Iv x)] [] M3 Q) (a := -1) (n := nv - 1) (by omega) (fun M3 o3 c3 => ?_) (fun x x0 x1 ih2 M3 o3 c3 => ?_)
        · refine gX7_fewestToBar_60 h1 h2 ⟨by decide, fun _ => ih M3 o3 (fun j j0 j1 => ?_), fun q => absurd q (by decide)⟩
          rw [c3 j j0 j1, bJ_s i0]
          split
          · exact bpt_e j0
          · rfl
        · have f1 := (l1.off o3 (by omega)).2 i i0 i1
          have f2 := (l2.off o3 (by omega)).2 x (by omega) (by omega)
          have g1 := hw i i0 i1
          have g2 := hv x (by omega) (by omega)
          have q1 := c3 x (by omega) (by omega)
          have q2 := c3 (x + 1) (by omega) (by omega)
          rw [if_pos (by omega)] at q1 q2
          have q3 : bpt W V nv i (bJ W V nv (bF M nw nv) i) x x = bJ W V nv (bF M nw nv) i x := by unfold bpt; rw [if_neg (by omega), if_neg (by omega)]
          have q4 : bpt W V nv i (bJ W V nv (bF M nw nv) i) x (x + 1) = bin W V nv i (bJ W V nv (bF M nw nv) i) (x + 1) := by unfold bpt; rw [if_neg (by omega), if_pos rfl]
          rw [q3] at q1
          rw [q4] at q2
          have b1 := gb i i0 (by omega) x (by omega) (by omega)
          have b2 := gb i i0 (by omega) (x + 1) (by omega) (by omega)
          have b3 : 0 ≤ bin W V nv i (bJ W V nv (bF M nw nv) i) (x + 1) ∧ bin W V nv i (bJ W V nv (bF M nw nv) i) (x + 1) ≤ 1001 := by unfold bin; split <;> omega
          refine gX7_fewestToBar_60 h1 h2 ⟨⟨by omega, by omega⟩, fun q => absurd q (by omega), fun _ => ⟨i0, by omega, ⟨by omega, by omega⟩, by omega, Or.inr ⟨⟨by omega, by omega⟩, ⟨by omega, by omega⟩⟩, fun q => ?_, fun q => ⟨by omega, by omega, by omega, ⟨by omega, by omega⟩, ⟨by omega, by omega⟩, ?_⟩⟩⟩
          · refine ih2 M3 o3 (fun j j0 j1 => ?_)
            rw [c3 j j0 j1]
            split
            · exact (bpt_n (by omega) (by omega) (by rw [← f1, ← f2]; exact q)).symm
            · rfl
          · refine ih2 _ ((o3.upd (by decide) (by decide)).upd (by decide) (by decide)) (fun j j0 j1 => ?_)
            rw [up_at, up_at, up_at, if_neg (show ¬ (x = x + 1) by omega), q1, q2]
            by_cases cj : j ≤ nv
            · rw [if_pos cj]
              refine bpt_y (h := fun j => if j = x then bJ W V nv (bF M nw nv) i x + 1 else if j = x + 1 then (if bJ W V nv (bF M nw nv) i x < bin W V nv i (bJ W V nv (bF M nw nv) i) (x + 1) then bJ W V nv (bF M nw nv) i x else bin W V nv i (bJ W V nv (bF M nw nv) i) (x + 1)) else M3 14 j) (by omega) (by omega) (by rw [← f1, ← f2]; exact q) ?_
              show (if j = x then _ else if j = x + 1 then _ else M3 14 j) = _
              rw [c3 j j0 j1, if_pos cj]
            · rw [if_neg cj, if_neg (by omega), if_neg (by omega), c3 j j0 j1, if_neg cj]
      exact inner M2 o2 (fun j j0 j1 => by
        rw [c2 j j0 j1]
        split
        · exact (bpt_0 (by omega)).symm
        · rfl)
  have fill : ∀ M2, off 14 14 M M2 → (∀ j, 0 ≤ j → j ≤ 40 → M2 14 j = if j < 1 then bF M nw nv j else M 14 j) → wp 0 yX7_fewestToBar 17 [some (Rv 10), some (Rv a1), some (Rv a2), some (Iv (nw + 1)), some (Iv 1), none] [] M2 Q := by
    refine up_ind (P := fun x => ∀ M2, off 14 14 M M2 → (∀ j, 0 ≤ j → j ≤ 40 → M2 14 j = if j < x then bF M nw nv j else M 14 j) → wp 0 yX7_fewestToBar 17 [some (Rv 10), some (Rv a1), some (Rv a2), some (Iv (nw + 1)), some (Iv x), none] [] M2 Q) (a := 1) (n := nv) nv1 (fun M2 o2 c2 => ?_) (fun x x0 x1 ih M2 o2 c2 => ?_)
    · obtain ⟨e2, -⟩ := l2.off o2 (by omega)
      refine gX7_fewestToBar_17 h1 h2 ⟨⟨by omega, by omega⟩, ⟨by omega, by omega⟩, fun _ => outer M2 o2 (fun j j0 j1 => ?_), fun q => absurd q (by omega)⟩
      rw [c2 j j0 j1]
      show _ = if j ≤ nv then bF M nw nv j else M 14 j
      by_cases c : j < nv
      · rw [if_pos c, if_pos (by omega)]
      · rw [if_neg c]
        split
        · unfold bF
          rw [if_neg (by omega), if_neg (by omega)]
        · rfl
    · obtain ⟨e2, -⟩ := l2.off o2 (by omega)
      refine gX7_fewestToBar_17 h1 h2 ⟨⟨by omega, by omega⟩, ⟨by omega, by omega⟩, fun q => absurd q (by omega), fun _ => ⟨by omega, by omega, ih _ (o2.upd (by decide) (by decide)) (fun j j0 j1 => ?_)⟩⟩
      rw [up_at, c2 j j0 j1]
      by_cases c : j = x
      · rw [if_pos c, if_pos (by omega)]
        unfold bF
        rw [if_neg (by omega), if_pos (by omega)]
      · rw [if_neg c]
        by_cases c2 : j < x
        · rw [if_pos c2, if_pos (by omega)]
        · rw [if_neg c2, if_neg (by omega)]
  refine eX7_fewestToBar h1 h2 ?_
  rw [l1.1]
  refine fill _ (off.rf.upd (by decide) (by decide)) (fun j j0 j1 => ?_)
  rw [up_at]
  by_cases c : j = 0
  · rw [if_pos c, if_pos (by omega)]
    unfold bF
    rw [if_pos c]
  · rw [if_neg c, if_neg (by omega)]
def bG (p : Int) : Int := if p = 0 then 0 else 1000
theorem op_bar {S : Mem} (hW : WF S) {w v : Int} (hw : inr w) (hv : inr v) : OpOK S yX11_bar yX12_bar [Iv w, Iv v] Iv := by
  by_cases c1 : (w < 0 ∨ 8 ≤ w) ∨ (v < 0 ∨ 8 ≤ v)
  · refine ⟨-1, S, hW, fun M hX => eX11_bar ?_, fun M hY => eX12_bar ?_⟩
    · repeat' first
        | omega
        | exact px_rf hX _
        | exact px_fnd hX _ (by decide) (by decide)
        | refine c_noRow ?_ (fun q => ?_) (fun q => ?_)
        | refine c_noText ?_ (fun q => ?_) (fun q => ?_)
        | refine c_noWord ?_ (fun q => ?_) (fun q => ?_)
        | refine c_noLength ?_ (fun q => ?_) (fun q => ?_)
        | refine c_found (by decide) ?_
        | refine c_refuseRow hW hX ?_ (fun q => ?_) (fun q => ?_) (fun q => ?_)
        | refine c_refusePlace hW hX ?_ ?_ (fun q => ?_) (fun q => ?_) (fun q => ?_) (fun q => ?_)
        | refine c_refuseText hW hX ?_ (fun q => ?_) (fun q => ?_) (fun q => ?_)
        | refine c_refuseWords hW hX ?_ ?_ (fun q => ?_) (fun q => ?_) (fun q => ?_)
        | refine c_refuseWord hW hX ?_ (fun q => ?_) (fun q => ?_) (fun q => ?_)
        | refine c_has hL ?_ ?_ (fun q => ?_) (fun q => ?_)
        | refine c_isMissing hL ?_ (fun q => ?_) (fun q => ?_)
        | refine c_reaches hL ?_ ?_ (fun q => ?_) (fun q => ?_)
        | refine c_has hL2 ?_ ?_ (fun q => ?_) (fun q => ?_)
        | refine c_isMissing hL2 ?_ (fun q => ?_) (fun q => ?_)
        | refine c_reaches hL2 ?_ ?_ (fun q => ?_) (fun q => ?_)
        | refine c_is hWd ?_ ?_ (fun q => ?_) (fun q => ?_)
        | refine c_markOf hWd ?_ (fun q => ?_) (fun q => ?_)
        | with_reducible refine ⟨?_, ?_⟩
        | with_reducible intro q
    · repeat' first
        | omega
        | exact py_rf hY _
        | exact py_fnd hY _ (by decide) (by decide)
        | refine m_isRow ?_ (fun q => ?_) (fun q => ?_)
        | refine m_isText ?_ (fun q => ?_) (fun q => ?_)
        | refine m_isWord ?_ (fun q => ?_) (fun q => ?_)
        | refine m_in ?_ ?_ ?_ (fun q => ?_) (fun q => ?_)
        | refine m_meets (by decide) ?_
        | refine m_needWord hW hY ?_ ?_ (fun q => ?_) (fun q => ?_) (fun q => ?_)
        | refine m_needTwo hW hY ?_ ?_ ?_ (fun q => ?_) (fun q => ?_) (fun q => ?_)
        | refine m_isThere ?_ ?_ ?_ (fun q => ?_) (fun q => ?_)
        | refine m_at0 ?_ ?_ ?_
        | refine m_rowAt ?_ ?_ ?_
        | refine m_markOf ?_ ?_ ?_ (fun q => ?_) (fun q => ?_) (fun q => ?_)
        | with_reducible refine ⟨?_, ?_⟩
        | with_reducible intro q
  have w0 : 0 ≤ w := by omega
  have w8 : w < 8 := by omega
  have v0 : 0 ≤ v := by omega
  have v8 : v < 8 := by omega
  by_cases c3 : S (30 + w) (-1) < 0 ∨ S (30 + v) (-1) < 0
  · refine ⟨-3, fS S 1, hW.fnd 1, fun M hX => eX11_bar ?_, fun M hY => eX12_bar ?_⟩
    · repeat' first
        | omega
        | exact px_rf hX _
        | exact px_fnd hX _ (by decide) (by decide)
        | refine c_noRow ?_ (fun q => ?_) (fun q => ?_)
        | refine c_noText ?_ (fun q => ?_) (fun q => ?_)
        | refine c_noWord ?_ (fun q => ?_) (fun q => ?_)
        | refine c_noLength ?_ (fun q => ?_) (fun q => ?_)
        | refine c_found (by decide) ?_
        | refine c_refuseRow hW hX ?_ (fun q => ?_) (fun q => ?_) (fun q => ?_)
        | refine c_refusePlace hW hX ?_ ?_ (fun q => ?_) (fun q => ?_) (fun q => ?_) (fun q => ?_)
        | refine c_refuseText hW hX ?_ (fun q => ?_) (fun q => ?_) (fun q => ?_)
        | refine c_refuseWords hW hX ?_ ?_ (fun q => ?_) (fun q => ?_) (fun q => ?_)
        | refine c_refuseWord hW hX ?_ (fun q => ?_) (fun q => ?_) (fun q => ?_)
        | refine c_has hL ?_ ?_ (fun q => ?_) (fun q => ?_)
        | refine c_isMissing hL ?_ (fun q => ?_) (fun q => ?_)
        | refine c_reaches hL ?_ ?_ (fun q => ?_) (fun q => ?_)
        | refine c_has hL2 ?_ ?_ (fun q => ?_) (fun q => ?_)
        | refine c_isMissing hL2 ?_ (fun q => ?_) (fun q => ?_)
        | refine c_reaches hL2 ?_ ?_ (fun q => ?_) (fun q => ?_)
        | refine c_is hWd ?_ ?_ (fun q => ?_) (fun q => ?_)
        | refine c_markOf hWd ?_ (fun q => ?_) (fun q => ?_)
        | with_reducible refine ⟨?_, ?_⟩
        | with_reducible intro q
    · repeat' first
        | omega
        | exact py_rf hY _
        | exact py_fnd hY _ (by decide) (by decide)
        | refine m_isRow ?_ (fun q => ?_) (fun q => ?_)
        | refine m_isText ?_ (fun q => ?_) (fun q => ?_)
        | refine m_isWord ?_ (fun q => ?_) (fun q => ?_)
        | refine m_in ?_ ?_ ?_ (fun q => ?_) (fun q => ?_)
        | refine m_meets (by decide) ?_
        | refine m_needWord hW hY ?_ ?_ (fun q => ?_) (fun q => ?_) (fun q => ?_)
        | refine m_needTwo hW hY ?_ ?_ ?_ (fun q => ?_) (fun q => ?_) (fun q => ?_)
        | refine m_isThere ?_ ?_ ?_ (fun q => ?_) (fun q => ?_)
        | refine m_at0 ?_ ?_ ?_
        | refine m_rowAt ?_ ?_ ?_
        | refine m_markOf ?_ ?_ ?_ (fun q => ?_) (fun q => ?_) (fun q => ?_)
        | with_reducible refine ⟨?_, ?_⟩
        | with_reducible intro q
  have bw := hW.wd w0 w8 (by omega)
  have bv := hW.wd v0 v8 (by omega)
  by_cases c4 : S (30 + v) (-1) = 0
  · refine ⟨-4, S, hW, fun M hX => eX11_bar ?_, fun M hY => eX12_bar ?_⟩
    · have e2 := (hX.ln v0 v8).1
      repeat' first
        | omega
        | exact px_rf hX _
        | exact px_fnd hX _ (by decide) (by decide)
        | refine c_noRow ?_ (fun q => ?_) (fun q => ?_)
        | refine c_noText ?_ (fun q => ?_) (fun q => ?_)
        | refine c_noWord ?_ (fun q => ?_) (fun q => ?_)
        | refine c_noLength ?_ (fun q => ?_) (fun q => ?_)
        | refine c_found (by decide) ?_
        | refine c_refuseRow hW hX ?_ (fun q => ?_) (fun q => ?_) (fun q => ?_)
        | refine c_refusePlace hW hX ?_ ?_ (fun q => ?_) (fun q => ?_) (fun q => ?_) (fun q => ?_)
        | refine c_refuseText hW hX ?_ (fun q => ?_) (fun q => ?_) (fun q => ?_)
        | refine c_refuseWords hW hX ?_ ?_ (fun q => ?_) (fun q => ?_) (fun q => ?_)
        | refine c_refuseWord hW hX ?_ (fun q => ?_) (fun q => ?_) (fun q => ?_)
        | refine c_has hL ?_ ?_ (fun q => ?_) (fun q => ?_)
        | refine c_isMissing hL ?_ (fun q => ?_) (fun q => ?_)
        | refine c_reaches hL ?_ ?_ (fun q => ?_) (fun q => ?_)
        | refine c_has hL2 ?_ ?_ (fun q => ?_) (fun q => ?_)
        | refine c_isMissing hL2 ?_ (fun q => ?_) (fun q => ?_)
        | refine c_reaches hL2 ?_ ?_ (fun q => ?_) (fun q => ?_)
        | refine c_is hWd ?_ ?_ (fun q => ?_) (fun q => ?_)
        | refine c_markOf hWd ?_ (fun q => ?_) (fun q => ?_)
        | with_reducible refine ⟨?_, ?_⟩
        | with_reducible intro q
    · have e2 := (hY.ln v0 v8).1
      repeat' first
        | omega
        | exact py_rf hY _
        | exact py_fnd hY _ (by decide) (by decide)
        | refine m_isRow ?_ (fun q => ?_) (fun q => ?_)
        | refine m_isText ?_ (fun q => ?_) (fun q => ?_)
        | refine m_isWord ?_ (fun q => ?_) (fun q => ?_)
        | refine m_in ?_ ?_ ?_ (fun q => ?_) (fun q => ?_)
        | refine m_meets (by decide) ?_
        | refine m_needWord hW hY ?_ ?_ (fun q => ?_) (fun q => ?_) (fun q => ?_)
        | refine m_needTwo hW hY ?_ ?_ ?_ (fun q => ?_) (fun q => ?_) (fun q => ?_)
        | refine m_isThere ?_ ?_ ?_ (fun q => ?_) (fun q => ?_)
        | refine m_at0 ?_ ?_ ?_
        | refine m_rowAt ?_ ?_ ?_
        | refine m_markOf ?_ ?_ ?_ (fun q => ?_) (fun q => ?_) (fun q => ?_)
        | with_reducible refine ⟨?_, ?_⟩
        | with_reducible intro q
  obtain ⟨n0, n1, k0, k1, hw'⟩ := bw
  obtain ⟨m0, m1, -, -, hv'⟩ := bv
  refine ⟨mnI 1000 (bJ (S (30 + w)) (S (30 + v)) (S (30 + v) (-1)) bG (S (30 + w) (-1))) (S (30 + v) (-1)), S, hW, fun M hX => eX11_bar ?_, fun M hY => eX12_bar ?_⟩
  · have e2 := (hX.ln v0 v8).1
    refine c_refuseWords hW hX hw hv (fun q => absurd q (by omega)) (fun q => absurd q (by omega)) (fun q => ⟨by decide, fun _ => ⟨v0, v8, ⟨by omega, by omega⟩, fun q2 => ⟨w0, w8, ?_⟩, fun q2 => absurd q2 (by omega)⟩, fun q => absurd rfl q⟩)
    refine c_bar (k := S 0 0) (isW_word w0 w8).l (isW_word v0 v8).l (hX.ln w0 w8) (hX.ln v0 v8) ⟨n0, n1, k0, k1, hw'⟩ ⟨m0, m1, k0, k1, hv'⟩ (by omega) hX.2.2.2.2.2.2.1 (fun M2 o2 g2 => ⟨?_, hX.gone o2 g2, o2.fx (by decide) (by decide)⟩)
    have h0 := bI_0 (W := S (30 + w)) (V := S (30 + v)) (n := S (30 + v) (-1)) (f := bG) (by unfold bG; decide) (S (30 + w) (-1)).toNat
    have := mnN_eq (k := S (30 + w) (-1) + 1) (a := 1000) (n := (S (30 + v) (-1)).toNat) (g := bJ (S (30 + w)) (S (30 + v)) (S (30 + v) (-1)) (bF M (S (30 + w) (-1)) (S (30 + v) (-1))) (S (30 + w) (-1))) (h := bJ (S (30 + w)) (S (30 + v)) (S (30 + v) (-1)) bG (S (30 + w) (-1))) (fun p p0 p1 => bI_c (fun p p0 p1 => by
      unfold cpd bF bG
      by_cases c : p = 0
      · rw [if_pos c, if_pos c]; omega
      · rw [if_neg c, if_neg c, if_pos p1]; omega) _ p p0 (by omega)) (by unfold bJ; omega) (by omega) (S (30 + v) (-1)).toNat (by omega) (Nat.le_refl _)
    unfold mnI
    rw [this.1]
  · have e2 := (hY.ln v0 v8).1
    refine m_needTwo hW hY (Or.inr rfl) hw hv (fun q => absurd q (by omega)) (fun q => absurd q (by omega)) (fun q => ⟨by decide, fun _ => ⟨v0, v8, ⟨by omega, by omega⟩, fun q2 => ?_, fun q2 => absurd q2 (by omega)⟩, fun q => absurd q (by decide)⟩)
    rw [e2]
    have gb : ∀ i : Int, 0 ≤ i → i ≤ S (30 + w) (-1) → ∀ p, 0 ≤ p → p ≤ S (30 + v) (-1) → 0 ≤ bJ (S (30 + w)) (S (30 + v)) (S (30 + v) (-1)) bG i p ∧ bJ (S (30 + w)) (S (30 + v)) (S (30 + v) (-1)) bG i p ≤ 1040 := by
      intro i i0 i1
      have key : ∀ m : Nat, m ≤ 40 → ∀ p, 0 ≤ p → p ≤ S (30 + v) (-1) → 0 ≤ bI (S (30 + w)) (S (30 + v)) (S (30 + v) (-1)) bG m p ∧ bI (S (30 + w)) (S (30 + v)) (S (30 + v) (-1)) bG m p ≤ 1000 + m := by
        intro m
        induction m with
        | zero => intro _ p p0 p1; show 0 ≤ bG p ∧ bG p ≤ _; unfold bG; split <;> omega
        | succ m ih =>
          intro hm p p0 p1
          have h1 := ih (by omega) p p0 p1
          show 0 ≤ bst _ _ _ _ _ p ∧ bst _ _ _ _ _ p ≤ _
          unfold bst bin
          by_cases c : 0 < p ∧ S (30 + w) m = S (30 + v) (p - 1)
          · have h2 := ih (by omega) (p - 1) (by omega) (by omega)
            rw [if_pos c]
            split <;> split <;> omega
          · rw [if_neg c]
            split <;> omega
      intro p p0 p1
      have := key i.toNat (by omega) p p0 p1
      unfold bJ
      omega
    have outer : ∀ M2, off 106 106 M M2 → (∀ j, 0 ≤ j → j ≤ S (30 + v) (-1) → M2 106 j = bJ (S (30 + w)) (S (30 + v)) (S (30 + v) (-1)) bG 0 j) → wp 0 yX12_bar 68 [some (Rv 88), some (Iv w), some (Iv v), some (Iv 0), some (Iv (S (30 + v) (-1))), some (Iv 0), none] [] M2 (PY S (Iv (mnI 1000 (bJ (S (30 + w)) (S (30 + v)) (S (30 + v) (-1)) bG (S (30 + w) (-1))) (S (30 + v) (-1)))) M) := by
      refine up_ind (P := fun i => ∀ M2, off 106 106 M M2 → (∀ j, 0 ≤ j → j ≤ S (30 + v) (-1) → M2 106 j = bJ (S (30 + w)) (S (30 + v)) (S (30 + v) (-1)) bG i j) → wp 0 yX12_bar 68 [some (Rv 88), some (Iv w), some (Iv v), some (Iv 0), some (Iv (S (30 + v) (-1))), some (Iv i), none] [] M2 (PY S (Iv (mnI 1000 (bJ (S (30 + w)) (S (30 + v)) (S (30 + v) (-1)) bG (S (30 + w) (-1))) (S (30 + v) (-1)))) M)) (a := 0) (n := S (30 + w) (-1)) n0 (fun M2 o2 c2 => ?_) (fun i i0 i1 ih M2 o2 c2 => ?_)
      · obtain ⟨e1, -⟩ := (hY.ln w0 w8).off o2 (by omega)
        refine gX12_bar_68 ⟨w0, w8, ⟨by omega, by omega⟩, ⟨by omega, by omega⟩, fun _ => ?_, fun q => absurd q (by omega)⟩
        have mb : ∀ x : Int, 0 ≤ x → x ≤ S (30 + v) (-1) → 0 ≤ mnI 1000 (bJ (S (30 + w)) (S (30 + v)) (S (30 + v) (-1)) bG (S (30 + w) (-1))) x ∧ mnI 1000 (bJ (S (30 + w)) (S (30 + v)) (S (30 + v) (-1)) bG (S (30 + w) (-1))) x ≤ 1040 := fun x x0 x1 => mnI_b (n := (S (30 + v) (-1)).toNat) (by omega) (fun p p0 p1 => gb _ n0 (Int.le_refl _) p p0 (by omega)) x.toNat (by omega)
        refine up_ind (P := fun x => wp 0 yX12_bar 185 [some (Rv 88), some (Iv w), some (Iv v), some (Iv 0), some (Iv (S (30 + v) (-1))), some (Iv (mnI 1000 (bJ (S (30 + w)) (S (30 + v)) (S (30 + v) (-1)) bG (S (30 + w) (-1))) x)), some (Iv x)] [] M2 (PY S (Iv (mnI 1000 (bJ (S (30 + w)) (S (30 + v)) (S (30 + v) (-1)) bG (S (30 + w) (-1))) (S (30 + v) (-1)))) M)) (a := 0) (n := S (30 + v) (-1)) m0 ?_ (fun x x0 x1 ih => ?_)
        · exact gX12_bar_185 ⟨⟨by omega, by omega⟩, ⟨by omega, by omega⟩, fun _ => ⟨rfl, o2.y hY (by decide), o2.fy (by decide)⟩, fun q => absurd q (by omega)⟩
        · have cx := c2 x x0 (by omega)
          have b1 := gb _ n0 (Int.le_refl _) x x0 (by omega)
          have b2 := mb x x0 (by omega)
          rw [mnI_s x0] at ih
          refine gX12_bar_185 ⟨⟨by omega, by omega⟩, ⟨by omega, by omega⟩, fun q => absurd q (by omega), fun _ => ⟨x0, by omega, ⟨by omega, by omega⟩, ⟨by omega, by omega⟩, fun q => ?_, fun q => ?_⟩⟩
          · rw [if_neg (by omega)] at ih
            exact ih
          · rw [if_pos (by omega)] at ih
            rw [cx]
            exact ih
      · obtain ⟨e1, -⟩ := (hY.ln w0 w8).off o2 (by omega)
        refine gX12_bar_68 ⟨w0, w8, ⟨by omega, by omega⟩, ⟨by omega, by omega⟩, fun q => absurd q (by omega), fun _ => ?_⟩
        have inner : ∀ M3, off 106 106 M M3 → (∀ j, 0 ≤ j → j ≤ S (30 + v) (-1) → M3 106 j = bpt (S (30 + w)) (S (30 + v)) (S (30 + v) (-1)) i (bJ (S (30 + w)) (S (30 + v)) (S (30 + v) (-1)) bG i) (S (30 + v) (-1) - 1) j) → wp 0 yX12_bar 85 [some (Rv 88), some (Iv w), some (Iv v), some (Iv 0), some (Iv (S (30 + v) (-1))), some (Iv i), some (Iv (S (30 + v) (-1) - 1))] [] M3 (PY S (Iv (mnI 1000 (bJ (S (30 + w)) (S (30 + v)) (S (30 + v) (-1)) bG (S (30 + w) (-1))) (S (30 + v) (-1)))) M) := by
          refine dn_ind (P := fun x => ∀ M3, off 106 106 M M3 → (∀ j, 0 ≤ j → j ≤ S (30 + v) (-1) → M3 106 j = bpt (S (30 + w)) (S (30 + v)) (S (30 + v) (-1)) i (bJ (S (30 + w)) (S (30 + v)) (S (30 + v) (-1)) bG i) x j) → wp 0 yX12_bar 85 [some (Rv 88), some (Iv w), some (Iv v), some (Iv 0), some (Iv (S (30 + v) (-1))), some (Iv i), some (Iv x)] [] M3 (PY S (Iv (mnI 1000 (bJ (S (30 + w)) (S (30 + v)) (S (30 + v) (-1)) bG (S (30 + w) (-1))) (S (30 + v) (-1)))) M)) (a := -1) (n := S (30 + v) (-1) - 1) (by omega) (fun M3 o3 c3 => ?_) (fun x x0 x1 ih2 M3 o3 c3 => ?_)
          · refine gX12_bar_85 ⟨by decide, fun _ => ih M3 o3 (fun j j0 j1 => ?_), fun q => absurd q (by decide)⟩
            rw [c3 j j0 j1, bJ_s i0]
            exact bpt_e j0
          · have f1 := ((hY.ln w0 w8).off o3 (by omega)).2 i i0 i1
            have f2 := ((hY.ln v0 v8).off o3 (by omega)).2 x (by omega) (by omega)
            have g1 := hw' i i0 i1
            have g2 := hv' x (by omega) (by omega)
            have q1 := c3 x (by omega) (by omega)
            have q2 := c3 (x + 1) (by omega) (by omega)
            have q3 : bpt (S (30 + w)) (S (30 + v)) (S (30 + v) (-1)) i (bJ (S (30 + w)) (S (30 + v)) (S (30 + v) (-1)) bG i) x x = bJ (S (30 + w)) (S (30 + v)) (S (30 + v) (-1)) bG i x := by unfold bpt; rw [if_neg (by omega), if_neg (by omega)]
            have q4 : bpt (S (30 + w)) (S (30 + v)) (S (30 + v) (-1)) i (bJ (S (30 + w)) (S (30 + v)) (S (30 + v) (-1)) bG i) x (x + 1) = bin (S (30 + w)) (S (30 + v)) (S (30 + v) (-1)) i (bJ (S (30 + w)) (S (30 + v)) (S (30 + v) (-1)) bG i) (x + 1) := by unfold bpt; rw [if_neg (by omega), if_pos rfl]
            rw [q3] at q1
            rw [q4] at q2
            have b1 := gb i i0 (by omega) x (by omega) (by omega)
            have b2 := gb i i0 (by omega) (x + 1) (by omega) (by omega)
            have b3 : 0 ≤ bin (S (30 + w)) (S (30 + v)) (S (30 + v) (-1)) i (bJ (S (30 + w)) (S (30 + v)) (S (30 + v) (-1)) bG i) (x + 1) ∧ bin (S (30 + w)) (S (30 + v)) (S (30 + v) (-1)) i (bJ (S (30 + w)) (S (30 + v)) (S (30 + v) (-1)) bG i) (x + 1) ≤ 1041 := by unfold bin; split <;> omega
            refine gX12_bar_85 ⟨⟨by omega, by omega⟩, fun q => absurd q (by omega), fun _ => m_at0 (by omega) (by omega) (m_at0 (by omega) (by omega) ?_)⟩
            rw [f1, f2]
            refine ⟨Or.inr ⟨⟨by omega, by omega⟩, ⟨by omega, by omega⟩⟩, fun q => ?_, fun q => ⟨by omega, by omega, by omega, ⟨by omega, by omega⟩, ⟨by omega, by omega⟩, fun q5 => ?_, fun q5 => ?_⟩⟩
            · refine ih2 M3 o3 (fun j j0 j1 => ?_)
              rw [c3 j j0 j1]
              exact (bpt_n (by omega) (by omega) q).symm
            · refine ih2 _ ((o3.upd (by decide) (by decide)).upd (by decide) (by decide)) (fun j j0 j1 => ?_)
              rw [up_at, up_at, up_at, if_neg (show ¬ (x = x + 1) by omega), q1, q2]
              refine bpt_y (h := fun j => if j = x then bJ (S (30 + w)) (S (30 + v)) (S (30 + v) (-1)) bG i x + 1 else if j = x + 1 then bin (S (30 + w)) (S (30 + v)) (S (30 + v) (-1)) i (bJ (S (30 + w)) (S (30 + v)) (S (30 + v) (-1)) bG i) (x + 1) else M3 106 j) (by omega) (by omega) q ?_
              show (if j = x then _ else if j = x + 1 then _ else M3 106 j) = _
              rw [c3 j j0 j1, if_neg (show ¬ (bJ (S (30 + w)) (S (30 + v)) (S (30 + v) (-1)) bG i x < bin (S (30 + w)) (S (30 + v)) (S (30 + v) (-1)) i (bJ (S (30 + w)) (S (30 + v)) (S (30 + v) (-1)) bG i) (x + 1)) by omega)]
            · refine ih2 _ ((o3.upd (by decide) (by decide)).upd (by decide) (by decide)) (fun j j0 j1 => ?_)
              rw [up_at, up_at, up_at, if_neg (show ¬ (x = x + 1) by omega), q1]
              refine bpt_y (h := fun j => if j = x then bJ (S (30 + w)) (S (30 + v)) (S (30 + v) (-1)) bG i x + 1 else if j = x + 1 then bJ (S (30 + w)) (S (30 + v)) (S (30 + v) (-1)) bG i x else M3 106 j) (by omega) (by omega) q ?_
              show (if j = x then _ else if j = x + 1 then _ else M3 106 j) = _
              rw [c3 j j0 j1, if_pos (show bJ (S (30 + w)) (S (30 + v)) (S (30 + v) (-1)) bG i x < bin (S (30 + w)) (S (30 + v)) (S (30 + v) (-1)) i (bJ (S (30 + w)) (S (30 + v)) (S (30 + v) (-1)) bG i) (x + 1) by omega)]
        exact inner M2 o2 (fun j j0 j1 => by rw [c2 j j0 j1]; exact (bpt_0 (by omega)).symm)
    refine up_ind (P := fun x => ∀ M2, off 106 106 M M2 → (∀ j, 0 ≤ j → j < x → M2 106 j = bG j) → wp 0 yX12_bar 33 [some (Rv 88), some (Iv w), some (Iv v), some (Iv 0), some (Iv (S (30 + v) (-1))), some (Iv x), none] [] M2 (PY S (Iv (mnI 1000 (bJ (S (30 + w)) (S (30 + v)) (S (30 + v) (-1)) bG (S (30 + w) (-1))) (S (30 + v) (-1)))) M)) (a := 0) (n := S (30 + v) (-1) + 1) (by omega) (fun M2 o2 c2 => ?_) (fun x x0 x1 ih M2 o2 c2 => ?_) M off.rf (fun j j0 j1 => absurd j1 (by omega))
    · exact gX12_bar_33 ⟨⟨by omega, by omega⟩, ⟨by omega, by omega⟩, fun _ => outer M2 o2 (fun j j0 j1 => c2 j j0 (by omega)), fun q => absurd q (by omega)⟩
    · refine gX12_bar_33 ⟨⟨by omega, by omega⟩, ⟨by omega, by omega⟩, fun q => absurd q (by omega), fun _ => ⟨fun q => ⟨x0, by omega, ih _ (o2.upd (by decide) (by decide)) (fun j j0 j1 => ?_)⟩, fun q => ⟨x0, by omega, ih _ (o2.upd (by decide) (by decide)) (fun j j0 j1 => ?_)⟩⟩⟩
      · rw [up_at]
        by_cases c : j = x
        · rw [if_pos c]; unfold bG; rw [if_neg (by omega)]
        · rw [if_neg c]; exact c2 j j0 (by omega)
      · rw [up_at, if_pos (by omega)]
        unfold bG
        rw [if_pos (by omega)]
