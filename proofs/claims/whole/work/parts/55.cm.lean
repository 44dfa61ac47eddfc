/-! 36 common: how long the longest word is that stands in all, from places on -/
def fam (L : Int → Int → Int) (N : Int → Int) (r k : Int) : Prop := 1 ≤ r ∧ r ≤ 4 ∧ ∀ s, 0 ≤ s → s < r → wdB (N s) (L s) k
theorem fam.n {L : Int → Int → Int} {N : Int → Int} {r k : Int} (h : fam L N r k) : nnn N r := fun s s0 s1 => ⟨(h.2.2 s s0 s1).1, (h.2.2 s s0 s1).2.1⟩
theorem fam.k {L : Int → Int → Int} {N : Int → Int} {r k : Int} (h : fam L N r k) : 1 ≤ k ∧ k ≤ 6 := ⟨(h.2.2 0 (Int.le_refl 0) (by have := h.1; omega)).2.2.1, (h.2.2 0 (Int.le_refl 0) (by have := h.1; omega)).2.2.2.1⟩
def nv (L : Int → Int → Int) (N p : Int → Int) (x s : Int) : Int := bh (L s) (N s) (p s) x
def okN (L : Int → Int → Int) (N p : Int → Int) (x : Int) : Nat → Bool
  | 0 => true
  | s + 1 => okN L N p x s && decide (nv L N p x s ≠ 0)
def ok (L : Int → Int → Int) (N p : Int → Int) (r x : Int) : Bool := okN L N p x r.toNat
theorem ok_iff {L : Int → Int → Int} {N p : Int → Int} {r x : Int} (r0 : 0 ≤ r) : ok L N p r x = true ↔ ∀ s, 0 ≤ s → s < r → nv L N p x s ≠ 0 := by
  have key : ∀ m : Nat, okN L N p x m = true ↔ ∀ s, 0 ≤ s → s < (m : Int) → nv L N p x s ≠ 0 := by
    intro m
    induction m with
    | zero => exact ⟨fun _ s s0 s1 => absurd s1 (by omega), fun _ => rfl⟩
    | succ m ih =>
      show (okN L N p x m && decide (nv L N p x m ≠ 0)) = true ↔ _
      rw [Bool.and_eq_true, ih]
      refine ⟨fun h s s0 s1 => ?_, fun h => ⟨fun s s0 s1 => h s s0 (by omega), decide_eq_true (h m (by omega) (by omega))⟩⟩
      by_cases e : s = m
      · rw [e]; exact of_decide_eq_true h.2
      · exact h.1 s s0 (by omega)
  have := key r.toNat
  rw [show ((r.toNat : Nat) : Int) = r by omega] at this
  exact this
theorem ok_cg {L : Int → Int → Int} {N p q : Int → Int} {r x : Int} (r0 : 0 ≤ r) (h : ∀ s, 0 ≤ s → s < r → p s = q s) : ok L N p r x = ok L N q r x := by
  rw [Bool.eq_iff_iff, ok_iff r0, ok_iff r0]
  unfold nv
  exact ⟨fun g s s0 s1 => by rw [← h s s0 s1]; exact g s s0 s1, fun g s s0 s1 => by rw [h s s0 s1]; exact g s s0 s1⟩
theorem nv_v {L : Int → Int → Int} {N p : Int → Int} {r x : Int} (r0 : 0 ≤ r) (v : vld N p r) (h : ok L N p r x = true) : vld N (nv L N p x) r ∧ ∀ s, 0 ≤ s → s < r → p s < nv L N p x s := by
  have g := (ok_iff r0).1 h
  refine ⟨fun s s0 s1 => ?_, fun s s0 s1 => ?_⟩
  all_goals
    have a := bh_b (W := L s) (n := N s) (c := x) (v s s0 s1).1
    have b := g s s0 s1
    have e := v s s0 s1
    unfold nv at b ⊢
    omega
/-- the most so far -/
def mmN (g : Int → Int) : Nat → Int
  | 0 => 0
  | c + 1 => if mmN g c < g c then g c else mmN g c
def mm (g : Int → Int) (x : Int) : Int := mmN g x.toNat
theorem mm_0 {g : Int → Int} : mm g 0 = 0 := rfl
theorem mm_s {g : Int → Int} {x : Int} (h : 0 ≤ x) : mm g (x + 1) = if mm g x < g x then g x else mm g x := by
  unfold mm
  rw [show (x + 1).toNat = x.toNat + 1 by omega]
  show (if mmN g x.toNat < g (x.toNat : Int) then g (x.toNat : Int) else mmN g x.toNat) = _
  rw [show (x.toNat : Int) = x by omega]
theorem mm_cg {g h : Int → Int} {n : Int} (n0 : 0 ≤ n) (e : ∀ c, 0 ≤ c → c < n → g c = h c) : mm g n = mm h n := by
  refine dn_ind (P := fun n => (∀ c, 0 ≤ c → c < n → g c = h c) → mm g n = mm h n) (a := 0) (n := n) n0 (fun _ => rfl) (fun y y0 y1 ih e => ?_) e
  have a := mm_s (g := g) (show 0 ≤ y - 1 by omega)
  have b := mm_s (g := h) (show 0 ≤ y - 1 by omega)
  rw [show y - 1 + 1 = y by omega] at a b
  rw [a, b, ih (fun c c0 c1 => e c c0 (by omega)), e (y - 1) (by omega) (by omega)]
theorem mm_sp {g : Int → Int} {n : Int} (n0 : 0 ≤ n) : 0 ≤ mm g n ∧ (mm g n = 0 ∨ lsE g n (mm g n)) ∧ ∀ c, 0 ≤ c → c < n → g c ≤ mm g n := by
  refine dn_ind (P := fun n => 0 ≤ mm g n ∧ (mm g n = 0 ∨ lsE g n (mm g n)) ∧ ∀ c, 0 ≤ c → c < n → g c ≤ mm g n) (a := 0) (n := n) n0 ⟨Int.le_refl 0, Or.inl rfl, fun c c0 c1 => absurd c1 (by omega)⟩ (fun y y0 y1 ih => ?_)
  have a := mm_s (g := g) (show 0 ≤ y - 1 by omega)
  rw [show y - 1 + 1 = y by omega] at a
  obtain ⟨i0, i1, i2⟩ := ih
  by_cases q : mm g (y - 1) < g (y - 1)
  · rw [if_pos q] at a
    rw [a]
    refine ⟨by omega, Or.inr ⟨y - 1, by omega, by omega, rfl⟩, fun c c0 c1 => ?_⟩
    by_cases e : c = y - 1
    · rw [e]; exact Int.le_refl _
    · have := i2 c c0 (by omega)
      omega
  · rw [if_neg q] at a
    rw [a]
    refine ⟨i0, ?_, fun c c0 c1 => ?_⟩
    · rcases i1 with h | ⟨c, c0, c1, hc⟩
      · exact Or.inl h
      · exact Or.inr ⟨c, c0, by omega, hc⟩
    · by_cases e : c = y - 1
      · rw [e]; omega
      · exact i2 c c0 (by omega)
theorem mm_tl {g : Int → Int} {a b : Int} (a0 : 0 ≤ a) (ab : a ≤ b) (h : ∀ c, a ≤ c → c < b → g c ≤ 0) : mm g b = mm g a := by
  refine dn_ind (P := fun b => (∀ c, a ≤ c → c < b → g c ≤ 0) → mm g b = mm g a) (a := a) (n := b) ab (fun _ => rfl) (fun y y0 y1 ih h => ?_) h
  have e := mm_s (g := g) (show 0 ≤ y - 1 by omega)
  rw [show y - 1 + 1 = y by omega] at e
  have := (mm_sp (g := g) (n := y - 1) (by omega)).1
  have := h (y - 1) (by omega) (by omega)
  rw [e, if_neg (by omega)]
  exact ih (fun c c0 c1 => h c c0 (by omega))
def cmD (L : Int → Int → Int) (N : Int → Int) (r : Int) (f : (Int → Int) → Int) (p : Int → Int) (x : Int) : Int := if ok L N p r x = true then f (nv L N p x) + 1 else 0
def cmN (L : Int → Int → Int) (N : Int → Int) (r : Int) : Nat → (Int → Int) → Int
  | 0, _ => 0
  | f + 1, p => mm (cmD L N r (cmN L N r f) p) 6
def cm (L : Int → Int → Int) (N : Int → Int) (r : Int) (p : Int → Int) : Int := cmN L N r 42 p
theorem cmN_cg {L : Int → Int → Int} {N : Int → Int} {r : Int} (r0 : 0 ≤ r) : ∀ (f : Nat) (p q : Int → Int), (∀ s, 0 ≤ s → s < r → p s = q s) → cmN L N r f p = cmN L N r f q := by
  intro f
  induction f with
  | zero => intro p q _; rfl
  | succ f ih =>
    intro p q h
    show mm (cmD L N r (cmN L N r f) p) 6 = mm (cmD L N r (cmN L N r f) q) 6
    refine mm_cg (by decide) (fun c _ _ => ?_)
    unfold cmD
    rw [ok_cg r0 h, ih (nv L N p c) (nv L N q c) (fun s s0 s1 => by unfold nv; rw [h s s0 s1])]
theorem cm_cg {L : Int → Int → Int} {N p q : Int → Int} {r : Int} (r0 : 0 ≤ r) (h : ∀ s, 0 ≤ s → s < r → p s = q s) : cm L N r p = cm L N r q := cmN_cg r0 42 p q h
theorem cmN_f {L : Int → Int → Int} {N : Int → Int} {r : Int} (r1 : 1 ≤ r) : ∀ (f : Nat) (p : Int → Int), vld N p r → N 0 - p 0 + 1 ≤ f → cmN L N r (f + 1) p = cmN L N r f p := by
  intro f
  induction f with
  | zero => intro p v h; have := v 0 (Int.le_refl 0) (by omega); exact absurd h (by omega)
  | succ f ih =>
    intro p v h
    show mm (cmD L N r (cmN L N r (f + 1)) p) 6 = mm (cmD L N r (cmN L N r f) p) 6
    refine mm_cg (by decide) (fun c _ _ => ?_)
    unfold cmD
    by_cases q : ok L N p r c = true
    · obtain ⟨v2, h2⟩ := nv_v (by omega) v q
      have := h2 0 (Int.le_refl 0) (by omega)
      rw [if_pos q, if_pos q, ih _ v2 (by omega)]
    · rw [if_neg q, if_neg q]
theorem cm_s {L : Int → Int → Int} {N p : Int → Int} {r k : Int} (h : fam L N r k) (v : vld N p r) : cm L N r p = mm (cmD L N r (cm L N r) p) 6 := by
  have r1 := h.1
  show mm (cmD L N r (cmN L N r 41) p) 6 = _
  refine mm_cg (by decide) (fun c _ _ => ?_)
  unfold cmD cm
  by_cases q : ok L N p r c = true
  · obtain ⟨v2, h2⟩ := nv_v (by omega) v q
    have a := h2 0 (Int.le_refl 0) (by omega)
    have b := v2 0 (Int.le_refl 0) (by omega)
    have n1 := (h.n 0 (Int.le_refl 0) (by omega)).2
    have e := v 0 (Int.le_refl 0) (by omega)
    rw [if_pos q, if_pos q, cmN_f r1 41 _ v2 (by omega)]
  · rw [if_neg q, if_neg q]
def cmn (L : Int → Int → Int) (N p : Int → Int) (r : Int) (z : List Int) : Prop := ∀ s, 0 ≤ s → s < r → List.Sublist z (wl (L s) (p s) (N s))
theorem cm_up {L : Int → Int → Int} {N : Int → Int} {r k : Int} (h : fam L N r k) : ∀ (z : List Int) (p : Int → Int), vld N p r → cmn L N p r z → (z.length : Int) ≤ cm L N r p := by
  have r1 := h.1
  intro z
  induction z with
  | nil => intro p v _; rw [cm_s h v]; exact (mm_sp (by decide)).1
  | cons x z ih =>
    intro p v hc
    have sub : ∀ s, 0 ≤ s → s < r → nv L N p x s ≠ 0 ∧ List.Sublist z (wl (L s) (nv L N p x s) (N s)) := fun s s0 s1 => (wl_bh (v s s0 s1).1 (v s s0 s1).2).1 (hc s s0 s1)
    have hok : ok L N p r x = true := (ok_iff (by omega)).2 (fun s s0 s1 => (sub s s0 s1).1)
    obtain ⟨v2, -⟩ := nv_v (by omega) v hok
    have := ih (nv L N p x) v2 (fun s s0 s1 => (sub s s0 s1).2)
    have hx : 0 ≤ x ∧ x < 6 := by
      have k6 := h.k
      by_cases c : x < 0 ∨ k ≤ x
      · exact absurd (bh_o (h.2.2 0 (Int.le_refl 0) (by omega)) (v 0 (Int.le_refl 0) (by omega)).1 c) (sub 0 (Int.le_refl 0) (by omega)).1
      · omega
    have m := (mm_sp (g := cmD L N r (cm L N r) p) (n := 6) (by decide)).2.2 x hx.1 hx.2
    rw [← cm_s h v] at m
    unfold cmD at m
    rw [if_pos hok] at m
    rw [List.length_cons]
    omega
def cmW (L : Int → Int → Int) (N p : Int → Int) (r l : Int) : Prop := ∃ z : List Int, (z.length : Int) = l ∧ cmn L N p r z
theorem cm_wit {L : Int → Int → Int} {N : Int → Int} {r k : Int} (h : fam L N r k) : ∀ (f : Nat) (p : Int → Int), vld N p r → (N 0 - p 0).toNat = f → cmW L N p r (cm L N r p) := by
  have r1 := h.1
  intro f
  induction f using Nat.strongRecOn with
  | _ f ih =>
    intro p v hf
    have sp := (mm_sp (g := cmD L N r (cm L N r) p) (n := 6) (by decide))
    rw [← cm_s h v] at sp
    rcases sp.2.1 with q | ⟨x, x0, x1, hx⟩
    · rw [q]
      exact ⟨[], rfl, fun s _ _ => List.nil_sublist _⟩
    · by_cases hok : ok L N p r x = true
      · obtain ⟨v2, h2⟩ := nv_v (by omega) v hok
        have a := h2 0 (Int.le_refl 0) (by omega)
        have b := v2 0 (Int.le_refl 0) (by omega)
        obtain ⟨z, z1, z2⟩ := ih (N 0 - nv L N p x 0).toNat (by omega) (nv L N p x) v2 rfl
        unfold cmD at hx
        rw [if_pos hok] at hx
        refine ⟨x :: z, by rw [List.length_cons]; omega, fun s s0 s1 => (wl_bh (v s s0 s1).1 (v s s0 s1).2).2 ⟨(ok_iff (by omega)).1 hok s s0 s1, z2 s s0 s1⟩⟩
      · unfold cmD at hx
        rw [if_neg hok] at hx
        rw [← hx]
        exact ⟨[], rfl, fun s _ _ => List.nil_sublist _⟩
theorem cm_b {L : Int → Int → Int} {N p : Int → Int} {r k : Int} (h : fam L N r k) (v : vld N p r) : 0 ≤ cm L N r p ∧ cm L N r p ≤ 40 := by
  have r1 := h.1
  obtain ⟨z, z1, z2⟩ := cm_wit h _ p v rfl
  have a := (z2 0 (Int.le_refl 0) (by omega)).length_le
  have b := v 0 (Int.le_refl 0) (by omega)
  have c := wl_len (f := L 0) (i := p 0) (j := N 0) b.2
  have n1 := h.n 0 (Int.le_refl 0) (by omega)
  omega
/-- the class's way of reckoning it -/
theorem cm_end {L : Int → Int → Int} {N p : Int → Int} {r k s : Int} (h : fam L N r k) (v : vld N p r) (s0 : 0 ≤ s) (s1 : s < r) (e : p s = N s) : cm L N r p = 0 := by
  obtain ⟨z, z1, z2⟩ := cm_wit h _ p v rfl
  have a := (z2 s s0 s1).length_le
  have c := wl_len (f := L s) (i := p s) (j := N s) (by omega)
  have b := cm_b h v
  omega
theorem cm_all {L : Int → Int → Int} {N p q : Int → Int} {r k : Int} (h : fam L N r k) (v : vld N p r) (hl : ∀ s, 0 ≤ s → s < r → p s < N s) (hq : ∀ s, 0 ≤ s → s < r → q s = p s + 1) (hh : ∀ s, 0 ≤ s → s < r → L s (p s) = L 0 (p 0)) : cm L N r p = cm L N r q + 1 := by
  have w : vld N q r := fun s s0 s1 => by have := v s s0 s1; have := hl s s0 s1; have := hq s s0 s1; omega
  obtain ⟨y, y1, y2⟩ := cm_wit h _ q w rfl
  obtain ⟨z, z1, z2⟩ := cm_wit h _ p v rfl
  have up1 := cm_up h (L 0 (p 0) :: y) p v (fun s s0 s1 => by
    rw [wl_s (f := L s) (hl s s0 s1), hh s s0 s1]
    have := y2 s s0 s1
    rw [hq s s0 s1] at this
    exact List.cons_sublist_cons.2 this)
  rw [List.length_cons] at up1
  cases z with
  | nil =>
    have z1' : (0 : Int) = cm L N r p := z1
    omega
  | cons c z =>
    have up2 := cm_up h z q w (fun s s0 s1 => by
      have := z2 s s0 s1
      rw [wl_s (f := L s) (hl s s0 s1)] at this
      rw [hq s s0 s1]
      rcases List.sublist_cons_iff.1 this with g | ⟨t, g, g2⟩
      · exact List.Sublist.trans (List.Sublist.cons c (List.Sublist.refl z)) g
      · rw [(List.cons.inj g).2]; exact g2)
    rw [List.length_cons] at z1
    omega
theorem cm_mix {L : Int → Int → Int} {N p : Int → Int} {r k : Int} (h : fam L N r k) (v : vld N p r) (hl : ∀ s, 0 ≤ s → s < r → p s < N s) (hn : ¬ ∀ s, 0 ≤ s → s < r → L s (p s) = L 0 (p 0)) : cm L N r p = mm (fun s => cm L N r (gup p s (p s + 1))) r := by
  have r1 := h.1
  have w : ∀ s, 0 ≤ s → s < r → vld N (gup p s (p s + 1)) r := fun s s0 s1 t t0 t1 => by
    have a := v s s0 s1
    have b := hl s s0 s1
    by_cases c : t = s
    · rw [gup_e c, c]; omega
    · rw [gup_n c]; exact v t t0 t1
  have sp := mm_sp (g := fun s => cm L N r (gup p s (p s + 1))) (n := r) (by omega)
  have tail : ∀ s, 0 ≤ s → s < r → ∀ t, 0 ≤ t → t < r → List.Sublist (wl (L t) (gup p s (p s + 1) t) (N t)) (wl (L t) (p t) (N t)) := fun s s0 s1 t t0 t1 => by
    by_cases c : t = s
    · rw [gup_e c, c, wl_s (f := L s) (hl s s0 s1)]
      exact List.Sublist.cons _ (List.Sublist.refl _)
    · rw [gup_n c]
      exact List.Sublist.refl _
  have up : cm L N r p ≤ mm (fun s => cm L N r (gup p s (p s + 1))) r := by
    obtain ⟨z, z1, z2⟩ := cm_wit h _ p v rfl
    cases z with
    | nil =>
      have z1' : (0 : Int) = cm L N r p := z1
      have := sp.1
      omega
    | cons c z =>
      have ex : ∃ s, 0 ≤ s ∧ s < r ∧ L s (p s) ≠ c := by
        refine Classical.byContradiction (fun q => hn (fun s s0 s1 => ?_))
        have a : ∀ s, 0 ≤ s → s < r → L s (p s) = c := fun s s0 s1 => Classical.byContradiction (fun q2 => q ⟨s, s0, s1, q2⟩)
        rw [a s s0 s1, a 0 (Int.le_refl 0) (by omega)]
      obtain ⟨s, s0, s1, hs⟩ := ex
      have up2 := cm_up h (c :: z) (gup p s (p s + 1)) (w s s0 s1) (fun t t0 t1 => by
        by_cases e : t = s
        · have := z2 s s0 s1
          rw [wl_s (f := L s) (hl s s0 s1), sl_cons hs] at this
          rw [gup_e e, e]
          exact this
        · rw [gup_n e]; exact z2 t t0 t1)
      have := sp.2.2 s s0 s1
      omega
  rcases sp.2.1 with q | ⟨s, s0, s1, hs⟩
  · have := cm_b h v
    omega
  · obtain ⟨z, z1, z2⟩ := cm_wit h _ (gup p s (p s + 1)) (w s s0 s1) rfl
    have lo := cm_up h z p v (fun t t0 t1 => List.Sublist.trans (z2 t t0 t1) (tail s s0 s1 t t0 t1))
    have hs' : cm L N r (gup p s (p s + 1)) = mm (fun s => cm L N r (gup p s (p s + 1))) r := hs
    omega
/-- the FIRST letter with which as many follow -/
def cmC (L : Int → Int → Int) (N : Int → Int) (r : Int) (p : Int → Int) : Int := fd (fun c => ok L N p r c && decide (cm L N r (nv L N p c) + 1 = cm L N r p)) 0
theorem cmC_sp {L : Int → Int → Int} {N p : Int → Int} {r k : Int} (h : fam L N r k) (v : vld N p r) (hz : cm L N r p ≠ 0) : 0 ≤ cmC L N r p ∧ cmC L N r p < k ∧ (ok L N p r (cmC L N r p) = true ∧ cm L N r (nv L N p (cmC L N r p)) + 1 = cm L N r p) ∧ ∀ x, 0 ≤ x → x < cmC L N r p → ¬ (ok L N p r x = true ∧ cm L N r (nv L N p x) + 1 = cm L N r p) := by
  have r1 := h.1
  have sp := (mm_sp (g := cmD L N r (cm L N r) p) (n := 6) (by decide))
  rw [← cm_s h v] at sp
  rcases sp.2.1 with q | ⟨x, x0, x1, hx⟩
  · exact absurd q hz
  · have hok : ok L N p r x = true ∧ cm L N r (nv L N p x) + 1 = cm L N r p := by
      unfold cmD at hx
      by_cases c : ok L N p r x = true
      · rw [if_pos c] at hx; exact ⟨c, hx⟩
      · rw [if_neg c] at hx; omega
    have f := fd_sp (p := fun c => ok L N p r c && decide (cm L N r (nv L N p c) + 1 = cm L N r p)) (a := 0) (e := x) x0 x1 (by
      show (ok L N p r x && decide (cm L N r (nv L N p x) + 1 = cm L N r p)) = true
      rw [Bool.and_eq_true]
      exact ⟨hok.1, decide_eq_true hok.2⟩)
    have g : ok L N p r (cmC L N r p) = true ∧ cm L N r (nv L N p (cmC L N r p)) + 1 = cm L N r p := by
      have g0 : (ok L N p r (cmC L N r p) && decide (cm L N r (nv L N p (cmC L N r p)) + 1 = cm L N r p)) = true := f.2.2.1
      rw [Bool.and_eq_true] at g0
      exact ⟨g0.1, of_decide_eq_true g0.2⟩
    refine ⟨f.1, ?_, g, fun y y0 y1 hy => f.2.2.2 y y0 y1 ?_⟩
    · by_cases c : cmC L N r p < k
      · exact c
      · have := (ok_iff (by omega)).1 g.1 0 (Int.le_refl 0) (by omega)
        exact absurd (bh_o (h.2.2 0 (Int.le_refl 0) (by omega)) (v 0 (Int.le_refl 0) (by omega)).1 (Or.inr (by omega))) this
    · show (ok L N p r y && decide (cm L N r (nv L N p y) + 1 = cm L N r p)) = true
      rw [Bool.and_eq_true]
      exact ⟨hy.1, decide_eq_true hy.2⟩
theorem cm_le {L : Int → Int → Int} {N p : Int → Int} {r k x : Int} (h : fam L N r k) (v : vld N p r) (x0 : 0 ≤ x) (x1 : x < 6) (hok : ok L N p r x = true) : cm L N r (nv L N p x) + 1 ≤ cm L N r p := by
  have m := (mm_sp (g := cmD L N r (cm L N r) p) (n := 6) (by decide)).2.2 x x0 x1
  rw [← cm_s h v] at m
  unfold cmD at m
  rw [if_pos hok] at m
  exact m
def cmP (L : Int → Int → Int) (N : Int → Int) (r : Int) : Nat → Int → Int
  | 0 => zf
  | t + 1 => nv L N (cmP L N r t) (cmC L N r (cmP L N r t))
def cmV (L : Int → Int → Int) (N : Int → Int) (r t : Int) : Int → Int := cmP L N r t.toNat
def cmX (L : Int → Int → Int) (N : Int → Int) (r t : Int) : Int := cmC L N r (cmV L N r t)
theorem cmV_s {L : Int → Int → Int} {N : Int → Int} {r t : Int} (h : 0 ≤ t) : cmV L N r (t + 1) = nv L N (cmV L N r t) (cmX L N r t) := by
  unfold cmX cmV
  rw [show (t + 1).toNat = t.toNat + 1 by omega]
  rfl
theorem zf_vld {L : Int → Int → Int} {N : Int → Int} {r k : Int} (h : fam L N r k) : vld N zf r := fun s s0 s1 => ⟨Int.le_refl 0, (h.n s s0 s1).1⟩
theorem cm_inv {L : Int → Int → Int} {N : Int → Int} {r k : Int} (h : fam L N r k) : ∀ t : Nat, (t : Int) ≤ cm L N r zf → vld N (cmV L N r t) r ∧ cm L N r (cmV L N r t) = cm L N r zf - t := by
  have r1 := h.1
  intro t
  induction t with
  | zero => intro _; exact ⟨zf_vld h, (Int.sub_zero _).symm⟩
  | succ t ih =>
    intro ht
    obtain ⟨v, e⟩ := ih (by omega)
    rw [show ((t + 1 : Nat) : Int) = (t : Int) + 1 by omega, cmV_s (by omega)]
    obtain ⟨s1, s2, s3, s4⟩ := cmC_sp h v (by omega)
    have s3' : ok L N (cmV L N r t) r (cmX L N r t) = true ∧ cm L N r (nv L N (cmV L N r t) (cmX L N r t)) + 1 = cm L N r (cmV L N r t) := s3
    exact ⟨(nv_v (by omega) v s3'.1).1, by omega⟩
