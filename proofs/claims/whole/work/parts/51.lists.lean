/-! 17 drop: words as lists -/
def wlN (f : Int → Int) (i : Int) : Nat → List Int
  | 0 => []
  | c + 1 => f i :: wlN f (i + 1) c
def wl (f : Int → Int) (i j : Int) : List Int := wlN f i (j - i).toNat
theorem wl_e {f : Int → Int} {i j : Int} (h : j ≤ i) : wl f i j = [] := by
  unfold wl
  rw [show (j - i).toNat = 0 by omega]
  rfl
theorem wl_s {f : Int → Int} {i j : Int} (h : i < j) : wl f i j = f i :: wl f (i + 1) j := by
  unfold wl
  rw [show (j - i).toNat = (j - (i + 1)).toNat + 1 by omega]
  rfl
theorem wl_app {f : Int → Int} {i j l : Int} (h : i ≤ j) (h2 : j ≤ l) : wl f i l = wl f i j ++ wl f j l := by
  refine up_ind (P := fun i => wl f i l = wl f i j ++ wl f j l) (a := i) (n := j) h ?_ (fun x x0 x1 ih => ?_)
  · rw [wl_e (Int.le_refl j), List.nil_append]
  · rw [wl_s (f := f) (show x < l by omega), wl_s (f := f) x1, ih, List.cons_append]
theorem wl_snoc {f : Int → Int} {i j : Int} (h : i ≤ j) : wl f i (j + 1) = wl f i j ++ [f j] := by
  rw [wl_app h (show j ≤ j + 1 by omega), wl_s (f := f) (show j < j + 1 by omega), wl_e (Int.le_refl (j + 1))]
theorem wl_len {f : Int → Int} {i j : Int} (h : i ≤ j) : ((wl f i j).length : Int) = j - i := by
  refine up_ind (P := fun i => ((wl f i j).length : Int) = j - i) (a := i) (n := j) h ?_ (fun x x0 x1 ih => ?_)
  · rw [wl_e (Int.le_refl j)]
    show (0 : Int) = j - j
    omega
  · rw [wl_s (f := f) x1, List.length_cons]
    omega
theorem wl_cg {f g : Int → Int} {i j : Int} (h : i ≤ j) (e : ∀ t, i ≤ t → t < j → f t = g t) : wl f i j = wl g i j := by
  refine up_ind (P := fun a => i ≤ a → wl f a j = wl g a j) (a := i) (n := j) h (fun _ => ?_) (fun x x0 x1 ih hx => ?_) (Int.le_refl i)
  · rw [wl_e (Int.le_refl j), wl_e (Int.le_refl j)]
  · rw [wl_s (f := f) x1, wl_s (f := g) x1, ih (by omega), e x hx x1]
theorem wl_sh {f g : Int → Int} {i j s : Int} (h : i ≤ j) (e : ∀ t, i ≤ t → t < j → f t = g (t + s)) : wl f i j = wl g (i + s) (j + s) := by
  refine up_ind (P := fun a => i ≤ a → wl f a j = wl g (a + s) (j + s)) (a := i) (n := j) h (fun _ => ?_) (fun x x0 x1 ih hx => ?_) (Int.le_refl i)
  · rw [wl_e (Int.le_refl j), wl_e (Int.le_refl (j + s))]
  · rw [wl_s (f := f) x1, wl_s (f := g) (show x + s < j + s by omega), ih (by omega), e x hx x1, show x + 1 + s = x + s + 1 by omega]
theorem wl_mem {f : Int → Int} {i j x : Int} (h : i ≤ j) (hn : ∀ t, i ≤ t → t < j → f t ≠ x) : ¬ x ∈ wl f i j := by
  refine up_ind (P := fun a => i ≤ a → ¬ x ∈ wl f a j) (a := i) (n := j) h (fun _ => ?_) (fun y y0 y1 ih hy => ?_) (Int.le_refl i)
  · rw [wl_e (Int.le_refl j)]
    exact List.not_mem_nil
  · rw [wl_s (f := f) y1]
    intro q
    rcases List.mem_cons.1 q with q | q
    · exact hn y hy y1 q.symm
    · exact ih (by omega) q
theorem sl_cons {a c : Int} {z l : List Int} (h : a ≠ c) : List.Sublist (c :: z) (a :: l) ↔ List.Sublist (c :: z) l := by
  refine ⟨fun q => ?_, fun q => List.Sublist.cons a q⟩
  rcases List.sublist_cons_iff.1 q with q | ⟨r, q, -⟩
  · exact q
  · exact absurd (List.cons.inj q).1.symm h
theorem wl_bh {W : Int → Int} {n i c : Int} {z : List Int} (i0 : 0 ≤ i) (i1 : i ≤ n) : List.Sublist (c :: z) (wl W i n) ↔ (bh W n i c ≠ 0 ∧ List.Sublist z (wl W (bh W n i c) n)) := by
  refine up_ind (P := fun a => 0 ≤ a → (List.Sublist (c :: z) (wl W a n) ↔ (bh W n a c ≠ 0 ∧ List.Sublist z (wl W (bh W n a c) n)))) (a := i) (n := n) i1 (fun _ => ?_) (fun x x0 x1 ih hx => ?_) i0
  · rw [wl_e (Int.le_refl n), bh_e (Int.le_refl n)]
    refine ⟨fun q => absurd (List.sublist_nil.1 q) (List.cons_ne_nil _ _), fun q => absurd rfl q.1⟩
  · rw [wl_s (f := W) x1, bh_s hx x1]
    by_cases e : W x = c
    · rw [if_pos e, e]
      exact ⟨fun q => ⟨by omega, List.cons_sublist_cons.1 q⟩, fun q => List.cons_sublist_cons.2 q.2⟩
    · rw [if_neg e, sl_cons e]
      exact ih (by omega)
theorem bh_o {W : Int → Int} {n k i c : Int} (b : wdB n W k) (i0 : 0 ≤ i) (h : c < 0 ∨ k ≤ c) : bh W n i c = 0 := by
  rcases bh_sp (W := W) (n := n) (c := c) i0 with q | q
  · exact q.1
  · have := b.2.2.2.2 (bh W n i c - 1) (by omega) (by omega)
    rw [q.2.2.1] at this
    omega
theorem pt_same {W V : Int → Int} {n m k : Int} (b1 : wdB n W k) (b2 : wdB m V k) : ∀ (z : List Int) (i j : Int), 0 ≤ i → i ≤ n → 0 ≤ j → j ≤ m → (pt W V n m i j = 0 ∨ (z.length : Int) < pt W V n m i j) → (List.Sublist z (wl W i n) ↔ List.Sublist z (wl V j m)) := by
  have n1 := b1.2.1
  have k1 := b1.2.2.2.1
  intro z
  induction z with
  | nil => intro i j _ _ _ _ _; exact ⟨fun _ => List.nil_sublist _, fun _ => List.nil_sublist _⟩
  | cons c z ih =>
    intro i j i0 i1 j0 j1 h
    rw [List.length_cons] at h
    rw [wl_bh i0 i1, wl_bh j0 j1]
    have bb1 := bh_b (W := W) (n := n) (c := c) i0
    have bb2 := bh_b (W := V) (n := m) (c := c) j0
    by_cases hc : c < 0 ∨ k ≤ c
    · have z1 := bh_o b1 i0 hc
      have z2 := bh_o b2 j0 hc
      exact ⟨fun q => absurd z1 q.1, fun q => absurd z2 q.1⟩
    · have le := pt_le (W := W) (V := V) (m := m) (j := j) (c := c) n1 i0 i1 (by omega) (by omega)
      by_cases z1 : bh W n i c = 0
      · by_cases z2 : bh V m j c = 0
        · exact ⟨fun q => absurd z1 q.1, fun q => absurd z2 q.1⟩
        · rw [ptd_one (Or.inl z1) (by omega)] at le
          have := le (by decide)
          omega
      · by_cases z2 : bh V m j c = 0
        · rw [ptd_one (Or.inr z2) (by omega)] at le
          have := le (by decide)
          omega
        · have := ih (bh W n i c) (bh V m j c) (by omega) (by omega) (by omega) (by omega) (by
            by_cases q : pt W V n m (bh W n i c) (bh V m j c) = 0
            · exact Or.inl q
            · have pb := (pt_b (W := W) (V := V) (n := n) (m := m) n1 _ (bh W n i c) (bh V m j c) (by omega) (by omega) (by omega) (by omega) rfl).1
              rw [ptd_more z1 z2, if_neg q] at le
              have := le (by omega)
              exact Or.inr (by omega))
          exact ⟨fun q => ⟨z2, this.1 q.2⟩, fun q => ⟨z1, this.2 q.2⟩⟩
def ptW (W V : Int → Int) (n m i j : Int) (l : Nat) : Prop := ∃ z : List Int, z.length = l ∧ ¬ (List.Sublist z (wl W i n) ↔ List.Sublist z (wl V j m))
theorem pt_wit {W V : Int → Int} {n m k : Int} (b1 : wdB n W k) (b2 : wdB m V k) : ∀ (l : Nat) (i j : Int), 0 ≤ i → i ≤ n → 0 ≤ j → j ≤ m → pt W V n m i j = l → l ≠ 0 → ptW W V n m i j l := by
  intro l
  induction l with
  | zero => intro i j _ _ _ _ _ h; exact absurd rfl h
  | succ l ih =>
    intro i j i0 i1 j0 j1 hp _
    obtain ⟨s1, s2, s3, s4⟩ := ptC_sp b1 b2 i0 i1 j0 (by omega)
    have bb1 := bh_b (W := W) (n := n) (c := ptC W V n m i j) i0
    have bb2 := bh_b (W := V) (n := m) (c := ptC W V n m i j) j0
    by_cases z1 : bh W n i (ptC W V n m i j) = 0
    · by_cases z2 : bh V m j (ptC W V n m i j) = 0
      · rw [ptd_zero z1 z2] at s3
        omega
      · rw [ptd_one (Or.inl z1) (by omega)] at s3
        refine ⟨[ptC W V n m i j], by show 1 = l + 1; omega, fun q => ?_⟩
        rw [wl_bh i0 i1, wl_bh j0 j1] at q
        exact (q.2 ⟨z2, List.nil_sublist _⟩).1 z1
    · by_cases z2 : bh V m j (ptC W V n m i j) = 0
      · rw [ptd_one (Or.inr z2) (by omega)] at s3
        refine ⟨[ptC W V n m i j], by show 1 = l + 1; omega, fun q => ?_⟩
        rw [wl_bh i0 i1, wl_bh j0 j1] at q
        exact (q.1 ⟨z1, List.nil_sublist _⟩).1 z2
      · rw [ptd_more z1 z2] at s3
        have hq : pt W V n m (bh W n i (ptC W V n m i j)) (bh V m j (ptC W V n m i j)) = l ∧ l ≠ 0 := by
          by_cases q : pt W V n m (bh W n i (ptC W V n m i j)) (bh V m j (ptC W V n m i j)) = 0
          · rw [if_pos q] at s3; omega
          · rw [if_neg q] at s3; omega
        obtain ⟨z, h1, h2⟩ := ih _ _ (by omega) (by omega) (by omega) (by omega) hq.1 hq.2
        refine ⟨ptC W V n m i j :: z, by rw [List.length_cons, h1], fun q => h2 ?_⟩
        rw [wl_bh i0 i1, wl_bh j0 j1] at q
        exact ⟨fun q2 => (q.1 ⟨z1, q2⟩).2, fun q2 => (q.2 ⟨z2, q2⟩).2⟩
/-- ALIKE to a depth -/
def alk (d : Int) (A B : List Int) : Prop := ∀ z : List Int, (z.length : Int) ≤ d → (List.Sublist z A ↔ List.Sublist z B)
theorem alk.sy {d : Int} {A B : List Int} (h : alk d A B) : alk d B A := fun z hz => (h z hz).symm
theorem alk.tr {d : Int} {A B C : List Int} (h : alk d A B) (h2 : alk d B C) : alk d A C := fun z hz => (h z hz).trans (h2 z hz)
theorem pt_alk {W V : Int → Int} {n m k d : Int} (b1 : wdB n W k) (b2 : wdB m V k) : (pt W V n m 0 0 ≠ 0 ∧ pt W V n m 0 0 ≤ d) ↔ ¬ alk d (wl W 0 n) (wl V 0 m) := by
  have pb := pt_bd (W := W) (V := V) (i := 0) (j := 0) b1.2.1 b2.2.1 (Int.le_refl 0) b1.1 (Int.le_refl 0) b2.1
  refine ⟨fun q h => ?_, fun q => ?_⟩
  · obtain ⟨z, h1, h2⟩ := pt_wit b1 b2 (pt W V n m 0 0).toNat 0 0 (Int.le_refl 0) b1.1 (Int.le_refl 0) b2.1 (by omega) (by omega)
    exact h2 (h z (by omega))
  · by_cases c : pt W V n m 0 0 ≠ 0 ∧ pt W V n m 0 0 ≤ d
    · exact c
    · exact absurd (fun z hz => pt_same b1 b2 z 0 0 (Int.le_refl 0) b1.1 (Int.le_refl 0) b2.1 (by omega)) q
/-- how deep a letter could be left out behind u; ahead of v -/
def pA (u : List Int) (x p : Int) : Prop := 0 ≤ p ∧ (∀ z : List Int, (z.length : Int) ≤ p → List.Sublist z (u ++ [x]) → List.Sublist z u) ∧ ∃ z : List Int, (z.length : Int) = p ∧ List.Sublist z u ∧ ¬ List.Sublist (z ++ [x]) u
def pB (x : Int) (v : List Int) (q : Int) : Prop := 0 ≤ q ∧ (∀ z : List Int, (z.length : Int) ≤ q → List.Sublist z (x :: v) → List.Sublist z v) ∧ ∃ z : List Int, (z.length : Int) = q ∧ List.Sublist z v ∧ ¬ List.Sublist (x :: z) v
theorem pA_le {u : List Int} {x p : Int} (h : pA u x p) : 0 ≤ p ∧ p ≤ u.length := by
  obtain ⟨h0, -, z, h1, h2, -⟩ := h
  have := h2.length_le
  omega
theorem pB_le {v : List Int} {x p : Int} (h : pB x v p) : 0 ≤ p ∧ p ≤ v.length := by
  obtain ⟨h0, -, z, h1, h2, -⟩ := h
  have := h2.length_le
  omega
/-- Simon's lemma -/
theorem simon {u v : List Int} {x p q d : Int} (hA : pA u x p) (hB : pB x v q) : alk d (u ++ x :: v) (u ++ v) ↔ d ≤ p + q := by
  obtain ⟨p0, a1, z1, a2, a3, a4⟩ := hA
  obtain ⟨q0, e1, z2, e2, e3, e4⟩ := hB
  constructor
  · intro h
    by_cases c : d ≤ p + q
    · exact c
    · have hz := (h (z1 ++ x :: z2) (by rw [List.length_append, List.length_cons]; omega)).1 (List.Sublist.append a3 (List.cons_sublist_cons.2 e3))
      obtain ⟨s, t, h1, h2, h3⟩ := List.sublist_append_iff.1 hz
      rcases List.append_eq_append_iff.1 h1 with ⟨as, g1, g2⟩ | ⟨bs, g1, g2⟩
      · cases as with
        | nil =>
          rw [List.nil_append] at g2
          rw [← g2] at h3
          exact absurd h3 e4
        | cons a as =>
          rw [List.cons_append] at g2
          obtain ⟨g3, g4⟩ := List.cons.inj g2
          rw [g1, ← g3] at h2
          refine absurd (List.Sublist.trans ?_ h2) a4
          exact List.Sublist.append (List.Sublist.refl z1) (List.cons_sublist_cons.2 (List.nil_sublist as))
      · rw [g2] at h3
        exact absurd (List.Sublist.trans (List.sublist_append_right bs (x :: z2)) h3) e4
  · intro h z hz
    refine ⟨fun g => ?_, fun g => List.Sublist.trans g (List.Sublist.append (List.Sublist.refl u) (List.Sublist.cons x (List.Sublist.refl v)))⟩
    obtain ⟨s, t, h1, h2, h3⟩ := List.sublist_append_iff.1 g
    rcases List.sublist_cons_iff.1 h3 with h3 | ⟨t', h4, h5⟩
    · rw [h1]
      exact List.Sublist.append h2 h3
    · have hl : (z.length : Int) = s.length + (t'.length + 1) := by rw [h1, h4, List.length_append, List.length_cons]; omega
      by_cases c : (s.length : Int) + 1 ≤ p
      · have := a1 (s ++ [x]) (by rw [List.length_append]; show ((s.length + 1 : Nat) : Int) ≤ p; omega) (List.Sublist.append h2 (List.Sublist.refl [x]))
        have := List.Sublist.append this h5
        rw [h1, h4]
        rw [List.append_assoc] at this
        exact this
      · have := e1 (x :: t') (by rw [List.length_cons]; omega) (List.cons_sublist_cons.2 h5)
        rw [h1, h4]
        exact List.Sublist.append h2 this
/-- the least so far: shorter words that stand in u stand in the piece too -/
def lA (u pre : List Int) (least : Int) : Prop := (∀ z : List Int, (z.length : Int) < least → List.Sublist z u → List.Sublist z pre) ∧ (least = 40 ∨ ∃ z : List Int, (z.length : Int) = least ∧ List.Sublist z u ∧ ¬ List.Sublist z pre)
theorem lA_0 {u : List Int} : lA u u 40 := ⟨fun _ _ h => h, Or.inl rfl⟩
theorem lA_s {u pre : List Int} {least x D : Int} (h : lA u (pre ++ [x]) least) (hp : pA pre x D) (hs : List.Sublist (pre ++ [x]) u) : lA u pre (if D + 1 < least then D + 1 else least) := by
  obtain ⟨h1, h2⟩ := h
  obtain ⟨D0, p1, z, p2, p3, p4⟩ := hp
  have low : ∀ z : List Int, (z.length : Int) < (if D + 1 < least then D + 1 else least) → List.Sublist z u → List.Sublist z pre := fun z hz hu => p1 z (by split at hz <;> omega) (h1 z (by split at hz <;> omega) hu)
  refine ⟨low, ?_⟩
  by_cases c : D + 1 < least
  · rw [if_pos c]
    refine Or.inr ⟨z ++ [x], by rw [List.length_append]; show ((z.length + 1 : Nat) : Int) = D + 1; omega, List.Sublist.trans (List.Sublist.append p3 (List.Sublist.refl [x])) hs, p4⟩
  · rw [if_neg c]
    rcases h2 with h2 | ⟨y, y1, y2, y3⟩
    · exact Or.inl h2
    · exact Or.inr ⟨y, y1, y2, fun q => y3 (List.Sublist.trans q (List.sublist_append_left pre [x]))⟩
theorem lB_s {v post : List Int} {least x D : Int} (h : lA v (x :: post) least) (hp : pB x post D) (hs : List.Sublist (x :: post) v) : lA v post (if D + 1 < least then D + 1 else least) := by
  obtain ⟨h1, h2⟩ := h
  obtain ⟨D0, p1, z, p2, p3, p4⟩ := hp
  have low : ∀ z : List Int, (z.length : Int) < (if D + 1 < least then D + 1 else least) → List.Sublist z v → List.Sublist z post := fun z hz hu => p1 z (by split at hz <;> omega) (h1 z (by split at hz <;> omega) hu)
  refine ⟨low, ?_⟩
  by_cases c : D + 1 < least
  · rw [if_pos c]
    refine Or.inr ⟨x :: z, by rw [List.length_cons]; omega, List.Sublist.trans (List.cons_sublist_cons.2 p3) hs, p4⟩
  · rw [if_neg c]
    rcases h2 with h2 | ⟨y, y1, y2, y3⟩
    · exact Or.inl h2
    · exact Or.inr ⟨y, y1, y2, fun q => y3 (List.Sublist.cons x q)⟩
theorem lA_e {pre rest : List Int} {x least : Int} (h : lA (pre ++ x :: rest) pre least) (hx : ¬ x ∈ rest) (hl : least ≠ 40) (h0 : 0 ≤ least) : pA (pre ++ x :: rest) x least := by
  obtain ⟨h1, h2⟩ := h
  rcases h2 with h2 | ⟨y, y1, y2, y3⟩
  · exact absurd h2 hl
  refine ⟨h0, fun z hz hs => ?_, y, y1, y2, fun q => ?_⟩
  · obtain ⟨s, t, g1, g2, g3⟩ := List.sublist_append_iff.1 hs
    rcases List.sublist_cons_iff.1 g3 with g3 | ⟨t', g4, g5⟩
    · rw [List.sublist_nil.1 g3, List.append_nil] at g1
      rw [g1]
      exact g2
    · rw [List.sublist_nil.1 g5] at g4
      have g6 := h1 s (by rw [g1, g4, List.length_append] at hz; have : ((s.length + 1 : Nat) : Int) ≤ least := hz; omega) g2
      rw [g1, g4]
      exact List.Sublist.append g6 (List.cons_sublist_cons.2 (List.nil_sublist rest))
  · obtain ⟨s, t, g1, g2, g3⟩ := List.sublist_append_iff.1 q
    rcases List.append_eq_append_iff.1 g1 with ⟨as, e1, e2⟩ | ⟨bs, e1, e2⟩
    · rw [e1] at g2
      exact y3 (List.Sublist.trans (List.sublist_append_left y as) g2)
    · rw [e2] at g3
      cases bs with
      | nil =>
        rw [List.append_nil] at e1
        rw [e1] at y3
        exact y3 g2
      | cons b bs =>
        rw [List.cons_append] at g3
        have g4 : List.Sublist (bs ++ [x]) rest := by
          rcases List.sublist_cons_iff.1 g3 with g | ⟨r, g, g5⟩
          · exact List.Sublist.trans (List.Sublist.cons b (List.Sublist.refl _)) g
          · rw [(List.cons.inj g).2]
            exact g5
        exact hx (g4.subset (List.mem_append.2 (Or.inr (List.mem_cons.2 (Or.inl rfl)))))
theorem lB_e {post rest : List Int} {x least : Int} (h : lA (rest ++ x :: post) post least) (hx : ¬ x ∈ rest) (hl : least ≠ 40) (h0 : 0 ≤ least) : pB x (rest ++ x :: post) least := by
  obtain ⟨h1, h2⟩ := h
  rcases h2 with h2 | ⟨y, y1, y2, y3⟩
  · exact absurd h2 hl
  refine ⟨h0, fun z hz hs => ?_, y, y1, y2, fun q => ?_⟩
  · rcases List.sublist_cons_iff.1 hs with g3 | ⟨t', g4, g5⟩
    · exact g3
    · have g6 := h1 t' (by rw [g4, List.length_cons] at hz; omega) g5
      rw [g4]
      exact List.Sublist.trans (List.cons_sublist_cons.2 g6) (List.sublist_append_right rest (x :: post))
  · obtain ⟨s, t, g1, g2, g3⟩ := List.sublist_append_iff.1 q
    cases s with
    | nil =>
      rw [List.nil_append] at g1
      rw [← g1] at g3
      exact y3 (List.cons_sublist_cons.1 g3)
    | cons b s =>
      rw [List.cons_append] at g1
      rw [← (List.cons.inj g1).1] at g2
      exact hx (g2.subset (List.mem_cons.2 (Or.inl rfl)))
theorem pA_0 {u : List Int} {x : Int} (hx : ¬ x ∈ u) : pA u x 0 := by
  refine ⟨Int.le_refl 0, fun z hz _ => ?_, [], rfl, List.nil_sublist u, fun q => hx (q.subset (List.mem_cons.2 (Or.inl rfl)))⟩
  rw [List.eq_nil_of_length_eq_zero (show z.length = 0 by omega)]
  exact List.nil_sublist u
theorem pB_0 {u : List Int} {x : Int} (hx : ¬ x ∈ u) : pB x u 0 := by
  refine ⟨Int.le_refl 0, fun z hz _ => ?_, [], rfl, List.nil_sublist u, fun q => hx (q.subset (List.mem_cons.2 (Or.inl rfl)))⟩
  rw [List.eq_nil_of_length_eq_zero (show z.length = 0 by omega)]
  exact List.nil_sublist u
