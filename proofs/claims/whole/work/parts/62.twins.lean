/-! 39 twins: how often short words stand in a word, both told by numbers -/
def cc (k : Int) : Nat → Nat → Int → Int → Int
  | 0, _, _, _ => 1
  | _ + 1, 0, _, _ => 0
  | d + 1, i + 1, P, c => cc k (d + 1) i (P / k) c + if P % k = c % k then cc k d i (P / k) (c / k) else 0
theorem cc_0 {k P c : Int} {i : Nat} : cc k 0 i P c = 1 := by cases i <;> rfl
theorem cc_z {k P c : Int} {d : Nat} : cc k (d + 1) 0 P c = 0 := rfl
theorem cc_s {k P c : Int} {d i : Nat} : cc k (d + 1) (i + 1) P c = cc k (d + 1) i (P / k) c + if P % k = c % k then cc k d i (P / k) (c / k) else 0 := rfl
theorem cc_nn {k : Int} : ∀ (i d : Nat) (P c : Int), 0 ≤ cc k d i P c := by
  intro i
  induction i with
  | zero =>
    intro d P c
    cases d with
    | zero => rw [cc_0]; decide
    | succ d => rw [cc_z]; exact Int.le_refl 0
  | succ i ih =>
    intro d P c
    cases d with
    | zero => rw [cc_0]; decide
    | succ d =>
      rw [cc_s]
      have a := ih (d + 1) (P / k) c
      have b := ih d (P / k) (c / k)
      split <;> omega
theorem cc_up {k B : Int} {d : Nat} (B0 : 0 ≤ B) (h : ∀ (i : Nat) (P c : Int), i ≤ 40 → cc k d i P c ≤ B) : ∀ (i : Nat) (P c : Int), i ≤ 40 → cc k (d + 1) i P c ≤ B * i := by
  intro i
  induction i with
  | zero => intro P c _; rw [cc_z]; show 0 ≤ B * ((0 : Nat) : Int); rw [show ((0 : Nat) : Int) = 0 from rfl, Int.mul_zero]; exact Int.le_refl 0
  | succ i ih =>
    intro P c hi
    rw [cc_s, show ((i + 1 : Nat) : Int) = (i : Int) + 1 by omega, Int.mul_add, Int.mul_one]
    have a := ih (P / k) c (by omega)
    have b := h i (P / k) (c / k) (by omega)
    split <;> omega
theorem cc_b {k P c : Int} {d i : Nat} (d3 : d ≤ 3) (i4 : i ≤ 40) : 0 ≤ cc k d i P c ∧ cc k d i P c ≤ 64000 := by
  refine ⟨cc_nn i d P c, ?_⟩
  have b0 : ∀ (i : Nat) (P c : Int), i ≤ 40 → cc k 0 i P c ≤ 1 := fun i P c _ => by rw [cc_0]; exact Int.le_refl 1
  have b1 : ∀ (i : Nat) (P c : Int), i ≤ 40 → cc k 1 i P c ≤ 40 := fun i P c hi => by have : cc k 1 i P c ≤ 1 * i := cc_up (by decide) b0 i P c hi; omega
  have b2 : ∀ (i : Nat) (P c : Int), i ≤ 40 → cc k 2 i P c ≤ 1600 := fun i P c hi => by have : cc k 2 i P c ≤ 40 * i := cc_up (by decide) b1 i P c hi; omega
  have b3 : ∀ (i : Nat) (P c : Int), i ≤ 40 → cc k 3 i P c ≤ 64000 := fun i P c hi => by have : cc k 3 i P c ≤ 1600 * i := cc_up (by decide) b2 i P c hi; omega
  have e : d = 0 ∨ d = 1 ∨ d = 2 ∨ d = 3 := by omega
  rcases e with rfl | rfl | rfl | rfl
  · have := b0 i P c i4; omega
  · have := b1 i P c i4; omega
  · have := b2 i P c i4; omega
  · exact b3 i P c i4
theorem sm_add {f g : Int → Int} : ∀ n : Nat, sm (fun x => f x + g x) n = sm f n + sm g n := by
  intro n
  induction n with
  | zero => rfl
  | succ n ih =>
    rw [show ((n + 1 : Nat) : Int) = (n : Int) + 1 by omega, sm_s (by omega), sm_s (by omega), sm_s (by omega), ih]
    omega
theorem sm_app {f : Int → Int} {a : Int} (a0 : 0 ≤ a) : ∀ b : Nat, sm f (a + b) = sm f a + sm (fun t => f (a + t)) b := by
  intro b
  induction b with
  | zero => rw [show ((0 : Nat) : Int) = 0 from rfl, sm_0, Int.add_zero, Int.add_zero]
  | succ b ih =>
    rw [show ((b + 1 : Nat) : Int) = (b : Int) + 1 by omega, ← Int.add_assoc, sm_s (by omega), sm_s (by omega), ih]
    omega
theorem dm {k p x : Int} (x0 : 0 ≤ x) (x1 : x < k) : (p * k + x) / k = p ∧ (p * k + x) % k = x := by
  rw [Int.add_comm]
  refine ⟨?_, ?_⟩
  · rw [Int.add_mul_ediv_right x p (by omega), Int.ediv_eq_zero_of_lt x0 x1, Int.zero_add]
  · rw [Int.add_mul_emod_self_right, Int.emod_eq_of_lt x0 x1]
theorem sm_dig {g : Int → Int} {k x : Int} (x0 : 0 ≤ x) (x1 : x < k) : ∀ m : Nat, sm (fun c => if x = c % k then g (c / k) else 0) (m * k) = sm g m := by
  intro m
  induction m with
  | zero => rw [show ((0 : Nat) : Int) = 0 from rfl, Int.zero_mul]; rfl
  | succ m ih =>
    have mk : 0 ≤ (m : Int) * k := Int.mul_nonneg (by omega) (by omega)
    have := sm_app (f := fun c => if x = c % k then g (c / k) else 0) mk k.toNat
    rw [show ((k.toNat : Nat) : Int) = k by omega] at this
    rw [show ((m + 1 : Nat) : Int) = (m : Int) + 1 by omega, Int.add_mul, Int.one_mul, this, ih, sm_s (by omega)]
    congr 1
    have one := sm_one (f := fun t => if x = t then g m else 0) (g := fun _ => 0) (c := x) x0 (fun y hy => by rw [if_neg (Ne.symm hy)]) k.toNat
    rw [show ((k.toNat : Nat) : Int) = k by omega, if_pos x1, if_pos rfl] at one
    have z := sm_zero (f := fun _ => (0 : Int)) (fun _ => rfl) k.toNat
    rw [show ((k.toNat : Nat) : Int) = k by omega] at z
    rw [sm_cg (g := fun t => if x = t then g m else 0) (by omega) (fun t t0 t1 => by
      have e := dm (k := k) (p := (m : Int)) t0 t1
      rw [e.1, e.2]), one, z]
    omega
theorem cc_sum {k : Int} (k1 : 1 ≤ k) : ∀ (i d : Nat) (P P2 : Int), sm (cc k d i P) (k ^ d) = sm (cc k d i P2) (k ^ d) := by
  intro i
  induction i with
  | zero =>
    intro d P P2
    cases d with
    | zero => exact sm_cg (by rw [Int.pow_zero]; decide) (fun c _ _ => by rw [cc_0, cc_0])
    | succ d => exact sm_cg (Int.le_of_lt (Int.pow_pos (by omega))) (fun c _ _ => by rw [cc_z, cc_z])
  | succ i ih =>
    intro d P P2
    cases d with
    | zero => exact sm_cg (by rw [Int.pow_zero]; decide) (fun c _ _ => by rw [cc_0, cc_0])
    | succ d =>
      have pp : 0 < k ^ d := Int.pow_pos (by omega)
      have key : ∀ P, sm (cc k (d + 1) (i + 1) P) (k ^ (d + 1)) = sm (cc k (d + 1) i (P / k)) (k ^ (d + 1)) + sm (cc k d i (P / k)) (k ^ d) := by
        intro P
        have m0 := Int.emod_nonneg P (show k ≠ 0 by omega)
        have m1 := Int.emod_lt_of_pos P (show 0 < k by omega)
        have a := sm_add (f := cc k (d + 1) i (P / k)) (g := fun c => if P % k = c % k then cc k d i (P / k) (c / k) else 0) (k ^ (d + 1)).toNat
        have b := sm_dig (g := cc k d i (P / k)) m0 m1 (k ^ d).toNat
        have pp1 : 0 < k ^ (d + 1) := Int.pow_pos (by omega)
        rw [show (((k ^ (d + 1)).toNat : Nat) : Int) = k ^ (d + 1) by omega] at a
        rw [show (((k ^ d).toNat : Nat) : Int) = k ^ d by omega, ← Int.pow_succ] at b
        rw [← b, ← a]
        exact sm_cg (by omega) (fun c _ _ => cc_s)
      rw [key P, key P2, ih (d + 1) (P / k) (P2 / k), ih d (P / k) (P2 / k)]
theorem sm_eqs {f g : Int → Int} {n : Int} (n0 : 0 ≤ n) (h : ∀ i, 0 ≤ i → i < n → f i ≤ g i) (e : sm f n = sm g n) : ∀ i, 0 ≤ i → i < n → f i = g i := by
  intro s s0 s1
  have a := sm_one (f := gup f s (g s)) (g := f) (c := s) s0 (fun y hy => gup_n hy) n.toNat
  have b := sm_le (f := gup f s (g s)) (g := g) n.toNat (fun i i0 i1 => by
    by_cases c : i = s
    · rw [gup_e c, c]; exact Int.le_refl _
    · rw [gup_n c]; exact h i i0 (by omega))
  rw [show ((n.toNat : Nat) : Int) = n by omega] at a b
  rw [if_pos s1, gup_e rfl] at a
  have := h s s0 s1
  omega
def eqN (f g : Int → Int) : Nat → Bool
  | 0 => true
  | c + 1 => eqN f g c && decide (f c = g c)
theorem eqN_iff {f g : Int → Int} : ∀ m : Nat, eqN f g m = true ↔ ∀ c, 0 ≤ c → c < (m : Int) → f c = g c := by
  intro m
  induction m with
  | zero => exact ⟨fun _ c c0 c1 => absurd c1 (by omega), fun _ => rfl⟩
  | succ m ih =>
    show (eqN f g m && decide (f m = g m)) = true ↔ _
    rw [Bool.and_eq_true, ih]
    refine ⟨fun h c c0 c1 => ?_, fun h => ⟨fun c c0 c1 => h c c0 (by omega), decide_eq_true (h m (by omega) (by omega))⟩⟩
    by_cases e : c = m
    · rw [e]; exact of_decide_eq_true h.2
    · exact h.1 c c0 (by omega)
/-- whether two words, told by numbers, are twins; how many below; the first -/
def tw (k : Int) (d n : Nat) (w e : Int) : Bool := eqN (cc k d n e) (cc k d n w) (k ^ d).toNat
theorem tw_iff {k w e : Int} {d n : Nat} (k1 : 1 ≤ k) : tw k d n w e = true ↔ ∀ c, 0 ≤ c → c < k ^ d → cc k d n e c = cc k d n w c := by
  have pp : 0 < k ^ d := Int.pow_pos (by omega)
  unfold tw
  rw [eqN_iff, show (((k ^ d).toNat : Nat) : Int) = k ^ d by omega]
theorem tw_le {k w e : Int} {d n : Nat} (k1 : 1 ≤ k) (h : ∀ c, 0 ≤ c → c < k ^ d → cc k d n e c ≤ cc k d n w c) : tw k d n w e = true := (tw_iff k1).2 (sm_eqs (Int.le_of_lt (Int.pow_pos (by omega))) h (cc_sum k1 n d e w))
def tT (k : Int) (d n : Nat) (w E : Int) : Int := sm (fun e => if tw k d n w e = true then 1 else 0) E
def tFN (k : Int) (d n : Nat) (w : Int) : Nat → Int
  | 0 => -1
  | E + 1 => if tFN k d n w E = -1 ∧ tw k d n w E = true then (E : Int) else tFN k d n w E
def tF (k : Int) (d n : Nat) (w E : Int) : Int := tFN k d n w E.toNat
theorem tF_s {k w E : Int} {d n : Nat} (h : 0 ≤ E) : tF k d n w (E + 1) = if tF k d n w E = -1 ∧ tw k d n w E = true then E else tF k d n w E := by
  unfold tF
  rw [show (E + 1).toNat = E.toNat + 1 by omega]
  show (if tFN k d n w E.toNat = -1 ∧ tw k d n w (E.toNat : Int) = true then ((E.toNat : Nat) : Int) else tFN k d n w E.toNat) = _
  rw [show ((E.toNat : Nat) : Int) = E by omega]
theorem tT_s {k w E : Int} {d n : Nat} (h : 0 ≤ E) : tT k d n w (E + 1) = tT k d n w E + if tw k d n w E = true then 1 else 0 := sm_s h
theorem tF_b {k w E : Int} {d n : Nat} (E0 : 0 ≤ E) : (0 ≤ tT k d n w E ∧ tT k d n w E ≤ E) ∧ -1 ≤ tF k d n w E ∧ tF k d n w E < E + (if E = 0 then 1 else 0) ∧ (tT k d n w E = 0 ↔ tF k d n w E = -1) := by
  refine dn_ind (P := fun E => (0 ≤ tT k d n w E ∧ tT k d n w E ≤ E) ∧ -1 ≤ tF k d n w E ∧ tF k d n w E < E + (if E = 0 then 1 else 0) ∧ (tT k d n w E = 0 ↔ tF k d n w E = -1)) (a := 0) (n := E) E0 ⟨⟨Int.le_refl 0, Int.le_refl 0⟩, Int.le_refl (-1), by rw [if_pos rfl]; show (-1 : Int) < 0 + 1; decide, ⟨fun _ => rfl, fun _ => rfl⟩⟩ (fun y y0 y1 ih => ?_)
  have a := tT_s (k := k) (d := d) (n := n) (w := w) (show 0 ≤ y - 1 by omega)
  have b := tF_s (k := k) (d := d) (n := n) (w := w) (show 0 ≤ y - 1 by omega)
  rw [show y - 1 + 1 = y by omega] at a b
  obtain ⟨⟨i1, i2⟩, i3, i4, i5⟩ := ih
  rw [if_neg (show ¬ y = 0 by omega)]
  have i4' : tF k d n w (y - 1) < y := by
    by_cases c : y - 1 = 0
    · rw [if_pos c] at i4; omega
    · rw [if_neg c] at i4; omega
  by_cases t : tw k d n w (y - 1) = true
  · rw [if_pos t] at a
    by_cases q : tF k d n w (y - 1) = -1
    · rw [if_pos ⟨q, t⟩] at b
      rw [a, b]
      exact ⟨⟨by omega, by omega⟩, by omega, by omega, ⟨fun _ => by omega, fun _ => by omega⟩⟩
    · rw [if_neg (fun q2 => q q2.1)] at b
      have nz : tT k d n w (y - 1) ≠ 0 := fun q2 => q (i5.1 q2)
      rw [a, b]
      exact ⟨⟨by omega, by omega⟩, by omega, by omega, ⟨fun _ => by omega, fun q2 => absurd q2 q⟩⟩
  · rw [if_neg t, Int.add_zero] at a
    rw [if_neg (fun q2 => t q2.2)] at b
    rw [a, b]
    exact ⟨⟨i1, by omega⟩, i3, by omega, i5⟩
theorem tT_same {k w a b : Int} {d n : Nat} (a0 : 0 ≤ a) (ab : a ≤ b) (h : ∀ e, a ≤ e → e < b → ¬ tw k d n w e = true) : tT k d n w b = tT k d n w a ∧ tF k d n w b = tF k d n w a := by
  refine dn_ind (P := fun b => (∀ e, a ≤ e → e < b → ¬ tw k d n w e = true) → tT k d n w b = tT k d n w a ∧ tF k d n w b = tF k d n w a) (a := a) (n := b) ab (fun _ => ⟨rfl, rfl⟩) (fun y y0 y1 ih h => ?_) h
  have x := tT_s (k := k) (d := d) (n := n) (w := w) (show 0 ≤ y - 1 by omega)
  have z := tF_s (k := k) (d := d) (n := n) (w := w) (show 0 ≤ y - 1 by omega)
  rw [show y - 1 + 1 = y by omega] at x z
  have t := h (y - 1) (by omega) (by omega)
  rw [x, z, if_neg t, if_neg (fun q => t q.2), Int.add_zero]
  exact ih (fun e e0 e1 => h e e0 (by omega))
/-- the number of a beginning -/
def pn (k : Int) : Nat → Int → Int
  | 0, e => e
  | t + 1, e => pn k t (e / k)
theorem pn_d {k : Int} : ∀ (t : Nat) (e : Int), pn k t e / k = pn k (t + 1) e := by
  intro t
  induction t with
  | zero => intro e; rfl
  | succ t ih => intro e; exact ih (e / k)
theorem pn_blk {k : Int} (k1 : 1 ≤ k) : ∀ (t : Nat) (P e : Int), P * k ^ t ≤ e → e < (P + 1) * k ^ t → pn k t e = P := by
  intro t
  induction t with
  | zero =>
    intro P e h1 h2
    rw [Int.pow_zero, Int.mul_one] at h1 h2
    show e = P
    omega
  | succ t ih =>
    intro P e h1 h2
    rw [Int.pow_succ, ← Int.mul_assoc] at h1 h2
    exact ih P (e / k) (Int.le_ediv_of_mul_le (by omega) h1) (Int.ediv_lt_of_lt_mul (by omega) h2)
theorem cc_mono {k c : Int} {d i : Nat} : ∀ (t : Nat) (e : Int), cc k d i (pn k t e) c ≤ cc k d (i + t) e c := by
  intro t
  induction t with
  | zero => intro e; exact Int.le_refl _
  | succ t ih =>
    intro e
    refine Int.le_trans (ih (e / k)) ?_
    cases d with
    | zero => rw [cc_0, cc_0]; exact Int.le_refl 1
    | succ d =>
      show cc k (d + 1) (i + t) (e / k) c ≤ cc k (d + 1) (i + t + 1) e c
      rw [cc_s]
      have := cc_nn (k := k) (i + t) d (e / k) (c / k)
      split <;> omega
def cu (k : Int) (u : Int → Int) : Nat → Int
  | 0 => 0
  | i + 1 => cu k u i * k + u i
theorem cu_b {k : Int} {u : Int → Int} (k1 : 1 ≤ k) : ∀ i : Nat, (∀ j, 0 ≤ j → j < (i : Int) → 0 ≤ u j ∧ u j < k) → 0 ≤ cu k u i ∧ cu k u i < k ^ i := by
  intro i
  induction i with
  | zero => intro _; exact ⟨Int.le_refl 0, by rw [Int.pow_zero]; show (0 : Int) < 1; decide⟩
  | succ i ih =>
    intro h
    have a := ih (fun j j0 j1 => h j j0 (by omega))
    have b := h i (by omega) (by omega)
    have m1 := Int.mul_nonneg a.1 (show 0 ≤ k by omega)
    have m2 : cu k u i * k ≤ (k ^ i - 1) * k := Int.mul_le_mul_of_nonneg_right (by omega) (by omega)
    rw [Int.sub_mul, Int.one_mul] at m2
    rw [Int.pow_succ]
    show 0 ≤ cu k u i * k + u i ∧ cu k u i * k + u i < k ^ i * k
    omega
theorem cu_cg {k : Int} {u v : Int → Int} : ∀ i : Nat, (∀ j, 0 ≤ j → j < (i : Int) → u j = v j) → cu k u i = cu k v i := by
  intro i
  induction i with
  | zero => intro _; rfl
  | succ i ih =>
    intro h
    show cu k u i * k + u i = cu k v i * k + v i
    rw [ih (fun j j0 j1 => h j j0 (by omega)), h i (by omega) (by omega)]
def dg (k n e j : Int) : Int := pn k (n - 1 - j).toNat e % k
theorem dg_b {k n e j : Int} (k1 : 1 ≤ k) : 0 ≤ dg k n e j ∧ dg k n e j < k := ⟨Int.emod_nonneg _ (by omega), Int.emod_lt_of_pos _ (by omega)⟩
theorem cu_dg {k n e : Int} (k1 : 1 ≤ k) (e0 : 0 ≤ e) (e1 : e < k ^ n.toNat) (n0 : 0 ≤ n) : ∀ i : Nat, (i : Int) ≤ n → cu k (dg k n e) i = pn k (n - i).toNat e := by
  intro i
  induction i with
  | zero =>
    intro _
    rw [show ((0 : Nat) : Int) = 0 from rfl, Int.sub_zero]
    exact (pn_blk k1 n.toNat 0 e (by rw [Int.zero_mul]; exact e0) (by rw [Int.zero_add, Int.one_mul]; exact e1)).symm
  | succ i ih =>
    intro hi
    show cu k (dg k n e) i * k + dg k n e i = _
    rw [ih (by omega)]
    unfold dg
    rw [show (n - (i : Int)).toNat = (n - 1 - (i : Int)).toNat + 1 by omega, show (n - ((i + 1 : Nat) : Int)).toNat = (n - 1 - (i : Int)).toNat by omega, ← pn_d]
    have := Int.mul_ediv_add_emod (pn k (n - 1 - (i : Int)).toNat e) k
    rw [Int.mul_comm] at this
    exact this
