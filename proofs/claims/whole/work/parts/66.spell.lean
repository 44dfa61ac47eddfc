/-! 12 fault, 13 tell: how a TEXT is read (7: 1 size, 3 depth, 4 where the last item begins, 5 its place in the TEXT; 8 letters, 9 sizes at brackets, 10 their places) -/
def mkS (len dep last pos : Int) (sp op ps : Int → Int) : Mem := fun a j => if a = 7 then (if j = 1 then len else if j = 3 then dep else if j = 4 then last else pos) else if a = 8 then sp j else if a = 9 then op j else ps j
theorem mkS_1 {len dep last pos : Int} {sp op ps : Int → Int} : mkS len dep last pos sp op ps 7 1 = len := rfl
theorem mkS_3 {len dep last pos : Int} {sp op ps : Int → Int} : mkS len dep last pos sp op ps 7 3 = dep := rfl
theorem mkS_4 {len dep last pos : Int} {sp op ps : Int → Int} : mkS len dep last pos sp op ps 7 4 = last := rfl
theorem mkS_5 {len dep last pos : Int} {sp op ps : Int → Int} : mkS len dep last pos sp op ps 7 5 = pos := rfl
theorem mkS_8 {len dep last pos j : Int} {sp op ps : Int → Int} : mkS len dep last pos sp op ps 8 j = sp j := rfl
theorem mkS_9 {len dep last pos j : Int} {sp op ps : Int → Int} : mkS len dep last pos sp op ps 9 j = op j := rfl
theorem mkS_t {len dep last pos j : Int} {sp op ps : Int → Int} : mkS len dep last pos sp op ps 10 j = ps j := rfl
def rp (sp : Int → Int) (last pc len j : Int) : Int := if len ≤ j then sp (last + (j - last) % pc) else sp j
def sOk (k b : Int) (s : Mem) : Bool := decide ((97 ≤ b ∧ b < 97 + k) ∨ (b = 40 ∧ s 7 3 < 4) ∨ (b = 41 ∧ s 7 3 ≠ 0 ∧ s 9 (s 7 3 - 1) ≠ s 7 1) ∨ (49 ≤ b ∧ b ≤ 57 ∧ 0 ≤ s 7 4))
theorem sOk_iff {k b : Int} {s : Mem} : sOk k b s = true ↔ ((97 ≤ b ∧ b < 97 + k) ∨ (b = 40 ∧ s 7 3 < 4) ∨ (b = 41 ∧ s 7 3 ≠ 0 ∧ s 9 (s 7 3 - 1) ≠ s 7 1) ∨ (49 ≤ b ∧ b ≤ 57 ∧ 0 ≤ s 7 4)) := ⟨fun h => of_decide_eq_true h, fun h => decide_eq_true h⟩
def sL (b i : Int) (s : Mem) : Mem := mkS (s 7 1 + 1) (s 7 3) (s 7 1) i (gup (s 8) (s 7 1) (b - 97)) (s 9) (s 10)
def sO (i : Int) (s : Mem) : Mem := mkS (s 7 1) (s 7 3 + 1) (-1) i (s 8) (gup (s 9) (s 7 3) (s 7 1)) (gup (s 10) (s 7 3) i)
def sCl (s : Mem) : Mem := mkS (s 7 1) (s 7 3 - 1) (s 9 (s 7 3 - 1)) (s 10 (s 7 3 - 1)) (s 8) (s 9) (s 10)
def sR (b i : Int) (s : Mem) : Mem := mkS (s 7 4 + (s 7 1 - s 7 4) * (b - 48)) (s 7 3) (-1) i (rp (s 8) (s 7 4) (s 7 1 - s 7 4) (s 7 1)) (s 9) (s 10)
def sN (b i : Int) (s : Mem) : Mem := if 97 ≤ b then sL b i s else if b = 40 then sO i s else if b = 41 then sCl s else sR b i s
def blN (T : Int → Int) : Nat → Int → Int
  | 0, i => i
  | f + 1, i => if T i = 32 then blN T f (i + 1) else i
def bl (T : Int → Int) (n i : Int) : Int := blN T (n - i).toNat i
theorem bl_e {T : Int → Int} {n i : Int} (h : n ≤ i) : bl T n i = i := by
  unfold bl
  rw [show (n - i).toNat = 0 by omega]
  rfl
theorem bl_s {T : Int → Int} {n i : Int} (h : i < n) : bl T n i = if T i = 32 then bl T n (i + 1) else i := by
  unfold bl
  rw [show (n - i).toNat = (n - (i + 1)).toNat + 1 by omega]
  rfl
theorem bl_b {T : Int → Int} {n i : Int} (h : i ≤ n) : i ≤ bl T n i ∧ bl T n i ≤ n := by
  refine up_ind (P := fun x => i ≤ x → x ≤ bl T n x ∧ bl T n x ≤ n) (a := i) (n := n) h (fun _ => by rw [bl_e (Int.le_refl n)]; exact ⟨Int.le_refl n, Int.le_refl n⟩) (fun x x0 x1 ih hx => ?_) (Int.le_refl i)
  rw [bl_s x1]
  have := ih (by omega)
  split <;> omega
def rdN (T : Int → Int) (n k : Int) : Nat → Int → Mem → Int × Mem
  | 0, _, s => (if s 7 3 = 0 then -9 else n, s)
  | f + 1, i, s => if T i = 32 ∧ s 7 3 = 0 then (if bl T n i = n then -9 else bl T n i, s) else if sOk k (T i) s = true then rdN T n k f (i + 1) (sN (T i) i s) else (i, s)
def rd9 (T : Int → Int) (n k i : Int) (s : Mem) : Int × Mem := rdN T n k (n - i).toNat i s
theorem rd_e {T : Int → Int} {n k i : Int} {s : Mem} (h : n ≤ i) : rd9 T n k i s = (if s 7 3 = 0 then -9 else n, s) := by
  unfold rd9
  rw [show (n - i).toNat = 0 by omega]
  rfl
theorem rd_s {T : Int → Int} {n k i : Int} {s : Mem} (h : i < n) : rd9 T n k i s = if T i = 32 ∧ s 7 3 = 0 then (if bl T n i = n then -9 else bl T n i, s) else if sOk k (T i) s = true then rd9 T n k (i + 1) (sN (T i) i s) else (i, s) := by
  unfold rd9
  rw [show (n - i).toNat = (n - (i + 1)).toNat + 1 by omega]
  rfl
theorem rd_y {T : Int → Int} {n k i : Int} {s : Mem} (h : i < n) (h1 : ¬ (T i = 32 ∧ s 7 3 = 0)) (h2 : sOk k (T i) s = true) : rd9 T n k i s = rd9 T n k (i + 1) (sN (T i) i s) := by rw [rd_s h, if_neg h1, if_pos h2]
theorem rd_n {T : Int → Int} {n k i : Int} {s : Mem} (h : i < n) (h1 : ¬ (T i = 32 ∧ s 7 3 = 0)) (h2 : ¬ sOk k (T i) s = true) : rd9 T n k i s = (i, s) := by rw [rd_s h, if_neg h1, if_neg h2]
/-- budgets -/
def wt (t : Int) : Int := if t = 0 then 59049 else if t = 1 then 6561 else if t = 2 then 729 else if t = 3 then 81 else 9
def bud (t x : Int) : Int := wt t * x
theorem wt_b (t : Int) : 9 ≤ wt t ∧ wt t ≤ 59049 := by
  unfold wt
  split
  · decide
  split
  · decide
  split
  · decide
  split <;> decide
theorem bud_sp (t a b c : Int) : bud t (a - c) = bud t (a - b) + bud t (b - c) := by
  unfold bud
  rw [← Int.mul_add]
  congr 1
  omega
theorem bud_b {t x : Int} (h : 0 ≤ x) : 9 * x ≤ bud t x ∧ bud t x ≤ 59049 * x := by
  have w := wt_b t
  exact ⟨Int.mul_le_mul_of_nonneg_right w.1 h, Int.mul_le_mul_of_nonneg_right w.2 h⟩
theorem bud_9 {t x : Int} (t0 : 0 ≤ t) (t1 : t < 4) : bud t x = 9 * bud (t + 1) x := by
  unfold bud
  rw [← Int.mul_assoc]
  congr 1
  have e : t = 0 ∨ t = 1 ∨ t = 2 ∨ t = 3 := by omega
  rcases e with rfl | rfl | rfl | rfl <;> rfl
def bP (s : Mem) (t : Int) : Int := if t = 0 then 0 else s 10 (t - 1)
def bL (s : Mem) (t : Int) : Int := if t = 0 then 0 else s 9 (t - 1)
def sI (s : Mem) (k i : Int) : Prop := ((0 ≤ s 7 3 ∧ s 7 3 ≤ 4) ∧ 0 ≤ s 7 1 ∧ s 7 1 ≤ 59049 * i) ∧ (∀ t, 0 ≤ t → t ≤ s 7 3 → 0 ≤ bP s t ∧ bP s t ≤ i ∧ 0 ≤ bL s t ∧ bL s t ≤ s 7 1 ∧ bL s t ≤ 59049 * bP s t) ∧ (∀ t, 0 ≤ t → t < s 7 3 → bP s t ≤ bP s (t + 1) ∧ bL s t ≤ bL s (t + 1) ∧ bL s (t + 1) - bL s t ≤ bud t (bP s (t + 1) - bP s t)) ∧ ((s 7 4 = -1 ∧ s 7 1 - bL s (s 7 3) ≤ bud (s 7 3) (i - bP s (s 7 3))) ∨ ((bL s (s 7 3) ≤ s 7 4 ∧ s 7 4 < s 7 1) ∧ (bP s (s 7 3) ≤ s 7 5 ∧ s 7 5 ≤ i) ∧ s 7 4 - bL s (s 7 3) ≤ bud (s 7 3) (s 7 5 - bP s (s 7 3)) ∧ 9 * (s 7 1 - s 7 4) ≤ bud (s 7 3) (i - s 7 5))) ∧ (∀ j, 0 ≤ j → j < s 7 1 → 0 ≤ s 8 j ∧ s 8 j < k)
theorem sI_all {s : Mem} {k i : Int} (h : sI s k i) : s 7 1 - bL s (s 7 3) ≤ bud (s 7 3) (i - bP s (s 7 3)) := by
  obtain ⟨h1, h2, h3, h4, h5⟩ := h
  rcases h4 with h4 | ⟨q1, q2, q3, q4⟩
  · exact h4.2
  · have sp := bud_sp (s 7 3) i (s 7 5) (bP s (s 7 3))
    omega
theorem bPL_cg {s u : Mem} {t : Int} (h9 : t = 0 ∨ u 9 (t - 1) = s 9 (t - 1)) (h10 : t = 0 ∨ u 10 (t - 1) = s 10 (t - 1)) : bP u t = bP s t ∧ bL u t = bL s t := by
  unfold bP bL
  by_cases q : t = 0
  · rw [if_pos q, if_pos q, if_pos q, if_pos q]; exact ⟨rfl, rfl⟩
  · rw [if_neg q, if_neg q, if_neg q, if_neg q]
    exact ⟨by rcases h10 with h | h; exact absurd h q; exact h, by rcases h9 with h | h; exact absurd h q; exact h⟩
theorem sI_L {s : Mem} {k i b : Int} (i0 : 0 ≤ i) (b0 : 97 ≤ b) (b1 : b < 97 + k) (h : sI s k i) : sI (sL b i s) k (i + 1) := by
  have all := sI_all h
  obtain ⟨⟨⟨d0, d4⟩, l0, l1⟩, h2, h3, h4, h5⟩ := h
  have cg : ∀ t, bP (sL b i s) t = bP s t ∧ bL (sL b i s) t = bL s t := fun t => bPL_cg (Or.inr rfl) (Or.inr rfl)
  have e1 : sL b i s 7 1 = s 7 1 + 1 := rfl
  have e3 : sL b i s 7 3 = s 7 3 := rfl
  have e4 : sL b i s 7 4 = s 7 1 := rfl
  have e5 : sL b i s 7 5 = i := rfl
  have hd := h2 (s 7 3) d0 (Int.le_refl _)
  refine ⟨⟨⟨d0, d4⟩, by rw [e1]; omega, by rw [e1]; omega⟩, fun t t0 t1 => ?_, fun t t0 t1 => ?_, Or.inr ?_, fun j j0 j1 => ?_⟩
  · rw [(cg t).1, (cg t).2, e1]
    have := h2 t t0 t1
    omega
  · rw [(cg t).1, (cg t).2, (cg (t + 1)).1, (cg (t + 1)).2]
    exact h3 t t0 t1
  · rw [e1, e3, e4, e5, (cg (s 7 3)).1, (cg (s 7 3)).2]
    have bb := (bud_b (t := s 7 3) (show 0 ≤ i + 1 - i by omega)).1
    exact ⟨⟨by omega, by omega⟩, ⟨by omega, by omega⟩, all, by omega⟩
  · show 0 ≤ gup (s 8) (s 7 1) (b - 97) j ∧ gup (s 8) (s 7 1) (b - 97) j < k
    rw [e1] at j1
    by_cases q : j = s 7 1
    · rw [gup_e q]; omega
    · rw [gup_n q]; exact h5 j j0 (by omega)
theorem sI_O {s : Mem} {k i : Int} (i0 : 0 ≤ i) (hd : s 7 3 < 4) (h : sI s k i) : sI (sO i s) k (i + 1) := by
  have all := sI_all h
  obtain ⟨⟨⟨d0, d4⟩, l0, l1⟩, h2, h3, h4, h5⟩ := h
  have e1 : sO i s 7 1 = s 7 1 := rfl
  have e3 : sO i s 7 3 = s 7 3 + 1 := rfl
  have e9 : ∀ j, sO i s 9 j = gup (s 9) (s 7 3) (s 7 1) j := fun _ => rfl
  have e10 : ∀ j, sO i s 10 j = gup (s 10) (s 7 3) i j := fun _ => rfl
  have cg : ∀ t, t ≤ s 7 3 → bP (sO i s) t = bP s t ∧ bL (sO i s) t = bL s t := fun t ht => bPL_cg (Or.inr (by rw [e9, gup_n (by omega)])) (Or.inr (by rw [e10, gup_n (by omega)]))
  have top : bP (sO i s) (s 7 3 + 1) = i ∧ bL (sO i s) (s 7 3 + 1) = s 7 1 := by
    unfold bP bL
    rw [if_neg (by omega), if_neg (by omega), e9, e10, gup_e (by omega), gup_e (by omega)]
    exact ⟨rfl, rfl⟩
  have hdd := h2 (s 7 3) d0 (Int.le_refl _)
  refine ⟨⟨⟨by rw [e3]; omega, by rw [e3]; omega⟩, l0, by rw [e1]; omega⟩, fun t t0 t1 => ?_, fun t t0 t1 => ?_, Or.inl ⟨rfl, ?_⟩, h5⟩
  · rw [e3] at t1
    rw [e1]
    by_cases q : t = s 7 3 + 1
    · rw [q, top.1, top.2]; omega
    · rw [(cg t (by omega)).1, (cg t (by omega)).2]
      have := h2 t t0 (by omega)
      omega
  · rw [e3] at t1
    by_cases q : t = s 7 3
    · rw [q, top.1, top.2, (cg _ (Int.le_refl _)).1, (cg _ (Int.le_refl _)).2]
      exact ⟨by omega, by omega, all⟩
    · rw [(cg t (by omega)).1, (cg t (by omega)).2, (cg (t + 1) (by omega)).1, (cg (t + 1) (by omega)).2]
      exact h3 t t0 (by omega)
  · rw [e1, e3, top.1, top.2]
    have bb := (bud_b (t := s 7 3 + 1) (show 0 ≤ i + 1 - i by omega)).1
    omega
theorem sI_C {s : Mem} {k i : Int} (i0 : 0 ≤ i) (hd : s 7 3 ≠ 0) (hl : s 9 (s 7 3 - 1) ≠ s 7 1) (h : sI s k i) : sI (sCl s) k (i + 1) := by
  have all := sI_all h
  obtain ⟨⟨⟨d0, d4⟩, l0, l1⟩, h2, h3, h4, h5⟩ := h
  have e1 : sCl s 7 1 = s 7 1 := rfl
  have e3 : sCl s 7 3 = s 7 3 - 1 := rfl
  have e4 : sCl s 7 4 = s 9 (s 7 3 - 1) := rfl
  have e5 : sCl s 7 5 = s 10 (s 7 3 - 1) := rfl
  have cg : ∀ t, bP (sCl s) t = bP s t ∧ bL (sCl s) t = bL s t := fun t => bPL_cg (Or.inr rfl) (Or.inr rfl)
  have bt : bL s (s 7 3) = s 9 (s 7 3 - 1) ∧ bP s (s 7 3) = s 10 (s 7 3 - 1) := by
    unfold bP bL
    rw [if_neg hd, if_neg hd]
    exact ⟨rfl, rfl⟩
  have hdd := h2 (s 7 3) d0 (Int.le_refl _)
  have hpr := h3 (s 7 3 - 1) (by omega) (by omega)
  rw [show s 7 3 - 1 + 1 = s 7 3 by omega] at hpr
  refine ⟨⟨⟨by rw [e3]; omega, by rw [e3]; omega⟩, l0, by rw [e1]; omega⟩, fun t t0 t1 => ?_, fun t t0 t1 => ?_, Or.inr ?_, h5⟩
  · rw [e3] at t1
    rw [(cg t).1, (cg t).2, e1]
    have := h2 t t0 (by omega)
    omega
  · rw [e3] at t1
    rw [(cg t).1, (cg t).2, (cg (t + 1)).1, (cg (t + 1)).2]
    exact h3 t t0 (by omega)
  · rw [e1, e3, e4, e5, (cg (s 7 3 - 1)).1, (cg (s 7 3 - 1)).2]
    have b9 := bud_9 (x := i - bP s (s 7 3)) (show 0 ≤ s 7 3 - 1 by omega) (show s 7 3 - 1 < 4 by omega)
    rw [show s 7 3 - 1 + 1 = s 7 3 by omega] at b9
    have sp := bud_sp (s 7 3 - 1) (i + 1) i (bP s (s 7 3))
    have bb := (bud_b (t := s 7 3 - 1) (show 0 ≤ i + 1 - i by omega)).1
    rw [← bt.1, ← bt.2]
    rw [← bt.1] at hl
    exact ⟨⟨by omega, by omega⟩, ⟨by omega, by omega⟩, by omega, by omega⟩
theorem rp_v {sp : Int → Int} {last pc len k j : Int} (p1 : 1 ≤ pc) (hp : pc = len - last) (l0 : 0 ≤ last) (h : ∀ j, 0 ≤ j → j < len → 0 ≤ sp j ∧ sp j < k) (j0 : 0 ≤ j) : 0 ≤ rp sp last pc len j ∧ rp sp last pc len j < k := by
  have m0 := Int.emod_nonneg (j - last) (show pc ≠ 0 by omega)
  have m1 := Int.emod_lt_of_pos (j - last) (show 0 < pc by omega)
  unfold rp
  by_cases q : len ≤ j
  · rw [if_pos q]; exact h _ (by omega) (by omega)
  · rw [if_neg q]; exact h j j0 (by omega)
theorem sI_R {s : Mem} {k i b : Int} (i0 : 0 ≤ i) (b0 : 49 ≤ b) (b1 : b ≤ 57) (hl : 0 ≤ s 7 4) (h : sI s k i) : sI (sR b i s) k (i + 1) := by
  obtain ⟨⟨⟨d0, d4⟩, l0, l1⟩, h2, h3, h4, h5⟩ := h
  have cg : ∀ t, bP (sR b i s) t = bP s t ∧ bL (sR b i s) t = bL s t := fun t => bPL_cg (Or.inr rfl) (Or.inr rfl)
  have e1 : sR b i s 7 1 = s 7 4 + (s 7 1 - s 7 4) * (b - 48) := rfl
  have e3 : sR b i s 7 3 = s 7 3 := rfl
  have hdd := h2 (s 7 3) d0 (Int.le_refl _)
  rcases h4 with h4 | ⟨q1, q2, q3, q4⟩
  · exact absurd h4.1 (by omega)
  have m1 : (s 7 1 - s 7 4) * 1 ≤ (s 7 1 - s 7 4) * (b - 48) := Int.mul_le_mul_of_nonneg_left (by omega) (by omega)
  have m9 : (s 7 1 - s 7 4) * (b - 48) ≤ (s 7 1 - s 7 4) * 9 := Int.mul_le_mul_of_nonneg_left (by omega) (by omega)
  rw [Int.mul_one] at m1
  have sp := bud_sp (s 7 3) i (s 7 5) (bP s (s 7 3))
  have bb := (bud_b (t := s 7 3) (show 0 ≤ i - bP s (s 7 3) by omega)).2
  refine ⟨⟨⟨d0, d4⟩, by rw [e1]; omega, by rw [e1]; omega⟩, fun t t0 t1 => ?_, fun t t0 t1 => ?_, Or.inl ⟨rfl, ?_⟩, fun j j0 j1 => ?_⟩
  · rw [(cg t).1, (cg t).2, e1]
    have := h2 t t0 t1
    omega
  · rw [(cg t).1, (cg t).2, (cg (t + 1)).1, (cg (t + 1)).2]
    exact h3 t t0 t1
  · rw [e1, e3, (cg (s 7 3)).1, (cg (s 7 3)).2]
    have sp2 := bud_sp (s 7 3) (i + 1) i (bP s (s 7 3))
    have b2 := (bud_b (t := s 7 3) (show 0 ≤ i + 1 - i by omega)).1
    omega
  · exact rp_v (by omega) rfl hl h5 j0
theorem sI_N {s : Mem} {k i b : Int} (i0 : 0 ≤ i) (k6 : k ≤ 6) (hok : sOk k b s = true) (h : sI s k i) : sI (sN b i s) k (i + 1) := by
  rcases sOk_iff.1 hok with q | q | q | q
  · unfold sN; rw [if_pos q.1]; exact sI_L i0 q.1 q.2 h
  · unfold sN; rw [if_neg (by omega), if_pos q.1]; exact sI_O i0 q.2 h
  · unfold sN; rw [if_neg (by omega), if_neg (by omega), if_pos q.1]; exact sI_C i0 q.2.1 q.2.2 h
  · unfold sN; rw [if_neg (by omega), if_neg (by omega), if_neg (by omega)]; exact sI_R i0 q.1 q.2.1 q.2.2 h
def s0 : Mem := mkS 0 0 (-1) 0 zf zf zf
theorem sI_0 {k i : Int} (i0 : 0 ≤ i) : sI s0 k i := by
  have e1 : s0 7 1 = 0 := rfl
  have e3 : s0 7 3 = 0 := rfl
  have b0 : bP s0 0 = 0 := rfl
  have b1 : bL s0 0 = 0 := rfl
  refine ⟨⟨⟨by rw [e3]; decide, by rw [e3]; decide⟩, by rw [e1]; decide, by rw [e1]; omega⟩, fun t t0 t1 => ?_, fun t t0 t1 => absurd t1 (by rw [e3]; omega), Or.inl ⟨rfl, ?_⟩, fun j j0 j1 => absurd j1 (by rw [e1]; omega)⟩
  · rw [e3] at t1
    rw [show t = 0 by omega, b0, b1, e1]
    omega
  · rw [e1, e3, b0, b1]
    have bb := (bud_b (t := 0) (show 0 ≤ i - 0 by omega)).1
    omega
/-! the class -/
def Rl (s M : Mem) : Prop := (M 7 1 = s 7 1 ∧ M 7 3 = s 7 3 ∧ M 7 4 = s 7 4) ∧ (∀ j, 0 ≤ j → j < s 7 1 → j < 40 → M 8 j = s 8 j) ∧ ∀ t, 0 ≤ t → t < s 7 3 → M 9 t = s 9 t
theorem c_repeat {s M : Mem} {k i b : Int} {Q : Vl → Mem → Prop} (h : sI s k i) (i6 : i ≤ 60) (b0 : 49 ≤ b) (b1 : b ≤ 57) (hl : 0 ≤ s 7 4) (R : Rl s M) (hq : ∀ M2, off 7 9 M M2 → Rl (sR b i s) M2 → Q (Iv 1) M2) : cl 0 yX6_repeat [Rv 7, Iv (b - 48)] M Q := by
  obtain ⟨⟨r1, r3, r4⟩, r8, r9⟩ := R
  obtain ⟨⟨⟨d0, d4⟩, l0, l1⟩, h2, h3, h4, h5⟩ := h
  have hdd := h2 (s 7 3) d0 (Int.le_refl _)
  rcases h4 with h4 | ⟨q1, q2, q3, q4⟩
  · exact absurd h4.1 (by omega)
  have m1 : (s 7 1 - s 7 4) * 1 ≤ (s 7 1 - s 7 4) * (b - 48) := Int.mul_le_mul_of_nonneg_left (by omega) (by omega)
  have m9 : (s 7 1 - s 7 4) * (b - 48) ≤ (s 7 1 - s 7 4) * 9 := Int.mul_le_mul_of_nonneg_left (by omega) (by omega)
  rw [Int.mul_one] at m1
  have fin : ∀ M2, off 8 8 M M2 → (∀ j, 0 ≤ j → j < s 7 4 + (s 7 1 - s 7 4) * (b - 48) → j < 40 → M2 8 j = rp (s 8) (s 7 4) (s 7 1 - s 7 4) (s 7 1) j) → Q (Iv 1) (up (up M2 7 1 (s 7 4 + (s 7 1 - s 7 4) * (b - 48))) 7 4 (-1)) := by
    intro M2 o2 c2
    refine hq _ (((o2.wd (by decide) (by decide)).upd (by decide) (by decide)).upd (by decide) (by decide)) ⟨⟨?_, ?_, ?_⟩, fun j j0 j1 j2 => ?_, fun t t0 t1 => ?_⟩
    · rw [up_at, if_neg (by decide), up_at, if_pos rfl]; rfl
    · rw [up_at, if_neg (by decide), up_at, if_neg (by decide), o2 7 (by decide), r3]; rfl
    · rw [up_at, if_pos rfl]; rfl
    · rw [up_ne (by decide), up_ne (by decide)]; exact c2 j j0 j1 j2
    · rw [up_ne (by decide), up_ne (by decide), o2 9 (by decide)]; exact r9 t t0 t1
  refine eX6_repeat ⟨by rw [r4]; exact ⟨by omega, by omega⟩, fun _ => ?_, fun q => absurd q (by omega)⟩
  rw [r1, r4]
  by_cases big : 40 ≤ s 7 1
  · have f := fin M off.rf (fun j j0 j1 j2 => by unfold rp; rw [if_neg (by omega)]; exact r8 j j0 (by omega) j2)
    exact gX6_repeat_34 ⟨⟨by omega, by omega⟩, ⟨by omega, by omega⟩, fun _ => f, fun _ => ⟨fun _ => f, fun q => absurd q (by omega)⟩⟩
  · refine up_ind (P := fun x => ∀ M2, off 8 8 M M2 → (∀ j, 0 ≤ j → j < x → M2 8 j = rp (s 8) (s 7 4) (s 7 1 - s 7 4) (s 7 1) j) → (x ≤ s 7 4 + (s 7 1 - s 7 4) * (b - 48)) → wp 0 yX6_repeat 34 [some (Rv 7), some (Iv (b - 48)), some (Iv (s 7 1 - s 7 4)), some (Iv (s 7 4 + (s 7 1 - s 7 4) * (b - 48))), some (Iv x)] [] M2 Q) (a := s 7 1) (n := 40) (by omega) (fun M2 o2 c2 hx => ?_) (fun x x0 x1 ih M2 o2 c2 hx => ?_) M off.rf (fun j j0 j1 => by unfold rp; rw [if_neg (by omega)]; exact r8 j j0 j1 (by omega)) (by omega)
    · have f := fin M2 o2 (fun j j0 j1 j2 => c2 j j0 j2)
      exact gX6_repeat_34 ⟨by decide, ⟨by omega, by omega⟩, fun _ => f, fun _ => ⟨fun _ => f, fun q => absurd q (by decide)⟩⟩
    · refine gX6_repeat_34 ⟨⟨by omega, by omega⟩, ⟨by omega, by omega⟩, fun q => fin M2 o2 (fun j j0 j1 j2 => c2 j j0 (by omega)), fun q => ⟨fun q2 => absurd q2 (by omega), fun _ => ⟨by omega, by omega, by omega, ih _ (o2.upd (by decide) (by decide)) (fun j j0 j1 => ?_) (by omega)⟩⟩⟩
      rw [up_at]
      by_cases e : j = x
      · rw [if_pos e, c2 _ (by omega) (by omega), e]
        have am := Int.add_mul_emod_self_right (x - (s 7 1 - s 7 4) - s 7 4) 1 (s 7 1 - s 7 4)
        rw [Int.one_mul, show x - (s 7 1 - s 7 4) - s 7 4 + (s 7 1 - s 7 4) = x - s 7 4 by omega] at am
        unfold rp
        rw [if_pos x0, am]
        by_cases q2 : s 7 1 ≤ x - (s 7 1 - s 7 4)
        · rw [if_pos q2]
        · rw [if_neg q2, Int.emod_eq_of_lt (by omega) (by omega)]
          congr 1
          omega
      · rw [if_neg e]; exact c2 j j0 (by omega)
theorem c_goesOn {s M : Mem} {k i b : Int} {Q : Vl → Mem → Prop} (h : sI s k i) (i0 : 0 ≤ i) (i6 : i ≤ 60) (k0 : 1 ≤ k) (k6 : k ≤ 6) (hb : -128 ≤ b ∧ b ≤ 127) (R : Rl s M) (hy : sOk k b s = true → ∀ M2, off 7 9 M M2 → Rl (sN b i s) M2 → Q (Iv 1) M2) (hn : ¬ sOk k b s = true → Q (Iv 0) M) : cl 0 yX6_goesOn [Rv 7, Iv b, Iv k] M Q := by
  have hR := R
  obtain ⟨⟨r1, r3, r4⟩, r8, r9⟩ := R
  have hh := h
  obtain ⟨⟨⟨d0, d4⟩, l0, l1⟩, h2, h3, h4, h5⟩ := h
  have hdd := h2 (s 7 3) d0 (Int.le_refl _)
  have no : ¬ ((97 ≤ b ∧ b < 97 + k) ∨ (b = 40 ∧ s 7 3 < 4) ∨ (b = 41 ∧ s 7 3 ≠ 0 ∧ s 9 (s 7 3 - 1) ≠ s 7 1) ∨ (49 ≤ b ∧ b ≤ 57 ∧ 0 ≤ s 7 4)) → Q (Iv 0) M := fun q => hn (fun q2 => q (sOk_iff.1 q2))
  -- the four kinds
  have opn' : b = 40 → cl 0 yX6_open [Rv 7] M (QI (fun z10 M10 => (Q (Iv z10) M10))) := fun hb4 => by
    refine eX6_open ⟨by rw [r3]; exact ⟨by omega, by omega⟩, fun q => ⟨by omega, by omega, ?_⟩, fun q => no (by omega)⟩
    rw [r3, r1]
    have hok : sOk k b s = true := sOk_iff.2 (Or.inr (Or.inl ⟨hb4, by omega⟩))
    have es : sN b i s = sO i s := by unfold sN; rw [if_neg (by omega), if_pos hb4]
    have hy' := hy hok
    rw [es] at hy'
    refine hy' _ (((off.rf.upd (by decide) (by decide)).upd (by decide) (by decide)).upd (by decide) (by decide)) ⟨⟨?_, ?_, ?_⟩, fun j j0 j1 j2 => ?_, fun t t0 t1 => ?_⟩
    · rw [up_at, if_neg (by decide), up_at, if_neg (by decide), up_ne (by decide), r1]; rfl
    · rw [up_at, if_neg (by decide), up_at, if_pos rfl]; rfl
    · rw [up_at, if_pos rfl]; rfl
    · rw [up_ne (by decide), up_ne (by decide), up_ne (by decide)]; exact r8 j j0 j1 j2
    · have t1' : t < s 7 3 + 1 := t1
      rw [up_ne (by decide), up_ne (by decide), up_at]
      show _ = gup (s 9) (s 7 3) (s 7 1) t
      by_cases e : t = s 7 3
      · rw [if_pos e, gup_e e]
      · rw [if_neg e, gup_n e]; exact r9 t t0 (by omega)
  have cls : b = 41 → cl 0 yX6_close [Rv 7] M (QI (fun z9 M9 => (Q (Iv z9) M9))) := fun hb4 => by
    refine eX6_close ⟨by rw [r3]; exact ⟨by omega, by omega⟩, fun q => no (by omega), fun q => ?_⟩
    have e9 : M 9 (M 7 3 - 1) = s 9 (s 7 3 - 1) := by rw [r3]; exact r9 _ (by omega) (by omega)
    have bt : bL s (s 7 3) = s 9 (s 7 3 - 1) := by unfold bL; rw [if_neg (by omega)]
    rw [e9, r1, r3]
    refine ⟨by omega, by omega, Or.inr ⟨⟨by omega, by omega⟩, ⟨by omega, by omega⟩⟩, fun q2 => ?_, fun q2 => no (by omega)⟩
    have hok : sOk k b s = true := sOk_iff.2 (Or.inr (Or.inr (Or.inl ⟨hb4, by omega, q2⟩)))
    have es : sN b i s = sCl s := by unfold sN; rw [if_neg (by omega), if_neg (by omega), if_pos hb4]
    have hy' := hy hok
    rw [es] at hy'
    refine hy' _ ((off.rf.upd (by decide) (by decide)).upd (by decide) (by decide)) ⟨⟨?_, ?_, ?_⟩, fun j j0 j1 j2 => ?_, fun t t0 t1 => ?_⟩
    · rw [up_at, if_neg (by decide), up_at, if_neg (by decide), r1]; rfl
    · rw [up_at, if_neg (by decide), up_at, if_pos rfl]; rfl
    · rw [up_at, if_pos rfl]; rfl
    · rw [up_ne (by decide), up_ne (by decide)]; exact r8 j j0 j1 j2
    · have t1' : t < s 7 3 - 1 := t1
      rw [up_ne (by decide), up_ne (by decide)]; exact r9 t t0 (by omega)
  have rep : 49 ≤ b → b ≤ 57 → cl 0 yX6_repeat [Rv 7, Iv (b - 48)] M (QI (fun z7 M7 => ((z7 = 0 → Q (Iv 0) M7) ∧ (z7 ≠ 0 → Q (Iv 1) M7)))) := fun hb4 hb5 => by
    by_cases q : 0 ≤ s 7 4
    · have hok : sOk k b s = true := sOk_iff.2 (Or.inr (Or.inr (Or.inr ⟨hb4, hb5, q⟩)))
      have es : sN b i s = sR b i s := by unfold sN; rw [if_neg (by omega), if_neg (by omega), if_neg (by omega)]
      have hy' := hy hok
      rw [es] at hy'
      exact c_repeat hh i6 hb4 hb5 q hR (fun M2 o2 R2 => ⟨fun q => absurd q (by decide), fun _ => hy' M2 o2 R2⟩)
    · have l4 : s 7 4 = -1 := by
        rcases h4 with h4 | h4
        · exact h4.1
        · have := h4.1.1; omega
      exact eX6_repeat ⟨by rw [r4, l4]; decide, fun q2 => absurd q2 (by omega), fun _ => ⟨fun _ => no (by omega), fun q => absurd rfl q⟩⟩
  refine eX6_goesOn ⟨⟨by omega, by omega⟩, fun q => ⟨fun q2 => ⟨fun q3 => ⟨fun q4 => no (by omega), fun q4 => ⟨fun q5 => no (by omega), fun q5 => rep q4 q5⟩⟩, fun q3 => cls q3⟩, fun q2 => opn' q2⟩, fun q => ⟨⟨by omega, by omega⟩, fun q2 => ⟨fun _ => ⟨fun _ => ⟨fun q4 => absurd q4 (by omega), fun q4 => ⟨fun q5 => no (by omega), fun q5 => absurd q5 (by omega)⟩⟩, fun q3 => absurd q3 (by omega)⟩, fun q3 => absurd q3 (by omega)⟩, fun q2 => ?_⟩⟩
  have hok : sOk k b s = true := sOk_iff.2 (Or.inl ⟨q, q2⟩)
  have es : sN b i s = sL b i s := by unfold sN; rw [if_pos q]
  have hy' := hy hok
  rw [es] at hy'
  refine eX6_addLetter ⟨by rw [r1]; exact ⟨by omega, by omega⟩, fun q3 => ?_, fun q3 => ⟨by omega, q3, ?_⟩⟩
  · rw [r1] at q3
    refine hy' _ ((off.rf.upd (by decide) (by decide)).upd (by decide) (by decide)) ⟨⟨?_, ?_, ?_⟩, fun j j0 j1 j2 => ?_, fun t t0 t1 => ?_⟩
    · rw [up_at, if_pos rfl, r1]; rfl
    · rw [up_at, if_neg (by decide), up_at, if_neg (by decide), r3]; rfl
    · rw [up_at, if_neg (by decide), up_at, if_pos rfl, r1]; rfl
    · rw [up_ne (by decide), up_ne (by decide)]
      show _ = gup (s 8) (s 7 1) (b - 97) j
      rw [gup_n (by omega)]
      exact r8 j j0 (by omega) j2
    · rw [up_ne (by decide), up_ne (by decide)]; exact r9 t t0 t1
  · rw [r1] at q3
    refine hy' _ (((off.rf.upd (by decide) (by decide)).upd (by decide) (by decide)).upd (by decide) (by decide)) ⟨⟨?_, ?_, ?_⟩, fun j j0 j1 j2 => ?_, fun t t0 t1 => ?_⟩
    · rw [up_at, if_pos rfl, r1]; rfl
    · rw [up_at, if_neg (by decide), up_ne (by decide), up_at, if_neg (by decide), r3]; rfl
    · rw [up_at, if_neg (by decide), up_ne (by decide), up_at, if_pos rfl, r1]; rfl
    · have j1' : j < s 7 1 + 1 := j1
      rw [up_ne (by decide), up_at, r1]
      show _ = gup (s 8) (s 7 1) (b - 97) j
      by_cases e : j = s 7 1
      · rw [if_pos e, gup_e e]
      · rw [if_neg e, gup_n e, up_ne (by decide)]; exact r8 j j0 (by omega) j2
    · rw [up_ne (by decide), up_ne (by decide), up_ne (by decide)]; exact r9 t t0 t1
theorem c_blanks {M : Mem} {a n i : Int} {T : Int → Int} {Q : Vl → Mem → Prop} (hl : isL a 60) (l : lnX M a n T) (n6 : n ≤ 60) (hT : ∀ j, 0 ≤ j → j < n → -128 ≤ T j ∧ T j ≤ 127) (i0 : 0 ≤ i) (i1 : i ≤ n) (hq : Q (Iv (bl T n i)) M) : cl 0 yX6_behindBlanks [Rv a, Iv i] M Q := by
  refine eX6_behindBlanks hl ?_
  refine up_ind (P := fun x => bl T n x = bl T n i → wp 0 yX6_behindBlanks 2 [some (Rv a), some (Iv i), some (Iv x)] [] M Q) (a := i) (n := n) i1 (fun hx => ?_) (fun x x0 x1 ih hx => ?_) rfl
  · refine gX6_behindBlanks_2 hl ⟨⟨by omega, by omega⟩, by rw [l.1]; exact ⟨by omega, by omega⟩, fun _ => ?_, fun q => absurd q (by rw [l.1]; omega)⟩
    rw [← hx, bl_e (Int.le_refl n)] at hq
    exact hq
  · have tb := hT x (by omega) x1
    refine gX6_behindBlanks_2 hl ⟨⟨by omega, by omega⟩, by rw [l.1]; exact ⟨by omega, by omega⟩, fun q => absurd q (by rw [l.1]; omega), fun _ => ⟨by omega, by omega, ?_⟩⟩
    rw [l.2 x (by omega) x1]
    refine ⟨⟨by omega, by omega⟩, fun q => ?_, fun q => ih ?_⟩
    · rw [← hx, bl_s x1, if_neg q] at hq
      exact hq
    · rw [← hx, bl_s x1, if_pos q]
theorem c_read {M : Mem} {a n k : Int} {T : Int → Int} {Q : Vl → Mem → Prop} (hl : isL a 60) (l : lnX M a n T) (n0 : 0 ≤ n) (n6 : n ≤ 60) (k0 : 1 ≤ k) (k6 : k ≤ 6) (hT : ∀ j, 0 ≤ j → j < n → -128 ≤ T j ∧ T j ≤ 127) (hq : ∀ M2 i, off 7 9 M M2 → sI (rd9 T n k (bl T n 0) s0).2 k i → i ≤ 60 → Rl (rd9 T n k (bl T n 0) s0).2 M2 → Q (Iv (rd9 T n k (bl T n 0) s0).1) M2) : cl 0 yX6_read [Rv 7, Rv a, Iv k] M Q := by
  have ha := hl.1
  have bb := bl_b (T := T) n0
  have o0 : off 7 9 M (up (up (up M 7 1 0) 7 3 0) 7 4 (-1)) := ((off.rf.upd (by decide) (by decide)).upd (by decide) (by decide)).upd (by decide) (by decide)
  have lnT : ∀ M2, off 7 9 M M2 → lnX M2 a n T := fun M2 o2 => l.off o2 (by omega)
  refine eX6_read hl (c_blanks hl (lnT _ o0) n6 hT (Int.le_refl 0) n0 ?_)
  show wp 0 yX6_read 21 _ _ _ _
  refine up_ind (P := fun i => 0 ≤ i → ∀ M2 s, off 7 9 M M2 → sI s k i → Rl s M2 → rd9 T n k i s = rd9 T n k (bl T n 0) s0 → wp 0 yX6_read 21 [some (Rv 7), some (Rv a), some (Iv k), some (Iv i), none] [] M2 Q) (a := bl T n 0) (n := n) bb.2 (fun _ M2 s o2 h2 R2 e2 => ?_) (fun i i0 i1 ih hi M2 s o2 h2 R2 e2 => ?_) bb.1 _ s0 o0 (sI_0 bb.1) ⟨⟨by rw [up_at, if_neg (by decide), up_at, if_neg (by decide), up_at, if_pos rfl]; rfl, by rw [up_at, if_neg (by decide), up_at, if_pos rfl]; rfl, by rw [up_at, if_pos rfl]; rfl⟩, fun j j0 j1 => absurd j1 (by show ¬ j < 0; omega), fun t t0 t1 => absurd t1 (by show ¬ t < 0; omega)⟩ rfl
  · have e1 := (lnT M2 o2).1
    rw [rd_e (Int.le_refl n)] at e2
    have fin : ∀ v, v = (rd9 T n k (bl T n 0) s0).1 → Q (Iv v) M2 := fun v hv => by
      rw [hv]
      exact hq M2 n o2 (by rw [← e2]; exact h2) n6 (by rw [← e2]; exact R2)
    have r3 := R2.1.2.1
    have d := h2.1.1
    refine gX6_read_21 hl ⟨⟨by omega, by omega⟩, by rw [e1]; exact ⟨by omega, by omega⟩, fun _ => ⟨by rw [r3]; exact ⟨by omega, by omega⟩, fun q => fin _ ?_, fun q => fin _ ?_⟩, fun q => absurd q (by omega)⟩
    · rw [← e2, if_neg (by omega)]; exact e1
    · rw [← e2, if_pos (by omega)]
  · have lm := lnT M2 o2
    have e1 := lm.1
    have tb := hT i hi i1
    have r3 := R2.1.2.1
    have d := h2.1.1
    have go : ¬ (T i = 32 ∧ s 7 3 = 0) → cl 0 yX6_goesOn [Rv 7, Iv (T i), Iv k] M2 (QI (fun z10 M10 => ((z10 ≠ 0 → wp 0 yX6_read 21 [some (Rv 7), some (Rv a), some (Iv k), some (Iv (i + 1)), none] [] M10 Q) ∧ (z10 = 0 → Q (Iv i) M10)))) := fun hn => by
      refine c_goesOn h2 hi (by omega) k0 k6 tb R2 (fun hok M3 o3 R3 => ⟨fun _ => ih (by omega) M3 _ (o2.tr o3) (sI_N hi k6 hok h2) R3 (by rw [← e2, rd_y i1 hn hok]), fun q => absurd q (by decide)⟩) (fun hok => ⟨fun q => absurd rfl q, fun _ => ?_⟩)
      rw [rd_n i1 hn hok] at e2
      have := hq M2 i o2 (by rw [← e2]; exact h2) (by omega) (by rw [← e2]; exact R2)
      rw [← e2] at this
      exact this
    refine gX6_read_21 hl ⟨⟨by omega, by omega⟩, by rw [e1]; exact ⟨by omega, by omega⟩, fun q => absurd q (by omega), fun _ => ⟨hi, by omega, ?_⟩⟩
    rw [lm.2 i hi i1]
    refine ⟨⟨by omega, by omega⟩, fun q => go (fun q2 => q q2.1), fun q => ⟨by rw [r3]; exact ⟨by omega, by omega⟩, fun q2 => go (fun q3 => q2 (by rw [r3]; exact q3.2)), fun q2 => c_blanks hl lm n6 hT hi (by omega) ?_⟩⟩
    have b3 := bl_b (T := T) (show i ≤ n by omega)
    rw [rd_s i1, if_pos ⟨q, by omega⟩] at e2
    have fin : ∀ v, v = (rd9 T n k (bl T n 0) s0).1 → Q (Iv v) M2 := fun v hv => by
      rw [hv]
      exact hq M2 i o2 (by rw [← e2]; exact h2) (by omega) (by rw [← e2]; exact R2)
    show (bl T n i = M2 a 1 ∨ _) ∧ _
    rw [e1]
    refine ⟨Or.inr ⟨⟨by omega, by omega⟩, ⟨by omega, by omega⟩⟩, fun q3 => fin _ ?_, fun q3 => fin _ ?_⟩
    · rw [← e2, if_neg q3]
    · rw [← e2, if_pos q3]
