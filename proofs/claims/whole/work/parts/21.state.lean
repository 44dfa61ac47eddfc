/-! THE STATE that both objects show: S (10 + r): a ROW (-1: its size), S (20 + t): a TEXT, S (30 + w): a WORD (-1 size, -2 KIND, -3 of which, -4 told), S 0: letters, asked, many, upper, lower, finding; S 1: how often each finding -/
def X (S M : Mem) : Prop :=
  (∀ r, 0 ≤ r → r < 6 → M (35 + 2 * r) 1 = S (10 + r) (-1) ∧ ∀ i, 0 ≤ i → i < S (10 + r) (-1) → M (35 + 2 * r + 1) i = S (10 + r) i) ∧
  (∀ t, 0 ≤ t → t < 4 → M (47 + 2 * t) 1 = S (20 + t) (-1) ∧ ∀ i, 0 ≤ i → i < S (20 + t) (-1) → M (47 + 2 * t + 1) i = S (20 + t) i) ∧
  (∀ w, 0 ≤ w → w < 8 → (M (55 + 3 * w) 1 = S (30 + w) (-2) ∧ M (55 + 3 * w) 2 = S (30 + w) (-3) ∧ M (55 + 3 * w) 3 = S (30 + w) (-4)) ∧ M (55 + 3 * w + 1) 1 = S (30 + w) (-1) ∧ ∀ i, 0 ≤ i → i < S (30 + w) (-1) → M (55 + 3 * w + 1 + 1) i = S (30 + w) i) ∧
  (M 1 3 = S 0 0 ∧ M 1 4 = S 0 1 ∧ M 1 5 = S 0 2 ∧ M 1 6 = S 0 3 ∧ M 1 7 = S 0 4 ∧ M 1 8 = S 0 5) ∧ (∀ f, 1 ≤ f → f ≤ 5 → M 5 f = S 1 f) ∧
  ((∀ i, 0 ≤ i → i < 6 → M 31 i = 0) ∧ (∀ i, 0 ≤ i → i < 36 → M 32 i = 0) ∧ (∀ i, 0 ≤ i → i < 216 → M 33 i = 0)) ∧ (∀ i, 0 ≤ i → i < 41 → 0 ≤ M 14 i ∧ M 14 i ≤ 1000) ∧
  ((M 23 4 = -1 ∧ M (-1) 0 = 0) ∨ (M 23 4 = 120 ∧ M (-1) 0 = 1))
def Y (S M : Mem) : Prop :=
  (∀ r, 0 ≤ r → r < 6 → M 90 r = S (10 + r) (-1) ∧ ∀ i, 0 ≤ i → i < S (10 + r) (-1) → M 91 (40 * r + i) = S (10 + r) i) ∧
  (∀ t, 0 ≤ t → t < 4 → M 93 t = S (20 + t) (-1) ∧ ∀ i, 0 ≤ i → i < S (20 + t) (-1) → M 94 (60 * t + i) = S (20 + t) i) ∧
  (∀ w, 0 ≤ w → w < 8 → (M 97 w = S (30 + w) (-2) ∧ M 98 w = S (30 + w) (-3) ∧ M 99 w = S (30 + w) (-4)) ∧ M 95 w = S (30 + w) (-1) ∧ ∀ i, 0 ≤ i → i < S (30 + w) (-1) → M 96 (40 * w + i) = S (30 + w) i) ∧
  (M 88 11 = S 0 0 ∧ M 88 2 = S 0 1 ∧ M 88 3 = S 0 2 ∧ M 88 4 = S 0 3 ∧ M 88 5 = S 0 4 ∧ M 88 0 = S 0 5) ∧ (∀ f, 1 ≤ f → f ≤ 5 → M 89 f = S 1 f)
def WF (S : Mem) : Prop :=
  (∀ r, 0 ≤ r → r < 6 → -1 ≤ S (10 + r) (-1) ∧ S (10 + r) (-1) ≤ 40 ∧ ∀ i, 0 ≤ i → i < S (10 + r) (-1) → inr (S (10 + r) i)) ∧
  (∀ t, 0 ≤ t → t < 4 → -1 ≤ S (20 + t) (-1) ∧ S (20 + t) (-1) ≤ 60 ∧ ∀ i, 0 ≤ i → i < S (20 + t) (-1) → -128 ≤ S (20 + t) i ∧ S (20 + t) i ≤ 127) ∧
  (∀ w, 0 ≤ w → w < 8 → (0 ≤ S (30 + w) (-2) ∧ S (30 + w) (-2) ≤ 4 ∧ 0 ≤ S (30 + w) (-3) ∧ S (30 + w) (-3) ≤ 7 ∧ 0 ≤ S (30 + w) (-4) ∧ S (30 + w) (-4) ≤ 60 ∧ (S (30 + w) (-2) = 0 → S (30 + w) (-4) = 0)) ∧ -1 ≤ S (30 + w) (-1) ∧ S (30 + w) (-1) ≤ 40 ∧ ∀ i, 0 ≤ i → i < S (30 + w) (-1) → 0 ≤ S (30 + w) i ∧ S (30 + w) i < S 0 0) ∧
  1 ≤ S 0 0 ∧ S 0 0 ≤ 6
/-- what a call of the class leaves alone; of the reference -/
def frx (M M1 : Mem) : Prop := (∀ a, 88 ≤ a → a ≤ 119 → M1 a = M a) ∧ M1 0 = M 0 ∧ M1 (-2) = M (-2)
def fry (M M1 : Mem) : Prop := ∀ a, a ≤ 87 → M1 a = M a
def PX (S2 : Mem) (r : Vl) (M : Mem) : Vl → Mem → Prop := fun v M1 => v = r ∧ X S2 M1 ∧ frx M M1
def PY (S2 : Mem) (r : Vl) (M : Mem) : Vl → Mem → Prop := fun v M1 => v = r ∧ Y S2 M1 ∧ fry M M1
/-- both answer alike from alike states -/
def OpOK (S : Mem) (yx ym : Yx) (as : List Vl) (mk : Int → Vl) : Prop := ∃ (ans : Int) (S2 : Mem), WF S2 ∧ (∀ M, X S M → cl 0 yx (Rv 1 :: as) M (PX S2 (mk ans) M)) ∧ (∀ M, Y S M → cl 0 ym (Rv 88 :: as) M (PY S2 (mk ans) M))
theorem frx.rf (M : Mem) : frx M M := ⟨fun _ _ _ => rfl, rfl, rfl⟩
theorem fry.rf (M : Mem) : fry M M := fun _ _ => rfl
theorem up_ne {M : Mem} {a k v b : Int} (h : b ≠ a) : up M a k v b = M b := by
  funext j
  exact if_neg (fun q => h q.1)
theorem setA_ne {M : Mem} {a b : Int} {f : Int → Int} (h : b ≠ a) : setA M a f b = M b := if_neg h
theorem setA_eq {M : Mem} {a : Int} {f : Int → Int} : setA M a f a = f := if_pos rfl
theorem up_at {M : Mem} {a k v j : Int} : up M a k v a j = if j = k then v else M a j := by
  unfold up
  by_cases h : j = k
  · rw [if_pos ⟨rfl, h⟩, if_pos h]
  · rw [if_neg (fun q => h q.2), if_neg h]
theorem frx.up {M M1 : Mem} (h : frx M M1) {a k v : Int} (ha : (1 ≤ a ∧ a ≤ 87) ∨ a = -1 ∨ a = 120) : frx M (up M1 a k v) := by
  refine ⟨fun b h1 h2 => ?_, ?_, ?_⟩
  · rw [up_ne (by omega)]; exact h.1 b h1 h2
  · rw [up_ne (by omega)]; exact h.2.1
  · rw [up_ne (by omega)]; exact h.2.2
theorem frx.setA {M M1 : Mem} (h : frx M M1) {a : Int} {f : Int → Int} (ha : (1 ≤ a ∧ a ≤ 87) ∨ a = 120) : frx M (setA M1 a f) := by
  refine ⟨fun b h1 h2 => ?_, ?_, ?_⟩
  · rw [setA_ne (by omega)]; exact h.1 b h1 h2
  · rw [setA_ne (by omega)]; exact h.2.1
  · rw [setA_ne (by omega)]; exact h.2.2
theorem frx.tr {M M1 M2 : Mem} (h : frx M M1) (h2 : frx M1 M2) : frx M M2 := ⟨fun a q1 q2 => (h2.1 a q1 q2).trans (h.1 a q1 q2), h2.2.1.trans h.2.1, h2.2.2.trans h.2.2⟩
theorem fry.up {M M1 : Mem} (h : fry M M1) {a k v : Int} (ha : 88 ≤ a) : fry M (up M1 a k v) := fun b hb => by rw [up_ne (by omega)]; exact h b hb
theorem fry.setA {M M1 : Mem} (h : fry M M1) {a : Int} {f : Int → Int} (ha : 88 ≤ a) : fry M (setA M1 a f) := fun b hb => by rw [setA_ne (by omega)]; exact h b hb
theorem fry.tr {M M1 M2 : Mem} (h : fry M M1) (h2 : fry M1 M2) : fry M M2 := fun a q1 => (h2 a q1).trans (h a q1)
/-- the cells that the class's part of the state speaks of; the reference's -/
def kX (a : Int) : Prop := a = 1 ∨ a = 5 ∨ a = -1 ∨ a = 14 ∨ a = 23 ∨ (31 ≤ a ∧ a ≤ 33) ∨ (35 ≤ a ∧ a ≤ 78)
def kY (a : Int) : Prop := (89 ≤ a ∧ a ≤ 91) ∨ (93 ≤ a ∧ a ≤ 99)
theorem X.same {S M M1 : Mem} (h : X S M) (hk : ∀ a, kX a → M1 a = M a) : X S M1 := by
  obtain ⟨h1, h2, h3, h4, h5, h6, h7, h8⟩ := h
  have k1 := hk 1 (by unfold kX; omega)
  have k5 := hk 5 (by unfold kX; omega)
  have km := hk (-1) (by unfold kX; omega)
  have k14 := hk 14 (by unfold kX; omega)
  have k23 := hk 23 (by unfold kX; omega)
  have k31 := hk 31 (by unfold kX; omega)
  have k32 := hk 32 (by unfold kX; omega)
  have k33 := hk 33 (by unfold kX; omega)
  refine ⟨fun r q1 q2 => ?_, fun r q1 q2 => ?_, fun r q1 q2 => ?_, by rw [k1]; exact h4, by rw [k5]; exact h5, by rw [k31, k32, k33]; exact h6, by rw [k14]; exact h7, by rw [k23, km]; exact h8⟩
  · rw [hk (35 + 2 * r) (by unfold kX; omega), hk (35 + 2 * r + 1) (by unfold kX; omega)]; exact h1 r q1 q2
  · rw [hk (47 + 2 * r) (by unfold kX; omega), hk (47 + 2 * r + 1) (by unfold kX; omega)]; exact h2 r q1 q2
  · rw [hk (55 + 3 * r) (by unfold kX; omega), hk (55 + 3 * r + 1) (by unfold kX; omega), hk (55 + 3 * r + 1 + 1) (by unfold kX; omega)]; exact h3 r q1 q2
theorem Y.same {S M M1 : Mem} (h : Y S M) (hk : ∀ a, kY a → M1 a = M a) (h88 : ∀ k, (k = 11 ∨ k = 2 ∨ k = 3 ∨ k = 4 ∨ k = 5 ∨ k = 0) → M1 88 k = M 88 k) : Y S M1 := by
  obtain ⟨h1, h2, h3, h4, h5⟩ := h
  refine ⟨?_, ?_, ?_, ?_, ?_⟩
  · rw [hk 90 (by unfold kY; omega), hk 91 (by unfold kY; omega)]; exact h1
  · rw [hk 93 (by unfold kY; omega), hk 94 (by unfold kY; omega)]; exact h2
  · rw [hk 97 (by unfold kY; omega), hk 98 (by unfold kY; omega), hk 99 (by unfold kY; omega), hk 95 (by unfold kY; omega), hk 96 (by unfold kY; omega)]; exact h3
  · rw [h88 11 (by omega), h88 2 (by omega), h88 3 (by omega), h88 4 (by omega), h88 5 (by omega), h88 0 (by omega)]; exact h4
  · rw [hk 89 (by unfold kY; omega)]; exact h5
