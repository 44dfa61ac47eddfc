def setLn (S : Mem) (a n : Int) (f : Int → Int) : Mem := setA S a (fun j => if j = -1 then n else f j)
def setWd (S : Mem) (w n : Int) (f : Int → Int) (kd of td : Int) : Mem := setA S (30 + w) (fun j => if j = -1 then n else if j = -2 then kd else if j = -3 then of else if j = -4 then td else f j)
def fnd (M : Mem) (f : Int) : Mem := up (up M 1 8 f) 5 f (M 5 f + 1)
def mts (M : Mem) (f : Int) : Mem := up (up M 88 0 f) 89 f (M 89 f + 1)
def fS (S : Mem) (f : Int) : Mem := up (up S 0 5 f) 1 f (S 1 f + 1)
theorem setLn_s {S : Mem} {a n : Int} {f : Int → Int} : setLn S a n f a (-1) = n := by unfold setLn; rw [setA_eq, if_pos rfl]
theorem setLn_i {S : Mem} {a n i : Int} {f : Int → Int} (h : 0 ≤ i) : setLn S a n f a i = f i := by unfold setLn; rw [setA_eq, if_neg (by omega)]
theorem setLn_n {S : Mem} {a n b : Int} {f : Int → Int} (h : b ≠ a) : setLn S a n f b = S b := setA_ne h
theorem setWd_n {S : Mem} {w n b kd of td : Int} {f : Int → Int} (h : b ≠ 30 + w) : setWd S w n f kd of td b = S b := setA_ne h
theorem X.scal {S M : Mem} (h : X S M) (j v : Int) (h0 : 0 ≤ j) (h5 : j ≤ 5) : X (up S 0 j v) (up M 1 (3 + j) v) := by
  obtain ⟨h1, h2, h3, h4, h5', h6, h7, h8⟩ := h
  obtain ⟨s0, s1, s2, s3, s4, s5⟩ := h4
  refine ⟨fun r q1 q2 => ?_, fun r q1 q2 => ?_, fun r q1 q2 => ?_, ?_, fun f q1 q2 => ?_, ?_, ?_, ?_⟩
  · rw [up_ne (by omega), up_ne (by omega), up_ne (by omega)]; exact h1 r q1 q2
  · rw [up_ne (by omega), up_ne (by omega), up_ne (by omega)]; exact h2 r q1 q2
  · rw [up_ne (by omega), up_ne (by omega), up_ne (by omega), up_ne (by omega)]; exact h3 r q1 q2
  · have e : j = 0 ∨ j = 1 ∨ j = 2 ∨ j = 3 ∨ j = 4 ∨ j = 5 := by omega
    rcases e with rfl | rfl | rfl | rfl | rfl | rfl <;> exact ⟨by first | exact s0 | rfl, by first | exact s1 | rfl, by first | exact s2 | rfl, by first | exact s3 | rfl, by first | exact s4 | rfl, by first | exact s5 | rfl⟩
  · rw [up_ne (by omega), up_ne (by omega)]; exact h5' f q1 q2
  · rw [up_ne (by omega), up_ne (by omega), up_ne (by omega)]; exact h6
  · rw [up_ne (by omega)]; exact h7
  · rw [up_ne (by omega), up_ne (by omega)]; exact h8
theorem Y.scal {S M : Mem} (h : Y S M) (j k v : Int) (hj : (j = 0 ∧ k = 11) ∨ (j = 1 ∧ k = 2) ∨ (j = 2 ∧ k = 3) ∨ (j = 3 ∧ k = 4) ∨ (j = 4 ∧ k = 5) ∨ (j = 5 ∧ k = 0)) : Y (up S 0 j v) (up M 88 k v) := by
  obtain ⟨h1, h2, h3, h4, h5'⟩ := h
  obtain ⟨s0, s1, s2, s3, s4, s5⟩ := h4
  refine ⟨fun r q1 q2 => ?_, fun r q1 q2 => ?_, fun r q1 q2 => ?_, ?_, fun f q1 q2 => ?_⟩
  · rw [up_ne (by omega), up_ne (by omega), up_ne (by omega)]; exact h1 r q1 q2
  · rw [up_ne (by omega), up_ne (by omega), up_ne (by omega)]; exact h2 r q1 q2
  · rw [up_ne (by omega), up_ne (by omega), up_ne (by omega), up_ne (by omega), up_ne (by omega), up_ne (by omega)]; exact h3 r q1 q2
  · rcases hj with ⟨rfl, rfl⟩ | ⟨rfl, rfl⟩ | ⟨rfl, rfl⟩ | ⟨rfl, rfl⟩ | ⟨rfl, rfl⟩ | ⟨rfl, rfl⟩ <;> exact ⟨by first | exact s0 | rfl, by first | exact s1 | rfl, by first | exact s2 | rfl, by first | exact s3 | rfl, by first | exact s4 | rfl, by first | exact s5 | rfl⟩
  · rw [up_ne (by omega), up_ne (by omega)]; exact h5' f q1 q2
theorem WF.scal {S : Mem} (h : WF S) (j v : Int) (h0 : 1 ≤ j) : WF (up S 0 j v) := by
  obtain ⟨h1, h2, h3, h4, h5⟩ := h
  have e0 : up S 0 j v 0 0 = S 0 0 := if_neg (by omega)
  refine ⟨fun r q1 q2 => ?_, fun r q1 q2 => ?_, fun r q1 q2 => ?_, by rw [e0]; exact h4, by rw [e0]; exact h5⟩
  · rw [up_ne (by omega)]; exact h1 r q1 q2
  · rw [up_ne (by omega)]; exact h2 r q1 q2
  · rw [up_ne (by omega), e0]; exact h3 r q1 q2
theorem X.fnd {S M : Mem} (h : X S M) {f : Int} (h1 : 1 ≤ f) (h5 : f ≤ 5) : X (fS S f) (fnd M f) := by
  have hs := h.scal 5 f (by decide) (by decide)
  have e := h.2.2.2.2.1 f h1 h5
  show X (up (up S 0 5 f) 1 f (S 1 f + 1)) (up (up M 1 8 f) 5 f (M 5 f + 1))
  obtain ⟨g1, g2, g3, g4, g5, g6, g7, g8⟩ := hs
  refine ⟨fun r q1 q2 => ?_, fun r q1 q2 => ?_, fun r q1 q2 => ?_, ?_, fun j q1 q2 => ?_, ?_, ?_, ?_⟩
  · rw [up_ne (a := 1) (by omega), up_ne (a := 5) (by omega), up_ne (a := 5) (by omega)]; exact g1 r q1 q2
  · rw [up_ne (a := 1) (by omega), up_ne (a := 5) (by omega), up_ne (a := 5) (by omega)]; exact g2 r q1 q2
  · rw [up_ne (a := 1) (by omega), up_ne (a := 5) (by omega), up_ne (a := 5) (by omega), up_ne (a := 5) (by omega)]; exact g3 r q1 q2
  · rw [up_ne (a := 1) (by omega), up_ne (a := 5) (by omega)]; exact g4
  · rw [up_at, up_at, e]
    by_cases hj : j = f
    · rw [if_pos hj, if_pos hj]
    · rw [if_neg hj, if_neg hj]; exact g5 j q1 q2
  · rw [up_ne (a := 5) (by omega), up_ne (a := 5) (by omega), up_ne (a := 5) (by omega)]; exact g6
  · rw [up_ne (a := 5) (by omega)]; exact g7
  · rw [up_ne (a := 5) (by omega), up_ne (a := 5) (by omega)]; exact g8
theorem Y.fnd {S M : Mem} (h : Y S M) {f : Int} (h1 : 1 ≤ f) (h5 : f ≤ 5) : Y (fS S f) (mts M f) := by
  have hs := h.scal 5 0 f (by decide)
  have e := h.2.2.2.2 f h1 h5
  unfold fS mts
  obtain ⟨g1, g2, g3, g4, g5⟩ := hs
  refine ⟨fun r q1 q2 => ?_, fun r q1 q2 => ?_, fun r q1 q2 => ?_, ?_, fun j q1 q2 => ?_⟩
  · rw [up_ne (a := 1) (by omega), up_ne (a := 89) (by omega), up_ne (a := 89) (by omega)]; exact g1 r q1 q2
  · rw [up_ne (a := 1) (by omega), up_ne (a := 89) (by omega), up_ne (a := 89) (by omega)]; exact g2 r q1 q2
  · rw [up_ne (a := 1) (by omega), up_ne (a := 89) (by omega), up_ne (a := 89) (by omega), up_ne (a := 89) (by omega), up_ne (a := 89) (by omega), up_ne (a := 89) (by omega)]; exact g3 r q1 q2
  · rw [up_ne (a := 1) (by omega), up_ne (a := 89) (by omega)]; exact g4
  · rw [up_at, up_at, e]
    by_cases hj : j = f
    · rw [if_pos hj, if_pos hj]
    · rw [if_neg hj, if_neg hj]; exact g5 j q1 q2
theorem WF.fnd {S : Mem} (h : WF S) (f : Int) : WF (fS S f) := by
  have hs := h.scal 5 f (by decide)
  unfold fS
  obtain ⟨h1, h2, h3, h4, h5⟩ := hs
  refine ⟨fun r q1 q2 => ?_, fun r q1 q2 => ?_, fun r q1 q2 => ?_, by rw [up_ne (a := 1) (by omega)]; exact h4, by rw [up_ne (a := 1) (by omega)]; exact h5⟩
  · rw [up_ne (a := 1) (by omega)]; exact h1 r q1 q2
  · rw [up_ne (a := 1) (by omega)]; exact h2 r q1 q2
  · rw [up_ne (a := 1) (by omega), up_ne (a := 1) (by omega)]; exact h3 r q1 q2
theorem frx.fnd {M M1 : Mem} (h : frx M M1) {f : Int} : frx M (fnd M1 f) := (h.up (by omega)).up (by omega)
theorem fry.fnd {M M1 : Mem} (h : fry M M1) {f : Int} : fry M (mts M1 f) := (h.up (by omega)).up (by omega)
/-- a ROW comes anew -/
theorem X.row {S M M1 : Mem} (h : X S M) {r n : Int} {f : Int → Int} (hr : 0 ≤ r) (hr6 : r < 6) (hk : ∀ a, kX a → a ≠ 35 + 2 * r → a ≠ 35 + 2 * r + 1 → M1 a = M a) (hn : M1 (35 + 2 * r) 1 = n) (hf : ∀ i, 0 ≤ i → i < n → M1 (35 + 2 * r + 1) i = f i) : X (setLn S (10 + r) n f) M1 := by
  obtain ⟨h1, h2, h3, h4, h5, h6, h7, h8⟩ := h
  have kk : ∀ a, kX a → (a < 35 ∨ 47 ≤ a) → M1 a = M a := fun a q1 q2 => hk a q1 (by omega) (by omega)
  refine ⟨fun q q1 q2 => ?_, fun q q1 q2 => ?_, fun q q1 q2 => ?_, ?_, ?_, ?_, ?_, ?_⟩
  · by_cases e : q = r
    · subst e
      rw [setLn_s]
      exact ⟨hn, fun i i0 i1 => by rw [setLn_i i0]; exact hf i i0 i1⟩
    · rw [setLn_n (by omega), hk (35 + 2 * q) (by unfold kX; omega) (by omega) (by omega), hk (35 + 2 * q + 1) (by unfold kX; omega) (by omega) (by omega)]
      exact h1 q q1 q2
  · rw [setLn_n (by omega), kk (47 + 2 * q) (by unfold kX; omega) (by omega), kk (47 + 2 * q + 1) (by unfold kX; omega) (by omega)]
    exact h2 q q1 q2
  · rw [setLn_n (by omega), kk (55 + 3 * q) (by unfold kX; omega) (by omega), kk (55 + 3 * q + 1) (by unfold kX; omega) (by omega), kk (55 + 3 * q + 1 + 1) (by unfold kX; omega) (by omega)]
    exact h3 q q1 q2
  · rw [setLn_n (by omega), kk 1 (by unfold kX; omega) (by omega)]; exact h4
  · rw [setLn_n (by omega), kk 5 (by unfold kX; omega) (by omega)]; exact h5
  · rw [kk 31 (by unfold kX; omega) (by omega), kk 32 (by unfold kX; omega) (by omega), kk 33 (by unfold kX; omega) (by omega)]; exact h6
  · rw [kk 14 (by unfold kX; omega) (by omega)]; exact h7
  · rw [kk 23 (by unfold kX; omega) (by omega), kk (-1) (by unfold kX; omega) (by omega)]; exact h8
theorem X.text {S M M1 : Mem} (h : X S M) {r n : Int} {f : Int → Int} (hr : 0 ≤ r) (hr6 : r < 4) (hk : ∀ a, kX a → a ≠ 47 + 2 * r → a ≠ 47 + 2 * r + 1 → M1 a = M a) (hn : M1 (47 + 2 * r) 1 = n) (hf : ∀ i, 0 ≤ i → i < n → M1 (47 + 2 * r + 1) i = f i) : X (setLn S (20 + r) n f) M1 := by
  obtain ⟨h1, h2, h3, h4, h5, h6, h7, h8⟩ := h
  have kk : ∀ a, kX a → (a < 47 ∨ 55 ≤ a) → M1 a = M a := fun a q1 q2 => hk a q1 (by omega) (by omega)
  refine ⟨fun q q1 q2 => ?_, fun q q1 q2 => ?_, fun q q1 q2 => ?_, ?_, ?_, ?_, ?_, ?_⟩
  · rw [setLn_n (by omega), kk (35 + 2 * q) (by unfold kX; omega) (by omega), kk (35 + 2 * q + 1) (by unfold kX; omega) (by omega)]
    exact h1 q q1 q2
  · by_cases e : q = r
    · subst e
      rw [setLn_s]
      exact ⟨hn, fun i i0 i1 => by rw [setLn_i i0]; exact hf i i0 i1⟩
    · rw [setLn_n (by omega), hk (47 + 2 * q) (by unfold kX; omega) (by omega) (by omega), hk (47 + 2 * q + 1) (by unfold kX; omega) (by omega) (by omega)]
      exact h2 q q1 q2
  · rw [setLn_n (by omega), kk (55 + 3 * q) (by unfold kX; omega) (by omega), kk (55 + 3 * q + 1) (by unfold kX; omega) (by omega), kk (55 + 3 * q + 1 + 1) (by unfold kX; omega) (by omega)]
    exact h3 q q1 q2
  · rw [setLn_n (by omega), kk 1 (by unfold kX; omega) (by omega)]; exact h4
  · rw [setLn_n (by omega), kk 5 (by unfold kX; omega) (by omega)]; exact h5
  · rw [kk 31 (by unfold kX; omega) (by omega), kk 32 (by unfold kX; omega) (by omega), kk 33 (by unfold kX; omega) (by omega)]; exact h6
  · rw [kk 14 (by unfold kX; omega) (by omega)]; exact h7
  · rw [kk 23 (by unfold kX; omega) (by omega), kk (-1) (by unfold kX; omega) (by omega)]; exact h8
theorem setWd_e {S : Mem} {w n kd of td : Int} {f : Int → Int} : setWd S w n f kd of td (30 + w) = fun j => if j = -1 then n else if j = -2 then kd else if j = -3 then of else if j = -4 then td else f j := setA_eq
theorem setWd_i {S : Mem} {w n kd of td i : Int} {f : Int → Int} (h : 0 ≤ i) : setWd S w n f kd of td (30 + w) i = f i := by
  rw [setWd_e]
  show (if i = -1 then n else if i = -2 then kd else if i = -3 then of else if i = -4 then td else f i) = f i
  rw [if_neg (by omega), if_neg (by omega), if_neg (by omega), if_neg (by omega)]
theorem X.word {S M M1 : Mem} (h : X S M) {w n kd of td : Int} {f : Int → Int} (hr : 0 ≤ w) (hr6 : w < 8) (hk : ∀ a, kX a → a ≠ 55 + 3 * w → a ≠ 55 + 3 * w + 1 → a ≠ 55 + 3 * w + 1 + 1 → M1 a = M a) (h0 : M1 (55 + 3 * w) 1 = kd ∧ M1 (55 + 3 * w) 2 = of ∧ M1 (55 + 3 * w) 3 = td) (hn : M1 (55 + 3 * w + 1) 1 = n) (hf : ∀ i, 0 ≤ i → i < n → M1 (55 + 3 * w + 1 + 1) i = f i) : X (setWd S w n f kd of td) M1 := by
  obtain ⟨h1, h2, h3, h4, h5, h6, h7, h8⟩ := h
  have kk : ∀ a, kX a → a < 55 → M1 a = M a := fun a q1 q2 => hk a q1 (by omega) (by omega) (by omega)
  refine ⟨fun q q1 q2 => ?_, fun q q1 q2 => ?_, fun q q1 q2 => ?_, ?_, ?_, ?_, ?_, ?_⟩
  · rw [setWd_n (by omega), kk (35 + 2 * q) (by unfold kX; omega) (by omega), kk (35 + 2 * q + 1) (by unfold kX; omega) (by omega)]
    exact h1 q q1 q2
  · rw [setWd_n (by omega), kk (47 + 2 * q) (by unfold kX; omega) (by omega), kk (47 + 2 * q + 1) (by unfold kX; omega) (by omega)]
    exact h2 q q1 q2
  · by_cases e : q = w
    · subst e
      refine ⟨?_, ?_, fun i i0 i1 => ?_⟩
      · rw [setWd_e]; exact h0
      · rw [setWd_e]; exact hn
      · rw [setWd_i i0]
        rw [setWd_e] at i1
        exact hf i i0 i1
    · rw [setWd_n (by omega), hk (55 + 3 * q) (by unfold kX; omega) (by omega) (by omega) (by omega), hk (55 + 3 * q + 1) (by unfold kX; omega) (by omega) (by omega) (by omega), hk (55 + 3 * q + 1 + 1) (by unfold kX; omega) (by omega) (by omega) (by omega)]
      exact h3 q q1 q2
  · rw [setWd_n (by omega), kk 1 (by unfold kX; omega) (by omega)]; exact h4
  · rw [setWd_n (by omega), kk 5 (by unfold kX; omega) (by omega)]; exact h5
  · rw [kk 31 (by unfold kX; omega) (by omega), kk 32 (by unfold kX; omega) (by omega), kk 33 (by unfold kX; omega) (by omega)]; exact h6
  · rw [kk 14 (by unfold kX; omega) (by omega)]; exact h7
  · rw [kk 23 (by unfold kX; omega) (by omega), kk (-1) (by unfold kX; omega) (by omega)]; exact h8
theorem Y.row {S M M1 : Mem} (h : Y S M) {r n : Int} {f : Int → Int} (hr : 0 ≤ r) (hr6 : r < 6) (hlen : ∀ q, 0 ≤ q → q < 6 → S (10 + q) (-1) ≤ 40) (hn40 : n ≤ 40) (hk : ∀ a, kY a → a ≠ 90 → a ≠ 91 → M1 a = M a) (h88 : ∀ k, (k = 11 ∨ k = 2 ∨ k = 3 ∨ k = 4 ∨ k = 5 ∨ k = 0) → M1 88 k = M 88 k) (hn : ∀ q, 0 ≤ q → q < 6 → M1 90 q = if q = r then n else M 90 q) (ho : ∀ i, 0 ≤ i → i < 240 → (i < 40 * r ∨ 40 * r + 40 ≤ i) → M1 91 i = M 91 i) (hf : ∀ i, 0 ≤ i → i < n → M1 91 (40 * r + i) = f i) : Y (setLn S (10 + r) n f) M1 := by
  obtain ⟨h1, h2, h3, h4, h5⟩ := h
  refine ⟨fun q q1 q2 => ?_, fun q q1 q2 => ?_, fun q q1 q2 => ?_, ?_, ?_⟩
  · rw [hn q q1 q2]
    by_cases e : q = r
    · subst e
      rw [setLn_s, if_pos rfl]
      exact ⟨rfl, fun i i0 i1 => by rw [setLn_i i0]; exact hf i i0 i1⟩
    · rw [setLn_n (by omega), if_neg e]
      refine ⟨(h1 q q1 q2).1, fun i i0 i1 => ?_⟩
      have := hlen q q1 q2
      rw [ho _ (by omega) (by omega) (by omega)]
      exact (h1 q q1 q2).2 i i0 i1
  · rw [setLn_n (by omega), hk 93 (by unfold kY; omega) (by omega) (by omega), hk 94 (by unfold kY; omega) (by omega) (by omega)]
    exact h2 q q1 q2
  · rw [setLn_n (by omega), hk 97 (by unfold kY; omega) (by omega) (by omega), hk 98 (by unfold kY; omega) (by omega) (by omega), hk 99 (by unfold kY; omega) (by omega) (by omega), hk 95 (by unfold kY; omega) (by omega) (by omega), hk 96 (by unfold kY; omega) (by omega) (by omega)]
    exact h3 q q1 q2
  · rw [setLn_n (by omega), h88 11 (by omega), h88 2 (by omega), h88 3 (by omega), h88 4 (by omega), h88 5 (by omega), h88 0 (by omega)]; exact h4
  · rw [setLn_n (by omega), hk 89 (by unfold kY; omega) (by omega) (by omega)]; exact h5
theorem Y.text {S M M1 : Mem} (h : Y S M) {r n : Int} {f : Int → Int} (hr : 0 ≤ r) (hr6 : r < 4) (hlen : ∀ q, 0 ≤ q → q < 4 → S (20 + q) (-1) ≤ 60) (hn60 : n ≤ 60) (hk : ∀ a, kY a → a ≠ 93 → a ≠ 94 → M1 a = M a) (h88 : ∀ k, (k = 11 ∨ k = 2 ∨ k = 3 ∨ k = 4 ∨ k = 5 ∨ k = 0) → M1 88 k = M 88 k) (hn : ∀ q, 0 ≤ q → q < 4 → M1 93 q = if q = r then n else M 93 q) (ho : ∀ i, 0 ≤ i → i < 240 → (i < 60 * r ∨ 60 * r + 60 ≤ i) → M1 94 i = M 94 i) (hf : ∀ i, 0 ≤ i → i < n → M1 94 (60 * r + i) = f i) : Y (setLn S (20 + r) n f) M1 := by
  obtain ⟨h1, h2, h3, h4, h5⟩ := h
  refine ⟨fun q q1 q2 => ?_, fun q q1 q2 => ?_, fun q q1 q2 => ?_, ?_, ?_⟩
  · rw [setLn_n (by omega), hk 90 (by unfold kY; omega) (by omega) (by omega), hk 91 (by unfold kY; omega) (by omega) (by omega)]
    exact h1 q q1 q2
  · rw [hn q q1 q2]
    by_cases e : q = r
    · subst e
      rw [setLn_s, if_pos rfl]
      exact ⟨rfl, fun i i0 i1 => by rw [setLn_i i0]; exact hf i i0 i1⟩
    · rw [setLn_n (by omega), if_neg e]
      refine ⟨(h2 q q1 q2).1, fun i i0 i1 => ?_⟩
      have := hlen q q1 q2
      rw [ho _ (by omega) (by omega) (by omega)]
      exact (h2 q q1 q2).2 i i0 i1
  · rw [setLn_n (by omega), hk 97 (by unfold kY; omega) (by omega) (by omega), hk 98 (by unfold kY; omega) (by omega) (by omega), hk 99 (by unfold kY; omega) (by omega) (by omega), hk 95 (by unfold kY; omega) (by omega) (by omega), hk 96 (by unfold kY; omega) (by omega) (by omega)]
    exact h3 q q1 q2
  · rw [setLn_n (by omega), h88 11 (by omega), h88 2 (by omega), h88 3 (by omega), h88 4 (by omega), h88 5 (by omega), h88 0 (by omega)]; exact h4
  · rw [setLn_n (by omega), hk 89 (by unfold kY; omega) (by omega) (by omega)]; exact h5
theorem Y.word {S M M1 : Mem} (h : Y S M) {w n kd of td : Int} {f : Int → Int} (hr : 0 ≤ w) (hr6 : w < 8) (hlen : ∀ q, 0 ≤ q → q < 8 → S (30 + q) (-1) ≤ 40) (hn40 : n ≤ 40) (hk : ∀ a, kY a → a ≤ 94 → M1 a = M a) (h88 : ∀ k, (k = 11 ∨ k = 2 ∨ k = 3 ∨ k = 4 ∨ k = 5 ∨ k = 0) → M1 88 k = M 88 k) (hn : ∀ q, 0 ≤ q → q < 8 → M1 95 q = (if q = w then n else M 95 q) ∧ M1 97 q = (if q = w then kd else M 97 q) ∧ M1 98 q = (if q = w then of else M 98 q) ∧ M1 99 q = (if q = w then td else M 99 q)) (ho : ∀ i, 0 ≤ i → i < 320 → (i < 40 * w ∨ 40 * w + 40 ≤ i) → M1 96 i = M 96 i) (hf : ∀ i, 0 ≤ i → i < n → M1 96 (40 * w + i) = f i) : Y (setWd S w n f kd of td) M1 := by
  obtain ⟨h1, h2, h3, h4, h5⟩ := h
  refine ⟨fun q q1 q2 => ?_, fun q q1 q2 => ?_, fun q q1 q2 => ?_, ?_, ?_⟩
  · rw [setWd_n (by omega), hk 90 (by unfold kY; omega) (by omega), hk 91 (by unfold kY; omega) (by omega)]
    exact h1 q q1 q2
  · rw [setWd_n (by omega), hk 93 (by unfold kY; omega) (by omega), hk 94 (by unfold kY; omega) (by omega)]
    exact h2 q q1 q2
  · obtain ⟨n1, n2, n3, n4⟩ := hn q q1 q2
    rw [n1, n2, n3, n4]
    by_cases e : q = w
    · subst e
      rw [if_pos rfl, if_pos rfl, if_pos rfl, if_pos rfl]
      refine ⟨?_, ?_, fun i i0 i1 => ?_⟩
      · rw [setWd_e]; exact ⟨rfl, rfl, rfl⟩
      · rw [setWd_e]; rfl
      · rw [setWd_i i0]
        rw [setWd_e] at i1
        exact hf i i0 i1
    · rw [setWd_n (by omega), if_neg e, if_neg e, if_neg e, if_neg e]
      obtain ⟨g1, g2, g3⟩ := h3 q q1 q2
      refine ⟨g1, g2, fun i i0 i1 => ?_⟩
      have := hlen q q1 q2
      rw [ho _ (by omega) (by omega) (by omega)]
      exact g3 i i0 i1
  · rw [setWd_n (by omega), h88 11 (by omega), h88 2 (by omega), h88 3 (by omega), h88 4 (by omega), h88 5 (by omega), h88 0 (by omega)]; exact h4
  · rw [setWd_n (by omega), hk 89 (by unfold kY; omega) (by omega)]; exact h5
theorem WF.row {S : Mem} (h : WF S) {r n : Int} {f : Int → Int} (hr : 0 ≤ r) (hr6 : r < 6) (h1 : -1 ≤ n) (h2 : n ≤ 40) (hf : ∀ i, 0 ≤ i → i < n → inr (f i)) : WF (setLn S (10 + r) n f) := by
  obtain ⟨g1, g2, g3, g4, g5⟩ := h
  refine ⟨fun q q1 q2 => ?_, fun q q1 q2 => ?_, fun q q1 q2 => ?_, by rw [setLn_n (by omega)]; exact g4, by rw [setLn_n (by omega)]; exact g5⟩
  · by_cases e : q = r
    · subst e
      rw [setLn_s]
      exact ⟨h1, h2, fun i i0 i1 => by rw [setLn_i i0]; exact hf i i0 i1⟩
    · rw [setLn_n (by omega)]; exact g1 q q1 q2
  · rw [setLn_n (by omega)]; exact g2 q q1 q2
  · rw [setLn_n (by omega), setLn_n (by omega)]; exact g3 q q1 q2
theorem WF.text {S : Mem} (h : WF S) {r n : Int} {f : Int → Int} (hr : 0 ≤ r) (hr6 : r < 4) (h1 : -1 ≤ n) (h2 : n ≤ 60) (hf : ∀ i, 0 ≤ i → i < n → -128 ≤ f i ∧ f i ≤ 127) : WF (setLn S (20 + r) n f) := by
  obtain ⟨g1, g2, g3, g4, g5⟩ := h
  refine ⟨fun q q1 q2 => ?_, fun q q1 q2 => ?_, fun q q1 q2 => ?_, by rw [setLn_n (by omega)]; exact g4, by rw [setLn_n (by omega)]; exact g5⟩
  · rw [setLn_n (by omega)]; exact g1 q q1 q2
  · by_cases e : q = r
    · subst e
      rw [setLn_s]
      exact ⟨h1, h2, fun i i0 i1 => by rw [setLn_i i0]; exact hf i i0 i1⟩
    · rw [setLn_n (by omega)]; exact g2 q q1 q2
  · rw [setLn_n (by omega), setLn_n (by omega)]; exact g3 q q1 q2
theorem WF.word {S : Mem} (h : WF S) {w n kd of td : Int} {f : Int → Int} (hr : 0 ≤ w) (hr6 : w < 8) (h1 : -1 ≤ n) (h2 : n ≤ 40) (hk : 0 ≤ kd ∧ kd ≤ 4 ∧ 0 ≤ of ∧ of ≤ 7 ∧ 0 ≤ td ∧ td ≤ 60 ∧ (kd = 0 → td = 0)) (hf : ∀ i, 0 ≤ i → i < n → 0 ≤ f i ∧ f i < S 0 0) : WF (setWd S w n f kd of td) := by
  obtain ⟨g1, g2, g3, g4, g5⟩ := h
  refine ⟨fun q q1 q2 => ?_, fun q q1 q2 => ?_, fun q q1 q2 => ?_, by rw [setWd_n (by omega)]; exact g4, by rw [setWd_n (by omega)]; exact g5⟩
  · rw [setWd_n (by omega)]; exact g1 q q1 q2
  · rw [setWd_n (by omega)]; exact g2 q q1 q2
  · rw [setWd_n (b := 0) (by omega)]
    by_cases e : q = w
    · subst e
      refine ⟨by rw [setWd_e]; exact hk, by rw [setWd_e]; exact h1, by rw [setWd_e]; exact h2, fun i i0 i1 => ?_⟩
      rw [setWd_i i0]
      rw [setWd_e] at i1
      exact hf i i0 i1
    · rw [setWd_n (by omega)]; exact g3 q q1 q2
