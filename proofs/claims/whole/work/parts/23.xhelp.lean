/-! the class's small methods -/
theorem c_noRow {r : Int} {M : Mem} {Q : Vl → Mem → Prop} (hr : inr r) (h1 : (r < 0 ∨ 6 ≤ r) → Q (Iv 1) M) (h0 : (0 ≤ r ∧ r < 6) → Q (Iv 0) M) : cl 0 yX11_noRow [Iv r] M Q :=
  eX11_noRow ⟨hr, fun q => h1 (Or.inl q), fun q => ⟨fun q2 => h0 ⟨q, q2⟩, fun q2 => h1 (Or.inr q2)⟩⟩
theorem c_noText {r : Int} {M : Mem} {Q : Vl → Mem → Prop} (hr : inr r) (h1 : (r < 0 ∨ 4 ≤ r) → Q (Iv 1) M) (h0 : (0 ≤ r ∧ r < 4) → Q (Iv 0) M) : cl 0 yX11_noText [Iv r] M Q :=
  eX11_noText ⟨hr, fun q => h1 (Or.inl q), fun q => ⟨fun q2 => h0 ⟨q, q2⟩, fun q2 => h1 (Or.inr q2)⟩⟩
theorem c_noWord {r : Int} {M : Mem} {Q : Vl → Mem → Prop} (hr : inr r) (h1 : (r < 0 ∨ 8 ≤ r) → Q (Iv 1) M) (h0 : (0 ≤ r ∧ r < 8) → Q (Iv 0) M) : cl 0 yX11_noWord [Iv r] M Q :=
  eX11_noWord ⟨hr, fun q => h1 (Or.inl q), fun q => ⟨fun q2 => h0 ⟨q, q2⟩, fun q2 => h1 (Or.inr q2)⟩⟩
theorem c_noLength {r : Int} {M : Mem} {Q : Vl → Mem → Prop} (hr : inr r) (h1 : (r < 0 ∨ 40 < r) → Q (Iv 1) M) (h0 : (0 ≤ r ∧ r ≤ 40) → Q (Iv 0) M) : cl 0 yX11_noLength [Iv r] M Q :=
  eX11_noLength ⟨hr, fun q => h1 (Or.inl q), fun q => ⟨fun q2 => h0 ⟨q, q2⟩, fun q2 => h1 (Or.inr q2)⟩⟩
theorem c_found {f : Int} {M : Mem} {Q : Vl → Mem → Prop} (h1 : 0 ≤ f ∧ f < 6) (h : Q (Iv (-3)) (fnd M f)) : cl 0 yX11_found [Rv 1, Iv f] M Q := eX11_found ⟨h1.1, h1.2, h⟩
theorem c_isMissing {a : Int} {n : Nat} {M : Mem} {Q : Vl → Mem → Prop} (ha : isL a n) (hr : inr (M a 1)) (h0 : 0 ≤ M a 1 → Q (Iv 0) M) (h1 : M a 1 < 0 → Q (Iv 1) M) : cl 0 yX3_isMissing [Rv a] M Q := eX3_isMissing ha ⟨hr, h0, h1⟩
theorem c_has {a i : Int} {n : Nat} {M : Mem} {Q : Vl → Mem → Prop} (ha : isL a n) (hi : inr i) (hr : inr (M a 1)) (h0 : (i < 0 ∨ M a 1 ≤ i) → Q (Iv 0) M) (h1 : (0 ≤ i ∧ i < M a 1) → Q (Iv 1) M) : cl 0 yX3_has [Rv a, Iv i] M Q :=
  eX3_has ha ⟨hi, fun q => h0 (Or.inl q), fun q => ⟨hr, fun q2 => h0 (Or.inr q2), fun q2 => h1 ⟨q, q2⟩⟩⟩
theorem c_reaches {a i k : Int} {n : Nat} {M : Mem} {Q : Vl → Mem → Prop} (ha : isL a n) (hi : inr i) (hr : inr (M a 1 - k)) (h0 : (i < 0 ∨ M a 1 - k < i) → Q (Iv 0) M) (h1 : (0 ≤ i ∧ i ≤ M a 1 - k) → Q (Iv 1) M) : cl 0 yX3_reaches [Rv a, Iv i, Iv k] M Q :=
  eX3_reaches ha ⟨hi, fun q => h0 (Or.inl q), fun q => ⟨hr, fun q2 => h0 (Or.inr q2), fun q2 => h1 ⟨q, q2⟩⟩⟩
theorem l_isBelow {a k : Int} {n : Nat} {M : Mem} {Q : Vl → Mem → Prop} (ha : isL a n) (hk : inr k) (hr : M a 1 ≤ n) (hr1 : -1 ≤ M a 1) (hn : n ≤ 60) (hv : ∀ i, 0 ≤ i → i < M a 1 → inr (M (a + 1) i)) (h0 : ∀ i, 0 ≤ i → i < M a 1 → (M (a + 1) i < 0 ∨ k ≤ M (a + 1) i) → Q (Iv 0) M) (h1 : (∀ i, 0 ≤ i → i < M a 1 → 0 ≤ M (a + 1) i ∧ M (a + 1) i < k) → Q (Iv 1) M) :
    ∀ (m : Nat) (x : Int), 0 ≤ x → x ≤ 60 → (61 - x).toNat = m → (∀ i, 0 ≤ i → i < x → i < M a 1 → 0 ≤ M (a + 1) i ∧ M (a + 1) i < k) → wp 0 yX3_isBelow 2 [some (Rv a), some (Iv k), some (Iv x)] [] M Q := by
  intro m
  induction m with
  | zero => intro x x0 x1 xm; omega
  | succ m ih =>
    intro x x0 x1 xm hd
    refine gX3_isBelow_2 ha ⟨⟨by omega, by omega⟩, ⟨by omega, by omega⟩, fun q => h1 (fun i i0 i1 => hd i i0 (by omega) i1), fun q => ⟨x0, by omega, hv x x0 q, fun q2 => h0 x x0 q (Or.inl q2), fun q2 => ⟨hk, fun q3 => ?_, fun q3 => h0 x x0 q (Or.inr q3)⟩⟩⟩
    refine ih (x + 1) (by omega) (by omega) (by omega) (fun i i0 i1 i2 => ?_)
    by_cases e : i = x
    · subst e; exact ⟨q2, q3⟩
    · exact hd i i0 (by omega) i2
theorem c_isBelow {a k : Int} {n : Nat} {M : Mem} {Q : Vl → Mem → Prop} (ha : isL a n) (hk : inr k) (hr : M a 1 ≤ n) (hr1 : -1 ≤ M a 1) (hn : n ≤ 60) (hv : ∀ i, 0 ≤ i → i < M a 1 → inr (M (a + 1) i)) (h0 : ∀ i, 0 ≤ i → i < M a 1 → (M (a + 1) i < 0 ∨ k ≤ M (a + 1) i) → Q (Iv 0) M) (h1 : (∀ i, 0 ≤ i → i < M a 1 → 0 ≤ M (a + 1) i ∧ M (a + 1) i < k) → Q (Iv 1) M) : cl 0 yX3_isBelow [Rv a, Iv k] M Q :=
  eX3_isBelow ha (l_isBelow ha hk hr hr1 hn hv h0 h1 _ 0 (by decide) (by decide) rfl (fun i i0 i1 => by omega))
/-- Line.begin -/
def bgn (M : Mem) (a n v : Int) : Mem := up (setA M (a + 1) (fun j => if 0 ≤ j ∧ j < n then v else M (a + 1) j)) a 1 n
theorem l_begin {a k v : Int} {n : Nat} {M0 : Mem} {Q : Vl → Mem → Prop} (ha : isL a n) (hk0 : 0 ≤ k) (hk : k ≤ n) (hn : n ≤ 60) (h : Q (Iv 0) (bgn M0 a k v)) :
    ∀ (m : Nat) (x : Int), 0 ≤ x → x ≤ k → (k - x).toNat = m → wp 0 yX3_begin 2 [some (Rv a), some (Iv k), some (Iv v), some (Iv x)] [] (setA M0 (a + 1) (fun j => if 0 ≤ j ∧ j < x then v else M0 (a + 1) j)) Q := by
  intro m
  induction m with
  | zero =>
    intro x x0 x1 xm
    have e : x = k := by omega
    subst e
    exact gX3_begin_2 ha ⟨⟨by omega, by omega⟩, ⟨by omega, by omega⟩, fun _ => h, fun q => absurd q (by omega)⟩
  | succ m ih =>
    intro x x0 x1 xm
    refine gX3_begin_2 ha ⟨⟨by omega, by omega⟩, ⟨by omega, by omega⟩, fun q => absurd q (by omega), fun q => ⟨x0, by omega, ?_⟩⟩
    have e : up (setA M0 (a + 1) (fun j => if 0 ≤ j ∧ j < x then v else M0 (a + 1) j)) (a + 1) x v = setA M0 (a + 1) (fun j => if 0 ≤ j ∧ j < x + 1 then v else M0 (a + 1) j) := by
      funext b j
      by_cases hb : b = a + 1
      · subst hb
        rw [up_at, setA_eq, setA_eq]
        by_cases hj : j = x
        · rw [if_pos hj, if_pos (by omega)]
        · rw [if_neg hj]
          by_cases h1 : 0 ≤ j ∧ j < x
          · rw [if_pos h1, if_pos (by omega)]
          · rw [if_neg h1, if_neg (by omega)]
      · rw [up_ne hb, setA_ne hb, setA_ne hb]
    rw [e]
    exact ih (x + 1) (by omega) (by omega) (by omega)
theorem c_begin {a k v : Int} {n : Nat} {M : Mem} {Q : Vl → Mem → Prop} (ha : isL a n) (hk0 : 0 ≤ k) (hk : k ≤ n) (hn : n ≤ 60) (h : Q (Iv 0) (bgn M a k v)) : cl 0 yX3_begin [Rv a, Iv k, Iv v] M Q := by
  refine eX3_begin ha ?_
  have e : M = setA M (a + 1) (fun j => if 0 ≤ j ∧ j < 0 then v else M (a + 1) j) := by
    funext b j
    by_cases hb : b = a + 1
    · subst hb
      rw [setA_eq, if_neg (by omega)]
    · rw [setA_ne hb]
  have h2 := l_begin (M0 := M) ha hk0 hk hn h _ 0 (by decide) hk0 rfl
  rw [← e] at h2
  exact h2
/-- Line.take -/
def tk (M : Mem) (a b n : Int) : Mem := up (setA M (a + 1) (cpyf M b 0 (a + 1) 0 n)) a 1 n
theorem c_take {a b k : Int} {n m : Nat} {M : Mem} {Q : Vl → Mem → Prop} (ha : isL a n) (hb : isA b m) (hk0 : 0 ≤ k) (hk : k ≤ n) (hm : k ≤ m) (hn : n ≤ 60) (h : Q (Iv k) (tk M a b k)) : cl 0 yX3_take [Rv a, Rv b, Iv k] M Q :=
  eX3_take ha hb ⟨hk0, by omega, by omega, ⟨by omega, by omega⟩, h⟩
/-- Word.become -/
def bcm (M : Mem) (a b n kd of td : Int) : Mem := tk (up (up (up M a 1 kd) a 2 of) a 3 td) (a + 1) b n
theorem c_become {a b k kd of td : Int} {m : Nat} {M : Mem} {Q : Vl → Mem → Prop} (ha : isW a) (hb : isA b m) (hk0 : 0 ≤ k) (hk : k ≤ 40) (hm : k ≤ m) (h : Q (Iv k) (bcm M a b k kd of td)) : cl 0 yX10_become [Rv a, Rv b, Iv k, Iv kd, Iv of, Iv td] M Q :=
  eX10_become ha hb (c_take ha.l hb hk0 (by omega) hm (by decide) h)
theorem c_is {a k : Int} {M : Mem} {Q : Vl → Mem → Prop} (ha : isW a) (hi : inr k) (hr : inr (M a 1)) (h0 : (M a 1 ≠ k ∧ ¬ (k = 2 ∧ 2 < M a 1)) → Q (Iv 0) M) (h1 : (M a 1 = k ∨ (k = 2 ∧ 2 < M a 1)) → Q (Iv 1) M) : cl 0 yX10_is [Rv a, Iv k] M Q :=
  eX10_is ha ⟨Or.inr ⟨hr, hi⟩, fun q => h1 (Or.inl q), fun q => ⟨hi, fun q2 => h0 ⟨q, fun q3 => q2 q3.1⟩, fun q2 => ⟨hr, fun q3 => h0 ⟨q, fun q4 => by omega⟩, fun q3 => h1 (Or.inr ⟨q2, q3⟩)⟩⟩⟩
theorem c_markOf {a k : Int} {M : Mem} {Q : Vl → Mem → Prop} (ha : isW a) (hi : inr k) (h0 : k ≠ 2 → Q (Iv (M a 3)) M) (h1 : k = 2 → Q (Iv (M a 2)) M) : cl 0 yX10_markOf [Rv a, Iv k] M Q := eX10_markOf ha ⟨hi, h0, h1⟩
/-! refusals -/
theorem c_refuseRow {S M : Mem} {r : Int} {Q : Vl → Mem → Prop} (hW : WF S) (hX : X S M) (hr : inr r) (h1 : (r < 0 ∨ 6 ≤ r) → Q (Iv (-1)) M) (h2 : (0 ≤ r ∧ r < 6 ∧ S (10 + r) (-1) < 0) → Q (Iv (-3)) (fnd M 1)) (h3 : (0 ≤ r ∧ r < 6 ∧ 0 ≤ S (10 + r) (-1)) → Q (Iv 0) M) : cl 0 yX11_refuseRow [Rv 1, Iv r] M Q := by
  refine eX11_refuseRow (c_noRow hr (fun q => ⟨fun q2 => absurd q2 (by decide), fun _ => h1 q⟩) (fun q => ⟨fun _ => ⟨q.1, q.2, ?_⟩, fun q2 => absurd rfl q2⟩))
  have e := (hX.1 r q.1 q.2).1
  have w := hW.1 r q.1 q.2
  refine c_isMissing (isL_row q.1 q.2) (by rw [e]; omega) (fun q2 => ⟨fun _ => h3 ⟨q.1, q.2, by omega⟩, fun q3 => absurd rfl q3⟩) (fun q2 => ⟨fun q3 => absurd q3 (by decide), fun _ => c_found (by decide) (h2 ⟨q.1, q.2, by omega⟩)⟩)
theorem c_refusePlace {S M : Mem} {r i : Int} {Q : Vl → Mem → Prop} (hW : WF S) (hX : X S M) (hr : inr r) (hi : inr i) (h1 : (r < 0 ∨ 6 ≤ r) → Q (Iv (-1)) M) (h2 : (0 ≤ r ∧ r < 6 ∧ S (10 + r) (-1) < 0) → Q (Iv (-3)) (fnd M 1)) (h3 : (0 ≤ r ∧ r < 6 ∧ 0 ≤ S (10 + r) (-1) ∧ (i < 0 ∨ S (10 + r) (-1) ≤ i)) → Q (Iv (-3)) (fnd M 2)) (h4 : (0 ≤ r ∧ r < 6 ∧ 0 ≤ i ∧ i < S (10 + r) (-1)) → Q (Iv 0) M) : cl 0 yX11_refusePlace [Rv 1, Iv r, Iv i] M Q := by
  refine eX11_refusePlace (c_refuseRow hW hX hr (fun q => ⟨by decide, fun q2 => absurd q2 (by decide), fun _ => h1 q⟩) (fun q => ⟨by decide, fun q2 => absurd q2 (by decide), fun _ => h2 q⟩) (fun q => ⟨by decide, fun _ => ⟨q.1, q.2.1, ?_⟩, fun q2 => absurd rfl q2⟩))
  have e := (hX.1 r q.1 q.2.1).1
  have w := hW.1 r q.1 q.2.1
  refine c_has (isL_row q.1 q.2.1) hi (by rw [e]; omega) (fun q2 => ⟨fun _ => c_found (by decide) (h3 ⟨q.1, q.2.1, q.2.2, by omega⟩), fun q3 => absurd rfl q3⟩) (fun q2 => ⟨fun q3 => absurd q3 (by decide), fun _ => h4 ⟨q.1, q.2.1, by omega, by omega⟩⟩)
theorem c_refuseText {S M : Mem} {r : Int} {Q : Vl → Mem → Prop} (hW : WF S) (hX : X S M) (hr : inr r) (h1 : (r < 0 ∨ 4 ≤ r) → Q (Iv (-1)) M) (h2 : (0 ≤ r ∧ r < 4 ∧ S (20 + r) (-1) < 0) → Q (Iv (-3)) (fnd M 1)) (h3 : (0 ≤ r ∧ r < 4 ∧ 0 ≤ S (20 + r) (-1)) → Q (Iv 0) M) : cl 0 yX11_refuseText [Rv 1, Iv r] M Q := by
  refine eX11_refuseText (c_noText hr (fun q => ⟨fun q2 => absurd q2 (by decide), fun _ => h1 q⟩) (fun q => ⟨fun _ => ⟨q.1, q.2, ?_⟩, fun q2 => absurd rfl q2⟩))
  have e := (hX.2.1 r q.1 q.2).1
  have w := hW.2.1 r q.1 q.2
  refine c_isMissing (isL_text q.1 q.2) (by rw [e]; omega) (fun q2 => ⟨fun _ => h3 ⟨q.1, q.2, by omega⟩, fun q3 => absurd rfl q3⟩) (fun q2 => ⟨fun q3 => absurd q3 (by decide), fun _ => c_found (by decide) (h2 ⟨q.1, q.2, by omega⟩)⟩)
theorem c_refuseWords {S M : Mem} {a b : Int} {Q : Vl → Mem → Prop} (hW : WF S) (hX : X S M) (ha : inr a) (hb : inr b) (h1 : (a < 0 ∨ 8 ≤ a ∨ b < 0 ∨ 8 ≤ b) → Q (Iv (-1)) M) (h2 : (0 ≤ a ∧ a < 8 ∧ 0 ≤ b ∧ b < 8 ∧ (S (30 + a) (-1) < 0 ∨ S (30 + b) (-1) < 0)) → Q (Iv (-3)) (fnd M 1)) (h3 : (0 ≤ a ∧ a < 8 ∧ 0 ≤ b ∧ b < 8 ∧ 0 ≤ S (30 + a) (-1) ∧ 0 ≤ S (30 + b) (-1)) → Q (Iv 0) M) : cl 0 yX11_refuseWords [Rv 1, Iv a, Iv b] M Q := by
  refine eX11_refuseWords (c_noWord ha (fun q => ⟨fun _ => h1 (by omega), fun q2 => absurd q2 (by decide)⟩) (fun q => ⟨fun q2 => absurd rfl q2, fun _ => c_noWord hb (fun q3 => ⟨fun q2 => absurd q2 (by decide), fun _ => h1 (by omega)⟩) (fun q3 => ⟨fun _ => ⟨q.1, q.2, ?_⟩, fun q2 => absurd rfl q2⟩)⟩))
  have e := (hX.2.2.1 a q.1 q.2).2.1
  have w := hW.2.2.1 a q.1 q.2
  have e2 := (hX.2.2.1 b q3.1 q3.2).2.1
  have w2 := hW.2.2.1 b q3.1 q3.2
  refine c_isMissing (isW_word q.1 q.2).l (by rw [e]; omega) (fun q4 => ⟨fun q2 => absurd rfl q2, fun _ => ⟨q3.1, q3.2, ?_⟩⟩) (fun q4 => ⟨fun _ => c_found (by decide) (h2 ⟨q.1, q.2, q3.1, q3.2, by omega⟩), fun q2 => absurd q2 (by decide)⟩)
  refine c_isMissing (isW_word q3.1 q3.2).l (by rw [e2]; omega) (fun q5 => ⟨fun _ => h3 ⟨q.1, q.2, q3.1, q3.2, by omega, by omega⟩, fun q2 => absurd rfl q2⟩) (fun q5 => ⟨fun q2 => absurd q2 (by decide), fun _ => c_found (by decide) (h2 ⟨q.1, q.2, q3.1, q3.2, by omega⟩)⟩)
theorem c_refuseWord {S M : Mem} {a : Int} {Q : Vl → Mem → Prop} (hW : WF S) (hX : X S M) (ha : inr a) (h1 : (a < 0 ∨ 8 ≤ a) → Q (Iv (-1)) M) (h2 : (0 ≤ a ∧ a < 8 ∧ S (30 + a) (-1) < 0) → Q (Iv (-3)) (fnd M 1)) (h3 : (0 ≤ a ∧ a < 8 ∧ 0 ≤ S (30 + a) (-1)) → Q (Iv 0) M) : cl 0 yX11_refuseWord [Rv 1, Iv a] M Q :=
  eX11_refuseWord (c_refuseWords hW hX ha ha (fun q => h1 (by omega)) (fun q => h2 (by omega)) (fun q => h3 (by omega)))
