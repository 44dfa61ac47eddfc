/-! a stretch of an array filled, place by place -/
def fil (M : Mem) (a base n : Int) (f : Int → Int) : Mem := setA M a (fun j => if base ≤ j ∧ j < base + n then f (j - base) else M a j)
theorem fil_0 {M : Mem} {a base : Int} {f : Int → Int} : fil M a base 0 f = M := by
  funext b j
  unfold fil
  by_cases h : b = a
  · subst h; rw [setA_eq, if_neg (by omega)]
  · rw [setA_ne h]
theorem fil_ne {M : Mem} {a base n b : Int} {f : Int → Int} (h : b ≠ a) : fil M a base n f b = M b := setA_ne h
theorem fil_at {M : Mem} {a base n j : Int} {f : Int → Int} : fil M a base n f a j = if base ≤ j ∧ j < base + n then f (j - base) else M a j := by unfold fil; rw [setA_eq]
theorem fil_in {M : Mem} {a base n i : Int} {f : Int → Int} (h0 : 0 ≤ i) (h1 : i < n) : fil M a base n f a (base + i) = f i := by
  rw [fil_at, if_pos (by omega)]
  congr 1
  omega
theorem fil_out {M : Mem} {a base n j : Int} {f : Int → Int} (h : j < base ∨ base + n ≤ j) : fil M a base n f a j = M a j := by rw [fil_at, if_neg (by omega)]
theorem fil_s {M : Mem} {a base n i v : Int} {f : Int → Int} (h0 : 0 ≤ n) (hi : i = base + n) (hv : v = f n) : up (fil M a base n f) a i v = fil M a base (n + 1) f := by
  subst hi
  subst hv
  funext b j
  by_cases hb : b = a
  · subst hb
    rw [up_at, fil_at, fil_at]
    by_cases hj : j = base + n
    · rw [if_pos hj, if_pos (by omega), hj]
      congr 1
      omega
    · rw [if_neg hj]
      by_cases h1 : base ≤ j ∧ j < base + n
      · rw [if_pos h1, if_pos (by omega)]
      · rw [if_neg h1, if_neg (by omega)]
  · rw [up_ne hb, fil_ne hb, fil_ne hb]
theorem fil_cg {M : Mem} {a base n : Int} {f g : Int → Int} (h : ∀ i, 0 ≤ i → i < n → f i = g i) : fil M a base n f = fil M a base n g := by
  unfold fil
  congr 1
  funext j
  by_cases h1 : base ≤ j ∧ j < base + n
  · rw [if_pos h1, if_pos h1]; exact h _ (by omega) (by omega)
  · rw [if_neg h1, if_neg h1]
/-! the reference's small methods -/
theorem m_in {v lo hi : Int} {M : Mem} {Q : Vl → Mem → Prop} (h1 : inr v) (h2 : inr lo) (h3 : inr hi) (h0 : (v < lo ∨ hi < v) → Q (Iv 0) M) (hg : (lo ≤ v ∧ v ≤ hi) → Q (Iv 1) M) : cl 0 yX12_in [Iv v, Iv lo, Iv hi] M Q :=
  eX12_in ⟨h1, h2, fun q => h0 (Or.inl q), fun q => ⟨h3, fun q2 => h0 (Or.inr q2), fun q2 => hg ⟨q, q2⟩⟩⟩
theorem m_isRow {v : Int} {M : Mem} {Q : Vl → Mem → Prop} (h1 : inr v) (h0 : (v < 0 ∨ 6 ≤ v) → Q (Iv 0) M) (hg : (0 ≤ v ∧ v < 6) → Q (Iv 1) M) : cl 0 yX12_isRow [Iv v] M Q :=
  eX12_isRow (m_in h1 (by decide) (by decide) (fun q => h0 (by omega)) (fun q => hg (by omega)))
theorem m_isText {v : Int} {M : Mem} {Q : Vl → Mem → Prop} (h1 : inr v) (h0 : (v < 0 ∨ 4 ≤ v) → Q (Iv 0) M) (hg : (0 ≤ v ∧ v < 4) → Q (Iv 1) M) : cl 0 yX12_isText [Iv v] M Q :=
  eX12_isText (m_in h1 (by decide) (by decide) (fun q => h0 (by omega)) (fun q => hg (by omega)))
theorem m_isWord {v : Int} {M : Mem} {Q : Vl → Mem → Prop} (h1 : inr v) (h0 : (v < 0 ∨ 8 ≤ v) → Q (Iv 0) M) (hg : (0 ≤ v ∧ v < 8) → Q (Iv 1) M) : cl 0 yX12_isWord [Iv v] M Q :=
  eX12_isWord (m_in h1 (by decide) (by decide) (fun q => h0 (by omega)) (fun q => hg (by omega)))
theorem m_meets {f : Int} {M : Mem} {Q : Vl → Mem → Prop} (h1 : 0 ≤ f ∧ f < 6) (h : Q (Iv (-3)) (mts M f)) : cl 0 yX12_meets [Rv 88, Iv f] M Q := eX12_meets ⟨h1.1, h1.2, h⟩
theorem m_tells {v w : Int} {M : Mem} {Q : Vl → Mem → Prop} (h : Q (Iv w) (up M 88 2 v)) : cl 0 yX12_tells [Rv 88, Iv v, Iv w] M Q := eX12_tells h
theorem m_tellsMany {v w : Int} {M : Mem} {Q : Vl → Mem → Prop} (h : Q (Iv w) (up M 88 3 v)) : cl 0 yX12_tellsMany [Rv 88, Jv v, Iv w] M Q := eX12_tellsMany h
theorem m_rowAt {r i : Int} {M : Mem} {Q : Vl → Mem → Prop} (h0 : 0 ≤ 40 * r + i) (h1 : 40 * r + i < 240) (h : Q (Iv (M 91 (40 * r + i))) M) : cl 0 yX12_rowAt [Rv 88, Iv r, Iv i] M Q := eX12_rowAt ⟨h0, h1, h⟩
theorem m_at0 {r i : Int} {M : Mem} {Q : Vl → Mem → Prop} (h0 : 0 ≤ 40 * r + i) (h1 : 40 * r + i < 320) (h : Q (Iv (M 96 (40 * r + i))) M) : cl 0 yX12_at0 [Rv 88, Iv r, Iv i] M Q := eX12_at0 ⟨h0, h1, h⟩
theorem m_byteAt {t i : Int} {M : Mem} {Q : Vl → Mem → Prop} (h0 : 0 ≤ t) (h1 : t < 4) (hi : 0 ≤ i) (hi2 : inr i) (hl : M 93 t ≤ 60) (hl2 : -1 ≤ M 93 t) (hq0 : M 93 t ≤ i → Q (Iv 0) M) (hq1 : i < M 93 t → Q (Iv (M 94 (60 * t + i))) M) : cl 0 yX12_byteAt [Rv 88, Iv t, Iv i] M Q :=
  eX12_byteAt ⟨h0, h1, hi2, ⟨by omega, by omega⟩, hq0, fun q => ⟨by omega, by omega, hq1 q⟩⟩
theorem m_isThere {w : Int} {M : Mem} {Q : Vl → Mem → Prop} (h0 : 0 ≤ w) (h1 : w < 8) (hr : inr (M 95 w)) (hq0 : M 95 w < 0 → Q (Iv 0) M) (hq1 : 0 ≤ M 95 w → Q (Iv 1) M) : cl 0 yX12_isThere [Rv 88, Iv w] M Q := eX12_isThere ⟨h0, h1, hr, hq0, hq1⟩
theorem m_isLetter {v : Int} {M : Mem} {Q : Vl → Mem → Prop} (h1 : inr v) (hk : 1 ≤ M 88 11 ∧ M 88 11 ≤ 6) (h0 : (v < 0 ∨ M 88 11 ≤ v) → Q (Iv 0) M) (hg : (0 ≤ v ∧ v < M 88 11) → Q (Iv 1) M) : cl 0 yX12_isLetter [Rv 88, Iv v] M Q :=
  eX12_isLetter (m_in h1 (by decide) ⟨by omega, by omega⟩ (fun q => h0 (by omega)) (fun q => hg (by omega)))
theorem m_markOf {w k : Int} {M : Mem} {Q : Vl → Mem → Prop} (h0 : 0 ≤ w) (h1 : w < 8) (hk : inr k) (hq0 : k = 0 → Q (Iv 0) M) (hq2 : k = 2 → Q (Iv (M 98 w)) M) (hq : (k ≠ 0 ∧ k ≠ 2) → Q (Iv (M 99 w)) M) : cl 0 yX12_markOf [Rv 88, Iv w, Iv k] M Q :=
  eX12_markOf ⟨hk, fun q => ⟨fun q2 => ⟨h0, h1, hq ⟨q, q2⟩⟩, fun q2 => ⟨h0, h1, hq2 q2⟩⟩, hq0⟩
theorem m_needWord {S M : Mem} {g a : Int} {Q : Vl → Mem → Prop} (hW : WF S) (hY : Y S M) (hg : g = 0 ∨ g = 1) (ha : inr a) (h1 : (a < 0 ∨ 8 ≤ a ∨ g = 0) → Q (Iv (-1)) M) (h2 : (0 ≤ a ∧ a < 8 ∧ g = 1 ∧ S (30 + a) (-1) < 0) → Q (Iv (-3)) (mts M 1)) (h3 : (0 ≤ a ∧ a < 8 ∧ g = 1 ∧ 0 ≤ S (30 + a) (-1)) → Q (Iv 0) M) : cl 0 yX12_needWord [Rv 88, Iv g, Iv a] M Q := by
  refine eX12_needWord (m_isWord ha (fun q => ⟨fun _ => h1 (by omega), fun q2 => absurd rfl q2⟩) (fun q => ⟨fun q2 => absurd q2 (by decide), fun _ => ⟨⟨by omega, by omega⟩, fun q3 => ?_, fun q3 => h1 (by omega)⟩⟩))
  have e := (hY.2.2.1 a q.1 q.2).2.1
  have w := hW.2.2.1 a q.1 q.2
  exact m_isThere q.1 q.2 (by rw [e]; omega) (fun q4 => ⟨fun _ => m_meets (by decide) (h2 ⟨q.1, q.2, by omega, by omega⟩), fun q2 => absurd rfl q2⟩) (fun q4 => ⟨fun q2 => absurd q2 (by decide), fun _ => h3 ⟨q.1, q.2, by omega, by omega⟩⟩)
theorem m_needTwo {S M : Mem} {g a b : Int} {Q : Vl → Mem → Prop} (hW : WF S) (hY : Y S M) (hg : g = 0 ∨ g = 1) (ha : inr a) (hb : inr b) (h1 : (a < 0 ∨ 8 ≤ a ∨ b < 0 ∨ 8 ≤ b ∨ g = 0) → Q (Iv (-1)) M) (h2 : (0 ≤ a ∧ a < 8 ∧ 0 ≤ b ∧ b < 8 ∧ g = 1 ∧ (S (30 + a) (-1) < 0 ∨ S (30 + b) (-1) < 0)) → Q (Iv (-3)) (mts M 1)) (h3 : (0 ≤ a ∧ a < 8 ∧ 0 ≤ b ∧ b < 8 ∧ g = 1 ∧ 0 ≤ S (30 + a) (-1) ∧ 0 ≤ S (30 + b) (-1)) → Q (Iv 0) M) : cl 0 yX12_needTwo [Rv 88, Iv g, Iv a, Iv b] M Q := by
  refine eX12_needTwo (m_isWord ha (fun q => ⟨fun _ => h1 (by omega), fun q2 => absurd rfl q2⟩) (fun q => ⟨fun q2 => absurd q2 (by decide), fun _ => m_isWord hb (fun q5 => ⟨fun _ => h1 (by omega), fun q2 => absurd rfl q2⟩) (fun q5 => ⟨fun q2 => absurd q2 (by decide), fun _ => ⟨⟨by omega, by omega⟩, fun q3 => ?_, fun q3 => h1 (by omega)⟩⟩)⟩))
  have e := (hY.2.2.1 a q.1 q.2).2.1
  have w := hW.2.2.1 a q.1 q.2
  have e2 := (hY.2.2.1 b q5.1 q5.2).2.1
  have w2 := hW.2.2.1 b q5.1 q5.2
  exact m_isThere q.1 q.2 (by rw [e]; omega) (fun q4 => ⟨fun _ => m_meets (by decide) (h2 ⟨q.1, q.2, q5.1, q5.2, by omega, by omega⟩), fun q2 => absurd rfl q2⟩) (fun q4 => ⟨fun q2 => absurd q2 (by decide), fun _ => m_isThere q5.1 q5.2 (by rw [e2]; omega) (fun q6 => ⟨fun _ => m_meets (by decide) (h2 ⟨q.1, q.2, q5.1, q5.2, by omega, by omega⟩), fun q2 => absurd rfl q2⟩) (fun q6 => ⟨fun q2 => absurd q2 (by decide), fun _ => h3 ⟨q.1, q.2, q5.1, q5.2, by omega, by omega, by omega⟩⟩)⟩)
/-- comes(): a WORD out of made -/
def cms (M : Mem) (w kd of td : Int) : Mem := up (up (up (fil (up M 95 w (M 88 17)) 96 (40 * w) (M 88 17) (M 100)) 97 w kd) 98 w of) 99 w td
theorem m_comes {w kd of td n : Int} {M : Mem} {Q : Vl → Mem → Prop} (h0 : 0 ≤ w) (h1 : w < 8) (hn : M 88 17 = n) (hn0 : 0 ≤ n) (hn1 : n ≤ 40) (h : Q (Iv n) (cms M w kd of td)) : cl 0 yX12_comes [Rv 88, Iv w, Iv kd, Iv of, Iv td] M Q := by
  subst hn
  refine eX12_comes ⟨h0, h1, ?_⟩
  have key : ∀ (m : Nat) (x : Int), 0 ≤ x → x ≤ M 88 17 → (M 88 17 - x).toNat = m → wp 0 yX12_comes 13 [some (Rv 88), some (Iv w), some (Iv kd), some (Iv of), some (Iv td), some (Iv x)] [] (fil (up M 95 w (M 88 17)) 96 (40 * w) x (M 100)) Q := by
    intro m
    induction m with
    | zero =>
      intro x x0 x1 xm
      have e : x = M 88 17 := by omega
      subst e
      have e2 : fil (up M 95 w (M 88 17)) 96 (40 * w) (M 88 17) (M 100) 88 17 = M 88 17 := by rw [fil_ne (by decide), up_ne (by decide)]
      refine gX12_comes_13 ⟨⟨by omega, by omega⟩, by rw [e2]; exact ⟨by omega, by omega⟩, fun _ => ⟨h0, h1, ?_⟩, fun q => absurd q (by rw [e2]; omega)⟩
      rw [e2]
      exact h
    | succ m ih =>
      intro x x0 x1 xm
      have e2 : fil (up M 95 w (M 88 17)) 96 (40 * w) x (M 100) 88 17 = M 88 17 := by rw [fil_ne (by decide), up_ne (by decide)]
      have e3 : fil (up M 95 w (M 88 17)) 96 (40 * w) x (M 100) 100 = M 100 := by rw [fil_ne (by decide), up_ne (by decide)]
      refine gX12_comes_13 ⟨⟨by omega, by omega⟩, by rw [e2]; exact ⟨by omega, by omega⟩, fun q => absurd q (by rw [e2]; omega), fun q => ⟨x0, by omega, by omega, by omega, ?_⟩⟩
      rw [e3, fil_s x0 rfl rfl]
      exact ih (x + 1) (by omega) (by omega) (by omega)
  have h2 := key _ 0 (by decide) hn0 rfl
  rw [fil_0] at h2
  exact h2
/-- comesToRow(): a ROW out of made -/
def ctr (M : Mem) (r : Int) : Mem := fil (up M 90 r (M 88 17)) 91 (40 * r) 40 (fun i => if i < M 88 17 then M 100 i else 0)
theorem m_comesToRow {r : Int} {M : Mem} {Q : Vl → Mem → Prop} (h0 : 0 ≤ r) (h1 : r < 6) (hn0 : 0 ≤ M 88 17) (hn1 : M 88 17 ≤ 40) (h : Q (Iv 0) (ctr M r)) : cl 0 yX12_comesToRow [Rv 88, Iv r] M Q := by
  refine eX12_comesToRow ⟨h0, h1, ?_⟩
  have key : ∀ (m : Nat) (x : Int), 0 ≤ x → x ≤ 40 → (40 - x).toNat = m → wp 0 yX12_comesToRow 12 [some (Rv 88), some (Iv r), some (Iv x)] [] (fil (up M 90 r (M 88 17)) 91 (40 * r) x (fun i => if i < M 88 17 then M 100 i else 0)) Q := by
    intro m
    induction m with
    | zero =>
      intro x x0 x1 xm
      have e : x = 40 := by omega
      subst e
      exact gX12_comesToRow_12 ⟨by decide, fun _ => h, fun q => absurd q (by decide)⟩
    | succ m ih =>
      intro x x0 x1 xm
      have e2 : fil (up M 90 r (M 88 17)) 91 (40 * r) x (fun i => if i < M 88 17 then M 100 i else 0) 88 17 = M 88 17 := by rw [fil_ne (by decide), up_ne (by decide)]
      have e3 : fil (up M 90 r (M 88 17)) 91 (40 * r) x (fun i => if i < M 88 17 then M 100 i else 0) 100 = M 100 := by rw [fil_ne (by decide), up_ne (by decide)]
      refine gX12_comesToRow_12 ⟨⟨by omega, by omega⟩, fun q => absurd q (by omega), fun q => ⟨by rw [e2]; exact ⟨by omega, by omega⟩, fun q2 => ⟨by omega, by omega, ?_⟩, fun q2 => ⟨x0, by omega, by omega, ?_⟩⟩⟩
      · rw [e2] at q2
        rw [fil_s x0 rfl (by rw [if_neg (by omega)])]
        exact ih (x + 1) (by omega) (by omega) (by omega)
      · rw [e2] at q2
        rw [e3, fil_s x0 rfl (by rw [if_pos q2])]
        exact ih (x + 1) (by omega) (by omega) (by omega)
  have h2 := key _ 0 (by decide) (by decide) rfl
  rw [fil_0] at h2
  exact h2
theorem Y.cms {S M : Mem} (hW : WF S) (h : Y S M) {w n kd of td : Int} {f : Int → Int} (h0 : 0 ≤ w) (h1 : w < 8) (hn : M 88 17 = n) (hn0 : 0 ≤ n) (hn1 : n ≤ 40) (hf : ∀ i, 0 ≤ i → i < n → M 100 i = f i) : Y (setWd S w n f kd of td) (cms M w kd of td) := by
  show Y (setWd S w n f kd of td) (up (up (up (fil (up M 95 w (M 88 17)) 96 (40 * w) (M 88 17) (M 100)) 97 w kd) 98 w of) 99 w td)
  rw [hn]
  refine h.word h0 h1 (fun q q0 q1 => (hW.2.2.1 q q0 q1).2.2.1) hn1 (fun a ka ka2 => ?_) (fun k hk => ?_) (fun q q0 q1 => ?_) (fun i i0 i1 i2 => ?_) (fun i i0 i1 => ?_)
  · rw [up_ne (by omega), up_ne (by omega), up_ne (by omega), fil_ne (by omega), up_ne (by omega)]
  · rw [up_ne (by omega), up_ne (by omega), up_ne (by omega), fil_ne (by omega), up_ne (by omega)]
  · refine ⟨?_, ?_, ?_, ?_⟩
    · rw [up_ne (by decide), up_ne (by decide), up_ne (by decide), fil_ne (by decide), up_at]
    · rw [up_ne (by decide), up_ne (by decide), up_at, fil_ne (by decide), up_ne (by decide)]
    · rw [up_ne (by decide), up_at, up_ne (by decide), fil_ne (by decide), up_ne (by decide)]
    · rw [up_at, up_ne (by decide), up_ne (by decide), fil_ne (by decide), up_ne (by decide)]
  · rw [up_ne (by decide), up_ne (by decide), up_ne (by decide), fil_out (by omega), up_ne (by decide)]
  · rw [up_ne (by decide), up_ne (by decide), up_ne (by decide), fil_in i0 i1]
    exact hf i i0 i1
theorem fry.cms {M M1 : Mem} (h : fry M M1) {w kd of td : Int} : fry M (cms M1 w kd of td) := ((((h.up (by decide)).setA (by decide)).up (by decide)).up (by decide)).up (by decide)
theorem Y.ctr {S M : Mem} (hW : WF S) (h : Y S M) {r n : Int} {f : Int → Int} (h0 : 0 ≤ r) (h1 : r < 6) (hn : M 88 17 = n) (hn0 : 0 ≤ n) (hn1 : n ≤ 40) (hf : ∀ i, 0 ≤ i → i < n → M 100 i = f i) : Y (setLn S (10 + r) n f) (ctr M r) := by
  show Y (setLn S (10 + r) n f) (fil (up M 90 r (M 88 17)) 91 (40 * r) 40 (fun i => if i < M 88 17 then M 100 i else 0))
  rw [hn]
  refine h.row h0 h1 (fun q q0 q1 => (hW.1 q q0 q1).2.1) hn1 (fun a ka k1 k2 => ?_) (fun k hk => ?_) (fun q q0 q1 => ?_) (fun i i0 i1 i2 => ?_) (fun i i0 i1 => ?_)
  · rw [fil_ne k2, up_ne k1]
  · rw [fil_ne (by decide), up_ne (by decide)]
  · rw [fil_ne (by decide), up_at]
  · rw [fil_out (by omega), up_ne (by decide)]
  · rw [fil_in i0 (by omega), if_pos i1]
    exact hf i i0 i1
theorem fry.ctr {M M1 : Mem} (h : fry M M1) {r : Int} : fry M (ctr M1 r) := (h.up (by decide)).setA (by decide)
/-! the next place of a letter -/
def nxF (f : Int → Int) (x : Int) : Nat → Int → Int
  | 0, _ => -9
  | k + 1, p => if f p = x then p else nxF f x k (p + 1)
def nx (f : Int → Int) (n p x : Int) : Int := nxF f x (n - p).toNat p
theorem nx_end {f : Int → Int} {n p x : Int} (h : n ≤ p) : nx f n p x = -9 := by
  unfold nx
  rw [show (n - p).toNat = 0 by omega]
  rfl
theorem nx_step {f : Int → Int} {n p x : Int} (h : p < n) : nx f n p x = if f p = x then p else nx f n (p + 1) x := by
  unfold nx
  obtain ⟨k, hk⟩ : ∃ k : Nat, (n - p).toNat = k + 1 := ⟨(n - p).toNat - 1, by omega⟩
  rw [hk, show (n - (p + 1)).toNat = k by omega]
  rfl
theorem nx_cg {f g : Int → Int} {n x : Int} (h : ∀ i, 0 ≤ i → i < n → f i = g i) : ∀ (m : Nat) (p : Int), 0 ≤ p → (n - p).toNat = m → nx f n p x = nx g n p x := by
  intro m
  induction m with
  | zero => intro p p0 pm; rw [nx_end (by omega), nx_end (by omega)]
  | succ m ih => intro p p0 pm; rw [nx_step (f := f) (p := p) (by omega), nx_step (f := g) (p := p) (by omega), h p p0 (by omega), ih (p + 1) (by omega) (by omega)]
theorem m_next {w p x : Int} {M : Mem} {Q : Vl → Mem → Prop} (h0 : 0 ≤ w) (h1 : w < 8) (hp : 0 ≤ p) (hp2 : p ≤ 41) (hn : -1 ≤ M 95 w ∧ M 95 w ≤ 40) (hx : inr x) (hv : ∀ i, 0 ≤ i → i < M 95 w → inr (M 96 (40 * w + i))) (h : Q (Iv (nx (fun i => M 96 (40 * w + i)) (M 95 w) p x)) M) : cl 0 yX12_next [Rv 88, Iv w, Iv p, Iv x] M Q := by
  refine eX12_next ?_
  have key : ∀ (m : Nat) (z : Int), 0 ≤ z → z ≤ 41 → (41 - z).toNat = m → nx (fun i => M 96 (40 * w + i)) (M 95 w) z x = nx (fun i => M 96 (40 * w + i)) (M 95 w) p x → wp 0 yX12_next 3 [some (Rv 88), some (Iv w), some (Iv p), some (Iv x), some (Iv z)] [] M Q := by
    intro m
    induction m with
    | zero =>
      intro z z0 z1 zm hz
      refine gX12_next_3 ⟨h0, h1, ⟨by omega, by omega⟩, ⟨by omega, by omega⟩, fun q => ?_, fun q => absurd q (by omega)⟩
      rw [← hz, nx_end q] at h
      exact h
    | succ m ih =>
      intro z z0 z1 zm hz
      refine gX12_next_3 ⟨h0, h1, ⟨by omega, by omega⟩, ⟨by omega, by omega⟩, fun q => ?_, fun q => m_at0 (by omega) (by omega) ⟨Or.inr ⟨hv z z0 q, hx⟩, fun q2 => ?_, fun q2 => ?_⟩⟩
      · rw [← hz, nx_end q] at h
        exact h
      · refine ih (z + 1) (by omega) (by omega) (by omega) ?_
        rw [← hz, nx_step q]
        exact (if_neg q2).symm
      · rw [← hz, nx_step q] at h
        rw [show (if (fun i => M 96 (40 * w + i)) z = x then z else nx (fun i => M 96 (40 * w + i)) (M 95 w) (z + 1) x) = z from if_pos q2] at h
        exact h
  exact key _ p hp hp2 rfl rfl
