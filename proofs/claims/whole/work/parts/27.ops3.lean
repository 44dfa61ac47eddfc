theorem bcm_at {M : Mem} {a b n kd of td : Int} (hb : b ≠ a) : bcm M a b n kd of td = up (setA (up (up (up M a 1 kd) a 2 of) a 3 td) (a + 1 + 1) (fun j => if 0 ≤ j ∧ j < n then M b j else M (a + 1 + 1) j)) (a + 1) 1 n := by
  unfold bcm tk
  congr 1
  congr 1
  funext j
  unfold cpyf
  rw [up_ne hb, up_ne hb, up_ne hb, up_ne (by omega), up_ne (by omega), up_ne (by omega)]
  by_cases h : 0 ≤ j ∧ j < 0 + n
  · rw [if_pos h, if_pos (by omega), show (0 : Int) + (j - 0) = j by omega]
  · rw [if_neg h, if_neg (by omega)]
theorem X.bcm {S M : Mem} (h : X S M) {w n kd of td b : Int} {f : Int → Int} (hr : 0 ≤ w) (hr6 : w < 8) (hb : b < 55) (hf : ∀ i, 0 ≤ i → i < n → M b i = f i) : X (setWd S w n f kd of td) (bcm M (55 + 3 * w) b n kd of td) := by
  rw [bcm_at (by omega)]
  refine h.word hr hr6 (fun a ka k1 k2 k3 => ?_) ?_ ?_ (fun i i0 i1 => ?_)
  · rw [up_ne k2, setA_ne k3, up_ne k1, up_ne k1, up_ne k1]
  · rw [up_ne (by omega), setA_ne (by omega)]
    refine ⟨?_, ?_, ?_⟩
    · rw [up_at, if_neg (by decide), up_at, if_neg (by decide), up_at, if_pos rfl]
    · rw [up_at, if_neg (by decide), up_at, if_pos rfl]
    · rw [up_at, if_pos rfl]
  · rw [up_at, if_pos rfl]
  · rw [up_ne (by omega), setA_eq]
    show (if 0 ≤ i ∧ i < n then M b i else _) = _
    rw [if_pos ⟨i0, i1⟩]
    exact hf i i0 i1
theorem frx.bcm {M M1 : Mem} (h : frx M M1) {w n kd of td b : Int} (hr : 0 ≤ w) (hr6 : w < 8) : frx M (bcm M1 (55 + 3 * w) b n kd of td) :=
  ((((h.up (by omega)).up (by omega)).up (by omega)).setA (by omega)).up (by omega)
theorem tk_at {M : Mem} {a b n : Int} : tk M a b n = up (setA M (a + 1) (fun j => if 0 ≤ j ∧ j < n then M b j else M (a + 1) j)) a 1 n := by
  unfold tk
  congr 1
  congr 1
  funext j
  unfold cpyf
  by_cases h : 0 ≤ j ∧ j < 0 + n
  · rw [if_pos h, if_pos (by omega), show (0 : Int) + (j - 0) = j by omega]
  · rw [if_neg h, if_neg (by omega)]
theorem X.tk {S M : Mem} (h : X S M) {r n b : Int} {f : Int → Int} (hr : 0 ≤ r) (hr6 : r < 6) (hf : ∀ i, 0 ≤ i → i < n → M b i = f i) : X (setLn S (10 + r) n f) (tk M (35 + 2 * r) b n) := by
  rw [tk_at]
  refine h.row hr hr6 (fun a ka k1 k2 => ?_) ?_ (fun i i0 i1 => ?_)
  · rw [up_ne k1, setA_ne k2]
  · rw [up_at, if_pos rfl]
  · rw [up_ne (by omega), setA_eq]
    show (if 0 ≤ i ∧ i < n then M b i else _) = _
    rw [if_pos ⟨i0, i1⟩]
    exact hf i i0 i1
theorem frx.tk {M M1 : Mem} (h : frx M M1) {r n b : Int} (hr : 0 ≤ r) (hr6 : r < 6) : frx M (tk M1 (35 + 2 * r) b n) := (h.setA (by omega)).up (by omega)
theorem X.setA {S M : Mem} (h : X S M) {a : Int} {f : Int → Int} (ha : ¬ kX a) : X S (setA M a f) := h.same (fun b kb => setA_ne (fun e => ha (e ▸ kb)))
theorem X.up {S M : Mem} (h : X S M) {a k v : Int} (ha : ¬ kX a) : X S (up M a k v) := h.same (fun b kb => up_ne (fun e => ha (e ▸ kb)))
theorem Y.setA {S M : Mem} (h : Y S M) {a : Int} {f : Int → Int} (ha : ¬ kY a) (h8 : a ≠ 88) : Y S (setA M a f) := h.same (fun b kb => setA_ne (fun e => ha (e ▸ kb))) (fun k _ => by rw [setA_ne (Ne.symm h8)])
theorem Y.up {S M : Mem} (h : Y S M) {a k v : Int} (ha : ¬ kY a) (h8 : a ≠ 88 ∨ (k ≠ 11 ∧ k ≠ 2 ∧ k ≠ 3 ∧ k ≠ 4 ∧ k ≠ 5 ∧ k ≠ 0)) : Y S (up M a k v) := h.same (fun b kb => up_ne (fun e => ha (e ▸ kb))) (fun j hj => up_ln (by omega))
theorem Y.fil {S M : Mem} (h : Y S M) {a base n : Int} {f : Int → Int} (ha : ¬ kY a) (h8 : a ≠ 88) : Y S (fil M a base n f) := h.setA ha h8
theorem fry.fil {M M1 : Mem} (h : fry M M1) {a base n : Int} {f : Int → Int} (ha : 88 ≤ a) : fry M (fil M1 a base n f) := h.setA ha
/-! 7 mean -/
def sumI (f : Int → Int) : Nat → Int
  | 0 => 0
  | n + 1 => sumI f n + f n
theorem sumI_b {f : Int → Int} {n : Nat} (h : ∀ i, 0 ≤ i → i < (n : Int) → inr (f i)) : ∀ k : Nat, k ≤ n → -2147483648 * (k : Int) ≤ sumI f k ∧ sumI f k ≤ 2147483647 * (k : Int) := by
  intro k
  induction k with
  | zero => intro _; exact ⟨Int.le_refl 0, Int.le_refl 0⟩
  | succ k ih =>
    intro hk
    have h1 := ih (by omega)
    have h2 := h k (by omega) (by omega)
    unfold sumI
    constructor <;> omega
theorem op_mean {S : Mem} (hW : WF S) {r : Int} (hr : inr r) : OpOK S yX11_mean yX12_mean [Iv r] Iv := by
  by_cases c1 : r < 0 ∨ 6 ≤ r
  · refine ⟨-1, S, hW, fun M hX => eX11_mean ?_, fun M hY => eX12_mean ?_⟩
    · repeat' first
        | omega
        | exact px_rf hX _
        | exact px_fnd hX _ (by decide) (by decide)
        | refine c_noRow ?_ (fun q => ?_) (fun q => ?_)
        | refine c_noText ?_ (fun q => ?_) (fun q => ?_)
        | refine c_noWord ?_ (fun q => ?_) (fun q => ?_)
        | refine c_noLength ?_ (fun q => ?_) (fun q => ?_)
        | refine c_found (by decide) ?_
        | refine c_refuseRow hW hX ?_ (fun q => ?_) (fun q => ?_) (fun q => ?_)
        | refine c_refusePlace hW hX ?_ ?_ (fun q => ?_) (fun q => ?_) (fun q => ?_) (fun q => ?_)
        | refine c_refuseText hW hX ?_ (fun q => ?_) (fun q => ?_) (fun q => ?_)
        | refine c_refuseWords hW hX ?_ ?_ (fun q => ?_) (fun q => ?_) (fun q => ?_)
        | refine c_refuseWord hW hX ?_ (fun q => ?_) (fun q => ?_) (fun q => ?_)
        | refine c_has hL ?_ ?_ (fun q => ?_) (fun q => ?_)
        | refine c_isMissing hL ?_ (fun q => ?_) (fun q => ?_)
        | refine c_reaches hL ?_ ?_ (fun q => ?_) (fun q => ?_)
        | refine c_has hL2 ?_ ?_ (fun q => ?_) (fun q => ?_)
        | refine c_isMissing hL2 ?_ (fun q => ?_) (fun q => ?_)
        | refine c_reaches hL2 ?_ ?_ (fun q => ?_) (fun q => ?_)
        | refine c_is hWd ?_ ?_ (fun q => ?_) (fun q => ?_)
        | refine c_markOf hWd ?_ (fun q => ?_) (fun q => ?_)
        | with_reducible refine ⟨?_, ?_⟩
        | with_reducible intro q
    · repeat' first
        | omega
        | exact py_rf hY _
        | exact py_fnd hY _ (by decide) (by decide)
        | refine m_isRow ?_ (fun q => ?_) (fun q => ?_)
        | refine m_isText ?_ (fun q => ?_) (fun q => ?_)
        | refine m_isWord ?_ (fun q => ?_) (fun q => ?_)
        | refine m_in ?_ ?_ ?_ (fun q => ?_) (fun q => ?_)
        | refine m_meets (by decide) ?_
        | refine m_needWord hW hY ?_ ?_ (fun q => ?_) (fun q => ?_) (fun q => ?_)
        | refine m_needTwo hW hY ?_ ?_ ?_ (fun q => ?_) (fun q => ?_) (fun q => ?_)
        | refine m_isThere ?_ ?_ ?_ (fun q => ?_) (fun q => ?_)
        | refine m_at0 ?_ ?_ ?_
        | refine m_rowAt ?_ ?_ ?_
        | refine m_markOf ?_ ?_ ?_ (fun q => ?_) (fun q => ?_) (fun q => ?_)
        | with_reducible refine ⟨?_, ?_⟩
        | with_reducible intro q
  have r0 : 0 ≤ r := by omega
  have r6 : r < 6 := by omega
  have w := hW.1 r r0 r6
  by_cases c2 : S (10 + r) (-1) < 0
  · refine ⟨-3, fS S 1, hW.fnd 1, fun M hX => eX11_mean ?_, fun M hY => eX12_mean ?_⟩
    · repeat' first
        | omega
        | exact px_rf hX _
        | exact px_fnd hX _ (by decide) (by decide)
        | refine c_noRow ?_ (fun q => ?_) (fun q => ?_)
        | refine c_noText ?_ (fun q => ?_) (fun q => ?_)
        | refine c_noWord ?_ (fun q => ?_) (fun q => ?_)
        | refine c_noLength ?_ (fun q => ?_) (fun q => ?_)
        | refine c_found (by decide) ?_
        | refine c_refuseRow hW hX ?_ (fun q => ?_) (fun q => ?_) (fun q => ?_)
        | refine c_refusePlace hW hX ?_ ?_ (fun q => ?_) (fun q => ?_) (fun q => ?_) (fun q => ?_)
        | refine c_refuseText hW hX ?_ (fun q => ?_) (fun q => ?_) (fun q => ?_)
        | refine c_refuseWords hW hX ?_ ?_ (fun q => ?_) (fun q => ?_) (fun q => ?_)
        | refine c_refuseWord hW hX ?_ (fun q => ?_) (fun q => ?_) (fun q => ?_)
        | refine c_has hL ?_ ?_ (fun q => ?_) (fun q => ?_)
        | refine c_isMissing hL ?_ (fun q => ?_) (fun q => ?_)
        | refine c_reaches hL ?_ ?_ (fun q => ?_) (fun q => ?_)
        | refine c_has hL2 ?_ ?_ (fun q => ?_) (fun q => ?_)
        | refine c_isMissing hL2 ?_ (fun q => ?_) (fun q => ?_)
        | refine c_reaches hL2 ?_ ?_ (fun q => ?_) (fun q => ?_)
        | refine c_is hWd ?_ ?_ (fun q => ?_) (fun q => ?_)
        | refine c_markOf hWd ?_ (fun q => ?_) (fun q => ?_)
        | with_reducible refine ⟨?_, ?_⟩
        | with_reducible intro q
    · have e := (hY.1 r r0 r6).1
      repeat' first
        | omega
        | exact py_rf hY _
        | exact py_fnd hY _ (by decide) (by decide)
        | refine m_isRow ?_ (fun q => ?_) (fun q => ?_)
        | refine m_isText ?_ (fun q => ?_) (fun q => ?_)
        | refine m_isWord ?_ (fun q => ?_) (fun q => ?_)
        | refine m_in ?_ ?_ ?_ (fun q => ?_) (fun q => ?_)
        | refine m_meets (by decide) ?_
        | refine m_needWord hW hY ?_ ?_ (fun q => ?_) (fun q => ?_) (fun q => ?_)
        | refine m_needTwo hW hY ?_ ?_ ?_ (fun q => ?_) (fun q => ?_) (fun q => ?_)
        | refine m_isThere ?_ ?_ ?_ (fun q => ?_) (fun q => ?_)
        | refine m_at0 ?_ ?_ ?_
        | refine m_rowAt ?_ ?_ ?_
        | refine m_markOf ?_ ?_ ?_ (fun q => ?_) (fun q => ?_) (fun q => ?_)
        | with_reducible refine ⟨?_, ?_⟩
        | with_reducible intro q
  by_cases c3 : S (10 + r) (-1) = 0
  · refine ⟨-3, fS S 4, hW.fnd 4, fun M hX => eX11_mean ?_, fun M hY => eX12_mean ?_⟩
    · have e := (hX.1 r r0 r6).1
      repeat' first
        | omega
        | exact px_rf hX _
        | exact px_fnd hX _ (by decide) (by decide)
        | refine c_noRow ?_ (fun q => ?_) (fun q => ?_)
        | refine c_noText ?_ (fun q => ?_) (fun q => ?_)
        | refine c_noWord ?_ (fun q => ?_) (fun q => ?_)
        | refine c_noLength ?_ (fun q => ?_) (fun q => ?_)
        | refine c_found (by decide) ?_
        | refine c_refuseRow hW hX ?_ (fun q => ?_) (fun q => ?_) (fun q => ?_)
        | refine c_refusePlace hW hX ?_ ?_ (fun q => ?_) (fun q => ?_) (fun q => ?_) (fun q => ?_)
        | refine c_refuseText hW hX ?_ (fun q => ?_) (fun q => ?_) (fun q => ?_)
        | refine c_refuseWords hW hX ?_ ?_ (fun q => ?_) (fun q => ?_) (fun q => ?_)
        | refine c_refuseWord hW hX ?_ (fun q => ?_) (fun q => ?_) (fun q => ?_)
        | refine c_has hL ?_ ?_ (fun q => ?_) (fun q => ?_)
        | refine c_isMissing hL ?_ (fun q => ?_) (fun q => ?_)
        | refine c_reaches hL ?_ ?_ (fun q => ?_) (fun q => ?_)
        | refine c_has hL2 ?_ ?_ (fun q => ?_) (fun q => ?_)
        | refine c_isMissing hL2 ?_ (fun q => ?_) (fun q => ?_)
        | refine c_reaches hL2 ?_ ?_ (fun q => ?_) (fun q => ?_)
        | refine c_is hWd ?_ ?_ (fun q => ?_) (fun q => ?_)
        | refine c_markOf hWd ?_ (fun q => ?_) (fun q => ?_)
        | with_reducible refine ⟨?_, ?_⟩
        | with_reducible intro q
    · have e := (hY.1 r r0 r6).1
      repeat' first
        | omega
        | exact py_rf hY _
        | exact py_fnd hY _ (by decide) (by decide)
        | refine m_isRow ?_ (fun q => ?_) (fun q => ?_)
        | refine m_isText ?_ (fun q => ?_) (fun q => ?_)
        | refine m_isWord ?_ (fun q => ?_) (fun q => ?_)
        | refine m_in ?_ ?_ ?_ (fun q => ?_) (fun q => ?_)
        | refine m_meets (by decide) ?_
        | refine m_needWord hW hY ?_ ?_ (fun q => ?_) (fun q => ?_) (fun q => ?_)
        | refine m_needTwo hW hY ?_ ?_ ?_ (fun q => ?_) (fun q => ?_) (fun q => ?_)
        | refine m_isThere ?_ ?_ ?_ (fun q => ?_) (fun q => ?_)
        | refine m_at0 ?_ ?_ ?_
        | refine m_rowAt ?_ ?_ ?_
        | refine m_markOf ?_ ?_ ?_ (fun q => ?_) (fun q => ?_) (fun q => ?_)
        | with_reducible refine ⟨?_, ?_⟩
        | with_reducible intro q
  obtain ⟨n, hn⟩ := Int.eq_ofNat_of_zero_le (show 0 ≤ S (10 + r) (-1) by omega)
  have hb := sumI_b (f := S (10 + r)) (n := n) (fun i i0 i1 => w.2.2 i i0 (by omega))
  refine ⟨1, up S 0 1 (Int.tdiv (sumI (S (10 + r)) n) (S (10 + r) (-1))), hW.scal 1 _ (by decide), fun M hX => eX11_mean ?_, fun M hY => eX12_mean ?_⟩
  · obtain ⟨e, e2⟩ := hX.1 r r0 r6
    repeat' first
      | omega
      | exact px_rf hX _
      | exact px_fnd hX _ (by decide) (by decide)
      | refine c_noRow ?_ (fun q => ?_) (fun q => ?_)
      | refine c_noText ?_ (fun q => ?_) (fun q => ?_)
      | refine c_noWord ?_ (fun q => ?_) (fun q => ?_)
      | refine c_noLength ?_ (fun q => ?_) (fun q => ?_)
      | refine c_found (by decide) ?_
      | refine c_refuseRow hW hX ?_ (fun q => ?_) (fun q => ?_) (fun q => ?_)
      | refine c_refusePlace hW hX ?_ ?_ (fun q => ?_) (fun q => ?_) (fun q => ?_) (fun q => ?_)
      | refine c_refuseText hW hX ?_ (fun q => ?_) (fun q => ?_) (fun q => ?_)
      | refine c_refuseWords hW hX ?_ ?_ (fun q => ?_) (fun q => ?_) (fun q => ?_)
      | refine c_refuseWord hW hX ?_ (fun q => ?_) (fun q => ?_) (fun q => ?_)
      | refine c_has hL ?_ ?_ (fun q => ?_) (fun q => ?_)
      | refine c_isMissing hL ?_ (fun q => ?_) (fun q => ?_)
      | refine c_reaches hL ?_ ?_ (fun q => ?_) (fun q => ?_)
      | refine c_has hL2 ?_ ?_ (fun q => ?_) (fun q => ?_)
      | refine c_isMissing hL2 ?_ (fun q => ?_) (fun q => ?_)
      | refine c_reaches hL2 ?_ ?_ (fun q => ?_) (fun q => ?_)
      | refine c_is hWd ?_ ?_ (fun q => ?_) (fun q => ?_)
      | refine c_markOf hWd ?_ (fun q => ?_) (fun q => ?_)
      | with_reducible refine ⟨?_, ?_⟩
      | with_reducible intro q
    have key : ∀ (m k : Nat), k ≤ n → n - k = m → wp 0 yX11_mean 38 [some (Rv 1), some (Iv r), some (Iv 0), some (Rv (35 + 2 * r)), some (Jv (sumI (S (10 + r)) k)), none, some (Iv k)] [] M (PX (up S 0 1 (Int.tdiv (sumI (S (10 + r)) n) (S (10 + r) (-1)))) (Iv 1) M) := by
      intro m
      induction m with
      | zero =>
        intro k k1 km
        have ek : k = n := by omega
        subst ek
        have := hb k (Nat.le_refl _)
        refine gX11_mean_38 (isL_row r0 r6) ⟨⟨by omega, by omega⟩, by rw [e]; omega, fun q => ⟨⟨by omega, by omega⟩, by rw [e]; omega, by rw [e]; omega, ?_⟩, fun q => absurd q (by omega)⟩
        rw [e]
        exact ⟨rfl, hX.scal 1 _ (by decide) (by decide), (frx.rf M).up (by omega)⟩
      | succ m ih =>
        intro k k1 km
        have ev := e2 k (by omega) (by omega)
        refine gX11_mean_38 (isL_row r0 r6) ⟨⟨by omega, by omega⟩, by rw [e]; omega, fun q => absurd q (by omega), fun q => ⟨by omega, by omega, by rw [ev]; exact w.2.2 k (by omega) (by omega), ?_⟩⟩
        rw [ev]
        exact ih (k + 1) (by omega) (by omega)
    exact key n 0 (Nat.zero_le _) (by omega)
  · obtain ⟨e, e2⟩ := hY.1 r r0 r6
    repeat' first
      | omega
      | exact py_rf hY _
      | exact py_fnd hY _ (by decide) (by decide)
      | refine m_isRow ?_ (fun q => ?_) (fun q => ?_)
      | refine m_isText ?_ (fun q => ?_) (fun q => ?_)
      | refine m_isWord ?_ (fun q => ?_) (fun q => ?_)
      | refine m_in ?_ ?_ ?_ (fun q => ?_) (fun q => ?_)
      | refine m_meets (by decide) ?_
      | refine m_needWord hW hY ?_ ?_ (fun q => ?_) (fun q => ?_) (fun q => ?_)
      | refine m_needTwo hW hY ?_ ?_ ?_ (fun q => ?_) (fun q => ?_) (fun q => ?_)
      | refine m_isThere ?_ ?_ ?_ (fun q => ?_) (fun q => ?_)
      | refine m_at0 ?_ ?_ ?_
      | refine m_rowAt ?_ ?_ ?_
      | refine m_markOf ?_ ?_ ?_ (fun q => ?_) (fun q => ?_) (fun q => ?_)
      | with_reducible refine ⟨?_, ?_⟩
      | with_reducible intro q
    have key : ∀ (m k : Nat), k ≤ n → n - k = m → wp 0 yX12_mean 44 [some (Rv 88), some (Iv r), some (Jv (sumI (S (10 + r)) k)), none, some (Iv k)] [] M (PY (up S 0 1 (Int.tdiv (sumI (S (10 + r)) n) (S (10 + r) (-1)))) (Iv 1) M) := by
      intro m
      induction m with
      | zero =>
        intro k k1 km
        have ek : k = n := by omega
        subst ek
        have := hb k (Nat.le_refl _)
        refine gX12_mean_44 ⟨r0, r6, ⟨by omega, by omega⟩, by rw [e]; omega, fun q => ⟨⟨by omega, by omega⟩, by rw [e]; omega, by rw [e]; omega, m_tells ?_⟩, fun q => absurd q (by omega)⟩
        rw [e]
        exact ⟨rfl, hY.scal 1 2 _ (by decide), (fry.rf M).up (by decide)⟩
      | succ m ih =>
        intro k k1 km
        have ev := e2 k (by omega) (by omega)
        refine gX12_mean_44 ⟨r0, r6, ⟨by omega, by omega⟩, by rw [e]; omega, fun q => absurd q (by omega), fun q => m_rowAt (by omega) (by omega) ⟨by rw [ev]; exact w.2.2 k (by omega) (by omega), ?_⟩⟩
        rw [ev]
        exact ih (k + 1) (by omega) (by omega)
    exact key n 0 (Nat.zero_le _) (by omega)
/-! 10 letters -/
theorem WF.lett {S : Mem} (h : WF S) {k : Int} (h1 : 1 ≤ k) (h6 : k ≤ 6) (hl : ∀ w, 0 ≤ w → w < 8 → ∀ i, 0 ≤ i → i < S (30 + w) (-1) → S (30 + w) i < k) : WF (up S 0 0 k) := by
  obtain ⟨g1, g2, g3, g4, g5⟩ := h
  have e0 : up S 0 0 k 0 0 = k := rfl
  refine ⟨fun r q1 q2 => ?_, fun r q1 q2 => ?_, fun r q1 q2 => ?_, by rw [e0]; exact h1, by rw [e0]; exact h6⟩
  · rw [up_ne (by omega)]; exact g1 r q1 q2
  · rw [up_ne (by omega)]; exact g2 r q1 q2
  · rw [up_ne (by omega), e0]
    obtain ⟨a1, a2, a3, a4⟩ := g3 r q1 q2
    exact ⟨a1, a2, a3, fun i i0 i1 => ⟨(a4 i i0 i1).1, hl r q1 q2 i i0 i1⟩⟩
theorem op_letters {S : Mem} (hW : WF S) {k : Int} (hk : inr k) : OpOK S yX11_letters yX12_letters [Iv k] Iv := by
  by_cases c1 : k < 1 ∨ 6 < k
  · refine ⟨-1, S, hW, fun M hX => eX11_letters ?_, fun M hY => eX12_letters ?_⟩
    · repeat' first
        | omega
        | exact px_rf hX _
        | exact px_fnd hX _ (by decide) (by decide)
        | refine c_noRow ?_ (fun q => ?_) (fun q => ?_)
        | refine c_noText ?_ (fun q => ?_) (fun q => ?_)
        | refine c_noWord ?_ (fun q => ?_) (fun q => ?_)
        | refine c_noLength ?_ (fun q => ?_) (fun q => ?_)
        | refine c_found (by decide) ?_
        | refine c_refuseRow hW hX ?_ (fun q => ?_) (fun q => ?_) (fun q => ?_)
        | refine c_refusePlace hW hX ?_ ?_ (fun q => ?_) (fun q => ?_) (fun q => ?_) (fun q => ?_)
        | refine c_refuseText hW hX ?_ (fun q => ?_) (fun q => ?_) (fun q => ?_)
        | refine c_refuseWords hW hX ?_ ?_ (fun q => ?_) (fun q => ?_) (fun q => ?_)
        | refine c_refuseWord hW hX ?_ (fun q => ?_) (fun q => ?_) (fun q => ?_)
        | refine c_has hL ?_ ?_ (fun q => ?_) (fun q => ?_)
        | refine c_isMissing hL ?_ (fun q => ?_) (fun q => ?_)
        | refine c_reaches hL ?_ ?_ (fun q => ?_) (fun q => ?_)
        | refine c_has hL2 ?_ ?_ (fun q => ?_) (fun q => ?_)
        | refine c_isMissing hL2 ?_ (fun q => ?_) (fun q => ?_)
        | refine c_reaches hL2 ?_ ?_ (fun q => ?_) (fun q => ?_)
        | refine c_is hWd ?_ ?_ (fun q => ?_) (fun q => ?_)
        | refine c_markOf hWd ?_ (fun q => ?_) (fun q => ?_)
        | with_reducible refine ⟨?_, ?_⟩
        | with_reducible intro q
    · repeat' first
        | omega
        | exact py_rf hY _
        | exact py_fnd hY _ (by decide) (by decide)
        | refine m_isRow ?_ (fun q => ?_) (fun q => ?_)
        | refine m_isText ?_ (fun q => ?_) (fun q => ?_)
        | refine m_isWord ?_ (fun q => ?_) (fun q => ?_)
        | refine m_in ?_ ?_ ?_ (fun q => ?_) (fun q => ?_)
        | refine m_meets (by decide) ?_
        | refine m_needWord hW hY ?_ ?_ (fun q => ?_) (fun q => ?_) (fun q => ?_)
        | refine m_needTwo hW hY ?_ ?_ ?_ (fun q => ?_) (fun q => ?_) (fun q => ?_)
        | refine m_isThere ?_ ?_ ?_ (fun q => ?_) (fun q => ?_)
        | refine m_at0 ?_ ?_ ?_
        | refine m_rowAt ?_ ?_ ?_
        | refine m_markOf ?_ ?_ ?_ (fun q => ?_) (fun q => ?_) (fun q => ?_)
        | with_reducible refine ⟨?_, ?_⟩
        | with_reducible intro q
  have xw : ∀ M, X S M → ∀ x, 0 ≤ x → x < 8 → isL (55 + 3 * x + 1) 40 ∧ M (55 + 3 * x + 1) 1 = S (30 + x) (-1) ∧ (-1 ≤ S (30 + x) (-1) ∧ S (30 + x) (-1) ≤ 40) ∧ ∀ i, 0 ≤ i → i < S (30 + x) (-1) → M (55 + 3 * x + 1 + 1) i = S (30 + x) i ∧ 0 ≤ S (30 + x) i ∧ S (30 + x) i < 6 := by
    intro M hX x x0 x1
    obtain ⟨-, e, e2⟩ := hX.2.2.1 x x0 x1
    obtain ⟨-, w1, w2, w3⟩ := hW.2.2.1 x x0 x1
    have := hW.2.2.2.2
    exact ⟨(isW_word x0 x1).l, e, ⟨w1, w2⟩, fun i i0 i1 => ⟨e2 i i0 i1, (w3 i i0 i1).1, by have := (w3 i i0 i1).2; omega⟩⟩
  by_cases c2 : ∀ w, 0 ≤ w → w < 8 → ∀ i, 0 ≤ i → i < S (30 + w) (-1) → S (30 + w) i < k
  · refine ⟨S 0 0, up S 0 0 k, hW.lett (by omega) (by omega) c2, fun M hX => eX11_letters ?_, fun M hY => eX12_letters ?_⟩
    · repeat' first
        | omega
        | exact px_rf hX _
        | exact px_fnd hX _ (by decide) (by decide)
        | refine c_noRow ?_ (fun q => ?_) (fun q => ?_)
        | refine c_noText ?_ (fun q => ?_) (fun q => ?_)
        | refine c_noWord ?_ (fun q => ?_) (fun q => ?_)
        | refine c_noLength ?_ (fun q => ?_) (fun q => ?_)
        | refine c_found (by decide) ?_
        | refine c_refuseRow hW hX ?_ (fun q => ?_) (fun q => ?_) (fun q => ?_)
        | refine c_refusePlace hW hX ?_ ?_ (fun q => ?_) (fun q => ?_) (fun q => ?_) (fun q => ?_)
        | refine c_refuseText hW hX ?_ (fun q => ?_) (fun q => ?_) (fun q => ?_)
        | refine c_refuseWords hW hX ?_ ?_ (fun q => ?_) (fun q => ?_) (fun q => ?_)
        | refine c_refuseWord hW hX ?_ (fun q => ?_) (fun q => ?_) (fun q => ?_)
        | refine c_has hL ?_ ?_ (fun q => ?_) (fun q => ?_)
        | refine c_isMissing hL ?_ (fun q => ?_) (fun q => ?_)
        | refine c_reaches hL ?_ ?_ (fun q => ?_) (fun q => ?_)
        | refine c_has hL2 ?_ ?_ (fun q => ?_) (fun q => ?_)
        | refine c_isMissing hL2 ?_ (fun q => ?_) (fun q => ?_)
        | refine c_reaches hL2 ?_ ?_ (fun q => ?_) (fun q => ?_)
        | refine c_is hWd ?_ ?_ (fun q => ?_) (fun q => ?_)
        | refine c_markOf hWd ?_ (fun q => ?_) (fun q => ?_)
        | with_reducible refine ⟨?_, ?_⟩
        | with_reducible intro q
      have key : ∀ (m : Nat) (x : Int), 0 ≤ x → x ≤ 8 → (8 - x).toNat = m → wp 0 yX11_letters 15 [some (Rv 1), some (Iv k), some (Iv x)] [] M (PX (up S 0 0 k) (Iv (S 0 0)) M) := by
        intro m
        induction m with
        | zero =>
          intro x x0 x1 xm
          refine gX11_letters_15 ⟨⟨by omega, by omega⟩, fun _ => ?_, fun q => absurd q (by omega)⟩
          rw [hX.2.2.2.1.1]
          exact ⟨rfl, hX.scal 0 k (by decide) (by decide), (frx.rf M).up (by omega)⟩
        | succ m ih =>
          intro x x0 x1 xm
          obtain ⟨hL, e, w, e2⟩ := xw M hX x x0 (by omega)
          refine gX11_letters_15 ⟨⟨by omega, by omega⟩, fun q => absurd q (by omega), fun _ => ⟨x0, c_isBelow hL hk (by omega) (by omega) (by decide) (fun i i0 i1 => ?_) (fun i i0 i1 q2 => ?_) (fun q2 => ⟨fun _ => ih (x + 1) (by omega) (by omega) (by omega), fun q3 => absurd q3 (by decide)⟩)⟩⟩
          · have := e2 i i0 (by omega); rw [this.1]; omega
          · have h1 := e2 i i0 (by omega); have h2 := c2 x x0 (by omega) i i0 (by omega); rw [h1.1] at q2; omega
      exact key _ 0 (by decide) (by decide) rfl
    · repeat' first
        | omega
        | exact py_rf hY _
        | exact py_fnd hY _ (by decide) (by decide)
        | refine m_isRow ?_ (fun q => ?_) (fun q => ?_)
        | refine m_isText ?_ (fun q => ?_) (fun q => ?_)
        | refine m_isWord ?_ (fun q => ?_) (fun q => ?_)
        | refine m_in ?_ ?_ ?_ (fun q => ?_) (fun q => ?_)
        | refine m_meets (by decide) ?_
        | refine m_needWord hW hY ?_ ?_ (fun q => ?_) (fun q => ?_) (fun q => ?_)
        | refine m_needTwo hW hY ?_ ?_ ?_ (fun q => ?_) (fun q => ?_) (fun q => ?_)
        | refine m_isThere ?_ ?_ ?_ (fun q => ?_) (fun q => ?_)
        | refine m_at0 ?_ ?_ ?_
        | refine m_rowAt ?_ ?_ ?_
        | refine m_markOf ?_ ?_ ?_ (fun q => ?_) (fun q => ?_) (fun q => ?_)
        | with_reducible refine ⟨?_, ?_⟩
        | with_reducible intro q
      have key2 : ∀ (m : Nat) (x z : Int), 0 ≤ x → x ≤ 8 → 0 ≤ z → z ≤ 41 → ((8 - x) * 50 - z).toNat = m → (x < 8 → wp 0 yX12_letters 22 [some (Rv 88), some (Iv k), some (Iv x), some (Iv z)] [] M (PY (up S 0 0 k) (Iv (S 0 0)) M)) ∧ (z = 0 → wp 0 yX12_letters 14 [some (Rv 88), some (Iv k), some (Iv x), none] [] M (PY (up S 0 0 k) (Iv (S 0 0)) M)) := by
        intro m
        induction m using Nat.strongRecOn with
        | _ m ih =>
          intro x z x0 x1 z0 z1 hm
          have h22 : x < 8 → wp 0 yX12_letters 22 [some (Rv 88), some (Iv k), some (Iv x), some (Iv z)] [] M (PY (up S 0 0 k) (Iv (S 0 0)) M) := by
            intro x2
            obtain ⟨-, e, e2⟩ := hY.2.2.1 x x0 x2
            obtain ⟨-, w1, w2, w3⟩ := hW.2.2.1 x x0 x2
            have w6 := hW.2.2.2.2
            refine gX12_letters_22 ⟨x0, x2, ⟨by omega, by omega⟩, by rw [e]; omega, fun q => ?_, fun q => m_at0 (by omega) (by omega) ?_⟩
            · exact (ih _ (by omega) (x + 1) 0 (by omega) (by omega) (by decide) (by decide) rfl).2 rfl
            · have ev := e2 z z0 (by omega)
              have hv := w3 z z0 (by omega)
              have hc := c2 x x0 x2 z z0 (by omega)
              refine ⟨by rw [ev]; omega, hk, fun q2 => ?_, fun q2 => absurd q2 (by rw [ev]; omega)⟩
              exact (ih _ (by omega) x (z + 1) x0 x1 (by omega) (by omega) rfl).1 x2
          refine ⟨h22, fun hz => ?_⟩
          refine gX12_letters_14 ⟨⟨by omega, by omega⟩, fun q => ?_, fun q => ?_⟩
          · rw [hY.2.2.2.1.1]
            exact ⟨rfl, hY.scal 0 11 k (by decide), (fry.rf M).up (by decide)⟩
          · subst hz
            exact h22 q
      exact (key2 _ 0 0 (by decide) (by decide) (by decide) (by decide) rfl).2 rfl
  · have hex : ∃ w, 0 ≤ w ∧ w < 8 ∧ ∃ i, 0 ≤ i ∧ i < S (30 + w) (-1) ∧ k ≤ S (30 + w) i := by
      refine Classical.byContradiction fun hno => c2 fun w w0 w1 i i0 i1 => ?_
      rcases (show S (30 + w) i < k ∨ k ≤ S (30 + w) i by omega) with h | h
      · exact h
      · exact absurd ⟨w, w0, w1, i, i0, i1, h⟩ hno
    obtain ⟨a, a0, a1, j, j0, j1, hj⟩ := hex
    refine ⟨-4, S, hW, fun M hX => eX11_letters ?_, fun M hY => eX12_letters ?_⟩
    · repeat' first
        | omega
        | exact px_rf hX _
        | exact px_fnd hX _ (by decide) (by decide)
        | refine c_noRow ?_ (fun q => ?_) (fun q => ?_)
        | refine c_noText ?_ (fun q => ?_) (fun q => ?_)
        | refine c_noWord ?_ (fun q => ?_) (fun q => ?_)
        | refine c_noLength ?_ (fun q => ?_) (fun q => ?_)
        | refine c_found (by decide) ?_
        | refine c_refuseRow hW hX ?_ (fun q => ?_) (fun q => ?_) (fun q => ?_)
        | refine c_refusePlace hW hX ?_ ?_ (fun q => ?_) (fun q => ?_) (fun q => ?_) (fun q => ?_)
        | refine c_refuseText hW hX ?_ (fun q => ?_) (fun q => ?_) (fun q => ?_)
        | refine c_refuseWords hW hX ?_ ?_ (fun q => ?_) (fun q => ?_) (fun q => ?_)
        | refine c_refuseWord hW hX ?_ (fun q => ?_) (fun q => ?_) (fun q => ?_)
        | refine c_has hL ?_ ?_ (fun q => ?_) (fun q => ?_)
        | refine c_isMissing hL ?_ (fun q => ?_) (fun q => ?_)
        | refine c_reaches hL ?_ ?_ (fun q => ?_) (fun q => ?_)
        | refine c_has hL2 ?_ ?_ (fun q => ?_) (fun q => ?_)
        | refine c_isMissing hL2 ?_ (fun q => ?_) (fun q => ?_)
        | refine c_reaches hL2 ?_ ?_ (fun q => ?_) (fun q => ?_)
        | refine c_is hWd ?_ ?_ (fun q => ?_) (fun q => ?_)
        | refine c_markOf hWd ?_ (fun q => ?_) (fun q => ?_)
        | with_reducible refine ⟨?_, ?_⟩
        | with_reducible intro q
      have key : ∀ (m : Nat) (x : Int), 0 ≤ x → x ≤ a → (8 - x).toNat = m → wp 0 yX11_letters 15 [some (Rv 1), some (Iv k), some (Iv x)] [] M (PX S (Iv (-4)) M) := by
        intro m
        induction m with
        | zero => intro x x0 x1 xm; omega
        | succ m ih =>
          intro x x0 x1 xm
          obtain ⟨hL, e, w, e2⟩ := xw M hX x x0 (by omega)
          refine gX11_letters_15 ⟨⟨by omega, by omega⟩, fun q => absurd q (by omega), fun _ => ⟨x0, c_isBelow hL hk (by omega) (by omega) (by decide) (fun i i0 i1 => ?_) (fun i i0 i1 q2 => ⟨fun q3 => absurd rfl q3, fun _ => px_rf hX _⟩) (fun q2 => ⟨fun _ => ?_, fun q3 => absurd q3 (by decide)⟩)⟩⟩
          · have := e2 i i0 (by omega); rw [this.1]; omega
          · by_cases hxa : x = a
            · subst hxa
              have h1 := e2 j j0 j1
              have h2 := q2 j j0 (by omega)
              rw [h1.1] at h2
              omega
            · exact ih (x + 1) (by omega) (by omega) (by omega)
      exact key _ 0 (by decide) a0 rfl
    · repeat' first
        | omega
        | exact py_rf hY _
        | exact py_fnd hY _ (by decide) (by decide)
        | refine m_isRow ?_ (fun q => ?_) (fun q => ?_)
        | refine m_isText ?_ (fun q => ?_) (fun q => ?_)
        | refine m_isWord ?_ (fun q => ?_) (fun q => ?_)
        | refine m_in ?_ ?_ ?_ (fun q => ?_) (fun q => ?_)
        | refine m_meets (by decide) ?_
        | refine m_needWord hW hY ?_ ?_ (fun q => ?_) (fun q => ?_) (fun q => ?_)
        | refine m_needTwo hW hY ?_ ?_ ?_ (fun q => ?_) (fun q => ?_) (fun q => ?_)
        | refine m_isThere ?_ ?_ ?_ (fun q => ?_) (fun q => ?_)
        | refine m_at0 ?_ ?_ ?_
        | refine m_rowAt ?_ ?_ ?_
        | refine m_markOf ?_ ?_ ?_ (fun q => ?_) (fun q => ?_) (fun q => ?_)
        | with_reducible refine ⟨?_, ?_⟩
        | with_reducible intro q
      have key2 : ∀ (m : Nat) (x z : Int), 0 ≤ x → x ≤ a → 0 ≤ z → z ≤ 41 → (x = a → z ≤ j) → ((8 - x) * 50 - z).toNat = m → wp 0 yX12_letters 22 [some (Rv 88), some (Iv k), some (Iv x), some (Iv z)] [] M (PY S (Iv (-4)) M) ∧ (z = 0 → wp 0 yX12_letters 14 [some (Rv 88), some (Iv k), some (Iv x), none] [] M (PY S (Iv (-4)) M)) := by
        intro m
        induction m using Nat.strongRecOn with
        | _ m ih =>
          intro x z x0 x1 z0 z1 hxj hm
          have x2 : x < 8 := by omega
          have h22 : wp 0 yX12_letters 22 [some (Rv 88), some (Iv k), some (Iv x), some (Iv z)] [] M (PY S (Iv (-4)) M) := by
            obtain ⟨-, e, e2⟩ := hY.2.2.1 x x0 x2
            obtain ⟨-, w1, w2, w3⟩ := hW.2.2.1 x x0 x2
            have w6 := hW.2.2.2.2
            refine gX12_letters_22 ⟨x0, x2, ⟨by omega, by omega⟩, by rw [e]; omega, fun q => ?_, fun q => m_at0 (by omega) (by omega) ?_⟩
            · have hne : x ≠ a := by
                intro h
                have := hxj h
                subst h
                omega
              exact (ih _ (by omega) (x + 1) 0 (by omega) (by omega) (by decide) (by decide) (fun _ => by omega) rfl).2 rfl
            · have ev := e2 z z0 (by omega)
              have hv := w3 z z0 (by omega)
              refine ⟨by rw [ev]; omega, hk, fun q2 => ?_, fun q2 => py_rf hY _⟩
              rw [ev] at q2
              have hxj2 : x = a → z + 1 ≤ j := by
                intro h
                have h3 := hxj h
                rcases (show z < j ∨ z = j by omega) with h4 | h4
                · omega
                · subst h4; subst h; omega
              exact (ih _ (by omega) x (z + 1) x0 x1 (by omega) (by omega) hxj2 rfl).1
          refine ⟨h22, fun hz => ?_⟩
          refine gX12_letters_14 ⟨⟨by omega, by omega⟩, fun q => absurd q (by omega), fun q => ?_⟩
          subst hz
          exact h22
      exact (key2 _ 0 0 (by decide) a0 (by decide) (by decide) (fun _ => j0) rfl).2 rfl
