/-! 6 copy -/
theorem op_copy {S : Mem} (hW : WF S) {r i t j n : Int} (hr : inr r) (hi : inr i) (ht : inr t) (hj : inr j) (hn : inr n) : OpOK S yX11_copy yX12_copy [Iv r, Iv i, Iv t, Iv j, Iv n] Iv := by
  by_cases c1 : (r < 0 ∨ 6 ≤ r) ∨ (t < 0 ∨ 6 ≤ t)
  · refine ⟨-1, S, hW, fun M hX => eX11_copy ?_, fun M hY => eX12_copy ?_⟩
    · repeat' first
        | omega
        | exact px_rf hX _
        | exact px_fnd hX _ (by decide) (by decide)
        | refine c_noRow ?_ (fun q => ?_) (fun q => ?_)
        | refine c_noText ?_ (fun q => ?_) (fun q => ?_)
        | refine c_noWord ?_ (fun q => ?_) (fun q => ?_)
        | refine c_noLength ?_ (fun q => ?_) (fun q => ?_)
        | refine c_found (by decide) ?_
        | refine c_refuseRow hW hX ?_ (fun q => ?_) (fun q => ?_) (fun q => ?_)
        | refine c_refusePlace hW hX ?_ ?_ (fun q => ?_) (fun q => ?_) (fun q => ?_) (fun q => ?_)
        | refine c_refuseText hW hX ?_ (fun q => ?_) (fun q => ?_) (fun q => ?_)
        | refine c_refuseWords hW hX ?_ ?_ (fun q => ?_) (fun q => ?_) (fun q => ?_)
        | refine c_refuseWord hW hX ?_ (fun q => ?_) (fun q => ?_) (fun q => ?_)
        | refine c_has hL ?_ ?_ (fun q => ?_) (fun q => ?_)
        | refine c_isMissing hL ?_ (fun q => ?_) (fun q => ?_)
        | refine c_reaches hL ?_ ?_ (fun q => ?_) (fun q => ?_)
        | refine c_has hL2 ?_ ?_ (fun q => ?_) (fun q => ?_)
        | refine c_isMissing hL2 ?_ (fun q => ?_) (fun q => ?_)
        | refine c_reaches hL2 ?_ ?_ (fun q => ?_) (fun q => ?_)
        | refine c_is hWd ?_ ?_ (fun q => ?_) (fun q => ?_)
        | refine c_markOf hWd ?_ (fun q => ?_) (fun q => ?_)
        | with_reducible refine ⟨?_, ?_⟩
        | with_reducible intro q
    · repeat' first
        | omega
        | exact py_rf hY _
        | exact py_fnd hY _ (by decide) (by decide)
        | refine m_isRow ?_ (fun q => ?_) (fun q => ?_)
        | refine m_isText ?_ (fun q => ?_) (fun q => ?_)
        | refine m_isWord ?_ (fun q => ?_) (fun q => ?_)
        | refine m_in ?_ ?_ ?_ (fun q => ?_) (fun q => ?_)
        | refine m_meets (by decide) ?_
        | refine m_needWord hW hY ?_ ?_ (fun q => ?_) (fun q => ?_) (fun q => ?_)
        | refine m_needTwo hW hY ?_ ?_ ?_ (fun q => ?_) (fun q => ?_) (fun q => ?_)
        | refine m_isThere ?_ ?_ ?_ (fun q => ?_) (fun q => ?_)
        | refine m_at0 ?_ ?_ ?_
        | refine m_rowAt ?_ ?_ ?_
        | refine m_markOf ?_ ?_ ?_ (fun q => ?_) (fun q => ?_) (fun q => ?_)
        | with_reducible refine ⟨?_, ?_⟩
        | with_reducible intro q
  have r0 : 0 ≤ r := by omega
  have r6 : r < 6 := by omega
  have t0 : 0 ≤ t := by omega
  have t6 : t < 6 := by omega
  have w := hW.1 r r0 r6
  have w2 := hW.1 t t0 t6
  have hL := isL_row r0 r6
  have hL2 := isL_row t0 t6
  by_cases c2 : n < 0
  · refine ⟨-3, fS S 5, hW.fnd 5, fun M hX => eX11_copy ?_, fun M hY => eX12_copy ?_⟩
    · repeat' first
        | omega
        | exact px_rf hX _
        | exact px_fnd hX _ (by decide) (by decide)
        | refine c_noRow ?_ (fun q => ?_) (fun q => ?_)
        | refine c_noText ?_ (fun q => ?_) (fun q => ?_)
        | refine c_noWord ?_ (fun q => ?_) (fun q => ?_)
        | refine c_noLength ?_ (fun q => ?_) (fun q => ?_)
        | refine c_found (by decide) ?_
        | refine c_refuseRow hW hX ?_ (fun q => ?_) (fun q => ?_) (fun q => ?_)
        | refine c_refusePlace hW hX ?_ ?_ (fun q => ?_) (fun q => ?_) (fun q => ?_) (fun q => ?_)
        | refine c_refuseText hW hX ?_ (fun q => ?_) (fun q => ?_) (fun q => ?_)
        | refine c_refuseWords hW hX ?_ ?_ (fun q => ?_) (fun q => ?_) (fun q => ?_)
        | refine c_refuseWord hW hX ?_ (fun q => ?_) (fun q => ?_) (fun q => ?_)
        | refine c_has hL ?_ ?_ (fun q => ?_) (fun q => ?_)
        | refine c_isMissing hL ?_ (fun q => ?_) (fun q => ?_)
        | refine c_reaches hL ?_ ?_ (fun q => ?_) (fun q => ?_)
        | refine c_has hL2 ?_ ?_ (fun q => ?_) (fun q => ?_)
        | refine c_isMissing hL2 ?_ (fun q => ?_) (fun q => ?_)
        | refine c_reaches hL2 ?_ ?_ (fun q => ?_) (fun q => ?_)
        | refine c_is hWd ?_ ?_ (fun q => ?_) (fun q => ?_)
        | refine c_markOf hWd ?_ (fun q => ?_) (fun q => ?_)
        | with_reducible refine ⟨?_, ?_⟩
        | with_reducible intro q
    · repeat' first
        | omega
        | exact py_rf hY _
        | exact py_fnd hY _ (by decide) (by decide)
        | refine m_isRow ?_ (fun q => ?_) (fun q => ?_)
        | refine m_isText ?_ (fun q => ?_) (fun q => ?_)
        | refine m_isWord ?_ (fun q => ?_) (fun q => ?_)
        | refine m_in ?_ ?_ ?_ (fun q => ?_) (fun q => ?_)
        | refine m_meets (by decide) ?_
        | refine m_needWord hW hY ?_ ?_ (fun q => ?_) (fun q => ?_) (fun q => ?_)
        | refine m_needTwo hW hY ?_ ?_ ?_ (fun q => ?_) (fun q => ?_) (fun q => ?_)
        | refine m_isThere ?_ ?_ ?_ (fun q => ?_) (fun q => ?_)
        | refine m_at0 ?_ ?_ ?_
        | refine m_rowAt ?_ ?_ ?_
        | refine m_markOf ?_ ?_ ?_ (fun q => ?_) (fun q => ?_) (fun q => ?_)
        | with_reducible refine ⟨?_, ?_⟩
        | with_reducible intro q
  by_cases c3 : S (10 + r) (-1) < 0 ∨ S (10 + t) (-1) < 0
  · refine ⟨-3, fS S 1, hW.fnd 1, fun M hX => eX11_copy ?_, fun M hY => eX12_copy ?_⟩
    · have e := (hX.1 r r0 r6).1
      have e2 := (hX.1 t t0 t6).1
      repeat' first
        | omega
        | exact px_rf hX _
        | exact px_fnd hX _ (by decide) (by decide)
        | refine c_noRow ?_ (fun q => ?_) (fun q => ?_)
        | refine c_noText ?_ (fun q => ?_) (fun q => ?_)
        | refine c_noWord ?_ (fun q => ?_) (fun q => ?_)
        | refine c_noLength ?_ (fun q => ?_) (fun q => ?_)
        | refine c_found (by decide) ?_
        | refine c_refuseRow hW hX ?_ (fun q => ?_) (fun q => ?_) (fun q => ?_)
        | refine c_refusePlace hW hX ?_ ?_ (fun q => ?_) (fun q => ?_) (fun q => ?_) (fun q => ?_)
        | refine c_refuseText hW hX ?_ (fun q => ?_) (fun q => ?_) (fun q => ?_)
        | refine c_refuseWords hW hX ?_ ?_ (fun q => ?_) (fun q => ?_) (fun q => ?_)
        | refine c_refuseWord hW hX ?_ (fun q => ?_) (fun q => ?_) (fun q => ?_)
        | refine c_has hL ?_ ?_ (fun q => ?_) (fun q => ?_)
        | refine c_isMissing hL ?_ (fun q => ?_) (fun q => ?_)
        | refine c_reaches hL ?_ ?_ (fun q => ?_) (fun q => ?_)
        | refine c_has hL2 ?_ ?_ (fun q => ?_) (fun q => ?_)
        | refine c_isMissing hL2 ?_ (fun q => ?_) (fun q => ?_)
        | refine c_reaches hL2 ?_ ?_ (fun q => ?_) (fun q => ?_)
        | refine c_is hWd ?_ ?_ (fun q => ?_) (fun q => ?_)
        | refine c_markOf hWd ?_ (fun q => ?_) (fun q => ?_)
        | with_reducible refine ⟨?_, ?_⟩
        | with_reducible intro q
    · have e := (hY.1 r r0 r6).1
      have e2 := (hY.1 t t0 t6).1
      repeat' first
        | omega
        | exact py_rf hY _
        | exact py_fnd hY _ (by decide) (by decide)
        | refine m_isRow ?_ (fun q => ?_) (fun q => ?_)
        | refine m_isText ?_ (fun q => ?_) (fun q => ?_)
        | refine m_isWord ?_ (fun q => ?_) (fun q => ?_)
        | refine m_in ?_ ?_ ?_ (fun q => ?_) (fun q => ?_)
        | refine m_meets (by decide) ?_
        | refine m_needWord hW hY ?_ ?_ (fun q => ?_) (fun q => ?_) (fun q => ?_)
        | refine m_needTwo hW hY ?_ ?_ ?_ (fun q => ?_) (fun q => ?_) (fun q => ?_)
        | refine m_isThere ?_ ?_ ?_ (fun q => ?_) (fun q => ?_)
        | refine m_at0 ?_ ?_ ?_
        | refine m_rowAt ?_ ?_ ?_
        | refine m_markOf ?_ ?_ ?_ (fun q => ?_) (fun q => ?_) (fun q => ?_)
        | with_reducible refine ⟨?_, ?_⟩
        | with_reducible intro q
  by_cases c4 : i < 0 ∨ j < 0 ∨ S (10 + r) (-1) < i + n ∨ S (10 + t) (-1) < j + n
  · refine ⟨-3, fS S 2, hW.fnd 2, fun M hX => eX11_copy ?_, fun M hY => eX12_copy ?_⟩
    · have e := (hX.1 r r0 r6).1
      have e2 := (hX.1 t t0 t6).1
      repeat' first
        | omega
        | exact px_rf hX _
        | exact px_fnd hX _ (by decide) (by decide)
        | refine c_noRow ?_ (fun q => ?_) (fun q => ?_)
        | refine c_noText ?_ (fun q => ?_) (fun q => ?_)
        | refine c_noWord ?_ (fun q => ?_) (fun q => ?_)
        | refine c_noLength ?_ (fun q => ?_) (fun q => ?_)
        | refine c_found (by decide) ?_
        | refine c_refuseRow hW hX ?_ (fun q => ?_) (fun q => ?_) (fun q => ?_)
        | refine c_refusePlace hW hX ?_ ?_ (fun q => ?_) (fun q => ?_) (fun q => ?_) (fun q => ?_)
        | refine c_refuseText hW hX ?_ (fun q => ?_) (fun q => ?_) (fun q => ?_)
        | refine c_refuseWords hW hX ?_ ?_ (fun q => ?_) (fun q => ?_) (fun q => ?_)
        | refine c_refuseWord hW hX ?_ (fun q => ?_) (fun q => ?_) (fun q => ?_)
        | refine c_has hL ?_ ?_ (fun q => ?_) (fun q => ?_)
        | refine c_isMissing hL ?_ (fun q => ?_) (fun q => ?_)
        | refine c_reaches hL ?_ ?_ (fun q => ?_) (fun q => ?_)
        | refine c_has hL2 ?_ ?_ (fun q => ?_) (fun q => ?_)
        | refine c_isMissing hL2 ?_ (fun q => ?_) (fun q => ?_)
        | refine c_reaches hL2 ?_ ?_ (fun q => ?_) (fun q => ?_)
        | refine c_is hWd ?_ ?_ (fun q => ?_) (fun q => ?_)
        | refine c_markOf hWd ?_ (fun q => ?_) (fun q => ?_)
        | with_reducible refine ⟨?_, ?_⟩
        | with_reducible intro q
    · have e := (hY.1 r r0 r6).1
      have e2 := (hY.1 t t0 t6).1
      repeat' first
        | omega
        | exact py_rf hY _
        | exact py_fnd hY _ (by decide) (by decide)
        | refine m_isRow ?_ (fun q => ?_) (fun q => ?_)
        | refine m_isText ?_ (fun q => ?_) (fun q => ?_)
        | refine m_isWord ?_ (fun q => ?_) (fun q => ?_)
        | refine m_in ?_ ?_ ?_ (fun q => ?_) (fun q => ?_)
        | refine m_meets (by decide) ?_
        | refine m_needWord hW hY ?_ ?_ (fun q => ?_) (fun q => ?_) (fun q => ?_)
        | refine m_needTwo hW hY ?_ ?_ ?_ (fun q => ?_) (fun q => ?_) (fun q => ?_)
        | refine m_isThere ?_ ?_ ?_ (fun q => ?_) (fun q => ?_)
        | refine m_at0 ?_ ?_ ?_
        | refine m_rowAt ?_ ?_ ?_
        | refine m_markOf ?_ ?_ ?_ (fun q => ?_) (fun q => ?_) (fun q => ?_)
        | with_reducible refine ⟨?_, ?_⟩
        | with_reducible intro q
  refine ⟨1, setLn S (10 + t) (S (10 + t) (-1)) (fun k => if j ≤ k ∧ k < j + n then S (10 + r) (i + (k - j)) else S (10 + t) k), ?_, fun M hX => eX11_copy ?_, fun M hY => eX12_copy ?_⟩
  · refine hW.row t0 t6 w2.1 w2.2.1 (fun k k0 k1 => ?_)
    show inr (if j ≤ k ∧ k < j + n then S (10 + r) (i + (k - j)) else S (10 + t) k)
    by_cases h : j ≤ k ∧ k < j + n
    · rw [if_pos h]; exact w.2.2 _ (by omega) (by omega)
    · rw [if_neg h]; exact w2.2.2 k k0 k1
  · obtain ⟨e, e2⟩ := hX.1 r r0 r6
    obtain ⟨e3, e4⟩ := hX.1 t t0 t6
    repeat' first
      | omega
      | exact px_rf hX _
      | exact px_fnd hX _ (by decide) (by decide)
      | refine c_noRow ?_ (fun q => ?_) (fun q => ?_)
      | refine c_noText ?_ (fun q => ?_) (fun q => ?_)
      | refine c_noWord ?_ (fun q => ?_) (fun q => ?_)
      | refine c_noLength ?_ (fun q => ?_) (fun q => ?_)
      | refine c_found (by decide) ?_
      | refine c_refuseRow hW hX ?_ (fun q => ?_) (fun q => ?_) (fun q => ?_)
      | refine c_refusePlace hW hX ?_ ?_ (fun q => ?_) (fun q => ?_) (fun q => ?_) (fun q => ?_)
      | refine c_refuseText hW hX ?_ (fun q => ?_) (fun q => ?_) (fun q => ?_)
      | refine c_refuseWords hW hX ?_ ?_ (fun q => ?_) (fun q => ?_) (fun q => ?_)
      | refine c_refuseWord hW hX ?_ (fun q => ?_) (fun q => ?_) (fun q => ?_)
      | refine c_has hL ?_ ?_ (fun q => ?_) (fun q => ?_)
      | refine c_isMissing hL ?_ (fun q => ?_) (fun q => ?_)
      | refine c_reaches hL ?_ ?_ (fun q => ?_) (fun q => ?_)
      | refine c_has hL2 ?_ ?_ (fun q => ?_) (fun q => ?_)
      | refine c_isMissing hL2 ?_ (fun q => ?_) (fun q => ?_)
      | refine c_reaches hL2 ?_ ?_ (fun q => ?_) (fun q => ?_)
      | refine c_is hWd ?_ ?_ (fun q => ?_) (fun q => ?_)
      | refine c_markOf hWd ?_ (fun q => ?_) (fun q => ?_)
      | with_reducible refine ⟨?_, ?_⟩
      | with_reducible intro q
    refine ⟨rfl, hX.row t0 t6 (fun a ka k1 k2 => setA_ne k2) (by rw [setA_ne (by omega)]; exact e3) (fun k k0 k1 => ?_), (frx.rf M).setA (by omega)⟩
    rw [setA_eq]
    unfold cpyf
    by_cases h : j ≤ k ∧ k < j + n
    · rw [if_pos h, e2 _ (by omega) (by omega)]; exact (if_pos h).symm
    · rw [if_neg h, e4 k k0 k1]; exact (if_neg h).symm
  · obtain ⟨e, e2⟩ := hY.1 r r0 r6
    obtain ⟨e3, e4⟩ := hY.1 t t0 t6
    repeat' first
      | omega
      | exact py_rf hY _
      | exact py_fnd hY _ (by decide) (by decide)
      | refine m_isRow ?_ (fun q => ?_) (fun q => ?_)
      | refine m_isText ?_ (fun q => ?_) (fun q => ?_)
      | refine m_isWord ?_ (fun q => ?_) (fun q => ?_)
      | refine m_in ?_ ?_ ?_ (fun q => ?_) (fun q => ?_)
      | refine m_meets (by decide) ?_
      | refine m_needWord hW hY ?_ ?_ (fun q => ?_) (fun q => ?_) (fun q => ?_)
      | refine m_needTwo hW hY ?_ ?_ ?_ (fun q => ?_) (fun q => ?_) (fun q => ?_)
      | refine m_isThere ?_ ?_ ?_ (fun q => ?_) (fun q => ?_)
      | refine m_at0 ?_ ?_ ?_
      | refine m_rowAt ?_ ?_ ?_
      | refine m_markOf ?_ ?_ ?_ (fun q => ?_) (fun q => ?_) (fun q => ?_)
      | with_reducible refine ⟨?_, ?_⟩
      | with_reducible intro q
    have key2 : ∀ (m : Nat) (x : Int), 0 ≤ x → x ≤ n → (n - x).toNat = m → wp 0 yX12_copy 136 [some (Rv 88), some (Iv r), some (Iv i), some (Iv t), some (Iv j), some (Iv n), some (Iv x)] [] (fil (fil M 92 0 n (fun k => S (10 + r) (i + k))) 91 (40 * t + j) x (fun k => S (10 + r) (i + k))) (PY (setLn S (10 + t) (S (10 + t) (-1)) (fun k => if j ≤ k ∧ k < j + n then S (10 + r) (i + (k - j)) else S (10 + t) k)) (Iv 1) M) := by
      intro m
      induction m with
      | zero =>
        intro x x0 x1 xm
        have ex : x = n := by omega
        subst ex
        refine gX12_copy_136 ⟨⟨by omega, by omega⟩, ⟨by omega, by omega⟩, fun _ => ⟨rfl, ?_, ((fry.rf M).fil (by decide)).fil (by decide)⟩, fun q => absurd q (by omega)⟩
        refine hY.row t0 t6 (fun q q0 q1 => (hW.1 q q0 q1).2.1) w2.2.1 (fun a ka k1 k2 => ?_) (fun k hk => ?_) (fun q q0 q1 => ?_) (fun k k0 k1 k2 => ?_) (fun k k0 k1 => ?_)
        · rw [fil_ne k2, fil_ne (by unfold kY at ka; omega)]
        · rw [fil_ne (by decide), fil_ne (by decide)]
        · rw [fil_ne (by decide), fil_ne (by decide)]
          by_cases h : q = t
          · rw [if_pos h, h]; exact e3
          · rw [if_neg h]
        · rw [fil_out (by omega), fil_ne (by decide)]
        · rw [fil_at]
          by_cases h : j ≤ k ∧ k < j + x
          · rw [if_pos (by omega), show 40 * t + k - (40 * t + j) = k - j by omega]; exact (if_pos h).symm
          · rw [if_neg (by omega), fil_ne (by decide), e4 k k0 k1]; exact (if_neg h).symm
      | succ m ih =>
        intro x x0 x1 xm
        refine gX12_copy_136 ⟨⟨by omega, by omega⟩, ⟨by omega, by omega⟩, fun q => absurd q (by omega), fun q => ⟨x0, by omega, by omega, by omega, ?_⟩⟩
        rw [fil_s x0 rfl (by rw [fil_ne (by decide)]; have := fil_in (M := M) (a := 92) (base := 0) (f := fun k => S (10 + r) (i + k)) x0 q; rw [Int.zero_add] at this; exact this)]
        exact ih (x + 1) (by omega) (by omega) (by omega)
    have key : ∀ (m : Nat) (x : Int), 0 ≤ x → x ≤ n → (n - x).toNat = m → wp 0 yX12_copy 104 [some (Rv 88), some (Iv r), some (Iv i), some (Iv t), some (Iv j), some (Iv n), some (Iv x)] [] (fil M 92 0 x (fun k => S (10 + r) (i + k))) (PY (setLn S (10 + t) (S (10 + t) (-1)) (fun k => if j ≤ k ∧ k < j + n then S (10 + r) (i + (k - j)) else S (10 + t) k)) (Iv 1) M) := by
      intro m
      induction m with
      | zero =>
        intro x x0 x1 xm
        have ex : x = n := by omega
        subst ex
        refine gX12_copy_104 ⟨⟨by omega, by omega⟩, ⟨by omega, by omega⟩, fun _ => ?_, fun q => absurd q (by omega)⟩
        have h2 := key2 _ 0 (by decide) x0 rfl
        rw [fil_0] at h2
        exact h2
      | succ m ih =>
        intro x x0 x1 xm
        refine gX12_copy_104 ⟨⟨by omega, by omega⟩, ⟨by omega, by omega⟩, fun q => absurd q (by omega), fun q => m_rowAt (by omega) (by omega) ⟨x0, by omega, ?_⟩⟩
        rw [fil_ne (b := 91) (by decide), e2 (i + x) (by omega) (by omega), fil_s x0 (by omega) rfl]
        exact ih (x + 1) (by omega) (by omega) (by omega)
    have h2 := key _ 0 (by decide) (by omega) rfl
    rw [fil_0] at h2
    exact h2
/-! 11 word -/
def badL (S : Mem) (r x : Int) : Prop := ∃ i, 0 ≤ i ∧ i < x ∧ ¬ (0 ≤ S (10 + r) i ∧ S (10 + r) i < S 0 0)
theorem op_word {S : Mem} (hW : WF S) {a r : Int} (ha : inr a) (hr : inr r) : OpOK S yX11_word yX12_word [Iv a, Iv r] Iv := by
  by_cases c1 : (a < 0 ∨ 8 ≤ a) ∨ (r < 0 ∨ 6 ≤ r)
  · refine ⟨-1, S, hW, fun M hX => eX11_word ?_, fun M hY => eX12_word ?_⟩
    · repeat' first
        | omega
        | exact px_rf hX _
        | exact px_fnd hX _ (by decide) (by decide)
        | refine c_noRow ?_ (fun q => ?_) (fun q => ?_)
        | refine c_noText ?_ (fun q => ?_) (fun q => ?_)
        | refine c_noWord ?_ (fun q => ?_) (fun q => ?_)
        | refine c_noLength ?_ (fun q => ?_) (fun q => ?_)
        | refine c_found (by decide) ?_
        | refine c_refuseRow hW hX ?_ (fun q => ?_) (fun q => ?_) (fun q => ?_)
        | refine c_refusePlace hW hX ?_ ?_ (fun q => ?_) (fun q => ?_) (fun q => ?_) (fun q => ?_)
        | refine c_refuseText hW hX ?_ (fun q => ?_) (fun q => ?_) (fun q => ?_)
        | refine c_refuseWords hW hX ?_ ?_ (fun q => ?_) (fun q => ?_) (fun q => ?_)
        | refine c_refuseWord hW hX ?_ (fun q => ?_) (fun q => ?_) (fun q => ?_)
        | refine c_has hL ?_ ?_ (fun q => ?_) (fun q => ?_)
        | refine c_isMissing hL ?_ (fun q => ?_) (fun q => ?_)
        | refine c_reaches hL ?_ ?_ (fun q => ?_) (fun q => ?_)
        | refine c_has hL2 ?_ ?_ (fun q => ?_) (fun q => ?_)
        | refine c_isMissing hL2 ?_ (fun q => ?_) (fun q => ?_)
        | refine c_reaches hL2 ?_ ?_ (fun q => ?_) (fun q => ?_)
        | refine c_is hWd ?_ ?_ (fun q => ?_) (fun q => ?_)
        | refine c_markOf hWd ?_ (fun q => ?_) (fun q => ?_)
        | with_reducible refine ⟨?_, ?_⟩
        | with_reducible intro q
    · repeat' first
        | omega
        | exact py_rf hY _
        | exact py_fnd hY _ (by decide) (by decide)
        | refine m_isRow ?_ (fun q => ?_) (fun q => ?_)
        | refine m_isText ?_ (fun q => ?_) (fun q => ?_)
        | refine m_isWord ?_ (fun q => ?_) (fun q => ?_)
        | refine m_in ?_ ?_ ?_ (fun q => ?_) (fun q => ?_)
        | refine m_meets (by decide) ?_
        | refine m_needWord hW hY ?_ ?_ (fun q => ?_) (fun q => ?_) (fun q => ?_)
        | refine m_needTwo hW hY ?_ ?_ ?_ (fun q => ?_) (fun q => ?_) (fun q => ?_)
        | refine m_isThere ?_ ?_ ?_ (fun q => ?_) (fun q => ?_)
        | refine m_at0 ?_ ?_ ?_
        | refine m_rowAt ?_ ?_ ?_
        | refine m_markOf ?_ ?_ ?_ (fun q => ?_) (fun q => ?_) (fun q => ?_)
        | with_reducible refine ⟨?_, ?_⟩
        | with_reducible intro q
  have a0 : 0 ≤ a := by omega
  have a8 : a < 8 := by omega
  have r0 : 0 ≤ r := by omega
  have r6 : r < 6 := by omega
  have w := hW.1 r r0 r6
  have hk1 := hW.2.2.2.1
  have hk6 := hW.2.2.2.2
  have hL := isL_row r0 r6
  by_cases c2 : S (10 + r) (-1) < 0
  · refine ⟨-3, fS S 1, hW.fnd 1, fun M hX => eX11_word ?_, fun M hY => eX12_word ?_⟩
    · have e := (hX.1 r r0 r6).1
      repeat' first
        | omega
        | exact px_rf hX _
        | exact px_fnd hX _ (by decide) (by decide)
        | refine c_noRow ?_ (fun q => ?_) (fun q => ?_)
        | refine c_noText ?_ (fun q => ?_) (fun q => ?_)
        | refine c_noWord ?_ (fun q => ?_) (fun q => ?_)
        | refine c_noLength ?_ (fun q => ?_) (fun q => ?_)
        | refine c_found (by decide) ?_
        | refine c_refuseRow hW hX ?_ (fun q => ?_) (fun q => ?_) (fun q => ?_)
        | refine c_refusePlace hW hX ?_ ?_ (fun q => ?_) (fun q => ?_) (fun q => ?_) (fun q => ?_)
        | refine c_refuseText hW hX ?_ (fun q => ?_) (fun q => ?_) (fun q => ?_)
        | refine c_refuseWords hW hX ?_ ?_ (fun q => ?_) (fun q => ?_) (fun q => ?_)
        | refine c_refuseWord hW hX ?_ (fun q => ?_) (fun q => ?_) (fun q => ?_)
        | refine c_has hL ?_ ?_ (fun q => ?_) (fun q => ?_)
        | refine c_isMissing hL ?_ (fun q => ?_) (fun q => ?_)
        | refine c_reaches hL ?_ ?_ (fun q => ?_) (fun q => ?_)
        | refine c_has hL2 ?_ ?_ (fun q => ?_) (fun q => ?_)
        | refine c_isMissing hL2 ?_ (fun q => ?_) (fun q => ?_)
        | refine c_reaches hL2 ?_ ?_ (fun q => ?_) (fun q => ?_)
        | refine c_is hWd ?_ ?_ (fun q => ?_) (fun q => ?_)
        | refine c_markOf hWd ?_ (fun q => ?_) (fun q => ?_)
        | with_reducible refine ⟨?_, ?_⟩
        | with_reducible intro q
    · have e := (hY.1 r r0 r6).1
      repeat' first
        | omega
        | exact py_rf hY _
        | exact py_fnd hY _ (by decide) (by decide)
        | refine m_isRow ?_ (fun q => ?_) (fun q => ?_)
        | refine m_isText ?_ (fun q => ?_) (fun q => ?_)
        | refine m_isWord ?_ (fun q => ?_) (fun q => ?_)
        | refine m_in ?_ ?_ ?_ (fun q => ?_) (fun q => ?_)
        | refine m_meets (by decide) ?_
        | refine m_needWord hW hY ?_ ?_ (fun q => ?_) (fun q => ?_) (fun q => ?_)
        | refine m_needTwo hW hY ?_ ?_ ?_ (fun q => ?_) (fun q => ?_) (fun q => ?_)
        | refine m_isThere ?_ ?_ ?_ (fun q => ?_) (fun q => ?_)
        | refine m_at0 ?_ ?_ ?_
        | refine m_rowAt ?_ ?_ ?_
        | refine m_markOf ?_ ?_ ?_ (fun q => ?_) (fun q => ?_) (fun q => ?_)
        | with_reducible refine ⟨?_, ?_⟩
        | with_reducible intro q
  have ykey : ∀ (M : Mem), Y S M → ∀ (Q : Vl → Mem → Prop) (g : Int), (g = 0 ∨ g = 1) → (∀ (x : Int), 0 ≤ x → x ≤ S (10 + r) (-1) → (g = 1 → ∀ i, 0 ≤ i → i < x → 0 ≤ S (10 + r) i ∧ S (10 + r) i < S 0 0) → (g = 0 → badL S r x) → (((∀ i, 0 ≤ i → i < S (10 + r) (-1) → 0 ≤ S (10 + r) i ∧ S (10 + r) i < S 0 0) → Q (Iv (S (10 + r) (-1))) (cms (up (fil M 100 0 (S (10 + r) (-1)) (S (10 + r))) 88 17 (S (10 + r) (-1))) a 0 0 0)) ∧ (badL S r (S (10 + r) (-1)) → Q (Iv (-3)) (mts (fil M 100 0 (S (10 + r) (-1)) (S (10 + r))) 3))) → wp 0 yX12_word 36 [some (Rv 88), some (Iv a), some (Iv r), some (Iv g), some (Iv x)] [] (fil M 100 0 x (S (10 + r))) Q) := by
    intro M hY Q g hg x x0 x1
    obtain ⟨e, e2⟩ := hY.1 r r0 r6
    generalize hm : (S (10 + r) (-1) - x).toNat = m
    induction m generalizing x g with
    | zero =>
      intro g1 g0 hq
      have ex : x = S (10 + r) (-1) := by omega
      rw [ex] at g1 g0 ⊢
      have e' : fil M 100 0 (S (10 + r) (-1)) (S (10 + r)) 90 r = S (10 + r) (-1) := by rw [fil_ne (by decide)]; exact e
      refine gX12_word_36 ⟨r0, r6, ⟨by omega, by omega⟩, by rw [e']; omega, fun _ => ⟨by omega, fun q => ?_, fun q => ?_⟩, fun q => absurd q (by rw [e']; omega)⟩
      · rw [e']
        exact m_comes a0 a8 (by rw [up_at, if_pos rfl]) (by omega) (by omega) (hq.1 (g1 (by omega)))
      · exact m_meets (by decide) (hq.2 (g0 q))
    | succ m ih =>
      intro g1 g0 hq
      have e' : fil M 100 0 x (S (10 + r)) 90 r = S (10 + r) (-1) := by rw [fil_ne (by decide)]; exact e
      have ev := e2 x x0 (by omega)
      have wv := w.2.2 x x0 (by omega)
      refine gX12_word_36 ⟨r0, r6, ⟨by omega, by omega⟩, by rw [e']; omega, fun q => absurd q (by rw [e']; omega), fun q => m_rowAt (by omega) (by omega) ?_⟩
      rw [fil_ne (b := 91) (by decide), ev]
      refine ⟨x0, by omega, by omega, fun q2 => ?_, fun q2 => ?_⟩
      · rw [fil_s x0 (by omega) rfl]
        obtain ⟨i, i0, i1, i2⟩ := g0 q2
        exact ih 0 (Or.inl rfl) (x + 1) (by omega) (by omega) (by omega) (fun h => absurd h (by decide)) (fun _ => ⟨i, i0, by omega, i2⟩) hq
      · rw [fil_s x0 (by omega) rfl]
        have ek : fil M 100 0 (x + 1) (S (10 + r)) 88 11 = S 0 0 := by rw [fil_ne (by decide)]; exact hY.2.2.2.1.1
        refine m_isLetter wv (by rw [ek]; omega) (fun q3 => ⟨fun _ => ?_, fun q4 => absurd rfl q4⟩) (fun q3 => ⟨fun q4 => absurd q4 (by decide), fun _ => ?_⟩)
        · rw [ek] at q3
          exact ih 0 (Or.inl rfl) (x + 1) (by omega) (by omega) (by omega) (fun h => absurd h (by decide)) (fun _ => ⟨x, x0, by omega, by omega⟩) hq
        · rw [ek] at q3
          refine ih 1 (Or.inr rfl) (x + 1) (by omega) (by omega) (by omega) (fun _ i i0 i1 => ?_) (fun h => absurd h (by decide)) hq
          by_cases h : i = x
          · subst h; exact q3
          · exact g1 (by omega) i i0 (by omega)
  by_cases c3 : ∀ i, 0 ≤ i → i < S (10 + r) (-1) → 0 ≤ S (10 + r) i ∧ S (10 + r) i < S 0 0
  · refine ⟨S (10 + r) (-1), setWd S a (S (10 + r) (-1)) (S (10 + r)) 0 0 0, hW.word a0 a8 (by omega) (by omega) (by decide) c3, fun M hX => eX11_word ?_, fun M hY => eX12_word ?_⟩
    · obtain ⟨e, e2⟩ := hX.1 r r0 r6
      have ek := hX.2.2.2.1.1
      repeat' first
        | omega
        | exact px_rf hX _
        | exact px_fnd hX _ (by decide) (by decide)
        | refine c_noRow ?_ (fun q => ?_) (fun q => ?_)
        | refine c_noText ?_ (fun q => ?_) (fun q => ?_)
        | refine c_noWord ?_ (fun q => ?_) (fun q => ?_)
        | refine c_noLength ?_ (fun q => ?_) (fun q => ?_)
        | refine c_found (by decide) ?_
        | refine c_refuseRow hW hX ?_ (fun q => ?_) (fun q => ?_) (fun q => ?_)
        | refine c_refusePlace hW hX ?_ ?_ (fun q => ?_) (fun q => ?_) (fun q => ?_) (fun q => ?_)
        | refine c_refuseText hW hX ?_ (fun q => ?_) (fun q => ?_) (fun q => ?_)
        | refine c_refuseWords hW hX ?_ ?_ (fun q => ?_) (fun q => ?_) (fun q => ?_)
        | refine c_refuseWord hW hX ?_ (fun q => ?_) (fun q => ?_) (fun q => ?_)
        | refine c_has hL ?_ ?_ (fun q => ?_) (fun q => ?_)
        | refine c_isMissing hL ?_ (fun q => ?_) (fun q => ?_)
        | refine c_reaches hL ?_ ?_ (fun q => ?_) (fun q => ?_)
        | refine c_has hL2 ?_ ?_ (fun q => ?_) (fun q => ?_)
        | refine c_isMissing hL2 ?_ (fun q => ?_) (fun q => ?_)
        | refine c_reaches hL2 ?_ ?_ (fun q => ?_) (fun q => ?_)
        | refine c_is hWd ?_ ?_ (fun q => ?_) (fun q => ?_)
        | refine c_markOf hWd ?_ (fun q => ?_) (fun q => ?_)
        | with_reducible refine ⟨?_, ?_⟩
        | with_reducible intro q
      refine c_isBelow hL (by rw [ek]; omega) (by omega) (by omega) (by decide) (fun i i0 i1 => by rw [e2 i i0 (by omega)]; exact w.2.2 i i0 (by omega)) (fun i i0 i1 q2 => ?_) (fun q2 => ⟨fun _ => ⟨a0, a8, ?_⟩, fun q3 => absurd q3 (by decide)⟩)
      · have := c3 i i0 (by omega)
        rw [e2 i i0 (by omega), ek] at q2
        omega
      · rw [e]
        exact c_become (isW_word a0 a8) hL.a (by omega) (by omega) (by omega) ⟨rfl, hX.bcm a0 a8 (by omega) (fun i i0 i1 => e2 i i0 i1), (frx.rf M).bcm a0 a8⟩
    · have e := (hY.1 r r0 r6).1
      repeat' first
        | omega
        | exact py_rf hY _
        | exact py_fnd hY _ (by decide) (by decide)
        | refine m_isRow ?_ (fun q => ?_) (fun q => ?_)
        | refine m_isText ?_ (fun q => ?_) (fun q => ?_)
        | refine m_isWord ?_ (fun q => ?_) (fun q => ?_)
        | refine m_in ?_ ?_ ?_ (fun q => ?_) (fun q => ?_)
        | refine m_meets (by decide) ?_
        | refine m_needWord hW hY ?_ ?_ (fun q => ?_) (fun q => ?_) (fun q => ?_)
        | refine m_needTwo hW hY ?_ ?_ ?_ (fun q => ?_) (fun q => ?_) (fun q => ?_)
        | refine m_isThere ?_ ?_ ?_ (fun q => ?_) (fun q => ?_)
        | refine m_at0 ?_ ?_ ?_
        | refine m_rowAt ?_ ?_ ?_
        | refine m_markOf ?_ ?_ ?_ (fun q => ?_) (fun q => ?_) (fun q => ?_)
        | with_reducible refine ⟨?_, ?_⟩
        | with_reducible intro q
      have h2 := ykey M hY (PY (setWd S a (S (10 + r) (-1)) (S (10 + r)) 0 0 0) (Iv (S (10 + r) (-1))) M) 1 (Or.inr rfl) 0 (by decide) (by omega) (fun _ i i0 i1 => by omega) (fun h => absurd h (by decide)) ⟨fun _ => ⟨rfl, ?_, (((fry.rf M).fil (by decide)).up (by decide)).cms⟩, fun h => ?_⟩
      · rw [fil_0] at h2
        exact h2
      · refine Y.cms hW ((hY.fil (by unfold kY; omega) (by decide)).up (by unfold kY; omega) (by omega)) a0 a8 (by rw [up_at, if_pos rfl]) (by omega) (by omega) (fun i i0 i1 => ?_)
        rw [up_ne (by decide)]
        have := fil_in (M := M) (a := 100) (base := 0) (f := S (10 + r)) i0 i1
        rw [Int.zero_add] at this
        exact this
      · obtain ⟨i, i0, i1, i2⟩ := h
        exact absurd (c3 i i0 i1) i2
  · have hex : badL S r (S (10 + r) (-1)) := Classical.byContradiction fun hno => c3 fun i i0 i1 => Classical.byContradiction fun h => hno ⟨i, i0, i1, h⟩
    refine ⟨-3, fS S 3, hW.fnd 3, fun M hX => eX11_word ?_, fun M hY => eX12_word ?_⟩
    · obtain ⟨e, e2⟩ := hX.1 r r0 r6
      have ek := hX.2.2.2.1.1
      repeat' first
        | omega
        | exact px_rf hX _
        | exact px_fnd hX _ (by decide) (by decide)
        | refine c_noRow ?_ (fun q => ?_) (fun q => ?_)
        | refine c_noText ?_ (fun q => ?_) (fun q => ?_)
        | refine c_noWord ?_ (fun q => ?_) (fun q => ?_)
        | refine c_noLength ?_ (fun q => ?_) (fun q => ?_)
        | refine c_found (by decide) ?_
        | refine c_refuseRow hW hX ?_ (fun q => ?_) (fun q => ?_) (fun q => ?_)
        | refine c_refusePlace hW hX ?_ ?_ (fun q => ?_) (fun q => ?_) (fun q => ?_) (fun q => ?_)
        | refine c_refuseText hW hX ?_ (fun q => ?_) (fun q => ?_) (fun q => ?_)
        | refine c_refuseWords hW hX ?_ ?_ (fun q => ?_) (fun q => ?_) (fun q => ?_)
        | refine c_refuseWord hW hX ?_ (fun q => ?_) (fun q => ?_) (fun q => ?_)
        | refine c_has hL ?_ ?_ (fun q => ?_) (fun q => ?_)
        | refine c_isMissing hL ?_ (fun q => ?_) (fun q => ?_)
        | refine c_reaches hL ?_ ?_ (fun q => ?_) (fun q => ?_)
        | refine c_has hL2 ?_ ?_ (fun q => ?_) (fun q => ?_)
        | refine c_isMissing hL2 ?_ (fun q => ?_) (fun q => ?_)
        | refine c_reaches hL2 ?_ ?_ (fun q => ?_) (fun q => ?_)
        | refine c_is hWd ?_ ?_ (fun q => ?_) (fun q => ?_)
        | refine c_markOf hWd ?_ (fun q => ?_) (fun q => ?_)
        | with_reducible refine ⟨?_, ?_⟩
        | with_reducible intro q
      refine c_isBelow hL (by rw [ek]; omega) (by omega) (by omega) (by decide) (fun i i0 i1 => by rw [e2 i i0 (by omega)]; exact w.2.2 i i0 (by omega)) (fun i i0 i1 q2 => ⟨fun q3 => absurd rfl q3, fun _ => c_found (by decide) (px_fnd hX 3 (by decide) (by decide))⟩) (fun q2 => ?_)
      obtain ⟨i, i0, i1, i2⟩ := hex
      have := q2 i i0 (by omega)
      rw [e2 i i0 i1, ek] at this
      exact absurd this i2
    · have e := (hY.1 r r0 r6).1
      repeat' first
        | omega
        | exact py_rf hY _
        | exact py_fnd hY _ (by decide) (by decide)
        | refine m_isRow ?_ (fun q => ?_) (fun q => ?_)
        | refine m_isText ?_ (fun q => ?_) (fun q => ?_)
        | refine m_isWord ?_ (fun q => ?_) (fun q => ?_)
        | refine m_in ?_ ?_ ?_ (fun q => ?_) (fun q => ?_)
        | refine m_meets (by decide) ?_
        | refine m_needWord hW hY ?_ ?_ (fun q => ?_) (fun q => ?_) (fun q => ?_)
        | refine m_needTwo hW hY ?_ ?_ ?_ (fun q => ?_) (fun q => ?_) (fun q => ?_)
        | refine m_isThere ?_ ?_ ?_ (fun q => ?_) (fun q => ?_)
        | refine m_at0 ?_ ?_ ?_
        | refine m_rowAt ?_ ?_ ?_
        | refine m_markOf ?_ ?_ ?_ (fun q => ?_) (fun q => ?_) (fun q => ?_)
        | with_reducible refine ⟨?_, ?_⟩
        | with_reducible intro q
      have h2 := ykey M hY (PY (fS S 3) (Iv (-3)) M) 1 (Or.inr rfl) 0 (by decide) (by omega) (fun _ i i0 i1 => by omega) (fun h => absurd h (by decide)) ⟨fun h => ?_, fun _ => ⟨rfl, Y.fnd (hY.fil (by unfold kY; omega) (by decide)) (by decide) (by decide), ((fry.rf M).fil (by decide)).fnd⟩⟩
      · rw [fil_0] at h2
        exact h2
      · exact absurd h c3
