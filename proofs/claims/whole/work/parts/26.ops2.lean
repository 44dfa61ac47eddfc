theorem op_tear {S : Mem} (hW : WF S) {r : Int} (hr : inr r) : OpOK S yX11_tear yX12_tear [Iv r] Iv := by
  by_cases c1 : r < 0 ∨ 6 ≤ r
  · refine ⟨-1, S, hW, fun M hX => eX11_tear ?_, fun M hY => eX12_tear ?_⟩
    · repeat' first
        | omega
        | exact px_rf hX _
        | exact px_fnd hX _ (by decide) (by decide)
        | refine c_noRow ?_ (fun q => ?_) (fun q => ?_)
        | refine c_noText ?_ (fun q => ?_) (fun q => ?_)
        | refine c_noWord ?_ (fun q => ?_) (fun q => ?_)
        | refine c_noLength ?_ (fun q => ?_) (fun q => ?_)
        | refine c_found (by decide) ?_
        | refine c_refuseRow hW hX ?_ (fun q => ?_) (fun q => ?_) (fun q => ?_)
        | refine c_refusePlace hW hX ?_ ?_ (fun q => ?_) (fun q => ?_) (fun q => ?_) (fun q => ?_)
        | refine c_refuseText hW hX ?_ (fun q => ?_) (fun q => ?_) (fun q => ?_)
        | refine c_refuseWords hW hX ?_ ?_ (fun q => ?_) (fun q => ?_) (fun q => ?_)
        | refine c_refuseWord hW hX ?_ (fun q => ?_) (fun q => ?_) (fun q => ?_)
        | refine c_has hL ?_ ?_ (fun q => ?_) (fun q => ?_)
        | refine c_isMissing hL ?_ (fun q => ?_) (fun q => ?_)
        | refine c_reaches hL ?_ ?_ (fun q => ?_) (fun q => ?_)
        | refine c_has hL2 ?_ ?_ (fun q => ?_) (fun q => ?_)
        | refine c_isMissing hL2 ?_ (fun q => ?_) (fun q => ?_)
        | refine c_reaches hL2 ?_ ?_ (fun q => ?_) (fun q => ?_)
        | refine c_is hWd ?_ ?_ (fun q => ?_) (fun q => ?_)
        | refine c_markOf hWd ?_ (fun q => ?_) (fun q => ?_)
        | with_reducible refine ⟨?_, ?_⟩
        | with_reducible intro q
    · repeat' first
        | omega
        | exact py_rf hY _
        | exact py_fnd hY _ (by decide) (by decide)
        | refine m_isRow ?_ (fun q => ?_) (fun q => ?_)
        | refine m_isText ?_ (fun q => ?_) (fun q => ?_)
        | refine m_isWord ?_ (fun q => ?_) (fun q => ?_)
        | refine m_in ?_ ?_ ?_ (fun q => ?_) (fun q => ?_)
        | refine m_meets (by decide) ?_
        | refine m_needWord hW hY ?_ ?_ (fun q => ?_) (fun q => ?_) (fun q => ?_)
        | refine m_needTwo hW hY ?_ ?_ ?_ (fun q => ?_) (fun q => ?_) (fun q => ?_)
        | refine m_isThere ?_ ?_ ?_ (fun q => ?_) (fun q => ?_)
        | refine m_at0 ?_ ?_ ?_
        | refine m_rowAt ?_ ?_ ?_
        | refine m_markOf ?_ ?_ ?_ (fun q => ?_) (fun q => ?_) (fun q => ?_)
        | with_reducible refine ⟨?_, ?_⟩
        | with_reducible intro q
  have r0 : 0 ≤ r := by omega
  have r6 : r < 6 := by omega
  have w := hW.1 r r0 r6
  by_cases c2 : S (10 + r) (-1) < 0
  · refine ⟨-3, fS S 1, hW.fnd 1, fun M hX => eX11_tear ?_, fun M hY => eX12_tear ?_⟩
    · repeat' first
        | omega
        | exact px_rf hX _
        | exact px_fnd hX _ (by decide) (by decide)
        | refine c_noRow ?_ (fun q => ?_) (fun q => ?_)
        | refine c_noText ?_ (fun q => ?_) (fun q => ?_)
        | refine c_noWord ?_ (fun q => ?_) (fun q => ?_)
        | refine c_noLength ?_ (fun q => ?_) (fun q => ?_)
        | refine c_found (by decide) ?_
        | refine c_refuseRow hW hX ?_ (fun q => ?_) (fun q => ?_) (fun q => ?_)
        | refine c_refusePlace hW hX ?_ ?_ (fun q => ?_) (fun q => ?_) (fun q => ?_) (fun q => ?_)
        | refine c_refuseText hW hX ?_ (fun q => ?_) (fun q => ?_) (fun q => ?_)
        | refine c_refuseWords hW hX ?_ ?_ (fun q => ?_) (fun q => ?_) (fun q => ?_)
        | refine c_refuseWord hW hX ?_ (fun q => ?_) (fun q => ?_) (fun q => ?_)
        | refine c_has hL ?_ ?_ (fun q => ?_) (fun q => ?_)
        | refine c_isMissing hL ?_ (fun q => ?_) (fun q => ?_)
        | refine c_reaches hL ?_ ?_ (fun q => ?_) (fun q => ?_)
        | refine c_has hL2 ?_ ?_ (fun q => ?_) (fun q => ?_)
        | refine c_isMissing hL2 ?_ (fun q => ?_) (fun q => ?_)
        | refine c_reaches hL2 ?_ ?_ (fun q => ?_) (fun q => ?_)
        | refine c_is hWd ?_ ?_ (fun q => ?_) (fun q => ?_)
        | refine c_markOf hWd ?_ (fun q => ?_) (fun q => ?_)
        | with_reducible refine ⟨?_, ?_⟩
        | with_reducible intro q
    · have e := (hY.1 r r0 r6).1
      repeat' first
        | omega
        | exact py_rf hY _
        | exact py_fnd hY _ (by decide) (by decide)
        | refine m_isRow ?_ (fun q => ?_) (fun q => ?_)
        | refine m_isText ?_ (fun q => ?_) (fun q => ?_)
        | refine m_isWord ?_ (fun q => ?_) (fun q => ?_)
        | refine m_in ?_ ?_ ?_ (fun q => ?_) (fun q => ?_)
        | refine m_meets (by decide) ?_
        | refine m_needWord hW hY ?_ ?_ (fun q => ?_) (fun q => ?_) (fun q => ?_)
        | refine m_needTwo hW hY ?_ ?_ ?_ (fun q => ?_) (fun q => ?_) (fun q => ?_)
        | refine m_isThere ?_ ?_ ?_ (fun q => ?_) (fun q => ?_)
        | refine m_at0 ?_ ?_ ?_
        | refine m_rowAt ?_ ?_ ?_
        | refine m_markOf ?_ ?_ ?_ (fun q => ?_) (fun q => ?_) (fun q => ?_)
        | with_reducible refine ⟨?_, ?_⟩
        | with_reducible intro q
  refine ⟨1, setLn S (10 + r) (-1) (S (10 + r)), hW.row r0 r6 (by decide) (by decide) (fun i i0 i1 => by omega), fun M hX => eX11_tear ?_, fun M hY => eX12_tear ?_⟩
  · repeat' first
      | omega
      | exact px_rf hX _
      | exact px_fnd hX _ (by decide) (by decide)
      | refine c_noRow ?_ (fun q => ?_) (fun q => ?_)
      | refine c_noText ?_ (fun q => ?_) (fun q => ?_)
      | refine c_noWord ?_ (fun q => ?_) (fun q => ?_)
      | refine c_noLength ?_ (fun q => ?_) (fun q => ?_)
      | refine c_found (by decide) ?_
      | refine c_refuseRow hW hX ?_ (fun q => ?_) (fun q => ?_) (fun q => ?_)
      | refine c_refusePlace hW hX ?_ ?_ (fun q => ?_) (fun q => ?_) (fun q => ?_) (fun q => ?_)
      | refine c_refuseText hW hX ?_ (fun q => ?_) (fun q => ?_) (fun q => ?_)
      | refine c_refuseWords hW hX ?_ ?_ (fun q => ?_) (fun q => ?_) (fun q => ?_)
      | refine c_refuseWord hW hX ?_ (fun q => ?_) (fun q => ?_) (fun q => ?_)
      | refine c_has hL ?_ ?_ (fun q => ?_) (fun q => ?_)
      | refine c_isMissing hL ?_ (fun q => ?_) (fun q => ?_)
      | refine c_reaches hL ?_ ?_ (fun q => ?_) (fun q => ?_)
      | refine c_has hL2 ?_ ?_ (fun q => ?_) (fun q => ?_)
      | refine c_isMissing hL2 ?_ (fun q => ?_) (fun q => ?_)
      | refine c_reaches hL2 ?_ ?_ (fun q => ?_) (fun q => ?_)
      | refine c_is hWd ?_ ?_ (fun q => ?_) (fun q => ?_)
      | refine c_markOf hWd ?_ (fun q => ?_) (fun q => ?_)
      | with_reducible refine ⟨?_, ?_⟩
      | with_reducible intro q
    exact ⟨rfl, hX.row r0 r6 (fun a ka k1 k2 => up_ne k1) (by rw [up_at, if_pos rfl]) (fun i i0 i1 => by omega), (frx.rf M).up (by omega)⟩
  · have e := (hY.1 r r0 r6).1
    repeat' first
      | omega
      | exact py_rf hY _
      | exact py_fnd hY _ (by decide) (by decide)
      | refine m_isRow ?_ (fun q => ?_) (fun q => ?_)
      | refine m_isText ?_ (fun q => ?_) (fun q => ?_)
      | refine m_isWord ?_ (fun q => ?_) (fun q => ?_)
      | refine m_in ?_ ?_ ?_ (fun q => ?_) (fun q => ?_)
      | refine m_meets (by decide) ?_
      | refine m_needWord hW hY ?_ ?_ (fun q => ?_) (fun q => ?_) (fun q => ?_)
      | refine m_needTwo hW hY ?_ ?_ ?_ (fun q => ?_) (fun q => ?_) (fun q => ?_)
      | refine m_isThere ?_ ?_ ?_ (fun q => ?_) (fun q => ?_)
      | refine m_at0 ?_ ?_ ?_
      | refine m_rowAt ?_ ?_ ?_
      | refine m_markOf ?_ ?_ ?_ (fun q => ?_) (fun q => ?_) (fun q => ?_)
      | with_reducible refine ⟨?_, ?_⟩
      | with_reducible intro q
    exact ⟨rfl, hY.row r0 r6 (fun q q0 q1 => (hW.1 q q0 q1).2.1) (by decide) (fun a ka k1 k2 => up_ne k1) (fun k hk => by rw [up_ne (by decide)]) (fun q q0 q1 => by rw [up_at]) (fun i i0 i1 i2 => by rw [up_ne (by decide)]) (fun i i0 i1 => by omega), (fry.rf M).up (by decide)⟩
theorem bmod_b (v : Int) : -128 ≤ Int.bmod v 256 ∧ Int.bmod v 256 ≤ 127 := by
  have h1 := Int.le_bmod (x := v) (m := 256) (by decide)
  have h2 := Int.bmod_lt (x := v) (m := 256) (by decide)
  constructor <;> omega
/-! 8 text, 9 put -/
theorem op_text {S : Mem} (hW : WF S) {r n : Int} (hr : inr r) (hn : inr n) : OpOK S yX11_text yX12_text [Iv r, Iv n] Iv := by
  by_cases c1 : (r < 0 ∨ 4 ≤ r) ∨ 60 < n
  · refine ⟨-1, S, hW, fun M hX => eX11_text ?_, fun M hY => eX12_text ?_⟩
    · repeat' first
        | omega
        | exact px_rf hX _
        | exact px_fnd hX _ (by decide) (by decide)
        | refine c_noRow ?_ (fun q => ?_) (fun q => ?_)
        | refine c_noText ?_ (fun q => ?_) (fun q => ?_)
        | refine c_noWord ?_ (fun q => ?_) (fun q => ?_)
        | refine c_noLength ?_ (fun q => ?_) (fun q => ?_)
        | refine c_found (by decide) ?_
        | refine c_refuseRow hW hX ?_ (fun q => ?_) (fun q => ?_) (fun q => ?_)
        | refine c_refusePlace hW hX ?_ ?_ (fun q => ?_) (fun q => ?_) (fun q => ?_) (fun q => ?_)
        | refine c_refuseText hW hX ?_ (fun q => ?_) (fun q => ?_) (fun q => ?_)
        | refine c_refuseWords hW hX ?_ ?_ (fun q => ?_) (fun q => ?_) (fun q => ?_)
        | refine c_refuseWord hW hX ?_ (fun q => ?_) (fun q => ?_) (fun q => ?_)
        | refine c_has hL ?_ ?_ (fun q => ?_) (fun q => ?_)
        | refine c_isMissing hL ?_ (fun q => ?_) (fun q => ?_)
        | refine c_reaches hL ?_ ?_ (fun q => ?_) (fun q => ?_)
        | refine c_has hL2 ?_ ?_ (fun q => ?_) (fun q => ?_)
        | refine c_isMissing hL2 ?_ (fun q => ?_) (fun q => ?_)
        | refine c_reaches hL2 ?_ ?_ (fun q => ?_) (fun q => ?_)
        | refine c_is hWd ?_ ?_ (fun q => ?_) (fun q => ?_)
        | refine c_markOf hWd ?_ (fun q => ?_) (fun q => ?_)
        | with_reducible refine ⟨?_, ?_⟩
        | with_reducible intro q
    · repeat' first
        | omega
        | exact py_rf hY _
        | exact py_fnd hY _ (by decide) (by decide)
        | refine m_isRow ?_ (fun q => ?_) (fun q => ?_)
        | refine m_isText ?_ (fun q => ?_) (fun q => ?_)
        | refine m_isWord ?_ (fun q => ?_) (fun q => ?_)
        | refine m_in ?_ ?_ ?_ (fun q => ?_) (fun q => ?_)
        | refine m_meets (by decide) ?_
        | refine m_needWord hW hY ?_ ?_ (fun q => ?_) (fun q => ?_) (fun q => ?_)
        | refine m_needTwo hW hY ?_ ?_ ?_ (fun q => ?_) (fun q => ?_) (fun q => ?_)
        | refine m_isThere ?_ ?_ ?_ (fun q => ?_) (fun q => ?_)
        | refine m_at0 ?_ ?_ ?_
        | refine m_rowAt ?_ ?_ ?_
        | refine m_markOf ?_ ?_ ?_ (fun q => ?_) (fun q => ?_) (fun q => ?_)
        | with_reducible refine ⟨?_, ?_⟩
        | with_reducible intro q
  by_cases c2 : n < 0
  · refine ⟨-3, fS S 5, hW.fnd 5, fun M hX => eX11_text ?_, fun M hY => eX12_text ?_⟩
    · repeat' first
        | omega
        | exact px_rf hX _
        | exact px_fnd hX _ (by decide) (by decide)
        | refine c_noRow ?_ (fun q => ?_) (fun q => ?_)
        | refine c_noText ?_ (fun q => ?_) (fun q => ?_)
        | refine c_noWord ?_ (fun q => ?_) (fun q => ?_)
        | refine c_noLength ?_ (fun q => ?_) (fun q => ?_)
        | refine c_found (by decide) ?_
        | refine c_refuseRow hW hX ?_ (fun q => ?_) (fun q => ?_) (fun q => ?_)
        | refine c_refusePlace hW hX ?_ ?_ (fun q => ?_) (fun q => ?_) (fun q => ?_) (fun q => ?_)
        | refine c_refuseText hW hX ?_ (fun q => ?_) (fun q => ?_) (fun q => ?_)
        | refine c_refuseWords hW hX ?_ ?_ (fun q => ?_) (fun q => ?_) (fun q => ?_)
        | refine c_refuseWord hW hX ?_ (fun q => ?_) (fun q => ?_) (fun q => ?_)
        | refine c_has hL ?_ ?_ (fun q => ?_) (fun q => ?_)
        | refine c_isMissing hL ?_ (fun q => ?_) (fun q => ?_)
        | refine c_reaches hL ?_ ?_ (fun q => ?_) (fun q => ?_)
        | refine c_has hL2 ?_ ?_ (fun q => ?_) (fun q => ?_)
        | refine c_isMissing hL2 ?_ (fun q => ?_) (fun q => ?_)
        | refine c_reaches hL2 ?_ ?_ (fun q => ?_) (fun q => ?_)
        | refine c_is hWd ?_ ?_ (fun q => ?_) (fun q => ?_)
        | refine c_markOf hWd ?_ (fun q => ?_) (fun q => ?_)
        | with_reducible refine ⟨?_, ?_⟩
        | with_reducible intro q
    · repeat' first
        | omega
        | exact py_rf hY _
        | exact py_fnd hY _ (by decide) (by decide)
        | refine m_isRow ?_ (fun q => ?_) (fun q => ?_)
        | refine m_isText ?_ (fun q => ?_) (fun q => ?_)
        | refine m_isWord ?_ (fun q => ?_) (fun q => ?_)
        | refine m_in ?_ ?_ ?_ (fun q => ?_) (fun q => ?_)
        | refine m_meets (by decide) ?_
        | refine m_needWord hW hY ?_ ?_ (fun q => ?_) (fun q => ?_) (fun q => ?_)
        | refine m_needTwo hW hY ?_ ?_ ?_ (fun q => ?_) (fun q => ?_) (fun q => ?_)
        | refine m_isThere ?_ ?_ ?_ (fun q => ?_) (fun q => ?_)
        | refine m_at0 ?_ ?_ ?_
        | refine m_rowAt ?_ ?_ ?_
        | refine m_markOf ?_ ?_ ?_ (fun q => ?_) (fun q => ?_) (fun q => ?_)
        | with_reducible refine ⟨?_, ?_⟩
        | with_reducible intro q
  have r0 : 0 ≤ r := by omega
  have r6 : r < 4 := by omega
  refine ⟨n, setLn S (20 + r) n (fun _ => 32), hW.text r0 r6 (by omega) (by omega) (fun _ _ _ => by decide), fun M hX => eX11_text ?_, fun M hY => eX12_text ?_⟩
  · repeat' first
      | omega
      | exact px_rf hX _
      | exact px_fnd hX _ (by decide) (by decide)
      | refine c_noRow ?_ (fun q => ?_) (fun q => ?_)
      | refine c_noText ?_ (fun q => ?_) (fun q => ?_)
      | refine c_noWord ?_ (fun q => ?_) (fun q => ?_)
      | refine c_noLength ?_ (fun q => ?_) (fun q => ?_)
      | refine c_found (by decide) ?_
      | refine c_refuseRow hW hX ?_ (fun q => ?_) (fun q => ?_) (fun q => ?_)
      | refine c_refusePlace hW hX ?_ ?_ (fun q => ?_) (fun q => ?_) (fun q => ?_) (fun q => ?_)
      | refine c_refuseText hW hX ?_ (fun q => ?_) (fun q => ?_) (fun q => ?_)
      | refine c_refuseWords hW hX ?_ ?_ (fun q => ?_) (fun q => ?_) (fun q => ?_)
      | refine c_refuseWord hW hX ?_ (fun q => ?_) (fun q => ?_) (fun q => ?_)
      | refine c_has hL ?_ ?_ (fun q => ?_) (fun q => ?_)
      | refine c_isMissing hL ?_ (fun q => ?_) (fun q => ?_)
      | refine c_reaches hL ?_ ?_ (fun q => ?_) (fun q => ?_)
      | refine c_has hL2 ?_ ?_ (fun q => ?_) (fun q => ?_)
      | refine c_isMissing hL2 ?_ (fun q => ?_) (fun q => ?_)
      | refine c_reaches hL2 ?_ ?_ (fun q => ?_) (fun q => ?_)
      | refine c_is hWd ?_ ?_ (fun q => ?_) (fun q => ?_)
      | refine c_markOf hWd ?_ (fun q => ?_) (fun q => ?_)
      | with_reducible refine ⟨?_, ?_⟩
      | with_reducible intro q
    refine c_begin (isL_text r0 r6) (by omega) (by omega) (by decide) ?_
    refine ⟨rfl, hX.text r0 r6 (fun a ka k1 k2 => ?_) ?_ (fun i i0 i1 => ?_), ((frx.rf M).setA (by omega)).up (by omega)⟩
    · unfold bgn; rw [up_ne k1, setA_ne k2]
    · unfold bgn; rw [up_at, if_pos rfl]
    · unfold bgn; rw [up_ne (by omega), setA_eq]; exact if_pos ⟨i0, i1⟩
  · repeat' first
      | omega
      | exact py_rf hY _
      | exact py_fnd hY _ (by decide) (by decide)
      | refine m_isRow ?_ (fun q => ?_) (fun q => ?_)
      | refine m_isText ?_ (fun q => ?_) (fun q => ?_)
      | refine m_isWord ?_ (fun q => ?_) (fun q => ?_)
      | refine m_in ?_ ?_ ?_ (fun q => ?_) (fun q => ?_)
      | refine m_meets (by decide) ?_
      | refine m_needWord hW hY ?_ ?_ (fun q => ?_) (fun q => ?_) (fun q => ?_)
      | refine m_needTwo hW hY ?_ ?_ ?_ (fun q => ?_) (fun q => ?_) (fun q => ?_)
      | refine m_isThere ?_ ?_ ?_ (fun q => ?_) (fun q => ?_)
      | refine m_at0 ?_ ?_ ?_
      | refine m_rowAt ?_ ?_ ?_
      | refine m_markOf ?_ ?_ ?_ (fun q => ?_) (fun q => ?_) (fun q => ?_)
      | with_reducible refine ⟨?_, ?_⟩
      | with_reducible intro q
    have key : ∀ (m : Nat) (x : Int), 0 ≤ x → x ≤ 60 → (60 - x).toNat = m → wp 0 yX12_text 34 [some (Rv 88), some (Iv r), some (Iv n), some (Iv x)] [] (fil (up M 93 r n) 94 (60 * r) x (fun _ => 32)) (PY (setLn S (20 + r) n (fun _ => 32)) (Iv n) M) := by
      intro m
      induction m with
      | zero =>
        intro x x0 x1 xm
        have e : x = 60 := by omega
        subst e
        refine gX12_text_34 ⟨by decide, fun _ => ⟨rfl, ?_, ((fry.rf M).up (by decide)).setA (by decide)⟩, fun q => absurd q (by decide)⟩
        refine hY.text r0 r6 (fun q q0 q1 => (hW.2.1 q q0 q1).2.1) (by omega) (fun a ka k1 k2 => ?_) (fun k hk => ?_) (fun q q0 q1 => ?_) (fun i i0 i1 i2 => ?_) (fun i i0 i1 => ?_)
        · rw [fil_ne k2, up_ne k1]
        · rw [fil_ne (by decide), up_ne (by decide)]
        · rw [fil_ne (by decide), up_at]
        · rw [fil_out (by omega), up_ne (by decide)]
        · rw [fil_in i0 (by omega)]
      | succ m ih =>
        intro x x0 x1 xm
        refine gX12_text_34 ⟨⟨by omega, by omega⟩, fun q => absurd q (by omega), fun _ => ⟨by omega, by omega, ?_⟩⟩
        rw [fil_s x0 rfl (by decide)]
        exact ih (x + 1) (by omega) (by omega) (by omega)
    have h2 := key _ 0 (by decide) (by decide) rfl
    rw [fil_0] at h2
    exact h2
theorem op_put {S : Mem} (hW : WF S) {r i v : Int} (hr : inr r) (hi : inr i) (hv : inr v) : OpOK S yX11_put yX12_put [Iv r, Iv i, Iv v] Iv := by
  by_cases c1 : r < 0 ∨ 4 ≤ r
  · refine ⟨-1, S, hW, fun M hX => eX11_put ?_, fun M hY => eX12_put ?_⟩
    · repeat' first
        | omega
        | exact px_rf hX _
        | exact px_fnd hX _ (by decide) (by decide)
        | refine c_noRow ?_ (fun q => ?_) (fun q => ?_)
        | refine c_noText ?_ (fun q => ?_) (fun q => ?_)
        | refine c_noWord ?_ (fun q => ?_) (fun q => ?_)
        | refine c_noLength ?_ (fun q => ?_) (fun q => ?_)
        | refine c_found (by decide) ?_
        | refine c_refuseRow hW hX ?_ (fun q => ?_) (fun q => ?_) (fun q => ?_)
        | refine c_refusePlace hW hX ?_ ?_ (fun q => ?_) (fun q => ?_) (fun q => ?_) (fun q => ?_)
        | refine c_refuseText hW hX ?_ (fun q => ?_) (fun q => ?_) (fun q => ?_)
        | refine c_refuseWords hW hX ?_ ?_ (fun q => ?_) (fun q => ?_) (fun q => ?_)
        | refine c_refuseWord hW hX ?_ (fun q => ?_) (fun q => ?_) (fun q => ?_)
        | refine c_has hL ?_ ?_ (fun q => ?_) (fun q => ?_)
        | refine c_isMissing hL ?_ (fun q => ?_) (fun q => ?_)
        | refine c_reaches hL ?_ ?_ (fun q => ?_) (fun q => ?_)
        | refine c_has hL2 ?_ ?_ (fun q => ?_) (fun q => ?_)
        | refine c_isMissing hL2 ?_ (fun q => ?_) (fun q => ?_)
        | refine c_reaches hL2 ?_ ?_ (fun q => ?_) (fun q => ?_)
        | refine c_is hWd ?_ ?_ (fun q => ?_) (fun q => ?_)
        | refine c_markOf hWd ?_ (fun q => ?_) (fun q => ?_)
        | with_reducible refine ⟨?_, ?_⟩
        | with_reducible intro q
    · repeat' first
        | omega
        | exact py_rf hY _
        | exact py_fnd hY _ (by decide) (by decide)
        | refine m_isRow ?_ (fun q => ?_) (fun q => ?_)
        | refine m_isText ?_ (fun q => ?_) (fun q => ?_)
        | refine m_isWord ?_ (fun q => ?_) (fun q => ?_)
        | refine m_in ?_ ?_ ?_ (fun q => ?_) (fun q => ?_)
        | refine m_meets (by decide) ?_
        | refine m_needWord hW hY ?_ ?_ (fun q => ?_) (fun q => ?_) (fun q => ?_)
        | refine m_needTwo hW hY ?_ ?_ ?_ (fun q => ?_) (fun q => ?_) (fun q => ?_)
        | refine m_isThere ?_ ?_ ?_ (fun q => ?_) (fun q => ?_)
        | refine m_at0 ?_ ?_ ?_
        | refine m_rowAt ?_ ?_ ?_
        | refine m_markOf ?_ ?_ ?_ (fun q => ?_) (fun q => ?_) (fun q => ?_)
        | with_reducible refine ⟨?_, ?_⟩
        | with_reducible intro q
  have r0 : 0 ≤ r := by omega
  have r6 : r < 4 := by omega
  have w := hW.2.1 r r0 r6
  have hL := isL_text r0 r6
  by_cases c2 : S (20 + r) (-1) < 0
  · refine ⟨-3, fS S 1, hW.fnd 1, fun M hX => eX11_put ?_, fun M hY => eX12_put ?_⟩
    · repeat' first
        | omega
        | exact px_rf hX _
        | exact px_fnd hX _ (by decide) (by decide)
        | refine c_noRow ?_ (fun q => ?_) (fun q => ?_)
        | refine c_noText ?_ (fun q => ?_) (fun q => ?_)
        | refine c_noWord ?_ (fun q => ?_) (fun q => ?_)
        | refine c_noLength ?_ (fun q => ?_) (fun q => ?_)
        | refine c_found (by decide) ?_
        | refine c_refuseRow hW hX ?_ (fun q => ?_) (fun q => ?_) (fun q => ?_)
        | refine c_refusePlace hW hX ?_ ?_ (fun q => ?_) (fun q => ?_) (fun q => ?_) (fun q => ?_)
        | refine c_refuseText hW hX ?_ (fun q => ?_) (fun q => ?_) (fun q => ?_)
        | refine c_refuseWords hW hX ?_ ?_ (fun q => ?_) (fun q => ?_) (fun q => ?_)
        | refine c_refuseWord hW hX ?_ (fun q => ?_) (fun q => ?_) (fun q => ?_)
        | refine c_has hL ?_ ?_ (fun q => ?_) (fun q => ?_)
        | refine c_isMissing hL ?_ (fun q => ?_) (fun q => ?_)
        | refine c_reaches hL ?_ ?_ (fun q => ?_) (fun q => ?_)
        | refine c_has hL2 ?_ ?_ (fun q => ?_) (fun q => ?_)
        | refine c_isMissing hL2 ?_ (fun q => ?_) (fun q => ?_)
        | refine c_reaches hL2 ?_ ?_ (fun q => ?_) (fun q => ?_)
        | refine c_is hWd ?_ ?_ (fun q => ?_) (fun q => ?_)
        | refine c_markOf hWd ?_ (fun q => ?_) (fun q => ?_)
        | with_reducible refine ⟨?_, ?_⟩
        | with_reducible intro q
    · have e := (hY.2.1 r r0 r6).1
      repeat' first
        | omega
        | exact py_rf hY _
        | exact py_fnd hY _ (by decide) (by decide)
        | refine m_isRow ?_ (fun q => ?_) (fun q => ?_)
        | refine m_isText ?_ (fun q => ?_) (fun q => ?_)
        | refine m_isWord ?_ (fun q => ?_) (fun q => ?_)
        | refine m_in ?_ ?_ ?_ (fun q => ?_) (fun q => ?_)
        | refine m_meets (by decide) ?_
        | refine m_needWord hW hY ?_ ?_ (fun q => ?_) (fun q => ?_) (fun q => ?_)
        | refine m_needTwo hW hY ?_ ?_ ?_ (fun q => ?_) (fun q => ?_) (fun q => ?_)
        | refine m_isThere ?_ ?_ ?_ (fun q => ?_) (fun q => ?_)
        | refine m_at0 ?_ ?_ ?_
        | refine m_rowAt ?_ ?_ ?_
        | refine m_markOf ?_ ?_ ?_ (fun q => ?_) (fun q => ?_) (fun q => ?_)
        | with_reducible refine ⟨?_, ?_⟩
        | with_reducible intro q
  by_cases c3 : i < 0 ∨ S (20 + r) (-1) ≤ i
  · refine ⟨-3, fS S 2, hW.fnd 2, fun M hX => eX11_put ?_, fun M hY => eX12_put ?_⟩
    · have e := (hX.2.1 r r0 r6).1
      repeat' first
        | omega
        | exact px_rf hX _
        | exact px_fnd hX _ (by decide) (by decide)
        | refine c_noRow ?_ (fun q => ?_) (fun q => ?_)
        | refine c_noText ?_ (fun q => ?_) (fun q => ?_)
        | refine c_noWord ?_ (fun q => ?_) (fun q => ?_)
        | refine c_noLength ?_ (fun q => ?_) (fun q => ?_)
        | refine c_found (by decide) ?_
        | refine c_refuseRow hW hX ?_ (fun q => ?_) (fun q => ?_) (fun q => ?_)
        | refine c_refusePlace hW hX ?_ ?_ (fun q => ?_) (fun q => ?_) (fun q => ?_) (fun q => ?_)
        | refine c_refuseText hW hX ?_ (fun q => ?_) (fun q => ?_) (fun q => ?_)
        | refine c_refuseWords hW hX ?_ ?_ (fun q => ?_) (fun q => ?_) (fun q => ?_)
        | refine c_refuseWord hW hX ?_ (fun q => ?_) (fun q => ?_) (fun q => ?_)
        | refine c_has hL ?_ ?_ (fun q => ?_) (fun q => ?_)
        | refine c_isMissing hL ?_ (fun q => ?_) (fun q => ?_)
        | refine c_reaches hL ?_ ?_ (fun q => ?_) (fun q => ?_)
        | refine c_has hL2 ?_ ?_ (fun q => ?_) (fun q => ?_)
        | refine c_isMissing hL2 ?_ (fun q => ?_) (fun q => ?_)
        | refine c_reaches hL2 ?_ ?_ (fun q => ?_) (fun q => ?_)
        | refine c_is hWd ?_ ?_ (fun q => ?_) (fun q => ?_)
        | refine c_markOf hWd ?_ (fun q => ?_) (fun q => ?_)
        | with_reducible refine ⟨?_, ?_⟩
        | with_reducible intro q
    · have e := (hY.2.1 r r0 r6).1
      repeat' first
        | omega
        | exact py_rf hY _
        | exact py_fnd hY _ (by decide) (by decide)
        | refine m_isRow ?_ (fun q => ?_) (fun q => ?_)
        | refine m_isText ?_ (fun q => ?_) (fun q => ?_)
        | refine m_isWord ?_ (fun q => ?_) (fun q => ?_)
        | refine m_in ?_ ?_ ?_ (fun q => ?_) (fun q => ?_)
        | refine m_meets (by decide) ?_
        | refine m_needWord hW hY ?_ ?_ (fun q => ?_) (fun q => ?_) (fun q => ?_)
        | refine m_needTwo hW hY ?_ ?_ ?_ (fun q => ?_) (fun q => ?_) (fun q => ?_)
        | refine m_isThere ?_ ?_ ?_ (fun q => ?_) (fun q => ?_)
        | refine m_at0 ?_ ?_ ?_
        | refine m_rowAt ?_ ?_ ?_
        | refine m_markOf ?_ ?_ ?_ (fun q => ?_) (fun q => ?_) (fun q => ?_)
        | with_reducible refine ⟨?_, ?_⟩
        | with_reducible intro q
  have i0 : 0 ≤ i := by omega
  have i1 : i < S (20 + r) (-1) := by omega
  refine ⟨1000 + S (20 + r) i, setLn S (20 + r) (S (20 + r) (-1)) (fun j => if j = i then Int.bmod v 256 else S (20 + r) j), ?_, fun M hX => eX11_put ?_, fun M hY => eX12_put ?_⟩
  · refine hW.text r0 r6 w.1 w.2.1 (fun j j0 j1 => ?_)
    show -128 ≤ (if j = i then Int.bmod v 256 else S (20 + r) j) ∧ (if j = i then Int.bmod v 256 else S (20 + r) j) ≤ 127
    by_cases e : j = i
    · rw [if_pos e]; exact bmod_b v
    · rw [if_neg e]; exact w.2.2 j j0 j1
  · obtain ⟨e, e2⟩ := hX.2.1 r r0 r6
    repeat' first
      | omega
      | exact px_rf hX _
      | exact px_fnd hX _ (by decide) (by decide)
      | refine c_noRow ?_ (fun q => ?_) (fun q => ?_)
      | refine c_noText ?_ (fun q => ?_) (fun q => ?_)
      | refine c_noWord ?_ (fun q => ?_) (fun q => ?_)
      | refine c_noLength ?_ (fun q => ?_) (fun q => ?_)
      | refine c_found (by decide) ?_
      | refine c_refuseRow hW hX ?_ (fun q => ?_) (fun q => ?_) (fun q => ?_)
      | refine c_refusePlace hW hX ?_ ?_ (fun q => ?_) (fun q => ?_) (fun q => ?_) (fun q => ?_)
      | refine c_refuseText hW hX ?_ (fun q => ?_) (fun q => ?_) (fun q => ?_)
      | refine c_refuseWords hW hX ?_ ?_ (fun q => ?_) (fun q => ?_) (fun q => ?_)
      | refine c_refuseWord hW hX ?_ (fun q => ?_) (fun q => ?_) (fun q => ?_)
      | refine c_has hL ?_ ?_ (fun q => ?_) (fun q => ?_)
      | refine c_isMissing hL ?_ (fun q => ?_) (fun q => ?_)
      | refine c_reaches hL ?_ ?_ (fun q => ?_) (fun q => ?_)
      | refine c_has hL2 ?_ ?_ (fun q => ?_) (fun q => ?_)
      | refine c_isMissing hL2 ?_ (fun q => ?_) (fun q => ?_)
      | refine c_reaches hL2 ?_ ?_ (fun q => ?_) (fun q => ?_)
      | refine c_is hWd ?_ ?_ (fun q => ?_) (fun q => ?_)
      | refine c_markOf hWd ?_ (fun q => ?_) (fun q => ?_)
      | with_reducible refine ⟨?_, ?_⟩
      | with_reducible intro q
    rw [e2 i i0 i1, show S (20 + r) i + 1000 = 1000 + S (20 + r) i by omega]
    refine ⟨rfl, hX.text r0 r6 (fun a ka k1 k2 => up_ne k2) (by rw [up_ne (by omega)]; exact e) (fun j j0 j1 => ?_), (frx.rf M).up (by omega)⟩
    rw [up_at]
    by_cases h : j = i
    · rw [if_pos h]; exact (if_pos h).symm
    · rw [if_neg h, e2 j j0 j1]; exact (if_neg h).symm
  · obtain ⟨e, e2⟩ := hY.2.1 r r0 r6
    repeat' first
      | omega
      | exact py_rf hY _
      | exact py_fnd hY _ (by decide) (by decide)
      | refine m_isRow ?_ (fun q => ?_) (fun q => ?_)
      | refine m_isText ?_ (fun q => ?_) (fun q => ?_)
      | refine m_isWord ?_ (fun q => ?_) (fun q => ?_)
      | refine m_in ?_ ?_ ?_ (fun q => ?_) (fun q => ?_)
      | refine m_meets (by decide) ?_
      | refine m_needWord hW hY ?_ ?_ (fun q => ?_) (fun q => ?_) (fun q => ?_)
      | refine m_needTwo hW hY ?_ ?_ ?_ (fun q => ?_) (fun q => ?_) (fun q => ?_)
      | refine m_isThere ?_ ?_ ?_ (fun q => ?_) (fun q => ?_)
      | refine m_at0 ?_ ?_ ?_
      | refine m_rowAt ?_ ?_ ?_
      | refine m_markOf ?_ ?_ ?_ (fun q => ?_) (fun q => ?_) (fun q => ?_)
      | with_reducible refine ⟨?_, ?_⟩
      | with_reducible intro q
    rw [e2 i i0 i1, Int.bmod_bmod]
    refine ⟨rfl, hY.text r0 r6 (fun q q0 q1 => (hW.2.1 q q0 q1).2.1) w.2.1 (fun a ka k1 k2 => up_ne k2) (fun k hk => by rw [up_ne (by decide)]) (fun q q0 q1 => ?_) (fun j j0 j1 j2 => ?_) (fun j j0 j1 => ?_), (fry.rf M).up (by decide)⟩
    · rw [up_ne (by decide)]
      by_cases h : q = r
      · rw [if_pos h, h]; exact e
      · rw [if_neg h]
    · rw [up_at, if_neg (by omega)]
    · rw [up_at]
      by_cases h : j = i
      · rw [if_pos (by omega)]; exact (if_pos h).symm
      · rw [if_neg (by omega), e2 j j0 j1]; exact (if_neg h).symm
/-! 18 erase, 19 size, 20 letter, 21 kind, 22 mark -/
theorem op_erase {S : Mem} (hW : WF S) {a : Int} (ha : inr a) : OpOK S yX11_erase yX12_erase [Iv a] Iv := by
  by_cases c1 : a < 0 ∨ 8 ≤ a
  · refine ⟨-1, S, hW, fun M hX => eX11_erase ?_, fun M hY => eX12_erase ?_⟩
    · repeat' first
        | omega
        | exact px_rf hX _
        | exact px_fnd hX _ (by decide) (by decide)
        | refine c_noRow ?_ (fun q => ?_) (fun q => ?_)
        | refine c_noText ?_ (fun q => ?_) (fun q => ?_)
        | refine c_noWord ?_ (fun q => ?_) (fun q => ?_)
        | refine c_noLength ?_ (fun q => ?_) (fun q => ?_)
        | refine c_found (by decide) ?_
        | refine c_refuseRow hW hX ?_ (fun q => ?_) (fun q => ?_) (fun q => ?_)
        | refine c_refusePlace hW hX ?_ ?_ (fun q => ?_) (fun q => ?_) (fun q => ?_) (fun q => ?_)
        | refine c_refuseText hW hX ?_ (fun q => ?_) (fun q => ?_) (fun q => ?_)
        | refine c_refuseWords hW hX ?_ ?_ (fun q => ?_) (fun q => ?_) (fun q => ?_)
        | refine c_refuseWord hW hX ?_ (fun q => ?_) (fun q => ?_) (fun q => ?_)
        | refine c_has hL ?_ ?_ (fun q => ?_) (fun q => ?_)
        | refine c_isMissing hL ?_ (fun q => ?_) (fun q => ?_)
        | refine c_reaches hL ?_ ?_ (fun q => ?_) (fun q => ?_)
        | refine c_has hL2 ?_ ?_ (fun q => ?_) (fun q => ?_)
        | refine c_isMissing hL2 ?_ (fun q => ?_) (fun q => ?_)
        | refine c_reaches hL2 ?_ ?_ (fun q => ?_) (fun q => ?_)
        | refine c_is hWd ?_ ?_ (fun q => ?_) (fun q => ?_)
        | refine c_markOf hWd ?_ (fun q => ?_) (fun q => ?_)
        | with_reducible refine ⟨?_, ?_⟩
        | with_reducible intro q
    · repeat' first
        | omega
        | exact py_rf hY _
        | exact py_fnd hY _ (by decide) (by decide)
        | refine m_isRow ?_ (fun q => ?_) (fun q => ?_)
        | refine m_isText ?_ (fun q => ?_) (fun q => ?_)
        | refine m_isWord ?_ (fun q => ?_) (fun q => ?_)
        | refine m_in ?_ ?_ ?_ (fun q => ?_) (fun q => ?_)
        | refine m_meets (by decide) ?_
        | refine m_needWord hW hY ?_ ?_ (fun q => ?_) (fun q => ?_) (fun q => ?_)
        | refine m_needTwo hW hY ?_ ?_ ?_ (fun q => ?_) (fun q => ?_) (fun q => ?_)
        | refine m_isThere ?_ ?_ ?_ (fun q => ?_) (fun q => ?_)
        | refine m_at0 ?_ ?_ ?_
        | refine m_rowAt ?_ ?_ ?_
        | refine m_markOf ?_ ?_ ?_ (fun q => ?_) (fun q => ?_) (fun q => ?_)
        | with_reducible refine ⟨?_, ?_⟩
        | with_reducible intro q
  have r0 : 0 ≤ a := by omega
  have r6 : a < 8 := by omega
  have w := hW.2.2.1 a r0 r6
  by_cases c2 : S (30 + a) (-1) < 0
  · refine ⟨-3, fS S 1, hW.fnd 1, fun M hX => eX11_erase ?_, fun M hY => eX12_erase ?_⟩
    · repeat' first
        | omega
        | exact px_rf hX _
        | exact px_fnd hX _ (by decide) (by decide)
        | refine c_noRow ?_ (fun q => ?_) (fun q => ?_)
        | refine c_noText ?_ (fun q => ?_) (fun q => ?_)
        | refine c_noWord ?_ (fun q => ?_) (fun q => ?_)
        | refine c_noLength ?_ (fun q => ?_) (fun q => ?_)
        | refine c_found (by decide) ?_
        | refine c_refuseRow hW hX ?_ (fun q => ?_) (fun q => ?_) (fun q => ?_)
        | refine c_refusePlace hW hX ?_ ?_ (fun q => ?_) (fun q => ?_) (fun q => ?_) (fun q => ?_)
        | refine c_refuseText hW hX ?_ (fun q => ?_) (fun q => ?_) (fun q => ?_)
        | refine c_refuseWords hW hX ?_ ?_ (fun q => ?_) (fun q => ?_) (fun q => ?_)
        | refine c_refuseWord hW hX ?_ (fun q => ?_) (fun q => ?_) (fun q => ?_)
        | refine c_has hL ?_ ?_ (fun q => ?_) (fun q => ?_)
        | refine c_isMissing hL ?_ (fun q => ?_) (fun q => ?_)
        | refine c_reaches hL ?_ ?_ (fun q => ?_) (fun q => ?_)
        | refine c_has hL2 ?_ ?_ (fun q => ?_) (fun q => ?_)
        | refine c_isMissing hL2 ?_ (fun q => ?_) (fun q => ?_)
        | refine c_reaches hL2 ?_ ?_ (fun q => ?_) (fun q => ?_)
        | refine c_is hWd ?_ ?_ (fun q => ?_) (fun q => ?_)
        | refine c_markOf hWd ?_ (fun q => ?_) (fun q => ?_)
        | with_reducible refine ⟨?_, ?_⟩
        | with_reducible intro q
    · repeat' first
        | omega
        | exact py_rf hY _
        | exact py_fnd hY _ (by decide) (by decide)
        | refine m_isRow ?_ (fun q => ?_) (fun q => ?_)
        | refine m_isText ?_ (fun q => ?_) (fun q => ?_)
        | refine m_isWord ?_ (fun q => ?_) (fun q => ?_)
        | refine m_in ?_ ?_ ?_ (fun q => ?_) (fun q => ?_)
        | refine m_meets (by decide) ?_
        | refine m_needWord hW hY ?_ ?_ (fun q => ?_) (fun q => ?_) (fun q => ?_)
        | refine m_needTwo hW hY ?_ ?_ ?_ (fun q => ?_) (fun q => ?_) (fun q => ?_)
        | refine m_isThere ?_ ?_ ?_ (fun q => ?_) (fun q => ?_)
        | refine m_at0 ?_ ?_ ?_
        | refine m_rowAt ?_ ?_ ?_
        | refine m_markOf ?_ ?_ ?_ (fun q => ?_) (fun q => ?_) (fun q => ?_)
        | with_reducible refine ⟨?_, ?_⟩
        | with_reducible intro q
  refine ⟨1, setWd S a (-1) (S (30 + a)) (S (30 + a) (-2)) (S (30 + a) (-3)) (S (30 + a) (-4)), hW.word r0 r6 (by decide) (by decide) w.1 (fun i i0 i1 => by omega), fun M hX => eX11_erase ?_, fun M hY => eX12_erase ?_⟩
  · obtain ⟨e1, e2, e3⟩ := hX.2.2.1 a r0 r6
    repeat' first
      | omega
      | exact px_rf hX _
      | exact px_fnd hX _ (by decide) (by decide)
      | refine c_noRow ?_ (fun q => ?_) (fun q => ?_)
      | refine c_noText ?_ (fun q => ?_) (fun q => ?_)
      | refine c_noWord ?_ (fun q => ?_) (fun q => ?_)
      | refine c_noLength ?_ (fun q => ?_) (fun q => ?_)
      | refine c_found (by decide) ?_
      | refine c_refuseRow hW hX ?_ (fun q => ?_) (fun q => ?_) (fun q => ?_)
      | refine c_refusePlace hW hX ?_ ?_ (fun q => ?_) (fun q => ?_) (fun q => ?_) (fun q => ?_)
      | refine c_refuseText hW hX ?_ (fun q => ?_) (fun q => ?_) (fun q => ?_)
      | refine c_refuseWords hW hX ?_ ?_ (fun q => ?_) (fun q => ?_) (fun q => ?_)
      | refine c_refuseWord hW hX ?_ (fun q => ?_) (fun q => ?_) (fun q => ?_)
      | refine c_has hL ?_ ?_ (fun q => ?_) (fun q => ?_)
      | refine c_isMissing hL ?_ (fun q => ?_) (fun q => ?_)
      | refine c_reaches hL ?_ ?_ (fun q => ?_) (fun q => ?_)
      | refine c_has hL2 ?_ ?_ (fun q => ?_) (fun q => ?_)
      | refine c_isMissing hL2 ?_ (fun q => ?_) (fun q => ?_)
      | refine c_reaches hL2 ?_ ?_ (fun q => ?_) (fun q => ?_)
      | refine c_is hWd ?_ ?_ (fun q => ?_) (fun q => ?_)
      | refine c_markOf hWd ?_ (fun q => ?_) (fun q => ?_)
      | with_reducible refine ⟨?_, ?_⟩
      | with_reducible intro q
    exact ⟨rfl, hX.word r0 r6 (fun b kb k1 k2 k3 => up_ne k2) (by rw [up_ne (by omega)]; exact e1) (by rw [up_at, if_pos rfl]) (fun i i0 i1 => by omega), (frx.rf M).up (by omega)⟩
  · obtain ⟨⟨e1, e2, e3⟩, e4, e5⟩ := hY.2.2.1 a r0 r6
    repeat' first
      | omega
      | exact py_rf hY _
      | exact py_fnd hY _ (by decide) (by decide)
      | refine m_isRow ?_ (fun q => ?_) (fun q => ?_)
      | refine m_isText ?_ (fun q => ?_) (fun q => ?_)
      | refine m_isWord ?_ (fun q => ?_) (fun q => ?_)
      | refine m_in ?_ ?_ ?_ (fun q => ?_) (fun q => ?_)
      | refine m_meets (by decide) ?_
      | refine m_needWord hW hY ?_ ?_ (fun q => ?_) (fun q => ?_) (fun q => ?_)
      | refine m_needTwo hW hY ?_ ?_ ?_ (fun q => ?_) (fun q => ?_) (fun q => ?_)
      | refine m_isThere ?_ ?_ ?_ (fun q => ?_) (fun q => ?_)
      | refine m_at0 ?_ ?_ ?_
      | refine m_rowAt ?_ ?_ ?_
      | refine m_markOf ?_ ?_ ?_ (fun q => ?_) (fun q => ?_) (fun q => ?_)
      | with_reducible refine ⟨?_, ?_⟩
      | with_reducible intro q
    refine ⟨rfl, hY.word r0 r6 (fun q q0 q1 => (hW.2.2.1 q q0 q1).2.2.1) (by decide) (fun b kb k1 => up_ne (by omega)) (fun k hk => by rw [up_ne (by decide)]) (fun q q0 q1 => ?_) (fun i i0 i1 i2 => by rw [up_ne (by decide)]) (fun i i0 i1 => by omega), (fry.rf M).up (by decide)⟩
    refine ⟨by rw [up_at], ?_, ?_, ?_⟩ <;> rw [up_ne (by decide)]
    · by_cases h : q = a
      · rw [if_pos h, h]; exact e1
      · rw [if_neg h]
    · by_cases h : q = a
      · rw [if_pos h, h]; exact e2
      · rw [if_neg h]
    · by_cases h : q = a
      · rw [if_pos h, h]; exact e3
      · rw [if_neg h]
theorem op_size {S : Mem} (hW : WF S) {a : Int} (ha : inr a) : OpOK S yX11_size yX12_size [Iv a] Iv := by
  by_cases c1 : a < 0 ∨ 8 ≤ a
  · refine ⟨-1, S, hW, fun M hX => eX11_size ?_, fun M hY => eX12_size ?_⟩
    · repeat' first
        | omega
        | exact px_rf hX _
        | exact px_fnd hX _ (by decide) (by decide)
        | refine c_noRow ?_ (fun q => ?_) (fun q => ?_)
        | refine c_noText ?_ (fun q => ?_) (fun q => ?_)
        | refine c_noWord ?_ (fun q => ?_) (fun q => ?_)
        | refine c_noLength ?_ (fun q => ?_) (fun q => ?_)
        | refine c_found (by decide) ?_
        | refine c_refuseRow hW hX ?_ (fun q => ?_) (fun q => ?_) (fun q => ?_)
        | refine c_refusePlace hW hX ?_ ?_ (fun q => ?_) (fun q => ?_) (fun q => ?_) (fun q => ?_)
        | refine c_refuseText hW hX ?_ (fun q => ?_) (fun q => ?_) (fun q => ?_)
        | refine c_refuseWords hW hX ?_ ?_ (fun q => ?_) (fun q => ?_) (fun q => ?_)
        | refine c_refuseWord hW hX ?_ (fun q => ?_) (fun q => ?_) (fun q => ?_)
        | refine c_has hL ?_ ?_ (fun q => ?_) (fun q => ?_)
        | refine c_isMissing hL ?_ (fun q => ?_) (fun q => ?_)
        | refine c_reaches hL ?_ ?_ (fun q => ?_) (fun q => ?_)
        | refine c_has hL2 ?_ ?_ (fun q => ?_) (fun q => ?_)
        | refine c_isMissing hL2 ?_ (fun q => ?_) (fun q => ?_)
        | refine c_reaches hL2 ?_ ?_ (fun q => ?_) (fun q => ?_)
        | refine c_is hWd ?_ ?_ (fun q => ?_) (fun q => ?_)
        | refine c_markOf hWd ?_ (fun q => ?_) (fun q => ?_)
        | with_reducible refine ⟨?_, ?_⟩
        | with_reducible intro q
    · repeat' first
        | omega
        | exact py_rf hY _
        | exact py_fnd hY _ (by decide) (by decide)
        | refine m_isRow ?_ (fun q => ?_) (fun q => ?_)
        | refine m_isText ?_ (fun q => ?_) (fun q => ?_)
        | refine m_isWord ?_ (fun q => ?_) (fun q => ?_)
        | refine m_in ?_ ?_ ?_ (fun q => ?_) (fun q => ?_)
        | refine m_meets (by decide) ?_
        | refine m_needWord hW hY ?_ ?_ (fun q => ?_) (fun q => ?_) (fun q => ?_)
        | refine m_needTwo hW hY ?_ ?_ ?_ (fun q => ?_) (fun q => ?_) (fun q => ?_)
        | refine m_isThere ?_ ?_ ?_ (fun q => ?_) (fun q => ?_)
        | refine m_at0 ?_ ?_ ?_
        | refine m_rowAt ?_ ?_ ?_
        | refine m_markOf ?_ ?_ ?_ (fun q => ?_) (fun q => ?_) (fun q => ?_)
        | with_reducible refine ⟨?_, ?_⟩
        | with_reducible intro q
  have r0 : 0 ≤ a := by omega
  have r6 : a < 8 := by omega
  have w := hW.2.2.1 a r0 r6
  by_cases c2 : S (30 + a) (-1) < 0
  · refine ⟨-3, fS S 1, hW.fnd 1, fun M hX => eX11_size ?_, fun M hY => eX12_size ?_⟩
    · repeat' first
        | omega
        | exact px_rf hX _
        | exact px_fnd hX _ (by decide) (by decide)
        | refine c_noRow ?_ (fun q => ?_) (fun q => ?_)
        | refine c_noText ?_ (fun q => ?_) (fun q => ?_)
        | refine c_noWord ?_ (fun q => ?_) (fun q => ?_)
        | refine c_noLength ?_ (fun q => ?_) (fun q => ?_)
        | refine c_found (by decide) ?_
        | refine c_refuseRow hW hX ?_ (fun q => ?_) (fun q => ?_) (fun q => ?_)
        | refine c_refusePlace hW hX ?_ ?_ (fun q => ?_) (fun q => ?_) (fun q => ?_) (fun q => ?_)
        | refine c_refuseText hW hX ?_ (fun q => ?_) (fun q => ?_) (fun q => ?_)
        | refine c_refuseWords hW hX ?_ ?_ (fun q => ?_) (fun q => ?_) (fun q => ?_)
        | refine c_refuseWord hW hX ?_ (fun q => ?_) (fun q => ?_) (fun q => ?_)
        | refine c_has hL ?_ ?_ (fun q => ?_) (fun q => ?_)
        | refine c_isMissing hL ?_ (fun q => ?_) (fun q => ?_)
        | refine c_reaches hL ?_ ?_ (fun q => ?_) (fun q => ?_)
        | refine c_has hL2 ?_ ?_ (fun q => ?_) (fun q => ?_)
        | refine c_isMissing hL2 ?_ (fun q => ?_) (fun q => ?_)
        | refine c_reaches hL2 ?_ ?_ (fun q => ?_) (fun q => ?_)
        | refine c_is hWd ?_ ?_ (fun q => ?_) (fun q => ?_)
        | refine c_markOf hWd ?_ (fun q => ?_) (fun q => ?_)
        | with_reducible refine ⟨?_, ?_⟩
        | with_reducible intro q
    · repeat' first
        | omega
        | exact py_rf hY _
        | exact py_fnd hY _ (by decide) (by decide)
        | refine m_isRow ?_ (fun q => ?_) (fun q => ?_)
        | refine m_isText ?_ (fun q => ?_) (fun q => ?_)
        | refine m_isWord ?_ (fun q => ?_) (fun q => ?_)
        | refine m_in ?_ ?_ ?_ (fun q => ?_) (fun q => ?_)
        | refine m_meets (by decide) ?_
        | refine m_needWord hW hY ?_ ?_ (fun q => ?_) (fun q => ?_) (fun q => ?_)
        | refine m_needTwo hW hY ?_ ?_ ?_ (fun q => ?_) (fun q => ?_) (fun q => ?_)
        | refine m_isThere ?_ ?_ ?_ (fun q => ?_) (fun q => ?_)
        | refine m_at0 ?_ ?_ ?_
        | refine m_rowAt ?_ ?_ ?_
        | refine m_markOf ?_ ?_ ?_ (fun q => ?_) (fun q => ?_) (fun q => ?_)
        | with_reducible refine ⟨?_, ?_⟩
        | with_reducible intro q
  refine ⟨S (30 + a) (-1), S, hW, fun M hX => eX11_size ?_, fun M hY => eX12_size ?_⟩
  · have e := (hX.2.2.1 a r0 r6).2.1
    repeat' first
      | omega
      | exact px_rf hX _
      | exact px_fnd hX _ (by decide) (by decide)
      | refine c_noRow ?_ (fun q => ?_) (fun q => ?_)
      | refine c_noText ?_ (fun q => ?_) (fun q => ?_)
      | refine c_noWord ?_ (fun q => ?_) (fun q => ?_)
      | refine c_noLength ?_ (fun q => ?_) (fun q => ?_)
      | refine c_found (by decide) ?_
      | refine c_refuseRow hW hX ?_ (fun q => ?_) (fun q => ?_) (fun q => ?_)
      | refine c_refusePlace hW hX ?_ ?_ (fun q => ?_) (fun q => ?_) (fun q => ?_) (fun q => ?_)
      | refine c_refuseText hW hX ?_ (fun q => ?_) (fun q => ?_) (fun q => ?_)
      | refine c_refuseWords hW hX ?_ ?_ (fun q => ?_) (fun q => ?_) (fun q => ?_)
      | refine c_refuseWord hW hX ?_ (fun q => ?_) (fun q => ?_) (fun q => ?_)
      | refine c_has hL ?_ ?_ (fun q => ?_) (fun q => ?_)
      | refine c_isMissing hL ?_ (fun q => ?_) (fun q => ?_)
      | refine c_reaches hL ?_ ?_ (fun q => ?_) (fun q => ?_)
      | refine c_has hL2 ?_ ?_ (fun q => ?_) (fun q => ?_)
      | refine c_isMissing hL2 ?_ (fun q => ?_) (fun q => ?_)
      | refine c_reaches hL2 ?_ ?_ (fun q => ?_) (fun q => ?_)
      | refine c_is hWd ?_ ?_ (fun q => ?_) (fun q => ?_)
      | refine c_markOf hWd ?_ (fun q => ?_) (fun q => ?_)
      | with_reducible refine ⟨?_, ?_⟩
      | with_reducible intro q
    rw [e]; exact px_rf hX _
  · have e := (hY.2.2.1 a r0 r6).2.1
    repeat' first
      | omega
      | exact py_rf hY _
      | exact py_fnd hY _ (by decide) (by decide)
      | refine m_isRow ?_ (fun q => ?_) (fun q => ?_)
      | refine m_isText ?_ (fun q => ?_) (fun q => ?_)
      | refine m_isWord ?_ (fun q => ?_) (fun q => ?_)
      | refine m_in ?_ ?_ ?_ (fun q => ?_) (fun q => ?_)
      | refine m_meets (by decide) ?_
      | refine m_needWord hW hY ?_ ?_ (fun q => ?_) (fun q => ?_) (fun q => ?_)
      | refine m_needTwo hW hY ?_ ?_ ?_ (fun q => ?_) (fun q => ?_) (fun q => ?_)
      | refine m_isThere ?_ ?_ ?_ (fun q => ?_) (fun q => ?_)
      | refine m_at0 ?_ ?_ ?_
      | refine m_rowAt ?_ ?_ ?_
      | refine m_markOf ?_ ?_ ?_ (fun q => ?_) (fun q => ?_) (fun q => ?_)
      | with_reducible refine ⟨?_, ?_⟩
      | with_reducible intro q
    rw [e]; exact py_rf hY _
theorem op_kind {S : Mem} (hW : WF S) {a : Int} (ha : inr a) : OpOK S yX11_kind yX12_kind [Iv a] Iv := by
  by_cases c1 : a < 0 ∨ 8 ≤ a
  · refine ⟨-1, S, hW, fun M hX => eX11_kind ?_, fun M hY => eX12_kind ?_⟩
    · repeat' first
        | omega
        | exact px_rf hX _
        | exact px_fnd hX _ (by decide) (by decide)
        | refine c_noRow ?_ (fun q => ?_) (fun q => ?_)
        | refine c_noText ?_ (fun q => ?_) (fun q => ?_)
        | refine c_noWord ?_ (fun q => ?_) (fun q => ?_)
        | refine c_noLength ?_ (fun q => ?_) (fun q => ?_)
        | refine c_found (by decide) ?_
        | refine c_refuseRow hW hX ?_ (fun q => ?_) (fun q => ?_) (fun q => ?_)
        | refine c_refusePlace hW hX ?_ ?_ (fun q => ?_) (fun q => ?_) (fun q => ?_) (fun q => ?_)
        | refine c_refuseText hW hX ?_ (fun q => ?_) (fun q => ?_) (fun q => ?_)
        | refine c_refuseWords hW hX ?_ ?_ (fun q => ?_) (fun q => ?_) (fun q => ?_)
        | refine c_refuseWord hW hX ?_ (fun q => ?_) (fun q => ?_) (fun q => ?_)
        | refine c_has hL ?_ ?_ (fun q => ?_) (fun q => ?_)
        | refine c_isMissing hL ?_ (fun q => ?_) (fun q => ?_)
        | refine c_reaches hL ?_ ?_ (fun q => ?_) (fun q => ?_)
        | refine c_has hL2 ?_ ?_ (fun q => ?_) (fun q => ?_)
        | refine c_isMissing hL2 ?_ (fun q => ?_) (fun q => ?_)
        | refine c_reaches hL2 ?_ ?_ (fun q => ?_) (fun q => ?_)
        | refine c_is hWd ?_ ?_ (fun q => ?_) (fun q => ?_)
        | refine c_markOf hWd ?_ (fun q => ?_) (fun q => ?_)
        | with_reducible refine ⟨?_, ?_⟩
        | with_reducible intro q
    · repeat' first
        | omega
        | exact py_rf hY _
        | exact py_fnd hY _ (by decide) (by decide)
        | refine m_isRow ?_ (fun q => ?_) (fun q => ?_)
        | refine m_isText ?_ (fun q => ?_) (fun q => ?_)
        | refine m_isWord ?_ (fun q => ?_) (fun q => ?_)
        | refine m_in ?_ ?_ ?_ (fun q => ?_) (fun q => ?_)
        | refine m_meets (by decide) ?_
        | refine m_needWord hW hY ?_ ?_ (fun q => ?_) (fun q => ?_) (fun q => ?_)
        | refine m_needTwo hW hY ?_ ?_ ?_ (fun q => ?_) (fun q => ?_) (fun q => ?_)
        | refine m_isThere ?_ ?_ ?_ (fun q => ?_) (fun q => ?_)
        | refine m_at0 ?_ ?_ ?_
        | refine m_rowAt ?_ ?_ ?_
        | refine m_markOf ?_ ?_ ?_ (fun q => ?_) (fun q => ?_) (fun q => ?_)
        | with_reducible refine ⟨?_, ?_⟩
        | with_reducible intro q
  have r0 : 0 ≤ a := by omega
  have r6 : a < 8 := by omega
  have w := hW.2.2.1 a r0 r6
  by_cases c2 : S (30 + a) (-1) < 0
  · refine ⟨-3, fS S 1, hW.fnd 1, fun M hX => eX11_kind ?_, fun M hY => eX12_kind ?_⟩
    · repeat' first
        | omega
        | exact px_rf hX _
        | exact px_fnd hX _ (by decide) (by decide)
        | refine c_noRow ?_ (fun q => ?_) (fun q => ?_)
        | refine c_noText ?_ (fun q => ?_) (fun q => ?_)
        | refine c_noWord ?_ (fun q => ?_) (fun q => ?_)
        | refine c_noLength ?_ (fun q => ?_) (fun q => ?_)
        | refine c_found (by decide) ?_
        | refine c_refuseRow hW hX ?_ (fun q => ?_) (fun q => ?_) (fun q => ?_)
        | refine c_refusePlace hW hX ?_ ?_ (fun q => ?_) (fun q => ?_) (fun q => ?_) (fun q => ?_)
        | refine c_refuseText hW hX ?_ (fun q => ?_) (fun q => ?_) (fun q => ?_)
        | refine c_refuseWords hW hX ?_ ?_ (fun q => ?_) (fun q => ?_) (fun q => ?_)
        | refine c_refuseWord hW hX ?_ (fun q => ?_) (fun q => ?_) (fun q => ?_)
        | refine c_has hL ?_ ?_ (fun q => ?_) (fun q => ?_)
        | refine c_isMissing hL ?_ (fun q => ?_) (fun q => ?_)
        | refine c_reaches hL ?_ ?_ (fun q => ?_) (fun q => ?_)
        | refine c_has hL2 ?_ ?_ (fun q => ?_) (fun q => ?_)
        | refine c_isMissing hL2 ?_ (fun q => ?_) (fun q => ?_)
        | refine c_reaches hL2 ?_ ?_ (fun q => ?_) (fun q => ?_)
        | refine c_is hWd ?_ ?_ (fun q => ?_) (fun q => ?_)
        | refine c_markOf hWd ?_ (fun q => ?_) (fun q => ?_)
        | with_reducible refine ⟨?_, ?_⟩
        | with_reducible intro q
    · repeat' first
        | omega
        | exact py_rf hY _
        | exact py_fnd hY _ (by decide) (by decide)
        | refine m_isRow ?_ (fun q => ?_) (fun q => ?_)
        | refine m_isText ?_ (fun q => ?_) (fun q => ?_)
        | refine m_isWord ?_ (fun q => ?_) (fun q => ?_)
        | refine m_in ?_ ?_ ?_ (fun q => ?_) (fun q => ?_)
        | refine m_meets (by decide) ?_
        | refine m_needWord hW hY ?_ ?_ (fun q => ?_) (fun q => ?_) (fun q => ?_)
        | refine m_needTwo hW hY ?_ ?_ ?_ (fun q => ?_) (fun q => ?_) (fun q => ?_)
        | refine m_isThere ?_ ?_ ?_ (fun q => ?_) (fun q => ?_)
        | refine m_at0 ?_ ?_ ?_
        | refine m_rowAt ?_ ?_ ?_
        | refine m_markOf ?_ ?_ ?_ (fun q => ?_) (fun q => ?_) (fun q => ?_)
        | with_reducible refine ⟨?_, ?_⟩
        | with_reducible intro q
  refine ⟨S (30 + a) (-2), S, hW, fun M hX => eX11_kind ?_, fun M hY => eX12_kind ?_⟩
  · have e := (hX.2.2.1 a r0 r6).1.1
    repeat' first
      | omega
      | exact px_rf hX _
      | exact px_fnd hX _ (by decide) (by decide)
      | refine c_noRow ?_ (fun q => ?_) (fun q => ?_)
      | refine c_noText ?_ (fun q => ?_) (fun q => ?_)
      | refine c_noWord ?_ (fun q => ?_) (fun q => ?_)
      | refine c_noLength ?_ (fun q => ?_) (fun q => ?_)
      | refine c_found (by decide) ?_
      | refine c_refuseRow hW hX ?_ (fun q => ?_) (fun q => ?_) (fun q => ?_)
      | refine c_refusePlace hW hX ?_ ?_ (fun q => ?_) (fun q => ?_) (fun q => ?_) (fun q => ?_)
      | refine c_refuseText hW hX ?_ (fun q => ?_) (fun q => ?_) (fun q => ?_)
      | refine c_refuseWords hW hX ?_ ?_ (fun q => ?_) (fun q => ?_) (fun q => ?_)
      | refine c_refuseWord hW hX ?_ (fun q => ?_) (fun q => ?_) (fun q => ?_)
      | refine c_has hL ?_ ?_ (fun q => ?_) (fun q => ?_)
      | refine c_isMissing hL ?_ (fun q => ?_) (fun q => ?_)
      | refine c_reaches hL ?_ ?_ (fun q => ?_) (fun q => ?_)
      | refine c_has hL2 ?_ ?_ (fun q => ?_) (fun q => ?_)
      | refine c_isMissing hL2 ?_ (fun q => ?_) (fun q => ?_)
      | refine c_reaches hL2 ?_ ?_ (fun q => ?_) (fun q => ?_)
      | refine c_is hWd ?_ ?_ (fun q => ?_) (fun q => ?_)
      | refine c_markOf hWd ?_ (fun q => ?_) (fun q => ?_)
      | with_reducible refine ⟨?_, ?_⟩
      | with_reducible intro q
    rw [e]; exact px_rf hX _
  · have e := (hY.2.2.1 a r0 r6).1.1
    repeat' first
      | omega
      | exact py_rf hY _
      | exact py_fnd hY _ (by decide) (by decide)
      | refine m_isRow ?_ (fun q => ?_) (fun q => ?_)
      | refine m_isText ?_ (fun q => ?_) (fun q => ?_)
      | refine m_isWord ?_ (fun q => ?_) (fun q => ?_)
      | refine m_in ?_ ?_ ?_ (fun q => ?_) (fun q => ?_)
      | refine m_meets (by decide) ?_
      | refine m_needWord hW hY ?_ ?_ (fun q => ?_) (fun q => ?_) (fun q => ?_)
      | refine m_needTwo hW hY ?_ ?_ ?_ (fun q => ?_) (fun q => ?_) (fun q => ?_)
      | refine m_isThere ?_ ?_ ?_ (fun q => ?_) (fun q => ?_)
      | refine m_at0 ?_ ?_ ?_
      | refine m_rowAt ?_ ?_ ?_
      | refine m_markOf ?_ ?_ ?_ (fun q => ?_) (fun q => ?_) (fun q => ?_)
      | with_reducible refine ⟨?_, ?_⟩
      | with_reducible intro q
    rw [e]; exact py_rf hY _
theorem op_letter {S : Mem} (hW : WF S) {a i : Int} (ha : inr a) (hi : inr i) : OpOK S yX11_letter yX12_letter [Iv a, Iv i] Iv := by
  by_cases c1 : a < 0 ∨ 8 ≤ a
  · refine ⟨-1, S, hW, fun M hX => eX11_letter ?_, fun M hY => eX12_letter ?_⟩
    · repeat' first
        | omega
        | exact px_rf hX _
        | exact px_fnd hX _ (by decide) (by decide)
        | refine c_noRow ?_ (fun q => ?_) (fun q => ?_)
        | refine c_noText ?_ (fun q => ?_) (fun q => ?_)
        | refine c_noWord ?_ (fun q => ?_) (fun q => ?_)
        | refine c_noLength ?_ (fun q => ?_) (fun q => ?_)
        | refine c_found (by decide) ?_
        | refine c_refuseRow hW hX ?_ (fun q => ?_) (fun q => ?_) (fun q => ?_)
        | refine c_refusePlace hW hX ?_ ?_ (fun q => ?_) (fun q => ?_) (fun q => ?_) (fun q => ?_)
        | refine c_refuseText hW hX ?_ (fun q => ?_) (fun q => ?_) (fun q => ?_)
        | refine c_refuseWords hW hX ?_ ?_ (fun q => ?_) (fun q => ?_) (fun q => ?_)
        | refine c_refuseWord hW hX ?_ (fun q => ?_) (fun q => ?_) (fun q => ?_)
        | refine c_has hL ?_ ?_ (fun q => ?_) (fun q => ?_)
        | refine c_isMissing hL ?_ (fun q => ?_) (fun q => ?_)
        | refine c_reaches hL ?_ ?_ (fun q => ?_) (fun q => ?_)
        | refine c_has hL2 ?_ ?_ (fun q => ?_) (fun q => ?_)
        | refine c_isMissing hL2 ?_ (fun q => ?_) (fun q => ?_)
        | refine c_reaches hL2 ?_ ?_ (fun q => ?_) (fun q => ?_)
        | refine c_is hWd ?_ ?_ (fun q => ?_) (fun q => ?_)
        | refine c_markOf hWd ?_ (fun q => ?_) (fun q => ?_)
        | with_reducible refine ⟨?_, ?_⟩
        | with_reducible intro q
    · repeat' first
        | omega
        | exact py_rf hY _
        | exact py_fnd hY _ (by decide) (by decide)
        | refine m_isRow ?_ (fun q => ?_) (fun q => ?_)
        | refine m_isText ?_ (fun q => ?_) (fun q => ?_)
        | refine m_isWord ?_ (fun q => ?_) (fun q => ?_)
        | refine m_in ?_ ?_ ?_ (fun q => ?_) (fun q => ?_)
        | refine m_meets (by decide) ?_
        | refine m_needWord hW hY ?_ ?_ (fun q => ?_) (fun q => ?_) (fun q => ?_)
        | refine m_needTwo hW hY ?_ ?_ ?_ (fun q => ?_) (fun q => ?_) (fun q => ?_)
        | refine m_isThere ?_ ?_ ?_ (fun q => ?_) (fun q => ?_)
        | refine m_at0 ?_ ?_ ?_
        | refine m_rowAt ?_ ?_ ?_
        | refine m_markOf ?_ ?_ ?_ (fun q => ?_) (fun q => ?_) (fun q => ?_)
        | with_reducible refine ⟨?_, ?_⟩
        | with_reducible intro q
  have r0 : 0 ≤ a := by omega
  have r6 : a < 8 := by omega
  have w := hW.2.2.1 a r0 r6
  have hL := (isW_word r0 r6).l
  by_cases c2 : S (30 + a) (-1) < 0
  · refine ⟨-3, fS S 1, hW.fnd 1, fun M hX => eX11_letter ?_, fun M hY => eX12_letter ?_⟩
    · repeat' first
        | omega
        | exact px_rf hX _
        | exact px_fnd hX _ (by decide) (by decide)
        | refine c_noRow ?_ (fun q => ?_) (fun q => ?_)
        | refine c_noText ?_ (fun q => ?_) (fun q => ?_)
        | refine c_noWord ?_ (fun q => ?_) (fun q => ?_)
        | refine c_noLength ?_ (fun q => ?_) (fun q => ?_)
        | refine c_found (by decide) ?_
        | refine c_refuseRow hW hX ?_ (fun q => ?_) (fun q => ?_) (fun q => ?_)
        | refine c_refusePlace hW hX ?_ ?_ (fun q => ?_) (fun q => ?_) (fun q => ?_) (fun q => ?_)
        | refine c_refuseText hW hX ?_ (fun q => ?_) (fun q => ?_) (fun q => ?_)
        | refine c_refuseWords hW hX ?_ ?_ (fun q => ?_) (fun q => ?_) (fun q => ?_)
        | refine c_refuseWord hW hX ?_ (fun q => ?_) (fun q => ?_) (fun q => ?_)
        | refine c_has hL ?_ ?_ (fun q => ?_) (fun q => ?_)
        | refine c_isMissing hL ?_ (fun q => ?_) (fun q => ?_)
        | refine c_reaches hL ?_ ?_ (fun q => ?_) (fun q => ?_)
        | refine c_has hL2 ?_ ?_ (fun q => ?_) (fun q => ?_)
        | refine c_isMissing hL2 ?_ (fun q => ?_) (fun q => ?_)
        | refine c_reaches hL2 ?_ ?_ (fun q => ?_) (fun q => ?_)
        | refine c_is hWd ?_ ?_ (fun q => ?_) (fun q => ?_)
        | refine c_markOf hWd ?_ (fun q => ?_) (fun q => ?_)
        | with_reducible refine ⟨?_, ?_⟩
        | with_reducible intro q
    · repeat' first
        | omega
        | exact py_rf hY _
        | exact py_fnd hY _ (by decide) (by decide)
        | refine m_isRow ?_ (fun q => ?_) (fun q => ?_)
        | refine m_isText ?_ (fun q => ?_) (fun q => ?_)
        | refine m_isWord ?_ (fun q => ?_) (fun q => ?_)
        | refine m_in ?_ ?_ ?_ (fun q => ?_) (fun q => ?_)
        | refine m_meets (by decide) ?_
        | refine m_needWord hW hY ?_ ?_ (fun q => ?_) (fun q => ?_) (fun q => ?_)
        | refine m_needTwo hW hY ?_ ?_ ?_ (fun q => ?_) (fun q => ?_) (fun q => ?_)
        | refine m_isThere ?_ ?_ ?_ (fun q => ?_) (fun q => ?_)
        | refine m_at0 ?_ ?_ ?_
        | refine m_rowAt ?_ ?_ ?_
        | refine m_markOf ?_ ?_ ?_ (fun q => ?_) (fun q => ?_) (fun q => ?_)
        | with_reducible refine ⟨?_, ?_⟩
        | with_reducible intro q
  by_cases c3 : i < 0 ∨ S (30 + a) (-1) ≤ i
  · refine ⟨-3, fS S 2, hW.fnd 2, fun M hX => eX11_letter ?_, fun M hY => eX12_letter ?_⟩
    · have e := (hX.2.2.1 a r0 r6).2.1
      repeat' first
        | omega
        | exact px_rf hX _
        | exact px_fnd hX _ (by decide) (by decide)
        | refine c_noRow ?_ (fun q => ?_) (fun q => ?_)
        | refine c_noText ?_ (fun q => ?_) (fun q => ?_)
        | refine c_noWord ?_ (fun q => ?_) (fun q => ?_)
        | refine c_noLength ?_ (fun q => ?_) (fun q => ?_)
        | refine c_found (by decide) ?_
        | refine c_refuseRow hW hX ?_ (fun q => ?_) (fun q => ?_) (fun q => ?_)
        | refine c_refusePlace hW hX ?_ ?_ (fun q => ?_) (fun q => ?_) (fun q => ?_) (fun q => ?_)
        | refine c_refuseText hW hX ?_ (fun q => ?_) (fun q => ?_) (fun q => ?_)
        | refine c_refuseWords hW hX ?_ ?_ (fun q => ?_) (fun q => ?_) (fun q => ?_)
        | refine c_refuseWord hW hX ?_ (fun q => ?_) (fun q => ?_) (fun q => ?_)
        | refine c_has hL ?_ ?_ (fun q => ?_) (fun q => ?_)
        | refine c_isMissing hL ?_ (fun q => ?_) (fun q => ?_)
        | refine c_reaches hL ?_ ?_ (fun q => ?_) (fun q => ?_)
        | refine c_has hL2 ?_ ?_ (fun q => ?_) (fun q => ?_)
        | refine c_isMissing hL2 ?_ (fun q => ?_) (fun q => ?_)
        | refine c_reaches hL2 ?_ ?_ (fun q => ?_) (fun q => ?_)
        | refine c_is hWd ?_ ?_ (fun q => ?_) (fun q => ?_)
        | refine c_markOf hWd ?_ (fun q => ?_) (fun q => ?_)
        | with_reducible refine ⟨?_, ?_⟩
        | with_reducible intro q
    · have e := (hY.2.2.1 a r0 r6).2.1
      repeat' first
        | omega
        | exact py_rf hY _
        | exact py_fnd hY _ (by decide) (by decide)
        | refine m_isRow ?_ (fun q => ?_) (fun q => ?_)
        | refine m_isText ?_ (fun q => ?_) (fun q => ?_)
        | refine m_isWord ?_ (fun q => ?_) (fun q => ?_)
        | refine m_in ?_ ?_ ?_ (fun q => ?_) (fun q => ?_)
        | refine m_meets (by decide) ?_
        | refine m_needWord hW hY ?_ ?_ (fun q => ?_) (fun q => ?_) (fun q => ?_)
        | refine m_needTwo hW hY ?_ ?_ ?_ (fun q => ?_) (fun q => ?_) (fun q => ?_)
        | refine m_isThere ?_ ?_ ?_ (fun q => ?_) (fun q => ?_)
        | refine m_at0 ?_ ?_ ?_
        | refine m_rowAt ?_ ?_ ?_
        | refine m_markOf ?_ ?_ ?_ (fun q => ?_) (fun q => ?_) (fun q => ?_)
        | with_reducible refine ⟨?_, ?_⟩
        | with_reducible intro q
  have i0 : 0 ≤ i := by omega
  have i1 : i < S (30 + a) (-1) := by omega
  refine ⟨S (30 + a) i, S, hW, fun M hX => eX11_letter ?_, fun M hY => eX12_letter ?_⟩
  · obtain ⟨-, e, e2⟩ := hX.2.2.1 a r0 r6
    repeat' first
      | omega
      | exact px_rf hX _
      | exact px_fnd hX _ (by decide) (by decide)
      | refine c_noRow ?_ (fun q => ?_) (fun q => ?_)
      | refine c_noText ?_ (fun q => ?_) (fun q => ?_)
      | refine c_noWord ?_ (fun q => ?_) (fun q => ?_)
      | refine c_noLength ?_ (fun q => ?_) (fun q => ?_)
      | refine c_found (by decide) ?_
      | refine c_refuseRow hW hX ?_ (fun q => ?_) (fun q => ?_) (fun q => ?_)
      | refine c_refusePlace hW hX ?_ ?_ (fun q => ?_) (fun q => ?_) (fun q => ?_) (fun q => ?_)
      | refine c_refuseText hW hX ?_ (fun q => ?_) (fun q => ?_) (fun q => ?_)
      | refine c_refuseWords hW hX ?_ ?_ (fun q => ?_) (fun q => ?_) (fun q => ?_)
      | refine c_refuseWord hW hX ?_ (fun q => ?_) (fun q => ?_) (fun q => ?_)
      | refine c_has hL ?_ ?_ (fun q => ?_) (fun q => ?_)
      | refine c_isMissing hL ?_ (fun q => ?_) (fun q => ?_)
      | refine c_reaches hL ?_ ?_ (fun q => ?_) (fun q => ?_)
      | refine c_has hL2 ?_ ?_ (fun q => ?_) (fun q => ?_)
      | refine c_isMissing hL2 ?_ (fun q => ?_) (fun q => ?_)
      | refine c_reaches hL2 ?_ ?_ (fun q => ?_) (fun q => ?_)
      | refine c_is hWd ?_ ?_ (fun q => ?_) (fun q => ?_)
      | refine c_markOf hWd ?_ (fun q => ?_) (fun q => ?_)
      | with_reducible refine ⟨?_, ?_⟩
      | with_reducible intro q
    rw [e2 i i0 i1]; exact px_rf hX _
  · obtain ⟨-, e, e2⟩ := hY.2.2.1 a r0 r6
    repeat' first
      | omega
      | exact py_rf hY _
      | exact py_fnd hY _ (by decide) (by decide)
      | refine m_isRow ?_ (fun q => ?_) (fun q => ?_)
      | refine m_isText ?_ (fun q => ?_) (fun q => ?_)
      | refine m_isWord ?_ (fun q => ?_) (fun q => ?_)
      | refine m_in ?_ ?_ ?_ (fun q => ?_) (fun q => ?_)
      | refine m_meets (by decide) ?_
      | refine m_needWord hW hY ?_ ?_ (fun q => ?_) (fun q => ?_) (fun q => ?_)
      | refine m_needTwo hW hY ?_ ?_ ?_ (fun q => ?_) (fun q => ?_) (fun q => ?_)
      | refine m_isThere ?_ ?_ ?_ (fun q => ?_) (fun q => ?_)
      | refine m_at0 ?_ ?_ ?_
      | refine m_rowAt ?_ ?_ ?_
      | refine m_markOf ?_ ?_ ?_ (fun q => ?_) (fun q => ?_) (fun q => ?_)
      | with_reducible refine ⟨?_, ?_⟩
      | with_reducible intro q
    show PY S (Iv (S (30 + a) i)) M (Iv (M 96 (40 * a + i))) M
    rw [e2 i i0 i1]; exact py_rf hY _
theorem op_mark {S : Mem} (hW : WF S) {a k : Int} (ha : inr a) (hk : inr k) : OpOK S yX11_mark yX12_mark [Iv a, Iv k] Iv := by
  by_cases c1 : (a < 0 ∨ 8 ≤ a) ∨ (k < 1 ∨ 4 < k)
  · refine ⟨-1, S, hW, fun M hX => eX11_mark ?_, fun M hY => eX12_mark ?_⟩
    · repeat' first
        | omega
        | exact px_rf hX _
        | exact px_fnd hX _ (by decide) (by decide)
        | refine c_noRow ?_ (fun q => ?_) (fun q => ?_)
        | refine c_noText ?_ (fun q => ?_) (fun q => ?_)
        | refine c_noWord ?_ (fun q => ?_) (fun q => ?_)
        | refine c_noLength ?_ (fun q => ?_) (fun q => ?_)
        | refine c_found (by decide) ?_
        | refine c_refuseRow hW hX ?_ (fun q => ?_) (fun q => ?_) (fun q => ?_)
        | refine c_refusePlace hW hX ?_ ?_ (fun q => ?_) (fun q => ?_) (fun q => ?_) (fun q => ?_)
        | refine c_refuseText hW hX ?_ (fun q => ?_) (fun q => ?_) (fun q => ?_)
        | refine c_refuseWords hW hX ?_ ?_ (fun q => ?_) (fun q => ?_) (fun q => ?_)
        | refine c_refuseWord hW hX ?_ (fun q => ?_) (fun q => ?_) (fun q => ?_)
        | refine c_has hL ?_ ?_ (fun q => ?_) (fun q => ?_)
        | refine c_isMissing hL ?_ (fun q => ?_) (fun q => ?_)
        | refine c_reaches hL ?_ ?_ (fun q => ?_) (fun q => ?_)
        | refine c_has hL2 ?_ ?_ (fun q => ?_) (fun q => ?_)
        | refine c_isMissing hL2 ?_ (fun q => ?_) (fun q => ?_)
        | refine c_reaches hL2 ?_ ?_ (fun q => ?_) (fun q => ?_)
        | refine c_is hWd ?_ ?_ (fun q => ?_) (fun q => ?_)
        | refine c_markOf hWd ?_ (fun q => ?_) (fun q => ?_)
        | with_reducible refine ⟨?_, ?_⟩
        | with_reducible intro q
    · repeat' first
        | omega
        | exact py_rf hY _
        | exact py_fnd hY _ (by decide) (by decide)
        | refine m_isRow ?_ (fun q => ?_) (fun q => ?_)
        | refine m_isText ?_ (fun q => ?_) (fun q => ?_)
        | refine m_isWord ?_ (fun q => ?_) (fun q => ?_)
        | refine m_in ?_ ?_ ?_ (fun q => ?_) (fun q => ?_)
        | refine m_meets (by decide) ?_
        | refine m_needWord hW hY ?_ ?_ (fun q => ?_) (fun q => ?_) (fun q => ?_)
        | refine m_needTwo hW hY ?_ ?_ ?_ (fun q => ?_) (fun q => ?_) (fun q => ?_)
        | refine m_isThere ?_ ?_ ?_ (fun q => ?_) (fun q => ?_)
        | refine m_at0 ?_ ?_ ?_
        | refine m_rowAt ?_ ?_ ?_
        | refine m_markOf ?_ ?_ ?_ (fun q => ?_) (fun q => ?_) (fun q => ?_)
        | with_reducible refine ⟨?_, ?_⟩
        | with_reducible intro q
  have r0 : 0 ≤ a := by omega
  have r6 : a < 8 := by omega
  have w := hW.2.2.1 a r0 r6
  have hWd := isW_word r0 r6
  by_cases c2 : S (30 + a) (-1) < 0
  · refine ⟨-3, fS S 1, hW.fnd 1, fun M hX => eX11_mark ?_, fun M hY => eX12_mark ?_⟩
    · repeat' first
        | omega
        | exact px_rf hX _
        | exact px_fnd hX _ (by decide) (by decide)
        | refine c_noRow ?_ (fun q => ?_) (fun q => ?_)
        | refine c_noText ?_ (fun q => ?_) (fun q => ?_)
        | refine c_noWord ?_ (fun q => ?_) (fun q => ?_)
        | refine c_noLength ?_ (fun q => ?_) (fun q => ?_)
        | refine c_found (by decide) ?_
        | refine c_refuseRow hW hX ?_ (fun q => ?_) (fun q => ?_) (fun q => ?_)
        | refine c_refusePlace hW hX ?_ ?_ (fun q => ?_) (fun q => ?_) (fun q => ?_) (fun q => ?_)
        | refine c_refuseText hW hX ?_ (fun q => ?_) (fun q => ?_) (fun q => ?_)
        | refine c_refuseWords hW hX ?_ ?_ (fun q => ?_) (fun q => ?_) (fun q => ?_)
        | refine c_refuseWord hW hX ?_ (fun q => ?_) (fun q => ?_) (fun q => ?_)
        | refine c_has hL ?_ ?_ (fun q => ?_) (fun q => ?_)
        | refine c_isMissing hL ?_ (fun q => ?_) (fun q => ?_)
        | refine c_reaches hL ?_ ?_ (fun q => ?_) (fun q => ?_)
        | refine c_has hL2 ?_ ?_ (fun q => ?_) (fun q => ?_)
        | refine c_isMissing hL2 ?_ (fun q => ?_) (fun q => ?_)
        | refine c_reaches hL2 ?_ ?_ (fun q => ?_) (fun q => ?_)
        | refine c_is hWd ?_ ?_ (fun q => ?_) (fun q => ?_)
        | refine c_markOf hWd ?_ (fun q => ?_) (fun q => ?_)
        | with_reducible refine ⟨?_, ?_⟩
        | with_reducible intro q
    · repeat' first
        | omega
        | exact py_rf hY _
        | exact py_fnd hY _ (by decide) (by decide)
        | refine m_isRow ?_ (fun q => ?_) (fun q => ?_)
        | refine m_isText ?_ (fun q => ?_) (fun q => ?_)
        | refine m_isWord ?_ (fun q => ?_) (fun q => ?_)
        | refine m_in ?_ ?_ ?_ (fun q => ?_) (fun q => ?_)
        | refine m_meets (by decide) ?_
        | refine m_needWord hW hY ?_ ?_ (fun q => ?_) (fun q => ?_) (fun q => ?_)
        | refine m_needTwo hW hY ?_ ?_ ?_ (fun q => ?_) (fun q => ?_) (fun q => ?_)
        | refine m_isThere ?_ ?_ ?_ (fun q => ?_) (fun q => ?_)
        | refine m_at0 ?_ ?_ ?_
        | refine m_rowAt ?_ ?_ ?_
        | refine m_markOf ?_ ?_ ?_ (fun q => ?_) (fun q => ?_) (fun q => ?_)
        | with_reducible refine ⟨?_, ?_⟩
        | with_reducible intro q
  by_cases c3 : S (30 + a) (-2) ≠ k ∧ ¬ (k = 2 ∧ 2 < S (30 + a) (-2))
  · refine ⟨-3, fS S 3, hW.fnd 3, fun M hX => eX11_mark ?_, fun M hY => eX12_mark ?_⟩
    · have e := (hX.2.2.1 a r0 r6).1.1
      repeat' first
        | omega
        | exact px_rf hX _
        | exact px_fnd hX _ (by decide) (by decide)
        | refine c_noRow ?_ (fun q => ?_) (fun q => ?_)
        | refine c_noText ?_ (fun q => ?_) (fun q => ?_)
        | refine c_noWord ?_ (fun q => ?_) (fun q => ?_)
        | refine c_noLength ?_ (fun q => ?_) (fun q => ?_)
        | refine c_found (by decide) ?_
        | refine c_refuseRow hW hX ?_ (fun q => ?_) (fun q => ?_) (fun q => ?_)
        | refine c_refusePlace hW hX ?_ ?_ (fun q => ?_) (fun q => ?_) (fun q => ?_) (fun q => ?_)
        | refine c_refuseText hW hX ?_ (fun q => ?_) (fun q => ?_) (fun q => ?_)
        | refine c_refuseWords hW hX ?_ ?_ (fun q => ?_) (fun q => ?_) (fun q => ?_)
        | refine c_refuseWord hW hX ?_ (fun q => ?_) (fun q => ?_) (fun q => ?_)
        | refine c_has hL ?_ ?_ (fun q => ?_) (fun q => ?_)
        | refine c_isMissing hL ?_ (fun q => ?_) (fun q => ?_)
        | refine c_reaches hL ?_ ?_ (fun q => ?_) (fun q => ?_)
        | refine c_has hL2 ?_ ?_ (fun q => ?_) (fun q => ?_)
        | refine c_isMissing hL2 ?_ (fun q => ?_) (fun q => ?_)
        | refine c_reaches hL2 ?_ ?_ (fun q => ?_) (fun q => ?_)
        | refine c_is hWd ?_ ?_ (fun q => ?_) (fun q => ?_)
        | refine c_markOf hWd ?_ (fun q => ?_) (fun q => ?_)
        | with_reducible refine ⟨?_, ?_⟩
        | with_reducible intro q
    · have e := (hY.2.2.1 a r0 r6).1.1
      repeat' first
        | omega
        | exact py_rf hY _
        | exact py_fnd hY _ (by decide) (by decide)
        | refine m_isRow ?_ (fun q => ?_) (fun q => ?_)
        | refine m_isText ?_ (fun q => ?_) (fun q => ?_)
        | refine m_isWord ?_ (fun q => ?_) (fun q => ?_)
        | refine m_in ?_ ?_ ?_ (fun q => ?_) (fun q => ?_)
        | refine m_meets (by decide) ?_
        | refine m_needWord hW hY ?_ ?_ (fun q => ?_) (fun q => ?_) (fun q => ?_)
        | refine m_needTwo hW hY ?_ ?_ ?_ (fun q => ?_) (fun q => ?_) (fun q => ?_)
        | refine m_isThere ?_ ?_ ?_ (fun q => ?_) (fun q => ?_)
        | refine m_at0 ?_ ?_ ?_
        | refine m_rowAt ?_ ?_ ?_
        | refine m_markOf ?_ ?_ ?_ (fun q => ?_) (fun q => ?_) (fun q => ?_)
        | with_reducible refine ⟨?_, ?_⟩
        | with_reducible intro q
  by_cases c4 : k = 2
  · refine ⟨S (30 + a) (-3), S, hW, fun M hX => eX11_mark ?_, fun M hY => eX12_mark ?_⟩
    · obtain ⟨⟨e, e2, e3⟩, -⟩ := hX.2.2.1 a r0 r6
      repeat' first
        | omega
        | exact px_rf hX _
        | exact px_fnd hX _ (by decide) (by decide)
        | refine c_noRow ?_ (fun q => ?_) (fun q => ?_)
        | refine c_noText ?_ (fun q => ?_) (fun q => ?_)
        | refine c_noWord ?_ (fun q => ?_) (fun q => ?_)
        | refine c_noLength ?_ (fun q => ?_) (fun q => ?_)
        | refine c_found (by decide) ?_
        | refine c_refuseRow hW hX ?_ (fun q => ?_) (fun q => ?_) (fun q => ?_)
        | refine c_refusePlace hW hX ?_ ?_ (fun q => ?_) (fun q => ?_) (fun q => ?_) (fun q => ?_)
        | refine c_refuseText hW hX ?_ (fun q => ?_) (fun q => ?_) (fun q => ?_)
        | refine c_refuseWords hW hX ?_ ?_ (fun q => ?_) (fun q => ?_) (fun q => ?_)
        | refine c_refuseWord hW hX ?_ (fun q => ?_) (fun q => ?_) (fun q => ?_)
        | refine c_has hL ?_ ?_ (fun q => ?_) (fun q => ?_)
        | refine c_isMissing hL ?_ (fun q => ?_) (fun q => ?_)
        | refine c_reaches hL ?_ ?_ (fun q => ?_) (fun q => ?_)
        | refine c_has hL2 ?_ ?_ (fun q => ?_) (fun q => ?_)
        | refine c_isMissing hL2 ?_ (fun q => ?_) (fun q => ?_)
        | refine c_reaches hL2 ?_ ?_ (fun q => ?_) (fun q => ?_)
        | refine c_is hWd ?_ ?_ (fun q => ?_) (fun q => ?_)
        | refine c_markOf hWd ?_ (fun q => ?_) (fun q => ?_)
        | with_reducible refine ⟨?_, ?_⟩
        | with_reducible intro q
      show PX S (Iv (S (30 + a) (-3))) M (Iv (M (55 + 3 * a) 2)) M
      rw [e2]; exact px_rf hX _
    · obtain ⟨⟨e, e2, e3⟩, -⟩ := hY.2.2.1 a r0 r6
      repeat' first
        | omega
        | exact py_rf hY _
        | exact py_fnd hY _ (by decide) (by decide)
        | refine m_isRow ?_ (fun q => ?_) (fun q => ?_)
        | refine m_isText ?_ (fun q => ?_) (fun q => ?_)
        | refine m_isWord ?_ (fun q => ?_) (fun q => ?_)
        | refine m_in ?_ ?_ ?_ (fun q => ?_) (fun q => ?_)
        | refine m_meets (by decide) ?_
        | refine m_needWord hW hY ?_ ?_ (fun q => ?_) (fun q => ?_) (fun q => ?_)
        | refine m_needTwo hW hY ?_ ?_ ?_ (fun q => ?_) (fun q => ?_) (fun q => ?_)
        | refine m_isThere ?_ ?_ ?_ (fun q => ?_) (fun q => ?_)
        | refine m_at0 ?_ ?_ ?_
        | refine m_rowAt ?_ ?_ ?_
        | refine m_markOf ?_ ?_ ?_ (fun q => ?_) (fun q => ?_) (fun q => ?_)
        | with_reducible refine ⟨?_, ?_⟩
        | with_reducible intro q
      all_goals (show PY S (Iv (S (30 + a) (-3))) M (Iv (M 98 a)) M; rw [e2]; exact py_rf hY _)
  · refine ⟨S (30 + a) (-4), S, hW, fun M hX => eX11_mark ?_, fun M hY => eX12_mark ?_⟩
    · obtain ⟨⟨e, e2, e3⟩, -⟩ := hX.2.2.1 a r0 r6
      repeat' first
        | omega
        | exact px_rf hX _
        | exact px_fnd hX _ (by decide) (by decide)
        | refine c_noRow ?_ (fun q => ?_) (fun q => ?_)
        | refine c_noText ?_ (fun q => ?_) (fun q => ?_)
        | refine c_noWord ?_ (fun q => ?_) (fun q => ?_)
        | refine c_noLength ?_ (fun q => ?_) (fun q => ?_)
        | refine c_found (by decide) ?_
        | refine c_refuseRow hW hX ?_ (fun q => ?_) (fun q => ?_) (fun q => ?_)
        | refine c_refusePlace hW hX ?_ ?_ (fun q => ?_) (fun q => ?_) (fun q => ?_) (fun q => ?_)
        | refine c_refuseText hW hX ?_ (fun q => ?_) (fun q => ?_) (fun q => ?_)
        | refine c_refuseWords hW hX ?_ ?_ (fun q => ?_) (fun q => ?_) (fun q => ?_)
        | refine c_refuseWord hW hX ?_ (fun q => ?_) (fun q => ?_) (fun q => ?_)
        | refine c_has hL ?_ ?_ (fun q => ?_) (fun q => ?_)
        | refine c_isMissing hL ?_ (fun q => ?_) (fun q => ?_)
        | refine c_reaches hL ?_ ?_ (fun q => ?_) (fun q => ?_)
        | refine c_has hL2 ?_ ?_ (fun q => ?_) (fun q => ?_)
        | refine c_isMissing hL2 ?_ (fun q => ?_) (fun q => ?_)
        | refine c_reaches hL2 ?_ ?_ (fun q => ?_) (fun q => ?_)
        | refine c_is hWd ?_ ?_ (fun q => ?_) (fun q => ?_)
        | refine c_markOf hWd ?_ (fun q => ?_) (fun q => ?_)
        | with_reducible refine ⟨?_, ?_⟩
        | with_reducible intro q
      show PX S (Iv (S (30 + a) (-4))) M (Iv (M (55 + 3 * a) 3)) M
      rw [e3]; exact px_rf hX _
    · obtain ⟨⟨e, e2, e3⟩, -⟩ := hY.2.2.1 a r0 r6
      repeat' first
        | omega
        | exact py_rf hY _
        | exact py_fnd hY _ (by decide) (by decide)
        | refine m_isRow ?_ (fun q => ?_) (fun q => ?_)
        | refine m_isText ?_ (fun q => ?_) (fun q => ?_)
        | refine m_isWord ?_ (fun q => ?_) (fun q => ?_)
        | refine m_in ?_ ?_ ?_ (fun q => ?_) (fun q => ?_)
        | refine m_meets (by decide) ?_
        | refine m_needWord hW hY ?_ ?_ (fun q => ?_) (fun q => ?_) (fun q => ?_)
        | refine m_needTwo hW hY ?_ ?_ ?_ (fun q => ?_) (fun q => ?_) (fun q => ?_)
        | refine m_isThere ?_ ?_ ?_ (fun q => ?_) (fun q => ?_)
        | refine m_at0 ?_ ?_ ?_
        | refine m_rowAt ?_ ?_ ?_
        | refine m_markOf ?_ ?_ ?_ (fun q => ?_) (fun q => ?_) (fun q => ?_)
        | with_reducible refine ⟨?_, ?_⟩
        | with_reducible intro q
      all_goals (show PY S (Iv (S (30 + a) (-4))) M (Iv (M 99 a)) M; rw [e3]; exact py_rf hY _)
/-! 42 .. 48 -/
theorem op_asked {S : Mem} (hW : WF S) : OpOK S yX11_asked yX12_asked [] Iv := ⟨S 0 1, S, hW, fun M hX => eX11_asked (by rw [hX.2.2.2.1.2.1]; exact px_rf hX _), fun M hY => eX12_asked (by rw [hY.2.2.2.1.2.1]; exact py_rf hY _)⟩
theorem op_many {S : Mem} (hW : WF S) : OpOK S yX11_many yX12_many [] Jv := ⟨S 0 2, S, hW, fun M hX => eX11_many (by rw [hX.2.2.2.1.2.2.1]; exact px_rf hX _), fun M hY => eX12_many (by rw [hY.2.2.2.1.2.2.1]; exact py_rf hY _)⟩
theorem op_upper {S : Mem} (hW : WF S) : OpOK S yX11_upper yX12_upper [] Jv := ⟨S 0 3, S, hW, fun M hX => eX11_upper (by rw [hX.2.2.2.1.2.2.2.1]; exact px_rf hX _), fun M hY => eX12_upper (by rw [hY.2.2.2.1.2.2.2.1]; exact py_rf hY _)⟩
theorem op_lower {S : Mem} (hW : WF S) : OpOK S yX11_lower yX12_lower [] Jv := ⟨S 0 4, S, hW, fun M hX => eX11_lower (by rw [hX.2.2.2.1.2.2.2.2.1]; exact px_rf hX _), fun M hY => eX12_lower (by rw [hY.2.2.2.1.2.2.2.2.1]; exact py_rf hY _)⟩
theorem op_finding {S : Mem} (hW : WF S) : OpOK S yX11_finding yX12_finding [] Iv := ⟨S 0 5, S, hW, fun M hX => eX11_finding (by rw [hX.2.2.2.1.2.2.2.2.2]; exact px_rf hX _), fun M hY => eX12_finding (by rw [hY.2.2.2.1.2.2.2.2.2]; exact py_rf hY _)⟩
theorem op_findings {S : Mem} (hW : WF S) {f : Int} (hf : inr f) : OpOK S yX11_findings yX12_findings [Iv f] Iv := by
  by_cases c1 : f < 1 ∨ 5 < f
  · refine ⟨-1, S, hW, fun M hX => eX11_findings ?_, fun M hY => eX12_findings ?_⟩
    · repeat' first
        | omega
        | exact px_rf hX _
        | exact px_fnd hX _ (by decide) (by decide)
        | refine c_noRow ?_ (fun q => ?_) (fun q => ?_)
        | refine c_noText ?_ (fun q => ?_) (fun q => ?_)
        | refine c_noWord ?_ (fun q => ?_) (fun q => ?_)
        | refine c_noLength ?_ (fun q => ?_) (fun q => ?_)
        | refine c_found (by decide) ?_
        | refine c_refuseRow hW hX ?_ (fun q => ?_) (fun q => ?_) (fun q => ?_)
        | refine c_refusePlace hW hX ?_ ?_ (fun q => ?_) (fun q => ?_) (fun q => ?_) (fun q => ?_)
        | refine c_refuseText hW hX ?_ (fun q => ?_) (fun q => ?_) (fun q => ?_)
        | refine c_refuseWords hW hX ?_ ?_ (fun q => ?_) (fun q => ?_) (fun q => ?_)
        | refine c_refuseWord hW hX ?_ (fun q => ?_) (fun q => ?_) (fun q => ?_)
        | refine c_has hL ?_ ?_ (fun q => ?_) (fun q => ?_)
        | refine c_isMissing hL ?_ (fun q => ?_) (fun q => ?_)
        | refine c_reaches hL ?_ ?_ (fun q => ?_) (fun q => ?_)
        | refine c_has hL2 ?_ ?_ (fun q => ?_) (fun q => ?_)
        | refine c_isMissing hL2 ?_ (fun q => ?_) (fun q => ?_)
        | refine c_reaches hL2 ?_ ?_ (fun q => ?_) (fun q => ?_)
        | refine c_is hWd ?_ ?_ (fun q => ?_) (fun q => ?_)
        | refine c_markOf hWd ?_ (fun q => ?_) (fun q => ?_)
        | with_reducible refine ⟨?_, ?_⟩
        | with_reducible intro q
    · repeat' first
        | omega
        | exact py_rf hY _
        | exact py_fnd hY _ (by decide) (by decide)
        | refine m_isRow ?_ (fun q => ?_) (fun q => ?_)
        | refine m_isText ?_ (fun q => ?_) (fun q => ?_)
        | refine m_isWord ?_ (fun q => ?_) (fun q => ?_)
        | refine m_in ?_ ?_ ?_ (fun q => ?_) (fun q => ?_)
        | refine m_meets (by decide) ?_
        | refine m_needWord hW hY ?_ ?_ (fun q => ?_) (fun q => ?_) (fun q => ?_)
        | refine m_needTwo hW hY ?_ ?_ ?_ (fun q => ?_) (fun q => ?_) (fun q => ?_)
        | refine m_isThere ?_ ?_ ?_ (fun q => ?_) (fun q => ?_)
        | refine m_at0 ?_ ?_ ?_
        | refine m_rowAt ?_ ?_ ?_
        | refine m_markOf ?_ ?_ ?_ (fun q => ?_) (fun q => ?_) (fun q => ?_)
        | with_reducible refine ⟨?_, ?_⟩
        | with_reducible intro q
  refine ⟨S 1 f, S, hW, fun M hX => eX11_findings ?_, fun M hY => eX12_findings ?_⟩
  · repeat' first
      | omega
      | exact px_rf hX _
      | exact px_fnd hX _ (by decide) (by decide)
      | refine c_noRow ?_ (fun q => ?_) (fun q => ?_)
      | refine c_noText ?_ (fun q => ?_) (fun q => ?_)
      | refine c_noWord ?_ (fun q => ?_) (fun q => ?_)
      | refine c_noLength ?_ (fun q => ?_) (fun q => ?_)
      | refine c_found (by decide) ?_
      | refine c_refuseRow hW hX ?_ (fun q => ?_) (fun q => ?_) (fun q => ?_)
      | refine c_refusePlace hW hX ?_ ?_ (fun q => ?_) (fun q => ?_) (fun q => ?_) (fun q => ?_)
      | refine c_refuseText hW hX ?_ (fun q => ?_) (fun q => ?_) (fun q => ?_)
      | refine c_refuseWords hW hX ?_ ?_ (fun q => ?_) (fun q => ?_) (fun q => ?_)
      | refine c_refuseWord hW hX ?_ (fun q => ?_) (fun q => ?_) (fun q => ?_)
      | refine c_has hL ?_ ?_ (fun q => ?_) (fun q => ?_)
      | refine c_isMissing hL ?_ (fun q => ?_) (fun q => ?_)
      | refine c_reaches hL ?_ ?_ (fun q => ?_) (fun q => ?_)
      | refine c_has hL2 ?_ ?_ (fun q => ?_) (fun q => ?_)
      | refine c_isMissing hL2 ?_ (fun q => ?_) (fun q => ?_)
      | refine c_reaches hL2 ?_ ?_ (fun q => ?_) (fun q => ?_)
      | refine c_is hWd ?_ ?_ (fun q => ?_) (fun q => ?_)
      | refine c_markOf hWd ?_ (fun q => ?_) (fun q => ?_)
      | with_reducible refine ⟨?_, ?_⟩
      | with_reducible intro q
    rw [hX.2.2.2.2.1 f (by omega) (by omega)]; exact px_rf hX _
  · repeat' first
      | omega
      | exact py_rf hY _
      | exact py_fnd hY _ (by decide) (by decide)
      | refine m_isRow ?_ (fun q => ?_) (fun q => ?_)
      | refine m_isText ?_ (fun q => ?_) (fun q => ?_)
      | refine m_isWord ?_ (fun q => ?_) (fun q => ?_)
      | refine m_in ?_ ?_ ?_ (fun q => ?_) (fun q => ?_)
      | refine m_meets (by decide) ?_
      | refine m_needWord hW hY ?_ ?_ (fun q => ?_) (fun q => ?_) (fun q => ?_)
      | refine m_needTwo hW hY ?_ ?_ ?_ (fun q => ?_) (fun q => ?_) (fun q => ?_)
      | refine m_isThere ?_ ?_ ?_ (fun q => ?_) (fun q => ?_)
      | refine m_at0 ?_ ?_ ?_
      | refine m_rowAt ?_ ?_ ?_
      | refine m_markOf ?_ ?_ ?_ (fun q => ?_) (fun q => ?_) (fun q => ?_)
      | with_reducible refine ⟨?_, ?_⟩
      | with_reducible intro q
    rw [hY.2.2.2.2 f (by omega) (by omega)]; exact py_rf hY _
