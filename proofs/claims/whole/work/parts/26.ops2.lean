theorem op_tear {S : Mem} (hW : WF S) {r : Int} (hr : inr r) : OpOK S yX11_tear yX12_tear [Iv r] Iv := by
  by_cases c1 : r < 0 ∨ 6 ≤ r
  · refine ⟨-1, S, hW, fun M hX => eX11_tear ?_, fun M hY => eX12_tear ?_⟩
    · repeat' first
        | omega
        | exact px_rf hX _
        | exact px_fnd hX _ (by decide) (by decide)
        | refine c_noRow ?_ (fun q => ?_) (fun q => ?_)
        | refine c_noText ?_ (fun q => ?_) (fun q => ?_)
        | refine c_noWord ?_ (fun q => ?_) (fun q => ?_)
        | refine c_noLength ?_ (fun q => ?_) (fun q => ?_)
        | refine c_found (by decide) ?_
        | refine c_refuseRow hW hX ?_ (fun q => ?_) (fun q => ?_) (fun q => ?_)
        | refine c_refusePlace hW hX ?_ ?_ (fun q => ?_) (fun q => ?_) (fun q => ?_) (fun q => ?_)
        | refine c_refuseText hW hX ?_ (fun q => ?_) (fun q => ?_) (fun q => ?_)
        | refine c_refuseWords hW hX ?_ ?_ (fun q => ?_) (fun q => ?_) (fun q => ?_)
        | refine c_refuseWord hW hX ?_ (fun q => ?_) (fun q => ?_) (fun q => ?_)
        | with_reducible refine ⟨?_, ?_⟩
        | with_reducible intro q
    · repeat' first
        | omega
        | exact py_rf hY _
        | exact py_fnd hY _ (by decide) (by decide)
        | refine m_isRow ?_ (fun q => ?_) (fun q => ?_)
        | refine m_isText ?_ (fun q => ?_) (fun q => ?_)
        | refine m_isWord ?_ (fun q => ?_) (fun q => ?_)
        | refine m_in ?_ ?_ ?_ (fun q => ?_) (fun q => ?_)
        | refine m_meets (by decide) ?_
        | refine m_needWord hW hY ?_ ?_ (fun q => ?_) (fun q => ?_) (fun q => ?_)
        | refine m_needTwo hW hY ?_ ?_ ?_ (fun q => ?_) (fun q => ?_) (fun q => ?_)
        | refine m_isThere ?_ ?_ ?_ (fun q => ?_) (fun q => ?_)
        | with_reducible refine ⟨?_, ?_⟩
        | with_reducible intro q
  have r0 : 0 ≤ r := by omega
  have r6 : r < 6 := by omega
  have w := hW.1 r r0 r6
  by_cases c2 : S (10 + r) (-1) < 0
  · refine ⟨-3, fS S 1, hW.fnd 1, fun M hX => eX11_tear ?_, fun M hY => eX12_tear ?_⟩
    · repeat' first
        | omega
        | exact px_rf hX _
        | exact px_fnd hX _ (by decide) (by decide)
        | refine c_noRow ?_ (fun q => ?_) (fun q => ?_)
        | refine c_noText ?_ (fun q => ?_) (fun q => ?_)
        | refine c_noWord ?_ (fun q => ?_) (fun q => ?_)
        | refine c_noLength ?_ (fun q => ?_) (fun q => ?_)
        | refine c_found (by decide) ?_
        | refine c_refuseRow hW hX ?_ (fun q => ?_) (fun q => ?_) (fun q => ?_)
        | refine c_refusePlace hW hX ?_ ?_ (fun q => ?_) (fun q => ?_) (fun q => ?_) (fun q => ?_)
        | refine c_refuseText hW hX ?_ (fun q => ?_) (fun q => ?_) (fun q => ?_)
        | refine c_refuseWords hW hX ?_ ?_ (fun q => ?_) (fun q => ?_) (fun q => ?_)
        | refine c_refuseWord hW hX ?_ (fun q => ?_) (fun q => ?_) (fun q => ?_)
        | with_reducible refine ⟨?_, ?_⟩
        | with_reducible intro q
    · have e := (hY.1 r r0 r6).1
      repeat' first
        | omega
        | exact py_rf hY _
        | exact py_fnd hY _ (by decide) (by decide)
        | refine m_isRow ?_ (fun q => ?_) (fun q => ?_)
        | refine m_isText ?_ (fun q => ?_) (fun q => ?_)
        | refine m_isWord ?_ (fun q => ?_) (fun q => ?_)
        | refine m_in ?_ ?_ ?_ (fun q => ?_) (fun q => ?_)
        | refine m_meets (by decide) ?_
        | refine m_needWord hW hY ?_ ?_ (fun q => ?_) (fun q => ?_) (fun q => ?_)
        | refine m_needTwo hW hY ?_ ?_ ?_ (fun q => ?_) (fun q => ?_) (fun q => ?_)
        | refine m_isThere ?_ ?_ ?_ (fun q => ?_) (fun q => ?_)
        | with_reducible refine ⟨?_, ?_⟩
        | with_reducible intro q
  refine ⟨1, setLn S (10 + r) (-1) (S (10 + r)), hW.row r0 r6 (by decide) (by decide) (fun i i0 i1 => by omega), fun M hX => eX11_tear ?_, fun M hY => eX12_tear ?_⟩
  · repeat' first
      | omega
      | exact px_rf hX _
      | exact px_fnd hX _ (by decide) (by decide)
      | refine c_noRow ?_ (fun q => ?_) (fun q => ?_)
      | refine c_noText ?_ (fun q => ?_) (fun q => ?_)
      | refine c_noWord ?_ (fun q => ?_) (fun q => ?_)
      | refine c_noLength ?_ (fun q => ?_) (fun q => ?_)
      | refine c_found (by decide) ?_
      | refine c_refuseRow hW hX ?_ (fun q => ?_) (fun q => ?_) (fun q => ?_)
      | refine c_refusePlace hW hX ?_ ?_ (fun q => ?_) (fun q => ?_) (fun q => ?_) (fun q => ?_)
      | refine c_refuseText hW hX ?_ (fun q => ?_) (fun q => ?_) (fun q => ?_)
      | refine c_refuseWords hW hX ?_ ?_ (fun q => ?_) (fun q => ?_) (fun q => ?_)
      | refine c_refuseWord hW hX ?_ (fun q => ?_) (fun q => ?_) (fun q => ?_)
      | with_reducible refine ⟨?_, ?_⟩
      | with_reducible intro q
    exact ⟨rfl, hX.row r0 r6 (fun a ka k1 k2 => up_ne k1) (by rw [up_at, if_pos rfl]) (fun i i0 i1 => by omega), (frx.rf M).up (by omega)⟩
  · have e := (hY.1 r r0 r6).1
    repeat' first
      | omega
      | exact py_rf hY _
      | exact py_fnd hY _ (by decide) (by decide)
      | refine m_isRow ?_ (fun q => ?_) (fun q => ?_)
      | refine m_isText ?_ (fun q => ?_) (fun q => ?_)
      | refine m_isWord ?_ (fun q => ?_) (fun q => ?_)
      | refine m_in ?_ ?_ ?_ (fun q => ?_) (fun q => ?_)
      | refine m_meets (by decide) ?_
      | refine m_needWord hW hY ?_ ?_ (fun q => ?_) (fun q => ?_) (fun q => ?_)
      | refine m_needTwo hW hY ?_ ?_ ?_ (fun q => ?_) (fun q => ?_) (fun q => ?_)
      | refine m_isThere ?_ ?_ ?_ (fun q => ?_) (fun q => ?_)
      | with_reducible refine ⟨?_, ?_⟩
      | with_reducible intro q
    exact ⟨rfl, hY.row r0 r6 (fun q q0 q1 => (hW.1 q q0 q1).2.1) (by decide) (fun a ka k1 k2 => up_ne k1) (fun k hk => by rw [up_ne (by decide)]) (fun q q0 q1 => by rw [up_at]) (fun i i0 i1 i2 => by rw [up_ne (by decide)]) (fun i i0 i1 => by omega), (fry.rf M).up (by decide)⟩
