theorem gX12_in {x0 x1 x2 : Int}  {M : Mem} {Q : Vl → Mem → Prop} (h : inr x0 ∧ (inr x1 ∧ ((x0 < x1 → Q (Iv 0) M) ∧ (x1 ≤ x0 → inr x2 ∧ ((x2 < x0 → Q (Iv 0) M) ∧ (x0 ≤ x2 → Q (Iv 1) M)))))) : wp 0 yX12_in 0 [some (Iv x0), some (Iv x1), some (Iv x2)] [] M Q := by
  refine wp_iload_n dX12_in_0 rfl ?_
  refine wp_iload_n dX12_in_1 rfl ?_
  obtain ⟨o1, h⟩ := h
  obtain ⟨o2, h⟩ := h
  refine wp_icmp_lt (tgt := 14) dX12_in_2 (by decide) o1 o2 (fun q3 => ?_) (fun q3 => ?_)
  · have h := h.1 q3
    refine wp_iconst dX12_in_14 ?_
    exact wp_zret dX12_in_15 rfl (Or.inr ⟨rfl, rfl, rfl, by decide⟩) rfl (by decide) h
  · have h := h.2 q3
    refine wp_iload_n dX12_in_5 rfl ?_
    refine wp_iload_n dX12_in_6 rfl ?_
    obtain ⟨o4, h⟩ := h
    refine wp_icmp_gt (tgt := 14) dX12_in_7 (by decide) o1 o4 (fun q5 => ?_) (fun q5 => ?_)
    · have h := h.1 q5
      refine wp_iconst dX12_in_14 ?_
      exact wp_zret dX12_in_15 rfl (Or.inr ⟨rfl, rfl, rfl, by decide⟩) rfl (by decide) h
    · have h := h.2 q5
      refine wp_iconst dX12_in_10 ?_
      refine wp_goto (tgt := 15) dX12_in_11 (by decide) ?_
      exact wp_zret dX12_in_15 rfl (Or.inr ⟨rfl, rfl, rfl, by decide⟩) rfl (by decide) h
theorem eX12_in {x0 x1 x2 : Int}  {M : Mem} {Q : Vl → Mem → Prop} (h : inr x0 ∧ (inr x1 ∧ ((x0 < x1 → Q (Iv 0) M) ∧ (x1 ≤ x0 → inr x2 ∧ ((x2 < x0 → Q (Iv 0) M) ∧ (x0 ≤ x2 → Q (Iv 1) M)))))) : cl 0 yX12_in [Iv x0, Iv x1, Iv x2] M Q := enterG (by decide +kernel) (by exact Or.inr (Or.inr (Or.inl rfl))) (Nat.le_of_ble_eq_true rfl) rfl (gX12_in h)
theorem gX12_has {x0 x1 : Int}  {M : Mem} {Q : Vl → Mem → Prop} (h : inr x0 ∧ (0 ≤ x1 ∧ (x1 < 32 ∧ (inr ((x0 / 2 ^ Int.toNat x1) % 2 ^ 1) ∧ ((((x0 / 2 ^ Int.toNat x1) % 2 ^ 1) ≠ 1 → Q (Iv 0) M) ∧ (((x0 / 2 ^ Int.toNat x1) % 2 ^ 1) = 1 → Q (Iv 1) M)))))) : wp 0 yX12_has 0 [some (Iv x0), some (Iv x1)] [] M Q := by
  refine wp_iload_n dX12_has_0 rfl ?_
  refine wp_iload_n dX12_has_1 rfl ?_
  obtain ⟨o1, h⟩ := h
  obtain ⟨o2, h⟩ := h
  obtain ⟨o3, h⟩ := h
  refine wp_ishr (x0 / 2 ^ Int.toNat x1) dX12_has_2 (bits_shr o1 o2 o3) ?_
  refine wp_iconst dX12_has_3 ?_
  refine wp_iand ((x0 / 2 ^ Int.toNat x1) % 2 ^ 1) dX12_has_4 (bits_mask _ 1 (by decide)) ?_
  refine wp_iconst dX12_has_5 ?_
  obtain ⟨o4, h⟩ := h
  refine wp_icmp_ne (tgt := 13) dX12_has_6 (by decide) (Or.inr ⟨o4, (by decide)⟩) (fun q5 => ?_) (fun q5 => ?_)
  · have h := h.1 q5
    refine wp_iconst dX12_has_13 ?_
    exact wp_zret dX12_has_14 rfl (Or.inr ⟨rfl, rfl, rfl, by decide⟩) rfl (by decide) h
  · have h := h.2 q5
    refine wp_iconst dX12_has_9 ?_
    refine wp_goto (tgt := 14) dX12_has_10 (by decide) ?_
    exact wp_zret dX12_has_14 rfl (Or.inr ⟨rfl, rfl, rfl, by decide⟩) rfl (by decide) h
theorem eX12_has {x0 x1 : Int}  {M : Mem} {Q : Vl → Mem → Prop} (h : inr x0 ∧ (0 ≤ x1 ∧ (x1 < 32 ∧ (inr ((x0 / 2 ^ Int.toNat x1) % 2 ^ 1) ∧ ((((x0 / 2 ^ Int.toNat x1) % 2 ^ 1) ≠ 1 → Q (Iv 0) M) ∧ (((x0 / 2 ^ Int.toNat x1) % 2 ^ 1) = 1 → Q (Iv 1) M)))))) : cl 0 yX12_has [Iv x0, Iv x1] M Q := enterG (by decide +kernel) (by exact Or.inr (Or.inr (Or.inl rfl))) (Nat.le_of_ble_eq_true rfl) rfl (gX12_has h)
theorem gX12_meets {x1 : Int}  {M : Mem} {Q : Vl → Mem → Prop} (h : 0 ≤ x1 ∧ (x1 < 6 ∧ (Q (Iv (-3)) (up (up M 88 0 x1) 89 x1 ((M 89 x1) + 1))))) : wp 0 yX12_meets 0 [some (Rv 88), some (Iv x1)] [] M Q := by
  refine wp_aload_n dX12_meets_0 rfl (by decide) ?_
  refine wp_iload_n dX12_meets_1 rfl ?_
  refine wp_putf (x := x1) dX12_meets_2 (fl_X12_114 rfl) kd_88 (fun _ => rfl) rfl rfl trivial ?_
  refine wp_aload_n dX12_meets_5 rfl (by decide) ?_
  refine wp_getf (t := Rv 89) 89 dX12_meets_6 (fl_X12_7 rfl) kd_88 rfl rfl ?_
  refine wp_iload_n dX12_meets_9 rfl ?_
  refine wp_dup2 dX12_meets_10 rfl rfl ?_
  obtain ⟨o1, h⟩ := h
  obtain ⟨o2, h⟩ := h
  refine wp_iald (M 89 x1) dX12_meets_11 kd_89 sz_89 o1 o2 (⟨by omega, by omega⟩) rfl ?_
  refine wp_iconst dX12_meets_12 ?_
  refine wp_iadd dX12_meets_13 ?_
  refine wp_iast dX12_meets_14 kd_89 sz_89 o1 o2 (⟨by omega, by omega⟩) ?_
  refine wp_bipush dX12_meets_15 (by decide) ?_
  exact wp_iret dX12_meets_17 rfl (Or.inr ⟨rfl, rfl, rfl, by decide⟩) rfl h
theorem eX12_meets {x1 : Int}  {M : Mem} {Q : Vl → Mem → Prop} (h : 0 ≤ x1 ∧ (x1 < 6 ∧ (Q (Iv (-3)) (up (up M 88 0 x1) 89 x1 ((M 89 x1) + 1))))) : cl 0 yX12_meets [Rv 88, Iv x1] M Q := enterG (by decide +kernel) (by exact Or.inr (Or.inl rfl)) (Nat.le_of_ble_eq_true rfl) rfl (gX12_meets h)
theorem gX12_finding  {M : Mem} {Q : Vl → Mem → Prop} (h : Q (Iv (M 88 0)) M) : wp 0 yX12_finding 0 [some (Rv 88)] [] M Q := by
  refine wp_aload_n dX12_finding_0 rfl (by decide) ?_
  refine wp_getf (t := Iv (M 88 0)) (M 88 0) dX12_finding_1 (fl_X12_114 rfl) kd_88 rfl rfl ?_
  exact wp_iret dX12_finding_4 rfl (Or.inr ⟨rfl, rfl, rfl, by decide⟩) rfl h
theorem eX12_finding  {M : Mem} {Q : Vl → Mem → Prop} (h : Q (Iv (M 88 0)) M) : cl 0 yX12_finding [Rv 88] M Q := enterG (by decide +kernel) (by exact Or.inr (Or.inl rfl)) (Nat.le_of_ble_eq_true rfl) rfl (gX12_finding h)
theorem gX12_findings {x1 : Int}  {M : Mem} {Q : Vl → Mem → Prop} (h : cl 0 yX12_in [Iv x1, Iv 1, Iv 5] M (QI (fun z1 M1 => ((z1 = 0 → Q (Iv (-1)) M1) ∧ (z1 ≠ 0 → 0 ≤ x1 ∧ (x1 < 6 ∧ (Q (Iv (M1 89 x1)) M1))))))) : wp 0 yX12_findings 0 [some (Rv 88), some (Iv x1)] [] M Q := by
  refine wp_iload_n dX12_findings_0 rfl ?_
  refine wp_iconst dX12_findings_1 ?_
  refine wp_iconst dX12_findings_2 ?_
  refine wp_callS (e1 := 0) (as := [Iv x1, Iv 1, Iv 5]) (S := []) dX12_findings_3 (cs_X12_117 rfl) rfl rfl (Nat.le_of_ble_eq_true rfl) (Nat.le_of_ble_eq_true rfl) h (fun v1 M1 q1 r1 => ?_)
  obtain ⟨z1, rfl, hz1⟩ := retV_z r1 rfl
  have h := q1
  refine wp_if_eq (tgt := 18) dX12_findings_6 (by decide) (by have := hz1; omega) (fun q2 => ?_) (fun q2 => ?_)
  · have h := h.1 q2
    refine wp_iconst dX12_findings_18 ?_
    exact wp_iret dX12_findings_19 rfl (Or.inr ⟨rfl, rfl, rfl, by decide⟩) rfl h
  · have h := h.2 q2
    refine wp_aload_n dX12_findings_9 rfl (by decide) ?_
    refine wp_getf (t := Rv 89) 89 dX12_findings_10 (fl_X12_7 rfl) kd_88 rfl rfl ?_
    refine wp_iload_n dX12_findings_13 rfl ?_
    obtain ⟨o3, h⟩ := h
    obtain ⟨o4, h⟩ := h
    refine wp_iald (M1 89 x1) dX12_findings_14 kd_89 sz_89 o3 o4 (⟨by omega, by omega⟩) rfl ?_
    refine wp_goto (tgt := 19) dX12_findings_15 (by decide) ?_
    exact wp_iret dX12_findings_19 rfl (Or.inr ⟨rfl, rfl, rfl, by decide⟩) rfl h
theorem eX12_findings {x1 : Int}  {M : Mem} {Q : Vl → Mem → Prop} (h : cl 0 yX12_in [Iv x1, Iv 1, Iv 5] M (QI (fun z1 M1 => ((z1 = 0 → Q (Iv (-1)) M1) ∧ (z1 ≠ 0 → 0 ≤ x1 ∧ (x1 < 6 ∧ (Q (Iv (M1 89 x1)) M1))))))) : cl 0 yX12_findings [Rv 88, Iv x1] M Q := enterG (by decide +kernel) (by exact Or.inr (Or.inl rfl)) (Nat.le_of_ble_eq_true rfl) rfl (gX12_findings h)
theorem gX12_tells {x1 x2 : Int}  {M : Mem} {Q : Vl → Mem → Prop} (h : Q (Iv x2) (up M 88 2 x1)) : wp 0 yX12_tells 0 [some (Rv 88), some (Iv x1), some (Iv x2)] [] M Q := by
  refine wp_aload_n dX12_tells_0 rfl (by decide) ?_
  refine wp_iload_n dX12_tells_1 rfl ?_
  refine wp_putf (x := x1) dX12_tells_2 (fl_X12_121 rfl) kd_88 (fun _ => rfl) rfl rfl trivial ?_
  refine wp_iload_n dX12_tells_5 rfl ?_
  exact wp_iret dX12_tells_6 rfl (Or.inr ⟨rfl, rfl, rfl, by decide⟩) rfl h
theorem eX12_tells {x1 x2 : Int}  {M : Mem} {Q : Vl → Mem → Prop} (h : Q (Iv x2) (up M 88 2 x1)) : cl 0 yX12_tells [Rv 88, Iv x1, Iv x2] M Q := enterG (by decide +kernel) (by exact Or.inr (Or.inl rfl)) (Nat.le_of_ble_eq_true rfl) rfl (gX12_tells h)
theorem gX12_tellsMany {x1 x3 : Int}  {M : Mem} {Q : Vl → Mem → Prop} (h : Q (Iv x3) (up M 88 3 x1)) : wp 0 yX12_tellsMany 0 [some (Rv 88), some (Jv x1), none, some (Iv x3)] [] M Q := by
  refine wp_aload_n dX12_tellsMany_0 rfl (by decide) ?_
  refine wp_lload_n dX12_tellsMany_1 rfl ?_
  refine wp_putf (x := x1) dX12_tellsMany_2 (fl_X12_124 rfl) kd_88 (fun _ => rfl) rfl rfl trivial ?_
  refine wp_iload_n dX12_tellsMany_5 rfl ?_
  exact wp_iret dX12_tellsMany_6 rfl (Or.inr ⟨rfl, rfl, rfl, by decide⟩) rfl h
theorem eX12_tellsMany {x1 x3 : Int}  {M : Mem} {Q : Vl → Mem → Prop} (h : Q (Iv x3) (up M 88 3 x1)) : cl 0 yX12_tellsMany [Rv 88, Jv x1, Iv x3] M Q := enterG (by decide +kernel) (by exact Or.inr (Or.inl rfl)) (Nat.le_of_ble_eq_true rfl) rfl (gX12_tellsMany h)
theorem gX12_asked  {M : Mem} {Q : Vl → Mem → Prop} (h : Q (Iv (M 88 2)) M) : wp 0 yX12_asked 0 [some (Rv 88)] [] M Q := by
  refine wp_aload_n dX12_asked_0 rfl (by decide) ?_
  refine wp_getf (t := Iv (M 88 2)) (M 88 2) dX12_asked_1 (fl_X12_121 rfl) kd_88 rfl rfl ?_
  exact wp_iret dX12_asked_4 rfl (Or.inr ⟨rfl, rfl, rfl, by decide⟩) rfl h
theorem eX12_asked  {M : Mem} {Q : Vl → Mem → Prop} (h : Q (Iv (M 88 2)) M) : cl 0 yX12_asked [Rv 88] M Q := enterG (by decide +kernel) (by exact Or.inr (Or.inl rfl)) (Nat.le_of_ble_eq_true rfl) rfl (gX12_asked h)
theorem gX12_many  {M : Mem} {Q : Vl → Mem → Prop} (h : Q (Jv (M 88 3)) M) : wp 0 yX12_many 0 [some (Rv 88)] [] M Q := by
  refine wp_aload_n dX12_many_0 rfl (by decide) ?_
  refine wp_getf (t := Jv (M 88 3)) (M 88 3) dX12_many_1 (fl_X12_124 rfl) kd_88 rfl rfl ?_
  exact wp_lret dX12_many_4 rfl (Or.inr ⟨rfl, rfl, rfl, by decide⟩) rfl h
theorem eX12_many  {M : Mem} {Q : Vl → Mem → Prop} (h : Q (Jv (M 88 3)) M) : cl 0 yX12_many [Rv 88] M Q := enterG (by decide +kernel) (by exact Or.inr (Or.inr (Or.inr (Or.inl rfl)))) (Nat.le_of_ble_eq_true rfl) rfl (gX12_many h)
theorem gX12_fraction {x1 x3 x5 : Int}  {M : Mem} {Q : Vl → Mem → Prop} (h : wp 0 yX12_fraction 6 [some (Rv 88), some (Jv x1), none, some (Jv x3), none, some (Iv x5), some (Jv x1), none, some (Jv x3), none, none, none] [] M Q) : wp 0 yX12_fraction 0 [some (Rv 88), some (Jv x1), none, some (Jv x3), none, some (Iv x5), none, none, none, none, none, none] [] M Q := by
  refine wp_lload_n dX12_fraction_0 rfl ?_
  refine wp_lstore (L2 := [some (Rv 88), some (Jv x1), none, some (Jv x3), none, some (Iv x5), some (Jv x1), none, none, none, none, none]) dX12_fraction_1 (Nat.le_of_ble_eq_true rfl) (Nat.le_of_ble_eq_true rfl) rfl ?_
  refine wp_lload_n dX12_fraction_3 rfl ?_
  refine wp_lstore (L2 := [some (Rv 88), some (Jv x1), none, some (Jv x3), none, some (Iv x5), some (Jv x1), none, some (Jv x3), none, none, none]) dX12_fraction_4 (Nat.le_of_ble_eq_true rfl) (Nat.le_of_ble_eq_true rfl) rfl ?_
  exact h
theorem eX12_fraction {x1 x3 x5 : Int}  {M : Mem} {Q : Vl → Mem → Prop} (h : wp 0 yX12_fraction 6 [some (Rv 88), some (Jv x1), none, some (Jv x3), none, some (Iv x5), some (Jv x1), none, some (Jv x3), none, none, none] [] M Q) : cl 0 yX12_fraction [Rv 88, Jv x1, Jv x3, Iv x5] M Q := enterG (by decide +kernel) (by exact Or.inr (Or.inl rfl)) (Nat.le_of_ble_eq_true rfl) rfl (gX12_fraction h)
theorem gX12_fraction_6 {x1 x3 x5 x6 x8 : Int}  {M : Mem} {Q : Vl → Mem → Prop} (h : (x8 = 0 ∨ (inL x8 ∧ inL 0)) ∧ ((x8 = 0 → inL x1 ∧ (inL x6 ∧ (x6 ≠ 0 ∧ (inL x3 ∧ (Q (Iv x5) (up (up M 88 4 (Int.tdiv x1 x6)) 88 5 (Int.tdiv x3 x6))))))) ∧ (x8 ≠ 0 → inL x6 ∧ (inL x8 ∧ (x8 ≠ 0 ∧ (wp 0 yX12_fraction 6 [some (Rv 88), some (Jv x1), none, some (Jv x3), none, some (Iv x5), some (Jv x8), none, some (Jv (Int.tmod x6 x8)), none, none, none] [] M Q)))))) : wp 0 yX12_fraction 6 [some (Rv 88), some (Jv x1), none, some (Jv x3), none, some (Iv x5), some (Jv x6), none, some (Jv x8), none, none, none] [] M Q := by
  refine wp_lload dX12_fraction_6 rfl ?_
  refine wp_lconst0 dX12_fraction_8 ?_
  obtain ⟨o1, h⟩ := h
  refine wp_lcmp dX12_fraction_9 o1 ?_
  refine wp_if_eq (tgt := 31) dX12_fraction_10 (by decide) lc_inr (fun q2 => ?_) (fun q2 => ?_)
  · have q2 := lc_eq.mp q2
    have h := h.1 q2
    refine wp_aload_n dX12_fraction_31 rfl (by decide) ?_
    refine wp_lload_n dX12_fraction_32 rfl ?_
    refine wp_lload dX12_fraction_33 rfl ?_
    obtain ⟨o3, h⟩ := h
    obtain ⟨o4, h⟩ := h
    obtain ⟨o5, h⟩ := h
    refine wp_ldiv dX12_fraction_35 o3 o4 o5 ?_
    refine wp_putf (x := (Int.tdiv x1 x6)) dX12_fraction_36 (fl_X12_127 rfl) kd_88 (fun _ => rfl) rfl rfl trivial ?_
    refine wp_aload_n dX12_fraction_39 rfl (by decide) ?_
    refine wp_lload_n dX12_fraction_40 rfl ?_
    refine wp_lload dX12_fraction_41 rfl ?_
    obtain ⟨o6, h⟩ := h
    refine wp_ldiv dX12_fraction_43 o6 o4 o5 ?_
    refine wp_putf (x := (Int.tdiv x3 x6)) dX12_fraction_44 (fl_X12_106 rfl) kd_88 (fun _ => rfl) rfl rfl trivial ?_
    refine wp_iload dX12_fraction_47 rfl ?_
    exact wp_iret dX12_fraction_49 rfl (Or.inr ⟨rfl, rfl, rfl, by decide⟩) rfl h
  · have q2 := lc_ne.mp q2
    have h := h.2 q2
    refine wp_lload dX12_fraction_13 rfl ?_
    refine wp_lload dX12_fraction_15 rfl ?_
    obtain ⟨o7, h⟩ := h
    obtain ⟨o8, h⟩ := h
    obtain ⟨o9, h⟩ := h
    refine wp_lrem dX12_fraction_17 o7 o8 o9 ?_
    refine wp_lstore (L2 := [some (Rv 88), some (Jv x1), none, some (Jv x3), none, some (Iv x5), some (Jv x6), none, some (Jv x8), none, some (Jv (Int.tmod x6 x8)), none]) dX12_fraction_18 (Nat.le_of_ble_eq_true rfl) (Nat.le_of_ble_eq_true rfl) rfl ?_
    refine wp_lload dX12_fraction_20 rfl ?_
    refine wp_lstore (L2 := [some (Rv 88), some (Jv x1), none, some (Jv x3), none, some (Iv x5), some (Jv x8), none, some (Jv x8), none, some (Jv (Int.tmod x6 x8)), none]) dX12_fraction_22 (Nat.le_of_ble_eq_true rfl) (Nat.le_of_ble_eq_true rfl) rfl ?_
    refine wp_lload dX12_fraction_24 rfl ?_
    refine wp_lstore (L2 := [some (Rv 88), some (Jv x1), none, some (Jv x3), none, some (Iv x5), some (Jv x8), none, some (Jv (Int.tmod x6 x8)), none, some (Jv (Int.tmod x6 x8)), none]) dX12_fraction_26 (Nat.le_of_ble_eq_true rfl) (Nat.le_of_ble_eq_true rfl) rfl ?_
    refine wp_goto (tgt := 6) dX12_fraction_28 (by decide) ?_
    exact wp_weak [true, true, true, true, true, true, true, true, true, true, false, true] rfl h
theorem gX12_upper  {M : Mem} {Q : Vl → Mem → Prop} (h : Q (Jv (M 88 4)) M) : wp 0 yX12_upper 0 [some (Rv 88)] [] M Q := by
  refine wp_aload_n dX12_upper_0 rfl (by decide) ?_
  refine wp_getf (t := Jv (M 88 4)) (M 88 4) dX12_upper_1 (fl_X12_127 rfl) kd_88 rfl rfl ?_
  exact wp_lret dX12_upper_4 rfl (Or.inr ⟨rfl, rfl, rfl, by decide⟩) rfl h
theorem eX12_upper  {M : Mem} {Q : Vl → Mem → Prop} (h : Q (Jv (M 88 4)) M) : cl 0 yX12_upper [Rv 88] M Q := enterG (by decide +kernel) (by exact Or.inr (Or.inr (Or.inr (Or.inl rfl)))) (Nat.le_of_ble_eq_true rfl) rfl (gX12_upper h)
theorem gX12_lower  {M : Mem} {Q : Vl → Mem → Prop} (h : Q (Jv (M 88 5)) M) : wp 0 yX12_lower 0 [some (Rv 88)] [] M Q := by
  refine wp_aload_n dX12_lower_0 rfl (by decide) ?_
  refine wp_getf (t := Jv (M 88 5)) (M 88 5) dX12_lower_1 (fl_X12_106 rfl) kd_88 rfl rfl ?_
  exact wp_lret dX12_lower_4 rfl (Or.inr ⟨rfl, rfl, rfl, by decide⟩) rfl h
theorem eX12_lower  {M : Mem} {Q : Vl → Mem → Prop} (h : Q (Jv (M 88 5)) M) : cl 0 yX12_lower [Rv 88] M Q := enterG (by decide +kernel) (by exact Or.inr (Or.inr (Or.inr (Or.inl rfl)))) (Nat.le_of_ble_eq_true rfl) rfl (gX12_lower h)
theorem gX12_isRow {x0 : Int}  {M : Mem} {Q : Vl → Mem → Prop} (h : cl 0 yX12_in [Iv x0, Iv 0, Iv 5] M (QI (fun z1 M1 => (Q (Iv z1) M1)))) : wp 0 yX12_isRow 0 [some (Iv x0)] [] M Q := by
  refine wp_iload_n dX12_isRow_0 rfl ?_
  refine wp_iconst dX12_isRow_1 ?_
  refine wp_iconst dX12_isRow_2 ?_
  refine wp_callS (e1 := 0) (as := [Iv x0, Iv 0, Iv 5]) (S := []) dX12_isRow_3 (cs_X12_117 rfl) rfl rfl (Nat.le_of_ble_eq_true rfl) (Nat.le_of_ble_eq_true rfl) h (fun v1 M1 q1 r1 => ?_)
  obtain ⟨z1, rfl, hz1⟩ := retV_z r1 rfl
  have h := q1
  exact wp_zret dX12_isRow_6 rfl (Or.inr ⟨rfl, rfl, rfl, by decide⟩) rfl hz1 h
theorem eX12_isRow {x0 : Int}  {M : Mem} {Q : Vl → Mem → Prop} (h : cl 0 yX12_in [Iv x0, Iv 0, Iv 5] M (QI (fun z1 M1 => (Q (Iv z1) M1)))) : cl 0 yX12_isRow [Iv x0] M Q := enterG (by decide +kernel) (by exact Or.inr (Or.inr (Or.inl rfl))) (Nat.le_of_ble_eq_true rfl) rfl (gX12_isRow h)
theorem gX12_rowAt {x1 x2 : Int}  {M : Mem} {Q : Vl → Mem → Prop} (h : 0 ≤ (40 * x1) + x2 ∧ ((40 * x1) + x2 < 240 ∧ (Q (Iv (M 91 ((40 * x1) + x2))) M))) : wp 0 yX12_rowAt 0 [some (Rv 88), some (Iv x1), some (Iv x2)] [] M Q := by
  refine wp_aload_n dX12_rowAt_0 rfl (by decide) ?_
  refine wp_getf (t := Rv 91) 91 dX12_rowAt_1 (fl_X12_16 rfl) kd_88 rfl rfl ?_
  refine wp_bipush dX12_rowAt_4 (by decide) ?_
  refine wp_iload_n dX12_rowAt_6 rfl ?_
  refine wp_imul dX12_rowAt_7 ?_
  refine wp_iload_n dX12_rowAt_8 rfl ?_
  refine wp_iadd dX12_rowAt_9 ?_
  obtain ⟨o1, h⟩ := h
  obtain ⟨o2, h⟩ := h
  refine wp_iald (M 91 ((40 * x1) + x2)) dX12_rowAt_10 kd_91 sz_91 o1 o2 (⟨by omega, by omega⟩) rfl ?_
  exact wp_iret dX12_rowAt_11 rfl (Or.inr ⟨rfl, rfl, rfl, by decide⟩) rfl h
theorem eX12_rowAt {x1 x2 : Int}  {M : Mem} {Q : Vl → Mem → Prop} (h : 0 ≤ (40 * x1) + x2 ∧ ((40 * x1) + x2 < 240 ∧ (Q (Iv (M 91 ((40 * x1) + x2))) M))) : cl 0 yX12_rowAt [Rv 88, Iv x1, Iv x2] M Q := enterG (by decide +kernel) (by exact Or.inr (Or.inl rfl)) (Nat.le_of_ble_eq_true rfl) rfl (gX12_rowAt h)
theorem gX12_row {x1 x2 : Int}  {M : Mem} {Q : Vl → Mem → Prop} (h : cl 0 yX12_isRow [Iv x1] M (QI (fun z1 M1 => ((z1 = 0 → Q (Iv (-1)) M1) ∧ (z1 ≠ 0 → inr x2 ∧ ((x2 ≤ 40 → ((0 ≤ x2 → 0 ≤ x1 ∧ (x1 < 6 ∧ (wp 0 yX12_row 34 [some (Rv 88), some (Iv x1), some (Iv x2), some (Iv 0)] [] (up M1 90 x1 x2) Q))) ∧ (x2 < 0 → cl 0 yX12_meets [Rv 88, Iv 5] M1 (QI (fun z8 M8 => (Q (Iv z8) M8)))))) ∧ (40 < x2 → Q (Iv (-1)) M1))))))) : wp 0 yX12_row 0 [some (Rv 88), some (Iv x1), some (Iv x2), none] [] M Q := by
  refine wp_iload_n dX12_row_0 rfl ?_
  refine wp_callS (e1 := 0) (as := [Iv x1]) (S := []) dX12_row_1 (cs_X12_130 rfl) rfl rfl (Nat.le_of_ble_eq_true rfl) (Nat.le_of_ble_eq_true rfl) h (fun v1 M1 q1 r1 => ?_)
  obtain ⟨z1, rfl, hz1⟩ := retV_z r1 rfl
  have h := q1
  refine wp_if_eq (tgt := 13) dX12_row_4 (by decide) (by have := hz1; omega) (fun q2 => ?_) (fun q2 => ?_)
  · have h := h.1 q2
    refine wp_iconst dX12_row_13 ?_
    exact wp_iret dX12_row_14 rfl (Or.inr ⟨rfl, rfl, rfl, by decide⟩) rfl h
  · have h := h.2 q2
    refine wp_iload_n dX12_row_7 rfl ?_
    refine wp_bipush dX12_row_8 (by decide) ?_
    obtain ⟨o3, h⟩ := h
    refine wp_icmp_le (tgt := 15) dX12_row_10 (by decide) o3 (by decide) (fun q4 => ?_) (fun q4 => ?_)
    · have h := h.1 q4
      refine wp_iload_n dX12_row_15 rfl ?_
      refine wp_if_ge (tgt := 25) dX12_row_16 (by decide) o3 (fun q5 => ?_) (fun q5 => ?_)
      · have h := h.1 q5
        refine wp_aload_n dX12_row_25 rfl (by decide) ?_
        refine wp_getf (t := Rv 90) 90 dX12_row_26 (fl_X12_13 rfl) kd_88 rfl rfl ?_
        refine wp_iload_n dX12_row_29 rfl ?_
        refine wp_iload_n dX12_row_30 rfl ?_
        obtain ⟨o6, h⟩ := h
        obtain ⟨o7, h⟩ := h
        refine wp_iast dX12_row_31 kd_90 sz_90 o6 o7 (⟨by omega, by omega⟩) ?_
        refine wp_iconst dX12_row_32 ?_
        refine wp_istore_n (L2 := [some (Rv 88), some (Iv x1), some (Iv x2), some (Iv 0)]) dX12_row_33 (Nat.le_of_ble_eq_true rfl) (Nat.le_of_ble_eq_true rfl) rfl ?_
        exact h
      · have h := h.2 q5
        refine wp_aload_n dX12_row_19 rfl (by decide) ?_
        refine wp_iconst dX12_row_20 ?_
        refine wp_callV (e1 := 0) (as := [Iv 5]) (S := []) dX12_row_21 (cs_X12_134 rfl) kd_88 rfl rfl (Nat.le_of_ble_eq_true rfl) (Nat.le_of_ble_eq_true rfl) h (fun v8 M8 q8 r8 => ?_)
        obtain ⟨z8, rfl⟩ := retV_i r8 rfl
        have h := q8
        exact wp_iret dX12_row_24 rfl (Or.inr ⟨rfl, rfl, rfl, by decide⟩) rfl h
    · have h := h.2 q4
      refine wp_iconst dX12_row_13 ?_
      exact wp_iret dX12_row_14 rfl (Or.inr ⟨rfl, rfl, rfl, by decide⟩) rfl h
theorem eX12_row {x1 x2 : Int}  {M : Mem} {Q : Vl → Mem → Prop} (h : cl 0 yX12_isRow [Iv x1] M (QI (fun z1 M1 => ((z1 = 0 → Q (Iv (-1)) M1) ∧ (z1 ≠ 0 → inr x2 ∧ ((x2 ≤ 40 → ((0 ≤ x2 → 0 ≤ x1 ∧ (x1 < 6 ∧ (wp 0 yX12_row 34 [some (Rv 88), some (Iv x1), some (Iv x2), some (Iv 0)] [] (up M1 90 x1 x2) Q))) ∧ (x2 < 0 → cl 0 yX12_meets [Rv 88, Iv 5] M1 (QI (fun z8 M8 => (Q (Iv z8) M8)))))) ∧ (40 < x2 → Q (Iv (-1)) M1))))))) : cl 0 yX12_row [Rv 88, Iv x1, Iv x2] M Q := enterG (by decide +kernel) (by exact Or.inr (Or.inl rfl)) (Nat.le_of_ble_eq_true rfl) rfl (gX12_row h)
theorem gX12_row_34 {x1 x2 x3 : Int}  {M : Mem} {Q : Vl → Mem → Prop} (h : inr x3 ∧ ((40 ≤ x3 → Q (Iv x2) M) ∧ (x3 < 40 → 0 ≤ (40 * x1) + x3 ∧ ((40 * x1) + x3 < 240 ∧ (wp 0 yX12_row 34 [some (Rv 88), some (Iv x1), some (Iv x2), some (Iv (x3 + 1))] [] (up M 91 ((40 * x1) + x3) 0) Q))))) : wp 0 yX12_row 34 [some (Rv 88), some (Iv x1), some (Iv x2), some (Iv x3)] [] M Q := by
  refine wp_iload_n dX12_row_34 rfl ?_
  refine wp_bipush dX12_row_35 (by decide) ?_
  obtain ⟨o1, h⟩ := h
  refine wp_icmp_ge (tgt := 58) dX12_row_37 (by decide) o1 (by decide) (fun q2 => ?_) (fun q2 => ?_)
  · have h := h.1 q2
    refine wp_iload_n dX12_row_58 rfl ?_
    exact wp_iret dX12_row_59 rfl (Or.inr ⟨rfl, rfl, rfl, by decide⟩) rfl h
  · have h := h.2 q2
    refine wp_aload_n dX12_row_40 rfl (by decide) ?_
    refine wp_getf (t := Rv 91) 91 dX12_row_41 (fl_X12_16 rfl) kd_88 rfl rfl ?_
    refine wp_bipush dX12_row_44 (by decide) ?_
    refine wp_iload_n dX12_row_46 rfl ?_
    refine wp_imul dX12_row_47 ?_
    refine wp_iload_n dX12_row_48 rfl ?_
    refine wp_iadd dX12_row_49 ?_
    refine wp_iconst dX12_row_50 ?_
    obtain ⟨o3, h⟩ := h
    obtain ⟨o4, h⟩ := h
    refine wp_iast dX12_row_51 kd_91 sz_91 o3 o4 (⟨by omega, by omega⟩) ?_
    refine wp_iinc (L2 := [some (Rv 88), some (Iv x1), some (Iv x2), some (Iv (x3 + 1))]) dX12_row_52 rfl (Nat.le_of_ble_eq_true rfl) (Nat.le_of_ble_eq_true rfl) rfl ?_
    refine wp_goto (tgt := 34) dX12_row_55 (by decide) ?_
    exact h
theorem gX12_lay {x1 x2 x3 : Int}  {M : Mem} {Q : Vl → Mem → Prop} (h : cl 0 yX12_isRow [Iv x1] M (QI (fun z1 M1 => ((z1 ≠ 0 → 0 ≤ x1 ∧ (x1 < 6 ∧ (inr (M1 90 x1) ∧ ((0 ≤ (M1 90 x1) → cl 0 yX12_in [Iv x2, Iv 0, Iv ((M1 90 x1) - 1)] M1 (QI (fun z7 M7 => ((z7 ≠ 0 → cl 0 yX12_rowAt [Rv 88, Iv x1, Iv x2] M7 (QI (fun z9 M9 => (0 ≤ (40 * x1) + x2 ∧ ((40 * x1) + x2 < 240 ∧ (cl 0 yX12_tells [Rv 88, Iv z9, Iv 1] (up M9 91 ((40 * x1) + x2) x3) (QI (fun z12 M12 => (Q (Iv z12) M12))))))))) ∧ (z7 = 0 → cl 0 yX12_meets [Rv 88, Iv 2] M7 (QI (fun z13 M13 => (Q (Iv z13) M13)))))))) ∧ ((M1 90 x1) < 0 → cl 0 yX12_meets [Rv 88, Iv 1] M1 (QI (fun z14 M14 => (Q (Iv z14) M14)))))))) ∧ (z1 = 0 → Q (Iv (-1)) M1))))) : wp 0 yX12_lay 0 [some (Rv 88), some (Iv x1), some (Iv x2), some (Iv x3), none] [] M Q := by
  refine wp_iload_n dX12_lay_0 rfl ?_
  refine wp_callS (e1 := 0) (as := [Iv x1]) (S := []) dX12_lay_1 (cs_X12_130 rfl) rfl rfl (Nat.le_of_ble_eq_true rfl) (Nat.le_of_ble_eq_true rfl) h (fun v1 M1 q1 r1 => ?_)
  obtain ⟨z1, rfl, hz1⟩ := retV_z r1 rfl
  have h := q1
  refine wp_if_ne (tgt := 9) dX12_lay_4 (by decide) (by have := hz1; omega) (fun q2 => ?_) (fun q2 => ?_)
  · have h := h.1 q2
    refine wp_aload_n dX12_lay_9 rfl (by decide) ?_
    refine wp_getf (t := Rv 90) 90 dX12_lay_10 (fl_X12_13 rfl) kd_88 rfl rfl ?_
    refine wp_iload_n dX12_lay_13 rfl ?_
    obtain ⟨o3, h⟩ := h
    obtain ⟨o4, h⟩ := h
    refine wp_iald (M1 90 x1) dX12_lay_14 kd_90 sz_90 o3 o4 (⟨by omega, by omega⟩) rfl ?_
    obtain ⟨o5, h⟩ := h
    refine wp_if_ge (tgt := 24) dX12_lay_15 (by decide) o5 (fun q6 => ?_) (fun q6 => ?_)
    · have h := h.1 q6
      refine wp_iload_n dX12_lay_24 rfl ?_
      refine wp_iconst dX12_lay_25 ?_
      refine wp_aload_n dX12_lay_26 rfl (by decide) ?_
      refine wp_getf (t := Rv 90) 90 dX12_lay_27 (fl_X12_13 rfl) kd_88 rfl rfl ?_
      refine wp_iload_n dX12_lay_30 rfl ?_
      refine wp_iald (M1 90 x1) dX12_lay_31 kd_90 sz_90 o3 o4 (⟨by omega, by omega⟩) rfl ?_
      refine wp_iconst dX12_lay_32 ?_
      refine wp_isub dX12_lay_33 ?_
      refine wp_callS (e1 := 0) (as := [Iv x2, Iv 0, Iv ((M1 90 x1) - 1)]) (S := []) dX12_lay_34 (cs_X12_117 rfl) rfl rfl (Nat.le_of_ble_eq_true rfl) (Nat.le_of_ble_eq_true rfl) h (fun v7 M7 q7 r7 => ?_)
      obtain ⟨z7, rfl, hz7⟩ := retV_z r7 rfl
      have h := q7
      refine wp_if_ne (tgt := 46) dX12_lay_37 (by decide) (by have := hz7; omega) (fun q8 => ?_) (fun q8 => ?_)
      · have h := h.1 q8
        refine wp_aload_n dX12_lay_46 rfl (by decide) ?_
        refine wp_iload_n dX12_lay_47 rfl ?_
        refine wp_iload_n dX12_lay_48 rfl ?_
        refine wp_callV (e1 := 0) (as := [Iv x1, Iv x2]) (S := []) dX12_lay_49 (cs_X12_138 rfl) kd_88 rfl rfl (Nat.le_of_ble_eq_true rfl) (Nat.le_of_ble_eq_true rfl) h (fun v9 M9 q9 r9 => ?_)
        obtain ⟨z9, rfl⟩ := retV_i r9 rfl
        have h := q9
        refine wp_istore (L2 := [some (Rv 88), some (Iv x1), some (Iv x2), some (Iv x3), some (Iv z9)]) dX12_lay_52 (Nat.le_of_ble_eq_true rfl) (Nat.le_of_ble_eq_true rfl) rfl ?_
        refine wp_aload_n dX12_lay_54 rfl (by decide) ?_
        refine wp_getf (t := Rv 91) 91 dX12_lay_55 (fl_X12_16 rfl) kd_88 rfl rfl ?_
        refine wp_bipush dX12_lay_58 (by decide) ?_
        refine wp_iload_n dX12_lay_60 rfl ?_
        refine wp_imul dX12_lay_61 ?_
        refine wp_iload_n dX12_lay_62 rfl ?_
        refine wp_iadd dX12_lay_63 ?_
        refine wp_iload_n dX12_lay_64 rfl ?_
        obtain ⟨o10, h⟩ := h
        obtain ⟨o11, h⟩ := h
        refine wp_iast dX12_lay_65 kd_91 sz_91 o10 o11 (⟨by omega, by omega⟩) ?_
        refine wp_aload_n dX12_lay_66 rfl (by decide) ?_
        refine wp_iload dX12_lay_67 rfl ?_
        refine wp_iconst dX12_lay_69 ?_
        refine wp_callV (e1 := 0) (as := [Iv z9, Iv 1]) (S := []) dX12_lay_70 (cs_X12_142 rfl) kd_88 rfl rfl (Nat.le_of_ble_eq_true rfl) (Nat.le_of_ble_eq_true rfl) h (fun v12 M12 q12 r12 => ?_)
        obtain ⟨z12, rfl⟩ := retV_i r12 rfl
        have h := q12
        exact wp_iret dX12_lay_73 rfl (Or.inr ⟨rfl, rfl, rfl, by decide⟩) rfl h
      · have h := h.2 q8
        refine wp_aload_n dX12_lay_40 rfl (by decide) ?_
        refine wp_iconst dX12_lay_41 ?_
        refine wp_callV (e1 := 0) (as := [Iv 2]) (S := []) dX12_lay_42 (cs_X12_134 rfl) kd_88 rfl rfl (Nat.le_of_ble_eq_true rfl) (Nat.le_of_ble_eq_true rfl) h (fun v13 M13 q13 r13 => ?_)
        obtain ⟨z13, rfl⟩ := retV_i r13 rfl
        have h := q13
        exact wp_iret dX12_lay_45 rfl (Or.inr ⟨rfl, rfl, rfl, by decide⟩) rfl h
    · have h := h.2 q6
      refine wp_aload_n dX12_lay_18 rfl (by decide) ?_
      refine wp_iconst dX12_lay_19 ?_
      refine wp_callV (e1 := 0) (as := [Iv 1]) (S := []) dX12_lay_20 (cs_X12_134 rfl) kd_88 rfl rfl (Nat.le_of_ble_eq_true rfl) (Nat.le_of_ble_eq_true rfl) h (fun v14 M14 q14 r14 => ?_)
      obtain ⟨z14, rfl⟩ := retV_i r14 rfl
      have h := q14
      exact wp_iret dX12_lay_23 rfl (Or.inr ⟨rfl, rfl, rfl, by decide⟩) rfl h
  · have h := h.2 q2
    refine wp_iconst dX12_lay_7 ?_
    exact wp_iret dX12_lay_8 rfl (Or.inr ⟨rfl, rfl, rfl, by decide⟩) rfl h
theorem eX12_lay {x1 x2 x3 : Int}  {M : Mem} {Q : Vl → Mem → Prop} (h : cl 0 yX12_isRow [Iv x1] M (QI (fun z1 M1 => ((z1 ≠ 0 → 0 ≤ x1 ∧ (x1 < 6 ∧ (inr (M1 90 x1) ∧ ((0 ≤ (M1 90 x1) → cl 0 yX12_in [Iv x2, Iv 0, Iv ((M1 90 x1) - 1)] M1 (QI (fun z7 M7 => ((z7 ≠ 0 → cl 0 yX12_rowAt [Rv 88, Iv x1, Iv x2] M7 (QI (fun z9 M9 => (0 ≤ (40 * x1) + x2 ∧ ((40 * x1) + x2 < 240 ∧ (cl 0 yX12_tells [Rv 88, Iv z9, Iv 1] (up M9 91 ((40 * x1) + x2) x3) (QI (fun z12 M12 => (Q (Iv z12) M12))))))))) ∧ (z7 = 0 → cl 0 yX12_meets [Rv 88, Iv 2] M7 (QI (fun z13 M13 => (Q (Iv z13) M13)))))))) ∧ ((M1 90 x1) < 0 → cl 0 yX12_meets [Rv 88, Iv 1] M1 (QI (fun z14 M14 => (Q (Iv z14) M14)))))))) ∧ (z1 = 0 → Q (Iv (-1)) M1))))) : cl 0 yX12_lay [Rv 88, Iv x1, Iv x2, Iv x3] M Q := enterG (by decide +kernel) (by exact Or.inr (Or.inl rfl)) (Nat.le_of_ble_eq_true rfl) rfl (gX12_lay h)
theorem gX12_at {x1 x2 : Int}  {M : Mem} {Q : Vl → Mem → Prop} (h : cl 0 yX12_isRow [Iv x1] M (QI (fun z1 M1 => ((z1 ≠ 0 → 0 ≤ x1 ∧ (x1 < 6 ∧ (inr (M1 90 x1) ∧ ((0 ≤ (M1 90 x1) → cl 0 yX12_in [Iv x2, Iv 0, Iv ((M1 90 x1) - 1)] M1 (QI (fun z7 M7 => ((z7 = 0 → cl 0 yX12_meets [Rv 88, Iv 2] M7 (QI (fun z9 M9 => (Q (Iv z9) M9)))) ∧ (z7 ≠ 0 → cl 0 yX12_rowAt [Rv 88, Iv x1, Iv x2] M7 (QI (fun z10 M10 => (cl 0 yX12_tells [Rv 88, Iv z10, Iv 1] M10 (QI (fun z11 M11 => (Q (Iv z11) M11))))))))))) ∧ ((M1 90 x1) < 0 → cl 0 yX12_meets [Rv 88, Iv 1] M1 (QI (fun z12 M12 => (Q (Iv z12) M12)))))))) ∧ (z1 = 0 → Q (Iv (-1)) M1))))) : wp 0 yX12_at 0 [some (Rv 88), some (Iv x1), some (Iv x2)] [] M Q := by
  refine wp_iload_n dX12_at_0 rfl ?_
  refine wp_callS (e1 := 0) (as := [Iv x1]) (S := []) dX12_at_1 (cs_X12_130 rfl) rfl rfl (Nat.le_of_ble_eq_true rfl) (Nat.le_of_ble_eq_true rfl) h (fun v1 M1 q1 r1 => ?_)
  obtain ⟨z1, rfl, hz1⟩ := retV_z r1 rfl
  have h := q1
  refine wp_if_ne (tgt := 9) dX12_at_4 (by decide) (by have := hz1; omega) (fun q2 => ?_) (fun q2 => ?_)
  · have h := h.1 q2
    refine wp_aload_n dX12_at_9 rfl (by decide) ?_
    refine wp_getf (t := Rv 90) 90 dX12_at_10 (fl_X12_13 rfl) kd_88 rfl rfl ?_
    refine wp_iload_n dX12_at_13 rfl ?_
    obtain ⟨o3, h⟩ := h
    obtain ⟨o4, h⟩ := h
    refine wp_iald (M1 90 x1) dX12_at_14 kd_90 sz_90 o3 o4 (⟨by omega, by omega⟩) rfl ?_
    obtain ⟨o5, h⟩ := h
    refine wp_if_ge (tgt := 24) dX12_at_15 (by decide) o5 (fun q6 => ?_) (fun q6 => ?_)
    · have h := h.1 q6
      refine wp_iload_n dX12_at_24 rfl ?_
      refine wp_iconst dX12_at_25 ?_
      refine wp_aload_n dX12_at_26 rfl (by decide) ?_
      refine wp_getf (t := Rv 90) 90 dX12_at_27 (fl_X12_13 rfl) kd_88 rfl rfl ?_
      refine wp_iload_n dX12_at_30 rfl ?_
      refine wp_iald (M1 90 x1) dX12_at_31 kd_90 sz_90 o3 o4 (⟨by omega, by omega⟩) rfl ?_
      refine wp_iconst dX12_at_32 ?_
      refine wp_isub dX12_at_33 ?_
      refine wp_callS (e1 := 0) (as := [Iv x2, Iv 0, Iv ((M1 90 x1) - 1)]) (S := []) dX12_at_34 (cs_X12_117 rfl) rfl rfl (Nat.le_of_ble_eq_true rfl) (Nat.le_of_ble_eq_true rfl) h (fun v7 M7 q7 r7 => ?_)
      obtain ⟨z7, rfl, hz7⟩ := retV_z r7 rfl
      have h := q7
      refine wp_if_eq (tgt := 54) dX12_at_37 (by decide) (by have := hz7; omega) (fun q8 => ?_) (fun q8 => ?_)
      · have h := h.1 q8
        refine wp_aload_n dX12_at_54 rfl (by decide) ?_
        refine wp_iconst dX12_at_55 ?_
        refine wp_callV (e1 := 0) (as := [Iv 2]) (S := []) dX12_at_56 (cs_X12_134 rfl) kd_88 rfl rfl (Nat.le_of_ble_eq_true rfl) (Nat.le_of_ble_eq_true rfl) h (fun v9 M9 q9 r9 => ?_)
        obtain ⟨z9, rfl⟩ := retV_i r9 rfl
        have h := q9
        exact wp_iret dX12_at_59 rfl (Or.inr ⟨rfl, rfl, rfl, by decide⟩) rfl h
      · have h := h.2 q8
        refine wp_aload_n dX12_at_40 rfl (by decide) ?_
        refine wp_aload_n dX12_at_41 rfl (by decide) ?_
        refine wp_iload_n dX12_at_42 rfl ?_
        refine wp_iload_n dX12_at_43 rfl ?_
        refine wp_callV (e1 := 0) (as := [Iv x1, Iv x2]) (S := [Rv 88]) dX12_at_44 (cs_X12_138 rfl) kd_88 rfl rfl (Nat.le_of_ble_eq_true rfl) (Nat.le_of_ble_eq_true rfl) h (fun v10 M10 q10 r10 => ?_)
        obtain ⟨z10, rfl⟩ := retV_i r10 rfl
        have h := q10
        refine wp_iconst dX12_at_47 ?_
        refine wp_callV (e1 := 0) (as := [Iv z10, Iv 1]) (S := []) dX12_at_48 (cs_X12_142 rfl) kd_88 rfl rfl (Nat.le_of_ble_eq_true rfl) (Nat.le_of_ble_eq_true rfl) h (fun v11 M11 q11 r11 => ?_)
        obtain ⟨z11, rfl⟩ := retV_i r11 rfl
        have h := q11
        refine wp_goto (tgt := 59) dX12_at_51 (by decide) ?_
        exact wp_iret dX12_at_59 rfl (Or.inr ⟨rfl, rfl, rfl, by decide⟩) rfl h
    · have h := h.2 q6
      refine wp_aload_n dX12_at_18 rfl (by decide) ?_
      refine wp_iconst dX12_at_19 ?_
      refine wp_callV (e1 := 0) (as := [Iv 1]) (S := []) dX12_at_20 (cs_X12_134 rfl) kd_88 rfl rfl (Nat.le_of_ble_eq_true rfl) (Nat.le_of_ble_eq_true rfl) h (fun v12 M12 q12 r12 => ?_)
      obtain ⟨z12, rfl⟩ := retV_i r12 rfl
      have h := q12
      exact wp_iret dX12_at_23 rfl (Or.inr ⟨rfl, rfl, rfl, by decide⟩) rfl h
  · have h := h.2 q2
    refine wp_iconst dX12_at_7 ?_
    exact wp_iret dX12_at_8 rfl (Or.inr ⟨rfl, rfl, rfl, by decide⟩) rfl h
theorem eX12_at {x1 x2 : Int}  {M : Mem} {Q : Vl → Mem → Prop} (h : cl 0 yX12_isRow [Iv x1] M (QI (fun z1 M1 => ((z1 ≠ 0 → 0 ≤ x1 ∧ (x1 < 6 ∧ (inr (M1 90 x1) ∧ ((0 ≤ (M1 90 x1) → cl 0 yX12_in [Iv x2, Iv 0, Iv ((M1 90 x1) - 1)] M1 (QI (fun z7 M7 => ((z7 = 0 → cl 0 yX12_meets [Rv 88, Iv 2] M7 (QI (fun z9 M9 => (Q (Iv z9) M9)))) ∧ (z7 ≠ 0 → cl 0 yX12_rowAt [Rv 88, Iv x1, Iv x2] M7 (QI (fun z10 M10 => (cl 0 yX12_tells [Rv 88, Iv z10, Iv 1] M10 (QI (fun z11 M11 => (Q (Iv z11) M11))))))))))) ∧ ((M1 90 x1) < 0 → cl 0 yX12_meets [Rv 88, Iv 1] M1 (QI (fun z12 M12 => (Q (Iv z12) M12)))))))) ∧ (z1 = 0 → Q (Iv (-1)) M1))))) : cl 0 yX12_at [Rv 88, Iv x1, Iv x2] M Q := enterG (by decide +kernel) (by exact Or.inr (Or.inl rfl)) (Nat.le_of_ble_eq_true rfl) rfl (gX12_at h)
theorem gX12_tear {x1 : Int}  {M : Mem} {Q : Vl → Mem → Prop} (h : cl 0 yX12_isRow [Iv x1] M (QI (fun z1 M1 => ((z1 ≠ 0 → 0 ≤ x1 ∧ (x1 < 6 ∧ (inr (M1 90 x1) ∧ ((0 ≤ (M1 90 x1) → Q (Iv 1) (up M1 90 x1 (-1))) ∧ ((M1 90 x1) < 0 → cl 0 yX12_meets [Rv 88, Iv 1] M1 (QI (fun z7 M7 => (Q (Iv z7) M7)))))))) ∧ (z1 = 0 → Q (Iv (-1)) M1))))) : wp 0 yX12_tear 0 [some (Rv 88), some (Iv x1)] [] M Q := by
  refine wp_iload_n dX12_tear_0 rfl ?_
  refine wp_callS (e1 := 0) (as := [Iv x1]) (S := []) dX12_tear_1 (cs_X12_130 rfl) rfl rfl (Nat.le_of_ble_eq_true rfl) (Nat.le_of_ble_eq_true rfl) h (fun v1 M1 q1 r1 => ?_)
  obtain ⟨z1, rfl, hz1⟩ := retV_z r1 rfl
  have h := q1
  refine wp_if_ne (tgt := 9) dX12_tear_4 (by decide) (by have := hz1; omega) (fun q2 => ?_) (fun q2 => ?_)
  · have h := h.1 q2
    refine wp_aload_n dX12_tear_9 rfl (by decide) ?_
    refine wp_getf (t := Rv 90) 90 dX12_tear_10 (fl_X12_13 rfl) kd_88 rfl rfl ?_
    refine wp_iload_n dX12_tear_13 rfl ?_
    obtain ⟨o3, h⟩ := h
    obtain ⟨o4, h⟩ := h
    refine wp_iald (M1 90 x1) dX12_tear_14 kd_90 sz_90 o3 o4 (⟨by omega, by omega⟩) rfl ?_
    obtain ⟨o5, h⟩ := h
    refine wp_if_ge (tgt := 24) dX12_tear_15 (by decide) o5 (fun q6 => ?_) (fun q6 => ?_)
    · have h := h.1 q6
      refine wp_aload_n dX12_tear_24 rfl (by decide) ?_
      refine wp_getf (t := Rv 90) 90 dX12_tear_25 (fl_X12_13 rfl) kd_88 rfl rfl ?_
      refine wp_iload_n dX12_tear_28 rfl ?_
      refine wp_iconst dX12_tear_29 ?_
      refine wp_iast dX12_tear_30 kd_90 sz_90 o3 o4 (⟨by omega, by omega⟩) ?_
      refine wp_iconst dX12_tear_31 ?_
      exact wp_iret dX12_tear_32 rfl (Or.inr ⟨rfl, rfl, rfl, by decide⟩) rfl h
    · have h := h.2 q6
      refine wp_aload_n dX12_tear_18 rfl (by decide) ?_
      refine wp_iconst dX12_tear_19 ?_
      refine wp_callV (e1 := 0) (as := [Iv 1]) (S := []) dX12_tear_20 (cs_X12_134 rfl) kd_88 rfl rfl (Nat.le_of_ble_eq_true rfl) (Nat.le_of_ble_eq_true rfl) h (fun v7 M7 q7 r7 => ?_)
      obtain ⟨z7, rfl⟩ := retV_i r7 rfl
      have h := q7
      exact wp_iret dX12_tear_23 rfl (Or.inr ⟨rfl, rfl, rfl, by decide⟩) rfl h
  · have h := h.2 q2
    refine wp_iconst dX12_tear_7 ?_
    exact wp_iret dX12_tear_8 rfl (Or.inr ⟨rfl, rfl, rfl, by decide⟩) rfl h
theorem eX12_tear {x1 : Int}  {M : Mem} {Q : Vl → Mem → Prop} (h : cl 0 yX12_isRow [Iv x1] M (QI (fun z1 M1 => ((z1 ≠ 0 → 0 ≤ x1 ∧ (x1 < 6 ∧ (inr (M1 90 x1) ∧ ((0 ≤ (M1 90 x1) → Q (Iv 1) (up M1 90 x1 (-1))) ∧ ((M1 90 x1) < 0 → cl 0 yX12_meets [Rv 88, Iv 1] M1 (QI (fun z7 M7 => (Q (Iv z7) M7)))))))) ∧ (z1 = 0 → Q (Iv (-1)) M1))))) : cl 0 yX12_tear [Rv 88, Iv x1] M Q := enterG (by decide +kernel) (by exact Or.inr (Or.inl rfl)) (Nat.le_of_ble_eq_true rfl) rfl (gX12_tear h)
theorem gX12_copy {x1 x2 x3 x4 x5 : Int}  {M : Mem} {Q : Vl → Mem → Prop} (h : cl 0 yX12_isRow [Iv x1] M (QI (fun z1 M1 => ((z1 = 0 → Q (Iv (-1)) M1) ∧ (z1 ≠ 0 → cl 0 yX12_isRow [Iv x3] M1 (QI (fun z3 M3 => ((z3 ≠ 0 → inr x5 ∧ ((0 ≤ x5 → 0 ≤ x1 ∧ (x1 < 6 ∧ (inr (M3 90 x1) ∧ (((M3 90 x1) < 0 → cl 0 yX12_meets [Rv 88, Iv 1] M3 (QI (fun z11 M11 => (Q (Iv z11) M11)))) ∧ (0 ≤ (M3 90 x1) → 0 ≤ x3 ∧ (x3 < 6 ∧ (inr (M3 90 x3) ∧ ((0 ≤ (M3 90 x3) → inr x2 ∧ ((x2 < 0 → cl 0 yX12_meets [Rv 88, Iv 2] M3 (QI (fun z18 M18 => (Q (Iv z18) M18)))) ∧ (0 ≤ x2 → inr x4 ∧ ((x4 < 0 → cl 0 yX12_meets [Rv 88, Iv 2] M3 (QI (fun z21 M21 => (Q (Iv z21) M21)))) ∧ (0 ≤ x4 → inL (x2 + x5) ∧ (inL (M3 90 x1) ∧ (((M3 90 x1) < (x2 + x5) → cl 0 yX12_meets [Rv 88, Iv 2] M3 (QI (fun z25 M25 => (Q (Iv z25) M25)))) ∧ ((x2 + x5) ≤ (M3 90 x1) → inL (x4 + x5) ∧ (inL (M3 90 x3) ∧ (((x4 + x5) ≤ (M3 90 x3) → wp 0 yX12_copy 104 [some (Rv 88), some (Iv x1), some (Iv x2), some (Iv x3), some (Iv x4), some (Iv x5), some (Iv 0)] [] M3 Q) ∧ ((M3 90 x3) < (x4 + x5) → cl 0 yX12_meets [Rv 88, Iv 2] M3 (QI (fun z29 M29 => (Q (Iv z29) M29)))))))))))))) ∧ ((M3 90 x3) < 0 → cl 0 yX12_meets [Rv 88, Iv 1] M3 (QI (fun z30 M30 => (Q (Iv z30) M30)))))))))))) ∧ (x5 < 0 → cl 0 yX12_meets [Rv 88, Iv 5] M3 (QI (fun z31 M31 => (Q (Iv z31) M31)))))) ∧ (z3 = 0 → Q (Iv (-1)) M3))))))))) : wp 0 yX12_copy 0 [some (Rv 88), some (Iv x1), some (Iv x2), some (Iv x3), some (Iv x4), some (Iv x5), none] [] M Q := by
  refine wp_iload_n dX12_copy_0 rfl ?_
  refine wp_callS (e1 := 0) (as := [Iv x1]) (S := []) dX12_copy_1 (cs_X12_130 rfl) rfl rfl (Nat.le_of_ble_eq_true rfl) (Nat.le_of_ble_eq_true rfl) h (fun v1 M1 q1 r1 => ?_)
  obtain ⟨z1, rfl, hz1⟩ := retV_z r1 rfl
  have h := q1
  refine wp_if_eq (tgt := 14) dX12_copy_4 (by decide) (by have := hz1; omega) (fun q2 => ?_) (fun q2 => ?_)
  · have h := h.1 q2
    refine wp_iconst dX12_copy_14 ?_
    exact wp_iret dX12_copy_15 rfl (Or.inr ⟨rfl, rfl, rfl, by decide⟩) rfl h
  · have h := h.2 q2
    refine wp_iload_n dX12_copy_7 rfl ?_
    refine wp_callS (e1 := 0) (as := [Iv x3]) (S := []) dX12_copy_8 (cs_X12_130 rfl) rfl rfl (Nat.le_of_ble_eq_true rfl) (Nat.le_of_ble_eq_true rfl) h (fun v3 M3 q3 r3 => ?_)
    obtain ⟨z3, rfl, hz3⟩ := retV_z r3 rfl
    have h := q3
    refine wp_if_ne (tgt := 16) dX12_copy_11 (by decide) (by have := hz3; omega) (fun q4 => ?_) (fun q4 => ?_)
    · have h := h.1 q4
      refine wp_iload dX12_copy_16 rfl ?_
      obtain ⟨o5, h⟩ := h
      refine wp_if_ge (tgt := 27) dX12_copy_18 (by decide) o5 (fun q6 => ?_) (fun q6 => ?_)
      · have h := h.1 q6
        refine wp_aload_n dX12_copy_27 rfl (by decide) ?_
        refine wp_getf (t := Rv 90) 90 dX12_copy_28 (fl_X12_13 rfl) kd_88 rfl rfl ?_
        refine wp_iload_n dX12_copy_31 rfl ?_
        obtain ⟨o7, h⟩ := h
        obtain ⟨o8, h⟩ := h
        refine wp_iald (M3 90 x1) dX12_copy_32 kd_90 sz_90 o7 o8 (⟨by omega, by omega⟩) rfl ?_
        obtain ⟨o9, h⟩ := h
        refine wp_if_lt (tgt := 45) dX12_copy_33 (by decide) o9 (fun q10 => ?_) (fun q10 => ?_)
        · have h := h.1 q10
          refine wp_aload_n dX12_copy_45 rfl (by decide) ?_
          refine wp_iconst dX12_copy_46 ?_
          refine wp_callV (e1 := 0) (as := [Iv 1]) (S := []) dX12_copy_47 (cs_X12_134 rfl) kd_88 rfl rfl (Nat.le_of_ble_eq_true rfl) (Nat.le_of_ble_eq_true rfl) h (fun v11 M11 q11 r11 => ?_)
          obtain ⟨z11, rfl⟩ := retV_i r11 rfl
          have h := q11
          exact wp_iret dX12_copy_50 rfl (Or.inr ⟨rfl, rfl, rfl, by decide⟩) rfl h
        · have h := h.2 q10
          refine wp_aload_n dX12_copy_36 rfl (by decide) ?_
          refine wp_getf (t := Rv 90) 90 dX12_copy_37 (fl_X12_13 rfl) kd_88 rfl rfl ?_
          refine wp_iload_n dX12_copy_40 rfl ?_
          obtain ⟨o12, h⟩ := h
          obtain ⟨o13, h⟩ := h
          refine wp_iald (M3 90 x3) dX12_copy_41 kd_90 sz_90 o12 o13 (⟨by omega, by omega⟩) rfl ?_
          obtain ⟨o14, h⟩ := h
          refine wp_if_ge (tgt := 51) dX12_copy_42 (by decide) o14 (fun q15 => ?_) (fun q15 => ?_)
          · have h := h.1 q15
            refine wp_iload_n dX12_copy_51 rfl ?_
            obtain ⟨o16, h⟩ := h
            refine wp_if_lt (tgt := 95) dX12_copy_52 (by decide) o16 (fun q17 => ?_) (fun q17 => ?_)
            · have h := h.1 q17
              refine wp_aload_n dX12_copy_95 rfl (by decide) ?_
              refine wp_iconst dX12_copy_96 ?_
              refine wp_callV (e1 := 0) (as := [Iv 2]) (S := []) dX12_copy_97 (cs_X12_134 rfl) kd_88 rfl rfl (Nat.le_of_ble_eq_true rfl) (Nat.le_of_ble_eq_true rfl) h (fun v18 M18 q18 r18 => ?_)
              obtain ⟨z18, rfl⟩ := retV_i r18 rfl
              have h := q18
              exact wp_iret dX12_copy_100 rfl (Or.inr ⟨rfl, rfl, rfl, by decide⟩) rfl h
            · have h := h.2 q17
              refine wp_iload dX12_copy_55 rfl ?_
              obtain ⟨o19, h⟩ := h
              refine wp_if_lt (tgt := 95) dX12_copy_57 (by decide) o19 (fun q20 => ?_) (fun q20 => ?_)
              · have h := h.1 q20
                refine wp_aload_n dX12_copy_95 rfl (by decide) ?_
                refine wp_iconst dX12_copy_96 ?_
                refine wp_callV (e1 := 0) (as := [Iv 2]) (S := []) dX12_copy_97 (cs_X12_134 rfl) kd_88 rfl rfl (Nat.le_of_ble_eq_true rfl) (Nat.le_of_ble_eq_true rfl) h (fun v21 M21 q21 r21 => ?_)
                obtain ⟨z21, rfl⟩ := retV_i r21 rfl
                have h := q21
                exact wp_iret dX12_copy_100 rfl (Or.inr ⟨rfl, rfl, rfl, by decide⟩) rfl h
              · have h := h.2 q20
                refine wp_iload_n dX12_copy_60 rfl ?_
                refine wp_i2l dX12_copy_61 o16 ?_
                refine wp_iload dX12_copy_62 rfl ?_
                refine wp_i2l dX12_copy_64 o5 ?_
                refine wp_ladd dX12_copy_65 ?_
                refine wp_aload_n dX12_copy_66 rfl (by decide) ?_
                refine wp_getf (t := Rv 90) 90 dX12_copy_67 (fl_X12_13 rfl) kd_88 rfl rfl ?_
                refine wp_iload_n dX12_copy_70 rfl ?_
                refine wp_iald (M3 90 x1) dX12_copy_71 kd_90 sz_90 o7 o8 (⟨by omega, by omega⟩) rfl ?_
                refine wp_i2l dX12_copy_72 o9 ?_
                obtain ⟨o22, h⟩ := h
                obtain ⟨o23, h⟩ := h
                refine wp_lcmp dX12_copy_73 (Or.inr ⟨o22, o23⟩) ?_
                refine wp_if_gt (tgt := 95) dX12_copy_74 (by decide) lc_inr (fun q24 => ?_) (fun q24 => ?_)
                · have q24 := lc_gt.mp q24
                  have h := h.1 q24
                  refine wp_aload_n dX12_copy_95 rfl (by decide) ?_
                  refine wp_iconst dX12_copy_96 ?_
                  refine wp_callV (e1 := 0) (as := [Iv 2]) (S := []) dX12_copy_97 (cs_X12_134 rfl) kd_88 rfl rfl (Nat.le_of_ble_eq_true rfl) (Nat.le_of_ble_eq_true rfl) h (fun v25 M25 q25 r25 => ?_)
                  obtain ⟨z25, rfl⟩ := retV_i r25 rfl
                  have h := q25
                  exact wp_iret dX12_copy_100 rfl (Or.inr ⟨rfl, rfl, rfl, by decide⟩) rfl h
                · have q24 := lc_le.mp q24
                  have h := h.2 q24
                  refine wp_iload dX12_copy_77 rfl ?_
                  refine wp_i2l dX12_copy_79 o19 ?_
                  refine wp_iload dX12_copy_80 rfl ?_
                  refine wp_i2l dX12_copy_82 o5 ?_
                  refine wp_ladd dX12_copy_83 ?_
                  refine wp_aload_n dX12_copy_84 rfl (by decide) ?_
                  refine wp_getf (t := Rv 90) 90 dX12_copy_85 (fl_X12_13 rfl) kd_88 rfl rfl ?_
                  refine wp_iload_n dX12_copy_88 rfl ?_
                  refine wp_iald (M3 90 x3) dX12_copy_89 kd_90 sz_90 o12 o13 (⟨by omega, by omega⟩) rfl ?_
                  refine wp_i2l dX12_copy_90 o14 ?_
                  obtain ⟨o26, h⟩ := h
                  obtain ⟨o27, h⟩ := h
                  refine wp_lcmp dX12_copy_91 (Or.inr ⟨o26, o27⟩) ?_
                  refine wp_if_le (tgt := 101) dX12_copy_92 (by decide) lc_inr (fun q28 => ?_) (fun q28 => ?_)
                  · have q28 := lc_le.mp q28
                    have h := h.1 q28
                    refine wp_iconst dX12_copy_101 ?_
                    refine wp_istore (L2 := [some (Rv 88), some (Iv x1), some (Iv x2), some (Iv x3), some (Iv x4), some (Iv x5), some (Iv 0)]) dX12_copy_102 (Nat.le_of_ble_eq_true rfl) (Nat.le_of_ble_eq_true rfl) rfl ?_
                    exact h
                  · have q28 := lc_gt.mp q28
                    have h := h.2 q28
                    refine wp_aload_n dX12_copy_95 rfl (by decide) ?_
                    refine wp_iconst dX12_copy_96 ?_
                    refine wp_callV (e1 := 0) (as := [Iv 2]) (S := []) dX12_copy_97 (cs_X12_134 rfl) kd_88 rfl rfl (Nat.le_of_ble_eq_true rfl) (Nat.le_of_ble_eq_true rfl) h (fun v29 M29 q29 r29 => ?_)
                    obtain ⟨z29, rfl⟩ := retV_i r29 rfl
                    have h := q29
                    exact wp_iret dX12_copy_100 rfl (Or.inr ⟨rfl, rfl, rfl, by decide⟩) rfl h
          · have h := h.2 q15
            refine wp_aload_n dX12_copy_45 rfl (by decide) ?_
            refine wp_iconst dX12_copy_46 ?_
            refine wp_callV (e1 := 0) (as := [Iv 1]) (S := []) dX12_copy_47 (cs_X12_134 rfl) kd_88 rfl rfl (Nat.le_of_ble_eq_true rfl) (Nat.le_of_ble_eq_true rfl) h (fun v30 M30 q30 r30 => ?_)
            obtain ⟨z30, rfl⟩ := retV_i r30 rfl
            have h := q30
            exact wp_iret dX12_copy_50 rfl (Or.inr ⟨rfl, rfl, rfl, by decide⟩) rfl h
      · have h := h.2 q6
        refine wp_aload_n dX12_copy_21 rfl (by decide) ?_
        refine wp_iconst dX12_copy_22 ?_
        refine wp_callV (e1 := 0) (as := [Iv 5]) (S := []) dX12_copy_23 (cs_X12_134 rfl) kd_88 rfl rfl (Nat.le_of_ble_eq_true rfl) (Nat.le_of_ble_eq_true rfl) h (fun v31 M31 q31 r31 => ?_)
        obtain ⟨z31, rfl⟩ := retV_i r31 rfl
        have h := q31
        exact wp_iret dX12_copy_26 rfl (Or.inr ⟨rfl, rfl, rfl, by decide⟩) rfl h
    · have h := h.2 q4
      refine wp_iconst dX12_copy_14 ?_
      exact wp_iret dX12_copy_15 rfl (Or.inr ⟨rfl, rfl, rfl, by decide⟩) rfl h
theorem eX12_copy {x1 x2 x3 x4 x5 : Int}  {M : Mem} {Q : Vl → Mem → Prop} (h : cl 0 yX12_isRow [Iv x1] M (QI (fun z1 M1 => ((z1 = 0 → Q (Iv (-1)) M1) ∧ (z1 ≠ 0 → cl 0 yX12_isRow [Iv x3] M1 (QI (fun z3 M3 => ((z3 ≠ 0 → inr x5 ∧ ((0 ≤ x5 → 0 ≤ x1 ∧ (x1 < 6 ∧ (inr (M3 90 x1) ∧ (((M3 90 x1) < 0 → cl 0 yX12_meets [Rv 88, Iv 1] M3 (QI (fun z11 M11 => (Q (Iv z11) M11)))) ∧ (0 ≤ (M3 90 x1) → 0 ≤ x3 ∧ (x3 < 6 ∧ (inr (M3 90 x3) ∧ ((0 ≤ (M3 90 x3) → inr x2 ∧ ((x2 < 0 → cl 0 yX12_meets [Rv 88, Iv 2] M3 (QI (fun z18 M18 => (Q (Iv z18) M18)))) ∧ (0 ≤ x2 → inr x4 ∧ ((x4 < 0 → cl 0 yX12_meets [Rv 88, Iv 2] M3 (QI (fun z21 M21 => (Q (Iv z21) M21)))) ∧ (0 ≤ x4 → inL (x2 + x5) ∧ (inL (M3 90 x1) ∧ (((M3 90 x1) < (x2 + x5) → cl 0 yX12_meets [Rv 88, Iv 2] M3 (QI (fun z25 M25 => (Q (Iv z25) M25)))) ∧ ((x2 + x5) ≤ (M3 90 x1) → inL (x4 + x5) ∧ (inL (M3 90 x3) ∧ (((x4 + x5) ≤ (M3 90 x3) → wp 0 yX12_copy 104 [some (Rv 88), some (Iv x1), some (Iv x2), some (Iv x3), some (Iv x4), some (Iv x5), some (Iv 0)] [] M3 Q) ∧ ((M3 90 x3) < (x4 + x5) → cl 0 yX12_meets [Rv 88, Iv 2] M3 (QI (fun z29 M29 => (Q (Iv z29) M29)))))))))))))) ∧ ((M3 90 x3) < 0 → cl 0 yX12_meets [Rv 88, Iv 1] M3 (QI (fun z30 M30 => (Q (Iv z30) M30)))))))))))) ∧ (x5 < 0 → cl 0 yX12_meets [Rv 88, Iv 5] M3 (QI (fun z31 M31 => (Q (Iv z31) M31)))))) ∧ (z3 = 0 → Q (Iv (-1)) M3))))))))) : cl 0 yX12_copy [Rv 88, Iv x1, Iv x2, Iv x3, Iv x4, Iv x5] M Q := enterG (by decide +kernel) (by exact Or.inr (Or.inl rfl)) (Nat.le_of_ble_eq_true rfl) rfl (gX12_copy h)
theorem gX12_copy_104 {x1 x2 x3 x4 x5 x6 : Int}  {M : Mem} {Q : Vl → Mem → Prop} (h : inr x6 ∧ (inr x5 ∧ ((x5 ≤ x6 → wp 0 yX12_copy 136 [some (Rv 88), some (Iv x1), some (Iv x2), some (Iv x3), some (Iv x4), some (Iv x5), some (Iv 0)] [] M Q) ∧ (x6 < x5 → cl 0 yX12_rowAt [Rv 88, Iv x1, Iv (x2 + x6)] M (QI (fun z4 M4 => (0 ≤ x6 ∧ (x6 < 40 ∧ (wp 0 yX12_copy 104 [some (Rv 88), some (Iv x1), some (Iv x2), some (Iv x3), some (Iv x4), some (Iv x5), some (Iv (x6 + 1))] [] (up M4 92 x6 z4) Q))))))))) : wp 0 yX12_copy 104 [some (Rv 88), some (Iv x1), some (Iv x2), some (Iv x3), some (Iv x4), some (Iv x5), some (Iv x6)] [] M Q := by
  refine wp_iload dX12_copy_104 rfl ?_
  refine wp_iload dX12_copy_106 rfl ?_
  obtain ⟨o1, h⟩ := h
  obtain ⟨o2, h⟩ := h
  refine wp_icmp_ge (tgt := 133) dX12_copy_108 (by decide) o1 o2 (fun q3 => ?_) (fun q3 => ?_)
  · have h := h.1 q3
    refine wp_iconst dX12_copy_133 ?_
    refine wp_istore (L2 := [some (Rv 88), some (Iv x1), some (Iv x2), some (Iv x3), some (Iv x4), some (Iv x5), some (Iv 0)]) dX12_copy_134 (Nat.le_of_ble_eq_true rfl) (Nat.le_of_ble_eq_true rfl) rfl ?_
    exact h
  · have h := h.2 q3
    refine wp_aload_n dX12_copy_111 rfl (by decide) ?_
    refine wp_getf (t := Rv 92) 92 dX12_copy_112 (fl_X12_19 rfl) kd_88 rfl rfl ?_
    refine wp_iload dX12_copy_115 rfl ?_
    refine wp_aload_n dX12_copy_117 rfl (by decide) ?_
    refine wp_iload_n dX12_copy_118 rfl ?_
    refine wp_iload_n dX12_copy_119 rfl ?_
    refine wp_iload dX12_copy_120 rfl ?_
    refine wp_iadd dX12_copy_122 ?_
    refine wp_callV (e1 := 0) (as := [Iv x1, Iv (x2 + x6)]) (S := [Iv x6, Rv 92]) dX12_copy_123 (cs_X12_138 rfl) kd_88 rfl rfl (Nat.le_of_ble_eq_true rfl) (Nat.le_of_ble_eq_true rfl) h (fun v4 M4 q4 r4 => ?_)
    obtain ⟨z4, rfl⟩ := retV_i r4 rfl
    have h := q4
    obtain ⟨o5, h⟩ := h
    obtain ⟨o6, h⟩ := h
    refine wp_iast dX12_copy_126 kd_92 sz_92 o5 o6 (⟨by omega, by omega⟩) ?_
    refine wp_iinc (L2 := [some (Rv 88), some (Iv x1), some (Iv x2), some (Iv x3), some (Iv x4), some (Iv x5), some (Iv (x6 + 1))]) dX12_copy_127 rfl (Nat.le_of_ble_eq_true rfl) (Nat.le_of_ble_eq_true rfl) rfl ?_
    refine wp_goto (tgt := 104) dX12_copy_130 (by decide) ?_
    exact h
theorem gX12_copy_136 {x1 x2 x3 x4 x5 x6 : Int}  {M : Mem} {Q : Vl → Mem → Prop} (h : inr x6 ∧ (inr x5 ∧ ((x5 ≤ x6 → Q (Iv 1) M) ∧ (x6 < x5 → 0 ≤ x6 ∧ (x6 < 40 ∧ (0 ≤ ((40 * x3) + x4) + x6 ∧ (((40 * x3) + x4) + x6 < 240 ∧ (wp 0 yX12_copy 136 [some (Rv 88), some (Iv x1), some (Iv x2), some (Iv x3), some (Iv x4), some (Iv x5), some (Iv (x6 + 1))] [] (up M 91 (((40 * x3) + x4) + x6) (M 92 x6)) Q)))))))) : wp 0 yX12_copy 136 [some (Rv 88), some (Iv x1), some (Iv x2), some (Iv x3), some (Iv x4), some (Iv x5), some (Iv x6)] [] M Q := by
  refine wp_iload dX12_copy_136 rfl ?_
  refine wp_iload dX12_copy_138 rfl ?_
  obtain ⟨o1, h⟩ := h
  obtain ⟨o2, h⟩ := h
  refine wp_icmp_ge (tgt := 171) dX12_copy_140 (by decide) o1 o2 (fun q3 => ?_) (fun q3 => ?_)
  · have h := h.1 q3
    refine wp_iconst dX12_copy_171 ?_
    exact wp_iret dX12_copy_172 rfl (Or.inr ⟨rfl, rfl, rfl, by decide⟩) rfl h
  · have h := h.2 q3
    refine wp_aload_n dX12_copy_143 rfl (by decide) ?_
    refine wp_getf (t := Rv 91) 91 dX12_copy_144 (fl_X12_16 rfl) kd_88 rfl rfl ?_
    refine wp_bipush dX12_copy_147 (by decide) ?_
    refine wp_iload_n dX12_copy_149 rfl ?_
    refine wp_imul dX12_copy_150 ?_
    refine wp_iload dX12_copy_151 rfl ?_
    refine wp_iadd dX12_copy_153 ?_
    refine wp_iload dX12_copy_154 rfl ?_
    refine wp_iadd dX12_copy_156 ?_
    refine wp_aload_n dX12_copy_157 rfl (by decide) ?_
    refine wp_getf (t := Rv 92) 92 dX12_copy_158 (fl_X12_19 rfl) kd_88 rfl rfl ?_
    refine wp_iload dX12_copy_161 rfl ?_
    obtain ⟨o4, h⟩ := h
    obtain ⟨o5, h⟩ := h
    refine wp_iald (M 92 x6) dX12_copy_163 kd_92 sz_92 o4 o5 (⟨by omega, by omega⟩) rfl ?_
    obtain ⟨o6, h⟩ := h
    obtain ⟨o7, h⟩ := h
    refine wp_iast dX12_copy_164 kd_91 sz_91 o6 o7 (⟨by omega, by omega⟩) ?_
    refine wp_iinc (L2 := [some (Rv 88), some (Iv x1), some (Iv x2), some (Iv x3), some (Iv x4), some (Iv x5), some (Iv (x6 + 1))]) dX12_copy_165 rfl (Nat.le_of_ble_eq_true rfl) (Nat.le_of_ble_eq_true rfl) rfl ?_
    refine wp_goto (tgt := 136) dX12_copy_168 (by decide) ?_
    exact h
theorem gX12_mean {x1 : Int}  {M : Mem} {Q : Vl → Mem → Prop} (h : cl 0 yX12_isRow [Iv x1] M (QI (fun z1 M1 => ((z1 ≠ 0 → 0 ≤ x1 ∧ (x1 < 6 ∧ (inr (M1 90 x1) ∧ ((0 ≤ (M1 90 x1) → (((M1 90 x1) ≠ 0 → wp 0 yX12_mean 44 [some (Rv 88), some (Iv x1), some (Jv 0), none, some (Iv 0)] [] M1 Q) ∧ ((M1 90 x1) = 0 → cl 0 yX12_meets [Rv 88, Iv 4] M1 (QI (fun z8 M8 => (Q (Iv z8) M8)))))) ∧ ((M1 90 x1) < 0 → cl 0 yX12_meets [Rv 88, Iv 1] M1 (QI (fun z9 M9 => (Q (Iv z9) M9)))))))) ∧ (z1 = 0 → Q (Iv (-1)) M1))))) : wp 0 yX12_mean 0 [some (Rv 88), some (Iv x1), none, none, none] [] M Q := by
  refine wp_iload_n dX12_mean_0 rfl ?_
  refine wp_callS (e1 := 0) (as := [Iv x1]) (S := []) dX12_mean_1 (cs_X12_130 rfl) rfl rfl (Nat.le_of_ble_eq_true rfl) (Nat.le_of_ble_eq_true rfl) h (fun v1 M1 q1 r1 => ?_)
  obtain ⟨z1, rfl, hz1⟩ := retV_z r1 rfl
  have h := q1
  refine wp_if_ne (tgt := 9) dX12_mean_4 (by decide) (by have := hz1; omega) (fun q2 => ?_) (fun q2 => ?_)
  · have h := h.1 q2
    refine wp_aload_n dX12_mean_9 rfl (by decide) ?_
    refine wp_getf (t := Rv 90) 90 dX12_mean_10 (fl_X12_13 rfl) kd_88 rfl rfl ?_
    refine wp_iload_n dX12_mean_13 rfl ?_
    obtain ⟨o3, h⟩ := h
    obtain ⟨o4, h⟩ := h
    refine wp_iald (M1 90 x1) dX12_mean_14 kd_90 sz_90 o3 o4 (⟨by omega, by omega⟩) rfl ?_
    obtain ⟨o5, h⟩ := h
    refine wp_if_ge (tgt := 24) dX12_mean_15 (by decide) o5 (fun q6 => ?_) (fun q6 => ?_)
    · have h := h.1 q6
      refine wp_aload_n dX12_mean_24 rfl (by decide) ?_
      refine wp_getf (t := Rv 90) 90 dX12_mean_25 (fl_X12_13 rfl) kd_88 rfl rfl ?_
      refine wp_iload_n dX12_mean_28 rfl ?_
      refine wp_iald (M1 90 x1) dX12_mean_29 kd_90 sz_90 o3 o4 (⟨by omega, by omega⟩) rfl ?_
      refine wp_if_ne (tgt := 39) dX12_mean_30 (by decide) o5 (fun q7 => ?_) (fun q7 => ?_)
      · have h := h.1 q7
        refine wp_lconst0 dX12_mean_39 ?_
        refine wp_lstore_n (L2 := [some (Rv 88), some (Iv x1), some (Jv 0), none, none]) dX12_mean_40 (Nat.le_of_ble_eq_true rfl) (Nat.le_of_ble_eq_true rfl) rfl ?_
        refine wp_iconst dX12_mean_41 ?_
        refine wp_istore (L2 := [some (Rv 88), some (Iv x1), some (Jv 0), none, some (Iv 0)]) dX12_mean_42 (Nat.le_of_ble_eq_true rfl) (Nat.le_of_ble_eq_true rfl) rfl ?_
        exact h
      · have h := h.2 q7
        refine wp_aload_n dX12_mean_33 rfl (by decide) ?_
        refine wp_iconst dX12_mean_34 ?_
        refine wp_callV (e1 := 0) (as := [Iv 4]) (S := []) dX12_mean_35 (cs_X12_134 rfl) kd_88 rfl rfl (Nat.le_of_ble_eq_true rfl) (Nat.le_of_ble_eq_true rfl) h (fun v8 M8 q8 r8 => ?_)
        obtain ⟨z8, rfl⟩ := retV_i r8 rfl
        have h := q8
        exact wp_iret dX12_mean_38 rfl (Or.inr ⟨rfl, rfl, rfl, by decide⟩) rfl h
    · have h := h.2 q6
      refine wp_aload_n dX12_mean_18 rfl (by decide) ?_
      refine wp_iconst dX12_mean_19 ?_
      refine wp_callV (e1 := 0) (as := [Iv 1]) (S := []) dX12_mean_20 (cs_X12_134 rfl) kd_88 rfl rfl (Nat.le_of_ble_eq_true rfl) (Nat.le_of_ble_eq_true rfl) h (fun v9 M9 q9 r9 => ?_)
      obtain ⟨z9, rfl⟩ := retV_i r9 rfl
      have h := q9
      exact wp_iret dX12_mean_23 rfl (Or.inr ⟨rfl, rfl, rfl, by decide⟩) rfl h
  · have h := h.2 q2
    refine wp_iconst dX12_mean_7 ?_
    exact wp_iret dX12_mean_8 rfl (Or.inr ⟨rfl, rfl, rfl, by decide⟩) rfl h
theorem eX12_mean {x1 : Int}  {M : Mem} {Q : Vl → Mem → Prop} (h : cl 0 yX12_isRow [Iv x1] M (QI (fun z1 M1 => ((z1 ≠ 0 → 0 ≤ x1 ∧ (x1 < 6 ∧ (inr (M1 90 x1) ∧ ((0 ≤ (M1 90 x1) → (((M1 90 x1) ≠ 0 → wp 0 yX12_mean 44 [some (Rv 88), some (Iv x1), some (Jv 0), none, some (Iv 0)] [] M1 Q) ∧ ((M1 90 x1) = 0 → cl 0 yX12_meets [Rv 88, Iv 4] M1 (QI (fun z8 M8 => (Q (Iv z8) M8)))))) ∧ ((M1 90 x1) < 0 → cl 0 yX12_meets [Rv 88, Iv 1] M1 (QI (fun z9 M9 => (Q (Iv z9) M9)))))))) ∧ (z1 = 0 → Q (Iv (-1)) M1))))) : cl 0 yX12_mean [Rv 88, Iv x1] M Q := enterG (by decide +kernel) (by exact Or.inr (Or.inl rfl)) (Nat.le_of_ble_eq_true rfl) rfl (gX12_mean h)
theorem gX12_mean_44 {x1 x2 x4 : Int}  {M : Mem} {Q : Vl → Mem → Prop} (h : 0 ≤ x1 ∧ (x1 < 6 ∧ (inr x4 ∧ (inr (M 90 x1) ∧ (((M 90 x1) ≤ x4 → inL x2 ∧ (inL (M 90 x1) ∧ (M 90 x1 ≠ 0 ∧ (cl 0 yX12_tells [Rv 88, Iv (Int.tdiv x2 (M 90 x1)), Iv 1] M (QI (fun z9 M9 => (Q (Iv z9) M9))))))) ∧ (x4 < (M 90 x1) → cl 0 yX12_rowAt [Rv 88, Iv x1, Iv x4] M (QI (fun z10 M10 => (inr z10 ∧ (wp 0 yX12_mean 44 [some (Rv 88), some (Iv x1), some (Jv (x2 + z10)), none, some (Iv (x4 + 1))] [] M10 Q)))))))))) : wp 0 yX12_mean 44 [some (Rv 88), some (Iv x1), some (Jv x2), none, some (Iv x4)] [] M Q := by
  refine wp_iload dX12_mean_44 rfl ?_
  refine wp_aload_n dX12_mean_46 rfl (by decide) ?_
  refine wp_getf (t := Rv 90) 90 dX12_mean_47 (fl_X12_13 rfl) kd_88 rfl rfl ?_
  refine wp_iload_n dX12_mean_50 rfl ?_
  obtain ⟨o1, h⟩ := h
  obtain ⟨o2, h⟩ := h
  refine wp_iald (M 90 x1) dX12_mean_51 kd_90 sz_90 o1 o2 (⟨by omega, by omega⟩) rfl ?_
  obtain ⟨o3, h⟩ := h
  obtain ⟨o4, h⟩ := h
  refine wp_icmp_ge (tgt := 72) dX12_mean_52 (by decide) o3 o4 (fun q5 => ?_) (fun q5 => ?_)
  · have h := h.1 q5
    refine wp_aload_n dX12_mean_72 rfl (by decide) ?_
    refine wp_lload_n dX12_mean_73 rfl ?_
    refine wp_aload_n dX12_mean_74 rfl (by decide) ?_
    refine wp_getf (t := Rv 90) 90 dX12_mean_75 (fl_X12_13 rfl) kd_88 rfl rfl ?_
    refine wp_iload_n dX12_mean_78 rfl ?_
    refine wp_iald (M 90 x1) dX12_mean_79 kd_90 sz_90 o1 o2 (⟨by omega, by omega⟩) rfl ?_
    refine wp_i2l dX12_mean_80 o4 ?_
    obtain ⟨o6, h⟩ := h
    obtain ⟨o7, h⟩ := h
    obtain ⟨o8, h⟩ := h
    refine wp_ldiv dX12_mean_81 o6 o7 o8 ?_
    refine wp_l2i dX12_mean_82 ?_
    refine wp_iconst dX12_mean_83 ?_
    refine wp_callV (e1 := 0) (as := [Iv (Int.tdiv x2 (M 90 x1)), Iv 1]) (S := []) dX12_mean_84 (cs_X12_142 rfl) kd_88 rfl rfl (Nat.le_of_ble_eq_true rfl) (Nat.le_of_ble_eq_true rfl) h (fun v9 M9 q9 r9 => ?_)
    obtain ⟨z9, rfl⟩ := retV_i r9 rfl
    have h := q9
    exact wp_iret dX12_mean_87 rfl (Or.inr ⟨rfl, rfl, rfl, by decide⟩) rfl h
  · have h := h.2 q5
    refine wp_lload_n dX12_mean_55 rfl ?_
    refine wp_aload_n dX12_mean_56 rfl (by decide) ?_
    refine wp_iload_n dX12_mean_57 rfl ?_
    refine wp_iload dX12_mean_58 rfl ?_
    refine wp_callV (e1 := 0) (as := [Iv x1, Iv x4]) (S := [Jv x2]) dX12_mean_60 (cs_X12_138 rfl) kd_88 rfl rfl (Nat.le_of_ble_eq_true rfl) (Nat.le_of_ble_eq_true rfl) h (fun v10 M10 q10 r10 => ?_)
    obtain ⟨z10, rfl⟩ := retV_i r10 rfl
    have h := q10
    obtain ⟨o11, h⟩ := h
    refine wp_i2l dX12_mean_63 o11 ?_
    refine wp_ladd dX12_mean_64 ?_
    refine wp_lstore_n (L2 := [some (Rv 88), some (Iv x1), some (Jv (x2 + z10)), none, some (Iv x4)]) dX12_mean_65 (Nat.le_of_ble_eq_true rfl) (Nat.le_of_ble_eq_true rfl) rfl ?_
    refine wp_iinc (L2 := [some (Rv 88), some (Iv x1), some (Jv (x2 + z10)), none, some (Iv (x4 + 1))]) dX12_mean_66 rfl (Nat.le_of_ble_eq_true rfl) (Nat.le_of_ble_eq_true rfl) rfl ?_
    refine wp_goto (tgt := 44) dX12_mean_69 (by decide) ?_
    exact h
theorem gX12_isText {x0 : Int}  {M : Mem} {Q : Vl → Mem → Prop} (h : cl 0 yX12_in [Iv x0, Iv 0, Iv 3] M (QI (fun z1 M1 => (Q (Iv z1) M1)))) : wp 0 yX12_isText 0 [some (Iv x0)] [] M Q := by
  refine wp_iload_n dX12_isText_0 rfl ?_
  refine wp_iconst dX12_isText_1 ?_
  refine wp_iconst dX12_isText_2 ?_
  refine wp_callS (e1 := 0) (as := [Iv x0, Iv 0, Iv 3]) (S := []) dX12_isText_3 (cs_X12_117 rfl) rfl rfl (Nat.le_of_ble_eq_true rfl) (Nat.le_of_ble_eq_true rfl) h (fun v1 M1 q1 r1 => ?_)
  obtain ⟨z1, rfl, hz1⟩ := retV_z r1 rfl
  have h := q1
  exact wp_zret dX12_isText_6 rfl (Or.inr ⟨rfl, rfl, rfl, by decide⟩) rfl hz1 h
theorem eX12_isText {x0 : Int}  {M : Mem} {Q : Vl → Mem → Prop} (h : cl 0 yX12_in [Iv x0, Iv 0, Iv 3] M (QI (fun z1 M1 => (Q (Iv z1) M1)))) : cl 0 yX12_isText [Iv x0] M Q := enterG (by decide +kernel) (by exact Or.inr (Or.inr (Or.inl rfl))) (Nat.le_of_ble_eq_true rfl) rfl (gX12_isText h)
theorem gX12_text {x1 x2 : Int}  {M : Mem} {Q : Vl → Mem → Prop} (h : cl 0 yX12_isText [Iv x1] M (QI (fun z1 M1 => ((z1 = 0 → Q (Iv (-1)) M1) ∧ (z1 ≠ 0 → inr x2 ∧ ((x2 ≤ 60 → ((0 ≤ x2 → 0 ≤ x1 ∧ (x1 < 4 ∧ (wp 0 yX12_text 34 [some (Rv 88), some (Iv x1), some (Iv x2), some (Iv 0)] [] (up M1 93 x1 x2) Q))) ∧ (x2 < 0 → cl 0 yX12_meets [Rv 88, Iv 5] M1 (QI (fun z8 M8 => (Q (Iv z8) M8)))))) ∧ (60 < x2 → Q (Iv (-1)) M1))))))) : wp 0 yX12_text 0 [some (Rv 88), some (Iv x1), some (Iv x2), none] [] M Q := by
  refine wp_iload_n dX12_text_0 rfl ?_
  refine wp_callS (e1 := 0) (as := [Iv x1]) (S := []) dX12_text_1 (cs_X12_145 rfl) rfl rfl (Nat.le_of_ble_eq_true rfl) (Nat.le_of_ble_eq_true rfl) h (fun v1 M1 q1 r1 => ?_)
  obtain ⟨z1, rfl, hz1⟩ := retV_z r1 rfl
  have h := q1
  refine wp_if_eq (tgt := 13) dX12_text_4 (by decide) (by have := hz1; omega) (fun q2 => ?_) (fun q2 => ?_)
  · have h := h.1 q2
    refine wp_iconst dX12_text_13 ?_
    exact wp_iret dX12_text_14 rfl (Or.inr ⟨rfl, rfl, rfl, by decide⟩) rfl h
  · have h := h.2 q2
    refine wp_iload_n dX12_text_7 rfl ?_
    refine wp_bipush dX12_text_8 (by decide) ?_
    obtain ⟨o3, h⟩ := h
    refine wp_icmp_le (tgt := 15) dX12_text_10 (by decide) o3 (by decide) (fun q4 => ?_) (fun q4 => ?_)
    · have h := h.1 q4
      refine wp_iload_n dX12_text_15 rfl ?_
      refine wp_if_ge (tgt := 25) dX12_text_16 (by decide) o3 (fun q5 => ?_) (fun q5 => ?_)
      · have h := h.1 q5
        refine wp_aload_n dX12_text_25 rfl (by decide) ?_
        refine wp_getf (t := Rv 93) 93 dX12_text_26 (fl_X12_22 rfl) kd_88 rfl rfl ?_
        refine wp_iload_n dX12_text_29 rfl ?_
        refine wp_iload_n dX12_text_30 rfl ?_
        obtain ⟨o6, h⟩ := h
        obtain ⟨o7, h⟩ := h
        refine wp_iast dX12_text_31 kd_93 sz_93 o6 o7 (⟨by omega, by omega⟩) ?_
        refine wp_iconst dX12_text_32 ?_
        refine wp_istore_n (L2 := [some (Rv 88), some (Iv x1), some (Iv x2), some (Iv 0)]) dX12_text_33 (Nat.le_of_ble_eq_true rfl) (Nat.le_of_ble_eq_true rfl) rfl ?_
        exact h
      · have h := h.2 q5
        refine wp_aload_n dX12_text_19 rfl (by decide) ?_
        refine wp_iconst dX12_text_20 ?_
        refine wp_callV (e1 := 0) (as := [Iv 5]) (S := []) dX12_text_21 (cs_X12_134 rfl) kd_88 rfl rfl (Nat.le_of_ble_eq_true rfl) (Nat.le_of_ble_eq_true rfl) h (fun v8 M8 q8 r8 => ?_)
        obtain ⟨z8, rfl⟩ := retV_i r8 rfl
        have h := q8
        exact wp_iret dX12_text_24 rfl (Or.inr ⟨rfl, rfl, rfl, by decide⟩) rfl h
    · have h := h.2 q4
      refine wp_iconst dX12_text_13 ?_
      exact wp_iret dX12_text_14 rfl (Or.inr ⟨rfl, rfl, rfl, by decide⟩) rfl h
theorem eX12_text {x1 x2 : Int}  {M : Mem} {Q : Vl → Mem → Prop} (h : cl 0 yX12_isText [Iv x1] M (QI (fun z1 M1 => ((z1 = 0 → Q (Iv (-1)) M1) ∧ (z1 ≠ 0 → inr x2 ∧ ((x2 ≤ 60 → ((0 ≤ x2 → 0 ≤ x1 ∧ (x1 < 4 ∧ (wp 0 yX12_text 34 [some (Rv 88), some (Iv x1), some (Iv x2), some (Iv 0)] [] (up M1 93 x1 x2) Q))) ∧ (x2 < 0 → cl 0 yX12_meets [Rv 88, Iv 5] M1 (QI (fun z8 M8 => (Q (Iv z8) M8)))))) ∧ (60 < x2 → Q (Iv (-1)) M1))))))) : cl 0 yX12_text [Rv 88, Iv x1, Iv x2] M Q := enterG (by decide +kernel) (by exact Or.inr (Or.inl rfl)) (Nat.le_of_ble_eq_true rfl) rfl (gX12_text h)
theorem gX12_text_34 {x1 x2 x3 : Int}  {M : Mem} {Q : Vl → Mem → Prop} (h : inr x3 ∧ ((60 ≤ x3 → Q (Iv x2) M) ∧ (x3 < 60 → 0 ≤ (60 * x1) + x3 ∧ ((60 * x1) + x3 < 240 ∧ (wp 0 yX12_text 34 [some (Rv 88), some (Iv x1), some (Iv x2), some (Iv (x3 + 1))] [] (up M 94 ((60 * x1) + x3) (Int.bmod 32 256)) Q))))) : wp 0 yX12_text 34 [some (Rv 88), some (Iv x1), some (Iv x2), some (Iv x3)] [] M Q := by
  refine wp_iload_n dX12_text_34 rfl ?_
  refine wp_bipush dX12_text_35 (by decide) ?_
  obtain ⟨o1, h⟩ := h
  refine wp_icmp_ge (tgt := 59) dX12_text_37 (by decide) o1 (by decide) (fun q2 => ?_) (fun q2 => ?_)
  · have h := h.1 q2
    refine wp_iload_n dX12_text_59 rfl ?_
    exact wp_iret dX12_text_60 rfl (Or.inr ⟨rfl, rfl, rfl, by decide⟩) rfl h
  · have h := h.2 q2
    refine wp_aload_n dX12_text_40 rfl (by decide) ?_
    refine wp_getf (t := Rv 94) 94 dX12_text_41 (fl_X12_25 rfl) kd_88 rfl rfl ?_
    refine wp_bipush dX12_text_44 (by decide) ?_
    refine wp_iload_n dX12_text_46 rfl ?_
    refine wp_imul dX12_text_47 ?_
    refine wp_iload_n dX12_text_48 rfl ?_
    refine wp_iadd dX12_text_49 ?_
    refine wp_bipush dX12_text_50 (by decide) ?_
    obtain ⟨o3, h⟩ := h
    obtain ⟨o4, h⟩ := h
    refine wp_bast dX12_text_52 kd_94 sz_94 o3 o4 (⟨by omega, by omega⟩) ?_
    refine wp_iinc (L2 := [some (Rv 88), some (Iv x1), some (Iv x2), some (Iv (x3 + 1))]) dX12_text_53 rfl (Nat.le_of_ble_eq_true rfl) (Nat.le_of_ble_eq_true rfl) rfl ?_
    refine wp_goto (tgt := 34) dX12_text_56 (by decide) ?_
    exact h
theorem gX12_put {x1 x2 x3 : Int}  {M : Mem} {Q : Vl → Mem → Prop} (h : cl 0 yX12_isText [Iv x1] M (QI (fun z1 M1 => ((z1 ≠ 0 → 0 ≤ x1 ∧ (x1 < 4 ∧ (inr (M1 93 x1) ∧ ((0 ≤ (M1 93 x1) → cl 0 yX12_in [Iv x2, Iv 0, Iv ((M1 93 x1) - 1)] M1 (QI (fun z7 M7 => ((z7 ≠ 0 → 0 ≤ (60 * x1) + x2 ∧ ((60 * x1) + x2 < 240 ∧ (Q (Iv (1000 + (M7 94 ((60 * x1) + x2)))) (up M7 94 ((60 * x1) + x2) (Int.bmod (Int.bmod x3 256) 256))))) ∧ (z7 = 0 → cl 0 yX12_meets [Rv 88, Iv 2] M7 (QI (fun z11 M11 => (Q (Iv z11) M11)))))))) ∧ ((M1 93 x1) < 0 → cl 0 yX12_meets [Rv 88, Iv 1] M1 (QI (fun z12 M12 => (Q (Iv z12) M12)))))))) ∧ (z1 = 0 → Q (Iv (-1)) M1))))) : wp 0 yX12_put 0 [some (Rv 88), some (Iv x1), some (Iv x2), some (Iv x3), none] [] M Q := by
  refine wp_iload_n dX12_put_0 rfl ?_
  refine wp_callS (e1 := 0) (as := [Iv x1]) (S := []) dX12_put_1 (cs_X12_145 rfl) rfl rfl (Nat.le_of_ble_eq_true rfl) (Nat.le_of_ble_eq_true rfl) h (fun v1 M1 q1 r1 => ?_)
  obtain ⟨z1, rfl, hz1⟩ := retV_z r1 rfl
  have h := q1
  refine wp_if_ne (tgt := 9) dX12_put_4 (by decide) (by have := hz1; omega) (fun q2 => ?_) (fun q2 => ?_)
  · have h := h.1 q2
    refine wp_aload_n dX12_put_9 rfl (by decide) ?_
    refine wp_getf (t := Rv 93) 93 dX12_put_10 (fl_X12_22 rfl) kd_88 rfl rfl ?_
    refine wp_iload_n dX12_put_13 rfl ?_
    obtain ⟨o3, h⟩ := h
    obtain ⟨o4, h⟩ := h
    refine wp_iald (M1 93 x1) dX12_put_14 kd_93 sz_93 o3 o4 (⟨by omega, by omega⟩) rfl ?_
    obtain ⟨o5, h⟩ := h
    refine wp_if_ge (tgt := 24) dX12_put_15 (by decide) o5 (fun q6 => ?_) (fun q6 => ?_)
    · have h := h.1 q6
      refine wp_iload_n dX12_put_24 rfl ?_
      refine wp_iconst dX12_put_25 ?_
      refine wp_aload_n dX12_put_26 rfl (by decide) ?_
      refine wp_getf (t := Rv 93) 93 dX12_put_27 (fl_X12_22 rfl) kd_88 rfl rfl ?_
      refine wp_iload_n dX12_put_30 rfl ?_
      refine wp_iald (M1 93 x1) dX12_put_31 kd_93 sz_93 o3 o4 (⟨by omega, by omega⟩) rfl ?_
      refine wp_iconst dX12_put_32 ?_
      refine wp_isub dX12_put_33 ?_
      refine wp_callS (e1 := 0) (as := [Iv x2, Iv 0, Iv ((M1 93 x1) - 1)]) (S := []) dX12_put_34 (cs_X12_117 rfl) rfl rfl (Nat.le_of_ble_eq_true rfl) (Nat.le_of_ble_eq_true rfl) h (fun v7 M7 q7 r7 => ?_)
      obtain ⟨z7, rfl, hz7⟩ := retV_z r7 rfl
      have h := q7
      refine wp_if_ne (tgt := 46) dX12_put_37 (by decide) (by have := hz7; omega) (fun q8 => ?_) (fun q8 => ?_)
      · have h := h.1 q8
        refine wp_aload_n dX12_put_46 rfl (by decide) ?_
        refine wp_getf (t := Rv 94) 94 dX12_put_47 (fl_X12_25 rfl) kd_88 rfl rfl ?_
        refine wp_bipush dX12_put_50 (by decide) ?_
        refine wp_iload_n dX12_put_52 rfl ?_
        refine wp_imul dX12_put_53 ?_
        refine wp_iload_n dX12_put_54 rfl ?_
        refine wp_iadd dX12_put_55 ?_
        obtain ⟨o9, h⟩ := h
        obtain ⟨o10, h⟩ := h
        refine wp_bald (M7 94 ((60 * x1) + x2)) dX12_put_56 kd_94 sz_94 o9 o10 (⟨by omega, by omega⟩) rfl ?_
        refine wp_istore (L2 := [some (Rv 88), some (Iv x1), some (Iv x2), some (Iv x3), some (Iv (M7 94 ((60 * x1) + x2)))]) dX12_put_57 (Nat.le_of_ble_eq_true rfl) (Nat.le_of_ble_eq_true rfl) rfl ?_
        refine wp_aload_n dX12_put_59 rfl (by decide) ?_
        refine wp_getf (t := Rv 94) 94 dX12_put_60 (fl_X12_25 rfl) kd_88 rfl rfl ?_
        refine wp_bipush dX12_put_63 (by decide) ?_
        refine wp_iload_n dX12_put_65 rfl ?_
        refine wp_imul dX12_put_66 ?_
        refine wp_iload_n dX12_put_67 rfl ?_
        refine wp_iadd dX12_put_68 ?_
        refine wp_iload_n dX12_put_69 rfl ?_
        refine wp_i2b dX12_put_70 ?_
        refine wp_bast dX12_put_71 kd_94 sz_94 o9 o10 (⟨by omega, by omega⟩) ?_
        refine wp_sipush dX12_put_72 (by decide) ?_
        refine wp_iload dX12_put_75 rfl ?_
        refine wp_iadd dX12_put_77 ?_
        exact wp_iret dX12_put_78 rfl (Or.inr ⟨rfl, rfl, rfl, by decide⟩) rfl h
      · have h := h.2 q8
        refine wp_aload_n dX12_put_40 rfl (by decide) ?_
        refine wp_iconst dX12_put_41 ?_
        refine wp_callV (e1 := 0) (as := [Iv 2]) (S := []) dX12_put_42 (cs_X12_134 rfl) kd_88 rfl rfl (Nat.le_of_ble_eq_true rfl) (Nat.le_of_ble_eq_true rfl) h (fun v11 M11 q11 r11 => ?_)
        obtain ⟨z11, rfl⟩ := retV_i r11 rfl
        have h := q11
        exact wp_iret dX12_put_45 rfl (Or.inr ⟨rfl, rfl, rfl, by decide⟩) rfl h
    · have h := h.2 q6
      refine wp_aload_n dX12_put_18 rfl (by decide) ?_
      refine wp_iconst dX12_put_19 ?_
      refine wp_callV (e1 := 0) (as := [Iv 1]) (S := []) dX12_put_20 (cs_X12_134 rfl) kd_88 rfl rfl (Nat.le_of_ble_eq_true rfl) (Nat.le_of_ble_eq_true rfl) h (fun v12 M12 q12 r12 => ?_)
      obtain ⟨z12, rfl⟩ := retV_i r12 rfl
      have h := q12
      exact wp_iret dX12_put_23 rfl (Or.inr ⟨rfl, rfl, rfl, by decide⟩) rfl h
  · have h := h.2 q2
    refine wp_iconst dX12_put_7 ?_
    exact wp_iret dX12_put_8 rfl (Or.inr ⟨rfl, rfl, rfl, by decide⟩) rfl h
theorem eX12_put {x1 x2 x3 : Int}  {M : Mem} {Q : Vl → Mem → Prop} (h : cl 0 yX12_isText [Iv x1] M (QI (fun z1 M1 => ((z1 ≠ 0 → 0 ≤ x1 ∧ (x1 < 4 ∧ (inr (M1 93 x1) ∧ ((0 ≤ (M1 93 x1) → cl 0 yX12_in [Iv x2, Iv 0, Iv ((M1 93 x1) - 1)] M1 (QI (fun z7 M7 => ((z7 ≠ 0 → 0 ≤ (60 * x1) + x2 ∧ ((60 * x1) + x2 < 240 ∧ (Q (Iv (1000 + (M7 94 ((60 * x1) + x2)))) (up M7 94 ((60 * x1) + x2) (Int.bmod (Int.bmod x3 256) 256))))) ∧ (z7 = 0 → cl 0 yX12_meets [Rv 88, Iv 2] M7 (QI (fun z11 M11 => (Q (Iv z11) M11)))))))) ∧ ((M1 93 x1) < 0 → cl 0 yX12_meets [Rv 88, Iv 1] M1 (QI (fun z12 M12 => (Q (Iv z12) M12)))))))) ∧ (z1 = 0 → Q (Iv (-1)) M1))))) : cl 0 yX12_put [Rv 88, Iv x1, Iv x2, Iv x3] M Q := enterG (by decide +kernel) (by exact Or.inr (Or.inl rfl)) (Nat.le_of_ble_eq_true rfl) rfl (gX12_put h)
theorem gX12_byteAt {x1 x2 : Int}  {M : Mem} {Q : Vl → Mem → Prop} (h : 0 ≤ x1 ∧ (x1 < 4 ∧ (inr x2 ∧ (inr (M 93 x1) ∧ (((M 93 x1) ≤ x2 → Q (Iv 0) M) ∧ (x2 < (M 93 x1) → 0 ≤ (60 * x1) + x2 ∧ ((60 * x1) + x2 < 240 ∧ (Q (Iv (M 94 ((60 * x1) + x2))) M)))))))) : wp 0 yX12_byteAt 0 [some (Rv 88), some (Iv x1), some (Iv x2)] [] M Q := by
  refine wp_iload_n dX12_byteAt_0 rfl ?_
  refine wp_aload_n dX12_byteAt_1 rfl (by decide) ?_
  refine wp_getf (t := Rv 93) 93 dX12_byteAt_2 (fl_X12_22 rfl) kd_88 rfl rfl ?_
  refine wp_iload_n dX12_byteAt_5 rfl ?_
  obtain ⟨o1, h⟩ := h
  obtain ⟨o2, h⟩ := h
  refine wp_iald (M 93 x1) dX12_byteAt_6 kd_93 sz_93 o1 o2 (⟨by omega, by omega⟩) rfl ?_
  obtain ⟨o3, h⟩ := h
  obtain ⟨o4, h⟩ := h
  refine wp_icmp_ge (tgt := 24) dX12_byteAt_7 (by decide) o3 o4 (fun q5 => ?_) (fun q5 => ?_)
  · have h := h.1 q5
    refine wp_iconst dX12_byteAt_24 ?_
    exact wp_iret dX12_byteAt_25 rfl (Or.inr ⟨rfl, rfl, rfl, by decide⟩) rfl h
  · have h := h.2 q5
    refine wp_aload_n dX12_byteAt_10 rfl (by decide) ?_
    refine wp_getf (t := Rv 94) 94 dX12_byteAt_11 (fl_X12_25 rfl) kd_88 rfl rfl ?_
    refine wp_bipush dX12_byteAt_14 (by decide) ?_
    refine wp_iload_n dX12_byteAt_16 rfl ?_
    refine wp_imul dX12_byteAt_17 ?_
    refine wp_iload_n dX12_byteAt_18 rfl ?_
    refine wp_iadd dX12_byteAt_19 ?_
    obtain ⟨o6, h⟩ := h
    obtain ⟨o7, h⟩ := h
    refine wp_bald (M 94 ((60 * x1) + x2)) dX12_byteAt_20 kd_94 sz_94 o6 o7 (⟨by omega, by omega⟩) rfl ?_
    refine wp_goto (tgt := 25) dX12_byteAt_21 (by decide) ?_
    exact wp_iret dX12_byteAt_25 rfl (Or.inr ⟨rfl, rfl, rfl, by decide⟩) rfl h
theorem eX12_byteAt {x1 x2 : Int}  {M : Mem} {Q : Vl → Mem → Prop} (h : 0 ≤ x1 ∧ (x1 < 4 ∧ (inr x2 ∧ (inr (M 93 x1) ∧ (((M 93 x1) ≤ x2 → Q (Iv 0) M) ∧ (x2 < (M 93 x1) → 0 ≤ (60 * x1) + x2 ∧ ((60 * x1) + x2 < 240 ∧ (Q (Iv (M 94 ((60 * x1) + x2))) M)))))))) : cl 0 yX12_byteAt [Rv 88, Iv x1, Iv x2] M Q := enterG (by decide +kernel) (by exact Or.inr (Or.inl rfl)) (Nat.le_of_ble_eq_true rfl) rfl (gX12_byteAt h)
theorem gX12_isWord {x0 : Int}  {M : Mem} {Q : Vl → Mem → Prop} (h : cl 0 yX12_in [Iv x0, Iv 0, Iv 7] M (QI (fun z1 M1 => (Q (Iv z1) M1)))) : wp 0 yX12_isWord 0 [some (Iv x0)] [] M Q := by
  refine wp_iload_n dX12_isWord_0 rfl ?_
  refine wp_iconst dX12_isWord_1 ?_
  refine wp_bipush dX12_isWord_2 (by decide) ?_
  refine wp_callS (e1 := 0) (as := [Iv x0, Iv 0, Iv 7]) (S := []) dX12_isWord_4 (cs_X12_117 rfl) rfl rfl (Nat.le_of_ble_eq_true rfl) (Nat.le_of_ble_eq_true rfl) h (fun v1 M1 q1 r1 => ?_)
  obtain ⟨z1, rfl, hz1⟩ := retV_z r1 rfl
  have h := q1
  exact wp_zret dX12_isWord_7 rfl (Or.inr ⟨rfl, rfl, rfl, by decide⟩) rfl hz1 h
theorem eX12_isWord {x0 : Int}  {M : Mem} {Q : Vl → Mem → Prop} (h : cl 0 yX12_in [Iv x0, Iv 0, Iv 7] M (QI (fun z1 M1 => (Q (Iv z1) M1)))) : cl 0 yX12_isWord [Iv x0] M Q := enterG (by decide +kernel) (by exact Or.inr (Or.inr (Or.inl rfl))) (Nat.le_of_ble_eq_true rfl) rfl (gX12_isWord h)
theorem gX12_isThere {x1 : Int}  {M : Mem} {Q : Vl → Mem → Prop} (h : 0 ≤ x1 ∧ (x1 < 8 ∧ (inr (M 95 x1) ∧ (((M 95 x1) < 0 → Q (Iv 0) M) ∧ (0 ≤ (M 95 x1) → Q (Iv 1) M))))) : wp 0 yX12_isThere 0 [some (Rv 88), some (Iv x1)] [] M Q := by
  refine wp_aload_n dX12_isThere_0 rfl (by decide) ?_
  refine wp_getf (t := Rv 95) 95 dX12_isThere_1 (fl_X12_29 rfl) kd_88 rfl rfl ?_
  refine wp_iload_n dX12_isThere_4 rfl ?_
  obtain ⟨o1, h⟩ := h
  obtain ⟨o2, h⟩ := h
  refine wp_iald (M 95 x1) dX12_isThere_5 kd_95 sz_95 o1 o2 (⟨by omega, by omega⟩) rfl ?_
  obtain ⟨o3, h⟩ := h
  refine wp_if_lt (tgt := 13) dX12_isThere_6 (by decide) o3 (fun q4 => ?_) (fun q4 => ?_)
  · have h := h.1 q4
    refine wp_iconst dX12_isThere_13 ?_
    exact wp_zret dX12_isThere_14 rfl (Or.inr ⟨rfl, rfl, rfl, by decide⟩) rfl (by decide) h
  · have h := h.2 q4
    refine wp_iconst dX12_isThere_9 ?_
    refine wp_goto (tgt := 14) dX12_isThere_10 (by decide) ?_
    exact wp_zret dX12_isThere_14 rfl (Or.inr ⟨rfl, rfl, rfl, by decide⟩) rfl (by decide) h
theorem eX12_isThere {x1 : Int}  {M : Mem} {Q : Vl → Mem → Prop} (h : 0 ≤ x1 ∧ (x1 < 8 ∧ (inr (M 95 x1) ∧ (((M 95 x1) < 0 → Q (Iv 0) M) ∧ (0 ≤ (M 95 x1) → Q (Iv 1) M))))) : cl 0 yX12_isThere [Rv 88, Iv x1] M Q := enterG (by decide +kernel) (by exact Or.inr (Or.inr (Or.inl rfl))) (Nat.le_of_ble_eq_true rfl) rfl (gX12_isThere h)
theorem gX12_at0 {x1 x2 : Int}  {M : Mem} {Q : Vl → Mem → Prop} (h : 0 ≤ (40 * x1) + x2 ∧ ((40 * x1) + x2 < 320 ∧ (Q (Iv (M 96 ((40 * x1) + x2))) M))) : wp 0 yX12_at0 0 [some (Rv 88), some (Iv x1), some (Iv x2)] [] M Q := by
  refine wp_aload_n dX12_at0_0 rfl (by decide) ?_
  refine wp_getf (t := Rv 96) 96 dX12_at0_1 (fl_X12_32 rfl) kd_88 rfl rfl ?_
  refine wp_bipush dX12_at0_4 (by decide) ?_
  refine wp_iload_n dX12_at0_6 rfl ?_
  refine wp_imul dX12_at0_7 ?_
  refine wp_iload_n dX12_at0_8 rfl ?_
  refine wp_iadd dX12_at0_9 ?_
  obtain ⟨o1, h⟩ := h
  obtain ⟨o2, h⟩ := h
  refine wp_iald (M 96 ((40 * x1) + x2)) dX12_at0_10 kd_96 sz_96 o1 o2 (⟨by omega, by omega⟩) rfl ?_
  exact wp_iret dX12_at0_11 rfl (Or.inr ⟨rfl, rfl, rfl, by decide⟩) rfl h
theorem eX12_at0 {x1 x2 : Int}  {M : Mem} {Q : Vl → Mem → Prop} (h : 0 ≤ (40 * x1) + x2 ∧ ((40 * x1) + x2 < 320 ∧ (Q (Iv (M 96 ((40 * x1) + x2))) M))) : cl 0 yX12_at0 [Rv 88, Iv x1, Iv x2] M Q := enterG (by decide +kernel) (by exact Or.inr (Or.inl rfl)) (Nat.le_of_ble_eq_true rfl) rfl (gX12_at0 h)
theorem gX12_isLetter {x1 : Int}  {M : Mem} {Q : Vl → Mem → Prop} (h : cl 0 yX12_in [Iv x1, Iv 0, Iv ((M 88 11) - 1)] M (QI (fun z1 M1 => (Q (Iv z1) M1)))) : wp 0 yX12_isLetter 0 [some (Rv 88), some (Iv x1)] [] M Q := by
  refine wp_iload_n dX12_isLetter_0 rfl ?_
  refine wp_iconst dX12_isLetter_1 ?_
  refine wp_aload_n dX12_isLetter_2 rfl (by decide) ?_
  refine wp_getf (t := Iv (M 88 11)) (M 88 11) dX12_isLetter_3 (fl_X12_110 rfl) kd_88 rfl rfl ?_
  refine wp_iconst dX12_isLetter_6 ?_
  refine wp_isub dX12_isLetter_7 ?_
  refine wp_callS (e1 := 0) (as := [Iv x1, Iv 0, Iv ((M 88 11) - 1)]) (S := []) dX12_isLetter_8 (cs_X12_117 rfl) rfl rfl (Nat.le_of_ble_eq_true rfl) (Nat.le_of_ble_eq_true rfl) h (fun v1 M1 q1 r1 => ?_)
  obtain ⟨z1, rfl, hz1⟩ := retV_z r1 rfl
  have h := q1
  exact wp_zret dX12_isLetter_11 rfl (Or.inr ⟨rfl, rfl, rfl, by decide⟩) rfl hz1 h
theorem eX12_isLetter {x1 : Int}  {M : Mem} {Q : Vl → Mem → Prop} (h : cl 0 yX12_in [Iv x1, Iv 0, Iv ((M 88 11) - 1)] M (QI (fun z1 M1 => (Q (Iv z1) M1)))) : cl 0 yX12_isLetter [Rv 88, Iv x1] M Q := enterG (by decide +kernel) (by exact Or.inr (Or.inr (Or.inl rfl))) (Nat.le_of_ble_eq_true rfl) rfl (gX12_isLetter h)
theorem gX12_letters {x1 : Int}  {M : Mem} {Q : Vl → Mem → Prop} (h : cl 0 yX12_in [Iv x1, Iv 1, Iv 6] M (QI (fun z1 M1 => ((z1 ≠ 0 → wp 0 yX12_letters 14 [some (Rv 88), some (Iv x1), some (Iv 0), none] [] M1 Q) ∧ (z1 = 0 → Q (Iv (-1)) M1))))) : wp 0 yX12_letters 0 [some (Rv 88), some (Iv x1), none, none] [] M Q := by
  refine wp_iload_n dX12_letters_0 rfl ?_
  refine wp_iconst dX12_letters_1 ?_
  refine wp_bipush dX12_letters_2 (by decide) ?_
  refine wp_callS (e1 := 0) (as := [Iv x1, Iv 1, Iv 6]) (S := []) dX12_letters_4 (cs_X12_117 rfl) rfl rfl (Nat.le_of_ble_eq_true rfl) (Nat.le_of_ble_eq_true rfl) h (fun v1 M1 q1 r1 => ?_)
  obtain ⟨z1, rfl, hz1⟩ := retV_z r1 rfl
  have h := q1
  refine wp_if_ne (tgt := 12) dX12_letters_7 (by decide) (by have := hz1; omega) (fun q2 => ?_) (fun q2 => ?_)
  · have h := h.1 q2
    refine wp_iconst dX12_letters_12 ?_
    refine wp_istore_n (L2 := [some (Rv 88), some (Iv x1), some (Iv 0), none]) dX12_letters_13 (Nat.le_of_ble_eq_true rfl) (Nat.le_of_ble_eq_true rfl) rfl ?_
    exact h
  · have h := h.2 q2
    refine wp_iconst dX12_letters_10 ?_
    exact wp_iret dX12_letters_11 rfl (Or.inr ⟨rfl, rfl, rfl, by decide⟩) rfl h
theorem eX12_letters {x1 : Int}  {M : Mem} {Q : Vl → Mem → Prop} (h : cl 0 yX12_in [Iv x1, Iv 1, Iv 6] M (QI (fun z1 M1 => ((z1 ≠ 0 → wp 0 yX12_letters 14 [some (Rv 88), some (Iv x1), some (Iv 0), none] [] M1 Q) ∧ (z1 = 0 → Q (Iv (-1)) M1))))) : cl 0 yX12_letters [Rv 88, Iv x1] M Q := enterG (by decide +kernel) (by exact Or.inr (Or.inl rfl)) (Nat.le_of_ble_eq_true rfl) rfl (gX12_letters h)
theorem gX12_letters_14 {x1 x2 : Int}  {M : Mem} {Q : Vl → Mem → Prop} (h : inr x2 ∧ ((8 ≤ x2 → Q (Iv (M 88 11)) (up M 88 11 x1)) ∧ (x2 < 8 → wp 0 yX12_letters 22 [some (Rv 88), some (Iv x1), some (Iv x2), some (Iv 0)] [] M Q))) : wp 0 yX12_letters 14 [some (Rv 88), some (Iv x1), some (Iv x2), none] [] M Q := by
  refine wp_iload_n dX12_letters_14 rfl ?_
  refine wp_bipush dX12_letters_15 (by decide) ?_
  obtain ⟨o1, h⟩ := h
  refine wp_icmp_ge (tgt := 57) dX12_letters_17 (by decide) o1 (by decide) (fun q2 => ?_) (fun q2 => ?_)
  · have h := h.1 q2
    refine wp_aload_n dX12_letters_57 rfl (by decide) ?_
    refine wp_getf (t := Iv (M 88 11)) (M 88 11) dX12_letters_58 (fl_X12_110 rfl) kd_88 rfl rfl ?_
    refine wp_istore_n (L2 := [some (Rv 88), some (Iv x1), some (Iv (M 88 11)), none]) dX12_letters_61 (Nat.le_of_ble_eq_true rfl) (Nat.le_of_ble_eq_true rfl) rfl ?_
    refine wp_aload_n dX12_letters_62 rfl (by decide) ?_
    refine wp_iload_n dX12_letters_63 rfl ?_
    refine wp_putf (x := x1) dX12_letters_64 (fl_X12_110 rfl) kd_88 (fun _ => rfl) rfl rfl trivial ?_
    refine wp_iload_n dX12_letters_67 rfl ?_
    exact wp_iret dX12_letters_68 rfl (Or.inr ⟨rfl, rfl, rfl, by decide⟩) rfl h
  · have h := h.2 q2
    refine wp_iconst dX12_letters_20 ?_
    refine wp_istore_n (L2 := [some (Rv 88), some (Iv x1), some (Iv x2), some (Iv 0)]) dX12_letters_21 (Nat.le_of_ble_eq_true rfl) (Nat.le_of_ble_eq_true rfl) rfl ?_
    exact h
theorem gX12_letters_22 {x1 x2 x3 : Int}  {M : Mem} {Q : Vl → Mem → Prop} (h : 0 ≤ x2 ∧ (x2 < 8 ∧ (inr x3 ∧ (inr (M 95 x2) ∧ (((M 95 x2) ≤ x3 → wp 0 yX12_letters 14 [some (Rv 88), some (Iv x1), some (Iv (x2 + 1)), none] [] M Q) ∧ (x3 < (M 95 x2) → cl 0 yX12_at0 [Rv 88, Iv x2, Iv x3] M (QI (fun z6 M6 => (inr z6 ∧ (inr x1 ∧ ((z6 < x1 → wp 0 yX12_letters 22 [some (Rv 88), some (Iv x1), some (Iv x2), some (Iv (x3 + 1))] [] M6 Q) ∧ (x1 ≤ z6 → Q (Iv (-4)) M6)))))))))))) : wp 0 yX12_letters 22 [some (Rv 88), some (Iv x1), some (Iv x2), some (Iv x3)] [] M Q := by
  refine wp_iload_n dX12_letters_22 rfl ?_
  refine wp_aload_n dX12_letters_23 rfl (by decide) ?_
  refine wp_getf (t := Rv 95) 95 dX12_letters_24 (fl_X12_29 rfl) kd_88 rfl rfl ?_
  refine wp_iload_n dX12_letters_27 rfl ?_
  obtain ⟨o1, h⟩ := h
  obtain ⟨o2, h⟩ := h
  refine wp_iald (M 95 x2) dX12_letters_28 kd_95 sz_95 o1 o2 (⟨by omega, by omega⟩) rfl ?_
  obtain ⟨o3, h⟩ := h
  obtain ⟨o4, h⟩ := h
  refine wp_icmp_ge (tgt := 51) dX12_letters_29 (by decide) o3 o4 (fun q5 => ?_) (fun q5 => ?_)
  · have h := h.1 q5
    refine wp_iinc (L2 := [some (Rv 88), some (Iv x1), some (Iv (x2 + 1)), some (Iv x3)]) dX12_letters_51 rfl (Nat.le_of_ble_eq_true rfl) (Nat.le_of_ble_eq_true rfl) rfl ?_
    refine wp_goto (tgt := 14) dX12_letters_54 (by decide) ?_
    exact wp_weak [true, true, true, false] rfl h
  · have h := h.2 q5
    refine wp_aload_n dX12_letters_32 rfl (by decide) ?_
    refine wp_iload_n dX12_letters_33 rfl ?_
    refine wp_iload_n dX12_letters_34 rfl ?_
    refine wp_callV (e1 := 0) (as := [Iv x2, Iv x3]) (S := []) dX12_letters_35 (cs_X12_148 rfl) kd_88 rfl rfl (Nat.le_of_ble_eq_true rfl) (Nat.le_of_ble_eq_true rfl) h (fun v6 M6 q6 r6 => ?_)
    obtain ⟨z6, rfl⟩ := retV_i r6 rfl
    have h := q6
    refine wp_iload_n dX12_letters_38 rfl ?_
    obtain ⟨o7, h⟩ := h
    obtain ⟨o8, h⟩ := h
    refine wp_icmp_lt (tgt := 45) dX12_letters_39 (by decide) o7 o8 (fun q9 => ?_) (fun q9 => ?_)
    · have h := h.1 q9
      refine wp_iinc (L2 := [some (Rv 88), some (Iv x1), some (Iv x2), some (Iv (x3 + 1))]) dX12_letters_45 rfl (Nat.le_of_ble_eq_true rfl) (Nat.le_of_ble_eq_true rfl) rfl ?_
      refine wp_goto (tgt := 22) dX12_letters_48 (by decide) ?_
      exact h
    · have h := h.2 q9
      refine wp_bipush dX12_letters_42 (by decide) ?_
      exact wp_iret dX12_letters_44 rfl (Or.inr ⟨rfl, rfl, rfl, by decide⟩) rfl h
theorem gX12_comes {x1 x2 x3 x4 : Int}  {M : Mem} {Q : Vl → Mem → Prop} (h : 0 ≤ x1 ∧ (x1 < 8 ∧ (wp 0 yX12_comes 13 [some (Rv 88), some (Iv x1), some (Iv x2), some (Iv x3), some (Iv x4), some (Iv 0)] [] (up M 95 x1 (M 88 17)) Q))) : wp 0 yX12_comes 0 [some (Rv 88), some (Iv x1), some (Iv x2), some (Iv x3), some (Iv x4), none] [] M Q := by
  refine wp_aload_n dX12_comes_0 rfl (by decide) ?_
  refine wp_getf (t := Rv 95) 95 dX12_comes_1 (fl_X12_29 rfl) kd_88 rfl rfl ?_
  refine wp_iload_n dX12_comes_4 rfl ?_
  refine wp_aload_n dX12_comes_5 rfl (by decide) ?_
  refine wp_getf (t := Iv (M 88 17)) (M 88 17) dX12_comes_6 (fl_X12_151 rfl) kd_88 rfl rfl ?_
  obtain ⟨o1, h⟩ := h
  obtain ⟨o2, h⟩ := h
  refine wp_iast dX12_comes_9 kd_95 sz_95 o1 o2 (⟨by omega, by omega⟩) ?_
  refine wp_iconst dX12_comes_10 ?_
  refine wp_istore (L2 := [some (Rv 88), some (Iv x1), some (Iv x2), some (Iv x3), some (Iv x4), some (Iv 0)]) dX12_comes_11 (Nat.le_of_ble_eq_true rfl) (Nat.le_of_ble_eq_true rfl) rfl ?_
  exact h
theorem eX12_comes {x1 x2 x3 x4 : Int}  {M : Mem} {Q : Vl → Mem → Prop} (h : 0 ≤ x1 ∧ (x1 < 8 ∧ (wp 0 yX12_comes 13 [some (Rv 88), some (Iv x1), some (Iv x2), some (Iv x3), some (Iv x4), some (Iv 0)] [] (up M 95 x1 (M 88 17)) Q))) : cl 0 yX12_comes [Rv 88, Iv x1, Iv x2, Iv x3, Iv x4] M Q := enterG (by decide +kernel) (by exact Or.inr (Or.inl rfl)) (Nat.le_of_ble_eq_true rfl) rfl (gX12_comes h)
theorem gX12_comes_13 {x1 x2 x3 x4 x5 : Int}  {M : Mem} {Q : Vl → Mem → Prop} (h : inr x5 ∧ (inr (M 88 17) ∧ (((M 88 17) ≤ x5 → 0 ≤ x1 ∧ (x1 < 8 ∧ (Q (Iv (M 88 17)) (up (up (up M 97 x1 x2) 98 x1 x3) 99 x1 x4)))) ∧ (x5 < (M 88 17) → 0 ≤ x5 ∧ (x5 < 40 ∧ (0 ≤ (40 * x1) + x5 ∧ ((40 * x1) + x5 < 320 ∧ (wp 0 yX12_comes 13 [some (Rv 88), some (Iv x1), some (Iv x2), some (Iv x3), some (Iv x4), some (Iv (x5 + 1))] [] (up M 96 ((40 * x1) + x5) (M 100 x5)) Q)))))))) : wp 0 yX12_comes 13 [some (Rv 88), some (Iv x1), some (Iv x2), some (Iv x3), some (Iv x4), some (Iv x5)] [] M Q := by
  refine wp_iload dX12_comes_13 rfl ?_
  refine wp_aload_n dX12_comes_15 rfl (by decide) ?_
  refine wp_getf (t := Iv (M 88 17)) (M 88 17) dX12_comes_16 (fl_X12_151 rfl) kd_88 rfl rfl ?_
  obtain ⟨o1, h⟩ := h
  obtain ⟨o2, h⟩ := h
  refine wp_icmp_ge (tgt := 47) dX12_comes_19 (by decide) o1 o2 (fun q3 => ?_) (fun q3 => ?_)
  · have h := h.1 q3
    refine wp_aload_n dX12_comes_47 rfl (by decide) ?_
    refine wp_getf (t := Rv 97) 97 dX12_comes_48 (fl_X12_35 rfl) kd_88 rfl rfl ?_
    refine wp_iload_n dX12_comes_51 rfl ?_
    refine wp_iload_n dX12_comes_52 rfl ?_
    obtain ⟨o4, h⟩ := h
    obtain ⟨o5, h⟩ := h
    refine wp_iast dX12_comes_53 kd_97 sz_97 o4 o5 (⟨by omega, by omega⟩) ?_
    refine wp_aload_n dX12_comes_54 rfl (by decide) ?_
    refine wp_getf (t := Rv 98) 98 dX12_comes_55 (fl_X12_38 rfl) kd_88 rfl rfl ?_
    refine wp_iload_n dX12_comes_58 rfl ?_
    refine wp_iload_n dX12_comes_59 rfl ?_
    refine wp_iast dX12_comes_60 kd_98 sz_98 o4 o5 (⟨by omega, by omega⟩) ?_
    refine wp_aload_n dX12_comes_61 rfl (by decide) ?_
    refine wp_getf (t := Rv 99) 99 dX12_comes_62 (fl_X12_41 rfl) kd_88 rfl rfl ?_
    refine wp_iload_n dX12_comes_65 rfl ?_
    refine wp_iload dX12_comes_66 rfl ?_
    refine wp_iast dX12_comes_68 kd_99 sz_99 o4 o5 (⟨by omega, by omega⟩) ?_
    refine wp_aload_n dX12_comes_69 rfl (by decide) ?_
    refine wp_getf (t := Iv (M 88 17)) (M 88 17) dX12_comes_70 (fl_X12_151 rfl) kd_88 rfl rfl ?_
    exact wp_iret dX12_comes_73 rfl (Or.inr ⟨rfl, rfl, rfl, by decide⟩) rfl h
  · have h := h.2 q3
    refine wp_aload_n dX12_comes_22 rfl (by decide) ?_
    refine wp_getf (t := Rv 96) 96 dX12_comes_23 (fl_X12_32 rfl) kd_88 rfl rfl ?_
    refine wp_bipush dX12_comes_26 (by decide) ?_
    refine wp_iload_n dX12_comes_28 rfl ?_
    refine wp_imul dX12_comes_29 ?_
    refine wp_iload dX12_comes_30 rfl ?_
    refine wp_iadd dX12_comes_32 ?_
    refine wp_aload_n dX12_comes_33 rfl (by decide) ?_
    refine wp_getf (t := Rv 100) 100 dX12_comes_34 (fl_X12_44 rfl) kd_88 rfl rfl ?_
    refine wp_iload dX12_comes_37 rfl ?_
    obtain ⟨o6, h⟩ := h
    obtain ⟨o7, h⟩ := h
    refine wp_iald (M 100 x5) dX12_comes_39 kd_100 sz_100 o6 o7 (⟨by omega, by omega⟩) rfl ?_
    obtain ⟨o8, h⟩ := h
    obtain ⟨o9, h⟩ := h
    refine wp_iast dX12_comes_40 kd_96 sz_96 o8 o9 (⟨by omega, by omega⟩) ?_
    refine wp_iinc (L2 := [some (Rv 88), some (Iv x1), some (Iv x2), some (Iv x3), some (Iv x4), some (Iv (x5 + 1))]) dX12_comes_41 rfl (Nat.le_of_ble_eq_true rfl) (Nat.le_of_ble_eq_true rfl) rfl ?_
    refine wp_goto (tgt := 13) dX12_comes_44 (by decide) ?_
    exact h
theorem gX12_comesToRow {x1 : Int}  {M : Mem} {Q : Vl → Mem → Prop} (h : 0 ≤ x1 ∧ (x1 < 6 ∧ (wp 0 yX12_comesToRow 12 [some (Rv 88), some (Iv x1), some (Iv 0)] [] (up M 90 x1 (M 88 17)) Q))) : wp 0 yX12_comesToRow 0 [some (Rv 88), some (Iv x1), none] [] M Q := by
  refine wp_aload_n dX12_comesToRow_0 rfl (by decide) ?_
  refine wp_getf (t := Rv 90) 90 dX12_comesToRow_1 (fl_X12_13 rfl) kd_88 rfl rfl ?_
  refine wp_iload_n dX12_comesToRow_4 rfl ?_
  refine wp_aload_n dX12_comesToRow_5 rfl (by decide) ?_
  refine wp_getf (t := Iv (M 88 17)) (M 88 17) dX12_comesToRow_6 (fl_X12_151 rfl) kd_88 rfl rfl ?_
  obtain ⟨o1, h⟩ := h
  obtain ⟨o2, h⟩ := h
  refine wp_iast dX12_comesToRow_9 kd_90 sz_90 o1 o2 (⟨by omega, by omega⟩) ?_
  refine wp_iconst dX12_comesToRow_10 ?_
  refine wp_istore_n (L2 := [some (Rv 88), some (Iv x1), some (Iv 0)]) dX12_comesToRow_11 (Nat.le_of_ble_eq_true rfl) (Nat.le_of_ble_eq_true rfl) rfl ?_
  exact h
theorem eX12_comesToRow {x1 : Int}  {M : Mem} {Q : Vl → Mem → Prop} (h : 0 ≤ x1 ∧ (x1 < 6 ∧ (wp 0 yX12_comesToRow 12 [some (Rv 88), some (Iv x1), some (Iv 0)] [] (up M 90 x1 (M 88 17)) Q))) : cl 0 yX12_comesToRow [Rv 88, Iv x1] M Q := enterG (by decide +kernel) (by exact Or.inl rfl) (Nat.le_of_ble_eq_true rfl) rfl (gX12_comesToRow h)
theorem gX12_comesToRow_12 {x1 x2 : Int}  {M : Mem} {Q : Vl → Mem → Prop} (h : inr x2 ∧ ((40 ≤ x2 → Q (Iv 0) M) ∧ (x2 < 40 → inr (M 88 17) ∧ (((M 88 17) ≤ x2 → 0 ≤ (40 * x1) + x2 ∧ ((40 * x1) + x2 < 240 ∧ (wp 0 yX12_comesToRow 12 [some (Rv 88), some (Iv x1), some (Iv (x2 + 1))] [] (up M 91 ((40 * x1) + x2) 0) Q))) ∧ (x2 < (M 88 17) → 0 ≤ x2 ∧ (0 ≤ (40 * x1) + x2 ∧ ((40 * x1) + x2 < 240 ∧ (wp 0 yX12_comesToRow 12 [some (Rv 88), some (Iv x1), some (Iv (x2 + 1))] [] (up M 91 ((40 * x1) + x2) (M 100 x2)) Q)))))))) : wp 0 yX12_comesToRow 12 [some (Rv 88), some (Iv x1), some (Iv x2)] [] M Q := by
  refine wp_iload_n dX12_comesToRow_12 rfl ?_
  refine wp_bipush dX12_comesToRow_13 (by decide) ?_
  obtain ⟨o1, h⟩ := h
  refine wp_icmp_ge (tgt := 53) dX12_comesToRow_15 (by decide) o1 (by decide) (fun q2 => ?_) (fun q2 => ?_)
  · have h := h.1 q2
    exact wp_vret dX12_comesToRow_53 rfl (Or.inr ⟨rfl, rfl, rfl, by decide⟩) rfl h
  · have h := h.2 q2
    refine wp_aload_n dX12_comesToRow_18 rfl (by decide) ?_
    refine wp_getf (t := Rv 91) 91 dX12_comesToRow_19 (fl_X12_16 rfl) kd_88 rfl rfl ?_
    refine wp_bipush dX12_comesToRow_22 (by decide) ?_
    refine wp_iload_n dX12_comesToRow_24 rfl ?_
    refine wp_imul dX12_comesToRow_25 ?_
    refine wp_iload_n dX12_comesToRow_26 rfl ?_
    refine wp_iadd dX12_comesToRow_27 ?_
    refine wp_iload_n dX12_comesToRow_28 rfl ?_
    refine wp_aload_n dX12_comesToRow_29 rfl (by decide) ?_
    refine wp_getf (t := Iv (M 88 17)) (M 88 17) dX12_comesToRow_30 (fl_X12_151 rfl) kd_88 rfl rfl ?_
    obtain ⟨o3, h⟩ := h
    refine wp_icmp_ge (tgt := 45) dX12_comesToRow_33 (by decide) o1 o3 (fun q4 => ?_) (fun q4 => ?_)
    · have h := h.1 q4
      refine wp_iconst dX12_comesToRow_45 ?_
      obtain ⟨o5, h⟩ := h
      obtain ⟨o6, h⟩ := h
      refine wp_iast dX12_comesToRow_46 kd_91 sz_91 o5 o6 (⟨by omega, by omega⟩) ?_
      refine wp_iinc (L2 := [some (Rv 88), some (Iv x1), some (Iv (x2 + 1))]) dX12_comesToRow_47 rfl (Nat.le_of_ble_eq_true rfl) (Nat.le_of_ble_eq_true rfl) rfl ?_
      refine wp_goto (tgt := 12) dX12_comesToRow_50 (by decide) ?_
      exact h
    · have h := h.2 q4
      refine wp_aload_n dX12_comesToRow_36 rfl (by decide) ?_
      refine wp_getf (t := Rv 100) 100 dX12_comesToRow_37 (fl_X12_44 rfl) kd_88 rfl rfl ?_
      refine wp_iload_n dX12_comesToRow_40 rfl ?_
      obtain ⟨o7, h⟩ := h
      refine wp_iald (M 100 x2) dX12_comesToRow_41 kd_100 sz_100 o7 q2 (⟨by omega, by omega⟩) rfl ?_
      refine wp_goto (tgt := 46) dX12_comesToRow_42 (by decide) ?_
      obtain ⟨o8, h⟩ := h
      obtain ⟨o9, h⟩ := h
      refine wp_iast dX12_comesToRow_46 kd_91 sz_91 o8 o9 (⟨by omega, by omega⟩) ?_
      refine wp_iinc (L2 := [some (Rv 88), some (Iv x1), some (Iv (x2 + 1))]) dX12_comesToRow_47 rfl (Nat.le_of_ble_eq_true rfl) (Nat.le_of_ble_eq_true rfl) rfl ?_
      refine wp_goto (tgt := 12) dX12_comesToRow_50 (by decide) ?_
      exact h
theorem gX12_word {x1 x2 : Int}  {M : Mem} {Q : Vl → Mem → Prop} (h : cl 0 yX12_isWord [Iv x1] M (QI (fun z1 M1 => ((z1 = 0 → Q (Iv (-1)) M1) ∧ (z1 ≠ 0 → cl 0 yX12_isRow [Iv x2] M1 (QI (fun z3 M3 => ((z3 ≠ 0 → 0 ≤ x2 ∧ (x2 < 6 ∧ (inr (M3 90 x2) ∧ ((0 ≤ (M3 90 x2) → wp 0 yX12_word 36 [some (Rv 88), some (Iv x1), some (Iv x2), some (Iv 1), some (Iv 0)] [] M3 Q) ∧ ((M3 90 x2) < 0 → cl 0 yX12_meets [Rv 88, Iv 1] M3 (QI (fun z9 M9 => (Q (Iv z9) M9)))))))) ∧ (z3 = 0 → Q (Iv (-1)) M3))))))))) : wp 0 yX12_word 0 [some (Rv 88), some (Iv x1), some (Iv x2), none, none] [] M Q := by
  refine wp_iload_n dX12_word_0 rfl ?_
  refine wp_callS (e1 := 0) (as := [Iv x1]) (S := []) dX12_word_1 (cs_X12_154 rfl) rfl rfl (Nat.le_of_ble_eq_true rfl) (Nat.le_of_ble_eq_true rfl) h (fun v1 M1 q1 r1 => ?_)
  obtain ⟨z1, rfl, hz1⟩ := retV_z r1 rfl
  have h := q1
  refine wp_if_eq (tgt := 14) dX12_word_4 (by decide) (by have := hz1; omega) (fun q2 => ?_) (fun q2 => ?_)
  · have h := h.1 q2
    refine wp_iconst dX12_word_14 ?_
    exact wp_iret dX12_word_15 rfl (Or.inr ⟨rfl, rfl, rfl, by decide⟩) rfl h
  · have h := h.2 q2
    refine wp_iload_n dX12_word_7 rfl ?_
    refine wp_callS (e1 := 0) (as := [Iv x2]) (S := []) dX12_word_8 (cs_X12_130 rfl) rfl rfl (Nat.le_of_ble_eq_true rfl) (Nat.le_of_ble_eq_true rfl) h (fun v3 M3 q3 r3 => ?_)
    obtain ⟨z3, rfl, hz3⟩ := retV_z r3 rfl
    have h := q3
    refine wp_if_ne (tgt := 16) dX12_word_11 (by decide) (by have := hz3; omega) (fun q4 => ?_) (fun q4 => ?_)
    · have h := h.1 q4
      refine wp_aload_n dX12_word_16 rfl (by decide) ?_
      refine wp_getf (t := Rv 90) 90 dX12_word_17 (fl_X12_13 rfl) kd_88 rfl rfl ?_
      refine wp_iload_n dX12_word_20 rfl ?_
      obtain ⟨o5, h⟩ := h
      obtain ⟨o6, h⟩ := h
      refine wp_iald (M3 90 x2) dX12_word_21 kd_90 sz_90 o5 o6 (⟨by omega, by omega⟩) rfl ?_
      obtain ⟨o7, h⟩ := h
      refine wp_if_ge (tgt := 31) dX12_word_22 (by decide) o7 (fun q8 => ?_) (fun q8 => ?_)
      · have h := h.1 q8
        refine wp_iconst dX12_word_31 ?_
        refine wp_istore_n (L2 := [some (Rv 88), some (Iv x1), some (Iv x2), some (Iv 1), none]) dX12_word_32 (Nat.le_of_ble_eq_true rfl) (Nat.le_of_ble_eq_true rfl) rfl ?_
        refine wp_iconst dX12_word_33 ?_
        refine wp_istore (L2 := [some (Rv 88), some (Iv x1), some (Iv x2), some (Iv 1), some (Iv 0)]) dX12_word_34 (Nat.le_of_ble_eq_true rfl) (Nat.le_of_ble_eq_true rfl) rfl ?_
        exact h
      · have h := h.2 q8
        refine wp_aload_n dX12_word_25 rfl (by decide) ?_
        refine wp_iconst dX12_word_26 ?_
        refine wp_callV (e1 := 0) (as := [Iv 1]) (S := []) dX12_word_27 (cs_X12_134 rfl) kd_88 rfl rfl (Nat.le_of_ble_eq_true rfl) (Nat.le_of_ble_eq_true rfl) h (fun v9 M9 q9 r9 => ?_)
        obtain ⟨z9, rfl⟩ := retV_i r9 rfl
        have h := q9
        exact wp_iret dX12_word_30 rfl (Or.inr ⟨rfl, rfl, rfl, by decide⟩) rfl h
    · have h := h.2 q4
      refine wp_iconst dX12_word_14 ?_
      exact wp_iret dX12_word_15 rfl (Or.inr ⟨rfl, rfl, rfl, by decide⟩) rfl h
theorem eX12_word {x1 x2 : Int}  {M : Mem} {Q : Vl → Mem → Prop} (h : cl 0 yX12_isWord [Iv x1] M (QI (fun z1 M1 => ((z1 = 0 → Q (Iv (-1)) M1) ∧ (z1 ≠ 0 → cl 0 yX12_isRow [Iv x2] M1 (QI (fun z3 M3 => ((z3 ≠ 0 → 0 ≤ x2 ∧ (x2 < 6 ∧ (inr (M3 90 x2) ∧ ((0 ≤ (M3 90 x2) → wp 0 yX12_word 36 [some (Rv 88), some (Iv x1), some (Iv x2), some (Iv 1), some (Iv 0)] [] M3 Q) ∧ ((M3 90 x2) < 0 → cl 0 yX12_meets [Rv 88, Iv 1] M3 (QI (fun z9 M9 => (Q (Iv z9) M9)))))))) ∧ (z3 = 0 → Q (Iv (-1)) M3))))))))) : cl 0 yX12_word [Rv 88, Iv x1, Iv x2] M Q := enterG (by decide +kernel) (by exact Or.inr (Or.inl rfl)) (Nat.le_of_ble_eq_true rfl) rfl (gX12_word h)
theorem gX12_word_36 {x1 x2 x3 x4 : Int}  {M : Mem} {Q : Vl → Mem → Prop} (h : 0 ≤ x2 ∧ (x2 < 6 ∧ (inr x4 ∧ (inr (M 90 x2) ∧ (((M 90 x2) ≤ x4 → inr x3 ∧ ((x3 ≠ 0 → cl 0 yX12_comes [Rv 88, Iv x1, Iv 0, Iv 0, Iv 0] (up M 88 17 (M 90 x2)) (QI (fun z8 M8 => (Q (Iv z8) M8)))) ∧ (x3 = 0 → cl 0 yX12_meets [Rv 88, Iv 3] M (QI (fun z9 M9 => (Q (Iv z9) M9)))))) ∧ (x4 < (M 90 x2) → cl 0 yX12_rowAt [Rv 88, Iv x2, Iv x4] M (QI (fun z10 M10 => (0 ≤ x4 ∧ (x4 < 40 ∧ (inr x3 ∧ ((x3 = 0 → wp 0 yX12_word 36 [some (Rv 88), some (Iv x1), some (Iv x2), some (Iv 0), some (Iv (x4 + 1))] [] (up M10 100 x4 z10) Q) ∧ (x3 ≠ 0 → cl 0 yX12_isLetter [Rv 88, Iv z10] (up M10 100 x4 z10) (QI (fun z15 M15 => ((z15 = 0 → wp 0 yX12_word 36 [some (Rv 88), some (Iv x1), some (Iv x2), some (Iv 0), some (Iv (x4 + 1))] [] M15 Q) ∧ (z15 ≠ 0 → wp 0 yX12_word 36 [some (Rv 88), some (Iv x1), some (Iv x2), some (Iv 1), some (Iv (x4 + 1))] [] M15 Q))))))))))))))))) : wp 0 yX12_word 36 [some (Rv 88), some (Iv x1), some (Iv x2), some (Iv x3), some (Iv x4)] [] M Q := by
  refine wp_iload dX12_word_36 rfl ?_
  refine wp_aload_n dX12_word_38 rfl (by decide) ?_
  refine wp_getf (t := Rv 90) 90 dX12_word_39 (fl_X12_13 rfl) kd_88 rfl rfl ?_
  refine wp_iload_n dX12_word_42 rfl ?_
  obtain ⟨o1, h⟩ := h
  obtain ⟨o2, h⟩ := h
  refine wp_iald (M 90 x2) dX12_word_43 kd_90 sz_90 o1 o2 (⟨by omega, by omega⟩) rfl ?_
  obtain ⟨o3, h⟩ := h
  obtain ⟨o4, h⟩ := h
  refine wp_icmp_ge (tgt := 91) dX12_word_44 (by decide) o3 o4 (fun q5 => ?_) (fun q5 => ?_)
  · have h := h.1 q5
    refine wp_iload_n dX12_word_91 rfl ?_
    obtain ⟨o6, h⟩ := h
    refine wp_if_ne (tgt := 101) dX12_word_92 (by decide) o6 (fun q7 => ?_) (fun q7 => ?_)
    · have h := h.1 q7
      refine wp_aload_n dX12_word_101 rfl (by decide) ?_
      refine wp_aload_n dX12_word_102 rfl (by decide) ?_
      refine wp_getf (t := Rv 90) 90 dX12_word_103 (fl_X12_13 rfl) kd_88 rfl rfl ?_
      refine wp_iload_n dX12_word_106 rfl ?_
      refine wp_iald (M 90 x2) dX12_word_107 kd_90 sz_90 o1 o2 (⟨by omega, by omega⟩) rfl ?_
      refine wp_putf (x := (M 90 x2)) dX12_word_108 (fl_X12_151 rfl) kd_88 (fun _ => rfl) rfl rfl trivial ?_
      refine wp_aload_n dX12_word_111 rfl (by decide) ?_
      refine wp_iload_n dX12_word_112 rfl ?_
      refine wp_iconst dX12_word_113 ?_
      refine wp_iconst dX12_word_114 ?_
      refine wp_iconst dX12_word_115 ?_
      refine wp_callV (e1 := 0) (as := [Iv x1, Iv 0, Iv 0, Iv 0]) (S := []) dX12_word_116 (cs_X12_160 rfl) kd_88 rfl rfl (Nat.le_of_ble_eq_true rfl) (Nat.le_of_ble_eq_true rfl) h (fun v8 M8 q8 r8 => ?_)
      obtain ⟨z8, rfl⟩ := retV_i r8 rfl
      have h := q8
      exact wp_iret dX12_word_119 rfl (Or.inr ⟨rfl, rfl, rfl, by decide⟩) rfl h
    · have h := h.2 q7
      refine wp_aload_n dX12_word_95 rfl (by decide) ?_
      refine wp_iconst dX12_word_96 ?_
      refine wp_callV (e1 := 0) (as := [Iv 3]) (S := []) dX12_word_97 (cs_X12_134 rfl) kd_88 rfl rfl (Nat.le_of_ble_eq_true rfl) (Nat.le_of_ble_eq_true rfl) h (fun v9 M9 q9 r9 => ?_)
      obtain ⟨z9, rfl⟩ := retV_i r9 rfl
      have h := q9
      exact wp_iret dX12_word_100 rfl (Or.inr ⟨rfl, rfl, rfl, by decide⟩) rfl h
  · have h := h.2 q5
    refine wp_aload_n dX12_word_47 rfl (by decide) ?_
    refine wp_getf (t := Rv 100) 100 dX12_word_48 (fl_X12_44 rfl) kd_88 rfl rfl ?_
    refine wp_iload dX12_word_51 rfl ?_
    refine wp_aload_n dX12_word_53 rfl (by decide) ?_
    refine wp_iload_n dX12_word_54 rfl ?_
    refine wp_iload dX12_word_55 rfl ?_
    refine wp_callV (e1 := 0) (as := [Iv x2, Iv x4]) (S := [Iv x4, Rv 100]) dX12_word_57 (cs_X12_138 rfl) kd_88 rfl rfl (Nat.le_of_ble_eq_true rfl) (Nat.le_of_ble_eq_true rfl) h (fun v10 M10 q10 r10 => ?_)
    obtain ⟨z10, rfl⟩ := retV_i r10 rfl
    have h := q10
    obtain ⟨o11, h⟩ := h
    obtain ⟨o12, h⟩ := h
    refine wp_iast dX12_word_60 kd_100 sz_100 o11 o12 (⟨by omega, by omega⟩) ?_
    refine wp_iload_n dX12_word_61 rfl ?_
    obtain ⟨o13, h⟩ := h
    refine wp_if_eq (tgt := 83) dX12_word_62 (by decide) o13 (fun q14 => ?_) (fun q14 => ?_)
    · have h := h.1 q14
      refine wp_iconst dX12_word_83 ?_
      refine wp_istore_n (L2 := [some (Rv 88), some (Iv x1), some (Iv x2), some (Iv 0), some (Iv x4)]) dX12_word_84 (Nat.le_of_ble_eq_true rfl) (Nat.le_of_ble_eq_true rfl) rfl ?_
      refine wp_iinc (L2 := [some (Rv 88), some (Iv x1), some (Iv x2), some (Iv 0), some (Iv (x4 + 1))]) dX12_word_85 rfl (Nat.le_of_ble_eq_true rfl) (Nat.le_of_ble_eq_true rfl) rfl ?_
      refine wp_goto (tgt := 36) dX12_word_88 (by decide) ?_
      exact h
    · have h := h.2 q14
      refine wp_aload_n dX12_word_65 rfl (by decide) ?_
      refine wp_aload_n dX12_word_66 rfl (by decide) ?_
      refine wp_getf (t := Rv 100) 100 dX12_word_67 (fl_X12_44 rfl) kd_88 rfl rfl ?_
      refine wp_iload dX12_word_70 rfl ?_
      refine wp_iald z10 dX12_word_72 kd_100 sz_100 o11 o12 (⟨by omega, by omega⟩) (up_same _ _ _ _) ?_
      refine wp_callV (e1 := 0) (as := [Iv z10]) (S := []) dX12_word_73 (cs_X12_157 rfl) kd_88 rfl rfl (Nat.le_of_ble_eq_true rfl) (Nat.le_of_ble_eq_true rfl) h (fun v15 M15 q15 r15 => ?_)
      obtain ⟨z15, rfl, hz15⟩ := retV_z r15 rfl
      have h := q15
      refine wp_if_eq (tgt := 83) dX12_word_76 (by decide) (by have := hz15; omega) (fun q16 => ?_) (fun q16 => ?_)
      · have h := h.1 q16
        refine wp_iconst dX12_word_83 ?_
        refine wp_istore_n (L2 := [some (Rv 88), some (Iv x1), some (Iv x2), some (Iv 0), some (Iv x4)]) dX12_word_84 (Nat.le_of_ble_eq_true rfl) (Nat.le_of_ble_eq_true rfl) rfl ?_
        refine wp_iinc (L2 := [some (Rv 88), some (Iv x1), some (Iv x2), some (Iv 0), some (Iv (x4 + 1))]) dX12_word_85 rfl (Nat.le_of_ble_eq_true rfl) (Nat.le_of_ble_eq_true rfl) rfl ?_
        refine wp_goto (tgt := 36) dX12_word_88 (by decide) ?_
        exact h
      · have h := h.2 q16
        refine wp_iconst dX12_word_79 ?_
        refine wp_goto (tgt := 84) dX12_word_80 (by decide) ?_
        refine wp_istore_n (L2 := [some (Rv 88), some (Iv x1), some (Iv x2), some (Iv 1), some (Iv x4)]) dX12_word_84 (Nat.le_of_ble_eq_true rfl) (Nat.le_of_ble_eq_true rfl) rfl ?_
        refine wp_iinc (L2 := [some (Rv 88), some (Iv x1), some (Iv x2), some (Iv 1), some (Iv (x4 + 1))]) dX12_word_85 rfl (Nat.le_of_ble_eq_true rfl) (Nat.le_of_ble_eq_true rfl) rfl ?_
        refine wp_goto (tgt := 36) dX12_word_88 (by decide) ?_
        exact h
theorem gX12_comesOn {x1 : Int}  {M : Mem} {Q : Vl → Mem → Prop} (h : inr (M 88 17) ∧ ((40 ≤ (M 88 17) → Q (Iv 0) (up M 88 21 1)) ∧ ((M 88 17) < 40 → 0 ≤ M 88 17 ∧ (M 88 17 < 40 ∧ (Q (Iv 0) (up (up M 100 (M 88 17) x1) 88 17 ((M 88 17) + 1))))))) : wp 0 yX12_comesOn 0 [some (Rv 88), some (Iv x1)] [] M Q := by
  refine wp_aload_n dX12_comesOn_0 rfl (by decide) ?_
  refine wp_getf (t := Iv (M 88 17)) (M 88 17) dX12_comesOn_1 (fl_X12_151 rfl) kd_88 rfl rfl ?_
  refine wp_bipush dX12_comesOn_4 (by decide) ?_
  obtain ⟨o1, h⟩ := h
  refine wp_icmp_ge (tgt := 32) dX12_comesOn_6 (by decide) o1 (by decide) (fun q2 => ?_) (fun q2 => ?_)
  · have h := h.1 q2
    refine wp_aload_n dX12_comesOn_32 rfl (by decide) ?_
    refine wp_iconst dX12_comesOn_33 ?_
    refine wp_putf (x := 1) dX12_comesOn_34 (fl_X12_164 rfl) kd_88 (fun _ => rfl) rfl rfl (Or.inr rfl) ?_
    exact wp_vret dX12_comesOn_37 rfl (Or.inr ⟨rfl, rfl, rfl, by decide⟩) rfl h
  · have h := h.2 q2
    refine wp_aload_n dX12_comesOn_9 rfl (by decide) ?_
    refine wp_getf (t := Rv 100) 100 dX12_comesOn_10 (fl_X12_44 rfl) kd_88 rfl rfl ?_
    refine wp_aload_n dX12_comesOn_13 rfl (by decide) ?_
    refine wp_getf (t := Iv (M 88 17)) (M 88 17) dX12_comesOn_14 (fl_X12_151 rfl) kd_88 rfl rfl ?_
    refine wp_iload_n dX12_comesOn_17 rfl ?_
    obtain ⟨o3, h⟩ := h
    obtain ⟨o4, h⟩ := h
    refine wp_iast dX12_comesOn_18 kd_100 sz_100 o3 o4 (⟨by omega, by omega⟩) ?_
    refine wp_aload_n dX12_comesOn_19 rfl (by decide) ?_
    refine wp_dup dX12_comesOn_20 rfl ?_
    refine wp_getf (t := Iv (M 88 17)) (M 88 17) dX12_comesOn_21 (fl_X12_151 rfl) kd_88 rfl rfl ?_
    refine wp_iconst dX12_comesOn_24 ?_
    refine wp_iadd dX12_comesOn_25 ?_
    refine wp_putf (x := ((M 88 17) + 1)) dX12_comesOn_26 (fl_X12_151 rfl) kd_88 (fun _ => rfl) rfl rfl trivial ?_
    refine wp_goto (tgt := 37) dX12_comesOn_29 (by decide) ?_
    exact wp_vret dX12_comesOn_37 rfl (Or.inr ⟨rfl, rfl, rfl, by decide⟩) rfl h
theorem eX12_comesOn {x1 : Int}  {M : Mem} {Q : Vl → Mem → Prop} (h : inr (M 88 17) ∧ ((40 ≤ (M 88 17) → Q (Iv 0) (up M 88 21 1)) ∧ ((M 88 17) < 40 → 0 ≤ M 88 17 ∧ (M 88 17 < 40 ∧ (Q (Iv 0) (up (up M 100 (M 88 17) x1) 88 17 ((M 88 17) + 1))))))) : cl 0 yX12_comesOn [Rv 88, Iv x1] M Q := enterG (by decide +kernel) (by exact Or.inl rfl) (Nat.le_of_ble_eq_true rfl) rfl (gX12_comesOn h)
theorem gX12_comesAgain {x1 x2 : Int}  {M : Mem} {Q : Vl → Mem → Prop} (h : wp 0 yX12_comesAgain 8 [some (Rv 88), some (Iv x1), some (Iv x2), some (Iv (M 88 17)), some (Iv 0), none] [] M Q) : wp 0 yX12_comesAgain 0 [some (Rv 88), some (Iv x1), some (Iv x2), none, none, none] [] M Q := by
  refine wp_aload_n dX12_comesAgain_0 rfl (by decide) ?_
  refine wp_getf (t := Iv (M 88 17)) (M 88 17) dX12_comesAgain_1 (fl_X12_151 rfl) kd_88 rfl rfl ?_
  refine wp_istore_n (L2 := [some (Rv 88), some (Iv x1), some (Iv x2), some (Iv (M 88 17)), none, none]) dX12_comesAgain_4 (Nat.le_of_ble_eq_true rfl) (Nat.le_of_ble_eq_true rfl) rfl ?_
  refine wp_iconst dX12_comesAgain_5 ?_
  refine wp_istore (L2 := [some (Rv 88), some (Iv x1), some (Iv x2), some (Iv (M 88 17)), some (Iv 0), none]) dX12_comesAgain_6 (Nat.le_of_ble_eq_true rfl) (Nat.le_of_ble_eq_true rfl) rfl ?_
  exact h
theorem eX12_comesAgain {x1 x2 : Int}  {M : Mem} {Q : Vl → Mem → Prop} (h : wp 0 yX12_comesAgain 8 [some (Rv 88), some (Iv x1), some (Iv x2), some (Iv (M 88 17)), some (Iv 0), none] [] M Q) : cl 0 yX12_comesAgain [Rv 88, Iv x1, Iv x2] M Q := enterG (by decide +kernel) (by exact Or.inl rfl) (Nat.le_of_ble_eq_true rfl) rfl (gX12_comesAgain h)
theorem gX12_comesAgain_8 {x1 x2 x3 x4 : Int}  {M : Mem} {Q : Vl → Mem → Prop} (h : inr x4 ∧ (inr x2 ∧ ((x2 ≤ x4 → Q (Iv 0) M) ∧ (x4 < x2 → wp 0 yX12_comesAgain 17 [some (Rv 88), some (Iv x1), some (Iv x2), some (Iv x3), some (Iv x4), some (Iv x1)] [] M Q)))) : wp 0 yX12_comesAgain 8 [some (Rv 88), some (Iv x1), some (Iv x2), some (Iv x3), some (Iv x4), none] [] M Q := by
  refine wp_iload dX12_comesAgain_8 rfl ?_
  refine wp_iload_n dX12_comesAgain_10 rfl ?_
  obtain ⟨o1, h⟩ := h
  obtain ⟨o2, h⟩ := h
  refine wp_icmp_ge (tgt := 46) dX12_comesAgain_11 (by decide) o1 o2 (fun q3 => ?_) (fun q3 => ?_)
  · have h := h.1 q3
    exact wp_vret dX12_comesAgain_46 rfl (Or.inr ⟨rfl, rfl, rfl, by decide⟩) rfl h
  · have h := h.2 q3
    refine wp_iload_n dX12_comesAgain_14 rfl ?_
    refine wp_istore (L2 := [some (Rv 88), some (Iv x1), some (Iv x2), some (Iv x3), some (Iv x4), some (Iv x1)]) dX12_comesAgain_15 (Nat.le_of_ble_eq_true rfl) (Nat.le_of_ble_eq_true rfl) rfl ?_
    exact h
theorem gX12_comesAgain_17 {x1 x2 x3 x4 x5 : Int}  {M : Mem} {Q : Vl → Mem → Prop} (h : inr x5 ∧ (inr x3 ∧ ((x3 ≤ x5 → wp 0 yX12_comesAgain 8 [some (Rv 88), some (Iv x1), some (Iv x2), some (Iv x3), some (Iv (x4 + 1)), none] [] M Q) ∧ (x5 < x3 → 0 ≤ x5 ∧ (x5 < 40 ∧ (cl 0 yX12_comesOn [Rv 88, Iv (M 100 x5)] M (QV (fun M6 => (wp 0 yX12_comesAgain 17 [some (Rv 88), some (Iv x1), some (Iv x2), some (Iv x3), some (Iv x4), some (Iv (x5 + 1))] [] M6 Q))))))))) : wp 0 yX12_comesAgain 17 [some (Rv 88), some (Iv x1), some (Iv x2), some (Iv x3), some (Iv x4), some (Iv x5)] [] M Q := by
  refine wp_iload dX12_comesAgain_17 rfl ?_
  refine wp_iload_n dX12_comesAgain_19 rfl ?_
  obtain ⟨o1, h⟩ := h
  obtain ⟨o2, h⟩ := h
  refine wp_icmp_ge (tgt := 40) dX12_comesAgain_20 (by decide) o1 o2 (fun q3 => ?_) (fun q3 => ?_)
  · have h := h.1 q3
    refine wp_iinc (L2 := [some (Rv 88), some (Iv x1), some (Iv x2), some (Iv x3), some (Iv (x4 + 1)), some (Iv x5)]) dX12_comesAgain_40 rfl (Nat.le_of_ble_eq_true rfl) (Nat.le_of_ble_eq_true rfl) rfl ?_
    refine wp_goto (tgt := 8) dX12_comesAgain_43 (by decide) ?_
    exact wp_weak [true, true, true, true, true, false] rfl h
  · have h := h.2 q3
    refine wp_aload_n dX12_comesAgain_23 rfl (by decide) ?_
    refine wp_aload_n dX12_comesAgain_24 rfl (by decide) ?_
    refine wp_getf (t := Rv 100) 100 dX12_comesAgain_25 (fl_X12_44 rfl) kd_88 rfl rfl ?_
    refine wp_iload dX12_comesAgain_28 rfl ?_
    obtain ⟨o4, h⟩ := h
    obtain ⟨o5, h⟩ := h
    refine wp_iald (M 100 x5) dX12_comesAgain_30 kd_100 sz_100 o4 o5 (⟨by omega, by omega⟩) rfl ?_
    refine wp_callV (e1 := 0) (as := [Iv (M 100 x5)]) (S := []) dX12_comesAgain_31 (cs_X12_168 rfl) kd_88 rfl rfl (Nat.le_of_ble_eq_true rfl) (Nat.le_of_ble_eq_true rfl) h (fun v6 M6 q6 r6 => ?_)
    have h := q6
    refine wp_iinc (L2 := [some (Rv 88), some (Iv x1), some (Iv x2), some (Iv x3), some (Iv x4), some (Iv (x5 + 1))]) dX12_comesAgain_34 rfl (Nat.le_of_ble_eq_true rfl) (Nat.le_of_ble_eq_true rfl) rfl ?_
    refine wp_goto (tgt := 17) dX12_comesAgain_37 (by decide) ?_
    exact h
theorem gX12_figureAt {x1 x2 : Int}  {M : Mem} {Q : Vl → Mem → Prop} (h : cl 0 yX12_byteAt [Rv 88, Iv x1, Iv x2] M (QI (fun z1 M1 => (cl 0 yX12_in [Iv z1, Iv 49, Iv 57] M1 (QI (fun z2 M2 => ((z2 = 0 → Q (Iv 0) M2) ∧ (z2 ≠ 0 → cl 0 yX12_byteAt [Rv 88, Iv x1, Iv x2] M2 (QI (fun z4 M4 => (Q (Iv (z4 - 48)) M4))))))))))) : wp 0 yX12_figureAt 0 [some (Rv 88), some (Iv x1), some (Iv x2)] [] M Q := by
  refine wp_aload_n dX12_figureAt_0 rfl (by decide) ?_
  refine wp_iload_n dX12_figureAt_1 rfl ?_
  refine wp_iload_n dX12_figureAt_2 rfl ?_
  refine wp_callV (e1 := 0) (as := [Iv x1, Iv x2]) (S := []) dX12_figureAt_3 (cs_X12_172 rfl) kd_88 rfl rfl (Nat.le_of_ble_eq_true rfl) (Nat.le_of_ble_eq_true rfl) h (fun v1 M1 q1 r1 => ?_)
  obtain ⟨z1, rfl⟩ := retV_i r1 rfl
  have h := q1
  refine wp_bipush dX12_figureAt_6 (by decide) ?_
  refine wp_bipush dX12_figureAt_8 (by decide) ?_
  refine wp_callS (e1 := 0) (as := [Iv z1, Iv 49, Iv 57]) (S := []) dX12_figureAt_10 (cs_X12_117 rfl) rfl rfl (Nat.le_of_ble_eq_true rfl) (Nat.le_of_ble_eq_true rfl) h (fun v2 M2 q2 r2 => ?_)
  obtain ⟨z2, rfl, hz2⟩ := retV_z r2 rfl
  have h := q2
  refine wp_if_eq (tgt := 28) dX12_figureAt_13 (by decide) (by have := hz2; omega) (fun q3 => ?_) (fun q3 => ?_)
  · have h := h.1 q3
    refine wp_iconst dX12_figureAt_28 ?_
    exact wp_iret dX12_figureAt_29 rfl (Or.inr ⟨rfl, rfl, rfl, by decide⟩) rfl h
  · have h := h.2 q3
    refine wp_aload_n dX12_figureAt_16 rfl (by decide) ?_
    refine wp_iload_n dX12_figureAt_17 rfl ?_
    refine wp_iload_n dX12_figureAt_18 rfl ?_
    refine wp_callV (e1 := 0) (as := [Iv x1, Iv x2]) (S := []) dX12_figureAt_19 (cs_X12_172 rfl) kd_88 rfl rfl (Nat.le_of_ble_eq_true rfl) (Nat.le_of_ble_eq_true rfl) h (fun v4 M4 q4 r4 => ?_)
    obtain ⟨z4, rfl⟩ := retV_i r4 rfl
    have h := q4
    refine wp_bipush dX12_figureAt_22 (by decide) ?_
    refine wp_isub dX12_figureAt_24 ?_
    refine wp_goto (tgt := 29) dX12_figureAt_25 (by decide) ?_
    exact wp_iret dX12_figureAt_29 rfl (Or.inr ⟨rfl, rfl, rfl, by decide⟩) rfl h
theorem eX12_figureAt {x1 x2 : Int}  {M : Mem} {Q : Vl → Mem → Prop} (h : cl 0 yX12_byteAt [Rv 88, Iv x1, Iv x2] M (QI (fun z1 M1 => (cl 0 yX12_in [Iv z1, Iv 49, Iv 57] M1 (QI (fun z2 M2 => ((z2 = 0 → Q (Iv 0) M2) ∧ (z2 ≠ 0 → cl 0 yX12_byteAt [Rv 88, Iv x1, Iv x2] M2 (QI (fun z4 M4 => (Q (Iv (z4 - 48)) M4))))))))))) : cl 0 yX12_figureAt [Rv 88, Iv x1, Iv x2] M Q := enterG (by decide +kernel) (by exact Or.inr (Or.inl rfl)) (Nat.le_of_ble_eq_true rfl) rfl (gX12_figureAt h)
theorem gX12_faultOf {x1 : Int}  {M : Mem} {Q : Vl → Mem → Prop} (h : wp 0 yX12_faultOf 21 [some (Rv 88), some (Iv x1), some (Iv 0), some (Iv 0), none, none, none, none] [] (up (up (up M 88 17 0) 88 21 0) 102 0 0) Q) : wp 0 yX12_faultOf 0 [some (Rv 88), some (Iv x1), none, none, none, none, none, none] [] M Q := by
  refine wp_aload_n dX12_faultOf_0 rfl (by decide) ?_
  refine wp_iconst dX12_faultOf_1 ?_
  refine wp_putf (x := 0) dX12_faultOf_2 (fl_X12_151 rfl) kd_88 (fun _ => rfl) rfl rfl trivial ?_
  refine wp_aload_n dX12_faultOf_5 rfl (by decide) ?_
  refine wp_iconst dX12_faultOf_6 ?_
  refine wp_putf (x := 0) dX12_faultOf_7 (fl_X12_164 rfl) kd_88 (fun _ => rfl) rfl rfl (Or.inl rfl) ?_
  refine wp_iconst dX12_faultOf_10 ?_
  refine wp_istore_n (L2 := [some (Rv 88), some (Iv x1), some (Iv 0), none, none, none, none, none]) dX12_faultOf_11 (Nat.le_of_ble_eq_true rfl) (Nat.le_of_ble_eq_true rfl) rfl ?_
  refine wp_aload_n dX12_faultOf_12 rfl (by decide) ?_
  refine wp_getf (t := Rv 102) 102 dX12_faultOf_13 (fl_X12_50 rfl) kd_88 rfl rfl ?_
  refine wp_iconst dX12_faultOf_16 ?_
  refine wp_iconst dX12_faultOf_17 ?_
  refine wp_iast dX12_faultOf_18 kd_102 sz_102 (by decide) (by decide) (by decide) ?_
  refine wp_iconst dX12_faultOf_19 ?_
  refine wp_istore_n (L2 := [some (Rv 88), some (Iv x1), some (Iv 0), some (Iv 0), none, none, none, none]) dX12_faultOf_20 (Nat.le_of_ble_eq_true rfl) (Nat.le_of_ble_eq_true rfl) rfl ?_
  exact h
theorem eX12_faultOf {x1 : Int}  {M : Mem} {Q : Vl → Mem → Prop} (h : wp 0 yX12_faultOf 21 [some (Rv 88), some (Iv x1), some (Iv 0), some (Iv 0), none, none, none, none] [] (up (up (up M 88 17 0) 88 21 0) 102 0 0) Q) : cl 0 yX12_faultOf [Rv 88, Iv x1] M Q := enterG (by decide +kernel) (by exact Or.inr (Or.inl rfl)) (Nat.le_of_ble_eq_true rfl) rfl (gX12_faultOf h)
theorem gX12_faultOf_21 {x1 x2 x3 : Int}  {M : Mem} {Q : Vl → Mem → Prop} (h : cl 0 yX12_byteAt [Rv 88, Iv x1, Iv x3] M (QI (fun z1 M1 => (inr z1 ∧ ((z1 ≠ 32 → wp 0 yX12_faultOf 41 [some (Rv 88), some (Iv x1), some (Iv x2), some (Iv x3), some (Iv 1), none, none, none] [] M1 Q) ∧ (z1 = 32 → wp 0 yX12_faultOf 21 [some (Rv 88), some (Iv x1), some (Iv x2), some (Iv (x3 + 1)), none, none, none, none] [] M1 Q)))))) : wp 0 yX12_faultOf 21 [some (Rv 88), some (Iv x1), some (Iv x2), some (Iv x3), none, none, none, none] [] M Q := by
  refine wp_aload_n dX12_faultOf_21 rfl (by decide) ?_
  refine wp_iload_n dX12_faultOf_22 rfl ?_
  refine wp_iload_n dX12_faultOf_23 rfl ?_
  refine wp_callV (e1 := 0) (as := [Iv x1, Iv x3]) (S := []) dX12_faultOf_24 (cs_X12_172 rfl) kd_88 rfl rfl (Nat.le_of_ble_eq_true rfl) (Nat.le_of_ble_eq_true rfl) h (fun v1 M1 q1 r1 => ?_)
  obtain ⟨z1, rfl⟩ := retV_i r1 rfl
  have h := q1
  refine wp_bipush dX12_faultOf_27 (by decide) ?_
  obtain ⟨o2, h⟩ := h
  refine wp_icmp_ne (tgt := 38) dX12_faultOf_29 (by decide) (Or.inr ⟨o2, (by decide)⟩) (fun q3 => ?_) (fun q3 => ?_)
  · have h := h.1 q3
    refine wp_iconst dX12_faultOf_38 ?_
    refine wp_istore (L2 := [some (Rv 88), some (Iv x1), some (Iv x2), some (Iv x3), some (Iv 1), none, none, none]) dX12_faultOf_39 (Nat.le_of_ble_eq_true rfl) (Nat.le_of_ble_eq_true rfl) rfl ?_
    exact h
  · have h := h.2 q3
    refine wp_iinc (L2 := [some (Rv 88), some (Iv x1), some (Iv x2), some (Iv (x3 + 1)), none, none, none, none]) dX12_faultOf_32 rfl (Nat.le_of_ble_eq_true rfl) (Nat.le_of_ble_eq_true rfl) rfl ?_
    refine wp_goto (tgt := 21) dX12_faultOf_35 (by decide) ?_
    exact h
theorem gX12_faultOf_41 {x1 x2 x3 x4 : Int}  {M : Mem} {Q : Vl → Mem → Prop} (h : 0 ≤ x1 ∧ (x1 < 4 ∧ (inr x3 ∧ (inr (M 93 x1) ∧ (((M 93 x1) ≤ x3 → wp 0 yX12_faultOf 239 [some (Rv 88), some (Iv x1), some (Iv x2), some (Iv x3), some (Iv x4), none, none, none] [] M Q) ∧ (x3 < (M 93 x1) → inr x4 ∧ ((x4 = 0 → wp 0 yX12_faultOf 239 [some (Rv 88), some (Iv x1), some (Iv x2), some (Iv x3), some (Iv x4), none, none, none] [] M Q) ∧ (x4 ≠ 0 → cl 0 yX12_byteAt [Rv 88, Iv x1, Iv x3] M (QI (fun z8 M8 => (inr z8 ∧ ((z8 ≠ 40 → ((z8 ≠ 41 → cl 0 yX12_isLetter [Rv 88, Iv (z8 - 97)] M8 (QI (fun z12 M12 => ((z12 = 0 → ((z8 ≠ 32 → Q (Iv x3) M12) ∧ (z8 = 32 → inr x2 ∧ ((x2 ≠ 0 → Q (Iv x3) M12) ∧ (x2 = 0 → wp 0 yX12_faultOf 41 [some (Rv 88), some (Iv x1), some (Iv x2), some (Iv x3), some (Iv 0), none, none, none] [] M12 Q))))) ∧ (z12 ≠ 0 → ((z8 ≠ 41 → cl 0 yX12_comesOn [Rv 88, Iv (z8 - 97)] M12 (QV (fun M18 => (0 ≤ x2 ∧ (x2 < 5 ∧ (cl 0 yX12_figureAt [Rv 88, Iv x1, Iv (x3 + 1)] (up M18 102 x2 ((M18 102 x2) + 1)) (QI (fun z21 M21 => (inr z21 ∧ ((z21 ≤ 0 → cl 0 yX12_comesAgain [Rv 88, Iv (M8 88 17), Iv (z21 - 1)] M21 (QV (fun M24 => (wp 0 yX12_faultOf 41 [some (Rv 88), some (Iv x1), some (Iv x2), some (Iv ((x3 + 1) + 0)), some (Iv x4), none, none, none] [] M24 Q)))) ∧ (0 < z21 → cl 0 yX12_comesAgain [Rv 88, Iv (M8 88 17), Iv (z21 - 1)] M21 (QV (fun M25 => (wp 0 yX12_faultOf 41 [some (Rv 88), some (Iv x1), some (Iv x2), some (Iv ((x3 + 1) + 1)), some (Iv x4), none, none, none] [] M25 Q)))))))))))))) ∧ (z8 = 41 → 0 ≤ x2 ∧ (x2 < 5 ∧ (0 ≤ x2 + (-1) ∧ (x2 + (-1) < 5 ∧ (cl 0 yX12_figureAt [Rv 88, Iv x1, Iv (x3 + 1)] (up M12 102 (x2 + (-1)) ((M12 102 (x2 + (-1))) + 1)) (QI (fun z30 M30 => (inr z30 ∧ ((z30 ≤ 0 → cl 0 yX12_comesAgain [Rv 88, Iv (M12 101 x2), Iv (z30 - 1)] M30 (QV (fun M33 => (wp 0 yX12_faultOf 41 [some (Rv 88), some (Iv x1), some (Iv (x2 + (-1))), some (Iv ((x3 + 1) + 0)), some (Iv x4), none, none, none] [] M33 Q)))) ∧ (0 < z30 → cl 0 yX12_comesAgain [Rv 88, Iv (M12 101 x2), Iv (z30 - 1)] M30 (QV (fun M34 => (wp 0 yX12_faultOf 41 [some (Rv 88), some (Iv x1), some (Iv (x2 + (-1))), some (Iv ((x3 + 1) + 1)), some (Iv x4), none, none, none] [] M34 Q))))))))))))))))))) ∧ (z8 = 41 → inr x2 ∧ ((x2 ≤ 0 → cl 0 yX12_isLetter [Rv 88, Iv (z8 - 97)] M8 (QI (fun z37 M37 => ((z37 = 0 → ((z8 ≠ 32 → Q (Iv x3) M37) ∧ (z8 = 32 → ((x2 ≠ 0 → Q (Iv x3) M37) ∧ (x2 = 0 → wp 0 yX12_faultOf 41 [some (Rv 88), some (Iv x1), some (Iv x2), some (Iv x3), some (Iv 0), none, none, none] [] M37 Q))))) ∧ (z37 ≠ 0 → ((z8 ≠ 41 → cl 0 yX12_comesOn [Rv 88, Iv (z8 - 97)] M37 (QV (fun M42 => (0 ≤ x2 ∧ (x2 < 5 ∧ (cl 0 yX12_figureAt [Rv 88, Iv x1, Iv (x3 + 1)] (up M42 102 x2 ((M42 102 x2) + 1)) (QI (fun z45 M45 => (inr z45 ∧ ((z45 ≤ 0 → cl 0 yX12_comesAgain [Rv 88, Iv (M8 88 17), Iv (z45 - 1)] M45 (QV (fun M48 => (wp 0 yX12_faultOf 41 [some (Rv 88), some (Iv x1), some (Iv x2), some (Iv ((x3 + 1) + 0)), some (Iv x4), none, none, none] [] M48 Q)))) ∧ (0 < z45 → cl 0 yX12_comesAgain [Rv 88, Iv (M8 88 17), Iv (z45 - 1)] M45 (QV (fun M49 => (wp 0 yX12_faultOf 41 [some (Rv 88), some (Iv x1), some (Iv x2), some (Iv ((x3 + 1) + 1)), some (Iv x4), none, none, none] [] M49 Q)))))))))))))) ∧ (z8 = 41 → 0 ≤ x2 ∧ (x2 < 5 ∧ (0 ≤ x2 + (-1) ∧ (x2 + (-1) < 5 ∧ (cl 0 yX12_figureAt [Rv 88, Iv x1, Iv (x3 + 1)] (up M37 102 (x2 + (-1)) ((M37 102 (x2 + (-1))) + 1)) (QI (fun z54 M54 => (inr z54 ∧ ((z54 ≤ 0 → cl 0 yX12_comesAgain [Rv 88, Iv (M37 101 x2), Iv (z54 - 1)] M54 (QV (fun M57 => (wp 0 yX12_faultOf 41 [some (Rv 88), some (Iv x1), some (Iv (x2 + (-1))), some (Iv ((x3 + 1) + 0)), some (Iv x4), none, none, none] [] M57 Q)))) ∧ (0 < z54 → cl 0 yX12_comesAgain [Rv 88, Iv (M37 101 x2), Iv (z54 - 1)] M54 (QV (fun M58 => (wp 0 yX12_faultOf 41 [some (Rv 88), some (Iv x1), some (Iv (x2 + (-1))), some (Iv ((x3 + 1) + 1)), some (Iv x4), none, none, none] [] M58 Q))))))))))))))))))) ∧ (0 < x2 → 0 ≤ x2 ∧ (x2 < 5 ∧ (inr (M8 102 x2) ∧ ((0 < (M8 102 x2) → ((z8 ≠ 41 → cl 0 yX12_comesOn [Rv 88, Iv (z8 - 97)] M8 (QV (fun M64 => (cl 0 yX12_figureAt [Rv 88, Iv x1, Iv (x3 + 1)] (up M64 102 x2 ((M64 102 x2) + 1)) (QI (fun z65 M65 => (inr z65 ∧ ((z65 ≤ 0 → cl 0 yX12_comesAgain [Rv 88, Iv (M8 88 17), Iv (z65 - 1)] M65 (QV (fun M68 => (wp 0 yX12_faultOf 41 [some (Rv 88), some (Iv x1), some (Iv x2), some (Iv ((x3 + 1) + 0)), some (Iv x4), none, none, none] [] M68 Q)))) ∧ (0 < z65 → cl 0 yX12_comesAgain [Rv 88, Iv (M8 88 17), Iv (z65 - 1)] M65 (QV (fun M69 => (wp 0 yX12_faultOf 41 [some (Rv 88), some (Iv x1), some (Iv x2), some (Iv ((x3 + 1) + 1)), some (Iv x4), none, none, none] [] M69 Q)))))))))))) ∧ (z8 = 41 → 0 ≤ x2 + (-1) ∧ (x2 + (-1) < 5 ∧ (cl 0 yX12_figureAt [Rv 88, Iv x1, Iv (x3 + 1)] (up M8 102 (x2 + (-1)) ((M8 102 (x2 + (-1))) + 1)) (QI (fun z72 M72 => (inr z72 ∧ ((z72 ≤ 0 → cl 0 yX12_comesAgain [Rv 88, Iv (M8 101 x2), Iv (z72 - 1)] M72 (QV (fun M75 => (wp 0 yX12_faultOf 41 [some (Rv 88), some (Iv x1), some (Iv (x2 + (-1))), some (Iv ((x3 + 1) + 0)), some (Iv x4), none, none, none] [] M75 Q)))) ∧ (0 < z72 → cl 0 yX12_comesAgain [Rv 88, Iv (M8 101 x2), Iv (z72 - 1)] M72 (QV (fun M76 => (wp 0 yX12_faultOf 41 [some (Rv 88), some (Iv x1), some (Iv (x2 + (-1))), some (Iv ((x3 + 1) + 1)), some (Iv x4), none, none, none] [] M76 Q))))))))))))) ∧ ((M8 102 x2) ≤ 0 → cl 0 yX12_isLetter [Rv 88, Iv (z8 - 97)] M8 (QI (fun z77 M77 => ((z77 = 0 → ((z8 ≠ 32 → Q (Iv x3) M77) ∧ (z8 = 32 → ((x2 ≠ 0 → Q (Iv x3) M77) ∧ (x2 = 0 → wp 0 yX12_faultOf 41 [some (Rv 88), some (Iv x1), some (Iv x2), some (Iv x3), some (Iv 0), none, none, none] [] M77 Q))))) ∧ (z77 ≠ 0 → ((z8 ≠ 41 → cl 0 yX12_comesOn [Rv 88, Iv (z8 - 97)] M77 (QV (fun M82 => (cl 0 yX12_figureAt [Rv 88, Iv x1, Iv (x3 + 1)] (up M82 102 x2 ((M82 102 x2) + 1)) (QI (fun z83 M83 => (inr z83 ∧ ((z83 ≤ 0 → cl 0 yX12_comesAgain [Rv 88, Iv (M8 88 17), Iv (z83 - 1)] M83 (QV (fun M86 => (wp 0 yX12_faultOf 41 [some (Rv 88), some (Iv x1), some (Iv x2), some (Iv ((x3 + 1) + 0)), some (Iv x4), none, none, none] [] M86 Q)))) ∧ (0 < z83 → cl 0 yX12_comesAgain [Rv 88, Iv (M8 88 17), Iv (z83 - 1)] M83 (QV (fun M87 => (wp 0 yX12_faultOf 41 [some (Rv 88), some (Iv x1), some (Iv x2), some (Iv ((x3 + 1) + 1)), some (Iv x4), none, none, none] [] M87 Q)))))))))))) ∧ (z8 = 41 → 0 ≤ x2 + (-1) ∧ (x2 + (-1) < 5 ∧ (cl 0 yX12_figureAt [Rv 88, Iv x1, Iv (x3 + 1)] (up M77 102 (x2 + (-1)) ((M77 102 (x2 + (-1))) + 1)) (QI (fun z90 M90 => (inr z90 ∧ ((z90 ≤ 0 → cl 0 yX12_comesAgain [Rv 88, Iv (M77 101 x2), Iv (z90 - 1)] M90 (QV (fun M93 => (wp 0 yX12_faultOf 41 [some (Rv 88), some (Iv x1), some (Iv (x2 + (-1))), some (Iv ((x3 + 1) + 0)), some (Iv x4), none, none, none] [] M93 Q)))) ∧ (0 < z90 → cl 0 yX12_comesAgain [Rv 88, Iv (M77 101 x2), Iv (z90 - 1)] M90 (QV (fun M94 => (wp 0 yX12_faultOf 41 [some (Rv 88), some (Iv x1), some (Iv (x2 + (-1))), some (Iv ((x3 + 1) + 1)), some (Iv x4), none, none, none] [] M94 Q))))))))))))))))))))))))) ∧ (z8 = 40 → inr x2 ∧ ((4 ≤ x2 → ((z8 ≠ 41 → cl 0 yX12_isLetter [Rv 88, Iv (z8 - 97)] M8 (QI (fun z98 M98 => ((z98 = 0 → ((z8 ≠ 32 → Q (Iv x3) M98) ∧ (z8 = 32 → ((x2 ≠ 0 → Q (Iv x3) M98) ∧ (x2 = 0 → wp 0 yX12_faultOf 41 [some (Rv 88), some (Iv x1), some (Iv x2), some (Iv x3), some (Iv 0), none, none, none] [] M98 Q))))) ∧ (z98 ≠ 0 → ((z8 ≠ 41 → cl 0 yX12_comesOn [Rv 88, Iv (z8 - 97)] M98 (QV (fun M103 => (0 ≤ x2 ∧ (x2 < 5 ∧ (cl 0 yX12_figureAt [Rv 88, Iv x1, Iv (x3 + 1)] (up M103 102 x2 ((M103 102 x2) + 1)) (QI (fun z106 M106 => (inr z106 ∧ ((z106 ≤ 0 → cl 0 yX12_comesAgain [Rv 88, Iv (M8 88 17), Iv (z106 - 1)] M106 (QV (fun M109 => (wp 0 yX12_faultOf 41 [some (Rv 88), some (Iv x1), some (Iv x2), some (Iv ((x3 + 1) + 0)), some (Iv x4), none, none, none] [] M109 Q)))) ∧ (0 < z106 → cl 0 yX12_comesAgain [Rv 88, Iv (M8 88 17), Iv (z106 - 1)] M106 (QV (fun M110 => (wp 0 yX12_faultOf 41 [some (Rv 88), some (Iv x1), some (Iv x2), some (Iv ((x3 + 1) + 1)), some (Iv x4), none, none, none] [] M110 Q)))))))))))))) ∧ (z8 = 41 → 0 ≤ x2 ∧ (x2 < 5 ∧ (0 ≤ x2 + (-1) ∧ (x2 + (-1) < 5 ∧ (cl 0 yX12_figureAt [Rv 88, Iv x1, Iv (x3 + 1)] (up M98 102 (x2 + (-1)) ((M98 102 (x2 + (-1))) + 1)) (QI (fun z115 M115 => (inr z115 ∧ ((z115 ≤ 0 → cl 0 yX12_comesAgain [Rv 88, Iv (M98 101 x2), Iv (z115 - 1)] M115 (QV (fun M118 => (wp 0 yX12_faultOf 41 [some (Rv 88), some (Iv x1), some (Iv (x2 + (-1))), some (Iv ((x3 + 1) + 0)), some (Iv x4), none, none, none] [] M118 Q)))) ∧ (0 < z115 → cl 0 yX12_comesAgain [Rv 88, Iv (M98 101 x2), Iv (z115 - 1)] M115 (QV (fun M119 => (wp 0 yX12_faultOf 41 [some (Rv 88), some (Iv x1), some (Iv (x2 + (-1))), some (Iv ((x3 + 1) + 1)), some (Iv x4), none, none, none] [] M119 Q))))))))))))))))))) ∧ (z8 = 41 → ((x2 ≤ 0 → cl 0 yX12_isLetter [Rv 88, Iv (z8 - 97)] M8 (QI (fun z121 M121 => ((z121 = 0 → ((z8 ≠ 32 → Q (Iv x3) M121) ∧ (z8 = 32 → ((x2 ≠ 0 → Q (Iv x3) M121) ∧ (x2 = 0 → wp 0 yX12_faultOf 41 [some (Rv 88), some (Iv x1), some (Iv x2), some (Iv x3), some (Iv 0), none, none, none] [] M121 Q))))) ∧ (z121 ≠ 0 → ((z8 ≠ 41 → cl 0 yX12_comesOn [Rv 88, Iv (z8 - 97)] M121 (QV (fun M126 => (0 ≤ x2 ∧ (x2 < 5 ∧ (cl 0 yX12_figureAt [Rv 88, Iv x1, Iv (x3 + 1)] (up M126 102 x2 ((M126 102 x2) + 1)) (QI (fun z129 M129 => (inr z129 ∧ ((z129 ≤ 0 → cl 0 yX12_comesAgain [Rv 88, Iv (M8 88 17), Iv (z129 - 1)] M129 (QV (fun M132 => (wp 0 yX12_faultOf 41 [some (Rv 88), some (Iv x1), some (Iv x2), some (Iv ((x3 + 1) + 0)), some (Iv x4), none, none, none] [] M132 Q)))) ∧ (0 < z129 → cl 0 yX12_comesAgain [Rv 88, Iv (M8 88 17), Iv (z129 - 1)] M129 (QV (fun M133 => (wp 0 yX12_faultOf 41 [some (Rv 88), some (Iv x1), some (Iv x2), some (Iv ((x3 + 1) + 1)), some (Iv x4), none, none, none] [] M133 Q)))))))))))))) ∧ (z8 = 41 → 0 ≤ x2 ∧ (x2 < 5 ∧ (0 ≤ x2 + (-1) ∧ (x2 + (-1) < 5 ∧ (cl 0 yX12_figureAt [Rv 88, Iv x1, Iv (x3 + 1)] (up M121 102 (x2 + (-1)) ((M121 102 (x2 + (-1))) + 1)) (QI (fun z138 M138 => (inr z138 ∧ ((z138 ≤ 0 → cl 0 yX12_comesAgain [Rv 88, Iv (M121 101 x2), Iv (z138 - 1)] M138 (QV (fun M141 => (wp 0 yX12_faultOf 41 [some (Rv 88), some (Iv x1), some (Iv (x2 + (-1))), some (Iv ((x3 + 1) + 0)), some (Iv x4), none, none, none] [] M141 Q)))) ∧ (0 < z138 → cl 0 yX12_comesAgain [Rv 88, Iv (M121 101 x2), Iv (z138 - 1)] M138 (QV (fun M142 => (wp 0 yX12_faultOf 41 [some (Rv 88), some (Iv x1), some (Iv (x2 + (-1))), some (Iv ((x3 + 1) + 1)), some (Iv x4), none, none, none] [] M142 Q))))))))))))))))))) ∧ (0 < x2 → 0 ≤ x2 ∧ (x2 < 5 ∧ (inr (M8 102 x2) ∧ ((0 < (M8 102 x2) → ((z8 ≠ 41 → cl 0 yX12_comesOn [Rv 88, Iv (z8 - 97)] M8 (QV (fun M148 => (cl 0 yX12_figureAt [Rv 88, Iv x1, Iv (x3 + 1)] (up M148 102 x2 ((M148 102 x2) + 1)) (QI (fun z149 M149 => (inr z149 ∧ ((z149 ≤ 0 → cl 0 yX12_comesAgain [Rv 88, Iv (M8 88 17), Iv (z149 - 1)] M149 (QV (fun M152 => (wp 0 yX12_faultOf 41 [some (Rv 88), some (Iv x1), some (Iv x2), some (Iv ((x3 + 1) + 0)), some (Iv x4), none, none, none] [] M152 Q)))) ∧ (0 < z149 → cl 0 yX12_comesAgain [Rv 88, Iv (M8 88 17), Iv (z149 - 1)] M149 (QV (fun M153 => (wp 0 yX12_faultOf 41 [some (Rv 88), some (Iv x1), some (Iv x2), some (Iv ((x3 + 1) + 1)), some (Iv x4), none, none, none] [] M153 Q)))))))))))) ∧ (z8 = 41 → 0 ≤ x2 + (-1) ∧ (x2 + (-1) < 5 ∧ (cl 0 yX12_figureAt [Rv 88, Iv x1, Iv (x3 + 1)] (up M8 102 (x2 + (-1)) ((M8 102 (x2 + (-1))) + 1)) (QI (fun z156 M156 => (inr z156 ∧ ((z156 ≤ 0 → cl 0 yX12_comesAgain [Rv 88, Iv (M8 101 x2), Iv (z156 - 1)] M156 (QV (fun M159 => (wp 0 yX12_faultOf 41 [some (Rv 88), some (Iv x1), some (Iv (x2 + (-1))), some (Iv ((x3 + 1) + 0)), some (Iv x4), none, none, none] [] M159 Q)))) ∧ (0 < z156 → cl 0 yX12_comesAgain [Rv 88, Iv (M8 101 x2), Iv (z156 - 1)] M156 (QV (fun M160 => (wp 0 yX12_faultOf 41 [some (Rv 88), some (Iv x1), some (Iv (x2 + (-1))), some (Iv ((x3 + 1) + 1)), some (Iv x4), none, none, none] [] M160 Q))))))))))))) ∧ ((M8 102 x2) ≤ 0 → cl 0 yX12_isLetter [Rv 88, Iv (z8 - 97)] M8 (QI (fun z161 M161 => ((z161 = 0 → ((z8 ≠ 32 → Q (Iv x3) M161) ∧ (z8 = 32 → ((x2 ≠ 0 → Q (Iv x3) M161) ∧ (x2 = 0 → wp 0 yX12_faultOf 41 [some (Rv 88), some (Iv x1), some (Iv x2), some (Iv x3), some (Iv 0), none, none, none] [] M161 Q))))) ∧ (z161 ≠ 0 → ((z8 ≠ 41 → cl 0 yX12_comesOn [Rv 88, Iv (z8 - 97)] M161 (QV (fun M166 => (cl 0 yX12_figureAt [Rv 88, Iv x1, Iv (x3 + 1)] (up M166 102 x2 ((M166 102 x2) + 1)) (QI (fun z167 M167 => (inr z167 ∧ ((z167 ≤ 0 → cl 0 yX12_comesAgain [Rv 88, Iv (M8 88 17), Iv (z167 - 1)] M167 (QV (fun M170 => (wp 0 yX12_faultOf 41 [some (Rv 88), some (Iv x1), some (Iv x2), some (Iv ((x3 + 1) + 0)), some (Iv x4), none, none, none] [] M170 Q)))) ∧ (0 < z167 → cl 0 yX12_comesAgain [Rv 88, Iv (M8 88 17), Iv (z167 - 1)] M167 (QV (fun M171 => (wp 0 yX12_faultOf 41 [some (Rv 88), some (Iv x1), some (Iv x2), some (Iv ((x3 + 1) + 1)), some (Iv x4), none, none, none] [] M171 Q)))))))))))) ∧ (z8 = 41 → 0 ≤ x2 + (-1) ∧ (x2 + (-1) < 5 ∧ (cl 0 yX12_figureAt [Rv 88, Iv x1, Iv (x3 + 1)] (up M161 102 (x2 + (-1)) ((M161 102 (x2 + (-1))) + 1)) (QI (fun z174 M174 => (inr z174 ∧ ((z174 ≤ 0 → cl 0 yX12_comesAgain [Rv 88, Iv (M161 101 x2), Iv (z174 - 1)] M174 (QV (fun M177 => (wp 0 yX12_faultOf 41 [some (Rv 88), some (Iv x1), some (Iv (x2 + (-1))), some (Iv ((x3 + 1) + 0)), some (Iv x4), none, none, none] [] M177 Q)))) ∧ (0 < z174 → cl 0 yX12_comesAgain [Rv 88, Iv (M161 101 x2), Iv (z174 - 1)] M174 (QV (fun M178 => (wp 0 yX12_faultOf 41 [some (Rv 88), some (Iv x1), some (Iv (x2 + (-1))), some (Iv ((x3 + 1) + 1)), some (Iv x4), none, none, none] [] M178 Q))))))))))))))))))))))))) ∧ (x2 < 4 → 0 ≤ x2 + 1 ∧ (x2 + 1 < 5 ∧ (wp 0 yX12_faultOf 41 [some (Rv 88), some (Iv x1), some (Iv (x2 + 1)), some (Iv (x3 + 1)), some (Iv x4), none, none, none] [] (up (up M8 101 (x2 + 1) (M8 88 17)) 102 (x2 + 1) 0) Q))))))))))))))))) : wp 0 yX12_faultOf 41 [some (Rv 88), some (Iv x1), some (Iv x2), some (Iv x3), some (Iv x4), none, none, none] [] M Q := by
  refine wp_iload_n dX12_faultOf_41 rfl ?_
  refine wp_aload_n dX12_faultOf_42 rfl (by decide) ?_
  refine wp_getf (t := Rv 93) 93 dX12_faultOf_43 (fl_X12_22 rfl) kd_88 rfl rfl ?_
  refine wp_iload_n dX12_faultOf_46 rfl ?_
  obtain ⟨o1, h⟩ := h
  obtain ⟨o2, h⟩ := h
  refine wp_iald (M 93 x1) dX12_faultOf_47 kd_93 sz_93 o1 o2 (⟨by omega, by omega⟩) rfl ?_
  obtain ⟨o3, h⟩ := h
  obtain ⟨o4, h⟩ := h
  refine wp_icmp_ge (tgt := 239) dX12_faultOf_48 (by decide) o3 o4 (fun q5 => ?_) (fun q5 => ?_)
  · have h := h.1 q5
    exact h
  · have h := h.2 q5
    refine wp_iload dX12_faultOf_51 rfl ?_
    obtain ⟨o6, h⟩ := h
    refine wp_if_eq (tgt := 239) dX12_faultOf_53 (by decide) o6 (fun q7 => ?_) (fun q7 => ?_)
    · have h := h.1 q7
      exact h
    · have h := h.2 q7
      refine wp_aload_n dX12_faultOf_56 rfl (by decide) ?_
      refine wp_iload_n dX12_faultOf_57 rfl ?_
      refine wp_iload_n dX12_faultOf_58 rfl ?_
      refine wp_callV (e1 := 0) (as := [Iv x1, Iv x3]) (S := []) dX12_faultOf_59 (cs_X12_172 rfl) kd_88 rfl rfl (Nat.le_of_ble_eq_true rfl) (Nat.le_of_ble_eq_true rfl) h (fun v8 M8 q8 r8 => ?_)
      obtain ⟨z8, rfl⟩ := retV_i r8 rfl
      have h := q8
      refine wp_istore (L2 := [some (Rv 88), some (Iv x1), some (Iv x2), some (Iv x3), some (Iv x4), some (Iv z8), none, none]) dX12_faultOf_62 (Nat.le_of_ble_eq_true rfl) (Nat.le_of_ble_eq_true rfl) rfl ?_
      refine wp_aload_n dX12_faultOf_64 rfl (by decide) ?_
      refine wp_getf (t := Iv (M8 88 17)) (M8 88 17) dX12_faultOf_65 (fl_X12_151 rfl) kd_88 rfl rfl ?_
      refine wp_istore (L2 := [some (Rv 88), some (Iv x1), some (Iv x2), some (Iv x3), some (Iv x4), some (Iv z8), some (Iv (M8 88 17)), none]) dX12_faultOf_68 (Nat.le_of_ble_eq_true rfl) (Nat.le_of_ble_eq_true rfl) rfl ?_
      refine wp_iload dX12_faultOf_70 rfl ?_
      refine wp_bipush dX12_faultOf_72 (by decide) ?_
      obtain ⟨o9, h⟩ := h
      refine wp_icmp_ne (tgt := 108) dX12_faultOf_74 (by decide) (Or.inr ⟨o9, (by decide)⟩) (fun q10 => ?_) (fun q10 => ?_)
      · have h := h.1 q10
        refine wp_iload dX12_faultOf_108 rfl ?_
        refine wp_bipush dX12_faultOf_110 (by decide) ?_
        refine wp_icmp_ne (tgt := 128) dX12_faultOf_112 (by decide) (Or.inr ⟨o9, (by decide)⟩) (fun q11 => ?_) (fun q11 => ?_)
        · have h := h.1 q11
          refine wp_aload_n dX12_faultOf_128 rfl (by decide) ?_
          refine wp_iload dX12_faultOf_129 rfl ?_
          refine wp_bipush dX12_faultOf_131 (by decide) ?_
          refine wp_isub dX12_faultOf_133 ?_
          refine wp_callV (e1 := 0) (as := [Iv (z8 - 97)]) (S := []) dX12_faultOf_134 (cs_X12_157 rfl) kd_88 rfl rfl (Nat.le_of_ble_eq_true rfl) (Nat.le_of_ble_eq_true rfl) h (fun v12 M12 q12 r12 => ?_)
          obtain ⟨z12, rfl, hz12⟩ := retV_z r12 rfl
          have h := q12
          refine wp_if_eq (tgt := 217) dX12_faultOf_137 (by decide) (by have := hz12; omega) (fun q13 => ?_) (fun q13 => ?_)
          · have h := h.1 q13
            refine wp_iload dX12_faultOf_217 rfl ?_
            refine wp_bipush dX12_faultOf_219 (by decide) ?_
            refine wp_icmp_ne (tgt := 234) dX12_faultOf_221 (by decide) (Or.inr ⟨o9, (by decide)⟩) (fun q14 => ?_) (fun q14 => ?_)
            · have h := h.1 q14
              refine wp_iload_n dX12_faultOf_234 rfl ?_
              exact wp_iret dX12_faultOf_235 rfl (Or.inr ⟨rfl, rfl, rfl, by decide⟩) rfl h
            · have h := h.2 q14
              refine wp_iload_n dX12_faultOf_224 rfl ?_
              obtain ⟨o15, h⟩ := h
              refine wp_if_ne (tgt := 234) dX12_faultOf_225 (by decide) o15 (fun q16 => ?_) (fun q16 => ?_)
              · have h := h.1 q16
                refine wp_iload_n dX12_faultOf_234 rfl ?_
                exact wp_iret dX12_faultOf_235 rfl (Or.inr ⟨rfl, rfl, rfl, by decide⟩) rfl h
              · have h := h.2 q16
                refine wp_iconst dX12_faultOf_228 ?_
                refine wp_istore (L2 := [some (Rv 88), some (Iv x1), some (Iv x2), some (Iv x3), some (Iv 0), some (Iv z8), some (Iv (M8 88 17)), none]) dX12_faultOf_229 (Nat.le_of_ble_eq_true rfl) (Nat.le_of_ble_eq_true rfl) rfl ?_
                refine wp_goto (tgt := 236) dX12_faultOf_231 (by decide) ?_
                refine wp_goto (tgt := 41) dX12_faultOf_236 (by decide) ?_
                exact wp_weak [true, true, true, true, true, false, false, true] rfl h
          · have h := h.2 q13
            refine wp_iload dX12_faultOf_140 rfl ?_
            refine wp_bipush dX12_faultOf_142 (by decide) ?_
            refine wp_icmp_ne (tgt := 161) dX12_faultOf_144 (by decide) (Or.inr ⟨o9, (by decide)⟩) (fun q17 => ?_) (fun q17 => ?_)
            · have h := h.1 q17
              refine wp_aload_n dX12_faultOf_161 rfl (by decide) ?_
              refine wp_iload dX12_faultOf_162 rfl ?_
              refine wp_bipush dX12_faultOf_164 (by decide) ?_
              refine wp_isub dX12_faultOf_166 ?_
              refine wp_callV (e1 := 0) (as := [Iv (z8 - 97)]) (S := []) dX12_faultOf_167 (cs_X12_168 rfl) kd_88 rfl rfl (Nat.le_of_ble_eq_true rfl) (Nat.le_of_ble_eq_true rfl) h (fun v18 M18 q18 r18 => ?_)
              have h := q18
              refine wp_aload_n dX12_faultOf_170 rfl (by decide) ?_
              refine wp_getf (t := Rv 102) 102 dX12_faultOf_171 (fl_X12_50 rfl) kd_88 rfl rfl ?_
              refine wp_iload_n dX12_faultOf_174 rfl ?_
              refine wp_dup2 dX12_faultOf_175 rfl rfl ?_
              obtain ⟨o19, h⟩ := h
              obtain ⟨o20, h⟩ := h
              refine wp_iald (M18 102 x2) dX12_faultOf_176 kd_102 sz_102 o19 o20 (⟨by omega, by omega⟩) rfl ?_
              refine wp_iconst dX12_faultOf_177 ?_
              refine wp_iadd dX12_faultOf_178 ?_
              refine wp_iast dX12_faultOf_179 kd_102 sz_102 o19 o20 (⟨by omega, by omega⟩) ?_
              refine wp_iinc (L2 := [some (Rv 88), some (Iv x1), some (Iv x2), some (Iv (x3 + 1)), some (Iv x4), some (Iv z8), some (Iv (M8 88 17)), none]) dX12_faultOf_180 rfl (Nat.le_of_ble_eq_true rfl) (Nat.le_of_ble_eq_true rfl) rfl ?_
              refine wp_aload_n dX12_faultOf_183 rfl (by decide) ?_
              refine wp_iload_n dX12_faultOf_184 rfl ?_
              refine wp_iload_n dX12_faultOf_185 rfl ?_
              refine wp_callV (e1 := 0) (as := [Iv x1, Iv (x3 + 1)]) (S := []) dX12_faultOf_186 (cs_X12_175 rfl) kd_88 rfl rfl (Nat.le_of_ble_eq_true rfl) (Nat.le_of_ble_eq_true rfl) h (fun v21 M21 q21 r21 => ?_)
              obtain ⟨z21, rfl⟩ := retV_i r21 rfl
              have h := q21
              refine wp_istore (L2 := [some (Rv 88), some (Iv x1), some (Iv x2), some (Iv (x3 + 1)), some (Iv x4), some (Iv z8), some (Iv (M8 88 17)), some (Iv z21)]) dX12_faultOf_189 (Nat.le_of_ble_eq_true rfl) (Nat.le_of_ble_eq_true rfl) rfl ?_
              refine wp_iload_n dX12_faultOf_191 rfl ?_
              refine wp_iload dX12_faultOf_192 rfl ?_
              obtain ⟨o22, h⟩ := h
              refine wp_if_le (tgt := 201) dX12_faultOf_194 (by decide) o22 (fun q23 => ?_) (fun q23 => ?_)
              · have h := h.1 q23
                refine wp_iconst dX12_faultOf_201 ?_
                refine wp_iadd dX12_faultOf_202 ?_
                refine wp_istore_n (L2 := [some (Rv 88), some (Iv x1), some (Iv x2), some (Iv ((x3 + 1) + 0)), some (Iv x4), some (Iv z8), some (Iv (M8 88 17)), some (Iv z21)]) dX12_faultOf_203 (Nat.le_of_ble_eq_true rfl) (Nat.le_of_ble_eq_true rfl) rfl ?_
                refine wp_aload_n dX12_faultOf_204 rfl (by decide) ?_
                refine wp_iload dX12_faultOf_205 rfl ?_
                refine wp_iload dX12_faultOf_207 rfl ?_
                refine wp_iconst dX12_faultOf_209 ?_
                refine wp_isub dX12_faultOf_210 ?_
                refine wp_callV (e1 := 0) (as := [Iv (M8 88 17), Iv (z21 - 1)]) (S := []) dX12_faultOf_211 (cs_X12_178 rfl) kd_88 rfl rfl (Nat.le_of_ble_eq_true rfl) (Nat.le_of_ble_eq_true rfl) h (fun v24 M24 q24 r24 => ?_)
                have h := q24
                refine wp_goto (tgt := 236) dX12_faultOf_214 (by decide) ?_
                refine wp_goto (tgt := 41) dX12_faultOf_236 (by decide) ?_
                exact wp_weak [true, true, true, true, true, false, false, false] rfl h
              · have h := h.2 q23
                refine wp_iconst dX12_faultOf_197 ?_
                refine wp_goto (tgt := 202) dX12_faultOf_198 (by decide) ?_
                refine wp_iadd dX12_faultOf_202 ?_
                refine wp_istore_n (L2 := [some (Rv 88), some (Iv x1), some (Iv x2), some (Iv ((x3 + 1) + 1)), some (Iv x4), some (Iv z8), some (Iv (M8 88 17)), some (Iv z21)]) dX12_faultOf_203 (Nat.le_of_ble_eq_true rfl) (Nat.le_of_ble_eq_true rfl) rfl ?_
                refine wp_aload_n dX12_faultOf_204 rfl (by decide) ?_
                refine wp_iload dX12_faultOf_205 rfl ?_
                refine wp_iload dX12_faultOf_207 rfl ?_
                refine wp_iconst dX12_faultOf_209 ?_
                refine wp_isub dX12_faultOf_210 ?_
                refine wp_callV (e1 := 0) (as := [Iv (M8 88 17), Iv (z21 - 1)]) (S := []) dX12_faultOf_211 (cs_X12_178 rfl) kd_88 rfl rfl (Nat.le_of_ble_eq_true rfl) (Nat.le_of_ble_eq_true rfl) h (fun v25 M25 q25 r25 => ?_)
                have h := q25
                refine wp_goto (tgt := 236) dX12_faultOf_214 (by decide) ?_
                refine wp_goto (tgt := 41) dX12_faultOf_236 (by decide) ?_
                exact wp_weak [true, true, true, true, true, false, false, false] rfl h
            · have h := h.2 q17
              refine wp_aload_n dX12_faultOf_147 rfl (by decide) ?_
              refine wp_getf (t := Rv 101) 101 dX12_faultOf_148 (fl_X12_47 rfl) kd_88 rfl rfl ?_
              refine wp_iload_n dX12_faultOf_151 rfl ?_
              obtain ⟨o26, h⟩ := h
              obtain ⟨o27, h⟩ := h
              refine wp_iald (M12 101 x2) dX12_faultOf_152 kd_101 sz_101 o26 o27 (⟨by omega, by omega⟩) rfl ?_
              refine wp_istore (L2 := [some (Rv 88), some (Iv x1), some (Iv x2), some (Iv x3), some (Iv x4), some (Iv z8), some (Iv (M12 101 x2)), none]) dX12_faultOf_153 (Nat.le_of_ble_eq_true rfl) (Nat.le_of_ble_eq_true rfl) rfl ?_
              refine wp_iinc (L2 := [some (Rv 88), some (Iv x1), some (Iv (x2 + (-1))), some (Iv x3), some (Iv x4), some (Iv z8), some (Iv (M12 101 x2)), none]) dX12_faultOf_155 rfl (Nat.le_of_ble_eq_true rfl) (Nat.le_of_ble_eq_true rfl) rfl ?_
              refine wp_goto (tgt := 170) dX12_faultOf_158 (by decide) ?_
              refine wp_aload_n dX12_faultOf_170 rfl (by decide) ?_
              refine wp_getf (t := Rv 102) 102 dX12_faultOf_171 (fl_X12_50 rfl) kd_88 rfl rfl ?_
              refine wp_iload_n dX12_faultOf_174 rfl ?_
              refine wp_dup2 dX12_faultOf_175 rfl rfl ?_
              obtain ⟨o28, h⟩ := h
              obtain ⟨o29, h⟩ := h
              refine wp_iald (M12 102 (x2 + (-1))) dX12_faultOf_176 kd_102 sz_102 o28 o29 (⟨by omega, by omega⟩) rfl ?_
              refine wp_iconst dX12_faultOf_177 ?_
              refine wp_iadd dX12_faultOf_178 ?_
              refine wp_iast dX12_faultOf_179 kd_102 sz_102 o28 o29 (⟨by omega, by omega⟩) ?_
              refine wp_iinc (L2 := [some (Rv 88), some (Iv x1), some (Iv (x2 + (-1))), some (Iv (x3 + 1)), some (Iv x4), some (Iv z8), some (Iv (M12 101 x2)), none]) dX12_faultOf_180 rfl (Nat.le_of_ble_eq_true rfl) (Nat.le_of_ble_eq_true rfl) rfl ?_
              refine wp_aload_n dX12_faultOf_183 rfl (by decide) ?_
              refine wp_iload_n dX12_faultOf_184 rfl ?_
              refine wp_iload_n dX12_faultOf_185 rfl ?_
              refine wp_callV (e1 := 0) (as := [Iv x1, Iv (x3 + 1)]) (S := []) dX12_faultOf_186 (cs_X12_175 rfl) kd_88 rfl rfl (Nat.le_of_ble_eq_true rfl) (Nat.le_of_ble_eq_true rfl) h (fun v30 M30 q30 r30 => ?_)
              obtain ⟨z30, rfl⟩ := retV_i r30 rfl
              have h := q30
              refine wp_istore (L2 := [some (Rv 88), some (Iv x1), some (Iv (x2 + (-1))), some (Iv (x3 + 1)), some (Iv x4), some (Iv z8), some (Iv (M12 101 x2)), some (Iv z30)]) dX12_faultOf_189 (Nat.le_of_ble_eq_true rfl) (Nat.le_of_ble_eq_true rfl) rfl ?_
              refine wp_iload_n dX12_faultOf_191 rfl ?_
              refine wp_iload dX12_faultOf_192 rfl ?_
              obtain ⟨o31, h⟩ := h
              refine wp_if_le (tgt := 201) dX12_faultOf_194 (by decide) o31 (fun q32 => ?_) (fun q32 => ?_)
              · have h := h.1 q32
                refine wp_iconst dX12_faultOf_201 ?_
                refine wp_iadd dX12_faultOf_202 ?_
                refine wp_istore_n (L2 := [some (Rv 88), some (Iv x1), some (Iv (x2 + (-1))), some (Iv ((x3 + 1) + 0)), some (Iv x4), some (Iv z8), some (Iv (M12 101 x2)), some (Iv z30)]) dX12_faultOf_203 (Nat.le_of_ble_eq_true rfl) (Nat.le_of_ble_eq_true rfl) rfl ?_
                refine wp_aload_n dX12_faultOf_204 rfl (by decide) ?_
                refine wp_iload dX12_faultOf_205 rfl ?_
                refine wp_iload dX12_faultOf_207 rfl ?_
                refine wp_iconst dX12_faultOf_209 ?_
                refine wp_isub dX12_faultOf_210 ?_
                refine wp_callV (e1 := 0) (as := [Iv (M12 101 x2), Iv (z30 - 1)]) (S := []) dX12_faultOf_211 (cs_X12_178 rfl) kd_88 rfl rfl (Nat.le_of_ble_eq_true rfl) (Nat.le_of_ble_eq_true rfl) h (fun v33 M33 q33 r33 => ?_)
                have h := q33
                refine wp_goto (tgt := 236) dX12_faultOf_214 (by decide) ?_
                refine wp_goto (tgt := 41) dX12_faultOf_236 (by decide) ?_
                exact wp_weak [true, true, true, true, true, false, false, false] rfl h
              · have h := h.2 q32
                refine wp_iconst dX12_faultOf_197 ?_
                refine wp_goto (tgt := 202) dX12_faultOf_198 (by decide) ?_
                refine wp_iadd dX12_faultOf_202 ?_
                refine wp_istore_n (L2 := [some (Rv 88), some (Iv x1), some (Iv (x2 + (-1))), some (Iv ((x3 + 1) + 1)), some (Iv x4), some (Iv z8), some (Iv (M12 101 x2)), some (Iv z30)]) dX12_faultOf_203 (Nat.le_of_ble_eq_true rfl) (Nat.le_of_ble_eq_true rfl) rfl ?_
                refine wp_aload_n dX12_faultOf_204 rfl (by decide) ?_
                refine wp_iload dX12_faultOf_205 rfl ?_
                refine wp_iload dX12_faultOf_207 rfl ?_
                refine wp_iconst dX12_faultOf_209 ?_
                refine wp_isub dX12_faultOf_210 ?_
                refine wp_callV (e1 := 0) (as := [Iv (M12 101 x2), Iv (z30 - 1)]) (S := []) dX12_faultOf_211 (cs_X12_178 rfl) kd_88 rfl rfl (Nat.le_of_ble_eq_true rfl) (Nat.le_of_ble_eq_true rfl) h (fun v34 M34 q34 r34 => ?_)
                have h := q34
                refine wp_goto (tgt := 236) dX12_faultOf_214 (by decide) ?_
                refine wp_goto (tgt := 41) dX12_faultOf_236 (by decide) ?_
                exact wp_weak [true, true, true, true, true, false, false, false] rfl h
        · have h := h.2 q11
          refine wp_iload_n dX12_faultOf_115 rfl ?_
          obtain ⟨o35, h⟩ := h
          refine wp_if_le (tgt := 128) dX12_faultOf_116 (by decide) o35 (fun q36 => ?_) (fun q36 => ?_)
          · have h := h.1 q36
            refine wp_aload_n dX12_faultOf_128 rfl (by decide) ?_
            refine wp_iload dX12_faultOf_129 rfl ?_
            refine wp_bipush dX12_faultOf_131 (by decide) ?_
            refine wp_isub dX12_faultOf_133 ?_
            refine wp_callV (e1 := 0) (as := [Iv (z8 - 97)]) (S := []) dX12_faultOf_134 (cs_X12_157 rfl) kd_88 rfl rfl (Nat.le_of_ble_eq_true rfl) (Nat.le_of_ble_eq_true rfl) h (fun v37 M37 q37 r37 => ?_)
            obtain ⟨z37, rfl, hz37⟩ := retV_z r37 rfl
            have h := q37
            refine wp_if_eq (tgt := 217) dX12_faultOf_137 (by decide) (by have := hz37; omega) (fun q38 => ?_) (fun q38 => ?_)
            · have h := h.1 q38
              refine wp_iload dX12_faultOf_217 rfl ?_
              refine wp_bipush dX12_faultOf_219 (by decide) ?_
              refine wp_icmp_ne (tgt := 234) dX12_faultOf_221 (by decide) (Or.inr ⟨o9, (by decide)⟩) (fun q39 => ?_) (fun q39 => ?_)
              · have h := h.1 q39
                refine wp_iload_n dX12_faultOf_234 rfl ?_
                exact wp_iret dX12_faultOf_235 rfl (Or.inr ⟨rfl, rfl, rfl, by decide⟩) rfl h
              · have h := h.2 q39
                refine wp_iload_n dX12_faultOf_224 rfl ?_
                refine wp_if_ne (tgt := 234) dX12_faultOf_225 (by decide) o35 (fun q40 => ?_) (fun q40 => ?_)
                · have h := h.1 q40
                  refine wp_iload_n dX12_faultOf_234 rfl ?_
                  exact wp_iret dX12_faultOf_235 rfl (Or.inr ⟨rfl, rfl, rfl, by decide⟩) rfl h
                · have h := h.2 q40
                  refine wp_iconst dX12_faultOf_228 ?_
                  refine wp_istore (L2 := [some (Rv 88), some (Iv x1), some (Iv x2), some (Iv x3), some (Iv 0), some (Iv z8), some (Iv (M8 88 17)), none]) dX12_faultOf_229 (Nat.le_of_ble_eq_true rfl) (Nat.le_of_ble_eq_true rfl) rfl ?_
                  refine wp_goto (tgt := 236) dX12_faultOf_231 (by decide) ?_
                  refine wp_goto (tgt := 41) dX12_faultOf_236 (by decide) ?_
                  exact wp_weak [true, true, true, true, true, false, false, true] rfl h
            · have h := h.2 q38
              refine wp_iload dX12_faultOf_140 rfl ?_
              refine wp_bipush dX12_faultOf_142 (by decide) ?_
              refine wp_icmp_ne (tgt := 161) dX12_faultOf_144 (by decide) (Or.inr ⟨o9, (by decide)⟩) (fun q41 => ?_) (fun q41 => ?_)
              · have h := h.1 q41
                refine wp_aload_n dX12_faultOf_161 rfl (by decide) ?_
                refine wp_iload dX12_faultOf_162 rfl ?_
                refine wp_bipush dX12_faultOf_164 (by decide) ?_
                refine wp_isub dX12_faultOf_166 ?_
                refine wp_callV (e1 := 0) (as := [Iv (z8 - 97)]) (S := []) dX12_faultOf_167 (cs_X12_168 rfl) kd_88 rfl rfl (Nat.le_of_ble_eq_true rfl) (Nat.le_of_ble_eq_true rfl) h (fun v42 M42 q42 r42 => ?_)
                have h := q42
                refine wp_aload_n dX12_faultOf_170 rfl (by decide) ?_
                refine wp_getf (t := Rv 102) 102 dX12_faultOf_171 (fl_X12_50 rfl) kd_88 rfl rfl ?_
                refine wp_iload_n dX12_faultOf_174 rfl ?_
                refine wp_dup2 dX12_faultOf_175 rfl rfl ?_
                obtain ⟨o43, h⟩ := h
                obtain ⟨o44, h⟩ := h
                refine wp_iald (M42 102 x2) dX12_faultOf_176 kd_102 sz_102 o43 o44 (⟨by omega, by omega⟩) rfl ?_
                refine wp_iconst dX12_faultOf_177 ?_
                refine wp_iadd dX12_faultOf_178 ?_
                refine wp_iast dX12_faultOf_179 kd_102 sz_102 o43 o44 (⟨by omega, by omega⟩) ?_
                refine wp_iinc (L2 := [some (Rv 88), some (Iv x1), some (Iv x2), some (Iv (x3 + 1)), some (Iv x4), some (Iv z8), some (Iv (M8 88 17)), none]) dX12_faultOf_180 rfl (Nat.le_of_ble_eq_true rfl) (Nat.le_of_ble_eq_true rfl) rfl ?_
                refine wp_aload_n dX12_faultOf_183 rfl (by decide) ?_
                refine wp_iload_n dX12_faultOf_184 rfl ?_
                refine wp_iload_n dX12_faultOf_185 rfl ?_
                refine wp_callV (e1 := 0) (as := [Iv x1, Iv (x3 + 1)]) (S := []) dX12_faultOf_186 (cs_X12_175 rfl) kd_88 rfl rfl (Nat.le_of_ble_eq_true rfl) (Nat.le_of_ble_eq_true rfl) h (fun v45 M45 q45 r45 => ?_)
                obtain ⟨z45, rfl⟩ := retV_i r45 rfl
                have h := q45
                refine wp_istore (L2 := [some (Rv 88), some (Iv x1), some (Iv x2), some (Iv (x3 + 1)), some (Iv x4), some (Iv z8), some (Iv (M8 88 17)), some (Iv z45)]) dX12_faultOf_189 (Nat.le_of_ble_eq_true rfl) (Nat.le_of_ble_eq_true rfl) rfl ?_
                refine wp_iload_n dX12_faultOf_191 rfl ?_
                refine wp_iload dX12_faultOf_192 rfl ?_
                obtain ⟨o46, h⟩ := h
                refine wp_if_le (tgt := 201) dX12_faultOf_194 (by decide) o46 (fun q47 => ?_) (fun q47 => ?_)
                · have h := h.1 q47
                  refine wp_iconst dX12_faultOf_201 ?_
                  refine wp_iadd dX12_faultOf_202 ?_
                  refine wp_istore_n (L2 := [some (Rv 88), some (Iv x1), some (Iv x2), some (Iv ((x3 + 1) + 0)), some (Iv x4), some (Iv z8), some (Iv (M8 88 17)), some (Iv z45)]) dX12_faultOf_203 (Nat.le_of_ble_eq_true rfl) (Nat.le_of_ble_eq_true rfl) rfl ?_
                  refine wp_aload_n dX12_faultOf_204 rfl (by decide) ?_
                  refine wp_iload dX12_faultOf_205 rfl ?_
                  refine wp_iload dX12_faultOf_207 rfl ?_
                  refine wp_iconst dX12_faultOf_209 ?_
                  refine wp_isub dX12_faultOf_210 ?_
                  refine wp_callV (e1 := 0) (as := [Iv (M8 88 17), Iv (z45 - 1)]) (S := []) dX12_faultOf_211 (cs_X12_178 rfl) kd_88 rfl rfl (Nat.le_of_ble_eq_true rfl) (Nat.le_of_ble_eq_true rfl) h (fun v48 M48 q48 r48 => ?_)
                  have h := q48
                  refine wp_goto (tgt := 236) dX12_faultOf_214 (by decide) ?_
                  refine wp_goto (tgt := 41) dX12_faultOf_236 (by decide) ?_
                  exact wp_weak [true, true, true, true, true, false, false, false] rfl h
                · have h := h.2 q47
                  refine wp_iconst dX12_faultOf_197 ?_
                  refine wp_goto (tgt := 202) dX12_faultOf_198 (by decide) ?_
                  refine wp_iadd dX12_faultOf_202 ?_
                  refine wp_istore_n (L2 := [some (Rv 88), some (Iv x1), some (Iv x2), some (Iv ((x3 + 1) + 1)), some (Iv x4), some (Iv z8), some (Iv (M8 88 17)), some (Iv z45)]) dX12_faultOf_203 (Nat.le_of_ble_eq_true rfl) (Nat.le_of_ble_eq_true rfl) rfl ?_
                  refine wp_aload_n dX12_faultOf_204 rfl (by decide) ?_
                  refine wp_iload dX12_faultOf_205 rfl ?_
                  refine wp_iload dX12_faultOf_207 rfl ?_
                  refine wp_iconst dX12_faultOf_209 ?_
                  refine wp_isub dX12_faultOf_210 ?_
                  refine wp_callV (e1 := 0) (as := [Iv (M8 88 17), Iv (z45 - 1)]) (S := []) dX12_faultOf_211 (cs_X12_178 rfl) kd_88 rfl rfl (Nat.le_of_ble_eq_true rfl) (Nat.le_of_ble_eq_true rfl) h (fun v49 M49 q49 r49 => ?_)
                  have h := q49
                  refine wp_goto (tgt := 236) dX12_faultOf_214 (by decide) ?_
                  refine wp_goto (tgt := 41) dX12_faultOf_236 (by decide) ?_
                  exact wp_weak [true, true, true, true, true, false, false, false] rfl h
              · have h := h.2 q41
                refine wp_aload_n dX12_faultOf_147 rfl (by decide) ?_
                refine wp_getf (t := Rv 101) 101 dX12_faultOf_148 (fl_X12_47 rfl) kd_88 rfl rfl ?_
                refine wp_iload_n dX12_faultOf_151 rfl ?_
                obtain ⟨o50, h⟩ := h
                obtain ⟨o51, h⟩ := h
                refine wp_iald (M37 101 x2) dX12_faultOf_152 kd_101 sz_101 o50 o51 (⟨by omega, by omega⟩) rfl ?_
                refine wp_istore (L2 := [some (Rv 88), some (Iv x1), some (Iv x2), some (Iv x3), some (Iv x4), some (Iv z8), some (Iv (M37 101 x2)), none]) dX12_faultOf_153 (Nat.le_of_ble_eq_true rfl) (Nat.le_of_ble_eq_true rfl) rfl ?_
                refine wp_iinc (L2 := [some (Rv 88), some (Iv x1), some (Iv (x2 + (-1))), some (Iv x3), some (Iv x4), some (Iv z8), some (Iv (M37 101 x2)), none]) dX12_faultOf_155 rfl (Nat.le_of_ble_eq_true rfl) (Nat.le_of_ble_eq_true rfl) rfl ?_
                refine wp_goto (tgt := 170) dX12_faultOf_158 (by decide) ?_
                refine wp_aload_n dX12_faultOf_170 rfl (by decide) ?_
                refine wp_getf (t := Rv 102) 102 dX12_faultOf_171 (fl_X12_50 rfl) kd_88 rfl rfl ?_
                refine wp_iload_n dX12_faultOf_174 rfl ?_
                refine wp_dup2 dX12_faultOf_175 rfl rfl ?_
                obtain ⟨o52, h⟩ := h
                obtain ⟨o53, h⟩ := h
                refine wp_iald (M37 102 (x2 + (-1))) dX12_faultOf_176 kd_102 sz_102 o52 o53 (⟨by omega, by omega⟩) rfl ?_
                refine wp_iconst dX12_faultOf_177 ?_
                refine wp_iadd dX12_faultOf_178 ?_
                refine wp_iast dX12_faultOf_179 kd_102 sz_102 o52 o53 (⟨by omega, by omega⟩) ?_
                refine wp_iinc (L2 := [some (Rv 88), some (Iv x1), some (Iv (x2 + (-1))), some (Iv (x3 + 1)), some (Iv x4), some (Iv z8), some (Iv (M37 101 x2)), none]) dX12_faultOf_180 rfl (Nat.le_of_ble_eq_true rfl) (Nat.le_of_ble_eq_true rfl) rfl ?_
                refine wp_aload_n dX12_faultOf_183 rfl (by decide) ?_
                refine wp_iload_n dX12_faultOf_184 rfl ?_
                refine wp_iload_n dX12_faultOf_185 rfl ?_
                refine wp_callV (e1 := 0) (as := [Iv x1, Iv (x3 + 1)]) (S := []) dX12_faultOf_186 (cs_X12_175 rfl) kd_88 rfl rfl (Nat.le_of_ble_eq_true rfl) (Nat.le_of_ble_eq_true rfl) h (fun v54 M54 q54 r54 => ?_)
                obtain ⟨z54, rfl⟩ := retV_i r54 rfl
                have h := q54
                refine wp_istore (L2 := [some (Rv 88), some (Iv x1), some (Iv (x2 + (-1))), some (Iv (x3 + 1)), some (Iv x4), some (Iv z8), some (Iv (M37 101 x2)), some (Iv z54)]) dX12_faultOf_189 (Nat.le_of_ble_eq_true rfl) (Nat.le_of_ble_eq_true rfl) rfl ?_
                refine wp_iload_n dX12_faultOf_191 rfl ?_
                refine wp_iload dX12_faultOf_192 rfl ?_
                obtain ⟨o55, h⟩ := h
                refine wp_if_le (tgt := 201) dX12_faultOf_194 (by decide) o55 (fun q56 => ?_) (fun q56 => ?_)
                · have h := h.1 q56
                  refine wp_iconst dX12_faultOf_201 ?_
                  refine wp_iadd dX12_faultOf_202 ?_
                  refine wp_istore_n (L2 := [some (Rv 88), some (Iv x1), some (Iv (x2 + (-1))), some (Iv ((x3 + 1) + 0)), some (Iv x4), some (Iv z8), some (Iv (M37 101 x2)), some (Iv z54)]) dX12_faultOf_203 (Nat.le_of_ble_eq_true rfl) (Nat.le_of_ble_eq_true rfl) rfl ?_
                  refine wp_aload_n dX12_faultOf_204 rfl (by decide) ?_
                  refine wp_iload dX12_faultOf_205 rfl ?_
                  refine wp_iload dX12_faultOf_207 rfl ?_
                  refine wp_iconst dX12_faultOf_209 ?_
                  refine wp_isub dX12_faultOf_210 ?_
                  refine wp_callV (e1 := 0) (as := [Iv (M37 101 x2), Iv (z54 - 1)]) (S := []) dX12_faultOf_211 (cs_X12_178 rfl) kd_88 rfl rfl (Nat.le_of_ble_eq_true rfl) (Nat.le_of_ble_eq_true rfl) h (fun v57 M57 q57 r57 => ?_)
                  have h := q57
                  refine wp_goto (tgt := 236) dX12_faultOf_214 (by decide) ?_
                  refine wp_goto (tgt := 41) dX12_faultOf_236 (by decide) ?_
                  exact wp_weak [true, true, true, true, true, false, false, false] rfl h
                · have h := h.2 q56
                  refine wp_iconst dX12_faultOf_197 ?_
                  refine wp_goto (tgt := 202) dX12_faultOf_198 (by decide) ?_
                  refine wp_iadd dX12_faultOf_202 ?_
                  refine wp_istore_n (L2 := [some (Rv 88), some (Iv x1), some (Iv (x2 + (-1))), some (Iv ((x3 + 1) + 1)), some (Iv x4), some (Iv z8), some (Iv (M37 101 x2)), some (Iv z54)]) dX12_faultOf_203 (Nat.le_of_ble_eq_true rfl) (Nat.le_of_ble_eq_true rfl) rfl ?_
                  refine wp_aload_n dX12_faultOf_204 rfl (by decide) ?_
                  refine wp_iload dX12_faultOf_205 rfl ?_
                  refine wp_iload dX12_faultOf_207 rfl ?_
                  refine wp_iconst dX12_faultOf_209 ?_
                  refine wp_isub dX12_faultOf_210 ?_
                  refine wp_callV (e1 := 0) (as := [Iv (M37 101 x2), Iv (z54 - 1)]) (S := []) dX12_faultOf_211 (cs_X12_178 rfl) kd_88 rfl rfl (Nat.le_of_ble_eq_true rfl) (Nat.le_of_ble_eq_true rfl) h (fun v58 M58 q58 r58 => ?_)
                  have h := q58
                  refine wp_goto (tgt := 236) dX12_faultOf_214 (by decide) ?_
                  refine wp_goto (tgt := 41) dX12_faultOf_236 (by decide) ?_
                  exact wp_weak [true, true, true, true, true, false, false, false] rfl h
          · have h := h.2 q36
            refine wp_aload_n dX12_faultOf_119 rfl (by decide) ?_
            refine wp_getf (t := Rv 102) 102 dX12_faultOf_120 (fl_X12_50 rfl) kd_88 rfl rfl ?_
            refine wp_iload_n dX12_faultOf_123 rfl ?_
            obtain ⟨o59, h⟩ := h
            obtain ⟨o60, h⟩ := h
            refine wp_iald (M8 102 x2) dX12_faultOf_124 kd_102 sz_102 o59 o60 (⟨by omega, by omega⟩) rfl ?_
            obtain ⟨o61, h⟩ := h
            refine wp_if_gt (tgt := 140) dX12_faultOf_125 (by decide) o61 (fun q62 => ?_) (fun q62 => ?_)
            · have h := h.1 q62
              refine wp_iload dX12_faultOf_140 rfl ?_
              refine wp_bipush dX12_faultOf_142 (by decide) ?_
              refine wp_icmp_ne (tgt := 161) dX12_faultOf_144 (by decide) (Or.inr ⟨o9, (by decide)⟩) (fun q63 => ?_) (fun q63 => ?_)
              · have h := h.1 q63
                refine wp_aload_n dX12_faultOf_161 rfl (by decide) ?_
                refine wp_iload dX12_faultOf_162 rfl ?_
                refine wp_bipush dX12_faultOf_164 (by decide) ?_
                refine wp_isub dX12_faultOf_166 ?_
                refine wp_callV (e1 := 0) (as := [Iv (z8 - 97)]) (S := []) dX12_faultOf_167 (cs_X12_168 rfl) kd_88 rfl rfl (Nat.le_of_ble_eq_true rfl) (Nat.le_of_ble_eq_true rfl) h (fun v64 M64 q64 r64 => ?_)
                have h := q64
                refine wp_aload_n dX12_faultOf_170 rfl (by decide) ?_
                refine wp_getf (t := Rv 102) 102 dX12_faultOf_171 (fl_X12_50 rfl) kd_88 rfl rfl ?_
                refine wp_iload_n dX12_faultOf_174 rfl ?_
                refine wp_dup2 dX12_faultOf_175 rfl rfl ?_
                refine wp_iald (M64 102 x2) dX12_faultOf_176 kd_102 sz_102 o59 o60 (⟨by omega, by omega⟩) rfl ?_
                refine wp_iconst dX12_faultOf_177 ?_
                refine wp_iadd dX12_faultOf_178 ?_
                refine wp_iast dX12_faultOf_179 kd_102 sz_102 o59 o60 (⟨by omega, by omega⟩) ?_
                refine wp_iinc (L2 := [some (Rv 88), some (Iv x1), some (Iv x2), some (Iv (x3 + 1)), some (Iv x4), some (Iv z8), some (Iv (M8 88 17)), none]) dX12_faultOf_180 rfl (Nat.le_of_ble_eq_true rfl) (Nat.le_of_ble_eq_true rfl) rfl ?_
                refine wp_aload_n dX12_faultOf_183 rfl (by decide) ?_
                refine wp_iload_n dX12_faultOf_184 rfl ?_
                refine wp_iload_n dX12_faultOf_185 rfl ?_
                refine wp_callV (e1 := 0) (as := [Iv x1, Iv (x3 + 1)]) (S := []) dX12_faultOf_186 (cs_X12_175 rfl) kd_88 rfl rfl (Nat.le_of_ble_eq_true rfl) (Nat.le_of_ble_eq_true rfl) h (fun v65 M65 q65 r65 => ?_)
                obtain ⟨z65, rfl⟩ := retV_i r65 rfl
                have h := q65
                refine wp_istore (L2 := [some (Rv 88), some (Iv x1), some (Iv x2), some (Iv (x3 + 1)), some (Iv x4), some (Iv z8), some (Iv (M8 88 17)), some (Iv z65)]) dX12_faultOf_189 (Nat.le_of_ble_eq_true rfl) (Nat.le_of_ble_eq_true rfl) rfl ?_
                refine wp_iload_n dX12_faultOf_191 rfl ?_
                refine wp_iload dX12_faultOf_192 rfl ?_
                obtain ⟨o66, h⟩ := h
                refine wp_if_le (tgt := 201) dX12_faultOf_194 (by decide) o66 (fun q67 => ?_) (fun q67 => ?_)
                · have h := h.1 q67
                  refine wp_iconst dX12_faultOf_201 ?_
                  refine wp_iadd dX12_faultOf_202 ?_
                  refine wp_istore_n (L2 := [some (Rv 88), some (Iv x1), some (Iv x2), some (Iv ((x3 + 1) + 0)), some (Iv x4), some (Iv z8), some (Iv (M8 88 17)), some (Iv z65)]) dX12_faultOf_203 (Nat.le_of_ble_eq_true rfl) (Nat.le_of_ble_eq_true rfl) rfl ?_
                  refine wp_aload_n dX12_faultOf_204 rfl (by decide) ?_
                  refine wp_iload dX12_faultOf_205 rfl ?_
                  refine wp_iload dX12_faultOf_207 rfl ?_
                  refine wp_iconst dX12_faultOf_209 ?_
                  refine wp_isub dX12_faultOf_210 ?_
                  refine wp_callV (e1 := 0) (as := [Iv (M8 88 17), Iv (z65 - 1)]) (S := []) dX12_faultOf_211 (cs_X12_178 rfl) kd_88 rfl rfl (Nat.le_of_ble_eq_true rfl) (Nat.le_of_ble_eq_true rfl) h (fun v68 M68 q68 r68 => ?_)
                  have h := q68
                  refine wp_goto (tgt := 236) dX12_faultOf_214 (by decide) ?_
                  refine wp_goto (tgt := 41) dX12_faultOf_236 (by decide) ?_
                  exact wp_weak [true, true, true, true, true, false, false, false] rfl h
                · have h := h.2 q67
                  refine wp_iconst dX12_faultOf_197 ?_
                  refine wp_goto (tgt := 202) dX12_faultOf_198 (by decide) ?_
                  refine wp_iadd dX12_faultOf_202 ?_
                  refine wp_istore_n (L2 := [some (Rv 88), some (Iv x1), some (Iv x2), some (Iv ((x3 + 1) + 1)), some (Iv x4), some (Iv z8), some (Iv (M8 88 17)), some (Iv z65)]) dX12_faultOf_203 (Nat.le_of_ble_eq_true rfl) (Nat.le_of_ble_eq_true rfl) rfl ?_
                  refine wp_aload_n dX12_faultOf_204 rfl (by decide) ?_
                  refine wp_iload dX12_faultOf_205 rfl ?_
                  refine wp_iload dX12_faultOf_207 rfl ?_
                  refine wp_iconst dX12_faultOf_209 ?_
                  refine wp_isub dX12_faultOf_210 ?_
                  refine wp_callV (e1 := 0) (as := [Iv (M8 88 17), Iv (z65 - 1)]) (S := []) dX12_faultOf_211 (cs_X12_178 rfl) kd_88 rfl rfl (Nat.le_of_ble_eq_true rfl) (Nat.le_of_ble_eq_true rfl) h (fun v69 M69 q69 r69 => ?_)
                  have h := q69
                  refine wp_goto (tgt := 236) dX12_faultOf_214 (by decide) ?_
                  refine wp_goto (tgt := 41) dX12_faultOf_236 (by decide) ?_
                  exact wp_weak [true, true, true, true, true, false, false, false] rfl h
              · have h := h.2 q63
                refine wp_aload_n dX12_faultOf_147 rfl (by decide) ?_
                refine wp_getf (t := Rv 101) 101 dX12_faultOf_148 (fl_X12_47 rfl) kd_88 rfl rfl ?_
                refine wp_iload_n dX12_faultOf_151 rfl ?_
                refine wp_iald (M8 101 x2) dX12_faultOf_152 kd_101 sz_101 o59 o60 (⟨by omega, by omega⟩) rfl ?_
                refine wp_istore (L2 := [some (Rv 88), some (Iv x1), some (Iv x2), some (Iv x3), some (Iv x4), some (Iv z8), some (Iv (M8 101 x2)), none]) dX12_faultOf_153 (Nat.le_of_ble_eq_true rfl) (Nat.le_of_ble_eq_true rfl) rfl ?_
                refine wp_iinc (L2 := [some (Rv 88), some (Iv x1), some (Iv (x2 + (-1))), some (Iv x3), some (Iv x4), some (Iv z8), some (Iv (M8 101 x2)), none]) dX12_faultOf_155 rfl (Nat.le_of_ble_eq_true rfl) (Nat.le_of_ble_eq_true rfl) rfl ?_
                refine wp_goto (tgt := 170) dX12_faultOf_158 (by decide) ?_
                refine wp_aload_n dX12_faultOf_170 rfl (by decide) ?_
                refine wp_getf (t := Rv 102) 102 dX12_faultOf_171 (fl_X12_50 rfl) kd_88 rfl rfl ?_
                refine wp_iload_n dX12_faultOf_174 rfl ?_
                refine wp_dup2 dX12_faultOf_175 rfl rfl ?_
                obtain ⟨o70, h⟩ := h
                obtain ⟨o71, h⟩ := h
                refine wp_iald (M8 102 (x2 + (-1))) dX12_faultOf_176 kd_102 sz_102 o70 o71 (⟨by omega, by omega⟩) rfl ?_
                refine wp_iconst dX12_faultOf_177 ?_
                refine wp_iadd dX12_faultOf_178 ?_
                refine wp_iast dX12_faultOf_179 kd_102 sz_102 o70 o71 (⟨by omega, by omega⟩) ?_
                refine wp_iinc (L2 := [some (Rv 88), some (Iv x1), some (Iv (x2 + (-1))), some (Iv (x3 + 1)), some (Iv x4), some (Iv z8), some (Iv (M8 101 x2)), none]) dX12_faultOf_180 rfl (Nat.le_of_ble_eq_true rfl) (Nat.le_of_ble_eq_true rfl) rfl ?_
                refine wp_aload_n dX12_faultOf_183 rfl (by decide) ?_
                refine wp_iload_n dX12_faultOf_184 rfl ?_
                refine wp_iload_n dX12_faultOf_185 rfl ?_
                refine wp_callV (e1 := 0) (as := [Iv x1, Iv (x3 + 1)]) (S := []) dX12_faultOf_186 (cs_X12_175 rfl) kd_88 rfl rfl (Nat.le_of_ble_eq_true rfl) (Nat.le_of_ble_eq_true rfl) h (fun v72 M72 q72 r72 => ?_)
                obtain ⟨z72, rfl⟩ := retV_i r72 rfl
                have h := q72
                refine wp_istore (L2 := [some (Rv 88), some (Iv x1), some (Iv (x2 + (-1))), some (Iv (x3 + 1)), some (Iv x4), some (Iv z8), some (Iv (M8 101 x2)), some (Iv z72)]) dX12_faultOf_189 (Nat.le_of_ble_eq_true rfl) (Nat.le_of_ble_eq_true rfl) rfl ?_
                refine wp_iload_n dX12_faultOf_191 rfl ?_
                refine wp_iload dX12_faultOf_192 rfl ?_
                obtain ⟨o73, h⟩ := h
                refine wp_if_le (tgt := 201) dX12_faultOf_194 (by decide) o73 (fun q74 => ?_) (fun q74 => ?_)
                · have h := h.1 q74
                  refine wp_iconst dX12_faultOf_201 ?_
                  refine wp_iadd dX12_faultOf_202 ?_
                  refine wp_istore_n (L2 := [some (Rv 88), some (Iv x1), some (Iv (x2 + (-1))), some (Iv ((x3 + 1) + 0)), some (Iv x4), some (Iv z8), some (Iv (M8 101 x2)), some (Iv z72)]) dX12_faultOf_203 (Nat.le_of_ble_eq_true rfl) (Nat.le_of_ble_eq_true rfl) rfl ?_
                  refine wp_aload_n dX12_faultOf_204 rfl (by decide) ?_
                  refine wp_iload dX12_faultOf_205 rfl ?_
                  refine wp_iload dX12_faultOf_207 rfl ?_
                  refine wp_iconst dX12_faultOf_209 ?_
                  refine wp_isub dX12_faultOf_210 ?_
                  refine wp_callV (e1 := 0) (as := [Iv (M8 101 x2), Iv (z72 - 1)]) (S := []) dX12_faultOf_211 (cs_X12_178 rfl) kd_88 rfl rfl (Nat.le_of_ble_eq_true rfl) (Nat.le_of_ble_eq_true rfl) h (fun v75 M75 q75 r75 => ?_)
                  have h := q75
                  refine wp_goto (tgt := 236) dX12_faultOf_214 (by decide) ?_
                  refine wp_goto (tgt := 41) dX12_faultOf_236 (by decide) ?_
                  exact wp_weak [true, true, true, true, true, false, false, false] rfl h
                · have h := h.2 q74
                  refine wp_iconst dX12_faultOf_197 ?_
                  refine wp_goto (tgt := 202) dX12_faultOf_198 (by decide) ?_
                  refine wp_iadd dX12_faultOf_202 ?_
                  refine wp_istore_n (L2 := [some (Rv 88), some (Iv x1), some (Iv (x2 + (-1))), some (Iv ((x3 + 1) + 1)), some (Iv x4), some (Iv z8), some (Iv (M8 101 x2)), some (Iv z72)]) dX12_faultOf_203 (Nat.le_of_ble_eq_true rfl) (Nat.le_of_ble_eq_true rfl) rfl ?_
                  refine wp_aload_n dX12_faultOf_204 rfl (by decide) ?_
                  refine wp_iload dX12_faultOf_205 rfl ?_
                  refine wp_iload dX12_faultOf_207 rfl ?_
                  refine wp_iconst dX12_faultOf_209 ?_
                  refine wp_isub dX12_faultOf_210 ?_
                  refine wp_callV (e1 := 0) (as := [Iv (M8 101 x2), Iv (z72 - 1)]) (S := []) dX12_faultOf_211 (cs_X12_178 rfl) kd_88 rfl rfl (Nat.le_of_ble_eq_true rfl) (Nat.le_of_ble_eq_true rfl) h (fun v76 M76 q76 r76 => ?_)
                  have h := q76
                  refine wp_goto (tgt := 236) dX12_faultOf_214 (by decide) ?_
                  refine wp_goto (tgt := 41) dX12_faultOf_236 (by decide) ?_
                  exact wp_weak [true, true, true, true, true, false, false, false] rfl h
            · have h := h.2 q62
              refine wp_aload_n dX12_faultOf_128 rfl (by decide) ?_
              refine wp_iload dX12_faultOf_129 rfl ?_
              refine wp_bipush dX12_faultOf_131 (by decide) ?_
              refine wp_isub dX12_faultOf_133 ?_
              refine wp_callV (e1 := 0) (as := [Iv (z8 - 97)]) (S := []) dX12_faultOf_134 (cs_X12_157 rfl) kd_88 rfl rfl (Nat.le_of_ble_eq_true rfl) (Nat.le_of_ble_eq_true rfl) h (fun v77 M77 q77 r77 => ?_)
              obtain ⟨z77, rfl, hz77⟩ := retV_z r77 rfl
              have h := q77
              refine wp_if_eq (tgt := 217) dX12_faultOf_137 (by decide) (by have := hz77; omega) (fun q78 => ?_) (fun q78 => ?_)
              · have h := h.1 q78
                refine wp_iload dX12_faultOf_217 rfl ?_
                refine wp_bipush dX12_faultOf_219 (by decide) ?_
                refine wp_icmp_ne (tgt := 234) dX12_faultOf_221 (by decide) (Or.inr ⟨o9, (by decide)⟩) (fun q79 => ?_) (fun q79 => ?_)
                · have h := h.1 q79
                  refine wp_iload_n dX12_faultOf_234 rfl ?_
                  exact wp_iret dX12_faultOf_235 rfl (Or.inr ⟨rfl, rfl, rfl, by decide⟩) rfl h
                · have h := h.2 q79
                  refine wp_iload_n dX12_faultOf_224 rfl ?_
                  refine wp_if_ne (tgt := 234) dX12_faultOf_225 (by decide) o35 (fun q80 => ?_) (fun q80 => ?_)
                  · have h := h.1 q80
                    refine wp_iload_n dX12_faultOf_234 rfl ?_
                    exact wp_iret dX12_faultOf_235 rfl (Or.inr ⟨rfl, rfl, rfl, by decide⟩) rfl h
                  · have h := h.2 q80
                    refine wp_iconst dX12_faultOf_228 ?_
                    refine wp_istore (L2 := [some (Rv 88), some (Iv x1), some (Iv x2), some (Iv x3), some (Iv 0), some (Iv z8), some (Iv (M8 88 17)), none]) dX12_faultOf_229 (Nat.le_of_ble_eq_true rfl) (Nat.le_of_ble_eq_true rfl) rfl ?_
                    refine wp_goto (tgt := 236) dX12_faultOf_231 (by decide) ?_
                    refine wp_goto (tgt := 41) dX12_faultOf_236 (by decide) ?_
                    exact wp_weak [true, true, true, true, true, false, false, true] rfl h
              · have h := h.2 q78
                refine wp_iload dX12_faultOf_140 rfl ?_
                refine wp_bipush dX12_faultOf_142 (by decide) ?_
                refine wp_icmp_ne (tgt := 161) dX12_faultOf_144 (by decide) (Or.inr ⟨o9, (by decide)⟩) (fun q81 => ?_) (fun q81 => ?_)
                · have h := h.1 q81
                  refine wp_aload_n dX12_faultOf_161 rfl (by decide) ?_
                  refine wp_iload dX12_faultOf_162 rfl ?_
                  refine wp_bipush dX12_faultOf_164 (by decide) ?_
                  refine wp_isub dX12_faultOf_166 ?_
                  refine wp_callV (e1 := 0) (as := [Iv (z8 - 97)]) (S := []) dX12_faultOf_167 (cs_X12_168 rfl) kd_88 rfl rfl (Nat.le_of_ble_eq_true rfl) (Nat.le_of_ble_eq_true rfl) h (fun v82 M82 q82 r82 => ?_)
                  have h := q82
                  refine wp_aload_n dX12_faultOf_170 rfl (by decide) ?_
                  refine wp_getf (t := Rv 102) 102 dX12_faultOf_171 (fl_X12_50 rfl) kd_88 rfl rfl ?_
                  refine wp_iload_n dX12_faultOf_174 rfl ?_
                  refine wp_dup2 dX12_faultOf_175 rfl rfl ?_
                  refine wp_iald (M82 102 x2) dX12_faultOf_176 kd_102 sz_102 o59 o60 (⟨by omega, by omega⟩) rfl ?_
                  refine wp_iconst dX12_faultOf_177 ?_
                  refine wp_iadd dX12_faultOf_178 ?_
                  refine wp_iast dX12_faultOf_179 kd_102 sz_102 o59 o60 (⟨by omega, by omega⟩) ?_
                  refine wp_iinc (L2 := [some (Rv 88), some (Iv x1), some (Iv x2), some (Iv (x3 + 1)), some (Iv x4), some (Iv z8), some (Iv (M8 88 17)), none]) dX12_faultOf_180 rfl (Nat.le_of_ble_eq_true rfl) (Nat.le_of_ble_eq_true rfl) rfl ?_
                  refine wp_aload_n dX12_faultOf_183 rfl (by decide) ?_
                  refine wp_iload_n dX12_faultOf_184 rfl ?_
                  refine wp_iload_n dX12_faultOf_185 rfl ?_
                  refine wp_callV (e1 := 0) (as := [Iv x1, Iv (x3 + 1)]) (S := []) dX12_faultOf_186 (cs_X12_175 rfl) kd_88 rfl rfl (Nat.le_of_ble_eq_true rfl) (Nat.le_of_ble_eq_true rfl) h (fun v83 M83 q83 r83 => ?_)
                  obtain ⟨z83, rfl⟩ := retV_i r83 rfl
                  have h := q83
                  refine wp_istore (L2 := [some (Rv 88), some (Iv x1), some (Iv x2), some (Iv (x3 + 1)), some (Iv x4), some (Iv z8), some (Iv (M8 88 17)), some (Iv z83)]) dX12_faultOf_189 (Nat.le_of_ble_eq_true rfl) (Nat.le_of_ble_eq_true rfl) rfl ?_
                  refine wp_iload_n dX12_faultOf_191 rfl ?_
                  refine wp_iload dX12_faultOf_192 rfl ?_
                  obtain ⟨o84, h⟩ := h
                  refine wp_if_le (tgt := 201) dX12_faultOf_194 (by decide) o84 (fun q85 => ?_) (fun q85 => ?_)
                  · have h := h.1 q85
                    refine wp_iconst dX12_faultOf_201 ?_
                    refine wp_iadd dX12_faultOf_202 ?_
                    refine wp_istore_n (L2 := [some (Rv 88), some (Iv x1), some (Iv x2), some (Iv ((x3 + 1) + 0)), some (Iv x4), some (Iv z8), some (Iv (M8 88 17)), some (Iv z83)]) dX12_faultOf_203 (Nat.le_of_ble_eq_true rfl) (Nat.le_of_ble_eq_true rfl) rfl ?_
                    refine wp_aload_n dX12_faultOf_204 rfl (by decide) ?_
                    refine wp_iload dX12_faultOf_205 rfl ?_
                    refine wp_iload dX12_faultOf_207 rfl ?_
                    refine wp_iconst dX12_faultOf_209 ?_
                    refine wp_isub dX12_faultOf_210 ?_
                    refine wp_callV (e1 := 0) (as := [Iv (M8 88 17), Iv (z83 - 1)]) (S := []) dX12_faultOf_211 (cs_X12_178 rfl) kd_88 rfl rfl (Nat.le_of_ble_eq_true rfl) (Nat.le_of_ble_eq_true rfl) h (fun v86 M86 q86 r86 => ?_)
                    have h := q86
                    refine wp_goto (tgt := 236) dX12_faultOf_214 (by decide) ?_
                    refine wp_goto (tgt := 41) dX12_faultOf_236 (by decide) ?_
                    exact wp_weak [true, true, true, true, true, false, false, false] rfl h
                  · have h := h.2 q85
                    refine wp_iconst dX12_faultOf_197 ?_
                    refine wp_goto (tgt := 202) dX12_faultOf_198 (by decide) ?_
                    refine wp_iadd dX12_faultOf_202 ?_
                    refine wp_istore_n (L2 := [some (Rv 88), some (Iv x1), some (Iv x2), some (Iv ((x3 + 1) + 1)), some (Iv x4), some (Iv z8), some (Iv (M8 88 17)), some (Iv z83)]) dX12_faultOf_203 (Nat.le_of_ble_eq_true rfl) (Nat.le_of_ble_eq_true rfl) rfl ?_
                    refine wp_aload_n dX12_faultOf_204 rfl (by decide) ?_
                    refine wp_iload dX12_faultOf_205 rfl ?_
                    refine wp_iload dX12_faultOf_207 rfl ?_
                    refine wp_iconst dX12_faultOf_209 ?_
                    refine wp_isub dX12_faultOf_210 ?_
                    refine wp_callV (e1 := 0) (as := [Iv (M8 88 17), Iv (z83 - 1)]) (S := []) dX12_faultOf_211 (cs_X12_178 rfl) kd_88 rfl rfl (Nat.le_of_ble_eq_true rfl) (Nat.le_of_ble_eq_true rfl) h (fun v87 M87 q87 r87 => ?_)
                    have h := q87
                    refine wp_goto (tgt := 236) dX12_faultOf_214 (by decide) ?_
                    refine wp_goto (tgt := 41) dX12_faultOf_236 (by decide) ?_
                    exact wp_weak [true, true, true, true, true, false, false, false] rfl h
                · have h := h.2 q81
                  refine wp_aload_n dX12_faultOf_147 rfl (by decide) ?_
                  refine wp_getf (t := Rv 101) 101 dX12_faultOf_148 (fl_X12_47 rfl) kd_88 rfl rfl ?_
                  refine wp_iload_n dX12_faultOf_151 rfl ?_
                  refine wp_iald (M77 101 x2) dX12_faultOf_152 kd_101 sz_101 o59 o60 (⟨by omega, by omega⟩) rfl ?_
                  refine wp_istore (L2 := [some (Rv 88), some (Iv x1), some (Iv x2), some (Iv x3), some (Iv x4), some (Iv z8), some (Iv (M77 101 x2)), none]) dX12_faultOf_153 (Nat.le_of_ble_eq_true rfl) (Nat.le_of_ble_eq_true rfl) rfl ?_
                  refine wp_iinc (L2 := [some (Rv 88), some (Iv x1), some (Iv (x2 + (-1))), some (Iv x3), some (Iv x4), some (Iv z8), some (Iv (M77 101 x2)), none]) dX12_faultOf_155 rfl (Nat.le_of_ble_eq_true rfl) (Nat.le_of_ble_eq_true rfl) rfl ?_
                  refine wp_goto (tgt := 170) dX12_faultOf_158 (by decide) ?_
                  refine wp_aload_n dX12_faultOf_170 rfl (by decide) ?_
                  refine wp_getf (t := Rv 102) 102 dX12_faultOf_171 (fl_X12_50 rfl) kd_88 rfl rfl ?_
                  refine wp_iload_n dX12_faultOf_174 rfl ?_
                  refine wp_dup2 dX12_faultOf_175 rfl rfl ?_
                  obtain ⟨o88, h⟩ := h
                  obtain ⟨o89, h⟩ := h
                  refine wp_iald (M77 102 (x2 + (-1))) dX12_faultOf_176 kd_102 sz_102 o88 o89 (⟨by omega, by omega⟩) rfl ?_
                  refine wp_iconst dX12_faultOf_177 ?_
                  refine wp_iadd dX12_faultOf_178 ?_
                  refine wp_iast dX12_faultOf_179 kd_102 sz_102 o88 o89 (⟨by omega, by omega⟩) ?_
                  refine wp_iinc (L2 := [some (Rv 88), some (Iv x1), some (Iv (x2 + (-1))), some (Iv (x3 + 1)), some (Iv x4), some (Iv z8), some (Iv (M77 101 x2)), none]) dX12_faultOf_180 rfl (Nat.le_of_ble_eq_true rfl) (Nat.le_of_ble_eq_true rfl) rfl ?_
                  refine wp_aload_n dX12_faultOf_183 rfl (by decide) ?_
                  refine wp_iload_n dX12_faultOf_184 rfl ?_
                  refine wp_iload_n dX12_faultOf_185 rfl ?_
                  refine wp_callV (e1 := 0) (as := [Iv x1, Iv (x3 + 1)]) (S := []) dX12_faultOf_186 (cs_X12_175 rfl) kd_88 rfl rfl (Nat.le_of_ble_eq_true rfl) (Nat.le_of_ble_eq_true rfl) h (fun v90 M90 q90 r90 => ?_)
                  obtain ⟨z90, rfl⟩ := retV_i r90 rfl
                  have h := q90
                  refine wp_istore (L2 := [some (Rv 88), some (Iv x1), some (Iv (x2 + (-1))), some (Iv (x3 + 1)), some (Iv x4), some (Iv z8), some (Iv (M77 101 x2)), some (Iv z90)]) dX12_faultOf_189 (Nat.le_of_ble_eq_true rfl) (Nat.le_of_ble_eq_true rfl) rfl ?_
                  refine wp_iload_n dX12_faultOf_191 rfl ?_
                  refine wp_iload dX12_faultOf_192 rfl ?_
                  obtain ⟨o91, h⟩ := h
                  refine wp_if_le (tgt := 201) dX12_faultOf_194 (by decide) o91 (fun q92 => ?_) (fun q92 => ?_)
                  · have h := h.1 q92
                    refine wp_iconst dX12_faultOf_201 ?_
                    refine wp_iadd dX12_faultOf_202 ?_
                    refine wp_istore_n (L2 := [some (Rv 88), some (Iv x1), some (Iv (x2 + (-1))), some (Iv ((x3 + 1) + 0)), some (Iv x4), some (Iv z8), some (Iv (M77 101 x2)), some (Iv z90)]) dX12_faultOf_203 (Nat.le_of_ble_eq_true rfl) (Nat.le_of_ble_eq_true rfl) rfl ?_
                    refine wp_aload_n dX12_faultOf_204 rfl (by decide) ?_
                    refine wp_iload dX12_faultOf_205 rfl ?_
                    refine wp_iload dX12_faultOf_207 rfl ?_
                    refine wp_iconst dX12_faultOf_209 ?_
                    refine wp_isub dX12_faultOf_210 ?_
                    refine wp_callV (e1 := 0) (as := [Iv (M77 101 x2), Iv (z90 - 1)]) (S := []) dX12_faultOf_211 (cs_X12_178 rfl) kd_88 rfl rfl (Nat.le_of_ble_eq_true rfl) (Nat.le_of_ble_eq_true rfl) h (fun v93 M93 q93 r93 => ?_)
                    have h := q93
                    refine wp_goto (tgt := 236) dX12_faultOf_214 (by decide) ?_
                    refine wp_goto (tgt := 41) dX12_faultOf_236 (by decide) ?_
                    exact wp_weak [true, true, true, true, true, false, false, false] rfl h
                  · have h := h.2 q92
                    refine wp_iconst dX12_faultOf_197 ?_
                    refine wp_goto (tgt := 202) dX12_faultOf_198 (by decide) ?_
                    refine wp_iadd dX12_faultOf_202 ?_
                    refine wp_istore_n (L2 := [some (Rv 88), some (Iv x1), some (Iv (x2 + (-1))), some (Iv ((x3 + 1) + 1)), some (Iv x4), some (Iv z8), some (Iv (M77 101 x2)), some (Iv z90)]) dX12_faultOf_203 (Nat.le_of_ble_eq_true rfl) (Nat.le_of_ble_eq_true rfl) rfl ?_
                    refine wp_aload_n dX12_faultOf_204 rfl (by decide) ?_
                    refine wp_iload dX12_faultOf_205 rfl ?_
                    refine wp_iload dX12_faultOf_207 rfl ?_
                    refine wp_iconst dX12_faultOf_209 ?_
                    refine wp_isub dX12_faultOf_210 ?_
                    refine wp_callV (e1 := 0) (as := [Iv (M77 101 x2), Iv (z90 - 1)]) (S := []) dX12_faultOf_211 (cs_X12_178 rfl) kd_88 rfl rfl (Nat.le_of_ble_eq_true rfl) (Nat.le_of_ble_eq_true rfl) h (fun v94 M94 q94 r94 => ?_)
                    have h := q94
                    refine wp_goto (tgt := 236) dX12_faultOf_214 (by decide) ?_
                    refine wp_goto (tgt := 41) dX12_faultOf_236 (by decide) ?_
                    exact wp_weak [true, true, true, true, true, false, false, false] rfl h
      · have h := h.2 q10
        refine wp_iload_n dX12_faultOf_77 rfl ?_
        refine wp_iconst dX12_faultOf_78 ?_
        obtain ⟨o95, h⟩ := h
        refine wp_icmp_ge (tgt := 108) dX12_faultOf_79 (by decide) o95 (by decide) (fun q96 => ?_) (fun q96 => ?_)
        · have h := h.1 q96
          refine wp_iload dX12_faultOf_108 rfl ?_
          refine wp_bipush dX12_faultOf_110 (by decide) ?_
          refine wp_icmp_ne (tgt := 128) dX12_faultOf_112 (by decide) (Or.inr ⟨o9, (by decide)⟩) (fun q97 => ?_) (fun q97 => ?_)
          · have h := h.1 q97
            refine wp_aload_n dX12_faultOf_128 rfl (by decide) ?_
            refine wp_iload dX12_faultOf_129 rfl ?_
            refine wp_bipush dX12_faultOf_131 (by decide) ?_
            refine wp_isub dX12_faultOf_133 ?_
            refine wp_callV (e1 := 0) (as := [Iv (z8 - 97)]) (S := []) dX12_faultOf_134 (cs_X12_157 rfl) kd_88 rfl rfl (Nat.le_of_ble_eq_true rfl) (Nat.le_of_ble_eq_true rfl) h (fun v98 M98 q98 r98 => ?_)
            obtain ⟨z98, rfl, hz98⟩ := retV_z r98 rfl
            have h := q98
            refine wp_if_eq (tgt := 217) dX12_faultOf_137 (by decide) (by have := hz98; omega) (fun q99 => ?_) (fun q99 => ?_)
            · have h := h.1 q99
              refine wp_iload dX12_faultOf_217 rfl ?_
              refine wp_bipush dX12_faultOf_219 (by decide) ?_
              refine wp_icmp_ne (tgt := 234) dX12_faultOf_221 (by decide) (Or.inr ⟨o9, (by decide)⟩) (fun q100 => ?_) (fun q100 => ?_)
              · have h := h.1 q100
                refine wp_iload_n dX12_faultOf_234 rfl ?_
                exact wp_iret dX12_faultOf_235 rfl (Or.inr ⟨rfl, rfl, rfl, by decide⟩) rfl h
              · have h := h.2 q100
                refine wp_iload_n dX12_faultOf_224 rfl ?_
                refine wp_if_ne (tgt := 234) dX12_faultOf_225 (by decide) o95 (fun q101 => ?_) (fun q101 => ?_)
                · have h := h.1 q101
                  refine wp_iload_n dX12_faultOf_234 rfl ?_
                  exact wp_iret dX12_faultOf_235 rfl (Or.inr ⟨rfl, rfl, rfl, by decide⟩) rfl h
                · have h := h.2 q101
                  refine wp_iconst dX12_faultOf_228 ?_
                  refine wp_istore (L2 := [some (Rv 88), some (Iv x1), some (Iv x2), some (Iv x3), some (Iv 0), some (Iv z8), some (Iv (M8 88 17)), none]) dX12_faultOf_229 (Nat.le_of_ble_eq_true rfl) (Nat.le_of_ble_eq_true rfl) rfl ?_
                  refine wp_goto (tgt := 236) dX12_faultOf_231 (by decide) ?_
                  refine wp_goto (tgt := 41) dX12_faultOf_236 (by decide) ?_
                  exact wp_weak [true, true, true, true, true, false, false, true] rfl h
            · have h := h.2 q99
              refine wp_iload dX12_faultOf_140 rfl ?_
              refine wp_bipush dX12_faultOf_142 (by decide) ?_
              refine wp_icmp_ne (tgt := 161) dX12_faultOf_144 (by decide) (Or.inr ⟨o9, (by decide)⟩) (fun q102 => ?_) (fun q102 => ?_)
              · have h := h.1 q102
                refine wp_aload_n dX12_faultOf_161 rfl (by decide) ?_
                refine wp_iload dX12_faultOf_162 rfl ?_
                refine wp_bipush dX12_faultOf_164 (by decide) ?_
                refine wp_isub dX12_faultOf_166 ?_
                refine wp_callV (e1 := 0) (as := [Iv (z8 - 97)]) (S := []) dX12_faultOf_167 (cs_X12_168 rfl) kd_88 rfl rfl (Nat.le_of_ble_eq_true rfl) (Nat.le_of_ble_eq_true rfl) h (fun v103 M103 q103 r103 => ?_)
                have h := q103
                refine wp_aload_n dX12_faultOf_170 rfl (by decide) ?_
                refine wp_getf (t := Rv 102) 102 dX12_faultOf_171 (fl_X12_50 rfl) kd_88 rfl rfl ?_
                refine wp_iload_n dX12_faultOf_174 rfl ?_
                refine wp_dup2 dX12_faultOf_175 rfl rfl ?_
                obtain ⟨o104, h⟩ := h
                obtain ⟨o105, h⟩ := h
                refine wp_iald (M103 102 x2) dX12_faultOf_176 kd_102 sz_102 o104 o105 (⟨by omega, by omega⟩) rfl ?_
                refine wp_iconst dX12_faultOf_177 ?_
                refine wp_iadd dX12_faultOf_178 ?_
                refine wp_iast dX12_faultOf_179 kd_102 sz_102 o104 o105 (⟨by omega, by omega⟩) ?_
                refine wp_iinc (L2 := [some (Rv 88), some (Iv x1), some (Iv x2), some (Iv (x3 + 1)), some (Iv x4), some (Iv z8), some (Iv (M8 88 17)), none]) dX12_faultOf_180 rfl (Nat.le_of_ble_eq_true rfl) (Nat.le_of_ble_eq_true rfl) rfl ?_
                refine wp_aload_n dX12_faultOf_183 rfl (by decide) ?_
                refine wp_iload_n dX12_faultOf_184 rfl ?_
                refine wp_iload_n dX12_faultOf_185 rfl ?_
                refine wp_callV (e1 := 0) (as := [Iv x1, Iv (x3 + 1)]) (S := []) dX12_faultOf_186 (cs_X12_175 rfl) kd_88 rfl rfl (Nat.le_of_ble_eq_true rfl) (Nat.le_of_ble_eq_true rfl) h (fun v106 M106 q106 r106 => ?_)
                obtain ⟨z106, rfl⟩ := retV_i r106 rfl
                have h := q106
                refine wp_istore (L2 := [some (Rv 88), some (Iv x1), some (Iv x2), some (Iv (x3 + 1)), some (Iv x4), some (Iv z8), some (Iv (M8 88 17)), some (Iv z106)]) dX12_faultOf_189 (Nat.le_of_ble_eq_true rfl) (Nat.le_of_ble_eq_true rfl) rfl ?_
                refine wp_iload_n dX12_faultOf_191 rfl ?_
                refine wp_iload dX12_faultOf_192 rfl ?_
                obtain ⟨o107, h⟩ := h
                refine wp_if_le (tgt := 201) dX12_faultOf_194 (by decide) o107 (fun q108 => ?_) (fun q108 => ?_)
                · have h := h.1 q108
                  refine wp_iconst dX12_faultOf_201 ?_
                  refine wp_iadd dX12_faultOf_202 ?_
                  refine wp_istore_n (L2 := [some (Rv 88), some (Iv x1), some (Iv x2), some (Iv ((x3 + 1) + 0)), some (Iv x4), some (Iv z8), some (Iv (M8 88 17)), some (Iv z106)]) dX12_faultOf_203 (Nat.le_of_ble_eq_true rfl) (Nat.le_of_ble_eq_true rfl) rfl ?_
                  refine wp_aload_n dX12_faultOf_204 rfl (by decide) ?_
                  refine wp_iload dX12_faultOf_205 rfl ?_
                  refine wp_iload dX12_faultOf_207 rfl ?_
                  refine wp_iconst dX12_faultOf_209 ?_
                  refine wp_isub dX12_faultOf_210 ?_
                  refine wp_callV (e1 := 0) (as := [Iv (M8 88 17), Iv (z106 - 1)]) (S := []) dX12_faultOf_211 (cs_X12_178 rfl) kd_88 rfl rfl (Nat.le_of_ble_eq_true rfl) (Nat.le_of_ble_eq_true rfl) h (fun v109 M109 q109 r109 => ?_)
                  have h := q109
                  refine wp_goto (tgt := 236) dX12_faultOf_214 (by decide) ?_
                  refine wp_goto (tgt := 41) dX12_faultOf_236 (by decide) ?_
                  exact wp_weak [true, true, true, true, true, false, false, false] rfl h
                · have h := h.2 q108
                  refine wp_iconst dX12_faultOf_197 ?_
                  refine wp_goto (tgt := 202) dX12_faultOf_198 (by decide) ?_
                  refine wp_iadd dX12_faultOf_202 ?_
                  refine wp_istore_n (L2 := [some (Rv 88), some (Iv x1), some (Iv x2), some (Iv ((x3 + 1) + 1)), some (Iv x4), some (Iv z8), some (Iv (M8 88 17)), some (Iv z106)]) dX12_faultOf_203 (Nat.le_of_ble_eq_true rfl) (Nat.le_of_ble_eq_true rfl) rfl ?_
                  refine wp_aload_n dX12_faultOf_204 rfl (by decide) ?_
                  refine wp_iload dX12_faultOf_205 rfl ?_
                  refine wp_iload dX12_faultOf_207 rfl ?_
                  refine wp_iconst dX12_faultOf_209 ?_
                  refine wp_isub dX12_faultOf_210 ?_
                  refine wp_callV (e1 := 0) (as := [Iv (M8 88 17), Iv (z106 - 1)]) (S := []) dX12_faultOf_211 (cs_X12_178 rfl) kd_88 rfl rfl (Nat.le_of_ble_eq_true rfl) (Nat.le_of_ble_eq_true rfl) h (fun v110 M110 q110 r110 => ?_)
                  have h := q110
                  refine wp_goto (tgt := 236) dX12_faultOf_214 (by decide) ?_
                  refine wp_goto (tgt := 41) dX12_faultOf_236 (by decide) ?_
                  exact wp_weak [true, true, true, true, true, false, false, false] rfl h
              · have h := h.2 q102
                refine wp_aload_n dX12_faultOf_147 rfl (by decide) ?_
                refine wp_getf (t := Rv 101) 101 dX12_faultOf_148 (fl_X12_47 rfl) kd_88 rfl rfl ?_
                refine wp_iload_n dX12_faultOf_151 rfl ?_
                obtain ⟨o111, h⟩ := h
                obtain ⟨o112, h⟩ := h
                refine wp_iald (M98 101 x2) dX12_faultOf_152 kd_101 sz_101 o111 o112 (⟨by omega, by omega⟩) rfl ?_
                refine wp_istore (L2 := [some (Rv 88), some (Iv x1), some (Iv x2), some (Iv x3), some (Iv x4), some (Iv z8), some (Iv (M98 101 x2)), none]) dX12_faultOf_153 (Nat.le_of_ble_eq_true rfl) (Nat.le_of_ble_eq_true rfl) rfl ?_
                refine wp_iinc (L2 := [some (Rv 88), some (Iv x1), some (Iv (x2 + (-1))), some (Iv x3), some (Iv x4), some (Iv z8), some (Iv (M98 101 x2)), none]) dX12_faultOf_155 rfl (Nat.le_of_ble_eq_true rfl) (Nat.le_of_ble_eq_true rfl) rfl ?_
                refine wp_goto (tgt := 170) dX12_faultOf_158 (by decide) ?_
                refine wp_aload_n dX12_faultOf_170 rfl (by decide) ?_
                refine wp_getf (t := Rv 102) 102 dX12_faultOf_171 (fl_X12_50 rfl) kd_88 rfl rfl ?_
                refine wp_iload_n dX12_faultOf_174 rfl ?_
                refine wp_dup2 dX12_faultOf_175 rfl rfl ?_
                obtain ⟨o113, h⟩ := h
                obtain ⟨o114, h⟩ := h
                refine wp_iald (M98 102 (x2 + (-1))) dX12_faultOf_176 kd_102 sz_102 o113 o114 (⟨by omega, by omega⟩) rfl ?_
                refine wp_iconst dX12_faultOf_177 ?_
                refine wp_iadd dX12_faultOf_178 ?_
                refine wp_iast dX12_faultOf_179 kd_102 sz_102 o113 o114 (⟨by omega, by omega⟩) ?_
                refine wp_iinc (L2 := [some (Rv 88), some (Iv x1), some (Iv (x2 + (-1))), some (Iv (x3 + 1)), some (Iv x4), some (Iv z8), some (Iv (M98 101 x2)), none]) dX12_faultOf_180 rfl (Nat.le_of_ble_eq_true rfl) (Nat.le_of_ble_eq_true rfl) rfl ?_
                refine wp_aload_n dX12_faultOf_183 rfl (by decide) ?_
                refine wp_iload_n dX12_faultOf_184 rfl ?_
                refine wp_iload_n dX12_faultOf_185 rfl ?_
                refine wp_callV (e1 := 0) (as := [Iv x1, Iv (x3 + 1)]) (S := []) dX12_faultOf_186 (cs_X12_175 rfl) kd_88 rfl rfl (Nat.le_of_ble_eq_true rfl) (Nat.le_of_ble_eq_true rfl) h (fun v115 M115 q115 r115 => ?_)
                obtain ⟨z115, rfl⟩ := retV_i r115 rfl
                have h := q115
                refine wp_istore (L2 := [some (Rv 88), some (Iv x1), some (Iv (x2 + (-1))), some (Iv (x3 + 1)), some (Iv x4), some (Iv z8), some (Iv (M98 101 x2)), some (Iv z115)]) dX12_faultOf_189 (Nat.le_of_ble_eq_true rfl) (Nat.le_of_ble_eq_true rfl) rfl ?_
                refine wp_iload_n dX12_faultOf_191 rfl ?_
                refine wp_iload dX12_faultOf_192 rfl ?_
                obtain ⟨o116, h⟩ := h
                refine wp_if_le (tgt := 201) dX12_faultOf_194 (by decide) o116 (fun q117 => ?_) (fun q117 => ?_)
                · have h := h.1 q117
                  refine wp_iconst dX12_faultOf_201 ?_
                  refine wp_iadd dX12_faultOf_202 ?_
                  refine wp_istore_n (L2 := [some (Rv 88), some (Iv x1), some (Iv (x2 + (-1))), some (Iv ((x3 + 1) + 0)), some (Iv x4), some (Iv z8), some (Iv (M98 101 x2)), some (Iv z115)]) dX12_faultOf_203 (Nat.le_of_ble_eq_true rfl) (Nat.le_of_ble_eq_true rfl) rfl ?_
                  refine wp_aload_n dX12_faultOf_204 rfl (by decide) ?_
                  refine wp_iload dX12_faultOf_205 rfl ?_
                  refine wp_iload dX12_faultOf_207 rfl ?_
                  refine wp_iconst dX12_faultOf_209 ?_
                  refine wp_isub dX12_faultOf_210 ?_
                  refine wp_callV (e1 := 0) (as := [Iv (M98 101 x2), Iv (z115 - 1)]) (S := []) dX12_faultOf_211 (cs_X12_178 rfl) kd_88 rfl rfl (Nat.le_of_ble_eq_true rfl) (Nat.le_of_ble_eq_true rfl) h (fun v118 M118 q118 r118 => ?_)
                  have h := q118
                  refine wp_goto (tgt := 236) dX12_faultOf_214 (by decide) ?_
                  refine wp_goto (tgt := 41) dX12_faultOf_236 (by decide) ?_
                  exact wp_weak [true, true, true, true, true, false, false, false] rfl h
                · have h := h.2 q117
                  refine wp_iconst dX12_faultOf_197 ?_
                  refine wp_goto (tgt := 202) dX12_faultOf_198 (by decide) ?_
                  refine wp_iadd dX12_faultOf_202 ?_
                  refine wp_istore_n (L2 := [some (Rv 88), some (Iv x1), some (Iv (x2 + (-1))), some (Iv ((x3 + 1) + 1)), some (Iv x4), some (Iv z8), some (Iv (M98 101 x2)), some (Iv z115)]) dX12_faultOf_203 (Nat.le_of_ble_eq_true rfl) (Nat.le_of_ble_eq_true rfl) rfl ?_
                  refine wp_aload_n dX12_faultOf_204 rfl (by decide) ?_
                  refine wp_iload dX12_faultOf_205 rfl ?_
                  refine wp_iload dX12_faultOf_207 rfl ?_
                  refine wp_iconst dX12_faultOf_209 ?_
                  refine wp_isub dX12_faultOf_210 ?_
                  refine wp_callV (e1 := 0) (as := [Iv (M98 101 x2), Iv (z115 - 1)]) (S := []) dX12_faultOf_211 (cs_X12_178 rfl) kd_88 rfl rfl (Nat.le_of_ble_eq_true rfl) (Nat.le_of_ble_eq_true rfl) h (fun v119 M119 q119 r119 => ?_)
                  have h := q119
                  refine wp_goto (tgt := 236) dX12_faultOf_214 (by decide) ?_
                  refine wp_goto (tgt := 41) dX12_faultOf_236 (by decide) ?_
                  exact wp_weak [true, true, true, true, true, false, false, false] rfl h
          · have h := h.2 q97
            refine wp_iload_n dX12_faultOf_115 rfl ?_
            refine wp_if_le (tgt := 128) dX12_faultOf_116 (by decide) o95 (fun q120 => ?_) (fun q120 => ?_)
            · have h := h.1 q120
              refine wp_aload_n dX12_faultOf_128 rfl (by decide) ?_
              refine wp_iload dX12_faultOf_129 rfl ?_
              refine wp_bipush dX12_faultOf_131 (by decide) ?_
              refine wp_isub dX12_faultOf_133 ?_
              refine wp_callV (e1 := 0) (as := [Iv (z8 - 97)]) (S := []) dX12_faultOf_134 (cs_X12_157 rfl) kd_88 rfl rfl (Nat.le_of_ble_eq_true rfl) (Nat.le_of_ble_eq_true rfl) h (fun v121 M121 q121 r121 => ?_)
              obtain ⟨z121, rfl, hz121⟩ := retV_z r121 rfl
              have h := q121
              refine wp_if_eq (tgt := 217) dX12_faultOf_137 (by decide) (by have := hz121; omega) (fun q122 => ?_) (fun q122 => ?_)
              · have h := h.1 q122
                refine wp_iload dX12_faultOf_217 rfl ?_
                refine wp_bipush dX12_faultOf_219 (by decide) ?_
                refine wp_icmp_ne (tgt := 234) dX12_faultOf_221 (by decide) (Or.inr ⟨o9, (by decide)⟩) (fun q123 => ?_) (fun q123 => ?_)
                · have h := h.1 q123
                  refine wp_iload_n dX12_faultOf_234 rfl ?_
                  exact wp_iret dX12_faultOf_235 rfl (Or.inr ⟨rfl, rfl, rfl, by decide⟩) rfl h
                · have h := h.2 q123
                  refine wp_iload_n dX12_faultOf_224 rfl ?_
                  refine wp_if_ne (tgt := 234) dX12_faultOf_225 (by decide) o95 (fun q124 => ?_) (fun q124 => ?_)
                  · have h := h.1 q124
                    refine wp_iload_n dX12_faultOf_234 rfl ?_
                    exact wp_iret dX12_faultOf_235 rfl (Or.inr ⟨rfl, rfl, rfl, by decide⟩) rfl h
                  · have h := h.2 q124
                    refine wp_iconst dX12_faultOf_228 ?_
                    refine wp_istore (L2 := [some (Rv 88), some (Iv x1), some (Iv x2), some (Iv x3), some (Iv 0), some (Iv z8), some (Iv (M8 88 17)), none]) dX12_faultOf_229 (Nat.le_of_ble_eq_true rfl) (Nat.le_of_ble_eq_true rfl) rfl ?_
                    refine wp_goto (tgt := 236) dX12_faultOf_231 (by decide) ?_
                    refine wp_goto (tgt := 41) dX12_faultOf_236 (by decide) ?_
                    exact wp_weak [true, true, true, true, true, false, false, true] rfl h
              · have h := h.2 q122
                refine wp_iload dX12_faultOf_140 rfl ?_
                refine wp_bipush dX12_faultOf_142 (by decide) ?_
                refine wp_icmp_ne (tgt := 161) dX12_faultOf_144 (by decide) (Or.inr ⟨o9, (by decide)⟩) (fun q125 => ?_) (fun q125 => ?_)
                · have h := h.1 q125
                  refine wp_aload_n dX12_faultOf_161 rfl (by decide) ?_
                  refine wp_iload dX12_faultOf_162 rfl ?_
                  refine wp_bipush dX12_faultOf_164 (by decide) ?_
                  refine wp_isub dX12_faultOf_166 ?_
                  refine wp_callV (e1 := 0) (as := [Iv (z8 - 97)]) (S := []) dX12_faultOf_167 (cs_X12_168 rfl) kd_88 rfl rfl (Nat.le_of_ble_eq_true rfl) (Nat.le_of_ble_eq_true rfl) h (fun v126 M126 q126 r126 => ?_)
                  have h := q126
                  refine wp_aload_n dX12_faultOf_170 rfl (by decide) ?_
                  refine wp_getf (t := Rv 102) 102 dX12_faultOf_171 (fl_X12_50 rfl) kd_88 rfl rfl ?_
                  refine wp_iload_n dX12_faultOf_174 rfl ?_
                  refine wp_dup2 dX12_faultOf_175 rfl rfl ?_
                  obtain ⟨o127, h⟩ := h
                  obtain ⟨o128, h⟩ := h
                  refine wp_iald (M126 102 x2) dX12_faultOf_176 kd_102 sz_102 o127 o128 (⟨by omega, by omega⟩) rfl ?_
                  refine wp_iconst dX12_faultOf_177 ?_
                  refine wp_iadd dX12_faultOf_178 ?_
                  refine wp_iast dX12_faultOf_179 kd_102 sz_102 o127 o128 (⟨by omega, by omega⟩) ?_
                  refine wp_iinc (L2 := [some (Rv 88), some (Iv x1), some (Iv x2), some (Iv (x3 + 1)), some (Iv x4), some (Iv z8), some (Iv (M8 88 17)), none]) dX12_faultOf_180 rfl (Nat.le_of_ble_eq_true rfl) (Nat.le_of_ble_eq_true rfl) rfl ?_
                  refine wp_aload_n dX12_faultOf_183 rfl (by decide) ?_
                  refine wp_iload_n dX12_faultOf_184 rfl ?_
                  refine wp_iload_n dX12_faultOf_185 rfl ?_
                  refine wp_callV (e1 := 0) (as := [Iv x1, Iv (x3 + 1)]) (S := []) dX12_faultOf_186 (cs_X12_175 rfl) kd_88 rfl rfl (Nat.le_of_ble_eq_true rfl) (Nat.le_of_ble_eq_true rfl) h (fun v129 M129 q129 r129 => ?_)
                  obtain ⟨z129, rfl⟩ := retV_i r129 rfl
                  have h := q129
                  refine wp_istore (L2 := [some (Rv 88), some (Iv x1), some (Iv x2), some (Iv (x3 + 1)), some (Iv x4), some (Iv z8), some (Iv (M8 88 17)), some (Iv z129)]) dX12_faultOf_189 (Nat.le_of_ble_eq_true rfl) (Nat.le_of_ble_eq_true rfl) rfl ?_
                  refine wp_iload_n dX12_faultOf_191 rfl ?_
                  refine wp_iload dX12_faultOf_192 rfl ?_
                  obtain ⟨o130, h⟩ := h
                  refine wp_if_le (tgt := 201) dX12_faultOf_194 (by decide) o130 (fun q131 => ?_) (fun q131 => ?_)
                  · have h := h.1 q131
                    refine wp_iconst dX12_faultOf_201 ?_
                    refine wp_iadd dX12_faultOf_202 ?_
                    refine wp_istore_n (L2 := [some (Rv 88), some (Iv x1), some (Iv x2), some (Iv ((x3 + 1) + 0)), some (Iv x4), some (Iv z8), some (Iv (M8 88 17)), some (Iv z129)]) dX12_faultOf_203 (Nat.le_of_ble_eq_true rfl) (Nat.le_of_ble_eq_true rfl) rfl ?_
                    refine wp_aload_n dX12_faultOf_204 rfl (by decide) ?_
                    refine wp_iload dX12_faultOf_205 rfl ?_
                    refine wp_iload dX12_faultOf_207 rfl ?_
                    refine wp_iconst dX12_faultOf_209 ?_
                    refine wp_isub dX12_faultOf_210 ?_
                    refine wp_callV (e1 := 0) (as := [Iv (M8 88 17), Iv (z129 - 1)]) (S := []) dX12_faultOf_211 (cs_X12_178 rfl) kd_88 rfl rfl (Nat.le_of_ble_eq_true rfl) (Nat.le_of_ble_eq_true rfl) h (fun v132 M132 q132 r132 => ?_)
                    have h := q132
                    refine wp_goto (tgt := 236) dX12_faultOf_214 (by decide) ?_
                    refine wp_goto (tgt := 41) dX12_faultOf_236 (by decide) ?_
                    exact wp_weak [true, true, true, true, true, false, false, false] rfl h
                  · have h := h.2 q131
                    refine wp_iconst dX12_faultOf_197 ?_
                    refine wp_goto (tgt := 202) dX12_faultOf_198 (by decide) ?_
                    refine wp_iadd dX12_faultOf_202 ?_
                    refine wp_istore_n (L2 := [some (Rv 88), some (Iv x1), some (Iv x2), some (Iv ((x3 + 1) + 1)), some (Iv x4), some (Iv z8), some (Iv (M8 88 17)), some (Iv z129)]) dX12_faultOf_203 (Nat.le_of_ble_eq_true rfl) (Nat.le_of_ble_eq_true rfl) rfl ?_
                    refine wp_aload_n dX12_faultOf_204 rfl (by decide) ?_
                    refine wp_iload dX12_faultOf_205 rfl ?_
                    refine wp_iload dX12_faultOf_207 rfl ?_
                    refine wp_iconst dX12_faultOf_209 ?_
                    refine wp_isub dX12_faultOf_210 ?_
                    refine wp_callV (e1 := 0) (as := [Iv (M8 88 17), Iv (z129 - 1)]) (S := []) dX12_faultOf_211 (cs_X12_178 rfl) kd_88 rfl rfl (Nat.le_of_ble_eq_true rfl) (Nat.le_of_ble_eq_true rfl) h (fun v133 M133 q133 r133 => ?_)
                    have h := q133
                    refine wp_goto (tgt := 236) dX12_faultOf_214 (by decide) ?_
                    refine wp_goto (tgt := 41) dX12_faultOf_236 (by decide) ?_
                    exact wp_weak [true, true, true, true, true, false, false, false] rfl h
                · have h := h.2 q125
                  refine wp_aload_n dX12_faultOf_147 rfl (by decide) ?_
                  refine wp_getf (t := Rv 101) 101 dX12_faultOf_148 (fl_X12_47 rfl) kd_88 rfl rfl ?_
                  refine wp_iload_n dX12_faultOf_151 rfl ?_
                  obtain ⟨o134, h⟩ := h
                  obtain ⟨o135, h⟩ := h
                  refine wp_iald (M121 101 x2) dX12_faultOf_152 kd_101 sz_101 o134 o135 (⟨by omega, by omega⟩) rfl ?_
                  refine wp_istore (L2 := [some (Rv 88), some (Iv x1), some (Iv x2), some (Iv x3), some (Iv x4), some (Iv z8), some (Iv (M121 101 x2)), none]) dX12_faultOf_153 (Nat.le_of_ble_eq_true rfl) (Nat.le_of_ble_eq_true rfl) rfl ?_
                  refine wp_iinc (L2 := [some (Rv 88), some (Iv x1), some (Iv (x2 + (-1))), some (Iv x3), some (Iv x4), some (Iv z8), some (Iv (M121 101 x2)), none]) dX12_faultOf_155 rfl (Nat.le_of_ble_eq_true rfl) (Nat.le_of_ble_eq_true rfl) rfl ?_
                  refine wp_goto (tgt := 170) dX12_faultOf_158 (by decide) ?_
                  refine wp_aload_n dX12_faultOf_170 rfl (by decide) ?_
                  refine wp_getf (t := Rv 102) 102 dX12_faultOf_171 (fl_X12_50 rfl) kd_88 rfl rfl ?_
                  refine wp_iload_n dX12_faultOf_174 rfl ?_
                  refine wp_dup2 dX12_faultOf_175 rfl rfl ?_
                  obtain ⟨o136, h⟩ := h
                  obtain ⟨o137, h⟩ := h
                  refine wp_iald (M121 102 (x2 + (-1))) dX12_faultOf_176 kd_102 sz_102 o136 o137 (⟨by omega, by omega⟩) rfl ?_
                  refine wp_iconst dX12_faultOf_177 ?_
                  refine wp_iadd dX12_faultOf_178 ?_
                  refine wp_iast dX12_faultOf_179 kd_102 sz_102 o136 o137 (⟨by omega, by omega⟩) ?_
                  refine wp_iinc (L2 := [some (Rv 88), some (Iv x1), some (Iv (x2 + (-1))), some (Iv (x3 + 1)), some (Iv x4), some (Iv z8), some (Iv (M121 101 x2)), none]) dX12_faultOf_180 rfl (Nat.le_of_ble_eq_true rfl) (Nat.le_of_ble_eq_true rfl) rfl ?_
                  refine wp_aload_n dX12_faultOf_183 rfl (by decide) ?_
                  refine wp_iload_n dX12_faultOf_184 rfl ?_
                  refine wp_iload_n dX12_faultOf_185 rfl ?_
                  refine wp_callV (e1 := 0) (as := [Iv x1, Iv (x3 + 1)]) (S := []) dX12_faultOf_186 (cs_X12_175 rfl) kd_88 rfl rfl (Nat.le_of_ble_eq_true rfl) (Nat.le_of_ble_eq_true rfl) h (fun v138 M138 q138 r138 => ?_)
                  obtain ⟨z138, rfl⟩ := retV_i r138 rfl
                  have h := q138
                  refine wp_istore (L2 := [some (Rv 88), some (Iv x1), some (Iv (x2 + (-1))), some (Iv (x3 + 1)), some (Iv x4), some (Iv z8), some (Iv (M121 101 x2)), some (Iv z138)]) dX12_faultOf_189 (Nat.le_of_ble_eq_true rfl) (Nat.le_of_ble_eq_true rfl) rfl ?_
                  refine wp_iload_n dX12_faultOf_191 rfl ?_
                  refine wp_iload dX12_faultOf_192 rfl ?_
                  obtain ⟨o139, h⟩ := h
                  refine wp_if_le (tgt := 201) dX12_faultOf_194 (by decide) o139 (fun q140 => ?_) (fun q140 => ?_)
                  · have h := h.1 q140
                    refine wp_iconst dX12_faultOf_201 ?_
                    refine wp_iadd dX12_faultOf_202 ?_
                    refine wp_istore_n (L2 := [some (Rv 88), some (Iv x1), some (Iv (x2 + (-1))), some (Iv ((x3 + 1) + 0)), some (Iv x4), some (Iv z8), some (Iv (M121 101 x2)), some (Iv z138)]) dX12_faultOf_203 (Nat.le_of_ble_eq_true rfl) (Nat.le_of_ble_eq_true rfl) rfl ?_
                    refine wp_aload_n dX12_faultOf_204 rfl (by decide) ?_
                    refine wp_iload dX12_faultOf_205 rfl ?_
                    refine wp_iload dX12_faultOf_207 rfl ?_
                    refine wp_iconst dX12_faultOf_209 ?_
                    refine wp_isub dX12_faultOf_210 ?_
                    refine wp_callV (e1 := 0) (as := [Iv (M121 101 x2), Iv (z138 - 1)]) (S := []) dX12_faultOf_211 (cs_X12_178 rfl) kd_88 rfl rfl (Nat.le_of_ble_eq_true rfl) (Nat.le_of_ble_eq_true rfl) h (fun v141 M141 q141 r141 => ?_)
                    have h := q141
                    refine wp_goto (tgt := 236) dX12_faultOf_214 (by decide) ?_
                    refine wp_goto (tgt := 41) dX12_faultOf_236 (by decide) ?_
                    exact wp_weak [true, true, true, true, true, false, false, false] rfl h
                  · have h := h.2 q140
                    refine wp_iconst dX12_faultOf_197 ?_
                    refine wp_goto (tgt := 202) dX12_faultOf_198 (by decide) ?_
                    refine wp_iadd dX12_faultOf_202 ?_
                    refine wp_istore_n (L2 := [some (Rv 88), some (Iv x1), some (Iv (x2 + (-1))), some (Iv ((x3 + 1) + 1)), some (Iv x4), some (Iv z8), some (Iv (M121 101 x2)), some (Iv z138)]) dX12_faultOf_203 (Nat.le_of_ble_eq_true rfl) (Nat.le_of_ble_eq_true rfl) rfl ?_
                    refine wp_aload_n dX12_faultOf_204 rfl (by decide) ?_
                    refine wp_iload dX12_faultOf_205 rfl ?_
                    refine wp_iload dX12_faultOf_207 rfl ?_
                    refine wp_iconst dX12_faultOf_209 ?_
                    refine wp_isub dX12_faultOf_210 ?_
                    refine wp_callV (e1 := 0) (as := [Iv (M121 101 x2), Iv (z138 - 1)]) (S := []) dX12_faultOf_211 (cs_X12_178 rfl) kd_88 rfl rfl (Nat.le_of_ble_eq_true rfl) (Nat.le_of_ble_eq_true rfl) h (fun v142 M142 q142 r142 => ?_)
                    have h := q142
                    refine wp_goto (tgt := 236) dX12_faultOf_214 (by decide) ?_
                    refine wp_goto (tgt := 41) dX12_faultOf_236 (by decide) ?_
                    exact wp_weak [true, true, true, true, true, false, false, false] rfl h
            · have h := h.2 q120
              refine wp_aload_n dX12_faultOf_119 rfl (by decide) ?_
              refine wp_getf (t := Rv 102) 102 dX12_faultOf_120 (fl_X12_50 rfl) kd_88 rfl rfl ?_
              refine wp_iload_n dX12_faultOf_123 rfl ?_
              obtain ⟨o143, h⟩ := h
              obtain ⟨o144, h⟩ := h
              refine wp_iald (M8 102 x2) dX12_faultOf_124 kd_102 sz_102 o143 o144 (⟨by omega, by omega⟩) rfl ?_
              obtain ⟨o145, h⟩ := h
              refine wp_if_gt (tgt := 140) dX12_faultOf_125 (by decide) o145 (fun q146 => ?_) (fun q146 => ?_)
              · have h := h.1 q146
                refine wp_iload dX12_faultOf_140 rfl ?_
                refine wp_bipush dX12_faultOf_142 (by decide) ?_
                refine wp_icmp_ne (tgt := 161) dX12_faultOf_144 (by decide) (Or.inr ⟨o9, (by decide)⟩) (fun q147 => ?_) (fun q147 => ?_)
                · have h := h.1 q147
                  refine wp_aload_n dX12_faultOf_161 rfl (by decide) ?_
                  refine wp_iload dX12_faultOf_162 rfl ?_
                  refine wp_bipush dX12_faultOf_164 (by decide) ?_
                  refine wp_isub dX12_faultOf_166 ?_
                  refine wp_callV (e1 := 0) (as := [Iv (z8 - 97)]) (S := []) dX12_faultOf_167 (cs_X12_168 rfl) kd_88 rfl rfl (Nat.le_of_ble_eq_true rfl) (Nat.le_of_ble_eq_true rfl) h (fun v148 M148 q148 r148 => ?_)
                  have h := q148
                  refine wp_aload_n dX12_faultOf_170 rfl (by decide) ?_
                  refine wp_getf (t := Rv 102) 102 dX12_faultOf_171 (fl_X12_50 rfl) kd_88 rfl rfl ?_
                  refine wp_iload_n dX12_faultOf_174 rfl ?_
                  refine wp_dup2 dX12_faultOf_175 rfl rfl ?_
                  refine wp_iald (M148 102 x2) dX12_faultOf_176 kd_102 sz_102 o143 o144 (⟨by omega, by omega⟩) rfl ?_
                  refine wp_iconst dX12_faultOf_177 ?_
                  refine wp_iadd dX12_faultOf_178 ?_
                  refine wp_iast dX12_faultOf_179 kd_102 sz_102 o143 o144 (⟨by omega, by omega⟩) ?_
                  refine wp_iinc (L2 := [some (Rv 88), some (Iv x1), some (Iv x2), some (Iv (x3 + 1)), some (Iv x4), some (Iv z8), some (Iv (M8 88 17)), none]) dX12_faultOf_180 rfl (Nat.le_of_ble_eq_true rfl) (Nat.le_of_ble_eq_true rfl) rfl ?_
                  refine wp_aload_n dX12_faultOf_183 rfl (by decide) ?_
                  refine wp_iload_n dX12_faultOf_184 rfl ?_
                  refine wp_iload_n dX12_faultOf_185 rfl ?_
                  refine wp_callV (e1 := 0) (as := [Iv x1, Iv (x3 + 1)]) (S := []) dX12_faultOf_186 (cs_X12_175 rfl) kd_88 rfl rfl (Nat.le_of_ble_eq_true rfl) (Nat.le_of_ble_eq_true rfl) h (fun v149 M149 q149 r149 => ?_)
                  obtain ⟨z149, rfl⟩ := retV_i r149 rfl
                  have h := q149
                  refine wp_istore (L2 := [some (Rv 88), some (Iv x1), some (Iv x2), some (Iv (x3 + 1)), some (Iv x4), some (Iv z8), some (Iv (M8 88 17)), some (Iv z149)]) dX12_faultOf_189 (Nat.le_of_ble_eq_true rfl) (Nat.le_of_ble_eq_true rfl) rfl ?_
                  refine wp_iload_n dX12_faultOf_191 rfl ?_
                  refine wp_iload dX12_faultOf_192 rfl ?_
                  obtain ⟨o150, h⟩ := h
                  refine wp_if_le (tgt := 201) dX12_faultOf_194 (by decide) o150 (fun q151 => ?_) (fun q151 => ?_)
                  · have h := h.1 q151
                    refine wp_iconst dX12_faultOf_201 ?_
                    refine wp_iadd dX12_faultOf_202 ?_
                    refine wp_istore_n (L2 := [some (Rv 88), some (Iv x1), some (Iv x2), some (Iv ((x3 + 1) + 0)), some (Iv x4), some (Iv z8), some (Iv (M8 88 17)), some (Iv z149)]) dX12_faultOf_203 (Nat.le_of_ble_eq_true rfl) (Nat.le_of_ble_eq_true rfl) rfl ?_
                    refine wp_aload_n dX12_faultOf_204 rfl (by decide) ?_
                    refine wp_iload dX12_faultOf_205 rfl ?_
                    refine wp_iload dX12_faultOf_207 rfl ?_
                    refine wp_iconst dX12_faultOf_209 ?_
                    refine wp_isub dX12_faultOf_210 ?_
                    refine wp_callV (e1 := 0) (as := [Iv (M8 88 17), Iv (z149 - 1)]) (S := []) dX12_faultOf_211 (cs_X12_178 rfl) kd_88 rfl rfl (Nat.le_of_ble_eq_true rfl) (Nat.le_of_ble_eq_true rfl) h (fun v152 M152 q152 r152 => ?_)
                    have h := q152
                    refine wp_goto (tgt := 236) dX12_faultOf_214 (by decide) ?_
                    refine wp_goto (tgt := 41) dX12_faultOf_236 (by decide) ?_
                    exact wp_weak [true, true, true, true, true, false, false, false] rfl h
                  · have h := h.2 q151
                    refine wp_iconst dX12_faultOf_197 ?_
                    refine wp_goto (tgt := 202) dX12_faultOf_198 (by decide) ?_
                    refine wp_iadd dX12_faultOf_202 ?_
                    refine wp_istore_n (L2 := [some (Rv 88), some (Iv x1), some (Iv x2), some (Iv ((x3 + 1) + 1)), some (Iv x4), some (Iv z8), some (Iv (M8 88 17)), some (Iv z149)]) dX12_faultOf_203 (Nat.le_of_ble_eq_true rfl) (Nat.le_of_ble_eq_true rfl) rfl ?_
                    refine wp_aload_n dX12_faultOf_204 rfl (by decide) ?_
                    refine wp_iload dX12_faultOf_205 rfl ?_
                    refine wp_iload dX12_faultOf_207 rfl ?_
                    refine wp_iconst dX12_faultOf_209 ?_
                    refine wp_isub dX12_faultOf_210 ?_
                    refine wp_callV (e1 := 0) (as := [Iv (M8 88 17), Iv (z149 - 1)]) (S := []) dX12_faultOf_211 (cs_X12_178 rfl) kd_88 rfl rfl (Nat.le_of_ble_eq_true rfl) (Nat.le_of_ble_eq_true rfl) h (fun v153 M153 q153 r153 => ?_)
                    have h := q153
                    refine wp_goto (tgt := 236) dX12_faultOf_214 (by decide) ?_
                    refine wp_goto (tgt := 41) dX12_faultOf_236 (by decide) ?_
                    exact wp_weak [true, true, true, true, true, false, false, false] rfl h
                · have h := h.2 q147
                  refine wp_aload_n dX12_faultOf_147 rfl (by decide) ?_
                  refine wp_getf (t := Rv 101) 101 dX12_faultOf_148 (fl_X12_47 rfl) kd_88 rfl rfl ?_
                  refine wp_iload_n dX12_faultOf_151 rfl ?_
                  refine wp_iald (M8 101 x2) dX12_faultOf_152 kd_101 sz_101 o143 o144 (⟨by omega, by omega⟩) rfl ?_
                  refine wp_istore (L2 := [some (Rv 88), some (Iv x1), some (Iv x2), some (Iv x3), some (Iv x4), some (Iv z8), some (Iv (M8 101 x2)), none]) dX12_faultOf_153 (Nat.le_of_ble_eq_true rfl) (Nat.le_of_ble_eq_true rfl) rfl ?_
                  refine wp_iinc (L2 := [some (Rv 88), some (Iv x1), some (Iv (x2 + (-1))), some (Iv x3), some (Iv x4), some (Iv z8), some (Iv (M8 101 x2)), none]) dX12_faultOf_155 rfl (Nat.le_of_ble_eq_true rfl) (Nat.le_of_ble_eq_true rfl) rfl ?_
                  refine wp_goto (tgt := 170) dX12_faultOf_158 (by decide) ?_
                  refine wp_aload_n dX12_faultOf_170 rfl (by decide) ?_
                  refine wp_getf (t := Rv 102) 102 dX12_faultOf_171 (fl_X12_50 rfl) kd_88 rfl rfl ?_
                  refine wp_iload_n dX12_faultOf_174 rfl ?_
                  refine wp_dup2 dX12_faultOf_175 rfl rfl ?_
                  obtain ⟨o154, h⟩ := h
                  obtain ⟨o155, h⟩ := h
                  refine wp_iald (M8 102 (x2 + (-1))) dX12_faultOf_176 kd_102 sz_102 o154 o155 (⟨by omega, by omega⟩) rfl ?_
                  refine wp_iconst dX12_faultOf_177 ?_
                  refine wp_iadd dX12_faultOf_178 ?_
                  refine wp_iast dX12_faultOf_179 kd_102 sz_102 o154 o155 (⟨by omega, by omega⟩) ?_
                  refine wp_iinc (L2 := [some (Rv 88), some (Iv x1), some (Iv (x2 + (-1))), some (Iv (x3 + 1)), some (Iv x4), some (Iv z8), some (Iv (M8 101 x2)), none]) dX12_faultOf_180 rfl (Nat.le_of_ble_eq_true rfl) (Nat.le_of_ble_eq_true rfl) rfl ?_
                  refine wp_aload_n dX12_faultOf_183 rfl (by decide) ?_
                  refine wp_iload_n dX12_faultOf_184 rfl ?_
                  refine wp_iload_n dX12_faultOf_185 rfl ?_
                  refine wp_callV (e1 := 0) (as := [Iv x1, Iv (x3 + 1)]) (S := []) dX12_faultOf_186 (cs_X12_175 rfl) kd_88 rfl rfl (Nat.le_of_ble_eq_true rfl) (Nat.le_of_ble_eq_true rfl) h (fun v156 M156 q156 r156 => ?_)
                  obtain ⟨z156, rfl⟩ := retV_i r156 rfl
                  have h := q156
                  refine wp_istore (L2 := [some (Rv 88), some (Iv x1), some (Iv (x2 + (-1))), some (Iv (x3 + 1)), some (Iv x4), some (Iv z8), some (Iv (M8 101 x2)), some (Iv z156)]) dX12_faultOf_189 (Nat.le_of_ble_eq_true rfl) (Nat.le_of_ble_eq_true rfl) rfl ?_
                  refine wp_iload_n dX12_faultOf_191 rfl ?_
                  refine wp_iload dX12_faultOf_192 rfl ?_
                  obtain ⟨o157, h⟩ := h
                  refine wp_if_le (tgt := 201) dX12_faultOf_194 (by decide) o157 (fun q158 => ?_) (fun q158 => ?_)
                  · have h := h.1 q158
                    refine wp_iconst dX12_faultOf_201 ?_
                    refine wp_iadd dX12_faultOf_202 ?_
                    refine wp_istore_n (L2 := [some (Rv 88), some (Iv x1), some (Iv (x2 + (-1))), some (Iv ((x3 + 1) + 0)), some (Iv x4), some (Iv z8), some (Iv (M8 101 x2)), some (Iv z156)]) dX12_faultOf_203 (Nat.le_of_ble_eq_true rfl) (Nat.le_of_ble_eq_true rfl) rfl ?_
                    refine wp_aload_n dX12_faultOf_204 rfl (by decide) ?_
                    refine wp_iload dX12_faultOf_205 rfl ?_
                    refine wp_iload dX12_faultOf_207 rfl ?_
                    refine wp_iconst dX12_faultOf_209 ?_
                    refine wp_isub dX12_faultOf_210 ?_
                    refine wp_callV (e1 := 0) (as := [Iv (M8 101 x2), Iv (z156 - 1)]) (S := []) dX12_faultOf_211 (cs_X12_178 rfl) kd_88 rfl rfl (Nat.le_of_ble_eq_true rfl) (Nat.le_of_ble_eq_true rfl) h (fun v159 M159 q159 r159 => ?_)
                    have h := q159
                    refine wp_goto (tgt := 236) dX12_faultOf_214 (by decide) ?_
                    refine wp_goto (tgt := 41) dX12_faultOf_236 (by decide) ?_
                    exact wp_weak [true, true, true, true, true, false, false, false] rfl h
                  · have h := h.2 q158
                    refine wp_iconst dX12_faultOf_197 ?_
                    refine wp_goto (tgt := 202) dX12_faultOf_198 (by decide) ?_
                    refine wp_iadd dX12_faultOf_202 ?_
                    refine wp_istore_n (L2 := [some (Rv 88), some (Iv x1), some (Iv (x2 + (-1))), some (Iv ((x3 + 1) + 1)), some (Iv x4), some (Iv z8), some (Iv (M8 101 x2)), some (Iv z156)]) dX12_faultOf_203 (Nat.le_of_ble_eq_true rfl) (Nat.le_of_ble_eq_true rfl) rfl ?_
                    refine wp_aload_n dX12_faultOf_204 rfl (by decide) ?_
                    refine wp_iload dX12_faultOf_205 rfl ?_
                    refine wp_iload dX12_faultOf_207 rfl ?_
                    refine wp_iconst dX12_faultOf_209 ?_
                    refine wp_isub dX12_faultOf_210 ?_
                    refine wp_callV (e1 := 0) (as := [Iv (M8 101 x2), Iv (z156 - 1)]) (S := []) dX12_faultOf_211 (cs_X12_178 rfl) kd_88 rfl rfl (Nat.le_of_ble_eq_true rfl) (Nat.le_of_ble_eq_true rfl) h (fun v160 M160 q160 r160 => ?_)
                    have h := q160
                    refine wp_goto (tgt := 236) dX12_faultOf_214 (by decide) ?_
                    refine wp_goto (tgt := 41) dX12_faultOf_236 (by decide) ?_
                    exact wp_weak [true, true, true, true, true, false, false, false] rfl h
              · have h := h.2 q146
                refine wp_aload_n dX12_faultOf_128 rfl (by decide) ?_
                refine wp_iload dX12_faultOf_129 rfl ?_
                refine wp_bipush dX12_faultOf_131 (by decide) ?_
                refine wp_isub dX12_faultOf_133 ?_
                refine wp_callV (e1 := 0) (as := [Iv (z8 - 97)]) (S := []) dX12_faultOf_134 (cs_X12_157 rfl) kd_88 rfl rfl (Nat.le_of_ble_eq_true rfl) (Nat.le_of_ble_eq_true rfl) h (fun v161 M161 q161 r161 => ?_)
                obtain ⟨z161, rfl, hz161⟩ := retV_z r161 rfl
                have h := q161
                refine wp_if_eq (tgt := 217) dX12_faultOf_137 (by decide) (by have := hz161; omega) (fun q162 => ?_) (fun q162 => ?_)
                · have h := h.1 q162
                  refine wp_iload dX12_faultOf_217 rfl ?_
                  refine wp_bipush dX12_faultOf_219 (by decide) ?_
                  refine wp_icmp_ne (tgt := 234) dX12_faultOf_221 (by decide) (Or.inr ⟨o9, (by decide)⟩) (fun q163 => ?_) (fun q163 => ?_)
                  · have h := h.1 q163
                    refine wp_iload_n dX12_faultOf_234 rfl ?_
                    exact wp_iret dX12_faultOf_235 rfl (Or.inr ⟨rfl, rfl, rfl, by decide⟩) rfl h
                  · have h := h.2 q163
                    refine wp_iload_n dX12_faultOf_224 rfl ?_
                    refine wp_if_ne (tgt := 234) dX12_faultOf_225 (by decide) o95 (fun q164 => ?_) (fun q164 => ?_)
                    · have h := h.1 q164
                      refine wp_iload_n dX12_faultOf_234 rfl ?_
                      exact wp_iret dX12_faultOf_235 rfl (Or.inr ⟨rfl, rfl, rfl, by decide⟩) rfl h
                    · have h := h.2 q164
                      refine wp_iconst dX12_faultOf_228 ?_
                      refine wp_istore (L2 := [some (Rv 88), some (Iv x1), some (Iv x2), some (Iv x3), some (Iv 0), some (Iv z8), some (Iv (M8 88 17)), none]) dX12_faultOf_229 (Nat.le_of_ble_eq_true rfl) (Nat.le_of_ble_eq_true rfl) rfl ?_
                      refine wp_goto (tgt := 236) dX12_faultOf_231 (by decide) ?_
                      refine wp_goto (tgt := 41) dX12_faultOf_236 (by decide) ?_
                      exact wp_weak [true, true, true, true, true, false, false, true] rfl h
                · have h := h.2 q162
                  refine wp_iload dX12_faultOf_140 rfl ?_
                  refine wp_bipush dX12_faultOf_142 (by decide) ?_
                  refine wp_icmp_ne (tgt := 161) dX12_faultOf_144 (by decide) (Or.inr ⟨o9, (by decide)⟩) (fun q165 => ?_) (fun q165 => ?_)
                  · have h := h.1 q165
                    refine wp_aload_n dX12_faultOf_161 rfl (by decide) ?_
                    refine wp_iload dX12_faultOf_162 rfl ?_
                    refine wp_bipush dX12_faultOf_164 (by decide) ?_
                    refine wp_isub dX12_faultOf_166 ?_
                    refine wp_callV (e1 := 0) (as := [Iv (z8 - 97)]) (S := []) dX12_faultOf_167 (cs_X12_168 rfl) kd_88 rfl rfl (Nat.le_of_ble_eq_true rfl) (Nat.le_of_ble_eq_true rfl) h (fun v166 M166 q166 r166 => ?_)
                    have h := q166
                    refine wp_aload_n dX12_faultOf_170 rfl (by decide) ?_
                    refine wp_getf (t := Rv 102) 102 dX12_faultOf_171 (fl_X12_50 rfl) kd_88 rfl rfl ?_
                    refine wp_iload_n dX12_faultOf_174 rfl ?_
                    refine wp_dup2 dX12_faultOf_175 rfl rfl ?_
                    refine wp_iald (M166 102 x2) dX12_faultOf_176 kd_102 sz_102 o143 o144 (⟨by omega, by omega⟩) rfl ?_
                    refine wp_iconst dX12_faultOf_177 ?_
                    refine wp_iadd dX12_faultOf_178 ?_
                    refine wp_iast dX12_faultOf_179 kd_102 sz_102 o143 o144 (⟨by omega, by omega⟩) ?_
                    refine wp_iinc (L2 := [some (Rv 88), some (Iv x1), some (Iv x2), some (Iv (x3 + 1)), some (Iv x4), some (Iv z8), some (Iv (M8 88 17)), none]) dX12_faultOf_180 rfl (Nat.le_of_ble_eq_true rfl) (Nat.le_of_ble_eq_true rfl) rfl ?_
                    refine wp_aload_n dX12_faultOf_183 rfl (by decide) ?_
                    refine wp_iload_n dX12_faultOf_184 rfl ?_
                    refine wp_iload_n dX12_faultOf_185 rfl ?_
                    refine wp_callV (e1 := 0) (as := [Iv x1, Iv (x3 + 1)]) (S := []) dX12_faultOf_186 (cs_X12_175 rfl) kd_88 rfl rfl (Nat.le_of_ble_eq_true rfl) (Nat.le_of_ble_eq_true rfl) h (fun v167 M167 q167 r167 => ?_)
                    obtain ⟨z167, rfl⟩ := retV_i r167 rfl
                    have h := q167
                    refine wp_istore (L2 := [some (Rv 88), some (Iv x1), some (Iv x2), some (Iv (x3 + 1)), some (Iv x4), some (Iv z8), some (Iv (M8 88 17)), some (Iv z167)]) dX12_faultOf_189 (Nat.le_of_ble_eq_true rfl) (Nat.le_of_ble_eq_true rfl) rfl ?_
                    refine wp_iload_n dX12_faultOf_191 rfl ?_
                    refine wp_iload dX12_faultOf_192 rfl ?_
                    obtain ⟨o168, h⟩ := h
                    refine wp_if_le (tgt := 201) dX12_faultOf_194 (by decide) o168 (fun q169 => ?_) (fun q169 => ?_)
                    · have h := h.1 q169
                      refine wp_iconst dX12_faultOf_201 ?_
                      refine wp_iadd dX12_faultOf_202 ?_
                      refine wp_istore_n (L2 := [some (Rv 88), some (Iv x1), some (Iv x2), some (Iv ((x3 + 1) + 0)), some (Iv x4), some (Iv z8), some (Iv (M8 88 17)), some (Iv z167)]) dX12_faultOf_203 (Nat.le_of_ble_eq_true rfl) (Nat.le_of_ble_eq_true rfl) rfl ?_
                      refine wp_aload_n dX12_faultOf_204 rfl (by decide) ?_
                      refine wp_iload dX12_faultOf_205 rfl ?_
                      refine wp_iload dX12_faultOf_207 rfl ?_
                      refine wp_iconst dX12_faultOf_209 ?_
                      refine wp_isub dX12_faultOf_210 ?_
                      refine wp_callV (e1 := 0) (as := [Iv (M8 88 17), Iv (z167 - 1)]) (S := []) dX12_faultOf_211 (cs_X12_178 rfl) kd_88 rfl rfl (Nat.le_of_ble_eq_true rfl) (Nat.le_of_ble_eq_true rfl) h (fun v170 M170 q170 r170 => ?_)
                      have h := q170
                      refine wp_goto (tgt := 236) dX12_faultOf_214 (by decide) ?_
                      refine wp_goto (tgt := 41) dX12_faultOf_236 (by decide) ?_
                      exact wp_weak [true, true, true, true, true, false, false, false] rfl h
                    · have h := h.2 q169
                      refine wp_iconst dX12_faultOf_197 ?_
                      refine wp_goto (tgt := 202) dX12_faultOf_198 (by decide) ?_
                      refine wp_iadd dX12_faultOf_202 ?_
                      refine wp_istore_n (L2 := [some (Rv 88), some (Iv x1), some (Iv x2), some (Iv ((x3 + 1) + 1)), some (Iv x4), some (Iv z8), some (Iv (M8 88 17)), some (Iv z167)]) dX12_faultOf_203 (Nat.le_of_ble_eq_true rfl) (Nat.le_of_ble_eq_true rfl) rfl ?_
                      refine wp_aload_n dX12_faultOf_204 rfl (by decide) ?_
                      refine wp_iload dX12_faultOf_205 rfl ?_
                      refine wp_iload dX12_faultOf_207 rfl ?_
                      refine wp_iconst dX12_faultOf_209 ?_
                      refine wp_isub dX12_faultOf_210 ?_
                      refine wp_callV (e1 := 0) (as := [Iv (M8 88 17), Iv (z167 - 1)]) (S := []) dX12_faultOf_211 (cs_X12_178 rfl) kd_88 rfl rfl (Nat.le_of_ble_eq_true rfl) (Nat.le_of_ble_eq_true rfl) h (fun v171 M171 q171 r171 => ?_)
                      have h := q171
                      refine wp_goto (tgt := 236) dX12_faultOf_214 (by decide) ?_
                      refine wp_goto (tgt := 41) dX12_faultOf_236 (by decide) ?_
                      exact wp_weak [true, true, true, true, true, false, false, false] rfl h
                  · have h := h.2 q165
                    refine wp_aload_n dX12_faultOf_147 rfl (by decide) ?_
                    refine wp_getf (t := Rv 101) 101 dX12_faultOf_148 (fl_X12_47 rfl) kd_88 rfl rfl ?_
                    refine wp_iload_n dX12_faultOf_151 rfl ?_
                    refine wp_iald (M161 101 x2) dX12_faultOf_152 kd_101 sz_101 o143 o144 (⟨by omega, by omega⟩) rfl ?_
                    refine wp_istore (L2 := [some (Rv 88), some (Iv x1), some (Iv x2), some (Iv x3), some (Iv x4), some (Iv z8), some (Iv (M161 101 x2)), none]) dX12_faultOf_153 (Nat.le_of_ble_eq_true rfl) (Nat.le_of_ble_eq_true rfl) rfl ?_
                    refine wp_iinc (L2 := [some (Rv 88), some (Iv x1), some (Iv (x2 + (-1))), some (Iv x3), some (Iv x4), some (Iv z8), some (Iv (M161 101 x2)), none]) dX12_faultOf_155 rfl (Nat.le_of_ble_eq_true rfl) (Nat.le_of_ble_eq_true rfl) rfl ?_
                    refine wp_goto (tgt := 170) dX12_faultOf_158 (by decide) ?_
                    refine wp_aload_n dX12_faultOf_170 rfl (by decide) ?_
                    refine wp_getf (t := Rv 102) 102 dX12_faultOf_171 (fl_X12_50 rfl) kd_88 rfl rfl ?_
                    refine wp_iload_n dX12_faultOf_174 rfl ?_
                    refine wp_dup2 dX12_faultOf_175 rfl rfl ?_
                    obtain ⟨o172, h⟩ := h
                    obtain ⟨o173, h⟩ := h
                    refine wp_iald (M161 102 (x2 + (-1))) dX12_faultOf_176 kd_102 sz_102 o172 o173 (⟨by omega, by omega⟩) rfl ?_
                    refine wp_iconst dX12_faultOf_177 ?_
                    refine wp_iadd dX12_faultOf_178 ?_
                    refine wp_iast dX12_faultOf_179 kd_102 sz_102 o172 o173 (⟨by omega, by omega⟩) ?_
                    refine wp_iinc (L2 := [some (Rv 88), some (Iv x1), some (Iv (x2 + (-1))), some (Iv (x3 + 1)), some (Iv x4), some (Iv z8), some (Iv (M161 101 x2)), none]) dX12_faultOf_180 rfl (Nat.le_of_ble_eq_true rfl) (Nat.le_of_ble_eq_true rfl) rfl ?_
                    refine wp_aload_n dX12_faultOf_183 rfl (by decide) ?_
                    refine wp_iload_n dX12_faultOf_184 rfl ?_
                    refine wp_iload_n dX12_faultOf_185 rfl ?_
                    refine wp_callV (e1 := 0) (as := [Iv x1, Iv (x3 + 1)]) (S := []) dX12_faultOf_186 (cs_X12_175 rfl) kd_88 rfl rfl (Nat.le_of_ble_eq_true rfl) (Nat.le_of_ble_eq_true rfl) h (fun v174 M174 q174 r174 => ?_)
                    obtain ⟨z174, rfl⟩ := retV_i r174 rfl
                    have h := q174
                    refine wp_istore (L2 := [some (Rv 88), some (Iv x1), some (Iv (x2 + (-1))), some (Iv (x3 + 1)), some (Iv x4), some (Iv z8), some (Iv (M161 101 x2)), some (Iv z174)]) dX12_faultOf_189 (Nat.le_of_ble_eq_true rfl) (Nat.le_of_ble_eq_true rfl) rfl ?_
                    refine wp_iload_n dX12_faultOf_191 rfl ?_
                    refine wp_iload dX12_faultOf_192 rfl ?_
                    obtain ⟨o175, h⟩ := h
                    refine wp_if_le (tgt := 201) dX12_faultOf_194 (by decide) o175 (fun q176 => ?_) (fun q176 => ?_)
                    · have h := h.1 q176
                      refine wp_iconst dX12_faultOf_201 ?_
                      refine wp_iadd dX12_faultOf_202 ?_
                      refine wp_istore_n (L2 := [some (Rv 88), some (Iv x1), some (Iv (x2 + (-1))), some (Iv ((x3 + 1) + 0)), some (Iv x4), some (Iv z8), some (Iv (M161 101 x2)), some (Iv z174)]) dX12_faultOf_203 (Nat.le_of_ble_eq_true rfl) (Nat.le_of_ble_eq_true rfl) rfl ?_
                      refine wp_aload_n dX12_faultOf_204 rfl (by decide) ?_
                      refine wp_iload dX12_faultOf_205 rfl ?_
                      refine wp_iload dX12_faultOf_207 rfl ?_
                      refine wp_iconst dX12_faultOf_209 ?_
                      refine wp_isub dX12_faultOf_210 ?_
                      refine wp_callV (e1 := 0) (as := [Iv (M161 101 x2), Iv (z174 - 1)]) (S := []) dX12_faultOf_211 (cs_X12_178 rfl) kd_88 rfl rfl (Nat.le_of_ble_eq_true rfl) (Nat.le_of_ble_eq_true rfl) h (fun v177 M177 q177 r177 => ?_)
                      have h := q177
                      refine wp_goto (tgt := 236) dX12_faultOf_214 (by decide) ?_
                      refine wp_goto (tgt := 41) dX12_faultOf_236 (by decide) ?_
                      exact wp_weak [true, true, true, true, true, false, false, false] rfl h
                    · have h := h.2 q176
                      refine wp_iconst dX12_faultOf_197 ?_
                      refine wp_goto (tgt := 202) dX12_faultOf_198 (by decide) ?_
                      refine wp_iadd dX12_faultOf_202 ?_
                      refine wp_istore_n (L2 := [some (Rv 88), some (Iv x1), some (Iv (x2 + (-1))), some (Iv ((x3 + 1) + 1)), some (Iv x4), some (Iv z8), some (Iv (M161 101 x2)), some (Iv z174)]) dX12_faultOf_203 (Nat.le_of_ble_eq_true rfl) (Nat.le_of_ble_eq_true rfl) rfl ?_
                      refine wp_aload_n dX12_faultOf_204 rfl (by decide) ?_
                      refine wp_iload dX12_faultOf_205 rfl ?_
                      refine wp_iload dX12_faultOf_207 rfl ?_
                      refine wp_iconst dX12_faultOf_209 ?_
                      refine wp_isub dX12_faultOf_210 ?_
                      refine wp_callV (e1 := 0) (as := [Iv (M161 101 x2), Iv (z174 - 1)]) (S := []) dX12_faultOf_211 (cs_X12_178 rfl) kd_88 rfl rfl (Nat.le_of_ble_eq_true rfl) (Nat.le_of_ble_eq_true rfl) h (fun v178 M178 q178 r178 => ?_)
                      have h := q178
                      refine wp_goto (tgt := 236) dX12_faultOf_214 (by decide) ?_
                      refine wp_goto (tgt := 41) dX12_faultOf_236 (by decide) ?_
                      exact wp_weak [true, true, true, true, true, false, false, false] rfl h
        · have h := h.2 q96
          refine wp_iinc (L2 := [some (Rv 88), some (Iv x1), some (Iv (x2 + 1)), some (Iv x3), some (Iv x4), some (Iv z8), some (Iv (M8 88 17)), none]) dX12_faultOf_82 rfl (Nat.le_of_ble_eq_true rfl) (Nat.le_of_ble_eq_true rfl) rfl ?_
          refine wp_aload_n dX12_faultOf_85 rfl (by decide) ?_
          refine wp_getf (t := Rv 101) 101 dX12_faultOf_86 (fl_X12_47 rfl) kd_88 rfl rfl ?_
          refine wp_iload_n dX12_faultOf_89 rfl ?_
          refine wp_aload_n dX12_faultOf_90 rfl (by decide) ?_
          refine wp_getf (t := Iv (M8 88 17)) (M8 88 17) dX12_faultOf_91 (fl_X12_151 rfl) kd_88 rfl rfl ?_
          obtain ⟨o179, h⟩ := h
          obtain ⟨o180, h⟩ := h
          refine wp_iast dX12_faultOf_94 kd_101 sz_101 o179 o180 (⟨by omega, by omega⟩) ?_
          refine wp_aload_n dX12_faultOf_95 rfl (by decide) ?_
          refine wp_getf (t := Rv 102) 102 dX12_faultOf_96 (fl_X12_50 rfl) kd_88 rfl rfl ?_
          refine wp_iload_n dX12_faultOf_99 rfl ?_
          refine wp_iconst dX12_faultOf_100 ?_
          refine wp_iast dX12_faultOf_101 kd_102 sz_102 o179 o180 (⟨by omega, by omega⟩) ?_
          refine wp_iinc (L2 := [some (Rv 88), some (Iv x1), some (Iv (x2 + 1)), some (Iv (x3 + 1)), some (Iv x4), some (Iv z8), some (Iv (M8 88 17)), none]) dX12_faultOf_102 rfl (Nat.le_of_ble_eq_true rfl) (Nat.le_of_ble_eq_true rfl) rfl ?_
          refine wp_goto (tgt := 236) dX12_faultOf_105 (by decide) ?_
          refine wp_goto (tgt := 41) dX12_faultOf_236 (by decide) ?_
          exact wp_weak [true, true, true, true, true, false, false, true] rfl h
theorem gX12_faultOf_239 {x1 x2 x3 x4 : Int}  {M : Mem} {Q : Vl → Mem → Prop} (h : cl 0 yX12_byteAt [Rv 88, Iv x1, Iv x3] M (QI (fun z1 M1 => (inr z1 ∧ ((z1 ≠ 32 → 0 ≤ x1 ∧ (x1 < 4 ∧ (inr x3 ∧ (inr (M1 93 x1) ∧ ((x3 < (M1 93 x1) → Q (Iv x3) M1) ∧ ((M1 93 x1) ≤ x3 → inr x2 ∧ ((x2 ≤ 0 → Q (Iv (-9)) M1) ∧ (0 < x2 → Q (Iv x3) M1)))))))) ∧ (z1 = 32 → wp 0 yX12_faultOf 239 [some (Rv 88), some (Iv x1), some (Iv x2), some (Iv (x3 + 1)), some (Iv x4), none, none, none] [] M1 Q)))))) : wp 0 yX12_faultOf 239 [some (Rv 88), some (Iv x1), some (Iv x2), some (Iv x3), some (Iv x4), none, none, none] [] M Q := by
  refine wp_aload_n dX12_faultOf_239 rfl (by decide) ?_
  refine wp_iload_n dX12_faultOf_240 rfl ?_
  refine wp_iload_n dX12_faultOf_241 rfl ?_
  refine wp_callV (e1 := 0) (as := [Iv x1, Iv x3]) (S := []) dX12_faultOf_242 (cs_X12_172 rfl) kd_88 rfl rfl (Nat.le_of_ble_eq_true rfl) (Nat.le_of_ble_eq_true rfl) h (fun v1 M1 q1 r1 => ?_)
  obtain ⟨z1, rfl⟩ := retV_i r1 rfl
  have h := q1
  refine wp_bipush dX12_faultOf_245 (by decide) ?_
  obtain ⟨o2, h⟩ := h
  refine wp_icmp_ne (tgt := 256) dX12_faultOf_247 (by decide) (Or.inr ⟨o2, (by decide)⟩) (fun q3 => ?_) (fun q3 => ?_)
  · have h := h.1 q3
    refine wp_iload_n dX12_faultOf_256 rfl ?_
    refine wp_aload_n dX12_faultOf_257 rfl (by decide) ?_
    refine wp_getf (t := Rv 93) 93 dX12_faultOf_258 (fl_X12_22 rfl) kd_88 rfl rfl ?_
    refine wp_iload_n dX12_faultOf_261 rfl ?_
    obtain ⟨o4, h⟩ := h
    obtain ⟨o5, h⟩ := h
    refine wp_iald (M1 93 x1) dX12_faultOf_262 kd_93 sz_93 o4 o5 (⟨by omega, by omega⟩) rfl ?_
    obtain ⟨o6, h⟩ := h
    obtain ⟨o7, h⟩ := h
    refine wp_icmp_lt (tgt := 270) dX12_faultOf_263 (by decide) o6 o7 (fun q8 => ?_) (fun q8 => ?_)
    · have h := h.1 q8
      refine wp_iload_n dX12_faultOf_270 rfl ?_
      refine wp_goto (tgt := 276) dX12_faultOf_271 (by decide) ?_
      exact wp_iret dX12_faultOf_276 rfl (Or.inr ⟨rfl, rfl, rfl, by decide⟩) rfl h
    · have h := h.2 q8
      refine wp_iload_n dX12_faultOf_266 rfl ?_
      obtain ⟨o9, h⟩ := h
      refine wp_if_le (tgt := 274) dX12_faultOf_267 (by decide) o9 (fun q10 => ?_) (fun q10 => ?_)
      · have h := h.1 q10
        refine wp_bipush dX12_faultOf_274 (by decide) ?_
        exact wp_iret dX12_faultOf_276 rfl (Or.inr ⟨rfl, rfl, rfl, by decide⟩) rfl h
      · have h := h.2 q10
        refine wp_iload_n dX12_faultOf_270 rfl ?_
        refine wp_goto (tgt := 276) dX12_faultOf_271 (by decide) ?_
        exact wp_iret dX12_faultOf_276 rfl (Or.inr ⟨rfl, rfl, rfl, by decide⟩) rfl h
  · have h := h.2 q3
    refine wp_iinc (L2 := [some (Rv 88), some (Iv x1), some (Iv x2), some (Iv (x3 + 1)), some (Iv x4), none, none, none]) dX12_faultOf_250 rfl (Nat.le_of_ble_eq_true rfl) (Nat.le_of_ble_eq_true rfl) rfl ?_
    refine wp_goto (tgt := 239) dX12_faultOf_253 (by decide) ?_
    exact h
theorem gX12_fault {x1 : Int}  {M : Mem} {Q : Vl → Mem → Prop} (h : cl 0 yX12_isText [Iv x1] M (QI (fun z1 M1 => ((z1 ≠ 0 → 0 ≤ x1 ∧ (x1 < 4 ∧ (inr (M1 93 x1) ∧ ((0 ≤ (M1 93 x1) → cl 0 yX12_faultOf [Rv 88, Iv x1] M1 (QI (fun z7 M7 => (Q (Iv z7) M7)))) ∧ ((M1 93 x1) < 0 → cl 0 yX12_meets [Rv 88, Iv 1] M1 (QI (fun z8 M8 => (Q (Iv z8) M8)))))))) ∧ (z1 = 0 → Q (Iv (-1)) M1))))) : wp 0 yX12_fault 0 [some (Rv 88), some (Iv x1)] [] M Q := by
  refine wp_iload_n dX12_fault_0 rfl ?_
  refine wp_callS (e1 := 0) (as := [Iv x1]) (S := []) dX12_fault_1 (cs_X12_145 rfl) rfl rfl (Nat.le_of_ble_eq_true rfl) (Nat.le_of_ble_eq_true rfl) h (fun v1 M1 q1 r1 => ?_)
  obtain ⟨z1, rfl, hz1⟩ := retV_z r1 rfl
  have h := q1
  refine wp_if_ne (tgt := 9) dX12_fault_4 (by decide) (by have := hz1; omega) (fun q2 => ?_) (fun q2 => ?_)
  · have h := h.1 q2
    refine wp_aload_n dX12_fault_9 rfl (by decide) ?_
    refine wp_getf (t := Rv 93) 93 dX12_fault_10 (fl_X12_22 rfl) kd_88 rfl rfl ?_
    refine wp_iload_n dX12_fault_13 rfl ?_
    obtain ⟨o3, h⟩ := h
    obtain ⟨o4, h⟩ := h
    refine wp_iald (M1 93 x1) dX12_fault_14 kd_93 sz_93 o3 o4 (⟨by omega, by omega⟩) rfl ?_
    obtain ⟨o5, h⟩ := h
    refine wp_if_ge (tgt := 26) dX12_fault_15 (by decide) o5 (fun q6 => ?_) (fun q6 => ?_)
    · have h := h.1 q6
      refine wp_aload_n dX12_fault_26 rfl (by decide) ?_
      refine wp_iload_n dX12_fault_27 rfl ?_
      refine wp_callV (e1 := 0) (as := [Iv x1]) (S := []) dX12_fault_28 (cs_X12_182 rfl) kd_88 rfl rfl (Nat.le_of_ble_eq_true rfl) (Nat.le_of_ble_eq_true rfl) h (fun v7 M7 q7 r7 => ?_)
      obtain ⟨z7, rfl⟩ := retV_i r7 rfl
      have h := q7
      exact wp_iret dX12_fault_31 rfl (Or.inr ⟨rfl, rfl, rfl, by decide⟩) rfl h
    · have h := h.2 q6
      refine wp_aload_n dX12_fault_18 rfl (by decide) ?_
      refine wp_iconst dX12_fault_19 ?_
      refine wp_callV (e1 := 0) (as := [Iv 1]) (S := []) dX12_fault_20 (cs_X12_134 rfl) kd_88 rfl rfl (Nat.le_of_ble_eq_true rfl) (Nat.le_of_ble_eq_true rfl) h (fun v8 M8 q8 r8 => ?_)
      obtain ⟨z8, rfl⟩ := retV_i r8 rfl
      have h := q8
      refine wp_goto (tgt := 31) dX12_fault_23 (by decide) ?_
      exact wp_iret dX12_fault_31 rfl (Or.inr ⟨rfl, rfl, rfl, by decide⟩) rfl h
  · have h := h.2 q2
    refine wp_iconst dX12_fault_7 ?_
    exact wp_iret dX12_fault_8 rfl (Or.inr ⟨rfl, rfl, rfl, by decide⟩) rfl h
theorem eX12_fault {x1 : Int}  {M : Mem} {Q : Vl → Mem → Prop} (h : cl 0 yX12_isText [Iv x1] M (QI (fun z1 M1 => ((z1 ≠ 0 → 0 ≤ x1 ∧ (x1 < 4 ∧ (inr (M1 93 x1) ∧ ((0 ≤ (M1 93 x1) → cl 0 yX12_faultOf [Rv 88, Iv x1] M1 (QI (fun z7 M7 => (Q (Iv z7) M7)))) ∧ ((M1 93 x1) < 0 → cl 0 yX12_meets [Rv 88, Iv 1] M1 (QI (fun z8 M8 => (Q (Iv z8) M8)))))))) ∧ (z1 = 0 → Q (Iv (-1)) M1))))) : cl 0 yX12_fault [Rv 88, Iv x1] M Q := enterG (by decide +kernel) (by exact Or.inr (Or.inl rfl)) (Nat.le_of_ble_eq_true rfl) rfl (gX12_fault h)
theorem gX12_tell {x1 x2 : Int}  {M : Mem} {Q : Vl → Mem → Prop} (h : cl 0 yX12_isWord [Iv x1] M (QI (fun z1 M1 => ((z1 = 0 → Q (Iv (-1)) M1) ∧ (z1 ≠ 0 → cl 0 yX12_isText [Iv x2] M1 (QI (fun z3 M3 => ((z3 ≠ 0 → 0 ≤ x2 ∧ (x2 < 4 ∧ (inr (M3 93 x2) ∧ ((0 ≤ (M3 93 x2) → cl 0 yX12_faultOf [Rv 88, Iv x2] M3 (QI (fun z9 M9 => (inr z9 ∧ ((z9 = (-9) → inr (M9 88 21) ∧ (((M9 88 21) = 0 → cl 0 yX12_comes [Rv 88, Iv x1, Iv 1, Iv 0, Iv (M9 93 x2)] M9 (QI (fun z14 M14 => (Q (Iv z14) M14)))) ∧ ((M9 88 21) ≠ 0 → Q (Iv (-2)) M9))) ∧ (z9 ≠ (-9) → Q (Iv (-4)) M9)))))) ∧ ((M3 93 x2) < 0 → cl 0 yX12_meets [Rv 88, Iv 1] M3 (QI (fun z15 M15 => (Q (Iv z15) M15)))))))) ∧ (z3 = 0 → Q (Iv (-1)) M3))))))))) : wp 0 yX12_tell 0 [some (Rv 88), some (Iv x1), some (Iv x2)] [] M Q := by
  refine wp_iload_n dX12_tell_0 rfl ?_
  refine wp_callS (e1 := 0) (as := [Iv x1]) (S := []) dX12_tell_1 (cs_X12_154 rfl) rfl rfl (Nat.le_of_ble_eq_true rfl) (Nat.le_of_ble_eq_true rfl) h (fun v1 M1 q1 r1 => ?_)
  obtain ⟨z1, rfl, hz1⟩ := retV_z r1 rfl
  have h := q1
  refine wp_if_eq (tgt := 14) dX12_tell_4 (by decide) (by have := hz1; omega) (fun q2 => ?_) (fun q2 => ?_)
  · have h := h.1 q2
    refine wp_iconst dX12_tell_14 ?_
    exact wp_iret dX12_tell_15 rfl (Or.inr ⟨rfl, rfl, rfl, by decide⟩) rfl h
  · have h := h.2 q2
    refine wp_iload_n dX12_tell_7 rfl ?_
    refine wp_callS (e1 := 0) (as := [Iv x2]) (S := []) dX12_tell_8 (cs_X12_145 rfl) rfl rfl (Nat.le_of_ble_eq_true rfl) (Nat.le_of_ble_eq_true rfl) h (fun v3 M3 q3 r3 => ?_)
    obtain ⟨z3, rfl, hz3⟩ := retV_z r3 rfl
    have h := q3
    refine wp_if_ne (tgt := 16) dX12_tell_11 (by decide) (by have := hz3; omega) (fun q4 => ?_) (fun q4 => ?_)
    · have h := h.1 q4
      refine wp_aload_n dX12_tell_16 rfl (by decide) ?_
      refine wp_getf (t := Rv 93) 93 dX12_tell_17 (fl_X12_22 rfl) kd_88 rfl rfl ?_
      refine wp_iload_n dX12_tell_20 rfl ?_
      obtain ⟨o5, h⟩ := h
      obtain ⟨o6, h⟩ := h
      refine wp_iald (M3 93 x2) dX12_tell_21 kd_93 sz_93 o5 o6 (⟨by omega, by omega⟩) rfl ?_
      obtain ⟨o7, h⟩ := h
      refine wp_if_ge (tgt := 31) dX12_tell_22 (by decide) o7 (fun q8 => ?_) (fun q8 => ?_)
      · have h := h.1 q8
        refine wp_aload_n dX12_tell_31 rfl (by decide) ?_
        refine wp_iload_n dX12_tell_32 rfl ?_
        refine wp_callV (e1 := 0) (as := [Iv x2]) (S := []) dX12_tell_33 (cs_X12_182 rfl) kd_88 rfl rfl (Nat.le_of_ble_eq_true rfl) (Nat.le_of_ble_eq_true rfl) h (fun v9 M9 q9 r9 => ?_)
        obtain ⟨z9, rfl⟩ := retV_i r9 rfl
        have h := q9
        refine wp_bipush dX12_tell_36 (by decide) ?_
        obtain ⟨o10, h⟩ := h
        refine wp_icmp_eq (tgt := 44) dX12_tell_38 (by decide) (Or.inr ⟨o10, (by decide)⟩) (fun q11 => ?_) (fun q11 => ?_)
        · have h := h.1 q11
          refine wp_aload_n dX12_tell_44 rfl (by decide) ?_
          refine wp_getf (t := Iv (M9 88 21)) (M9 88 21) dX12_tell_45 (fl_X12_164 rfl) kd_88 rfl rfl ?_
          obtain ⟨o12, h⟩ := h
          refine wp_if_eq (tgt := 56) dX12_tell_48 (by decide) o12 (fun q13 => ?_) (fun q13 => ?_)
          · have h := h.1 q13
            refine wp_aload_n dX12_tell_56 rfl (by decide) ?_
            refine wp_iload_n dX12_tell_57 rfl ?_
            refine wp_iconst dX12_tell_58 ?_
            refine wp_iconst dX12_tell_59 ?_
            refine wp_aload_n dX12_tell_60 rfl (by decide) ?_
            refine wp_getf (t := Rv 93) 93 dX12_tell_61 (fl_X12_22 rfl) kd_88 rfl rfl ?_
            refine wp_iload_n dX12_tell_64 rfl ?_
            refine wp_iald (M9 93 x2) dX12_tell_65 kd_93 sz_93 o5 o6 (⟨by omega, by omega⟩) rfl ?_
            refine wp_callV (e1 := 0) (as := [Iv x1, Iv 1, Iv 0, Iv (M9 93 x2)]) (S := []) dX12_tell_66 (cs_X12_160 rfl) kd_88 rfl rfl (Nat.le_of_ble_eq_true rfl) (Nat.le_of_ble_eq_true rfl) h (fun v14 M14 q14 r14 => ?_)
            obtain ⟨z14, rfl⟩ := retV_i r14 rfl
            have h := q14
            exact wp_iret dX12_tell_69 rfl (Or.inr ⟨rfl, rfl, rfl, by decide⟩) rfl h
          · have h := h.2 q13
            refine wp_bipush dX12_tell_51 (by decide) ?_
            refine wp_goto (tgt := 69) dX12_tell_53 (by decide) ?_
            exact wp_iret dX12_tell_69 rfl (Or.inr ⟨rfl, rfl, rfl, by decide⟩) rfl h
        · have h := h.2 q11
          refine wp_bipush dX12_tell_41 (by decide) ?_
          exact wp_iret dX12_tell_43 rfl (Or.inr ⟨rfl, rfl, rfl, by decide⟩) rfl h
      · have h := h.2 q8
        refine wp_aload_n dX12_tell_25 rfl (by decide) ?_
        refine wp_iconst dX12_tell_26 ?_
        refine wp_callV (e1 := 0) (as := [Iv 1]) (S := []) dX12_tell_27 (cs_X12_134 rfl) kd_88 rfl rfl (Nat.le_of_ble_eq_true rfl) (Nat.le_of_ble_eq_true rfl) h (fun v15 M15 q15 r15 => ?_)
        obtain ⟨z15, rfl⟩ := retV_i r15 rfl
        have h := q15
        exact wp_iret dX12_tell_30 rfl (Or.inr ⟨rfl, rfl, rfl, by decide⟩) rfl h
    · have h := h.2 q4
      refine wp_iconst dX12_tell_14 ?_
      exact wp_iret dX12_tell_15 rfl (Or.inr ⟨rfl, rfl, rfl, by decide⟩) rfl h
theorem eX12_tell {x1 x2 : Int}  {M : Mem} {Q : Vl → Mem → Prop} (h : cl 0 yX12_isWord [Iv x1] M (QI (fun z1 M1 => ((z1 = 0 → Q (Iv (-1)) M1) ∧ (z1 ≠ 0 → cl 0 yX12_isText [Iv x2] M1 (QI (fun z3 M3 => ((z3 ≠ 0 → 0 ≤ x2 ∧ (x2 < 4 ∧ (inr (M3 93 x2) ∧ ((0 ≤ (M3 93 x2) → cl 0 yX12_faultOf [Rv 88, Iv x2] M3 (QI (fun z9 M9 => (inr z9 ∧ ((z9 = (-9) → inr (M9 88 21) ∧ (((M9 88 21) = 0 → cl 0 yX12_comes [Rv 88, Iv x1, Iv 1, Iv 0, Iv (M9 93 x2)] M9 (QI (fun z14 M14 => (Q (Iv z14) M14)))) ∧ ((M9 88 21) ≠ 0 → Q (Iv (-2)) M9))) ∧ (z9 ≠ (-9) → Q (Iv (-4)) M9)))))) ∧ ((M3 93 x2) < 0 → cl 0 yX12_meets [Rv 88, Iv 1] M3 (QI (fun z15 M15 => (Q (Iv z15) M15)))))))) ∧ (z3 = 0 → Q (Iv (-1)) M3))))))))) : cl 0 yX12_tell [Rv 88, Iv x1, Iv x2] M Q := enterG (by decide +kernel) (by exact Or.inr (Or.inl rfl)) (Nat.le_of_ble_eq_true rfl) rfl (gX12_tell h)
theorem gX12_needWord {x1 x2 : Int}  {M : Mem} {Q : Vl → Mem → Prop} (h : cl 0 yX12_isWord [Iv x2] M (QI (fun z1 M1 => ((z1 = 0 → Q (Iv (-1)) M1) ∧ (z1 ≠ 0 → inr x1 ∧ ((x1 ≠ 0 → cl 0 yX12_isThere [Rv 88, Iv x2] M1 (QI (fun z5 M5 => ((z5 = 0 → cl 0 yX12_meets [Rv 88, Iv 1] M5 (QI (fun z7 M7 => (Q (Iv z7) M7)))) ∧ (z5 ≠ 0 → Q (Iv 0) M5))))) ∧ (x1 = 0 → Q (Iv (-1)) M1))))))) : wp 0 yX12_needWord 0 [some (Rv 88), some (Iv x1), some (Iv x2)] [] M Q := by
  refine wp_iload_n dX12_needWord_0 rfl ?_
  refine wp_callS (e1 := 0) (as := [Iv x2]) (S := []) dX12_needWord_1 (cs_X12_154 rfl) rfl rfl (Nat.le_of_ble_eq_true rfl) (Nat.le_of_ble_eq_true rfl) h (fun v1 M1 q1 r1 => ?_)
  obtain ⟨z1, rfl, hz1⟩ := retV_z r1 rfl
  have h := q1
  refine wp_if_eq (tgt := 11) dX12_needWord_4 (by decide) (by have := hz1; omega) (fun q2 => ?_) (fun q2 => ?_)
  · have h := h.1 q2
    refine wp_iconst dX12_needWord_11 ?_
    refine wp_goto (tgt := 32) dX12_needWord_12 (by decide) ?_
    exact wp_iret dX12_needWord_32 rfl (Or.inr ⟨rfl, rfl, rfl, by decide⟩) rfl h
  · have h := h.2 q2
    refine wp_iload_n dX12_needWord_7 rfl ?_
    obtain ⟨o3, h⟩ := h
    refine wp_if_ne (tgt := 15) dX12_needWord_8 (by decide) o3 (fun q4 => ?_) (fun q4 => ?_)
    · have h := h.1 q4
      refine wp_aload_n dX12_needWord_15 rfl (by decide) ?_
      refine wp_iload_n dX12_needWord_16 rfl ?_
      refine wp_callV (e1 := 0) (as := [Iv x2]) (S := []) dX12_needWord_17 (cs_X12_185 rfl) kd_88 rfl rfl (Nat.le_of_ble_eq_true rfl) (Nat.le_of_ble_eq_true rfl) h (fun v5 M5 q5 r5 => ?_)
      obtain ⟨z5, rfl, hz5⟩ := retV_z r5 rfl
      have h := q5
      refine wp_if_eq (tgt := 27) dX12_needWord_20 (by decide) (by have := hz5; omega) (fun q6 => ?_) (fun q6 => ?_)
      · have h := h.1 q6
        refine wp_aload_n dX12_needWord_27 rfl (by decide) ?_
        refine wp_iconst dX12_needWord_28 ?_
        refine wp_callV (e1 := 0) (as := [Iv 1]) (S := []) dX12_needWord_29 (cs_X12_134 rfl) kd_88 rfl rfl (Nat.le_of_ble_eq_true rfl) (Nat.le_of_ble_eq_true rfl) h (fun v7 M7 q7 r7 => ?_)
        obtain ⟨z7, rfl⟩ := retV_i r7 rfl
        have h := q7
        exact wp_iret dX12_needWord_32 rfl (Or.inr ⟨rfl, rfl, rfl, by decide⟩) rfl h
      · have h := h.2 q6
        refine wp_iconst dX12_needWord_23 ?_
        refine wp_goto (tgt := 32) dX12_needWord_24 (by decide) ?_
        exact wp_iret dX12_needWord_32 rfl (Or.inr ⟨rfl, rfl, rfl, by decide⟩) rfl h
    · have h := h.2 q4
      refine wp_iconst dX12_needWord_11 ?_
      refine wp_goto (tgt := 32) dX12_needWord_12 (by decide) ?_
      exact wp_iret dX12_needWord_32 rfl (Or.inr ⟨rfl, rfl, rfl, by decide⟩) rfl h
theorem eX12_needWord {x1 x2 : Int}  {M : Mem} {Q : Vl → Mem → Prop} (h : cl 0 yX12_isWord [Iv x2] M (QI (fun z1 M1 => ((z1 = 0 → Q (Iv (-1)) M1) ∧ (z1 ≠ 0 → inr x1 ∧ ((x1 ≠ 0 → cl 0 yX12_isThere [Rv 88, Iv x2] M1 (QI (fun z5 M5 => ((z5 = 0 → cl 0 yX12_meets [Rv 88, Iv 1] M5 (QI (fun z7 M7 => (Q (Iv z7) M7)))) ∧ (z5 ≠ 0 → Q (Iv 0) M5))))) ∧ (x1 = 0 → Q (Iv (-1)) M1))))))) : cl 0 yX12_needWord [Rv 88, Iv x1, Iv x2] M Q := enterG (by decide +kernel) (by exact Or.inr (Or.inl rfl)) (Nat.le_of_ble_eq_true rfl) rfl (gX12_needWord h)
theorem gX12_needTwo {x1 x2 x3 : Int}  {M : Mem} {Q : Vl → Mem → Prop} (h : cl 0 yX12_isWord [Iv x2] M (QI (fun z1 M1 => ((z1 = 0 → Q (Iv (-1)) M1) ∧ (z1 ≠ 0 → cl 0 yX12_isWord [Iv x3] M1 (QI (fun z3 M3 => ((z3 = 0 → Q (Iv (-1)) M3) ∧ (z3 ≠ 0 → inr x1 ∧ ((x1 ≠ 0 → cl 0 yX12_isThere [Rv 88, Iv x2] M3 (QI (fun z7 M7 => ((z7 = 0 → cl 0 yX12_meets [Rv 88, Iv 1] M7 (QI (fun z9 M9 => (Q (Iv z9) M9)))) ∧ (z7 ≠ 0 → cl 0 yX12_isThere [Rv 88, Iv x3] M7 (QI (fun z10 M10 => ((z10 = 0 → cl 0 yX12_meets [Rv 88, Iv 1] M10 (QI (fun z12 M12 => (Q (Iv z12) M12)))) ∧ (z10 ≠ 0 → Q (Iv 0) M10))))))))) ∧ (x1 = 0 → Q (Iv (-1)) M3))))))))))) : wp 0 yX12_needTwo 0 [some (Rv 88), some (Iv x1), some (Iv x2), some (Iv x3)] [] M Q := by
  refine wp_iload_n dX12_needTwo_0 rfl ?_
  refine wp_callS (e1 := 0) (as := [Iv x2]) (S := []) dX12_needTwo_1 (cs_X12_154 rfl) rfl rfl (Nat.le_of_ble_eq_true rfl) (Nat.le_of_ble_eq_true rfl) h (fun v1 M1 q1 r1 => ?_)
  obtain ⟨z1, rfl, hz1⟩ := retV_z r1 rfl
  have h := q1
  refine wp_if_eq (tgt := 18) dX12_needTwo_4 (by decide) (by have := hz1; omega) (fun q2 => ?_) (fun q2 => ?_)
  · have h := h.1 q2
    refine wp_iconst dX12_needTwo_18 ?_
    refine wp_goto (tgt := 47) dX12_needTwo_19 (by decide) ?_
    exact wp_iret dX12_needTwo_47 rfl (Or.inr ⟨rfl, rfl, rfl, by decide⟩) rfl h
  · have h := h.2 q2
    refine wp_iload_n dX12_needTwo_7 rfl ?_
    refine wp_callS (e1 := 0) (as := [Iv x3]) (S := []) dX12_needTwo_8 (cs_X12_154 rfl) rfl rfl (Nat.le_of_ble_eq_true rfl) (Nat.le_of_ble_eq_true rfl) h (fun v3 M3 q3 r3 => ?_)
    obtain ⟨z3, rfl, hz3⟩ := retV_z r3 rfl
    have h := q3
    refine wp_if_eq (tgt := 18) dX12_needTwo_11 (by decide) (by have := hz3; omega) (fun q4 => ?_) (fun q4 => ?_)
    · have h := h.1 q4
      refine wp_iconst dX12_needTwo_18 ?_
      refine wp_goto (tgt := 47) dX12_needTwo_19 (by decide) ?_
      exact wp_iret dX12_needTwo_47 rfl (Or.inr ⟨rfl, rfl, rfl, by decide⟩) rfl h
    · have h := h.2 q4
      refine wp_iload_n dX12_needTwo_14 rfl ?_
      obtain ⟨o5, h⟩ := h
      refine wp_if_ne (tgt := 22) dX12_needTwo_15 (by decide) o5 (fun q6 => ?_) (fun q6 => ?_)
      · have h := h.1 q6
        refine wp_aload_n dX12_needTwo_22 rfl (by decide) ?_
        refine wp_iload_n dX12_needTwo_23 rfl ?_
        refine wp_callV (e1 := 0) (as := [Iv x2]) (S := []) dX12_needTwo_24 (cs_X12_185 rfl) kd_88 rfl rfl (Nat.le_of_ble_eq_true rfl) (Nat.le_of_ble_eq_true rfl) h (fun v7 M7 q7 r7 => ?_)
        obtain ⟨z7, rfl, hz7⟩ := retV_z r7 rfl
        have h := q7
        refine wp_if_eq (tgt := 42) dX12_needTwo_27 (by decide) (by have := hz7; omega) (fun q8 => ?_) (fun q8 => ?_)
        · have h := h.1 q8
          refine wp_aload_n dX12_needTwo_42 rfl (by decide) ?_
          refine wp_iconst dX12_needTwo_43 ?_
          refine wp_callV (e1 := 0) (as := [Iv 1]) (S := []) dX12_needTwo_44 (cs_X12_134 rfl) kd_88 rfl rfl (Nat.le_of_ble_eq_true rfl) (Nat.le_of_ble_eq_true rfl) h (fun v9 M9 q9 r9 => ?_)
          obtain ⟨z9, rfl⟩ := retV_i r9 rfl
          have h := q9
          exact wp_iret dX12_needTwo_47 rfl (Or.inr ⟨rfl, rfl, rfl, by decide⟩) rfl h
        · have h := h.2 q8
          refine wp_aload_n dX12_needTwo_30 rfl (by decide) ?_
          refine wp_iload_n dX12_needTwo_31 rfl ?_
          refine wp_callV (e1 := 0) (as := [Iv x3]) (S := []) dX12_needTwo_32 (cs_X12_185 rfl) kd_88 rfl rfl (Nat.le_of_ble_eq_true rfl) (Nat.le_of_ble_eq_true rfl) h (fun v10 M10 q10 r10 => ?_)
          obtain ⟨z10, rfl, hz10⟩ := retV_z r10 rfl
          have h := q10
          refine wp_if_eq (tgt := 42) dX12_needTwo_35 (by decide) (by have := hz10; omega) (fun q11 => ?_) (fun q11 => ?_)
          · have h := h.1 q11
            refine wp_aload_n dX12_needTwo_42 rfl (by decide) ?_
            refine wp_iconst dX12_needTwo_43 ?_
            refine wp_callV (e1 := 0) (as := [Iv 1]) (S := []) dX12_needTwo_44 (cs_X12_134 rfl) kd_88 rfl rfl (Nat.le_of_ble_eq_true rfl) (Nat.le_of_ble_eq_true rfl) h (fun v12 M12 q12 r12 => ?_)
            obtain ⟨z12, rfl⟩ := retV_i r12 rfl
            have h := q12
            exact wp_iret dX12_needTwo_47 rfl (Or.inr ⟨rfl, rfl, rfl, by decide⟩) rfl h
          · have h := h.2 q11
            refine wp_iconst dX12_needTwo_38 ?_
            refine wp_goto (tgt := 47) dX12_needTwo_39 (by decide) ?_
            exact wp_iret dX12_needTwo_47 rfl (Or.inr ⟨rfl, rfl, rfl, by decide⟩) rfl h
      · have h := h.2 q6
        refine wp_iconst dX12_needTwo_18 ?_
        refine wp_goto (tgt := 47) dX12_needTwo_19 (by decide) ?_
        exact wp_iret dX12_needTwo_47 rfl (Or.inr ⟨rfl, rfl, rfl, by decide⟩) rfl h
theorem eX12_needTwo {x1 x2 x3 : Int}  {M : Mem} {Q : Vl → Mem → Prop} (h : cl 0 yX12_isWord [Iv x2] M (QI (fun z1 M1 => ((z1 = 0 → Q (Iv (-1)) M1) ∧ (z1 ≠ 0 → cl 0 yX12_isWord [Iv x3] M1 (QI (fun z3 M3 => ((z3 = 0 → Q (Iv (-1)) M3) ∧ (z3 ≠ 0 → inr x1 ∧ ((x1 ≠ 0 → cl 0 yX12_isThere [Rv 88, Iv x2] M3 (QI (fun z7 M7 => ((z7 = 0 → cl 0 yX12_meets [Rv 88, Iv 1] M7 (QI (fun z9 M9 => (Q (Iv z9) M9)))) ∧ (z7 ≠ 0 → cl 0 yX12_isThere [Rv 88, Iv x3] M7 (QI (fun z10 M10 => ((z10 = 0 → cl 0 yX12_meets [Rv 88, Iv 1] M10 (QI (fun z12 M12 => (Q (Iv z12) M12)))) ∧ (z10 ≠ 0 → Q (Iv 0) M10))))))))) ∧ (x1 = 0 → Q (Iv (-1)) M3))))))))))) : cl 0 yX12_needTwo [Rv 88, Iv x1, Iv x2, Iv x3] M Q := enterG (by decide +kernel) (by exact Or.inr (Or.inl rfl)) (Nat.le_of_ble_eq_true rfl) rfl (gX12_needTwo h)
theorem gX12_join {x1 x2 x3 : Int}  {M : Mem} {Q : Vl → Mem → Prop} (h : cl 0 yX12_isWord [Iv x1] M (QI (fun z1 M1 => (cl 0 yX12_needTwo [Rv 88, Iv z1, Iv x2, Iv x3] M1 (QI (fun z2 M2 => (inr z2 ∧ ((0 ≤ z2 → 0 ≤ x2 ∧ (x2 < 8 ∧ (0 ≤ x3 ∧ (x3 < 8 ∧ (inr ((M2 95 x2) + (M2 95 x3)) ∧ ((((M2 95 x2) + (M2 95 x3)) ≤ 40 → wp 0 yX12_join 48 [some (Rv 88), some (Iv x1), some (Iv x2), some (Iv x3), some (Iv z2), some (Iv ((M2 95 x2) + (M2 95 x3))), some (Iv 0)] [] M2 Q) ∧ (40 < ((M2 95 x2) + (M2 95 x3)) → Q (Iv (-2)) M2))))))) ∧ (z2 < 0 → Q (Iv z2) M2))))))))) : wp 0 yX12_join 0 [some (Rv 88), some (Iv x1), some (Iv x2), some (Iv x3), none, none, none] [] M Q := by
  refine wp_aload_n dX12_join_0 rfl (by decide) ?_
  refine wp_iload_n dX12_join_1 rfl ?_
  refine wp_callS (e1 := 0) (as := [Iv x1]) (S := [Rv 88]) dX12_join_2 (cs_X12_154 rfl) rfl rfl (Nat.le_of_ble_eq_true rfl) (Nat.le_of_ble_eq_true rfl) h (fun v1 M1 q1 r1 => ?_)
  obtain ⟨z1, rfl, hz1⟩ := retV_z r1 rfl
  have h := q1
  refine wp_iload_n dX12_join_5 rfl ?_
  refine wp_iload_n dX12_join_6 rfl ?_
  refine wp_callV (e1 := 0) (as := [Iv z1, Iv x2, Iv x3]) (S := []) dX12_join_7 (cs_X12_188 rfl) kd_88 rfl rfl (Nat.le_of_ble_eq_true rfl) (Nat.le_of_ble_eq_true rfl) h (fun v2 M2 q2 r2 => ?_)
  obtain ⟨z2, rfl⟩ := retV_i r2 rfl
  have h := q2
  refine wp_istore (L2 := [some (Rv 88), some (Iv x1), some (Iv x2), some (Iv x3), some (Iv z2), none, none]) dX12_join_10 (Nat.le_of_ble_eq_true rfl) (Nat.le_of_ble_eq_true rfl) rfl ?_
  refine wp_iload dX12_join_12 rfl ?_
  obtain ⟨o3, h⟩ := h
  refine wp_if_ge (tgt := 20) dX12_join_14 (by decide) o3 (fun q4 => ?_) (fun q4 => ?_)
  · have h := h.1 q4
    refine wp_aload_n dX12_join_20 rfl (by decide) ?_
    refine wp_getf (t := Rv 95) 95 dX12_join_21 (fl_X12_29 rfl) kd_88 rfl rfl ?_
    refine wp_iload_n dX12_join_24 rfl ?_
    obtain ⟨o5, h⟩ := h
    obtain ⟨o6, h⟩ := h
    refine wp_iald (M2 95 x2) dX12_join_25 kd_95 sz_95 o5 o6 (⟨by omega, by omega⟩) rfl ?_
    refine wp_aload_n dX12_join_26 rfl (by decide) ?_
    refine wp_getf (t := Rv 95) 95 dX12_join_27 (fl_X12_29 rfl) kd_88 rfl rfl ?_
    refine wp_iload_n dX12_join_30 rfl ?_
    obtain ⟨o7, h⟩ := h
    obtain ⟨o8, h⟩ := h
    refine wp_iald (M2 95 x3) dX12_join_31 kd_95 sz_95 o7 o8 (⟨by omega, by omega⟩) rfl ?_
    refine wp_iadd dX12_join_32 ?_
    refine wp_istore (L2 := [some (Rv 88), some (Iv x1), some (Iv x2), some (Iv x3), some (Iv z2), some (Iv ((M2 95 x2) + (M2 95 x3))), none]) dX12_join_33 (Nat.le_of_ble_eq_true rfl) (Nat.le_of_ble_eq_true rfl) rfl ?_
    refine wp_iload dX12_join_35 rfl ?_
    refine wp_bipush dX12_join_37 (by decide) ?_
    obtain ⟨o9, h⟩ := h
    refine wp_icmp_le (tgt := 45) dX12_join_39 (by decide) o9 (by decide) (fun q10 => ?_) (fun q10 => ?_)
    · have h := h.1 q10
      refine wp_iconst dX12_join_45 ?_
      refine wp_istore (L2 := [some (Rv 88), some (Iv x1), some (Iv x2), some (Iv x3), some (Iv z2), some (Iv ((M2 95 x2) + (M2 95 x3))), some (Iv 0)]) dX12_join_46 (Nat.le_of_ble_eq_true rfl) (Nat.le_of_ble_eq_true rfl) rfl ?_
      exact h
    · have h := h.2 q10
      refine wp_bipush dX12_join_42 (by decide) ?_
      exact wp_iret dX12_join_44 rfl (Or.inr ⟨rfl, rfl, rfl, by decide⟩) rfl h
  · have h := h.2 q4
    refine wp_iload dX12_join_17 rfl ?_
    exact wp_iret dX12_join_19 rfl (Or.inr ⟨rfl, rfl, rfl, by decide⟩) rfl h
theorem eX12_join {x1 x2 x3 : Int}  {M : Mem} {Q : Vl → Mem → Prop} (h : cl 0 yX12_isWord [Iv x1] M (QI (fun z1 M1 => (cl 0 yX12_needTwo [Rv 88, Iv z1, Iv x2, Iv x3] M1 (QI (fun z2 M2 => (inr z2 ∧ ((0 ≤ z2 → 0 ≤ x2 ∧ (x2 < 8 ∧ (0 ≤ x3 ∧ (x3 < 8 ∧ (inr ((M2 95 x2) + (M2 95 x3)) ∧ ((((M2 95 x2) + (M2 95 x3)) ≤ 40 → wp 0 yX12_join 48 [some (Rv 88), some (Iv x1), some (Iv x2), some (Iv x3), some (Iv z2), some (Iv ((M2 95 x2) + (M2 95 x3))), some (Iv 0)] [] M2 Q) ∧ (40 < ((M2 95 x2) + (M2 95 x3)) → Q (Iv (-2)) M2))))))) ∧ (z2 < 0 → Q (Iv z2) M2))))))))) : cl 0 yX12_join [Rv 88, Iv x1, Iv x2, Iv x3] M Q := enterG (by decide +kernel) (by exact Or.inr (Or.inl rfl)) (Nat.le_of_ble_eq_true rfl) rfl (gX12_join h)
theorem gX12_join_48 {x1 x2 x3 x4 x5 x6 : Int}  {M : Mem} {Q : Vl → Mem → Prop} (h : inr x6 ∧ (inr x5 ∧ ((x5 ≤ x6 → cl 0 yX12_comes [Rv 88, Iv x1, Iv 2, Iv x2, Iv 0] (up M 88 17 x5) (QI (fun z4 M4 => (Q (Iv z4) M4)))) ∧ (x6 < x5 → 0 ≤ x2 ∧ (x2 < 8 ∧ (inr (M 95 x2) ∧ (((M 95 x2) ≤ x6 → cl 0 yX12_at0 [Rv 88, Iv x3, Iv (x6 - (M 95 x2))] M (QI (fun z9 M9 => (0 ≤ x6 ∧ (x6 < 40 ∧ (wp 0 yX12_join 48 [some (Rv 88), some (Iv x1), some (Iv x2), some (Iv x3), some (Iv x4), some (Iv x5), some (Iv (x6 + 1))] [] (up M9 100 x6 z9) Q)))))) ∧ (x6 < (M 95 x2) → cl 0 yX12_at0 [Rv 88, Iv x2, Iv x6] M (QI (fun z12 M12 => (0 ≤ x6 ∧ (x6 < 40 ∧ (wp 0 yX12_join 48 [some (Rv 88), some (Iv x1), some (Iv x2), some (Iv x3), some (Iv x4), some (Iv x5), some (Iv (x6 + 1))] [] (up M12 100 x6 z12) Q))))))))))))) : wp 0 yX12_join 48 [some (Rv 88), some (Iv x1), some (Iv x2), some (Iv x3), some (Iv x4), some (Iv x5), some (Iv x6)] [] M Q := by
  refine wp_iload dX12_join_48 rfl ?_
  refine wp_iload dX12_join_50 rfl ?_
  obtain ⟨o1, h⟩ := h
  obtain ⟨o2, h⟩ := h
  refine wp_icmp_ge (tgt := 103) dX12_join_52 (by decide) o1 o2 (fun q3 => ?_) (fun q3 => ?_)
  · have h := h.1 q3
    refine wp_aload_n dX12_join_103 rfl (by decide) ?_
    refine wp_iload dX12_join_104 rfl ?_
    refine wp_putf (x := x5) dX12_join_106 (fl_X12_151 rfl) kd_88 (fun _ => rfl) rfl rfl trivial ?_
    refine wp_aload_n dX12_join_109 rfl (by decide) ?_
    refine wp_iload_n dX12_join_110 rfl ?_
    refine wp_iconst dX12_join_111 ?_
    refine wp_iload_n dX12_join_112 rfl ?_
    refine wp_iconst dX12_join_113 ?_
    refine wp_callV (e1 := 0) (as := [Iv x1, Iv 2, Iv x2, Iv 0]) (S := []) dX12_join_114 (cs_X12_160 rfl) kd_88 rfl rfl (Nat.le_of_ble_eq_true rfl) (Nat.le_of_ble_eq_true rfl) h (fun v4 M4 q4 r4 => ?_)
    obtain ⟨z4, rfl⟩ := retV_i r4 rfl
    have h := q4
    exact wp_iret dX12_join_117 rfl (Or.inr ⟨rfl, rfl, rfl, by decide⟩) rfl h
  · have h := h.2 q3
    refine wp_aload_n dX12_join_55 rfl (by decide) ?_
    refine wp_getf (t := Rv 100) 100 dX12_join_56 (fl_X12_44 rfl) kd_88 rfl rfl ?_
    refine wp_iload dX12_join_59 rfl ?_
    refine wp_iload dX12_join_61 rfl ?_
    refine wp_aload_n dX12_join_63 rfl (by decide) ?_
    refine wp_getf (t := Rv 95) 95 dX12_join_64 (fl_X12_29 rfl) kd_88 rfl rfl ?_
    refine wp_iload_n dX12_join_67 rfl ?_
    obtain ⟨o5, h⟩ := h
    obtain ⟨o6, h⟩ := h
    refine wp_iald (M 95 x2) dX12_join_68 kd_95 sz_95 o5 o6 (⟨by omega, by omega⟩) rfl ?_
    obtain ⟨o7, h⟩ := h
    refine wp_icmp_ge (tgt := 82) dX12_join_69 (by decide) o1 o7 (fun q8 => ?_) (fun q8 => ?_)
    · have h := h.1 q8
      refine wp_aload_n dX12_join_82 rfl (by decide) ?_
      refine wp_iload_n dX12_join_83 rfl ?_
      refine wp_iload dX12_join_84 rfl ?_
      refine wp_aload_n dX12_join_86 rfl (by decide) ?_
      refine wp_getf (t := Rv 95) 95 dX12_join_87 (fl_X12_29 rfl) kd_88 rfl rfl ?_
      refine wp_iload_n dX12_join_90 rfl ?_
      refine wp_iald (M 95 x2) dX12_join_91 kd_95 sz_95 o5 o6 (⟨by omega, by omega⟩) rfl ?_
      refine wp_isub dX12_join_92 ?_
      refine wp_callV (e1 := 0) (as := [Iv x3, Iv (x6 - (M 95 x2))]) (S := [Iv x6, Rv 100]) dX12_join_93 (cs_X12_148 rfl) kd_88 rfl rfl (Nat.le_of_ble_eq_true rfl) (Nat.le_of_ble_eq_true rfl) h (fun v9 M9 q9 r9 => ?_)
      obtain ⟨z9, rfl⟩ := retV_i r9 rfl
      have h := q9
      obtain ⟨o10, h⟩ := h
      obtain ⟨o11, h⟩ := h
      refine wp_iast dX12_join_96 kd_100 sz_100 o10 o11 (⟨by omega, by omega⟩) ?_
      refine wp_iinc (L2 := [some (Rv 88), some (Iv x1), some (Iv x2), some (Iv x3), some (Iv x4), some (Iv x5), some (Iv (x6 + 1))]) dX12_join_97 rfl (Nat.le_of_ble_eq_true rfl) (Nat.le_of_ble_eq_true rfl) rfl ?_
      refine wp_goto (tgt := 48) dX12_join_100 (by decide) ?_
      exact h
    · have h := h.2 q8
      refine wp_aload_n dX12_join_72 rfl (by decide) ?_
      refine wp_iload_n dX12_join_73 rfl ?_
      refine wp_iload dX12_join_74 rfl ?_
      refine wp_callV (e1 := 0) (as := [Iv x2, Iv x6]) (S := [Iv x6, Rv 100]) dX12_join_76 (cs_X12_148 rfl) kd_88 rfl rfl (Nat.le_of_ble_eq_true rfl) (Nat.le_of_ble_eq_true rfl) h (fun v12 M12 q12 r12 => ?_)
      obtain ⟨z12, rfl⟩ := retV_i r12 rfl
      have h := q12
      refine wp_goto (tgt := 96) dX12_join_79 (by decide) ?_
      obtain ⟨o13, h⟩ := h
      obtain ⟨o14, h⟩ := h
      refine wp_iast dX12_join_96 kd_100 sz_100 o13 o14 (⟨by omega, by omega⟩) ?_
      refine wp_iinc (L2 := [some (Rv 88), some (Iv x1), some (Iv x2), some (Iv x3), some (Iv x4), some (Iv x5), some (Iv (x6 + 1))]) dX12_join_97 rfl (Nat.le_of_ble_eq_true rfl) (Nat.le_of_ble_eq_true rfl) rfl ?_
      refine wp_goto (tgt := 48) dX12_join_100 (by decide) ?_
      exact h
theorem gX12_part {x1 x2 x3 x4 : Int}  {M : Mem} {Q : Vl → Mem → Prop} (h : cl 0 yX12_isWord [Iv x1] M (QI (fun z1 M1 => ((z1 = 0 → Q (Iv (-1)) M1) ∧ (z1 ≠ 0 → cl 0 yX12_isWord [Iv x2] M1 (QI (fun z3 M3 => ((z3 ≠ 0 → inr x4 ∧ ((0 ≤ x4 → cl 0 yX12_isThere [Rv 88, Iv x2] M3 (QI (fun z7 M7 => ((z7 ≠ 0 → inr x3 ∧ ((x3 < 0 → cl 0 yX12_meets [Rv 88, Iv 2] M7 (QI (fun z11 M11 => (Q (Iv z11) M11)))) ∧ (0 ≤ x3 → 0 ≤ x2 ∧ (x2 < 8 ∧ (inr (M7 95 x2) ∧ (inL (x3 + x4) ∧ (inL (M7 95 x2) ∧ (((x3 + x4) ≤ (M7 95 x2) → wp 0 yX12_part 71 [some (Rv 88), some (Iv x1), some (Iv x2), some (Iv x3), some (Iv x4), some (Iv 0)] [] M7 Q) ∧ ((M7 95 x2) < (x3 + x4) → cl 0 yX12_meets [Rv 88, Iv 2] M7 (QI (fun z18 M18 => (Q (Iv z18) M18)))))))))))) ∧ (z7 = 0 → cl 0 yX12_meets [Rv 88, Iv 1] M7 (QI (fun z19 M19 => (Q (Iv z19) M19)))))))) ∧ (x4 < 0 → cl 0 yX12_meets [Rv 88, Iv 5] M3 (QI (fun z20 M20 => (Q (Iv z20) M20)))))) ∧ (z3 = 0 → Q (Iv (-1)) M3))))))))) : wp 0 yX12_part 0 [some (Rv 88), some (Iv x1), some (Iv x2), some (Iv x3), some (Iv x4), none] [] M Q := by
  refine wp_iload_n dX12_part_0 rfl ?_
  refine wp_callS (e1 := 0) (as := [Iv x1]) (S := []) dX12_part_1 (cs_X12_154 rfl) rfl rfl (Nat.le_of_ble_eq_true rfl) (Nat.le_of_ble_eq_true rfl) h (fun v1 M1 q1 r1 => ?_)
  obtain ⟨z1, rfl, hz1⟩ := retV_z r1 rfl
  have h := q1
  refine wp_if_eq (tgt := 14) dX12_part_4 (by decide) (by have := hz1; omega) (fun q2 => ?_) (fun q2 => ?_)
  · have h := h.1 q2
    refine wp_iconst dX12_part_14 ?_
    exact wp_iret dX12_part_15 rfl (Or.inr ⟨rfl, rfl, rfl, by decide⟩) rfl h
  · have h := h.2 q2
    refine wp_iload_n dX12_part_7 rfl ?_
    refine wp_callS (e1 := 0) (as := [Iv x2]) (S := []) dX12_part_8 (cs_X12_154 rfl) rfl rfl (Nat.le_of_ble_eq_true rfl) (Nat.le_of_ble_eq_true rfl) h (fun v3 M3 q3 r3 => ?_)
    obtain ⟨z3, rfl, hz3⟩ := retV_z r3 rfl
    have h := q3
    refine wp_if_ne (tgt := 16) dX12_part_11 (by decide) (by have := hz3; omega) (fun q4 => ?_) (fun q4 => ?_)
    · have h := h.1 q4
      refine wp_iload dX12_part_16 rfl ?_
      obtain ⟨o5, h⟩ := h
      refine wp_if_ge (tgt := 27) dX12_part_18 (by decide) o5 (fun q6 => ?_) (fun q6 => ?_)
      · have h := h.1 q6
        refine wp_aload_n dX12_part_27 rfl (by decide) ?_
        refine wp_iload_n dX12_part_28 rfl ?_
        refine wp_callV (e1 := 0) (as := [Iv x2]) (S := []) dX12_part_29 (cs_X12_185 rfl) kd_88 rfl rfl (Nat.le_of_ble_eq_true rfl) (Nat.le_of_ble_eq_true rfl) h (fun v7 M7 q7 r7 => ?_)
        obtain ⟨z7, rfl, hz7⟩ := retV_z r7 rfl
        have h := q7
        refine wp_if_ne (tgt := 41) dX12_part_32 (by decide) (by have := hz7; omega) (fun q8 => ?_) (fun q8 => ?_)
        · have h := h.1 q8
          refine wp_iload_n dX12_part_41 rfl ?_
          obtain ⟨o9, h⟩ := h
          refine wp_if_lt (tgt := 62) dX12_part_42 (by decide) o9 (fun q10 => ?_) (fun q10 => ?_)
          · have h := h.1 q10
            refine wp_aload_n dX12_part_62 rfl (by decide) ?_
            refine wp_iconst dX12_part_63 ?_
            refine wp_callV (e1 := 0) (as := [Iv 2]) (S := []) dX12_part_64 (cs_X12_134 rfl) kd_88 rfl rfl (Nat.le_of_ble_eq_true rfl) (Nat.le_of_ble_eq_true rfl) h (fun v11 M11 q11 r11 => ?_)
            obtain ⟨z11, rfl⟩ := retV_i r11 rfl
            have h := q11
            exact wp_iret dX12_part_67 rfl (Or.inr ⟨rfl, rfl, rfl, by decide⟩) rfl h
          · have h := h.2 q10
            refine wp_iload_n dX12_part_45 rfl ?_
            refine wp_i2l dX12_part_46 o9 ?_
            refine wp_iload dX12_part_47 rfl ?_
            refine wp_i2l dX12_part_49 o5 ?_
            refine wp_ladd dX12_part_50 ?_
            refine wp_aload_n dX12_part_51 rfl (by decide) ?_
            refine wp_getf (t := Rv 95) 95 dX12_part_52 (fl_X12_29 rfl) kd_88 rfl rfl ?_
            refine wp_iload_n dX12_part_55 rfl ?_
            obtain ⟨o12, h⟩ := h
            obtain ⟨o13, h⟩ := h
            refine wp_iald (M7 95 x2) dX12_part_56 kd_95 sz_95 o12 o13 (⟨by omega, by omega⟩) rfl ?_
            obtain ⟨o14, h⟩ := h
            refine wp_i2l dX12_part_57 o14 ?_
            obtain ⟨o15, h⟩ := h
            obtain ⟨o16, h⟩ := h
            refine wp_lcmp dX12_part_58 (Or.inr ⟨o15, o16⟩) ?_
            refine wp_if_le (tgt := 68) dX12_part_59 (by decide) lc_inr (fun q17 => ?_) (fun q17 => ?_)
            · have q17 := lc_le.mp q17
              have h := h.1 q17
              refine wp_iconst dX12_part_68 ?_
              refine wp_istore (L2 := [some (Rv 88), some (Iv x1), some (Iv x2), some (Iv x3), some (Iv x4), some (Iv 0)]) dX12_part_69 (Nat.le_of_ble_eq_true rfl) (Nat.le_of_ble_eq_true rfl) rfl ?_
              exact h
            · have q17 := lc_gt.mp q17
              have h := h.2 q17
              refine wp_aload_n dX12_part_62 rfl (by decide) ?_
              refine wp_iconst dX12_part_63 ?_
              refine wp_callV (e1 := 0) (as := [Iv 2]) (S := []) dX12_part_64 (cs_X12_134 rfl) kd_88 rfl rfl (Nat.le_of_ble_eq_true rfl) (Nat.le_of_ble_eq_true rfl) h (fun v18 M18 q18 r18 => ?_)
              obtain ⟨z18, rfl⟩ := retV_i r18 rfl
              have h := q18
              exact wp_iret dX12_part_67 rfl (Or.inr ⟨rfl, rfl, rfl, by decide⟩) rfl h
        · have h := h.2 q8
          refine wp_aload_n dX12_part_35 rfl (by decide) ?_
          refine wp_iconst dX12_part_36 ?_
          refine wp_callV (e1 := 0) (as := [Iv 1]) (S := []) dX12_part_37 (cs_X12_134 rfl) kd_88 rfl rfl (Nat.le_of_ble_eq_true rfl) (Nat.le_of_ble_eq_true rfl) h (fun v19 M19 q19 r19 => ?_)
          obtain ⟨z19, rfl⟩ := retV_i r19 rfl
          have h := q19
          exact wp_iret dX12_part_40 rfl (Or.inr ⟨rfl, rfl, rfl, by decide⟩) rfl h
      · have h := h.2 q6
        refine wp_aload_n dX12_part_21 rfl (by decide) ?_
        refine wp_iconst dX12_part_22 ?_
        refine wp_callV (e1 := 0) (as := [Iv 5]) (S := []) dX12_part_23 (cs_X12_134 rfl) kd_88 rfl rfl (Nat.le_of_ble_eq_true rfl) (Nat.le_of_ble_eq_true rfl) h (fun v20 M20 q20 r20 => ?_)
        obtain ⟨z20, rfl⟩ := retV_i r20 rfl
        have h := q20
        exact wp_iret dX12_part_26 rfl (Or.inr ⟨rfl, rfl, rfl, by decide⟩) rfl h
    · have h := h.2 q4
      refine wp_iconst dX12_part_14 ?_
      exact wp_iret dX12_part_15 rfl (Or.inr ⟨rfl, rfl, rfl, by decide⟩) rfl h
theorem eX12_part {x1 x2 x3 x4 : Int}  {M : Mem} {Q : Vl → Mem → Prop} (h : cl 0 yX12_isWord [Iv x1] M (QI (fun z1 M1 => ((z1 = 0 → Q (Iv (-1)) M1) ∧ (z1 ≠ 0 → cl 0 yX12_isWord [Iv x2] M1 (QI (fun z3 M3 => ((z3 ≠ 0 → inr x4 ∧ ((0 ≤ x4 → cl 0 yX12_isThere [Rv 88, Iv x2] M3 (QI (fun z7 M7 => ((z7 ≠ 0 → inr x3 ∧ ((x3 < 0 → cl 0 yX12_meets [Rv 88, Iv 2] M7 (QI (fun z11 M11 => (Q (Iv z11) M11)))) ∧ (0 ≤ x3 → 0 ≤ x2 ∧ (x2 < 8 ∧ (inr (M7 95 x2) ∧ (inL (x3 + x4) ∧ (inL (M7 95 x2) ∧ (((x3 + x4) ≤ (M7 95 x2) → wp 0 yX12_part 71 [some (Rv 88), some (Iv x1), some (Iv x2), some (Iv x3), some (Iv x4), some (Iv 0)] [] M7 Q) ∧ ((M7 95 x2) < (x3 + x4) → cl 0 yX12_meets [Rv 88, Iv 2] M7 (QI (fun z18 M18 => (Q (Iv z18) M18)))))))))))) ∧ (z7 = 0 → cl 0 yX12_meets [Rv 88, Iv 1] M7 (QI (fun z19 M19 => (Q (Iv z19) M19)))))))) ∧ (x4 < 0 → cl 0 yX12_meets [Rv 88, Iv 5] M3 (QI (fun z20 M20 => (Q (Iv z20) M20)))))) ∧ (z3 = 0 → Q (Iv (-1)) M3))))))))) : cl 0 yX12_part [Rv 88, Iv x1, Iv x2, Iv x3, Iv x4] M Q := enterG (by decide +kernel) (by exact Or.inr (Or.inl rfl)) (Nat.le_of_ble_eq_true rfl) rfl (gX12_part h)
theorem gX12_part_71 {x1 x2 x3 x4 x5 : Int}  {M : Mem} {Q : Vl → Mem → Prop} (h : inr x5 ∧ (inr x4 ∧ ((x4 ≤ x5 → cl 0 yX12_comes [Rv 88, Iv x1, Iv 2, Iv x2, Iv 0] (up M 88 17 x4) (QI (fun z4 M4 => (Q (Iv z4) M4)))) ∧ (x5 < x4 → cl 0 yX12_at0 [Rv 88, Iv x2, Iv (x3 + x5)] M (QI (fun z5 M5 => (0 ≤ x5 ∧ (x5 < 40 ∧ (wp 0 yX12_part 71 [some (Rv 88), some (Iv x1), some (Iv x2), some (Iv x3), some (Iv x4), some (Iv (x5 + 1))] [] (up M5 100 x5 z5) Q))))))))) : wp 0 yX12_part 71 [some (Rv 88), some (Iv x1), some (Iv x2), some (Iv x3), some (Iv x4), some (Iv x5)] [] M Q := by
  refine wp_iload dX12_part_71 rfl ?_
  refine wp_iload dX12_part_73 rfl ?_
  obtain ⟨o1, h⟩ := h
  obtain ⟨o2, h⟩ := h
  refine wp_icmp_ge (tgt := 100) dX12_part_75 (by decide) o1 o2 (fun q3 => ?_) (fun q3 => ?_)
  · have h := h.1 q3
    refine wp_aload_n dX12_part_100 rfl (by decide) ?_
    refine wp_iload dX12_part_101 rfl ?_
    refine wp_putf (x := x4) dX12_part_103 (fl_X12_151 rfl) kd_88 (fun _ => rfl) rfl rfl trivial ?_
    refine wp_aload_n dX12_part_106 rfl (by decide) ?_
    refine wp_iload_n dX12_part_107 rfl ?_
    refine wp_iconst dX12_part_108 ?_
    refine wp_iload_n dX12_part_109 rfl ?_
    refine wp_iconst dX12_part_110 ?_
    refine wp_callV (e1 := 0) (as := [Iv x1, Iv 2, Iv x2, Iv 0]) (S := []) dX12_part_111 (cs_X12_160 rfl) kd_88 rfl rfl (Nat.le_of_ble_eq_true rfl) (Nat.le_of_ble_eq_true rfl) h (fun v4 M4 q4 r4 => ?_)
    obtain ⟨z4, rfl⟩ := retV_i r4 rfl
    have h := q4
    exact wp_iret dX12_part_114 rfl (Or.inr ⟨rfl, rfl, rfl, by decide⟩) rfl h
  · have h := h.2 q3
    refine wp_aload_n dX12_part_78 rfl (by decide) ?_
    refine wp_getf (t := Rv 100) 100 dX12_part_79 (fl_X12_44 rfl) kd_88 rfl rfl ?_
    refine wp_iload dX12_part_82 rfl ?_
    refine wp_aload_n dX12_part_84 rfl (by decide) ?_
    refine wp_iload_n dX12_part_85 rfl ?_
    refine wp_iload_n dX12_part_86 rfl ?_
    refine wp_iload dX12_part_87 rfl ?_
    refine wp_iadd dX12_part_89 ?_
    refine wp_callV (e1 := 0) (as := [Iv x2, Iv (x3 + x5)]) (S := [Iv x5, Rv 100]) dX12_part_90 (cs_X12_148 rfl) kd_88 rfl rfl (Nat.le_of_ble_eq_true rfl) (Nat.le_of_ble_eq_true rfl) h (fun v5 M5 q5 r5 => ?_)
    obtain ⟨z5, rfl⟩ := retV_i r5 rfl
    have h := q5
    obtain ⟨o6, h⟩ := h
    obtain ⟨o7, h⟩ := h
    refine wp_iast dX12_part_93 kd_100 sz_100 o6 o7 (⟨by omega, by omega⟩) ?_
    refine wp_iinc (L2 := [some (Rv 88), some (Iv x1), some (Iv x2), some (Iv x3), some (Iv x4), some (Iv (x5 + 1))]) dX12_part_94 rfl (Nat.le_of_ble_eq_true rfl) (Nat.le_of_ble_eq_true rfl) rfl ?_
    refine wp_goto (tgt := 71) dX12_part_97 (by decide) ?_
    exact h
theorem gX12_turn {x1 x2 x3 : Int}  {M : Mem} {Q : Vl → Mem → Prop} (h : cl 0 yX12_isWord [Iv x1] M (QI (fun z1 M1 => ((z1 = 0 → cl 0 yX12_needWord [Rv 88, Iv 0, Iv x2] M1 (QI (fun z3 M3 => (inr z3 ∧ ((0 ≤ z3 → 0 ≤ x2 ∧ (x2 < 8 ∧ (wp 0 yX12_turn 49 [some (Rv 88), some (Iv x1), some (Iv x2), some (Iv x3), some (Iv z3), some (Iv 0)] [] (up M3 88 17 (M3 95 x2)) Q))) ∧ (z3 < 0 → Q (Iv z3) M3)))))) ∧ (z1 ≠ 0 → cl 0 yX12_in [Iv x3, Iv 0, Iv 1] M1 (QI (fun z8 M8 => ((z8 = 0 → cl 0 yX12_needWord [Rv 88, Iv 0, Iv x2] M8 (QI (fun z10 M10 => (inr z10 ∧ ((0 ≤ z10 → 0 ≤ x2 ∧ (x2 < 8 ∧ (wp 0 yX12_turn 49 [some (Rv 88), some (Iv x1), some (Iv x2), some (Iv x3), some (Iv z10), some (Iv 0)] [] (up M10 88 17 (M10 95 x2)) Q))) ∧ (z10 < 0 → Q (Iv z10) M10)))))) ∧ (z8 ≠ 0 → cl 0 yX12_needWord [Rv 88, Iv 1, Iv x2] M8 (QI (fun z15 M15 => (inr z15 ∧ ((0 ≤ z15 → 0 ≤ x2 ∧ (x2 < 8 ∧ (wp 0 yX12_turn 49 [some (Rv 88), some (Iv x1), some (Iv x2), some (Iv x3), some (Iv z15), some (Iv 0)] [] (up M15 88 17 (M15 95 x2)) Q))) ∧ (z15 < 0 → Q (Iv z15) M15)))))))))))))) : wp 0 yX12_turn 0 [some (Rv 88), some (Iv x1), some (Iv x2), some (Iv x3), none, none] [] M Q := by
  refine wp_aload_n dX12_turn_0 rfl (by decide) ?_
  refine wp_iload_n dX12_turn_1 rfl ?_
  refine wp_callS (e1 := 0) (as := [Iv x1]) (S := [Rv 88]) dX12_turn_2 (cs_X12_154 rfl) rfl rfl (Nat.le_of_ble_eq_true rfl) (Nat.le_of_ble_eq_true rfl) h (fun v1 M1 q1 r1 => ?_)
  obtain ⟨z1, rfl, hz1⟩ := retV_z r1 rfl
  have h := q1
  refine wp_if_eq (tgt := 21) dX12_turn_5 (by decide) (by have := hz1; omega) (fun q2 => ?_) (fun q2 => ?_)
  · have h := h.1 q2
    refine wp_iconst dX12_turn_21 ?_
    refine wp_iload_n dX12_turn_22 rfl ?_
    refine wp_callV (e1 := 0) (as := [Iv 0, Iv x2]) (S := []) dX12_turn_23 (cs_X12_192 rfl) kd_88 rfl rfl (Nat.le_of_ble_eq_true rfl) (Nat.le_of_ble_eq_true rfl) h (fun v3 M3 q3 r3 => ?_)
    obtain ⟨z3, rfl⟩ := retV_i r3 rfl
    have h := q3
    refine wp_istore (L2 := [some (Rv 88), some (Iv x1), some (Iv x2), some (Iv x3), some (Iv z3), none]) dX12_turn_26 (Nat.le_of_ble_eq_true rfl) (Nat.le_of_ble_eq_true rfl) rfl ?_
    refine wp_iload dX12_turn_28 rfl ?_
    obtain ⟨o4, h⟩ := h
    refine wp_if_ge (tgt := 36) dX12_turn_30 (by decide) o4 (fun q5 => ?_) (fun q5 => ?_)
    · have h := h.1 q5
      refine wp_aload_n dX12_turn_36 rfl (by decide) ?_
      refine wp_aload_n dX12_turn_37 rfl (by decide) ?_
      refine wp_getf (t := Rv 95) 95 dX12_turn_38 (fl_X12_29 rfl) kd_88 rfl rfl ?_
      refine wp_iload_n dX12_turn_41 rfl ?_
      obtain ⟨o6, h⟩ := h
      obtain ⟨o7, h⟩ := h
      refine wp_iald (M3 95 x2) dX12_turn_42 kd_95 sz_95 o6 o7 (⟨by omega, by omega⟩) rfl ?_
      refine wp_putf (x := (M3 95 x2)) dX12_turn_43 (fl_X12_151 rfl) kd_88 (fun _ => rfl) rfl rfl trivial ?_
      refine wp_iconst dX12_turn_46 ?_
      refine wp_istore (L2 := [some (Rv 88), some (Iv x1), some (Iv x2), some (Iv x3), some (Iv z3), some (Iv 0)]) dX12_turn_47 (Nat.le_of_ble_eq_true rfl) (Nat.le_of_ble_eq_true rfl) rfl ?_
      exact h
    · have h := h.2 q5
      refine wp_iload dX12_turn_33 rfl ?_
      exact wp_iret dX12_turn_35 rfl (Or.inr ⟨rfl, rfl, rfl, by decide⟩) rfl h
  · have h := h.2 q2
    refine wp_iload_n dX12_turn_8 rfl ?_
    refine wp_iconst dX12_turn_9 ?_
    refine wp_iconst dX12_turn_10 ?_
    refine wp_callS (e1 := 0) (as := [Iv x3, Iv 0, Iv 1]) (S := [Rv 88]) dX12_turn_11 (cs_X12_117 rfl) rfl rfl (Nat.le_of_ble_eq_true rfl) (Nat.le_of_ble_eq_true rfl) h (fun v8 M8 q8 r8 => ?_)
    obtain ⟨z8, rfl, hz8⟩ := retV_z r8 rfl
    have h := q8
    refine wp_if_eq (tgt := 21) dX12_turn_14 (by decide) (by have := hz8; omega) (fun q9 => ?_) (fun q9 => ?_)
    · have h := h.1 q9
      refine wp_iconst dX12_turn_21 ?_
      refine wp_iload_n dX12_turn_22 rfl ?_
      refine wp_callV (e1 := 0) (as := [Iv 0, Iv x2]) (S := []) dX12_turn_23 (cs_X12_192 rfl) kd_88 rfl rfl (Nat.le_of_ble_eq_true rfl) (Nat.le_of_ble_eq_true rfl) h (fun v10 M10 q10 r10 => ?_)
      obtain ⟨z10, rfl⟩ := retV_i r10 rfl
      have h := q10
      refine wp_istore (L2 := [some (Rv 88), some (Iv x1), some (Iv x2), some (Iv x3), some (Iv z10), none]) dX12_turn_26 (Nat.le_of_ble_eq_true rfl) (Nat.le_of_ble_eq_true rfl) rfl ?_
      refine wp_iload dX12_turn_28 rfl ?_
      obtain ⟨o11, h⟩ := h
      refine wp_if_ge (tgt := 36) dX12_turn_30 (by decide) o11 (fun q12 => ?_) (fun q12 => ?_)
      · have h := h.1 q12
        refine wp_aload_n dX12_turn_36 rfl (by decide) ?_
        refine wp_aload_n dX12_turn_37 rfl (by decide) ?_
        refine wp_getf (t := Rv 95) 95 dX12_turn_38 (fl_X12_29 rfl) kd_88 rfl rfl ?_
        refine wp_iload_n dX12_turn_41 rfl ?_
        obtain ⟨o13, h⟩ := h
        obtain ⟨o14, h⟩ := h
        refine wp_iald (M10 95 x2) dX12_turn_42 kd_95 sz_95 o13 o14 (⟨by omega, by omega⟩) rfl ?_
        refine wp_putf (x := (M10 95 x2)) dX12_turn_43 (fl_X12_151 rfl) kd_88 (fun _ => rfl) rfl rfl trivial ?_
        refine wp_iconst dX12_turn_46 ?_
        refine wp_istore (L2 := [some (Rv 88), some (Iv x1), some (Iv x2), some (Iv x3), some (Iv z10), some (Iv 0)]) dX12_turn_47 (Nat.le_of_ble_eq_true rfl) (Nat.le_of_ble_eq_true rfl) rfl ?_
        exact h
      · have h := h.2 q12
        refine wp_iload dX12_turn_33 rfl ?_
        exact wp_iret dX12_turn_35 rfl (Or.inr ⟨rfl, rfl, rfl, by decide⟩) rfl h
    · have h := h.2 q9
      refine wp_iconst dX12_turn_17 ?_
      refine wp_goto (tgt := 22) dX12_turn_18 (by decide) ?_
      refine wp_iload_n dX12_turn_22 rfl ?_
      refine wp_callV (e1 := 0) (as := [Iv 1, Iv x2]) (S := []) dX12_turn_23 (cs_X12_192 rfl) kd_88 rfl rfl (Nat.le_of_ble_eq_true rfl) (Nat.le_of_ble_eq_true rfl) h (fun v15 M15 q15 r15 => ?_)
      obtain ⟨z15, rfl⟩ := retV_i r15 rfl
      have h := q15
      refine wp_istore (L2 := [some (Rv 88), some (Iv x1), some (Iv x2), some (Iv x3), some (Iv z15), none]) dX12_turn_26 (Nat.le_of_ble_eq_true rfl) (Nat.le_of_ble_eq_true rfl) rfl ?_
      refine wp_iload dX12_turn_28 rfl ?_
      obtain ⟨o16, h⟩ := h
      refine wp_if_ge (tgt := 36) dX12_turn_30 (by decide) o16 (fun q17 => ?_) (fun q17 => ?_)
      · have h := h.1 q17
        refine wp_aload_n dX12_turn_36 rfl (by decide) ?_
        refine wp_aload_n dX12_turn_37 rfl (by decide) ?_
        refine wp_getf (t := Rv 95) 95 dX12_turn_38 (fl_X12_29 rfl) kd_88 rfl rfl ?_
        refine wp_iload_n dX12_turn_41 rfl ?_
        obtain ⟨o18, h⟩ := h
        obtain ⟨o19, h⟩ := h
        refine wp_iald (M15 95 x2) dX12_turn_42 kd_95 sz_95 o18 o19 (⟨by omega, by omega⟩) rfl ?_
        refine wp_putf (x := (M15 95 x2)) dX12_turn_43 (fl_X12_151 rfl) kd_88 (fun _ => rfl) rfl rfl trivial ?_
        refine wp_iconst dX12_turn_46 ?_
        refine wp_istore (L2 := [some (Rv 88), some (Iv x1), some (Iv x2), some (Iv x3), some (Iv z15), some (Iv 0)]) dX12_turn_47 (Nat.le_of_ble_eq_true rfl) (Nat.le_of_ble_eq_true rfl) rfl ?_
        exact h
      · have h := h.2 q17
        refine wp_iload dX12_turn_33 rfl ?_
        exact wp_iret dX12_turn_35 rfl (Or.inr ⟨rfl, rfl, rfl, by decide⟩) rfl h
theorem eX12_turn {x1 x2 x3 : Int}  {M : Mem} {Q : Vl → Mem → Prop} (h : cl 0 yX12_isWord [Iv x1] M (QI (fun z1 M1 => ((z1 = 0 → cl 0 yX12_needWord [Rv 88, Iv 0, Iv x2] M1 (QI (fun z3 M3 => (inr z3 ∧ ((0 ≤ z3 → 0 ≤ x2 ∧ (x2 < 8 ∧ (wp 0 yX12_turn 49 [some (Rv 88), some (Iv x1), some (Iv x2), some (Iv x3), some (Iv z3), some (Iv 0)] [] (up M3 88 17 (M3 95 x2)) Q))) ∧ (z3 < 0 → Q (Iv z3) M3)))))) ∧ (z1 ≠ 0 → cl 0 yX12_in [Iv x3, Iv 0, Iv 1] M1 (QI (fun z8 M8 => ((z8 = 0 → cl 0 yX12_needWord [Rv 88, Iv 0, Iv x2] M8 (QI (fun z10 M10 => (inr z10 ∧ ((0 ≤ z10 → 0 ≤ x2 ∧ (x2 < 8 ∧ (wp 0 yX12_turn 49 [some (Rv 88), some (Iv x1), some (Iv x2), some (Iv x3), some (Iv z10), some (Iv 0)] [] (up M10 88 17 (M10 95 x2)) Q))) ∧ (z10 < 0 → Q (Iv z10) M10)))))) ∧ (z8 ≠ 0 → cl 0 yX12_needWord [Rv 88, Iv 1, Iv x2] M8 (QI (fun z15 M15 => (inr z15 ∧ ((0 ≤ z15 → 0 ≤ x2 ∧ (x2 < 8 ∧ (wp 0 yX12_turn 49 [some (Rv 88), some (Iv x1), some (Iv x2), some (Iv x3), some (Iv z15), some (Iv 0)] [] (up M15 88 17 (M15 95 x2)) Q))) ∧ (z15 < 0 → Q (Iv z15) M15)))))))))))))) : cl 0 yX12_turn [Rv 88, Iv x1, Iv x2, Iv x3] M Q := enterG (by decide +kernel) (by exact Or.inr (Or.inl rfl)) (Nat.le_of_ble_eq_true rfl) rfl (gX12_turn h)
theorem gX12_turn_49 {x1 x2 x3 x4 x5 : Int}  {M : Mem} {Q : Vl → Mem → Prop} (h : inr x5 ∧ (inr (M 88 17) ∧ (((M 88 17) ≤ x5 → cl 0 yX12_comes [Rv 88, Iv x1, Iv 3, Iv x2, Iv x3] M (QI (fun z4 M4 => (Q (Iv z4) M4)))) ∧ (x5 < (M 88 17) → inr x3 ∧ ((x3 ≠ 0 → cl 0 yX12_at0 [Rv 88, Iv x2, Iv x5] M (QI (fun z7 M7 => (0 ≤ x5 ∧ (x5 < 40 ∧ (wp 0 yX12_turn 49 [some (Rv 88), some (Iv x1), some (Iv x2), some (Iv x3), some (Iv x4), some (Iv (x5 + 1))] [] (up M7 100 x5 (((M 88 11) - 1) - z7)) Q)))))) ∧ (x3 = 0 → cl 0 yX12_at0 [Rv 88, Iv x2, Iv (((M 88 17) - 1) - x5)] M (QI (fun z10 M10 => (0 ≤ x5 ∧ (x5 < 40 ∧ (wp 0 yX12_turn 49 [some (Rv 88), some (Iv x1), some (Iv x2), some (Iv x3), some (Iv x4), some (Iv (x5 + 1))] [] (up M10 100 x5 z10) Q))))))))))) : wp 0 yX12_turn 49 [some (Rv 88), some (Iv x1), some (Iv x2), some (Iv x3), some (Iv x4), some (Iv x5)] [] M Q := by
  refine wp_iload dX12_turn_49 rfl ?_
  refine wp_aload_n dX12_turn_51 rfl (by decide) ?_
  refine wp_getf (t := Iv (M 88 17)) (M 88 17) dX12_turn_52 (fl_X12_151 rfl) kd_88 rfl rfl ?_
  obtain ⟨o1, h⟩ := h
  obtain ⟨o2, h⟩ := h
  refine wp_icmp_ge (tgt := 106) dX12_turn_55 (by decide) o1 o2 (fun q3 => ?_) (fun q3 => ?_)
  · have h := h.1 q3
    refine wp_aload_n dX12_turn_106 rfl (by decide) ?_
    refine wp_iload_n dX12_turn_107 rfl ?_
    refine wp_iconst dX12_turn_108 ?_
    refine wp_iload_n dX12_turn_109 rfl ?_
    refine wp_iload_n dX12_turn_110 rfl ?_
    refine wp_callV (e1 := 0) (as := [Iv x1, Iv 3, Iv x2, Iv x3]) (S := []) dX12_turn_111 (cs_X12_160 rfl) kd_88 rfl rfl (Nat.le_of_ble_eq_true rfl) (Nat.le_of_ble_eq_true rfl) h (fun v4 M4 q4 r4 => ?_)
    obtain ⟨z4, rfl⟩ := retV_i r4 rfl
    have h := q4
    exact wp_iret dX12_turn_114 rfl (Or.inr ⟨rfl, rfl, rfl, by decide⟩) rfl h
  · have h := h.2 q3
    refine wp_aload_n dX12_turn_58 rfl (by decide) ?_
    refine wp_getf (t := Rv 100) 100 dX12_turn_59 (fl_X12_44 rfl) kd_88 rfl rfl ?_
    refine wp_iload dX12_turn_62 rfl ?_
    refine wp_iload_n dX12_turn_64 rfl ?_
    obtain ⟨o5, h⟩ := h
    refine wp_if_ne (tgt := 85) dX12_turn_65 (by decide) o5 (fun q6 => ?_) (fun q6 => ?_)
    · have h := h.1 q6
      refine wp_aload_n dX12_turn_85 rfl (by decide) ?_
      refine wp_getf (t := Iv (M 88 11)) (M 88 11) dX12_turn_86 (fl_X12_110 rfl) kd_88 rfl rfl ?_
      refine wp_iconst dX12_turn_89 ?_
      refine wp_isub dX12_turn_90 ?_
      refine wp_aload_n dX12_turn_91 rfl (by decide) ?_
      refine wp_iload_n dX12_turn_92 rfl ?_
      refine wp_iload dX12_turn_93 rfl ?_
      refine wp_callV (e1 := 0) (as := [Iv x2, Iv x5]) (S := [Iv ((M 88 11) - 1), Iv x5, Rv 100]) dX12_turn_95 (cs_X12_148 rfl) kd_88 rfl rfl (Nat.le_of_ble_eq_true rfl) (Nat.le_of_ble_eq_true rfl) h (fun v7 M7 q7 r7 => ?_)
      obtain ⟨z7, rfl⟩ := retV_i r7 rfl
      have h := q7
      refine wp_isub dX12_turn_98 ?_
      obtain ⟨o8, h⟩ := h
      obtain ⟨o9, h⟩ := h
      refine wp_iast dX12_turn_99 kd_100 sz_100 o8 o9 (⟨by omega, by omega⟩) ?_
      refine wp_iinc (L2 := [some (Rv 88), some (Iv x1), some (Iv x2), some (Iv x3), some (Iv x4), some (Iv (x5 + 1))]) dX12_turn_100 rfl (Nat.le_of_ble_eq_true rfl) (Nat.le_of_ble_eq_true rfl) rfl ?_
      refine wp_goto (tgt := 49) dX12_turn_103 (by decide) ?_
      exact h
    · have h := h.2 q6
      refine wp_aload_n dX12_turn_68 rfl (by decide) ?_
      refine wp_iload_n dX12_turn_69 rfl ?_
      refine wp_aload_n dX12_turn_70 rfl (by decide) ?_
      refine wp_getf (t := Iv (M 88 17)) (M 88 17) dX12_turn_71 (fl_X12_151 rfl) kd_88 rfl rfl ?_
      refine wp_iconst dX12_turn_74 ?_
      refine wp_isub dX12_turn_75 ?_
      refine wp_iload dX12_turn_76 rfl ?_
      refine wp_isub dX12_turn_78 ?_
      refine wp_callV (e1 := 0) (as := [Iv x2, Iv (((M 88 17) - 1) - x5)]) (S := [Iv x5, Rv 100]) dX12_turn_79 (cs_X12_148 rfl) kd_88 rfl rfl (Nat.le_of_ble_eq_true rfl) (Nat.le_of_ble_eq_true rfl) h (fun v10 M10 q10 r10 => ?_)
      obtain ⟨z10, rfl⟩ := retV_i r10 rfl
      have h := q10
      refine wp_goto (tgt := 99) dX12_turn_82 (by decide) ?_
      obtain ⟨o11, h⟩ := h
      obtain ⟨o12, h⟩ := h
      refine wp_iast dX12_turn_99 kd_100 sz_100 o11 o12 (⟨by omega, by omega⟩) ?_
      refine wp_iinc (L2 := [some (Rv 88), some (Iv x1), some (Iv x2), some (Iv x3), some (Iv x4), some (Iv (x5 + 1))]) dX12_turn_100 rfl (Nat.le_of_ble_eq_true rfl) (Nat.le_of_ble_eq_true rfl) rfl ?_
      refine wp_goto (tgt := 49) dX12_turn_103 (by decide) ?_
      exact h
theorem gX12_erase {x1 : Int}  {M : Mem} {Q : Vl → Mem → Prop} (h : cl 0 yX12_needWord [Rv 88, Iv 1, Iv x1] M (QI (fun z1 M1 => (inr z1 ∧ ((0 ≤ z1 → 0 ≤ x1 ∧ (x1 < 8 ∧ (Q (Iv 1) (up M1 95 x1 (-1))))) ∧ (z1 < 0 → Q (Iv z1) M1)))))) : wp 0 yX12_erase 0 [some (Rv 88), some (Iv x1), none] [] M Q := by
  refine wp_aload_n dX12_erase_0 rfl (by decide) ?_
  refine wp_iconst dX12_erase_1 ?_
  refine wp_iload_n dX12_erase_2 rfl ?_
  refine wp_callV (e1 := 0) (as := [Iv 1, Iv x1]) (S := []) dX12_erase_3 (cs_X12_192 rfl) kd_88 rfl rfl (Nat.le_of_ble_eq_true rfl) (Nat.le_of_ble_eq_true rfl) h (fun v1 M1 q1 r1 => ?_)
  obtain ⟨z1, rfl⟩ := retV_i r1 rfl
  have h := q1
  refine wp_istore_n (L2 := [some (Rv 88), some (Iv x1), some (Iv z1)]) dX12_erase_6 (Nat.le_of_ble_eq_true rfl) (Nat.le_of_ble_eq_true rfl) rfl ?_
  refine wp_iload_n dX12_erase_7 rfl ?_
  obtain ⟨o2, h⟩ := h
  refine wp_if_ge (tgt := 13) dX12_erase_8 (by decide) o2 (fun q3 => ?_) (fun q3 => ?_)
  · have h := h.1 q3
    refine wp_aload_n dX12_erase_13 rfl (by decide) ?_
    refine wp_getf (t := Rv 95) 95 dX12_erase_14 (fl_X12_29 rfl) kd_88 rfl rfl ?_
    refine wp_iload_n dX12_erase_17 rfl ?_
    refine wp_iconst dX12_erase_18 ?_
    obtain ⟨o4, h⟩ := h
    obtain ⟨o5, h⟩ := h
    refine wp_iast dX12_erase_19 kd_95 sz_95 o4 o5 (⟨by omega, by omega⟩) ?_
    refine wp_iconst dX12_erase_20 ?_
    exact wp_iret dX12_erase_21 rfl (Or.inr ⟨rfl, rfl, rfl, by decide⟩) rfl h
  · have h := h.2 q3
    refine wp_iload_n dX12_erase_11 rfl ?_
    exact wp_iret dX12_erase_12 rfl (Or.inr ⟨rfl, rfl, rfl, by decide⟩) rfl h
theorem eX12_erase {x1 : Int}  {M : Mem} {Q : Vl → Mem → Prop} (h : cl 0 yX12_needWord [Rv 88, Iv 1, Iv x1] M (QI (fun z1 M1 => (inr z1 ∧ ((0 ≤ z1 → 0 ≤ x1 ∧ (x1 < 8 ∧ (Q (Iv 1) (up M1 95 x1 (-1))))) ∧ (z1 < 0 → Q (Iv z1) M1)))))) : cl 0 yX12_erase [Rv 88, Iv x1] M Q := enterG (by decide +kernel) (by exact Or.inr (Or.inl rfl)) (Nat.le_of_ble_eq_true rfl) rfl (gX12_erase h)
theorem gX12_size {x1 : Int}  {M : Mem} {Q : Vl → Mem → Prop} (h : cl 0 yX12_needWord [Rv 88, Iv 1, Iv x1] M (QI (fun z1 M1 => (inr z1 ∧ ((0 ≤ z1 → 0 ≤ x1 ∧ (x1 < 8 ∧ (Q (Iv (M1 95 x1)) M1))) ∧ (z1 < 0 → Q (Iv z1) M1)))))) : wp 0 yX12_size 0 [some (Rv 88), some (Iv x1), none] [] M Q := by
  refine wp_aload_n dX12_size_0 rfl (by decide) ?_
  refine wp_iconst dX12_size_1 ?_
  refine wp_iload_n dX12_size_2 rfl ?_
  refine wp_callV (e1 := 0) (as := [Iv 1, Iv x1]) (S := []) dX12_size_3 (cs_X12_192 rfl) kd_88 rfl rfl (Nat.le_of_ble_eq_true rfl) (Nat.le_of_ble_eq_true rfl) h (fun v1 M1 q1 r1 => ?_)
  obtain ⟨z1, rfl⟩ := retV_i r1 rfl
  have h := q1
  refine wp_istore_n (L2 := [some (Rv 88), some (Iv x1), some (Iv z1)]) dX12_size_6 (Nat.le_of_ble_eq_true rfl) (Nat.le_of_ble_eq_true rfl) rfl ?_
  refine wp_iload_n dX12_size_7 rfl ?_
  obtain ⟨o2, h⟩ := h
  refine wp_if_ge (tgt := 15) dX12_size_8 (by decide) o2 (fun q3 => ?_) (fun q3 => ?_)
  · have h := h.1 q3
    refine wp_aload_n dX12_size_15 rfl (by decide) ?_
    refine wp_getf (t := Rv 95) 95 dX12_size_16 (fl_X12_29 rfl) kd_88 rfl rfl ?_
    refine wp_iload_n dX12_size_19 rfl ?_
    obtain ⟨o4, h⟩ := h
    obtain ⟨o5, h⟩ := h
    refine wp_iald (M1 95 x1) dX12_size_20 kd_95 sz_95 o4 o5 (⟨by omega, by omega⟩) rfl ?_
    exact wp_iret dX12_size_21 rfl (Or.inr ⟨rfl, rfl, rfl, by decide⟩) rfl h
  · have h := h.2 q3
    refine wp_iload_n dX12_size_11 rfl ?_
    refine wp_goto (tgt := 21) dX12_size_12 (by decide) ?_
    exact wp_iret dX12_size_21 rfl (Or.inr ⟨rfl, rfl, rfl, by decide⟩) rfl h
theorem eX12_size {x1 : Int}  {M : Mem} {Q : Vl → Mem → Prop} (h : cl 0 yX12_needWord [Rv 88, Iv 1, Iv x1] M (QI (fun z1 M1 => (inr z1 ∧ ((0 ≤ z1 → 0 ≤ x1 ∧ (x1 < 8 ∧ (Q (Iv (M1 95 x1)) M1))) ∧ (z1 < 0 → Q (Iv z1) M1)))))) : cl 0 yX12_size [Rv 88, Iv x1] M Q := enterG (by decide +kernel) (by exact Or.inr (Or.inl rfl)) (Nat.le_of_ble_eq_true rfl) rfl (gX12_size h)
theorem gX12_letter {x1 x2 : Int}  {M : Mem} {Q : Vl → Mem → Prop} (h : cl 0 yX12_needWord [Rv 88, Iv 1, Iv x1] M (QI (fun z1 M1 => (inr z1 ∧ ((0 ≤ z1 → 0 ≤ x1 ∧ (x1 < 8 ∧ (cl 0 yX12_in [Iv x2, Iv 0, Iv ((M1 95 x1) - 1)] M1 (QI (fun z6 M6 => ((z6 = 0 → cl 0 yX12_meets [Rv 88, Iv 2] M6 (QI (fun z8 M8 => (Q (Iv z8) M8)))) ∧ (z6 ≠ 0 → cl 0 yX12_at0 [Rv 88, Iv x1, Iv x2] M6 (QI (fun z9 M9 => (Q (Iv z9) M9)))))))))) ∧ (z1 < 0 → Q (Iv z1) M1)))))) : wp 0 yX12_letter 0 [some (Rv 88), some (Iv x1), some (Iv x2), none] [] M Q := by
  refine wp_aload_n dX12_letter_0 rfl (by decide) ?_
  refine wp_iconst dX12_letter_1 ?_
  refine wp_iload_n dX12_letter_2 rfl ?_
  refine wp_callV (e1 := 0) (as := [Iv 1, Iv x1]) (S := []) dX12_letter_3 (cs_X12_192 rfl) kd_88 rfl rfl (Nat.le_of_ble_eq_true rfl) (Nat.le_of_ble_eq_true rfl) h (fun v1 M1 q1 r1 => ?_)
  obtain ⟨z1, rfl⟩ := retV_i r1 rfl
  have h := q1
  refine wp_istore_n (L2 := [some (Rv 88), some (Iv x1), some (Iv x2), some (Iv z1)]) dX12_letter_6 (Nat.le_of_ble_eq_true rfl) (Nat.le_of_ble_eq_true rfl) rfl ?_
  refine wp_iload_n dX12_letter_7 rfl ?_
  obtain ⟨o2, h⟩ := h
  refine wp_if_ge (tgt := 15) dX12_letter_8 (by decide) o2 (fun q3 => ?_) (fun q3 => ?_)
  · have h := h.1 q3
    refine wp_iload_n dX12_letter_15 rfl ?_
    refine wp_iconst dX12_letter_16 ?_
    refine wp_aload_n dX12_letter_17 rfl (by decide) ?_
    refine wp_getf (t := Rv 95) 95 dX12_letter_18 (fl_X12_29 rfl) kd_88 rfl rfl ?_
    refine wp_iload_n dX12_letter_21 rfl ?_
    obtain ⟨o4, h⟩ := h
    obtain ⟨o5, h⟩ := h
    refine wp_iald (M1 95 x1) dX12_letter_22 kd_95 sz_95 o4 o5 (⟨by omega, by omega⟩) rfl ?_
    refine wp_iconst dX12_letter_23 ?_
    refine wp_isub dX12_letter_24 ?_
    refine wp_callS (e1 := 0) (as := [Iv x2, Iv 0, Iv ((M1 95 x1) - 1)]) (S := []) dX12_letter_25 (cs_X12_117 rfl) rfl rfl (Nat.le_of_ble_eq_true rfl) (Nat.le_of_ble_eq_true rfl) h (fun v6 M6 q6 r6 => ?_)
    obtain ⟨z6, rfl, hz6⟩ := retV_z r6 rfl
    have h := q6
    refine wp_if_eq (tgt := 40) dX12_letter_28 (by decide) (by have := hz6; omega) (fun q7 => ?_) (fun q7 => ?_)
    · have h := h.1 q7
      refine wp_aload_n dX12_letter_40 rfl (by decide) ?_
      refine wp_iconst dX12_letter_41 ?_
      refine wp_callV (e1 := 0) (as := [Iv 2]) (S := []) dX12_letter_42 (cs_X12_134 rfl) kd_88 rfl rfl (Nat.le_of_ble_eq_true rfl) (Nat.le_of_ble_eq_true rfl) h (fun v8 M8 q8 r8 => ?_)
      obtain ⟨z8, rfl⟩ := retV_i r8 rfl
      have h := q8
      exact wp_iret dX12_letter_45 rfl (Or.inr ⟨rfl, rfl, rfl, by decide⟩) rfl h
    · have h := h.2 q7
      refine wp_aload_n dX12_letter_31 rfl (by decide) ?_
      refine wp_iload_n dX12_letter_32 rfl ?_
      refine wp_iload_n dX12_letter_33 rfl ?_
      refine wp_callV (e1 := 0) (as := [Iv x1, Iv x2]) (S := []) dX12_letter_34 (cs_X12_148 rfl) kd_88 rfl rfl (Nat.le_of_ble_eq_true rfl) (Nat.le_of_ble_eq_true rfl) h (fun v9 M9 q9 r9 => ?_)
      obtain ⟨z9, rfl⟩ := retV_i r9 rfl
      have h := q9
      refine wp_goto (tgt := 45) dX12_letter_37 (by decide) ?_
      exact wp_iret dX12_letter_45 rfl (Or.inr ⟨rfl, rfl, rfl, by decide⟩) rfl h
  · have h := h.2 q3
    refine wp_iload_n dX12_letter_11 rfl ?_
    refine wp_goto (tgt := 45) dX12_letter_12 (by decide) ?_
    exact wp_iret dX12_letter_45 rfl (Or.inr ⟨rfl, rfl, rfl, by decide⟩) rfl h
theorem eX12_letter {x1 x2 : Int}  {M : Mem} {Q : Vl → Mem → Prop} (h : cl 0 yX12_needWord [Rv 88, Iv 1, Iv x1] M (QI (fun z1 M1 => (inr z1 ∧ ((0 ≤ z1 → 0 ≤ x1 ∧ (x1 < 8 ∧ (cl 0 yX12_in [Iv x2, Iv 0, Iv ((M1 95 x1) - 1)] M1 (QI (fun z6 M6 => ((z6 = 0 → cl 0 yX12_meets [Rv 88, Iv 2] M6 (QI (fun z8 M8 => (Q (Iv z8) M8)))) ∧ (z6 ≠ 0 → cl 0 yX12_at0 [Rv 88, Iv x1, Iv x2] M6 (QI (fun z9 M9 => (Q (Iv z9) M9)))))))))) ∧ (z1 < 0 → Q (Iv z1) M1)))))) : cl 0 yX12_letter [Rv 88, Iv x1, Iv x2] M Q := enterG (by decide +kernel) (by exact Or.inr (Or.inl rfl)) (Nat.le_of_ble_eq_true rfl) rfl (gX12_letter h)
theorem gX12_kind {x1 : Int}  {M : Mem} {Q : Vl → Mem → Prop} (h : cl 0 yX12_needWord [Rv 88, Iv 1, Iv x1] M (QI (fun z1 M1 => (inr z1 ∧ ((0 ≤ z1 → 0 ≤ x1 ∧ (x1 < 8 ∧ (Q (Iv (M1 97 x1)) M1))) ∧ (z1 < 0 → Q (Iv z1) M1)))))) : wp 0 yX12_kind 0 [some (Rv 88), some (Iv x1), none] [] M Q := by
  refine wp_aload_n dX12_kind_0 rfl (by decide) ?_
  refine wp_iconst dX12_kind_1 ?_
  refine wp_iload_n dX12_kind_2 rfl ?_
  refine wp_callV (e1 := 0) (as := [Iv 1, Iv x1]) (S := []) dX12_kind_3 (cs_X12_192 rfl) kd_88 rfl rfl (Nat.le_of_ble_eq_true rfl) (Nat.le_of_ble_eq_true rfl) h (fun v1 M1 q1 r1 => ?_)
  obtain ⟨z1, rfl⟩ := retV_i r1 rfl
  have h := q1
  refine wp_istore_n (L2 := [some (Rv 88), some (Iv x1), some (Iv z1)]) dX12_kind_6 (Nat.le_of_ble_eq_true rfl) (Nat.le_of_ble_eq_true rfl) rfl ?_
  refine wp_iload_n dX12_kind_7 rfl ?_
  obtain ⟨o2, h⟩ := h
  refine wp_if_ge (tgt := 15) dX12_kind_8 (by decide) o2 (fun q3 => ?_) (fun q3 => ?_)
  · have h := h.1 q3
    refine wp_aload_n dX12_kind_15 rfl (by decide) ?_
    refine wp_getf (t := Rv 97) 97 dX12_kind_16 (fl_X12_35 rfl) kd_88 rfl rfl ?_
    refine wp_iload_n dX12_kind_19 rfl ?_
    obtain ⟨o4, h⟩ := h
    obtain ⟨o5, h⟩ := h
    refine wp_iald (M1 97 x1) dX12_kind_20 kd_97 sz_97 o4 o5 (⟨by omega, by omega⟩) rfl ?_
    exact wp_iret dX12_kind_21 rfl (Or.inr ⟨rfl, rfl, rfl, by decide⟩) rfl h
  · have h := h.2 q3
    refine wp_iload_n dX12_kind_11 rfl ?_
    refine wp_goto (tgt := 21) dX12_kind_12 (by decide) ?_
    exact wp_iret dX12_kind_21 rfl (Or.inr ⟨rfl, rfl, rfl, by decide⟩) rfl h
theorem eX12_kind {x1 : Int}  {M : Mem} {Q : Vl → Mem → Prop} (h : cl 0 yX12_needWord [Rv 88, Iv 1, Iv x1] M (QI (fun z1 M1 => (inr z1 ∧ ((0 ≤ z1 → 0 ≤ x1 ∧ (x1 < 8 ∧ (Q (Iv (M1 97 x1)) M1))) ∧ (z1 < 0 → Q (Iv z1) M1)))))) : cl 0 yX12_kind [Rv 88, Iv x1] M Q := enterG (by decide +kernel) (by exact Or.inr (Or.inl rfl)) (Nat.le_of_ble_eq_true rfl) rfl (gX12_kind h)
theorem gX12_markOf {x1 x2 : Int}  {M : Mem} {Q : Vl → Mem → Prop} (h : inr x2 ∧ ((x2 ≠ 0 → ((x2 ≠ 2 → 0 ≤ x1 ∧ (x1 < 8 ∧ (Q (Iv (M 99 x1)) M))) ∧ (x2 = 2 → 0 ≤ x1 ∧ (x1 < 8 ∧ (Q (Iv (M 98 x1)) M))))) ∧ (x2 = 0 → Q (Iv 0) M))) : wp 0 yX12_markOf 0 [some (Rv 88), some (Iv x1), some (Iv x2)] [] M Q := by
  refine wp_iload_n dX12_markOf_0 rfl ?_
  obtain ⟨o1, h⟩ := h
  refine wp_if_ne (tgt := 8) dX12_markOf_1 (by decide) o1 (fun q2 => ?_) (fun q2 => ?_)
  · have h := h.1 q2
    refine wp_iload_n dX12_markOf_8 rfl ?_
    refine wp_iconst dX12_markOf_9 ?_
    refine wp_icmp_ne (tgt := 22) dX12_markOf_10 (by decide) (Or.inr ⟨o1, (by decide)⟩) (fun q3 => ?_) (fun q3 => ?_)
    · have h := h.1 q3
      refine wp_aload_n dX12_markOf_22 rfl (by decide) ?_
      refine wp_getf (t := Rv 99) 99 dX12_markOf_23 (fl_X12_41 rfl) kd_88 rfl rfl ?_
      refine wp_iload_n dX12_markOf_26 rfl ?_
      obtain ⟨o4, h⟩ := h
      obtain ⟨o5, h⟩ := h
      refine wp_iald (M 99 x1) dX12_markOf_27 kd_99 sz_99 o4 o5 (⟨by omega, by omega⟩) rfl ?_
      exact wp_iret dX12_markOf_28 rfl (Or.inr ⟨rfl, rfl, rfl, by decide⟩) rfl h
    · have h := h.2 q3
      refine wp_aload_n dX12_markOf_13 rfl (by decide) ?_
      refine wp_getf (t := Rv 98) 98 dX12_markOf_14 (fl_X12_38 rfl) kd_88 rfl rfl ?_
      refine wp_iload_n dX12_markOf_17 rfl ?_
      obtain ⟨o6, h⟩ := h
      obtain ⟨o7, h⟩ := h
      refine wp_iald (M 98 x1) dX12_markOf_18 kd_98 sz_98 o6 o7 (⟨by omega, by omega⟩) rfl ?_
      refine wp_goto (tgt := 28) dX12_markOf_19 (by decide) ?_
      exact wp_iret dX12_markOf_28 rfl (Or.inr ⟨rfl, rfl, rfl, by decide⟩) rfl h
  · have h := h.2 q2
    refine wp_iconst dX12_markOf_4 ?_
    refine wp_goto (tgt := 28) dX12_markOf_5 (by decide) ?_
    exact wp_iret dX12_markOf_28 rfl (Or.inr ⟨rfl, rfl, rfl, by decide⟩) rfl h
theorem eX12_markOf {x1 x2 : Int}  {M : Mem} {Q : Vl → Mem → Prop} (h : inr x2 ∧ ((x2 ≠ 0 → ((x2 ≠ 2 → 0 ≤ x1 ∧ (x1 < 8 ∧ (Q (Iv (M 99 x1)) M))) ∧ (x2 = 2 → 0 ≤ x1 ∧ (x1 < 8 ∧ (Q (Iv (M 98 x1)) M))))) ∧ (x2 = 0 → Q (Iv 0) M))) : cl 0 yX12_markOf [Rv 88, Iv x1, Iv x2] M Q := enterG (by decide +kernel) (by exact Or.inr (Or.inl rfl)) (Nat.le_of_ble_eq_true rfl) rfl (gX12_markOf h)
theorem gX12_mark {x1 x2 : Int}  {M : Mem} {Q : Vl → Mem → Prop} (h : cl 0 yX12_in [Iv x2, Iv 1, Iv 4] M (QI (fun z1 M1 => (cl 0 yX12_needWord [Rv 88, Iv z1, Iv x1] M1 (QI (fun z2 M2 => (inr z2 ∧ ((0 ≤ z2 → 0 ≤ x1 ∧ (x1 < 8 ∧ (((M2 97 x1) = x2 ∨ (inr (M2 97 x1) ∧ inr x2)) ∧ (((M2 97 x1) = x2 → cl 0 yX12_markOf [Rv 88, Iv x1, Iv x2] M2 (QI (fun z10 M10 => (Q (Iv z10) M10)))) ∧ ((M2 97 x1) ≠ x2 → inr x2 ∧ ((x2 ≠ 2 → cl 0 yX12_meets [Rv 88, Iv 3] M2 (QI (fun z14 M14 => (Q (Iv z14) M14)))) ∧ (x2 = 2 → inr (M2 97 x1) ∧ (((M2 97 x1) ≤ 2 → cl 0 yX12_meets [Rv 88, Iv 3] M2 (QI (fun z18 M18 => (Q (Iv z18) M18)))) ∧ (2 < (M2 97 x1) → cl 0 yX12_markOf [Rv 88, Iv x1, Iv x2] M2 (QI (fun z20 M20 => (Q (Iv z20) M20)))))))))))) ∧ (z2 < 0 → Q (Iv z2) M2))))))))) : wp 0 yX12_mark 0 [some (Rv 88), some (Iv x1), some (Iv x2), none, none] [] M Q := by
  refine wp_aload_n dX12_mark_0 rfl (by decide) ?_
  refine wp_iload_n dX12_mark_1 rfl ?_
  refine wp_iconst dX12_mark_2 ?_
  refine wp_iconst dX12_mark_3 ?_
  refine wp_callS (e1 := 0) (as := [Iv x2, Iv 1, Iv 4]) (S := [Rv 88]) dX12_mark_4 (cs_X12_117 rfl) rfl rfl (Nat.le_of_ble_eq_true rfl) (Nat.le_of_ble_eq_true rfl) h (fun v1 M1 q1 r1 => ?_)
  obtain ⟨z1, rfl, hz1⟩ := retV_z r1 rfl
  have h := q1
  refine wp_iload_n dX12_mark_7 rfl ?_
  refine wp_callV (e1 := 0) (as := [Iv z1, Iv x1]) (S := []) dX12_mark_8 (cs_X12_192 rfl) kd_88 rfl rfl (Nat.le_of_ble_eq_true rfl) (Nat.le_of_ble_eq_true rfl) h (fun v2 M2 q2 r2 => ?_)
  obtain ⟨z2, rfl⟩ := retV_i r2 rfl
  have h := q2
  refine wp_istore_n (L2 := [some (Rv 88), some (Iv x1), some (Iv x2), some (Iv z2), none]) dX12_mark_11 (Nat.le_of_ble_eq_true rfl) (Nat.le_of_ble_eq_true rfl) rfl ?_
  refine wp_iload_n dX12_mark_12 rfl ?_
  obtain ⟨o3, h⟩ := h
  refine wp_if_ge (tgt := 18) dX12_mark_13 (by decide) o3 (fun q4 => ?_) (fun q4 => ?_)
  · have h := h.1 q4
    refine wp_aload_n dX12_mark_18 rfl (by decide) ?_
    refine wp_getf (t := Rv 97) 97 dX12_mark_19 (fl_X12_35 rfl) kd_88 rfl rfl ?_
    refine wp_iload_n dX12_mark_22 rfl ?_
    obtain ⟨o5, h⟩ := h
    obtain ⟨o6, h⟩ := h
    refine wp_iald (M2 97 x1) dX12_mark_23 kd_97 sz_97 o5 o6 (⟨by omega, by omega⟩) rfl ?_
    refine wp_iload_n dX12_mark_24 rfl ?_
    obtain ⟨o7, h⟩ := h
    refine wp_icmp_eq (tgt := 43) dX12_mark_25 (by decide) o7 (fun q8 => ?_) (fun q8 => ?_)
    · have h := h.1 q8
      refine wp_iconst dX12_mark_43 ?_
      refine wp_goto (tgt := 48) dX12_mark_44 (by decide) ?_
      refine wp_istore (L2 := [some (Rv 88), some (Iv x1), some (Iv x2), some (Iv z2), some (Iv 1)]) dX12_mark_48 (Nat.le_of_ble_eq_true rfl) (Nat.le_of_ble_eq_true rfl) rfl ?_
      refine wp_iload dX12_mark_50 rfl ?_
      refine wp_if_eq (tgt := 64) dX12_mark_52 (by decide) (by decide) (fun q9 => ?_) (fun q9 => ?_)
      · exact absurd q9 (by decide)
      · have _ := 0
        refine wp_aload_n dX12_mark_55 rfl (by decide) ?_
        refine wp_iload_n dX12_mark_56 rfl ?_
        refine wp_iload_n dX12_mark_57 rfl ?_
        refine wp_callV (e1 := 0) (as := [Iv x1, Iv x2]) (S := []) dX12_mark_58 (cs_X12_196 rfl) kd_88 rfl rfl (Nat.le_of_ble_eq_true rfl) (Nat.le_of_ble_eq_true rfl) h (fun v10 M10 q10 r10 => ?_)
        obtain ⟨z10, rfl⟩ := retV_i r10 rfl
        have h := q10
        refine wp_goto (tgt := 69) dX12_mark_61 (by decide) ?_
        exact wp_iret dX12_mark_69 rfl (Or.inr ⟨rfl, rfl, rfl, by decide⟩) rfl h
    · have h := h.2 q8
      refine wp_iload_n dX12_mark_28 rfl ?_
      refine wp_iconst dX12_mark_29 ?_
      obtain ⟨o11, h⟩ := h
      refine wp_icmp_ne (tgt := 47) dX12_mark_30 (by decide) (Or.inr ⟨o11, (by decide)⟩) (fun q12 => ?_) (fun q12 => ?_)
      · have h := h.1 q12
        refine wp_iconst dX12_mark_47 ?_
        refine wp_istore (L2 := [some (Rv 88), some (Iv x1), some (Iv x2), some (Iv z2), some (Iv 0)]) dX12_mark_48 (Nat.le_of_ble_eq_true rfl) (Nat.le_of_ble_eq_true rfl) rfl ?_
        refine wp_iload dX12_mark_50 rfl ?_
        refine wp_if_eq (tgt := 64) dX12_mark_52 (by decide) (by decide) (fun q13 => ?_) (fun q13 => ?_)
        · have _ := 0
          refine wp_aload_n dX12_mark_64 rfl (by decide) ?_
          refine wp_iconst dX12_mark_65 ?_
          refine wp_callV (e1 := 0) (as := [Iv 3]) (S := []) dX12_mark_66 (cs_X12_134 rfl) kd_88 rfl rfl (Nat.le_of_ble_eq_true rfl) (Nat.le_of_ble_eq_true rfl) h (fun v14 M14 q14 r14 => ?_)
          obtain ⟨z14, rfl⟩ := retV_i r14 rfl
          have h := q14
          exact wp_iret dX12_mark_69 rfl (Or.inr ⟨rfl, rfl, rfl, by decide⟩) rfl h
        · exact absurd q13 (by decide)
      · have h := h.2 q12
        refine wp_aload_n dX12_mark_33 rfl (by decide) ?_
        refine wp_getf (t := Rv 97) 97 dX12_mark_34 (fl_X12_35 rfl) kd_88 rfl rfl ?_
        refine wp_iload_n dX12_mark_37 rfl ?_
        refine wp_iald (M2 97 x1) dX12_mark_38 kd_97 sz_97 o5 o6 (⟨by omega, by omega⟩) rfl ?_
        refine wp_iconst dX12_mark_39 ?_
        obtain ⟨o15, h⟩ := h
        refine wp_icmp_le (tgt := 47) dX12_mark_40 (by decide) o15 (by decide) (fun q16 => ?_) (fun q16 => ?_)
        · have h := h.1 q16
          refine wp_iconst dX12_mark_47 ?_
          refine wp_istore (L2 := [some (Rv 88), some (Iv x1), some (Iv x2), some (Iv z2), some (Iv 0)]) dX12_mark_48 (Nat.le_of_ble_eq_true rfl) (Nat.le_of_ble_eq_true rfl) rfl ?_
          refine wp_iload dX12_mark_50 rfl ?_
          refine wp_if_eq (tgt := 64) dX12_mark_52 (by decide) (by decide) (fun q17 => ?_) (fun q17 => ?_)
          · have _ := 0
            refine wp_aload_n dX12_mark_64 rfl (by decide) ?_
            refine wp_iconst dX12_mark_65 ?_
            refine wp_callV (e1 := 0) (as := [Iv 3]) (S := []) dX12_mark_66 (cs_X12_134 rfl) kd_88 rfl rfl (Nat.le_of_ble_eq_true rfl) (Nat.le_of_ble_eq_true rfl) h (fun v18 M18 q18 r18 => ?_)
            obtain ⟨z18, rfl⟩ := retV_i r18 rfl
            have h := q18
            exact wp_iret dX12_mark_69 rfl (Or.inr ⟨rfl, rfl, rfl, by decide⟩) rfl h
          · exact absurd q17 (by decide)
        · have h := h.2 q16
          refine wp_iconst dX12_mark_43 ?_
          refine wp_goto (tgt := 48) dX12_mark_44 (by decide) ?_
          refine wp_istore (L2 := [some (Rv 88), some (Iv x1), some (Iv x2), some (Iv z2), some (Iv 1)]) dX12_mark_48 (Nat.le_of_ble_eq_true rfl) (Nat.le_of_ble_eq_true rfl) rfl ?_
          refine wp_iload dX12_mark_50 rfl ?_
          refine wp_if_eq (tgt := 64) dX12_mark_52 (by decide) (by decide) (fun q19 => ?_) (fun q19 => ?_)
          · exact absurd q19 (by decide)
          · have _ := 0
            refine wp_aload_n dX12_mark_55 rfl (by decide) ?_
            refine wp_iload_n dX12_mark_56 rfl ?_
            refine wp_iload_n dX12_mark_57 rfl ?_
            refine wp_callV (e1 := 0) (as := [Iv x1, Iv x2]) (S := []) dX12_mark_58 (cs_X12_196 rfl) kd_88 rfl rfl (Nat.le_of_ble_eq_true rfl) (Nat.le_of_ble_eq_true rfl) h (fun v20 M20 q20 r20 => ?_)
            obtain ⟨z20, rfl⟩ := retV_i r20 rfl
            have h := q20
            refine wp_goto (tgt := 69) dX12_mark_61 (by decide) ?_
            exact wp_iret dX12_mark_69 rfl (Or.inr ⟨rfl, rfl, rfl, by decide⟩) rfl h
  · have h := h.2 q4
    refine wp_iload_n dX12_mark_16 rfl ?_
    exact wp_iret dX12_mark_17 rfl (Or.inr ⟨rfl, rfl, rfl, by decide⟩) rfl h
theorem eX12_mark {x1 x2 : Int}  {M : Mem} {Q : Vl → Mem → Prop} (h : cl 0 yX12_in [Iv x2, Iv 1, Iv 4] M (QI (fun z1 M1 => (cl 0 yX12_needWord [Rv 88, Iv z1, Iv x1] M1 (QI (fun z2 M2 => (inr z2 ∧ ((0 ≤ z2 → 0 ≤ x1 ∧ (x1 < 8 ∧ (((M2 97 x1) = x2 ∨ (inr (M2 97 x1) ∧ inr x2)) ∧ (((M2 97 x1) = x2 → cl 0 yX12_markOf [Rv 88, Iv x1, Iv x2] M2 (QI (fun z10 M10 => (Q (Iv z10) M10)))) ∧ ((M2 97 x1) ≠ x2 → inr x2 ∧ ((x2 ≠ 2 → cl 0 yX12_meets [Rv 88, Iv 3] M2 (QI (fun z14 M14 => (Q (Iv z14) M14)))) ∧ (x2 = 2 → inr (M2 97 x1) ∧ (((M2 97 x1) ≤ 2 → cl 0 yX12_meets [Rv 88, Iv 3] M2 (QI (fun z18 M18 => (Q (Iv z18) M18)))) ∧ (2 < (M2 97 x1) → cl 0 yX12_markOf [Rv 88, Iv x1, Iv x2] M2 (QI (fun z20 M20 => (Q (Iv z20) M20)))))))))))) ∧ (z2 < 0 → Q (Iv z2) M2))))))))) : cl 0 yX12_mark [Rv 88, Iv x1, Iv x2] M Q := enterG (by decide +kernel) (by exact Or.inr (Or.inl rfl)) (Nat.le_of_ble_eq_true rfl) rfl (gX12_mark h)
theorem gX12_next {x1 x2 x3 : Int}  {M : Mem} {Q : Vl → Mem → Prop} (h : wp 0 yX12_next 3 [some (Rv 88), some (Iv x1), some (Iv x2), some (Iv x3), some (Iv x2)] [] M Q) : wp 0 yX12_next 0 [some (Rv 88), some (Iv x1), some (Iv x2), some (Iv x3), none] [] M Q := by
  refine wp_iload_n dX12_next_0 rfl ?_
  refine wp_istore (L2 := [some (Rv 88), some (Iv x1), some (Iv x2), some (Iv x3), some (Iv x2)]) dX12_next_1 (Nat.le_of_ble_eq_true rfl) (Nat.le_of_ble_eq_true rfl) rfl ?_
  exact h
theorem eX12_next {x1 x2 x3 : Int}  {M : Mem} {Q : Vl → Mem → Prop} (h : wp 0 yX12_next 3 [some (Rv 88), some (Iv x1), some (Iv x2), some (Iv x3), some (Iv x2)] [] M Q) : cl 0 yX12_next [Rv 88, Iv x1, Iv x2, Iv x3] M Q := enterG (by decide +kernel) (by exact Or.inr (Or.inl rfl)) (Nat.le_of_ble_eq_true rfl) rfl (gX12_next h)
theorem gX12_next_3 {x1 x2 x3 x4 : Int}  {M : Mem} {Q : Vl → Mem → Prop} (h : 0 ≤ x1 ∧ (x1 < 8 ∧ (inr x4 ∧ (inr (M 95 x1) ∧ (((M 95 x1) ≤ x4 → Q (Iv (-9)) M) ∧ (x4 < (M 95 x1) → cl 0 yX12_at0 [Rv 88, Iv x1, Iv x4] M (QI (fun z6 M6 => ((z6 = x3 ∨ (inr z6 ∧ inr x3)) ∧ ((z6 ≠ x3 → wp 0 yX12_next 3 [some (Rv 88), some (Iv x1), some (Iv x2), some (Iv x3), some (Iv (x4 + 1))] [] M6 Q) ∧ (z6 = x3 → Q (Iv x4) M6))))))))))) : wp 0 yX12_next 3 [some (Rv 88), some (Iv x1), some (Iv x2), some (Iv x3), some (Iv x4)] [] M Q := by
  refine wp_iload dX12_next_3 rfl ?_
  refine wp_aload_n dX12_next_5 rfl (by decide) ?_
  refine wp_getf (t := Rv 95) 95 dX12_next_6 (fl_X12_29 rfl) kd_88 rfl rfl ?_
  refine wp_iload_n dX12_next_9 rfl ?_
  obtain ⟨o1, h⟩ := h
  obtain ⟨o2, h⟩ := h
  refine wp_iald (M 95 x1) dX12_next_10 kd_95 sz_95 o1 o2 (⟨by omega, by omega⟩) rfl ?_
  obtain ⟨o3, h⟩ := h
  obtain ⟨o4, h⟩ := h
  refine wp_icmp_ge (tgt := 34) dX12_next_11 (by decide) o3 o4 (fun q5 => ?_) (fun q5 => ?_)
  · have h := h.1 q5
    refine wp_bipush dX12_next_34 (by decide) ?_
    exact wp_iret dX12_next_36 rfl (Or.inr ⟨rfl, rfl, rfl, by decide⟩) rfl h
  · have h := h.2 q5
    refine wp_aload_n dX12_next_14 rfl (by decide) ?_
    refine wp_iload_n dX12_next_15 rfl ?_
    refine wp_iload dX12_next_16 rfl ?_
    refine wp_callV (e1 := 0) (as := [Iv x1, Iv x4]) (S := []) dX12_next_18 (cs_X12_148 rfl) kd_88 rfl rfl (Nat.le_of_ble_eq_true rfl) (Nat.le_of_ble_eq_true rfl) h (fun v6 M6 q6 r6 => ?_)
    obtain ⟨z6, rfl⟩ := retV_i r6 rfl
    have h := q6
    refine wp_iload_n dX12_next_21 rfl ?_
    obtain ⟨o7, h⟩ := h
    refine wp_icmp_ne (tgt := 28) dX12_next_22 (by decide) o7 (fun q8 => ?_) (fun q8 => ?_)
    · have h := h.1 q8
      refine wp_iinc (L2 := [some (Rv 88), some (Iv x1), some (Iv x2), some (Iv x3), some (Iv (x4 + 1))]) dX12_next_28 rfl (Nat.le_of_ble_eq_true rfl) (Nat.le_of_ble_eq_true rfl) rfl ?_
      refine wp_goto (tgt := 3) dX12_next_31 (by decide) ?_
      exact h
    · have h := h.2 q8
      refine wp_iload dX12_next_25 rfl ?_
      exact wp_iret dX12_next_27 rfl (Or.inr ⟨rfl, rfl, rfl, by decide⟩) rfl h
theorem gX12_ways {x1 x2 : Int}  {M : Mem} {Q : Vl → Mem → Prop} (h : cl 0 yX12_needTwo [Rv 88, Iv 1, Iv x1, Iv x2] M (QI (fun z1 M1 => (inr z1 ∧ ((0 ≤ z1 → cl 0 yX12_layWays [Rv 88, Iv x1, Iv x2] M1 (QV (fun M4 => (0 ≤ x2 ∧ (x2 < 8 ∧ (0 ≤ M4 95 x2 ∧ (M4 95 x2 < 41 ∧ (inL (M4 103 (M4 95 x2)) ∧ (((M4 103 (M4 95 x2)) ≤ 0 → cl 0 yX12_tellsMany [Rv 88, Jv (M4 103 (M4 95 x2)), Iv 0] M4 (QI (fun z11 M11 => (Q (Iv z11) M11)))) ∧ (0 < (M4 103 (M4 95 x2)) → cl 0 yX12_tellsMany [Rv 88, Jv (M4 103 (M4 95 x2)), Iv 1] M4 (QI (fun z12 M12 => (Q (Iv z12) M12))))))))))))) ∧ (z1 < 0 → Q (Iv z1) M1)))))) : wp 0 yX12_ways 0 [some (Rv 88), some (Iv x1), some (Iv x2), none, none, none] [] M Q := by
  refine wp_aload_n dX12_ways_0 rfl (by decide) ?_
  refine wp_iconst dX12_ways_1 ?_
  refine wp_iload_n dX12_ways_2 rfl ?_
  refine wp_iload_n dX12_ways_3 rfl ?_
  refine wp_callV (e1 := 0) (as := [Iv 1, Iv x1, Iv x2]) (S := []) dX12_ways_4 (cs_X12_188 rfl) kd_88 rfl rfl (Nat.le_of_ble_eq_true rfl) (Nat.le_of_ble_eq_true rfl) h (fun v1 M1 q1 r1 => ?_)
  obtain ⟨z1, rfl⟩ := retV_i r1 rfl
  have h := q1
  refine wp_istore_n (L2 := [some (Rv 88), some (Iv x1), some (Iv x2), some (Iv z1), none, none]) dX12_ways_7 (Nat.le_of_ble_eq_true rfl) (Nat.le_of_ble_eq_true rfl) rfl ?_
  refine wp_iload_n dX12_ways_8 rfl ?_
  obtain ⟨o2, h⟩ := h
  refine wp_if_ge (tgt := 14) dX12_ways_9 (by decide) o2 (fun q3 => ?_) (fun q3 => ?_)
  · have h := h.1 q3
    refine wp_aload_n dX12_ways_14 rfl (by decide) ?_
    refine wp_iload_n dX12_ways_15 rfl ?_
    refine wp_iload_n dX12_ways_16 rfl ?_
    refine wp_callV (e1 := 0) (as := [Iv x1, Iv x2]) (S := []) dX12_ways_17 (cs_X12_199 rfl) kd_88 rfl rfl (Nat.le_of_ble_eq_true rfl) (Nat.le_of_ble_eq_true rfl) h (fun v4 M4 q4 r4 => ?_)
    have h := q4
    refine wp_aload_n dX12_ways_20 rfl (by decide) ?_
    refine wp_getf (t := Rv 103) 103 dX12_ways_21 (fl_X12_53 rfl) kd_88 rfl rfl ?_
    refine wp_aload_n dX12_ways_24 rfl (by decide) ?_
    refine wp_getf (t := Rv 95) 95 dX12_ways_25 (fl_X12_29 rfl) kd_88 rfl rfl ?_
    refine wp_iload_n dX12_ways_28 rfl ?_
    obtain ⟨o5, h⟩ := h
    obtain ⟨o6, h⟩ := h
    refine wp_iald (M4 95 x2) dX12_ways_29 kd_95 sz_95 o5 o6 (⟨by omega, by omega⟩) rfl ?_
    obtain ⟨o7, h⟩ := h
    obtain ⟨o8, h⟩ := h
    refine wp_lald (M4 103 (M4 95 x2)) dX12_ways_30 kd_103 sz_103 o7 o8 (⟨by omega, by omega⟩) rfl ?_
    refine wp_lstore (L2 := [some (Rv 88), some (Iv x1), some (Iv x2), some (Iv z1), some (Jv (M4 103 (M4 95 x2))), none]) dX12_ways_31 (Nat.le_of_ble_eq_true rfl) (Nat.le_of_ble_eq_true rfl) rfl ?_
    refine wp_aload_n dX12_ways_33 rfl (by decide) ?_
    refine wp_lload dX12_ways_34 rfl ?_
    refine wp_lload dX12_ways_36 rfl ?_
    refine wp_lconst0 dX12_ways_38 ?_
    obtain ⟨o9, h⟩ := h
    refine wp_lcmp dX12_ways_39 (Or.inr ⟨o9, (by decide)⟩) ?_
    refine wp_if_le (tgt := 47) dX12_ways_40 (by decide) lc_inr (fun q10 => ?_) (fun q10 => ?_)
    · have q10 := lc_le.mp q10
      have h := h.1 q10
      refine wp_iconst dX12_ways_47 ?_
      refine wp_callV (e1 := 0) (as := [Jv (M4 103 (M4 95 x2)), Iv 0]) (S := []) dX12_ways_48 (cs_X12_202 rfl) kd_88 rfl rfl (Nat.le_of_ble_eq_true rfl) (Nat.le_of_ble_eq_true rfl) h (fun v11 M11 q11 r11 => ?_)
      obtain ⟨z11, rfl⟩ := retV_i r11 rfl
      have h := q11
      exact wp_iret dX12_ways_51 rfl (Or.inr ⟨rfl, rfl, rfl, by decide⟩) rfl h
    · have q10 := lc_gt.mp q10
      have h := h.2 q10
      refine wp_iconst dX12_ways_43 ?_
      refine wp_goto (tgt := 48) dX12_ways_44 (by decide) ?_
      refine wp_callV (e1 := 0) (as := [Jv (M4 103 (M4 95 x2)), Iv 1]) (S := []) dX12_ways_48 (cs_X12_202 rfl) kd_88 rfl rfl (Nat.le_of_ble_eq_true rfl) (Nat.le_of_ble_eq_true rfl) h (fun v12 M12 q12 r12 => ?_)
      obtain ⟨z12, rfl⟩ := retV_i r12 rfl
      have h := q12
      exact wp_iret dX12_ways_51 rfl (Or.inr ⟨rfl, rfl, rfl, by decide⟩) rfl h
  · have h := h.2 q3
    refine wp_iload_n dX12_ways_12 rfl ?_
    exact wp_iret dX12_ways_13 rfl (Or.inr ⟨rfl, rfl, rfl, by decide⟩) rfl h
theorem eX12_ways {x1 x2 : Int}  {M : Mem} {Q : Vl → Mem → Prop} (h : cl 0 yX12_needTwo [Rv 88, Iv 1, Iv x1, Iv x2] M (QI (fun z1 M1 => (inr z1 ∧ ((0 ≤ z1 → cl 0 yX12_layWays [Rv 88, Iv x1, Iv x2] M1 (QV (fun M4 => (0 ≤ x2 ∧ (x2 < 8 ∧ (0 ≤ M4 95 x2 ∧ (M4 95 x2 < 41 ∧ (inL (M4 103 (M4 95 x2)) ∧ (((M4 103 (M4 95 x2)) ≤ 0 → cl 0 yX12_tellsMany [Rv 88, Jv (M4 103 (M4 95 x2)), Iv 0] M4 (QI (fun z11 M11 => (Q (Iv z11) M11)))) ∧ (0 < (M4 103 (M4 95 x2)) → cl 0 yX12_tellsMany [Rv 88, Jv (M4 103 (M4 95 x2)), Iv 1] M4 (QI (fun z12 M12 => (Q (Iv z12) M12))))))))))))) ∧ (z1 < 0 → Q (Iv z1) M1)))))) : cl 0 yX12_ways [Rv 88, Iv x1, Iv x2] M Q := enterG (by decide +kernel) (by exact Or.inr (Or.inl rfl)) (Nat.le_of_ble_eq_true rfl) rfl (gX12_ways h)
theorem gX12_layWays {x1 x2 : Int}  {M : Mem} {Q : Vl → Mem → Prop} (h : wp 0 yX12_layWays 2 [some (Rv 88), some (Iv x1), some (Iv x2), some (Iv 0), none] [] M Q) : wp 0 yX12_layWays 0 [some (Rv 88), some (Iv x1), some (Iv x2), none, none] [] M Q := by
  refine wp_iconst dX12_layWays_0 ?_
  refine wp_istore_n (L2 := [some (Rv 88), some (Iv x1), some (Iv x2), some (Iv 0), none]) dX12_layWays_1 (Nat.le_of_ble_eq_true rfl) (Nat.le_of_ble_eq_true rfl) rfl ?_
  exact h
theorem eX12_layWays {x1 x2 : Int}  {M : Mem} {Q : Vl → Mem → Prop} (h : wp 0 yX12_layWays 2 [some (Rv 88), some (Iv x1), some (Iv x2), some (Iv 0), none] [] M Q) : cl 0 yX12_layWays [Rv 88, Iv x1, Iv x2] M Q := enterG (by decide +kernel) (by exact Or.inl rfl) (Nat.le_of_ble_eq_true rfl) rfl (gX12_layWays h)
theorem gX12_layWays_2 {x1 x2 x3 : Int}  {M : Mem} {Q : Vl → Mem → Prop} (h : inr x3 ∧ ((40 < x3 → wp 0 yX12_layWays 31 [some (Rv 88), some (Iv x1), some (Iv x2), some (Iv 0), none] [] M Q) ∧ (x3 ≤ 40 → ((x3 ≠ 0 → 0 ≤ x3 ∧ (x3 < 41 ∧ (wp 0 yX12_layWays 2 [some (Rv 88), some (Iv x1), some (Iv x2), some (Iv (x3 + 1)), none] [] (up M 103 x3 0) Q))) ∧ (x3 = 0 → 0 ≤ x3 ∧ (x3 < 41 ∧ (wp 0 yX12_layWays 2 [some (Rv 88), some (Iv x1), some (Iv x2), some (Iv (x3 + 1)), none] [] (up M 103 x3 1) Q))))))) : wp 0 yX12_layWays 2 [some (Rv 88), some (Iv x1), some (Iv x2), some (Iv x3), none] [] M Q := by
  refine wp_iload_n dX12_layWays_2 rfl ?_
  refine wp_bipush dX12_layWays_3 (by decide) ?_
  obtain ⟨o1, h⟩ := h
  refine wp_icmp_gt (tgt := 29) dX12_layWays_5 (by decide) o1 (by decide) (fun q2 => ?_) (fun q2 => ?_)
  · have h := h.1 q2
    refine wp_iconst dX12_layWays_29 ?_
    refine wp_istore_n (L2 := [some (Rv 88), some (Iv x1), some (Iv x2), some (Iv 0), none]) dX12_layWays_30 (Nat.le_of_ble_eq_true rfl) (Nat.le_of_ble_eq_true rfl) rfl ?_
    exact h
  · have h := h.2 q2
    refine wp_aload_n dX12_layWays_8 rfl (by decide) ?_
    refine wp_getf (t := Rv 103) 103 dX12_layWays_9 (fl_X12_53 rfl) kd_88 rfl rfl ?_
    refine wp_iload_n dX12_layWays_12 rfl ?_
    refine wp_iload_n dX12_layWays_13 rfl ?_
    refine wp_if_ne (tgt := 21) dX12_layWays_14 (by decide) o1 (fun q3 => ?_) (fun q3 => ?_)
    · have h := h.1 q3
      refine wp_lconst0 dX12_layWays_21 ?_
      obtain ⟨o4, h⟩ := h
      obtain ⟨o5, h⟩ := h
      refine wp_last dX12_layWays_22 kd_103 sz_103 o4 o5 (⟨by omega, by omega⟩) ?_
      refine wp_iinc (L2 := [some (Rv 88), some (Iv x1), some (Iv x2), some (Iv (x3 + 1)), none]) dX12_layWays_23 rfl (Nat.le_of_ble_eq_true rfl) (Nat.le_of_ble_eq_true rfl) rfl ?_
      refine wp_goto (tgt := 2) dX12_layWays_26 (by decide) ?_
      exact h
    · have h := h.2 q3
      refine wp_lconst1 dX12_layWays_17 ?_
      refine wp_goto (tgt := 22) dX12_layWays_18 (by decide) ?_
      obtain ⟨o6, h⟩ := h
      obtain ⟨o7, h⟩ := h
      refine wp_last dX12_layWays_22 kd_103 sz_103 o6 o7 (⟨by omega, by omega⟩) ?_
      refine wp_iinc (L2 := [some (Rv 88), some (Iv x1), some (Iv x2), some (Iv (x3 + 1)), none]) dX12_layWays_23 rfl (Nat.le_of_ble_eq_true rfl) (Nat.le_of_ble_eq_true rfl) rfl ?_
      refine wp_goto (tgt := 2) dX12_layWays_26 (by decide) ?_
      exact h
theorem gX12_layWays_31 {x1 x2 x3 : Int}  {M : Mem} {Q : Vl → Mem → Prop} (h : 0 ≤ x1 ∧ (x1 < 8 ∧ (inr x3 ∧ (inr (M 95 x1) ∧ (((M 95 x1) ≤ x3 → Q (Iv 0) M) ∧ (x3 < (M 95 x1) → 0 ≤ x2 ∧ (x2 < 8 ∧ (wp 0 yX12_layWays 49 [some (Rv 88), some (Iv x1), some (Iv x2), some (Iv x3), some (Iv (M 95 x2))] [] M Q)))))))) : wp 0 yX12_layWays 31 [some (Rv 88), some (Iv x1), some (Iv x2), some (Iv x3), none] [] M Q := by
  refine wp_iload_n dX12_layWays_31 rfl ?_
  refine wp_aload_n dX12_layWays_32 rfl (by decide) ?_
  refine wp_getf (t := Rv 95) 95 dX12_layWays_33 (fl_X12_29 rfl) kd_88 rfl rfl ?_
  refine wp_iload_n dX12_layWays_36 rfl ?_
  obtain ⟨o1, h⟩ := h
  obtain ⟨o2, h⟩ := h
  refine wp_iald (M 95 x1) dX12_layWays_37 kd_95 sz_95 o1 o2 (⟨by omega, by omega⟩) rfl ?_
  obtain ⟨o3, h⟩ := h
  obtain ⟨o4, h⟩ := h
  refine wp_icmp_ge (tgt := 107) dX12_layWays_38 (by decide) o3 o4 (fun q5 => ?_) (fun q5 => ?_)
  · have h := h.1 q5
    exact wp_vret dX12_layWays_107 rfl (Or.inr ⟨rfl, rfl, rfl, by decide⟩) rfl h
  · have h := h.2 q5
    refine wp_aload_n dX12_layWays_41 rfl (by decide) ?_
    refine wp_getf (t := Rv 95) 95 dX12_layWays_42 (fl_X12_29 rfl) kd_88 rfl rfl ?_
    refine wp_iload_n dX12_layWays_45 rfl ?_
    obtain ⟨o6, h⟩ := h
    obtain ⟨o7, h⟩ := h
    refine wp_iald (M 95 x2) dX12_layWays_46 kd_95 sz_95 o6 o7 (⟨by omega, by omega⟩) rfl ?_
    refine wp_istore (L2 := [some (Rv 88), some (Iv x1), some (Iv x2), some (Iv x3), some (Iv (M 95 x2))]) dX12_layWays_47 (Nat.le_of_ble_eq_true rfl) (Nat.le_of_ble_eq_true rfl) rfl ?_
    exact h
theorem gX12_layWays_49 {x1 x2 x3 x4 : Int}  {M : Mem} {Q : Vl → Mem → Prop} (h : inr x4 ∧ ((x4 ≤ 0 → wp 0 yX12_layWays 31 [some (Rv 88), some (Iv x1), some (Iv x2), some (Iv (x3 + 1)), none] [] M Q) ∧ (0 < x4 → 0 ≤ x4 ∧ (x4 < 41 ∧ (cl 0 yX12_at0 [Rv 88, Iv x1, Iv x3] M (QI (fun z5 M5 => (cl 0 yX12_at0 [Rv 88, Iv x2, Iv (x4 - 1)] M5 (QI (fun z6 M6 => ((z5 = z6 ∨ (inr z5 ∧ inr z6)) ∧ ((z5 ≠ z6 → wp 0 yX12_layWays 49 [some (Rv 88), some (Iv x1), some (Iv x2), some (Iv x3), some (Iv (x4 + (-1)))] [] (up M6 103 x4 ((M 103 x4) + 0)) Q) ∧ (z5 = z6 → 0 ≤ x4 - 1 ∧ (x4 - 1 < 41 ∧ (wp 0 yX12_layWays 49 [some (Rv 88), some (Iv x1), some (Iv x2), some (Iv x3), some (Iv (x4 + (-1)))] [] (up M6 103 x4 ((M 103 x4) + (M6 103 (x4 - 1)))) Q))))))))))))))) : wp 0 yX12_layWays 49 [some (Rv 88), some (Iv x1), some (Iv x2), some (Iv x3), some (Iv x4)] [] M Q := by
  refine wp_iload dX12_layWays_49 rfl ?_
  obtain ⟨o1, h⟩ := h
  refine wp_if_le (tgt := 101) dX12_layWays_51 (by decide) o1 (fun q2 => ?_) (fun q2 => ?_)
  · have h := h.1 q2
    refine wp_iinc (L2 := [some (Rv 88), some (Iv x1), some (Iv x2), some (Iv (x3 + 1)), some (Iv x4)]) dX12_layWays_101 rfl (Nat.le_of_ble_eq_true rfl) (Nat.le_of_ble_eq_true rfl) rfl ?_
    refine wp_goto (tgt := 31) dX12_layWays_104 (by decide) ?_
    exact wp_weak [true, true, true, true, false] rfl h
  · have h := h.2 q2
    refine wp_aload_n dX12_layWays_54 rfl (by decide) ?_
    refine wp_getf (t := Rv 103) 103 dX12_layWays_55 (fl_X12_53 rfl) kd_88 rfl rfl ?_
    refine wp_iload dX12_layWays_58 rfl ?_
    refine wp_dup2 dX12_layWays_60 rfl rfl ?_
    obtain ⟨o3, h⟩ := h
    obtain ⟨o4, h⟩ := h
    refine wp_lald (M 103 x4) dX12_layWays_61 kd_103 sz_103 o3 o4 (⟨by omega, by omega⟩) rfl ?_
    refine wp_aload_n dX12_layWays_62 rfl (by decide) ?_
    refine wp_iload_n dX12_layWays_63 rfl ?_
    refine wp_iload_n dX12_layWays_64 rfl ?_
    refine wp_callV (e1 := 0) (as := [Iv x1, Iv x3]) (S := [Jv (M 103 x4), Iv x4, Rv 103]) dX12_layWays_65 (cs_X12_148 rfl) kd_88 rfl rfl (Nat.le_of_ble_eq_true rfl) (Nat.le_of_ble_eq_true rfl) h (fun v5 M5 q5 r5 => ?_)
    obtain ⟨z5, rfl⟩ := retV_i r5 rfl
    have h := q5
    refine wp_aload_n dX12_layWays_68 rfl (by decide) ?_
    refine wp_iload_n dX12_layWays_69 rfl ?_
    refine wp_iload dX12_layWays_70 rfl ?_
    refine wp_iconst dX12_layWays_72 ?_
    refine wp_isub dX12_layWays_73 ?_
    refine wp_callV (e1 := 0) (as := [Iv x2, Iv (x4 - 1)]) (S := [Iv z5, Jv (M 103 x4), Iv x4, Rv 103]) dX12_layWays_74 (cs_X12_148 rfl) kd_88 rfl rfl (Nat.le_of_ble_eq_true rfl) (Nat.le_of_ble_eq_true rfl) h (fun v6 M6 q6 r6 => ?_)
    obtain ⟨z6, rfl⟩ := retV_i r6 rfl
    have h := q6
    obtain ⟨o7, h⟩ := h
    refine wp_icmp_ne (tgt := 92) dX12_layWays_77 (by decide) o7 (fun q8 => ?_) (fun q8 => ?_)
    · have h := h.1 q8
      refine wp_lconst0 dX12_layWays_92 ?_
      refine wp_ladd dX12_layWays_93 ?_
      refine wp_last dX12_layWays_94 kd_103 sz_103 o3 o4 (⟨by omega, by omega⟩) ?_
      refine wp_iinc (L2 := [some (Rv 88), some (Iv x1), some (Iv x2), some (Iv x3), some (Iv (x4 + (-1)))]) dX12_layWays_95 rfl (Nat.le_of_ble_eq_true rfl) (Nat.le_of_ble_eq_true rfl) rfl ?_
      refine wp_goto (tgt := 49) dX12_layWays_98 (by decide) ?_
      exact h
    · have h := h.2 q8
      refine wp_aload_n dX12_layWays_80 rfl (by decide) ?_
      refine wp_getf (t := Rv 103) 103 dX12_layWays_81 (fl_X12_53 rfl) kd_88 rfl rfl ?_
      refine wp_iload dX12_layWays_84 rfl ?_
      refine wp_iconst dX12_layWays_86 ?_
      refine wp_isub dX12_layWays_87 ?_
      obtain ⟨o9, h⟩ := h
      obtain ⟨o10, h⟩ := h
      refine wp_lald (M6 103 (x4 - 1)) dX12_layWays_88 kd_103 sz_103 o9 o10 (⟨by omega, by omega⟩) rfl ?_
      refine wp_goto (tgt := 93) dX12_layWays_89 (by decide) ?_
      refine wp_ladd dX12_layWays_93 ?_
      refine wp_last dX12_layWays_94 kd_103 sz_103 o3 o4 (⟨by omega, by omega⟩) ?_
      refine wp_iinc (L2 := [some (Rv 88), some (Iv x1), some (Iv x2), some (Iv x3), some (Iv (x4 + (-1)))]) dX12_layWays_95 rfl (Nat.le_of_ble_eq_true rfl) (Nat.le_of_ble_eq_true rfl) rfl ?_
      refine wp_goto (tgt := 49) dX12_layWays_98 (by decide) ?_
      exact h
theorem gX12_layPlaces {x1 x2 : Int}  {M : Mem} {Q : Vl → Mem → Prop} (h : 0 ≤ x2 ∧ (x2 < 8 ∧ (wp 0 yX12_layPlaces 13 [some (Rv 88), some (Iv x1), some (Iv x2), some (Iv (M 95 x2)), some (Iv 0), some (Iv 0), none] [] M Q))) : wp 0 yX12_layPlaces 0 [some (Rv 88), some (Iv x1), some (Iv x2), none, none, none, none] [] M Q := by
  refine wp_aload_n dX12_layPlaces_0 rfl (by decide) ?_
  refine wp_getf (t := Rv 95) 95 dX12_layPlaces_1 (fl_X12_29 rfl) kd_88 rfl rfl ?_
  refine wp_iload_n dX12_layPlaces_4 rfl ?_
  obtain ⟨o1, h⟩ := h
  obtain ⟨o2, h⟩ := h
  refine wp_iald (M 95 x2) dX12_layPlaces_5 kd_95 sz_95 o1 o2 (⟨by omega, by omega⟩) rfl ?_
  refine wp_istore_n (L2 := [some (Rv 88), some (Iv x1), some (Iv x2), some (Iv (M 95 x2)), none, none, none]) dX12_layPlaces_6 (Nat.le_of_ble_eq_true rfl) (Nat.le_of_ble_eq_true rfl) rfl ?_
  refine wp_iconst dX12_layPlaces_7 ?_
  refine wp_istore (L2 := [some (Rv 88), some (Iv x1), some (Iv x2), some (Iv (M 95 x2)), some (Iv 0), none, none]) dX12_layPlaces_8 (Nat.le_of_ble_eq_true rfl) (Nat.le_of_ble_eq_true rfl) rfl ?_
  refine wp_iconst dX12_layPlaces_10 ?_
  refine wp_istore (L2 := [some (Rv 88), some (Iv x1), some (Iv x2), some (Iv (M 95 x2)), some (Iv 0), some (Iv 0), none]) dX12_layPlaces_11 (Nat.le_of_ble_eq_true rfl) (Nat.le_of_ble_eq_true rfl) rfl ?_
  exact h
theorem eX12_layPlaces {x1 x2 : Int}  {M : Mem} {Q : Vl → Mem → Prop} (h : 0 ≤ x2 ∧ (x2 < 8 ∧ (wp 0 yX12_layPlaces 13 [some (Rv 88), some (Iv x1), some (Iv x2), some (Iv (M 95 x2)), some (Iv 0), some (Iv 0), none] [] M Q))) : cl 0 yX12_layPlaces [Rv 88, Iv x1, Iv x2] M Q := enterG (by decide +kernel) (by exact Or.inr (Or.inr (Or.inl rfl))) (Nat.le_of_ble_eq_true rfl) rfl (gX12_layPlaces h)
theorem gX12_layPlaces_13 {x1 x2 x3 x4 x5 : Int}  {M : Mem} {Q : Vl → Mem → Prop} (h : inr x5 ∧ (inr x3 ∧ ((x3 ≤ x5 → 0 ≤ x1 ∧ (x1 < 8 ∧ (wp 0 yX12_layPlaces 80 [some (Rv 88), some (Iv x1), some (Iv x2), some (Iv x3), some (Iv x4), some (Iv ((M 95 x1) - 1)), some (Iv (x3 - 1))] [] M Q))) ∧ (x5 < x3 → cl 0 yX12_at0 [Rv 88, Iv x2, Iv x5] M (QI (fun z6 M6 => (cl 0 yX12_next [Rv 88, Iv x1, Iv x4, Iv z6] M6 (QI (fun z7 M7 => (inr z7 ∧ ((z7 ≠ (-9) → 0 ≤ x5 ∧ (x5 < 40 ∧ (wp 0 yX12_layPlaces 13 [some (Rv 88), some (Iv x1), some (Iv x2), some (Iv x3), some (Iv (z7 + 1)), some (Iv (x5 + 1)), none] [] (up M7 104 x5 z7) Q))) ∧ (z7 = (-9) → Q (Iv 0) M7)))))))))))) : wp 0 yX12_layPlaces 13 [some (Rv 88), some (Iv x1), some (Iv x2), some (Iv x3), some (Iv x4), some (Iv x5), none] [] M Q := by
  refine wp_iload dX12_layPlaces_13 rfl ?_
  refine wp_iload_n dX12_layPlaces_15 rfl ?_
  obtain ⟨o1, h⟩ := h
  obtain ⟨o2, h⟩ := h
  refine wp_icmp_ge (tgt := 65) dX12_layPlaces_16 (by decide) o1 o2 (fun q3 => ?_) (fun q3 => ?_)
  · have h := h.1 q3
    refine wp_aload_n dX12_layPlaces_65 rfl (by decide) ?_
    refine wp_getf (t := Rv 95) 95 dX12_layPlaces_66 (fl_X12_29 rfl) kd_88 rfl rfl ?_
    refine wp_iload_n dX12_layPlaces_69 rfl ?_
    obtain ⟨o4, h⟩ := h
    obtain ⟨o5, h⟩ := h
    refine wp_iald (M 95 x1) dX12_layPlaces_70 kd_95 sz_95 o4 o5 (⟨by omega, by omega⟩) rfl ?_
    refine wp_iconst dX12_layPlaces_71 ?_
    refine wp_isub dX12_layPlaces_72 ?_
    refine wp_istore (L2 := [some (Rv 88), some (Iv x1), some (Iv x2), some (Iv x3), some (Iv x4), some (Iv ((M 95 x1) - 1)), none]) dX12_layPlaces_73 (Nat.le_of_ble_eq_true rfl) (Nat.le_of_ble_eq_true rfl) rfl ?_
    refine wp_iload_n dX12_layPlaces_75 rfl ?_
    refine wp_iconst dX12_layPlaces_76 ?_
    refine wp_isub dX12_layPlaces_77 ?_
    refine wp_istore (L2 := [some (Rv 88), some (Iv x1), some (Iv x2), some (Iv x3), some (Iv x4), some (Iv ((M 95 x1) - 1)), some (Iv (x3 - 1))]) dX12_layPlaces_78 (Nat.le_of_ble_eq_true rfl) (Nat.le_of_ble_eq_true rfl) rfl ?_
    exact h
  · have h := h.2 q3
    refine wp_aload_n dX12_layPlaces_19 rfl (by decide) ?_
    refine wp_iload_n dX12_layPlaces_20 rfl ?_
    refine wp_iload dX12_layPlaces_21 rfl ?_
    refine wp_aload_n dX12_layPlaces_23 rfl (by decide) ?_
    refine wp_iload_n dX12_layPlaces_24 rfl ?_
    refine wp_iload dX12_layPlaces_25 rfl ?_
    refine wp_callV (e1 := 0) (as := [Iv x2, Iv x5]) (S := [Iv x4, Iv x1, Rv 88]) dX12_layPlaces_27 (cs_X12_148 rfl) kd_88 rfl rfl (Nat.le_of_ble_eq_true rfl) (Nat.le_of_ble_eq_true rfl) h (fun v6 M6 q6 r6 => ?_)
    obtain ⟨z6, rfl⟩ := retV_i r6 rfl
    have h := q6
    refine wp_callV (e1 := 0) (as := [Iv x1, Iv x4, Iv z6]) (S := []) dX12_layPlaces_30 (cs_X12_206 rfl) kd_88 rfl rfl (Nat.le_of_ble_eq_true rfl) (Nat.le_of_ble_eq_true rfl) h (fun v7 M7 q7 r7 => ?_)
    obtain ⟨z7, rfl⟩ := retV_i r7 rfl
    have h := q7
    refine wp_istore (L2 := [some (Rv 88), some (Iv x1), some (Iv x2), some (Iv x3), some (Iv x4), some (Iv x5), some (Iv z7)]) dX12_layPlaces_33 (Nat.le_of_ble_eq_true rfl) (Nat.le_of_ble_eq_true rfl) rfl ?_
    refine wp_iload dX12_layPlaces_35 rfl ?_
    refine wp_bipush dX12_layPlaces_37 (by decide) ?_
    obtain ⟨o8, h⟩ := h
    refine wp_icmp_ne (tgt := 44) dX12_layPlaces_39 (by decide) (Or.inr ⟨o8, (by decide)⟩) (fun q9 => ?_) (fun q9 => ?_)
    · have h := h.1 q9
      refine wp_aload_n dX12_layPlaces_44 rfl (by decide) ?_
      refine wp_getf (t := Rv 104) 104 dX12_layPlaces_45 (fl_X12_57 rfl) kd_88 rfl rfl ?_
      refine wp_iload dX12_layPlaces_48 rfl ?_
      refine wp_iload dX12_layPlaces_50 rfl ?_
      obtain ⟨o10, h⟩ := h
      obtain ⟨o11, h⟩ := h
      refine wp_iast dX12_layPlaces_52 kd_104 sz_104 o10 o11 (⟨by omega, by omega⟩) ?_
      refine wp_iload dX12_layPlaces_53 rfl ?_
      refine wp_iconst dX12_layPlaces_55 ?_
      refine wp_iadd dX12_layPlaces_56 ?_
      refine wp_istore (L2 := [some (Rv 88), some (Iv x1), some (Iv x2), some (Iv x3), some (Iv (z7 + 1)), some (Iv x5), some (Iv z7)]) dX12_layPlaces_57 (Nat.le_of_ble_eq_true rfl) (Nat.le_of_ble_eq_true rfl) rfl ?_
      refine wp_iinc (L2 := [some (Rv 88), some (Iv x1), some (Iv x2), some (Iv x3), some (Iv (z7 + 1)), some (Iv (x5 + 1)), some (Iv z7)]) dX12_layPlaces_59 rfl (Nat.le_of_ble_eq_true rfl) (Nat.le_of_ble_eq_true rfl) rfl ?_
      refine wp_goto (tgt := 13) dX12_layPlaces_62 (by decide) ?_
      exact wp_weak [true, true, true, true, true, true, false] rfl h
    · have h := h.2 q9
      refine wp_iconst dX12_layPlaces_42 ?_
      exact wp_zret dX12_layPlaces_43 rfl (Or.inr ⟨rfl, rfl, rfl, by decide⟩) rfl (by decide) h
theorem gX12_layPlaces_80 {x1 x2 x3 x4 x5 x6 : Int}  {M : Mem} {Q : Vl → Mem → Prop} (h : inr x6 ∧ ((x6 < 0 → Q (Iv 1) M) ∧ (0 ≤ x6 → wp 0 yX12_layPlaces 85 [some (Rv 88), some (Iv x1), some (Iv x2), some (Iv x3), some (Iv x4), some (Iv x5), some (Iv x6)] [] M Q))) : wp 0 yX12_layPlaces 80 [some (Rv 88), some (Iv x1), some (Iv x2), some (Iv x3), some (Iv x4), some (Iv x5), some (Iv x6)] [] M Q := by
  refine wp_iload dX12_layPlaces_80 rfl ?_
  obtain ⟨o1, h⟩ := h
  refine wp_if_lt (tgt := 126) dX12_layPlaces_82 (by decide) o1 (fun q2 => ?_) (fun q2 => ?_)
  · have h := h.1 q2
    refine wp_iconst dX12_layPlaces_126 ?_
    exact wp_zret dX12_layPlaces_127 rfl (Or.inr ⟨rfl, rfl, rfl, by decide⟩) rfl (by decide) h
  · have h := h.2 q2
    exact h
theorem gX12_layPlaces_85 {x1 x2 x3 x4 x5 x6 : Int}  {M : Mem} {Q : Vl → Mem → Prop} (h : cl 0 yX12_at0 [Rv 88, Iv x1, Iv x5] M (QI (fun z1 M1 => (cl 0 yX12_at0 [Rv 88, Iv x2, Iv x6] M1 (QI (fun z2 M2 => ((z1 = z2 ∨ (inr z1 ∧ inr z2)) ∧ ((z1 = z2 → 0 ≤ x6 ∧ (x6 < 40 ∧ (wp 0 yX12_layPlaces 80 [some (Rv 88), some (Iv x1), some (Iv x2), some (Iv x3), some (Iv x4), some (Iv (x5 + (-1))), some (Iv (x6 + (-1)))] [] (up M2 105 x6 x5) Q))) ∧ (z1 ≠ z2 → wp 0 yX12_layPlaces 85 [some (Rv 88), some (Iv x1), some (Iv x2), some (Iv x3), some (Iv x4), some (Iv (x5 + (-1))), some (Iv x6)] [] M2 Q))))))))) : wp 0 yX12_layPlaces 85 [some (Rv 88), some (Iv x1), some (Iv x2), some (Iv x3), some (Iv x4), some (Iv x5), some (Iv x6)] [] M Q := by
  refine wp_aload_n dX12_layPlaces_85 rfl (by decide) ?_
  refine wp_iload_n dX12_layPlaces_86 rfl ?_
  refine wp_iload dX12_layPlaces_87 rfl ?_
  refine wp_callV (e1 := 0) (as := [Iv x1, Iv x5]) (S := []) dX12_layPlaces_89 (cs_X12_148 rfl) kd_88 rfl rfl (Nat.le_of_ble_eq_true rfl) (Nat.le_of_ble_eq_true rfl) h (fun v1 M1 q1 r1 => ?_)
  obtain ⟨z1, rfl⟩ := retV_i r1 rfl
  have h := q1
  refine wp_aload_n dX12_layPlaces_92 rfl (by decide) ?_
  refine wp_iload_n dX12_layPlaces_93 rfl ?_
  refine wp_iload dX12_layPlaces_94 rfl ?_
  refine wp_callV (e1 := 0) (as := [Iv x2, Iv x6]) (S := [Iv z1]) dX12_layPlaces_96 (cs_X12_148 rfl) kd_88 rfl rfl (Nat.le_of_ble_eq_true rfl) (Nat.le_of_ble_eq_true rfl) h (fun v2 M2 q2 r2 => ?_)
  obtain ⟨z2, rfl⟩ := retV_i r2 rfl
  have h := q2
  obtain ⟨o3, h⟩ := h
  refine wp_icmp_eq (tgt := 108) dX12_layPlaces_99 (by decide) o3 (fun q4 => ?_) (fun q4 => ?_)
  · have h := h.1 q4
    refine wp_aload_n dX12_layPlaces_108 rfl (by decide) ?_
    refine wp_getf (t := Rv 105) 105 dX12_layPlaces_109 (fl_X12_60 rfl) kd_88 rfl rfl ?_
    refine wp_iload dX12_layPlaces_112 rfl ?_
    refine wp_iload dX12_layPlaces_114 rfl ?_
    obtain ⟨o5, h⟩ := h
    obtain ⟨o6, h⟩ := h
    refine wp_iast dX12_layPlaces_116 kd_105 sz_105 o5 o6 (⟨by omega, by omega⟩) ?_
    refine wp_iinc (L2 := [some (Rv 88), some (Iv x1), some (Iv x2), some (Iv x3), some (Iv x4), some (Iv (x5 + (-1))), some (Iv x6)]) dX12_layPlaces_117 rfl (Nat.le_of_ble_eq_true rfl) (Nat.le_of_ble_eq_true rfl) rfl ?_
    refine wp_iinc (L2 := [some (Rv 88), some (Iv x1), some (Iv x2), some (Iv x3), some (Iv x4), some (Iv (x5 + (-1))), some (Iv (x6 + (-1)))]) dX12_layPlaces_120 rfl (Nat.le_of_ble_eq_true rfl) (Nat.le_of_ble_eq_true rfl) rfl ?_
    refine wp_goto (tgt := 80) dX12_layPlaces_123 (by decide) ?_
    exact h
  · have h := h.2 q4
    refine wp_iinc (L2 := [some (Rv 88), some (Iv x1), some (Iv x2), some (Iv x3), some (Iv x4), some (Iv (x5 + (-1))), some (Iv x6)]) dX12_layPlaces_102 rfl (Nat.le_of_ble_eq_true rfl) (Nat.le_of_ble_eq_true rfl) rfl ?_
    refine wp_goto (tgt := 85) dX12_layPlaces_105 (by decide) ?_
    exact h
theorem gX12_way {x1 x2 x3 x4 : Int}  {M : Mem} {Q : Vl → Mem → Prop} (h : cl 0 yX12_isRow [Iv x3] M (QI (fun z1 M1 => (cl 0 yX12_needTwo [Rv 88, Iv z1, Iv x1, Iv x2] M1 (QI (fun z2 M2 => (inr z2 ∧ ((0 ≤ z2 → cl 0 yX12_layPlaces [Rv 88, Iv x1, Iv x2] M2 (QI (fun z5 M5 => ((z5 ≠ 0 → 0 ≤ x2 ∧ (x2 < 8 ∧ (wp 0 yX12_way 45 [some (Rv 88), some (Iv x1), some (Iv x2), some (Iv x3), some (Iv x4), some (Iv z2), some (Iv 0)] [] (up M5 88 17 (M5 95 x2)) Q))) ∧ (z5 = 0 → Q (Iv (-9)) M5))))) ∧ (z2 < 0 → Q (Iv z2) M2))))))))) : wp 0 yX12_way 0 [some (Rv 88), some (Iv x1), some (Iv x2), some (Iv x3), some (Iv x4), none, none] [] M Q := by
  refine wp_aload_n dX12_way_0 rfl (by decide) ?_
  refine wp_iload_n dX12_way_1 rfl ?_
  refine wp_callS (e1 := 0) (as := [Iv x3]) (S := [Rv 88]) dX12_way_2 (cs_X12_130 rfl) rfl rfl (Nat.le_of_ble_eq_true rfl) (Nat.le_of_ble_eq_true rfl) h (fun v1 M1 q1 r1 => ?_)
  obtain ⟨z1, rfl, hz1⟩ := retV_z r1 rfl
  have h := q1
  refine wp_iload_n dX12_way_5 rfl ?_
  refine wp_iload_n dX12_way_6 rfl ?_
  refine wp_callV (e1 := 0) (as := [Iv z1, Iv x1, Iv x2]) (S := []) dX12_way_7 (cs_X12_188 rfl) kd_88 rfl rfl (Nat.le_of_ble_eq_true rfl) (Nat.le_of_ble_eq_true rfl) h (fun v2 M2 q2 r2 => ?_)
  obtain ⟨z2, rfl⟩ := retV_i r2 rfl
  have h := q2
  refine wp_istore (L2 := [some (Rv 88), some (Iv x1), some (Iv x2), some (Iv x3), some (Iv x4), some (Iv z2), none]) dX12_way_10 (Nat.le_of_ble_eq_true rfl) (Nat.le_of_ble_eq_true rfl) rfl ?_
  refine wp_iload dX12_way_12 rfl ?_
  obtain ⟨o3, h⟩ := h
  refine wp_if_ge (tgt := 20) dX12_way_14 (by decide) o3 (fun q4 => ?_) (fun q4 => ?_)
  · have h := h.1 q4
    refine wp_aload_n dX12_way_20 rfl (by decide) ?_
    refine wp_iload_n dX12_way_21 rfl ?_
    refine wp_iload_n dX12_way_22 rfl ?_
    refine wp_callV (e1 := 0) (as := [Iv x1, Iv x2]) (S := []) dX12_way_23 (cs_X12_210 rfl) kd_88 rfl rfl (Nat.le_of_ble_eq_true rfl) (Nat.le_of_ble_eq_true rfl) h (fun v5 M5 q5 r5 => ?_)
    obtain ⟨z5, rfl, hz5⟩ := retV_z r5 rfl
    have h := q5
    refine wp_if_ne (tgt := 32) dX12_way_26 (by decide) (by have := hz5; omega) (fun q6 => ?_) (fun q6 => ?_)
    · have h := h.1 q6
      refine wp_aload_n dX12_way_32 rfl (by decide) ?_
      refine wp_aload_n dX12_way_33 rfl (by decide) ?_
      refine wp_getf (t := Rv 95) 95 dX12_way_34 (fl_X12_29 rfl) kd_88 rfl rfl ?_
      refine wp_iload_n dX12_way_37 rfl ?_
      obtain ⟨o7, h⟩ := h
      obtain ⟨o8, h⟩ := h
      refine wp_iald (M5 95 x2) dX12_way_38 kd_95 sz_95 o7 o8 (⟨by omega, by omega⟩) rfl ?_
      refine wp_putf (x := (M5 95 x2)) dX12_way_39 (fl_X12_151 rfl) kd_88 (fun _ => rfl) rfl rfl trivial ?_
      refine wp_iconst dX12_way_42 ?_
      refine wp_istore (L2 := [some (Rv 88), some (Iv x1), some (Iv x2), some (Iv x3), some (Iv x4), some (Iv z2), some (Iv 0)]) dX12_way_43 (Nat.le_of_ble_eq_true rfl) (Nat.le_of_ble_eq_true rfl) rfl ?_
      exact h
    · have h := h.2 q6
      refine wp_bipush dX12_way_29 (by decide) ?_
      exact wp_iret dX12_way_31 rfl (Or.inr ⟨rfl, rfl, rfl, by decide⟩) rfl h
  · have h := h.2 q4
    refine wp_iload dX12_way_17 rfl ?_
    exact wp_iret dX12_way_19 rfl (Or.inr ⟨rfl, rfl, rfl, by decide⟩) rfl h
theorem eX12_way {x1 x2 x3 x4 : Int}  {M : Mem} {Q : Vl → Mem → Prop} (h : cl 0 yX12_isRow [Iv x3] M (QI (fun z1 M1 => (cl 0 yX12_needTwo [Rv 88, Iv z1, Iv x1, Iv x2] M1 (QI (fun z2 M2 => (inr z2 ∧ ((0 ≤ z2 → cl 0 yX12_layPlaces [Rv 88, Iv x1, Iv x2] M2 (QI (fun z5 M5 => ((z5 ≠ 0 → 0 ≤ x2 ∧ (x2 < 8 ∧ (wp 0 yX12_way 45 [some (Rv 88), some (Iv x1), some (Iv x2), some (Iv x3), some (Iv x4), some (Iv z2), some (Iv 0)] [] (up M5 88 17 (M5 95 x2)) Q))) ∧ (z5 = 0 → Q (Iv (-9)) M5))))) ∧ (z2 < 0 → Q (Iv z2) M2))))))))) : cl 0 yX12_way [Rv 88, Iv x1, Iv x2, Iv x3, Iv x4] M Q := enterG (by decide +kernel) (by exact Or.inr (Or.inl rfl)) (Nat.le_of_ble_eq_true rfl) rfl (gX12_way h)
theorem gX12_way_45 {x1 x2 x3 x4 x5 x6 : Int}  {M : Mem} {Q : Vl → Mem → Prop} (h : inr x6 ∧ (inr (M 88 17) ∧ (((M 88 17) ≤ x6 → cl 0 yX12_comesToRow [Rv 88, Iv x3] M (QV (fun M4 => (Q (Iv (M4 88 17)) M4)))) ∧ (x6 < (M 88 17) → inr x4 ∧ ((x4 = 0 → 0 ≤ x6 ∧ (x6 < 40 ∧ (wp 0 yX12_way 45 [some (Rv 88), some (Iv x1), some (Iv x2), some (Iv x3), some (Iv x4), some (Iv x5), some (Iv (x6 + 1))] [] (up M 100 x6 (M 104 x6)) Q))) ∧ (x4 ≠ 0 → 0 ≤ x6 ∧ (x6 < 40 ∧ (wp 0 yX12_way 45 [some (Rv 88), some (Iv x1), some (Iv x2), some (Iv x3), some (Iv x4), some (Iv x5), some (Iv (x6 + 1))] [] (up M 100 x6 (M 105 x6)) Q)))))))) : wp 0 yX12_way 45 [some (Rv 88), some (Iv x1), some (Iv x2), some (Iv x3), some (Iv x4), some (Iv x5), some (Iv x6)] [] M Q := by
  refine wp_iload dX12_way_45 rfl ?_
  refine wp_aload_n dX12_way_47 rfl (by decide) ?_
  refine wp_getf (t := Iv (M 88 17)) (M 88 17) dX12_way_48 (fl_X12_151 rfl) kd_88 rfl rfl ?_
  obtain ⟨o1, h⟩ := h
  obtain ⟨o2, h⟩ := h
  refine wp_icmp_ge (tgt := 89) dX12_way_51 (by decide) o1 o2 (fun q3 => ?_) (fun q3 => ?_)
  · have h := h.1 q3
    refine wp_aload_n dX12_way_89 rfl (by decide) ?_
    refine wp_iload_n dX12_way_90 rfl ?_
    refine wp_callV (e1 := 0) (as := [Iv x3]) (S := []) dX12_way_91 (cs_X12_214 rfl) kd_88 rfl rfl (Nat.le_of_ble_eq_true rfl) (Nat.le_of_ble_eq_true rfl) h (fun v4 M4 q4 r4 => ?_)
    have h := q4
    refine wp_aload_n dX12_way_94 rfl (by decide) ?_
    refine wp_getf (t := Iv (M4 88 17)) (M4 88 17) dX12_way_95 (fl_X12_151 rfl) kd_88 rfl rfl ?_
    exact wp_iret dX12_way_98 rfl (Or.inr ⟨rfl, rfl, rfl, by decide⟩) rfl h
  · have h := h.2 q3
    refine wp_aload_n dX12_way_54 rfl (by decide) ?_
    refine wp_getf (t := Rv 100) 100 dX12_way_55 (fl_X12_44 rfl) kd_88 rfl rfl ?_
    refine wp_iload dX12_way_58 rfl ?_
    refine wp_iload dX12_way_60 rfl ?_
    obtain ⟨o5, h⟩ := h
    refine wp_if_eq (tgt := 75) dX12_way_62 (by decide) o5 (fun q6 => ?_) (fun q6 => ?_)
    · have h := h.1 q6
      refine wp_aload_n dX12_way_75 rfl (by decide) ?_
      refine wp_getf (t := Rv 104) 104 dX12_way_76 (fl_X12_57 rfl) kd_88 rfl rfl ?_
      refine wp_iload dX12_way_79 rfl ?_
      obtain ⟨o7, h⟩ := h
      obtain ⟨o8, h⟩ := h
      refine wp_iald (M 104 x6) dX12_way_81 kd_104 sz_104 o7 o8 (⟨by omega, by omega⟩) rfl ?_
      refine wp_iast dX12_way_82 kd_100 sz_100 o7 o8 (⟨by omega, by omega⟩) ?_
      refine wp_iinc (L2 := [some (Rv 88), some (Iv x1), some (Iv x2), some (Iv x3), some (Iv x4), some (Iv x5), some (Iv (x6 + 1))]) dX12_way_83 rfl (Nat.le_of_ble_eq_true rfl) (Nat.le_of_ble_eq_true rfl) rfl ?_
      refine wp_goto (tgt := 45) dX12_way_86 (by decide) ?_
      exact h
    · have h := h.2 q6
      refine wp_aload_n dX12_way_65 rfl (by decide) ?_
      refine wp_getf (t := Rv 105) 105 dX12_way_66 (fl_X12_60 rfl) kd_88 rfl rfl ?_
      refine wp_iload dX12_way_69 rfl ?_
      obtain ⟨o9, h⟩ := h
      obtain ⟨o10, h⟩ := h
      refine wp_iald (M 105 x6) dX12_way_71 kd_105 sz_105 o9 o10 (⟨by omega, by omega⟩) rfl ?_
      refine wp_goto (tgt := 82) dX12_way_72 (by decide) ?_
      refine wp_iast dX12_way_82 kd_100 sz_100 o9 o10 (⟨by omega, by omega⟩) ?_
      refine wp_iinc (L2 := [some (Rv 88), some (Iv x1), some (Iv x2), some (Iv x3), some (Iv x4), some (Iv x5), some (Iv (x6 + 1))]) dX12_way_83 rfl (Nat.le_of_ble_eq_true rfl) (Nat.le_of_ble_eq_true rfl) rfl ?_
      refine wp_goto (tgt := 45) dX12_way_86 (by decide) ?_
      exact h
theorem gX12_places {x1 x2 x3 : Int}  {M : Mem} {Q : Vl → Mem → Prop} (h : cl 0 yX12_needTwo [Rv 88, Iv 1, Iv x1, Iv x2] M (QI (fun z1 M1 => (inr z1 ∧ ((0 ≤ z1 → cl 0 yX12_layPlaces [Rv 88, Iv x1, Iv x2] M1 (QI (fun z4 M4 => ((z4 ≠ 0 → wp 0 yX12_places 38 [some (Rv 88), some (Iv x1), some (Iv x2), some (Iv x3), some (Iv z1), some (Jv 0), none, some (Iv 0), some (Iv 0), none, none, none] [] M4 Q) ∧ (z4 = 0 → Q (Iv (-9)) M4))))) ∧ (z1 < 0 → Q (Iv z1) M1)))))) : wp 0 yX12_places 0 [some (Rv 88), some (Iv x1), some (Iv x2), some (Iv x3), none, none, none, none, none, none, none, none] [] M Q := by
  refine wp_aload_n dX12_places_0 rfl (by decide) ?_
  refine wp_iconst dX12_places_1 ?_
  refine wp_iload_n dX12_places_2 rfl ?_
  refine wp_iload_n dX12_places_3 rfl ?_
  refine wp_callV (e1 := 0) (as := [Iv 1, Iv x1, Iv x2]) (S := []) dX12_places_4 (cs_X12_188 rfl) kd_88 rfl rfl (Nat.le_of_ble_eq_true rfl) (Nat.le_of_ble_eq_true rfl) h (fun v1 M1 q1 r1 => ?_)
  obtain ⟨z1, rfl⟩ := retV_i r1 rfl
  have h := q1
  refine wp_istore (L2 := [some (Rv 88), some (Iv x1), some (Iv x2), some (Iv x3), some (Iv z1), none, none, none, none, none, none, none]) dX12_places_7 (Nat.le_of_ble_eq_true rfl) (Nat.le_of_ble_eq_true rfl) rfl ?_
  refine wp_iload dX12_places_9 rfl ?_
  obtain ⟨o2, h⟩ := h
  refine wp_if_ge (tgt := 17) dX12_places_11 (by decide) o2 (fun q3 => ?_) (fun q3 => ?_)
  · have h := h.1 q3
    refine wp_aload_n dX12_places_17 rfl (by decide) ?_
    refine wp_iload_n dX12_places_18 rfl ?_
    refine wp_iload_n dX12_places_19 rfl ?_
    refine wp_callV (e1 := 0) (as := [Iv x1, Iv x2]) (S := []) dX12_places_20 (cs_X12_210 rfl) kd_88 rfl rfl (Nat.le_of_ble_eq_true rfl) (Nat.le_of_ble_eq_true rfl) h (fun v4 M4 q4 r4 => ?_)
    obtain ⟨z4, rfl, hz4⟩ := retV_z r4 rfl
    have h := q4
    refine wp_if_ne (tgt := 29) dX12_places_23 (by decide) (by have := hz4; omega) (fun q5 => ?_) (fun q5 => ?_)
    · have h := h.1 q5
      refine wp_lconst0 dX12_places_29 ?_
      refine wp_lstore (L2 := [some (Rv 88), some (Iv x1), some (Iv x2), some (Iv x3), some (Iv z1), some (Jv 0), none, none, none, none, none, none]) dX12_places_30 (Nat.le_of_ble_eq_true rfl) (Nat.le_of_ble_eq_true rfl) rfl ?_
      refine wp_iconst dX12_places_32 ?_
      refine wp_istore (L2 := [some (Rv 88), some (Iv x1), some (Iv x2), some (Iv x3), some (Iv z1), some (Jv 0), none, some (Iv 0), none, none, none, none]) dX12_places_33 (Nat.le_of_ble_eq_true rfl) (Nat.le_of_ble_eq_true rfl) rfl ?_
      refine wp_iconst dX12_places_35 ?_
      refine wp_istore (L2 := [some (Rv 88), some (Iv x1), some (Iv x2), some (Iv x3), some (Iv z1), some (Jv 0), none, some (Iv 0), some (Iv 0), none, none, none]) dX12_places_36 (Nat.le_of_ble_eq_true rfl) (Nat.le_of_ble_eq_true rfl) rfl ?_
      exact h
    · have h := h.2 q5
      refine wp_bipush dX12_places_26 (by decide) ?_
      exact wp_iret dX12_places_28 rfl (Or.inr ⟨rfl, rfl, rfl, by decide⟩) rfl h
  · have h := h.2 q3
    refine wp_iload dX12_places_14 rfl ?_
    exact wp_iret dX12_places_16 rfl (Or.inr ⟨rfl, rfl, rfl, by decide⟩) rfl h
theorem eX12_places {x1 x2 x3 : Int}  {M : Mem} {Q : Vl → Mem → Prop} (h : cl 0 yX12_needTwo [Rv 88, Iv 1, Iv x1, Iv x2] M (QI (fun z1 M1 => (inr z1 ∧ ((0 ≤ z1 → cl 0 yX12_layPlaces [Rv 88, Iv x1, Iv x2] M1 (QI (fun z4 M4 => ((z4 ≠ 0 → wp 0 yX12_places 38 [some (Rv 88), some (Iv x1), some (Iv x2), some (Iv x3), some (Iv z1), some (Jv 0), none, some (Iv 0), some (Iv 0), none, none, none] [] M4 Q) ∧ (z4 = 0 → Q (Iv (-9)) M4))))) ∧ (z1 < 0 → Q (Iv z1) M1)))))) : cl 0 yX12_places [Rv 88, Iv x1, Iv x2, Iv x3] M Q := enterG (by decide +kernel) (by exact Or.inr (Or.inl rfl)) (Nat.le_of_ble_eq_true rfl) rfl (gX12_places h)
theorem gX12_places_38 {x1 x2 x3 x4 x5 x7 x8 : Int}  {M : Mem} {Q : Vl → Mem → Prop} (h : 0 ≤ x1 ∧ (x1 < 8 ∧ (inr x8 ∧ (inr (M 95 x1) ∧ (((M 95 x1) ≤ x8 → cl 0 yX12_tellsMany [Rv 88, Jv x5, Iv x7] M (QI (fun z6 M6 => (Q (Iv z6) M6)))) ∧ (x8 < (M 95 x1) → wp 0 yX12_places 55 [some (Rv 88), some (Iv x1), some (Iv x2), some (Iv x3), some (Iv x4), some (Jv x5), none, some (Iv x7), some (Iv x8), some (Iv 0), some (Iv 0), none] [] M Q)))))) : wp 0 yX12_places 38 [some (Rv 88), some (Iv x1), some (Iv x2), some (Iv x3), some (Iv x4), some (Jv x5), none, some (Iv x7), some (Iv x8), none, none, none] [] M Q := by
  refine wp_iload dX12_places_38 rfl ?_
  refine wp_aload_n dX12_places_40 rfl (by decide) ?_
  refine wp_getf (t := Rv 95) 95 dX12_places_41 (fl_X12_29 rfl) kd_88 rfl rfl ?_
  refine wp_iload_n dX12_places_44 rfl ?_
  obtain ⟨o1, h⟩ := h
  obtain ⟨o2, h⟩ := h
  refine wp_iald (M 95 x1) dX12_places_45 kd_95 sz_95 o1 o2 (⟨by omega, by omega⟩) rfl ?_
  obtain ⟨o3, h⟩ := h
  obtain ⟨o4, h⟩ := h
  refine wp_icmp_ge (tgt := 205) dX12_places_46 (by decide) o3 o4 (fun q5 => ?_) (fun q5 => ?_)
  · have h := h.1 q5
    refine wp_aload_n dX12_places_205 rfl (by decide) ?_
    refine wp_lload dX12_places_206 rfl ?_
    refine wp_iload dX12_places_208 rfl ?_
    refine wp_callV (e1 := 0) (as := [Jv x5, Iv x7]) (S := []) dX12_places_210 (cs_X12_202 rfl) kd_88 rfl rfl (Nat.le_of_ble_eq_true rfl) (Nat.le_of_ble_eq_true rfl) h (fun v6 M6 q6 r6 => ?_)
    obtain ⟨z6, rfl⟩ := retV_i r6 rfl
    have h := q6
    exact wp_iret dX12_places_213 rfl (Or.inr ⟨rfl, rfl, rfl, by decide⟩) rfl h
  · have h := h.2 q5
    refine wp_iconst dX12_places_49 ?_
    refine wp_istore (L2 := [some (Rv 88), some (Iv x1), some (Iv x2), some (Iv x3), some (Iv x4), some (Jv x5), none, some (Iv x7), some (Iv x8), some (Iv 0), none, none]) dX12_places_50 (Nat.le_of_ble_eq_true rfl) (Nat.le_of_ble_eq_true rfl) rfl ?_
    refine wp_iconst dX12_places_52 ?_
    refine wp_istore (L2 := [some (Rv 88), some (Iv x1), some (Iv x2), some (Iv x3), some (Iv x4), some (Jv x5), none, some (Iv x7), some (Iv x8), some (Iv 0), some (Iv 0), none]) dX12_places_53 (Nat.le_of_ble_eq_true rfl) (Nat.le_of_ble_eq_true rfl) rfl ?_
    exact h
theorem gX12_places_55 {x1 x2 x3 x4 x5 x7 x8 x9 x10 : Int}  {M : Mem} {Q : Vl → Mem → Prop} (h : 0 ≤ x2 ∧ (x2 < 8 ∧ (inr x10 ∧ (inr (M 95 x2) ∧ (((M 95 x2) ≤ x10 → inr x9 ∧ ((x9 = 0 → 0 ≤ x5 ∧ ((x9 = 0 → wp 0 yX12_places 38 [some (Rv 88), some (Iv x1), some (Iv x2), some (Iv x3), some (Iv x4), some (Jv ((Int.toNat x5 ||| Int.toNat 0 : Nat) : Int)), none, some (Iv (x7 + 0)), some (Iv (x8 + 1)), none, none, none] [] M Q) ∧ (x9 ≠ 0 → wp 0 yX12_places 38 [some (Rv 88), some (Iv x1), some (Iv x2), some (Iv x3), some (Iv x4), some (Jv ((Int.toNat x5 ||| Int.toNat 0 : Nat) : Int)), none, some (Iv (x7 + 1)), some (Iv (x8 + 1)), none, none, none] [] M Q))) ∧ (x9 ≠ 0 → 0 ≤ x8 ∧ (x8 < 64 ∧ (0 ≤ x5 ∧ ((x9 = 0 → wp 0 yX12_places 38 [some (Rv 88), some (Iv x1), some (Iv x2), some (Iv x3), some (Iv x4), some (Jv ((Int.toNat x5 ||| Int.toNat (1 * 2 ^ Int.toNat x8) : Nat) : Int)), none, some (Iv (x7 + 0)), some (Iv (x8 + 1)), none, none, none] [] M Q) ∧ (x9 ≠ 0 → wp 0 yX12_places 38 [some (Rv 88), some (Iv x1), some (Iv x2), some (Iv x3), some (Iv x4), some (Jv ((Int.toNat x5 ||| Int.toNat (1 * 2 ^ Int.toNat x8) : Nat) : Int)), none, some (Iv (x7 + 1)), some (Iv (x8 + 1)), none, none, none] [] M Q))))))) ∧ (x10 < (M 95 x2) → cl 0 yX12_at0 [Rv 88, Iv x1, Iv x8] M (QI (fun z14 M14 => (cl 0 yX12_at0 [Rv 88, Iv x2, Iv x10] M14 (QI (fun z15 M15 => ((z14 = z15 ∨ (inr z14 ∧ inr z15)) ∧ ((z14 ≠ z15 → inr x9 ∧ ((x9 ≠ 0 → wp 0 yX12_places 55 [some (Rv 88), some (Iv x1), some (Iv x2), some (Iv x3), some (Iv x4), some (Jv x5), none, some (Iv x7), some (Iv x8), some (Iv 1), some (Iv (x10 + 1)), none] [] M15 Q) ∧ (x9 = 0 → inr x3 ∧ ((x3 = 0 → wp 0 yX12_places 55 [some (Rv 88), some (Iv x1), some (Iv x2), some (Iv x3), some (Iv x4), some (Jv x5), none, some (Iv x7), some (Iv x8), some (Iv 0), some (Iv (x10 + 1)), none] [] M15 Q) ∧ (x3 ≠ 0 → wp 0 yX12_places 55 [some (Rv 88), some (Iv x1), some (Iv x2), some (Iv x3), some (Iv x4), some (Jv x5), none, some (Iv x7), some (Iv x8), some (Iv 0), some (Iv (x10 + 1)), none] [] M15 Q))))) ∧ (z14 = z15 → 0 ≤ x10 ∧ (x10 < 40 ∧ (inr x8 ∧ (inr (M15 104 x10) ∧ ((x8 < (M15 104 x10) → inr x9 ∧ ((x9 ≠ 0 → wp 0 yX12_places 55 [some (Rv 88), some (Iv x1), some (Iv x2), some (Iv x3), some (Iv x4), some (Jv x5), none, some (Iv x7), some (Iv x8), some (Iv 1), some (Iv (x10 + 1)), none] [] M15 Q) ∧ (x9 = 0 → inr x3 ∧ ((x3 = 0 → wp 0 yX12_places 55 [some (Rv 88), some (Iv x1), some (Iv x2), some (Iv x3), some (Iv x4), some (Jv x5), none, some (Iv x7), some (Iv x8), some (Iv 0), some (Iv (x10 + 1)), none] [] M15 Q) ∧ (x3 ≠ 0 → wp 0 yX12_places 55 [some (Rv 88), some (Iv x1), some (Iv x2), some (Iv x3), some (Iv x4), some (Jv x5), none, some (Iv x7), some (Iv x8), some (Iv 0), some (Iv (x10 + 1)), none] [] M15 Q))))) ∧ ((M15 104 x10) ≤ x8 → inr (M15 105 x10) ∧ (((M15 105 x10) < x8 → inr x9 ∧ ((x9 ≠ 0 → wp 0 yX12_places 55 [some (Rv 88), some (Iv x1), some (Iv x2), some (Iv x3), some (Iv x4), some (Jv x5), none, some (Iv x7), some (Iv x8), some (Iv 1), some (Iv (x10 + 1)), none] [] M15 Q) ∧ (x9 = 0 → inr x3 ∧ ((x3 = 0 → wp 0 yX12_places 55 [some (Rv 88), some (Iv x1), some (Iv x2), some (Iv x3), some (Iv x4), some (Jv x5), none, some (Iv x7), some (Iv x8), some (Iv 0), some (Iv (x10 + 1)), none] [] M15 Q) ∧ (x3 ≠ 0 → wp 0 yX12_places 55 [some (Rv 88), some (Iv x1), some (Iv x2), some (Iv x3), some (Iv x4), some (Jv x5), none, some (Iv x7), some (Iv x8), some (Iv 0), some (Iv (x10 + 1)), none] [] M15 Q))))) ∧ (x8 ≤ (M15 105 x10) → inr x9 ∧ ((x9 ≠ 0 → wp 0 yX12_places 55 [some (Rv 88), some (Iv x1), some (Iv x2), some (Iv x3), some (Iv x4), some (Jv x5), none, some (Iv x7), some (Iv x8), some (Iv 1), some (Iv (x10 + 1)), none] [] M15 Q) ∧ (x9 = 0 → inr x3 ∧ ((x3 = 0 → wp 0 yX12_places 55 [some (Rv 88), some (Iv x1), some (Iv x2), some (Iv x3), some (Iv x4), some (Jv x5), none, some (Iv x7), some (Iv x8), some (Iv 1), some (Iv (x10 + 1)), none] [] M15 Q) ∧ (x3 ≠ 0 → (((M15 104 x10) ≠ (M15 105 x10) → wp 0 yX12_places 55 [some (Rv 88), some (Iv x1), some (Iv x2), some (Iv x3), some (Iv x4), some (Jv x5), none, some (Iv x7), some (Iv x8), some (Iv 0), some (Iv (x10 + 1)), none] [] M15 Q) ∧ ((M15 104 x10) = (M15 105 x10) → wp 0 yX12_places 55 [some (Rv 88), some (Iv x1), some (Iv x2), some (Iv x3), some (Iv x4), some (Jv x5), none, some (Iv x7), some (Iv x8), some (Iv 1), some (Iv (x10 + 1)), none] [] M15 Q))))))))))))))))))))))))))) : wp 0 yX12_places 55 [some (Rv 88), some (Iv x1), some (Iv x2), some (Iv x3), some (Iv x4), some (Jv x5), none, some (Iv x7), some (Iv x8), some (Iv x9), some (Iv x10), none] [] M Q := by
  refine wp_iload dX12_places_55 rfl ?_
  refine wp_aload_n dX12_places_57 rfl (by decide) ?_
  refine wp_getf (t := Rv 95) 95 dX12_places_58 (fl_X12_29 rfl) kd_88 rfl rfl ?_
  refine wp_iload_n dX12_places_61 rfl ?_
  obtain ⟨o1, h⟩ := h
  obtain ⟨o2, h⟩ := h
  refine wp_iald (M 95 x2) dX12_places_62 kd_95 sz_95 o1 o2 (⟨by omega, by omega⟩) rfl ?_
  obtain ⟨o3, h⟩ := h
  obtain ⟨o4, h⟩ := h
  refine wp_icmp_ge (tgt := 166) dX12_places_63 (by decide) o3 o4 (fun q5 => ?_) (fun q5 => ?_)
  · have h := h.1 q5
    refine wp_lload dX12_places_166 rfl ?_
    refine wp_iload dX12_places_168 rfl ?_
    obtain ⟨o6, h⟩ := h
    refine wp_if_eq (tgt := 180) dX12_places_170 (by decide) o6 (fun q7 => ?_) (fun q7 => ?_)
    · have h := h.1 q7
      refine wp_lconst0 dX12_places_180 ?_
      obtain ⟨o8, h⟩ := h
      refine wp_lor ((Int.toNat x5 ||| Int.toNat 0 : Nat) : Int) dX12_places_181 (bits_or64 o8 (by decide)) ?_
      refine wp_lstore (L2 := [some (Rv 88), some (Iv x1), some (Iv x2), some (Iv x3), some (Iv x4), some (Jv ((Int.toNat x5 ||| Int.toNat 0 : Nat) : Int)), none, some (Iv x7), some (Iv x8), some (Iv x9), some (Iv x10), none]) dX12_places_182 (Nat.le_of_ble_eq_true rfl) (Nat.le_of_ble_eq_true rfl) rfl ?_
      refine wp_iload dX12_places_184 rfl ?_
      refine wp_iload dX12_places_186 rfl ?_
      refine wp_if_eq (tgt := 195) dX12_places_188 (by decide) o6 (fun q9 => ?_) (fun q9 => ?_)
      · have h := h.1 q9
        refine wp_iconst dX12_places_195 ?_
        refine wp_iadd dX12_places_196 ?_
        refine wp_istore (L2 := [some (Rv 88), some (Iv x1), some (Iv x2), some (Iv x3), some (Iv x4), some (Jv ((Int.toNat x5 ||| Int.toNat 0 : Nat) : Int)), none, some (Iv (x7 + 0)), some (Iv x8), some (Iv x9), some (Iv x10), none]) dX12_places_197 (Nat.le_of_ble_eq_true rfl) (Nat.le_of_ble_eq_true rfl) rfl ?_
        refine wp_iinc (L2 := [some (Rv 88), some (Iv x1), some (Iv x2), some (Iv x3), some (Iv x4), some (Jv ((Int.toNat x5 ||| Int.toNat 0 : Nat) : Int)), none, some (Iv (x7 + 0)), some (Iv (x8 + 1)), some (Iv x9), some (Iv x10), none]) dX12_places_199 rfl (Nat.le_of_ble_eq_true rfl) (Nat.le_of_ble_eq_true rfl) rfl ?_
        refine wp_goto (tgt := 38) dX12_places_202 (by decide) ?_
        exact wp_weak [true, true, true, true, true, true, true, true, true, false, false, true] rfl h
      · have h := h.2 q9
        refine wp_iconst dX12_places_191 ?_
        refine wp_goto (tgt := 196) dX12_places_192 (by decide) ?_
        refine wp_iadd dX12_places_196 ?_
        refine wp_istore (L2 := [some (Rv 88), some (Iv x1), some (Iv x2), some (Iv x3), some (Iv x4), some (Jv ((Int.toNat x5 ||| Int.toNat 0 : Nat) : Int)), none, some (Iv (x7 + 1)), some (Iv x8), some (Iv x9), some (Iv x10), none]) dX12_places_197 (Nat.le_of_ble_eq_true rfl) (Nat.le_of_ble_eq_true rfl) rfl ?_
        refine wp_iinc (L2 := [some (Rv 88), some (Iv x1), some (Iv x2), some (Iv x3), some (Iv x4), some (Jv ((Int.toNat x5 ||| Int.toNat 0 : Nat) : Int)), none, some (Iv (x7 + 1)), some (Iv (x8 + 1)), some (Iv x9), some (Iv x10), none]) dX12_places_199 rfl (Nat.le_of_ble_eq_true rfl) (Nat.le_of_ble_eq_true rfl) rfl ?_
        refine wp_goto (tgt := 38) dX12_places_202 (by decide) ?_
        exact wp_weak [true, true, true, true, true, true, true, true, true, false, false, true] rfl h
    · have h := h.2 q7
      refine wp_lconst1 dX12_places_173 ?_
      refine wp_iload dX12_places_174 rfl ?_
      obtain ⟨o10, h⟩ := h
      obtain ⟨o11, h⟩ := h
      refine wp_lshl (1 * 2 ^ Int.toNat x8) dX12_places_176 (bits_shl64 o10 o11) ?_
      refine wp_goto (tgt := 181) dX12_places_177 (by decide) ?_
      obtain ⟨o12, h⟩ := h
      refine wp_lor ((Int.toNat x5 ||| Int.toNat (1 * 2 ^ Int.toNat x8) : Nat) : Int) dX12_places_181 (bits_or64 o12 (p2_nn _)) ?_
      refine wp_lstore (L2 := [some (Rv 88), some (Iv x1), some (Iv x2), some (Iv x3), some (Iv x4), some (Jv ((Int.toNat x5 ||| Int.toNat (1 * 2 ^ Int.toNat x8) : Nat) : Int)), none, some (Iv x7), some (Iv x8), some (Iv x9), some (Iv x10), none]) dX12_places_182 (Nat.le_of_ble_eq_true rfl) (Nat.le_of_ble_eq_true rfl) rfl ?_
      refine wp_iload dX12_places_184 rfl ?_
      refine wp_iload dX12_places_186 rfl ?_
      refine wp_if_eq (tgt := 195) dX12_places_188 (by decide) o6 (fun q13 => ?_) (fun q13 => ?_)
      · have h := h.1 q13
        refine wp_iconst dX12_places_195 ?_
        refine wp_iadd dX12_places_196 ?_
        refine wp_istore (L2 := [some (Rv 88), some (Iv x1), some (Iv x2), some (Iv x3), some (Iv x4), some (Jv ((Int.toNat x5 ||| Int.toNat (1 * 2 ^ Int.toNat x8) : Nat) : Int)), none, some (Iv (x7 + 0)), some (Iv x8), some (Iv x9), some (Iv x10), none]) dX12_places_197 (Nat.le_of_ble_eq_true rfl) (Nat.le_of_ble_eq_true rfl) rfl ?_
        refine wp_iinc (L2 := [some (Rv 88), some (Iv x1), some (Iv x2), some (Iv x3), some (Iv x4), some (Jv ((Int.toNat x5 ||| Int.toNat (1 * 2 ^ Int.toNat x8) : Nat) : Int)), none, some (Iv (x7 + 0)), some (Iv (x8 + 1)), some (Iv x9), some (Iv x10), none]) dX12_places_199 rfl (Nat.le_of_ble_eq_true rfl) (Nat.le_of_ble_eq_true rfl) rfl ?_
        refine wp_goto (tgt := 38) dX12_places_202 (by decide) ?_
        exact wp_weak [true, true, true, true, true, true, true, true, true, false, false, true] rfl h
      · have h := h.2 q13
        refine wp_iconst dX12_places_191 ?_
        refine wp_goto (tgt := 196) dX12_places_192 (by decide) ?_
        refine wp_iadd dX12_places_196 ?_
        refine wp_istore (L2 := [some (Rv 88), some (Iv x1), some (Iv x2), some (Iv x3), some (Iv x4), some (Jv ((Int.toNat x5 ||| Int.toNat (1 * 2 ^ Int.toNat x8) : Nat) : Int)), none, some (Iv (x7 + 1)), some (Iv x8), some (Iv x9), some (Iv x10), none]) dX12_places_197 (Nat.le_of_ble_eq_true rfl) (Nat.le_of_ble_eq_true rfl) rfl ?_
        refine wp_iinc (L2 := [some (Rv 88), some (Iv x1), some (Iv x2), some (Iv x3), some (Iv x4), some (Jv ((Int.toNat x5 ||| Int.toNat (1 * 2 ^ Int.toNat x8) : Nat) : Int)), none, some (Iv (x7 + 1)), some (Iv (x8 + 1)), some (Iv x9), some (Iv x10), none]) dX12_places_199 rfl (Nat.le_of_ble_eq_true rfl) (Nat.le_of_ble_eq_true rfl) rfl ?_
        refine wp_goto (tgt := 38) dX12_places_202 (by decide) ?_
        exact wp_weak [true, true, true, true, true, true, true, true, true, false, false, true] rfl h
  · have h := h.2 q5
    refine wp_aload_n dX12_places_66 rfl (by decide) ?_
    refine wp_iload_n dX12_places_67 rfl ?_
    refine wp_iload dX12_places_68 rfl ?_
    refine wp_callV (e1 := 0) (as := [Iv x1, Iv x8]) (S := []) dX12_places_70 (cs_X12_148 rfl) kd_88 rfl rfl (Nat.le_of_ble_eq_true rfl) (Nat.le_of_ble_eq_true rfl) h (fun v14 M14 q14 r14 => ?_)
    obtain ⟨z14, rfl⟩ := retV_i r14 rfl
    have h := q14
    refine wp_aload_n dX12_places_73 rfl (by decide) ?_
    refine wp_iload_n dX12_places_74 rfl ?_
    refine wp_iload dX12_places_75 rfl ?_
    refine wp_callV (e1 := 0) (as := [Iv x2, Iv x10]) (S := [Iv z14]) dX12_places_77 (cs_X12_148 rfl) kd_88 rfl rfl (Nat.le_of_ble_eq_true rfl) (Nat.le_of_ble_eq_true rfl) h (fun v15 M15 q15 r15 => ?_)
    obtain ⟨z15, rfl⟩ := retV_i r15 rfl
    have h := q15
    obtain ⟨o16, h⟩ := h
    refine wp_icmp_ne (tgt := 111) dX12_places_80 (by decide) o16 (fun q17 => ?_) (fun q17 => ?_)
    · have h := h.1 q17
      refine wp_iconst dX12_places_111 ?_
      refine wp_istore (L2 := [some (Rv 88), some (Iv x1), some (Iv x2), some (Iv x3), some (Iv x4), some (Jv x5), none, some (Iv x7), some (Iv x8), some (Iv x9), some (Iv x10), some (Iv 0)]) dX12_places_112 (Nat.le_of_ble_eq_true rfl) (Nat.le_of_ble_eq_true rfl) rfl ?_
      refine wp_iload dX12_places_114 rfl ?_
      obtain ⟨o18, h⟩ := h
      refine wp_if_ne (tgt := 153) dX12_places_116 (by decide) o18 (fun q19 => ?_) (fun q19 => ?_)
      · have h := h.1 q19
        refine wp_iconst dX12_places_153 ?_
        refine wp_goto (tgt := 158) dX12_places_154 (by decide) ?_
        refine wp_istore (L2 := [some (Rv 88), some (Iv x1), some (Iv x2), some (Iv x3), some (Iv x4), some (Jv x5), none, some (Iv x7), some (Iv x8), some (Iv 1), some (Iv x10), some (Iv 0)]) dX12_places_158 (Nat.le_of_ble_eq_true rfl) (Nat.le_of_ble_eq_true rfl) rfl ?_
        refine wp_iinc (L2 := [some (Rv 88), some (Iv x1), some (Iv x2), some (Iv x3), some (Iv x4), some (Jv x5), none, some (Iv x7), some (Iv x8), some (Iv 1), some (Iv (x10 + 1)), some (Iv 0)]) dX12_places_160 rfl (Nat.le_of_ble_eq_true rfl) (Nat.le_of_ble_eq_true rfl) rfl ?_
        refine wp_goto (tgt := 55) dX12_places_163 (by decide) ?_
        exact wp_weak [true, true, true, true, true, true, true, true, true, true, true, false] rfl h
      · have h := h.2 q19
        refine wp_iload_n dX12_places_119 rfl ?_
        obtain ⟨o20, h⟩ := h
        refine wp_if_eq (tgt := 148) dX12_places_120 (by decide) o20 (fun q21 => ?_) (fun q21 => ?_)
        · have h := h.1 q21
          refine wp_iload dX12_places_148 rfl ?_
          refine wp_if_eq (tgt := 157) dX12_places_150 (by decide) (by decide) (fun q22 => ?_) (fun q22 => ?_)
          · have _ := 0
            refine wp_iconst dX12_places_157 ?_
            refine wp_istore (L2 := [some (Rv 88), some (Iv x1), some (Iv x2), some (Iv x3), some (Iv x4), some (Jv x5), none, some (Iv x7), some (Iv x8), some (Iv 0), some (Iv x10), some (Iv 0)]) dX12_places_158 (Nat.le_of_ble_eq_true rfl) (Nat.le_of_ble_eq_true rfl) rfl ?_
            refine wp_iinc (L2 := [some (Rv 88), some (Iv x1), some (Iv x2), some (Iv x3), some (Iv x4), some (Jv x5), none, some (Iv x7), some (Iv x8), some (Iv 0), some (Iv (x10 + 1)), some (Iv 0)]) dX12_places_160 rfl (Nat.le_of_ble_eq_true rfl) (Nat.le_of_ble_eq_true rfl) rfl ?_
            refine wp_goto (tgt := 55) dX12_places_163 (by decide) ?_
            exact wp_weak [true, true, true, true, true, true, true, true, true, true, true, false] rfl h
          · exact absurd q22 (by decide)
        · have h := h.2 q21
          refine wp_iload dX12_places_123 rfl ?_
          refine wp_if_eq (tgt := 157) dX12_places_125 (by decide) (by decide) (fun q23 => ?_) (fun q23 => ?_)
          · have _ := 0
            refine wp_iconst dX12_places_157 ?_
            refine wp_istore (L2 := [some (Rv 88), some (Iv x1), some (Iv x2), some (Iv x3), some (Iv x4), some (Jv x5), none, some (Iv x7), some (Iv x8), some (Iv 0), some (Iv x10), some (Iv 0)]) dX12_places_158 (Nat.le_of_ble_eq_true rfl) (Nat.le_of_ble_eq_true rfl) rfl ?_
            refine wp_iinc (L2 := [some (Rv 88), some (Iv x1), some (Iv x2), some (Iv x3), some (Iv x4), some (Jv x5), none, some (Iv x7), some (Iv x8), some (Iv 0), some (Iv (x10 + 1)), some (Iv 0)]) dX12_places_160 rfl (Nat.le_of_ble_eq_true rfl) (Nat.le_of_ble_eq_true rfl) rfl ?_
            refine wp_goto (tgt := 55) dX12_places_163 (by decide) ?_
            exact wp_weak [true, true, true, true, true, true, true, true, true, true, true, false] rfl h
          · exact absurd q23 (by decide)
    · have h := h.2 q17
      refine wp_iload dX12_places_83 rfl ?_
      refine wp_aload_n dX12_places_85 rfl (by decide) ?_
      refine wp_getf (t := Rv 104) 104 dX12_places_86 (fl_X12_57 rfl) kd_88 rfl rfl ?_
      refine wp_iload dX12_places_89 rfl ?_
      obtain ⟨o24, h⟩ := h
      obtain ⟨o25, h⟩ := h
      refine wp_iald (M15 104 x10) dX12_places_91 kd_104 sz_104 o24 o25 (⟨by omega, by omega⟩) rfl ?_
      obtain ⟨o26, h⟩ := h
      obtain ⟨o27, h⟩ := h
      refine wp_icmp_lt (tgt := 111) dX12_places_92 (by decide) o26 o27 (fun q28 => ?_) (fun q28 => ?_)
      · have h := h.1 q28
        refine wp_iconst dX12_places_111 ?_
        refine wp_istore (L2 := [some (Rv 88), some (Iv x1), some (Iv x2), some (Iv x3), some (Iv x4), some (Jv x5), none, some (Iv x7), some (Iv x8), some (Iv x9), some (Iv x10), some (Iv 0)]) dX12_places_112 (Nat.le_of_ble_eq_true rfl) (Nat.le_of_ble_eq_true rfl) rfl ?_
        refine wp_iload dX12_places_114 rfl ?_
        obtain ⟨o29, h⟩ := h
        refine wp_if_ne (tgt := 153) dX12_places_116 (by decide) o29 (fun q30 => ?_) (fun q30 => ?_)
        · have h := h.1 q30
          refine wp_iconst dX12_places_153 ?_
          refine wp_goto (tgt := 158) dX12_places_154 (by decide) ?_
          refine wp_istore (L2 := [some (Rv 88), some (Iv x1), some (Iv x2), some (Iv x3), some (Iv x4), some (Jv x5), none, some (Iv x7), some (Iv x8), some (Iv 1), some (Iv x10), some (Iv 0)]) dX12_places_158 (Nat.le_of_ble_eq_true rfl) (Nat.le_of_ble_eq_true rfl) rfl ?_
          refine wp_iinc (L2 := [some (Rv 88), some (Iv x1), some (Iv x2), some (Iv x3), some (Iv x4), some (Jv x5), none, some (Iv x7), some (Iv x8), some (Iv 1), some (Iv (x10 + 1)), some (Iv 0)]) dX12_places_160 rfl (Nat.le_of_ble_eq_true rfl) (Nat.le_of_ble_eq_true rfl) rfl ?_
          refine wp_goto (tgt := 55) dX12_places_163 (by decide) ?_
          exact wp_weak [true, true, true, true, true, true, true, true, true, true, true, false] rfl h
        · have h := h.2 q30
          refine wp_iload_n dX12_places_119 rfl ?_
          obtain ⟨o31, h⟩ := h
          refine wp_if_eq (tgt := 148) dX12_places_120 (by decide) o31 (fun q32 => ?_) (fun q32 => ?_)
          · have h := h.1 q32
            refine wp_iload dX12_places_148 rfl ?_
            refine wp_if_eq (tgt := 157) dX12_places_150 (by decide) (by decide) (fun q33 => ?_) (fun q33 => ?_)
            · have _ := 0
              refine wp_iconst dX12_places_157 ?_
              refine wp_istore (L2 := [some (Rv 88), some (Iv x1), some (Iv x2), some (Iv x3), some (Iv x4), some (Jv x5), none, some (Iv x7), some (Iv x8), some (Iv 0), some (Iv x10), some (Iv 0)]) dX12_places_158 (Nat.le_of_ble_eq_true rfl) (Nat.le_of_ble_eq_true rfl) rfl ?_
              refine wp_iinc (L2 := [some (Rv 88), some (Iv x1), some (Iv x2), some (Iv x3), some (Iv x4), some (Jv x5), none, some (Iv x7), some (Iv x8), some (Iv 0), some (Iv (x10 + 1)), some (Iv 0)]) dX12_places_160 rfl (Nat.le_of_ble_eq_true rfl) (Nat.le_of_ble_eq_true rfl) rfl ?_
              refine wp_goto (tgt := 55) dX12_places_163 (by decide) ?_
              exact wp_weak [true, true, true, true, true, true, true, true, true, true, true, false] rfl h
            · exact absurd q33 (by decide)
          · have h := h.2 q32
            refine wp_iload dX12_places_123 rfl ?_
            refine wp_if_eq (tgt := 157) dX12_places_125 (by decide) (by decide) (fun q34 => ?_) (fun q34 => ?_)
            · have _ := 0
              refine wp_iconst dX12_places_157 ?_
              refine wp_istore (L2 := [some (Rv 88), some (Iv x1), some (Iv x2), some (Iv x3), some (Iv x4), some (Jv x5), none, some (Iv x7), some (Iv x8), some (Iv 0), some (Iv x10), some (Iv 0)]) dX12_places_158 (Nat.le_of_ble_eq_true rfl) (Nat.le_of_ble_eq_true rfl) rfl ?_
              refine wp_iinc (L2 := [some (Rv 88), some (Iv x1), some (Iv x2), some (Iv x3), some (Iv x4), some (Jv x5), none, some (Iv x7), some (Iv x8), some (Iv 0), some (Iv (x10 + 1)), some (Iv 0)]) dX12_places_160 rfl (Nat.le_of_ble_eq_true rfl) (Nat.le_of_ble_eq_true rfl) rfl ?_
              refine wp_goto (tgt := 55) dX12_places_163 (by decide) ?_
              exact wp_weak [true, true, true, true, true, true, true, true, true, true, true, false] rfl h
            · exact absurd q34 (by decide)
      · have h := h.2 q28
        refine wp_iload dX12_places_95 rfl ?_
        refine wp_aload_n dX12_places_97 rfl (by decide) ?_
        refine wp_getf (t := Rv 105) 105 dX12_places_98 (fl_X12_60 rfl) kd_88 rfl rfl ?_
        refine wp_iload dX12_places_101 rfl ?_
        refine wp_iald (M15 105 x10) dX12_places_103 kd_105 sz_105 o24 o25 (⟨by omega, by omega⟩) rfl ?_
        obtain ⟨o35, h⟩ := h
        refine wp_icmp_gt (tgt := 111) dX12_places_104 (by decide) o26 o35 (fun q36 => ?_) (fun q36 => ?_)
        · have h := h.1 q36
          refine wp_iconst dX12_places_111 ?_
          refine wp_istore (L2 := [some (Rv 88), some (Iv x1), some (Iv x2), some (Iv x3), some (Iv x4), some (Jv x5), none, some (Iv x7), some (Iv x8), some (Iv x9), some (Iv x10), some (Iv 0)]) dX12_places_112 (Nat.le_of_ble_eq_true rfl) (Nat.le_of_ble_eq_true rfl) rfl ?_
          refine wp_iload dX12_places_114 rfl ?_
          obtain ⟨o37, h⟩ := h
          refine wp_if_ne (tgt := 153) dX12_places_116 (by decide) o37 (fun q38 => ?_) (fun q38 => ?_)
          · have h := h.1 q38
            refine wp_iconst dX12_places_153 ?_
            refine wp_goto (tgt := 158) dX12_places_154 (by decide) ?_
            refine wp_istore (L2 := [some (Rv 88), some (Iv x1), some (Iv x2), some (Iv x3), some (Iv x4), some (Jv x5), none, some (Iv x7), some (Iv x8), some (Iv 1), some (Iv x10), some (Iv 0)]) dX12_places_158 (Nat.le_of_ble_eq_true rfl) (Nat.le_of_ble_eq_true rfl) rfl ?_
            refine wp_iinc (L2 := [some (Rv 88), some (Iv x1), some (Iv x2), some (Iv x3), some (Iv x4), some (Jv x5), none, some (Iv x7), some (Iv x8), some (Iv 1), some (Iv (x10 + 1)), some (Iv 0)]) dX12_places_160 rfl (Nat.le_of_ble_eq_true rfl) (Nat.le_of_ble_eq_true rfl) rfl ?_
            refine wp_goto (tgt := 55) dX12_places_163 (by decide) ?_
            exact wp_weak [true, true, true, true, true, true, true, true, true, true, true, false] rfl h
          · have h := h.2 q38
            refine wp_iload_n dX12_places_119 rfl ?_
            obtain ⟨o39, h⟩ := h
            refine wp_if_eq (tgt := 148) dX12_places_120 (by decide) o39 (fun q40 => ?_) (fun q40 => ?_)
            · have h := h.1 q40
              refine wp_iload dX12_places_148 rfl ?_
              refine wp_if_eq (tgt := 157) dX12_places_150 (by decide) (by decide) (fun q41 => ?_) (fun q41 => ?_)
              · have _ := 0
                refine wp_iconst dX12_places_157 ?_
                refine wp_istore (L2 := [some (Rv 88), some (Iv x1), some (Iv x2), some (Iv x3), some (Iv x4), some (Jv x5), none, some (Iv x7), some (Iv x8), some (Iv 0), some (Iv x10), some (Iv 0)]) dX12_places_158 (Nat.le_of_ble_eq_true rfl) (Nat.le_of_ble_eq_true rfl) rfl ?_
                refine wp_iinc (L2 := [some (Rv 88), some (Iv x1), some (Iv x2), some (Iv x3), some (Iv x4), some (Jv x5), none, some (Iv x7), some (Iv x8), some (Iv 0), some (Iv (x10 + 1)), some (Iv 0)]) dX12_places_160 rfl (Nat.le_of_ble_eq_true rfl) (Nat.le_of_ble_eq_true rfl) rfl ?_
                refine wp_goto (tgt := 55) dX12_places_163 (by decide) ?_
                exact wp_weak [true, true, true, true, true, true, true, true, true, true, true, false] rfl h
              · exact absurd q41 (by decide)
            · have h := h.2 q40
              refine wp_iload dX12_places_123 rfl ?_
              refine wp_if_eq (tgt := 157) dX12_places_125 (by decide) (by decide) (fun q42 => ?_) (fun q42 => ?_)
              · have _ := 0
                refine wp_iconst dX12_places_157 ?_
                refine wp_istore (L2 := [some (Rv 88), some (Iv x1), some (Iv x2), some (Iv x3), some (Iv x4), some (Jv x5), none, some (Iv x7), some (Iv x8), some (Iv 0), some (Iv x10), some (Iv 0)]) dX12_places_158 (Nat.le_of_ble_eq_true rfl) (Nat.le_of_ble_eq_true rfl) rfl ?_
                refine wp_iinc (L2 := [some (Rv 88), some (Iv x1), some (Iv x2), some (Iv x3), some (Iv x4), some (Jv x5), none, some (Iv x7), some (Iv x8), some (Iv 0), some (Iv (x10 + 1)), some (Iv 0)]) dX12_places_160 rfl (Nat.le_of_ble_eq_true rfl) (Nat.le_of_ble_eq_true rfl) rfl ?_
                refine wp_goto (tgt := 55) dX12_places_163 (by decide) ?_
                exact wp_weak [true, true, true, true, true, true, true, true, true, true, true, false] rfl h
              · exact absurd q42 (by decide)
        · have h := h.2 q36
          refine wp_iconst dX12_places_107 ?_
          refine wp_goto (tgt := 112) dX12_places_108 (by decide) ?_
          refine wp_istore (L2 := [some (Rv 88), some (Iv x1), some (Iv x2), some (Iv x3), some (Iv x4), some (Jv x5), none, some (Iv x7), some (Iv x8), some (Iv x9), some (Iv x10), some (Iv 1)]) dX12_places_112 (Nat.le_of_ble_eq_true rfl) (Nat.le_of_ble_eq_true rfl) rfl ?_
          refine wp_iload dX12_places_114 rfl ?_
          obtain ⟨o43, h⟩ := h
          refine wp_if_ne (tgt := 153) dX12_places_116 (by decide) o43 (fun q44 => ?_) (fun q44 => ?_)
          · have h := h.1 q44
            refine wp_iconst dX12_places_153 ?_
            refine wp_goto (tgt := 158) dX12_places_154 (by decide) ?_
            refine wp_istore (L2 := [some (Rv 88), some (Iv x1), some (Iv x2), some (Iv x3), some (Iv x4), some (Jv x5), none, some (Iv x7), some (Iv x8), some (Iv 1), some (Iv x10), some (Iv 1)]) dX12_places_158 (Nat.le_of_ble_eq_true rfl) (Nat.le_of_ble_eq_true rfl) rfl ?_
            refine wp_iinc (L2 := [some (Rv 88), some (Iv x1), some (Iv x2), some (Iv x3), some (Iv x4), some (Jv x5), none, some (Iv x7), some (Iv x8), some (Iv 1), some (Iv (x10 + 1)), some (Iv 1)]) dX12_places_160 rfl (Nat.le_of_ble_eq_true rfl) (Nat.le_of_ble_eq_true rfl) rfl ?_
            refine wp_goto (tgt := 55) dX12_places_163 (by decide) ?_
            exact wp_weak [true, true, true, true, true, true, true, true, true, true, true, false] rfl h
          · have h := h.2 q44
            refine wp_iload_n dX12_places_119 rfl ?_
            obtain ⟨o45, h⟩ := h
            refine wp_if_eq (tgt := 148) dX12_places_120 (by decide) o45 (fun q46 => ?_) (fun q46 => ?_)
            · have h := h.1 q46
              refine wp_iload dX12_places_148 rfl ?_
              refine wp_if_eq (tgt := 157) dX12_places_150 (by decide) (by decide) (fun q47 => ?_) (fun q47 => ?_)
              · exact absurd q47 (by decide)
              · have _ := 0
                refine wp_iconst dX12_places_153 ?_
                refine wp_goto (tgt := 158) dX12_places_154 (by decide) ?_
                refine wp_istore (L2 := [some (Rv 88), some (Iv x1), some (Iv x2), some (Iv x3), some (Iv x4), some (Jv x5), none, some (Iv x7), some (Iv x8), some (Iv 1), some (Iv x10), some (Iv 1)]) dX12_places_158 (Nat.le_of_ble_eq_true rfl) (Nat.le_of_ble_eq_true rfl) rfl ?_
                refine wp_iinc (L2 := [some (Rv 88), some (Iv x1), some (Iv x2), some (Iv x3), some (Iv x4), some (Jv x5), none, some (Iv x7), some (Iv x8), some (Iv 1), some (Iv (x10 + 1)), some (Iv 1)]) dX12_places_160 rfl (Nat.le_of_ble_eq_true rfl) (Nat.le_of_ble_eq_true rfl) rfl ?_
                refine wp_goto (tgt := 55) dX12_places_163 (by decide) ?_
                exact wp_weak [true, true, true, true, true, true, true, true, true, true, true, false] rfl h
            · have h := h.2 q46
              refine wp_iload dX12_places_123 rfl ?_
              refine wp_if_eq (tgt := 157) dX12_places_125 (by decide) (by decide) (fun q48 => ?_) (fun q48 => ?_)
              · exact absurd q48 (by decide)
              · have _ := 0
                refine wp_aload_n dX12_places_128 rfl (by decide) ?_
                refine wp_getf (t := Rv 104) 104 dX12_places_129 (fl_X12_57 rfl) kd_88 rfl rfl ?_
                refine wp_iload dX12_places_132 rfl ?_
                refine wp_iald (M15 104 x10) dX12_places_134 kd_104 sz_104 o24 o25 (⟨by omega, by omega⟩) rfl ?_
                refine wp_aload_n dX12_places_135 rfl (by decide) ?_
                refine wp_getf (t := Rv 105) 105 dX12_places_136 (fl_X12_60 rfl) kd_88 rfl rfl ?_
                refine wp_iload dX12_places_139 rfl ?_
                refine wp_iald (M15 105 x10) dX12_places_141 kd_105 sz_105 o24 o25 (⟨by omega, by omega⟩) rfl ?_
                refine wp_icmp_ne (tgt := 157) dX12_places_142 (by decide) (Or.inr ⟨o27, o35⟩) (fun q49 => ?_) (fun q49 => ?_)
                · have h := h.1 q49
                  refine wp_iconst dX12_places_157 ?_
                  refine wp_istore (L2 := [some (Rv 88), some (Iv x1), some (Iv x2), some (Iv x3), some (Iv x4), some (Jv x5), none, some (Iv x7), some (Iv x8), some (Iv 0), some (Iv x10), some (Iv 1)]) dX12_places_158 (Nat.le_of_ble_eq_true rfl) (Nat.le_of_ble_eq_true rfl) rfl ?_
                  refine wp_iinc (L2 := [some (Rv 88), some (Iv x1), some (Iv x2), some (Iv x3), some (Iv x4), some (Jv x5), none, some (Iv x7), some (Iv x8), some (Iv 0), some (Iv (x10 + 1)), some (Iv 1)]) dX12_places_160 rfl (Nat.le_of_ble_eq_true rfl) (Nat.le_of_ble_eq_true rfl) rfl ?_
                  refine wp_goto (tgt := 55) dX12_places_163 (by decide) ?_
                  exact wp_weak [true, true, true, true, true, true, true, true, true, true, true, false] rfl h
                · have h := h.2 q49
                  refine wp_goto (tgt := 153) dX12_places_145 (by decide) ?_
                  refine wp_iconst dX12_places_153 ?_
                  refine wp_goto (tgt := 158) dX12_places_154 (by decide) ?_
                  refine wp_istore (L2 := [some (Rv 88), some (Iv x1), some (Iv x2), some (Iv x3), some (Iv x4), some (Jv x5), none, some (Iv x7), some (Iv x8), some (Iv 1), some (Iv x10), some (Iv 1)]) dX12_places_158 (Nat.le_of_ble_eq_true rfl) (Nat.le_of_ble_eq_true rfl) rfl ?_
                  refine wp_iinc (L2 := [some (Rv 88), some (Iv x1), some (Iv x2), some (Iv x3), some (Iv x4), some (Jv x5), none, some (Iv x7), some (Iv x8), some (Iv 1), some (Iv (x10 + 1)), some (Iv 1)]) dX12_places_160 rfl (Nat.le_of_ble_eq_true rfl) (Nat.le_of_ble_eq_true rfl) rfl ?_
                  refine wp_goto (tgt := 55) dX12_places_163 (by decide) ?_
                  exact wp_weak [true, true, true, true, true, true, true, true, true, true, true, false] rfl h
theorem gX12_judge {x1 x2 x3 : Int}  {M : Mem} {Q : Vl → Mem → Prop} (h : cl 0 yX12_isWord [Iv x1] M (QI (fun z1 M1 => ((z1 = 0 → Q (Iv (-1)) M1) ∧ (z1 ≠ 0 → cl 0 yX12_isWord [Iv x2] M1 (QI (fun z3 M3 => ((z3 = 0 → Q (Iv (-1)) M3) ∧ (z3 ≠ 0 → cl 0 yX12_isRow [Iv x3] M3 (QI (fun z5 M5 => ((z5 ≠ 0 → cl 0 yX12_isThere [Rv 88, Iv x1] M5 (QI (fun z7 M7 => ((z7 = 0 → cl 0 yX12_meets [Rv 88, Iv 1] M7 (QI (fun z9 M9 => (Q (Iv z9) M9)))) ∧ (z7 ≠ 0 → cl 0 yX12_isThere [Rv 88, Iv x2] M7 (QI (fun z10 M10 => ((z10 = 0 → cl 0 yX12_meets [Rv 88, Iv 1] M10 (QI (fun z12 M12 => (Q (Iv z12) M12)))) ∧ (z10 ≠ 0 → 0 ≤ x3 ∧ (x3 < 6 ∧ (inr (M10 90 x3) ∧ ((0 ≤ (M10 90 x3) → 0 ≤ x2 ∧ (x2 < 8 ∧ (((M10 90 x3) = (M10 95 x2) ∨ (inr (M10 90 x3) ∧ inr (M10 95 x2))) ∧ (((M10 90 x3) ≠ (M10 95 x2) → wp 0 yX12_judge 82 [some (Rv 88), some (Iv x1), some (Iv x2), some (Iv x3), some (Iv 0), some (Iv (-1)), some (Iv 0), none] [] M10 Q) ∧ ((M10 90 x3) = (M10 95 x2) → wp 0 yX12_judge 82 [some (Rv 88), some (Iv x1), some (Iv x2), some (Iv x3), some (Iv 1), some (Iv (-1)), some (Iv 0), none] [] M10 Q))))) ∧ ((M10 90 x3) < 0 → cl 0 yX12_meets [Rv 88, Iv 1] M10 (QI (fun z21 M21 => (Q (Iv z21) M21)))))))))))))))) ∧ (z5 = 0 → Q (Iv (-1)) M5))))))))))))) : wp 0 yX12_judge 0 [some (Rv 88), some (Iv x1), some (Iv x2), some (Iv x3), none, none, none, none] [] M Q := by
  refine wp_iload_n dX12_judge_0 rfl ?_
  refine wp_callS (e1 := 0) (as := [Iv x1]) (S := []) dX12_judge_1 (cs_X12_154 rfl) rfl rfl (Nat.le_of_ble_eq_true rfl) (Nat.le_of_ble_eq_true rfl) h (fun v1 M1 q1 r1 => ?_)
  obtain ⟨z1, rfl, hz1⟩ := retV_z r1 rfl
  have h := q1
  refine wp_if_eq (tgt := 21) dX12_judge_4 (by decide) (by have := hz1; omega) (fun q2 => ?_) (fun q2 => ?_)
  · have h := h.1 q2
    refine wp_iconst dX12_judge_21 ?_
    exact wp_iret dX12_judge_22 rfl (Or.inr ⟨rfl, rfl, rfl, by decide⟩) rfl h
  · have h := h.2 q2
    refine wp_iload_n dX12_judge_7 rfl ?_
    refine wp_callS (e1 := 0) (as := [Iv x2]) (S := []) dX12_judge_8 (cs_X12_154 rfl) rfl rfl (Nat.le_of_ble_eq_true rfl) (Nat.le_of_ble_eq_true rfl) h (fun v3 M3 q3 r3 => ?_)
    obtain ⟨z3, rfl, hz3⟩ := retV_z r3 rfl
    have h := q3
    refine wp_if_eq (tgt := 21) dX12_judge_11 (by decide) (by have := hz3; omega) (fun q4 => ?_) (fun q4 => ?_)
    · have h := h.1 q4
      refine wp_iconst dX12_judge_21 ?_
      exact wp_iret dX12_judge_22 rfl (Or.inr ⟨rfl, rfl, rfl, by decide⟩) rfl h
    · have h := h.2 q4
      refine wp_iload_n dX12_judge_14 rfl ?_
      refine wp_callS (e1 := 0) (as := [Iv x3]) (S := []) dX12_judge_15 (cs_X12_130 rfl) rfl rfl (Nat.le_of_ble_eq_true rfl) (Nat.le_of_ble_eq_true rfl) h (fun v5 M5 q5 r5 => ?_)
      obtain ⟨z5, rfl, hz5⟩ := retV_z r5 rfl
      have h := q5
      refine wp_if_ne (tgt := 23) dX12_judge_18 (by decide) (by have := hz5; omega) (fun q6 => ?_) (fun q6 => ?_)
      · have h := h.1 q6
        refine wp_aload_n dX12_judge_23 rfl (by decide) ?_
        refine wp_iload_n dX12_judge_24 rfl ?_
        refine wp_callV (e1 := 0) (as := [Iv x1]) (S := []) dX12_judge_25 (cs_X12_185 rfl) kd_88 rfl rfl (Nat.le_of_ble_eq_true rfl) (Nat.le_of_ble_eq_true rfl) h (fun v7 M7 q7 r7 => ?_)
        obtain ⟨z7, rfl, hz7⟩ := retV_z r7 rfl
        have h := q7
        refine wp_if_eq (tgt := 48) dX12_judge_28 (by decide) (by have := hz7; omega) (fun q8 => ?_) (fun q8 => ?_)
        · have h := h.1 q8
          refine wp_aload_n dX12_judge_48 rfl (by decide) ?_
          refine wp_iconst dX12_judge_49 ?_
          refine wp_callV (e1 := 0) (as := [Iv 1]) (S := []) dX12_judge_50 (cs_X12_134 rfl) kd_88 rfl rfl (Nat.le_of_ble_eq_true rfl) (Nat.le_of_ble_eq_true rfl) h (fun v9 M9 q9 r9 => ?_)
          obtain ⟨z9, rfl⟩ := retV_i r9 rfl
          have h := q9
          exact wp_iret dX12_judge_53 rfl (Or.inr ⟨rfl, rfl, rfl, by decide⟩) rfl h
        · have h := h.2 q8
          refine wp_aload_n dX12_judge_31 rfl (by decide) ?_
          refine wp_iload_n dX12_judge_32 rfl ?_
          refine wp_callV (e1 := 0) (as := [Iv x2]) (S := []) dX12_judge_33 (cs_X12_185 rfl) kd_88 rfl rfl (Nat.le_of_ble_eq_true rfl) (Nat.le_of_ble_eq_true rfl) h (fun v10 M10 q10 r10 => ?_)
          obtain ⟨z10, rfl, hz10⟩ := retV_z r10 rfl
          have h := q10
          refine wp_if_eq (tgt := 48) dX12_judge_36 (by decide) (by have := hz10; omega) (fun q11 => ?_) (fun q11 => ?_)
          · have h := h.1 q11
            refine wp_aload_n dX12_judge_48 rfl (by decide) ?_
            refine wp_iconst dX12_judge_49 ?_
            refine wp_callV (e1 := 0) (as := [Iv 1]) (S := []) dX12_judge_50 (cs_X12_134 rfl) kd_88 rfl rfl (Nat.le_of_ble_eq_true rfl) (Nat.le_of_ble_eq_true rfl) h (fun v12 M12 q12 r12 => ?_)
            obtain ⟨z12, rfl⟩ := retV_i r12 rfl
            have h := q12
            exact wp_iret dX12_judge_53 rfl (Or.inr ⟨rfl, rfl, rfl, by decide⟩) rfl h
          · have h := h.2 q11
            refine wp_aload_n dX12_judge_39 rfl (by decide) ?_
            refine wp_getf (t := Rv 90) 90 dX12_judge_40 (fl_X12_13 rfl) kd_88 rfl rfl ?_
            refine wp_iload_n dX12_judge_43 rfl ?_
            obtain ⟨o13, h⟩ := h
            obtain ⟨o14, h⟩ := h
            refine wp_iald (M10 90 x3) dX12_judge_44 kd_90 sz_90 o13 o14 (⟨by omega, by omega⟩) rfl ?_
            obtain ⟨o15, h⟩ := h
            refine wp_if_ge (tgt := 54) dX12_judge_45 (by decide) o15 (fun q16 => ?_) (fun q16 => ?_)
            · have h := h.1 q16
              refine wp_aload_n dX12_judge_54 rfl (by decide) ?_
              refine wp_getf (t := Rv 90) 90 dX12_judge_55 (fl_X12_13 rfl) kd_88 rfl rfl ?_
              refine wp_iload_n dX12_judge_58 rfl ?_
              refine wp_iald (M10 90 x3) dX12_judge_59 kd_90 sz_90 o13 o14 (⟨by omega, by omega⟩) rfl ?_
              refine wp_aload_n dX12_judge_60 rfl (by decide) ?_
              refine wp_getf (t := Rv 95) 95 dX12_judge_61 (fl_X12_29 rfl) kd_88 rfl rfl ?_
              refine wp_iload_n dX12_judge_64 rfl ?_
              obtain ⟨o17, h⟩ := h
              obtain ⟨o18, h⟩ := h
              refine wp_iald (M10 95 x2) dX12_judge_65 kd_95 sz_95 o17 o18 (⟨by omega, by omega⟩) rfl ?_
              obtain ⟨o19, h⟩ := h
              refine wp_icmp_ne (tgt := 73) dX12_judge_66 (by decide) o19 (fun q20 => ?_) (fun q20 => ?_)
              · have h := h.1 q20
                refine wp_iconst dX12_judge_73 ?_
                refine wp_istore (L2 := [some (Rv 88), some (Iv x1), some (Iv x2), some (Iv x3), some (Iv 0), none, none, none]) dX12_judge_74 (Nat.le_of_ble_eq_true rfl) (Nat.le_of_ble_eq_true rfl) rfl ?_
                refine wp_iconst dX12_judge_76 ?_
                refine wp_istore (L2 := [some (Rv 88), some (Iv x1), some (Iv x2), some (Iv x3), some (Iv 0), some (Iv (-1)), none, none]) dX12_judge_77 (Nat.le_of_ble_eq_true rfl) (Nat.le_of_ble_eq_true rfl) rfl ?_
                refine wp_iconst dX12_judge_79 ?_
                refine wp_istore (L2 := [some (Rv 88), some (Iv x1), some (Iv x2), some (Iv x3), some (Iv 0), some (Iv (-1)), some (Iv 0), none]) dX12_judge_80 (Nat.le_of_ble_eq_true rfl) (Nat.le_of_ble_eq_true rfl) rfl ?_
                exact h
              · have h := h.2 q20
                refine wp_iconst dX12_judge_69 ?_
                refine wp_goto (tgt := 74) dX12_judge_70 (by decide) ?_
                refine wp_istore (L2 := [some (Rv 88), some (Iv x1), some (Iv x2), some (Iv x3), some (Iv 1), none, none, none]) dX12_judge_74 (Nat.le_of_ble_eq_true rfl) (Nat.le_of_ble_eq_true rfl) rfl ?_
                refine wp_iconst dX12_judge_76 ?_
                refine wp_istore (L2 := [some (Rv 88), some (Iv x1), some (Iv x2), some (Iv x3), some (Iv 1), some (Iv (-1)), none, none]) dX12_judge_77 (Nat.le_of_ble_eq_true rfl) (Nat.le_of_ble_eq_true rfl) rfl ?_
                refine wp_iconst dX12_judge_79 ?_
                refine wp_istore (L2 := [some (Rv 88), some (Iv x1), some (Iv x2), some (Iv x3), some (Iv 1), some (Iv (-1)), some (Iv 0), none]) dX12_judge_80 (Nat.le_of_ble_eq_true rfl) (Nat.le_of_ble_eq_true rfl) rfl ?_
                exact h
            · have h := h.2 q16
              refine wp_aload_n dX12_judge_48 rfl (by decide) ?_
              refine wp_iconst dX12_judge_49 ?_
              refine wp_callV (e1 := 0) (as := [Iv 1]) (S := []) dX12_judge_50 (cs_X12_134 rfl) kd_88 rfl rfl (Nat.le_of_ble_eq_true rfl) (Nat.le_of_ble_eq_true rfl) h (fun v21 M21 q21 r21 => ?_)
              obtain ⟨z21, rfl⟩ := retV_i r21 rfl
              have h := q21
              exact wp_iret dX12_judge_53 rfl (Or.inr ⟨rfl, rfl, rfl, by decide⟩) rfl h
      · have h := h.2 q6
        refine wp_iconst dX12_judge_21 ?_
        exact wp_iret dX12_judge_22 rfl (Or.inr ⟨rfl, rfl, rfl, by decide⟩) rfl h
theorem eX12_judge {x1 x2 x3 : Int}  {M : Mem} {Q : Vl → Mem → Prop} (h : cl 0 yX12_isWord [Iv x1] M (QI (fun z1 M1 => ((z1 = 0 → Q (Iv (-1)) M1) ∧ (z1 ≠ 0 → cl 0 yX12_isWord [Iv x2] M1 (QI (fun z3 M3 => ((z3 = 0 → Q (Iv (-1)) M3) ∧ (z3 ≠ 0 → cl 0 yX12_isRow [Iv x3] M3 (QI (fun z5 M5 => ((z5 ≠ 0 → cl 0 yX12_isThere [Rv 88, Iv x1] M5 (QI (fun z7 M7 => ((z7 = 0 → cl 0 yX12_meets [Rv 88, Iv 1] M7 (QI (fun z9 M9 => (Q (Iv z9) M9)))) ∧ (z7 ≠ 0 → cl 0 yX12_isThere [Rv 88, Iv x2] M7 (QI (fun z10 M10 => ((z10 = 0 → cl 0 yX12_meets [Rv 88, Iv 1] M10 (QI (fun z12 M12 => (Q (Iv z12) M12)))) ∧ (z10 ≠ 0 → 0 ≤ x3 ∧ (x3 < 6 ∧ (inr (M10 90 x3) ∧ ((0 ≤ (M10 90 x3) → 0 ≤ x2 ∧ (x2 < 8 ∧ (((M10 90 x3) = (M10 95 x2) ∨ (inr (M10 90 x3) ∧ inr (M10 95 x2))) ∧ (((M10 90 x3) ≠ (M10 95 x2) → wp 0 yX12_judge 82 [some (Rv 88), some (Iv x1), some (Iv x2), some (Iv x3), some (Iv 0), some (Iv (-1)), some (Iv 0), none] [] M10 Q) ∧ ((M10 90 x3) = (M10 95 x2) → wp 0 yX12_judge 82 [some (Rv 88), some (Iv x1), some (Iv x2), some (Iv x3), some (Iv 1), some (Iv (-1)), some (Iv 0), none] [] M10 Q))))) ∧ ((M10 90 x3) < 0 → cl 0 yX12_meets [Rv 88, Iv 1] M10 (QI (fun z21 M21 => (Q (Iv z21) M21)))))))))))))))) ∧ (z5 = 0 → Q (Iv (-1)) M5))))))))))))) : cl 0 yX12_judge [Rv 88, Iv x1, Iv x2, Iv x3] M Q := enterG (by decide +kernel) (by exact Or.inr (Or.inl rfl)) (Nat.le_of_ble_eq_true rfl) rfl (gX12_judge h)
theorem gX12_judge_82 {x1 x2 x3 x4 x5 x6 : Int}  {M : Mem} {Q : Vl → Mem → Prop} (h : 0 ≤ x3 ∧ (x3 < 6 ∧ (inr x6 ∧ (inr (M 90 x3) ∧ (((M 90 x3) ≤ x6 → inr x4 ∧ ((x4 = 0 → Q (Iv 0) M) ∧ (x4 ≠ 0 → Q (Iv 1) M))) ∧ (x6 < (M 90 x3) → inr x4 ∧ ((x4 = 0 → ((x4 = 0 → Q (Iv 0) M) ∧ (x4 ≠ 0 → Q (Iv 1) M))) ∧ (x4 ≠ 0 → cl 0 yX12_rowAt [Rv 88, Iv x3, Iv x6] M (QI (fun z11 M11 => (inr z11 ∧ (inr x5 ∧ ((z11 ≤ x5 → wp 0 yX12_judge 82 [some (Rv 88), some (Iv x1), some (Iv x2), some (Iv x3), some (Iv 0), some (Iv z11), some (Iv (x6 + 1)), none] [] M11 Q) ∧ (x5 < z11 → 0 ≤ x1 ∧ (x1 < 8 ∧ (inr (M11 95 x1) ∧ (((M11 95 x1) ≤ z11 → wp 0 yX12_judge 82 [some (Rv 88), some (Iv x1), some (Iv x2), some (Iv x3), some (Iv 0), some (Iv z11), some (Iv (x6 + 1)), none] [] M11 Q) ∧ (z11 < (M11 95 x1) → cl 0 yX12_at0 [Rv 88, Iv x1, Iv z11] M11 (QI (fun z19 M19 => (cl 0 yX12_at0 [Rv 88, Iv x2, Iv x6] M19 (QI (fun z20 M20 => ((z19 = z20 ∨ (inr z19 ∧ inr z20)) ∧ ((z19 ≠ z20 → wp 0 yX12_judge 82 [some (Rv 88), some (Iv x1), some (Iv x2), some (Iv x3), some (Iv 0), some (Iv z11), some (Iv (x6 + 1)), none] [] M20 Q) ∧ (z19 = z20 → wp 0 yX12_judge 82 [some (Rv 88), some (Iv x1), some (Iv x2), some (Iv x3), some (Iv 1), some (Iv z11), some (Iv (x6 + 1)), none] [] M20 Q)))))))))))))))))))))))))) : wp 0 yX12_judge 82 [some (Rv 88), some (Iv x1), some (Iv x2), some (Iv x3), some (Iv x4), some (Iv x5), some (Iv x6), none] [] M Q := by
  refine wp_iload dX12_judge_82 rfl ?_
  refine wp_aload_n dX12_judge_84 rfl (by decide) ?_
  refine wp_getf (t := Rv 90) 90 dX12_judge_85 (fl_X12_13 rfl) kd_88 rfl rfl ?_
  refine wp_iload_n dX12_judge_88 rfl ?_
  obtain ⟨o1, h⟩ := h
  obtain ⟨o2, h⟩ := h
  refine wp_iald (M 90 x3) dX12_judge_89 kd_90 sz_90 o1 o2 (⟨by omega, by omega⟩) rfl ?_
  obtain ⟨o3, h⟩ := h
  obtain ⟨o4, h⟩ := h
  refine wp_icmp_ge (tgt := 159) dX12_judge_90 (by decide) o3 o4 (fun q5 => ?_) (fun q5 => ?_)
  · have h := h.1 q5
    refine wp_iload dX12_judge_159 rfl ?_
    obtain ⟨o6, h⟩ := h
    refine wp_if_eq (tgt := 168) dX12_judge_161 (by decide) o6 (fun q7 => ?_) (fun q7 => ?_)
    · have h := h.1 q7
      refine wp_iconst dX12_judge_168 ?_
      exact wp_iret dX12_judge_169 rfl (Or.inr ⟨rfl, rfl, rfl, by decide⟩) rfl h
    · have h := h.2 q7
      refine wp_iconst dX12_judge_164 ?_
      refine wp_goto (tgt := 169) dX12_judge_165 (by decide) ?_
      exact wp_iret dX12_judge_169 rfl (Or.inr ⟨rfl, rfl, rfl, by decide⟩) rfl h
  · have h := h.2 q5
    refine wp_iload dX12_judge_93 rfl ?_
    obtain ⟨o8, h⟩ := h
    refine wp_if_eq (tgt := 159) dX12_judge_95 (by decide) o8 (fun q9 => ?_) (fun q9 => ?_)
    · have h := h.1 q9
      refine wp_iload dX12_judge_159 rfl ?_
      refine wp_if_eq (tgt := 168) dX12_judge_161 (by decide) o8 (fun q10 => ?_) (fun q10 => ?_)
      · have h := h.1 q10
        refine wp_iconst dX12_judge_168 ?_
        exact wp_iret dX12_judge_169 rfl (Or.inr ⟨rfl, rfl, rfl, by decide⟩) rfl h
      · have h := h.2 q10
        refine wp_iconst dX12_judge_164 ?_
        refine wp_goto (tgt := 169) dX12_judge_165 (by decide) ?_
        exact wp_iret dX12_judge_169 rfl (Or.inr ⟨rfl, rfl, rfl, by decide⟩) rfl h
    · have h := h.2 q9
      refine wp_aload_n dX12_judge_98 rfl (by decide) ?_
      refine wp_iload_n dX12_judge_99 rfl ?_
      refine wp_iload dX12_judge_100 rfl ?_
      refine wp_callV (e1 := 0) (as := [Iv x3, Iv x6]) (S := []) dX12_judge_102 (cs_X12_138 rfl) kd_88 rfl rfl (Nat.le_of_ble_eq_true rfl) (Nat.le_of_ble_eq_true rfl) h (fun v11 M11 q11 r11 => ?_)
      obtain ⟨z11, rfl⟩ := retV_i r11 rfl
      have h := q11
      refine wp_istore (L2 := [some (Rv 88), some (Iv x1), some (Iv x2), some (Iv x3), some (Iv x4), some (Iv x5), some (Iv x6), some (Iv z11)]) dX12_judge_105 (Nat.le_of_ble_eq_true rfl) (Nat.le_of_ble_eq_true rfl) rfl ?_
      refine wp_iload dX12_judge_107 rfl ?_
      refine wp_iload dX12_judge_109 rfl ?_
      obtain ⟨o12, h⟩ := h
      obtain ⟨o13, h⟩ := h
      refine wp_icmp_le (tgt := 146) dX12_judge_111 (by decide) o12 o13 (fun q14 => ?_) (fun q14 => ?_)
      · have h := h.1 q14
        refine wp_iconst dX12_judge_146 ?_
        refine wp_istore (L2 := [some (Rv 88), some (Iv x1), some (Iv x2), some (Iv x3), some (Iv 0), some (Iv x5), some (Iv x6), some (Iv z11)]) dX12_judge_147 (Nat.le_of_ble_eq_true rfl) (Nat.le_of_ble_eq_true rfl) rfl ?_
        refine wp_iload dX12_judge_149 rfl ?_
        refine wp_istore (L2 := [some (Rv 88), some (Iv x1), some (Iv x2), some (Iv x3), some (Iv 0), some (Iv z11), some (Iv x6), some (Iv z11)]) dX12_judge_151 (Nat.le_of_ble_eq_true rfl) (Nat.le_of_ble_eq_true rfl) rfl ?_
        refine wp_iinc (L2 := [some (Rv 88), some (Iv x1), some (Iv x2), some (Iv x3), some (Iv 0), some (Iv z11), some (Iv (x6 + 1)), some (Iv z11)]) dX12_judge_153 rfl (Nat.le_of_ble_eq_true rfl) (Nat.le_of_ble_eq_true rfl) rfl ?_
        refine wp_goto (tgt := 82) dX12_judge_156 (by decide) ?_
        exact wp_weak [true, true, true, true, true, true, true, false] rfl h
      · have h := h.2 q14
        refine wp_iload dX12_judge_114 rfl ?_
        refine wp_aload_n dX12_judge_116 rfl (by decide) ?_
        refine wp_getf (t := Rv 95) 95 dX12_judge_117 (fl_X12_29 rfl) kd_88 rfl rfl ?_
        refine wp_iload_n dX12_judge_120 rfl ?_
        obtain ⟨o15, h⟩ := h
        obtain ⟨o16, h⟩ := h
        refine wp_iald (M11 95 x1) dX12_judge_121 kd_95 sz_95 o15 o16 (⟨by omega, by omega⟩) rfl ?_
        obtain ⟨o17, h⟩ := h
        refine wp_icmp_ge (tgt := 146) dX12_judge_122 (by decide) o12 o17 (fun q18 => ?_) (fun q18 => ?_)
        · have h := h.1 q18
          refine wp_iconst dX12_judge_146 ?_
          refine wp_istore (L2 := [some (Rv 88), some (Iv x1), some (Iv x2), some (Iv x3), some (Iv 0), some (Iv x5), some (Iv x6), some (Iv z11)]) dX12_judge_147 (Nat.le_of_ble_eq_true rfl) (Nat.le_of_ble_eq_true rfl) rfl ?_
          refine wp_iload dX12_judge_149 rfl ?_
          refine wp_istore (L2 := [some (Rv 88), some (Iv x1), some (Iv x2), some (Iv x3), some (Iv 0), some (Iv z11), some (Iv x6), some (Iv z11)]) dX12_judge_151 (Nat.le_of_ble_eq_true rfl) (Nat.le_of_ble_eq_true rfl) rfl ?_
          refine wp_iinc (L2 := [some (Rv 88), some (Iv x1), some (Iv x2), some (Iv x3), some (Iv 0), some (Iv z11), some (Iv (x6 + 1)), some (Iv z11)]) dX12_judge_153 rfl (Nat.le_of_ble_eq_true rfl) (Nat.le_of_ble_eq_true rfl) rfl ?_
          refine wp_goto (tgt := 82) dX12_judge_156 (by decide) ?_
          exact wp_weak [true, true, true, true, true, true, true, false] rfl h
        · have h := h.2 q18
          refine wp_aload_n dX12_judge_125 rfl (by decide) ?_
          refine wp_iload_n dX12_judge_126 rfl ?_
          refine wp_iload dX12_judge_127 rfl ?_
          refine wp_callV (e1 := 0) (as := [Iv x1, Iv z11]) (S := []) dX12_judge_129 (cs_X12_148 rfl) kd_88 rfl rfl (Nat.le_of_ble_eq_true rfl) (Nat.le_of_ble_eq_true rfl) h (fun v19 M19 q19 r19 => ?_)
          obtain ⟨z19, rfl⟩ := retV_i r19 rfl
          have h := q19
          refine wp_aload_n dX12_judge_132 rfl (by decide) ?_
          refine wp_iload_n dX12_judge_133 rfl ?_
          refine wp_iload dX12_judge_134 rfl ?_
          refine wp_callV (e1 := 0) (as := [Iv x2, Iv x6]) (S := [Iv z19]) dX12_judge_136 (cs_X12_148 rfl) kd_88 rfl rfl (Nat.le_of_ble_eq_true rfl) (Nat.le_of_ble_eq_true rfl) h (fun v20 M20 q20 r20 => ?_)
          obtain ⟨z20, rfl⟩ := retV_i r20 rfl
          have h := q20
          obtain ⟨o21, h⟩ := h
          refine wp_icmp_ne (tgt := 146) dX12_judge_139 (by decide) o21 (fun q22 => ?_) (fun q22 => ?_)
          · have h := h.1 q22
            refine wp_iconst dX12_judge_146 ?_
            refine wp_istore (L2 := [some (Rv 88), some (Iv x1), some (Iv x2), some (Iv x3), some (Iv 0), some (Iv x5), some (Iv x6), some (Iv z11)]) dX12_judge_147 (Nat.le_of_ble_eq_true rfl) (Nat.le_of_ble_eq_true rfl) rfl ?_
            refine wp_iload dX12_judge_149 rfl ?_
            refine wp_istore (L2 := [some (Rv 88), some (Iv x1), some (Iv x2), some (Iv x3), some (Iv 0), some (Iv z11), some (Iv x6), some (Iv z11)]) dX12_judge_151 (Nat.le_of_ble_eq_true rfl) (Nat.le_of_ble_eq_true rfl) rfl ?_
            refine wp_iinc (L2 := [some (Rv 88), some (Iv x1), some (Iv x2), some (Iv x3), some (Iv 0), some (Iv z11), some (Iv (x6 + 1)), some (Iv z11)]) dX12_judge_153 rfl (Nat.le_of_ble_eq_true rfl) (Nat.le_of_ble_eq_true rfl) rfl ?_
            refine wp_goto (tgt := 82) dX12_judge_156 (by decide) ?_
            exact wp_weak [true, true, true, true, true, true, true, false] rfl h
          · have h := h.2 q22
            refine wp_iconst dX12_judge_142 ?_
            refine wp_goto (tgt := 147) dX12_judge_143 (by decide) ?_
            refine wp_istore (L2 := [some (Rv 88), some (Iv x1), some (Iv x2), some (Iv x3), some (Iv 1), some (Iv x5), some (Iv x6), some (Iv z11)]) dX12_judge_147 (Nat.le_of_ble_eq_true rfl) (Nat.le_of_ble_eq_true rfl) rfl ?_
            refine wp_iload dX12_judge_149 rfl ?_
            refine wp_istore (L2 := [some (Rv 88), some (Iv x1), some (Iv x2), some (Iv x3), some (Iv 1), some (Iv z11), some (Iv x6), some (Iv z11)]) dX12_judge_151 (Nat.le_of_ble_eq_true rfl) (Nat.le_of_ble_eq_true rfl) rfl ?_
            refine wp_iinc (L2 := [some (Rv 88), some (Iv x1), some (Iv x2), some (Iv x3), some (Iv 1), some (Iv z11), some (Iv (x6 + 1)), some (Iv z11)]) dX12_judge_153 rfl (Nat.le_of_ble_eq_true rfl) (Nat.le_of_ble_eq_true rfl) rfl ?_
            refine wp_goto (tgt := 82) dX12_judge_156 (by decide) ?_
            exact wp_weak [true, true, true, true, true, true, true, false] rfl h
theorem gX12_bar {x1 x2 : Int}  {M : Mem} {Q : Vl → Mem → Prop} (h : cl 0 yX12_needTwo [Rv 88, Iv 1, Iv x1, Iv x2] M (QI (fun z1 M1 => (inr z1 ∧ ((0 ≤ z1 → 0 ≤ x2 ∧ (x2 < 8 ∧ (inr (M1 95 x2) ∧ (((M1 95 x2) ≠ 0 → wp 0 yX12_bar 33 [some (Rv 88), some (Iv x1), some (Iv x2), some (Iv z1), some (Iv (M1 95 x2)), some (Iv 0), none] [] M1 Q) ∧ ((M1 95 x2) = 0 → Q (Iv (-4)) M1))))) ∧ (z1 < 0 → Q (Iv z1) M1)))))) : wp 0 yX12_bar 0 [some (Rv 88), some (Iv x1), some (Iv x2), none, none, none, none] [] M Q := by
  refine wp_aload_n dX12_bar_0 rfl (by decide) ?_
  refine wp_iconst dX12_bar_1 ?_
  refine wp_iload_n dX12_bar_2 rfl ?_
  refine wp_iload_n dX12_bar_3 rfl ?_
  refine wp_callV (e1 := 0) (as := [Iv 1, Iv x1, Iv x2]) (S := []) dX12_bar_4 (cs_X12_188 rfl) kd_88 rfl rfl (Nat.le_of_ble_eq_true rfl) (Nat.le_of_ble_eq_true rfl) h (fun v1 M1 q1 r1 => ?_)
  obtain ⟨z1, rfl⟩ := retV_i r1 rfl
  have h := q1
  refine wp_istore_n (L2 := [some (Rv 88), some (Iv x1), some (Iv x2), some (Iv z1), none, none, none]) dX12_bar_7 (Nat.le_of_ble_eq_true rfl) (Nat.le_of_ble_eq_true rfl) rfl ?_
  refine wp_iload_n dX12_bar_8 rfl ?_
  obtain ⟨o2, h⟩ := h
  refine wp_if_ge (tgt := 14) dX12_bar_9 (by decide) o2 (fun q3 => ?_) (fun q3 => ?_)
  · have h := h.1 q3
    refine wp_aload_n dX12_bar_14 rfl (by decide) ?_
    refine wp_getf (t := Rv 95) 95 dX12_bar_15 (fl_X12_29 rfl) kd_88 rfl rfl ?_
    refine wp_iload_n dX12_bar_18 rfl ?_
    obtain ⟨o4, h⟩ := h
    obtain ⟨o5, h⟩ := h
    refine wp_iald (M1 95 x2) dX12_bar_19 kd_95 sz_95 o4 o5 (⟨by omega, by omega⟩) rfl ?_
    refine wp_istore (L2 := [some (Rv 88), some (Iv x1), some (Iv x2), some (Iv z1), some (Iv (M1 95 x2)), none, none]) dX12_bar_20 (Nat.le_of_ble_eq_true rfl) (Nat.le_of_ble_eq_true rfl) rfl ?_
    refine wp_iload dX12_bar_22 rfl ?_
    obtain ⟨o6, h⟩ := h
    refine wp_if_ne (tgt := 30) dX12_bar_24 (by decide) o6 (fun q7 => ?_) (fun q7 => ?_)
    · have h := h.1 q7
      refine wp_iconst dX12_bar_30 ?_
      refine wp_istore (L2 := [some (Rv 88), some (Iv x1), some (Iv x2), some (Iv z1), some (Iv (M1 95 x2)), some (Iv 0), none]) dX12_bar_31 (Nat.le_of_ble_eq_true rfl) (Nat.le_of_ble_eq_true rfl) rfl ?_
      exact h
    · have h := h.2 q7
      refine wp_bipush dX12_bar_27 (by decide) ?_
      exact wp_iret dX12_bar_29 rfl (Or.inr ⟨rfl, rfl, rfl, by decide⟩) rfl h
  · have h := h.2 q3
    refine wp_iload_n dX12_bar_12 rfl ?_
    exact wp_iret dX12_bar_13 rfl (Or.inr ⟨rfl, rfl, rfl, by decide⟩) rfl h
theorem eX12_bar {x1 x2 : Int}  {M : Mem} {Q : Vl → Mem → Prop} (h : cl 0 yX12_needTwo [Rv 88, Iv 1, Iv x1, Iv x2] M (QI (fun z1 M1 => (inr z1 ∧ ((0 ≤ z1 → 0 ≤ x2 ∧ (x2 < 8 ∧ (inr (M1 95 x2) ∧ (((M1 95 x2) ≠ 0 → wp 0 yX12_bar 33 [some (Rv 88), some (Iv x1), some (Iv x2), some (Iv z1), some (Iv (M1 95 x2)), some (Iv 0), none] [] M1 Q) ∧ ((M1 95 x2) = 0 → Q (Iv (-4)) M1))))) ∧ (z1 < 0 → Q (Iv z1) M1)))))) : cl 0 yX12_bar [Rv 88, Iv x1, Iv x2] M Q := enterG (by decide +kernel) (by exact Or.inr (Or.inl rfl)) (Nat.le_of_ble_eq_true rfl) rfl (gX12_bar h)
theorem gX12_bar_33 {x1 x2 x3 x4 x5 : Int}  {M : Mem} {Q : Vl → Mem → Prop} (h : inr x5 ∧ (inr x4 ∧ ((x4 < x5 → wp 0 yX12_bar 68 [some (Rv 88), some (Iv x1), some (Iv x2), some (Iv x3), some (Iv x4), some (Iv 0), none] [] M Q) ∧ (x5 ≤ x4 → ((x5 ≠ 0 → 0 ≤ x5 ∧ (x5 < 41 ∧ (wp 0 yX12_bar 33 [some (Rv 88), some (Iv x1), some (Iv x2), some (Iv x3), some (Iv x4), some (Iv (x5 + 1)), none] [] (up M 106 x5 1000) Q))) ∧ (x5 = 0 → 0 ≤ x5 ∧ (x5 < 41 ∧ (wp 0 yX12_bar 33 [some (Rv 88), some (Iv x1), some (Iv x2), some (Iv x3), some (Iv x4), some (Iv (x5 + 1)), none] [] (up M 106 x5 0) Q)))))))) : wp 0 yX12_bar 33 [some (Rv 88), some (Iv x1), some (Iv x2), some (Iv x3), some (Iv x4), some (Iv x5), none] [] M Q := by
  refine wp_iload dX12_bar_33 rfl ?_
  refine wp_iload dX12_bar_35 rfl ?_
  obtain ⟨o1, h⟩ := h
  obtain ⟨o2, h⟩ := h
  refine wp_icmp_gt (tgt := 65) dX12_bar_37 (by decide) o1 o2 (fun q3 => ?_) (fun q3 => ?_)
  · have h := h.1 q3
    refine wp_iconst dX12_bar_65 ?_
    refine wp_istore (L2 := [some (Rv 88), some (Iv x1), some (Iv x2), some (Iv x3), some (Iv x4), some (Iv 0), none]) dX12_bar_66 (Nat.le_of_ble_eq_true rfl) (Nat.le_of_ble_eq_true rfl) rfl ?_
    exact h
  · have h := h.2 q3
    refine wp_aload_n dX12_bar_40 rfl (by decide) ?_
    refine wp_getf (t := Rv 106) 106 dX12_bar_41 (fl_X12_63 rfl) kd_88 rfl rfl ?_
    refine wp_iload dX12_bar_44 rfl ?_
    refine wp_iload dX12_bar_46 rfl ?_
    refine wp_if_ne (tgt := 55) dX12_bar_48 (by decide) o1 (fun q4 => ?_) (fun q4 => ?_)
    · have h := h.1 q4
      refine wp_sipush dX12_bar_55 (by decide) ?_
      obtain ⟨o5, h⟩ := h
      obtain ⟨o6, h⟩ := h
      refine wp_iast dX12_bar_58 kd_106 sz_106 o5 o6 (⟨by omega, by omega⟩) ?_
      refine wp_iinc (L2 := [some (Rv 88), some (Iv x1), some (Iv x2), some (Iv x3), some (Iv x4), some (Iv (x5 + 1)), none]) dX12_bar_59 rfl (Nat.le_of_ble_eq_true rfl) (Nat.le_of_ble_eq_true rfl) rfl ?_
      refine wp_goto (tgt := 33) dX12_bar_62 (by decide) ?_
      exact h
    · have h := h.2 q4
      refine wp_iconst dX12_bar_51 ?_
      refine wp_goto (tgt := 58) dX12_bar_52 (by decide) ?_
      obtain ⟨o7, h⟩ := h
      obtain ⟨o8, h⟩ := h
      refine wp_iast dX12_bar_58 kd_106 sz_106 o7 o8 (⟨by omega, by omega⟩) ?_
      refine wp_iinc (L2 := [some (Rv 88), some (Iv x1), some (Iv x2), some (Iv x3), some (Iv x4), some (Iv (x5 + 1)), none]) dX12_bar_59 rfl (Nat.le_of_ble_eq_true rfl) (Nat.le_of_ble_eq_true rfl) rfl ?_
      refine wp_goto (tgt := 33) dX12_bar_62 (by decide) ?_
      exact h
theorem gX12_bar_68 {x1 x2 x3 x4 x5 : Int}  {M : Mem} {Q : Vl → Mem → Prop} (h : 0 ≤ x1 ∧ (x1 < 8 ∧ (inr x5 ∧ (inr (M 95 x1) ∧ (((M 95 x1) ≤ x5 → wp 0 yX12_bar 185 [some (Rv 88), some (Iv x1), some (Iv x2), some (Iv x3), some (Iv x4), some (Iv 1000), some (Iv 0)] [] M Q) ∧ (x5 < (M 95 x1) → wp 0 yX12_bar 85 [some (Rv 88), some (Iv x1), some (Iv x2), some (Iv x3), some (Iv x4), some (Iv x5), some (Iv (x4 - 1))] [] M Q)))))) : wp 0 yX12_bar 68 [some (Rv 88), some (Iv x1), some (Iv x2), some (Iv x3), some (Iv x4), some (Iv x5), none] [] M Q := by
  refine wp_iload dX12_bar_68 rfl ?_
  refine wp_aload_n dX12_bar_70 rfl (by decide) ?_
  refine wp_getf (t := Rv 95) 95 dX12_bar_71 (fl_X12_29 rfl) kd_88 rfl rfl ?_
  refine wp_iload_n dX12_bar_74 rfl ?_
  obtain ⟨o1, h⟩ := h
  obtain ⟨o2, h⟩ := h
  refine wp_iald (M 95 x1) dX12_bar_75 kd_95 sz_95 o1 o2 (⟨by omega, by omega⟩) rfl ?_
  obtain ⟨o3, h⟩ := h
  obtain ⟨o4, h⟩ := h
  refine wp_icmp_ge (tgt := 177) dX12_bar_76 (by decide) o3 o4 (fun q5 => ?_) (fun q5 => ?_)
  · have h := h.1 q5
    refine wp_sipush dX12_bar_177 (by decide) ?_
    refine wp_istore (L2 := [some (Rv 88), some (Iv x1), some (Iv x2), some (Iv x3), some (Iv x4), some (Iv 1000), none]) dX12_bar_180 (Nat.le_of_ble_eq_true rfl) (Nat.le_of_ble_eq_true rfl) rfl ?_
    refine wp_iconst dX12_bar_182 ?_
    refine wp_istore (L2 := [some (Rv 88), some (Iv x1), some (Iv x2), some (Iv x3), some (Iv x4), some (Iv 1000), some (Iv 0)]) dX12_bar_183 (Nat.le_of_ble_eq_true rfl) (Nat.le_of_ble_eq_true rfl) rfl ?_
    exact h
  · have h := h.2 q5
    refine wp_iload dX12_bar_79 rfl ?_
    refine wp_iconst dX12_bar_81 ?_
    refine wp_isub dX12_bar_82 ?_
    refine wp_istore (L2 := [some (Rv 88), some (Iv x1), some (Iv x2), some (Iv x3), some (Iv x4), some (Iv x5), some (Iv (x4 - 1))]) dX12_bar_83 (Nat.le_of_ble_eq_true rfl) (Nat.le_of_ble_eq_true rfl) rfl ?_
    exact h
theorem gX12_bar_85 {x1 x2 x3 x4 x5 x6 : Int}  {M : Mem} {Q : Vl → Mem → Prop} (h : inr x6 ∧ ((x6 < 0 → wp 0 yX12_bar 68 [some (Rv 88), some (Iv x1), some (Iv x2), some (Iv x3), some (Iv x4), some (Iv (x5 + 1)), none] [] M Q) ∧ (0 ≤ x6 → cl 0 yX12_at0 [Rv 88, Iv x1, Iv x5] M (QI (fun z3 M3 => (cl 0 yX12_at0 [Rv 88, Iv x2, Iv x6] M3 (QI (fun z4 M4 => ((z3 = z4 ∨ (inr z3 ∧ inr z4)) ∧ ((z3 ≠ z4 → wp 0 yX12_bar 85 [some (Rv 88), some (Iv x1), some (Iv x2), some (Iv x3), some (Iv x4), some (Iv x5), some (Iv (x6 + (-1)))] [] M4 Q) ∧ (z3 = z4 → x6 < 41 ∧ (0 ≤ x6 + 1 ∧ (x6 + 1 < 41 ∧ (inr (M4 106 x6) ∧ (inr (M4 106 (x6 + 1)) ∧ (((M4 106 (x6 + 1)) ≤ (M4 106 x6) → wp 0 yX12_bar 85 [some (Rv 88), some (Iv x1), some (Iv x2), some (Iv x3), some (Iv x4), some (Iv x5), some (Iv (x6 + (-1)))] [] (up (up M4 106 (x6 + 1) (M4 106 (x6 + 1))) 106 x6 (((up M4 106 (x6 + 1) (M4 106 (x6 + 1))) 106 x6) + 1)) Q) ∧ ((M4 106 x6) < (M4 106 (x6 + 1)) → wp 0 yX12_bar 85 [some (Rv 88), some (Iv x1), some (Iv x2), some (Iv x3), some (Iv x4), some (Iv x5), some (Iv (x6 + (-1)))] [] (up (up M4 106 (x6 + 1) (M4 106 x6)) 106 x6 (((up M4 106 (x6 + 1) (M4 106 x6)) 106 x6) + 1)) Q))))))))))))))))) : wp 0 yX12_bar 85 [some (Rv 88), some (Iv x1), some (Iv x2), some (Iv x3), some (Iv x4), some (Iv x5), some (Iv x6)] [] M Q := by
  refine wp_iload dX12_bar_85 rfl ?_
  obtain ⟨o1, h⟩ := h
  refine wp_if_lt (tgt := 171) dX12_bar_87 (by decide) o1 (fun q2 => ?_) (fun q2 => ?_)
  · have h := h.1 q2
    refine wp_iinc (L2 := [some (Rv 88), some (Iv x1), some (Iv x2), some (Iv x3), some (Iv x4), some (Iv (x5 + 1)), some (Iv x6)]) dX12_bar_171 rfl (Nat.le_of_ble_eq_true rfl) (Nat.le_of_ble_eq_true rfl) rfl ?_
    refine wp_goto (tgt := 68) dX12_bar_174 (by decide) ?_
    exact wp_weak [true, true, true, true, true, true, false] rfl h
  · have h := h.2 q2
    refine wp_aload_n dX12_bar_90 rfl (by decide) ?_
    refine wp_iload_n dX12_bar_91 rfl ?_
    refine wp_iload dX12_bar_92 rfl ?_
    refine wp_callV (e1 := 0) (as := [Iv x1, Iv x5]) (S := []) dX12_bar_94 (cs_X12_148 rfl) kd_88 rfl rfl (Nat.le_of_ble_eq_true rfl) (Nat.le_of_ble_eq_true rfl) h (fun v3 M3 q3 r3 => ?_)
    obtain ⟨z3, rfl⟩ := retV_i r3 rfl
    have h := q3
    refine wp_aload_n dX12_bar_97 rfl (by decide) ?_
    refine wp_iload_n dX12_bar_98 rfl ?_
    refine wp_iload dX12_bar_99 rfl ?_
    refine wp_callV (e1 := 0) (as := [Iv x2, Iv x6]) (S := [Iv z3]) dX12_bar_101 (cs_X12_148 rfl) kd_88 rfl rfl (Nat.le_of_ble_eq_true rfl) (Nat.le_of_ble_eq_true rfl) h (fun v4 M4 q4 r4 => ?_)
    obtain ⟨z4, rfl⟩ := retV_i r4 rfl
    have h := q4
    obtain ⟨o5, h⟩ := h
    refine wp_icmp_ne (tgt := 165) dX12_bar_104 (by decide) o5 (fun q6 => ?_) (fun q6 => ?_)
    · have h := h.1 q6
      refine wp_iinc (L2 := [some (Rv 88), some (Iv x1), some (Iv x2), some (Iv x3), some (Iv x4), some (Iv x5), some (Iv (x6 + (-1)))]) dX12_bar_165 rfl (Nat.le_of_ble_eq_true rfl) (Nat.le_of_ble_eq_true rfl) rfl ?_
      refine wp_goto (tgt := 85) dX12_bar_168 (by decide) ?_
      exact h
    · have h := h.2 q6
      refine wp_aload_n dX12_bar_107 rfl (by decide) ?_
      refine wp_getf (t := Rv 106) 106 dX12_bar_108 (fl_X12_63 rfl) kd_88 rfl rfl ?_
      refine wp_iload dX12_bar_111 rfl ?_
      refine wp_iconst dX12_bar_113 ?_
      refine wp_iadd dX12_bar_114 ?_
      refine wp_aload_n dX12_bar_115 rfl (by decide) ?_
      refine wp_getf (t := Rv 106) 106 dX12_bar_116 (fl_X12_63 rfl) kd_88 rfl rfl ?_
      refine wp_iload dX12_bar_119 rfl ?_
      obtain ⟨o7, h⟩ := h
      refine wp_iald (M4 106 x6) dX12_bar_121 kd_106 sz_106 q2 o7 (⟨by omega, by omega⟩) rfl ?_
      refine wp_aload_n dX12_bar_122 rfl (by decide) ?_
      refine wp_getf (t := Rv 106) 106 dX12_bar_123 (fl_X12_63 rfl) kd_88 rfl rfl ?_
      refine wp_iload dX12_bar_126 rfl ?_
      refine wp_iconst dX12_bar_128 ?_
      refine wp_iadd dX12_bar_129 ?_
      obtain ⟨o8, h⟩ := h
      obtain ⟨o9, h⟩ := h
      refine wp_iald (M4 106 (x6 + 1)) dX12_bar_130 kd_106 sz_106 o8 o9 (⟨by omega, by omega⟩) rfl ?_
      obtain ⟨o10, h⟩ := h
      obtain ⟨o11, h⟩ := h
      refine wp_icmp_ge (tgt := 144) dX12_bar_131 (by decide) o10 o11 (fun q12 => ?_) (fun q12 => ?_)
      · have h := h.1 q12
        refine wp_aload_n dX12_bar_144 rfl (by decide) ?_
        refine wp_getf (t := Rv 106) 106 dX12_bar_145 (fl_X12_63 rfl) kd_88 rfl rfl ?_
        refine wp_iload dX12_bar_148 rfl ?_
        refine wp_iconst dX12_bar_150 ?_
        refine wp_iadd dX12_bar_151 ?_
        refine wp_iald (M4 106 (x6 + 1)) dX12_bar_152 kd_106 sz_106 o8 o9 (⟨by omega, by omega⟩) rfl ?_
        refine wp_iast dX12_bar_153 kd_106 sz_106 o8 o9 (⟨by omega, by omega⟩) ?_
        refine wp_aload_n dX12_bar_154 rfl (by decide) ?_
        refine wp_getf (t := Rv 106) 106 dX12_bar_155 (fl_X12_63 rfl) kd_88 rfl rfl ?_
        refine wp_iload dX12_bar_158 rfl ?_
        refine wp_dup2 dX12_bar_160 rfl rfl ?_
        refine wp_iald ((up M4 106 (x6 + 1) (M4 106 (x6 + 1))) 106 x6) dX12_bar_161 kd_106 sz_106 q2 o7 (⟨by omega, by omega⟩) rfl ?_
        refine wp_iconst dX12_bar_162 ?_
        refine wp_iadd dX12_bar_163 ?_
        refine wp_iast dX12_bar_164 kd_106 sz_106 q2 o7 (⟨by omega, by omega⟩) ?_
        refine wp_iinc (L2 := [some (Rv 88), some (Iv x1), some (Iv x2), some (Iv x3), some (Iv x4), some (Iv x5), some (Iv (x6 + (-1)))]) dX12_bar_165 rfl (Nat.le_of_ble_eq_true rfl) (Nat.le_of_ble_eq_true rfl) rfl ?_
        refine wp_goto (tgt := 85) dX12_bar_168 (by decide) ?_
        exact h
      · have h := h.2 q12
        refine wp_aload_n dX12_bar_134 rfl (by decide) ?_
        refine wp_getf (t := Rv 106) 106 dX12_bar_135 (fl_X12_63 rfl) kd_88 rfl rfl ?_
        refine wp_iload dX12_bar_138 rfl ?_
        refine wp_iald (M4 106 x6) dX12_bar_140 kd_106 sz_106 q2 o7 (⟨by omega, by omega⟩) rfl ?_
        refine wp_goto (tgt := 153) dX12_bar_141 (by decide) ?_
        refine wp_iast dX12_bar_153 kd_106 sz_106 o8 o9 (⟨by omega, by omega⟩) ?_
        refine wp_aload_n dX12_bar_154 rfl (by decide) ?_
        refine wp_getf (t := Rv 106) 106 dX12_bar_155 (fl_X12_63 rfl) kd_88 rfl rfl ?_
        refine wp_iload dX12_bar_158 rfl ?_
        refine wp_dup2 dX12_bar_160 rfl rfl ?_
        refine wp_iald ((up M4 106 (x6 + 1) (M4 106 x6)) 106 x6) dX12_bar_161 kd_106 sz_106 q2 o7 (⟨by omega, by omega⟩) rfl ?_
        refine wp_iconst dX12_bar_162 ?_
        refine wp_iadd dX12_bar_163 ?_
        refine wp_iast dX12_bar_164 kd_106 sz_106 q2 o7 (⟨by omega, by omega⟩) ?_
        refine wp_iinc (L2 := [some (Rv 88), some (Iv x1), some (Iv x2), some (Iv x3), some (Iv x4), some (Iv x5), some (Iv (x6 + (-1)))]) dX12_bar_165 rfl (Nat.le_of_ble_eq_true rfl) (Nat.le_of_ble_eq_true rfl) rfl ?_
        refine wp_goto (tgt := 85) dX12_bar_168 (by decide) ?_
        exact h
theorem gX12_bar_185 {x1 x2 x3 x4 x5 x6 : Int}  {M : Mem} {Q : Vl → Mem → Prop} (h : inr x6 ∧ (inr x4 ∧ ((x4 ≤ x6 → Q (Iv x5) M) ∧ (x6 < x4 → 0 ≤ x6 ∧ (x6 < 41 ∧ (inr (M 106 x6) ∧ (inr x5 ∧ ((x5 ≤ (M 106 x6) → wp 0 yX12_bar 185 [some (Rv 88), some (Iv x1), some (Iv x2), some (Iv x3), some (Iv x4), some (Iv x5), some (Iv (x6 + 1))] [] M Q) ∧ ((M 106 x6) < x5 → wp 0 yX12_bar 185 [some (Rv 88), some (Iv x1), some (Iv x2), some (Iv x3), some (Iv x4), some (Iv (M 106 x6)), some (Iv (x6 + 1))] [] M Q))))))))) : wp 0 yX12_bar 185 [some (Rv 88), some (Iv x1), some (Iv x2), some (Iv x3), some (Iv x4), some (Iv x5), some (Iv x6)] [] M Q := by
  refine wp_iload dX12_bar_185 rfl ?_
  refine wp_iload dX12_bar_187 rfl ?_
  obtain ⟨o1, h⟩ := h
  obtain ⟨o2, h⟩ := h
  refine wp_icmp_ge (tgt := 224) dX12_bar_189 (by decide) o1 o2 (fun q3 => ?_) (fun q3 => ?_)
  · have h := h.1 q3
    refine wp_iload dX12_bar_224 rfl ?_
    exact wp_iret dX12_bar_226 rfl (Or.inr ⟨rfl, rfl, rfl, by decide⟩) rfl h
  · have h := h.2 q3
    refine wp_aload_n dX12_bar_192 rfl (by decide) ?_
    refine wp_getf (t := Rv 106) 106 dX12_bar_193 (fl_X12_63 rfl) kd_88 rfl rfl ?_
    refine wp_iload dX12_bar_196 rfl ?_
    obtain ⟨o4, h⟩ := h
    obtain ⟨o5, h⟩ := h
    refine wp_iald (M 106 x6) dX12_bar_198 kd_106 sz_106 o4 o5 (⟨by omega, by omega⟩) rfl ?_
    refine wp_iload dX12_bar_199 rfl ?_
    obtain ⟨o6, h⟩ := h
    obtain ⟨o7, h⟩ := h
    refine wp_icmp_ge (tgt := 214) dX12_bar_201 (by decide) o6 o7 (fun q8 => ?_) (fun q8 => ?_)
    · have h := h.1 q8
      refine wp_iload dX12_bar_214 rfl ?_
      refine wp_istore (L2 := [some (Rv 88), some (Iv x1), some (Iv x2), some (Iv x3), some (Iv x4), some (Iv x5), some (Iv x6)]) dX12_bar_216 (Nat.le_of_ble_eq_true rfl) (Nat.le_of_ble_eq_true rfl) rfl ?_
      refine wp_iinc (L2 := [some (Rv 88), some (Iv x1), some (Iv x2), some (Iv x3), some (Iv x4), some (Iv x5), some (Iv (x6 + 1))]) dX12_bar_218 rfl (Nat.le_of_ble_eq_true rfl) (Nat.le_of_ble_eq_true rfl) rfl ?_
      refine wp_goto (tgt := 185) dX12_bar_221 (by decide) ?_
      exact h
    · have h := h.2 q8
      refine wp_aload_n dX12_bar_204 rfl (by decide) ?_
      refine wp_getf (t := Rv 106) 106 dX12_bar_205 (fl_X12_63 rfl) kd_88 rfl rfl ?_
      refine wp_iload dX12_bar_208 rfl ?_
      refine wp_iald (M 106 x6) dX12_bar_210 kd_106 sz_106 o4 o5 (⟨by omega, by omega⟩) rfl ?_
      refine wp_goto (tgt := 216) dX12_bar_211 (by decide) ?_
      refine wp_istore (L2 := [some (Rv 88), some (Iv x1), some (Iv x2), some (Iv x3), some (Iv x4), some (Iv (M 106 x6)), some (Iv x6)]) dX12_bar_216 (Nat.le_of_ble_eq_true rfl) (Nat.le_of_ble_eq_true rfl) rfl ?_
      refine wp_iinc (L2 := [some (Rv 88), some (Iv x1), some (Iv x2), some (Iv x3), some (Iv x4), some (Iv (M 106 x6)), some (Iv (x6 + 1))]) dX12_bar_218 rfl (Nat.le_of_ble_eq_true rfl) (Nat.le_of_ble_eq_true rfl) rfl ?_
      refine wp_goto (tgt := 185) dX12_bar_221 (by decide) ?_
      exact h
theorem gX12_layInner {x1 : Int}  {M : Mem} {Q : Vl → Mem → Prop} (h : 0 ≤ x1 ∧ (x1 < 8 ∧ (wp 0 yX12_layInner 9 [some (Rv 88), some (Iv x1), some (Iv (M 95 x1)), some (Iv (M 95 x1)), none, none, none] [] M Q))) : wp 0 yX12_layInner 0 [some (Rv 88), some (Iv x1), none, none, none, none, none] [] M Q := by
  refine wp_aload_n dX12_layInner_0 rfl (by decide) ?_
  refine wp_getf (t := Rv 95) 95 dX12_layInner_1 (fl_X12_29 rfl) kd_88 rfl rfl ?_
  refine wp_iload_n dX12_layInner_4 rfl ?_
  obtain ⟨o1, h⟩ := h
  obtain ⟨o2, h⟩ := h
  refine wp_iald (M 95 x1) dX12_layInner_5 kd_95 sz_95 o1 o2 (⟨by omega, by omega⟩) rfl ?_
  refine wp_istore_n (L2 := [some (Rv 88), some (Iv x1), some (Iv (M 95 x1)), none, none, none, none]) dX12_layInner_6 (Nat.le_of_ble_eq_true rfl) (Nat.le_of_ble_eq_true rfl) rfl ?_
  refine wp_iload_n dX12_layInner_7 rfl ?_
  refine wp_istore_n (L2 := [some (Rv 88), some (Iv x1), some (Iv (M 95 x1)), some (Iv (M 95 x1)), none, none, none]) dX12_layInner_8 (Nat.le_of_ble_eq_true rfl) (Nat.le_of_ble_eq_true rfl) rfl ?_
  exact h
theorem eX12_layInner {x1 : Int}  {M : Mem} {Q : Vl → Mem → Prop} (h : 0 ≤ x1 ∧ (x1 < 8 ∧ (wp 0 yX12_layInner 9 [some (Rv 88), some (Iv x1), some (Iv (M 95 x1)), some (Iv (M 95 x1)), none, none, none] [] M Q))) : cl 0 yX12_layInner [Rv 88, Iv x1] M Q := enterG (by decide +kernel) (by exact Or.inl rfl) (Nat.le_of_ble_eq_true rfl) rfl (gX12_layInner h)
theorem gX12_layInner_9 {x1 x2 x3 : Int}  {M : Mem} {Q : Vl → Mem → Prop} (h : inr x3 ∧ ((x3 < 0 → Q (Iv 0) M) ∧ (0 ≤ x3 → wp 0 yX12_layInner 16 [some (Rv 88), some (Iv x1), some (Iv x2), some (Iv x3), some (Iv 0), none, none] [] M Q))) : wp 0 yX12_layInner 9 [some (Rv 88), some (Iv x1), some (Iv x2), some (Iv x3), none, none, none] [] M Q := by
  refine wp_iload_n dX12_layInner_9 rfl ?_
  obtain ⟨o1, h⟩ := h
  refine wp_if_lt (tgt := 140) dX12_layInner_10 (by decide) o1 (fun q2 => ?_) (fun q2 => ?_)
  · have h := h.1 q2
    exact wp_vret dX12_layInner_140 rfl (Or.inr ⟨rfl, rfl, rfl, by decide⟩) rfl h
  · have h := h.2 q2
    refine wp_iconst dX12_layInner_13 ?_
    refine wp_istore (L2 := [some (Rv 88), some (Iv x1), some (Iv x2), some (Iv x3), some (Iv 0), none, none]) dX12_layInner_14 (Nat.le_of_ble_eq_true rfl) (Nat.le_of_ble_eq_true rfl) rfl ?_
    exact h
theorem gX12_layInner_16 {x1 x2 x3 x4 : Int}  {M : Mem} {Q : Vl → Mem → Prop} (h : inr x4 ∧ ((40 < x4 → wp 0 yX12_layInner 54 [some (Rv 88), some (Iv x1), some (Iv x2), some (Iv x3), some (Iv 0), none, none] [] M Q) ∧ (x4 ≤ 40 → ((x4 ≠ 0 → 0 ≤ (41 * x3) + x4 ∧ ((41 * x3) + x4 < 1681 ∧ (wp 0 yX12_layInner 16 [some (Rv 88), some (Iv x1), some (Iv x2), some (Iv x3), some (Iv (x4 + 1)), none, none] [] (up M 107 ((41 * x3) + x4) 0) Q))) ∧ (x4 = 0 → 0 ≤ (41 * x3) + x4 ∧ ((41 * x3) + x4 < 1681 ∧ (wp 0 yX12_layInner 16 [some (Rv 88), some (Iv x1), some (Iv x2), some (Iv x3), some (Iv (x4 + 1)), none, none] [] (up M 107 ((41 * x3) + x4) 1) Q))))))) : wp 0 yX12_layInner 16 [some (Rv 88), some (Iv x1), some (Iv x2), some (Iv x3), some (Iv x4), none, none] [] M Q := by
  refine wp_iload dX12_layInner_16 rfl ?_
  refine wp_bipush dX12_layInner_18 (by decide) ?_
  obtain ⟨o1, h⟩ := h
  refine wp_icmp_gt (tgt := 51) dX12_layInner_20 (by decide) o1 (by decide) (fun q2 => ?_) (fun q2 => ?_)
  · have h := h.1 q2
    refine wp_iconst dX12_layInner_51 ?_
    refine wp_istore (L2 := [some (Rv 88), some (Iv x1), some (Iv x2), some (Iv x3), some (Iv 0), none, none]) dX12_layInner_52 (Nat.le_of_ble_eq_true rfl) (Nat.le_of_ble_eq_true rfl) rfl ?_
    exact h
  · have h := h.2 q2
    refine wp_aload_n dX12_layInner_23 rfl (by decide) ?_
    refine wp_getf (t := Rv 107) 107 dX12_layInner_24 (fl_X12_66 rfl) kd_88 rfl rfl ?_
    refine wp_bipush dX12_layInner_27 (by decide) ?_
    refine wp_iload_n dX12_layInner_29 rfl ?_
    refine wp_imul dX12_layInner_30 ?_
    refine wp_iload dX12_layInner_31 rfl ?_
    refine wp_iadd dX12_layInner_33 ?_
    refine wp_iload dX12_layInner_34 rfl ?_
    refine wp_if_ne (tgt := 43) dX12_layInner_36 (by decide) o1 (fun q3 => ?_) (fun q3 => ?_)
    · have h := h.1 q3
      refine wp_lconst0 dX12_layInner_43 ?_
      obtain ⟨o4, h⟩ := h
      obtain ⟨o5, h⟩ := h
      refine wp_last dX12_layInner_44 kd_107 sz_107 o4 o5 (⟨by omega, by omega⟩) ?_
      refine wp_iinc (L2 := [some (Rv 88), some (Iv x1), some (Iv x2), some (Iv x3), some (Iv (x4 + 1)), none, none]) dX12_layInner_45 rfl (Nat.le_of_ble_eq_true rfl) (Nat.le_of_ble_eq_true rfl) rfl ?_
      refine wp_goto (tgt := 16) dX12_layInner_48 (by decide) ?_
      exact h
    · have h := h.2 q3
      refine wp_lconst1 dX12_layInner_39 ?_
      refine wp_goto (tgt := 44) dX12_layInner_40 (by decide) ?_
      obtain ⟨o6, h⟩ := h
      obtain ⟨o7, h⟩ := h
      refine wp_last dX12_layInner_44 kd_107 sz_107 o6 o7 (⟨by omega, by omega⟩) ?_
      refine wp_iinc (L2 := [some (Rv 88), some (Iv x1), some (Iv x2), some (Iv x3), some (Iv (x4 + 1)), none, none]) dX12_layInner_45 rfl (Nat.le_of_ble_eq_true rfl) (Nat.le_of_ble_eq_true rfl) rfl ?_
      refine wp_goto (tgt := 16) dX12_layInner_48 (by decide) ?_
      exact h
theorem gX12_layInner_54 {x1 x2 x3 x4 : Int}  {M : Mem} {Q : Vl → Mem → Prop} (h : inr x4 ∧ (inr (M 88 11) ∧ (((M 88 11) ≤ x4 → wp 0 yX12_layInner 9 [some (Rv 88), some (Iv x1), some (Iv x2), some (Iv (x3 + (-1))), none, none, none] [] M Q) ∧ (x4 < (M 88 11) → cl 0 yX12_next [Rv 88, Iv x1, Iv x3, Iv x4] M (QI (fun z4 M4 => (wp 0 yX12_layInner 76 [some (Rv 88), some (Iv x1), some (Iv x2), some (Iv x3), some (Iv x4), some (Iv z4), some (Iv 1)] [] M4 Q))))))) : wp 0 yX12_layInner 54 [some (Rv 88), some (Iv x1), some (Iv x2), some (Iv x3), some (Iv x4), none, none] [] M Q := by
  refine wp_iload dX12_layInner_54 rfl ?_
  refine wp_aload_n dX12_layInner_56 rfl (by decide) ?_
  refine wp_getf (t := Iv (M 88 11)) (M 88 11) dX12_layInner_57 (fl_X12_110 rfl) kd_88 rfl rfl ?_
  obtain ⟨o1, h⟩ := h
  obtain ⟨o2, h⟩ := h
  refine wp_icmp_ge (tgt := 134) dX12_layInner_60 (by decide) o1 o2 (fun q3 => ?_) (fun q3 => ?_)
  · have h := h.1 q3
    refine wp_iinc (L2 := [some (Rv 88), some (Iv x1), some (Iv x2), some (Iv (x3 + (-1))), some (Iv x4), none, none]) dX12_layInner_134 rfl (Nat.le_of_ble_eq_true rfl) (Nat.le_of_ble_eq_true rfl) rfl ?_
    refine wp_goto (tgt := 9) dX12_layInner_137 (by decide) ?_
    exact wp_weak [true, true, true, true, false, true, true] rfl h
  · have h := h.2 q3
    refine wp_aload_n dX12_layInner_63 rfl (by decide) ?_
    refine wp_iload_n dX12_layInner_64 rfl ?_
    refine wp_iload_n dX12_layInner_65 rfl ?_
    refine wp_iload dX12_layInner_66 rfl ?_
    refine wp_callV (e1 := 0) (as := [Iv x1, Iv x3, Iv x4]) (S := []) dX12_layInner_68 (cs_X12_206 rfl) kd_88 rfl rfl (Nat.le_of_ble_eq_true rfl) (Nat.le_of_ble_eq_true rfl) h (fun v4 M4 q4 r4 => ?_)
    obtain ⟨z4, rfl⟩ := retV_i r4 rfl
    have h := q4
    refine wp_istore (L2 := [some (Rv 88), some (Iv x1), some (Iv x2), some (Iv x3), some (Iv x4), some (Iv z4), none]) dX12_layInner_71 (Nat.le_of_ble_eq_true rfl) (Nat.le_of_ble_eq_true rfl) rfl ?_
    refine wp_iconst dX12_layInner_73 ?_
    refine wp_istore (L2 := [some (Rv 88), some (Iv x1), some (Iv x2), some (Iv x3), some (Iv x4), some (Iv z4), some (Iv 1)]) dX12_layInner_74 (Nat.le_of_ble_eq_true rfl) (Nat.le_of_ble_eq_true rfl) rfl ?_
    exact h
theorem gX12_layInner_76 {x1 x2 x3 x4 x5 x6 : Int}  {M : Mem} {Q : Vl → Mem → Prop} (h : inr x6 ∧ ((40 < x6 → wp 0 yX12_layInner 54 [some (Rv 88), some (Iv x1), some (Iv x2), some (Iv x3), some (Iv (x4 + 1)), none, none] [] M Q) ∧ (x6 ≤ 40 → inr x5 ∧ ((x5 = (-9) → wp 0 yX12_layInner 54 [some (Rv 88), some (Iv x1), some (Iv x2), some (Iv x3), some (Iv (x4 + 1)), none, none] [] M Q) ∧ (x5 ≠ (-9) → 0 ≤ (41 * x3) + x6 ∧ ((41 * x3) + x6 < 1681 ∧ (0 ≤ ((41 * (x5 + 1)) + x6) - 1 ∧ (((41 * (x5 + 1)) + x6) - 1 < 1681 ∧ (wp 0 yX12_layInner 76 [some (Rv 88), some (Iv x1), some (Iv x2), some (Iv x3), some (Iv x4), some (Iv x5), some (Iv (x6 + 1))] [] (up M 107 ((41 * x3) + x6) ((M 107 ((41 * x3) + x6)) + (M 107 (((41 * (x5 + 1)) + x6) - 1)))) Q))))))))) : wp 0 yX12_layInner 76 [some (Rv 88), some (Iv x1), some (Iv x2), some (Iv x3), some (Iv x4), some (Iv x5), some (Iv x6)] [] M Q := by
  refine wp_iload dX12_layInner_76 rfl ?_
  refine wp_bipush dX12_layInner_78 (by decide) ?_
  obtain ⟨o1, h⟩ := h
  refine wp_icmp_gt (tgt := 128) dX12_layInner_80 (by decide) o1 (by decide) (fun q2 => ?_) (fun q2 => ?_)
  · have h := h.1 q2
    refine wp_iinc (L2 := [some (Rv 88), some (Iv x1), some (Iv x2), some (Iv x3), some (Iv (x4 + 1)), some (Iv x5), some (Iv x6)]) dX12_layInner_128 rfl (Nat.le_of_ble_eq_true rfl) (Nat.le_of_ble_eq_true rfl) rfl ?_
    refine wp_goto (tgt := 54) dX12_layInner_131 (by decide) ?_
    exact wp_weak [true, true, true, true, true, false, false] rfl h
  · have h := h.2 q2
    refine wp_iload dX12_layInner_83 rfl ?_
    refine wp_bipush dX12_layInner_85 (by decide) ?_
    obtain ⟨o3, h⟩ := h
    refine wp_icmp_eq (tgt := 128) dX12_layInner_87 (by decide) (Or.inr ⟨o3, (by decide)⟩) (fun q4 => ?_) (fun q4 => ?_)
    · have h := h.1 q4
      refine wp_iinc (L2 := [some (Rv 88), some (Iv x1), some (Iv x2), some (Iv x3), some (Iv (x4 + 1)), some (Iv x5), some (Iv x6)]) dX12_layInner_128 rfl (Nat.le_of_ble_eq_true rfl) (Nat.le_of_ble_eq_true rfl) rfl ?_
      refine wp_goto (tgt := 54) dX12_layInner_131 (by decide) ?_
      exact wp_weak [true, true, true, true, true, false, false] rfl h
    · have h := h.2 q4
      refine wp_aload_n dX12_layInner_90 rfl (by decide) ?_
      refine wp_getf (t := Rv 107) 107 dX12_layInner_91 (fl_X12_66 rfl) kd_88 rfl rfl ?_
      refine wp_bipush dX12_layInner_94 (by decide) ?_
      refine wp_iload_n dX12_layInner_96 rfl ?_
      refine wp_imul dX12_layInner_97 ?_
      refine wp_iload dX12_layInner_98 rfl ?_
      refine wp_iadd dX12_layInner_100 ?_
      refine wp_dup2 dX12_layInner_101 rfl rfl ?_
      obtain ⟨o5, h⟩ := h
      obtain ⟨o6, h⟩ := h
      refine wp_lald (M 107 ((41 * x3) + x6)) dX12_layInner_102 kd_107 sz_107 o5 o6 (⟨by omega, by omega⟩) rfl ?_
      refine wp_aload_n dX12_layInner_103 rfl (by decide) ?_
      refine wp_getf (t := Rv 107) 107 dX12_layInner_104 (fl_X12_66 rfl) kd_88 rfl rfl ?_
      refine wp_bipush dX12_layInner_107 (by decide) ?_
      refine wp_iload dX12_layInner_109 rfl ?_
      refine wp_iconst dX12_layInner_111 ?_
      refine wp_iadd dX12_layInner_112 ?_
      refine wp_imul dX12_layInner_113 ?_
      refine wp_iload dX12_layInner_114 rfl ?_
      refine wp_iadd dX12_layInner_116 ?_
      refine wp_iconst dX12_layInner_117 ?_
      refine wp_isub dX12_layInner_118 ?_
      obtain ⟨o7, h⟩ := h
      obtain ⟨o8, h⟩ := h
      refine wp_lald (M 107 (((41 * (x5 + 1)) + x6) - 1)) dX12_layInner_119 kd_107 sz_107 o7 o8 (⟨by omega, by omega⟩) rfl ?_
      refine wp_ladd dX12_layInner_120 ?_
      refine wp_last dX12_layInner_121 kd_107 sz_107 o5 o6 (⟨by omega, by omega⟩) ?_
      refine wp_iinc (L2 := [some (Rv 88), some (Iv x1), some (Iv x2), some (Iv x3), some (Iv x4), some (Iv x5), some (Iv (x6 + 1))]) dX12_layInner_122 rfl (Nat.le_of_ble_eq_true rfl) (Nat.le_of_ble_eq_true rfl) rfl ?_
      refine wp_goto (tgt := 76) dX12_layInner_125 (by decide) ?_
      exact h
theorem gX12_inner {x1 x2 : Int}  {M : Mem} {Q : Vl → Mem → Prop} (h : inr x2 ∧ ((x2 = (-9) → cl 0 yX12_needWord [Rv 88, Iv 1, Iv x1] M (QI (fun z3 M3 => (inr z3 ∧ ((0 ≤ z3 → cl 0 yX12_layInner [Rv 88, Iv x1] M3 (QV (fun M6 => (wp 0 yX12_inner 44 [some (Rv 88), some (Iv x1), some (Iv x2), some (Iv z3), some (Jv 0), none, some (Iv 0)] [] M6 Q)))) ∧ (z3 < 0 → Q (Iv z3) M3)))))) ∧ (x2 ≠ (-9) → cl 0 yX12_in [Iv x2, Iv 0, Iv 40] M (QI (fun z7 M7 => ((z7 = 0 → cl 0 yX12_needWord [Rv 88, Iv 0, Iv x1] M7 (QI (fun z9 M9 => (inr z9 ∧ ((0 ≤ z9 → cl 0 yX12_layInner [Rv 88, Iv x1] M9 (QV (fun M12 => (wp 0 yX12_inner 44 [some (Rv 88), some (Iv x1), some (Iv x2), some (Iv z9), some (Jv 0), none, some (Iv 0)] [] M12 Q)))) ∧ (z9 < 0 → Q (Iv z9) M9)))))) ∧ (z7 ≠ 0 → cl 0 yX12_needWord [Rv 88, Iv 1, Iv x1] M7 (QI (fun z13 M13 => (inr z13 ∧ ((0 ≤ z13 → cl 0 yX12_layInner [Rv 88, Iv x1] M13 (QV (fun M16 => (wp 0 yX12_inner 44 [some (Rv 88), some (Iv x1), some (Iv x2), some (Iv z13), some (Jv 0), none, some (Iv 0)] [] M16 Q)))) ∧ (z13 < 0 → Q (Iv z13) M13)))))))))))) : wp 0 yX12_inner 0 [some (Rv 88), some (Iv x1), some (Iv x2), none, none, none, none] [] M Q := by
  refine wp_aload_n dX12_inner_0 rfl (by decide) ?_
  refine wp_iload_n dX12_inner_1 rfl ?_
  refine wp_bipush dX12_inner_2 (by decide) ?_
  obtain ⟨o1, h⟩ := h
  refine wp_icmp_eq (tgt := 17) dX12_inner_4 (by decide) (Or.inr ⟨o1, (by decide)⟩) (fun q2 => ?_) (fun q2 => ?_)
  · have h := h.1 q2
    refine wp_iconst dX12_inner_17 ?_
    refine wp_goto (tgt := 22) dX12_inner_18 (by decide) ?_
    refine wp_iload_n dX12_inner_22 rfl ?_
    refine wp_callV (e1 := 0) (as := [Iv 1, Iv x1]) (S := []) dX12_inner_23 (cs_X12_192 rfl) kd_88 rfl rfl (Nat.le_of_ble_eq_true rfl) (Nat.le_of_ble_eq_true rfl) h (fun v3 M3 q3 r3 => ?_)
    obtain ⟨z3, rfl⟩ := retV_i r3 rfl
    have h := q3
    refine wp_istore_n (L2 := [some (Rv 88), some (Iv x1), some (Iv x2), some (Iv z3), none, none, none]) dX12_inner_26 (Nat.le_of_ble_eq_true rfl) (Nat.le_of_ble_eq_true rfl) rfl ?_
    refine wp_iload_n dX12_inner_27 rfl ?_
    obtain ⟨o4, h⟩ := h
    refine wp_if_ge (tgt := 33) dX12_inner_28 (by decide) o4 (fun q5 => ?_) (fun q5 => ?_)
    · have h := h.1 q5
      refine wp_aload_n dX12_inner_33 rfl (by decide) ?_
      refine wp_iload_n dX12_inner_34 rfl ?_
      refine wp_callV (e1 := 0) (as := [Iv x1]) (S := []) dX12_inner_35 (cs_X12_217 rfl) kd_88 rfl rfl (Nat.le_of_ble_eq_true rfl) (Nat.le_of_ble_eq_true rfl) h (fun v6 M6 q6 r6 => ?_)
      have h := q6
      refine wp_lconst0 dX12_inner_38 ?_
      refine wp_lstore (L2 := [some (Rv 88), some (Iv x1), some (Iv x2), some (Iv z3), some (Jv 0), none, none]) dX12_inner_39 (Nat.le_of_ble_eq_true rfl) (Nat.le_of_ble_eq_true rfl) rfl ?_
      refine wp_iconst dX12_inner_41 ?_
      refine wp_istore (L2 := [some (Rv 88), some (Iv x1), some (Iv x2), some (Iv z3), some (Jv 0), none, some (Iv 0)]) dX12_inner_42 (Nat.le_of_ble_eq_true rfl) (Nat.le_of_ble_eq_true rfl) rfl ?_
      exact h
    · have h := h.2 q5
      refine wp_iload_n dX12_inner_31 rfl ?_
      exact wp_iret dX12_inner_32 rfl (Or.inr ⟨rfl, rfl, rfl, by decide⟩) rfl h
  · have h := h.2 q2
    refine wp_iload_n dX12_inner_7 rfl ?_
    refine wp_iconst dX12_inner_8 ?_
    refine wp_bipush dX12_inner_9 (by decide) ?_
    refine wp_callS (e1 := 0) (as := [Iv x2, Iv 0, Iv 40]) (S := [Rv 88]) dX12_inner_11 (cs_X12_117 rfl) rfl rfl (Nat.le_of_ble_eq_true rfl) (Nat.le_of_ble_eq_true rfl) h (fun v7 M7 q7 r7 => ?_)
    obtain ⟨z7, rfl, hz7⟩ := retV_z r7 rfl
    have h := q7
    refine wp_if_eq (tgt := 21) dX12_inner_14 (by decide) (by have := hz7; omega) (fun q8 => ?_) (fun q8 => ?_)
    · have h := h.1 q8
      refine wp_iconst dX12_inner_21 ?_
      refine wp_iload_n dX12_inner_22 rfl ?_
      refine wp_callV (e1 := 0) (as := [Iv 0, Iv x1]) (S := []) dX12_inner_23 (cs_X12_192 rfl) kd_88 rfl rfl (Nat.le_of_ble_eq_true rfl) (Nat.le_of_ble_eq_true rfl) h (fun v9 M9 q9 r9 => ?_)
      obtain ⟨z9, rfl⟩ := retV_i r9 rfl
      have h := q9
      refine wp_istore_n (L2 := [some (Rv 88), some (Iv x1), some (Iv x2), some (Iv z9), none, none, none]) dX12_inner_26 (Nat.le_of_ble_eq_true rfl) (Nat.le_of_ble_eq_true rfl) rfl ?_
      refine wp_iload_n dX12_inner_27 rfl ?_
      obtain ⟨o10, h⟩ := h
      refine wp_if_ge (tgt := 33) dX12_inner_28 (by decide) o10 (fun q11 => ?_) (fun q11 => ?_)
      · have h := h.1 q11
        refine wp_aload_n dX12_inner_33 rfl (by decide) ?_
        refine wp_iload_n dX12_inner_34 rfl ?_
        refine wp_callV (e1 := 0) (as := [Iv x1]) (S := []) dX12_inner_35 (cs_X12_217 rfl) kd_88 rfl rfl (Nat.le_of_ble_eq_true rfl) (Nat.le_of_ble_eq_true rfl) h (fun v12 M12 q12 r12 => ?_)
        have h := q12
        refine wp_lconst0 dX12_inner_38 ?_
        refine wp_lstore (L2 := [some (Rv 88), some (Iv x1), some (Iv x2), some (Iv z9), some (Jv 0), none, none]) dX12_inner_39 (Nat.le_of_ble_eq_true rfl) (Nat.le_of_ble_eq_true rfl) rfl ?_
        refine wp_iconst dX12_inner_41 ?_
        refine wp_istore (L2 := [some (Rv 88), some (Iv x1), some (Iv x2), some (Iv z9), some (Jv 0), none, some (Iv 0)]) dX12_inner_42 (Nat.le_of_ble_eq_true rfl) (Nat.le_of_ble_eq_true rfl) rfl ?_
        exact h
      · have h := h.2 q11
        refine wp_iload_n dX12_inner_31 rfl ?_
        exact wp_iret dX12_inner_32 rfl (Or.inr ⟨rfl, rfl, rfl, by decide⟩) rfl h
    · have h := h.2 q8
      refine wp_iconst dX12_inner_17 ?_
      refine wp_goto (tgt := 22) dX12_inner_18 (by decide) ?_
      refine wp_iload_n dX12_inner_22 rfl ?_
      refine wp_callV (e1 := 0) (as := [Iv 1, Iv x1]) (S := []) dX12_inner_23 (cs_X12_192 rfl) kd_88 rfl rfl (Nat.le_of_ble_eq_true rfl) (Nat.le_of_ble_eq_true rfl) h (fun v13 M13 q13 r13 => ?_)
      obtain ⟨z13, rfl⟩ := retV_i r13 rfl
      have h := q13
      refine wp_istore_n (L2 := [some (Rv 88), some (Iv x1), some (Iv x2), some (Iv z13), none, none, none]) dX12_inner_26 (Nat.le_of_ble_eq_true rfl) (Nat.le_of_ble_eq_true rfl) rfl ?_
      refine wp_iload_n dX12_inner_27 rfl ?_
      obtain ⟨o14, h⟩ := h
      refine wp_if_ge (tgt := 33) dX12_inner_28 (by decide) o14 (fun q15 => ?_) (fun q15 => ?_)
      · have h := h.1 q15
        refine wp_aload_n dX12_inner_33 rfl (by decide) ?_
        refine wp_iload_n dX12_inner_34 rfl ?_
        refine wp_callV (e1 := 0) (as := [Iv x1]) (S := []) dX12_inner_35 (cs_X12_217 rfl) kd_88 rfl rfl (Nat.le_of_ble_eq_true rfl) (Nat.le_of_ble_eq_true rfl) h (fun v16 M16 q16 r16 => ?_)
        have h := q16
        refine wp_lconst0 dX12_inner_38 ?_
        refine wp_lstore (L2 := [some (Rv 88), some (Iv x1), some (Iv x2), some (Iv z13), some (Jv 0), none, none]) dX12_inner_39 (Nat.le_of_ble_eq_true rfl) (Nat.le_of_ble_eq_true rfl) rfl ?_
        refine wp_iconst dX12_inner_41 ?_
        refine wp_istore (L2 := [some (Rv 88), some (Iv x1), some (Iv x2), some (Iv z13), some (Jv 0), none, some (Iv 0)]) dX12_inner_42 (Nat.le_of_ble_eq_true rfl) (Nat.le_of_ble_eq_true rfl) rfl ?_
        exact h
      · have h := h.2 q15
        refine wp_iload_n dX12_inner_31 rfl ?_
        exact wp_iret dX12_inner_32 rfl (Or.inr ⟨rfl, rfl, rfl, by decide⟩) rfl h
theorem eX12_inner {x1 x2 : Int}  {M : Mem} {Q : Vl → Mem → Prop} (h : inr x2 ∧ ((x2 = (-9) → cl 0 yX12_needWord [Rv 88, Iv 1, Iv x1] M (QI (fun z3 M3 => (inr z3 ∧ ((0 ≤ z3 → cl 0 yX12_layInner [Rv 88, Iv x1] M3 (QV (fun M6 => (wp 0 yX12_inner 44 [some (Rv 88), some (Iv x1), some (Iv x2), some (Iv z3), some (Jv 0), none, some (Iv 0)] [] M6 Q)))) ∧ (z3 < 0 → Q (Iv z3) M3)))))) ∧ (x2 ≠ (-9) → cl 0 yX12_in [Iv x2, Iv 0, Iv 40] M (QI (fun z7 M7 => ((z7 = 0 → cl 0 yX12_needWord [Rv 88, Iv 0, Iv x1] M7 (QI (fun z9 M9 => (inr z9 ∧ ((0 ≤ z9 → cl 0 yX12_layInner [Rv 88, Iv x1] M9 (QV (fun M12 => (wp 0 yX12_inner 44 [some (Rv 88), some (Iv x1), some (Iv x2), some (Iv z9), some (Jv 0), none, some (Iv 0)] [] M12 Q)))) ∧ (z9 < 0 → Q (Iv z9) M9)))))) ∧ (z7 ≠ 0 → cl 0 yX12_needWord [Rv 88, Iv 1, Iv x1] M7 (QI (fun z13 M13 => (inr z13 ∧ ((0 ≤ z13 → cl 0 yX12_layInner [Rv 88, Iv x1] M13 (QV (fun M16 => (wp 0 yX12_inner 44 [some (Rv 88), some (Iv x1), some (Iv x2), some (Iv z13), some (Jv 0), none, some (Iv 0)] [] M16 Q)))) ∧ (z13 < 0 → Q (Iv z13) M13)))))))))))) : cl 0 yX12_inner [Rv 88, Iv x1, Iv x2] M Q := enterG (by decide +kernel) (by exact Or.inr (Or.inl rfl)) (Nat.le_of_ble_eq_true rfl) rfl (gX12_inner h)
theorem gX12_inner_44 {x1 x2 x3 x4 x6 : Int}  {M : Mem} {Q : Vl → Mem → Prop} (h : inr x6 ∧ ((40 < x6 → cl 0 yX12_tellsMany [Rv 88, Jv x4, Iv 1] M (QI (fun z3 M3 => (Q (Iv z3) M3)))) ∧ (x6 ≤ 40 → inr x2 ∧ ((x2 = (-9) → 0 ≤ x6 ∧ (x6 < 1681 ∧ (wp 0 yX12_inner 44 [some (Rv 88), some (Iv x1), some (Iv x2), some (Iv x3), some (Jv (x4 + (M 107 x6))), none, some (Iv (x6 + 1))] [] M Q))) ∧ (x2 ≠ (-9) → ((x2 ≠ x6 → wp 0 yX12_inner 44 [some (Rv 88), some (Iv x1), some (Iv x2), some (Iv x3), some (Jv (x4 + 0)), none, some (Iv (x6 + 1))] [] M Q) ∧ (x2 = x6 → 0 ≤ x6 ∧ (x6 < 1681 ∧ (wp 0 yX12_inner 44 [some (Rv 88), some (Iv x1), some (Iv x2), some (Iv x3), some (Jv (x4 + (M 107 x6))), none, some (Iv (x6 + 1))] [] M Q))))))))) : wp 0 yX12_inner 44 [some (Rv 88), some (Iv x1), some (Iv x2), some (Iv x3), some (Jv x4), none, some (Iv x6)] [] M Q := by
  refine wp_iload dX12_inner_44 rfl ?_
  refine wp_bipush dX12_inner_46 (by decide) ?_
  obtain ⟨o1, h⟩ := h
  refine wp_icmp_gt (tgt := 85) dX12_inner_48 (by decide) o1 (by decide) (fun q2 => ?_) (fun q2 => ?_)
  · have h := h.1 q2
    refine wp_aload_n dX12_inner_85 rfl (by decide) ?_
    refine wp_lload dX12_inner_86 rfl ?_
    refine wp_iconst dX12_inner_88 ?_
    refine wp_callV (e1 := 0) (as := [Jv x4, Iv 1]) (S := []) dX12_inner_89 (cs_X12_202 rfl) kd_88 rfl rfl (Nat.le_of_ble_eq_true rfl) (Nat.le_of_ble_eq_true rfl) h (fun v3 M3 q3 r3 => ?_)
    obtain ⟨z3, rfl⟩ := retV_i r3 rfl
    have h := q3
    exact wp_iret dX12_inner_92 rfl (Or.inr ⟨rfl, rfl, rfl, by decide⟩) rfl h
  · have h := h.2 q2
    refine wp_lload dX12_inner_51 rfl ?_
    refine wp_iload_n dX12_inner_53 rfl ?_
    refine wp_bipush dX12_inner_54 (by decide) ?_
    obtain ⟨o4, h⟩ := h
    refine wp_icmp_eq (tgt := 65) dX12_inner_56 (by decide) (Or.inr ⟨o4, (by decide)⟩) (fun q5 => ?_) (fun q5 => ?_)
    · have h := h.1 q5
      refine wp_aload_n dX12_inner_65 rfl (by decide) ?_
      refine wp_getf (t := Rv 107) 107 dX12_inner_66 (fl_X12_66 rfl) kd_88 rfl rfl ?_
      refine wp_iload dX12_inner_69 rfl ?_
      obtain ⟨o6, h⟩ := h
      obtain ⟨o7, h⟩ := h
      refine wp_lald (M 107 x6) dX12_inner_71 kd_107 sz_107 o6 o7 (⟨by omega, by omega⟩) rfl ?_
      refine wp_goto (tgt := 76) dX12_inner_72 (by decide) ?_
      refine wp_ladd dX12_inner_76 ?_
      refine wp_lstore (L2 := [some (Rv 88), some (Iv x1), some (Iv x2), some (Iv x3), some (Jv (x4 + (M 107 x6))), none, some (Iv x6)]) dX12_inner_77 (Nat.le_of_ble_eq_true rfl) (Nat.le_of_ble_eq_true rfl) rfl ?_
      refine wp_iinc (L2 := [some (Rv 88), some (Iv x1), some (Iv x2), some (Iv x3), some (Jv (x4 + (M 107 x6))), none, some (Iv (x6 + 1))]) dX12_inner_79 rfl (Nat.le_of_ble_eq_true rfl) (Nat.le_of_ble_eq_true rfl) rfl ?_
      refine wp_goto (tgt := 44) dX12_inner_82 (by decide) ?_
      exact h
    · have h := h.2 q5
      refine wp_iload_n dX12_inner_59 rfl ?_
      refine wp_iload dX12_inner_60 rfl ?_
      refine wp_icmp_ne (tgt := 75) dX12_inner_62 (by decide) (Or.inr ⟨o4, o1⟩) (fun q8 => ?_) (fun q8 => ?_)
      · have h := h.1 q8
        refine wp_lconst0 dX12_inner_75 ?_
        refine wp_ladd dX12_inner_76 ?_
        refine wp_lstore (L2 := [some (Rv 88), some (Iv x1), some (Iv x2), some (Iv x3), some (Jv (x4 + 0)), none, some (Iv x6)]) dX12_inner_77 (Nat.le_of_ble_eq_true rfl) (Nat.le_of_ble_eq_true rfl) rfl ?_
        refine wp_iinc (L2 := [some (Rv 88), some (Iv x1), some (Iv x2), some (Iv x3), some (Jv (x4 + 0)), none, some (Iv (x6 + 1))]) dX12_inner_79 rfl (Nat.le_of_ble_eq_true rfl) (Nat.le_of_ble_eq_true rfl) rfl ?_
        refine wp_goto (tgt := 44) dX12_inner_82 (by decide) ?_
        exact h
      · have h := h.2 q8
        refine wp_aload_n dX12_inner_65 rfl (by decide) ?_
        refine wp_getf (t := Rv 107) 107 dX12_inner_66 (fl_X12_66 rfl) kd_88 rfl rfl ?_
        refine wp_iload dX12_inner_69 rfl ?_
        obtain ⟨o9, h⟩ := h
        obtain ⟨o10, h⟩ := h
        refine wp_lald (M 107 x6) dX12_inner_71 kd_107 sz_107 o9 o10 (⟨by omega, by omega⟩) rfl ?_
        refine wp_goto (tgt := 76) dX12_inner_72 (by decide) ?_
        refine wp_ladd dX12_inner_76 ?_
        refine wp_lstore (L2 := [some (Rv 88), some (Iv x1), some (Iv x2), some (Iv x3), some (Jv (x4 + (M 107 x6))), none, some (Iv x6)]) dX12_inner_77 (Nat.le_of_ble_eq_true rfl) (Nat.le_of_ble_eq_true rfl) rfl ?_
        refine wp_iinc (L2 := [some (Rv 88), some (Iv x1), some (Iv x2), some (Iv x3), some (Jv (x4 + (M 107 x6))), none, some (Iv (x6 + 1))]) dX12_inner_79 rfl (Nat.le_of_ble_eq_true rfl) (Nat.le_of_ble_eq_true rfl) rfl ?_
        refine wp_goto (tgt := 44) dX12_inner_82 (by decide) ?_
        exact h
theorem gX12_rank {x1 x2 : Int}  {M : Mem} {Q : Vl → Mem → Prop} (h : cl 0 yX12_needTwo [Rv 88, Iv 1, Iv x1, Iv x2] M (QI (fun z1 M1 => (inr z1 ∧ ((0 ≤ z1 → cl 0 yX12_layInner [Rv 88, Iv x1] M1 (QV (fun M4 => (wp 0 yX12_rank 28 [some (Rv 88), some (Iv x1), some (Iv x2), some (Iv z1), some (Jv 0), none, some (Iv 0), some (Iv 0), none, none, none] [] M4 Q)))) ∧ (z1 < 0 → Q (Iv z1) M1)))))) : wp 0 yX12_rank 0 [some (Rv 88), some (Iv x1), some (Iv x2), none, none, none, none, none, none, none, none] [] M Q := by
  refine wp_aload_n dX12_rank_0 rfl (by decide) ?_
  refine wp_iconst dX12_rank_1 ?_
  refine wp_iload_n dX12_rank_2 rfl ?_
  refine wp_iload_n dX12_rank_3 rfl ?_
  refine wp_callV (e1 := 0) (as := [Iv 1, Iv x1, Iv x2]) (S := []) dX12_rank_4 (cs_X12_188 rfl) kd_88 rfl rfl (Nat.le_of_ble_eq_true rfl) (Nat.le_of_ble_eq_true rfl) h (fun v1 M1 q1 r1 => ?_)
  obtain ⟨z1, rfl⟩ := retV_i r1 rfl
  have h := q1
  refine wp_istore_n (L2 := [some (Rv 88), some (Iv x1), some (Iv x2), some (Iv z1), none, none, none, none, none, none, none]) dX12_rank_7 (Nat.le_of_ble_eq_true rfl) (Nat.le_of_ble_eq_true rfl) rfl ?_
  refine wp_iload_n dX12_rank_8 rfl ?_
  obtain ⟨o2, h⟩ := h
  refine wp_if_ge (tgt := 14) dX12_rank_9 (by decide) o2 (fun q3 => ?_) (fun q3 => ?_)
  · have h := h.1 q3
    refine wp_aload_n dX12_rank_14 rfl (by decide) ?_
    refine wp_iload_n dX12_rank_15 rfl ?_
    refine wp_callV (e1 := 0) (as := [Iv x1]) (S := []) dX12_rank_16 (cs_X12_217 rfl) kd_88 rfl rfl (Nat.le_of_ble_eq_true rfl) (Nat.le_of_ble_eq_true rfl) h (fun v4 M4 q4 r4 => ?_)
    have h := q4
    refine wp_lconst0 dX12_rank_19 ?_
    refine wp_lstore (L2 := [some (Rv 88), some (Iv x1), some (Iv x2), some (Iv z1), some (Jv 0), none, none, none, none, none, none]) dX12_rank_20 (Nat.le_of_ble_eq_true rfl) (Nat.le_of_ble_eq_true rfl) rfl ?_
    refine wp_iconst dX12_rank_22 ?_
    refine wp_istore (L2 := [some (Rv 88), some (Iv x1), some (Iv x2), some (Iv z1), some (Jv 0), none, some (Iv 0), none, none, none, none]) dX12_rank_23 (Nat.le_of_ble_eq_true rfl) (Nat.le_of_ble_eq_true rfl) rfl ?_
    refine wp_iconst dX12_rank_25 ?_
    refine wp_istore (L2 := [some (Rv 88), some (Iv x1), some (Iv x2), some (Iv z1), some (Jv 0), none, some (Iv 0), some (Iv 0), none, none, none]) dX12_rank_26 (Nat.le_of_ble_eq_true rfl) (Nat.le_of_ble_eq_true rfl) rfl ?_
    exact h
  · have h := h.2 q3
    refine wp_iload_n dX12_rank_12 rfl ?_
    exact wp_iret dX12_rank_13 rfl (Or.inr ⟨rfl, rfl, rfl, by decide⟩) rfl h
theorem eX12_rank {x1 x2 : Int}  {M : Mem} {Q : Vl → Mem → Prop} (h : cl 0 yX12_needTwo [Rv 88, Iv 1, Iv x1, Iv x2] M (QI (fun z1 M1 => (inr z1 ∧ ((0 ≤ z1 → cl 0 yX12_layInner [Rv 88, Iv x1] M1 (QV (fun M4 => (wp 0 yX12_rank 28 [some (Rv 88), some (Iv x1), some (Iv x2), some (Iv z1), some (Jv 0), none, some (Iv 0), some (Iv 0), none, none, none] [] M4 Q)))) ∧ (z1 < 0 → Q (Iv z1) M1)))))) : cl 0 yX12_rank [Rv 88, Iv x1, Iv x2] M Q := enterG (by decide +kernel) (by exact Or.inr (Or.inl rfl)) (Nat.le_of_ble_eq_true rfl) rfl (gX12_rank h)
theorem gX12_rank_28 {x1 x2 x3 x4 x6 x7 : Int}  {M : Mem} {Q : Vl → Mem → Prop} (h : 0 ≤ x2 ∧ (x2 < 8 ∧ (inr x7 ∧ (inr (M 95 x2) ∧ (((M 95 x2) ≤ x7 → cl 0 yX12_tellsMany [Rv 88, Jv x4, Iv 1] M (QI (fun z6 M6 => (Q (Iv z6) M6)))) ∧ (x7 < (M 95 x2) → wp 0 yX12_rank 55 [some (Rv 88), some (Iv x1), some (Iv x2), some (Iv x3), some (Jv x4), none, some (Iv x6), some (Iv x7), some (Iv (((M 95 x2) - 1) - x7)), some (Iv 0), none] [] M Q)))))) : wp 0 yX12_rank 28 [some (Rv 88), some (Iv x1), some (Iv x2), some (Iv x3), some (Jv x4), none, some (Iv x6), some (Iv x7), none, none, none] [] M Q := by
  refine wp_iload dX12_rank_28 rfl ?_
  refine wp_aload_n dX12_rank_30 rfl (by decide) ?_
  refine wp_getf (t := Rv 95) 95 dX12_rank_31 (fl_X12_29 rfl) kd_88 rfl rfl ?_
  refine wp_iload_n dX12_rank_34 rfl ?_
  obtain ⟨o1, h⟩ := h
  obtain ⟨o2, h⟩ := h
  refine wp_iald (M 95 x2) dX12_rank_35 kd_95 sz_95 o1 o2 (⟨by omega, by omega⟩) rfl ?_
  obtain ⟨o3, h⟩ := h
  obtain ⟨o4, h⟩ := h
  refine wp_icmp_ge (tgt := 153) dX12_rank_36 (by decide) o3 o4 (fun q5 => ?_) (fun q5 => ?_)
  · have h := h.1 q5
    refine wp_aload_n dX12_rank_153 rfl (by decide) ?_
    refine wp_lload dX12_rank_154 rfl ?_
    refine wp_iconst dX12_rank_156 ?_
    refine wp_callV (e1 := 0) (as := [Jv x4, Iv 1]) (S := []) dX12_rank_157 (cs_X12_202 rfl) kd_88 rfl rfl (Nat.le_of_ble_eq_true rfl) (Nat.le_of_ble_eq_true rfl) h (fun v6 M6 q6 r6 => ?_)
    obtain ⟨z6, rfl⟩ := retV_i r6 rfl
    have h := q6
    exact wp_iret dX12_rank_160 rfl (Or.inr ⟨rfl, rfl, rfl, by decide⟩) rfl h
  · have h := h.2 q5
    refine wp_aload_n dX12_rank_39 rfl (by decide) ?_
    refine wp_getf (t := Rv 95) 95 dX12_rank_40 (fl_X12_29 rfl) kd_88 rfl rfl ?_
    refine wp_iload_n dX12_rank_43 rfl ?_
    refine wp_iald (M 95 x2) dX12_rank_44 kd_95 sz_95 o1 o2 (⟨by omega, by omega⟩) rfl ?_
    refine wp_iconst dX12_rank_45 ?_
    refine wp_isub dX12_rank_46 ?_
    refine wp_iload dX12_rank_47 rfl ?_
    refine wp_isub dX12_rank_49 ?_
    refine wp_istore (L2 := [some (Rv 88), some (Iv x1), some (Iv x2), some (Iv x3), some (Jv x4), none, some (Iv x6), some (Iv x7), some (Iv (((M 95 x2) - 1) - x7)), none, none]) dX12_rank_50 (Nat.le_of_ble_eq_true rfl) (Nat.le_of_ble_eq_true rfl) rfl ?_
    refine wp_iconst dX12_rank_52 ?_
    refine wp_istore (L2 := [some (Rv 88), some (Iv x1), some (Iv x2), some (Iv x3), some (Jv x4), none, some (Iv x6), some (Iv x7), some (Iv (((M 95 x2) - 1) - x7)), some (Iv 0), none]) dX12_rank_53 (Nat.le_of_ble_eq_true rfl) (Nat.le_of_ble_eq_true rfl) rfl ?_
    exact h
theorem gX12_rank_55 {x1 x2 x3 x4 x6 x7 x8 x9 : Int}  {M : Mem} {Q : Vl → Mem → Prop} (h : cl 0 yX12_at0 [Rv 88, Iv x2, Iv x7] M (QI (fun z1 M1 => (inr x9 ∧ (inr z1 ∧ ((z1 ≤ x9 → cl 0 yX12_at0 [Rv 88, Iv x2, Iv x7] M1 (QI (fun z5 M5 => (cl 0 yX12_next [Rv 88, Iv x1, Iv x6, Iv z5] M5 (QI (fun z6 M6 => (inr z6 ∧ ((z6 ≠ (-9) → wp 0 yX12_rank 28 [some (Rv 88), some (Iv x1), some (Iv x2), some (Iv x3), some (Jv x4), none, some (Iv (z6 + 1)), some (Iv (x7 + 1)), none, none, none] [] M6 Q) ∧ (z6 = (-9) → Q (Iv (-9)) M6))))))))) ∧ (x9 < z1 → cl 0 yX12_next [Rv 88, Iv x1, Iv x6, Iv x9] M1 (QI (fun z9 M9 => (inr z9 ∧ ((z9 ≠ (-9) → 0 ≤ (41 * (z9 + 1)) + x8 ∧ ((41 * (z9 + 1)) + x8 < 1681 ∧ (wp 0 yX12_rank 55 [some (Rv 88), some (Iv x1), some (Iv x2), some (Iv x3), some (Jv (x4 + (M9 107 ((41 * (z9 + 1)) + x8)))), none, some (Iv x6), some (Iv x7), some (Iv x8), some (Iv (x9 + 1)), none] [] M9 Q))) ∧ (z9 = (-9) → wp 0 yX12_rank 55 [some (Rv 88), some (Iv x1), some (Iv x2), some (Iv x3), some (Jv (x4 + 0)), none, some (Iv x6), some (Iv x7), some (Iv x8), some (Iv (x9 + 1)), none] [] M9 Q)))))))))))) : wp 0 yX12_rank 55 [some (Rv 88), some (Iv x1), some (Iv x2), some (Iv x3), some (Jv x4), none, some (Iv x6), some (Iv x7), some (Iv x8), some (Iv x9), none] [] M Q := by
  refine wp_iload dX12_rank_55 rfl ?_
  refine wp_aload_n dX12_rank_57 rfl (by decide) ?_
  refine wp_iload_n dX12_rank_58 rfl ?_
  refine wp_iload dX12_rank_59 rfl ?_
  refine wp_callV (e1 := 0) (as := [Iv x2, Iv x7]) (S := [Iv x9]) dX12_rank_61 (cs_X12_148 rfl) kd_88 rfl rfl (Nat.le_of_ble_eq_true rfl) (Nat.le_of_ble_eq_true rfl) h (fun v1 M1 q1 r1 => ?_)
  obtain ⟨z1, rfl⟩ := retV_i r1 rfl
  have h := q1
  obtain ⟨o2, h⟩ := h
  obtain ⟨o3, h⟩ := h
  refine wp_icmp_ge (tgt := 115) dX12_rank_64 (by decide) o2 o3 (fun q4 => ?_) (fun q4 => ?_)
  · have h := h.1 q4
    refine wp_aload_n dX12_rank_115 rfl (by decide) ?_
    refine wp_iload_n dX12_rank_116 rfl ?_
    refine wp_iload dX12_rank_117 rfl ?_
    refine wp_aload_n dX12_rank_119 rfl (by decide) ?_
    refine wp_iload_n dX12_rank_120 rfl ?_
    refine wp_iload dX12_rank_121 rfl ?_
    refine wp_callV (e1 := 0) (as := [Iv x2, Iv x7]) (S := [Iv x6, Iv x1, Rv 88]) dX12_rank_123 (cs_X12_148 rfl) kd_88 rfl rfl (Nat.le_of_ble_eq_true rfl) (Nat.le_of_ble_eq_true rfl) h (fun v5 M5 q5 r5 => ?_)
    obtain ⟨z5, rfl⟩ := retV_i r5 rfl
    have h := q5
    refine wp_callV (e1 := 0) (as := [Iv x1, Iv x6, Iv z5]) (S := []) dX12_rank_126 (cs_X12_206 rfl) kd_88 rfl rfl (Nat.le_of_ble_eq_true rfl) (Nat.le_of_ble_eq_true rfl) h (fun v6 M6 q6 r6 => ?_)
    obtain ⟨z6, rfl⟩ := retV_i r6 rfl
    have h := q6
    refine wp_istore (L2 := [some (Rv 88), some (Iv x1), some (Iv x2), some (Iv x3), some (Jv x4), none, some (Iv x6), some (Iv x7), some (Iv x8), some (Iv z6), none]) dX12_rank_129 (Nat.le_of_ble_eq_true rfl) (Nat.le_of_ble_eq_true rfl) rfl ?_
    refine wp_iload dX12_rank_131 rfl ?_
    refine wp_bipush dX12_rank_133 (by decide) ?_
    obtain ⟨o7, h⟩ := h
    refine wp_icmp_ne (tgt := 141) dX12_rank_135 (by decide) (Or.inr ⟨o7, (by decide)⟩) (fun q8 => ?_) (fun q8 => ?_)
    · have h := h.1 q8
      refine wp_iload dX12_rank_141 rfl ?_
      refine wp_iconst dX12_rank_143 ?_
      refine wp_iadd dX12_rank_144 ?_
      refine wp_istore (L2 := [some (Rv 88), some (Iv x1), some (Iv x2), some (Iv x3), some (Jv x4), none, some (Iv (z6 + 1)), some (Iv x7), some (Iv x8), some (Iv z6), none]) dX12_rank_145 (Nat.le_of_ble_eq_true rfl) (Nat.le_of_ble_eq_true rfl) rfl ?_
      refine wp_iinc (L2 := [some (Rv 88), some (Iv x1), some (Iv x2), some (Iv x3), some (Jv x4), none, some (Iv (z6 + 1)), some (Iv (x7 + 1)), some (Iv x8), some (Iv z6), none]) dX12_rank_147 rfl (Nat.le_of_ble_eq_true rfl) (Nat.le_of_ble_eq_true rfl) rfl ?_
      refine wp_goto (tgt := 28) dX12_rank_150 (by decide) ?_
      exact wp_weak [true, true, true, true, true, true, true, true, false, false, true] rfl h
    · have h := h.2 q8
      refine wp_bipush dX12_rank_138 (by decide) ?_
      exact wp_iret dX12_rank_140 rfl (Or.inr ⟨rfl, rfl, rfl, by decide⟩) rfl h
  · have h := h.2 q4
    refine wp_aload_n dX12_rank_67 rfl (by decide) ?_
    refine wp_iload_n dX12_rank_68 rfl ?_
    refine wp_iload dX12_rank_69 rfl ?_
    refine wp_iload dX12_rank_71 rfl ?_
    refine wp_callV (e1 := 0) (as := [Iv x1, Iv x6, Iv x9]) (S := []) dX12_rank_73 (cs_X12_206 rfl) kd_88 rfl rfl (Nat.le_of_ble_eq_true rfl) (Nat.le_of_ble_eq_true rfl) h (fun v9 M9 q9 r9 => ?_)
    obtain ⟨z9, rfl⟩ := retV_i r9 rfl
    have h := q9
    refine wp_istore (L2 := [some (Rv 88), some (Iv x1), some (Iv x2), some (Iv x3), some (Jv x4), none, some (Iv x6), some (Iv x7), some (Iv x8), some (Iv x9), some (Iv z9)]) dX12_rank_76 (Nat.le_of_ble_eq_true rfl) (Nat.le_of_ble_eq_true rfl) rfl ?_
    refine wp_lload dX12_rank_78 rfl ?_
    refine wp_iload dX12_rank_80 rfl ?_
    refine wp_bipush dX12_rank_82 (by decide) ?_
    obtain ⟨o10, h⟩ := h
    refine wp_icmp_ne (tgt := 91) dX12_rank_84 (by decide) (Or.inr ⟨o10, (by decide)⟩) (fun q11 => ?_) (fun q11 => ?_)
    · have h := h.1 q11
      refine wp_aload_n dX12_rank_91 rfl (by decide) ?_
      refine wp_getf (t := Rv 107) 107 dX12_rank_92 (fl_X12_66 rfl) kd_88 rfl rfl ?_
      refine wp_bipush dX12_rank_95 (by decide) ?_
      refine wp_iload dX12_rank_97 rfl ?_
      refine wp_iconst dX12_rank_99 ?_
      refine wp_iadd dX12_rank_100 ?_
      refine wp_imul dX12_rank_101 ?_
      refine wp_iload dX12_rank_102 rfl ?_
      refine wp_iadd dX12_rank_104 ?_
      obtain ⟨o12, h⟩ := h
      obtain ⟨o13, h⟩ := h
      refine wp_lald (M9 107 ((41 * (z9 + 1)) + x8)) dX12_rank_105 kd_107 sz_107 o12 o13 (⟨by omega, by omega⟩) rfl ?_
      refine wp_ladd dX12_rank_106 ?_
      refine wp_lstore (L2 := [some (Rv 88), some (Iv x1), some (Iv x2), some (Iv x3), some (Jv (x4 + (M9 107 ((41 * (z9 + 1)) + x8)))), none, some (Iv x6), some (Iv x7), some (Iv x8), some (Iv x9), some (Iv z9)]) dX12_rank_107 (Nat.le_of_ble_eq_true rfl) (Nat.le_of_ble_eq_true rfl) rfl ?_
      refine wp_iinc (L2 := [some (Rv 88), some (Iv x1), some (Iv x2), some (Iv x3), some (Jv (x4 + (M9 107 ((41 * (z9 + 1)) + x8)))), none, some (Iv x6), some (Iv x7), some (Iv x8), some (Iv (x9 + 1)), some (Iv z9)]) dX12_rank_109 rfl (Nat.le_of_ble_eq_true rfl) (Nat.le_of_ble_eq_true rfl) rfl ?_
      refine wp_goto (tgt := 55) dX12_rank_112 (by decide) ?_
      exact wp_weak [true, true, true, true, true, true, true, true, true, true, false] rfl h
    · have h := h.2 q11
      refine wp_lconst0 dX12_rank_87 ?_
      refine wp_goto (tgt := 106) dX12_rank_88 (by decide) ?_
      refine wp_ladd dX12_rank_106 ?_
      refine wp_lstore (L2 := [some (Rv 88), some (Iv x1), some (Iv x2), some (Iv x3), some (Jv (x4 + 0)), none, some (Iv x6), some (Iv x7), some (Iv x8), some (Iv x9), some (Iv z9)]) dX12_rank_107 (Nat.le_of_ble_eq_true rfl) (Nat.le_of_ble_eq_true rfl) rfl ?_
      refine wp_iinc (L2 := [some (Rv 88), some (Iv x1), some (Iv x2), some (Iv x3), some (Jv (x4 + 0)), none, some (Iv x6), some (Iv x7), some (Iv x8), some (Iv (x9 + 1)), some (Iv z9)]) dX12_rank_109 rfl (Nat.le_of_ble_eq_true rfl) (Nat.le_of_ble_eq_true rfl) rfl ?_
      refine wp_goto (tgt := 55) dX12_rank_112 (by decide) ?_
      exact wp_weak [true, true, true, true, true, true, true, true, true, true, false] rfl h
theorem gX12_byRank {x1 x2 x3 x4 : Int}  {M : Mem} {Q : Vl → Mem → Prop} (h : cl 0 yX12_in [Iv x2, Iv 0, Iv 40] M (QI (fun z1 M1 => ((z1 = 0 → cl 0 yX12_needWord [Rv 88, Iv 0, Iv x1] M1 (QI (fun z3 M3 => (inr z3 ∧ ((0 ≤ z3 → cl 0 yX12_layInner [Rv 88, Iv x1] M3 (QV (fun M6 => (inr x3 ∧ (0 ≤ x2 ∧ (x2 < 1681 ∧ (inL x3 ∧ (inL (M6 107 x2) ∧ ((x3 < (M6 107 x2) → wp 0 yX12_byRank 74 [some (Rv 88), some (Iv x1), some (Iv x2), some (Iv x3), some (Iv x4), some (Iv z3), some (Jv x3), none, some (Iv 0), none, none, none] [] (up M6 88 17 0) Q) ∧ ((M6 107 x2) ≤ x3 → Q (Iv (-9)) M6)))))))))) ∧ (z3 < 0 → Q (Iv z3) M3)))))) ∧ (z1 ≠ 0 → inr x3 ∧ ((x3 < 0 → cl 0 yX12_needWord [Rv 88, Iv 0, Iv x1] M1 (QI (fun z15 M15 => (inr z15 ∧ ((0 ≤ z15 → cl 0 yX12_layInner [Rv 88, Iv x1] M15 (QV (fun M18 => (0 ≤ x2 ∧ (x2 < 1681 ∧ (inL x3 ∧ (inL (M18 107 x2) ∧ ((x3 < (M18 107 x2) → wp 0 yX12_byRank 74 [some (Rv 88), some (Iv x1), some (Iv x2), some (Iv x3), some (Iv x4), some (Iv z15), some (Jv x3), none, some (Iv 0), none, none, none] [] (up M18 88 17 0) Q) ∧ ((M18 107 x2) ≤ x3 → Q (Iv (-9)) M18))))))))) ∧ (z15 < 0 → Q (Iv z15) M15)))))) ∧ (0 ≤ x3 → cl 0 yX12_isRow [Iv x4] M1 (QI (fun z24 M24 => ((z24 = 0 → cl 0 yX12_needWord [Rv 88, Iv 0, Iv x1] M24 (QI (fun z26 M26 => (inr z26 ∧ ((0 ≤ z26 → cl 0 yX12_layInner [Rv 88, Iv x1] M26 (QV (fun M29 => (0 ≤ x2 ∧ (x2 < 1681 ∧ (inL x3 ∧ (inL (M29 107 x2) ∧ ((x3 < (M29 107 x2) → wp 0 yX12_byRank 74 [some (Rv 88), some (Iv x1), some (Iv x2), some (Iv x3), some (Iv x4), some (Iv z26), some (Jv x3), none, some (Iv 0), none, none, none] [] (up M29 88 17 0) Q) ∧ ((M29 107 x2) ≤ x3 → Q (Iv (-9)) M29))))))))) ∧ (z26 < 0 → Q (Iv z26) M26)))))) ∧ (z24 ≠ 0 → cl 0 yX12_needWord [Rv 88, Iv 1, Iv x1] M24 (QI (fun z35 M35 => (inr z35 ∧ ((0 ≤ z35 → cl 0 yX12_layInner [Rv 88, Iv x1] M35 (QV (fun M38 => (0 ≤ x2 ∧ (x2 < 1681 ∧ (inL x3 ∧ (inL (M38 107 x2) ∧ ((x3 < (M38 107 x2) → wp 0 yX12_byRank 74 [some (Rv 88), some (Iv x1), some (Iv x2), some (Iv x3), some (Iv x4), some (Iv z35), some (Jv x3), none, some (Iv 0), none, none, none] [] (up M38 88 17 0) Q) ∧ ((M38 107 x2) ≤ x3 → Q (Iv (-9)) M38))))))))) ∧ (z35 < 0 → Q (Iv z35) M35)))))))))))))))) : wp 0 yX12_byRank 0 [some (Rv 88), some (Iv x1), some (Iv x2), some (Iv x3), some (Iv x4), none, none, none, none, none, none, none] [] M Q := by
  refine wp_aload_n dX12_byRank_0 rfl (by decide) ?_
  refine wp_iload_n dX12_byRank_1 rfl ?_
  refine wp_iconst dX12_byRank_2 ?_
  refine wp_bipush dX12_byRank_3 (by decide) ?_
  refine wp_callS (e1 := 0) (as := [Iv x2, Iv 0, Iv 40]) (S := [Rv 88]) dX12_byRank_5 (cs_X12_117 rfl) rfl rfl (Nat.le_of_ble_eq_true rfl) (Nat.le_of_ble_eq_true rfl) h (fun v1 M1 q1 r1 => ?_)
  obtain ⟨z1, rfl, hz1⟩ := retV_z r1 rfl
  have h := q1
  refine wp_if_eq (tgt := 27) dX12_byRank_8 (by decide) (by have := hz1; omega) (fun q2 => ?_) (fun q2 => ?_)
  · have h := h.1 q2
    refine wp_iconst dX12_byRank_27 ?_
    refine wp_iload_n dX12_byRank_28 rfl ?_
    refine wp_callV (e1 := 0) (as := [Iv 0, Iv x1]) (S := []) dX12_byRank_29 (cs_X12_192 rfl) kd_88 rfl rfl (Nat.le_of_ble_eq_true rfl) (Nat.le_of_ble_eq_true rfl) h (fun v3 M3 q3 r3 => ?_)
    obtain ⟨z3, rfl⟩ := retV_i r3 rfl
    have h := q3
    refine wp_istore (L2 := [some (Rv 88), some (Iv x1), some (Iv x2), some (Iv x3), some (Iv x4), some (Iv z3), none, none, none, none, none, none]) dX12_byRank_32 (Nat.le_of_ble_eq_true rfl) (Nat.le_of_ble_eq_true rfl) rfl ?_
    refine wp_iload dX12_byRank_34 rfl ?_
    obtain ⟨o4, h⟩ := h
    refine wp_if_ge (tgt := 42) dX12_byRank_36 (by decide) o4 (fun q5 => ?_) (fun q5 => ?_)
    · have h := h.1 q5
      refine wp_aload_n dX12_byRank_42 rfl (by decide) ?_
      refine wp_iload_n dX12_byRank_43 rfl ?_
      refine wp_callV (e1 := 0) (as := [Iv x1]) (S := []) dX12_byRank_44 (cs_X12_217 rfl) kd_88 rfl rfl (Nat.le_of_ble_eq_true rfl) (Nat.le_of_ble_eq_true rfl) h (fun v6 M6 q6 r6 => ?_)
      have h := q6
      refine wp_iload_n dX12_byRank_47 rfl ?_
      obtain ⟨o7, h⟩ := h
      refine wp_i2l dX12_byRank_48 o7 ?_
      refine wp_aload_n dX12_byRank_49 rfl (by decide) ?_
      refine wp_getf (t := Rv 107) 107 dX12_byRank_50 (fl_X12_66 rfl) kd_88 rfl rfl ?_
      refine wp_iload_n dX12_byRank_53 rfl ?_
      obtain ⟨o8, h⟩ := h
      obtain ⟨o9, h⟩ := h
      refine wp_lald (M6 107 x2) dX12_byRank_54 kd_107 sz_107 o8 o9 (⟨by omega, by omega⟩) rfl ?_
      obtain ⟨o10, h⟩ := h
      obtain ⟨o11, h⟩ := h
      refine wp_lcmp dX12_byRank_55 (Or.inr ⟨o10, o11⟩) ?_
      refine wp_if_lt (tgt := 62) dX12_byRank_56 (by decide) lc_inr (fun q12 => ?_) (fun q12 => ?_)
      · have q12 := lc_lt.mp q12
        have h := h.1 q12
        refine wp_iload_n dX12_byRank_62 rfl ?_
        refine wp_i2l dX12_byRank_63 o7 ?_
        refine wp_lstore (L2 := [some (Rv 88), some (Iv x1), some (Iv x2), some (Iv x3), some (Iv x4), some (Iv z3), some (Jv x3), none, none, none, none, none]) dX12_byRank_64 (Nat.le_of_ble_eq_true rfl) (Nat.le_of_ble_eq_true rfl) rfl ?_
        refine wp_iconst dX12_byRank_66 ?_
        refine wp_istore (L2 := [some (Rv 88), some (Iv x1), some (Iv x2), some (Iv x3), some (Iv x4), some (Iv z3), some (Jv x3), none, some (Iv 0), none, none, none]) dX12_byRank_67 (Nat.le_of_ble_eq_true rfl) (Nat.le_of_ble_eq_true rfl) rfl ?_
        refine wp_aload_n dX12_byRank_69 rfl (by decide) ?_
        refine wp_iconst dX12_byRank_70 ?_
        refine wp_putf (x := 0) dX12_byRank_71 (fl_X12_151 rfl) kd_88 (fun _ => rfl) rfl rfl trivial ?_
        exact h
      · have q12 := lc_ge.mp q12
        have h := h.2 q12
        refine wp_bipush dX12_byRank_59 (by decide) ?_
        exact wp_iret dX12_byRank_61 rfl (Or.inr ⟨rfl, rfl, rfl, by decide⟩) rfl h
    · have h := h.2 q5
      refine wp_iload dX12_byRank_39 rfl ?_
      exact wp_iret dX12_byRank_41 rfl (Or.inr ⟨rfl, rfl, rfl, by decide⟩) rfl h
  · have h := h.2 q2
    refine wp_iload_n dX12_byRank_11 rfl ?_
    obtain ⟨o13, h⟩ := h
    refine wp_if_lt (tgt := 27) dX12_byRank_12 (by decide) o13 (fun q14 => ?_) (fun q14 => ?_)
    · have h := h.1 q14
      refine wp_iconst dX12_byRank_27 ?_
      refine wp_iload_n dX12_byRank_28 rfl ?_
      refine wp_callV (e1 := 0) (as := [Iv 0, Iv x1]) (S := []) dX12_byRank_29 (cs_X12_192 rfl) kd_88 rfl rfl (Nat.le_of_ble_eq_true rfl) (Nat.le_of_ble_eq_true rfl) h (fun v15 M15 q15 r15 => ?_)
      obtain ⟨z15, rfl⟩ := retV_i r15 rfl
      have h := q15
      refine wp_istore (L2 := [some (Rv 88), some (Iv x1), some (Iv x2), some (Iv x3), some (Iv x4), some (Iv z15), none, none, none, none, none, none]) dX12_byRank_32 (Nat.le_of_ble_eq_true rfl) (Nat.le_of_ble_eq_true rfl) rfl ?_
      refine wp_iload dX12_byRank_34 rfl ?_
      obtain ⟨o16, h⟩ := h
      refine wp_if_ge (tgt := 42) dX12_byRank_36 (by decide) o16 (fun q17 => ?_) (fun q17 => ?_)
      · have h := h.1 q17
        refine wp_aload_n dX12_byRank_42 rfl (by decide) ?_
        refine wp_iload_n dX12_byRank_43 rfl ?_
        refine wp_callV (e1 := 0) (as := [Iv x1]) (S := []) dX12_byRank_44 (cs_X12_217 rfl) kd_88 rfl rfl (Nat.le_of_ble_eq_true rfl) (Nat.le_of_ble_eq_true rfl) h (fun v18 M18 q18 r18 => ?_)
        have h := q18
        refine wp_iload_n dX12_byRank_47 rfl ?_
        refine wp_i2l dX12_byRank_48 o13 ?_
        refine wp_aload_n dX12_byRank_49 rfl (by decide) ?_
        refine wp_getf (t := Rv 107) 107 dX12_byRank_50 (fl_X12_66 rfl) kd_88 rfl rfl ?_
        refine wp_iload_n dX12_byRank_53 rfl ?_
        obtain ⟨o19, h⟩ := h
        obtain ⟨o20, h⟩ := h
        refine wp_lald (M18 107 x2) dX12_byRank_54 kd_107 sz_107 o19 o20 (⟨by omega, by omega⟩) rfl ?_
        obtain ⟨o21, h⟩ := h
        obtain ⟨o22, h⟩ := h
        refine wp_lcmp dX12_byRank_55 (Or.inr ⟨o21, o22⟩) ?_
        refine wp_if_lt (tgt := 62) dX12_byRank_56 (by decide) lc_inr (fun q23 => ?_) (fun q23 => ?_)
        · have q23 := lc_lt.mp q23
          have h := h.1 q23
          refine wp_iload_n dX12_byRank_62 rfl ?_
          refine wp_i2l dX12_byRank_63 o13 ?_
          refine wp_lstore (L2 := [some (Rv 88), some (Iv x1), some (Iv x2), some (Iv x3), some (Iv x4), some (Iv z15), some (Jv x3), none, none, none, none, none]) dX12_byRank_64 (Nat.le_of_ble_eq_true rfl) (Nat.le_of_ble_eq_true rfl) rfl ?_
          refine wp_iconst dX12_byRank_66 ?_
          refine wp_istore (L2 := [some (Rv 88), some (Iv x1), some (Iv x2), some (Iv x3), some (Iv x4), some (Iv z15), some (Jv x3), none, some (Iv 0), none, none, none]) dX12_byRank_67 (Nat.le_of_ble_eq_true rfl) (Nat.le_of_ble_eq_true rfl) rfl ?_
          refine wp_aload_n dX12_byRank_69 rfl (by decide) ?_
          refine wp_iconst dX12_byRank_70 ?_
          refine wp_putf (x := 0) dX12_byRank_71 (fl_X12_151 rfl) kd_88 (fun _ => rfl) rfl rfl trivial ?_
          exact h
        · have q23 := lc_ge.mp q23
          have h := h.2 q23
          refine wp_bipush dX12_byRank_59 (by decide) ?_
          exact wp_iret dX12_byRank_61 rfl (Or.inr ⟨rfl, rfl, rfl, by decide⟩) rfl h
      · have h := h.2 q17
        refine wp_iload dX12_byRank_39 rfl ?_
        exact wp_iret dX12_byRank_41 rfl (Or.inr ⟨rfl, rfl, rfl, by decide⟩) rfl h
    · have h := h.2 q14
      refine wp_iload dX12_byRank_15 rfl ?_
      refine wp_callS (e1 := 0) (as := [Iv x4]) (S := [Rv 88]) dX12_byRank_17 (cs_X12_130 rfl) rfl rfl (Nat.le_of_ble_eq_true rfl) (Nat.le_of_ble_eq_true rfl) h (fun v24 M24 q24 r24 => ?_)
      obtain ⟨z24, rfl, hz24⟩ := retV_z r24 rfl
      have h := q24
      refine wp_if_eq (tgt := 27) dX12_byRank_20 (by decide) (by have := hz24; omega) (fun q25 => ?_) (fun q25 => ?_)
      · have h := h.1 q25
        refine wp_iconst dX12_byRank_27 ?_
        refine wp_iload_n dX12_byRank_28 rfl ?_
        refine wp_callV (e1 := 0) (as := [Iv 0, Iv x1]) (S := []) dX12_byRank_29 (cs_X12_192 rfl) kd_88 rfl rfl (Nat.le_of_ble_eq_true rfl) (Nat.le_of_ble_eq_true rfl) h (fun v26 M26 q26 r26 => ?_)
        obtain ⟨z26, rfl⟩ := retV_i r26 rfl
        have h := q26
        refine wp_istore (L2 := [some (Rv 88), some (Iv x1), some (Iv x2), some (Iv x3), some (Iv x4), some (Iv z26), none, none, none, none, none, none]) dX12_byRank_32 (Nat.le_of_ble_eq_true rfl) (Nat.le_of_ble_eq_true rfl) rfl ?_
        refine wp_iload dX12_byRank_34 rfl ?_
        obtain ⟨o27, h⟩ := h
        refine wp_if_ge (tgt := 42) dX12_byRank_36 (by decide) o27 (fun q28 => ?_) (fun q28 => ?_)
        · have h := h.1 q28
          refine wp_aload_n dX12_byRank_42 rfl (by decide) ?_
          refine wp_iload_n dX12_byRank_43 rfl ?_
          refine wp_callV (e1 := 0) (as := [Iv x1]) (S := []) dX12_byRank_44 (cs_X12_217 rfl) kd_88 rfl rfl (Nat.le_of_ble_eq_true rfl) (Nat.le_of_ble_eq_true rfl) h (fun v29 M29 q29 r29 => ?_)
          have h := q29
          refine wp_iload_n dX12_byRank_47 rfl ?_
          refine wp_i2l dX12_byRank_48 o13 ?_
          refine wp_aload_n dX12_byRank_49 rfl (by decide) ?_
          refine wp_getf (t := Rv 107) 107 dX12_byRank_50 (fl_X12_66 rfl) kd_88 rfl rfl ?_
          refine wp_iload_n dX12_byRank_53 rfl ?_
          obtain ⟨o30, h⟩ := h
          obtain ⟨o31, h⟩ := h
          refine wp_lald (M29 107 x2) dX12_byRank_54 kd_107 sz_107 o30 o31 (⟨by omega, by omega⟩) rfl ?_
          obtain ⟨o32, h⟩ := h
          obtain ⟨o33, h⟩ := h
          refine wp_lcmp dX12_byRank_55 (Or.inr ⟨o32, o33⟩) ?_
          refine wp_if_lt (tgt := 62) dX12_byRank_56 (by decide) lc_inr (fun q34 => ?_) (fun q34 => ?_)
          · have q34 := lc_lt.mp q34
            have h := h.1 q34
            refine wp_iload_n dX12_byRank_62 rfl ?_
            refine wp_i2l dX12_byRank_63 o13 ?_
            refine wp_lstore (L2 := [some (Rv 88), some (Iv x1), some (Iv x2), some (Iv x3), some (Iv x4), some (Iv z26), some (Jv x3), none, none, none, none, none]) dX12_byRank_64 (Nat.le_of_ble_eq_true rfl) (Nat.le_of_ble_eq_true rfl) rfl ?_
            refine wp_iconst dX12_byRank_66 ?_
            refine wp_istore (L2 := [some (Rv 88), some (Iv x1), some (Iv x2), some (Iv x3), some (Iv x4), some (Iv z26), some (Jv x3), none, some (Iv 0), none, none, none]) dX12_byRank_67 (Nat.le_of_ble_eq_true rfl) (Nat.le_of_ble_eq_true rfl) rfl ?_
            refine wp_aload_n dX12_byRank_69 rfl (by decide) ?_
            refine wp_iconst dX12_byRank_70 ?_
            refine wp_putf (x := 0) dX12_byRank_71 (fl_X12_151 rfl) kd_88 (fun _ => rfl) rfl rfl trivial ?_
            exact h
          · have q34 := lc_ge.mp q34
            have h := h.2 q34
            refine wp_bipush dX12_byRank_59 (by decide) ?_
            exact wp_iret dX12_byRank_61 rfl (Or.inr ⟨rfl, rfl, rfl, by decide⟩) rfl h
        · have h := h.2 q28
          refine wp_iload dX12_byRank_39 rfl ?_
          exact wp_iret dX12_byRank_41 rfl (Or.inr ⟨rfl, rfl, rfl, by decide⟩) rfl h
      · have h := h.2 q25
        refine wp_iconst dX12_byRank_23 ?_
        refine wp_goto (tgt := 28) dX12_byRank_24 (by decide) ?_
        refine wp_iload_n dX12_byRank_28 rfl ?_
        refine wp_callV (e1 := 0) (as := [Iv 1, Iv x1]) (S := []) dX12_byRank_29 (cs_X12_192 rfl) kd_88 rfl rfl (Nat.le_of_ble_eq_true rfl) (Nat.le_of_ble_eq_true rfl) h (fun v35 M35 q35 r35 => ?_)
        obtain ⟨z35, rfl⟩ := retV_i r35 rfl
        have h := q35
        refine wp_istore (L2 := [some (Rv 88), some (Iv x1), some (Iv x2), some (Iv x3), some (Iv x4), some (Iv z35), none, none, none, none, none, none]) dX12_byRank_32 (Nat.le_of_ble_eq_true rfl) (Nat.le_of_ble_eq_true rfl) rfl ?_
        refine wp_iload dX12_byRank_34 rfl ?_
        obtain ⟨o36, h⟩ := h
        refine wp_if_ge (tgt := 42) dX12_byRank_36 (by decide) o36 (fun q37 => ?_) (fun q37 => ?_)
        · have h := h.1 q37
          refine wp_aload_n dX12_byRank_42 rfl (by decide) ?_
          refine wp_iload_n dX12_byRank_43 rfl ?_
          refine wp_callV (e1 := 0) (as := [Iv x1]) (S := []) dX12_byRank_44 (cs_X12_217 rfl) kd_88 rfl rfl (Nat.le_of_ble_eq_true rfl) (Nat.le_of_ble_eq_true rfl) h (fun v38 M38 q38 r38 => ?_)
          have h := q38
          refine wp_iload_n dX12_byRank_47 rfl ?_
          refine wp_i2l dX12_byRank_48 o13 ?_
          refine wp_aload_n dX12_byRank_49 rfl (by decide) ?_
          refine wp_getf (t := Rv 107) 107 dX12_byRank_50 (fl_X12_66 rfl) kd_88 rfl rfl ?_
          refine wp_iload_n dX12_byRank_53 rfl ?_
          obtain ⟨o39, h⟩ := h
          obtain ⟨o40, h⟩ := h
          refine wp_lald (M38 107 x2) dX12_byRank_54 kd_107 sz_107 o39 o40 (⟨by omega, by omega⟩) rfl ?_
          obtain ⟨o41, h⟩ := h
          obtain ⟨o42, h⟩ := h
          refine wp_lcmp dX12_byRank_55 (Or.inr ⟨o41, o42⟩) ?_
          refine wp_if_lt (tgt := 62) dX12_byRank_56 (by decide) lc_inr (fun q43 => ?_) (fun q43 => ?_)
          · have q43 := lc_lt.mp q43
            have h := h.1 q43
            refine wp_iload_n dX12_byRank_62 rfl ?_
            refine wp_i2l dX12_byRank_63 o13 ?_
            refine wp_lstore (L2 := [some (Rv 88), some (Iv x1), some (Iv x2), some (Iv x3), some (Iv x4), some (Iv z35), some (Jv x3), none, none, none, none, none]) dX12_byRank_64 (Nat.le_of_ble_eq_true rfl) (Nat.le_of_ble_eq_true rfl) rfl ?_
            refine wp_iconst dX12_byRank_66 ?_
            refine wp_istore (L2 := [some (Rv 88), some (Iv x1), some (Iv x2), some (Iv x3), some (Iv x4), some (Iv z35), some (Jv x3), none, some (Iv 0), none, none, none]) dX12_byRank_67 (Nat.le_of_ble_eq_true rfl) (Nat.le_of_ble_eq_true rfl) rfl ?_
            refine wp_aload_n dX12_byRank_69 rfl (by decide) ?_
            refine wp_iconst dX12_byRank_70 ?_
            refine wp_putf (x := 0) dX12_byRank_71 (fl_X12_151 rfl) kd_88 (fun _ => rfl) rfl rfl trivial ?_
            exact h
          · have q43 := lc_ge.mp q43
            have h := h.2 q43
            refine wp_bipush dX12_byRank_59 (by decide) ?_
            exact wp_iret dX12_byRank_61 rfl (Or.inr ⟨rfl, rfl, rfl, by decide⟩) rfl h
        · have h := h.2 q37
          refine wp_iload dX12_byRank_39 rfl ?_
          exact wp_iret dX12_byRank_41 rfl (Or.inr ⟨rfl, rfl, rfl, by decide⟩) rfl h
theorem eX12_byRank {x1 x2 x3 x4 : Int}  {M : Mem} {Q : Vl → Mem → Prop} (h : cl 0 yX12_in [Iv x2, Iv 0, Iv 40] M (QI (fun z1 M1 => ((z1 = 0 → cl 0 yX12_needWord [Rv 88, Iv 0, Iv x1] M1 (QI (fun z3 M3 => (inr z3 ∧ ((0 ≤ z3 → cl 0 yX12_layInner [Rv 88, Iv x1] M3 (QV (fun M6 => (inr x3 ∧ (0 ≤ x2 ∧ (x2 < 1681 ∧ (inL x3 ∧ (inL (M6 107 x2) ∧ ((x3 < (M6 107 x2) → wp 0 yX12_byRank 74 [some (Rv 88), some (Iv x1), some (Iv x2), some (Iv x3), some (Iv x4), some (Iv z3), some (Jv x3), none, some (Iv 0), none, none, none] [] (up M6 88 17 0) Q) ∧ ((M6 107 x2) ≤ x3 → Q (Iv (-9)) M6)))))))))) ∧ (z3 < 0 → Q (Iv z3) M3)))))) ∧ (z1 ≠ 0 → inr x3 ∧ ((x3 < 0 → cl 0 yX12_needWord [Rv 88, Iv 0, Iv x1] M1 (QI (fun z15 M15 => (inr z15 ∧ ((0 ≤ z15 → cl 0 yX12_layInner [Rv 88, Iv x1] M15 (QV (fun M18 => (0 ≤ x2 ∧ (x2 < 1681 ∧ (inL x3 ∧ (inL (M18 107 x2) ∧ ((x3 < (M18 107 x2) → wp 0 yX12_byRank 74 [some (Rv 88), some (Iv x1), some (Iv x2), some (Iv x3), some (Iv x4), some (Iv z15), some (Jv x3), none, some (Iv 0), none, none, none] [] (up M18 88 17 0) Q) ∧ ((M18 107 x2) ≤ x3 → Q (Iv (-9)) M18))))))))) ∧ (z15 < 0 → Q (Iv z15) M15)))))) ∧ (0 ≤ x3 → cl 0 yX12_isRow [Iv x4] M1 (QI (fun z24 M24 => ((z24 = 0 → cl 0 yX12_needWord [Rv 88, Iv 0, Iv x1] M24 (QI (fun z26 M26 => (inr z26 ∧ ((0 ≤ z26 → cl 0 yX12_layInner [Rv 88, Iv x1] M26 (QV (fun M29 => (0 ≤ x2 ∧ (x2 < 1681 ∧ (inL x3 ∧ (inL (M29 107 x2) ∧ ((x3 < (M29 107 x2) → wp 0 yX12_byRank 74 [some (Rv 88), some (Iv x1), some (Iv x2), some (Iv x3), some (Iv x4), some (Iv z26), some (Jv x3), none, some (Iv 0), none, none, none] [] (up M29 88 17 0) Q) ∧ ((M29 107 x2) ≤ x3 → Q (Iv (-9)) M29))))))))) ∧ (z26 < 0 → Q (Iv z26) M26)))))) ∧ (z24 ≠ 0 → cl 0 yX12_needWord [Rv 88, Iv 1, Iv x1] M24 (QI (fun z35 M35 => (inr z35 ∧ ((0 ≤ z35 → cl 0 yX12_layInner [Rv 88, Iv x1] M35 (QV (fun M38 => (0 ≤ x2 ∧ (x2 < 1681 ∧ (inL x3 ∧ (inL (M38 107 x2) ∧ ((x3 < (M38 107 x2) → wp 0 yX12_byRank 74 [some (Rv 88), some (Iv x1), some (Iv x2), some (Iv x3), some (Iv x4), some (Iv z35), some (Jv x3), none, some (Iv 0), none, none, none] [] (up M38 88 17 0) Q) ∧ ((M38 107 x2) ≤ x3 → Q (Iv (-9)) M38))))))))) ∧ (z35 < 0 → Q (Iv z35) M35)))))))))))))))) : cl 0 yX12_byRank [Rv 88, Iv x1, Iv x2, Iv x3, Iv x4] M Q := enterG (by decide +kernel) (by exact Or.inr (Or.inl rfl)) (Nat.le_of_ble_eq_true rfl) rfl (gX12_byRank h)
theorem gX12_byRank_74 {x1 x2 x3 x4 x5 x6 x8 : Int}  {M : Mem} {Q : Vl → Mem → Prop} (h : inr (M 88 17) ∧ (inr x2 ∧ ((x2 ≤ (M 88 17) → cl 0 yX12_comesToRow [Rv 88, Iv x4] M (QV (fun M4 => (Q (Iv x2) M4)))) ∧ ((M 88 17) < x2 → cl 0 yX12_innersBy [Rv 88, Iv x1, Iv x8, Iv 0, Iv (x2 - (M 88 17))] M (QJ (fun z5 M5 => (wp 0 yX12_byRank 102 [some (Rv 88), some (Iv x1), some (Iv x2), some (Iv x3), some (Iv x4), some (Iv x5), some (Jv x6), none, some (Iv x8), some (Iv 0), some (Jv z5), none] [] M5 Q))))))) : wp 0 yX12_byRank 74 [some (Rv 88), some (Iv x1), some (Iv x2), some (Iv x3), some (Iv x4), some (Iv x5), some (Jv x6), none, some (Iv x8), none, none, none] [] M Q := by
  refine wp_aload_n dX12_byRank_74 rfl (by decide) ?_
  refine wp_getf (t := Iv (M 88 17)) (M 88 17) dX12_byRank_75 (fl_X12_151 rfl) kd_88 rfl rfl ?_
  refine wp_iload_n dX12_byRank_78 rfl ?_
  obtain ⟨o1, h⟩ := h
  obtain ⟨o2, h⟩ := h
  refine wp_icmp_ge (tgt := 177) dX12_byRank_79 (by decide) o1 o2 (fun q3 => ?_) (fun q3 => ?_)
  · have h := h.1 q3
    refine wp_aload_n dX12_byRank_177 rfl (by decide) ?_
    refine wp_iload dX12_byRank_178 rfl ?_
    refine wp_callV (e1 := 0) (as := [Iv x4]) (S := []) dX12_byRank_180 (cs_X12_214 rfl) kd_88 rfl rfl (Nat.le_of_ble_eq_true rfl) (Nat.le_of_ble_eq_true rfl) h (fun v4 M4 q4 r4 => ?_)
    have h := q4
    refine wp_iload_n dX12_byRank_183 rfl ?_
    exact wp_iret dX12_byRank_184 rfl (Or.inr ⟨rfl, rfl, rfl, by decide⟩) rfl h
  · have h := h.2 q3
    refine wp_iconst dX12_byRank_82 ?_
    refine wp_istore (L2 := [some (Rv 88), some (Iv x1), some (Iv x2), some (Iv x3), some (Iv x4), some (Iv x5), some (Jv x6), none, some (Iv x8), some (Iv 0), none, none]) dX12_byRank_83 (Nat.le_of_ble_eq_true rfl) (Nat.le_of_ble_eq_true rfl) rfl ?_
    refine wp_aload_n dX12_byRank_85 rfl (by decide) ?_
    refine wp_iload_n dX12_byRank_86 rfl ?_
    refine wp_iload dX12_byRank_87 rfl ?_
    refine wp_iload dX12_byRank_89 rfl ?_
    refine wp_iload_n dX12_byRank_91 rfl ?_
    refine wp_aload_n dX12_byRank_92 rfl (by decide) ?_
    refine wp_getf (t := Iv (M 88 17)) (M 88 17) dX12_byRank_93 (fl_X12_151 rfl) kd_88 rfl rfl ?_
    refine wp_isub dX12_byRank_96 ?_
    refine wp_callV (e1 := 0) (as := [Iv x1, Iv x8, Iv 0, Iv (x2 - (M 88 17))]) (S := []) dX12_byRank_97 (cs_X12_220 rfl) kd_88 rfl rfl (Nat.le_of_ble_eq_true rfl) (Nat.le_of_ble_eq_true rfl) h (fun v5 M5 q5 r5 => ?_)
    obtain ⟨z5, rfl⟩ := retV_j r5 rfl
    have h := q5
    refine wp_lstore (L2 := [some (Rv 88), some (Iv x1), some (Iv x2), some (Iv x3), some (Iv x4), some (Iv x5), some (Jv x6), none, some (Iv x8), some (Iv 0), some (Jv z5), none]) dX12_byRank_100 (Nat.le_of_ble_eq_true rfl) (Nat.le_of_ble_eq_true rfl) rfl ?_
    exact h
theorem gX12_byRank_102 {x1 x2 x3 x4 x5 x6 x8 x9 x10 : Int}  {M : Mem} {Q : Vl → Mem → Prop} (h : inL x6 ∧ (inL x10 ∧ ((x6 < x10 → cl 0 yX12_next [Rv 88, Iv x1, Iv x8, Iv x9] M (QI (fun z4 M4 => (0 ≤ M4 88 17 ∧ (M4 88 17 < 40 ∧ (wp 0 yX12_byRank 74 [some (Rv 88), some (Iv x1), some (Iv x2), some (Iv x3), some (Iv x4), some (Iv x5), some (Jv x6), none, some (Iv (z4 + 1)), none, none, none] [] (up (up M4 100 (M4 88 17) x9) 88 17 ((M4 88 17) + 1)) Q)))))) ∧ (x10 ≤ x6 → cl 0 yX12_innersBy [Rv 88, Iv x1, Iv x8, Iv (x9 + 1), Iv (x2 - (M 88 17))] M (QJ (fun z7 M7 => (wp 0 yX12_byRank 102 [some (Rv 88), some (Iv x1), some (Iv x2), some (Iv x3), some (Iv x4), some (Iv x5), some (Jv (x6 - x10)), none, some (Iv x8), some (Iv (x9 + 1)), some (Jv z7), none] [] M7 Q))))))) : wp 0 yX12_byRank 102 [some (Rv 88), some (Iv x1), some (Iv x2), some (Iv x3), some (Iv x4), some (Iv x5), some (Jv x6), none, some (Iv x8), some (Iv x9), some (Jv x10), none] [] M Q := by
  refine wp_lload dX12_byRank_102 rfl ?_
  refine wp_lload dX12_byRank_104 rfl ?_
  obtain ⟨o1, h⟩ := h
  obtain ⟨o2, h⟩ := h
  refine wp_lcmp dX12_byRank_106 (Or.inr ⟨o1, o2⟩) ?_
  refine wp_if_lt (tgt := 140) dX12_byRank_107 (by decide) lc_inr (fun q3 => ?_) (fun q3 => ?_)
  · have q3 := lc_lt.mp q3
    have h := h.1 q3
    refine wp_aload_n dX12_byRank_140 rfl (by decide) ?_
    refine wp_iload_n dX12_byRank_141 rfl ?_
    refine wp_iload dX12_byRank_142 rfl ?_
    refine wp_iload dX12_byRank_144 rfl ?_
    refine wp_callV (e1 := 0) (as := [Iv x1, Iv x8, Iv x9]) (S := []) dX12_byRank_146 (cs_X12_206 rfl) kd_88 rfl rfl (Nat.le_of_ble_eq_true rfl) (Nat.le_of_ble_eq_true rfl) h (fun v4 M4 q4 r4 => ?_)
    obtain ⟨z4, rfl⟩ := retV_i r4 rfl
    have h := q4
    refine wp_iconst dX12_byRank_149 ?_
    refine wp_iadd dX12_byRank_150 ?_
    refine wp_istore (L2 := [some (Rv 88), some (Iv x1), some (Iv x2), some (Iv x3), some (Iv x4), some (Iv x5), some (Jv x6), none, some (Iv (z4 + 1)), some (Iv x9), some (Jv x10), none]) dX12_byRank_151 (Nat.le_of_ble_eq_true rfl) (Nat.le_of_ble_eq_true rfl) rfl ?_
    refine wp_aload_n dX12_byRank_153 rfl (by decide) ?_
    refine wp_getf (t := Rv 100) 100 dX12_byRank_154 (fl_X12_44 rfl) kd_88 rfl rfl ?_
    refine wp_aload_n dX12_byRank_157 rfl (by decide) ?_
    refine wp_getf (t := Iv (M4 88 17)) (M4 88 17) dX12_byRank_158 (fl_X12_151 rfl) kd_88 rfl rfl ?_
    refine wp_iload dX12_byRank_161 rfl ?_
    obtain ⟨o5, h⟩ := h
    obtain ⟨o6, h⟩ := h
    refine wp_iast dX12_byRank_163 kd_100 sz_100 o5 o6 (⟨by omega, by omega⟩) ?_
    refine wp_aload_n dX12_byRank_164 rfl (by decide) ?_
    refine wp_dup dX12_byRank_165 rfl ?_
    refine wp_getf (t := Iv (M4 88 17)) (M4 88 17) dX12_byRank_166 (fl_X12_151 rfl) kd_88 rfl rfl ?_
    refine wp_iconst dX12_byRank_169 ?_
    refine wp_iadd dX12_byRank_170 ?_
    refine wp_putf (x := ((M4 88 17) + 1)) dX12_byRank_171 (fl_X12_151 rfl) kd_88 (fun _ => rfl) rfl rfl trivial ?_
    refine wp_goto (tgt := 74) dX12_byRank_174 (by decide) ?_
    exact wp_weak [true, true, true, true, true, true, true, true, true, false, false, true] rfl h
  · have q3 := lc_ge.mp q3
    have h := h.2 q3
    refine wp_lload dX12_byRank_110 rfl ?_
    refine wp_lload dX12_byRank_112 rfl ?_
    refine wp_lsub dX12_byRank_114 ?_
    refine wp_lstore (L2 := [some (Rv 88), some (Iv x1), some (Iv x2), some (Iv x3), some (Iv x4), some (Iv x5), some (Jv (x6 - x10)), none, some (Iv x8), some (Iv x9), some (Jv x10), none]) dX12_byRank_115 (Nat.le_of_ble_eq_true rfl) (Nat.le_of_ble_eq_true rfl) rfl ?_
    refine wp_iinc (L2 := [some (Rv 88), some (Iv x1), some (Iv x2), some (Iv x3), some (Iv x4), some (Iv x5), some (Jv (x6 - x10)), none, some (Iv x8), some (Iv (x9 + 1)), some (Jv x10), none]) dX12_byRank_117 rfl (Nat.le_of_ble_eq_true rfl) (Nat.le_of_ble_eq_true rfl) rfl ?_
    refine wp_aload_n dX12_byRank_120 rfl (by decide) ?_
    refine wp_iload_n dX12_byRank_121 rfl ?_
    refine wp_iload dX12_byRank_122 rfl ?_
    refine wp_iload dX12_byRank_124 rfl ?_
    refine wp_iload_n dX12_byRank_126 rfl ?_
    refine wp_aload_n dX12_byRank_127 rfl (by decide) ?_
    refine wp_getf (t := Iv (M 88 17)) (M 88 17) dX12_byRank_128 (fl_X12_151 rfl) kd_88 rfl rfl ?_
    refine wp_isub dX12_byRank_131 ?_
    refine wp_callV (e1 := 0) (as := [Iv x1, Iv x8, Iv (x9 + 1), Iv (x2 - (M 88 17))]) (S := []) dX12_byRank_132 (cs_X12_220 rfl) kd_88 rfl rfl (Nat.le_of_ble_eq_true rfl) (Nat.le_of_ble_eq_true rfl) h (fun v7 M7 q7 r7 => ?_)
    obtain ⟨z7, rfl⟩ := retV_j r7 rfl
    have h := q7
    refine wp_lstore (L2 := [some (Rv 88), some (Iv x1), some (Iv x2), some (Iv x3), some (Iv x4), some (Iv x5), some (Jv (x6 - x10)), none, some (Iv x8), some (Iv (x9 + 1)), some (Jv z7), none]) dX12_byRank_135 (Nat.le_of_ble_eq_true rfl) (Nat.le_of_ble_eq_true rfl) rfl ?_
    refine wp_goto (tgt := 102) dX12_byRank_137 (by decide) ?_
    exact h
theorem gX12_innersBy {x1 x2 x3 x4 : Int}  {M : Mem} {Q : Vl → Mem → Prop} (h : cl 0 yX12_next [Rv 88, Iv x1, Iv x2, Iv x3] M (QI (fun z1 M1 => (inr z1 ∧ ((z1 ≠ (-9) → 0 ≤ ((41 * (z1 + 1)) + x4) - 1 ∧ (((41 * (z1 + 1)) + x4) - 1 < 1681 ∧ (Q (Jv (M1 107 (((41 * (z1 + 1)) + x4) - 1))) M1))) ∧ (z1 = (-9) → Q (Jv 0) M1)))))) : wp 0 yX12_innersBy 0 [some (Rv 88), some (Iv x1), some (Iv x2), some (Iv x3), some (Iv x4), none] [] M Q := by
  refine wp_aload_n dX12_innersBy_0 rfl (by decide) ?_
  refine wp_iload_n dX12_innersBy_1 rfl ?_
  refine wp_iload_n dX12_innersBy_2 rfl ?_
  refine wp_iload_n dX12_innersBy_3 rfl ?_
  refine wp_callV (e1 := 0) (as := [Iv x1, Iv x2, Iv x3]) (S := []) dX12_innersBy_4 (cs_X12_206 rfl) kd_88 rfl rfl (Nat.le_of_ble_eq_true rfl) (Nat.le_of_ble_eq_true rfl) h (fun v1 M1 q1 r1 => ?_)
  obtain ⟨z1, rfl⟩ := retV_i r1 rfl
  have h := q1
  refine wp_istore (L2 := [some (Rv 88), some (Iv x1), some (Iv x2), some (Iv x3), some (Iv x4), some (Iv z1)]) dX12_innersBy_7 (Nat.le_of_ble_eq_true rfl) (Nat.le_of_ble_eq_true rfl) rfl ?_
  refine wp_iload dX12_innersBy_9 rfl ?_
  refine wp_bipush dX12_innersBy_11 (by decide) ?_
  obtain ⟨o2, h⟩ := h
  refine wp_icmp_ne (tgt := 20) dX12_innersBy_13 (by decide) (Or.inr ⟨o2, (by decide)⟩) (fun q3 => ?_) (fun q3 => ?_)
  · have h := h.1 q3
    refine wp_aload_n dX12_innersBy_20 rfl (by decide) ?_
    refine wp_getf (t := Rv 107) 107 dX12_innersBy_21 (fl_X12_66 rfl) kd_88 rfl rfl ?_
    refine wp_bipush dX12_innersBy_24 (by decide) ?_
    refine wp_iload dX12_innersBy_26 rfl ?_
    refine wp_iconst dX12_innersBy_28 ?_
    refine wp_iadd dX12_innersBy_29 ?_
    refine wp_imul dX12_innersBy_30 ?_
    refine wp_iload dX12_innersBy_31 rfl ?_
    refine wp_iadd dX12_innersBy_33 ?_
    refine wp_iconst dX12_innersBy_34 ?_
    refine wp_isub dX12_innersBy_35 ?_
    obtain ⟨o4, h⟩ := h
    obtain ⟨o5, h⟩ := h
    refine wp_lald (M1 107 (((41 * (z1 + 1)) + x4) - 1)) dX12_innersBy_36 kd_107 sz_107 o4 o5 (⟨by omega, by omega⟩) rfl ?_
    exact wp_lret dX12_innersBy_37 rfl (Or.inr ⟨rfl, rfl, rfl, by decide⟩) rfl h
  · have h := h.2 q3
    refine wp_lconst0 dX12_innersBy_16 ?_
    refine wp_goto (tgt := 37) dX12_innersBy_17 (by decide) ?_
    exact wp_lret dX12_innersBy_37 rfl (Or.inr ⟨rfl, rfl, rfl, by decide⟩) rfl h
theorem eX12_innersBy {x1 x2 x3 x4 : Int}  {M : Mem} {Q : Vl → Mem → Prop} (h : cl 0 yX12_next [Rv 88, Iv x1, Iv x2, Iv x3] M (QI (fun z1 M1 => (inr z1 ∧ ((z1 ≠ (-9) → 0 ≤ ((41 * (z1 + 1)) + x4) - 1 ∧ (((41 * (z1 + 1)) + x4) - 1 < 1681 ∧ (Q (Jv (M1 107 (((41 * (z1 + 1)) + x4) - 1))) M1))) ∧ (z1 = (-9) → Q (Jv 0) M1)))))) : cl 0 yX12_innersBy [Rv 88, Iv x1, Iv x2, Iv x3, Iv x4] M Q := enterG (by decide +kernel) (by exact Or.inr (Or.inr (Or.inr (Or.inl rfl)))) (Nat.le_of_ble_eq_true rfl) rfl (gX12_innersBy h)
theorem gX12_archesFrom {x1 x2 : Int}  {M : Mem} {Q : Vl → Mem → Prop} (h : wp 0 yX12_archesFrom 15 [some (Rv 88), some (Iv x1), some (Iv x2), some (Iv 0), some (Iv x2)] [] (up (up M 88 27 x2) 88 28 0) Q) : wp 0 yX12_archesFrom 0 [some (Rv 88), some (Iv x1), some (Iv x2), none, none] [] M Q := by
  refine wp_iconst dX12_archesFrom_0 ?_
  refine wp_istore_n (L2 := [some (Rv 88), some (Iv x1), some (Iv x2), some (Iv 0), none]) dX12_archesFrom_1 (Nat.le_of_ble_eq_true rfl) (Nat.le_of_ble_eq_true rfl) rfl ?_
  refine wp_aload_n dX12_archesFrom_2 rfl (by decide) ?_
  refine wp_iload_n dX12_archesFrom_3 rfl ?_
  refine wp_putf (x := x2) dX12_archesFrom_4 (fl_X12_224 rfl) kd_88 (fun _ => rfl) rfl rfl trivial ?_
  refine wp_aload_n dX12_archesFrom_7 rfl (by decide) ?_
  refine wp_iconst dX12_archesFrom_8 ?_
  refine wp_putf (x := 0) dX12_archesFrom_9 (fl_X12_227 rfl) kd_88 (fun _ => rfl) rfl rfl trivial ?_
  refine wp_iload_n dX12_archesFrom_12 rfl ?_
  refine wp_istore (L2 := [some (Rv 88), some (Iv x1), some (Iv x2), some (Iv 0), some (Iv x2)]) dX12_archesFrom_13 (Nat.le_of_ble_eq_true rfl) (Nat.le_of_ble_eq_true rfl) rfl ?_
  exact h
theorem eX12_archesFrom {x1 x2 : Int}  {M : Mem} {Q : Vl → Mem → Prop} (h : wp 0 yX12_archesFrom 15 [some (Rv 88), some (Iv x1), some (Iv x2), some (Iv 0), some (Iv x2)] [] (up (up M 88 27 x2) 88 28 0) Q) : cl 0 yX12_archesFrom [Rv 88, Iv x1, Iv x2] M Q := enterG (by decide +kernel) (by exact Or.inr (Or.inl rfl)) (Nat.le_of_ble_eq_true rfl) rfl (gX12_archesFrom h)
theorem gX12_archesFrom_15 {x1 x2 x3 x4 : Int}  {M : Mem} {Q : Vl → Mem → Prop} (h : 0 ≤ x1 ∧ (x1 < 8 ∧ (inr x4 ∧ (inr (M 95 x1) ∧ (((M 95 x1) ≤ x4 → Q (Iv x3) M) ∧ (x4 < (M 95 x1) → cl 0 yX12_at0 [Rv 88, Iv x1, Iv x4] M (QI (fun z6 M6 => (0 ≤ z6 ∧ (z6 < 32 ∧ (0 ≤ M 88 28 ∧ (0 ≤ M6 88 11 ∧ (M6 88 11 < 32 ∧ ((((Int.toNat (M 88 28) ||| Int.toNat (1 * 2 ^ Int.toNat z6) : Nat) : Int) = ((1 * 2 ^ Int.toNat (M6 88 11)) - 1) ∨ (inr ((Int.toNat (M 88 28) ||| Int.toNat (1 * 2 ^ Int.toNat z6) : Nat) : Int) ∧ inr ((1 * 2 ^ Int.toNat (M6 88 11)) - 1))) ∧ ((((Int.toNat (M 88 28) ||| Int.toNat (1 * 2 ^ Int.toNat z6) : Nat) : Int) ≠ ((1 * 2 ^ Int.toNat (M6 88 11)) - 1) → wp 0 yX12_archesFrom 15 [some (Rv 88), some (Iv x1), some (Iv x2), some (Iv x3), some (Iv (x4 + 1))] [] (up M6 88 28 ((Int.toNat (M 88 28) ||| Int.toNat (1 * 2 ^ Int.toNat z6) : Nat) : Int)) Q) ∧ (((Int.toNat (M 88 28) ||| Int.toNat (1 * 2 ^ Int.toNat z6) : Nat) : Int) = ((1 * 2 ^ Int.toNat (M6 88 11)) - 1) → wp 0 yX12_archesFrom 15 [some (Rv 88), some (Iv x1), some (Iv x2), some (Iv (x3 + 1)), some (Iv (x4 + 1))] [] (up (up (up M6 88 28 ((Int.toNat (M 88 28) ||| Int.toNat (1 * 2 ^ Int.toNat z6) : Nat) : Int)) 88 27 (x4 + 1)) 88 28 0) Q)))))))))))))))) : wp 0 yX12_archesFrom 15 [some (Rv 88), some (Iv x1), some (Iv x2), some (Iv x3), some (Iv x4)] [] M Q := by
  refine wp_iload dX12_archesFrom_15 rfl ?_
  refine wp_aload_n dX12_archesFrom_17 rfl (by decide) ?_
  refine wp_getf (t := Rv 95) 95 dX12_archesFrom_18 (fl_X12_29 rfl) kd_88 rfl rfl ?_
  refine wp_iload_n dX12_archesFrom_21 rfl ?_
  obtain ⟨o1, h⟩ := h
  obtain ⟨o2, h⟩ := h
  refine wp_iald (M 95 x1) dX12_archesFrom_22 kd_95 sz_95 o1 o2 (⟨by omega, by omega⟩) rfl ?_
  obtain ⟨o3, h⟩ := h
  obtain ⟨o4, h⟩ := h
  refine wp_icmp_ge (tgt := 81) dX12_archesFrom_23 (by decide) o3 o4 (fun q5 => ?_) (fun q5 => ?_)
  · have h := h.1 q5
    refine wp_iload_n dX12_archesFrom_81 rfl ?_
    exact wp_iret dX12_archesFrom_82 rfl (Or.inr ⟨rfl, rfl, rfl, by decide⟩) rfl h
  · have h := h.2 q5
    refine wp_aload_n dX12_archesFrom_26 rfl (by decide) ?_
    refine wp_dup dX12_archesFrom_27 rfl ?_
    refine wp_getf (t := Iv (M 88 28)) (M 88 28) dX12_archesFrom_28 (fl_X12_227 rfl) kd_88 rfl rfl ?_
    refine wp_iconst dX12_archesFrom_31 ?_
    refine wp_aload_n dX12_archesFrom_32 rfl (by decide) ?_
    refine wp_iload_n dX12_archesFrom_33 rfl ?_
    refine wp_iload dX12_archesFrom_34 rfl ?_
    refine wp_callV (e1 := 0) (as := [Iv x1, Iv x4]) (S := [Iv 1, Iv (M 88 28), Rv 88]) dX12_archesFrom_36 (cs_X12_148 rfl) kd_88 rfl rfl (Nat.le_of_ble_eq_true rfl) (Nat.le_of_ble_eq_true rfl) h (fun v6 M6 q6 r6 => ?_)
    obtain ⟨z6, rfl⟩ := retV_i r6 rfl
    have h := q6
    obtain ⟨o7, h⟩ := h
    obtain ⟨o8, h⟩ := h
    refine wp_ishl (1 * 2 ^ Int.toNat z6) dX12_archesFrom_39 (bits_shl o7 o8) ?_
    obtain ⟨o9, h⟩ := h
    refine wp_ior ((Int.toNat (M 88 28) ||| Int.toNat (1 * 2 ^ Int.toNat z6) : Nat) : Int) dX12_archesFrom_40 (bits_or o9 (p2_nn _)) ?_
    refine wp_putf (x := ((Int.toNat (M 88 28) ||| Int.toNat (1 * 2 ^ Int.toNat z6) : Nat) : Int)) dX12_archesFrom_41 (fl_X12_227 rfl) kd_88 (fun _ => rfl) rfl rfl trivial ?_
    refine wp_aload_n dX12_archesFrom_44 rfl (by decide) ?_
    refine wp_getf (t := Iv ((Int.toNat (M 88 28) ||| Int.toNat (1 * 2 ^ Int.toNat z6) : Nat) : Int)) ((Int.toNat (M 88 28) ||| Int.toNat (1 * 2 ^ Int.toNat z6) : Nat) : Int) dX12_archesFrom_45 (fl_X12_227 rfl) kd_88 rfl rfl ?_
    refine wp_iconst dX12_archesFrom_48 ?_
    refine wp_aload_n dX12_archesFrom_49 rfl (by decide) ?_
    refine wp_getf (t := Iv (M6 88 11)) (M6 88 11) dX12_archesFrom_50 (fl_X12_110 rfl) kd_88 rfl rfl ?_
    obtain ⟨o10, h⟩ := h
    obtain ⟨o11, h⟩ := h
    refine wp_ishl (1 * 2 ^ Int.toNat (M6 88 11)) dX12_archesFrom_53 (bits_shl o10 o11) ?_
    refine wp_iconst dX12_archesFrom_54 ?_
    refine wp_isub dX12_archesFrom_55 ?_
    obtain ⟨o12, h⟩ := h
    refine wp_icmp_ne (tgt := 75) dX12_archesFrom_56 (by decide) o12 (fun q13 => ?_) (fun q13 => ?_)
    · have h := h.1 q13
      refine wp_iinc (L2 := [some (Rv 88), some (Iv x1), some (Iv x2), some (Iv x3), some (Iv (x4 + 1))]) dX12_archesFrom_75 rfl (Nat.le_of_ble_eq_true rfl) (Nat.le_of_ble_eq_true rfl) rfl ?_
      refine wp_goto (tgt := 15) dX12_archesFrom_78 (by decide) ?_
      exact h
    · have h := h.2 q13
      refine wp_iinc (L2 := [some (Rv 88), some (Iv x1), some (Iv x2), some (Iv (x3 + 1)), some (Iv x4)]) dX12_archesFrom_59 rfl (Nat.le_of_ble_eq_true rfl) (Nat.le_of_ble_eq_true rfl) rfl ?_
      refine wp_aload_n dX12_archesFrom_62 rfl (by decide) ?_
      refine wp_iload dX12_archesFrom_63 rfl ?_
      refine wp_iconst dX12_archesFrom_65 ?_
      refine wp_iadd dX12_archesFrom_66 ?_
      refine wp_putf (x := (x4 + 1)) dX12_archesFrom_67 (fl_X12_224 rfl) kd_88 (fun _ => rfl) rfl rfl trivial ?_
      refine wp_aload_n dX12_archesFrom_70 rfl (by decide) ?_
      refine wp_iconst dX12_archesFrom_71 ?_
      refine wp_putf (x := 0) dX12_archesFrom_72 (fl_X12_227 rfl) kd_88 (fun _ => rfl) rfl rfl trivial ?_
      refine wp_iinc (L2 := [some (Rv 88), some (Iv x1), some (Iv x2), some (Iv (x3 + 1)), some (Iv (x4 + 1))]) dX12_archesFrom_75 rfl (Nat.le_of_ble_eq_true rfl) (Nat.le_of_ble_eq_true rfl) rfl ?_
      refine wp_goto (tgt := 15) dX12_archesFrom_78 (by decide) ?_
      exact h
theorem gX12_arches {x1 : Int}  {M : Mem} {Q : Vl → Mem → Prop} (h : cl 0 yX12_needWord [Rv 88, Iv 1, Iv x1] M (QI (fun z1 M1 => (inr z1 ∧ ((0 ≤ z1 → cl 0 yX12_archesFrom [Rv 88, Iv x1, Iv 0] M1 (QI (fun z4 M4 => (0 ≤ x1 ∧ (x1 < 8 ∧ (cl 0 yX12_tells [Rv 88, Iv ((M4 95 x1) - (M4 88 27)), Iv z4] M4 (QI (fun z7 M7 => (Q (Iv z7) M7))))))))) ∧ (z1 < 0 → Q (Iv z1) M1)))))) : wp 0 yX12_arches 0 [some (Rv 88), some (Iv x1), none, none] [] M Q := by
  refine wp_aload_n dX12_arches_0 rfl (by decide) ?_
  refine wp_iconst dX12_arches_1 ?_
  refine wp_iload_n dX12_arches_2 rfl ?_
  refine wp_callV (e1 := 0) (as := [Iv 1, Iv x1]) (S := []) dX12_arches_3 (cs_X12_192 rfl) kd_88 rfl rfl (Nat.le_of_ble_eq_true rfl) (Nat.le_of_ble_eq_true rfl) h (fun v1 M1 q1 r1 => ?_)
  obtain ⟨z1, rfl⟩ := retV_i r1 rfl
  have h := q1
  refine wp_istore_n (L2 := [some (Rv 88), some (Iv x1), some (Iv z1), none]) dX12_arches_6 (Nat.le_of_ble_eq_true rfl) (Nat.le_of_ble_eq_true rfl) rfl ?_
  refine wp_iload_n dX12_arches_7 rfl ?_
  obtain ⟨o2, h⟩ := h
  refine wp_if_ge (tgt := 13) dX12_arches_8 (by decide) o2 (fun q3 => ?_) (fun q3 => ?_)
  · have h := h.1 q3
    refine wp_aload_n dX12_arches_13 rfl (by decide) ?_
    refine wp_iload_n dX12_arches_14 rfl ?_
    refine wp_iconst dX12_arches_15 ?_
    refine wp_callV (e1 := 0) (as := [Iv x1, Iv 0]) (S := []) dX12_arches_16 (cs_X12_230 rfl) kd_88 rfl rfl (Nat.le_of_ble_eq_true rfl) (Nat.le_of_ble_eq_true rfl) h (fun v4 M4 q4 r4 => ?_)
    obtain ⟨z4, rfl⟩ := retV_i r4 rfl
    have h := q4
    refine wp_istore_n (L2 := [some (Rv 88), some (Iv x1), some (Iv z1), some (Iv z4)]) dX12_arches_19 (Nat.le_of_ble_eq_true rfl) (Nat.le_of_ble_eq_true rfl) rfl ?_
    refine wp_aload_n dX12_arches_20 rfl (by decide) ?_
    refine wp_aload_n dX12_arches_21 rfl (by decide) ?_
    refine wp_getf (t := Rv 95) 95 dX12_arches_22 (fl_X12_29 rfl) kd_88 rfl rfl ?_
    refine wp_iload_n dX12_arches_25 rfl ?_
    obtain ⟨o5, h⟩ := h
    obtain ⟨o6, h⟩ := h
    refine wp_iald (M4 95 x1) dX12_arches_26 kd_95 sz_95 o5 o6 (⟨by omega, by omega⟩) rfl ?_
    refine wp_aload_n dX12_arches_27 rfl (by decide) ?_
    refine wp_getf (t := Iv (M4 88 27)) (M4 88 27) dX12_arches_28 (fl_X12_224 rfl) kd_88 rfl rfl ?_
    refine wp_isub dX12_arches_31 ?_
    refine wp_iload_n dX12_arches_32 rfl ?_
    refine wp_callV (e1 := 0) (as := [Iv ((M4 95 x1) - (M4 88 27)), Iv z4]) (S := []) dX12_arches_33 (cs_X12_142 rfl) kd_88 rfl rfl (Nat.le_of_ble_eq_true rfl) (Nat.le_of_ble_eq_true rfl) h (fun v7 M7 q7 r7 => ?_)
    obtain ⟨z7, rfl⟩ := retV_i r7 rfl
    have h := q7
    exact wp_iret dX12_arches_36 rfl (Or.inr ⟨rfl, rfl, rfl, by decide⟩) rfl h
  · have h := h.2 q3
    refine wp_iload_n dX12_arches_11 rfl ?_
    exact wp_iret dX12_arches_12 rfl (Or.inr ⟨rfl, rfl, rfl, by decide⟩) rfl h
theorem eX12_arches {x1 : Int}  {M : Mem} {Q : Vl → Mem → Prop} (h : cl 0 yX12_needWord [Rv 88, Iv 1, Iv x1] M (QI (fun z1 M1 => (inr z1 ∧ ((0 ≤ z1 → cl 0 yX12_archesFrom [Rv 88, Iv x1, Iv 0] M1 (QI (fun z4 M4 => (0 ≤ x1 ∧ (x1 < 8 ∧ (cl 0 yX12_tells [Rv 88, Iv ((M4 95 x1) - (M4 88 27)), Iv z4] M4 (QI (fun z7 M7 => (Q (Iv z7) M7))))))))) ∧ (z1 < 0 → Q (Iv z1) M1)))))) : cl 0 yX12_arches [Rv 88, Iv x1] M Q := enterG (by decide +kernel) (by exact Or.inr (Or.inl rfl)) (Nat.le_of_ble_eq_true rfl) rfl (gX12_arches h)
theorem gX12_powerOf {x0 x2 : Int}  {M : Mem} {Q : Vl → Mem → Prop} (h : wp 0 yX12_powerOf 5 [some (Jv x0), none, some (Iv x2), some (Jv 1), none, some (Iv 0)] [] M Q) : wp 0 yX12_powerOf 0 [some (Jv x0), none, some (Iv x2), none, none, none] [] M Q := by
  refine wp_lconst1 dX12_powerOf_0 ?_
  refine wp_lstore_n (L2 := [some (Jv x0), none, some (Iv x2), some (Jv 1), none, none]) dX12_powerOf_1 (Nat.le_of_ble_eq_true rfl) (Nat.le_of_ble_eq_true rfl) rfl ?_
  refine wp_iconst dX12_powerOf_2 ?_
  refine wp_istore (L2 := [some (Jv x0), none, some (Iv x2), some (Jv 1), none, some (Iv 0)]) dX12_powerOf_3 (Nat.le_of_ble_eq_true rfl) (Nat.le_of_ble_eq_true rfl) rfl ?_
  exact h
theorem eX12_powerOf {x0 x2 : Int}  {M : Mem} {Q : Vl → Mem → Prop} (h : wp 0 yX12_powerOf 5 [some (Jv x0), none, some (Iv x2), some (Jv 1), none, some (Iv 0)] [] M Q) : cl 0 yX12_powerOf [Jv x0, Iv x2] M Q := enterG (by decide +kernel) (by exact Or.inr (Or.inr (Or.inr (Or.inl rfl)))) (Nat.le_of_ble_eq_true rfl) rfl (gX12_powerOf h)
theorem gX12_powerOf_5 {x0 x2 x3 x5 : Int}  {M : Mem} {Q : Vl → Mem → Prop} (h : inr x5 ∧ (inr x2 ∧ ((x2 ≤ x5 → Q (Jv x3) M) ∧ (x5 < x2 → wp 0 yX12_powerOf 5 [some (Jv x0), none, some (Iv x2), some (Jv (x3 * x0)), none, some (Iv (x5 + 1))] [] M Q)))) : wp 0 yX12_powerOf 5 [some (Jv x0), none, some (Iv x2), some (Jv x3), none, some (Iv x5)] [] M Q := by
  refine wp_iload dX12_powerOf_5 rfl ?_
  refine wp_iload_n dX12_powerOf_7 rfl ?_
  obtain ⟨o1, h⟩ := h
  obtain ⟨o2, h⟩ := h
  refine wp_icmp_ge (tgt := 21) dX12_powerOf_8 (by decide) o1 o2 (fun q3 => ?_) (fun q3 => ?_)
  · have h := h.1 q3
    refine wp_lload_n dX12_powerOf_21 rfl ?_
    exact wp_lret dX12_powerOf_22 rfl (Or.inr ⟨rfl, rfl, rfl, by decide⟩) rfl h
  · have h := h.2 q3
    refine wp_lload_n dX12_powerOf_11 rfl ?_
    refine wp_lload_n dX12_powerOf_12 rfl ?_
    refine wp_lmul dX12_powerOf_13 ?_
    refine wp_lstore_n (L2 := [some (Jv x0), none, some (Iv x2), some (Jv (x3 * x0)), none, some (Iv x5)]) dX12_powerOf_14 (Nat.le_of_ble_eq_true rfl) (Nat.le_of_ble_eq_true rfl) rfl ?_
    refine wp_iinc (L2 := [some (Jv x0), none, some (Iv x2), some (Jv (x3 * x0)), none, some (Iv (x5 + 1))]) dX12_powerOf_15 rfl (Nat.le_of_ble_eq_true rfl) (Nat.le_of_ble_eq_true rfl) rfl ?_
    refine wp_goto (tgt := 5) dX12_powerOf_18 (by decide) ?_
    exact h
theorem gX12_hasAll {x1 x2 x3 : Int}  {M : Mem} {Q : Vl → Mem → Prop} (h : inr x2 ∧ ((x2 = (-9) → Q (Iv 0) M) ∧ (x2 ≠ (-9) → cl 0 yX12_archesFrom [Rv 88, Iv x1, Iv (x2 + 1)] M (QI (fun z3 M3 => (inr z3 ∧ (inr x3 ∧ ((z3 < x3 → Q (Iv 0) M3) ∧ (x3 ≤ z3 → Q (Iv 1) M3))))))))) : wp 0 yX12_hasAll 0 [some (Rv 88), some (Iv x1), some (Iv x2), some (Iv x3)] [] M Q := by
  refine wp_iload_n dX12_hasAll_0 rfl ?_
  refine wp_bipush dX12_hasAll_1 (by decide) ?_
  obtain ⟨o1, h⟩ := h
  refine wp_icmp_eq (tgt := 22) dX12_hasAll_3 (by decide) (Or.inr ⟨o1, (by decide)⟩) (fun q2 => ?_) (fun q2 => ?_)
  · have h := h.1 q2
    refine wp_iconst dX12_hasAll_22 ?_
    exact wp_zret dX12_hasAll_23 rfl (Or.inr ⟨rfl, rfl, rfl, by decide⟩) rfl (by decide) h
  · have h := h.2 q2
    refine wp_aload_n dX12_hasAll_6 rfl (by decide) ?_
    refine wp_iload_n dX12_hasAll_7 rfl ?_
    refine wp_iload_n dX12_hasAll_8 rfl ?_
    refine wp_iconst dX12_hasAll_9 ?_
    refine wp_iadd dX12_hasAll_10 ?_
    refine wp_callV (e1 := 0) (as := [Iv x1, Iv (x2 + 1)]) (S := []) dX12_hasAll_11 (cs_X12_230 rfl) kd_88 rfl rfl (Nat.le_of_ble_eq_true rfl) (Nat.le_of_ble_eq_true rfl) h (fun v3 M3 q3 r3 => ?_)
    obtain ⟨z3, rfl⟩ := retV_i r3 rfl
    have h := q3
    refine wp_iload_n dX12_hasAll_14 rfl ?_
    obtain ⟨o4, h⟩ := h
    obtain ⟨o5, h⟩ := h
    refine wp_icmp_lt (tgt := 22) dX12_hasAll_15 (by decide) o4 o5 (fun q6 => ?_) (fun q6 => ?_)
    · have h := h.1 q6
      refine wp_iconst dX12_hasAll_22 ?_
      exact wp_zret dX12_hasAll_23 rfl (Or.inr ⟨rfl, rfl, rfl, by decide⟩) rfl (by decide) h
    · have h := h.2 q6
      refine wp_iconst dX12_hasAll_18 ?_
      refine wp_goto (tgt := 23) dX12_hasAll_19 (by decide) ?_
      exact wp_zret dX12_hasAll_23 rfl (Or.inr ⟨rfl, rfl, rfl, by decide⟩) rfl (by decide) h
theorem eX12_hasAll {x1 x2 x3 : Int}  {M : Mem} {Q : Vl → Mem → Prop} (h : inr x2 ∧ ((x2 = (-9) → Q (Iv 0) M) ∧ (x2 ≠ (-9) → cl 0 yX12_archesFrom [Rv 88, Iv x1, Iv (x2 + 1)] M (QI (fun z3 M3 => (inr z3 ∧ (inr x3 ∧ ((z3 < x3 → Q (Iv 0) M3) ∧ (x3 ≤ z3 → Q (Iv 1) M3))))))))) : cl 0 yX12_hasAll [Rv 88, Iv x1, Iv x2, Iv x3] M Q := enterG (by decide +kernel) (by exact Or.inr (Or.inr (Or.inl rfl))) (Nat.le_of_ble_eq_true rfl) rfl (gX12_hasAll h)
theorem gX12_layAbsent {x1 x2 : Int}  {M : Mem} {Q : Vl → Mem → Prop} (h : wp 0 yX12_layAbsent 10 [some (Rv 88), some (Iv x1), some (Iv x2), some (Iv 0), some (Iv 0), none, none] [] (up M 88 17 0) Q) : wp 0 yX12_layAbsent 0 [some (Rv 88), some (Iv x1), some (Iv x2), none, none, none, none] [] M Q := by
  refine wp_iconst dX12_layAbsent_0 ?_
  refine wp_istore_n (L2 := [some (Rv 88), some (Iv x1), some (Iv x2), some (Iv 0), none, none, none]) dX12_layAbsent_1 (Nat.le_of_ble_eq_true rfl) (Nat.le_of_ble_eq_true rfl) rfl ?_
  refine wp_iconst dX12_layAbsent_2 ?_
  refine wp_istore (L2 := [some (Rv 88), some (Iv x1), some (Iv x2), some (Iv 0), some (Iv 0), none, none]) dX12_layAbsent_3 (Nat.le_of_ble_eq_true rfl) (Nat.le_of_ble_eq_true rfl) rfl ?_
  refine wp_aload_n dX12_layAbsent_5 rfl (by decide) ?_
  refine wp_iconst dX12_layAbsent_6 ?_
  refine wp_putf (x := 0) dX12_layAbsent_7 (fl_X12_151 rfl) kd_88 (fun _ => rfl) rfl rfl trivial ?_
  exact h
theorem eX12_layAbsent {x1 x2 : Int}  {M : Mem} {Q : Vl → Mem → Prop} (h : wp 0 yX12_layAbsent 10 [some (Rv 88), some (Iv x1), some (Iv x2), some (Iv 0), some (Iv 0), none, none] [] (up M 88 17 0) Q) : cl 0 yX12_layAbsent [Rv 88, Iv x1, Iv x2] M Q := enterG (by decide +kernel) (by exact Or.inl rfl) (Nat.le_of_ble_eq_true rfl) rfl (gX12_layAbsent h)
theorem gX12_layAbsent_10 {x1 x2 x3 x4 : Int}  {M : Mem} {Q : Vl → Mem → Prop} (h : inr (M 88 17) ∧ (inr x2 ∧ ((x2 ≤ (M 88 17) → Q (Iv 0) M) ∧ ((M 88 17) < x2 → wp 0 yX12_layAbsent 21 [some (Rv 88), some (Iv x1), some (Iv x2), some (Iv x3), some (Iv x4), some (Iv 0), none] [] M Q)))) : wp 0 yX12_layAbsent 10 [some (Rv 88), some (Iv x1), some (Iv x2), some (Iv x3), some (Iv x4), none, none] [] M Q := by
  refine wp_aload_n dX12_layAbsent_10 rfl (by decide) ?_
  refine wp_getf (t := Iv (M 88 17)) (M 88 17) dX12_layAbsent_11 (fl_X12_151 rfl) kd_88 rfl rfl ?_
  refine wp_iload_n dX12_layAbsent_14 rfl ?_
  obtain ⟨o1, h⟩ := h
  obtain ⟨o2, h⟩ := h
  refine wp_icmp_ge (tgt := 137) dX12_layAbsent_15 (by decide) o1 o2 (fun q3 => ?_) (fun q3 => ?_)
  · have h := h.1 q3
    exact wp_vret dX12_layAbsent_137 rfl (Or.inr ⟨rfl, rfl, rfl, by decide⟩) rfl h
  · have h := h.2 q3
    refine wp_iconst dX12_layAbsent_18 ?_
    refine wp_istore (L2 := [some (Rv 88), some (Iv x1), some (Iv x2), some (Iv x3), some (Iv x4), some (Iv 0), none]) dX12_layAbsent_19 (Nat.le_of_ble_eq_true rfl) (Nat.le_of_ble_eq_true rfl) rfl ?_
    exact h
theorem gX12_layAbsent_21 {x1 x2 x3 x4 x5 : Int}  {M : Mem} {Q : Vl → Mem → Prop} (h : inr x4 ∧ ((x4 ≠ 0 → ((x4 = 0 → cl 0 yX12_next [Rv 88, Iv x1, Iv x3, Iv x5] M (QI (fun z4 M4 => (inr z4 ∧ ((z4 ≠ (-9) → inr (M4 88 17) ∧ ((40 ≤ (M4 88 17) → wp 0 yX12_layAbsent 10 [some (Rv 88), some (Iv x1), some (Iv x2), some (Iv (z4 + 1)), some (Iv 0), none, none] [] (up M4 88 17 ((M4 88 17) + 1)) Q) ∧ ((M4 88 17) < 40 → 0 ≤ M4 88 17 ∧ (M4 88 17 < 40 ∧ (wp 0 yX12_layAbsent 10 [some (Rv 88), some (Iv x1), some (Iv x2), some (Iv (z4 + 1)), some (Iv 0), none, none] [] (up (up M4 100 (M4 88 17) x5) 88 17 ((M4 88 17) + 1)) Q))))) ∧ (z4 = (-9) → inr (M4 88 17) ∧ ((40 ≤ (M4 88 17) → wp 0 yX12_layAbsent 10 [some (Rv 88), some (Iv x1), some (Iv x2), some (Iv x3), some (Iv 1), none, none] [] (up M4 88 17 ((M4 88 17) + 1)) Q) ∧ ((M4 88 17) < 40 → 0 ≤ M4 88 17 ∧ (M4 88 17 < 40 ∧ (wp 0 yX12_layAbsent 10 [some (Rv 88), some (Iv x1), some (Iv x2), some (Iv x3), some (Iv 1), none, none] [] (up (up M4 100 (M4 88 17) x5) 88 17 ((M4 88 17) + 1)) Q)))))))))) ∧ (x4 ≠ 0 → inr (M 88 17) ∧ ((40 ≤ (M 88 17) → wp 0 yX12_layAbsent 10 [some (Rv 88), some (Iv x1), some (Iv x2), some (Iv x3), some (Iv 1), none, none] [] (up M 88 17 ((M 88 17) + 1)) Q) ∧ ((M 88 17) < 40 → 0 ≤ M 88 17 ∧ (M 88 17 < 40 ∧ (wp 0 yX12_layAbsent 10 [some (Rv 88), some (Iv x1), some (Iv x2), some (Iv x3), some (Iv 1), none, none] [] (up (up M 100 (M 88 17) x5) 88 17 ((M 88 17) + 1)) Q))))))) ∧ (x4 = 0 → cl 0 yX12_next [Rv 88, Iv x1, Iv x3, Iv x5] M (QI (fun z23 M23 => (cl 0 yX12_hasAll [Rv 88, Iv x1, Iv z23, Iv ((x2 - 1) - (M23 88 17))] M23 (QI (fun z24 M24 => ((z24 = 0 → ((x4 = 0 → cl 0 yX12_next [Rv 88, Iv x1, Iv x3, Iv x5] M24 (QI (fun z27 M27 => (inr z27 ∧ ((z27 ≠ (-9) → inr (M27 88 17) ∧ ((40 ≤ (M27 88 17) → wp 0 yX12_layAbsent 10 [some (Rv 88), some (Iv x1), some (Iv x2), some (Iv (z27 + 1)), some (Iv 0), none, none] [] (up M27 88 17 ((M27 88 17) + 1)) Q) ∧ ((M27 88 17) < 40 → 0 ≤ M27 88 17 ∧ (M27 88 17 < 40 ∧ (wp 0 yX12_layAbsent 10 [some (Rv 88), some (Iv x1), some (Iv x2), some (Iv (z27 + 1)), some (Iv 0), none, none] [] (up (up M27 100 (M27 88 17) x5) 88 17 ((M27 88 17) + 1)) Q))))) ∧ (z27 = (-9) → inr (M27 88 17) ∧ ((40 ≤ (M27 88 17) → wp 0 yX12_layAbsent 10 [some (Rv 88), some (Iv x1), some (Iv x2), some (Iv x3), some (Iv 1), none, none] [] (up M27 88 17 ((M27 88 17) + 1)) Q) ∧ ((M27 88 17) < 40 → 0 ≤ M27 88 17 ∧ (M27 88 17 < 40 ∧ (wp 0 yX12_layAbsent 10 [some (Rv 88), some (Iv x1), some (Iv x2), some (Iv x3), some (Iv 1), none, none] [] (up (up M27 100 (M27 88 17) x5) 88 17 ((M27 88 17) + 1)) Q)))))))))) ∧ (x4 ≠ 0 → inr (M24 88 17) ∧ ((40 ≤ (M24 88 17) → wp 0 yX12_layAbsent 10 [some (Rv 88), some (Iv x1), some (Iv x2), some (Iv x3), some (Iv 1), none, none] [] (up M24 88 17 ((M24 88 17) + 1)) Q) ∧ ((M24 88 17) < 40 → 0 ≤ M24 88 17 ∧ (M24 88 17 < 40 ∧ (wp 0 yX12_layAbsent 10 [some (Rv 88), some (Iv x1), some (Iv x2), some (Iv x3), some (Iv 1), none, none] [] (up (up M24 100 (M24 88 17) x5) 88 17 ((M24 88 17) + 1)) Q))))))) ∧ (z24 ≠ 0 → wp 0 yX12_layAbsent 21 [some (Rv 88), some (Iv x1), some (Iv x2), some (Iv x3), some (Iv x4), some (Iv (x5 + 1)), none] [] M24 Q)))))))))) : wp 0 yX12_layAbsent 21 [some (Rv 88), some (Iv x1), some (Iv x2), some (Iv x3), some (Iv x4), some (Iv x5), none] [] M Q := by
  refine wp_iload dX12_layAbsent_21 rfl ?_
  obtain ⟨o1, h⟩ := h
  refine wp_if_ne (tgt := 56) dX12_layAbsent_23 (by decide) o1 (fun q2 => ?_) (fun q2 => ?_)
  · have h := h.1 q2
    refine wp_iload dX12_layAbsent_56 rfl ?_
    refine wp_if_eq (tgt := 66) dX12_layAbsent_58 (by decide) o1 (fun q3 => ?_) (fun q3 => ?_)
    · have h := h.1 q3
      refine wp_aload_n dX12_layAbsent_66 rfl (by decide) ?_
      refine wp_iload_n dX12_layAbsent_67 rfl ?_
      refine wp_iload_n dX12_layAbsent_68 rfl ?_
      refine wp_iload dX12_layAbsent_69 rfl ?_
      refine wp_callV (e1 := 0) (as := [Iv x1, Iv x3, Iv x5]) (S := []) dX12_layAbsent_71 (cs_X12_206 rfl) kd_88 rfl rfl (Nat.le_of_ble_eq_true rfl) (Nat.le_of_ble_eq_true rfl) h (fun v4 M4 q4 r4 => ?_)
      obtain ⟨z4, rfl⟩ := retV_i r4 rfl
      have h := q4
      refine wp_istore (L2 := [some (Rv 88), some (Iv x1), some (Iv x2), some (Iv x3), some (Iv x4), some (Iv x5), some (Iv z4)]) dX12_layAbsent_74 (Nat.le_of_ble_eq_true rfl) (Nat.le_of_ble_eq_true rfl) rfl ?_
      refine wp_iload dX12_layAbsent_76 rfl ?_
      refine wp_bipush dX12_layAbsent_78 (by decide) ?_
      obtain ⟨o5, h⟩ := h
      refine wp_icmp_ne (tgt := 87) dX12_layAbsent_80 (by decide) (Or.inr ⟨o5, (by decide)⟩) (fun q6 => ?_) (fun q6 => ?_)
      · have h := h.1 q6
        refine wp_iconst dX12_layAbsent_87 ?_
        refine wp_istore (L2 := [some (Rv 88), some (Iv x1), some (Iv x2), some (Iv x3), some (Iv 0), some (Iv x5), some (Iv z4)]) dX12_layAbsent_88 (Nat.le_of_ble_eq_true rfl) (Nat.le_of_ble_eq_true rfl) rfl ?_
        refine wp_iload dX12_layAbsent_90 rfl ?_
        refine wp_if_eq (tgt := 99) dX12_layAbsent_92 (by decide) (by decide) (fun q7 => ?_) (fun q7 => ?_)
        · have _ := 0
          refine wp_iload dX12_layAbsent_99 rfl ?_
          refine wp_iconst dX12_layAbsent_101 ?_
          refine wp_iadd dX12_layAbsent_102 ?_
          refine wp_istore_n (L2 := [some (Rv 88), some (Iv x1), some (Iv x2), some (Iv (z4 + 1)), some (Iv 0), some (Iv x5), some (Iv z4)]) dX12_layAbsent_103 (Nat.le_of_ble_eq_true rfl) (Nat.le_of_ble_eq_true rfl) rfl ?_
          refine wp_aload_n dX12_layAbsent_104 rfl (by decide) ?_
          refine wp_getf (t := Iv (M4 88 17)) (M4 88 17) dX12_layAbsent_105 (fl_X12_151 rfl) kd_88 rfl rfl ?_
          refine wp_bipush dX12_layAbsent_108 (by decide) ?_
          obtain ⟨o8, h⟩ := h
          refine wp_icmp_ge (tgt := 124) dX12_layAbsent_110 (by decide) o8 (by decide) (fun q9 => ?_) (fun q9 => ?_)
          · have h := h.1 q9
            refine wp_aload_n dX12_layAbsent_124 rfl (by decide) ?_
            refine wp_dup dX12_layAbsent_125 rfl ?_
            refine wp_getf (t := Iv (M4 88 17)) (M4 88 17) dX12_layAbsent_126 (fl_X12_151 rfl) kd_88 rfl rfl ?_
            refine wp_iconst dX12_layAbsent_129 ?_
            refine wp_iadd dX12_layAbsent_130 ?_
            refine wp_putf (x := ((M4 88 17) + 1)) dX12_layAbsent_131 (fl_X12_151 rfl) kd_88 (fun _ => rfl) rfl rfl trivial ?_
            refine wp_goto (tgt := 10) dX12_layAbsent_134 (by decide) ?_
            exact wp_weak [true, true, true, true, true, false, false] rfl h
          · have h := h.2 q9
            refine wp_aload_n dX12_layAbsent_113 rfl (by decide) ?_
            refine wp_getf (t := Rv 100) 100 dX12_layAbsent_114 (fl_X12_44 rfl) kd_88 rfl rfl ?_
            refine wp_aload_n dX12_layAbsent_117 rfl (by decide) ?_
            refine wp_getf (t := Iv (M4 88 17)) (M4 88 17) dX12_layAbsent_118 (fl_X12_151 rfl) kd_88 rfl rfl ?_
            refine wp_iload dX12_layAbsent_121 rfl ?_
            obtain ⟨o10, h⟩ := h
            obtain ⟨o11, h⟩ := h
            refine wp_iast dX12_layAbsent_123 kd_100 sz_100 o10 o11 (⟨by omega, by omega⟩) ?_
            refine wp_aload_n dX12_layAbsent_124 rfl (by decide) ?_
            refine wp_dup dX12_layAbsent_125 rfl ?_
            refine wp_getf (t := Iv (M4 88 17)) (M4 88 17) dX12_layAbsent_126 (fl_X12_151 rfl) kd_88 rfl rfl ?_
            refine wp_iconst dX12_layAbsent_129 ?_
            refine wp_iadd dX12_layAbsent_130 ?_
            refine wp_putf (x := ((M4 88 17) + 1)) dX12_layAbsent_131 (fl_X12_151 rfl) kd_88 (fun _ => rfl) rfl rfl trivial ?_
            refine wp_goto (tgt := 10) dX12_layAbsent_134 (by decide) ?_
            exact wp_weak [true, true, true, true, true, false, false] rfl h
        · exact absurd q7 (by decide)
      · have h := h.2 q6
        refine wp_iconst dX12_layAbsent_83 ?_
        refine wp_goto (tgt := 88) dX12_layAbsent_84 (by decide) ?_
        refine wp_istore (L2 := [some (Rv 88), some (Iv x1), some (Iv x2), some (Iv x3), some (Iv 1), some (Iv x5), some (Iv z4)]) dX12_layAbsent_88 (Nat.le_of_ble_eq_true rfl) (Nat.le_of_ble_eq_true rfl) rfl ?_
        refine wp_iload dX12_layAbsent_90 rfl ?_
        refine wp_if_eq (tgt := 99) dX12_layAbsent_92 (by decide) (by decide) (fun q12 => ?_) (fun q12 => ?_)
        · exact absurd q12 (by decide)
        · have _ := 0
          refine wp_iload_n dX12_layAbsent_95 rfl ?_
          refine wp_goto (tgt := 103) dX12_layAbsent_96 (by decide) ?_
          refine wp_istore_n (L2 := [some (Rv 88), some (Iv x1), some (Iv x2), some (Iv x3), some (Iv 1), some (Iv x5), some (Iv z4)]) dX12_layAbsent_103 (Nat.le_of_ble_eq_true rfl) (Nat.le_of_ble_eq_true rfl) rfl ?_
          refine wp_aload_n dX12_layAbsent_104 rfl (by decide) ?_
          refine wp_getf (t := Iv (M4 88 17)) (M4 88 17) dX12_layAbsent_105 (fl_X12_151 rfl) kd_88 rfl rfl ?_
          refine wp_bipush dX12_layAbsent_108 (by decide) ?_
          obtain ⟨o13, h⟩ := h
          refine wp_icmp_ge (tgt := 124) dX12_layAbsent_110 (by decide) o13 (by decide) (fun q14 => ?_) (fun q14 => ?_)
          · have h := h.1 q14
            refine wp_aload_n dX12_layAbsent_124 rfl (by decide) ?_
            refine wp_dup dX12_layAbsent_125 rfl ?_
            refine wp_getf (t := Iv (M4 88 17)) (M4 88 17) dX12_layAbsent_126 (fl_X12_151 rfl) kd_88 rfl rfl ?_
            refine wp_iconst dX12_layAbsent_129 ?_
            refine wp_iadd dX12_layAbsent_130 ?_
            refine wp_putf (x := ((M4 88 17) + 1)) dX12_layAbsent_131 (fl_X12_151 rfl) kd_88 (fun _ => rfl) rfl rfl trivial ?_
            refine wp_goto (tgt := 10) dX12_layAbsent_134 (by decide) ?_
            exact wp_weak [true, true, true, true, true, false, false] rfl h
          · have h := h.2 q14
            refine wp_aload_n dX12_layAbsent_113 rfl (by decide) ?_
            refine wp_getf (t := Rv 100) 100 dX12_layAbsent_114 (fl_X12_44 rfl) kd_88 rfl rfl ?_
            refine wp_aload_n dX12_layAbsent_117 rfl (by decide) ?_
            refine wp_getf (t := Iv (M4 88 17)) (M4 88 17) dX12_layAbsent_118 (fl_X12_151 rfl) kd_88 rfl rfl ?_
            refine wp_iload dX12_layAbsent_121 rfl ?_
            obtain ⟨o15, h⟩ := h
            obtain ⟨o16, h⟩ := h
            refine wp_iast dX12_layAbsent_123 kd_100 sz_100 o15 o16 (⟨by omega, by omega⟩) ?_
            refine wp_aload_n dX12_layAbsent_124 rfl (by decide) ?_
            refine wp_dup dX12_layAbsent_125 rfl ?_
            refine wp_getf (t := Iv (M4 88 17)) (M4 88 17) dX12_layAbsent_126 (fl_X12_151 rfl) kd_88 rfl rfl ?_
            refine wp_iconst dX12_layAbsent_129 ?_
            refine wp_iadd dX12_layAbsent_130 ?_
            refine wp_putf (x := ((M4 88 17) + 1)) dX12_layAbsent_131 (fl_X12_151 rfl) kd_88 (fun _ => rfl) rfl rfl trivial ?_
            refine wp_goto (tgt := 10) dX12_layAbsent_134 (by decide) ?_
            exact wp_weak [true, true, true, true, true, false, false] rfl h
    · have h := h.2 q3
      refine wp_bipush dX12_layAbsent_61 (by decide) ?_
      refine wp_goto (tgt := 74) dX12_layAbsent_63 (by decide) ?_
      refine wp_istore (L2 := [some (Rv 88), some (Iv x1), some (Iv x2), some (Iv x3), some (Iv x4), some (Iv x5), some (Iv (-9))]) dX12_layAbsent_74 (Nat.le_of_ble_eq_true rfl) (Nat.le_of_ble_eq_true rfl) rfl ?_
      refine wp_iload dX12_layAbsent_76 rfl ?_
      refine wp_bipush dX12_layAbsent_78 (by decide) ?_
      refine wp_icmp_ne (tgt := 87) dX12_layAbsent_80 (by decide) (Or.inr ⟨(by decide), (by decide)⟩) (fun q17 => ?_) (fun q17 => ?_)
      · exact absurd q17 (by decide)
      · have _ := 0
        refine wp_iconst dX12_layAbsent_83 ?_
        refine wp_goto (tgt := 88) dX12_layAbsent_84 (by decide) ?_
        refine wp_istore (L2 := [some (Rv 88), some (Iv x1), some (Iv x2), some (Iv x3), some (Iv 1), some (Iv x5), some (Iv (-9))]) dX12_layAbsent_88 (Nat.le_of_ble_eq_true rfl) (Nat.le_of_ble_eq_true rfl) rfl ?_
        refine wp_iload dX12_layAbsent_90 rfl ?_
        refine wp_if_eq (tgt := 99) dX12_layAbsent_92 (by decide) (by decide) (fun q18 => ?_) (fun q18 => ?_)
        · exact absurd q18 (by decide)
        · have _ := 0
          refine wp_iload_n dX12_layAbsent_95 rfl ?_
          refine wp_goto (tgt := 103) dX12_layAbsent_96 (by decide) ?_
          refine wp_istore_n (L2 := [some (Rv 88), some (Iv x1), some (Iv x2), some (Iv x3), some (Iv 1), some (Iv x5), some (Iv (-9))]) dX12_layAbsent_103 (Nat.le_of_ble_eq_true rfl) (Nat.le_of_ble_eq_true rfl) rfl ?_
          refine wp_aload_n dX12_layAbsent_104 rfl (by decide) ?_
          refine wp_getf (t := Iv (M 88 17)) (M 88 17) dX12_layAbsent_105 (fl_X12_151 rfl) kd_88 rfl rfl ?_
          refine wp_bipush dX12_layAbsent_108 (by decide) ?_
          obtain ⟨o19, h⟩ := h
          refine wp_icmp_ge (tgt := 124) dX12_layAbsent_110 (by decide) o19 (by decide) (fun q20 => ?_) (fun q20 => ?_)
          · have h := h.1 q20
            refine wp_aload_n dX12_layAbsent_124 rfl (by decide) ?_
            refine wp_dup dX12_layAbsent_125 rfl ?_
            refine wp_getf (t := Iv (M 88 17)) (M 88 17) dX12_layAbsent_126 (fl_X12_151 rfl) kd_88 rfl rfl ?_
            refine wp_iconst dX12_layAbsent_129 ?_
            refine wp_iadd dX12_layAbsent_130 ?_
            refine wp_putf (x := ((M 88 17) + 1)) dX12_layAbsent_131 (fl_X12_151 rfl) kd_88 (fun _ => rfl) rfl rfl trivial ?_
            refine wp_goto (tgt := 10) dX12_layAbsent_134 (by decide) ?_
            exact wp_weak [true, true, true, true, true, false, false] rfl h
          · have h := h.2 q20
            refine wp_aload_n dX12_layAbsent_113 rfl (by decide) ?_
            refine wp_getf (t := Rv 100) 100 dX12_layAbsent_114 (fl_X12_44 rfl) kd_88 rfl rfl ?_
            refine wp_aload_n dX12_layAbsent_117 rfl (by decide) ?_
            refine wp_getf (t := Iv (M 88 17)) (M 88 17) dX12_layAbsent_118 (fl_X12_151 rfl) kd_88 rfl rfl ?_
            refine wp_iload dX12_layAbsent_121 rfl ?_
            obtain ⟨o21, h⟩ := h
            obtain ⟨o22, h⟩ := h
            refine wp_iast dX12_layAbsent_123 kd_100 sz_100 o21 o22 (⟨by omega, by omega⟩) ?_
            refine wp_aload_n dX12_layAbsent_124 rfl (by decide) ?_
            refine wp_dup dX12_layAbsent_125 rfl ?_
            refine wp_getf (t := Iv (M 88 17)) (M 88 17) dX12_layAbsent_126 (fl_X12_151 rfl) kd_88 rfl rfl ?_
            refine wp_iconst dX12_layAbsent_129 ?_
            refine wp_iadd dX12_layAbsent_130 ?_
            refine wp_putf (x := ((M 88 17) + 1)) dX12_layAbsent_131 (fl_X12_151 rfl) kd_88 (fun _ => rfl) rfl rfl trivial ?_
            refine wp_goto (tgt := 10) dX12_layAbsent_134 (by decide) ?_
            exact wp_weak [true, true, true, true, true, false, false] rfl h
  · have h := h.2 q2
    refine wp_aload_n dX12_layAbsent_26 rfl (by decide) ?_
    refine wp_iload_n dX12_layAbsent_27 rfl ?_
    refine wp_aload_n dX12_layAbsent_28 rfl (by decide) ?_
    refine wp_iload_n dX12_layAbsent_29 rfl ?_
    refine wp_iload_n dX12_layAbsent_30 rfl ?_
    refine wp_iload dX12_layAbsent_31 rfl ?_
    refine wp_callV (e1 := 0) (as := [Iv x1, Iv x3, Iv x5]) (S := [Iv x1, Rv 88]) dX12_layAbsent_33 (cs_X12_206 rfl) kd_88 rfl rfl (Nat.le_of_ble_eq_true rfl) (Nat.le_of_ble_eq_true rfl) h (fun v23 M23 q23 r23 => ?_)
    obtain ⟨z23, rfl⟩ := retV_i r23 rfl
    have h := q23
    refine wp_iload_n dX12_layAbsent_36 rfl ?_
    refine wp_iconst dX12_layAbsent_37 ?_
    refine wp_isub dX12_layAbsent_38 ?_
    refine wp_aload_n dX12_layAbsent_39 rfl (by decide) ?_
    refine wp_getf (t := Iv (M23 88 17)) (M23 88 17) dX12_layAbsent_40 (fl_X12_151 rfl) kd_88 rfl rfl ?_
    refine wp_isub dX12_layAbsent_43 ?_
    refine wp_callV (e1 := 0) (as := [Iv x1, Iv z23, Iv ((x2 - 1) - (M23 88 17))]) (S := []) dX12_layAbsent_44 (cs_X12_233 rfl) kd_88 rfl rfl (Nat.le_of_ble_eq_true rfl) (Nat.le_of_ble_eq_true rfl) h (fun v24 M24 q24 r24 => ?_)
    obtain ⟨z24, rfl, hz24⟩ := retV_z r24 rfl
    have h := q24
    refine wp_if_eq (tgt := 56) dX12_layAbsent_47 (by decide) (by have := hz24; omega) (fun q25 => ?_) (fun q25 => ?_)
    · have h := h.1 q25
      refine wp_iload dX12_layAbsent_56 rfl ?_
      refine wp_if_eq (tgt := 66) dX12_layAbsent_58 (by decide) o1 (fun q26 => ?_) (fun q26 => ?_)
      · have h := h.1 q26
        refine wp_aload_n dX12_layAbsent_66 rfl (by decide) ?_
        refine wp_iload_n dX12_layAbsent_67 rfl ?_
        refine wp_iload_n dX12_layAbsent_68 rfl ?_
        refine wp_iload dX12_layAbsent_69 rfl ?_
        refine wp_callV (e1 := 0) (as := [Iv x1, Iv x3, Iv x5]) (S := []) dX12_layAbsent_71 (cs_X12_206 rfl) kd_88 rfl rfl (Nat.le_of_ble_eq_true rfl) (Nat.le_of_ble_eq_true rfl) h (fun v27 M27 q27 r27 => ?_)
        obtain ⟨z27, rfl⟩ := retV_i r27 rfl
        have h := q27
        refine wp_istore (L2 := [some (Rv 88), some (Iv x1), some (Iv x2), some (Iv x3), some (Iv x4), some (Iv x5), some (Iv z27)]) dX12_layAbsent_74 (Nat.le_of_ble_eq_true rfl) (Nat.le_of_ble_eq_true rfl) rfl ?_
        refine wp_iload dX12_layAbsent_76 rfl ?_
        refine wp_bipush dX12_layAbsent_78 (by decide) ?_
        obtain ⟨o28, h⟩ := h
        refine wp_icmp_ne (tgt := 87) dX12_layAbsent_80 (by decide) (Or.inr ⟨o28, (by decide)⟩) (fun q29 => ?_) (fun q29 => ?_)
        · have h := h.1 q29
          refine wp_iconst dX12_layAbsent_87 ?_
          refine wp_istore (L2 := [some (Rv 88), some (Iv x1), some (Iv x2), some (Iv x3), some (Iv 0), some (Iv x5), some (Iv z27)]) dX12_layAbsent_88 (Nat.le_of_ble_eq_true rfl) (Nat.le_of_ble_eq_true rfl) rfl ?_
          refine wp_iload dX12_layAbsent_90 rfl ?_
          refine wp_if_eq (tgt := 99) dX12_layAbsent_92 (by decide) (by decide) (fun q30 => ?_) (fun q30 => ?_)
          · have _ := 0
            refine wp_iload dX12_layAbsent_99 rfl ?_
            refine wp_iconst dX12_layAbsent_101 ?_
            refine wp_iadd dX12_layAbsent_102 ?_
            refine wp_istore_n (L2 := [some (Rv 88), some (Iv x1), some (Iv x2), some (Iv (z27 + 1)), some (Iv 0), some (Iv x5), some (Iv z27)]) dX12_layAbsent_103 (Nat.le_of_ble_eq_true rfl) (Nat.le_of_ble_eq_true rfl) rfl ?_
            refine wp_aload_n dX12_layAbsent_104 rfl (by decide) ?_
            refine wp_getf (t := Iv (M27 88 17)) (M27 88 17) dX12_layAbsent_105 (fl_X12_151 rfl) kd_88 rfl rfl ?_
            refine wp_bipush dX12_layAbsent_108 (by decide) ?_
            obtain ⟨o31, h⟩ := h
            refine wp_icmp_ge (tgt := 124) dX12_layAbsent_110 (by decide) o31 (by decide) (fun q32 => ?_) (fun q32 => ?_)
            · have h := h.1 q32
              refine wp_aload_n dX12_layAbsent_124 rfl (by decide) ?_
              refine wp_dup dX12_layAbsent_125 rfl ?_
              refine wp_getf (t := Iv (M27 88 17)) (M27 88 17) dX12_layAbsent_126 (fl_X12_151 rfl) kd_88 rfl rfl ?_
              refine wp_iconst dX12_layAbsent_129 ?_
              refine wp_iadd dX12_layAbsent_130 ?_
              refine wp_putf (x := ((M27 88 17) + 1)) dX12_layAbsent_131 (fl_X12_151 rfl) kd_88 (fun _ => rfl) rfl rfl trivial ?_
              refine wp_goto (tgt := 10) dX12_layAbsent_134 (by decide) ?_
              exact wp_weak [true, true, true, true, true, false, false] rfl h
            · have h := h.2 q32
              refine wp_aload_n dX12_layAbsent_113 rfl (by decide) ?_
              refine wp_getf (t := Rv 100) 100 dX12_layAbsent_114 (fl_X12_44 rfl) kd_88 rfl rfl ?_
              refine wp_aload_n dX12_layAbsent_117 rfl (by decide) ?_
              refine wp_getf (t := Iv (M27 88 17)) (M27 88 17) dX12_layAbsent_118 (fl_X12_151 rfl) kd_88 rfl rfl ?_
              refine wp_iload dX12_layAbsent_121 rfl ?_
              obtain ⟨o33, h⟩ := h
              obtain ⟨o34, h⟩ := h
              refine wp_iast dX12_layAbsent_123 kd_100 sz_100 o33 o34 (⟨by omega, by omega⟩) ?_
              refine wp_aload_n dX12_layAbsent_124 rfl (by decide) ?_
              refine wp_dup dX12_layAbsent_125 rfl ?_
              refine wp_getf (t := Iv (M27 88 17)) (M27 88 17) dX12_layAbsent_126 (fl_X12_151 rfl) kd_88 rfl rfl ?_
              refine wp_iconst dX12_layAbsent_129 ?_
              refine wp_iadd dX12_layAbsent_130 ?_
              refine wp_putf (x := ((M27 88 17) + 1)) dX12_layAbsent_131 (fl_X12_151 rfl) kd_88 (fun _ => rfl) rfl rfl trivial ?_
              refine wp_goto (tgt := 10) dX12_layAbsent_134 (by decide) ?_
              exact wp_weak [true, true, true, true, true, false, false] rfl h
          · exact absurd q30 (by decide)
        · have h := h.2 q29
          refine wp_iconst dX12_layAbsent_83 ?_
          refine wp_goto (tgt := 88) dX12_layAbsent_84 (by decide) ?_
          refine wp_istore (L2 := [some (Rv 88), some (Iv x1), some (Iv x2), some (Iv x3), some (Iv 1), some (Iv x5), some (Iv z27)]) dX12_layAbsent_88 (Nat.le_of_ble_eq_true rfl) (Nat.le_of_ble_eq_true rfl) rfl ?_
          refine wp_iload dX12_layAbsent_90 rfl ?_
          refine wp_if_eq (tgt := 99) dX12_layAbsent_92 (by decide) (by decide) (fun q35 => ?_) (fun q35 => ?_)
          · exact absurd q35 (by decide)
          · have _ := 0
            refine wp_iload_n dX12_layAbsent_95 rfl ?_
            refine wp_goto (tgt := 103) dX12_layAbsent_96 (by decide) ?_
            refine wp_istore_n (L2 := [some (Rv 88), some (Iv x1), some (Iv x2), some (Iv x3), some (Iv 1), some (Iv x5), some (Iv z27)]) dX12_layAbsent_103 (Nat.le_of_ble_eq_true rfl) (Nat.le_of_ble_eq_true rfl) rfl ?_
            refine wp_aload_n dX12_layAbsent_104 rfl (by decide) ?_
            refine wp_getf (t := Iv (M27 88 17)) (M27 88 17) dX12_layAbsent_105 (fl_X12_151 rfl) kd_88 rfl rfl ?_
            refine wp_bipush dX12_layAbsent_108 (by decide) ?_
            obtain ⟨o36, h⟩ := h
            refine wp_icmp_ge (tgt := 124) dX12_layAbsent_110 (by decide) o36 (by decide) (fun q37 => ?_) (fun q37 => ?_)
            · have h := h.1 q37
              refine wp_aload_n dX12_layAbsent_124 rfl (by decide) ?_
              refine wp_dup dX12_layAbsent_125 rfl ?_
              refine wp_getf (t := Iv (M27 88 17)) (M27 88 17) dX12_layAbsent_126 (fl_X12_151 rfl) kd_88 rfl rfl ?_
              refine wp_iconst dX12_layAbsent_129 ?_
              refine wp_iadd dX12_layAbsent_130 ?_
              refine wp_putf (x := ((M27 88 17) + 1)) dX12_layAbsent_131 (fl_X12_151 rfl) kd_88 (fun _ => rfl) rfl rfl trivial ?_
              refine wp_goto (tgt := 10) dX12_layAbsent_134 (by decide) ?_
              exact wp_weak [true, true, true, true, true, false, false] rfl h
            · have h := h.2 q37
              refine wp_aload_n dX12_layAbsent_113 rfl (by decide) ?_
              refine wp_getf (t := Rv 100) 100 dX12_layAbsent_114 (fl_X12_44 rfl) kd_88 rfl rfl ?_
              refine wp_aload_n dX12_layAbsent_117 rfl (by decide) ?_
              refine wp_getf (t := Iv (M27 88 17)) (M27 88 17) dX12_layAbsent_118 (fl_X12_151 rfl) kd_88 rfl rfl ?_
              refine wp_iload dX12_layAbsent_121 rfl ?_
              obtain ⟨o38, h⟩ := h
              obtain ⟨o39, h⟩ := h
              refine wp_iast dX12_layAbsent_123 kd_100 sz_100 o38 o39 (⟨by omega, by omega⟩) ?_
              refine wp_aload_n dX12_layAbsent_124 rfl (by decide) ?_
              refine wp_dup dX12_layAbsent_125 rfl ?_
              refine wp_getf (t := Iv (M27 88 17)) (M27 88 17) dX12_layAbsent_126 (fl_X12_151 rfl) kd_88 rfl rfl ?_
              refine wp_iconst dX12_layAbsent_129 ?_
              refine wp_iadd dX12_layAbsent_130 ?_
              refine wp_putf (x := ((M27 88 17) + 1)) dX12_layAbsent_131 (fl_X12_151 rfl) kd_88 (fun _ => rfl) rfl rfl trivial ?_
              refine wp_goto (tgt := 10) dX12_layAbsent_134 (by decide) ?_
              exact wp_weak [true, true, true, true, true, false, false] rfl h
      · have h := h.2 q26
        refine wp_bipush dX12_layAbsent_61 (by decide) ?_
        refine wp_goto (tgt := 74) dX12_layAbsent_63 (by decide) ?_
        refine wp_istore (L2 := [some (Rv 88), some (Iv x1), some (Iv x2), some (Iv x3), some (Iv x4), some (Iv x5), some (Iv (-9))]) dX12_layAbsent_74 (Nat.le_of_ble_eq_true rfl) (Nat.le_of_ble_eq_true rfl) rfl ?_
        refine wp_iload dX12_layAbsent_76 rfl ?_
        refine wp_bipush dX12_layAbsent_78 (by decide) ?_
        refine wp_icmp_ne (tgt := 87) dX12_layAbsent_80 (by decide) (Or.inr ⟨(by decide), (by decide)⟩) (fun q40 => ?_) (fun q40 => ?_)
        · exact absurd q40 (by decide)
        · have _ := 0
          refine wp_iconst dX12_layAbsent_83 ?_
          refine wp_goto (tgt := 88) dX12_layAbsent_84 (by decide) ?_
          refine wp_istore (L2 := [some (Rv 88), some (Iv x1), some (Iv x2), some (Iv x3), some (Iv 1), some (Iv x5), some (Iv (-9))]) dX12_layAbsent_88 (Nat.le_of_ble_eq_true rfl) (Nat.le_of_ble_eq_true rfl) rfl ?_
          refine wp_iload dX12_layAbsent_90 rfl ?_
          refine wp_if_eq (tgt := 99) dX12_layAbsent_92 (by decide) (by decide) (fun q41 => ?_) (fun q41 => ?_)
          · exact absurd q41 (by decide)
          · have _ := 0
            refine wp_iload_n dX12_layAbsent_95 rfl ?_
            refine wp_goto (tgt := 103) dX12_layAbsent_96 (by decide) ?_
            refine wp_istore_n (L2 := [some (Rv 88), some (Iv x1), some (Iv x2), some (Iv x3), some (Iv 1), some (Iv x5), some (Iv (-9))]) dX12_layAbsent_103 (Nat.le_of_ble_eq_true rfl) (Nat.le_of_ble_eq_true rfl) rfl ?_
            refine wp_aload_n dX12_layAbsent_104 rfl (by decide) ?_
            refine wp_getf (t := Iv (M24 88 17)) (M24 88 17) dX12_layAbsent_105 (fl_X12_151 rfl) kd_88 rfl rfl ?_
            refine wp_bipush dX12_layAbsent_108 (by decide) ?_
            obtain ⟨o42, h⟩ := h
            refine wp_icmp_ge (tgt := 124) dX12_layAbsent_110 (by decide) o42 (by decide) (fun q43 => ?_) (fun q43 => ?_)
            · have h := h.1 q43
              refine wp_aload_n dX12_layAbsent_124 rfl (by decide) ?_
              refine wp_dup dX12_layAbsent_125 rfl ?_
              refine wp_getf (t := Iv (M24 88 17)) (M24 88 17) dX12_layAbsent_126 (fl_X12_151 rfl) kd_88 rfl rfl ?_
              refine wp_iconst dX12_layAbsent_129 ?_
              refine wp_iadd dX12_layAbsent_130 ?_
              refine wp_putf (x := ((M24 88 17) + 1)) dX12_layAbsent_131 (fl_X12_151 rfl) kd_88 (fun _ => rfl) rfl rfl trivial ?_
              refine wp_goto (tgt := 10) dX12_layAbsent_134 (by decide) ?_
              exact wp_weak [true, true, true, true, true, false, false] rfl h
            · have h := h.2 q43
              refine wp_aload_n dX12_layAbsent_113 rfl (by decide) ?_
              refine wp_getf (t := Rv 100) 100 dX12_layAbsent_114 (fl_X12_44 rfl) kd_88 rfl rfl ?_
              refine wp_aload_n dX12_layAbsent_117 rfl (by decide) ?_
              refine wp_getf (t := Iv (M24 88 17)) (M24 88 17) dX12_layAbsent_118 (fl_X12_151 rfl) kd_88 rfl rfl ?_
              refine wp_iload dX12_layAbsent_121 rfl ?_
              obtain ⟨o44, h⟩ := h
              obtain ⟨o45, h⟩ := h
              refine wp_iast dX12_layAbsent_123 kd_100 sz_100 o44 o45 (⟨by omega, by omega⟩) ?_
              refine wp_aload_n dX12_layAbsent_124 rfl (by decide) ?_
              refine wp_dup dX12_layAbsent_125 rfl ?_
              refine wp_getf (t := Iv (M24 88 17)) (M24 88 17) dX12_layAbsent_126 (fl_X12_151 rfl) kd_88 rfl rfl ?_
              refine wp_iconst dX12_layAbsent_129 ?_
              refine wp_iadd dX12_layAbsent_130 ?_
              refine wp_putf (x := ((M24 88 17) + 1)) dX12_layAbsent_131 (fl_X12_151 rfl) kd_88 (fun _ => rfl) rfl rfl trivial ?_
              refine wp_goto (tgt := 10) dX12_layAbsent_134 (by decide) ?_
              exact wp_weak [true, true, true, true, true, false, false] rfl h
    · have h := h.2 q25
      refine wp_iinc (L2 := [some (Rv 88), some (Iv x1), some (Iv x2), some (Iv x3), some (Iv x4), some (Iv (x5 + 1)), none]) dX12_layAbsent_50 rfl (Nat.le_of_ble_eq_true rfl) (Nat.le_of_ble_eq_true rfl) rfl ?_
      refine wp_goto (tgt := 21) dX12_layAbsent_53 (by decide) ?_
      exact h
theorem gX12_absent {x1 x2 : Int}  {M : Mem} {Q : Vl → Mem → Prop} (h : cl 0 yX12_isRow [Iv x2] M (QI (fun z1 M1 => (cl 0 yX12_needWord [Rv 88, Iv z1, Iv x1] M1 (QI (fun z2 M2 => (inr z2 ∧ ((0 ≤ z2 → cl 0 yX12_archesFrom [Rv 88, Iv x1, Iv 0] M2 (QI (fun z5 M5 => (cl 0 yX12_layInner [Rv 88, Iv x1] M5 (QV (fun M6 => (inr (z5 + 1) ∧ (((z5 + 1) ≤ 40 → 0 ≤ z5 + 1 ∧ (z5 + 1 < 1681 ∧ (cl 0 yX12_layAbsent [Rv 88, Iv x1, Iv (z5 + 1)] M6 (QV (fun M11 => (((z5 + 1) ≤ 40 → cl 0 yX12_comesToRow [Rv 88, Iv x2] (up M11 88 17 (z5 + 1)) (QV (fun M13 => (inr (M13 88 11) ∧ (cl 0 yX12_powerOf [Jv (M13 88 11), Iv (z5 + 1)] M13 (QJ (fun z15 M15 => (cl 0 yX12_tellsMany [Rv 88, Jv (z15 - (M6 107 (z5 + 1))), Iv (z5 + 1)] M15 (QI (fun z16 M16 => (Q (Iv z16) M16))))))))))) ∧ (40 < (z5 + 1) → cl 0 yX12_comesToRow [Rv 88, Iv x2] (up M11 88 17 40) (QV (fun M17 => (inr (M17 88 11) ∧ (cl 0 yX12_powerOf [Jv (M17 88 11), Iv (z5 + 1)] M17 (QJ (fun z19 M19 => (cl 0 yX12_tellsMany [Rv 88, Jv (z19 - (M6 107 (z5 + 1))), Iv (z5 + 1)] M19 (QI (fun z20 M20 => (Q (Iv z20) M20))))))))))))))))) ∧ (40 < (z5 + 1) → cl 0 yX12_layAbsent [Rv 88, Iv x1, Iv (z5 + 1)] M6 (QV (fun M21 => (((z5 + 1) ≤ 40 → cl 0 yX12_comesToRow [Rv 88, Iv x2] (up M21 88 17 (z5 + 1)) (QV (fun M23 => (inr (M23 88 11) ∧ (cl 0 yX12_powerOf [Jv (M23 88 11), Iv (z5 + 1)] M23 (QJ (fun z25 M25 => (cl 0 yX12_tellsMany [Rv 88, Jv (z25 - 0), Iv (z5 + 1)] M25 (QI (fun z26 M26 => (Q (Iv z26) M26))))))))))) ∧ (40 < (z5 + 1) → cl 0 yX12_comesToRow [Rv 88, Iv x2] (up M21 88 17 40) (QV (fun M27 => (inr (M27 88 11) ∧ (cl 0 yX12_powerOf [Jv (M27 88 11), Iv (z5 + 1)] M27 (QJ (fun z29 M29 => (cl 0 yX12_tellsMany [Rv 88, Jv (z29 - 0), Iv (z5 + 1)] M29 (QI (fun z30 M30 => (Q (Iv z30) M30))))))))))))))))))))))) ∧ (z2 < 0 → Q (Iv z2) M2))))))))) : wp 0 yX12_absent 0 [some (Rv 88), some (Iv x1), some (Iv x2), none, none, none, none] [] M Q := by
  refine wp_aload_n dX12_absent_0 rfl (by decide) ?_
  refine wp_iload_n dX12_absent_1 rfl ?_
  refine wp_callS (e1 := 0) (as := [Iv x2]) (S := [Rv 88]) dX12_absent_2 (cs_X12_130 rfl) rfl rfl (Nat.le_of_ble_eq_true rfl) (Nat.le_of_ble_eq_true rfl) h (fun v1 M1 q1 r1 => ?_)
  obtain ⟨z1, rfl, hz1⟩ := retV_z r1 rfl
  have h := q1
  refine wp_iload_n dX12_absent_5 rfl ?_
  refine wp_callV (e1 := 0) (as := [Iv z1, Iv x1]) (S := []) dX12_absent_6 (cs_X12_192 rfl) kd_88 rfl rfl (Nat.le_of_ble_eq_true rfl) (Nat.le_of_ble_eq_true rfl) h (fun v2 M2 q2 r2 => ?_)
  obtain ⟨z2, rfl⟩ := retV_i r2 rfl
  have h := q2
  refine wp_istore_n (L2 := [some (Rv 88), some (Iv x1), some (Iv x2), some (Iv z2), none, none, none]) dX12_absent_9 (Nat.le_of_ble_eq_true rfl) (Nat.le_of_ble_eq_true rfl) rfl ?_
  refine wp_iload_n dX12_absent_10 rfl ?_
  obtain ⟨o3, h⟩ := h
  refine wp_if_ge (tgt := 16) dX12_absent_11 (by decide) o3 (fun q4 => ?_) (fun q4 => ?_)
  · have h := h.1 q4
    refine wp_aload_n dX12_absent_16 rfl (by decide) ?_
    refine wp_iload_n dX12_absent_17 rfl ?_
    refine wp_iconst dX12_absent_18 ?_
    refine wp_callV (e1 := 0) (as := [Iv x1, Iv 0]) (S := []) dX12_absent_19 (cs_X12_230 rfl) kd_88 rfl rfl (Nat.le_of_ble_eq_true rfl) (Nat.le_of_ble_eq_true rfl) h (fun v5 M5 q5 r5 => ?_)
    obtain ⟨z5, rfl⟩ := retV_i r5 rfl
    have h := q5
    refine wp_iconst dX12_absent_22 ?_
    refine wp_iadd dX12_absent_23 ?_
    refine wp_istore (L2 := [some (Rv 88), some (Iv x1), some (Iv x2), some (Iv z2), some (Iv (z5 + 1)), none, none]) dX12_absent_24 (Nat.le_of_ble_eq_true rfl) (Nat.le_of_ble_eq_true rfl) rfl ?_
    refine wp_aload_n dX12_absent_26 rfl (by decide) ?_
    refine wp_iload_n dX12_absent_27 rfl ?_
    refine wp_callV (e1 := 0) (as := [Iv x1]) (S := []) dX12_absent_28 (cs_X12_217 rfl) kd_88 rfl rfl (Nat.le_of_ble_eq_true rfl) (Nat.le_of_ble_eq_true rfl) h (fun v6 M6 q6 r6 => ?_)
    have h := q6
    refine wp_iload dX12_absent_31 rfl ?_
    refine wp_bipush dX12_absent_33 (by decide) ?_
    obtain ⟨o7, h⟩ := h
    refine wp_icmp_le (tgt := 42) dX12_absent_35 (by decide) o7 (by decide) (fun q8 => ?_) (fun q8 => ?_)
    · have h := h.1 q8
      refine wp_aload_n dX12_absent_42 rfl (by decide) ?_
      refine wp_getf (t := Rv 107) 107 dX12_absent_43 (fl_X12_66 rfl) kd_88 rfl rfl ?_
      refine wp_iload dX12_absent_46 rfl ?_
      obtain ⟨o9, h⟩ := h
      obtain ⟨o10, h⟩ := h
      refine wp_lald (M6 107 (z5 + 1)) dX12_absent_48 kd_107 sz_107 o9 o10 (⟨by omega, by omega⟩) rfl ?_
      refine wp_lstore (L2 := [some (Rv 88), some (Iv x1), some (Iv x2), some (Iv z2), some (Iv (z5 + 1)), some (Jv (M6 107 (z5 + 1))), none]) dX12_absent_49 (Nat.le_of_ble_eq_true rfl) (Nat.le_of_ble_eq_true rfl) rfl ?_
      refine wp_aload_n dX12_absent_51 rfl (by decide) ?_
      refine wp_iload_n dX12_absent_52 rfl ?_
      refine wp_iload dX12_absent_53 rfl ?_
      refine wp_callV (e1 := 0) (as := [Iv x1, Iv (z5 + 1)]) (S := []) dX12_absent_55 (cs_X12_236 rfl) kd_88 rfl rfl (Nat.le_of_ble_eq_true rfl) (Nat.le_of_ble_eq_true rfl) h (fun v11 M11 q11 r11 => ?_)
      have h := q11
      refine wp_aload_n dX12_absent_58 rfl (by decide) ?_
      refine wp_iload dX12_absent_59 rfl ?_
      refine wp_bipush dX12_absent_61 (by decide) ?_
      refine wp_icmp_le (tgt := 71) dX12_absent_63 (by decide) o7 (by decide) (fun q12 => ?_) (fun q12 => ?_)
      · have h := h.1 q12
        refine wp_iload dX12_absent_71 rfl ?_
        refine wp_putf (x := (z5 + 1)) dX12_absent_73 (fl_X12_151 rfl) kd_88 (fun _ => rfl) rfl rfl trivial ?_
        refine wp_aload_n dX12_absent_76 rfl (by decide) ?_
        refine wp_iload_n dX12_absent_77 rfl ?_
        refine wp_callV (e1 := 0) (as := [Iv x2]) (S := []) dX12_absent_78 (cs_X12_214 rfl) kd_88 rfl rfl (Nat.le_of_ble_eq_true rfl) (Nat.le_of_ble_eq_true rfl) h (fun v13 M13 q13 r13 => ?_)
        have h := q13
        refine wp_aload_n dX12_absent_81 rfl (by decide) ?_
        refine wp_aload_n dX12_absent_82 rfl (by decide) ?_
        refine wp_getf (t := Iv (M13 88 11)) (M13 88 11) dX12_absent_83 (fl_X12_110 rfl) kd_88 rfl rfl ?_
        obtain ⟨o14, h⟩ := h
        refine wp_i2l dX12_absent_86 o14 ?_
        refine wp_iload dX12_absent_87 rfl ?_
        refine wp_callS (e1 := 0) (as := [Jv (M13 88 11), Iv (z5 + 1)]) (S := [Rv 88]) dX12_absent_89 (cs_X12_239 rfl) rfl rfl (Nat.le_of_ble_eq_true rfl) (Nat.le_of_ble_eq_true rfl) h (fun v15 M15 q15 r15 => ?_)
        obtain ⟨z15, rfl⟩ := retV_j r15 rfl
        have h := q15
        refine wp_lload dX12_absent_92 rfl ?_
        refine wp_lsub dX12_absent_94 ?_
        refine wp_iload dX12_absent_95 rfl ?_
        refine wp_callV (e1 := 0) (as := [Jv (z15 - (M6 107 (z5 + 1))), Iv (z5 + 1)]) (S := []) dX12_absent_97 (cs_X12_202 rfl) kd_88 rfl rfl (Nat.le_of_ble_eq_true rfl) (Nat.le_of_ble_eq_true rfl) h (fun v16 M16 q16 r16 => ?_)
        obtain ⟨z16, rfl⟩ := retV_i r16 rfl
        have h := q16
        exact wp_iret dX12_absent_100 rfl (Or.inr ⟨rfl, rfl, rfl, by decide⟩) rfl h
      · have h := h.2 q12
        refine wp_bipush dX12_absent_66 (by decide) ?_
        refine wp_goto (tgt := 73) dX12_absent_68 (by decide) ?_
        refine wp_putf (x := 40) dX12_absent_73 (fl_X12_151 rfl) kd_88 (fun _ => rfl) rfl rfl trivial ?_
        refine wp_aload_n dX12_absent_76 rfl (by decide) ?_
        refine wp_iload_n dX12_absent_77 rfl ?_
        refine wp_callV (e1 := 0) (as := [Iv x2]) (S := []) dX12_absent_78 (cs_X12_214 rfl) kd_88 rfl rfl (Nat.le_of_ble_eq_true rfl) (Nat.le_of_ble_eq_true rfl) h (fun v17 M17 q17 r17 => ?_)
        have h := q17
        refine wp_aload_n dX12_absent_81 rfl (by decide) ?_
        refine wp_aload_n dX12_absent_82 rfl (by decide) ?_
        refine wp_getf (t := Iv (M17 88 11)) (M17 88 11) dX12_absent_83 (fl_X12_110 rfl) kd_88 rfl rfl ?_
        obtain ⟨o18, h⟩ := h
        refine wp_i2l dX12_absent_86 o18 ?_
        refine wp_iload dX12_absent_87 rfl ?_
        refine wp_callS (e1 := 0) (as := [Jv (M17 88 11), Iv (z5 + 1)]) (S := [Rv 88]) dX12_absent_89 (cs_X12_239 rfl) rfl rfl (Nat.le_of_ble_eq_true rfl) (Nat.le_of_ble_eq_true rfl) h (fun v19 M19 q19 r19 => ?_)
        obtain ⟨z19, rfl⟩ := retV_j r19 rfl
        have h := q19
        refine wp_lload dX12_absent_92 rfl ?_
        refine wp_lsub dX12_absent_94 ?_
        refine wp_iload dX12_absent_95 rfl ?_
        refine wp_callV (e1 := 0) (as := [Jv (z19 - (M6 107 (z5 + 1))), Iv (z5 + 1)]) (S := []) dX12_absent_97 (cs_X12_202 rfl) kd_88 rfl rfl (Nat.le_of_ble_eq_true rfl) (Nat.le_of_ble_eq_true rfl) h (fun v20 M20 q20 r20 => ?_)
        obtain ⟨z20, rfl⟩ := retV_i r20 rfl
        have h := q20
        exact wp_iret dX12_absent_100 rfl (Or.inr ⟨rfl, rfl, rfl, by decide⟩) rfl h
    · have h := h.2 q8
      refine wp_lconst0 dX12_absent_38 ?_
      refine wp_goto (tgt := 49) dX12_absent_39 (by decide) ?_
      refine wp_lstore (L2 := [some (Rv 88), some (Iv x1), some (Iv x2), some (Iv z2), some (Iv (z5 + 1)), some (Jv 0), none]) dX12_absent_49 (Nat.le_of_ble_eq_true rfl) (Nat.le_of_ble_eq_true rfl) rfl ?_
      refine wp_aload_n dX12_absent_51 rfl (by decide) ?_
      refine wp_iload_n dX12_absent_52 rfl ?_
      refine wp_iload dX12_absent_53 rfl ?_
      refine wp_callV (e1 := 0) (as := [Iv x1, Iv (z5 + 1)]) (S := []) dX12_absent_55 (cs_X12_236 rfl) kd_88 rfl rfl (Nat.le_of_ble_eq_true rfl) (Nat.le_of_ble_eq_true rfl) h (fun v21 M21 q21 r21 => ?_)
      have h := q21
      refine wp_aload_n dX12_absent_58 rfl (by decide) ?_
      refine wp_iload dX12_absent_59 rfl ?_
      refine wp_bipush dX12_absent_61 (by decide) ?_
      refine wp_icmp_le (tgt := 71) dX12_absent_63 (by decide) o7 (by decide) (fun q22 => ?_) (fun q22 => ?_)
      · have h := h.1 q22
        refine wp_iload dX12_absent_71 rfl ?_
        refine wp_putf (x := (z5 + 1)) dX12_absent_73 (fl_X12_151 rfl) kd_88 (fun _ => rfl) rfl rfl trivial ?_
        refine wp_aload_n dX12_absent_76 rfl (by decide) ?_
        refine wp_iload_n dX12_absent_77 rfl ?_
        refine wp_callV (e1 := 0) (as := [Iv x2]) (S := []) dX12_absent_78 (cs_X12_214 rfl) kd_88 rfl rfl (Nat.le_of_ble_eq_true rfl) (Nat.le_of_ble_eq_true rfl) h (fun v23 M23 q23 r23 => ?_)
        have h := q23
        refine wp_aload_n dX12_absent_81 rfl (by decide) ?_
        refine wp_aload_n dX12_absent_82 rfl (by decide) ?_
        refine wp_getf (t := Iv (M23 88 11)) (M23 88 11) dX12_absent_83 (fl_X12_110 rfl) kd_88 rfl rfl ?_
        obtain ⟨o24, h⟩ := h
        refine wp_i2l dX12_absent_86 o24 ?_
        refine wp_iload dX12_absent_87 rfl ?_
        refine wp_callS (e1 := 0) (as := [Jv (M23 88 11), Iv (z5 + 1)]) (S := [Rv 88]) dX12_absent_89 (cs_X12_239 rfl) rfl rfl (Nat.le_of_ble_eq_true rfl) (Nat.le_of_ble_eq_true rfl) h (fun v25 M25 q25 r25 => ?_)
        obtain ⟨z25, rfl⟩ := retV_j r25 rfl
        have h := q25
        refine wp_lload dX12_absent_92 rfl ?_
        refine wp_lsub dX12_absent_94 ?_
        refine wp_iload dX12_absent_95 rfl ?_
        refine wp_callV (e1 := 0) (as := [Jv (z25 - 0), Iv (z5 + 1)]) (S := []) dX12_absent_97 (cs_X12_202 rfl) kd_88 rfl rfl (Nat.le_of_ble_eq_true rfl) (Nat.le_of_ble_eq_true rfl) h (fun v26 M26 q26 r26 => ?_)
        obtain ⟨z26, rfl⟩ := retV_i r26 rfl
        have h := q26
        exact wp_iret dX12_absent_100 rfl (Or.inr ⟨rfl, rfl, rfl, by decide⟩) rfl h
      · have h := h.2 q22
        refine wp_bipush dX12_absent_66 (by decide) ?_
        refine wp_goto (tgt := 73) dX12_absent_68 (by decide) ?_
        refine wp_putf (x := 40) dX12_absent_73 (fl_X12_151 rfl) kd_88 (fun _ => rfl) rfl rfl trivial ?_
        refine wp_aload_n dX12_absent_76 rfl (by decide) ?_
        refine wp_iload_n dX12_absent_77 rfl ?_
        refine wp_callV (e1 := 0) (as := [Iv x2]) (S := []) dX12_absent_78 (cs_X12_214 rfl) kd_88 rfl rfl (Nat.le_of_ble_eq_true rfl) (Nat.le_of_ble_eq_true rfl) h (fun v27 M27 q27 r27 => ?_)
        have h := q27
        refine wp_aload_n dX12_absent_81 rfl (by decide) ?_
        refine wp_aload_n dX12_absent_82 rfl (by decide) ?_
        refine wp_getf (t := Iv (M27 88 11)) (M27 88 11) dX12_absent_83 (fl_X12_110 rfl) kd_88 rfl rfl ?_
        obtain ⟨o28, h⟩ := h
        refine wp_i2l dX12_absent_86 o28 ?_
        refine wp_iload dX12_absent_87 rfl ?_
        refine wp_callS (e1 := 0) (as := [Jv (M27 88 11), Iv (z5 + 1)]) (S := [Rv 88]) dX12_absent_89 (cs_X12_239 rfl) rfl rfl (Nat.le_of_ble_eq_true rfl) (Nat.le_of_ble_eq_true rfl) h (fun v29 M29 q29 r29 => ?_)
        obtain ⟨z29, rfl⟩ := retV_j r29 rfl
        have h := q29
        refine wp_lload dX12_absent_92 rfl ?_
        refine wp_lsub dX12_absent_94 ?_
        refine wp_iload dX12_absent_95 rfl ?_
        refine wp_callV (e1 := 0) (as := [Jv (z29 - 0), Iv (z5 + 1)]) (S := []) dX12_absent_97 (cs_X12_202 rfl) kd_88 rfl rfl (Nat.le_of_ble_eq_true rfl) (Nat.le_of_ble_eq_true rfl) h (fun v30 M30 q30 r30 => ?_)
        obtain ⟨z30, rfl⟩ := retV_i r30 rfl
        have h := q30
        exact wp_iret dX12_absent_100 rfl (Or.inr ⟨rfl, rfl, rfl, by decide⟩) rfl h
  · have h := h.2 q4
    refine wp_iload_n dX12_absent_14 rfl ?_
    exact wp_iret dX12_absent_15 rfl (Or.inr ⟨rfl, rfl, rfl, by decide⟩) rfl h
theorem eX12_absent {x1 x2 : Int}  {M : Mem} {Q : Vl → Mem → Prop} (h : cl 0 yX12_isRow [Iv x2] M (QI (fun z1 M1 => (cl 0 yX12_needWord [Rv 88, Iv z1, Iv x1] M1 (QI (fun z2 M2 => (inr z2 ∧ ((0 ≤ z2 → cl 0 yX12_archesFrom [Rv 88, Iv x1, Iv 0] M2 (QI (fun z5 M5 => (cl 0 yX12_layInner [Rv 88, Iv x1] M5 (QV (fun M6 => (inr (z5 + 1) ∧ (((z5 + 1) ≤ 40 → 0 ≤ z5 + 1 ∧ (z5 + 1 < 1681 ∧ (cl 0 yX12_layAbsent [Rv 88, Iv x1, Iv (z5 + 1)] M6 (QV (fun M11 => (((z5 + 1) ≤ 40 → cl 0 yX12_comesToRow [Rv 88, Iv x2] (up M11 88 17 (z5 + 1)) (QV (fun M13 => (inr (M13 88 11) ∧ (cl 0 yX12_powerOf [Jv (M13 88 11), Iv (z5 + 1)] M13 (QJ (fun z15 M15 => (cl 0 yX12_tellsMany [Rv 88, Jv (z15 - (M6 107 (z5 + 1))), Iv (z5 + 1)] M15 (QI (fun z16 M16 => (Q (Iv z16) M16))))))))))) ∧ (40 < (z5 + 1) → cl 0 yX12_comesToRow [Rv 88, Iv x2] (up M11 88 17 40) (QV (fun M17 => (inr (M17 88 11) ∧ (cl 0 yX12_powerOf [Jv (M17 88 11), Iv (z5 + 1)] M17 (QJ (fun z19 M19 => (cl 0 yX12_tellsMany [Rv 88, Jv (z19 - (M6 107 (z5 + 1))), Iv (z5 + 1)] M19 (QI (fun z20 M20 => (Q (Iv z20) M20))))))))))))))))) ∧ (40 < (z5 + 1) → cl 0 yX12_layAbsent [Rv 88, Iv x1, Iv (z5 + 1)] M6 (QV (fun M21 => (((z5 + 1) ≤ 40 → cl 0 yX12_comesToRow [Rv 88, Iv x2] (up M21 88 17 (z5 + 1)) (QV (fun M23 => (inr (M23 88 11) ∧ (cl 0 yX12_powerOf [Jv (M23 88 11), Iv (z5 + 1)] M23 (QJ (fun z25 M25 => (cl 0 yX12_tellsMany [Rv 88, Jv (z25 - 0), Iv (z5 + 1)] M25 (QI (fun z26 M26 => (Q (Iv z26) M26))))))))))) ∧ (40 < (z5 + 1) → cl 0 yX12_comesToRow [Rv 88, Iv x2] (up M21 88 17 40) (QV (fun M27 => (inr (M27 88 11) ∧ (cl 0 yX12_powerOf [Jv (M27 88 11), Iv (z5 + 1)] M27 (QJ (fun z29 M29 => (cl 0 yX12_tellsMany [Rv 88, Jv (z29 - 0), Iv (z5 + 1)] M29 (QI (fun z30 M30 => (Q (Iv z30) M30))))))))))))))))))))))) ∧ (z2 < 0 → Q (Iv z2) M2))))))))) : cl 0 yX12_absent [Rv 88, Iv x1, Iv x2] M Q := enterG (by decide +kernel) (by exact Or.inr (Or.inl rfl)) (Nat.le_of_ble_eq_true rfl) rfl (gX12_absent h)
theorem gX12_added {x1 x2 : Int}  {M : Mem} {Q : Vl → Mem → Prop} (h : cl 0 yX12_in [Iv x2, Iv 0, Iv 40] M (QI (fun z1 M1 => (cl 0 yX12_needWord [Rv 88, Iv z1, Iv x1] M1 (QI (fun z2 M2 => (inr z2 ∧ ((0 ≤ z2 → cl 0 yX12_archesFrom [Rv 88, Iv x1, Iv 0] M2 (QI (fun z5 M5 => (wp 0 yX12_added 36 [some (Rv 88), some (Iv x1), some (Iv x2), some (Iv z2), some (Iv z5), some (Iv (M5 88 11)), some (Iv 0)] [] M5 Q)))) ∧ (z2 < 0 → Q (Iv z2) M2))))))))) : wp 0 yX12_added 0 [some (Rv 88), some (Iv x1), some (Iv x2), none, none, none, none] [] M Q := by
  refine wp_aload_n dX12_added_0 rfl (by decide) ?_
  refine wp_iload_n dX12_added_1 rfl ?_
  refine wp_iconst dX12_added_2 ?_
  refine wp_bipush dX12_added_3 (by decide) ?_
  refine wp_callS (e1 := 0) (as := [Iv x2, Iv 0, Iv 40]) (S := [Rv 88]) dX12_added_5 (cs_X12_117 rfl) rfl rfl (Nat.le_of_ble_eq_true rfl) (Nat.le_of_ble_eq_true rfl) h (fun v1 M1 q1 r1 => ?_)
  obtain ⟨z1, rfl, hz1⟩ := retV_z r1 rfl
  have h := q1
  refine wp_iload_n dX12_added_8 rfl ?_
  refine wp_callV (e1 := 0) (as := [Iv z1, Iv x1]) (S := []) dX12_added_9 (cs_X12_192 rfl) kd_88 rfl rfl (Nat.le_of_ble_eq_true rfl) (Nat.le_of_ble_eq_true rfl) h (fun v2 M2 q2 r2 => ?_)
  obtain ⟨z2, rfl⟩ := retV_i r2 rfl
  have h := q2
  refine wp_istore_n (L2 := [some (Rv 88), some (Iv x1), some (Iv x2), some (Iv z2), none, none, none]) dX12_added_12 (Nat.le_of_ble_eq_true rfl) (Nat.le_of_ble_eq_true rfl) rfl ?_
  refine wp_iload_n dX12_added_13 rfl ?_
  obtain ⟨o3, h⟩ := h
  refine wp_if_ge (tgt := 19) dX12_added_14 (by decide) o3 (fun q4 => ?_) (fun q4 => ?_)
  · have h := h.1 q4
    refine wp_aload_n dX12_added_19 rfl (by decide) ?_
    refine wp_iload_n dX12_added_20 rfl ?_
    refine wp_iconst dX12_added_21 ?_
    refine wp_callV (e1 := 0) (as := [Iv x1, Iv 0]) (S := []) dX12_added_22 (cs_X12_230 rfl) kd_88 rfl rfl (Nat.le_of_ble_eq_true rfl) (Nat.le_of_ble_eq_true rfl) h (fun v5 M5 q5 r5 => ?_)
    obtain ⟨z5, rfl⟩ := retV_i r5 rfl
    have h := q5
    refine wp_istore (L2 := [some (Rv 88), some (Iv x1), some (Iv x2), some (Iv z2), some (Iv z5), none, none]) dX12_added_25 (Nat.le_of_ble_eq_true rfl) (Nat.le_of_ble_eq_true rfl) rfl ?_
    refine wp_aload_n dX12_added_27 rfl (by decide) ?_
    refine wp_getf (t := Iv (M5 88 11)) (M5 88 11) dX12_added_28 (fl_X12_110 rfl) kd_88 rfl rfl ?_
    refine wp_istore (L2 := [some (Rv 88), some (Iv x1), some (Iv x2), some (Iv z2), some (Iv z5), some (Iv (M5 88 11)), none]) dX12_added_31 (Nat.le_of_ble_eq_true rfl) (Nat.le_of_ble_eq_true rfl) rfl ?_
    refine wp_iconst dX12_added_33 ?_
    refine wp_istore (L2 := [some (Rv 88), some (Iv x1), some (Iv x2), some (Iv z2), some (Iv z5), some (Iv (M5 88 11)), some (Iv 0)]) dX12_added_34 (Nat.le_of_ble_eq_true rfl) (Nat.le_of_ble_eq_true rfl) rfl ?_
    exact h
  · have h := h.2 q4
    refine wp_iload_n dX12_added_17 rfl ?_
    exact wp_iret dX12_added_18 rfl (Or.inr ⟨rfl, rfl, rfl, by decide⟩) rfl h
theorem eX12_added {x1 x2 : Int}  {M : Mem} {Q : Vl → Mem → Prop} (h : cl 0 yX12_in [Iv x2, Iv 0, Iv 40] M (QI (fun z1 M1 => (cl 0 yX12_needWord [Rv 88, Iv z1, Iv x1] M1 (QI (fun z2 M2 => (inr z2 ∧ ((0 ≤ z2 → cl 0 yX12_archesFrom [Rv 88, Iv x1, Iv 0] M2 (QI (fun z5 M5 => (wp 0 yX12_added 36 [some (Rv 88), some (Iv x1), some (Iv x2), some (Iv z2), some (Iv z5), some (Iv (M5 88 11)), some (Iv 0)] [] M5 Q)))) ∧ (z2 < 0 → Q (Iv z2) M2))))))))) : cl 0 yX12_added [Rv 88, Iv x1, Iv x2] M Q := enterG (by decide +kernel) (by exact Or.inr (Or.inl rfl)) (Nat.le_of_ble_eq_true rfl) rfl (gX12_added h)
theorem gX12_added_36 {x1 x2 x3 x4 x5 x6 : Int}  {M : Mem} {Q : Vl → Mem → Prop} (h : inr x6 ∧ (inr (M 88 11) ∧ (((M 88 11) ≤ x6 → inr x4 ∧ (inr x2 ∧ ((x4 < x2 → Q (Iv (x5 + (((x2 - x4) - 1) * (M 88 11)))) M) ∧ (x2 ≤ x4 → Q (Iv 0) M)))) ∧ (x6 < (M 88 11) → cl 0 yX12_has [Iv (M 88 28), Iv x6] M (QI (fun z7 M7 => ((z7 = 0 → wp 0 yX12_added 36 [some (Rv 88), some (Iv x1), some (Iv x2), some (Iv x3), some (Iv x4), some (Iv (x5 - 0)), some (Iv (x6 + 1))] [] M7 Q) ∧ (z7 ≠ 0 → wp 0 yX12_added 36 [some (Rv 88), some (Iv x1), some (Iv x2), some (Iv x3), some (Iv x4), some (Iv (x5 - 1)), some (Iv (x6 + 1))] [] M7 Q)))))))) : wp 0 yX12_added 36 [some (Rv 88), some (Iv x1), some (Iv x2), some (Iv x3), some (Iv x4), some (Iv x5), some (Iv x6)] [] M Q := by
  refine wp_iload dX12_added_36 rfl ?_
  refine wp_aload_n dX12_added_38 rfl (by decide) ?_
  refine wp_getf (t := Iv (M 88 11)) (M 88 11) dX12_added_39 (fl_X12_110 rfl) kd_88 rfl rfl ?_
  obtain ⟨o1, h⟩ := h
  obtain ⟨o2, h⟩ := h
  refine wp_icmp_ge (tgt := 73) dX12_added_42 (by decide) o1 o2 (fun q3 => ?_) (fun q3 => ?_)
  · have h := h.1 q3
    refine wp_iload dX12_added_73 rfl ?_
    refine wp_iload_n dX12_added_75 rfl ?_
    obtain ⟨o4, h⟩ := h
    obtain ⟨o5, h⟩ := h
    refine wp_icmp_lt (tgt := 83) dX12_added_76 (by decide) o4 o5 (fun q6 => ?_) (fun q6 => ?_)
    · have h := h.1 q6
      refine wp_iload dX12_added_83 rfl ?_
      refine wp_iload_n dX12_added_85 rfl ?_
      refine wp_iload dX12_added_86 rfl ?_
      refine wp_isub dX12_added_88 ?_
      refine wp_iconst dX12_added_89 ?_
      refine wp_isub dX12_added_90 ?_
      refine wp_aload_n dX12_added_91 rfl (by decide) ?_
      refine wp_getf (t := Iv (M 88 11)) (M 88 11) dX12_added_92 (fl_X12_110 rfl) kd_88 rfl rfl ?_
      refine wp_imul dX12_added_95 ?_
      refine wp_iadd dX12_added_96 ?_
      exact wp_iret dX12_added_97 rfl (Or.inr ⟨rfl, rfl, rfl, by decide⟩) rfl h
    · have h := h.2 q6
      refine wp_iconst dX12_added_79 ?_
      refine wp_goto (tgt := 97) dX12_added_80 (by decide) ?_
      exact wp_iret dX12_added_97 rfl (Or.inr ⟨rfl, rfl, rfl, by decide⟩) rfl h
  · have h := h.2 q3
    refine wp_iload dX12_added_45 rfl ?_
    refine wp_aload_n dX12_added_47 rfl (by decide) ?_
    refine wp_getf (t := Iv (M 88 28)) (M 88 28) dX12_added_48 (fl_X12_227 rfl) kd_88 rfl rfl ?_
    refine wp_iload dX12_added_51 rfl ?_
    refine wp_callS (e1 := 0) (as := [Iv (M 88 28), Iv x6]) (S := [Iv x5]) dX12_added_53 (cs_X12_243 rfl) rfl rfl (Nat.le_of_ble_eq_true rfl) (Nat.le_of_ble_eq_true rfl) h (fun v7 M7 q7 r7 => ?_)
    obtain ⟨z7, rfl, hz7⟩ := retV_z r7 rfl
    have h := q7
    refine wp_if_eq (tgt := 63) dX12_added_56 (by decide) (by have := hz7; omega) (fun q8 => ?_) (fun q8 => ?_)
    · have h := h.1 q8
      refine wp_iconst dX12_added_63 ?_
      refine wp_isub dX12_added_64 ?_
      refine wp_istore (L2 := [some (Rv 88), some (Iv x1), some (Iv x2), some (Iv x3), some (Iv x4), some (Iv (x5 - 0)), some (Iv x6)]) dX12_added_65 (Nat.le_of_ble_eq_true rfl) (Nat.le_of_ble_eq_true rfl) rfl ?_
      refine wp_iinc (L2 := [some (Rv 88), some (Iv x1), some (Iv x2), some (Iv x3), some (Iv x4), some (Iv (x5 - 0)), some (Iv (x6 + 1))]) dX12_added_67 rfl (Nat.le_of_ble_eq_true rfl) (Nat.le_of_ble_eq_true rfl) rfl ?_
      refine wp_goto (tgt := 36) dX12_added_70 (by decide) ?_
      exact h
    · have h := h.2 q8
      refine wp_iconst dX12_added_59 ?_
      refine wp_goto (tgt := 64) dX12_added_60 (by decide) ?_
      refine wp_isub dX12_added_64 ?_
      refine wp_istore (L2 := [some (Rv 88), some (Iv x1), some (Iv x2), some (Iv x3), some (Iv x4), some (Iv (x5 - 1)), some (Iv x6)]) dX12_added_65 (Nat.le_of_ble_eq_true rfl) (Nat.le_of_ble_eq_true rfl) rfl ?_
      refine wp_iinc (L2 := [some (Rv 88), some (Iv x1), some (Iv x2), some (Iv x3), some (Iv x4), some (Iv (x5 - 1)), some (Iv (x6 + 1))]) dX12_added_67 rfl (Nat.le_of_ble_eq_true rfl) (Nat.le_of_ble_eq_true rfl) rfl ?_
      refine wp_goto (tgt := 36) dX12_added_70 (by decide) ?_
      exact h
theorem gX12_nextOther {x1 x2 : Int}  {M : Mem} {Q : Vl → Mem → Prop} (h : wp 0 yX12_nextOther 2 [some (Rv 88), some (Iv x1), some (Iv x2), some (Iv x1)] [] M Q) : wp 0 yX12_nextOther 0 [some (Rv 88), some (Iv x1), some (Iv x2), none] [] M Q := by
  refine wp_iload_n dX12_nextOther_0 rfl ?_
  refine wp_istore_n (L2 := [some (Rv 88), some (Iv x1), some (Iv x2), some (Iv x1)]) dX12_nextOther_1 (Nat.le_of_ble_eq_true rfl) (Nat.le_of_ble_eq_true rfl) rfl ?_
  exact h
theorem eX12_nextOther {x1 x2 : Int}  {M : Mem} {Q : Vl → Mem → Prop} (h : wp 0 yX12_nextOther 2 [some (Rv 88), some (Iv x1), some (Iv x2), some (Iv x1)] [] M Q) : cl 0 yX12_nextOther [Rv 88, Iv x1, Iv x2] M Q := enterG (by decide +kernel) (by exact Or.inr (Or.inl rfl)) (Nat.le_of_ble_eq_true rfl) rfl (gX12_nextOther h)
theorem gX12_nextOther_2 {x1 x2 x3 : Int}  {M : Mem} {Q : Vl → Mem → Prop} (h : inr x3 ∧ (inr (M 88 33) ∧ (((M 88 33) ≤ x3 → Q (Iv (-9)) M) ∧ (x3 < (M 88 33) → 0 ≤ x3 ∧ (x3 < 40 ∧ (((M 112 x3) = x2 ∨ (inr (M 112 x3) ∧ inr x2)) ∧ (((M 112 x3) ≠ x2 → wp 0 yX12_nextOther 2 [some (Rv 88), some (Iv x1), some (Iv x2), some (Iv (x3 + 1))] [] M Q) ∧ ((M 112 x3) = x2 → Q (Iv x3) M)))))))) : wp 0 yX12_nextOther 2 [some (Rv 88), some (Iv x1), some (Iv x2), some (Iv x3)] [] M Q := by
  refine wp_iload_n dX12_nextOther_2 rfl ?_
  refine wp_aload_n dX12_nextOther_3 rfl (by decide) ?_
  refine wp_getf (t := Iv (M 88 33)) (M 88 33) dX12_nextOther_4 (fl_X12_246 rfl) kd_88 rfl rfl ?_
  obtain ⟨o1, h⟩ := h
  obtain ⟨o2, h⟩ := h
  refine wp_icmp_ge (tgt := 28) dX12_nextOther_7 (by decide) o1 o2 (fun q3 => ?_) (fun q3 => ?_)
  · have h := h.1 q3
    refine wp_bipush dX12_nextOther_28 (by decide) ?_
    exact wp_iret dX12_nextOther_30 rfl (Or.inr ⟨rfl, rfl, rfl, by decide⟩) rfl h
  · have h := h.2 q3
    refine wp_aload_n dX12_nextOther_10 rfl (by decide) ?_
    refine wp_getf (t := Rv 112) 112 dX12_nextOther_11 (fl_X12_82 rfl) kd_88 rfl rfl ?_
    refine wp_iload_n dX12_nextOther_14 rfl ?_
    obtain ⟨o4, h⟩ := h
    obtain ⟨o5, h⟩ := h
    refine wp_iald (M 112 x3) dX12_nextOther_15 kd_112 sz_112 o4 o5 (⟨by omega, by omega⟩) rfl ?_
    refine wp_iload_n dX12_nextOther_16 rfl ?_
    obtain ⟨o6, h⟩ := h
    refine wp_icmp_ne (tgt := 22) dX12_nextOther_17 (by decide) o6 (fun q7 => ?_) (fun q7 => ?_)
    · have h := h.1 q7
      refine wp_iinc (L2 := [some (Rv 88), some (Iv x1), some (Iv x2), some (Iv (x3 + 1))]) dX12_nextOther_22 rfl (Nat.le_of_ble_eq_true rfl) (Nat.le_of_ble_eq_true rfl) rfl ?_
      refine wp_goto (tgt := 2) dX12_nextOther_25 (by decide) ?_
      exact h
    · have h := h.2 q7
      refine wp_iload_n dX12_nextOther_20 rfl ?_
      exact wp_iret dX12_nextOther_21 rfl (Or.inr ⟨rfl, rfl, rfl, by decide⟩) rfl h
theorem gX12_layOther {x1 : Int}  {M : Mem} {Q : Vl → Mem → Prop} (h : 0 ≤ x1 ∧ (x1 < 8 ∧ (wp 0 yX12_layOther 12 [some (Rv 88), some (Iv x1), some (Iv 0)] [] (up M 88 33 (M 95 x1)) Q))) : wp 0 yX12_layOther 0 [some (Rv 88), some (Iv x1), none] [] M Q := by
  refine wp_aload_n dX12_layOther_0 rfl (by decide) ?_
  refine wp_aload_n dX12_layOther_1 rfl (by decide) ?_
  refine wp_getf (t := Rv 95) 95 dX12_layOther_2 (fl_X12_29 rfl) kd_88 rfl rfl ?_
  refine wp_iload_n dX12_layOther_5 rfl ?_
  obtain ⟨o1, h⟩ := h
  obtain ⟨o2, h⟩ := h
  refine wp_iald (M 95 x1) dX12_layOther_6 kd_95 sz_95 o1 o2 (⟨by omega, by omega⟩) rfl ?_
  refine wp_putf (x := (M 95 x1)) dX12_layOther_7 (fl_X12_246 rfl) kd_88 (fun _ => rfl) rfl rfl trivial ?_
  refine wp_iconst dX12_layOther_10 ?_
  refine wp_istore_n (L2 := [some (Rv 88), some (Iv x1), some (Iv 0)]) dX12_layOther_11 (Nat.le_of_ble_eq_true rfl) (Nat.le_of_ble_eq_true rfl) rfl ?_
  exact h
theorem eX12_layOther {x1 : Int}  {M : Mem} {Q : Vl → Mem → Prop} (h : 0 ≤ x1 ∧ (x1 < 8 ∧ (wp 0 yX12_layOther 12 [some (Rv 88), some (Iv x1), some (Iv 0)] [] (up M 88 33 (M 95 x1)) Q))) : cl 0 yX12_layOther [Rv 88, Iv x1] M Q := enterG (by decide +kernel) (by exact Or.inl rfl) (Nat.le_of_ble_eq_true rfl) rfl (gX12_layOther h)
theorem gX12_layOther_12 {x1 x2 : Int}  {M : Mem} {Q : Vl → Mem → Prop} (h : inr x2 ∧ (inr (M 88 33) ∧ (((M 88 33) ≤ x2 → Q (Iv 0) M) ∧ (x2 < (M 88 33) → cl 0 yX12_at0 [Rv 88, Iv x1, Iv x2] M (QI (fun z4 M4 => (0 ≤ x2 ∧ (x2 < 40 ∧ (wp 0 yX12_layOther 12 [some (Rv 88), some (Iv x1), some (Iv (x2 + 1))] [] (up M4 112 x2 z4) Q))))))))) : wp 0 yX12_layOther 12 [some (Rv 88), some (Iv x1), some (Iv x2)] [] M Q := by
  refine wp_iload_n dX12_layOther_12 rfl ?_
  refine wp_aload_n dX12_layOther_13 rfl (by decide) ?_
  refine wp_getf (t := Iv (M 88 33)) (M 88 33) dX12_layOther_14 (fl_X12_246 rfl) kd_88 rfl rfl ?_
  obtain ⟨o1, h⟩ := h
  obtain ⟨o2, h⟩ := h
  refine wp_icmp_ge (tgt := 38) dX12_layOther_17 (by decide) o1 o2 (fun q3 => ?_) (fun q3 => ?_)
  · have h := h.1 q3
    exact wp_vret dX12_layOther_38 rfl (Or.inr ⟨rfl, rfl, rfl, by decide⟩) rfl h
  · have h := h.2 q3
    refine wp_aload_n dX12_layOther_20 rfl (by decide) ?_
    refine wp_getf (t := Rv 112) 112 dX12_layOther_21 (fl_X12_82 rfl) kd_88 rfl rfl ?_
    refine wp_iload_n dX12_layOther_24 rfl ?_
    refine wp_aload_n dX12_layOther_25 rfl (by decide) ?_
    refine wp_iload_n dX12_layOther_26 rfl ?_
    refine wp_iload_n dX12_layOther_27 rfl ?_
    refine wp_callV (e1 := 0) (as := [Iv x1, Iv x2]) (S := [Iv x2, Rv 112]) dX12_layOther_28 (cs_X12_148 rfl) kd_88 rfl rfl (Nat.le_of_ble_eq_true rfl) (Nat.le_of_ble_eq_true rfl) h (fun v4 M4 q4 r4 => ?_)
    obtain ⟨z4, rfl⟩ := retV_i r4 rfl
    have h := q4
    obtain ⟨o5, h⟩ := h
    obtain ⟨o6, h⟩ := h
    refine wp_iast dX12_layOther_31 kd_112 sz_112 o5 o6 (⟨by omega, by omega⟩) ?_
    refine wp_iinc (L2 := [some (Rv 88), some (Iv x1), some (Iv (x2 + 1))]) dX12_layOther_32 rfl (Nat.le_of_ble_eq_true rfl) (Nat.le_of_ble_eq_true rfl) rfl ?_
    refine wp_goto (tgt := 12) dX12_layOther_35 (by decide) ?_
    exact h
theorem gX12_partsFrom {x1 : Int}  {M : Mem} {Q : Vl → Mem → Prop} (h : wp 0 yX12_partsFrom 2 [some (Rv 88), some (Iv x1), some (Iv 0), none, none, none, none, none, none, none] [] M Q) : wp 0 yX12_partsFrom 0 [some (Rv 88), some (Iv x1), none, none, none, none, none, none, none, none] [] M Q := by
  refine wp_iconst dX12_partsFrom_0 ?_
  refine wp_istore_n (L2 := [some (Rv 88), some (Iv x1), some (Iv 0), none, none, none, none, none, none, none]) dX12_partsFrom_1 (Nat.le_of_ble_eq_true rfl) (Nat.le_of_ble_eq_true rfl) rfl ?_
  exact h
theorem eX12_partsFrom {x1 : Int}  {M : Mem} {Q : Vl → Mem → Prop} (h : wp 0 yX12_partsFrom 2 [some (Rv 88), some (Iv x1), some (Iv 0), none, none, none, none, none, none, none] [] M Q) : cl 0 yX12_partsFrom [Rv 88, Iv x1] M Q := enterG (by decide +kernel) (by exact Or.inr (Or.inl rfl)) (Nat.le_of_ble_eq_true rfl) rfl (gX12_partsFrom h)
theorem gX12_partsFrom_2 {x1 x2 : Int}  {M : Mem} {Q : Vl → Mem → Prop} (h : inr x2 ∧ ((1700 ≤ x2 → wp 0 yX12_partsFrom 48 [some (Rv 88), some (Iv x1), some (Iv 1), some (Iv 0), none, none, none, none, none, none] [] (up (up (up M 108 0 0) 109 0 (-9)) 111 0 1) Q) ∧ (x2 < 1700 → 0 ≤ x2 ∧ (wp 0 yX12_partsFrom 2 [some (Rv 88), some (Iv x1), some (Iv (x2 + 1)), none, none, none, none, none, none, none] [] (up M 111 x2 0) Q)))) : wp 0 yX12_partsFrom 2 [some (Rv 88), some (Iv x1), some (Iv x2), none, none, none, none, none, none, none] [] M Q := by
  refine wp_iload_n dX12_partsFrom_2 rfl ?_
  refine wp_sipush dX12_partsFrom_3 (by decide) ?_
  obtain ⟨o1, h⟩ := h
  refine wp_icmp_ge (tgt := 22) dX12_partsFrom_6 (by decide) o1 (by decide) (fun q2 => ?_) (fun q2 => ?_)
  · have h := h.1 q2
    refine wp_iconst dX12_partsFrom_22 ?_
    refine wp_istore_n (L2 := [some (Rv 88), some (Iv x1), some (Iv 1), none, none, none, none, none, none, none]) dX12_partsFrom_23 (Nat.le_of_ble_eq_true rfl) (Nat.le_of_ble_eq_true rfl) rfl ?_
    refine wp_aload_n dX12_partsFrom_24 rfl (by decide) ?_
    refine wp_getf (t := Rv 108) 108 dX12_partsFrom_25 (fl_X12_69 rfl) kd_88 rfl rfl ?_
    refine wp_iconst dX12_partsFrom_28 ?_
    refine wp_iconst dX12_partsFrom_29 ?_
    refine wp_iast dX12_partsFrom_30 kd_108 sz_108 (by decide) (by decide) (by decide) ?_
    refine wp_aload_n dX12_partsFrom_31 rfl (by decide) ?_
    refine wp_getf (t := Rv 109) 109 dX12_partsFrom_32 (fl_X12_72 rfl) kd_88 rfl rfl ?_
    refine wp_iconst dX12_partsFrom_35 ?_
    refine wp_bipush dX12_partsFrom_36 (by decide) ?_
    refine wp_iast dX12_partsFrom_38 kd_109 sz_109 (by decide) (by decide) (by decide) ?_
    refine wp_aload_n dX12_partsFrom_39 rfl (by decide) ?_
    refine wp_getf (t := Rv 111) 111 dX12_partsFrom_40 (fl_X12_78 rfl) kd_88 rfl rfl ?_
    refine wp_iconst dX12_partsFrom_43 ?_
    refine wp_iconst dX12_partsFrom_44 ?_
    refine wp_zast dX12_partsFrom_45 kd_111 sz_111 (by decide) (by decide) (by decide) (Or.inr rfl) ?_
    refine wp_iconst dX12_partsFrom_46 ?_
    refine wp_istore_n (L2 := [some (Rv 88), some (Iv x1), some (Iv 1), some (Iv 0), none, none, none, none, none, none]) dX12_partsFrom_47 (Nat.le_of_ble_eq_true rfl) (Nat.le_of_ble_eq_true rfl) rfl ?_
    exact h
  · have h := h.2 q2
    refine wp_aload_n dX12_partsFrom_9 rfl (by decide) ?_
    refine wp_getf (t := Rv 111) 111 dX12_partsFrom_10 (fl_X12_78 rfl) kd_88 rfl rfl ?_
    refine wp_iload_n dX12_partsFrom_13 rfl ?_
    refine wp_iconst dX12_partsFrom_14 ?_
    obtain ⟨o3, h⟩ := h
    refine wp_zast dX12_partsFrom_15 kd_111 sz_111 o3 q2 (⟨by omega, by omega⟩) (Or.inl rfl) ?_
    refine wp_iinc (L2 := [some (Rv 88), some (Iv x1), some (Iv (x2 + 1)), none, none, none, none, none, none, none]) dX12_partsFrom_16 rfl (Nat.le_of_ble_eq_true rfl) (Nat.le_of_ble_eq_true rfl) rfl ?_
    refine wp_goto (tgt := 2) dX12_partsFrom_19 (by decide) ?_
    exact h
theorem gX12_partsFrom_48 {x1 x2 x3 : Int}  {M : Mem} {Q : Vl → Mem → Prop} (h : inr x3 ∧ (inr x2 ∧ ((x2 ≤ x3 → Q (Iv (-9)) M) ∧ (x3 < x2 → 0 ≤ x3 ∧ (x3 < 1700 ∧ (inr (M 108 x3) ∧ (wp 0 yX12_partsFrom 78 [some (Rv 88), some (Iv x1), some (Iv x2), some (Iv x3), some (Iv (Int.tdiv (M 108 x3) 41)), some (Iv (Int.tmod (M 108 x3) 41)), some (Iv 0), none, none, none] [] M Q))))))) : wp 0 yX12_partsFrom 48 [some (Rv 88), some (Iv x1), some (Iv x2), some (Iv x3), none, none, none, none, none, none] [] M Q := by
  refine wp_iload_n dX12_partsFrom_48 rfl ?_
  refine wp_iload_n dX12_partsFrom_49 rfl ?_
  obtain ⟨o1, h⟩ := h
  obtain ⟨o2, h⟩ := h
  refine wp_icmp_ge (tgt := 231) dX12_partsFrom_50 (by decide) o1 o2 (fun q3 => ?_) (fun q3 => ?_)
  · have h := h.1 q3
    refine wp_bipush dX12_partsFrom_231 (by decide) ?_
    exact wp_iret dX12_partsFrom_233 rfl (Or.inr ⟨rfl, rfl, rfl, by decide⟩) rfl h
  · have h := h.2 q3
    refine wp_aload_n dX12_partsFrom_53 rfl (by decide) ?_
    refine wp_getf (t := Rv 108) 108 dX12_partsFrom_54 (fl_X12_69 rfl) kd_88 rfl rfl ?_
    refine wp_iload_n dX12_partsFrom_57 rfl ?_
    obtain ⟨o4, h⟩ := h
    obtain ⟨o5, h⟩ := h
    refine wp_iald (M 108 x3) dX12_partsFrom_58 kd_108 sz_108 o4 o5 (⟨by omega, by omega⟩) rfl ?_
    refine wp_bipush dX12_partsFrom_59 (by decide) ?_
    obtain ⟨o6, h⟩ := h
    refine wp_idiv dX12_partsFrom_61 o6 (by decide) (by decide) ?_
    refine wp_istore (L2 := [some (Rv 88), some (Iv x1), some (Iv x2), some (Iv x3), some (Iv (Int.tdiv (M 108 x3) 41)), none, none, none, none, none]) dX12_partsFrom_62 (Nat.le_of_ble_eq_true rfl) (Nat.le_of_ble_eq_true rfl) rfl ?_
    refine wp_aload_n dX12_partsFrom_64 rfl (by decide) ?_
    refine wp_getf (t := Rv 108) 108 dX12_partsFrom_65 (fl_X12_69 rfl) kd_88 rfl rfl ?_
    refine wp_iload_n dX12_partsFrom_68 rfl ?_
    refine wp_iald (M 108 x3) dX12_partsFrom_69 kd_108 sz_108 o4 o5 (⟨by omega, by omega⟩) rfl ?_
    refine wp_bipush dX12_partsFrom_70 (by decide) ?_
    refine wp_irem dX12_partsFrom_72 o6 (by decide) (by decide) ?_
    refine wp_istore (L2 := [some (Rv 88), some (Iv x1), some (Iv x2), some (Iv x3), some (Iv (Int.tdiv (M 108 x3) 41)), some (Iv (Int.tmod (M 108 x3) 41)), none, none, none, none]) dX12_partsFrom_73 (Nat.le_of_ble_eq_true rfl) (Nat.le_of_ble_eq_true rfl) rfl ?_
    refine wp_iconst dX12_partsFrom_75 ?_
    refine wp_istore (L2 := [some (Rv 88), some (Iv x1), some (Iv x2), some (Iv x3), some (Iv (Int.tdiv (M 108 x3) 41)), some (Iv (Int.tmod (M 108 x3) 41)), some (Iv 0), none, none, none]) dX12_partsFrom_76 (Nat.le_of_ble_eq_true rfl) (Nat.le_of_ble_eq_true rfl) rfl ?_
    exact h
theorem gX12_partsFrom_78 {x1 x2 x3 x4 x5 x6 : Int}  {M : Mem} {Q : Vl → Mem → Prop} (h : inr x6 ∧ (inr (M 88 11) ∧ (((M 88 11) ≤ x6 → wp 0 yX12_partsFrom 48 [some (Rv 88), some (Iv x1), some (Iv x2), some (Iv (x3 + 1)), none, none, none, none, none, none] [] M Q) ∧ (x6 < (M 88 11) → cl 0 yX12_next [Rv 88, Iv x1, Iv x4, Iv x6] M (QI (fun z4 M4 => (cl 0 yX12_nextOther [Rv 88, Iv x5, Iv x6] M4 (QI (fun z5 M5 => (inr z4 ∧ ((z4 ≠ (-9) → inr z5 ∧ ((z5 ≠ (-9) → ((z4 ≠ (-9) → ((z4 = (-9) → wp 0 yX12_partsFrom 78 [some (Rv 88), some (Iv x1), some (Iv x2), some (Iv x3), some (Iv x4), some (Iv x5), some (Iv (x6 + 1)), none, none, none] [] M5 Q) ∧ (z4 ≠ (-9) → 0 ≤ ((41 * (z4 + 1)) + z5) + 1 ∧ (((41 * (z4 + 1)) + z5) + 1 < 1700 ∧ (inr (M5 111 (((41 * (z4 + 1)) + z5) + 1)) ∧ (((M5 111 (((41 * (z4 + 1)) + z5) + 1)) ≠ 0 → wp 0 yX12_partsFrom 78 [some (Rv 88), some (Iv x1), some (Iv x2), some (Iv x3), some (Iv x4), some (Iv x5), some (Iv (x6 + 1)), none, none, none] [] M5 Q) ∧ ((M5 111 (((41 * (z4 + 1)) + z5) + 1)) = 0 → 0 ≤ x2 ∧ (x2 < 1700 ∧ (wp 0 yX12_partsFrom 78 [some (Rv 88), some (Iv x1), some (Iv (x2 + 1)), some (Iv x3), some (Iv x4), some (Iv x5), some (Iv (x6 + 1)), none, none, none] [] (up (up (up (up M5 111 (((41 * (z4 + 1)) + z5) + 1) 1) 108 x2 (((41 * (z4 + 1)) + z5) + 1)) 109 x2 x3) 110 x2 x6) Q))))))))) ∧ (z4 = (-9) → ((z4 = (-9) → wp 0 yX12_partsFrom 78 [some (Rv 88), some (Iv x1), some (Iv x2), some (Iv x3), some (Iv x4), some (Iv x5), some (Iv (x6 + 1)), none, none, none] [] M5 Q) ∧ (z4 ≠ (-9) → inr (M5 111 0) ∧ (((M5 111 0) ≠ 0 → wp 0 yX12_partsFrom 78 [some (Rv 88), some (Iv x1), some (Iv x2), some (Iv x3), some (Iv x4), some (Iv x5), some (Iv (x6 + 1)), none, none, none] [] M5 Q) ∧ ((M5 111 0) = 0 → 0 ≤ x2 ∧ (x2 < 1700 ∧ (wp 0 yX12_partsFrom 78 [some (Rv 88), some (Iv x1), some (Iv (x2 + 1)), some (Iv x3), some (Iv x4), some (Iv x5), some (Iv (x6 + 1)), none, none, none] [] (up (up (up (up M5 111 0 1) 108 x2 0) 109 x2 x3) 110 x2 x6) Q))))))))) ∧ (z5 = (-9) → cl 0 yX12_layPart [Rv 88, Iv x3, Iv x6] M5 (QI (fun z25 M25 => (Q (Iv z25) M25)))))) ∧ (z4 = (-9) → inr z5 ∧ ((z5 ≠ (-9) → cl 0 yX12_layPart [Rv 88, Iv x3, Iv x6] M5 (QI (fun z29 M29 => (Q (Iv z29) M29)))) ∧ (z5 = (-9) → ((z4 ≠ (-9) → ((z4 = (-9) → wp 0 yX12_partsFrom 78 [some (Rv 88), some (Iv x1), some (Iv x2), some (Iv x3), some (Iv x4), some (Iv x5), some (Iv (x6 + 1)), none, none, none] [] M5 Q) ∧ (z4 ≠ (-9) → 0 ≤ ((41 * (z4 + 1)) + z5) + 1 ∧ (((41 * (z4 + 1)) + z5) + 1 < 1700 ∧ (inr (M5 111 (((41 * (z4 + 1)) + z5) + 1)) ∧ (((M5 111 (((41 * (z4 + 1)) + z5) + 1)) ≠ 0 → wp 0 yX12_partsFrom 78 [some (Rv 88), some (Iv x1), some (Iv x2), some (Iv x3), some (Iv x4), some (Iv x5), some (Iv (x6 + 1)), none, none, none] [] M5 Q) ∧ ((M5 111 (((41 * (z4 + 1)) + z5) + 1)) = 0 → 0 ≤ x2 ∧ (x2 < 1700 ∧ (wp 0 yX12_partsFrom 78 [some (Rv 88), some (Iv x1), some (Iv (x2 + 1)), some (Iv x3), some (Iv x4), some (Iv x5), some (Iv (x6 + 1)), none, none, none] [] (up (up (up (up M5 111 (((41 * (z4 + 1)) + z5) + 1) 1) 108 x2 (((41 * (z4 + 1)) + z5) + 1)) 109 x2 x3) 110 x2 x6) Q))))))))) ∧ (z4 = (-9) → ((z4 = (-9) → wp 0 yX12_partsFrom 78 [some (Rv 88), some (Iv x1), some (Iv x2), some (Iv x3), some (Iv x4), some (Iv x5), some (Iv (x6 + 1)), none, none, none] [] M5 Q) ∧ (z4 ≠ (-9) → inr (M5 111 0) ∧ (((M5 111 0) ≠ 0 → wp 0 yX12_partsFrom 78 [some (Rv 88), some (Iv x1), some (Iv x2), some (Iv x3), some (Iv x4), some (Iv x5), some (Iv (x6 + 1)), none, none, none] [] M5 Q) ∧ ((M5 111 0) = 0 → 0 ≤ x2 ∧ (x2 < 1700 ∧ (wp 0 yX12_partsFrom 78 [some (Rv 88), some (Iv x1), some (Iv (x2 + 1)), some (Iv x3), some (Iv x4), some (Iv x5), some (Iv (x6 + 1)), none, none, none] [] (up (up (up (up M5 111 0 1) 108 x2 0) 109 x2 x3) 110 x2 x6) Q)))))))))))))))))))))) : wp 0 yX12_partsFrom 78 [some (Rv 88), some (Iv x1), some (Iv x2), some (Iv x3), some (Iv x4), some (Iv x5), some (Iv x6), none, none, none] [] M Q := by
  refine wp_iload dX12_partsFrom_78 rfl ?_
  refine wp_aload_n dX12_partsFrom_80 rfl (by decide) ?_
  refine wp_getf (t := Iv (M 88 11)) (M 88 11) dX12_partsFrom_81 (fl_X12_110 rfl) kd_88 rfl rfl ?_
  obtain ⟨o1, h⟩ := h
  obtain ⟨o2, h⟩ := h
  refine wp_icmp_ge (tgt := 225) dX12_partsFrom_84 (by decide) o1 o2 (fun q3 => ?_) (fun q3 => ?_)
  · have h := h.1 q3
    refine wp_iinc (L2 := [some (Rv 88), some (Iv x1), some (Iv x2), some (Iv (x3 + 1)), some (Iv x4), some (Iv x5), some (Iv x6), none, none, none]) dX12_partsFrom_225 rfl (Nat.le_of_ble_eq_true rfl) (Nat.le_of_ble_eq_true rfl) rfl ?_
    refine wp_goto (tgt := 48) dX12_partsFrom_228 (by decide) ?_
    exact wp_weak [true, true, true, true, false, false, false, true, true, true] rfl h
  · have h := h.2 q3
    refine wp_aload_n dX12_partsFrom_87 rfl (by decide) ?_
    refine wp_iload_n dX12_partsFrom_88 rfl ?_
    refine wp_iload dX12_partsFrom_89 rfl ?_
    refine wp_iload dX12_partsFrom_91 rfl ?_
    refine wp_callV (e1 := 0) (as := [Iv x1, Iv x4, Iv x6]) (S := []) dX12_partsFrom_93 (cs_X12_206 rfl) kd_88 rfl rfl (Nat.le_of_ble_eq_true rfl) (Nat.le_of_ble_eq_true rfl) h (fun v4 M4 q4 r4 => ?_)
    obtain ⟨z4, rfl⟩ := retV_i r4 rfl
    have h := q4
    refine wp_istore (L2 := [some (Rv 88), some (Iv x1), some (Iv x2), some (Iv x3), some (Iv x4), some (Iv x5), some (Iv x6), some (Iv z4), none, none]) dX12_partsFrom_96 (Nat.le_of_ble_eq_true rfl) (Nat.le_of_ble_eq_true rfl) rfl ?_
    refine wp_aload_n dX12_partsFrom_98 rfl (by decide) ?_
    refine wp_iload dX12_partsFrom_99 rfl ?_
    refine wp_iload dX12_partsFrom_101 rfl ?_
    refine wp_callV (e1 := 0) (as := [Iv x5, Iv x6]) (S := []) dX12_partsFrom_103 (cs_X12_249 rfl) kd_88 rfl rfl (Nat.le_of_ble_eq_true rfl) (Nat.le_of_ble_eq_true rfl) h (fun v5 M5 q5 r5 => ?_)
    obtain ⟨z5, rfl⟩ := retV_i r5 rfl
    have h := q5
    refine wp_istore (L2 := [some (Rv 88), some (Iv x1), some (Iv x2), some (Iv x3), some (Iv x4), some (Iv x5), some (Iv x6), some (Iv z4), some (Iv z5), none]) dX12_partsFrom_106 (Nat.le_of_ble_eq_true rfl) (Nat.le_of_ble_eq_true rfl) rfl ?_
    refine wp_iload dX12_partsFrom_108 rfl ?_
    refine wp_bipush dX12_partsFrom_110 (by decide) ?_
    obtain ⟨o6, h⟩ := h
    refine wp_icmp_ne (tgt := 119) dX12_partsFrom_112 (by decide) (Or.inr ⟨o6, (by decide)⟩) (fun q7 => ?_) (fun q7 => ?_)
    · have h := h.1 q7
      refine wp_iconst dX12_partsFrom_119 ?_
      refine wp_iload dX12_partsFrom_120 rfl ?_
      refine wp_bipush dX12_partsFrom_122 (by decide) ?_
      obtain ⟨o8, h⟩ := h
      refine wp_icmp_ne (tgt := 131) dX12_partsFrom_124 (by decide) (Or.inr ⟨o8, (by decide)⟩) (fun q9 => ?_) (fun q9 => ?_)
      · have h := h.1 q9
        refine wp_iconst dX12_partsFrom_131 ?_
        refine wp_icmp_eq (tgt := 143) dX12_partsFrom_132 (by decide) (Or.inr ⟨(by decide), (by decide)⟩) (fun q10 => ?_) (fun q10 => ?_)
        · have _ := 0
          refine wp_iload dX12_partsFrom_143 rfl ?_
          refine wp_bipush dX12_partsFrom_145 (by decide) ?_
          refine wp_icmp_ne (tgt := 154) dX12_partsFrom_147 (by decide) (Or.inr ⟨o6, (by decide)⟩) (fun q11 => ?_) (fun q11 => ?_)
          · have h := h.1 q11
            refine wp_bipush dX12_partsFrom_154 (by decide) ?_
            refine wp_iload dX12_partsFrom_156 rfl ?_
            refine wp_iconst dX12_partsFrom_158 ?_
            refine wp_iadd dX12_partsFrom_159 ?_
            refine wp_imul dX12_partsFrom_160 ?_
            refine wp_iload dX12_partsFrom_161 rfl ?_
            refine wp_iadd dX12_partsFrom_163 ?_
            refine wp_iconst dX12_partsFrom_164 ?_
            refine wp_iadd dX12_partsFrom_165 ?_
            refine wp_istore (L2 := [some (Rv 88), some (Iv x1), some (Iv x2), some (Iv x3), some (Iv x4), some (Iv x5), some (Iv x6), some (Iv z4), some (Iv z5), some (Iv (((41 * (z4 + 1)) + z5) + 1))]) dX12_partsFrom_166 (Nat.le_of_ble_eq_true rfl) (Nat.le_of_ble_eq_true rfl) rfl ?_
            refine wp_iload dX12_partsFrom_168 rfl ?_
            refine wp_bipush dX12_partsFrom_170 (by decide) ?_
            refine wp_icmp_eq (tgt := 219) dX12_partsFrom_172 (by decide) (Or.inr ⟨o6, (by decide)⟩) (fun q12 => ?_) (fun q12 => ?_)
            · have h := h.1 q12
              refine wp_iinc (L2 := [some (Rv 88), some (Iv x1), some (Iv x2), some (Iv x3), some (Iv x4), some (Iv x5), some (Iv (x6 + 1)), some (Iv z4), some (Iv z5), some (Iv (((41 * (z4 + 1)) + z5) + 1))]) dX12_partsFrom_219 rfl (Nat.le_of_ble_eq_true rfl) (Nat.le_of_ble_eq_true rfl) rfl ?_
              refine wp_goto (tgt := 78) dX12_partsFrom_222 (by decide) ?_
              exact wp_weak [true, true, true, true, true, true, true, false, false, false] rfl h
            · have h := h.2 q12
              refine wp_aload_n dX12_partsFrom_175 rfl (by decide) ?_
              refine wp_getf (t := Rv 111) 111 dX12_partsFrom_176 (fl_X12_78 rfl) kd_88 rfl rfl ?_
              refine wp_iload dX12_partsFrom_179 rfl ?_
              obtain ⟨o13, h⟩ := h
              obtain ⟨o14, h⟩ := h
              refine wp_zald (M5 111 (((41 * (z4 + 1)) + z5) + 1)) dX12_partsFrom_181 kd_111 sz_111 o13 o14 (⟨by omega, by omega⟩) rfl ?_
              obtain ⟨o15, h⟩ := h
              refine wp_if_ne (tgt := 219) dX12_partsFrom_182 (by decide) o15 (fun q16 => ?_) (fun q16 => ?_)
              · have h := h.1 q16
                refine wp_iinc (L2 := [some (Rv 88), some (Iv x1), some (Iv x2), some (Iv x3), some (Iv x4), some (Iv x5), some (Iv (x6 + 1)), some (Iv z4), some (Iv z5), some (Iv (((41 * (z4 + 1)) + z5) + 1))]) dX12_partsFrom_219 rfl (Nat.le_of_ble_eq_true rfl) (Nat.le_of_ble_eq_true rfl) rfl ?_
                refine wp_goto (tgt := 78) dX12_partsFrom_222 (by decide) ?_
                exact wp_weak [true, true, true, true, true, true, true, false, false, false] rfl h
              · have h := h.2 q16
                refine wp_aload_n dX12_partsFrom_185 rfl (by decide) ?_
                refine wp_getf (t := Rv 111) 111 dX12_partsFrom_186 (fl_X12_78 rfl) kd_88 rfl rfl ?_
                refine wp_iload dX12_partsFrom_189 rfl ?_
                refine wp_iconst dX12_partsFrom_191 ?_
                refine wp_zast dX12_partsFrom_192 kd_111 sz_111 o13 o14 (⟨by omega, by omega⟩) (Or.inr rfl) ?_
                refine wp_aload_n dX12_partsFrom_193 rfl (by decide) ?_
                refine wp_getf (t := Rv 108) 108 dX12_partsFrom_194 (fl_X12_69 rfl) kd_88 rfl rfl ?_
                refine wp_iload_n dX12_partsFrom_197 rfl ?_
                refine wp_iload dX12_partsFrom_198 rfl ?_
                obtain ⟨o17, h⟩ := h
                obtain ⟨o18, h⟩ := h
                refine wp_iast dX12_partsFrom_200 kd_108 sz_108 o17 o18 (⟨by omega, by omega⟩) ?_
                refine wp_aload_n dX12_partsFrom_201 rfl (by decide) ?_
                refine wp_getf (t := Rv 109) 109 dX12_partsFrom_202 (fl_X12_72 rfl) kd_88 rfl rfl ?_
                refine wp_iload_n dX12_partsFrom_205 rfl ?_
                refine wp_iload_n dX12_partsFrom_206 rfl ?_
                refine wp_iast dX12_partsFrom_207 kd_109 sz_109 o17 o18 (⟨by omega, by omega⟩) ?_
                refine wp_aload_n dX12_partsFrom_208 rfl (by decide) ?_
                refine wp_getf (t := Rv 110) 110 dX12_partsFrom_209 (fl_X12_75 rfl) kd_88 rfl rfl ?_
                refine wp_iload_n dX12_partsFrom_212 rfl ?_
                refine wp_iload dX12_partsFrom_213 rfl ?_
                refine wp_iast dX12_partsFrom_215 kd_110 sz_110 o17 o18 (⟨by omega, by omega⟩) ?_
                refine wp_iinc (L2 := [some (Rv 88), some (Iv x1), some (Iv (x2 + 1)), some (Iv x3), some (Iv x4), some (Iv x5), some (Iv x6), some (Iv z4), some (Iv z5), some (Iv (((41 * (z4 + 1)) + z5) + 1))]) dX12_partsFrom_216 rfl (Nat.le_of_ble_eq_true rfl) (Nat.le_of_ble_eq_true rfl) rfl ?_
                refine wp_iinc (L2 := [some (Rv 88), some (Iv x1), some (Iv (x2 + 1)), some (Iv x3), some (Iv x4), some (Iv x5), some (Iv (x6 + 1)), some (Iv z4), some (Iv z5), some (Iv (((41 * (z4 + 1)) + z5) + 1))]) dX12_partsFrom_219 rfl (Nat.le_of_ble_eq_true rfl) (Nat.le_of_ble_eq_true rfl) rfl ?_
                refine wp_goto (tgt := 78) dX12_partsFrom_222 (by decide) ?_
                exact wp_weak [true, true, true, true, true, true, true, false, false, false] rfl h
          · have h := h.2 q11
            refine wp_iconst dX12_partsFrom_150 ?_
            refine wp_goto (tgt := 166) dX12_partsFrom_151 (by decide) ?_
            refine wp_istore (L2 := [some (Rv 88), some (Iv x1), some (Iv x2), some (Iv x3), some (Iv x4), some (Iv x5), some (Iv x6), some (Iv z4), some (Iv z5), some (Iv 0)]) dX12_partsFrom_166 (Nat.le_of_ble_eq_true rfl) (Nat.le_of_ble_eq_true rfl) rfl ?_
            refine wp_iload dX12_partsFrom_168 rfl ?_
            refine wp_bipush dX12_partsFrom_170 (by decide) ?_
            refine wp_icmp_eq (tgt := 219) dX12_partsFrom_172 (by decide) (Or.inr ⟨o6, (by decide)⟩) (fun q19 => ?_) (fun q19 => ?_)
            · have h := h.1 q19
              refine wp_iinc (L2 := [some (Rv 88), some (Iv x1), some (Iv x2), some (Iv x3), some (Iv x4), some (Iv x5), some (Iv (x6 + 1)), some (Iv z4), some (Iv z5), some (Iv 0)]) dX12_partsFrom_219 rfl (Nat.le_of_ble_eq_true rfl) (Nat.le_of_ble_eq_true rfl) rfl ?_
              refine wp_goto (tgt := 78) dX12_partsFrom_222 (by decide) ?_
              exact wp_weak [true, true, true, true, true, true, true, false, false, false] rfl h
            · have h := h.2 q19
              refine wp_aload_n dX12_partsFrom_175 rfl (by decide) ?_
              refine wp_getf (t := Rv 111) 111 dX12_partsFrom_176 (fl_X12_78 rfl) kd_88 rfl rfl ?_
              refine wp_iload dX12_partsFrom_179 rfl ?_
              refine wp_zald (M5 111 0) dX12_partsFrom_181 kd_111 sz_111 (by decide) (by decide) (by decide) rfl ?_
              obtain ⟨o20, h⟩ := h
              refine wp_if_ne (tgt := 219) dX12_partsFrom_182 (by decide) o20 (fun q21 => ?_) (fun q21 => ?_)
              · have h := h.1 q21
                refine wp_iinc (L2 := [some (Rv 88), some (Iv x1), some (Iv x2), some (Iv x3), some (Iv x4), some (Iv x5), some (Iv (x6 + 1)), some (Iv z4), some (Iv z5), some (Iv 0)]) dX12_partsFrom_219 rfl (Nat.le_of_ble_eq_true rfl) (Nat.le_of_ble_eq_true rfl) rfl ?_
                refine wp_goto (tgt := 78) dX12_partsFrom_222 (by decide) ?_
                exact wp_weak [true, true, true, true, true, true, true, false, false, false] rfl h
              · have h := h.2 q21
                refine wp_aload_n dX12_partsFrom_185 rfl (by decide) ?_
                refine wp_getf (t := Rv 111) 111 dX12_partsFrom_186 (fl_X12_78 rfl) kd_88 rfl rfl ?_
                refine wp_iload dX12_partsFrom_189 rfl ?_
                refine wp_iconst dX12_partsFrom_191 ?_
                refine wp_zast dX12_partsFrom_192 kd_111 sz_111 (by decide) (by decide) (by decide) (Or.inr rfl) ?_
                refine wp_aload_n dX12_partsFrom_193 rfl (by decide) ?_
                refine wp_getf (t := Rv 108) 108 dX12_partsFrom_194 (fl_X12_69 rfl) kd_88 rfl rfl ?_
                refine wp_iload_n dX12_partsFrom_197 rfl ?_
                refine wp_iload dX12_partsFrom_198 rfl ?_
                obtain ⟨o22, h⟩ := h
                obtain ⟨o23, h⟩ := h
                refine wp_iast dX12_partsFrom_200 kd_108 sz_108 o22 o23 (⟨by omega, by omega⟩) ?_
                refine wp_aload_n dX12_partsFrom_201 rfl (by decide) ?_
                refine wp_getf (t := Rv 109) 109 dX12_partsFrom_202 (fl_X12_72 rfl) kd_88 rfl rfl ?_
                refine wp_iload_n dX12_partsFrom_205 rfl ?_
                refine wp_iload_n dX12_partsFrom_206 rfl ?_
                refine wp_iast dX12_partsFrom_207 kd_109 sz_109 o22 o23 (⟨by omega, by omega⟩) ?_
                refine wp_aload_n dX12_partsFrom_208 rfl (by decide) ?_
                refine wp_getf (t := Rv 110) 110 dX12_partsFrom_209 (fl_X12_75 rfl) kd_88 rfl rfl ?_
                refine wp_iload_n dX12_partsFrom_212 rfl ?_
                refine wp_iload dX12_partsFrom_213 rfl ?_
                refine wp_iast dX12_partsFrom_215 kd_110 sz_110 o22 o23 (⟨by omega, by omega⟩) ?_
                refine wp_iinc (L2 := [some (Rv 88), some (Iv x1), some (Iv (x2 + 1)), some (Iv x3), some (Iv x4), some (Iv x5), some (Iv x6), some (Iv z4), some (Iv z5), some (Iv 0)]) dX12_partsFrom_216 rfl (Nat.le_of_ble_eq_true rfl) (Nat.le_of_ble_eq_true rfl) rfl ?_
                refine wp_iinc (L2 := [some (Rv 88), some (Iv x1), some (Iv (x2 + 1)), some (Iv x3), some (Iv x4), some (Iv x5), some (Iv (x6 + 1)), some (Iv z4), some (Iv z5), some (Iv 0)]) dX12_partsFrom_219 rfl (Nat.le_of_ble_eq_true rfl) (Nat.le_of_ble_eq_true rfl) rfl ?_
                refine wp_goto (tgt := 78) dX12_partsFrom_222 (by decide) ?_
                exact wp_weak [true, true, true, true, true, true, true, false, false, false] rfl h
        · exact absurd q10 (by decide)
      · have h := h.2 q9
        refine wp_iconst dX12_partsFrom_127 ?_
        refine wp_goto (tgt := 132) dX12_partsFrom_128 (by decide) ?_
        refine wp_icmp_eq (tgt := 143) dX12_partsFrom_132 (by decide) (Or.inr ⟨(by decide), (by decide)⟩) (fun q24 => ?_) (fun q24 => ?_)
        · exact absurd q24 (by decide)
        · have _ := 0
          refine wp_aload_n dX12_partsFrom_135 rfl (by decide) ?_
          refine wp_iload_n dX12_partsFrom_136 rfl ?_
          refine wp_iload dX12_partsFrom_137 rfl ?_
          refine wp_callV (e1 := 0) (as := [Iv x3, Iv x6]) (S := []) dX12_partsFrom_139 (cs_X12_252 rfl) kd_88 rfl rfl (Nat.le_of_ble_eq_true rfl) (Nat.le_of_ble_eq_true rfl) h (fun v25 M25 q25 r25 => ?_)
          obtain ⟨z25, rfl⟩ := retV_i r25 rfl
          have h := q25
          exact wp_iret dX12_partsFrom_142 rfl (Or.inr ⟨rfl, rfl, rfl, by decide⟩) rfl h
    · have h := h.2 q7
      refine wp_iconst dX12_partsFrom_115 ?_
      refine wp_goto (tgt := 120) dX12_partsFrom_116 (by decide) ?_
      refine wp_iload dX12_partsFrom_120 rfl ?_
      refine wp_bipush dX12_partsFrom_122 (by decide) ?_
      obtain ⟨o26, h⟩ := h
      refine wp_icmp_ne (tgt := 131) dX12_partsFrom_124 (by decide) (Or.inr ⟨o26, (by decide)⟩) (fun q27 => ?_) (fun q27 => ?_)
      · have h := h.1 q27
        refine wp_iconst dX12_partsFrom_131 ?_
        refine wp_icmp_eq (tgt := 143) dX12_partsFrom_132 (by decide) (Or.inr ⟨(by decide), (by decide)⟩) (fun q28 => ?_) (fun q28 => ?_)
        · exact absurd q28 (by decide)
        · have _ := 0
          refine wp_aload_n dX12_partsFrom_135 rfl (by decide) ?_
          refine wp_iload_n dX12_partsFrom_136 rfl ?_
          refine wp_iload dX12_partsFrom_137 rfl ?_
          refine wp_callV (e1 := 0) (as := [Iv x3, Iv x6]) (S := []) dX12_partsFrom_139 (cs_X12_252 rfl) kd_88 rfl rfl (Nat.le_of_ble_eq_true rfl) (Nat.le_of_ble_eq_true rfl) h (fun v29 M29 q29 r29 => ?_)
          obtain ⟨z29, rfl⟩ := retV_i r29 rfl
          have h := q29
          exact wp_iret dX12_partsFrom_142 rfl (Or.inr ⟨rfl, rfl, rfl, by decide⟩) rfl h
      · have h := h.2 q27
        refine wp_iconst dX12_partsFrom_127 ?_
        refine wp_goto (tgt := 132) dX12_partsFrom_128 (by decide) ?_
        refine wp_icmp_eq (tgt := 143) dX12_partsFrom_132 (by decide) (Or.inr ⟨(by decide), (by decide)⟩) (fun q30 => ?_) (fun q30 => ?_)
        · have _ := 0
          refine wp_iload dX12_partsFrom_143 rfl ?_
          refine wp_bipush dX12_partsFrom_145 (by decide) ?_
          refine wp_icmp_ne (tgt := 154) dX12_partsFrom_147 (by decide) (Or.inr ⟨o6, (by decide)⟩) (fun q31 => ?_) (fun q31 => ?_)
          · have h := h.1 q31
            refine wp_bipush dX12_partsFrom_154 (by decide) ?_
            refine wp_iload dX12_partsFrom_156 rfl ?_
            refine wp_iconst dX12_partsFrom_158 ?_
            refine wp_iadd dX12_partsFrom_159 ?_
            refine wp_imul dX12_partsFrom_160 ?_
            refine wp_iload dX12_partsFrom_161 rfl ?_
            refine wp_iadd dX12_partsFrom_163 ?_
            refine wp_iconst dX12_partsFrom_164 ?_
            refine wp_iadd dX12_partsFrom_165 ?_
            refine wp_istore (L2 := [some (Rv 88), some (Iv x1), some (Iv x2), some (Iv x3), some (Iv x4), some (Iv x5), some (Iv x6), some (Iv z4), some (Iv z5), some (Iv (((41 * (z4 + 1)) + z5) + 1))]) dX12_partsFrom_166 (Nat.le_of_ble_eq_true rfl) (Nat.le_of_ble_eq_true rfl) rfl ?_
            refine wp_iload dX12_partsFrom_168 rfl ?_
            refine wp_bipush dX12_partsFrom_170 (by decide) ?_
            refine wp_icmp_eq (tgt := 219) dX12_partsFrom_172 (by decide) (Or.inr ⟨o6, (by decide)⟩) (fun q32 => ?_) (fun q32 => ?_)
            · have h := h.1 q32
              refine wp_iinc (L2 := [some (Rv 88), some (Iv x1), some (Iv x2), some (Iv x3), some (Iv x4), some (Iv x5), some (Iv (x6 + 1)), some (Iv z4), some (Iv z5), some (Iv (((41 * (z4 + 1)) + z5) + 1))]) dX12_partsFrom_219 rfl (Nat.le_of_ble_eq_true rfl) (Nat.le_of_ble_eq_true rfl) rfl ?_
              refine wp_goto (tgt := 78) dX12_partsFrom_222 (by decide) ?_
              exact wp_weak [true, true, true, true, true, true, true, false, false, false] rfl h
            · have h := h.2 q32
              refine wp_aload_n dX12_partsFrom_175 rfl (by decide) ?_
              refine wp_getf (t := Rv 111) 111 dX12_partsFrom_176 (fl_X12_78 rfl) kd_88 rfl rfl ?_
              refine wp_iload dX12_partsFrom_179 rfl ?_
              obtain ⟨o33, h⟩ := h
              obtain ⟨o34, h⟩ := h
              refine wp_zald (M5 111 (((41 * (z4 + 1)) + z5) + 1)) dX12_partsFrom_181 kd_111 sz_111 o33 o34 (⟨by omega, by omega⟩) rfl ?_
              obtain ⟨o35, h⟩ := h
              refine wp_if_ne (tgt := 219) dX12_partsFrom_182 (by decide) o35 (fun q36 => ?_) (fun q36 => ?_)
              · have h := h.1 q36
                refine wp_iinc (L2 := [some (Rv 88), some (Iv x1), some (Iv x2), some (Iv x3), some (Iv x4), some (Iv x5), some (Iv (x6 + 1)), some (Iv z4), some (Iv z5), some (Iv (((41 * (z4 + 1)) + z5) + 1))]) dX12_partsFrom_219 rfl (Nat.le_of_ble_eq_true rfl) (Nat.le_of_ble_eq_true rfl) rfl ?_
                refine wp_goto (tgt := 78) dX12_partsFrom_222 (by decide) ?_
                exact wp_weak [true, true, true, true, true, true, true, false, false, false] rfl h
              · have h := h.2 q36
                refine wp_aload_n dX12_partsFrom_185 rfl (by decide) ?_
                refine wp_getf (t := Rv 111) 111 dX12_partsFrom_186 (fl_X12_78 rfl) kd_88 rfl rfl ?_
                refine wp_iload dX12_partsFrom_189 rfl ?_
                refine wp_iconst dX12_partsFrom_191 ?_
                refine wp_zast dX12_partsFrom_192 kd_111 sz_111 o33 o34 (⟨by omega, by omega⟩) (Or.inr rfl) ?_
                refine wp_aload_n dX12_partsFrom_193 rfl (by decide) ?_
                refine wp_getf (t := Rv 108) 108 dX12_partsFrom_194 (fl_X12_69 rfl) kd_88 rfl rfl ?_
                refine wp_iload_n dX12_partsFrom_197 rfl ?_
                refine wp_iload dX12_partsFrom_198 rfl ?_
                obtain ⟨o37, h⟩ := h
                obtain ⟨o38, h⟩ := h
                refine wp_iast dX12_partsFrom_200 kd_108 sz_108 o37 o38 (⟨by omega, by omega⟩) ?_
                refine wp_aload_n dX12_partsFrom_201 rfl (by decide) ?_
                refine wp_getf (t := Rv 109) 109 dX12_partsFrom_202 (fl_X12_72 rfl) kd_88 rfl rfl ?_
                refine wp_iload_n dX12_partsFrom_205 rfl ?_
                refine wp_iload_n dX12_partsFrom_206 rfl ?_
                refine wp_iast dX12_partsFrom_207 kd_109 sz_109 o37 o38 (⟨by omega, by omega⟩) ?_
                refine wp_aload_n dX12_partsFrom_208 rfl (by decide) ?_
                refine wp_getf (t := Rv 110) 110 dX12_partsFrom_209 (fl_X12_75 rfl) kd_88 rfl rfl ?_
                refine wp_iload_n dX12_partsFrom_212 rfl ?_
                refine wp_iload dX12_partsFrom_213 rfl ?_
                refine wp_iast dX12_partsFrom_215 kd_110 sz_110 o37 o38 (⟨by omega, by omega⟩) ?_
                refine wp_iinc (L2 := [some (Rv 88), some (Iv x1), some (Iv (x2 + 1)), some (Iv x3), some (Iv x4), some (Iv x5), some (Iv x6), some (Iv z4), some (Iv z5), some (Iv (((41 * (z4 + 1)) + z5) + 1))]) dX12_partsFrom_216 rfl (Nat.le_of_ble_eq_true rfl) (Nat.le_of_ble_eq_true rfl) rfl ?_
                refine wp_iinc (L2 := [some (Rv 88), some (Iv x1), some (Iv (x2 + 1)), some (Iv x3), some (Iv x4), some (Iv x5), some (Iv (x6 + 1)), some (Iv z4), some (Iv z5), some (Iv (((41 * (z4 + 1)) + z5) + 1))]) dX12_partsFrom_219 rfl (Nat.le_of_ble_eq_true rfl) (Nat.le_of_ble_eq_true rfl) rfl ?_
                refine wp_goto (tgt := 78) dX12_partsFrom_222 (by decide) ?_
                exact wp_weak [true, true, true, true, true, true, true, false, false, false] rfl h
          · have h := h.2 q31
            refine wp_iconst dX12_partsFrom_150 ?_
            refine wp_goto (tgt := 166) dX12_partsFrom_151 (by decide) ?_
            refine wp_istore (L2 := [some (Rv 88), some (Iv x1), some (Iv x2), some (Iv x3), some (Iv x4), some (Iv x5), some (Iv x6), some (Iv z4), some (Iv z5), some (Iv 0)]) dX12_partsFrom_166 (Nat.le_of_ble_eq_true rfl) (Nat.le_of_ble_eq_true rfl) rfl ?_
            refine wp_iload dX12_partsFrom_168 rfl ?_
            refine wp_bipush dX12_partsFrom_170 (by decide) ?_
            refine wp_icmp_eq (tgt := 219) dX12_partsFrom_172 (by decide) (Or.inr ⟨o6, (by decide)⟩) (fun q39 => ?_) (fun q39 => ?_)
            · have h := h.1 q39
              refine wp_iinc (L2 := [some (Rv 88), some (Iv x1), some (Iv x2), some (Iv x3), some (Iv x4), some (Iv x5), some (Iv (x6 + 1)), some (Iv z4), some (Iv z5), some (Iv 0)]) dX12_partsFrom_219 rfl (Nat.le_of_ble_eq_true rfl) (Nat.le_of_ble_eq_true rfl) rfl ?_
              refine wp_goto (tgt := 78) dX12_partsFrom_222 (by decide) ?_
              exact wp_weak [true, true, true, true, true, true, true, false, false, false] rfl h
            · have h := h.2 q39
              refine wp_aload_n dX12_partsFrom_175 rfl (by decide) ?_
              refine wp_getf (t := Rv 111) 111 dX12_partsFrom_176 (fl_X12_78 rfl) kd_88 rfl rfl ?_
              refine wp_iload dX12_partsFrom_179 rfl ?_
              refine wp_zald (M5 111 0) dX12_partsFrom_181 kd_111 sz_111 (by decide) (by decide) (by decide) rfl ?_
              obtain ⟨o40, h⟩ := h
              refine wp_if_ne (tgt := 219) dX12_partsFrom_182 (by decide) o40 (fun q41 => ?_) (fun q41 => ?_)
              · have h := h.1 q41
                refine wp_iinc (L2 := [some (Rv 88), some (Iv x1), some (Iv x2), some (Iv x3), some (Iv x4), some (Iv x5), some (Iv (x6 + 1)), some (Iv z4), some (Iv z5), some (Iv 0)]) dX12_partsFrom_219 rfl (Nat.le_of_ble_eq_true rfl) (Nat.le_of_ble_eq_true rfl) rfl ?_
                refine wp_goto (tgt := 78) dX12_partsFrom_222 (by decide) ?_
                exact wp_weak [true, true, true, true, true, true, true, false, false, false] rfl h
              · have h := h.2 q41
                refine wp_aload_n dX12_partsFrom_185 rfl (by decide) ?_
                refine wp_getf (t := Rv 111) 111 dX12_partsFrom_186 (fl_X12_78 rfl) kd_88 rfl rfl ?_
                refine wp_iload dX12_partsFrom_189 rfl ?_
                refine wp_iconst dX12_partsFrom_191 ?_
                refine wp_zast dX12_partsFrom_192 kd_111 sz_111 (by decide) (by decide) (by decide) (Or.inr rfl) ?_
                refine wp_aload_n dX12_partsFrom_193 rfl (by decide) ?_
                refine wp_getf (t := Rv 108) 108 dX12_partsFrom_194 (fl_X12_69 rfl) kd_88 rfl rfl ?_
                refine wp_iload_n dX12_partsFrom_197 rfl ?_
                refine wp_iload dX12_partsFrom_198 rfl ?_
                obtain ⟨o42, h⟩ := h
                obtain ⟨o43, h⟩ := h
                refine wp_iast dX12_partsFrom_200 kd_108 sz_108 o42 o43 (⟨by omega, by omega⟩) ?_
                refine wp_aload_n dX12_partsFrom_201 rfl (by decide) ?_
                refine wp_getf (t := Rv 109) 109 dX12_partsFrom_202 (fl_X12_72 rfl) kd_88 rfl rfl ?_
                refine wp_iload_n dX12_partsFrom_205 rfl ?_
                refine wp_iload_n dX12_partsFrom_206 rfl ?_
                refine wp_iast dX12_partsFrom_207 kd_109 sz_109 o42 o43 (⟨by omega, by omega⟩) ?_
                refine wp_aload_n dX12_partsFrom_208 rfl (by decide) ?_
                refine wp_getf (t := Rv 110) 110 dX12_partsFrom_209 (fl_X12_75 rfl) kd_88 rfl rfl ?_
                refine wp_iload_n dX12_partsFrom_212 rfl ?_
                refine wp_iload dX12_partsFrom_213 rfl ?_
                refine wp_iast dX12_partsFrom_215 kd_110 sz_110 o42 o43 (⟨by omega, by omega⟩) ?_
                refine wp_iinc (L2 := [some (Rv 88), some (Iv x1), some (Iv (x2 + 1)), some (Iv x3), some (Iv x4), some (Iv x5), some (Iv x6), some (Iv z4), some (Iv z5), some (Iv 0)]) dX12_partsFrom_216 rfl (Nat.le_of_ble_eq_true rfl) (Nat.le_of_ble_eq_true rfl) rfl ?_
                refine wp_iinc (L2 := [some (Rv 88), some (Iv x1), some (Iv (x2 + 1)), some (Iv x3), some (Iv x4), some (Iv x5), some (Iv (x6 + 1)), some (Iv z4), some (Iv z5), some (Iv 0)]) dX12_partsFrom_219 rfl (Nat.le_of_ble_eq_true rfl) (Nat.le_of_ble_eq_true rfl) rfl ?_
                refine wp_goto (tgt := 78) dX12_partsFrom_222 (by decide) ?_
                exact wp_weak [true, true, true, true, true, true, true, false, false, false] rfl h
        · exact absurd q30 (by decide)
theorem gX12_layPart {x1 x2 : Int}  {M : Mem} {Q : Vl → Mem → Prop} (h : wp 0 yX12_layPart 5 [some (Rv 88), some (Iv x1), some (Iv x2), some (Iv 1), some (Iv x1), none] [] M Q) : wp 0 yX12_layPart 0 [some (Rv 88), some (Iv x1), some (Iv x2), none, none, none] [] M Q := by
  refine wp_iconst dX12_layPart_0 ?_
  refine wp_istore_n (L2 := [some (Rv 88), some (Iv x1), some (Iv x2), some (Iv 1), none, none]) dX12_layPart_1 (Nat.le_of_ble_eq_true rfl) (Nat.le_of_ble_eq_true rfl) rfl ?_
  refine wp_iload_n dX12_layPart_2 rfl ?_
  refine wp_istore (L2 := [some (Rv 88), some (Iv x1), some (Iv x2), some (Iv 1), some (Iv x1), none]) dX12_layPart_3 (Nat.le_of_ble_eq_true rfl) (Nat.le_of_ble_eq_true rfl) rfl ?_
  exact h
theorem eX12_layPart {x1 x2 : Int}  {M : Mem} {Q : Vl → Mem → Prop} (h : wp 0 yX12_layPart 5 [some (Rv 88), some (Iv x1), some (Iv x2), some (Iv 1), some (Iv x1), none] [] M Q) : cl 0 yX12_layPart [Rv 88, Iv x1, Iv x2] M Q := enterG (by decide +kernel) (by exact Or.inr (Or.inl rfl)) (Nat.le_of_ble_eq_true rfl) rfl (gX12_layPart h)
theorem gX12_layPart_5 {x1 x2 x3 x4 : Int}  {M : Mem} {Q : Vl → Mem → Prop} (h : 0 ≤ x4 ∧ (x4 < 1700 ∧ (inr (M 109 x4) ∧ (((M 109 x4) = (-9) → inr (x3 - 1) ∧ ((40 ≤ (x3 - 1) → wp 0 yX12_layPart 60 [some (Rv 88), some (Iv x1), some (Iv x2), some (Iv x3), some (Iv (x3 - 1)), some (Iv x1)] [] (up M 88 17 x3) Q) ∧ ((x3 - 1) < 40 → 0 ≤ x3 - 1 ∧ (x3 - 1 < 40 ∧ (wp 0 yX12_layPart 60 [some (Rv 88), some (Iv x1), some (Iv x2), some (Iv x3), some (Iv (x3 - 1)), some (Iv x1)] [] (up (up M 88 17 x3) 100 (x3 - 1) x2) Q))))) ∧ ((M 109 x4) ≠ (-9) → wp 0 yX12_layPart 5 [some (Rv 88), some (Iv x1), some (Iv x2), some (Iv (x3 + 1)), some (Iv (M 109 x4)), none] [] M Q))))) : wp 0 yX12_layPart 5 [some (Rv 88), some (Iv x1), some (Iv x2), some (Iv x3), some (Iv x4), none] [] M Q := by
  refine wp_aload_n dX12_layPart_5 rfl (by decide) ?_
  refine wp_getf (t := Rv 109) 109 dX12_layPart_6 (fl_X12_72 rfl) kd_88 rfl rfl ?_
  refine wp_iload dX12_layPart_9 rfl ?_
  obtain ⟨o1, h⟩ := h
  obtain ⟨o2, h⟩ := h
  refine wp_iald (M 109 x4) dX12_layPart_11 kd_109 sz_109 o1 o2 (⟨by omega, by omega⟩) rfl ?_
  refine wp_bipush dX12_layPart_12 (by decide) ?_
  obtain ⟨o3, h⟩ := h
  refine wp_icmp_eq (tgt := 32) dX12_layPart_14 (by decide) (Or.inr ⟨o3, (by decide)⟩) (fun q4 => ?_) (fun q4 => ?_)
  · have h := h.1 q4
    refine wp_aload_n dX12_layPart_32 rfl (by decide) ?_
    refine wp_iload_n dX12_layPart_33 rfl ?_
    refine wp_putf (x := x3) dX12_layPart_34 (fl_X12_151 rfl) kd_88 (fun _ => rfl) rfl rfl trivial ?_
    refine wp_iload_n dX12_layPart_37 rfl ?_
    refine wp_iconst dX12_layPart_38 ?_
    refine wp_isub dX12_layPart_39 ?_
    refine wp_istore (L2 := [some (Rv 88), some (Iv x1), some (Iv x2), some (Iv x3), some (Iv (x3 - 1)), none]) dX12_layPart_40 (Nat.le_of_ble_eq_true rfl) (Nat.le_of_ble_eq_true rfl) rfl ?_
    refine wp_iload dX12_layPart_42 rfl ?_
    refine wp_bipush dX12_layPart_44 (by decide) ?_
    obtain ⟨o5, h⟩ := h
    refine wp_icmp_ge (tgt := 57) dX12_layPart_46 (by decide) o5 (by decide) (fun q6 => ?_) (fun q6 => ?_)
    · have h := h.1 q6
      refine wp_iload_n dX12_layPart_57 rfl ?_
      refine wp_istore (L2 := [some (Rv 88), some (Iv x1), some (Iv x2), some (Iv x3), some (Iv (x3 - 1)), some (Iv x1)]) dX12_layPart_58 (Nat.le_of_ble_eq_true rfl) (Nat.le_of_ble_eq_true rfl) rfl ?_
      exact h
    · have h := h.2 q6
      refine wp_aload_n dX12_layPart_49 rfl (by decide) ?_
      refine wp_getf (t := Rv 100) 100 dX12_layPart_50 (fl_X12_44 rfl) kd_88 rfl rfl ?_
      refine wp_iload dX12_layPart_53 rfl ?_
      refine wp_iload_n dX12_layPart_55 rfl ?_
      obtain ⟨o7, h⟩ := h
      obtain ⟨o8, h⟩ := h
      refine wp_iast dX12_layPart_56 kd_100 sz_100 o7 o8 (⟨by omega, by omega⟩) ?_
      refine wp_iload_n dX12_layPart_57 rfl ?_
      refine wp_istore (L2 := [some (Rv 88), some (Iv x1), some (Iv x2), some (Iv x3), some (Iv (x3 - 1)), some (Iv x1)]) dX12_layPart_58 (Nat.le_of_ble_eq_true rfl) (Nat.le_of_ble_eq_true rfl) rfl ?_
      exact h
  · have h := h.2 q4
    refine wp_iinc (L2 := [some (Rv 88), some (Iv x1), some (Iv x2), some (Iv (x3 + 1)), some (Iv x4), none]) dX12_layPart_17 rfl (Nat.le_of_ble_eq_true rfl) (Nat.le_of_ble_eq_true rfl) rfl ?_
    refine wp_aload_n dX12_layPart_20 rfl (by decide) ?_
    refine wp_getf (t := Rv 109) 109 dX12_layPart_21 (fl_X12_72 rfl) kd_88 rfl rfl ?_
    refine wp_iload dX12_layPart_24 rfl ?_
    refine wp_iald (M 109 x4) dX12_layPart_26 kd_109 sz_109 o1 o2 (⟨by omega, by omega⟩) rfl ?_
    refine wp_istore (L2 := [some (Rv 88), some (Iv x1), some (Iv x2), some (Iv (x3 + 1)), some (Iv (M 109 x4)), none]) dX12_layPart_27 (Nat.le_of_ble_eq_true rfl) (Nat.le_of_ble_eq_true rfl) rfl ?_
    refine wp_goto (tgt := 5) dX12_layPart_29 (by decide) ?_
    exact h
theorem gX12_layPart_60 {x1 x2 x3 x4 x5 : Int}  {M : Mem} {Q : Vl → Mem → Prop} (h : 0 ≤ x5 ∧ (x5 < 1700 ∧ (inr (M 109 x5) ∧ (((M 109 x5) = (-9) → Q (Iv x3) M) ∧ ((M 109 x5) ≠ (-9) → 0 ≤ x4 + (-1) ∧ (x4 + (-1) < 40 ∧ (wp 0 yX12_layPart 60 [some (Rv 88), some (Iv x1), some (Iv x2), some (Iv x3), some (Iv (x4 + (-1))), some (Iv (M 109 x5))] [] (up M 100 (x4 + (-1)) (M 110 x5)) Q))))))) : wp 0 yX12_layPart 60 [some (Rv 88), some (Iv x1), some (Iv x2), some (Iv x3), some (Iv x4), some (Iv x5)] [] M Q := by
  refine wp_aload_n dX12_layPart_60 rfl (by decide) ?_
  refine wp_getf (t := Rv 109) 109 dX12_layPart_61 (fl_X12_72 rfl) kd_88 rfl rfl ?_
  refine wp_iload dX12_layPart_64 rfl ?_
  obtain ⟨o1, h⟩ := h
  obtain ⟨o2, h⟩ := h
  refine wp_iald (M 109 x5) dX12_layPart_66 kd_109 sz_109 o1 o2 (⟨by omega, by omega⟩) rfl ?_
  refine wp_bipush dX12_layPart_67 (by decide) ?_
  obtain ⟨o3, h⟩ := h
  refine wp_icmp_eq (tgt := 101) dX12_layPart_69 (by decide) (Or.inr ⟨o3, (by decide)⟩) (fun q4 => ?_) (fun q4 => ?_)
  · have h := h.1 q4
    refine wp_iload_n dX12_layPart_101 rfl ?_
    exact wp_iret dX12_layPart_102 rfl (Or.inr ⟨rfl, rfl, rfl, by decide⟩) rfl h
  · have h := h.2 q4
    refine wp_iinc (L2 := [some (Rv 88), some (Iv x1), some (Iv x2), some (Iv x3), some (Iv (x4 + (-1))), some (Iv x5)]) dX12_layPart_72 rfl (Nat.le_of_ble_eq_true rfl) (Nat.le_of_ble_eq_true rfl) rfl ?_
    refine wp_aload_n dX12_layPart_75 rfl (by decide) ?_
    refine wp_getf (t := Rv 100) 100 dX12_layPart_76 (fl_X12_44 rfl) kd_88 rfl rfl ?_
    refine wp_iload dX12_layPart_79 rfl ?_
    refine wp_aload_n dX12_layPart_81 rfl (by decide) ?_
    refine wp_getf (t := Rv 110) 110 dX12_layPart_82 (fl_X12_75 rfl) kd_88 rfl rfl ?_
    refine wp_iload dX12_layPart_85 rfl ?_
    refine wp_iald (M 110 x5) dX12_layPart_87 kd_110 sz_110 o1 o2 (⟨by omega, by omega⟩) rfl ?_
    obtain ⟨o5, h⟩ := h
    obtain ⟨o6, h⟩ := h
    refine wp_iast dX12_layPart_88 kd_100 sz_100 o5 o6 (⟨by omega, by omega⟩) ?_
    refine wp_aload_n dX12_layPart_89 rfl (by decide) ?_
    refine wp_getf (t := Rv 109) 109 dX12_layPart_90 (fl_X12_72 rfl) kd_88 rfl rfl ?_
    refine wp_iload dX12_layPart_93 rfl ?_
    refine wp_iald (M 109 x5) dX12_layPart_95 kd_109 sz_109 o1 o2 (⟨by omega, by omega⟩) rfl ?_
    refine wp_istore (L2 := [some (Rv 88), some (Iv x1), some (Iv x2), some (Iv x3), some (Iv (x4 + (-1))), some (Iv (M 109 x5))]) dX12_layPart_96 (Nat.le_of_ble_eq_true rfl) (Nat.le_of_ble_eq_true rfl) rfl ?_
    refine wp_goto (tgt := 60) dX12_layPart_98 (by decide) ?_
    exact h
theorem gX12_alike {x1 x2 x3 : Int}  {M : Mem} {Q : Vl → Mem → Prop} (h : cl 0 yX12_in [Iv x3, Iv 0, Iv 40] M (QI (fun z1 M1 => (cl 0 yX12_needTwo [Rv 88, Iv z1, Iv x1, Iv x2] M1 (QI (fun z2 M2 => (inr z2 ∧ ((0 ≤ z2 → cl 0 yX12_layOther [Rv 88, Iv x2] M2 (QV (fun M5 => (cl 0 yX12_partsFrom [Rv 88, Iv x1] M5 (QI (fun z6 M6 => (inr z6 ∧ ((z6 = (-9) → Q (Iv 1) M6) ∧ (z6 ≠ (-9) → inr x3 ∧ ((z6 ≤ x3 → Q (Iv 0) M6) ∧ (x3 < z6 → Q (Iv 1) M6))))))))))) ∧ (z2 < 0 → Q (Iv z2) M2))))))))) : wp 0 yX12_alike 0 [some (Rv 88), some (Iv x1), some (Iv x2), some (Iv x3), none, none] [] M Q := by
  refine wp_aload_n dX12_alike_0 rfl (by decide) ?_
  refine wp_iload_n dX12_alike_1 rfl ?_
  refine wp_iconst dX12_alike_2 ?_
  refine wp_bipush dX12_alike_3 (by decide) ?_
  refine wp_callS (e1 := 0) (as := [Iv x3, Iv 0, Iv 40]) (S := [Rv 88]) dX12_alike_5 (cs_X12_117 rfl) rfl rfl (Nat.le_of_ble_eq_true rfl) (Nat.le_of_ble_eq_true rfl) h (fun v1 M1 q1 r1 => ?_)
  obtain ⟨z1, rfl, hz1⟩ := retV_z r1 rfl
  have h := q1
  refine wp_iload_n dX12_alike_8 rfl ?_
  refine wp_iload_n dX12_alike_9 rfl ?_
  refine wp_callV (e1 := 0) (as := [Iv z1, Iv x1, Iv x2]) (S := []) dX12_alike_10 (cs_X12_188 rfl) kd_88 rfl rfl (Nat.le_of_ble_eq_true rfl) (Nat.le_of_ble_eq_true rfl) h (fun v2 M2 q2 r2 => ?_)
  obtain ⟨z2, rfl⟩ := retV_i r2 rfl
  have h := q2
  refine wp_istore (L2 := [some (Rv 88), some (Iv x1), some (Iv x2), some (Iv x3), some (Iv z2), none]) dX12_alike_13 (Nat.le_of_ble_eq_true rfl) (Nat.le_of_ble_eq_true rfl) rfl ?_
  refine wp_iload dX12_alike_15 rfl ?_
  obtain ⟨o3, h⟩ := h
  refine wp_if_ge (tgt := 23) dX12_alike_17 (by decide) o3 (fun q4 => ?_) (fun q4 => ?_)
  · have h := h.1 q4
    refine wp_aload_n dX12_alike_23 rfl (by decide) ?_
    refine wp_iload_n dX12_alike_24 rfl ?_
    refine wp_callV (e1 := 0) (as := [Iv x2]) (S := []) dX12_alike_25 (cs_X12_255 rfl) kd_88 rfl rfl (Nat.le_of_ble_eq_true rfl) (Nat.le_of_ble_eq_true rfl) h (fun v5 M5 q5 r5 => ?_)
    have h := q5
    refine wp_aload_n dX12_alike_28 rfl (by decide) ?_
    refine wp_iload_n dX12_alike_29 rfl ?_
    refine wp_callV (e1 := 0) (as := [Iv x1]) (S := []) dX12_alike_30 (cs_X12_258 rfl) kd_88 rfl rfl (Nat.le_of_ble_eq_true rfl) (Nat.le_of_ble_eq_true rfl) h (fun v6 M6 q6 r6 => ?_)
    obtain ⟨z6, rfl⟩ := retV_i r6 rfl
    have h := q6
    refine wp_istore (L2 := [some (Rv 88), some (Iv x1), some (Iv x2), some (Iv x3), some (Iv z2), some (Iv z6)]) dX12_alike_33 (Nat.le_of_ble_eq_true rfl) (Nat.le_of_ble_eq_true rfl) rfl ?_
    refine wp_iload dX12_alike_35 rfl ?_
    refine wp_bipush dX12_alike_37 (by decide) ?_
    obtain ⟨o7, h⟩ := h
    refine wp_icmp_eq (tgt := 48) dX12_alike_39 (by decide) (Or.inr ⟨o7, (by decide)⟩) (fun q8 => ?_) (fun q8 => ?_)
    · have h := h.1 q8
      refine wp_iconst dX12_alike_48 ?_
      refine wp_goto (tgt := 53) dX12_alike_49 (by decide) ?_
      exact wp_iret dX12_alike_53 rfl (Or.inr ⟨rfl, rfl, rfl, by decide⟩) rfl h
    · have h := h.2 q8
      refine wp_iload dX12_alike_42 rfl ?_
      refine wp_iload_n dX12_alike_44 rfl ?_
      obtain ⟨o9, h⟩ := h
      refine wp_icmp_le (tgt := 52) dX12_alike_45 (by decide) o7 o9 (fun q10 => ?_) (fun q10 => ?_)
      · have h := h.1 q10
        refine wp_iconst dX12_alike_52 ?_
        exact wp_iret dX12_alike_53 rfl (Or.inr ⟨rfl, rfl, rfl, by decide⟩) rfl h
      · have h := h.2 q10
        refine wp_iconst dX12_alike_48 ?_
        refine wp_goto (tgt := 53) dX12_alike_49 (by decide) ?_
        exact wp_iret dX12_alike_53 rfl (Or.inr ⟨rfl, rfl, rfl, by decide⟩) rfl h
  · have h := h.2 q4
    refine wp_iload dX12_alike_20 rfl ?_
    exact wp_iret dX12_alike_22 rfl (Or.inr ⟨rfl, rfl, rfl, by decide⟩) rfl h
theorem eX12_alike {x1 x2 x3 : Int}  {M : Mem} {Q : Vl → Mem → Prop} (h : cl 0 yX12_in [Iv x3, Iv 0, Iv 40] M (QI (fun z1 M1 => (cl 0 yX12_needTwo [Rv 88, Iv z1, Iv x1, Iv x2] M1 (QI (fun z2 M2 => (inr z2 ∧ ((0 ≤ z2 → cl 0 yX12_layOther [Rv 88, Iv x2] M2 (QV (fun M5 => (cl 0 yX12_partsFrom [Rv 88, Iv x1] M5 (QI (fun z6 M6 => (inr z6 ∧ ((z6 = (-9) → Q (Iv 1) M6) ∧ (z6 ≠ (-9) → inr x3 ∧ ((z6 ≤ x3 → Q (Iv 0) M6) ∧ (x3 < z6 → Q (Iv 1) M6))))))))))) ∧ (z2 < 0 → Q (Iv z2) M2))))))))) : cl 0 yX12_alike [Rv 88, Iv x1, Iv x2, Iv x3] M Q := enterG (by decide +kernel) (by exact Or.inr (Or.inl rfl)) (Nat.le_of_ble_eq_true rfl) rfl (gX12_alike h)
theorem gX12_parting {x1 x2 x3 : Int}  {M : Mem} {Q : Vl → Mem → Prop} (h : cl 0 yX12_isRow [Iv x3] M (QI (fun z1 M1 => (cl 0 yX12_needTwo [Rv 88, Iv z1, Iv x1, Iv x2] M1 (QI (fun z2 M2 => (inr z2 ∧ ((0 ≤ z2 → cl 0 yX12_layOther [Rv 88, Iv x2] M2 (QV (fun M5 => (cl 0 yX12_partsFrom [Rv 88, Iv x1] M5 (QI (fun z6 M6 => (inr z6 ∧ ((z6 ≠ (-9) → ((z6 ≤ 40 → cl 0 yX12_comesToRow [Rv 88, Iv x3] (up M6 88 17 z6) (QV (fun M10 => (Q (Iv z6) M10)))) ∧ (40 < z6 → cl 0 yX12_comesToRow [Rv 88, Iv x3] (up M6 88 17 40) (QV (fun M11 => (Q (Iv z6) M11)))))) ∧ (z6 = (-9) → Q (Iv (-9)) M6))))))))) ∧ (z2 < 0 → Q (Iv z2) M2))))))))) : wp 0 yX12_parting 0 [some (Rv 88), some (Iv x1), some (Iv x2), some (Iv x3), none, none] [] M Q := by
  refine wp_aload_n dX12_parting_0 rfl (by decide) ?_
  refine wp_iload_n dX12_parting_1 rfl ?_
  refine wp_callS (e1 := 0) (as := [Iv x3]) (S := [Rv 88]) dX12_parting_2 (cs_X12_130 rfl) rfl rfl (Nat.le_of_ble_eq_true rfl) (Nat.le_of_ble_eq_true rfl) h (fun v1 M1 q1 r1 => ?_)
  obtain ⟨z1, rfl, hz1⟩ := retV_z r1 rfl
  have h := q1
  refine wp_iload_n dX12_parting_5 rfl ?_
  refine wp_iload_n dX12_parting_6 rfl ?_
  refine wp_callV (e1 := 0) (as := [Iv z1, Iv x1, Iv x2]) (S := []) dX12_parting_7 (cs_X12_188 rfl) kd_88 rfl rfl (Nat.le_of_ble_eq_true rfl) (Nat.le_of_ble_eq_true rfl) h (fun v2 M2 q2 r2 => ?_)
  obtain ⟨z2, rfl⟩ := retV_i r2 rfl
  have h := q2
  refine wp_istore (L2 := [some (Rv 88), some (Iv x1), some (Iv x2), some (Iv x3), some (Iv z2), none]) dX12_parting_10 (Nat.le_of_ble_eq_true rfl) (Nat.le_of_ble_eq_true rfl) rfl ?_
  refine wp_iload dX12_parting_12 rfl ?_
  obtain ⟨o3, h⟩ := h
  refine wp_if_ge (tgt := 20) dX12_parting_14 (by decide) o3 (fun q4 => ?_) (fun q4 => ?_)
  · have h := h.1 q4
    refine wp_aload_n dX12_parting_20 rfl (by decide) ?_
    refine wp_iload_n dX12_parting_21 rfl ?_
    refine wp_callV (e1 := 0) (as := [Iv x2]) (S := []) dX12_parting_22 (cs_X12_255 rfl) kd_88 rfl rfl (Nat.le_of_ble_eq_true rfl) (Nat.le_of_ble_eq_true rfl) h (fun v5 M5 q5 r5 => ?_)
    have h := q5
    refine wp_aload_n dX12_parting_25 rfl (by decide) ?_
    refine wp_iload_n dX12_parting_26 rfl ?_
    refine wp_callV (e1 := 0) (as := [Iv x1]) (S := []) dX12_parting_27 (cs_X12_258 rfl) kd_88 rfl rfl (Nat.le_of_ble_eq_true rfl) (Nat.le_of_ble_eq_true rfl) h (fun v6 M6 q6 r6 => ?_)
    obtain ⟨z6, rfl⟩ := retV_i r6 rfl
    have h := q6
    refine wp_istore (L2 := [some (Rv 88), some (Iv x1), some (Iv x2), some (Iv x3), some (Iv z2), some (Iv z6)]) dX12_parting_30 (Nat.le_of_ble_eq_true rfl) (Nat.le_of_ble_eq_true rfl) rfl ?_
    refine wp_iload dX12_parting_32 rfl ?_
    refine wp_bipush dX12_parting_34 (by decide) ?_
    obtain ⟨o7, h⟩ := h
    refine wp_icmp_ne (tgt := 42) dX12_parting_36 (by decide) (Or.inr ⟨o7, (by decide)⟩) (fun q8 => ?_) (fun q8 => ?_)
    · have h := h.1 q8
      refine wp_aload_n dX12_parting_42 rfl (by decide) ?_
      refine wp_iload dX12_parting_43 rfl ?_
      refine wp_bipush dX12_parting_45 (by decide) ?_
      refine wp_icmp_le (tgt := 55) dX12_parting_47 (by decide) o7 (by decide) (fun q9 => ?_) (fun q9 => ?_)
      · have h := h.1 q9
        refine wp_iload dX12_parting_55 rfl ?_
        refine wp_putf (x := z6) dX12_parting_57 (fl_X12_151 rfl) kd_88 (fun _ => rfl) rfl rfl trivial ?_
        refine wp_aload_n dX12_parting_60 rfl (by decide) ?_
        refine wp_iload_n dX12_parting_61 rfl ?_
        refine wp_callV (e1 := 0) (as := [Iv x3]) (S := []) dX12_parting_62 (cs_X12_214 rfl) kd_88 rfl rfl (Nat.le_of_ble_eq_true rfl) (Nat.le_of_ble_eq_true rfl) h (fun v10 M10 q10 r10 => ?_)
        have h := q10
        refine wp_iload dX12_parting_65 rfl ?_
        exact wp_iret dX12_parting_67 rfl (Or.inr ⟨rfl, rfl, rfl, by decide⟩) rfl h
      · have h := h.2 q9
        refine wp_bipush dX12_parting_50 (by decide) ?_
        refine wp_goto (tgt := 57) dX12_parting_52 (by decide) ?_
        refine wp_putf (x := 40) dX12_parting_57 (fl_X12_151 rfl) kd_88 (fun _ => rfl) rfl rfl trivial ?_
        refine wp_aload_n dX12_parting_60 rfl (by decide) ?_
        refine wp_iload_n dX12_parting_61 rfl ?_
        refine wp_callV (e1 := 0) (as := [Iv x3]) (S := []) dX12_parting_62 (cs_X12_214 rfl) kd_88 rfl rfl (Nat.le_of_ble_eq_true rfl) (Nat.le_of_ble_eq_true rfl) h (fun v11 M11 q11 r11 => ?_)
        have h := q11
        refine wp_iload dX12_parting_65 rfl ?_
        exact wp_iret dX12_parting_67 rfl (Or.inr ⟨rfl, rfl, rfl, by decide⟩) rfl h
    · have h := h.2 q8
      refine wp_bipush dX12_parting_39 (by decide) ?_
      exact wp_iret dX12_parting_41 rfl (Or.inr ⟨rfl, rfl, rfl, by decide⟩) rfl h
  · have h := h.2 q4
    refine wp_iload dX12_parting_17 rfl ?_
    exact wp_iret dX12_parting_19 rfl (Or.inr ⟨rfl, rfl, rfl, by decide⟩) rfl h
theorem eX12_parting {x1 x2 x3 : Int}  {M : Mem} {Q : Vl → Mem → Prop} (h : cl 0 yX12_isRow [Iv x3] M (QI (fun z1 M1 => (cl 0 yX12_needTwo [Rv 88, Iv z1, Iv x1, Iv x2] M1 (QI (fun z2 M2 => (inr z2 ∧ ((0 ≤ z2 → cl 0 yX12_layOther [Rv 88, Iv x2] M2 (QV (fun M5 => (cl 0 yX12_partsFrom [Rv 88, Iv x1] M5 (QI (fun z6 M6 => (inr z6 ∧ ((z6 ≠ (-9) → ((z6 ≤ 40 → cl 0 yX12_comesToRow [Rv 88, Iv x3] (up M6 88 17 z6) (QV (fun M10 => (Q (Iv z6) M10)))) ∧ (40 < z6 → cl 0 yX12_comesToRow [Rv 88, Iv x3] (up M6 88 17 40) (QV (fun M11 => (Q (Iv z6) M11)))))) ∧ (z6 = (-9) → Q (Iv (-9)) M6))))))))) ∧ (z2 < 0 → Q (Iv z2) M2))))))))) : cl 0 yX12_parting [Rv 88, Iv x1, Iv x2, Iv x3] M Q := enterG (by decide +kernel) (by exact Or.inr (Or.inl rfl)) (Nat.le_of_ble_eq_true rfl) rfl (gX12_parting h)
theorem gX12_drop {x1 x2 x3 : Int}  {M : Mem} {Q : Vl → Mem → Prop} (h : cl 0 yX12_isWord [Iv x1] M (QI (fun z1 M1 => ((z1 = 0 → cl 0 yX12_needWord [Rv 88, Iv 0, Iv x2] M1 (QI (fun z3 M3 => (inr z3 ∧ ((0 ≤ z3 → cl 0 yX12_layOther [Rv 88, Iv x2] M3 (QV (fun M6 => (wp 0 yX12_drop 45 [some (Rv 88), some (Iv x1), some (Iv x2), some (Iv x3), some (Iv z3), some (Iv 0), none, none] [] M6 Q)))) ∧ (z3 < 0 → Q (Iv z3) M3)))))) ∧ (z1 ≠ 0 → cl 0 yX12_in [Iv x3, Iv 0, Iv 40] M1 (QI (fun z7 M7 => ((z7 = 0 → cl 0 yX12_needWord [Rv 88, Iv 0, Iv x2] M7 (QI (fun z9 M9 => (inr z9 ∧ ((0 ≤ z9 → cl 0 yX12_layOther [Rv 88, Iv x2] M9 (QV (fun M12 => (wp 0 yX12_drop 45 [some (Rv 88), some (Iv x1), some (Iv x2), some (Iv x3), some (Iv z9), some (Iv 0), none, none] [] M12 Q)))) ∧ (z9 < 0 → Q (Iv z9) M9)))))) ∧ (z7 ≠ 0 → cl 0 yX12_needWord [Rv 88, Iv 1, Iv x2] M7 (QI (fun z13 M13 => (inr z13 ∧ ((0 ≤ z13 → cl 0 yX12_layOther [Rv 88, Iv x2] M13 (QV (fun M16 => (wp 0 yX12_drop 45 [some (Rv 88), some (Iv x1), some (Iv x2), some (Iv x3), some (Iv z13), some (Iv 0), none, none] [] M16 Q)))) ∧ (z13 < 0 → Q (Iv z13) M13)))))))))))))) : wp 0 yX12_drop 0 [some (Rv 88), some (Iv x1), some (Iv x2), some (Iv x3), none, none, none, none] [] M Q := by
  refine wp_aload_n dX12_drop_0 rfl (by decide) ?_
  refine wp_iload_n dX12_drop_1 rfl ?_
  refine wp_callS (e1 := 0) (as := [Iv x1]) (S := [Rv 88]) dX12_drop_2 (cs_X12_154 rfl) rfl rfl (Nat.le_of_ble_eq_true rfl) (Nat.le_of_ble_eq_true rfl) h (fun v1 M1 q1 r1 => ?_)
  obtain ⟨z1, rfl, hz1⟩ := retV_z r1 rfl
  have h := q1
  refine wp_if_eq (tgt := 22) dX12_drop_5 (by decide) (by have := hz1; omega) (fun q2 => ?_) (fun q2 => ?_)
  · have h := h.1 q2
    refine wp_iconst dX12_drop_22 ?_
    refine wp_iload_n dX12_drop_23 rfl ?_
    refine wp_callV (e1 := 0) (as := [Iv 0, Iv x2]) (S := []) dX12_drop_24 (cs_X12_192 rfl) kd_88 rfl rfl (Nat.le_of_ble_eq_true rfl) (Nat.le_of_ble_eq_true rfl) h (fun v3 M3 q3 r3 => ?_)
    obtain ⟨z3, rfl⟩ := retV_i r3 rfl
    have h := q3
    refine wp_istore (L2 := [some (Rv 88), some (Iv x1), some (Iv x2), some (Iv x3), some (Iv z3), none, none, none]) dX12_drop_27 (Nat.le_of_ble_eq_true rfl) (Nat.le_of_ble_eq_true rfl) rfl ?_
    refine wp_iload dX12_drop_29 rfl ?_
    obtain ⟨o4, h⟩ := h
    refine wp_if_ge (tgt := 37) dX12_drop_31 (by decide) o4 (fun q5 => ?_) (fun q5 => ?_)
    · have h := h.1 q5
      refine wp_aload_n dX12_drop_37 rfl (by decide) ?_
      refine wp_iload_n dX12_drop_38 rfl ?_
      refine wp_callV (e1 := 0) (as := [Iv x2]) (S := []) dX12_drop_39 (cs_X12_255 rfl) kd_88 rfl rfl (Nat.le_of_ble_eq_true rfl) (Nat.le_of_ble_eq_true rfl) h (fun v6 M6 q6 r6 => ?_)
      have h := q6
      refine wp_iconst dX12_drop_42 ?_
      refine wp_istore (L2 := [some (Rv 88), some (Iv x1), some (Iv x2), some (Iv x3), some (Iv z3), some (Iv 0), none, none]) dX12_drop_43 (Nat.le_of_ble_eq_true rfl) (Nat.le_of_ble_eq_true rfl) rfl ?_
      exact h
    · have h := h.2 q5
      refine wp_iload dX12_drop_34 rfl ?_
      exact wp_iret dX12_drop_36 rfl (Or.inr ⟨rfl, rfl, rfl, by decide⟩) rfl h
  · have h := h.2 q2
    refine wp_iload_n dX12_drop_8 rfl ?_
    refine wp_iconst dX12_drop_9 ?_
    refine wp_bipush dX12_drop_10 (by decide) ?_
    refine wp_callS (e1 := 0) (as := [Iv x3, Iv 0, Iv 40]) (S := [Rv 88]) dX12_drop_12 (cs_X12_117 rfl) rfl rfl (Nat.le_of_ble_eq_true rfl) (Nat.le_of_ble_eq_true rfl) h (fun v7 M7 q7 r7 => ?_)
    obtain ⟨z7, rfl, hz7⟩ := retV_z r7 rfl
    have h := q7
    refine wp_if_eq (tgt := 22) dX12_drop_15 (by decide) (by have := hz7; omega) (fun q8 => ?_) (fun q8 => ?_)
    · have h := h.1 q8
      refine wp_iconst dX12_drop_22 ?_
      refine wp_iload_n dX12_drop_23 rfl ?_
      refine wp_callV (e1 := 0) (as := [Iv 0, Iv x2]) (S := []) dX12_drop_24 (cs_X12_192 rfl) kd_88 rfl rfl (Nat.le_of_ble_eq_true rfl) (Nat.le_of_ble_eq_true rfl) h (fun v9 M9 q9 r9 => ?_)
      obtain ⟨z9, rfl⟩ := retV_i r9 rfl
      have h := q9
      refine wp_istore (L2 := [some (Rv 88), some (Iv x1), some (Iv x2), some (Iv x3), some (Iv z9), none, none, none]) dX12_drop_27 (Nat.le_of_ble_eq_true rfl) (Nat.le_of_ble_eq_true rfl) rfl ?_
      refine wp_iload dX12_drop_29 rfl ?_
      obtain ⟨o10, h⟩ := h
      refine wp_if_ge (tgt := 37) dX12_drop_31 (by decide) o10 (fun q11 => ?_) (fun q11 => ?_)
      · have h := h.1 q11
        refine wp_aload_n dX12_drop_37 rfl (by decide) ?_
        refine wp_iload_n dX12_drop_38 rfl ?_
        refine wp_callV (e1 := 0) (as := [Iv x2]) (S := []) dX12_drop_39 (cs_X12_255 rfl) kd_88 rfl rfl (Nat.le_of_ble_eq_true rfl) (Nat.le_of_ble_eq_true rfl) h (fun v12 M12 q12 r12 => ?_)
        have h := q12
        refine wp_iconst dX12_drop_42 ?_
        refine wp_istore (L2 := [some (Rv 88), some (Iv x1), some (Iv x2), some (Iv x3), some (Iv z9), some (Iv 0), none, none]) dX12_drop_43 (Nat.le_of_ble_eq_true rfl) (Nat.le_of_ble_eq_true rfl) rfl ?_
        exact h
      · have h := h.2 q11
        refine wp_iload dX12_drop_34 rfl ?_
        exact wp_iret dX12_drop_36 rfl (Or.inr ⟨rfl, rfl, rfl, by decide⟩) rfl h
    · have h := h.2 q8
      refine wp_iconst dX12_drop_18 ?_
      refine wp_goto (tgt := 23) dX12_drop_19 (by decide) ?_
      refine wp_iload_n dX12_drop_23 rfl ?_
      refine wp_callV (e1 := 0) (as := [Iv 1, Iv x2]) (S := []) dX12_drop_24 (cs_X12_192 rfl) kd_88 rfl rfl (Nat.le_of_ble_eq_true rfl) (Nat.le_of_ble_eq_true rfl) h (fun v13 M13 q13 r13 => ?_)
      obtain ⟨z13, rfl⟩ := retV_i r13 rfl
      have h := q13
      refine wp_istore (L2 := [some (Rv 88), some (Iv x1), some (Iv x2), some (Iv x3), some (Iv z13), none, none, none]) dX12_drop_27 (Nat.le_of_ble_eq_true rfl) (Nat.le_of_ble_eq_true rfl) rfl ?_
      refine wp_iload dX12_drop_29 rfl ?_
      obtain ⟨o14, h⟩ := h
      refine wp_if_ge (tgt := 37) dX12_drop_31 (by decide) o14 (fun q15 => ?_) (fun q15 => ?_)
      · have h := h.1 q15
        refine wp_aload_n dX12_drop_37 rfl (by decide) ?_
        refine wp_iload_n dX12_drop_38 rfl ?_
        refine wp_callV (e1 := 0) (as := [Iv x2]) (S := []) dX12_drop_39 (cs_X12_255 rfl) kd_88 rfl rfl (Nat.le_of_ble_eq_true rfl) (Nat.le_of_ble_eq_true rfl) h (fun v16 M16 q16 r16 => ?_)
        have h := q16
        refine wp_iconst dX12_drop_42 ?_
        refine wp_istore (L2 := [some (Rv 88), some (Iv x1), some (Iv x2), some (Iv x3), some (Iv z13), some (Iv 0), none, none]) dX12_drop_43 (Nat.le_of_ble_eq_true rfl) (Nat.le_of_ble_eq_true rfl) rfl ?_
        exact h
      · have h := h.2 q15
        refine wp_iload dX12_drop_34 rfl ?_
        exact wp_iret dX12_drop_36 rfl (Or.inr ⟨rfl, rfl, rfl, by decide⟩) rfl h
theorem eX12_drop {x1 x2 x3 : Int}  {M : Mem} {Q : Vl → Mem → Prop} (h : cl 0 yX12_isWord [Iv x1] M (QI (fun z1 M1 => ((z1 = 0 → cl 0 yX12_needWord [Rv 88, Iv 0, Iv x2] M1 (QI (fun z3 M3 => (inr z3 ∧ ((0 ≤ z3 → cl 0 yX12_layOther [Rv 88, Iv x2] M3 (QV (fun M6 => (wp 0 yX12_drop 45 [some (Rv 88), some (Iv x1), some (Iv x2), some (Iv x3), some (Iv z3), some (Iv 0), none, none] [] M6 Q)))) ∧ (z3 < 0 → Q (Iv z3) M3)))))) ∧ (z1 ≠ 0 → cl 0 yX12_in [Iv x3, Iv 0, Iv 40] M1 (QI (fun z7 M7 => ((z7 = 0 → cl 0 yX12_needWord [Rv 88, Iv 0, Iv x2] M7 (QI (fun z9 M9 => (inr z9 ∧ ((0 ≤ z9 → cl 0 yX12_layOther [Rv 88, Iv x2] M9 (QV (fun M12 => (wp 0 yX12_drop 45 [some (Rv 88), some (Iv x1), some (Iv x2), some (Iv x3), some (Iv z9), some (Iv 0), none, none] [] M12 Q)))) ∧ (z9 < 0 → Q (Iv z9) M9)))))) ∧ (z7 ≠ 0 → cl 0 yX12_needWord [Rv 88, Iv 1, Iv x2] M7 (QI (fun z13 M13 => (inr z13 ∧ ((0 ≤ z13 → cl 0 yX12_layOther [Rv 88, Iv x2] M13 (QV (fun M16 => (wp 0 yX12_drop 45 [some (Rv 88), some (Iv x1), some (Iv x2), some (Iv x3), some (Iv z13), some (Iv 0), none, none] [] M16 Q)))) ∧ (z13 < 0 → Q (Iv z13) M13)))))))))))))) : cl 0 yX12_drop [Rv 88, Iv x1, Iv x2, Iv x3] M Q := enterG (by decide +kernel) (by exact Or.inr (Or.inl rfl)) (Nat.le_of_ble_eq_true rfl) rfl (gX12_drop h)
theorem gX12_drop_45 {x1 x2 x3 x4 x5 : Int}  {M : Mem} {Q : Vl → Mem → Prop} (h : inr x5 ∧ (inr (M 88 33) ∧ (((M 88 33) ≤ x5 → wp 0 yX12_drop 114 [some (Rv 88), some (Iv x1), some (Iv x2), some (Iv x3), some (Iv x4), some (Iv x5), some (Iv 0), none] [] (up M 88 17 (M 88 33)) Q) ∧ (x5 < (M 88 33) → 0 ≤ x5 ∧ (x5 < 40 ∧ (cl 0 yX12_dropOther [Rv 88, Iv x5] M (QV (fun M6 => (cl 0 yX12_partsFrom [Rv 88, Iv x2] M6 (QI (fun z7 M7 => (inr z7 ∧ ((z7 = (-9) → wp 0 yX12_drop 45 [some (Rv 88), some (Iv x1), some (Iv x2), some (Iv x3), some (Iv x4), some (Iv x5), none, none] [] M7 Q) ∧ (z7 ≠ (-9) → inr x3 ∧ ((x3 < z7 → wp 0 yX12_drop 45 [some (Rv 88), some (Iv x1), some (Iv x2), some (Iv x3), some (Iv x4), some (Iv x5), none, none] [] M7 Q) ∧ (z7 ≤ x3 → cl 0 yX12_backOther [Rv 88, Iv x5, Iv (M 112 x5)] M7 (QV (fun M12 => (wp 0 yX12_drop 45 [some (Rv 88), some (Iv x1), some (Iv x2), some (Iv x3), some (Iv x4), some (Iv (x5 + 1)), none, none] [] M12 Q))))))))))))))))))) : wp 0 yX12_drop 45 [some (Rv 88), some (Iv x1), some (Iv x2), some (Iv x3), some (Iv x4), some (Iv x5), none, none] [] M Q := by
  refine wp_iload dX12_drop_45 rfl ?_
  refine wp_aload_n dX12_drop_47 rfl (by decide) ?_
  refine wp_getf (t := Iv (M 88 33)) (M 88 33) dX12_drop_48 (fl_X12_246 rfl) kd_88 rfl rfl ?_
  obtain ⟨o1, h⟩ := h
  obtain ⟨o2, h⟩ := h
  refine wp_icmp_ge (tgt := 103) dX12_drop_51 (by decide) o1 o2 (fun q3 => ?_) (fun q3 => ?_)
  · have h := h.1 q3
    refine wp_aload_n dX12_drop_103 rfl (by decide) ?_
    refine wp_aload_n dX12_drop_104 rfl (by decide) ?_
    refine wp_getf (t := Iv (M 88 33)) (M 88 33) dX12_drop_105 (fl_X12_246 rfl) kd_88 rfl rfl ?_
    refine wp_putf (x := (M 88 33)) dX12_drop_108 (fl_X12_151 rfl) kd_88 (fun _ => rfl) rfl rfl trivial ?_
    refine wp_iconst dX12_drop_111 ?_
    refine wp_istore (L2 := [some (Rv 88), some (Iv x1), some (Iv x2), some (Iv x3), some (Iv x4), some (Iv x5), some (Iv 0), none]) dX12_drop_112 (Nat.le_of_ble_eq_true rfl) (Nat.le_of_ble_eq_true rfl) rfl ?_
    exact h
  · have h := h.2 q3
    refine wp_aload_n dX12_drop_54 rfl (by decide) ?_
    refine wp_getf (t := Rv 112) 112 dX12_drop_55 (fl_X12_82 rfl) kd_88 rfl rfl ?_
    refine wp_iload dX12_drop_58 rfl ?_
    obtain ⟨o4, h⟩ := h
    obtain ⟨o5, h⟩ := h
    refine wp_iald (M 112 x5) dX12_drop_60 kd_112 sz_112 o4 o5 (⟨by omega, by omega⟩) rfl ?_
    refine wp_istore (L2 := [some (Rv 88), some (Iv x1), some (Iv x2), some (Iv x3), some (Iv x4), some (Iv x5), some (Iv (M 112 x5)), none]) dX12_drop_61 (Nat.le_of_ble_eq_true rfl) (Nat.le_of_ble_eq_true rfl) rfl ?_
    refine wp_aload_n dX12_drop_63 rfl (by decide) ?_
    refine wp_iload dX12_drop_64 rfl ?_
    refine wp_callV (e1 := 0) (as := [Iv x5]) (S := []) dX12_drop_66 (cs_X12_261 rfl) kd_88 rfl rfl (Nat.le_of_ble_eq_true rfl) (Nat.le_of_ble_eq_true rfl) h (fun v6 M6 q6 r6 => ?_)
    have h := q6
    refine wp_aload_n dX12_drop_69 rfl (by decide) ?_
    refine wp_iload_n dX12_drop_70 rfl ?_
    refine wp_callV (e1 := 0) (as := [Iv x2]) (S := []) dX12_drop_71 (cs_X12_258 rfl) kd_88 rfl rfl (Nat.le_of_ble_eq_true rfl) (Nat.le_of_ble_eq_true rfl) h (fun v7 M7 q7 r7 => ?_)
    obtain ⟨z7, rfl⟩ := retV_i r7 rfl
    have h := q7
    refine wp_istore (L2 := [some (Rv 88), some (Iv x1), some (Iv x2), some (Iv x3), some (Iv x4), some (Iv x5), some (Iv (M 112 x5)), some (Iv z7)]) dX12_drop_74 (Nat.le_of_ble_eq_true rfl) (Nat.le_of_ble_eq_true rfl) rfl ?_
    refine wp_iload dX12_drop_76 rfl ?_
    refine wp_bipush dX12_drop_78 (by decide) ?_
    obtain ⟨o8, h⟩ := h
    refine wp_icmp_eq (tgt := 100) dX12_drop_80 (by decide) (Or.inr ⟨o8, (by decide)⟩) (fun q9 => ?_) (fun q9 => ?_)
    · have h := h.1 q9
      refine wp_goto (tgt := 45) dX12_drop_100 (by decide) ?_
      exact wp_weak [true, true, true, true, true, true, false, false] rfl h
    · have h := h.2 q9
      refine wp_iload dX12_drop_83 rfl ?_
      refine wp_iload_n dX12_drop_85 rfl ?_
      obtain ⟨o10, h⟩ := h
      refine wp_icmp_gt (tgt := 100) dX12_drop_86 (by decide) o8 o10 (fun q11 => ?_) (fun q11 => ?_)
      · have h := h.1 q11
        refine wp_goto (tgt := 45) dX12_drop_100 (by decide) ?_
        exact wp_weak [true, true, true, true, true, true, false, false] rfl h
      · have h := h.2 q11
        refine wp_aload_n dX12_drop_89 rfl (by decide) ?_
        refine wp_iload dX12_drop_90 rfl ?_
        refine wp_iload dX12_drop_92 rfl ?_
        refine wp_callV (e1 := 0) (as := [Iv x5, Iv (M 112 x5)]) (S := []) dX12_drop_94 (cs_X12_264 rfl) kd_88 rfl rfl (Nat.le_of_ble_eq_true rfl) (Nat.le_of_ble_eq_true rfl) h (fun v12 M12 q12 r12 => ?_)
        have h := q12
        refine wp_iinc (L2 := [some (Rv 88), some (Iv x1), some (Iv x2), some (Iv x3), some (Iv x4), some (Iv (x5 + 1)), some (Iv (M 112 x5)), some (Iv z7)]) dX12_drop_97 rfl (Nat.le_of_ble_eq_true rfl) (Nat.le_of_ble_eq_true rfl) rfl ?_
        refine wp_goto (tgt := 45) dX12_drop_100 (by decide) ?_
        exact wp_weak [true, true, true, true, true, true, false, false] rfl h
theorem gX12_drop_114 {x1 x2 x3 x4 x5 x6 : Int}  {M : Mem} {Q : Vl → Mem → Prop} (h : inr x6 ∧ (inr (M 88 33) ∧ (((M 88 33) ≤ x6 → cl 0 yX12_comes [Rv 88, Iv x1, Iv 4, Iv x2, Iv x3] M (QI (fun z4 M4 => (Q (Iv z4) M4)))) ∧ (x6 < (M 88 33) → 0 ≤ x6 ∧ (x6 < 40 ∧ (wp 0 yX12_drop 114 [some (Rv 88), some (Iv x1), some (Iv x2), some (Iv x3), some (Iv x4), some (Iv x5), some (Iv (x6 + 1)), none] [] (up M 100 x6 (M 112 x6)) Q)))))) : wp 0 yX12_drop 114 [some (Rv 88), some (Iv x1), some (Iv x2), some (Iv x3), some (Iv x4), some (Iv x5), some (Iv x6), none] [] M Q := by
  refine wp_iload dX12_drop_114 rfl ?_
  refine wp_aload_n dX12_drop_116 rfl (by decide) ?_
  refine wp_getf (t := Iv (M 88 33)) (M 88 33) dX12_drop_117 (fl_X12_246 rfl) kd_88 rfl rfl ?_
  obtain ⟨o1, h⟩ := h
  obtain ⟨o2, h⟩ := h
  refine wp_icmp_ge (tgt := 143) dX12_drop_120 (by decide) o1 o2 (fun q3 => ?_) (fun q3 => ?_)
  · have h := h.1 q3
    refine wp_aload_n dX12_drop_143 rfl (by decide) ?_
    refine wp_iload_n dX12_drop_144 rfl ?_
    refine wp_iconst dX12_drop_145 ?_
    refine wp_iload_n dX12_drop_146 rfl ?_
    refine wp_iload_n dX12_drop_147 rfl ?_
    refine wp_callV (e1 := 0) (as := [Iv x1, Iv 4, Iv x2, Iv x3]) (S := []) dX12_drop_148 (cs_X12_160 rfl) kd_88 rfl rfl (Nat.le_of_ble_eq_true rfl) (Nat.le_of_ble_eq_true rfl) h (fun v4 M4 q4 r4 => ?_)
    obtain ⟨z4, rfl⟩ := retV_i r4 rfl
    have h := q4
    exact wp_iret dX12_drop_151 rfl (Or.inr ⟨rfl, rfl, rfl, by decide⟩) rfl h
  · have h := h.2 q3
    refine wp_aload_n dX12_drop_123 rfl (by decide) ?_
    refine wp_getf (t := Rv 100) 100 dX12_drop_124 (fl_X12_44 rfl) kd_88 rfl rfl ?_
    refine wp_iload dX12_drop_127 rfl ?_
    refine wp_aload_n dX12_drop_129 rfl (by decide) ?_
    refine wp_getf (t := Rv 112) 112 dX12_drop_130 (fl_X12_82 rfl) kd_88 rfl rfl ?_
    refine wp_iload dX12_drop_133 rfl ?_
    obtain ⟨o5, h⟩ := h
    obtain ⟨o6, h⟩ := h
    refine wp_iald (M 112 x6) dX12_drop_135 kd_112 sz_112 o5 o6 (⟨by omega, by omega⟩) rfl ?_
    refine wp_iast dX12_drop_136 kd_100 sz_100 o5 o6 (⟨by omega, by omega⟩) ?_
    refine wp_iinc (L2 := [some (Rv 88), some (Iv x1), some (Iv x2), some (Iv x3), some (Iv x4), some (Iv x5), some (Iv (x6 + 1)), none]) dX12_drop_137 rfl (Nat.le_of_ble_eq_true rfl) (Nat.le_of_ble_eq_true rfl) rfl ?_
    refine wp_goto (tgt := 114) dX12_drop_140 (by decide) ?_
    exact h
theorem gX12_dropOther {x1 : Int}  {M : Mem} {Q : Vl → Mem → Prop} (h : wp 0 yX12_dropOther 12 [some (Rv 88), some (Iv x1), some (Iv x1)] [] (up M 88 33 ((M 88 33) - 1)) Q) : wp 0 yX12_dropOther 0 [some (Rv 88), some (Iv x1), none] [] M Q := by
  refine wp_aload_n dX12_dropOther_0 rfl (by decide) ?_
  refine wp_dup dX12_dropOther_1 rfl ?_
  refine wp_getf (t := Iv (M 88 33)) (M 88 33) dX12_dropOther_2 (fl_X12_246 rfl) kd_88 rfl rfl ?_
  refine wp_iconst dX12_dropOther_5 ?_
  refine wp_isub dX12_dropOther_6 ?_
  refine wp_putf (x := ((M 88 33) - 1)) dX12_dropOther_7 (fl_X12_246 rfl) kd_88 (fun _ => rfl) rfl rfl trivial ?_
  refine wp_iload_n dX12_dropOther_10 rfl ?_
  refine wp_istore_n (L2 := [some (Rv 88), some (Iv x1), some (Iv x1)]) dX12_dropOther_11 (Nat.le_of_ble_eq_true rfl) (Nat.le_of_ble_eq_true rfl) rfl ?_
  exact h
theorem eX12_dropOther {x1 : Int}  {M : Mem} {Q : Vl → Mem → Prop} (h : wp 0 yX12_dropOther 12 [some (Rv 88), some (Iv x1), some (Iv x1)] [] (up M 88 33 ((M 88 33) - 1)) Q) : cl 0 yX12_dropOther [Rv 88, Iv x1] M Q := enterG (by decide +kernel) (by exact Or.inl rfl) (Nat.le_of_ble_eq_true rfl) rfl (gX12_dropOther h)
theorem gX12_dropOther_12 {x1 x2 : Int}  {M : Mem} {Q : Vl → Mem → Prop} (h : inr x2 ∧ (inr (M 88 33) ∧ (((M 88 33) ≤ x2 → Q (Iv 0) M) ∧ (x2 < (M 88 33) → 0 ≤ x2 + 1 ∧ (x2 + 1 < 40 ∧ (0 ≤ x2 ∧ (x2 < 40 ∧ (wp 0 yX12_dropOther 12 [some (Rv 88), some (Iv x1), some (Iv (x2 + 1))] [] (up M 112 x2 (M 112 (x2 + 1))) Q)))))))) : wp 0 yX12_dropOther 12 [some (Rv 88), some (Iv x1), some (Iv x2)] [] M Q := by
  refine wp_iload_n dX12_dropOther_12 rfl ?_
  refine wp_aload_n dX12_dropOther_13 rfl (by decide) ?_
  refine wp_getf (t := Iv (M 88 33)) (M 88 33) dX12_dropOther_14 (fl_X12_246 rfl) kd_88 rfl rfl ?_
  obtain ⟨o1, h⟩ := h
  obtain ⟨o2, h⟩ := h
  refine wp_icmp_ge (tgt := 40) dX12_dropOther_17 (by decide) o1 o2 (fun q3 => ?_) (fun q3 => ?_)
  · have h := h.1 q3
    exact wp_vret dX12_dropOther_40 rfl (Or.inr ⟨rfl, rfl, rfl, by decide⟩) rfl h
  · have h := h.2 q3
    refine wp_aload_n dX12_dropOther_20 rfl (by decide) ?_
    refine wp_getf (t := Rv 112) 112 dX12_dropOther_21 (fl_X12_82 rfl) kd_88 rfl rfl ?_
    refine wp_iload_n dX12_dropOther_24 rfl ?_
    refine wp_aload_n dX12_dropOther_25 rfl (by decide) ?_
    refine wp_getf (t := Rv 112) 112 dX12_dropOther_26 (fl_X12_82 rfl) kd_88 rfl rfl ?_
    refine wp_iload_n dX12_dropOther_29 rfl ?_
    refine wp_iconst dX12_dropOther_30 ?_
    refine wp_iadd dX12_dropOther_31 ?_
    obtain ⟨o4, h⟩ := h
    obtain ⟨o5, h⟩ := h
    refine wp_iald (M 112 (x2 + 1)) dX12_dropOther_32 kd_112 sz_112 o4 o5 (⟨by omega, by omega⟩) rfl ?_
    obtain ⟨o6, h⟩ := h
    obtain ⟨o7, h⟩ := h
    refine wp_iast dX12_dropOther_33 kd_112 sz_112 o6 o7 (⟨by omega, by omega⟩) ?_
    refine wp_iinc (L2 := [some (Rv 88), some (Iv x1), some (Iv (x2 + 1))]) dX12_dropOther_34 rfl (Nat.le_of_ble_eq_true rfl) (Nat.le_of_ble_eq_true rfl) rfl ?_
    refine wp_goto (tgt := 12) dX12_dropOther_37 (by decide) ?_
    exact h
theorem gX12_backOther {x1 x2 : Int}  {M : Mem} {Q : Vl → Mem → Prop} (h : wp 0 yX12_backOther 5 [some (Rv 88), some (Iv x1), some (Iv x2), some (Iv (M 88 33))] [] M Q) : wp 0 yX12_backOther 0 [some (Rv 88), some (Iv x1), some (Iv x2), none] [] M Q := by
  refine wp_aload_n dX12_backOther_0 rfl (by decide) ?_
  refine wp_getf (t := Iv (M 88 33)) (M 88 33) dX12_backOther_1 (fl_X12_246 rfl) kd_88 rfl rfl ?_
  refine wp_istore_n (L2 := [some (Rv 88), some (Iv x1), some (Iv x2), some (Iv (M 88 33))]) dX12_backOther_4 (Nat.le_of_ble_eq_true rfl) (Nat.le_of_ble_eq_true rfl) rfl ?_
  exact h
theorem eX12_backOther {x1 x2 : Int}  {M : Mem} {Q : Vl → Mem → Prop} (h : wp 0 yX12_backOther 5 [some (Rv 88), some (Iv x1), some (Iv x2), some (Iv (M 88 33))] [] M Q) : cl 0 yX12_backOther [Rv 88, Iv x1, Iv x2] M Q := enterG (by decide +kernel) (by exact Or.inl rfl) (Nat.le_of_ble_eq_true rfl) rfl (gX12_backOther h)
theorem gX12_backOther_5 {x1 x2 x3 : Int}  {M : Mem} {Q : Vl → Mem → Prop} (h : inr x3 ∧ (inr x1 ∧ ((x3 ≤ x1 → 0 ≤ x1 ∧ (x1 < 40 ∧ (Q (Iv 0) (up (up M 112 x1 x2) 88 33 ((M 88 33) + 1))))) ∧ (x1 < x3 → 0 ≤ x3 - 1 ∧ (x3 - 1 < 40 ∧ (0 ≤ x3 ∧ (x3 < 40 ∧ (wp 0 yX12_backOther 5 [some (Rv 88), some (Iv x1), some (Iv x2), some (Iv (x3 + (-1)))] [] (up M 112 x3 (M 112 (x3 - 1))) Q)))))))) : wp 0 yX12_backOther 5 [some (Rv 88), some (Iv x1), some (Iv x2), some (Iv x3)] [] M Q := by
  refine wp_iload_n dX12_backOther_5 rfl ?_
  refine wp_iload_n dX12_backOther_6 rfl ?_
  obtain ⟨o1, h⟩ := h
  obtain ⟨o2, h⟩ := h
  refine wp_icmp_le (tgt := 30) dX12_backOther_7 (by decide) o1 o2 (fun q3 => ?_) (fun q3 => ?_)
  · have h := h.1 q3
    refine wp_aload_n dX12_backOther_30 rfl (by decide) ?_
    refine wp_getf (t := Rv 112) 112 dX12_backOther_31 (fl_X12_82 rfl) kd_88 rfl rfl ?_
    refine wp_iload_n dX12_backOther_34 rfl ?_
    refine wp_iload_n dX12_backOther_35 rfl ?_
    obtain ⟨o4, h⟩ := h
    obtain ⟨o5, h⟩ := h
    refine wp_iast dX12_backOther_36 kd_112 sz_112 o4 o5 (⟨by omega, by omega⟩) ?_
    refine wp_aload_n dX12_backOther_37 rfl (by decide) ?_
    refine wp_dup dX12_backOther_38 rfl ?_
    refine wp_getf (t := Iv (M 88 33)) (M 88 33) dX12_backOther_39 (fl_X12_246 rfl) kd_88 rfl rfl ?_
    refine wp_iconst dX12_backOther_42 ?_
    refine wp_iadd dX12_backOther_43 ?_
    refine wp_putf (x := ((M 88 33) + 1)) dX12_backOther_44 (fl_X12_246 rfl) kd_88 (fun _ => rfl) rfl rfl trivial ?_
    exact wp_vret dX12_backOther_47 rfl (Or.inr ⟨rfl, rfl, rfl, by decide⟩) rfl h
  · have h := h.2 q3
    refine wp_aload_n dX12_backOther_10 rfl (by decide) ?_
    refine wp_getf (t := Rv 112) 112 dX12_backOther_11 (fl_X12_82 rfl) kd_88 rfl rfl ?_
    refine wp_iload_n dX12_backOther_14 rfl ?_
    refine wp_aload_n dX12_backOther_15 rfl (by decide) ?_
    refine wp_getf (t := Rv 112) 112 dX12_backOther_16 (fl_X12_82 rfl) kd_88 rfl rfl ?_
    refine wp_iload_n dX12_backOther_19 rfl ?_
    refine wp_iconst dX12_backOther_20 ?_
    refine wp_isub dX12_backOther_21 ?_
    obtain ⟨o6, h⟩ := h
    obtain ⟨o7, h⟩ := h
    refine wp_iald (M 112 (x3 - 1)) dX12_backOther_22 kd_112 sz_112 o6 o7 (⟨by omega, by omega⟩) rfl ?_
    obtain ⟨o8, h⟩ := h
    obtain ⟨o9, h⟩ := h
    refine wp_iast dX12_backOther_23 kd_112 sz_112 o8 o9 (⟨by omega, by omega⟩) ?_
    refine wp_iinc (L2 := [some (Rv 88), some (Iv x1), some (Iv x2), some (Iv (x3 + (-1)))]) dX12_backOther_24 rfl (Nat.le_of_ble_eq_true rfl) (Nat.le_of_ble_eq_true rfl) rfl ?_
    refine wp_goto (tgt := 5) dX12_backOther_27 (by decide) ?_
    exact h
theorem gX12_bits {x0 : Int}  {M : Mem} {Q : Vl → Mem → Prop} (h : wp 0 yX12_bits 4 [some (Iv x0), some (Iv 0), some (Iv 0)] [] M Q) : wp 0 yX12_bits 0 [some (Iv x0), none, none] [] M Q := by
  refine wp_iconst dX12_bits_0 ?_
  refine wp_istore_n (L2 := [some (Iv x0), some (Iv 0), none]) dX12_bits_1 (Nat.le_of_ble_eq_true rfl) (Nat.le_of_ble_eq_true rfl) rfl ?_
  refine wp_iconst dX12_bits_2 ?_
  refine wp_istore_n (L2 := [some (Iv x0), some (Iv 0), some (Iv 0)]) dX12_bits_3 (Nat.le_of_ble_eq_true rfl) (Nat.le_of_ble_eq_true rfl) rfl ?_
  exact h
theorem eX12_bits {x0 : Int}  {M : Mem} {Q : Vl → Mem → Prop} (h : wp 0 yX12_bits 4 [some (Iv x0), some (Iv 0), some (Iv 0)] [] M Q) : cl 0 yX12_bits [Iv x0] M Q := enterG (by decide +kernel) (by exact Or.inr (Or.inl rfl)) (Nat.le_of_ble_eq_true rfl) rfl (gX12_bits h)
theorem gX12_bits_4 {x0 x1 x2 : Int}  {M : Mem} {Q : Vl → Mem → Prop} (h : inr x2 ∧ ((8 ≤ x2 → Q (Iv x1) M) ∧ (x2 < 8 → inr x0 ∧ (0 ≤ x2 ∧ (x2 < 32 ∧ (wp 0 yX12_bits 4 [some (Iv x0), some (Iv (x1 + ((x0 / 2 ^ Int.toNat x2) % 2 ^ 1))), some (Iv (x2 + 1))] [] M Q)))))) : wp 0 yX12_bits 4 [some (Iv x0), some (Iv x1), some (Iv x2)] [] M Q := by
  refine wp_iload_n dX12_bits_4 rfl ?_
  refine wp_bipush dX12_bits_5 (by decide) ?_
  obtain ⟨o1, h⟩ := h
  refine wp_icmp_ge (tgt := 24) dX12_bits_7 (by decide) o1 (by decide) (fun q2 => ?_) (fun q2 => ?_)
  · have h := h.1 q2
    refine wp_iload_n dX12_bits_24 rfl ?_
    exact wp_iret dX12_bits_25 rfl (Or.inr ⟨rfl, rfl, rfl, by decide⟩) rfl h
  · have h := h.2 q2
    refine wp_iload_n dX12_bits_10 rfl ?_
    refine wp_iload_n dX12_bits_11 rfl ?_
    refine wp_iload_n dX12_bits_12 rfl ?_
    obtain ⟨o3, h⟩ := h
    obtain ⟨o4, h⟩ := h
    obtain ⟨o5, h⟩ := h
    refine wp_ishr (x0 / 2 ^ Int.toNat x2) dX12_bits_13 (bits_shr o3 o4 o5) ?_
    refine wp_iconst dX12_bits_14 ?_
    refine wp_iand ((x0 / 2 ^ Int.toNat x2) % 2 ^ 1) dX12_bits_15 (bits_mask _ 1 (by decide)) ?_
    refine wp_iadd dX12_bits_16 ?_
    refine wp_istore_n (L2 := [some (Iv x0), some (Iv (x1 + ((x0 / 2 ^ Int.toNat x2) % 2 ^ 1))), some (Iv x2)]) dX12_bits_17 (Nat.le_of_ble_eq_true rfl) (Nat.le_of_ble_eq_true rfl) rfl ?_
    refine wp_iinc (L2 := [some (Iv x0), some (Iv (x1 + ((x0 / 2 ^ Int.toNat x2) % 2 ^ 1))), some (Iv (x2 + 1))]) dX12_bits_18 rfl (Nat.le_of_ble_eq_true rfl) (Nat.le_of_ble_eq_true rfl) rfl ?_
    refine wp_goto (tgt := 4) dX12_bits_21 (by decide) ?_
    exact h
theorem gX12_needSeveral {x1 x2 : Int}  {M : Mem} {Q : Vl → Mem → Prop} (h : cl 0 yX12_in [Iv x1, Iv 1, Iv 255] M (QI (fun z1 M1 => ((z1 = 0 → Q (Iv (-1)) M1) ∧ (z1 ≠ 0 → cl 0 yX12_bits [Iv x1] M1 (QI (fun z3 M3 => (inr z3 ∧ ((4 < z3 → Q (Iv (-1)) M3) ∧ (z3 ≤ 4 → cl 0 yX12_isRow [Iv x2] M3 (QI (fun z6 M6 => ((z6 ≠ 0 → wp 0 yX12_needSeveral 41 [some (Rv 88), some (Iv x1), some (Iv x2), some (Iv 1), some (Iv 1), some (Iv 0)] [] (up M6 88 35 0) Q) ∧ (z6 = 0 → Q (Iv (-1)) M6)))))))))))))) : wp 0 yX12_needSeveral 0 [some (Rv 88), some (Iv x1), some (Iv x2), none, none, none] [] M Q := by
  refine wp_iload_n dX12_needSeveral_0 rfl ?_
  refine wp_iconst dX12_needSeveral_1 ?_
  refine wp_sipush dX12_needSeveral_2 (by decide) ?_
  refine wp_callS (e1 := 0) (as := [Iv x1, Iv 1, Iv 255]) (S := []) dX12_needSeveral_5 (cs_X12_117 rfl) rfl rfl (Nat.le_of_ble_eq_true rfl) (Nat.le_of_ble_eq_true rfl) h (fun v1 M1 q1 r1 => ?_)
  obtain ⟨z1, rfl, hz1⟩ := retV_z r1 rfl
  have h := q1
  refine wp_if_eq (tgt := 26) dX12_needSeveral_8 (by decide) (by have := hz1; omega) (fun q2 => ?_) (fun q2 => ?_)
  · have h := h.1 q2
    refine wp_iconst dX12_needSeveral_26 ?_
    exact wp_iret dX12_needSeveral_27 rfl (Or.inr ⟨rfl, rfl, rfl, by decide⟩) rfl h
  · have h := h.2 q2
    refine wp_iload_n dX12_needSeveral_11 rfl ?_
    refine wp_callS (e1 := 0) (as := [Iv x1]) (S := []) dX12_needSeveral_12 (cs_X12_267 rfl) rfl rfl (Nat.le_of_ble_eq_true rfl) (Nat.le_of_ble_eq_true rfl) h (fun v3 M3 q3 r3 => ?_)
    obtain ⟨z3, rfl⟩ := retV_i r3 rfl
    have h := q3
    refine wp_iconst dX12_needSeveral_15 ?_
    obtain ⟨o4, h⟩ := h
    refine wp_icmp_gt (tgt := 26) dX12_needSeveral_16 (by decide) o4 (by decide) (fun q5 => ?_) (fun q5 => ?_)
    · have h := h.1 q5
      refine wp_iconst dX12_needSeveral_26 ?_
      exact wp_iret dX12_needSeveral_27 rfl (Or.inr ⟨rfl, rfl, rfl, by decide⟩) rfl h
    · have h := h.2 q5
      refine wp_iload_n dX12_needSeveral_19 rfl ?_
      refine wp_callS (e1 := 0) (as := [Iv x2]) (S := []) dX12_needSeveral_20 (cs_X12_130 rfl) rfl rfl (Nat.le_of_ble_eq_true rfl) (Nat.le_of_ble_eq_true rfl) h (fun v6 M6 q6 r6 => ?_)
      obtain ⟨z6, rfl, hz6⟩ := retV_z r6 rfl
      have h := q6
      refine wp_if_ne (tgt := 28) dX12_needSeveral_23 (by decide) (by have := hz6; omega) (fun q7 => ?_) (fun q7 => ?_)
      · have h := h.1 q7
        refine wp_aload_n dX12_needSeveral_28 rfl (by decide) ?_
        refine wp_iconst dX12_needSeveral_29 ?_
        refine wp_putf (x := 0) dX12_needSeveral_30 (fl_X12_270 rfl) kd_88 (fun _ => rfl) rfl rfl trivial ?_
        refine wp_iconst dX12_needSeveral_33 ?_
        refine wp_istore_n (L2 := [some (Rv 88), some (Iv x1), some (Iv x2), some (Iv 1), none, none]) dX12_needSeveral_34 (Nat.le_of_ble_eq_true rfl) (Nat.le_of_ble_eq_true rfl) rfl ?_
        refine wp_iconst dX12_needSeveral_35 ?_
        refine wp_istore (L2 := [some (Rv 88), some (Iv x1), some (Iv x2), some (Iv 1), some (Iv 1), none]) dX12_needSeveral_36 (Nat.le_of_ble_eq_true rfl) (Nat.le_of_ble_eq_true rfl) rfl ?_
        refine wp_iconst dX12_needSeveral_38 ?_
        refine wp_istore (L2 := [some (Rv 88), some (Iv x1), some (Iv x2), some (Iv 1), some (Iv 1), some (Iv 0)]) dX12_needSeveral_39 (Nat.le_of_ble_eq_true rfl) (Nat.le_of_ble_eq_true rfl) rfl ?_
        exact h
      · have h := h.2 q7
        refine wp_iconst dX12_needSeveral_26 ?_
        exact wp_iret dX12_needSeveral_27 rfl (Or.inr ⟨rfl, rfl, rfl, by decide⟩) rfl h
theorem eX12_needSeveral {x1 x2 : Int}  {M : Mem} {Q : Vl → Mem → Prop} (h : cl 0 yX12_in [Iv x1, Iv 1, Iv 255] M (QI (fun z1 M1 => ((z1 = 0 → Q (Iv (-1)) M1) ∧ (z1 ≠ 0 → cl 0 yX12_bits [Iv x1] M1 (QI (fun z3 M3 => (inr z3 ∧ ((4 < z3 → Q (Iv (-1)) M3) ∧ (z3 ≤ 4 → cl 0 yX12_isRow [Iv x2] M3 (QI (fun z6 M6 => ((z6 ≠ 0 → wp 0 yX12_needSeveral 41 [some (Rv 88), some (Iv x1), some (Iv x2), some (Iv 1), some (Iv 1), some (Iv 0)] [] (up M6 88 35 0) Q) ∧ (z6 = 0 → Q (Iv (-1)) M6)))))))))))))) : cl 0 yX12_needSeveral [Rv 88, Iv x1, Iv x2] M Q := enterG (by decide +kernel) (by exact Or.inr (Or.inl rfl)) (Nat.le_of_ble_eq_true rfl) rfl (gX12_needSeveral h)
theorem gX12_needSeveral_41 {x1 x2 x3 x4 x5 : Int}  {M : Mem} {Q : Vl → Mem → Prop} (h : inr x5 ∧ ((8 ≤ x5 → inr x4 ∧ ((x4 ≠ 0 → inr x3 ∧ ((x3 ≤ 20000 → Q (Iv 0) M) ∧ (20000 < x3 → Q (Iv (-6)) M))) ∧ (x4 = 0 → cl 0 yX12_meets [Rv 88, Iv 1] M (QI (fun z7 M7 => (Q (Iv z7) M7)))))) ∧ (x5 < 8 → cl 0 yX12_has [Iv x1, Iv x5] M (QI (fun z8 M8 => ((z8 = 0 → wp 0 yX12_needSeveral 41 [some (Rv 88), some (Iv x1), some (Iv x2), some (Iv x3), some (Iv x4), some (Iv (x5 + 1))] [] M8 Q) ∧ (z8 ≠ 0 → inr x4 ∧ ((x4 = 0 → 0 ≤ M8 88 35 ∧ (M8 88 35 < 4 ∧ (0 ≤ x5 ∧ (wp 0 yX12_needSeveral 41 [some (Rv 88), some (Iv x1), some (Iv x2), some (Iv (x3 * ((M8 95 x5) + 1))), some (Iv 0), some (Iv (x5 + 1))] [] (up (up M8 113 (M8 88 35) x5) 88 35 ((M8 88 35) + 1)) Q)))) ∧ (x4 ≠ 0 → cl 0 yX12_isThere [Rv 88, Iv x5] M8 (QI (fun z15 M15 => ((z15 = 0 → 0 ≤ M15 88 35 ∧ (M15 88 35 < 4 ∧ (0 ≤ x5 ∧ (wp 0 yX12_needSeveral 41 [some (Rv 88), some (Iv x1), some (Iv x2), some (Iv (x3 * ((M15 95 x5) + 1))), some (Iv 0), some (Iv (x5 + 1))] [] (up (up M15 113 (M15 88 35) x5) 88 35 ((M15 88 35) + 1)) Q)))) ∧ (z15 ≠ 0 → 0 ≤ M15 88 35 ∧ (M15 88 35 < 4 ∧ (0 ≤ x5 ∧ (wp 0 yX12_needSeveral 41 [some (Rv 88), some (Iv x1), some (Iv x2), some (Iv (x3 * ((M15 95 x5) + 1))), some (Iv 1), some (Iv (x5 + 1))] [] (up (up M15 113 (M15 88 35) x5) 88 35 ((M15 88 35) + 1)) Q)))))))))))))))) : wp 0 yX12_needSeveral 41 [some (Rv 88), some (Iv x1), some (Iv x2), some (Iv x3), some (Iv x4), some (Iv x5)] [] M Q := by
  refine wp_iload dX12_needSeveral_41 rfl ?_
  refine wp_bipush dX12_needSeveral_43 (by decide) ?_
  obtain ⟨o1, h⟩ := h
  refine wp_icmp_ge (tgt := 117) dX12_needSeveral_45 (by decide) o1 (by decide) (fun q2 => ?_) (fun q2 => ?_)
  · have h := h.1 q2
    refine wp_iload dX12_needSeveral_117 rfl ?_
    obtain ⟨o3, h⟩ := h
    refine wp_if_ne (tgt := 130) dX12_needSeveral_119 (by decide) o3 (fun q4 => ?_) (fun q4 => ?_)
    · have h := h.1 q4
      refine wp_iload_n dX12_needSeveral_130 rfl ?_
      refine wp_sipush dX12_needSeveral_131 (by decide) ?_
      obtain ⟨o5, h⟩ := h
      refine wp_icmp_le (tgt := 142) dX12_needSeveral_134 (by decide) o5 (by decide) (fun q6 => ?_) (fun q6 => ?_)
      · have h := h.1 q6
        refine wp_iconst dX12_needSeveral_142 ?_
        exact wp_iret dX12_needSeveral_143 rfl (Or.inr ⟨rfl, rfl, rfl, by decide⟩) rfl h
      · have h := h.2 q6
        refine wp_bipush dX12_needSeveral_137 (by decide) ?_
        refine wp_goto (tgt := 143) dX12_needSeveral_139 (by decide) ?_
        exact wp_iret dX12_needSeveral_143 rfl (Or.inr ⟨rfl, rfl, rfl, by decide⟩) rfl h
    · have h := h.2 q4
      refine wp_aload_n dX12_needSeveral_122 rfl (by decide) ?_
      refine wp_iconst dX12_needSeveral_123 ?_
      refine wp_callV (e1 := 0) (as := [Iv 1]) (S := []) dX12_needSeveral_124 (cs_X12_134 rfl) kd_88 rfl rfl (Nat.le_of_ble_eq_true rfl) (Nat.le_of_ble_eq_true rfl) h (fun v7 M7 q7 r7 => ?_)
      obtain ⟨z7, rfl⟩ := retV_i r7 rfl
      have h := q7
      refine wp_goto (tgt := 143) dX12_needSeveral_127 (by decide) ?_
      exact wp_iret dX12_needSeveral_143 rfl (Or.inr ⟨rfl, rfl, rfl, by decide⟩) rfl h
  · have h := h.2 q2
    refine wp_iload_n dX12_needSeveral_48 rfl ?_
    refine wp_iload dX12_needSeveral_49 rfl ?_
    refine wp_callS (e1 := 0) (as := [Iv x1, Iv x5]) (S := []) dX12_needSeveral_51 (cs_X12_243 rfl) rfl rfl (Nat.le_of_ble_eq_true rfl) (Nat.le_of_ble_eq_true rfl) h (fun v8 M8 q8 r8 => ?_)
    obtain ⟨z8, rfl, hz8⟩ := retV_z r8 rfl
    have h := q8
    refine wp_if_eq (tgt := 111) dX12_needSeveral_54 (by decide) (by have := hz8; omega) (fun q9 => ?_) (fun q9 => ?_)
    · have h := h.1 q9
      refine wp_iinc (L2 := [some (Rv 88), some (Iv x1), some (Iv x2), some (Iv x3), some (Iv x4), some (Iv (x5 + 1))]) dX12_needSeveral_111 rfl (Nat.le_of_ble_eq_true rfl) (Nat.le_of_ble_eq_true rfl) rfl ?_
      refine wp_goto (tgt := 41) dX12_needSeveral_114 (by decide) ?_
      exact h
    · have h := h.2 q9
      refine wp_iload dX12_needSeveral_57 rfl ?_
      obtain ⟨o10, h⟩ := h
      refine wp_if_eq (tgt := 75) dX12_needSeveral_59 (by decide) o10 (fun q11 => ?_) (fun q11 => ?_)
      · have h := h.1 q11
        refine wp_iconst dX12_needSeveral_75 ?_
        refine wp_istore (L2 := [some (Rv 88), some (Iv x1), some (Iv x2), some (Iv x3), some (Iv 0), some (Iv x5)]) dX12_needSeveral_76 (Nat.le_of_ble_eq_true rfl) (Nat.le_of_ble_eq_true rfl) rfl ?_
        refine wp_aload_n dX12_needSeveral_78 rfl (by decide) ?_
        refine wp_getf (t := Rv 113) 113 dX12_needSeveral_79 (fl_X12_85 rfl) kd_88 rfl rfl ?_
        refine wp_aload_n dX12_needSeveral_82 rfl (by decide) ?_
        refine wp_getf (t := Iv (M8 88 35)) (M8 88 35) dX12_needSeveral_83 (fl_X12_270 rfl) kd_88 rfl rfl ?_
        refine wp_iload dX12_needSeveral_86 rfl ?_
        obtain ⟨o12, h⟩ := h
        obtain ⟨o13, h⟩ := h
        refine wp_iast dX12_needSeveral_88 kd_113 sz_113 o12 o13 (⟨by omega, by omega⟩) ?_
        refine wp_iload_n dX12_needSeveral_89 rfl ?_
        refine wp_aload_n dX12_needSeveral_90 rfl (by decide) ?_
        refine wp_getf (t := Rv 95) 95 dX12_needSeveral_91 (fl_X12_29 rfl) kd_88 rfl rfl ?_
        refine wp_iload dX12_needSeveral_94 rfl ?_
        obtain ⟨o14, h⟩ := h
        refine wp_iald (M8 95 x5) dX12_needSeveral_96 kd_95 sz_95 o14 q2 (⟨by omega, by omega⟩) rfl ?_
        refine wp_iconst dX12_needSeveral_97 ?_
        refine wp_iadd dX12_needSeveral_98 ?_
        refine wp_imul dX12_needSeveral_99 ?_
        refine wp_istore_n (L2 := [some (Rv 88), some (Iv x1), some (Iv x2), some (Iv (x3 * ((M8 95 x5) + 1))), some (Iv 0), some (Iv x5)]) dX12_needSeveral_100 (Nat.le_of_ble_eq_true rfl) (Nat.le_of_ble_eq_true rfl) rfl ?_
        refine wp_aload_n dX12_needSeveral_101 rfl (by decide) ?_
        refine wp_dup dX12_needSeveral_102 rfl ?_
        refine wp_getf (t := Iv (M8 88 35)) (M8 88 35) dX12_needSeveral_103 (fl_X12_270 rfl) kd_88 rfl rfl ?_
        refine wp_iconst dX12_needSeveral_106 ?_
        refine wp_iadd dX12_needSeveral_107 ?_
        refine wp_putf (x := ((M8 88 35) + 1)) dX12_needSeveral_108 (fl_X12_270 rfl) kd_88 (fun _ => rfl) rfl rfl trivial ?_
        refine wp_iinc (L2 := [some (Rv 88), some (Iv x1), some (Iv x2), some (Iv (x3 * ((M8 95 x5) + 1))), some (Iv 0), some (Iv (x5 + 1))]) dX12_needSeveral_111 rfl (Nat.le_of_ble_eq_true rfl) (Nat.le_of_ble_eq_true rfl) rfl ?_
        refine wp_goto (tgt := 41) dX12_needSeveral_114 (by decide) ?_
        exact h
      · have h := h.2 q11
        refine wp_aload_n dX12_needSeveral_62 rfl (by decide) ?_
        refine wp_iload dX12_needSeveral_63 rfl ?_
        refine wp_callV (e1 := 0) (as := [Iv x5]) (S := []) dX12_needSeveral_65 (cs_X12_185 rfl) kd_88 rfl rfl (Nat.le_of_ble_eq_true rfl) (Nat.le_of_ble_eq_true rfl) h (fun v15 M15 q15 r15 => ?_)
        obtain ⟨z15, rfl, hz15⟩ := retV_z r15 rfl
        have h := q15
        refine wp_if_eq (tgt := 75) dX12_needSeveral_68 (by decide) (by have := hz15; omega) (fun q16 => ?_) (fun q16 => ?_)
        · have h := h.1 q16
          refine wp_iconst dX12_needSeveral_75 ?_
          refine wp_istore (L2 := [some (Rv 88), some (Iv x1), some (Iv x2), some (Iv x3), some (Iv 0), some (Iv x5)]) dX12_needSeveral_76 (Nat.le_of_ble_eq_true rfl) (Nat.le_of_ble_eq_true rfl) rfl ?_
          refine wp_aload_n dX12_needSeveral_78 rfl (by decide) ?_
          refine wp_getf (t := Rv 113) 113 dX12_needSeveral_79 (fl_X12_85 rfl) kd_88 rfl rfl ?_
          refine wp_aload_n dX12_needSeveral_82 rfl (by decide) ?_
          refine wp_getf (t := Iv (M15 88 35)) (M15 88 35) dX12_needSeveral_83 (fl_X12_270 rfl) kd_88 rfl rfl ?_
          refine wp_iload dX12_needSeveral_86 rfl ?_
          obtain ⟨o17, h⟩ := h
          obtain ⟨o18, h⟩ := h
          refine wp_iast dX12_needSeveral_88 kd_113 sz_113 o17 o18 (⟨by omega, by omega⟩) ?_
          refine wp_iload_n dX12_needSeveral_89 rfl ?_
          refine wp_aload_n dX12_needSeveral_90 rfl (by decide) ?_
          refine wp_getf (t := Rv 95) 95 dX12_needSeveral_91 (fl_X12_29 rfl) kd_88 rfl rfl ?_
          refine wp_iload dX12_needSeveral_94 rfl ?_
          obtain ⟨o19, h⟩ := h
          refine wp_iald (M15 95 x5) dX12_needSeveral_96 kd_95 sz_95 o19 q2 (⟨by omega, by omega⟩) rfl ?_
          refine wp_iconst dX12_needSeveral_97 ?_
          refine wp_iadd dX12_needSeveral_98 ?_
          refine wp_imul dX12_needSeveral_99 ?_
          refine wp_istore_n (L2 := [some (Rv 88), some (Iv x1), some (Iv x2), some (Iv (x3 * ((M15 95 x5) + 1))), some (Iv 0), some (Iv x5)]) dX12_needSeveral_100 (Nat.le_of_ble_eq_true rfl) (Nat.le_of_ble_eq_true rfl) rfl ?_
          refine wp_aload_n dX12_needSeveral_101 rfl (by decide) ?_
          refine wp_dup dX12_needSeveral_102 rfl ?_
          refine wp_getf (t := Iv (M15 88 35)) (M15 88 35) dX12_needSeveral_103 (fl_X12_270 rfl) kd_88 rfl rfl ?_
          refine wp_iconst dX12_needSeveral_106 ?_
          refine wp_iadd dX12_needSeveral_107 ?_
          refine wp_putf (x := ((M15 88 35) + 1)) dX12_needSeveral_108 (fl_X12_270 rfl) kd_88 (fun _ => rfl) rfl rfl trivial ?_
          refine wp_iinc (L2 := [some (Rv 88), some (Iv x1), some (Iv x2), some (Iv (x3 * ((M15 95 x5) + 1))), some (Iv 0), some (Iv (x5 + 1))]) dX12_needSeveral_111 rfl (Nat.le_of_ble_eq_true rfl) (Nat.le_of_ble_eq_true rfl) rfl ?_
          refine wp_goto (tgt := 41) dX12_needSeveral_114 (by decide) ?_
          exact h
        · have h := h.2 q16
          refine wp_iconst dX12_needSeveral_71 ?_
          refine wp_goto (tgt := 76) dX12_needSeveral_72 (by decide) ?_
          refine wp_istore (L2 := [some (Rv 88), some (Iv x1), some (Iv x2), some (Iv x3), some (Iv 1), some (Iv x5)]) dX12_needSeveral_76 (Nat.le_of_ble_eq_true rfl) (Nat.le_of_ble_eq_true rfl) rfl ?_
          refine wp_aload_n dX12_needSeveral_78 rfl (by decide) ?_
          refine wp_getf (t := Rv 113) 113 dX12_needSeveral_79 (fl_X12_85 rfl) kd_88 rfl rfl ?_
          refine wp_aload_n dX12_needSeveral_82 rfl (by decide) ?_
          refine wp_getf (t := Iv (M15 88 35)) (M15 88 35) dX12_needSeveral_83 (fl_X12_270 rfl) kd_88 rfl rfl ?_
          refine wp_iload dX12_needSeveral_86 rfl ?_
          obtain ⟨o20, h⟩ := h
          obtain ⟨o21, h⟩ := h
          refine wp_iast dX12_needSeveral_88 kd_113 sz_113 o20 o21 (⟨by omega, by omega⟩) ?_
          refine wp_iload_n dX12_needSeveral_89 rfl ?_
          refine wp_aload_n dX12_needSeveral_90 rfl (by decide) ?_
          refine wp_getf (t := Rv 95) 95 dX12_needSeveral_91 (fl_X12_29 rfl) kd_88 rfl rfl ?_
          refine wp_iload dX12_needSeveral_94 rfl ?_
          obtain ⟨o22, h⟩ := h
          refine wp_iald (M15 95 x5) dX12_needSeveral_96 kd_95 sz_95 o22 q2 (⟨by omega, by omega⟩) rfl ?_
          refine wp_iconst dX12_needSeveral_97 ?_
          refine wp_iadd dX12_needSeveral_98 ?_
          refine wp_imul dX12_needSeveral_99 ?_
          refine wp_istore_n (L2 := [some (Rv 88), some (Iv x1), some (Iv x2), some (Iv (x3 * ((M15 95 x5) + 1))), some (Iv 1), some (Iv x5)]) dX12_needSeveral_100 (Nat.le_of_ble_eq_true rfl) (Nat.le_of_ble_eq_true rfl) rfl ?_
          refine wp_aload_n dX12_needSeveral_101 rfl (by decide) ?_
          refine wp_dup dX12_needSeveral_102 rfl ?_
          refine wp_getf (t := Iv (M15 88 35)) (M15 88 35) dX12_needSeveral_103 (fl_X12_270 rfl) kd_88 rfl rfl ?_
          refine wp_iconst dX12_needSeveral_106 ?_
          refine wp_iadd dX12_needSeveral_107 ?_
          refine wp_putf (x := ((M15 88 35) + 1)) dX12_needSeveral_108 (fl_X12_270 rfl) kd_88 (fun _ => rfl) rfl rfl trivial ?_
          refine wp_iinc (L2 := [some (Rv 88), some (Iv x1), some (Iv x2), some (Iv (x3 * ((M15 95 x5) + 1))), some (Iv 1), some (Iv (x5 + 1))]) dX12_needSeveral_111 rfl (Nat.le_of_ble_eq_true rfl) (Nat.le_of_ble_eq_true rfl) rfl ?_
          refine wp_goto (tgt := 41) dX12_needSeveral_114 (by decide) ?_
          exact h
theorem gX12_code  {M : Mem} {Q : Vl → Mem → Prop} (h : wp 0 yX12_code 4 [some (Rv 88), some (Iv 0), some (Iv 0)] [] M Q) : wp 0 yX12_code 0 [some (Rv 88), none, none] [] M Q := by
  refine wp_iconst dX12_code_0 ?_
  refine wp_istore_n (L2 := [some (Rv 88), some (Iv 0), none]) dX12_code_1 (Nat.le_of_ble_eq_true rfl) (Nat.le_of_ble_eq_true rfl) rfl ?_
  refine wp_iconst dX12_code_2 ?_
  refine wp_istore_n (L2 := [some (Rv 88), some (Iv 0), some (Iv 0)]) dX12_code_3 (Nat.le_of_ble_eq_true rfl) (Nat.le_of_ble_eq_true rfl) rfl ?_
  exact h
theorem eX12_code  {M : Mem} {Q : Vl → Mem → Prop} (h : wp 0 yX12_code 4 [some (Rv 88), some (Iv 0), some (Iv 0)] [] M Q) : cl 0 yX12_code [Rv 88] M Q := enterG (by decide +kernel) (by exact Or.inr (Or.inl rfl)) (Nat.le_of_ble_eq_true rfl) rfl (gX12_code h)
theorem gX12_code_4 {x1 x2 : Int}  {M : Mem} {Q : Vl → Mem → Prop} (h : inr x2 ∧ (inr (M 88 35) ∧ (((M 88 35) ≤ x2 → Q (Iv x1) M) ∧ (x2 < (M 88 35) → 0 ≤ x2 ∧ (x2 < 4 ∧ (0 ≤ M 113 x2 ∧ (M 113 x2 < 8 ∧ (wp 0 yX12_code 4 [some (Rv 88), some (Iv ((x1 * ((M 95 (M 113 x2)) + 1)) + (M 115 x2))), some (Iv (x2 + 1))] [] M Q)))))))) : wp 0 yX12_code 4 [some (Rv 88), some (Iv x1), some (Iv x2)] [] M Q := by
  refine wp_iload_n dX12_code_4 rfl ?_
  refine wp_aload_n dX12_code_5 rfl (by decide) ?_
  refine wp_getf (t := Iv (M 88 35)) (M 88 35) dX12_code_6 (fl_X12_270 rfl) kd_88 rfl rfl ?_
  obtain ⟨o1, h⟩ := h
  obtain ⟨o2, h⟩ := h
  refine wp_icmp_ge (tgt := 41) dX12_code_9 (by decide) o1 o2 (fun q3 => ?_) (fun q3 => ?_)
  · have h := h.1 q3
    refine wp_iload_n dX12_code_41 rfl ?_
    exact wp_iret dX12_code_42 rfl (Or.inr ⟨rfl, rfl, rfl, by decide⟩) rfl h
  · have h := h.2 q3
    refine wp_iload_n dX12_code_12 rfl ?_
    refine wp_aload_n dX12_code_13 rfl (by decide) ?_
    refine wp_getf (t := Rv 95) 95 dX12_code_14 (fl_X12_29 rfl) kd_88 rfl rfl ?_
    refine wp_aload_n dX12_code_17 rfl (by decide) ?_
    refine wp_getf (t := Rv 113) 113 dX12_code_18 (fl_X12_85 rfl) kd_88 rfl rfl ?_
    refine wp_iload_n dX12_code_21 rfl ?_
    obtain ⟨o4, h⟩ := h
    obtain ⟨o5, h⟩ := h
    refine wp_iald (M 113 x2) dX12_code_22 kd_113 sz_113 o4 o5 (⟨by omega, by omega⟩) rfl ?_
    obtain ⟨o6, h⟩ := h
    obtain ⟨o7, h⟩ := h
    refine wp_iald (M 95 (M 113 x2)) dX12_code_23 kd_95 sz_95 o6 o7 (⟨by omega, by omega⟩) rfl ?_
    refine wp_iconst dX12_code_24 ?_
    refine wp_iadd dX12_code_25 ?_
    refine wp_imul dX12_code_26 ?_
    refine wp_aload_n dX12_code_27 rfl (by decide) ?_
    refine wp_getf (t := Rv 115) 115 dX12_code_28 (fl_X12_91 rfl) kd_88 rfl rfl ?_
    refine wp_iload_n dX12_code_31 rfl ?_
    refine wp_iald (M 115 x2) dX12_code_32 kd_115 sz_115 o4 o5 (⟨by omega, by omega⟩) rfl ?_
    refine wp_iadd dX12_code_33 ?_
    refine wp_istore_n (L2 := [some (Rv 88), some (Iv ((x1 * ((M 95 (M 113 x2)) + 1)) + (M 115 x2))), some (Iv x2)]) dX12_code_34 (Nat.le_of_ble_eq_true rfl) (Nat.le_of_ble_eq_true rfl) rfl ?_
    refine wp_iinc (L2 := [some (Rv 88), some (Iv ((x1 * ((M 95 (M 113 x2)) + 1)) + (M 115 x2))), some (Iv (x2 + 1))]) dX12_code_35 rfl (Nat.le_of_ble_eq_true rfl) (Nat.le_of_ble_eq_true rfl) rfl ?_
    refine wp_goto (tgt := 4) dX12_code_38 (by decide) ?_
    exact h
theorem gX12_allCodes  {M : Mem} {Q : Vl → Mem → Prop} (h : wp 0 yX12_allCodes 4 [some (Rv 88), some (Iv 1), some (Iv 0)] [] M Q) : wp 0 yX12_allCodes 0 [some (Rv 88), none, none] [] M Q := by
  refine wp_iconst dX12_allCodes_0 ?_
  refine wp_istore_n (L2 := [some (Rv 88), some (Iv 1), none]) dX12_allCodes_1 (Nat.le_of_ble_eq_true rfl) (Nat.le_of_ble_eq_true rfl) rfl ?_
  refine wp_iconst dX12_allCodes_2 ?_
  refine wp_istore_n (L2 := [some (Rv 88), some (Iv 1), some (Iv 0)]) dX12_allCodes_3 (Nat.le_of_ble_eq_true rfl) (Nat.le_of_ble_eq_true rfl) rfl ?_
  exact h
theorem eX12_allCodes  {M : Mem} {Q : Vl → Mem → Prop} (h : wp 0 yX12_allCodes 4 [some (Rv 88), some (Iv 1), some (Iv 0)] [] M Q) : cl 0 yX12_allCodes [Rv 88] M Q := enterG (by decide +kernel) (by exact Or.inr (Or.inl rfl)) (Nat.le_of_ble_eq_true rfl) rfl (gX12_allCodes h)
theorem gX12_allCodes_4 {x1 x2 : Int}  {M : Mem} {Q : Vl → Mem → Prop} (h : inr x2 ∧ (inr (M 88 35) ∧ (((M 88 35) ≤ x2 → Q (Iv x1) M) ∧ (x2 < (M 88 35) → 0 ≤ x2 ∧ (x2 < 4 ∧ (0 ≤ M 113 x2 ∧ (M 113 x2 < 8 ∧ (wp 0 yX12_allCodes 4 [some (Rv 88), some (Iv (x1 * ((M 95 (M 113 x2)) + 1))), some (Iv (x2 + 1))] [] M Q)))))))) : wp 0 yX12_allCodes 4 [some (Rv 88), some (Iv x1), some (Iv x2)] [] M Q := by
  refine wp_iload_n dX12_allCodes_4 rfl ?_
  refine wp_aload_n dX12_allCodes_5 rfl (by decide) ?_
  refine wp_getf (t := Iv (M 88 35)) (M 88 35) dX12_allCodes_6 (fl_X12_270 rfl) kd_88 rfl rfl ?_
  obtain ⟨o1, h⟩ := h
  obtain ⟨o2, h⟩ := h
  refine wp_icmp_ge (tgt := 34) dX12_allCodes_9 (by decide) o1 o2 (fun q3 => ?_) (fun q3 => ?_)
  · have h := h.1 q3
    refine wp_iload_n dX12_allCodes_34 rfl ?_
    exact wp_iret dX12_allCodes_35 rfl (Or.inr ⟨rfl, rfl, rfl, by decide⟩) rfl h
  · have h := h.2 q3
    refine wp_iload_n dX12_allCodes_12 rfl ?_
    refine wp_aload_n dX12_allCodes_13 rfl (by decide) ?_
    refine wp_getf (t := Rv 95) 95 dX12_allCodes_14 (fl_X12_29 rfl) kd_88 rfl rfl ?_
    refine wp_aload_n dX12_allCodes_17 rfl (by decide) ?_
    refine wp_getf (t := Rv 113) 113 dX12_allCodes_18 (fl_X12_85 rfl) kd_88 rfl rfl ?_
    refine wp_iload_n dX12_allCodes_21 rfl ?_
    obtain ⟨o4, h⟩ := h
    obtain ⟨o5, h⟩ := h
    refine wp_iald (M 113 x2) dX12_allCodes_22 kd_113 sz_113 o4 o5 (⟨by omega, by omega⟩) rfl ?_
    obtain ⟨o6, h⟩ := h
    obtain ⟨o7, h⟩ := h
    refine wp_iald (M 95 (M 113 x2)) dX12_allCodes_23 kd_95 sz_95 o6 o7 (⟨by omega, by omega⟩) rfl ?_
    refine wp_iconst dX12_allCodes_24 ?_
    refine wp_iadd dX12_allCodes_25 ?_
    refine wp_imul dX12_allCodes_26 ?_
    refine wp_istore_n (L2 := [some (Rv 88), some (Iv (x1 * ((M 95 (M 113 x2)) + 1))), some (Iv x2)]) dX12_allCodes_27 (Nat.le_of_ble_eq_true rfl) (Nat.le_of_ble_eq_true rfl) rfl ?_
    refine wp_iinc (L2 := [some (Rv 88), some (Iv (x1 * ((M 95 (M 113 x2)) + 1))), some (Iv (x2 + 1))]) dX12_allCodes_28 rfl (Nat.le_of_ble_eq_true rfl) (Nat.le_of_ble_eq_true rfl) rfl ?_
    refine wp_goto (tgt := 4) dX12_allCodes_31 (by decide) ?_
    exact h
theorem gX12_layAt {x1 : Int}  {M : Mem} {Q : Vl → Mem → Prop} (h : wp 0 yX12_layAt 9 [some (Rv 88), some (Iv x1), some (Iv x1), some (Iv ((M 88 35) - 1))] [] M Q) : wp 0 yX12_layAt 0 [some (Rv 88), some (Iv x1), none, none] [] M Q := by
  refine wp_iload_n dX12_layAt_0 rfl ?_
  refine wp_istore_n (L2 := [some (Rv 88), some (Iv x1), some (Iv x1), none]) dX12_layAt_1 (Nat.le_of_ble_eq_true rfl) (Nat.le_of_ble_eq_true rfl) rfl ?_
  refine wp_aload_n dX12_layAt_2 rfl (by decide) ?_
  refine wp_getf (t := Iv (M 88 35)) (M 88 35) dX12_layAt_3 (fl_X12_270 rfl) kd_88 rfl rfl ?_
  refine wp_iconst dX12_layAt_6 ?_
  refine wp_isub dX12_layAt_7 ?_
  refine wp_istore_n (L2 := [some (Rv 88), some (Iv x1), some (Iv x1), some (Iv ((M 88 35) - 1))]) dX12_layAt_8 (Nat.le_of_ble_eq_true rfl) (Nat.le_of_ble_eq_true rfl) rfl ?_
  exact h
theorem eX12_layAt {x1 : Int}  {M : Mem} {Q : Vl → Mem → Prop} (h : wp 0 yX12_layAt 9 [some (Rv 88), some (Iv x1), some (Iv x1), some (Iv ((M 88 35) - 1))] [] M Q) : cl 0 yX12_layAt [Rv 88, Iv x1] M Q := enterG (by decide +kernel) (by exact Or.inl rfl) (Nat.le_of_ble_eq_true rfl) rfl (gX12_layAt h)
theorem gX12_layAt_9 {x1 x2 x3 : Int}  {M : Mem} {Q : Vl → Mem → Prop} (h : inr x3 ∧ ((x3 < 0 → Q (Iv 0) M) ∧ (0 ≤ x3 → x3 < 4 ∧ (0 ≤ M 113 x3 ∧ (M 113 x3 < 8 ∧ (inr x2 ∧ (inr ((M 95 (M 113 x3)) + 1) ∧ ((M 95 (M 113 x3)) + 1 ≠ 0 ∧ (wp 0 yX12_layAt 9 [some (Rv 88), some (Iv x1), some (Iv (Int.tdiv x2 ((M 95 (M 113 x3)) + 1))), some (Iv (x3 + (-1)))] [] (up M 115 x3 (Int.tmod x2 ((M 95 (M 113 x3)) + 1))) Q))))))))) : wp 0 yX12_layAt 9 [some (Rv 88), some (Iv x1), some (Iv x2), some (Iv x3)] [] M Q := by
  refine wp_iload_n dX12_layAt_9 rfl ?_
  obtain ⟨o1, h⟩ := h
  refine wp_if_lt (tgt := 56) dX12_layAt_10 (by decide) o1 (fun q2 => ?_) (fun q2 => ?_)
  · have h := h.1 q2
    exact wp_vret dX12_layAt_56 rfl (Or.inr ⟨rfl, rfl, rfl, by decide⟩) rfl h
  · have h := h.2 q2
    refine wp_aload_n dX12_layAt_13 rfl (by decide) ?_
    refine wp_getf (t := Rv 115) 115 dX12_layAt_14 (fl_X12_91 rfl) kd_88 rfl rfl ?_
    refine wp_iload_n dX12_layAt_17 rfl ?_
    refine wp_iload_n dX12_layAt_18 rfl ?_
    refine wp_aload_n dX12_layAt_19 rfl (by decide) ?_
    refine wp_getf (t := Rv 95) 95 dX12_layAt_20 (fl_X12_29 rfl) kd_88 rfl rfl ?_
    refine wp_aload_n dX12_layAt_23 rfl (by decide) ?_
    refine wp_getf (t := Rv 113) 113 dX12_layAt_24 (fl_X12_85 rfl) kd_88 rfl rfl ?_
    refine wp_iload_n dX12_layAt_27 rfl ?_
    obtain ⟨o3, h⟩ := h
    refine wp_iald (M 113 x3) dX12_layAt_28 kd_113 sz_113 q2 o3 (⟨by omega, by omega⟩) rfl ?_
    obtain ⟨o4, h⟩ := h
    obtain ⟨o5, h⟩ := h
    refine wp_iald (M 95 (M 113 x3)) dX12_layAt_29 kd_95 sz_95 o4 o5 (⟨by omega, by omega⟩) rfl ?_
    refine wp_iconst dX12_layAt_30 ?_
    refine wp_iadd dX12_layAt_31 ?_
    obtain ⟨o6, h⟩ := h
    obtain ⟨o7, h⟩ := h
    obtain ⟨o8, h⟩ := h
    refine wp_irem dX12_layAt_32 o6 o7 o8 ?_
    refine wp_iast dX12_layAt_33 kd_115 sz_115 q2 o3 (⟨by omega, by omega⟩) ?_
    refine wp_iload_n dX12_layAt_34 rfl ?_
    refine wp_aload_n dX12_layAt_35 rfl (by decide) ?_
    refine wp_getf (t := Rv 95) 95 dX12_layAt_36 (fl_X12_29 rfl) kd_88 rfl rfl ?_
    refine wp_aload_n dX12_layAt_39 rfl (by decide) ?_
    refine wp_getf (t := Rv 113) 113 dX12_layAt_40 (fl_X12_85 rfl) kd_88 rfl rfl ?_
    refine wp_iload_n dX12_layAt_43 rfl ?_
    refine wp_iald (M 113 x3) dX12_layAt_44 kd_113 sz_113 q2 o3 (⟨by omega, by omega⟩) rfl ?_
    refine wp_iald (M 95 (M 113 x3)) dX12_layAt_45 kd_95 sz_95 o4 o5 (⟨by omega, by omega⟩) rfl ?_
    refine wp_iconst dX12_layAt_46 ?_
    refine wp_iadd dX12_layAt_47 ?_
    refine wp_idiv dX12_layAt_48 o6 o7 o8 ?_
    refine wp_istore_n (L2 := [some (Rv 88), some (Iv x1), some (Iv (Int.tdiv x2 ((M 95 (M 113 x3)) + 1))), some (Iv x3)]) dX12_layAt_49 (Nat.le_of_ble_eq_true rfl) (Nat.le_of_ble_eq_true rfl) rfl ?_
    refine wp_iinc (L2 := [some (Rv 88), some (Iv x1), some (Iv (Int.tdiv x2 ((M 95 (M 113 x3)) + 1))), some (Iv (x3 + (-1)))]) dX12_layAt_50 rfl (Nat.le_of_ble_eq_true rfl) (Nat.le_of_ble_eq_true rfl) rfl ?_
    refine wp_goto (tgt := 9) dX12_layAt_53 (by decide) ?_
    exact h
theorem gX12_behindNext {x1 x2 : Int}  {M : Mem} {Q : Vl → Mem → Prop} (h : cl 0 yX12_layAt [Rv 88, Iv x1] M (QV (fun M1 => (wp 0 yX12_behindNext 10 [some (Rv 88), some (Iv x1), some (Iv x2), some (Iv 1), some (Iv 0), none] [] M1 Q)))) : wp 0 yX12_behindNext 0 [some (Rv 88), some (Iv x1), some (Iv x2), none, none, none] [] M Q := by
  refine wp_aload_n dX12_behindNext_0 rfl (by decide) ?_
  refine wp_iload_n dX12_behindNext_1 rfl ?_
  refine wp_callV (e1 := 0) (as := [Iv x1]) (S := []) dX12_behindNext_2 (cs_X12_273 rfl) kd_88 rfl rfl (Nat.le_of_ble_eq_true rfl) (Nat.le_of_ble_eq_true rfl) h (fun v1 M1 q1 r1 => ?_)
  have h := q1
  refine wp_iconst dX12_behindNext_5 ?_
  refine wp_istore_n (L2 := [some (Rv 88), some (Iv x1), some (Iv x2), some (Iv 1), none, none]) dX12_behindNext_6 (Nat.le_of_ble_eq_true rfl) (Nat.le_of_ble_eq_true rfl) rfl ?_
  refine wp_iconst dX12_behindNext_7 ?_
  refine wp_istore (L2 := [some (Rv 88), some (Iv x1), some (Iv x2), some (Iv 1), some (Iv 0), none]) dX12_behindNext_8 (Nat.le_of_ble_eq_true rfl) (Nat.le_of_ble_eq_true rfl) rfl ?_
  exact h
theorem eX12_behindNext {x1 x2 : Int}  {M : Mem} {Q : Vl → Mem → Prop} (h : cl 0 yX12_layAt [Rv 88, Iv x1] M (QV (fun M1 => (wp 0 yX12_behindNext 10 [some (Rv 88), some (Iv x1), some (Iv x2), some (Iv 1), some (Iv 0), none] [] M1 Q)))) : cl 0 yX12_behindNext [Rv 88, Iv x1, Iv x2] M Q := enterG (by decide +kernel) (by exact Or.inr (Or.inl rfl)) (Nat.le_of_ble_eq_true rfl) rfl (gX12_behindNext h)
theorem gX12_behindNext_10 {x1 x2 x3 x4 : Int}  {M : Mem} {Q : Vl → Mem → Prop} (h : inr x4 ∧ (inr (M 88 35) ∧ (((M 88 35) ≤ x4 → inr x3 ∧ ((x3 = 0 → Q (Iv (-1)) M) ∧ (x3 ≠ 0 → cl 0 yX12_code [Rv 88] M (QI (fun z6 M6 => (Q (Iv z6) M6)))))) ∧ (x4 < (M 88 35) → inr x3 ∧ ((x3 = 0 → ((x3 = 0 → Q (Iv (-1)) M) ∧ (x3 ≠ 0 → cl 0 yX12_code [Rv 88] M (QI (fun z10 M10 => (Q (Iv z10) M10)))))) ∧ (x3 ≠ 0 → 0 ≤ x4 ∧ (x4 < 4 ∧ (cl 0 yX12_next [Rv 88, Iv (M 113 x4), Iv (M 115 x4), Iv x2] M (QI (fun z13 M13 => (inr z13 ∧ ((z13 = (-9) → wp 0 yX12_behindNext 10 [some (Rv 88), some (Iv x1), some (Iv x2), some (Iv 0), some (Iv (x4 + 1)), none] [] (up M13 115 x4 (z13 + 1)) Q) ∧ (z13 ≠ (-9) → wp 0 yX12_behindNext 10 [some (Rv 88), some (Iv x1), some (Iv x2), some (Iv 1), some (Iv (x4 + 1)), none] [] (up M13 115 x4 (z13 + 1)) Q))))))))))))) : wp 0 yX12_behindNext 10 [some (Rv 88), some (Iv x1), some (Iv x2), some (Iv x3), some (Iv x4), none] [] M Q := by
  refine wp_iload dX12_behindNext_10 rfl ?_
  refine wp_aload_n dX12_behindNext_12 rfl (by decide) ?_
  refine wp_getf (t := Iv (M 88 35)) (M 88 35) dX12_behindNext_13 (fl_X12_270 rfl) kd_88 rfl rfl ?_
  obtain ⟨o1, h⟩ := h
  obtain ⟨o2, h⟩ := h
  refine wp_icmp_ge (tgt := 74) dX12_behindNext_16 (by decide) o1 o2 (fun q3 => ?_) (fun q3 => ?_)
  · have h := h.1 q3
    refine wp_iload_n dX12_behindNext_74 rfl ?_
    obtain ⟨o4, h⟩ := h
    refine wp_if_eq (tgt := 85) dX12_behindNext_75 (by decide) o4 (fun q5 => ?_) (fun q5 => ?_)
    · have h := h.1 q5
      refine wp_iconst dX12_behindNext_85 ?_
      exact wp_iret dX12_behindNext_86 rfl (Or.inr ⟨rfl, rfl, rfl, by decide⟩) rfl h
    · have h := h.2 q5
      refine wp_aload_n dX12_behindNext_78 rfl (by decide) ?_
      refine wp_callV (e1 := 0) (as := []) (S := []) dX12_behindNext_79 (cs_X12_276 rfl) kd_88 rfl rfl (Nat.le_of_ble_eq_true rfl) (Nat.le_of_ble_eq_true rfl) h (fun v6 M6 q6 r6 => ?_)
      obtain ⟨z6, rfl⟩ := retV_i r6 rfl
      have h := q6
      refine wp_goto (tgt := 86) dX12_behindNext_82 (by decide) ?_
      exact wp_iret dX12_behindNext_86 rfl (Or.inr ⟨rfl, rfl, rfl, by decide⟩) rfl h
  · have h := h.2 q3
    refine wp_iload_n dX12_behindNext_19 rfl ?_
    obtain ⟨o7, h⟩ := h
    refine wp_if_eq (tgt := 74) dX12_behindNext_20 (by decide) o7 (fun q8 => ?_) (fun q8 => ?_)
    · have h := h.1 q8
      refine wp_iload_n dX12_behindNext_74 rfl ?_
      refine wp_if_eq (tgt := 85) dX12_behindNext_75 (by decide) o7 (fun q9 => ?_) (fun q9 => ?_)
      · have h := h.1 q9
        refine wp_iconst dX12_behindNext_85 ?_
        exact wp_iret dX12_behindNext_86 rfl (Or.inr ⟨rfl, rfl, rfl, by decide⟩) rfl h
      · have h := h.2 q9
        refine wp_aload_n dX12_behindNext_78 rfl (by decide) ?_
        refine wp_callV (e1 := 0) (as := []) (S := []) dX12_behindNext_79 (cs_X12_276 rfl) kd_88 rfl rfl (Nat.le_of_ble_eq_true rfl) (Nat.le_of_ble_eq_true rfl) h (fun v10 M10 q10 r10 => ?_)
        obtain ⟨z10, rfl⟩ := retV_i r10 rfl
        have h := q10
        refine wp_goto (tgt := 86) dX12_behindNext_82 (by decide) ?_
        exact wp_iret dX12_behindNext_86 rfl (Or.inr ⟨rfl, rfl, rfl, by decide⟩) rfl h
    · have h := h.2 q8
      refine wp_aload_n dX12_behindNext_23 rfl (by decide) ?_
      refine wp_aload_n dX12_behindNext_24 rfl (by decide) ?_
      refine wp_getf (t := Rv 113) 113 dX12_behindNext_25 (fl_X12_85 rfl) kd_88 rfl rfl ?_
      refine wp_iload dX12_behindNext_28 rfl ?_
      obtain ⟨o11, h⟩ := h
      obtain ⟨o12, h⟩ := h
      refine wp_iald (M 113 x4) dX12_behindNext_30 kd_113 sz_113 o11 o12 (⟨by omega, by omega⟩) rfl ?_
      refine wp_aload_n dX12_behindNext_31 rfl (by decide) ?_
      refine wp_getf (t := Rv 115) 115 dX12_behindNext_32 (fl_X12_91 rfl) kd_88 rfl rfl ?_
      refine wp_iload dX12_behindNext_35 rfl ?_
      refine wp_iald (M 115 x4) dX12_behindNext_37 kd_115 sz_115 o11 o12 (⟨by omega, by omega⟩) rfl ?_
      refine wp_iload_n dX12_behindNext_38 rfl ?_
      refine wp_callV (e1 := 0) (as := [Iv (M 113 x4), Iv (M 115 x4), Iv x2]) (S := []) dX12_behindNext_39 (cs_X12_206 rfl) kd_88 rfl rfl (Nat.le_of_ble_eq_true rfl) (Nat.le_of_ble_eq_true rfl) h (fun v13 M13 q13 r13 => ?_)
      obtain ⟨z13, rfl⟩ := retV_i r13 rfl
      have h := q13
      refine wp_istore (L2 := [some (Rv 88), some (Iv x1), some (Iv x2), some (Iv x3), some (Iv x4), some (Iv z13)]) dX12_behindNext_42 (Nat.le_of_ble_eq_true rfl) (Nat.le_of_ble_eq_true rfl) rfl ?_
      refine wp_iload dX12_behindNext_44 rfl ?_
      refine wp_bipush dX12_behindNext_46 (by decide) ?_
      obtain ⟨o14, h⟩ := h
      refine wp_icmp_eq (tgt := 55) dX12_behindNext_48 (by decide) (Or.inr ⟨o14, (by decide)⟩) (fun q15 => ?_) (fun q15 => ?_)
      · have h := h.1 q15
        refine wp_iconst dX12_behindNext_55 ?_
        refine wp_istore_n (L2 := [some (Rv 88), some (Iv x1), some (Iv x2), some (Iv 0), some (Iv x4), some (Iv z13)]) dX12_behindNext_56 (Nat.le_of_ble_eq_true rfl) (Nat.le_of_ble_eq_true rfl) rfl ?_
        refine wp_aload_n dX12_behindNext_57 rfl (by decide) ?_
        refine wp_getf (t := Rv 115) 115 dX12_behindNext_58 (fl_X12_91 rfl) kd_88 rfl rfl ?_
        refine wp_iload dX12_behindNext_61 rfl ?_
        refine wp_iload dX12_behindNext_63 rfl ?_
        refine wp_iconst dX12_behindNext_65 ?_
        refine wp_iadd dX12_behindNext_66 ?_
        refine wp_iast dX12_behindNext_67 kd_115 sz_115 o11 o12 (⟨by omega, by omega⟩) ?_
        refine wp_iinc (L2 := [some (Rv 88), some (Iv x1), some (Iv x2), some (Iv 0), some (Iv (x4 + 1)), some (Iv z13)]) dX12_behindNext_68 rfl (Nat.le_of_ble_eq_true rfl) (Nat.le_of_ble_eq_true rfl) rfl ?_
        refine wp_goto (tgt := 10) dX12_behindNext_71 (by decide) ?_
        exact wp_weak [true, true, true, true, true, false] rfl h
      · have h := h.2 q15
        refine wp_iconst dX12_behindNext_51 ?_
        refine wp_goto (tgt := 56) dX12_behindNext_52 (by decide) ?_
        refine wp_istore_n (L2 := [some (Rv 88), some (Iv x1), some (Iv x2), some (Iv 1), some (Iv x4), some (Iv z13)]) dX12_behindNext_56 (Nat.le_of_ble_eq_true rfl) (Nat.le_of_ble_eq_true rfl) rfl ?_
        refine wp_aload_n dX12_behindNext_57 rfl (by decide) ?_
        refine wp_getf (t := Rv 115) 115 dX12_behindNext_58 (fl_X12_91 rfl) kd_88 rfl rfl ?_
        refine wp_iload dX12_behindNext_61 rfl ?_
        refine wp_iload dX12_behindNext_63 rfl ?_
        refine wp_iconst dX12_behindNext_65 ?_
        refine wp_iadd dX12_behindNext_66 ?_
        refine wp_iast dX12_behindNext_67 kd_115 sz_115 o11 o12 (⟨by omega, by omega⟩) ?_
        refine wp_iinc (L2 := [some (Rv 88), some (Iv x1), some (Iv x2), some (Iv 1), some (Iv (x4 + 1)), some (Iv z13)]) dX12_behindNext_68 rfl (Nat.le_of_ble_eq_true rfl) (Nat.le_of_ble_eq_true rfl) rfl ?_
        refine wp_goto (tgt := 10) dX12_behindNext_71 (by decide) ?_
        exact wp_weak [true, true, true, true, true, false] rfl h
theorem gX12_behindHere {x1 x2 : Int}  {M : Mem} {Q : Vl → Mem → Prop} (h : cl 0 yX12_layAt [Rv 88, Iv x1] M (QV (fun M1 => (wp 0 yX12_behindHere 10 [some (Rv 88), some (Iv x1), some (Iv x2), some (Iv 0), some (Iv 0), none] [] M1 Q)))) : wp 0 yX12_behindHere 0 [some (Rv 88), some (Iv x1), some (Iv x2), none, none, none] [] M Q := by
  refine wp_aload_n dX12_behindHere_0 rfl (by decide) ?_
  refine wp_iload_n dX12_behindHere_1 rfl ?_
  refine wp_callV (e1 := 0) (as := [Iv x1]) (S := []) dX12_behindHere_2 (cs_X12_273 rfl) kd_88 rfl rfl (Nat.le_of_ble_eq_true rfl) (Nat.le_of_ble_eq_true rfl) h (fun v1 M1 q1 r1 => ?_)
  have h := q1
  refine wp_iconst dX12_behindHere_5 ?_
  refine wp_istore_n (L2 := [some (Rv 88), some (Iv x1), some (Iv x2), some (Iv 0), none, none]) dX12_behindHere_6 (Nat.le_of_ble_eq_true rfl) (Nat.le_of_ble_eq_true rfl) rfl ?_
  refine wp_iconst dX12_behindHere_7 ?_
  refine wp_istore (L2 := [some (Rv 88), some (Iv x1), some (Iv x2), some (Iv 0), some (Iv 0), none]) dX12_behindHere_8 (Nat.le_of_ble_eq_true rfl) (Nat.le_of_ble_eq_true rfl) rfl ?_
  exact h
theorem eX12_behindHere {x1 x2 : Int}  {M : Mem} {Q : Vl → Mem → Prop} (h : cl 0 yX12_layAt [Rv 88, Iv x1] M (QV (fun M1 => (wp 0 yX12_behindHere 10 [some (Rv 88), some (Iv x1), some (Iv x2), some (Iv 0), some (Iv 0), none] [] M1 Q)))) : cl 0 yX12_behindHere [Rv 88, Iv x1, Iv x2] M Q := enterG (by decide +kernel) (by exact Or.inr (Or.inl rfl)) (Nat.le_of_ble_eq_true rfl) rfl (gX12_behindHere h)
theorem gX12_behindHere_10 {x1 x2 x3 x4 : Int}  {M : Mem} {Q : Vl → Mem → Prop} (h : inr x4 ∧ (inr (M 88 35) ∧ (((M 88 35) ≤ x4 → inr x3 ∧ ((x3 = 0 → Q (Iv (-1)) M) ∧ (x3 ≠ 0 → cl 0 yX12_code [Rv 88] M (QI (fun z6 M6 => (Q (Iv z6) M6)))))) ∧ (x4 < (M 88 35) → 0 ≤ x4 ∧ (x4 < 4 ∧ (0 ≤ M 113 x4 ∧ (M 113 x4 < 8 ∧ (inr (M 115 x4) ∧ (inr (M 95 (M 113 x4)) ∧ (((M 95 (M 113 x4)) ≤ (M 115 x4) → inr x3 ∧ ((x3 ≠ 0 → wp 0 yX12_behindHere 10 [some (Rv 88), some (Iv x1), some (Iv x2), some (Iv 1), some (Iv (x4 + 1)), none] [] (up M 115 x4 ((M 115 x4) + 0)) Q) ∧ (x3 = 0 → wp 0 yX12_behindHere 10 [some (Rv 88), some (Iv x1), some (Iv x2), some (Iv 0), some (Iv (x4 + 1)), none] [] (up M 115 x4 ((M 115 x4) + 0)) Q))) ∧ ((M 115 x4) < (M 95 (M 113 x4)) → cl 0 yX12_at0 [Rv 88, Iv (M 113 x4), Iv (M 115 x4)] M (QI (fun z18 M18 => ((z18 = x2 ∨ (inr z18 ∧ inr x2)) ∧ ((z18 ≠ x2 → inr x3 ∧ ((x3 ≠ 0 → wp 0 yX12_behindHere 10 [some (Rv 88), some (Iv x1), some (Iv x2), some (Iv 1), some (Iv (x4 + 1)), none] [] (up M18 115 x4 ((M18 115 x4) + 0)) Q) ∧ (x3 = 0 → wp 0 yX12_behindHere 10 [some (Rv 88), some (Iv x1), some (Iv x2), some (Iv 0), some (Iv (x4 + 1)), none] [] (up M18 115 x4 ((M18 115 x4) + 0)) Q))) ∧ (z18 = x2 → inr x3 ∧ ((x3 ≠ 0 → wp 0 yX12_behindHere 10 [some (Rv 88), some (Iv x1), some (Iv x2), some (Iv 1), some (Iv (x4 + 1)), none] [] (up M18 115 x4 ((M18 115 x4) + 1)) Q) ∧ (x3 = 0 → wp 0 yX12_behindHere 10 [some (Rv 88), some (Iv x1), some (Iv x2), some (Iv 1), some (Iv (x4 + 1)), none] [] (up M18 115 x4 ((M18 115 x4) + 1)) Q)))))))))))))))))) : wp 0 yX12_behindHere 10 [some (Rv 88), some (Iv x1), some (Iv x2), some (Iv x3), some (Iv x4), none] [] M Q := by
  refine wp_iload dX12_behindHere_10 rfl ?_
  refine wp_aload_n dX12_behindHere_12 rfl (by decide) ?_
  refine wp_getf (t := Iv (M 88 35)) (M 88 35) dX12_behindHere_13 (fl_X12_270 rfl) kd_88 rfl rfl ?_
  obtain ⟨o1, h⟩ := h
  obtain ⟨o2, h⟩ := h
  refine wp_icmp_ge (tgt := 111) dX12_behindHere_16 (by decide) o1 o2 (fun q3 => ?_) (fun q3 => ?_)
  · have h := h.1 q3
    refine wp_iload_n dX12_behindHere_111 rfl ?_
    obtain ⟨o4, h⟩ := h
    refine wp_if_eq (tgt := 122) dX12_behindHere_112 (by decide) o4 (fun q5 => ?_) (fun q5 => ?_)
    · have h := h.1 q5
      refine wp_iconst dX12_behindHere_122 ?_
      exact wp_iret dX12_behindHere_123 rfl (Or.inr ⟨rfl, rfl, rfl, by decide⟩) rfl h
    · have h := h.2 q5
      refine wp_aload_n dX12_behindHere_115 rfl (by decide) ?_
      refine wp_callV (e1 := 0) (as := []) (S := []) dX12_behindHere_116 (cs_X12_276 rfl) kd_88 rfl rfl (Nat.le_of_ble_eq_true rfl) (Nat.le_of_ble_eq_true rfl) h (fun v6 M6 q6 r6 => ?_)
      obtain ⟨z6, rfl⟩ := retV_i r6 rfl
      have h := q6
      refine wp_goto (tgt := 123) dX12_behindHere_119 (by decide) ?_
      exact wp_iret dX12_behindHere_123 rfl (Or.inr ⟨rfl, rfl, rfl, by decide⟩) rfl h
  · have h := h.2 q3
    refine wp_aload_n dX12_behindHere_19 rfl (by decide) ?_
    refine wp_getf (t := Rv 115) 115 dX12_behindHere_20 (fl_X12_91 rfl) kd_88 rfl rfl ?_
    refine wp_iload dX12_behindHere_23 rfl ?_
    obtain ⟨o7, h⟩ := h
    obtain ⟨o8, h⟩ := h
    refine wp_iald (M 115 x4) dX12_behindHere_25 kd_115 sz_115 o7 o8 (⟨by omega, by omega⟩) rfl ?_
    refine wp_aload_n dX12_behindHere_26 rfl (by decide) ?_
    refine wp_getf (t := Rv 95) 95 dX12_behindHere_27 (fl_X12_29 rfl) kd_88 rfl rfl ?_
    refine wp_aload_n dX12_behindHere_30 rfl (by decide) ?_
    refine wp_getf (t := Rv 113) 113 dX12_behindHere_31 (fl_X12_85 rfl) kd_88 rfl rfl ?_
    refine wp_iload dX12_behindHere_34 rfl ?_
    refine wp_iald (M 113 x4) dX12_behindHere_36 kd_113 sz_113 o7 o8 (⟨by omega, by omega⟩) rfl ?_
    obtain ⟨o9, h⟩ := h
    obtain ⟨o10, h⟩ := h
    refine wp_iald (M 95 (M 113 x4)) dX12_behindHere_37 kd_95 sz_95 o9 o10 (⟨by omega, by omega⟩) rfl ?_
    obtain ⟨o11, h⟩ := h
    obtain ⟨o12, h⟩ := h
    refine wp_icmp_ge (tgt := 67) dX12_behindHere_38 (by decide) o11 o12 (fun q13 => ?_) (fun q13 => ?_)
    · have h := h.1 q13
      refine wp_iconst dX12_behindHere_67 ?_
      refine wp_istore (L2 := [some (Rv 88), some (Iv x1), some (Iv x2), some (Iv x3), some (Iv x4), some (Iv 0)]) dX12_behindHere_68 (Nat.le_of_ble_eq_true rfl) (Nat.le_of_ble_eq_true rfl) rfl ?_
      refine wp_aload_n dX12_behindHere_70 rfl (by decide) ?_
      refine wp_getf (t := Rv 115) 115 dX12_behindHere_71 (fl_X12_91 rfl) kd_88 rfl rfl ?_
      refine wp_iload dX12_behindHere_74 rfl ?_
      refine wp_dup2 dX12_behindHere_76 rfl rfl ?_
      refine wp_iald (M 115 x4) dX12_behindHere_77 kd_115 sz_115 o7 o8 (⟨by omega, by omega⟩) rfl ?_
      refine wp_iload dX12_behindHere_78 rfl ?_
      refine wp_if_eq (tgt := 87) dX12_behindHere_80 (by decide) (by decide) (fun q14 => ?_) (fun q14 => ?_)
      · have _ := 0
        refine wp_iconst dX12_behindHere_87 ?_
        refine wp_iadd dX12_behindHere_88 ?_
        refine wp_iast dX12_behindHere_89 kd_115 sz_115 o7 o8 (⟨by omega, by omega⟩) ?_
        refine wp_iload_n dX12_behindHere_90 rfl ?_
        obtain ⟨o15, h⟩ := h
        refine wp_if_ne (tgt := 99) dX12_behindHere_91 (by decide) o15 (fun q16 => ?_) (fun q16 => ?_)
        · have h := h.1 q16
          refine wp_iconst dX12_behindHere_99 ?_
          refine wp_goto (tgt := 104) dX12_behindHere_100 (by decide) ?_
          refine wp_istore_n (L2 := [some (Rv 88), some (Iv x1), some (Iv x2), some (Iv 1), some (Iv x4), some (Iv 0)]) dX12_behindHere_104 (Nat.le_of_ble_eq_true rfl) (Nat.le_of_ble_eq_true rfl) rfl ?_
          refine wp_iinc (L2 := [some (Rv 88), some (Iv x1), some (Iv x2), some (Iv 1), some (Iv (x4 + 1)), some (Iv 0)]) dX12_behindHere_105 rfl (Nat.le_of_ble_eq_true rfl) (Nat.le_of_ble_eq_true rfl) rfl ?_
          refine wp_goto (tgt := 10) dX12_behindHere_108 (by decide) ?_
          exact wp_weak [true, true, true, true, true, false] rfl h
        · have h := h.2 q16
          refine wp_iload dX12_behindHere_94 rfl ?_
          refine wp_if_eq (tgt := 103) dX12_behindHere_96 (by decide) (by decide) (fun q17 => ?_) (fun q17 => ?_)
          · have _ := 0
            refine wp_iconst dX12_behindHere_103 ?_
            refine wp_istore_n (L2 := [some (Rv 88), some (Iv x1), some (Iv x2), some (Iv 0), some (Iv x4), some (Iv 0)]) dX12_behindHere_104 (Nat.le_of_ble_eq_true rfl) (Nat.le_of_ble_eq_true rfl) rfl ?_
            refine wp_iinc (L2 := [some (Rv 88), some (Iv x1), some (Iv x2), some (Iv 0), some (Iv (x4 + 1)), some (Iv 0)]) dX12_behindHere_105 rfl (Nat.le_of_ble_eq_true rfl) (Nat.le_of_ble_eq_true rfl) rfl ?_
            refine wp_goto (tgt := 10) dX12_behindHere_108 (by decide) ?_
            exact wp_weak [true, true, true, true, true, false] rfl h
          · exact absurd q17 (by decide)
      · exact absurd q14 (by decide)
    · have h := h.2 q13
      refine wp_aload_n dX12_behindHere_41 rfl (by decide) ?_
      refine wp_aload_n dX12_behindHere_42 rfl (by decide) ?_
      refine wp_getf (t := Rv 113) 113 dX12_behindHere_43 (fl_X12_85 rfl) kd_88 rfl rfl ?_
      refine wp_iload dX12_behindHere_46 rfl ?_
      refine wp_iald (M 113 x4) dX12_behindHere_48 kd_113 sz_113 o7 o8 (⟨by omega, by omega⟩) rfl ?_
      refine wp_aload_n dX12_behindHere_49 rfl (by decide) ?_
      refine wp_getf (t := Rv 115) 115 dX12_behindHere_50 (fl_X12_91 rfl) kd_88 rfl rfl ?_
      refine wp_iload dX12_behindHere_53 rfl ?_
      refine wp_iald (M 115 x4) dX12_behindHere_55 kd_115 sz_115 o7 o8 (⟨by omega, by omega⟩) rfl ?_
      refine wp_callV (e1 := 0) (as := [Iv (M 113 x4), Iv (M 115 x4)]) (S := []) dX12_behindHere_56 (cs_X12_148 rfl) kd_88 rfl rfl (Nat.le_of_ble_eq_true rfl) (Nat.le_of_ble_eq_true rfl) h (fun v18 M18 q18 r18 => ?_)
      obtain ⟨z18, rfl⟩ := retV_i r18 rfl
      have h := q18
      refine wp_iload_n dX12_behindHere_59 rfl ?_
      obtain ⟨o19, h⟩ := h
      refine wp_icmp_ne (tgt := 67) dX12_behindHere_60 (by decide) o19 (fun q20 => ?_) (fun q20 => ?_)
      · have h := h.1 q20
        refine wp_iconst dX12_behindHere_67 ?_
        refine wp_istore (L2 := [some (Rv 88), some (Iv x1), some (Iv x2), some (Iv x3), some (Iv x4), some (Iv 0)]) dX12_behindHere_68 (Nat.le_of_ble_eq_true rfl) (Nat.le_of_ble_eq_true rfl) rfl ?_
        refine wp_aload_n dX12_behindHere_70 rfl (by decide) ?_
        refine wp_getf (t := Rv 115) 115 dX12_behindHere_71 (fl_X12_91 rfl) kd_88 rfl rfl ?_
        refine wp_iload dX12_behindHere_74 rfl ?_
        refine wp_dup2 dX12_behindHere_76 rfl rfl ?_
        refine wp_iald (M18 115 x4) dX12_behindHere_77 kd_115 sz_115 o7 o8 (⟨by omega, by omega⟩) rfl ?_
        refine wp_iload dX12_behindHere_78 rfl ?_
        refine wp_if_eq (tgt := 87) dX12_behindHere_80 (by decide) (by decide) (fun q21 => ?_) (fun q21 => ?_)
        · have _ := 0
          refine wp_iconst dX12_behindHere_87 ?_
          refine wp_iadd dX12_behindHere_88 ?_
          refine wp_iast dX12_behindHere_89 kd_115 sz_115 o7 o8 (⟨by omega, by omega⟩) ?_
          refine wp_iload_n dX12_behindHere_90 rfl ?_
          obtain ⟨o22, h⟩ := h
          refine wp_if_ne (tgt := 99) dX12_behindHere_91 (by decide) o22 (fun q23 => ?_) (fun q23 => ?_)
          · have h := h.1 q23
            refine wp_iconst dX12_behindHere_99 ?_
            refine wp_goto (tgt := 104) dX12_behindHere_100 (by decide) ?_
            refine wp_istore_n (L2 := [some (Rv 88), some (Iv x1), some (Iv x2), some (Iv 1), some (Iv x4), some (Iv 0)]) dX12_behindHere_104 (Nat.le_of_ble_eq_true rfl) (Nat.le_of_ble_eq_true rfl) rfl ?_
            refine wp_iinc (L2 := [some (Rv 88), some (Iv x1), some (Iv x2), some (Iv 1), some (Iv (x4 + 1)), some (Iv 0)]) dX12_behindHere_105 rfl (Nat.le_of_ble_eq_true rfl) (Nat.le_of_ble_eq_true rfl) rfl ?_
            refine wp_goto (tgt := 10) dX12_behindHere_108 (by decide) ?_
            exact wp_weak [true, true, true, true, true, false] rfl h
          · have h := h.2 q23
            refine wp_iload dX12_behindHere_94 rfl ?_
            refine wp_if_eq (tgt := 103) dX12_behindHere_96 (by decide) (by decide) (fun q24 => ?_) (fun q24 => ?_)
            · have _ := 0
              refine wp_iconst dX12_behindHere_103 ?_
              refine wp_istore_n (L2 := [some (Rv 88), some (Iv x1), some (Iv x2), some (Iv 0), some (Iv x4), some (Iv 0)]) dX12_behindHere_104 (Nat.le_of_ble_eq_true rfl) (Nat.le_of_ble_eq_true rfl) rfl ?_
              refine wp_iinc (L2 := [some (Rv 88), some (Iv x1), some (Iv x2), some (Iv 0), some (Iv (x4 + 1)), some (Iv 0)]) dX12_behindHere_105 rfl (Nat.le_of_ble_eq_true rfl) (Nat.le_of_ble_eq_true rfl) rfl ?_
              refine wp_goto (tgt := 10) dX12_behindHere_108 (by decide) ?_
              exact wp_weak [true, true, true, true, true, false] rfl h
            · exact absurd q24 (by decide)
        · exact absurd q21 (by decide)
      · have h := h.2 q20
        refine wp_iconst dX12_behindHere_63 ?_
        refine wp_goto (tgt := 68) dX12_behindHere_64 (by decide) ?_
        refine wp_istore (L2 := [some (Rv 88), some (Iv x1), some (Iv x2), some (Iv x3), some (Iv x4), some (Iv 1)]) dX12_behindHere_68 (Nat.le_of_ble_eq_true rfl) (Nat.le_of_ble_eq_true rfl) rfl ?_
        refine wp_aload_n dX12_behindHere_70 rfl (by decide) ?_
        refine wp_getf (t := Rv 115) 115 dX12_behindHere_71 (fl_X12_91 rfl) kd_88 rfl rfl ?_
        refine wp_iload dX12_behindHere_74 rfl ?_
        refine wp_dup2 dX12_behindHere_76 rfl rfl ?_
        refine wp_iald (M18 115 x4) dX12_behindHere_77 kd_115 sz_115 o7 o8 (⟨by omega, by omega⟩) rfl ?_
        refine wp_iload dX12_behindHere_78 rfl ?_
        refine wp_if_eq (tgt := 87) dX12_behindHere_80 (by decide) (by decide) (fun q25 => ?_) (fun q25 => ?_)
        · exact absurd q25 (by decide)
        · have _ := 0
          refine wp_iconst dX12_behindHere_83 ?_
          refine wp_goto (tgt := 88) dX12_behindHere_84 (by decide) ?_
          refine wp_iadd dX12_behindHere_88 ?_
          refine wp_iast dX12_behindHere_89 kd_115 sz_115 o7 o8 (⟨by omega, by omega⟩) ?_
          refine wp_iload_n dX12_behindHere_90 rfl ?_
          obtain ⟨o26, h⟩ := h
          refine wp_if_ne (tgt := 99) dX12_behindHere_91 (by decide) o26 (fun q27 => ?_) (fun q27 => ?_)
          · have h := h.1 q27
            refine wp_iconst dX12_behindHere_99 ?_
            refine wp_goto (tgt := 104) dX12_behindHere_100 (by decide) ?_
            refine wp_istore_n (L2 := [some (Rv 88), some (Iv x1), some (Iv x2), some (Iv 1), some (Iv x4), some (Iv 1)]) dX12_behindHere_104 (Nat.le_of_ble_eq_true rfl) (Nat.le_of_ble_eq_true rfl) rfl ?_
            refine wp_iinc (L2 := [some (Rv 88), some (Iv x1), some (Iv x2), some (Iv 1), some (Iv (x4 + 1)), some (Iv 1)]) dX12_behindHere_105 rfl (Nat.le_of_ble_eq_true rfl) (Nat.le_of_ble_eq_true rfl) rfl ?_
            refine wp_goto (tgt := 10) dX12_behindHere_108 (by decide) ?_
            exact wp_weak [true, true, true, true, true, false] rfl h
          · have h := h.2 q27
            refine wp_iload dX12_behindHere_94 rfl ?_
            refine wp_if_eq (tgt := 103) dX12_behindHere_96 (by decide) (by decide) (fun q28 => ?_) (fun q28 => ?_)
            · exact absurd q28 (by decide)
            · have _ := 0
              refine wp_iconst dX12_behindHere_99 ?_
              refine wp_goto (tgt := 104) dX12_behindHere_100 (by decide) ?_
              refine wp_istore_n (L2 := [some (Rv 88), some (Iv x1), some (Iv x2), some (Iv 1), some (Iv x4), some (Iv 1)]) dX12_behindHere_104 (Nat.le_of_ble_eq_true rfl) (Nat.le_of_ble_eq_true rfl) rfl ?_
              refine wp_iinc (L2 := [some (Rv 88), some (Iv x1), some (Iv x2), some (Iv 1), some (Iv (x4 + 1)), some (Iv 1)]) dX12_behindHere_105 rfl (Nat.le_of_ble_eq_true rfl) (Nat.le_of_ble_eq_true rfl) rfl ?_
              refine wp_goto (tgt := 10) dX12_behindHere_108 (by decide) ?_
              exact wp_weak [true, true, true, true, true, false] rfl h
theorem gX12_common {x1 x2 : Int}  {M : Mem} {Q : Vl → Mem → Prop} (h : cl 0 yX12_needSeveral [Rv 88, Iv x1, Iv x2] M (QI (fun z1 M1 => (inr z1 ∧ ((0 ≤ z1 → cl 0 yX12_allCodes [Rv 88] M1 (QI (fun z4 M4 => (wp 0 yX12_common 21 [some (Rv 88), some (Iv x1), some (Iv x2), some (Iv z1), some (Iv (z4 - 1)), none, none, none] [] M4 Q)))) ∧ (z1 < 0 → Q (Iv z1) M1)))))) : wp 0 yX12_common 0 [some (Rv 88), some (Iv x1), some (Iv x2), none, none, none, none, none] [] M Q := by
  refine wp_aload_n dX12_common_0 rfl (by decide) ?_
  refine wp_iload_n dX12_common_1 rfl ?_
  refine wp_iload_n dX12_common_2 rfl ?_
  refine wp_callV (e1 := 0) (as := [Iv x1, Iv x2]) (S := []) dX12_common_3 (cs_X12_280 rfl) kd_88 rfl rfl (Nat.le_of_ble_eq_true rfl) (Nat.le_of_ble_eq_true rfl) h (fun v1 M1 q1 r1 => ?_)
  obtain ⟨z1, rfl⟩ := retV_i r1 rfl
  have h := q1
  refine wp_istore_n (L2 := [some (Rv 88), some (Iv x1), some (Iv x2), some (Iv z1), none, none, none, none]) dX12_common_6 (Nat.le_of_ble_eq_true rfl) (Nat.le_of_ble_eq_true rfl) rfl ?_
  refine wp_iload_n dX12_common_7 rfl ?_
  obtain ⟨o2, h⟩ := h
  refine wp_if_ge (tgt := 13) dX12_common_8 (by decide) o2 (fun q3 => ?_) (fun q3 => ?_)
  · have h := h.1 q3
    refine wp_aload_n dX12_common_13 rfl (by decide) ?_
    refine wp_callV (e1 := 0) (as := []) (S := []) dX12_common_14 (cs_X12_283 rfl) kd_88 rfl rfl (Nat.le_of_ble_eq_true rfl) (Nat.le_of_ble_eq_true rfl) h (fun v4 M4 q4 r4 => ?_)
    obtain ⟨z4, rfl⟩ := retV_i r4 rfl
    have h := q4
    refine wp_iconst dX12_common_17 ?_
    refine wp_isub dX12_common_18 ?_
    refine wp_istore (L2 := [some (Rv 88), some (Iv x1), some (Iv x2), some (Iv z1), some (Iv (z4 - 1)), none, none, none]) dX12_common_19 (Nat.le_of_ble_eq_true rfl) (Nat.le_of_ble_eq_true rfl) rfl ?_
    exact h
  · have h := h.2 q3
    refine wp_iload_n dX12_common_11 rfl ?_
    exact wp_iret dX12_common_12 rfl (Or.inr ⟨rfl, rfl, rfl, by decide⟩) rfl h
theorem eX12_common {x1 x2 : Int}  {M : Mem} {Q : Vl → Mem → Prop} (h : cl 0 yX12_needSeveral [Rv 88, Iv x1, Iv x2] M (QI (fun z1 M1 => (inr z1 ∧ ((0 ≤ z1 → cl 0 yX12_allCodes [Rv 88] M1 (QI (fun z4 M4 => (wp 0 yX12_common 21 [some (Rv 88), some (Iv x1), some (Iv x2), some (Iv z1), some (Iv (z4 - 1)), none, none, none] [] M4 Q)))) ∧ (z1 < 0 → Q (Iv z1) M1)))))) : cl 0 yX12_common [Rv 88, Iv x1, Iv x2] M Q := enterG (by decide +kernel) (by exact Or.inr (Or.inl rfl)) (Nat.le_of_ble_eq_true rfl) rfl (gX12_common h)
theorem gX12_common_21 {x1 x2 x3 x4 : Int}  {M : Mem} {Q : Vl → Mem → Prop} (h : inr x4 ∧ ((x4 < 0 → wp 0 yX12_common 134 [some (Rv 88), some (Iv x1), some (Iv x2), some (Iv x3), some (Iv (M 114 0)), some (Iv 0), none, none] [] (up M 88 17 0) Q) ∧ (0 ≤ x4 → x4 < 20001 ∧ (wp 0 yX12_common 37 [some (Rv 88), some (Iv x1), some (Iv x2), some (Iv x3), some (Iv x4), some (Iv 0), none, none] [] (up M 114 x4 0) Q)))) : wp 0 yX12_common 21 [some (Rv 88), some (Iv x1), some (Iv x2), some (Iv x3), some (Iv x4), none, none, none] [] M Q := by
  refine wp_iload dX12_common_21 rfl ?_
  obtain ⟨o1, h⟩ := h
  refine wp_if_lt (tgt := 118) dX12_common_23 (by decide) o1 (fun q2 => ?_) (fun q2 => ?_)
  · have h := h.1 q2
    refine wp_aload_n dX12_common_118 rfl (by decide) ?_
    refine wp_getf (t := Rv 114) 114 dX12_common_119 (fl_X12_88 rfl) kd_88 rfl rfl ?_
    refine wp_iconst dX12_common_122 ?_
    refine wp_iald (M 114 0) dX12_common_123 kd_114 sz_114 (by decide) (by decide) (by decide) rfl ?_
    refine wp_istore (L2 := [some (Rv 88), some (Iv x1), some (Iv x2), some (Iv x3), some (Iv (M 114 0)), none, none, none]) dX12_common_124 (Nat.le_of_ble_eq_true rfl) (Nat.le_of_ble_eq_true rfl) rfl ?_
    refine wp_iconst dX12_common_126 ?_
    refine wp_istore (L2 := [some (Rv 88), some (Iv x1), some (Iv x2), some (Iv x3), some (Iv (M 114 0)), some (Iv 0), none, none]) dX12_common_127 (Nat.le_of_ble_eq_true rfl) (Nat.le_of_ble_eq_true rfl) rfl ?_
    refine wp_aload_n dX12_common_129 rfl (by decide) ?_
    refine wp_iconst dX12_common_130 ?_
    refine wp_putf (x := 0) dX12_common_131 (fl_X12_151 rfl) kd_88 (fun _ => rfl) rfl rfl trivial ?_
    exact h
  · have h := h.2 q2
    refine wp_aload_n dX12_common_26 rfl (by decide) ?_
    refine wp_getf (t := Rv 114) 114 dX12_common_27 (fl_X12_88 rfl) kd_88 rfl rfl ?_
    refine wp_iload dX12_common_30 rfl ?_
    refine wp_iconst dX12_common_32 ?_
    obtain ⟨o3, h⟩ := h
    refine wp_iast dX12_common_33 kd_114 sz_114 q2 o3 (⟨by omega, by omega⟩) ?_
    refine wp_iconst dX12_common_34 ?_
    refine wp_istore (L2 := [some (Rv 88), some (Iv x1), some (Iv x2), some (Iv x3), some (Iv x4), some (Iv 0), none, none]) dX12_common_35 (Nat.le_of_ble_eq_true rfl) (Nat.le_of_ble_eq_true rfl) rfl ?_
    exact h
theorem gX12_common_37 {x1 x2 x3 x4 x5 : Int}  {M : Mem} {Q : Vl → Mem → Prop} (h : inr x5 ∧ (inr (M 88 11) ∧ (((M 88 11) ≤ x5 → wp 0 yX12_common 21 [some (Rv 88), some (Iv x1), some (Iv x2), some (Iv x3), some (Iv (x4 + (-1))), none, none, none] [] M Q) ∧ (x5 < (M 88 11) → cl 0 yX12_behindNext [Rv 88, Iv x4, Iv x5] M (QI (fun z4 M4 => (inr z4 ∧ ((z4 < 0 → 0 ≤ x4 ∧ (x4 < 20001 ∧ (wp 0 yX12_common 37 [some (Rv 88), some (Iv x1), some (Iv x2), some (Iv x3), some (Iv x4), some (Iv (x5 + 1)), none, none] [] (up M4 114 x4 (M4 114 x4)) Q))) ∧ (0 ≤ z4 → z4 < 20001 ∧ (0 ≤ x4 ∧ (x4 < 20001 ∧ (inr ((M4 114 z4) + 1) ∧ (inr (M4 114 x4) ∧ ((((M4 114 z4) + 1) ≤ (M4 114 x4) → wp 0 yX12_common 37 [some (Rv 88), some (Iv x1), some (Iv x2), some (Iv x3), some (Iv x4), some (Iv (x5 + 1)), none, none] [] (up M4 114 x4 (M4 114 x4)) Q) ∧ ((M4 114 x4) < ((M4 114 z4) + 1) → wp 0 yX12_common 37 [some (Rv 88), some (Iv x1), some (Iv x2), some (Iv x3), some (Iv x4), some (Iv (x5 + 1)), none, none] [] (up M4 114 x4 ((M4 114 z4) + 1)) Q))))))))))))))) : wp 0 yX12_common 37 [some (Rv 88), some (Iv x1), some (Iv x2), some (Iv x3), some (Iv x4), some (Iv x5), none, none] [] M Q := by
  refine wp_iload dX12_common_37 rfl ?_
  refine wp_aload_n dX12_common_39 rfl (by decide) ?_
  refine wp_getf (t := Iv (M 88 11)) (M 88 11) dX12_common_40 (fl_X12_110 rfl) kd_88 rfl rfl ?_
  obtain ⟨o1, h⟩ := h
  obtain ⟨o2, h⟩ := h
  refine wp_icmp_ge (tgt := 112) dX12_common_43 (by decide) o1 o2 (fun q3 => ?_) (fun q3 => ?_)
  · have h := h.1 q3
    refine wp_iinc (L2 := [some (Rv 88), some (Iv x1), some (Iv x2), some (Iv x3), some (Iv (x4 + (-1))), some (Iv x5), none, none]) dX12_common_112 rfl (Nat.le_of_ble_eq_true rfl) (Nat.le_of_ble_eq_true rfl) rfl ?_
    refine wp_goto (tgt := 21) dX12_common_115 (by decide) ?_
    exact wp_weak [true, true, true, true, true, false, true, true] rfl h
  · have h := h.2 q3
    refine wp_aload_n dX12_common_46 rfl (by decide) ?_
    refine wp_iload dX12_common_47 rfl ?_
    refine wp_iload dX12_common_49 rfl ?_
    refine wp_callV (e1 := 0) (as := [Iv x4, Iv x5]) (S := []) dX12_common_51 (cs_X12_286 rfl) kd_88 rfl rfl (Nat.le_of_ble_eq_true rfl) (Nat.le_of_ble_eq_true rfl) h (fun v4 M4 q4 r4 => ?_)
    obtain ⟨z4, rfl⟩ := retV_i r4 rfl
    have h := q4
    refine wp_istore (L2 := [some (Rv 88), some (Iv x1), some (Iv x2), some (Iv x3), some (Iv x4), some (Iv x5), some (Iv z4), none]) dX12_common_54 (Nat.le_of_ble_eq_true rfl) (Nat.le_of_ble_eq_true rfl) rfl ?_
    refine wp_aload_n dX12_common_56 rfl (by decide) ?_
    refine wp_getf (t := Rv 114) 114 dX12_common_57 (fl_X12_88 rfl) kd_88 rfl rfl ?_
    refine wp_iload dX12_common_60 rfl ?_
    refine wp_iload dX12_common_62 rfl ?_
    obtain ⟨o5, h⟩ := h
    refine wp_if_lt (tgt := 98) dX12_common_64 (by decide) o5 (fun q6 => ?_) (fun q6 => ?_)
    · have h := h.1 q6
      refine wp_aload_n dX12_common_98 rfl (by decide) ?_
      refine wp_getf (t := Rv 114) 114 dX12_common_99 (fl_X12_88 rfl) kd_88 rfl rfl ?_
      refine wp_iload dX12_common_102 rfl ?_
      obtain ⟨o7, h⟩ := h
      obtain ⟨o8, h⟩ := h
      refine wp_iald (M4 114 x4) dX12_common_104 kd_114 sz_114 o7 o8 (⟨by omega, by omega⟩) rfl ?_
      refine wp_iast dX12_common_105 kd_114 sz_114 o7 o8 (⟨by omega, by omega⟩) ?_
      refine wp_iinc (L2 := [some (Rv 88), some (Iv x1), some (Iv x2), some (Iv x3), some (Iv x4), some (Iv (x5 + 1)), some (Iv z4), none]) dX12_common_106 rfl (Nat.le_of_ble_eq_true rfl) (Nat.le_of_ble_eq_true rfl) rfl ?_
      refine wp_goto (tgt := 37) dX12_common_109 (by decide) ?_
      exact wp_weak [true, true, true, true, true, true, false, true] rfl h
    · have h := h.2 q6
      refine wp_aload_n dX12_common_67 rfl (by decide) ?_
      refine wp_getf (t := Rv 114) 114 dX12_common_68 (fl_X12_88 rfl) kd_88 rfl rfl ?_
      refine wp_iload dX12_common_71 rfl ?_
      obtain ⟨o9, h⟩ := h
      refine wp_iald (M4 114 z4) dX12_common_73 kd_114 sz_114 q6 o9 (⟨by omega, by omega⟩) rfl ?_
      refine wp_iconst dX12_common_74 ?_
      refine wp_iadd dX12_common_75 ?_
      refine wp_aload_n dX12_common_76 rfl (by decide) ?_
      refine wp_getf (t := Rv 114) 114 dX12_common_77 (fl_X12_88 rfl) kd_88 rfl rfl ?_
      refine wp_iload dX12_common_80 rfl ?_
      obtain ⟨o10, h⟩ := h
      obtain ⟨o11, h⟩ := h
      refine wp_iald (M4 114 x4) dX12_common_82 kd_114 sz_114 o10 o11 (⟨by omega, by omega⟩) rfl ?_
      obtain ⟨o12, h⟩ := h
      obtain ⟨o13, h⟩ := h
      refine wp_icmp_le (tgt := 98) dX12_common_83 (by decide) o12 o13 (fun q14 => ?_) (fun q14 => ?_)
      · have h := h.1 q14
        refine wp_aload_n dX12_common_98 rfl (by decide) ?_
        refine wp_getf (t := Rv 114) 114 dX12_common_99 (fl_X12_88 rfl) kd_88 rfl rfl ?_
        refine wp_iload dX12_common_102 rfl ?_
        refine wp_iald (M4 114 x4) dX12_common_104 kd_114 sz_114 o10 o11 (⟨by omega, by omega⟩) rfl ?_
        refine wp_iast dX12_common_105 kd_114 sz_114 o10 o11 (⟨by omega, by omega⟩) ?_
        refine wp_iinc (L2 := [some (Rv 88), some (Iv x1), some (Iv x2), some (Iv x3), some (Iv x4), some (Iv (x5 + 1)), some (Iv z4), none]) dX12_common_106 rfl (Nat.le_of_ble_eq_true rfl) (Nat.le_of_ble_eq_true rfl) rfl ?_
        refine wp_goto (tgt := 37) dX12_common_109 (by decide) ?_
        exact wp_weak [true, true, true, true, true, true, false, true] rfl h
      · have h := h.2 q14
        refine wp_aload_n dX12_common_86 rfl (by decide) ?_
        refine wp_getf (t := Rv 114) 114 dX12_common_87 (fl_X12_88 rfl) kd_88 rfl rfl ?_
        refine wp_iload dX12_common_90 rfl ?_
        refine wp_iald (M4 114 z4) dX12_common_92 kd_114 sz_114 q6 o9 (⟨by omega, by omega⟩) rfl ?_
        refine wp_iconst dX12_common_93 ?_
        refine wp_iadd dX12_common_94 ?_
        refine wp_goto (tgt := 105) dX12_common_95 (by decide) ?_
        refine wp_iast dX12_common_105 kd_114 sz_114 o10 o11 (⟨by omega, by omega⟩) ?_
        refine wp_iinc (L2 := [some (Rv 88), some (Iv x1), some (Iv x2), some (Iv x3), some (Iv x4), some (Iv (x5 + 1)), some (Iv z4), none]) dX12_common_106 rfl (Nat.le_of_ble_eq_true rfl) (Nat.le_of_ble_eq_true rfl) rfl ?_
        refine wp_goto (tgt := 37) dX12_common_109 (by decide) ?_
        exact wp_weak [true, true, true, true, true, true, false, true] rfl h
theorem gX12_common_134 {x1 x2 x3 x4 x5 : Int}  {M : Mem} {Q : Vl → Mem → Prop} (h : inr (M 88 17) ∧ (inr x4 ∧ ((x4 ≤ (M 88 17) → cl 0 yX12_comesToRow [Rv 88, Iv x2] M (QV (fun M4 => (Q (Iv x4) M4)))) ∧ ((M 88 17) < x4 → cl 0 yX12_behindNext [Rv 88, Iv x5, Iv 0] M (QI (fun z5 M5 => (wp 0 yX12_common 156 [some (Rv 88), some (Iv x1), some (Iv x2), some (Iv x3), some (Iv x4), some (Iv x5), some (Iv 0), some (Iv z5)] [] M5 Q))))))) : wp 0 yX12_common 134 [some (Rv 88), some (Iv x1), some (Iv x2), some (Iv x3), some (Iv x4), some (Iv x5), none, none] [] M Q := by
  refine wp_aload_n dX12_common_134 rfl (by decide) ?_
  refine wp_getf (t := Iv (M 88 17)) (M 88 17) dX12_common_135 (fl_X12_151 rfl) kd_88 rfl rfl ?_
  refine wp_iload dX12_common_138 rfl ?_
  obtain ⟨o1, h⟩ := h
  obtain ⟨o2, h⟩ := h
  refine wp_icmp_ge (tgt := 224) dX12_common_140 (by decide) o1 o2 (fun q3 => ?_) (fun q3 => ?_)
  · have h := h.1 q3
    refine wp_aload_n dX12_common_224 rfl (by decide) ?_
    refine wp_iload_n dX12_common_225 rfl ?_
    refine wp_callV (e1 := 0) (as := [Iv x2]) (S := []) dX12_common_226 (cs_X12_214 rfl) kd_88 rfl rfl (Nat.le_of_ble_eq_true rfl) (Nat.le_of_ble_eq_true rfl) h (fun v4 M4 q4 r4 => ?_)
    have h := q4
    refine wp_iload dX12_common_229 rfl ?_
    exact wp_iret dX12_common_231 rfl (Or.inr ⟨rfl, rfl, rfl, by decide⟩) rfl h
  · have h := h.2 q3
    refine wp_iconst dX12_common_143 ?_
    refine wp_istore (L2 := [some (Rv 88), some (Iv x1), some (Iv x2), some (Iv x3), some (Iv x4), some (Iv x5), some (Iv 0), none]) dX12_common_144 (Nat.le_of_ble_eq_true rfl) (Nat.le_of_ble_eq_true rfl) rfl ?_
    refine wp_aload_n dX12_common_146 rfl (by decide) ?_
    refine wp_iload dX12_common_147 rfl ?_
    refine wp_iload dX12_common_149 rfl ?_
    refine wp_callV (e1 := 0) (as := [Iv x5, Iv 0]) (S := []) dX12_common_151 (cs_X12_286 rfl) kd_88 rfl rfl (Nat.le_of_ble_eq_true rfl) (Nat.le_of_ble_eq_true rfl) h (fun v5 M5 q5 r5 => ?_)
    obtain ⟨z5, rfl⟩ := retV_i r5 rfl
    have h := q5
    refine wp_istore (L2 := [some (Rv 88), some (Iv x1), some (Iv x2), some (Iv x3), some (Iv x4), some (Iv x5), some (Iv 0), some (Iv z5)]) dX12_common_154 (Nat.le_of_ble_eq_true rfl) (Nat.le_of_ble_eq_true rfl) rfl ?_
    exact h
theorem gX12_common_156 {x1 x2 x3 x4 x5 x6 x7 : Int}  {M : Mem} {Q : Vl → Mem → Prop} (h : inr x7 ∧ ((x7 < 0 → cl 0 yX12_behindNext [Rv 88, Iv x5, Iv (x6 + 1)] M (QI (fun z3 M3 => (wp 0 yX12_common 156 [some (Rv 88), some (Iv x1), some (Iv x2), some (Iv x3), some (Iv x4), some (Iv x5), some (Iv (x6 + 1)), some (Iv z3)] [] M3 Q)))) ∧ (0 ≤ x7 → x7 < 20001 ∧ (0 ≤ x5 ∧ (x5 < 20001 ∧ (inr ((M 114 x7) + 1) ∧ (inr (M 114 x5) ∧ (((M 114 x5) ≤ ((M 114 x7) + 1) → 0 ≤ M 88 17 ∧ (M 88 17 < 40 ∧ (wp 0 yX12_common 134 [some (Rv 88), some (Iv x1), some (Iv x2), some (Iv x3), some (Iv x4), some (Iv x7), none, none] [] (up (up M 100 (M 88 17) x6) 88 17 ((M 88 17) + 1)) Q))) ∧ (((M 114 x7) + 1) < (M 114 x5) → cl 0 yX12_behindNext [Rv 88, Iv x5, Iv (x6 + 1)] M (QI (fun z12 M12 => (wp 0 yX12_common 156 [some (Rv 88), some (Iv x1), some (Iv x2), some (Iv x3), some (Iv x4), some (Iv x5), some (Iv (x6 + 1)), some (Iv z12)] [] M12 Q)))))))))))) : wp 0 yX12_common 156 [some (Rv 88), some (Iv x1), some (Iv x2), some (Iv x3), some (Iv x4), some (Iv x5), some (Iv x6), some (Iv x7)] [] M Q := by
  refine wp_iload dX12_common_156 rfl ?_
  obtain ⟨o1, h⟩ := h
  refine wp_if_lt (tgt := 180) dX12_common_158 (by decide) o1 (fun q2 => ?_) (fun q2 => ?_)
  · have h := h.1 q2
    refine wp_iinc (L2 := [some (Rv 88), some (Iv x1), some (Iv x2), some (Iv x3), some (Iv x4), some (Iv x5), some (Iv (x6 + 1)), some (Iv x7)]) dX12_common_180 rfl (Nat.le_of_ble_eq_true rfl) (Nat.le_of_ble_eq_true rfl) rfl ?_
    refine wp_aload_n dX12_common_183 rfl (by decide) ?_
    refine wp_iload dX12_common_184 rfl ?_
    refine wp_iload dX12_common_186 rfl ?_
    refine wp_callV (e1 := 0) (as := [Iv x5, Iv (x6 + 1)]) (S := []) dX12_common_188 (cs_X12_286 rfl) kd_88 rfl rfl (Nat.le_of_ble_eq_true rfl) (Nat.le_of_ble_eq_true rfl) h (fun v3 M3 q3 r3 => ?_)
    obtain ⟨z3, rfl⟩ := retV_i r3 rfl
    have h := q3
    refine wp_istore (L2 := [some (Rv 88), some (Iv x1), some (Iv x2), some (Iv x3), some (Iv x4), some (Iv x5), some (Iv (x6 + 1)), some (Iv z3)]) dX12_common_191 (Nat.le_of_ble_eq_true rfl) (Nat.le_of_ble_eq_true rfl) rfl ?_
    refine wp_goto (tgt := 156) dX12_common_193 (by decide) ?_
    exact h
  · have h := h.2 q2
    refine wp_aload_n dX12_common_161 rfl (by decide) ?_
    refine wp_getf (t := Rv 114) 114 dX12_common_162 (fl_X12_88 rfl) kd_88 rfl rfl ?_
    refine wp_iload dX12_common_165 rfl ?_
    obtain ⟨o4, h⟩ := h
    refine wp_iald (M 114 x7) dX12_common_167 kd_114 sz_114 q2 o4 (⟨by omega, by omega⟩) rfl ?_
    refine wp_iconst dX12_common_168 ?_
    refine wp_iadd dX12_common_169 ?_
    refine wp_aload_n dX12_common_170 rfl (by decide) ?_
    refine wp_getf (t := Rv 114) 114 dX12_common_171 (fl_X12_88 rfl) kd_88 rfl rfl ?_
    refine wp_iload dX12_common_174 rfl ?_
    obtain ⟨o5, h⟩ := h
    obtain ⟨o6, h⟩ := h
    refine wp_iald (M 114 x5) dX12_common_176 kd_114 sz_114 o5 o6 (⟨by omega, by omega⟩) rfl ?_
    obtain ⟨o7, h⟩ := h
    obtain ⟨o8, h⟩ := h
    refine wp_icmp_ge (tgt := 196) dX12_common_177 (by decide) o7 o8 (fun q9 => ?_) (fun q9 => ?_)
    · have h := h.1 q9
      refine wp_aload_n dX12_common_196 rfl (by decide) ?_
      refine wp_getf (t := Rv 100) 100 dX12_common_197 (fl_X12_44 rfl) kd_88 rfl rfl ?_
      refine wp_aload_n dX12_common_200 rfl (by decide) ?_
      refine wp_getf (t := Iv (M 88 17)) (M 88 17) dX12_common_201 (fl_X12_151 rfl) kd_88 rfl rfl ?_
      refine wp_iload dX12_common_204 rfl ?_
      obtain ⟨o10, h⟩ := h
      obtain ⟨o11, h⟩ := h
      refine wp_iast dX12_common_206 kd_100 sz_100 o10 o11 (⟨by omega, by omega⟩) ?_
      refine wp_aload_n dX12_common_207 rfl (by decide) ?_
      refine wp_dup dX12_common_208 rfl ?_
      refine wp_getf (t := Iv (M 88 17)) (M 88 17) dX12_common_209 (fl_X12_151 rfl) kd_88 rfl rfl ?_
      refine wp_iconst dX12_common_212 ?_
      refine wp_iadd dX12_common_213 ?_
      refine wp_putf (x := ((M 88 17) + 1)) dX12_common_214 (fl_X12_151 rfl) kd_88 (fun _ => rfl) rfl rfl trivial ?_
      refine wp_iload dX12_common_217 rfl ?_
      refine wp_istore (L2 := [some (Rv 88), some (Iv x1), some (Iv x2), some (Iv x3), some (Iv x4), some (Iv x7), some (Iv x6), some (Iv x7)]) dX12_common_219 (Nat.le_of_ble_eq_true rfl) (Nat.le_of_ble_eq_true rfl) rfl ?_
      refine wp_goto (tgt := 134) dX12_common_221 (by decide) ?_
      exact wp_weak [true, true, true, true, true, true, false, false] rfl h
    · have h := h.2 q9
      refine wp_iinc (L2 := [some (Rv 88), some (Iv x1), some (Iv x2), some (Iv x3), some (Iv x4), some (Iv x5), some (Iv (x6 + 1)), some (Iv x7)]) dX12_common_180 rfl (Nat.le_of_ble_eq_true rfl) (Nat.le_of_ble_eq_true rfl) rfl ?_
      refine wp_aload_n dX12_common_183 rfl (by decide) ?_
      refine wp_iload dX12_common_184 rfl ?_
      refine wp_iload dX12_common_186 rfl ?_
      refine wp_callV (e1 := 0) (as := [Iv x5, Iv (x6 + 1)]) (S := []) dX12_common_188 (cs_X12_286 rfl) kd_88 rfl rfl (Nat.le_of_ble_eq_true rfl) (Nat.le_of_ble_eq_true rfl) h (fun v12 M12 q12 r12 => ?_)
      obtain ⟨z12, rfl⟩ := retV_i r12 rfl
      have h := q12
      refine wp_istore (L2 := [some (Rv 88), some (Iv x1), some (Iv x2), some (Iv x3), some (Iv x4), some (Iv x5), some (Iv (x6 + 1)), some (Iv z12)]) dX12_common_191 (Nat.le_of_ble_eq_true rfl) (Nat.le_of_ble_eq_true rfl) rfl ?_
      refine wp_goto (tgt := 156) dX12_common_193 (by decide) ?_
      exact h
theorem gX12_cover {x1 x2 : Int}  {M : Mem} {Q : Vl → Mem → Prop} (h : cl 0 yX12_needSeveral [Rv 88, Iv x1, Iv x2] M (QI (fun z1 M1 => (inr z1 ∧ ((0 ≤ z1 → cl 0 yX12_allCodes [Rv 88] M1 (QI (fun z4 M4 => (wp 0 yX12_cover 25 [some (Rv 88), some (Iv x1), some (Iv x2), some (Iv z1), some (Iv (z4 - 1)), some (Iv (z4 - 1)), none, none, none, none] [] M4 Q)))) ∧ (z1 < 0 → Q (Iv z1) M1)))))) : wp 0 yX12_cover 0 [some (Rv 88), some (Iv x1), some (Iv x2), none, none, none, none, none, none, none] [] M Q := by
  refine wp_aload_n dX12_cover_0 rfl (by decide) ?_
  refine wp_iload_n dX12_cover_1 rfl ?_
  refine wp_iload_n dX12_cover_2 rfl ?_
  refine wp_callV (e1 := 0) (as := [Iv x1, Iv x2]) (S := []) dX12_cover_3 (cs_X12_280 rfl) kd_88 rfl rfl (Nat.le_of_ble_eq_true rfl) (Nat.le_of_ble_eq_true rfl) h (fun v1 M1 q1 r1 => ?_)
  obtain ⟨z1, rfl⟩ := retV_i r1 rfl
  have h := q1
  refine wp_istore_n (L2 := [some (Rv 88), some (Iv x1), some (Iv x2), some (Iv z1), none, none, none, none, none, none]) dX12_cover_6 (Nat.le_of_ble_eq_true rfl) (Nat.le_of_ble_eq_true rfl) rfl ?_
  refine wp_iload_n dX12_cover_7 rfl ?_
  obtain ⟨o2, h⟩ := h
  refine wp_if_ge (tgt := 13) dX12_cover_8 (by decide) o2 (fun q3 => ?_) (fun q3 => ?_)
  · have h := h.1 q3
    refine wp_aload_n dX12_cover_13 rfl (by decide) ?_
    refine wp_callV (e1 := 0) (as := []) (S := []) dX12_cover_14 (cs_X12_283 rfl) kd_88 rfl rfl (Nat.le_of_ble_eq_true rfl) (Nat.le_of_ble_eq_true rfl) h (fun v4 M4 q4 r4 => ?_)
    obtain ⟨z4, rfl⟩ := retV_i r4 rfl
    have h := q4
    refine wp_iconst dX12_cover_17 ?_
    refine wp_isub dX12_cover_18 ?_
    refine wp_istore (L2 := [some (Rv 88), some (Iv x1), some (Iv x2), some (Iv z1), some (Iv (z4 - 1)), none, none, none, none, none]) dX12_cover_19 (Nat.le_of_ble_eq_true rfl) (Nat.le_of_ble_eq_true rfl) rfl ?_
    refine wp_iload dX12_cover_21 rfl ?_
    refine wp_istore (L2 := [some (Rv 88), some (Iv x1), some (Iv x2), some (Iv z1), some (Iv (z4 - 1)), some (Iv (z4 - 1)), none, none, none, none]) dX12_cover_23 (Nat.le_of_ble_eq_true rfl) (Nat.le_of_ble_eq_true rfl) rfl ?_
    exact h
  · have h := h.2 q3
    refine wp_iload_n dX12_cover_11 rfl ?_
    exact wp_iret dX12_cover_12 rfl (Or.inr ⟨rfl, rfl, rfl, by decide⟩) rfl h
theorem eX12_cover {x1 x2 : Int}  {M : Mem} {Q : Vl → Mem → Prop} (h : cl 0 yX12_needSeveral [Rv 88, Iv x1, Iv x2] M (QI (fun z1 M1 => (inr z1 ∧ ((0 ≤ z1 → cl 0 yX12_allCodes [Rv 88] M1 (QI (fun z4 M4 => (wp 0 yX12_cover 25 [some (Rv 88), some (Iv x1), some (Iv x2), some (Iv z1), some (Iv (z4 - 1)), some (Iv (z4 - 1)), none, none, none, none] [] M4 Q)))) ∧ (z1 < 0 → Q (Iv z1) M1)))))) : cl 0 yX12_cover [Rv 88, Iv x1, Iv x2] M Q := enterG (by decide +kernel) (by exact Or.inr (Or.inl rfl)) (Nat.le_of_ble_eq_true rfl) rfl (gX12_cover h)
theorem gX12_cover_25 {x1 x2 x3 x4 x5 : Int}  {M : Mem} {Q : Vl → Mem → Prop} (h : inr x5 ∧ ((x5 < 0 → wp 0 yX12_cover 149 [some (Rv 88), some (Iv x1), some (Iv x2), some (Iv x3), some (Iv x4), some (Iv (M 114 0)), some (Iv 0), some (Iv 0), none, none] [] M Q) ∧ (0 ≤ x5 → (x5 = x4 ∨ (inr x5 ∧ inr x4)) ∧ ((x5 ≠ x4 → x5 < 20001 ∧ (wp 0 yX12_cover 54 [some (Rv 88), some (Iv x1), some (Iv x2), some (Iv x3), some (Iv x4), some (Iv x5), some (Iv 0), none, none, none] [] (up M 114 x5 1000) Q)) ∧ (x5 = x4 → x5 < 20001 ∧ (wp 0 yX12_cover 54 [some (Rv 88), some (Iv x1), some (Iv x2), some (Iv x3), some (Iv x4), some (Iv x5), some (Iv 0), none, none, none] [] (up M 114 x5 0) Q)))))) : wp 0 yX12_cover 25 [some (Rv 88), some (Iv x1), some (Iv x2), some (Iv x3), some (Iv x4), some (Iv x5), none, none, none, none] [] M Q := by
  refine wp_iload dX12_cover_25 rfl ?_
  obtain ⟨o1, h⟩ := h
  refine wp_if_lt (tgt := 135) dX12_cover_27 (by decide) o1 (fun q2 => ?_) (fun q2 => ?_)
  · have h := h.1 q2
    refine wp_aload_n dX12_cover_135 rfl (by decide) ?_
    refine wp_getf (t := Rv 114) 114 dX12_cover_136 (fl_X12_88 rfl) kd_88 rfl rfl ?_
    refine wp_iconst dX12_cover_139 ?_
    refine wp_iald (M 114 0) dX12_cover_140 kd_114 sz_114 (by decide) (by decide) (by decide) rfl ?_
    refine wp_istore (L2 := [some (Rv 88), some (Iv x1), some (Iv x2), some (Iv x3), some (Iv x4), some (Iv (M 114 0)), none, none, none, none]) dX12_cover_141 (Nat.le_of_ble_eq_true rfl) (Nat.le_of_ble_eq_true rfl) rfl ?_
    refine wp_iconst dX12_cover_143 ?_
    refine wp_istore (L2 := [some (Rv 88), some (Iv x1), some (Iv x2), some (Iv x3), some (Iv x4), some (Iv (M 114 0)), some (Iv 0), none, none, none]) dX12_cover_144 (Nat.le_of_ble_eq_true rfl) (Nat.le_of_ble_eq_true rfl) rfl ?_
    refine wp_iconst dX12_cover_146 ?_
    refine wp_istore (L2 := [some (Rv 88), some (Iv x1), some (Iv x2), some (Iv x3), some (Iv x4), some (Iv (M 114 0)), some (Iv 0), some (Iv 0), none, none]) dX12_cover_147 (Nat.le_of_ble_eq_true rfl) (Nat.le_of_ble_eq_true rfl) rfl ?_
    exact h
  · have h := h.2 q2
    refine wp_aload_n dX12_cover_30 rfl (by decide) ?_
    refine wp_getf (t := Rv 114) 114 dX12_cover_31 (fl_X12_88 rfl) kd_88 rfl rfl ?_
    refine wp_iload dX12_cover_34 rfl ?_
    refine wp_iload dX12_cover_36 rfl ?_
    refine wp_iload dX12_cover_38 rfl ?_
    obtain ⟨o3, h⟩ := h
    refine wp_icmp_ne (tgt := 47) dX12_cover_40 (by decide) o3 (fun q4 => ?_) (fun q4 => ?_)
    · have h := h.1 q4
      refine wp_sipush dX12_cover_47 (by decide) ?_
      obtain ⟨o5, h⟩ := h
      refine wp_iast dX12_cover_50 kd_114 sz_114 q2 o5 (⟨by omega, by omega⟩) ?_
      refine wp_iconst dX12_cover_51 ?_
      refine wp_istore (L2 := [some (Rv 88), some (Iv x1), some (Iv x2), some (Iv x3), some (Iv x4), some (Iv x5), some (Iv 0), none, none, none]) dX12_cover_52 (Nat.le_of_ble_eq_true rfl) (Nat.le_of_ble_eq_true rfl) rfl ?_
      exact h
    · have h := h.2 q4
      refine wp_iconst dX12_cover_43 ?_
      refine wp_goto (tgt := 50) dX12_cover_44 (by decide) ?_
      obtain ⟨o6, h⟩ := h
      refine wp_iast dX12_cover_50 kd_114 sz_114 q2 o6 (⟨by omega, by omega⟩) ?_
      refine wp_iconst dX12_cover_51 ?_
      refine wp_istore (L2 := [some (Rv 88), some (Iv x1), some (Iv x2), some (Iv x3), some (Iv x4), some (Iv x5), some (Iv 0), none, none, none]) dX12_cover_52 (Nat.le_of_ble_eq_true rfl) (Nat.le_of_ble_eq_true rfl) rfl ?_
      exact h
theorem gX12_cover_54 {x1 x2 x3 x4 x5 x6 : Int}  {M : Mem} {Q : Vl → Mem → Prop} (h : inr x6 ∧ (inr (M 88 11) ∧ (((M 88 11) ≤ x6 → wp 0 yX12_cover 25 [some (Rv 88), some (Iv x1), some (Iv x2), some (Iv x3), some (Iv x4), some (Iv (x5 + (-1))), none, none, none, none] [] M Q) ∧ (x6 < (M 88 11) → cl 0 yX12_behindHere [Rv 88, Iv x5, Iv x6] M (QI (fun z4 M4 => (inr z4 ∧ ((z4 < 0 → 0 ≤ x5 ∧ (x5 < 20001 ∧ (wp 0 yX12_cover 54 [some (Rv 88), some (Iv x1), some (Iv x2), some (Iv x3), some (Iv x4), some (Iv x5), some (Iv (x6 + 1)), none, none, none] [] (up M4 114 x5 (M4 114 x5)) Q))) ∧ (0 ≤ z4 → z4 < 20001 ∧ (0 ≤ x5 ∧ (x5 < 20001 ∧ (inr ((M4 114 z4) + 1) ∧ (inr (M4 114 x5) ∧ (((M4 114 x5) ≤ ((M4 114 z4) + 1) → wp 0 yX12_cover 54 [some (Rv 88), some (Iv x1), some (Iv x2), some (Iv x3), some (Iv x4), some (Iv x5), some (Iv (x6 + 1)), none, none, none] [] (up M4 114 x5 (M4 114 x5)) Q) ∧ (((M4 114 z4) + 1) < (M4 114 x5) → wp 0 yX12_cover 54 [some (Rv 88), some (Iv x1), some (Iv x2), some (Iv x3), some (Iv x4), some (Iv x5), some (Iv (x6 + 1)), none, none, none] [] (up M4 114 x5 ((M4 114 z4) + 1)) Q))))))))))))))) : wp 0 yX12_cover 54 [some (Rv 88), some (Iv x1), some (Iv x2), some (Iv x3), some (Iv x4), some (Iv x5), some (Iv x6), none, none, none] [] M Q := by
  refine wp_iload dX12_cover_54 rfl ?_
  refine wp_aload_n dX12_cover_56 rfl (by decide) ?_
  refine wp_getf (t := Iv (M 88 11)) (M 88 11) dX12_cover_57 (fl_X12_110 rfl) kd_88 rfl rfl ?_
  obtain ⟨o1, h⟩ := h
  obtain ⟨o2, h⟩ := h
  refine wp_icmp_ge (tgt := 129) dX12_cover_60 (by decide) o1 o2 (fun q3 => ?_) (fun q3 => ?_)
  · have h := h.1 q3
    refine wp_iinc (L2 := [some (Rv 88), some (Iv x1), some (Iv x2), some (Iv x3), some (Iv x4), some (Iv (x5 + (-1))), some (Iv x6), none, none, none]) dX12_cover_129 rfl (Nat.le_of_ble_eq_true rfl) (Nat.le_of_ble_eq_true rfl) rfl ?_
    refine wp_goto (tgt := 25) dX12_cover_132 (by decide) ?_
    exact wp_weak [true, true, true, true, true, true, false, true, true, true] rfl h
  · have h := h.2 q3
    refine wp_aload_n dX12_cover_63 rfl (by decide) ?_
    refine wp_iload dX12_cover_64 rfl ?_
    refine wp_iload dX12_cover_66 rfl ?_
    refine wp_callV (e1 := 0) (as := [Iv x5, Iv x6]) (S := []) dX12_cover_68 (cs_X12_289 rfl) kd_88 rfl rfl (Nat.le_of_ble_eq_true rfl) (Nat.le_of_ble_eq_true rfl) h (fun v4 M4 q4 r4 => ?_)
    obtain ⟨z4, rfl⟩ := retV_i r4 rfl
    have h := q4
    refine wp_istore (L2 := [some (Rv 88), some (Iv x1), some (Iv x2), some (Iv x3), some (Iv x4), some (Iv x5), some (Iv x6), some (Iv z4), none, none]) dX12_cover_71 (Nat.le_of_ble_eq_true rfl) (Nat.le_of_ble_eq_true rfl) rfl ?_
    refine wp_aload_n dX12_cover_73 rfl (by decide) ?_
    refine wp_getf (t := Rv 114) 114 dX12_cover_74 (fl_X12_88 rfl) kd_88 rfl rfl ?_
    refine wp_iload dX12_cover_77 rfl ?_
    refine wp_iload dX12_cover_79 rfl ?_
    obtain ⟨o5, h⟩ := h
    refine wp_if_lt (tgt := 115) dX12_cover_81 (by decide) o5 (fun q6 => ?_) (fun q6 => ?_)
    · have h := h.1 q6
      refine wp_aload_n dX12_cover_115 rfl (by decide) ?_
      refine wp_getf (t := Rv 114) 114 dX12_cover_116 (fl_X12_88 rfl) kd_88 rfl rfl ?_
      refine wp_iload dX12_cover_119 rfl ?_
      obtain ⟨o7, h⟩ := h
      obtain ⟨o8, h⟩ := h
      refine wp_iald (M4 114 x5) dX12_cover_121 kd_114 sz_114 o7 o8 (⟨by omega, by omega⟩) rfl ?_
      refine wp_iast dX12_cover_122 kd_114 sz_114 o7 o8 (⟨by omega, by omega⟩) ?_
      refine wp_iinc (L2 := [some (Rv 88), some (Iv x1), some (Iv x2), some (Iv x3), some (Iv x4), some (Iv x5), some (Iv (x6 + 1)), some (Iv z4), none, none]) dX12_cover_123 rfl (Nat.le_of_ble_eq_true rfl) (Nat.le_of_ble_eq_true rfl) rfl ?_
      refine wp_goto (tgt := 54) dX12_cover_126 (by decide) ?_
      exact wp_weak [true, true, true, true, true, true, true, false, true, true] rfl h
    · have h := h.2 q6
      refine wp_aload_n dX12_cover_84 rfl (by decide) ?_
      refine wp_getf (t := Rv 114) 114 dX12_cover_85 (fl_X12_88 rfl) kd_88 rfl rfl ?_
      refine wp_iload dX12_cover_88 rfl ?_
      obtain ⟨o9, h⟩ := h
      refine wp_iald (M4 114 z4) dX12_cover_90 kd_114 sz_114 q6 o9 (⟨by omega, by omega⟩) rfl ?_
      refine wp_iconst dX12_cover_91 ?_
      refine wp_iadd dX12_cover_92 ?_
      refine wp_aload_n dX12_cover_93 rfl (by decide) ?_
      refine wp_getf (t := Rv 114) 114 dX12_cover_94 (fl_X12_88 rfl) kd_88 rfl rfl ?_
      refine wp_iload dX12_cover_97 rfl ?_
      obtain ⟨o10, h⟩ := h
      obtain ⟨o11, h⟩ := h
      refine wp_iald (M4 114 x5) dX12_cover_99 kd_114 sz_114 o10 o11 (⟨by omega, by omega⟩) rfl ?_
      obtain ⟨o12, h⟩ := h
      obtain ⟨o13, h⟩ := h
      refine wp_icmp_ge (tgt := 115) dX12_cover_100 (by decide) o12 o13 (fun q14 => ?_) (fun q14 => ?_)
      · have h := h.1 q14
        refine wp_aload_n dX12_cover_115 rfl (by decide) ?_
        refine wp_getf (t := Rv 114) 114 dX12_cover_116 (fl_X12_88 rfl) kd_88 rfl rfl ?_
        refine wp_iload dX12_cover_119 rfl ?_
        refine wp_iald (M4 114 x5) dX12_cover_121 kd_114 sz_114 o10 o11 (⟨by omega, by omega⟩) rfl ?_
        refine wp_iast dX12_cover_122 kd_114 sz_114 o10 o11 (⟨by omega, by omega⟩) ?_
        refine wp_iinc (L2 := [some (Rv 88), some (Iv x1), some (Iv x2), some (Iv x3), some (Iv x4), some (Iv x5), some (Iv (x6 + 1)), some (Iv z4), none, none]) dX12_cover_123 rfl (Nat.le_of_ble_eq_true rfl) (Nat.le_of_ble_eq_true rfl) rfl ?_
        refine wp_goto (tgt := 54) dX12_cover_126 (by decide) ?_
        exact wp_weak [true, true, true, true, true, true, true, false, true, true] rfl h
      · have h := h.2 q14
        refine wp_aload_n dX12_cover_103 rfl (by decide) ?_
        refine wp_getf (t := Rv 114) 114 dX12_cover_104 (fl_X12_88 rfl) kd_88 rfl rfl ?_
        refine wp_iload dX12_cover_107 rfl ?_
        refine wp_iald (M4 114 z4) dX12_cover_109 kd_114 sz_114 q6 o9 (⟨by omega, by omega⟩) rfl ?_
        refine wp_iconst dX12_cover_110 ?_
        refine wp_iadd dX12_cover_111 ?_
        refine wp_goto (tgt := 122) dX12_cover_112 (by decide) ?_
        refine wp_iast dX12_cover_122 kd_114 sz_114 o10 o11 (⟨by omega, by omega⟩) ?_
        refine wp_iinc (L2 := [some (Rv 88), some (Iv x1), some (Iv x2), some (Iv x3), some (Iv x4), some (Iv x5), some (Iv (x6 + 1)), some (Iv z4), none, none]) dX12_cover_123 rfl (Nat.le_of_ble_eq_true rfl) (Nat.le_of_ble_eq_true rfl) rfl ?_
        refine wp_goto (tgt := 54) dX12_cover_126 (by decide) ?_
        exact wp_weak [true, true, true, true, true, true, true, false, true, true] rfl h
theorem gX12_cover_149 {x1 x2 x3 x4 x5 x6 x7 : Int}  {M : Mem} {Q : Vl → Mem → Prop} (h : inr x7 ∧ (inr x5 ∧ ((x5 ≤ x7 → ((x5 ≤ 40 → cl 0 yX12_comesToRow [Rv 88, Iv x2] (up M 88 17 x5) (QV (fun M5 => (Q (Iv x5) M5)))) ∧ (40 < x5 → cl 0 yX12_comesToRow [Rv 88, Iv x2] (up M 88 17 40) (QV (fun M6 => (Q (Iv x5) M6)))))) ∧ (x7 < x5 → cl 0 yX12_behindHere [Rv 88, Iv x6, Iv 0] M (QI (fun z7 M7 => (wp 0 yX12_cover 169 [some (Rv 88), some (Iv x1), some (Iv x2), some (Iv x3), some (Iv x4), some (Iv x5), some (Iv x6), some (Iv x7), some (Iv 0), some (Iv z7)] [] M7 Q))))))) : wp 0 yX12_cover 149 [some (Rv 88), some (Iv x1), some (Iv x2), some (Iv x3), some (Iv x4), some (Iv x5), some (Iv x6), some (Iv x7), none, none] [] M Q := by
  refine wp_iload dX12_cover_149 rfl ?_
  refine wp_iload dX12_cover_151 rfl ?_
  obtain ⟨o1, h⟩ := h
  obtain ⟨o2, h⟩ := h
  refine wp_icmp_ge (tgt := 235) dX12_cover_153 (by decide) o1 o2 (fun q3 => ?_) (fun q3 => ?_)
  · have h := h.1 q3
    refine wp_aload_n dX12_cover_235 rfl (by decide) ?_
    refine wp_iload dX12_cover_236 rfl ?_
    refine wp_bipush dX12_cover_238 (by decide) ?_
    refine wp_icmp_le (tgt := 248) dX12_cover_240 (by decide) o2 (by decide) (fun q4 => ?_) (fun q4 => ?_)
    · have h := h.1 q4
      refine wp_iload dX12_cover_248 rfl ?_
      refine wp_putf (x := x5) dX12_cover_250 (fl_X12_151 rfl) kd_88 (fun _ => rfl) rfl rfl trivial ?_
      refine wp_aload_n dX12_cover_253 rfl (by decide) ?_
      refine wp_iload_n dX12_cover_254 rfl ?_
      refine wp_callV (e1 := 0) (as := [Iv x2]) (S := []) dX12_cover_255 (cs_X12_214 rfl) kd_88 rfl rfl (Nat.le_of_ble_eq_true rfl) (Nat.le_of_ble_eq_true rfl) h (fun v5 M5 q5 r5 => ?_)
      have h := q5
      refine wp_iload dX12_cover_258 rfl ?_
      exact wp_iret dX12_cover_260 rfl (Or.inr ⟨rfl, rfl, rfl, by decide⟩) rfl h
    · have h := h.2 q4
      refine wp_bipush dX12_cover_243 (by decide) ?_
      refine wp_goto (tgt := 250) dX12_cover_245 (by decide) ?_
      refine wp_putf (x := 40) dX12_cover_250 (fl_X12_151 rfl) kd_88 (fun _ => rfl) rfl rfl trivial ?_
      refine wp_aload_n dX12_cover_253 rfl (by decide) ?_
      refine wp_iload_n dX12_cover_254 rfl ?_
      refine wp_callV (e1 := 0) (as := [Iv x2]) (S := []) dX12_cover_255 (cs_X12_214 rfl) kd_88 rfl rfl (Nat.le_of_ble_eq_true rfl) (Nat.le_of_ble_eq_true rfl) h (fun v6 M6 q6 r6 => ?_)
      have h := q6
      refine wp_iload dX12_cover_258 rfl ?_
      exact wp_iret dX12_cover_260 rfl (Or.inr ⟨rfl, rfl, rfl, by decide⟩) rfl h
  · have h := h.2 q3
    refine wp_iconst dX12_cover_156 ?_
    refine wp_istore (L2 := [some (Rv 88), some (Iv x1), some (Iv x2), some (Iv x3), some (Iv x4), some (Iv x5), some (Iv x6), some (Iv x7), some (Iv 0), none]) dX12_cover_157 (Nat.le_of_ble_eq_true rfl) (Nat.le_of_ble_eq_true rfl) rfl ?_
    refine wp_aload_n dX12_cover_159 rfl (by decide) ?_
    refine wp_iload dX12_cover_160 rfl ?_
    refine wp_iload dX12_cover_162 rfl ?_
    refine wp_callV (e1 := 0) (as := [Iv x6, Iv 0]) (S := []) dX12_cover_164 (cs_X12_289 rfl) kd_88 rfl rfl (Nat.le_of_ble_eq_true rfl) (Nat.le_of_ble_eq_true rfl) h (fun v7 M7 q7 r7 => ?_)
    obtain ⟨z7, rfl⟩ := retV_i r7 rfl
    have h := q7
    refine wp_istore (L2 := [some (Rv 88), some (Iv x1), some (Iv x2), some (Iv x3), some (Iv x4), some (Iv x5), some (Iv x6), some (Iv x7), some (Iv 0), some (Iv z7)]) dX12_cover_167 (Nat.le_of_ble_eq_true rfl) (Nat.le_of_ble_eq_true rfl) rfl ?_
    exact h
theorem gX12_cover_169 {x1 x2 x3 x4 x5 x6 x7 x8 x9 : Int}  {M : Mem} {Q : Vl → Mem → Prop} (h : inr x9 ∧ ((x9 < 0 → cl 0 yX12_behindHere [Rv 88, Iv x6, Iv (x8 + 1)] M (QI (fun z3 M3 => (wp 0 yX12_cover 169 [some (Rv 88), some (Iv x1), some (Iv x2), some (Iv x3), some (Iv x4), some (Iv x5), some (Iv x6), some (Iv x7), some (Iv (x8 + 1)), some (Iv z3)] [] M3 Q)))) ∧ (0 ≤ x9 → x9 < 20001 ∧ (0 ≤ x6 ∧ (x6 < 20001 ∧ (inr ((M 114 x9) + 1) ∧ (inr (M 114 x6) ∧ ((((M 114 x9) + 1) ≤ (M 114 x6) → inr x7 ∧ ((40 ≤ x7 → wp 0 yX12_cover 149 [some (Rv 88), some (Iv x1), some (Iv x2), some (Iv x3), some (Iv x4), some (Iv x5), some (Iv x9), some (Iv (x7 + 1)), none, none] [] M Q) ∧ (x7 < 40 → 0 ≤ x7 ∧ (wp 0 yX12_cover 149 [some (Rv 88), some (Iv x1), some (Iv x2), some (Iv x3), some (Iv x4), some (Iv x5), some (Iv x9), some (Iv (x7 + 1)), none, none] [] (up M 100 x7 x8) Q)))) ∧ ((M 114 x6) < ((M 114 x9) + 1) → cl 0 yX12_behindHere [Rv 88, Iv x6, Iv (x8 + 1)] M (QI (fun z13 M13 => (wp 0 yX12_cover 169 [some (Rv 88), some (Iv x1), some (Iv x2), some (Iv x3), some (Iv x4), some (Iv x5), some (Iv x6), some (Iv x7), some (Iv (x8 + 1)), some (Iv z13)] [] M13 Q)))))))))))) : wp 0 yX12_cover 169 [some (Rv 88), some (Iv x1), some (Iv x2), some (Iv x3), some (Iv x4), some (Iv x5), some (Iv x6), some (Iv x7), some (Iv x8), some (Iv x9)] [] M Q := by
  refine wp_iload dX12_cover_169 rfl ?_
  obtain ⟨o1, h⟩ := h
  refine wp_if_lt (tgt := 193) dX12_cover_171 (by decide) o1 (fun q2 => ?_) (fun q2 => ?_)
  · have h := h.1 q2
    refine wp_iinc (L2 := [some (Rv 88), some (Iv x1), some (Iv x2), some (Iv x3), some (Iv x4), some (Iv x5), some (Iv x6), some (Iv x7), some (Iv (x8 + 1)), some (Iv x9)]) dX12_cover_193 rfl (Nat.le_of_ble_eq_true rfl) (Nat.le_of_ble_eq_true rfl) rfl ?_
    refine wp_aload_n dX12_cover_196 rfl (by decide) ?_
    refine wp_iload dX12_cover_197 rfl ?_
    refine wp_iload dX12_cover_199 rfl ?_
    refine wp_callV (e1 := 0) (as := [Iv x6, Iv (x8 + 1)]) (S := []) dX12_cover_201 (cs_X12_289 rfl) kd_88 rfl rfl (Nat.le_of_ble_eq_true rfl) (Nat.le_of_ble_eq_true rfl) h (fun v3 M3 q3 r3 => ?_)
    obtain ⟨z3, rfl⟩ := retV_i r3 rfl
    have h := q3
    refine wp_istore (L2 := [some (Rv 88), some (Iv x1), some (Iv x2), some (Iv x3), some (Iv x4), some (Iv x5), some (Iv x6), some (Iv x7), some (Iv (x8 + 1)), some (Iv z3)]) dX12_cover_204 (Nat.le_of_ble_eq_true rfl) (Nat.le_of_ble_eq_true rfl) rfl ?_
    refine wp_goto (tgt := 169) dX12_cover_206 (by decide) ?_
    exact h
  · have h := h.2 q2
    refine wp_aload_n dX12_cover_174 rfl (by decide) ?_
    refine wp_getf (t := Rv 114) 114 dX12_cover_175 (fl_X12_88 rfl) kd_88 rfl rfl ?_
    refine wp_iload dX12_cover_178 rfl ?_
    obtain ⟨o4, h⟩ := h
    refine wp_iald (M 114 x9) dX12_cover_180 kd_114 sz_114 q2 o4 (⟨by omega, by omega⟩) rfl ?_
    refine wp_iconst dX12_cover_181 ?_
    refine wp_iadd dX12_cover_182 ?_
    refine wp_aload_n dX12_cover_183 rfl (by decide) ?_
    refine wp_getf (t := Rv 114) 114 dX12_cover_184 (fl_X12_88 rfl) kd_88 rfl rfl ?_
    refine wp_iload dX12_cover_187 rfl ?_
    obtain ⟨o5, h⟩ := h
    obtain ⟨o6, h⟩ := h
    refine wp_iald (M 114 x6) dX12_cover_189 kd_114 sz_114 o5 o6 (⟨by omega, by omega⟩) rfl ?_
    obtain ⟨o7, h⟩ := h
    obtain ⟨o8, h⟩ := h
    refine wp_icmp_le (tgt := 209) dX12_cover_190 (by decide) o7 o8 (fun q9 => ?_) (fun q9 => ?_)
    · have h := h.1 q9
      refine wp_iload dX12_cover_209 rfl ?_
      refine wp_bipush dX12_cover_211 (by decide) ?_
      obtain ⟨o10, h⟩ := h
      refine wp_icmp_ge (tgt := 225) dX12_cover_213 (by decide) o10 (by decide) (fun q11 => ?_) (fun q11 => ?_)
      · have h := h.1 q11
        refine wp_iload dX12_cover_225 rfl ?_
        refine wp_istore (L2 := [some (Rv 88), some (Iv x1), some (Iv x2), some (Iv x3), some (Iv x4), some (Iv x5), some (Iv x9), some (Iv x7), some (Iv x8), some (Iv x9)]) dX12_cover_227 (Nat.le_of_ble_eq_true rfl) (Nat.le_of_ble_eq_true rfl) rfl ?_
        refine wp_iinc (L2 := [some (Rv 88), some (Iv x1), some (Iv x2), some (Iv x3), some (Iv x4), some (Iv x5), some (Iv x9), some (Iv (x7 + 1)), some (Iv x8), some (Iv x9)]) dX12_cover_229 rfl (Nat.le_of_ble_eq_true rfl) (Nat.le_of_ble_eq_true rfl) rfl ?_
        refine wp_goto (tgt := 149) dX12_cover_232 (by decide) ?_
        exact wp_weak [true, true, true, true, true, true, true, true, false, false] rfl h
      · have h := h.2 q11
        refine wp_aload_n dX12_cover_216 rfl (by decide) ?_
        refine wp_getf (t := Rv 100) 100 dX12_cover_217 (fl_X12_44 rfl) kd_88 rfl rfl ?_
        refine wp_iload dX12_cover_220 rfl ?_
        refine wp_iload dX12_cover_222 rfl ?_
        obtain ⟨o12, h⟩ := h
        refine wp_iast dX12_cover_224 kd_100 sz_100 o12 q11 (⟨by omega, by omega⟩) ?_
        refine wp_iload dX12_cover_225 rfl ?_
        refine wp_istore (L2 := [some (Rv 88), some (Iv x1), some (Iv x2), some (Iv x3), some (Iv x4), some (Iv x5), some (Iv x9), some (Iv x7), some (Iv x8), some (Iv x9)]) dX12_cover_227 (Nat.le_of_ble_eq_true rfl) (Nat.le_of_ble_eq_true rfl) rfl ?_
        refine wp_iinc (L2 := [some (Rv 88), some (Iv x1), some (Iv x2), some (Iv x3), some (Iv x4), some (Iv x5), some (Iv x9), some (Iv (x7 + 1)), some (Iv x8), some (Iv x9)]) dX12_cover_229 rfl (Nat.le_of_ble_eq_true rfl) (Nat.le_of_ble_eq_true rfl) rfl ?_
        refine wp_goto (tgt := 149) dX12_cover_232 (by decide) ?_
        exact wp_weak [true, true, true, true, true, true, true, true, false, false] rfl h
    · have h := h.2 q9
      refine wp_iinc (L2 := [some (Rv 88), some (Iv x1), some (Iv x2), some (Iv x3), some (Iv x4), some (Iv x5), some (Iv x6), some (Iv x7), some (Iv (x8 + 1)), some (Iv x9)]) dX12_cover_193 rfl (Nat.le_of_ble_eq_true rfl) (Nat.le_of_ble_eq_true rfl) rfl ?_
      refine wp_aload_n dX12_cover_196 rfl (by decide) ?_
      refine wp_iload dX12_cover_197 rfl ?_
      refine wp_iload dX12_cover_199 rfl ?_
      refine wp_callV (e1 := 0) (as := [Iv x6, Iv (x8 + 1)]) (S := []) dX12_cover_201 (cs_X12_289 rfl) kd_88 rfl rfl (Nat.le_of_ble_eq_true rfl) (Nat.le_of_ble_eq_true rfl) h (fun v13 M13 q13 r13 => ?_)
      obtain ⟨z13, rfl⟩ := retV_i r13 rfl
      have h := q13
      refine wp_istore (L2 := [some (Rv 88), some (Iv x1), some (Iv x2), some (Iv x3), some (Iv x4), some (Iv x5), some (Iv x6), some (Iv x7), some (Iv (x8 + 1)), some (Iv z13)]) dX12_cover_204 (Nat.le_of_ble_eq_true rfl) (Nat.le_of_ble_eq_true rfl) rfl ?_
      refine wp_goto (tgt := 169) dX12_cover_206 (by decide) ?_
      exact h
theorem gX12_both {x1 x2 : Int}  {M : Mem} {Q : Vl → Mem → Prop} (h : cl 0 yX12_needTwo [Rv 88, Iv 1, Iv x1, Iv x2] M (QI (fun z1 M1 => (inr z1 ∧ ((0 ≤ z1 → 0 ≤ x1 ∧ (x1 < 8 ∧ (wp 0 yX12_both 22 [some (Rv 88), some (Iv x1), some (Iv x2), some (Iv z1), some (Iv (M1 95 x1)), none, none, none, none] [] M1 Q))) ∧ (z1 < 0 → Q (Iv z1) M1)))))) : wp 0 yX12_both 0 [some (Rv 88), some (Iv x1), some (Iv x2), none, none, none, none, none, none] [] M Q := by
  refine wp_aload_n dX12_both_0 rfl (by decide) ?_
  refine wp_iconst dX12_both_1 ?_
  refine wp_iload_n dX12_both_2 rfl ?_
  refine wp_iload_n dX12_both_3 rfl ?_
  refine wp_callV (e1 := 0) (as := [Iv 1, Iv x1, Iv x2]) (S := []) dX12_both_4 (cs_X12_188 rfl) kd_88 rfl rfl (Nat.le_of_ble_eq_true rfl) (Nat.le_of_ble_eq_true rfl) h (fun v1 M1 q1 r1 => ?_)
  obtain ⟨z1, rfl⟩ := retV_i r1 rfl
  have h := q1
  refine wp_istore_n (L2 := [some (Rv 88), some (Iv x1), some (Iv x2), some (Iv z1), none, none, none, none, none]) dX12_both_7 (Nat.le_of_ble_eq_true rfl) (Nat.le_of_ble_eq_true rfl) rfl ?_
  refine wp_iload_n dX12_both_8 rfl ?_
  obtain ⟨o2, h⟩ := h
  refine wp_if_ge (tgt := 14) dX12_both_9 (by decide) o2 (fun q3 => ?_) (fun q3 => ?_)
  · have h := h.1 q3
    refine wp_aload_n dX12_both_14 rfl (by decide) ?_
    refine wp_getf (t := Rv 95) 95 dX12_both_15 (fl_X12_29 rfl) kd_88 rfl rfl ?_
    refine wp_iload_n dX12_both_18 rfl ?_
    obtain ⟨o4, h⟩ := h
    obtain ⟨o5, h⟩ := h
    refine wp_iald (M1 95 x1) dX12_both_19 kd_95 sz_95 o4 o5 (⟨by omega, by omega⟩) rfl ?_
    refine wp_istore (L2 := [some (Rv 88), some (Iv x1), some (Iv x2), some (Iv z1), some (Iv (M1 95 x1)), none, none, none, none]) dX12_both_20 (Nat.le_of_ble_eq_true rfl) (Nat.le_of_ble_eq_true rfl) rfl ?_
    exact h
  · have h := h.2 q3
    refine wp_iload_n dX12_both_12 rfl ?_
    exact wp_iret dX12_both_13 rfl (Or.inr ⟨rfl, rfl, rfl, by decide⟩) rfl h
theorem eX12_both {x1 x2 : Int}  {M : Mem} {Q : Vl → Mem → Prop} (h : cl 0 yX12_needTwo [Rv 88, Iv 1, Iv x1, Iv x2] M (QI (fun z1 M1 => (inr z1 ∧ ((0 ≤ z1 → 0 ≤ x1 ∧ (x1 < 8 ∧ (wp 0 yX12_both 22 [some (Rv 88), some (Iv x1), some (Iv x2), some (Iv z1), some (Iv (M1 95 x1)), none, none, none, none] [] M1 Q))) ∧ (z1 < 0 → Q (Iv z1) M1)))))) : cl 0 yX12_both [Rv 88, Iv x1, Iv x2] M Q := enterG (by decide +kernel) (by exact Or.inr (Or.inl rfl)) (Nat.le_of_ble_eq_true rfl) rfl (gX12_both h)
theorem gX12_both_22 {x1 x2 x3 x4 : Int}  {M : Mem} {Q : Vl → Mem → Prop} (h : inr x4 ∧ ((x4 < 0 → cl 0 yX12_tellsMany [Rv 88, Jv (M 116 0), Iv 1] M (QI (fun z3 M3 => (Q (Iv z3) M3)))) ∧ (0 ≤ x4 → 0 ≤ x2 ∧ (x2 < 8 ∧ (wp 0 yX12_both 35 [some (Rv 88), some (Iv x1), some (Iv x2), some (Iv x3), some (Iv x4), some (Iv (M 95 x2)), none, none, none] [] M Q))))) : wp 0 yX12_both 22 [some (Rv 88), some (Iv x1), some (Iv x2), some (Iv x3), some (Iv x4), none, none, none, none] [] M Q := by
  refine wp_iload dX12_both_22 rfl ?_
  obtain ⟨o1, h⟩ := h
  refine wp_if_lt (tgt := 157) dX12_both_24 (by decide) o1 (fun q2 => ?_) (fun q2 => ?_)
  · have h := h.1 q2
    refine wp_aload_n dX12_both_157 rfl (by decide) ?_
    refine wp_aload_n dX12_both_158 rfl (by decide) ?_
    refine wp_getf (t := Rv 116) 116 dX12_both_159 (fl_X12_94 rfl) kd_88 rfl rfl ?_
    refine wp_iconst dX12_both_162 ?_
    refine wp_lald (M 116 0) dX12_both_163 kd_116 sz_116 (by decide) (by decide) (by decide) rfl ?_
    refine wp_iconst dX12_both_164 ?_
    refine wp_callV (e1 := 0) (as := [Jv (M 116 0), Iv 1]) (S := []) dX12_both_165 (cs_X12_202 rfl) kd_88 rfl rfl (Nat.le_of_ble_eq_true rfl) (Nat.le_of_ble_eq_true rfl) h (fun v3 M3 q3 r3 => ?_)
    obtain ⟨z3, rfl⟩ := retV_i r3 rfl
    have h := q3
    exact wp_iret dX12_both_168 rfl (Or.inr ⟨rfl, rfl, rfl, by decide⟩) rfl h
  · have h := h.2 q2
    refine wp_aload_n dX12_both_27 rfl (by decide) ?_
    refine wp_getf (t := Rv 95) 95 dX12_both_28 (fl_X12_29 rfl) kd_88 rfl rfl ?_
    refine wp_iload_n dX12_both_31 rfl ?_
    obtain ⟨o4, h⟩ := h
    obtain ⟨o5, h⟩ := h
    refine wp_iald (M 95 x2) dX12_both_32 kd_95 sz_95 o4 o5 (⟨by omega, by omega⟩) rfl ?_
    refine wp_istore (L2 := [some (Rv 88), some (Iv x1), some (Iv x2), some (Iv x3), some (Iv x4), some (Iv (M 95 x2)), none, none, none]) dX12_both_33 (Nat.le_of_ble_eq_true rfl) (Nat.le_of_ble_eq_true rfl) rfl ?_
    exact h
theorem gX12_both_35 {x1 x2 x3 x4 x5 : Int}  {M : Mem} {Q : Vl → Mem → Prop} (h : inr x5 ∧ ((x5 < 0 → wp 0 yX12_both 22 [some (Rv 88), some (Iv x1), some (Iv x2), some (Iv x3), some (Iv (x4 + (-1))), none, none, none, none] [] M Q) ∧ (0 ≤ x5 → 0 ≤ (41 * x4) + x5 ∧ ((41 * x4) + x5 < 1681 ∧ (wp 0 yX12_both 57 [some (Rv 88), some (Iv x1), some (Iv x2), some (Iv x3), some (Iv x4), some (Iv x5), some (Iv 0), none, none] [] (up M 116 ((41 * x4) + x5) 1) Q))))) : wp 0 yX12_both 35 [some (Rv 88), some (Iv x1), some (Iv x2), some (Iv x3), some (Iv x4), some (Iv x5), none, none, none] [] M Q := by
  refine wp_iload dX12_both_35 rfl ?_
  obtain ⟨o1, h⟩ := h
  refine wp_if_lt (tgt := 151) dX12_both_37 (by decide) o1 (fun q2 => ?_) (fun q2 => ?_)
  · have h := h.1 q2
    refine wp_iinc (L2 := [some (Rv 88), some (Iv x1), some (Iv x2), some (Iv x3), some (Iv (x4 + (-1))), some (Iv x5), none, none, none]) dX12_both_151 rfl (Nat.le_of_ble_eq_true rfl) (Nat.le_of_ble_eq_true rfl) rfl ?_
    refine wp_goto (tgt := 22) dX12_both_154 (by decide) ?_
    exact wp_weak [true, true, true, true, true, false, true, true, true] rfl h
  · have h := h.2 q2
    refine wp_aload_n dX12_both_40 rfl (by decide) ?_
    refine wp_getf (t := Rv 116) 116 dX12_both_41 (fl_X12_94 rfl) kd_88 rfl rfl ?_
    refine wp_bipush dX12_both_44 (by decide) ?_
    refine wp_iload dX12_both_46 rfl ?_
    refine wp_imul dX12_both_48 ?_
    refine wp_iload dX12_both_49 rfl ?_
    refine wp_iadd dX12_both_51 ?_
    refine wp_lconst1 dX12_both_52 ?_
    obtain ⟨o3, h⟩ := h
    obtain ⟨o4, h⟩ := h
    refine wp_last dX12_both_53 kd_116 sz_116 o3 o4 (⟨by omega, by omega⟩) ?_
    refine wp_iconst dX12_both_54 ?_
    refine wp_istore (L2 := [some (Rv 88), some (Iv x1), some (Iv x2), some (Iv x3), some (Iv x4), some (Iv x5), some (Iv 0), none, none]) dX12_both_55 (Nat.le_of_ble_eq_true rfl) (Nat.le_of_ble_eq_true rfl) rfl ?_
    exact h
theorem gX12_both_57 {x1 x2 x3 x4 x5 x6 : Int}  {M : Mem} {Q : Vl → Mem → Prop} (h : inr x6 ∧ (inr (M 88 11) ∧ (((M 88 11) ≤ x6 → wp 0 yX12_both 35 [some (Rv 88), some (Iv x1), some (Iv x2), some (Iv x3), some (Iv x4), some (Iv (x5 + (-1))), none, none, none] [] M Q) ∧ (x6 < (M 88 11) → cl 0 yX12_next [Rv 88, Iv x1, Iv x4, Iv x6] M (QI (fun z4 M4 => (cl 0 yX12_next [Rv 88, Iv x2, Iv x5, Iv x6] M4 (QI (fun z5 M5 => (0 ≤ (41 * x4) + x5 ∧ ((41 * x4) + x5 < 1681 ∧ (inr z4 ∧ ((z4 = (-9) → wp 0 yX12_both 57 [some (Rv 88), some (Iv x1), some (Iv x2), some (Iv x3), some (Iv x4), some (Iv x5), some (Iv (x6 + 1)), none, none] [] (up M5 116 ((41 * x4) + x5) ((M5 116 ((41 * x4) + x5)) + 0)) Q) ∧ (z4 ≠ (-9) → inr z5 ∧ ((z5 ≠ (-9) → 0 ≤ ((41 * (z4 + 1)) + z5) + 1 ∧ (((41 * (z4 + 1)) + z5) + 1 < 1681 ∧ (wp 0 yX12_both 57 [some (Rv 88), some (Iv x1), some (Iv x2), some (Iv x3), some (Iv x4), some (Iv x5), some (Iv (x6 + 1)), none, none] [] (up M5 116 ((41 * x4) + x5) ((M5 116 ((41 * x4) + x5)) + (M5 116 (((41 * (z4 + 1)) + z5) + 1)))) Q))) ∧ (z5 = (-9) → wp 0 yX12_both 57 [some (Rv 88), some (Iv x1), some (Iv x2), some (Iv x3), some (Iv x4), some (Iv x5), some (Iv (x6 + 1)), none, none] [] (up M5 116 ((41 * x4) + x5) ((M5 116 ((41 * x4) + x5)) + 0)) Q)))))))))))))))) : wp 0 yX12_both 57 [some (Rv 88), some (Iv x1), some (Iv x2), some (Iv x3), some (Iv x4), some (Iv x5), some (Iv x6), none, none] [] M Q := by
  refine wp_iload dX12_both_57 rfl ?_
  refine wp_aload_n dX12_both_59 rfl (by decide) ?_
  refine wp_getf (t := Iv (M 88 11)) (M 88 11) dX12_both_60 (fl_X12_110 rfl) kd_88 rfl rfl ?_
  obtain ⟨o1, h⟩ := h
  obtain ⟨o2, h⟩ := h
  refine wp_icmp_ge (tgt := 145) dX12_both_63 (by decide) o1 o2 (fun q3 => ?_) (fun q3 => ?_)
  · have h := h.1 q3
    refine wp_iinc (L2 := [some (Rv 88), some (Iv x1), some (Iv x2), some (Iv x3), some (Iv x4), some (Iv (x5 + (-1))), some (Iv x6), none, none]) dX12_both_145 rfl (Nat.le_of_ble_eq_true rfl) (Nat.le_of_ble_eq_true rfl) rfl ?_
    refine wp_goto (tgt := 35) dX12_both_148 (by decide) ?_
    exact wp_weak [true, true, true, true, true, true, false, true, true] rfl h
  · have h := h.2 q3
    refine wp_aload_n dX12_both_66 rfl (by decide) ?_
    refine wp_iload_n dX12_both_67 rfl ?_
    refine wp_iload dX12_both_68 rfl ?_
    refine wp_iload dX12_both_70 rfl ?_
    refine wp_callV (e1 := 0) (as := [Iv x1, Iv x4, Iv x6]) (S := []) dX12_both_72 (cs_X12_206 rfl) kd_88 rfl rfl (Nat.le_of_ble_eq_true rfl) (Nat.le_of_ble_eq_true rfl) h (fun v4 M4 q4 r4 => ?_)
    obtain ⟨z4, rfl⟩ := retV_i r4 rfl
    have h := q4
    refine wp_istore (L2 := [some (Rv 88), some (Iv x1), some (Iv x2), some (Iv x3), some (Iv x4), some (Iv x5), some (Iv x6), some (Iv z4), none]) dX12_both_75 (Nat.le_of_ble_eq_true rfl) (Nat.le_of_ble_eq_true rfl) rfl ?_
    refine wp_aload_n dX12_both_77 rfl (by decide) ?_
    refine wp_iload_n dX12_both_78 rfl ?_
    refine wp_iload dX12_both_79 rfl ?_
    refine wp_iload dX12_both_81 rfl ?_
    refine wp_callV (e1 := 0) (as := [Iv x2, Iv x5, Iv x6]) (S := []) dX12_both_83 (cs_X12_206 rfl) kd_88 rfl rfl (Nat.le_of_ble_eq_true rfl) (Nat.le_of_ble_eq_true rfl) h (fun v5 M5 q5 r5 => ?_)
    obtain ⟨z5, rfl⟩ := retV_i r5 rfl
    have h := q5
    refine wp_istore (L2 := [some (Rv 88), some (Iv x1), some (Iv x2), some (Iv x3), some (Iv x4), some (Iv x5), some (Iv x6), some (Iv z4), some (Iv z5)]) dX12_both_86 (Nat.le_of_ble_eq_true rfl) (Nat.le_of_ble_eq_true rfl) rfl ?_
    refine wp_aload_n dX12_both_88 rfl (by decide) ?_
    refine wp_getf (t := Rv 116) 116 dX12_both_89 (fl_X12_94 rfl) kd_88 rfl rfl ?_
    refine wp_bipush dX12_both_92 (by decide) ?_
    refine wp_iload dX12_both_94 rfl ?_
    refine wp_imul dX12_both_96 ?_
    refine wp_iload dX12_both_97 rfl ?_
    refine wp_iadd dX12_both_99 ?_
    refine wp_dup2 dX12_both_100 rfl rfl ?_
    obtain ⟨o6, h⟩ := h
    obtain ⟨o7, h⟩ := h
    refine wp_lald (M5 116 ((41 * x4) + x5)) dX12_both_101 kd_116 sz_116 o6 o7 (⟨by omega, by omega⟩) rfl ?_
    refine wp_iload dX12_both_102 rfl ?_
    refine wp_bipush dX12_both_104 (by decide) ?_
    obtain ⟨o8, h⟩ := h
    refine wp_icmp_eq (tgt := 116) dX12_both_106 (by decide) (Or.inr ⟨o8, (by decide)⟩) (fun q9 => ?_) (fun q9 => ?_)
    · have h := h.1 q9
      refine wp_lconst0 dX12_both_116 ?_
      refine wp_goto (tgt := 137) dX12_both_117 (by decide) ?_
      refine wp_ladd dX12_both_137 ?_
      refine wp_last dX12_both_138 kd_116 sz_116 o6 o7 (⟨by omega, by omega⟩) ?_
      refine wp_iinc (L2 := [some (Rv 88), some (Iv x1), some (Iv x2), some (Iv x3), some (Iv x4), some (Iv x5), some (Iv (x6 + 1)), some (Iv z4), some (Iv z5)]) dX12_both_139 rfl (Nat.le_of_ble_eq_true rfl) (Nat.le_of_ble_eq_true rfl) rfl ?_
      refine wp_goto (tgt := 57) dX12_both_142 (by decide) ?_
      exact wp_weak [true, true, true, true, true, true, true, false, false] rfl h
    · have h := h.2 q9
      refine wp_iload dX12_both_109 rfl ?_
      refine wp_bipush dX12_both_111 (by decide) ?_
      obtain ⟨o10, h⟩ := h
      refine wp_icmp_ne (tgt := 120) dX12_both_113 (by decide) (Or.inr ⟨o10, (by decide)⟩) (fun q11 => ?_) (fun q11 => ?_)
      · have h := h.1 q11
        refine wp_aload_n dX12_both_120 rfl (by decide) ?_
        refine wp_getf (t := Rv 116) 116 dX12_both_121 (fl_X12_94 rfl) kd_88 rfl rfl ?_
        refine wp_bipush dX12_both_124 (by decide) ?_
        refine wp_iload dX12_both_126 rfl ?_
        refine wp_iconst dX12_both_128 ?_
        refine wp_iadd dX12_both_129 ?_
        refine wp_imul dX12_both_130 ?_
        refine wp_iload dX12_both_131 rfl ?_
        refine wp_iadd dX12_both_133 ?_
        refine wp_iconst dX12_both_134 ?_
        refine wp_iadd dX12_both_135 ?_
        obtain ⟨o12, h⟩ := h
        obtain ⟨o13, h⟩ := h
        refine wp_lald (M5 116 (((41 * (z4 + 1)) + z5) + 1)) dX12_both_136 kd_116 sz_116 o12 o13 (⟨by omega, by omega⟩) rfl ?_
        refine wp_ladd dX12_both_137 ?_
        refine wp_last dX12_both_138 kd_116 sz_116 o6 o7 (⟨by omega, by omega⟩) ?_
        refine wp_iinc (L2 := [some (Rv 88), some (Iv x1), some (Iv x2), some (Iv x3), some (Iv x4), some (Iv x5), some (Iv (x6 + 1)), some (Iv z4), some (Iv z5)]) dX12_both_139 rfl (Nat.le_of_ble_eq_true rfl) (Nat.le_of_ble_eq_true rfl) rfl ?_
        refine wp_goto (tgt := 57) dX12_both_142 (by decide) ?_
        exact wp_weak [true, true, true, true, true, true, true, false, false] rfl h
      · have h := h.2 q11
        refine wp_lconst0 dX12_both_116 ?_
        refine wp_goto (tgt := 137) dX12_both_117 (by decide) ?_
        refine wp_ladd dX12_both_137 ?_
        refine wp_last dX12_both_138 kd_116 sz_116 o6 o7 (⟨by omega, by omega⟩) ?_
        refine wp_iinc (L2 := [some (Rv 88), some (Iv x1), some (Iv x2), some (Iv x3), some (Iv x4), some (Iv x5), some (Iv (x6 + 1)), some (Iv z4), some (Iv z5)]) dX12_both_139 rfl (Nat.le_of_ble_eq_true rfl) (Nat.le_of_ble_eq_true rfl) rfl ?_
        refine wp_goto (tgt := 57) dX12_both_142 (by decide) ?_
        exact wp_weak [true, true, true, true, true, true, true, false, false] rfl h
theorem gX12_oftenIn {x1 x2 x3 : Int}  {M : Mem} {Q : Vl → Mem → Prop} (h : wp 0 yX12_oftenIn 3 [some (Rv 88), some (Iv x1), some (Iv x2), some (Iv x3), some (Iv 0), none, none] [] M Q) : wp 0 yX12_oftenIn 0 [some (Rv 88), some (Iv x1), some (Iv x2), some (Iv x3), none, none, none] [] M Q := by
  refine wp_iconst dX12_oftenIn_0 ?_
  refine wp_istore (L2 := [some (Rv 88), some (Iv x1), some (Iv x2), some (Iv x3), some (Iv 0), none, none]) dX12_oftenIn_1 (Nat.le_of_ble_eq_true rfl) (Nat.le_of_ble_eq_true rfl) rfl ?_
  exact h
theorem eX12_oftenIn {x1 x2 x3 : Int}  {M : Mem} {Q : Vl → Mem → Prop} (h : wp 0 yX12_oftenIn 3 [some (Rv 88), some (Iv x1), some (Iv x2), some (Iv x3), some (Iv 0), none, none] [] M Q) : cl 0 yX12_oftenIn [Rv 88, Iv x1, Iv x2, Iv x3] M Q := enterG (by decide +kernel) (by exact Or.inr (Or.inr (Or.inr (Or.inl rfl)))) (Nat.le_of_ble_eq_true rfl) rfl (gX12_oftenIn h)
theorem gX12_oftenIn_3 {x1 x2 x3 x4 : Int}  {M : Mem} {Q : Vl → Mem → Prop} (h : inr x4 ∧ (inr x3 ∧ ((x3 < x4 → wp 0 yX12_oftenIn 35 [some (Rv 88), some (Iv x1), some (Iv x2), some (Iv x3), some (Iv 0), none, none] [] M Q) ∧ (x4 ≤ x3 → ((x4 ≠ 0 → 0 ≤ x4 ∧ (x4 < 4 ∧ (wp 0 yX12_oftenIn 3 [some (Rv 88), some (Iv x1), some (Iv x2), some (Iv x3), some (Iv (x4 + 1)), none, none] [] (up M 119 x4 0) Q))) ∧ (x4 = 0 → 0 ≤ x4 ∧ (x4 < 4 ∧ (wp 0 yX12_oftenIn 3 [some (Rv 88), some (Iv x1), some (Iv x2), some (Iv x3), some (Iv (x4 + 1)), none, none] [] (up M 119 x4 1) Q)))))))) : wp 0 yX12_oftenIn 3 [some (Rv 88), some (Iv x1), some (Iv x2), some (Iv x3), some (Iv x4), none, none] [] M Q := by
  refine wp_iload dX12_oftenIn_3 rfl ?_
  refine wp_iload_n dX12_oftenIn_5 rfl ?_
  obtain ⟨o1, h⟩ := h
  obtain ⟨o2, h⟩ := h
  refine wp_icmp_gt (tgt := 32) dX12_oftenIn_6 (by decide) o1 o2 (fun q3 => ?_) (fun q3 => ?_)
  · have h := h.1 q3
    refine wp_iconst dX12_oftenIn_32 ?_
    refine wp_istore (L2 := [some (Rv 88), some (Iv x1), some (Iv x2), some (Iv x3), some (Iv 0), none, none]) dX12_oftenIn_33 (Nat.le_of_ble_eq_true rfl) (Nat.le_of_ble_eq_true rfl) rfl ?_
    exact h
  · have h := h.2 q3
    refine wp_aload_n dX12_oftenIn_9 rfl (by decide) ?_
    refine wp_getf (t := Rv 119) 119 dX12_oftenIn_10 (fl_X12_103 rfl) kd_88 rfl rfl ?_
    refine wp_iload dX12_oftenIn_13 rfl ?_
    refine wp_iload dX12_oftenIn_15 rfl ?_
    refine wp_if_ne (tgt := 24) dX12_oftenIn_17 (by decide) o1 (fun q4 => ?_) (fun q4 => ?_)
    · have h := h.1 q4
      refine wp_lconst0 dX12_oftenIn_24 ?_
      obtain ⟨o5, h⟩ := h
      obtain ⟨o6, h⟩ := h
      refine wp_last dX12_oftenIn_25 kd_119 sz_119 o5 o6 (⟨by omega, by omega⟩) ?_
      refine wp_iinc (L2 := [some (Rv 88), some (Iv x1), some (Iv x2), some (Iv x3), some (Iv (x4 + 1)), none, none]) dX12_oftenIn_26 rfl (Nat.le_of_ble_eq_true rfl) (Nat.le_of_ble_eq_true rfl) rfl ?_
      refine wp_goto (tgt := 3) dX12_oftenIn_29 (by decide) ?_
      exact h
    · have h := h.2 q4
      refine wp_lconst1 dX12_oftenIn_20 ?_
      refine wp_goto (tgt := 25) dX12_oftenIn_21 (by decide) ?_
      obtain ⟨o7, h⟩ := h
      obtain ⟨o8, h⟩ := h
      refine wp_last dX12_oftenIn_25 kd_119 sz_119 o7 o8 (⟨by omega, by omega⟩) ?_
      refine wp_iinc (L2 := [some (Rv 88), some (Iv x1), some (Iv x2), some (Iv x3), some (Iv (x4 + 1)), none, none]) dX12_oftenIn_26 rfl (Nat.le_of_ble_eq_true rfl) (Nat.le_of_ble_eq_true rfl) rfl ?_
      refine wp_goto (tgt := 3) dX12_oftenIn_29 (by decide) ?_
      exact h
theorem gX12_oftenIn_35 {x1 x2 x3 x4 : Int}  {M : Mem} {Q : Vl → Mem → Prop} (h : inr x4 ∧ (inr x1 ∧ ((x1 ≤ x4 → 0 ≤ x3 ∧ (x3 < 4 ∧ (Q (Jv (M 119 x3)) M))) ∧ (x4 < x1 → wp 0 yX12_oftenIn 47 [some (Rv 88), some (Iv x1), some (Iv x2), some (Iv x3), some (Iv x4), some (Iv x2), some (Iv x3)] [] M Q)))) : wp 0 yX12_oftenIn 35 [some (Rv 88), some (Iv x1), some (Iv x2), some (Iv x3), some (Iv x4), none, none] [] M Q := by
  refine wp_iload dX12_oftenIn_35 rfl ?_
  refine wp_iload_n dX12_oftenIn_37 rfl ?_
  obtain ⟨o1, h⟩ := h
  obtain ⟨o2, h⟩ := h
  refine wp_icmp_ge (tgt := 113) dX12_oftenIn_38 (by decide) o1 o2 (fun q3 => ?_) (fun q3 => ?_)
  · have h := h.1 q3
    refine wp_aload_n dX12_oftenIn_113 rfl (by decide) ?_
    refine wp_getf (t := Rv 119) 119 dX12_oftenIn_114 (fl_X12_103 rfl) kd_88 rfl rfl ?_
    refine wp_iload_n dX12_oftenIn_117 rfl ?_
    obtain ⟨o4, h⟩ := h
    obtain ⟨o5, h⟩ := h
    refine wp_lald (M 119 x3) dX12_oftenIn_118 kd_119 sz_119 o4 o5 (⟨by omega, by omega⟩) rfl ?_
    exact wp_lret dX12_oftenIn_119 rfl (Or.inr ⟨rfl, rfl, rfl, by decide⟩) rfl h
  · have h := h.2 q3
    refine wp_iload_n dX12_oftenIn_41 rfl ?_
    refine wp_istore (L2 := [some (Rv 88), some (Iv x1), some (Iv x2), some (Iv x3), some (Iv x4), some (Iv x2), none]) dX12_oftenIn_42 (Nat.le_of_ble_eq_true rfl) (Nat.le_of_ble_eq_true rfl) rfl ?_
    refine wp_iload_n dX12_oftenIn_44 rfl ?_
    refine wp_istore (L2 := [some (Rv 88), some (Iv x1), some (Iv x2), some (Iv x3), some (Iv x4), some (Iv x2), some (Iv x3)]) dX12_oftenIn_45 (Nat.le_of_ble_eq_true rfl) (Nat.le_of_ble_eq_true rfl) rfl ?_
    exact h
theorem gX12_oftenIn_47 {x1 x2 x3 x4 x5 x6 : Int}  {M : Mem} {Q : Vl → Mem → Prop} (h : inr x6 ∧ ((x6 ≤ 0 → wp 0 yX12_oftenIn 35 [some (Rv 88), some (Iv x1), some (Iv x2), some (Iv x3), some (Iv (x4 + 1)), none, none] [] M Q) ∧ (0 < x6 → 0 ≤ x6 ∧ (x6 < 4 ∧ (0 ≤ x4 ∧ (x4 < 40 ∧ (inr x5 ∧ (inr (M 88 11) ∧ (M 88 11 ≠ 0 ∧ (((M 112 x4) = (Int.tmod x5 (M 88 11)) ∨ (inr (M 112 x4) ∧ inr (Int.tmod x5 (M 88 11)))) ∧ (((M 112 x4) ≠ (Int.tmod x5 (M 88 11)) → wp 0 yX12_oftenIn 47 [some (Rv 88), some (Iv x1), some (Iv x2), some (Iv x3), some (Iv x4), some (Iv (Int.tdiv x5 (M 88 11))), some (Iv (x6 + (-1)))] [] (up M 119 x6 ((M 119 x6) + 0)) Q) ∧ ((M 112 x4) = (Int.tmod x5 (M 88 11)) → 0 ≤ x6 - 1 ∧ (x6 - 1 < 4 ∧ (wp 0 yX12_oftenIn 47 [some (Rv 88), some (Iv x1), some (Iv x2), some (Iv x3), some (Iv x4), some (Iv (Int.tdiv x5 (M 88 11))), some (Iv (x6 + (-1)))] [] (up M 119 x6 ((M 119 x6) + (M 119 (x6 - 1)))) Q)))))))))))))) : wp 0 yX12_oftenIn 47 [some (Rv 88), some (Iv x1), some (Iv x2), some (Iv x3), some (Iv x4), some (Iv x5), some (Iv x6)] [] M Q := by
  refine wp_iload dX12_oftenIn_47 rfl ?_
  obtain ⟨o1, h⟩ := h
  refine wp_if_le (tgt := 107) dX12_oftenIn_49 (by decide) o1 (fun q2 => ?_) (fun q2 => ?_)
  · have h := h.1 q2
    refine wp_iinc (L2 := [some (Rv 88), some (Iv x1), some (Iv x2), some (Iv x3), some (Iv (x4 + 1)), some (Iv x5), some (Iv x6)]) dX12_oftenIn_107 rfl (Nat.le_of_ble_eq_true rfl) (Nat.le_of_ble_eq_true rfl) rfl ?_
    refine wp_goto (tgt := 35) dX12_oftenIn_110 (by decide) ?_
    exact wp_weak [true, true, true, true, true, false, false] rfl h
  · have h := h.2 q2
    refine wp_aload_n dX12_oftenIn_52 rfl (by decide) ?_
    refine wp_getf (t := Rv 119) 119 dX12_oftenIn_53 (fl_X12_103 rfl) kd_88 rfl rfl ?_
    refine wp_iload dX12_oftenIn_56 rfl ?_
    refine wp_dup2 dX12_oftenIn_58 rfl rfl ?_
    obtain ⟨o3, h⟩ := h
    obtain ⟨o4, h⟩ := h
    refine wp_lald (M 119 x6) dX12_oftenIn_59 kd_119 sz_119 o3 o4 (⟨by omega, by omega⟩) rfl ?_
    refine wp_aload_n dX12_oftenIn_60 rfl (by decide) ?_
    refine wp_getf (t := Rv 112) 112 dX12_oftenIn_61 (fl_X12_82 rfl) kd_88 rfl rfl ?_
    refine wp_iload dX12_oftenIn_64 rfl ?_
    obtain ⟨o5, h⟩ := h
    obtain ⟨o6, h⟩ := h
    refine wp_iald (M 112 x4) dX12_oftenIn_66 kd_112 sz_112 o5 o6 (⟨by omega, by omega⟩) rfl ?_
    refine wp_iload dX12_oftenIn_67 rfl ?_
    refine wp_aload_n dX12_oftenIn_69 rfl (by decide) ?_
    refine wp_getf (t := Iv (M 88 11)) (M 88 11) dX12_oftenIn_70 (fl_X12_110 rfl) kd_88 rfl rfl ?_
    obtain ⟨o7, h⟩ := h
    obtain ⟨o8, h⟩ := h
    obtain ⟨o9, h⟩ := h
    refine wp_irem dX12_oftenIn_73 o7 o8 o9 ?_
    obtain ⟨o10, h⟩ := h
    refine wp_icmp_ne (tgt := 89) dX12_oftenIn_74 (by decide) o10 (fun q11 => ?_) (fun q11 => ?_)
    · have h := h.1 q11
      refine wp_lconst0 dX12_oftenIn_89 ?_
      refine wp_ladd dX12_oftenIn_90 ?_
      refine wp_last dX12_oftenIn_91 kd_119 sz_119 o3 o4 (⟨by omega, by omega⟩) ?_
      refine wp_iload dX12_oftenIn_92 rfl ?_
      refine wp_aload_n dX12_oftenIn_94 rfl (by decide) ?_
      refine wp_getf (t := Iv (M 88 11)) (M 88 11) dX12_oftenIn_95 (fl_X12_110 rfl) kd_88 rfl rfl ?_
      refine wp_idiv dX12_oftenIn_98 o7 o8 o9 ?_
      refine wp_istore (L2 := [some (Rv 88), some (Iv x1), some (Iv x2), some (Iv x3), some (Iv x4), some (Iv (Int.tdiv x5 (M 88 11))), some (Iv x6)]) dX12_oftenIn_99 (Nat.le_of_ble_eq_true rfl) (Nat.le_of_ble_eq_true rfl) rfl ?_
      refine wp_iinc (L2 := [some (Rv 88), some (Iv x1), some (Iv x2), some (Iv x3), some (Iv x4), some (Iv (Int.tdiv x5 (M 88 11))), some (Iv (x6 + (-1)))]) dX12_oftenIn_101 rfl (Nat.le_of_ble_eq_true rfl) (Nat.le_of_ble_eq_true rfl) rfl ?_
      refine wp_goto (tgt := 47) dX12_oftenIn_104 (by decide) ?_
      exact h
    · have h := h.2 q11
      refine wp_aload_n dX12_oftenIn_77 rfl (by decide) ?_
      refine wp_getf (t := Rv 119) 119 dX12_oftenIn_78 (fl_X12_103 rfl) kd_88 rfl rfl ?_
      refine wp_iload dX12_oftenIn_81 rfl ?_
      refine wp_iconst dX12_oftenIn_83 ?_
      refine wp_isub dX12_oftenIn_84 ?_
      obtain ⟨o12, h⟩ := h
      obtain ⟨o13, h⟩ := h
      refine wp_lald (M 119 (x6 - 1)) dX12_oftenIn_85 kd_119 sz_119 o12 o13 (⟨by omega, by omega⟩) rfl ?_
      refine wp_goto (tgt := 90) dX12_oftenIn_86 (by decide) ?_
      refine wp_ladd dX12_oftenIn_90 ?_
      refine wp_last dX12_oftenIn_91 kd_119 sz_119 o3 o4 (⟨by omega, by omega⟩) ?_
      refine wp_iload dX12_oftenIn_92 rfl ?_
      refine wp_aload_n dX12_oftenIn_94 rfl (by decide) ?_
      refine wp_getf (t := Iv (M 88 11)) (M 88 11) dX12_oftenIn_95 (fl_X12_110 rfl) kd_88 rfl rfl ?_
      refine wp_idiv dX12_oftenIn_98 o7 o8 o9 ?_
      refine wp_istore (L2 := [some (Rv 88), some (Iv x1), some (Iv x2), some (Iv x3), some (Iv x4), some (Iv (Int.tdiv x5 (M 88 11))), some (Iv x6)]) dX12_oftenIn_99 (Nat.le_of_ble_eq_true rfl) (Nat.le_of_ble_eq_true rfl) rfl ?_
      refine wp_iinc (L2 := [some (Rv 88), some (Iv x1), some (Iv x2), some (Iv x3), some (Iv x4), some (Iv (Int.tdiv x5 (M 88 11))), some (Iv (x6 + (-1)))]) dX12_oftenIn_101 rfl (Nat.le_of_ble_eq_true rfl) (Nat.le_of_ble_eq_true rfl) rfl ?_
      refine wp_goto (tgt := 47) dX12_oftenIn_104 (by decide) ?_
      exact h
theorem gX12_isTwin {x1 x2 x3 : Int}  {M : Mem} {Q : Vl → Mem → Prop} (h : wp 0 yX12_isTwin 6 [some (Rv 88), some (Iv x1), some (Iv x2), some (Iv x3), some (Iv 1), some (Iv 0)] [] M Q) : wp 0 yX12_isTwin 0 [some (Rv 88), some (Iv x1), some (Iv x2), some (Iv x3), none, none] [] M Q := by
  refine wp_iconst dX12_isTwin_0 ?_
  refine wp_istore (L2 := [some (Rv 88), some (Iv x1), some (Iv x2), some (Iv x3), some (Iv 1), none]) dX12_isTwin_1 (Nat.le_of_ble_eq_true rfl) (Nat.le_of_ble_eq_true rfl) rfl ?_
  refine wp_iconst dX12_isTwin_3 ?_
  refine wp_istore (L2 := [some (Rv 88), some (Iv x1), some (Iv x2), some (Iv x3), some (Iv 1), some (Iv 0)]) dX12_isTwin_4 (Nat.le_of_ble_eq_true rfl) (Nat.le_of_ble_eq_true rfl) rfl ?_
  exact h
theorem eX12_isTwin {x1 x2 x3 : Int}  {M : Mem} {Q : Vl → Mem → Prop} (h : wp 0 yX12_isTwin 6 [some (Rv 88), some (Iv x1), some (Iv x2), some (Iv x3), some (Iv 1), some (Iv 0)] [] M Q) : cl 0 yX12_isTwin [Rv 88, Iv x1, Iv x2, Iv x3] M Q := enterG (by decide +kernel) (by exact Or.inr (Or.inr (Or.inl rfl))) (Nat.le_of_ble_eq_true rfl) rfl (gX12_isTwin h)
theorem gX12_isTwin_6 {x1 x2 x3 x4 x5 : Int}  {M : Mem} {Q : Vl → Mem → Prop} (h : inr x5 ∧ (inr x3 ∧ ((x3 ≤ x5 → (x4 = 0 ∨ x4 = 1) ∧ (Q (Iv x4) M)) ∧ (x5 < x3 → inr x4 ∧ ((x4 = 0 → (x4 = 0 ∨ x4 = 1) ∧ (Q (Iv x4) M)) ∧ (x4 ≠ 0 → cl 0 yX12_oftenIn [Rv 88, Iv x1, Iv x5, Iv x2] M (QJ (fun z8 M8 => (0 ≤ x5 ∧ (x5 < 216 ∧ ((z8 = M8 117 x5 ∨ (inL z8 ∧ inL (M8 117 x5))) ∧ ((z8 ≠ (M8 117 x5) → wp 0 yX12_isTwin 6 [some (Rv 88), some (Iv x1), some (Iv x2), some (Iv x3), some (Iv 0), some (Iv (x5 + 1))] [] M8 Q) ∧ (z8 = (M8 117 x5) → wp 0 yX12_isTwin 6 [some (Rv 88), some (Iv x1), some (Iv x2), some (Iv x3), some (Iv 1), some (Iv (x5 + 1))] [] M8 Q))))))))))))) : wp 0 yX12_isTwin 6 [some (Rv 88), some (Iv x1), some (Iv x2), some (Iv x3), some (Iv x4), some (Iv x5)] [] M Q := by
  refine wp_iload dX12_isTwin_6 rfl ?_
  refine wp_iload_n dX12_isTwin_8 rfl ?_
  obtain ⟨o1, h⟩ := h
  obtain ⟨o2, h⟩ := h
  refine wp_icmp_ge (tgt := 49) dX12_isTwin_9 (by decide) o1 o2 (fun q3 => ?_) (fun q3 => ?_)
  · have h := h.1 q3
    refine wp_iload dX12_isTwin_49 rfl ?_
    obtain ⟨o4, h⟩ := h
    exact wp_zret dX12_isTwin_51 rfl (Or.inr ⟨rfl, rfl, rfl, by decide⟩) rfl o4 h
  · have h := h.2 q3
    refine wp_iload dX12_isTwin_12 rfl ?_
    obtain ⟨o5, h⟩ := h
    refine wp_if_eq (tgt := 49) dX12_isTwin_14 (by decide) o5 (fun q6 => ?_) (fun q6 => ?_)
    · have h := h.1 q6
      refine wp_iload dX12_isTwin_49 rfl ?_
      obtain ⟨o7, h⟩ := h
      exact wp_zret dX12_isTwin_51 rfl (Or.inr ⟨rfl, rfl, rfl, by decide⟩) rfl o7 h
    · have h := h.2 q6
      refine wp_aload_n dX12_isTwin_17 rfl (by decide) ?_
      refine wp_iload_n dX12_isTwin_18 rfl ?_
      refine wp_iload dX12_isTwin_19 rfl ?_
      refine wp_iload_n dX12_isTwin_21 rfl ?_
      refine wp_callV (e1 := 0) (as := [Iv x1, Iv x5, Iv x2]) (S := []) dX12_isTwin_22 (cs_X12_292 rfl) kd_88 rfl rfl (Nat.le_of_ble_eq_true rfl) (Nat.le_of_ble_eq_true rfl) h (fun v8 M8 q8 r8 => ?_)
      obtain ⟨z8, rfl⟩ := retV_j r8 rfl
      have h := q8
      refine wp_aload_n dX12_isTwin_25 rfl (by decide) ?_
      refine wp_getf (t := Rv 117) 117 dX12_isTwin_26 (fl_X12_97 rfl) kd_88 rfl rfl ?_
      refine wp_iload dX12_isTwin_29 rfl ?_
      obtain ⟨o9, h⟩ := h
      obtain ⟨o10, h⟩ := h
      refine wp_lald (M8 117 x5) dX12_isTwin_31 kd_117 sz_117 o9 o10 (⟨by omega, by omega⟩) rfl ?_
      obtain ⟨o11, h⟩ := h
      refine wp_lcmp dX12_isTwin_32 o11 ?_
      refine wp_if_ne (tgt := 40) dX12_isTwin_33 (by decide) lc_inr (fun q12 => ?_) (fun q12 => ?_)
      · have q12 := lc_ne.mp q12
        have h := h.1 q12
        refine wp_iconst dX12_isTwin_40 ?_
        refine wp_istore (L2 := [some (Rv 88), some (Iv x1), some (Iv x2), some (Iv x3), some (Iv 0), some (Iv x5)]) dX12_isTwin_41 (Nat.le_of_ble_eq_true rfl) (Nat.le_of_ble_eq_true rfl) rfl ?_
        refine wp_iinc (L2 := [some (Rv 88), some (Iv x1), some (Iv x2), some (Iv x3), some (Iv 0), some (Iv (x5 + 1))]) dX12_isTwin_43 rfl (Nat.le_of_ble_eq_true rfl) (Nat.le_of_ble_eq_true rfl) rfl ?_
        refine wp_goto (tgt := 6) dX12_isTwin_46 (by decide) ?_
        exact h
      · have q12 := lc_eq.mp q12
        have h := h.2 q12
        refine wp_iconst dX12_isTwin_36 ?_
        refine wp_goto (tgt := 41) dX12_isTwin_37 (by decide) ?_
        refine wp_istore (L2 := [some (Rv 88), some (Iv x1), some (Iv x2), some (Iv x3), some (Iv 1), some (Iv x5)]) dX12_isTwin_41 (Nat.le_of_ble_eq_true rfl) (Nat.le_of_ble_eq_true rfl) rfl ?_
        refine wp_iinc (L2 := [some (Rv 88), some (Iv x1), some (Iv x2), some (Iv x3), some (Iv 1), some (Iv (x5 + 1))]) dX12_isTwin_43 rfl (Nat.le_of_ble_eq_true rfl) (Nat.le_of_ble_eq_true rfl) rfl ?_
        refine wp_goto (tgt := 6) dX12_isTwin_46 (by decide) ?_
        exact h
theorem gX12_layOtherBy {x1 x2 : Int}  {M : Mem} {Q : Vl → Mem → Prop} (h : wp 0 yX12_layOtherBy 7 [some (Rv 88), some (Iv x1), some (Iv x2), some (Iv x1), some (Iv (x2 - 1))] [] M Q) : wp 0 yX12_layOtherBy 0 [some (Rv 88), some (Iv x1), some (Iv x2), none, none] [] M Q := by
  refine wp_iload_n dX12_layOtherBy_0 rfl ?_
  refine wp_istore_n (L2 := [some (Rv 88), some (Iv x1), some (Iv x2), some (Iv x1), none]) dX12_layOtherBy_1 (Nat.le_of_ble_eq_true rfl) (Nat.le_of_ble_eq_true rfl) rfl ?_
  refine wp_iload_n dX12_layOtherBy_2 rfl ?_
  refine wp_iconst dX12_layOtherBy_3 ?_
  refine wp_isub dX12_layOtherBy_4 ?_
  refine wp_istore (L2 := [some (Rv 88), some (Iv x1), some (Iv x2), some (Iv x1), some (Iv (x2 - 1))]) dX12_layOtherBy_5 (Nat.le_of_ble_eq_true rfl) (Nat.le_of_ble_eq_true rfl) rfl ?_
  exact h
theorem eX12_layOtherBy {x1 x2 : Int}  {M : Mem} {Q : Vl → Mem → Prop} (h : wp 0 yX12_layOtherBy 7 [some (Rv 88), some (Iv x1), some (Iv x2), some (Iv x1), some (Iv (x2 - 1))] [] M Q) : cl 0 yX12_layOtherBy [Rv 88, Iv x1, Iv x2] M Q := enterG (by decide +kernel) (by exact Or.inl rfl) (Nat.le_of_ble_eq_true rfl) rfl (gX12_layOtherBy h)
theorem gX12_layOtherBy_7 {x1 x2 x3 x4 : Int}  {M : Mem} {Q : Vl → Mem → Prop} (h : inr x4 ∧ ((x4 < 0 → Q (Iv 0) M) ∧ (0 ≤ x4 → inr x3 ∧ (inr (M 88 11) ∧ (M 88 11 ≠ 0 ∧ (x4 < 40 ∧ (wp 0 yX12_layOtherBy 7 [some (Rv 88), some (Iv x1), some (Iv x2), some (Iv (Int.tdiv x3 (M 88 11))), some (Iv (x4 + (-1)))] [] (up M 112 x4 (Int.tmod x3 (M 88 11))) Q))))))) : wp 0 yX12_layOtherBy 7 [some (Rv 88), some (Iv x1), some (Iv x2), some (Iv x3), some (Iv x4)] [] M Q := by
  refine wp_iload dX12_layOtherBy_7 rfl ?_
  obtain ⟨o1, h⟩ := h
  refine wp_if_lt (tgt := 38) dX12_layOtherBy_9 (by decide) o1 (fun q2 => ?_) (fun q2 => ?_)
  · have h := h.1 q2
    exact wp_vret dX12_layOtherBy_38 rfl (Or.inr ⟨rfl, rfl, rfl, by decide⟩) rfl h
  · have h := h.2 q2
    refine wp_aload_n dX12_layOtherBy_12 rfl (by decide) ?_
    refine wp_getf (t := Rv 112) 112 dX12_layOtherBy_13 (fl_X12_82 rfl) kd_88 rfl rfl ?_
    refine wp_iload dX12_layOtherBy_16 rfl ?_
    refine wp_iload_n dX12_layOtherBy_18 rfl ?_
    refine wp_aload_n dX12_layOtherBy_19 rfl (by decide) ?_
    refine wp_getf (t := Iv (M 88 11)) (M 88 11) dX12_layOtherBy_20 (fl_X12_110 rfl) kd_88 rfl rfl ?_
    obtain ⟨o3, h⟩ := h
    obtain ⟨o4, h⟩ := h
    obtain ⟨o5, h⟩ := h
    refine wp_irem dX12_layOtherBy_23 o3 o4 o5 ?_
    obtain ⟨o6, h⟩ := h
    refine wp_iast dX12_layOtherBy_24 kd_112 sz_112 q2 o6 (⟨by omega, by omega⟩) ?_
    refine wp_iload_n dX12_layOtherBy_25 rfl ?_
    refine wp_aload_n dX12_layOtherBy_26 rfl (by decide) ?_
    refine wp_getf (t := Iv (M 88 11)) (M 88 11) dX12_layOtherBy_27 (fl_X12_110 rfl) kd_88 rfl rfl ?_
    refine wp_idiv dX12_layOtherBy_30 o3 o4 o5 ?_
    refine wp_istore_n (L2 := [some (Rv 88), some (Iv x1), some (Iv x2), some (Iv (Int.tdiv x3 (M 88 11))), some (Iv x4)]) dX12_layOtherBy_31 (Nat.le_of_ble_eq_true rfl) (Nat.le_of_ble_eq_true rfl) rfl ?_
    refine wp_iinc (L2 := [some (Rv 88), some (Iv x1), some (Iv x2), some (Iv (Int.tdiv x3 (M 88 11))), some (Iv (x4 + (-1)))]) dX12_layOtherBy_32 rfl (Nat.le_of_ble_eq_true rfl) (Nat.le_of_ble_eq_true rfl) rfl ?_
    refine wp_goto (tgt := 7) dX12_layOtherBy_35 (by decide) ?_
    exact h
theorem gX12_twins {x1 x2 x3 : Int}  {M : Mem} {Q : Vl → Mem → Prop} (h : cl 0 yX12_in [Iv x2, Iv 1, Iv 3] M (QI (fun z1 M1 => ((z1 = 0 → cl 0 yX12_needWord [Rv 88, Iv 0, Iv x1] M1 (QI (fun z3 M3 => (inr z3 ∧ ((0 ≤ z3 → 0 ≤ x1 ∧ (x1 < 8 ∧ (wp 0 yX12_twins 50 [some (Rv 88), some (Iv x1), some (Iv x2), some (Iv x3), some (Iv z3), some (Iv (M3 95 x1)), some (Jv 1), none, some (Iv 0), none, none, none] [] M3 Q))) ∧ (z3 < 0 → Q (Iv z3) M3)))))) ∧ (z1 ≠ 0 → cl 0 yX12_isRow [Iv x3] M1 (QI (fun z8 M8 => ((z8 = 0 → cl 0 yX12_needWord [Rv 88, Iv 0, Iv x1] M8 (QI (fun z10 M10 => (inr z10 ∧ ((0 ≤ z10 → 0 ≤ x1 ∧ (x1 < 8 ∧ (wp 0 yX12_twins 50 [some (Rv 88), some (Iv x1), some (Iv x2), some (Iv x3), some (Iv z10), some (Iv (M10 95 x1)), some (Jv 1), none, some (Iv 0), none, none, none] [] M10 Q))) ∧ (z10 < 0 → Q (Iv z10) M10)))))) ∧ (z8 ≠ 0 → cl 0 yX12_needWord [Rv 88, Iv 1, Iv x1] M8 (QI (fun z15 M15 => (inr z15 ∧ ((0 ≤ z15 → 0 ≤ x1 ∧ (x1 < 8 ∧ (wp 0 yX12_twins 50 [some (Rv 88), some (Iv x1), some (Iv x2), some (Iv x3), some (Iv z15), some (Iv (M15 95 x1)), some (Jv 1), none, some (Iv 0), none, none, none] [] M15 Q))) ∧ (z15 < 0 → Q (Iv z15) M15)))))))))))))) : wp 0 yX12_twins 0 [some (Rv 88), some (Iv x1), some (Iv x2), some (Iv x3), none, none, none, none, none, none, none, none] [] M Q := by
  refine wp_aload_n dX12_twins_0 rfl (by decide) ?_
  refine wp_iload_n dX12_twins_1 rfl ?_
  refine wp_iconst dX12_twins_2 ?_
  refine wp_iconst dX12_twins_3 ?_
  refine wp_callS (e1 := 0) (as := [Iv x2, Iv 1, Iv 3]) (S := [Rv 88]) dX12_twins_4 (cs_X12_117 rfl) rfl rfl (Nat.le_of_ble_eq_true rfl) (Nat.le_of_ble_eq_true rfl) h (fun v1 M1 q1 r1 => ?_)
  obtain ⟨z1, rfl, hz1⟩ := retV_z r1 rfl
  have h := q1
  refine wp_if_eq (tgt := 21) dX12_twins_7 (by decide) (by have := hz1; omega) (fun q2 => ?_) (fun q2 => ?_)
  · have h := h.1 q2
    refine wp_iconst dX12_twins_21 ?_
    refine wp_iload_n dX12_twins_22 rfl ?_
    refine wp_callV (e1 := 0) (as := [Iv 0, Iv x1]) (S := []) dX12_twins_23 (cs_X12_192 rfl) kd_88 rfl rfl (Nat.le_of_ble_eq_true rfl) (Nat.le_of_ble_eq_true rfl) h (fun v3 M3 q3 r3 => ?_)
    obtain ⟨z3, rfl⟩ := retV_i r3 rfl
    have h := q3
    refine wp_istore (L2 := [some (Rv 88), some (Iv x1), some (Iv x2), some (Iv x3), some (Iv z3), none, none, none, none, none, none, none]) dX12_twins_26 (Nat.le_of_ble_eq_true rfl) (Nat.le_of_ble_eq_true rfl) rfl ?_
    refine wp_iload dX12_twins_28 rfl ?_
    obtain ⟨o4, h⟩ := h
    refine wp_if_ge (tgt := 36) dX12_twins_30 (by decide) o4 (fun q5 => ?_) (fun q5 => ?_)
    · have h := h.1 q5
      refine wp_aload_n dX12_twins_36 rfl (by decide) ?_
      refine wp_getf (t := Rv 95) 95 dX12_twins_37 (fl_X12_29 rfl) kd_88 rfl rfl ?_
      refine wp_iload_n dX12_twins_40 rfl ?_
      obtain ⟨o6, h⟩ := h
      obtain ⟨o7, h⟩ := h
      refine wp_iald (M3 95 x1) dX12_twins_41 kd_95 sz_95 o6 o7 (⟨by omega, by omega⟩) rfl ?_
      refine wp_istore (L2 := [some (Rv 88), some (Iv x1), some (Iv x2), some (Iv x3), some (Iv z3), some (Iv (M3 95 x1)), none, none, none, none, none, none]) dX12_twins_42 (Nat.le_of_ble_eq_true rfl) (Nat.le_of_ble_eq_true rfl) rfl ?_
      refine wp_lconst1 dX12_twins_44 ?_
      refine wp_lstore (L2 := [some (Rv 88), some (Iv x1), some (Iv x2), some (Iv x3), some (Iv z3), some (Iv (M3 95 x1)), some (Jv 1), none, none, none, none, none]) dX12_twins_45 (Nat.le_of_ble_eq_true rfl) (Nat.le_of_ble_eq_true rfl) rfl ?_
      refine wp_iconst dX12_twins_47 ?_
      refine wp_istore (L2 := [some (Rv 88), some (Iv x1), some (Iv x2), some (Iv x3), some (Iv z3), some (Iv (M3 95 x1)), some (Jv 1), none, some (Iv 0), none, none, none]) dX12_twins_48 (Nat.le_of_ble_eq_true rfl) (Nat.le_of_ble_eq_true rfl) rfl ?_
      exact h
    · have h := h.2 q5
      refine wp_iload dX12_twins_33 rfl ?_
      exact wp_iret dX12_twins_35 rfl (Or.inr ⟨rfl, rfl, rfl, by decide⟩) rfl h
  · have h := h.2 q2
    refine wp_iload_n dX12_twins_10 rfl ?_
    refine wp_callS (e1 := 0) (as := [Iv x3]) (S := [Rv 88]) dX12_twins_11 (cs_X12_130 rfl) rfl rfl (Nat.le_of_ble_eq_true rfl) (Nat.le_of_ble_eq_true rfl) h (fun v8 M8 q8 r8 => ?_)
    obtain ⟨z8, rfl, hz8⟩ := retV_z r8 rfl
    have h := q8
    refine wp_if_eq (tgt := 21) dX12_twins_14 (by decide) (by have := hz8; omega) (fun q9 => ?_) (fun q9 => ?_)
    · have h := h.1 q9
      refine wp_iconst dX12_twins_21 ?_
      refine wp_iload_n dX12_twins_22 rfl ?_
      refine wp_callV (e1 := 0) (as := [Iv 0, Iv x1]) (S := []) dX12_twins_23 (cs_X12_192 rfl) kd_88 rfl rfl (Nat.le_of_ble_eq_true rfl) (Nat.le_of_ble_eq_true rfl) h (fun v10 M10 q10 r10 => ?_)
      obtain ⟨z10, rfl⟩ := retV_i r10 rfl
      have h := q10
      refine wp_istore (L2 := [some (Rv 88), some (Iv x1), some (Iv x2), some (Iv x3), some (Iv z10), none, none, none, none, none, none, none]) dX12_twins_26 (Nat.le_of_ble_eq_true rfl) (Nat.le_of_ble_eq_true rfl) rfl ?_
      refine wp_iload dX12_twins_28 rfl ?_
      obtain ⟨o11, h⟩ := h
      refine wp_if_ge (tgt := 36) dX12_twins_30 (by decide) o11 (fun q12 => ?_) (fun q12 => ?_)
      · have h := h.1 q12
        refine wp_aload_n dX12_twins_36 rfl (by decide) ?_
        refine wp_getf (t := Rv 95) 95 dX12_twins_37 (fl_X12_29 rfl) kd_88 rfl rfl ?_
        refine wp_iload_n dX12_twins_40 rfl ?_
        obtain ⟨o13, h⟩ := h
        obtain ⟨o14, h⟩ := h
        refine wp_iald (M10 95 x1) dX12_twins_41 kd_95 sz_95 o13 o14 (⟨by omega, by omega⟩) rfl ?_
        refine wp_istore (L2 := [some (Rv 88), some (Iv x1), some (Iv x2), some (Iv x3), some (Iv z10), some (Iv (M10 95 x1)), none, none, none, none, none, none]) dX12_twins_42 (Nat.le_of_ble_eq_true rfl) (Nat.le_of_ble_eq_true rfl) rfl ?_
        refine wp_lconst1 dX12_twins_44 ?_
        refine wp_lstore (L2 := [some (Rv 88), some (Iv x1), some (Iv x2), some (Iv x3), some (Iv z10), some (Iv (M10 95 x1)), some (Jv 1), none, none, none, none, none]) dX12_twins_45 (Nat.le_of_ble_eq_true rfl) (Nat.le_of_ble_eq_true rfl) rfl ?_
        refine wp_iconst dX12_twins_47 ?_
        refine wp_istore (L2 := [some (Rv 88), some (Iv x1), some (Iv x2), some (Iv x3), some (Iv z10), some (Iv (M10 95 x1)), some (Jv 1), none, some (Iv 0), none, none, none]) dX12_twins_48 (Nat.le_of_ble_eq_true rfl) (Nat.le_of_ble_eq_true rfl) rfl ?_
        exact h
      · have h := h.2 q12
        refine wp_iload dX12_twins_33 rfl ?_
        exact wp_iret dX12_twins_35 rfl (Or.inr ⟨rfl, rfl, rfl, by decide⟩) rfl h
    · have h := h.2 q9
      refine wp_iconst dX12_twins_17 ?_
      refine wp_goto (tgt := 22) dX12_twins_18 (by decide) ?_
      refine wp_iload_n dX12_twins_22 rfl ?_
      refine wp_callV (e1 := 0) (as := [Iv 1, Iv x1]) (S := []) dX12_twins_23 (cs_X12_192 rfl) kd_88 rfl rfl (Nat.le_of_ble_eq_true rfl) (Nat.le_of_ble_eq_true rfl) h (fun v15 M15 q15 r15 => ?_)
      obtain ⟨z15, rfl⟩ := retV_i r15 rfl
      have h := q15
      refine wp_istore (L2 := [some (Rv 88), some (Iv x1), some (Iv x2), some (Iv x3), some (Iv z15), none, none, none, none, none, none, none]) dX12_twins_26 (Nat.le_of_ble_eq_true rfl) (Nat.le_of_ble_eq_true rfl) rfl ?_
      refine wp_iload dX12_twins_28 rfl ?_
      obtain ⟨o16, h⟩ := h
      refine wp_if_ge (tgt := 36) dX12_twins_30 (by decide) o16 (fun q17 => ?_) (fun q17 => ?_)
      · have h := h.1 q17
        refine wp_aload_n dX12_twins_36 rfl (by decide) ?_
        refine wp_getf (t := Rv 95) 95 dX12_twins_37 (fl_X12_29 rfl) kd_88 rfl rfl ?_
        refine wp_iload_n dX12_twins_40 rfl ?_
        obtain ⟨o18, h⟩ := h
        obtain ⟨o19, h⟩ := h
        refine wp_iald (M15 95 x1) dX12_twins_41 kd_95 sz_95 o18 o19 (⟨by omega, by omega⟩) rfl ?_
        refine wp_istore (L2 := [some (Rv 88), some (Iv x1), some (Iv x2), some (Iv x3), some (Iv z15), some (Iv (M15 95 x1)), none, none, none, none, none, none]) dX12_twins_42 (Nat.le_of_ble_eq_true rfl) (Nat.le_of_ble_eq_true rfl) rfl ?_
        refine wp_lconst1 dX12_twins_44 ?_
        refine wp_lstore (L2 := [some (Rv 88), some (Iv x1), some (Iv x2), some (Iv x3), some (Iv z15), some (Iv (M15 95 x1)), some (Jv 1), none, none, none, none, none]) dX12_twins_45 (Nat.le_of_ble_eq_true rfl) (Nat.le_of_ble_eq_true rfl) rfl ?_
        refine wp_iconst dX12_twins_47 ?_
        refine wp_istore (L2 := [some (Rv 88), some (Iv x1), some (Iv x2), some (Iv x3), some (Iv z15), some (Iv (M15 95 x1)), some (Jv 1), none, some (Iv 0), none, none, none]) dX12_twins_48 (Nat.le_of_ble_eq_true rfl) (Nat.le_of_ble_eq_true rfl) rfl ?_
        exact h
      · have h := h.2 q17
        refine wp_iload dX12_twins_33 rfl ?_
        exact wp_iret dX12_twins_35 rfl (Or.inr ⟨rfl, rfl, rfl, by decide⟩) rfl h
theorem eX12_twins {x1 x2 x3 : Int}  {M : Mem} {Q : Vl → Mem → Prop} (h : cl 0 yX12_in [Iv x2, Iv 1, Iv 3] M (QI (fun z1 M1 => ((z1 = 0 → cl 0 yX12_needWord [Rv 88, Iv 0, Iv x1] M1 (QI (fun z3 M3 => (inr z3 ∧ ((0 ≤ z3 → 0 ≤ x1 ∧ (x1 < 8 ∧ (wp 0 yX12_twins 50 [some (Rv 88), some (Iv x1), some (Iv x2), some (Iv x3), some (Iv z3), some (Iv (M3 95 x1)), some (Jv 1), none, some (Iv 0), none, none, none] [] M3 Q))) ∧ (z3 < 0 → Q (Iv z3) M3)))))) ∧ (z1 ≠ 0 → cl 0 yX12_isRow [Iv x3] M1 (QI (fun z8 M8 => ((z8 = 0 → cl 0 yX12_needWord [Rv 88, Iv 0, Iv x1] M8 (QI (fun z10 M10 => (inr z10 ∧ ((0 ≤ z10 → 0 ≤ x1 ∧ (x1 < 8 ∧ (wp 0 yX12_twins 50 [some (Rv 88), some (Iv x1), some (Iv x2), some (Iv x3), some (Iv z10), some (Iv (M10 95 x1)), some (Jv 1), none, some (Iv 0), none, none, none] [] M10 Q))) ∧ (z10 < 0 → Q (Iv z10) M10)))))) ∧ (z8 ≠ 0 → cl 0 yX12_needWord [Rv 88, Iv 1, Iv x1] M8 (QI (fun z15 M15 => (inr z15 ∧ ((0 ≤ z15 → 0 ≤ x1 ∧ (x1 < 8 ∧ (wp 0 yX12_twins 50 [some (Rv 88), some (Iv x1), some (Iv x2), some (Iv x3), some (Iv z15), some (Iv (M15 95 x1)), some (Jv 1), none, some (Iv 0), none, none, none] [] M15 Q))) ∧ (z15 < 0 → Q (Iv z15) M15)))))))))))))) : cl 0 yX12_twins [Rv 88, Iv x1, Iv x2, Iv x3] M Q := enterG (by decide +kernel) (by exact Or.inr (Or.inl rfl)) (Nat.le_of_ble_eq_true rfl) rfl (gX12_twins h)
theorem gX12_twins_50 {x1 x2 x3 x4 x5 x6 x8 : Int}  {M : Mem} {Q : Vl → Mem → Prop} (h : inr x8 ∧ (inr x5 ∧ ((x5 ≤ x8 → inL x6 ∧ ((x6 ≤ 10000 → inr (M 88 11) ∧ (cl 0 yX12_powerOf [Jv (M 88 11), Iv x2] M (QJ (fun z7 M7 => (cl 0 yX12_layOther [Rv 88, Iv x1] M7 (QV (fun M8 => (wp 0 yX12_twins 114 [some (Rv 88), some (Iv x1), some (Iv x2), some (Iv x3), some (Iv x4), some (Iv x5), some (Jv x6), none, some (Iv z7), some (Iv 0), none, none] [] M8 Q)))))))) ∧ (10000 < x6 → Q (Iv (-6)) M))) ∧ (x8 < x5 → inL x6 ∧ ((10000 < x6 → ((x6 ≤ 10000 → inr (M 88 11) ∧ (cl 0 yX12_powerOf [Jv (M 88 11), Iv x2] M (QJ (fun z13 M13 => (cl 0 yX12_layOther [Rv 88, Iv x1] M13 (QV (fun M14 => (wp 0 yX12_twins 114 [some (Rv 88), some (Iv x1), some (Iv x2), some (Iv x3), some (Iv x4), some (Iv x5), some (Jv x6), none, some (Iv z13), some (Iv 0), none, none] [] M14 Q)))))))) ∧ (10000 < x6 → Q (Iv (-6)) M))) ∧ (x6 ≤ 10000 → inr (M 88 11) ∧ (wp 0 yX12_twins 50 [some (Rv 88), some (Iv x1), some (Iv x2), some (Iv x3), some (Iv x4), some (Iv x5), some (Jv (x6 * (M 88 11))), none, some (Iv (x8 + 1)), none, none, none] [] M Q))))))) : wp 0 yX12_twins 50 [some (Rv 88), some (Iv x1), some (Iv x2), some (Iv x3), some (Iv x4), some (Iv x5), some (Jv x6), none, some (Iv x8), none, none, none] [] M Q := by
  refine wp_iload dX12_twins_50 rfl ?_
  refine wp_iload dX12_twins_52 rfl ?_
  obtain ⟨o1, h⟩ := h
  obtain ⟨o2, h⟩ := h
  refine wp_icmp_ge (tgt := 82) dX12_twins_54 (by decide) o1 o2 (fun q3 => ?_) (fun q3 => ?_)
  · have h := h.1 q3
    refine wp_lload dX12_twins_82 rfl ?_
    refine wp_ldc2 10000 dX12_twins_84 (kc_X12_296 rfl) ?_
    obtain ⟨o4, h⟩ := h
    refine wp_lcmp dX12_twins_87 (Or.inr ⟨o4, (by decide)⟩) ?_
    refine wp_if_le (tgt := 94) dX12_twins_88 (by decide) lc_inr (fun q5 => ?_) (fun q5 => ?_)
    · have q5 := lc_le.mp q5
      have h := h.1 q5
      refine wp_aload_n dX12_twins_94 rfl (by decide) ?_
      refine wp_getf (t := Iv (M 88 11)) (M 88 11) dX12_twins_95 (fl_X12_110 rfl) kd_88 rfl rfl ?_
      obtain ⟨o6, h⟩ := h
      refine wp_i2l dX12_twins_98 o6 ?_
      refine wp_iload_n dX12_twins_99 rfl ?_
      refine wp_callS (e1 := 0) (as := [Jv (M 88 11), Iv x2]) (S := []) dX12_twins_100 (cs_X12_239 rfl) rfl rfl (Nat.le_of_ble_eq_true rfl) (Nat.le_of_ble_eq_true rfl) h (fun v7 M7 q7 r7 => ?_)
      obtain ⟨z7, rfl⟩ := retV_j r7 rfl
      have h := q7
      refine wp_l2i dX12_twins_103 ?_
      refine wp_istore (L2 := [some (Rv 88), some (Iv x1), some (Iv x2), some (Iv x3), some (Iv x4), some (Iv x5), some (Jv x6), none, some (Iv z7), none, none, none]) dX12_twins_104 (Nat.le_of_ble_eq_true rfl) (Nat.le_of_ble_eq_true rfl) rfl ?_
      refine wp_aload_n dX12_twins_106 rfl (by decide) ?_
      refine wp_iload_n dX12_twins_107 rfl ?_
      refine wp_callV (e1 := 0) (as := [Iv x1]) (S := []) dX12_twins_108 (cs_X12_255 rfl) kd_88 rfl rfl (Nat.le_of_ble_eq_true rfl) (Nat.le_of_ble_eq_true rfl) h (fun v8 M8 q8 r8 => ?_)
      have h := q8
      refine wp_iconst dX12_twins_111 ?_
      refine wp_istore (L2 := [some (Rv 88), some (Iv x1), some (Iv x2), some (Iv x3), some (Iv x4), some (Iv x5), some (Jv x6), none, some (Iv z7), some (Iv 0), none, none]) dX12_twins_112 (Nat.le_of_ble_eq_true rfl) (Nat.le_of_ble_eq_true rfl) rfl ?_
      exact h
    · have q5 := lc_gt.mp q5
      have h := h.2 q5
      refine wp_bipush dX12_twins_91 (by decide) ?_
      exact wp_iret dX12_twins_93 rfl (Or.inr ⟨rfl, rfl, rfl, by decide⟩) rfl h
  · have h := h.2 q3
    refine wp_lload dX12_twins_57 rfl ?_
    refine wp_ldc2 10000 dX12_twins_59 (kc_X12_296 rfl) ?_
    obtain ⟨o9, h⟩ := h
    refine wp_lcmp dX12_twins_62 (Or.inr ⟨o9, (by decide)⟩) ?_
    refine wp_if_gt (tgt := 82) dX12_twins_63 (by decide) lc_inr (fun q10 => ?_) (fun q10 => ?_)
    · have q10 := lc_gt.mp q10
      have h := h.1 q10
      refine wp_lload dX12_twins_82 rfl ?_
      refine wp_ldc2 10000 dX12_twins_84 (kc_X12_296 rfl) ?_
      refine wp_lcmp dX12_twins_87 (Or.inr ⟨o9, (by decide)⟩) ?_
      refine wp_if_le (tgt := 94) dX12_twins_88 (by decide) lc_inr (fun q11 => ?_) (fun q11 => ?_)
      · have q11 := lc_le.mp q11
        have h := h.1 q11
        refine wp_aload_n dX12_twins_94 rfl (by decide) ?_
        refine wp_getf (t := Iv (M 88 11)) (M 88 11) dX12_twins_95 (fl_X12_110 rfl) kd_88 rfl rfl ?_
        obtain ⟨o12, h⟩ := h
        refine wp_i2l dX12_twins_98 o12 ?_
        refine wp_iload_n dX12_twins_99 rfl ?_
        refine wp_callS (e1 := 0) (as := [Jv (M 88 11), Iv x2]) (S := []) dX12_twins_100 (cs_X12_239 rfl) rfl rfl (Nat.le_of_ble_eq_true rfl) (Nat.le_of_ble_eq_true rfl) h (fun v13 M13 q13 r13 => ?_)
        obtain ⟨z13, rfl⟩ := retV_j r13 rfl
        have h := q13
        refine wp_l2i dX12_twins_103 ?_
        refine wp_istore (L2 := [some (Rv 88), some (Iv x1), some (Iv x2), some (Iv x3), some (Iv x4), some (Iv x5), some (Jv x6), none, some (Iv z13), none, none, none]) dX12_twins_104 (Nat.le_of_ble_eq_true rfl) (Nat.le_of_ble_eq_true rfl) rfl ?_
        refine wp_aload_n dX12_twins_106 rfl (by decide) ?_
        refine wp_iload_n dX12_twins_107 rfl ?_
        refine wp_callV (e1 := 0) (as := [Iv x1]) (S := []) dX12_twins_108 (cs_X12_255 rfl) kd_88 rfl rfl (Nat.le_of_ble_eq_true rfl) (Nat.le_of_ble_eq_true rfl) h (fun v14 M14 q14 r14 => ?_)
        have h := q14
        refine wp_iconst dX12_twins_111 ?_
        refine wp_istore (L2 := [some (Rv 88), some (Iv x1), some (Iv x2), some (Iv x3), some (Iv x4), some (Iv x5), some (Jv x6), none, some (Iv z13), some (Iv 0), none, none]) dX12_twins_112 (Nat.le_of_ble_eq_true rfl) (Nat.le_of_ble_eq_true rfl) rfl ?_
        exact h
      · have q11 := lc_gt.mp q11
        have h := h.2 q11
        refine wp_bipush dX12_twins_91 (by decide) ?_
        exact wp_iret dX12_twins_93 rfl (Or.inr ⟨rfl, rfl, rfl, by decide⟩) rfl h
    · have q10 := lc_le.mp q10
      have h := h.2 q10
      refine wp_lload dX12_twins_66 rfl ?_
      refine wp_aload_n dX12_twins_68 rfl (by decide) ?_
      refine wp_getf (t := Iv (M 88 11)) (M 88 11) dX12_twins_69 (fl_X12_110 rfl) kd_88 rfl rfl ?_
      obtain ⟨o15, h⟩ := h
      refine wp_i2l dX12_twins_72 o15 ?_
      refine wp_lmul dX12_twins_73 ?_
      refine wp_lstore (L2 := [some (Rv 88), some (Iv x1), some (Iv x2), some (Iv x3), some (Iv x4), some (Iv x5), some (Jv (x6 * (M 88 11))), none, some (Iv x8), none, none, none]) dX12_twins_74 (Nat.le_of_ble_eq_true rfl) (Nat.le_of_ble_eq_true rfl) rfl ?_
      refine wp_iinc (L2 := [some (Rv 88), some (Iv x1), some (Iv x2), some (Iv x3), some (Iv x4), some (Iv x5), some (Jv (x6 * (M 88 11))), none, some (Iv (x8 + 1)), none, none, none]) dX12_twins_76 rfl (Nat.le_of_ble_eq_true rfl) (Nat.le_of_ble_eq_true rfl) rfl ?_
      refine wp_goto (tgt := 50) dX12_twins_79 (by decide) ?_
      exact h
theorem gX12_twins_114 {x1 x2 x3 x4 x5 x6 x8 x9 : Int}  {M : Mem} {Q : Vl → Mem → Prop} (h : inr x9 ∧ (inr x8 ∧ ((x8 ≤ x9 → wp 0 yX12_twins 149 [some (Rv 88), some (Iv x1), some (Iv x2), some (Iv x3), some (Iv x4), some (Iv x5), some (Jv x6), none, some (Iv x8), some (Iv 0), some (Iv 0), none] [] M Q) ∧ (x9 < x8 → cl 0 yX12_oftenIn [Rv 88, Iv x5, Iv x9, Iv x2] M (QJ (fun z4 M4 => (0 ≤ x9 ∧ (x9 < 216 ∧ (wp 0 yX12_twins 114 [some (Rv 88), some (Iv x1), some (Iv x2), some (Iv x3), some (Iv x4), some (Iv x5), some (Jv x6), none, some (Iv x8), some (Iv (x9 + 1)), none, none] [] (up M4 117 x9 z4) Q))))))))) : wp 0 yX12_twins 114 [some (Rv 88), some (Iv x1), some (Iv x2), some (Iv x3), some (Iv x4), some (Iv x5), some (Jv x6), none, some (Iv x8), some (Iv x9), none, none] [] M Q := by
  refine wp_iload dX12_twins_114 rfl ?_
  refine wp_iload dX12_twins_116 rfl ?_
  obtain ⟨o1, h⟩ := h
  obtain ⟨o2, h⟩ := h
  refine wp_icmp_ge (tgt := 143) dX12_twins_118 (by decide) o1 o2 (fun q3 => ?_) (fun q3 => ?_)
  · have h := h.1 q3
    refine wp_iconst dX12_twins_143 ?_
    refine wp_istore (L2 := [some (Rv 88), some (Iv x1), some (Iv x2), some (Iv x3), some (Iv x4), some (Iv x5), some (Jv x6), none, some (Iv x8), some (Iv 0), none, none]) dX12_twins_144 (Nat.le_of_ble_eq_true rfl) (Nat.le_of_ble_eq_true rfl) rfl ?_
    refine wp_iconst dX12_twins_146 ?_
    refine wp_istore (L2 := [some (Rv 88), some (Iv x1), some (Iv x2), some (Iv x3), some (Iv x4), some (Iv x5), some (Jv x6), none, some (Iv x8), some (Iv 0), some (Iv 0), none]) dX12_twins_147 (Nat.le_of_ble_eq_true rfl) (Nat.le_of_ble_eq_true rfl) rfl ?_
    exact h
  · have h := h.2 q3
    refine wp_aload_n dX12_twins_121 rfl (by decide) ?_
    refine wp_getf (t := Rv 117) 117 dX12_twins_122 (fl_X12_97 rfl) kd_88 rfl rfl ?_
    refine wp_iload dX12_twins_125 rfl ?_
    refine wp_aload_n dX12_twins_127 rfl (by decide) ?_
    refine wp_iload dX12_twins_128 rfl ?_
    refine wp_iload dX12_twins_130 rfl ?_
    refine wp_iload_n dX12_twins_132 rfl ?_
    refine wp_callV (e1 := 0) (as := [Iv x5, Iv x9, Iv x2]) (S := [Iv x9, Rv 117]) dX12_twins_133 (cs_X12_292 rfl) kd_88 rfl rfl (Nat.le_of_ble_eq_true rfl) (Nat.le_of_ble_eq_true rfl) h (fun v4 M4 q4 r4 => ?_)
    obtain ⟨z4, rfl⟩ := retV_j r4 rfl
    have h := q4
    obtain ⟨o5, h⟩ := h
    obtain ⟨o6, h⟩ := h
    refine wp_last dX12_twins_136 kd_117 sz_117 o5 o6 (⟨by omega, by omega⟩) ?_
    refine wp_iinc (L2 := [some (Rv 88), some (Iv x1), some (Iv x2), some (Iv x3), some (Iv x4), some (Iv x5), some (Jv x6), none, some (Iv x8), some (Iv (x9 + 1)), none, none]) dX12_twins_137 rfl (Nat.le_of_ble_eq_true rfl) (Nat.le_of_ble_eq_true rfl) rfl ?_
    refine wp_goto (tgt := 114) dX12_twins_140 (by decide) ?_
    exact h
theorem gX12_twins_149 {x1 x2 x3 x4 x5 x6 x8 x9 x10 : Int}  {M : Mem} {Q : Vl → Mem → Prop} (h : inr x10 ∧ (inL x10 ∧ (inL x6 ∧ ((x6 ≤ x10 → cl 0 yX12_comesToRow [Rv 88, Iv x3] (up M 88 17 x5) (QV (fun M5 => (Q (Iv x9) M5)))) ∧ (x10 < x6 → cl 0 yX12_layOtherBy [Rv 88, Iv x10, Iv x5] M (QV (fun M6 => (cl 0 yX12_isTwin [Rv 88, Iv x5, Iv x2, Iv x8] M6 (QI (fun z7 M7 => ((z7 = 0 → wp 0 yX12_twins 149 [some (Rv 88), some (Iv x1), some (Iv x2), some (Iv x3), some (Iv x4), some (Iv x5), some (Jv x6), none, some (Iv x8), some (Iv x9), some (Iv (x10 + 1)), none] [] M7 Q) ∧ (z7 ≠ 0 → wp 0 yX12_twins 187 [some (Rv 88), some (Iv x1), some (Iv x2), some (Iv x3), some (Iv x4), some (Iv x5), some (Jv x6), none, some (Iv x8), some (Iv x9), some (Iv x10), some (Iv 0)] [] (up M7 88 17 x5) Q)))))))))))) : wp 0 yX12_twins 149 [some (Rv 88), some (Iv x1), some (Iv x2), some (Iv x3), some (Iv x4), some (Iv x5), some (Jv x6), none, some (Iv x8), some (Iv x9), some (Iv x10), none] [] M Q := by
  refine wp_iload dX12_twins_149 rfl ?_
  obtain ⟨o1, h⟩ := h
  refine wp_i2l dX12_twins_151 o1 ?_
  refine wp_lload dX12_twins_152 rfl ?_
  obtain ⟨o2, h⟩ := h
  obtain ⟨o3, h⟩ := h
  refine wp_lcmp dX12_twins_154 (Or.inr ⟨o2, o3⟩) ?_
  refine wp_if_ge (tgt := 228) dX12_twins_155 (by decide) lc_inr (fun q4 => ?_) (fun q4 => ?_)
  · have q4 := lc_ge.mp q4
    have h := h.1 q4
    refine wp_aload_n dX12_twins_228 rfl (by decide) ?_
    refine wp_iload dX12_twins_229 rfl ?_
    refine wp_putf (x := x5) dX12_twins_231 (fl_X12_151 rfl) kd_88 (fun _ => rfl) rfl rfl trivial ?_
    refine wp_aload_n dX12_twins_234 rfl (by decide) ?_
    refine wp_iload_n dX12_twins_235 rfl ?_
    refine wp_callV (e1 := 0) (as := [Iv x3]) (S := []) dX12_twins_236 (cs_X12_214 rfl) kd_88 rfl rfl (Nat.le_of_ble_eq_true rfl) (Nat.le_of_ble_eq_true rfl) h (fun v5 M5 q5 r5 => ?_)
    have h := q5
    refine wp_iload dX12_twins_239 rfl ?_
    exact wp_iret dX12_twins_241 rfl (Or.inr ⟨rfl, rfl, rfl, by decide⟩) rfl h
  · have q4 := lc_lt.mp q4
    have h := h.2 q4
    refine wp_aload_n dX12_twins_158 rfl (by decide) ?_
    refine wp_iload dX12_twins_159 rfl ?_
    refine wp_iload dX12_twins_161 rfl ?_
    refine wp_callV (e1 := 0) (as := [Iv x10, Iv x5]) (S := []) dX12_twins_163 (cs_X12_298 rfl) kd_88 rfl rfl (Nat.le_of_ble_eq_true rfl) (Nat.le_of_ble_eq_true rfl) h (fun v6 M6 q6 r6 => ?_)
    have h := q6
    refine wp_aload_n dX12_twins_166 rfl (by decide) ?_
    refine wp_iload dX12_twins_167 rfl ?_
    refine wp_iload_n dX12_twins_169 rfl ?_
    refine wp_iload dX12_twins_170 rfl ?_
    refine wp_callV (e1 := 0) (as := [Iv x5, Iv x2, Iv x8]) (S := []) dX12_twins_172 (cs_X12_301 rfl) kd_88 rfl rfl (Nat.le_of_ble_eq_true rfl) (Nat.le_of_ble_eq_true rfl) h (fun v7 M7 q7 r7 => ?_)
    obtain ⟨z7, rfl, hz7⟩ := retV_z r7 rfl
    have h := q7
    refine wp_if_eq (tgt := 222) dX12_twins_175 (by decide) (by have := hz7; omega) (fun q8 => ?_) (fun q8 => ?_)
    · have h := h.1 q8
      refine wp_iinc (L2 := [some (Rv 88), some (Iv x1), some (Iv x2), some (Iv x3), some (Iv x4), some (Iv x5), some (Jv x6), none, some (Iv x8), some (Iv x9), some (Iv (x10 + 1)), none]) dX12_twins_222 rfl (Nat.le_of_ble_eq_true rfl) (Nat.le_of_ble_eq_true rfl) rfl ?_
      refine wp_goto (tgt := 149) dX12_twins_225 (by decide) ?_
      exact h
    · have h := h.2 q8
      refine wp_aload_n dX12_twins_178 rfl (by decide) ?_
      refine wp_iload dX12_twins_179 rfl ?_
      refine wp_putf (x := x5) dX12_twins_181 (fl_X12_151 rfl) kd_88 (fun _ => rfl) rfl rfl trivial ?_
      refine wp_iconst dX12_twins_184 ?_
      refine wp_istore (L2 := [some (Rv 88), some (Iv x1), some (Iv x2), some (Iv x3), some (Iv x4), some (Iv x5), some (Jv x6), none, some (Iv x8), some (Iv x9), some (Iv x10), some (Iv 0)]) dX12_twins_185 (Nat.le_of_ble_eq_true rfl) (Nat.le_of_ble_eq_true rfl) rfl ?_
      exact h
theorem gX12_twins_187 {x1 x2 x3 x4 x5 x6 x8 x9 x10 x11 : Int}  {M : Mem} {Q : Vl → Mem → Prop} (h : inr x11 ∧ (inr x5 ∧ ((x5 ≤ x11 → wp 0 yX12_twins 149 [some (Rv 88), some (Iv x1), some (Iv x2), some (Iv x3), some (Iv x4), some (Iv x5), some (Jv x6), none, some (Iv x8), some (Iv (x9 + 1)), some (Iv (x10 + 1)), none] [] M Q) ∧ (x11 < x5 → inr x9 ∧ ((x9 ≠ 0 → wp 0 yX12_twins 149 [some (Rv 88), some (Iv x1), some (Iv x2), some (Iv x3), some (Iv x4), some (Iv x5), some (Jv x6), none, some (Iv x8), some (Iv (x9 + 1)), some (Iv (x10 + 1)), none] [] M Q) ∧ (x9 = 0 → 0 ≤ x11 ∧ (x11 < 40 ∧ (wp 0 yX12_twins 187 [some (Rv 88), some (Iv x1), some (Iv x2), some (Iv x3), some (Iv x4), some (Iv x5), some (Jv x6), none, some (Iv x8), some (Iv x9), some (Iv x10), some (Iv (x11 + 1))] [] (up M 100 x11 (M 112 x11)) Q)))))))) : wp 0 yX12_twins 187 [some (Rv 88), some (Iv x1), some (Iv x2), some (Iv x3), some (Iv x4), some (Iv x5), some (Jv x6), none, some (Iv x8), some (Iv x9), some (Iv x10), some (Iv x11)] [] M Q := by
  refine wp_iload dX12_twins_187 rfl ?_
  refine wp_iload dX12_twins_189 rfl ?_
  obtain ⟨o1, h⟩ := h
  obtain ⟨o2, h⟩ := h
  refine wp_icmp_ge (tgt := 219) dX12_twins_191 (by decide) o1 o2 (fun q3 => ?_) (fun q3 => ?_)
  · have h := h.1 q3
    refine wp_iinc (L2 := [some (Rv 88), some (Iv x1), some (Iv x2), some (Iv x3), some (Iv x4), some (Iv x5), some (Jv x6), none, some (Iv x8), some (Iv (x9 + 1)), some (Iv x10), some (Iv x11)]) dX12_twins_219 rfl (Nat.le_of_ble_eq_true rfl) (Nat.le_of_ble_eq_true rfl) rfl ?_
    refine wp_iinc (L2 := [some (Rv 88), some (Iv x1), some (Iv x2), some (Iv x3), some (Iv x4), some (Iv x5), some (Jv x6), none, some (Iv x8), some (Iv (x9 + 1)), some (Iv (x10 + 1)), some (Iv x11)]) dX12_twins_222 rfl (Nat.le_of_ble_eq_true rfl) (Nat.le_of_ble_eq_true rfl) rfl ?_
    refine wp_goto (tgt := 149) dX12_twins_225 (by decide) ?_
    exact wp_weak [true, true, true, true, true, true, true, true, true, true, true, false] rfl h
  · have h := h.2 q3
    refine wp_iload dX12_twins_194 rfl ?_
    obtain ⟨o4, h⟩ := h
    refine wp_if_ne (tgt := 219) dX12_twins_196 (by decide) o4 (fun q5 => ?_) (fun q5 => ?_)
    · have h := h.1 q5
      refine wp_iinc (L2 := [some (Rv 88), some (Iv x1), some (Iv x2), some (Iv x3), some (Iv x4), some (Iv x5), some (Jv x6), none, some (Iv x8), some (Iv (x9 + 1)), some (Iv x10), some (Iv x11)]) dX12_twins_219 rfl (Nat.le_of_ble_eq_true rfl) (Nat.le_of_ble_eq_true rfl) rfl ?_
      refine wp_iinc (L2 := [some (Rv 88), some (Iv x1), some (Iv x2), some (Iv x3), some (Iv x4), some (Iv x5), some (Jv x6), none, some (Iv x8), some (Iv (x9 + 1)), some (Iv (x10 + 1)), some (Iv x11)]) dX12_twins_222 rfl (Nat.le_of_ble_eq_true rfl) (Nat.le_of_ble_eq_true rfl) rfl ?_
      refine wp_goto (tgt := 149) dX12_twins_225 (by decide) ?_
      exact wp_weak [true, true, true, true, true, true, true, true, true, true, true, false] rfl h
    · have h := h.2 q5
      refine wp_aload_n dX12_twins_199 rfl (by decide) ?_
      refine wp_getf (t := Rv 100) 100 dX12_twins_200 (fl_X12_44 rfl) kd_88 rfl rfl ?_
      refine wp_iload dX12_twins_203 rfl ?_
      refine wp_aload_n dX12_twins_205 rfl (by decide) ?_
      refine wp_getf (t := Rv 112) 112 dX12_twins_206 (fl_X12_82 rfl) kd_88 rfl rfl ?_
      refine wp_iload dX12_twins_209 rfl ?_
      obtain ⟨o6, h⟩ := h
      obtain ⟨o7, h⟩ := h
      refine wp_iald (M 112 x11) dX12_twins_211 kd_112 sz_112 o6 o7 (⟨by omega, by omega⟩) rfl ?_
      refine wp_iast dX12_twins_212 kd_100 sz_100 o6 o7 (⟨by omega, by omega⟩) ?_
      refine wp_iinc (L2 := [some (Rv 88), some (Iv x1), some (Iv x2), some (Iv x3), some (Iv x4), some (Iv x5), some (Jv x6), none, some (Iv x8), some (Iv x9), some (Iv x10), some (Iv (x11 + 1))]) dX12_twins_213 rfl (Nat.le_of_ble_eq_true rfl) (Nat.le_of_ble_eq_true rfl) rfl ?_
      refine wp_goto (tgt := 187) dX12_twins_216 (by decide) ?_
      exact h
theorem gX12_chosen {x0 x1 : Int}  {M : Mem} {Q : Vl → Mem → Prop} (h : wp 0 yX12_chosen 5 [some (Iv x0), some (Iv x1), some (Jv 1), none, some (Iv 1)] [] M Q) : wp 0 yX12_chosen 0 [some (Iv x0), some (Iv x1), none, none, none] [] M Q := by
  refine wp_lconst1 dX12_chosen_0 ?_
  refine wp_lstore_n (L2 := [some (Iv x0), some (Iv x1), some (Jv 1), none, none]) dX12_chosen_1 (Nat.le_of_ble_eq_true rfl) (Nat.le_of_ble_eq_true rfl) rfl ?_
  refine wp_iconst dX12_chosen_2 ?_
  refine wp_istore (L2 := [some (Iv x0), some (Iv x1), some (Jv 1), none, some (Iv 1)]) dX12_chosen_3 (Nat.le_of_ble_eq_true rfl) (Nat.le_of_ble_eq_true rfl) rfl ?_
  exact h
theorem eX12_chosen {x0 x1 : Int}  {M : Mem} {Q : Vl → Mem → Prop} (h : wp 0 yX12_chosen 5 [some (Iv x0), some (Iv x1), some (Jv 1), none, some (Iv 1)] [] M Q) : cl 0 yX12_chosen [Iv x0, Iv x1] M Q := enterG (by decide +kernel) (by exact Or.inr (Or.inr (Or.inr (Or.inl rfl)))) (Nat.le_of_ble_eq_true rfl) rfl (gX12_chosen h)
theorem gX12_chosen_5 {x0 x1 x2 x4 : Int}  {M : Mem} {Q : Vl → Mem → Prop} (h : inr x4 ∧ (inr x1 ∧ ((x1 < x4 → Q (Jv x2) M) ∧ (x4 ≤ x1 → inr ((x0 - x4) + 1) ∧ (inL (x2 * ((x0 - x4) + 1)) ∧ (inL x4 ∧ (x4 ≠ 0 ∧ (wp 0 yX12_chosen 5 [some (Iv x0), some (Iv x1), some (Jv (Int.tdiv (x2 * ((x0 - x4) + 1)) x4)), none, some (Iv (x4 + 1))] [] M Q)))))))) : wp 0 yX12_chosen 5 [some (Iv x0), some (Iv x1), some (Jv x2), none, some (Iv x4)] [] M Q := by
  refine wp_iload dX12_chosen_5 rfl ?_
  refine wp_iload_n dX12_chosen_7 rfl ?_
  obtain ⟨o1, h⟩ := h
  obtain ⟨o2, h⟩ := h
  refine wp_icmp_gt (tgt := 31) dX12_chosen_8 (by decide) o1 o2 (fun q3 => ?_) (fun q3 => ?_)
  · have h := h.1 q3
    refine wp_lload_n dX12_chosen_31 rfl ?_
    exact wp_lret dX12_chosen_32 rfl (Or.inr ⟨rfl, rfl, rfl, by decide⟩) rfl h
  · have h := h.2 q3
    refine wp_lload_n dX12_chosen_11 rfl ?_
    refine wp_iload_n dX12_chosen_12 rfl ?_
    refine wp_iload dX12_chosen_13 rfl ?_
    refine wp_isub dX12_chosen_15 ?_
    refine wp_iconst dX12_chosen_16 ?_
    refine wp_iadd dX12_chosen_17 ?_
    obtain ⟨o4, h⟩ := h
    refine wp_i2l dX12_chosen_18 o4 ?_
    refine wp_lmul dX12_chosen_19 ?_
    refine wp_iload dX12_chosen_20 rfl ?_
    refine wp_i2l dX12_chosen_22 o1 ?_
    obtain ⟨o5, h⟩ := h
    obtain ⟨o6, h⟩ := h
    obtain ⟨o7, h⟩ := h
    refine wp_ldiv dX12_chosen_23 o5 o6 o7 ?_
    refine wp_lstore_n (L2 := [some (Iv x0), some (Iv x1), some (Jv (Int.tdiv (x2 * ((x0 - x4) + 1)) x4)), none, some (Iv x4)]) dX12_chosen_24 (Nat.le_of_ble_eq_true rfl) (Nat.le_of_ble_eq_true rfl) rfl ?_
    refine wp_iinc (L2 := [some (Iv x0), some (Iv x1), some (Jv (Int.tdiv (x2 * ((x0 - x4) + 1)) x4)), none, some (Iv (x4 + 1))]) dX12_chosen_25 rfl (Nat.le_of_ble_eq_true rfl) (Nat.le_of_ble_eq_true rfl) rfl ?_
    refine wp_goto (tgt := 5) dX12_chosen_28 (by decide) ?_
    exact h
theorem gX12_odds {x1 x2 : Int}  {M : Mem} {Q : Vl → Mem → Prop} (h : cl 0 yX12_needTwo [Rv 88, Iv 1, Iv x1, Iv x2] M (QI (fun z1 M1 => (inr z1 ∧ ((0 ≤ z1 → 0 ≤ x1 ∧ (x1 < 8 ∧ (0 ≤ x2 ∧ (x2 < 8 ∧ (inr (M1 95 x2) ∧ (inr (M1 95 x1) ∧ (((M1 95 x2) ≤ (M1 95 x1) → cl 0 yX12_layWays [Rv 88, Iv x1, Iv x2] M1 (QV (fun M11 => (0 ≤ M1 95 x2 ∧ (M1 95 x2 < 41 ∧ (cl 0 yX12_chosen [Iv (M1 95 x1), Iv (M1 95 x2)] M11 (QJ (fun z14 M14 => (cl 0 yX12_fraction [Rv 88, Jv (M11 103 (M1 95 x2)), Jv z14, Iv 1] M14 (QI (fun z15 M15 => (Q (Iv z15) M15)))))))))))) ∧ ((M1 95 x1) < (M1 95 x2) → cl 0 yX12_meets [Rv 88, Iv 4] M1 (QI (fun z16 M16 => (Q (Iv z16) M16))))))))))) ∧ (z1 < 0 → Q (Iv z1) M1)))))) : wp 0 yX12_odds 0 [some (Rv 88), some (Iv x1), some (Iv x2), none, none, none] [] M Q := by
  refine wp_aload_n dX12_odds_0 rfl (by decide) ?_
  refine wp_iconst dX12_odds_1 ?_
  refine wp_iload_n dX12_odds_2 rfl ?_
  refine wp_iload_n dX12_odds_3 rfl ?_
  refine wp_callV (e1 := 0) (as := [Iv 1, Iv x1, Iv x2]) (S := []) dX12_odds_4 (cs_X12_188 rfl) kd_88 rfl rfl (Nat.le_of_ble_eq_true rfl) (Nat.le_of_ble_eq_true rfl) h (fun v1 M1 q1 r1 => ?_)
  obtain ⟨z1, rfl⟩ := retV_i r1 rfl
  have h := q1
  refine wp_istore_n (L2 := [some (Rv 88), some (Iv x1), some (Iv x2), some (Iv z1), none, none]) dX12_odds_7 (Nat.le_of_ble_eq_true rfl) (Nat.le_of_ble_eq_true rfl) rfl ?_
  refine wp_iload_n dX12_odds_8 rfl ?_
  obtain ⟨o2, h⟩ := h
  refine wp_if_ge (tgt := 14) dX12_odds_9 (by decide) o2 (fun q3 => ?_) (fun q3 => ?_)
  · have h := h.1 q3
    refine wp_aload_n dX12_odds_14 rfl (by decide) ?_
    refine wp_getf (t := Rv 95) 95 dX12_odds_15 (fl_X12_29 rfl) kd_88 rfl rfl ?_
    refine wp_iload_n dX12_odds_18 rfl ?_
    obtain ⟨o4, h⟩ := h
    obtain ⟨o5, h⟩ := h
    refine wp_iald (M1 95 x1) dX12_odds_19 kd_95 sz_95 o4 o5 (⟨by omega, by omega⟩) rfl ?_
    refine wp_istore (L2 := [some (Rv 88), some (Iv x1), some (Iv x2), some (Iv z1), some (Iv (M1 95 x1)), none]) dX12_odds_20 (Nat.le_of_ble_eq_true rfl) (Nat.le_of_ble_eq_true rfl) rfl ?_
    refine wp_aload_n dX12_odds_22 rfl (by decide) ?_
    refine wp_getf (t := Rv 95) 95 dX12_odds_23 (fl_X12_29 rfl) kd_88 rfl rfl ?_
    refine wp_iload_n dX12_odds_26 rfl ?_
    obtain ⟨o6, h⟩ := h
    obtain ⟨o7, h⟩ := h
    refine wp_iald (M1 95 x2) dX12_odds_27 kd_95 sz_95 o6 o7 (⟨by omega, by omega⟩) rfl ?_
    refine wp_istore (L2 := [some (Rv 88), some (Iv x1), some (Iv x2), some (Iv z1), some (Iv (M1 95 x1)), some (Iv (M1 95 x2))]) dX12_odds_28 (Nat.le_of_ble_eq_true rfl) (Nat.le_of_ble_eq_true rfl) rfl ?_
    refine wp_iload dX12_odds_30 rfl ?_
    refine wp_iload dX12_odds_32 rfl ?_
    obtain ⟨o8, h⟩ := h
    obtain ⟨o9, h⟩ := h
    refine wp_icmp_le (tgt := 43) dX12_odds_34 (by decide) o8 o9 (fun q10 => ?_) (fun q10 => ?_)
    · have h := h.1 q10
      refine wp_aload_n dX12_odds_43 rfl (by decide) ?_
      refine wp_iload_n dX12_odds_44 rfl ?_
      refine wp_iload_n dX12_odds_45 rfl ?_
      refine wp_callV (e1 := 0) (as := [Iv x1, Iv x2]) (S := []) dX12_odds_46 (cs_X12_199 rfl) kd_88 rfl rfl (Nat.le_of_ble_eq_true rfl) (Nat.le_of_ble_eq_true rfl) h (fun v11 M11 q11 r11 => ?_)
      have h := q11
      refine wp_aload_n dX12_odds_49 rfl (by decide) ?_
      refine wp_aload_n dX12_odds_50 rfl (by decide) ?_
      refine wp_getf (t := Rv 103) 103 dX12_odds_51 (fl_X12_53 rfl) kd_88 rfl rfl ?_
      refine wp_iload dX12_odds_54 rfl ?_
      obtain ⟨o12, h⟩ := h
      obtain ⟨o13, h⟩ := h
      refine wp_lald (M11 103 (M1 95 x2)) dX12_odds_56 kd_103 sz_103 o12 o13 (⟨by omega, by omega⟩) rfl ?_
      refine wp_iload dX12_odds_57 rfl ?_
      refine wp_iload dX12_odds_59 rfl ?_
      refine wp_callS (e1 := 0) (as := [Iv (M1 95 x1), Iv (M1 95 x2)]) (S := [Jv (M11 103 (M1 95 x2)), Rv 88]) dX12_odds_61 (cs_X12_304 rfl) rfl rfl (Nat.le_of_ble_eq_true rfl) (Nat.le_of_ble_eq_true rfl) h (fun v14 M14 q14 r14 => ?_)
      obtain ⟨z14, rfl⟩ := retV_j r14 rfl
      have h := q14
      refine wp_iconst dX12_odds_64 ?_
      refine wp_callV (e1 := 0) (as := [Jv (M11 103 (M1 95 x2)), Jv z14, Iv 1]) (S := []) dX12_odds_65 (cs_X12_308 rfl) kd_88 rfl rfl (Nat.le_of_ble_eq_true rfl) (Nat.le_of_ble_eq_true rfl) h (fun v15 M15 q15 r15 => ?_)
      obtain ⟨z15, rfl⟩ := retV_i r15 rfl
      have h := q15
      exact wp_iret dX12_odds_68 rfl (Or.inr ⟨rfl, rfl, rfl, by decide⟩) rfl h
    · have h := h.2 q10
      refine wp_aload_n dX12_odds_37 rfl (by decide) ?_
      refine wp_iconst dX12_odds_38 ?_
      refine wp_callV (e1 := 0) (as := [Iv 4]) (S := []) dX12_odds_39 (cs_X12_134 rfl) kd_88 rfl rfl (Nat.le_of_ble_eq_true rfl) (Nat.le_of_ble_eq_true rfl) h (fun v16 M16 q16 r16 => ?_)
      obtain ⟨z16, rfl⟩ := retV_i r16 rfl
      have h := q16
      exact wp_iret dX12_odds_42 rfl (Or.inr ⟨rfl, rfl, rfl, by decide⟩) rfl h
  · have h := h.2 q3
    refine wp_iload_n dX12_odds_12 rfl ?_
    exact wp_iret dX12_odds_13 rfl (Or.inr ⟨rfl, rfl, rfl, by decide⟩) rfl h
theorem eX12_odds {x1 x2 : Int}  {M : Mem} {Q : Vl → Mem → Prop} (h : cl 0 yX12_needTwo [Rv 88, Iv 1, Iv x1, Iv x2] M (QI (fun z1 M1 => (inr z1 ∧ ((0 ≤ z1 → 0 ≤ x1 ∧ (x1 < 8 ∧ (0 ≤ x2 ∧ (x2 < 8 ∧ (inr (M1 95 x2) ∧ (inr (M1 95 x1) ∧ (((M1 95 x2) ≤ (M1 95 x1) → cl 0 yX12_layWays [Rv 88, Iv x1, Iv x2] M1 (QV (fun M11 => (0 ≤ M1 95 x2 ∧ (M1 95 x2 < 41 ∧ (cl 0 yX12_chosen [Iv (M1 95 x1), Iv (M1 95 x2)] M11 (QJ (fun z14 M14 => (cl 0 yX12_fraction [Rv 88, Jv (M11 103 (M1 95 x2)), Jv z14, Iv 1] M14 (QI (fun z15 M15 => (Q (Iv z15) M15)))))))))))) ∧ ((M1 95 x1) < (M1 95 x2) → cl 0 yX12_meets [Rv 88, Iv 4] M1 (QI (fun z16 M16 => (Q (Iv z16) M16))))))))))) ∧ (z1 < 0 → Q (Iv z1) M1)))))) : cl 0 yX12_odds [Rv 88, Iv x1, Iv x2] M Q := enterG (by decide +kernel) (by exact Or.inr (Or.inl rfl)) (Nat.le_of_ble_eq_true rfl) rfl (gX12_odds h)
theorem gX12_byChance {x1 x2 : Int}  {M : Mem} {Q : Vl → Mem → Prop} (h : cl 0 yX12_in [Iv x2, Iv 0, Iv 20] M (QI (fun z1 M1 => (cl 0 yX12_needWord [Rv 88, Iv z1, Iv x1] M1 (QI (fun z2 M2 => (inr z2 ∧ ((0 ≤ z2 → 0 ≤ x1 ∧ (x1 < 8 ∧ (wp 0 yX12_byChance 30 [some (Rv 88), some (Iv x1), some (Iv x2), some (Iv z2), some (Jv 0), none, some (Iv (M2 95 x1))] [] M2 Q))) ∧ (z2 < 0 → Q (Iv z2) M2))))))))) : wp 0 yX12_byChance 0 [some (Rv 88), some (Iv x1), some (Iv x2), none, none, none, none] [] M Q := by
  refine wp_aload_n dX12_byChance_0 rfl (by decide) ?_
  refine wp_iload_n dX12_byChance_1 rfl ?_
  refine wp_iconst dX12_byChance_2 ?_
  refine wp_bipush dX12_byChance_3 (by decide) ?_
  refine wp_callS (e1 := 0) (as := [Iv x2, Iv 0, Iv 20]) (S := [Rv 88]) dX12_byChance_5 (cs_X12_117 rfl) rfl rfl (Nat.le_of_ble_eq_true rfl) (Nat.le_of_ble_eq_true rfl) h (fun v1 M1 q1 r1 => ?_)
  obtain ⟨z1, rfl, hz1⟩ := retV_z r1 rfl
  have h := q1
  refine wp_iload_n dX12_byChance_8 rfl ?_
  refine wp_callV (e1 := 0) (as := [Iv z1, Iv x1]) (S := []) dX12_byChance_9 (cs_X12_192 rfl) kd_88 rfl rfl (Nat.le_of_ble_eq_true rfl) (Nat.le_of_ble_eq_true rfl) h (fun v2 M2 q2 r2 => ?_)
  obtain ⟨z2, rfl⟩ := retV_i r2 rfl
  have h := q2
  refine wp_istore_n (L2 := [some (Rv 88), some (Iv x1), some (Iv x2), some (Iv z2), none, none, none]) dX12_byChance_12 (Nat.le_of_ble_eq_true rfl) (Nat.le_of_ble_eq_true rfl) rfl ?_
  refine wp_iload_n dX12_byChance_13 rfl ?_
  obtain ⟨o3, h⟩ := h
  refine wp_if_ge (tgt := 19) dX12_byChance_14 (by decide) o3 (fun q4 => ?_) (fun q4 => ?_)
  · have h := h.1 q4
    refine wp_lconst0 dX12_byChance_19 ?_
    refine wp_lstore (L2 := [some (Rv 88), some (Iv x1), some (Iv x2), some (Iv z2), some (Jv 0), none, none]) dX12_byChance_20 (Nat.le_of_ble_eq_true rfl) (Nat.le_of_ble_eq_true rfl) rfl ?_
    refine wp_aload_n dX12_byChance_22 rfl (by decide) ?_
    refine wp_getf (t := Rv 95) 95 dX12_byChance_23 (fl_X12_29 rfl) kd_88 rfl rfl ?_
    refine wp_iload_n dX12_byChance_26 rfl ?_
    obtain ⟨o5, h⟩ := h
    obtain ⟨o6, h⟩ := h
    refine wp_iald (M2 95 x1) dX12_byChance_27 kd_95 sz_95 o5 o6 (⟨by omega, by omega⟩) rfl ?_
    refine wp_istore (L2 := [some (Rv 88), some (Iv x1), some (Iv x2), some (Iv z2), some (Jv 0), none, some (Iv (M2 95 x1))]) dX12_byChance_28 (Nat.le_of_ble_eq_true rfl) (Nat.le_of_ble_eq_true rfl) rfl ?_
    exact h
  · have h := h.2 q4
    refine wp_iload_n dX12_byChance_17 rfl ?_
    exact wp_iret dX12_byChance_18 rfl (Or.inr ⟨rfl, rfl, rfl, by decide⟩) rfl h
theorem eX12_byChance {x1 x2 : Int}  {M : Mem} {Q : Vl → Mem → Prop} (h : cl 0 yX12_in [Iv x2, Iv 0, Iv 20] M (QI (fun z1 M1 => (cl 0 yX12_needWord [Rv 88, Iv z1, Iv x1] M1 (QI (fun z2 M2 => (inr z2 ∧ ((0 ≤ z2 → 0 ≤ x1 ∧ (x1 < 8 ∧ (wp 0 yX12_byChance 30 [some (Rv 88), some (Iv x1), some (Iv x2), some (Iv z2), some (Jv 0), none, some (Iv (M2 95 x1))] [] M2 Q))) ∧ (z2 < 0 → Q (Iv z2) M2))))))))) : cl 0 yX12_byChance [Rv 88, Iv x1, Iv x2] M Q := enterG (by decide +kernel) (by exact Or.inr (Or.inl rfl)) (Nat.le_of_ble_eq_true rfl) rfl (gX12_byChance h)
theorem gX12_byChance_30 {x1 x2 x3 x4 x6 : Int}  {M : Mem} {Q : Vl → Mem → Prop} (h : inr x6 ∧ (inr x2 ∧ ((x2 < x6 → inr (M 88 11) ∧ (cl 0 yX12_powerOf [Jv (M 88 11), Iv x2] M (QJ (fun z5 M5 => (cl 0 yX12_fraction [Rv 88, Jv x4, Jv z5, Iv 1] M5 (QI (fun z6 M6 => (Q (Iv z6) M6)))))))) ∧ (x6 ≤ x2 → cl 0 yX12_chosen [Iv x2, Iv x6] M (QJ (fun z7 M7 => (inr ((M7 88 11) - 1) ∧ (cl 0 yX12_powerOf [Jv ((M7 88 11) - 1), Iv (x2 - x6)] M7 (QJ (fun z9 M9 => (wp 0 yX12_byChance 30 [some (Rv 88), some (Iv x1), some (Iv x2), some (Iv x3), some (Jv (x4 + (z7 * z9))), none, some (Iv (x6 + 1))] [] M9 Q))))))))))) : wp 0 yX12_byChance 30 [some (Rv 88), some (Iv x1), some (Iv x2), some (Iv x3), some (Jv x4), none, some (Iv x6)] [] M Q := by
  refine wp_iload dX12_byChance_30 rfl ?_
  refine wp_iload_n dX12_byChance_32 rfl ?_
  obtain ⟨o1, h⟩ := h
  obtain ⟨o2, h⟩ := h
  refine wp_icmp_gt (tgt := 68) dX12_byChance_33 (by decide) o1 o2 (fun q3 => ?_) (fun q3 => ?_)
  · have h := h.1 q3
    refine wp_aload_n dX12_byChance_68 rfl (by decide) ?_
    refine wp_lload dX12_byChance_69 rfl ?_
    refine wp_aload_n dX12_byChance_71 rfl (by decide) ?_
    refine wp_getf (t := Iv (M 88 11)) (M 88 11) dX12_byChance_72 (fl_X12_110 rfl) kd_88 rfl rfl ?_
    obtain ⟨o4, h⟩ := h
    refine wp_i2l dX12_byChance_75 o4 ?_
    refine wp_iload_n dX12_byChance_76 rfl ?_
    refine wp_callS (e1 := 0) (as := [Jv (M 88 11), Iv x2]) (S := [Jv x4, Rv 88]) dX12_byChance_77 (cs_X12_239 rfl) rfl rfl (Nat.le_of_ble_eq_true rfl) (Nat.le_of_ble_eq_true rfl) h (fun v5 M5 q5 r5 => ?_)
    obtain ⟨z5, rfl⟩ := retV_j r5 rfl
    have h := q5
    refine wp_iconst dX12_byChance_80 ?_
    refine wp_callV (e1 := 0) (as := [Jv x4, Jv z5, Iv 1]) (S := []) dX12_byChance_81 (cs_X12_308 rfl) kd_88 rfl rfl (Nat.le_of_ble_eq_true rfl) (Nat.le_of_ble_eq_true rfl) h (fun v6 M6 q6 r6 => ?_)
    obtain ⟨z6, rfl⟩ := retV_i r6 rfl
    have h := q6
    exact wp_iret dX12_byChance_84 rfl (Or.inr ⟨rfl, rfl, rfl, by decide⟩) rfl h
  · have h := h.2 q3
    refine wp_lload dX12_byChance_36 rfl ?_
    refine wp_iload_n dX12_byChance_38 rfl ?_
    refine wp_iload dX12_byChance_39 rfl ?_
    refine wp_callS (e1 := 0) (as := [Iv x2, Iv x6]) (S := [Jv x4]) dX12_byChance_41 (cs_X12_304 rfl) rfl rfl (Nat.le_of_ble_eq_true rfl) (Nat.le_of_ble_eq_true rfl) h (fun v7 M7 q7 r7 => ?_)
    obtain ⟨z7, rfl⟩ := retV_j r7 rfl
    have h := q7
    refine wp_aload_n dX12_byChance_44 rfl (by decide) ?_
    refine wp_getf (t := Iv (M7 88 11)) (M7 88 11) dX12_byChance_45 (fl_X12_110 rfl) kd_88 rfl rfl ?_
    refine wp_iconst dX12_byChance_48 ?_
    refine wp_isub dX12_byChance_49 ?_
    obtain ⟨o8, h⟩ := h
    refine wp_i2l dX12_byChance_50 o8 ?_
    refine wp_iload_n dX12_byChance_51 rfl ?_
    refine wp_iload dX12_byChance_52 rfl ?_
    refine wp_isub dX12_byChance_54 ?_
    refine wp_callS (e1 := 0) (as := [Jv ((M7 88 11) - 1), Iv (x2 - x6)]) (S := [Jv z7, Jv x4]) dX12_byChance_55 (cs_X12_239 rfl) rfl rfl (Nat.le_of_ble_eq_true rfl) (Nat.le_of_ble_eq_true rfl) h (fun v9 M9 q9 r9 => ?_)
    obtain ⟨z9, rfl⟩ := retV_j r9 rfl
    have h := q9
    refine wp_lmul dX12_byChance_58 ?_
    refine wp_ladd dX12_byChance_59 ?_
    refine wp_lstore (L2 := [some (Rv 88), some (Iv x1), some (Iv x2), some (Iv x3), some (Jv (x4 + (z7 * z9))), none, some (Iv x6)]) dX12_byChance_60 (Nat.le_of_ble_eq_true rfl) (Nat.le_of_ble_eq_true rfl) rfl ?_
    refine wp_iinc (L2 := [some (Rv 88), some (Iv x1), some (Iv x2), some (Iv x3), some (Jv (x4 + (z7 * z9))), none, some (Iv (x6 + 1))]) dX12_byChance_62 rfl (Nat.le_of_ble_eq_true rfl) (Nat.le_of_ble_eq_true rfl) rfl ?_
    refine wp_goto (tgt := 30) dX12_byChance_65 (by decide) ?_
    exact h
theorem gX12_counted {x1 : Int}  {M : Mem} {Q : Vl → Mem → Prop} (h : wp 0 yX12_counted 4 [some (Rv 88), some (Iv x1), some (Iv 0), some (Iv 0), none] [] M Q) : wp 0 yX12_counted 0 [some (Rv 88), some (Iv x1), none, none, none] [] M Q := by
  refine wp_iconst dX12_counted_0 ?_
  refine wp_istore_n (L2 := [some (Rv 88), some (Iv x1), some (Iv 0), none, none]) dX12_counted_1 (Nat.le_of_ble_eq_true rfl) (Nat.le_of_ble_eq_true rfl) rfl ?_
  refine wp_iconst dX12_counted_2 ?_
  refine wp_istore_n (L2 := [some (Rv 88), some (Iv x1), some (Iv 0), some (Iv 0), none]) dX12_counted_3 (Nat.le_of_ble_eq_true rfl) (Nat.le_of_ble_eq_true rfl) rfl ?_
  exact h
theorem eX12_counted {x1 : Int}  {M : Mem} {Q : Vl → Mem → Prop} (h : wp 0 yX12_counted 4 [some (Rv 88), some (Iv x1), some (Iv 0), some (Iv 0), none] [] M Q) : cl 0 yX12_counted [Rv 88, Iv x1] M Q := enterG (by decide +kernel) (by exact Or.inr (Or.inl rfl)) (Nat.le_of_ble_eq_true rfl) rfl (gX12_counted h)
theorem gX12_counted_4 {x1 x2 x3 : Int}  {M : Mem} {Q : Vl → Mem → Prop} (h : inr x3 ∧ ((6 ≤ x3 → wp 0 yX12_counted 40 [some (Rv 88), some (Iv x1), some (Iv x2), some (Iv 0), none] [] M Q) ∧ (x3 < 6 → inr x1 ∧ ((x1 ≠ 1 → wp 0 yX12_counted 4 [some (Rv 88), some (Iv x1), some (Iv (x2 + 0)), some (Iv (x3 + 1)), none] [] M Q) ∧ (x1 = 1 → 0 ≤ x3 ∧ (inr (M 90 x3) ∧ (((M 90 x3) < 0 → wp 0 yX12_counted 4 [some (Rv 88), some (Iv x1), some (Iv (x2 + 0)), some (Iv (x3 + 1)), none] [] M Q) ∧ (0 ≤ (M 90 x3) → wp 0 yX12_counted 4 [some (Rv 88), some (Iv x1), some (Iv (x2 + 1)), some (Iv (x3 + 1)), none] [] M Q)))))))) : wp 0 yX12_counted 4 [some (Rv 88), some (Iv x1), some (Iv x2), some (Iv x3), none] [] M Q := by
  refine wp_iload_n dX12_counted_4 rfl ?_
  refine wp_bipush dX12_counted_5 (by decide) ?_
  obtain ⟨o1, h⟩ := h
  refine wp_icmp_ge (tgt := 38) dX12_counted_7 (by decide) o1 (by decide) (fun q2 => ?_) (fun q2 => ?_)
  · have h := h.1 q2
    refine wp_iconst dX12_counted_38 ?_
    refine wp_istore_n (L2 := [some (Rv 88), some (Iv x1), some (Iv x2), some (Iv 0), none]) dX12_counted_39 (Nat.le_of_ble_eq_true rfl) (Nat.le_of_ble_eq_true rfl) rfl ?_
    exact h
  · have h := h.2 q2
    refine wp_iload_n dX12_counted_10 rfl ?_
    refine wp_iload_n dX12_counted_11 rfl ?_
    refine wp_iconst dX12_counted_12 ?_
    obtain ⟨o3, h⟩ := h
    refine wp_icmp_ne (tgt := 29) dX12_counted_13 (by decide) (Or.inr ⟨o3, (by decide)⟩) (fun q4 => ?_) (fun q4 => ?_)
    · have h := h.1 q4
      refine wp_iconst dX12_counted_29 ?_
      refine wp_iadd dX12_counted_30 ?_
      refine wp_istore_n (L2 := [some (Rv 88), some (Iv x1), some (Iv (x2 + 0)), some (Iv x3), none]) dX12_counted_31 (Nat.le_of_ble_eq_true rfl) (Nat.le_of_ble_eq_true rfl) rfl ?_
      refine wp_iinc (L2 := [some (Rv 88), some (Iv x1), some (Iv (x2 + 0)), some (Iv (x3 + 1)), none]) dX12_counted_32 rfl (Nat.le_of_ble_eq_true rfl) (Nat.le_of_ble_eq_true rfl) rfl ?_
      refine wp_goto (tgt := 4) dX12_counted_35 (by decide) ?_
      exact h
    · have h := h.2 q4
      refine wp_aload_n dX12_counted_16 rfl (by decide) ?_
      refine wp_getf (t := Rv 90) 90 dX12_counted_17 (fl_X12_13 rfl) kd_88 rfl rfl ?_
      refine wp_iload_n dX12_counted_20 rfl ?_
      obtain ⟨o5, h⟩ := h
      refine wp_iald (M 90 x3) dX12_counted_21 kd_90 sz_90 o5 q2 (⟨by omega, by omega⟩) rfl ?_
      obtain ⟨o6, h⟩ := h
      refine wp_if_lt (tgt := 29) dX12_counted_22 (by decide) o6 (fun q7 => ?_) (fun q7 => ?_)
      · have h := h.1 q7
        refine wp_iconst dX12_counted_29 ?_
        refine wp_iadd dX12_counted_30 ?_
        refine wp_istore_n (L2 := [some (Rv 88), some (Iv x1), some (Iv (x2 + 0)), some (Iv x3), none]) dX12_counted_31 (Nat.le_of_ble_eq_true rfl) (Nat.le_of_ble_eq_true rfl) rfl ?_
        refine wp_iinc (L2 := [some (Rv 88), some (Iv x1), some (Iv (x2 + 0)), some (Iv (x3 + 1)), none]) dX12_counted_32 rfl (Nat.le_of_ble_eq_true rfl) (Nat.le_of_ble_eq_true rfl) rfl ?_
        refine wp_goto (tgt := 4) dX12_counted_35 (by decide) ?_
        exact h
      · have h := h.2 q7
        refine wp_iconst dX12_counted_25 ?_
        refine wp_goto (tgt := 30) dX12_counted_26 (by decide) ?_
        refine wp_iadd dX12_counted_30 ?_
        refine wp_istore_n (L2 := [some (Rv 88), some (Iv x1), some (Iv (x2 + 1)), some (Iv x3), none]) dX12_counted_31 (Nat.le_of_ble_eq_true rfl) (Nat.le_of_ble_eq_true rfl) rfl ?_
        refine wp_iinc (L2 := [some (Rv 88), some (Iv x1), some (Iv (x2 + 1)), some (Iv (x3 + 1)), none]) dX12_counted_32 rfl (Nat.le_of_ble_eq_true rfl) (Nat.le_of_ble_eq_true rfl) rfl ?_
        refine wp_goto (tgt := 4) dX12_counted_35 (by decide) ?_
        exact h
theorem gX12_counted_40 {x1 x2 x3 : Int}  {M : Mem} {Q : Vl → Mem → Prop} (h : inr x3 ∧ ((4 ≤ x3 → wp 0 yX12_counted 75 [some (Rv 88), some (Iv x1), some (Iv x2), some (Iv 0), none] [] M Q) ∧ (x3 < 4 → inr x1 ∧ ((x1 ≠ 2 → wp 0 yX12_counted 40 [some (Rv 88), some (Iv x1), some (Iv (x2 + 0)), some (Iv (x3 + 1)), none] [] M Q) ∧ (x1 = 2 → 0 ≤ x3 ∧ (inr (M 93 x3) ∧ (((M 93 x3) < 0 → wp 0 yX12_counted 40 [some (Rv 88), some (Iv x1), some (Iv (x2 + 0)), some (Iv (x3 + 1)), none] [] M Q) ∧ (0 ≤ (M 93 x3) → wp 0 yX12_counted 40 [some (Rv 88), some (Iv x1), some (Iv (x2 + 1)), some (Iv (x3 + 1)), none] [] M Q)))))))) : wp 0 yX12_counted 40 [some (Rv 88), some (Iv x1), some (Iv x2), some (Iv x3), none] [] M Q := by
  refine wp_iload_n dX12_counted_40 rfl ?_
  refine wp_iconst dX12_counted_41 ?_
  obtain ⟨o1, h⟩ := h
  refine wp_icmp_ge (tgt := 73) dX12_counted_42 (by decide) o1 (by decide) (fun q2 => ?_) (fun q2 => ?_)
  · have h := h.1 q2
    refine wp_iconst dX12_counted_73 ?_
    refine wp_istore_n (L2 := [some (Rv 88), some (Iv x1), some (Iv x2), some (Iv 0), none]) dX12_counted_74 (Nat.le_of_ble_eq_true rfl) (Nat.le_of_ble_eq_true rfl) rfl ?_
    exact h
  · have h := h.2 q2
    refine wp_iload_n dX12_counted_45 rfl ?_
    refine wp_iload_n dX12_counted_46 rfl ?_
    refine wp_iconst dX12_counted_47 ?_
    obtain ⟨o3, h⟩ := h
    refine wp_icmp_ne (tgt := 64) dX12_counted_48 (by decide) (Or.inr ⟨o3, (by decide)⟩) (fun q4 => ?_) (fun q4 => ?_)
    · have h := h.1 q4
      refine wp_iconst dX12_counted_64 ?_
      refine wp_iadd dX12_counted_65 ?_
      refine wp_istore_n (L2 := [some (Rv 88), some (Iv x1), some (Iv (x2 + 0)), some (Iv x3), none]) dX12_counted_66 (Nat.le_of_ble_eq_true rfl) (Nat.le_of_ble_eq_true rfl) rfl ?_
      refine wp_iinc (L2 := [some (Rv 88), some (Iv x1), some (Iv (x2 + 0)), some (Iv (x3 + 1)), none]) dX12_counted_67 rfl (Nat.le_of_ble_eq_true rfl) (Nat.le_of_ble_eq_true rfl) rfl ?_
      refine wp_goto (tgt := 40) dX12_counted_70 (by decide) ?_
      exact h
    · have h := h.2 q4
      refine wp_aload_n dX12_counted_51 rfl (by decide) ?_
      refine wp_getf (t := Rv 93) 93 dX12_counted_52 (fl_X12_22 rfl) kd_88 rfl rfl ?_
      refine wp_iload_n dX12_counted_55 rfl ?_
      obtain ⟨o5, h⟩ := h
      refine wp_iald (M 93 x3) dX12_counted_56 kd_93 sz_93 o5 q2 (⟨by omega, by omega⟩) rfl ?_
      obtain ⟨o6, h⟩ := h
      refine wp_if_lt (tgt := 64) dX12_counted_57 (by decide) o6 (fun q7 => ?_) (fun q7 => ?_)
      · have h := h.1 q7
        refine wp_iconst dX12_counted_64 ?_
        refine wp_iadd dX12_counted_65 ?_
        refine wp_istore_n (L2 := [some (Rv 88), some (Iv x1), some (Iv (x2 + 0)), some (Iv x3), none]) dX12_counted_66 (Nat.le_of_ble_eq_true rfl) (Nat.le_of_ble_eq_true rfl) rfl ?_
        refine wp_iinc (L2 := [some (Rv 88), some (Iv x1), some (Iv (x2 + 0)), some (Iv (x3 + 1)), none]) dX12_counted_67 rfl (Nat.le_of_ble_eq_true rfl) (Nat.le_of_ble_eq_true rfl) rfl ?_
        refine wp_goto (tgt := 40) dX12_counted_70 (by decide) ?_
        exact h
      · have h := h.2 q7
        refine wp_iconst dX12_counted_60 ?_
        refine wp_goto (tgt := 65) dX12_counted_61 (by decide) ?_
        refine wp_iadd dX12_counted_65 ?_
        refine wp_istore_n (L2 := [some (Rv 88), some (Iv x1), some (Iv (x2 + 1)), some (Iv x3), none]) dX12_counted_66 (Nat.le_of_ble_eq_true rfl) (Nat.le_of_ble_eq_true rfl) rfl ?_
        refine wp_iinc (L2 := [some (Rv 88), some (Iv x1), some (Iv (x2 + 1)), some (Iv (x3 + 1)), none]) dX12_counted_67 rfl (Nat.le_of_ble_eq_true rfl) (Nat.le_of_ble_eq_true rfl) rfl ?_
        refine wp_goto (tgt := 40) dX12_counted_70 (by decide) ?_
        exact h
theorem gX12_counted_75 {x1 x2 x3 : Int}  {M : Mem} {Q : Vl → Mem → Prop} (h : inr x3 ∧ ((8 ≤ x3 → inr x1 ∧ ((x1 ≠ 0 → Q (Iv x2) M) ∧ (x1 = 0 → Q (Iv (M 88 11)) M))) ∧ (x3 < 8 → cl 0 yX12_isThere [Rv 88, Iv x3] M (QI (fun z5 M5 => (inr x1 ∧ ((x1 ≠ 3 → ((x1 ≠ 4 → ((x1 ≠ 5 → wp 0 yX12_counted 75 [some (Rv 88), some (Iv x1), some (Iv (x2 + 0)), some (Iv (x3 + 1)), none] [] M5 Q) ∧ (x1 = 5 → ((z5 = 0 → wp 0 yX12_counted 75 [some (Rv 88), some (Iv x1), some (Iv (x2 + 0)), some (Iv (x3 + 1)), none] [] M5 Q) ∧ (z5 ≠ 0 → 0 ≤ x3 ∧ (wp 0 yX12_counted 75 [some (Rv 88), some (Iv x1), some (Iv (x2 + (M5 95 x3))), some (Iv (x3 + 1)), none] [] M5 Q)))))) ∧ (x1 = 4 → ((z5 = 0 → ((x1 ≠ 5 → wp 0 yX12_counted 75 [some (Rv 88), some (Iv x1), some (Iv (x2 + 0)), some (Iv (x3 + 1)), none] [] M5 Q) ∧ (x1 = 5 → ((z5 = 0 → wp 0 yX12_counted 75 [some (Rv 88), some (Iv x1), some (Iv (x2 + 0)), some (Iv (x3 + 1)), none] [] M5 Q) ∧ (z5 ≠ 0 → 0 ≤ x3 ∧ (wp 0 yX12_counted 75 [some (Rv 88), some (Iv x1), some (Iv (x2 + (M5 95 x3))), some (Iv (x3 + 1)), none] [] M5 Q)))))) ∧ (z5 ≠ 0 → 0 ≤ x3 ∧ (inr (M5 97 x3) ∧ (((M5 97 x3) ≤ 1 → ((x1 ≠ 5 → wp 0 yX12_counted 75 [some (Rv 88), some (Iv x1), some (Iv (x2 + 0)), some (Iv (x3 + 1)), none] [] M5 Q) ∧ (x1 = 5 → ((z5 = 0 → wp 0 yX12_counted 75 [some (Rv 88), some (Iv x1), some (Iv (x2 + 0)), some (Iv (x3 + 1)), none] [] M5 Q) ∧ (z5 ≠ 0 → wp 0 yX12_counted 75 [some (Rv 88), some (Iv x1), some (Iv (x2 + (M5 95 x3))), some (Iv (x3 + 1)), none] [] M5 Q))))) ∧ (1 < (M5 97 x3) → wp 0 yX12_counted 75 [some (Rv 88), some (Iv x1), some (Iv (x2 + 1)), some (Iv (x3 + 1)), none] [] M5 Q)))))))) ∧ (x1 = 3 → ((z5 ≠ 0 → wp 0 yX12_counted 75 [some (Rv 88), some (Iv x1), some (Iv (x2 + 1)), some (Iv (x3 + 1)), none] [] M5 Q) ∧ (z5 = 0 → ((x1 ≠ 4 → ((x1 ≠ 5 → wp 0 yX12_counted 75 [some (Rv 88), some (Iv x1), some (Iv (x2 + 0)), some (Iv (x3 + 1)), none] [] M5 Q) ∧ (x1 = 5 → ((z5 = 0 → wp 0 yX12_counted 75 [some (Rv 88), some (Iv x1), some (Iv (x2 + 0)), some (Iv (x3 + 1)), none] [] M5 Q) ∧ (z5 ≠ 0 → 0 ≤ x3 ∧ (wp 0 yX12_counted 75 [some (Rv 88), some (Iv x1), some (Iv (x2 + (M5 95 x3))), some (Iv (x3 + 1)), none] [] M5 Q)))))) ∧ (x1 = 4 → ((z5 = 0 → ((x1 ≠ 5 → wp 0 yX12_counted 75 [some (Rv 88), some (Iv x1), some (Iv (x2 + 0)), some (Iv (x3 + 1)), none] [] M5 Q) ∧ (x1 = 5 → ((z5 = 0 → wp 0 yX12_counted 75 [some (Rv 88), some (Iv x1), some (Iv (x2 + 0)), some (Iv (x3 + 1)), none] [] M5 Q) ∧ (z5 ≠ 0 → 0 ≤ x3 ∧ (wp 0 yX12_counted 75 [some (Rv 88), some (Iv x1), some (Iv (x2 + (M5 95 x3))), some (Iv (x3 + 1)), none] [] M5 Q)))))) ∧ (z5 ≠ 0 → 0 ≤ x3 ∧ (inr (M5 97 x3) ∧ (((M5 97 x3) ≤ 1 → ((x1 ≠ 5 → wp 0 yX12_counted 75 [some (Rv 88), some (Iv x1), some (Iv (x2 + 0)), some (Iv (x3 + 1)), none] [] M5 Q) ∧ (x1 = 5 → ((z5 = 0 → wp 0 yX12_counted 75 [some (Rv 88), some (Iv x1), some (Iv (x2 + 0)), some (Iv (x3 + 1)), none] [] M5 Q) ∧ (z5 ≠ 0 → wp 0 yX12_counted 75 [some (Rv 88), some (Iv x1), some (Iv (x2 + (M5 95 x3))), some (Iv (x3 + 1)), none] [] M5 Q))))) ∧ (1 < (M5 97 x3) → wp 0 yX12_counted 75 [some (Rv 88), some (Iv x1), some (Iv (x2 + 1)), some (Iv (x3 + 1)), none] [] M5 Q))))))))))))))))) : wp 0 yX12_counted 75 [some (Rv 88), some (Iv x1), some (Iv x2), some (Iv x3), none] [] M Q := by
  refine wp_iload_n dX12_counted_75 rfl ?_
  refine wp_bipush dX12_counted_76 (by decide) ?_
  obtain ⟨o1, h⟩ := h
  refine wp_icmp_ge (tgt := 151) dX12_counted_78 (by decide) o1 (by decide) (fun q2 => ?_) (fun q2 => ?_)
  · have h := h.1 q2
    refine wp_iload_n dX12_counted_151 rfl ?_
    obtain ⟨o3, h⟩ := h
    refine wp_if_ne (tgt := 162) dX12_counted_152 (by decide) o3 (fun q4 => ?_) (fun q4 => ?_)
    · have h := h.1 q4
      refine wp_iload_n dX12_counted_162 rfl ?_
      exact wp_iret dX12_counted_163 rfl (Or.inr ⟨rfl, rfl, rfl, by decide⟩) rfl h
    · have h := h.2 q4
      refine wp_aload_n dX12_counted_155 rfl (by decide) ?_
      refine wp_getf (t := Iv (M 88 11)) (M 88 11) dX12_counted_156 (fl_X12_110 rfl) kd_88 rfl rfl ?_
      refine wp_goto (tgt := 163) dX12_counted_159 (by decide) ?_
      exact wp_iret dX12_counted_163 rfl (Or.inr ⟨rfl, rfl, rfl, by decide⟩) rfl h
  · have h := h.2 q2
    refine wp_aload_n dX12_counted_81 rfl (by decide) ?_
    refine wp_iload_n dX12_counted_82 rfl ?_
    refine wp_callV (e1 := 0) (as := [Iv x3]) (S := []) dX12_counted_83 (cs_X12_185 rfl) kd_88 rfl rfl (Nat.le_of_ble_eq_true rfl) (Nat.le_of_ble_eq_true rfl) h (fun v5 M5 q5 r5 => ?_)
    obtain ⟨z5, rfl, hz5⟩ := retV_z r5 rfl
    have h := q5
    refine wp_istore (L2 := [some (Rv 88), some (Iv x1), some (Iv x2), some (Iv x3), some (Iv z5)]) dX12_counted_86 (Nat.le_of_ble_eq_true rfl) (Nat.le_of_ble_eq_true rfl) rfl ?_
    refine wp_iload_n dX12_counted_88 rfl ?_
    refine wp_iload_n dX12_counted_89 rfl ?_
    refine wp_iconst dX12_counted_90 ?_
    obtain ⟨o6, h⟩ := h
    refine wp_icmp_ne (tgt := 99) dX12_counted_91 (by decide) (Or.inr ⟨o6, (by decide)⟩) (fun q7 => ?_) (fun q7 => ?_)
    · have h := h.1 q7
      refine wp_iload_n dX12_counted_99 rfl ?_
      refine wp_iconst dX12_counted_100 ?_
      refine wp_icmp_ne (tgt := 123) dX12_counted_101 (by decide) (Or.inr ⟨o6, (by decide)⟩) (fun q8 => ?_) (fun q8 => ?_)
      · have h := h.1 q8
        refine wp_iload_n dX12_counted_123 rfl ?_
        refine wp_iconst dX12_counted_124 ?_
        refine wp_icmp_ne (tgt := 142) dX12_counted_125 (by decide) (Or.inr ⟨o6, (by decide)⟩) (fun q9 => ?_) (fun q9 => ?_)
        · have h := h.1 q9
          refine wp_iconst dX12_counted_142 ?_
          refine wp_iadd dX12_counted_143 ?_
          refine wp_istore_n (L2 := [some (Rv 88), some (Iv x1), some (Iv (x2 + 0)), some (Iv x3), some (Iv z5)]) dX12_counted_144 (Nat.le_of_ble_eq_true rfl) (Nat.le_of_ble_eq_true rfl) rfl ?_
          refine wp_iinc (L2 := [some (Rv 88), some (Iv x1), some (Iv (x2 + 0)), some (Iv (x3 + 1)), some (Iv z5)]) dX12_counted_145 rfl (Nat.le_of_ble_eq_true rfl) (Nat.le_of_ble_eq_true rfl) rfl ?_
          refine wp_goto (tgt := 75) dX12_counted_148 (by decide) ?_
          exact wp_weak [true, true, true, true, false] rfl h
        · have h := h.2 q9
          refine wp_iload dX12_counted_128 rfl ?_
          refine wp_if_eq (tgt := 142) dX12_counted_130 (by decide) (by have := hz5; omega) (fun q10 => ?_) (fun q10 => ?_)
          · have h := h.1 q10
            refine wp_iconst dX12_counted_142 ?_
            refine wp_iadd dX12_counted_143 ?_
            refine wp_istore_n (L2 := [some (Rv 88), some (Iv x1), some (Iv (x2 + 0)), some (Iv x3), some (Iv z5)]) dX12_counted_144 (Nat.le_of_ble_eq_true rfl) (Nat.le_of_ble_eq_true rfl) rfl ?_
            refine wp_iinc (L2 := [some (Rv 88), some (Iv x1), some (Iv (x2 + 0)), some (Iv (x3 + 1)), some (Iv z5)]) dX12_counted_145 rfl (Nat.le_of_ble_eq_true rfl) (Nat.le_of_ble_eq_true rfl) rfl ?_
            refine wp_goto (tgt := 75) dX12_counted_148 (by decide) ?_
            exact wp_weak [true, true, true, true, false] rfl h
          · have h := h.2 q10
            refine wp_aload_n dX12_counted_133 rfl (by decide) ?_
            refine wp_getf (t := Rv 95) 95 dX12_counted_134 (fl_X12_29 rfl) kd_88 rfl rfl ?_
            refine wp_iload_n dX12_counted_137 rfl ?_
            obtain ⟨o11, h⟩ := h
            refine wp_iald (M5 95 x3) dX12_counted_138 kd_95 sz_95 o11 q2 (⟨by omega, by omega⟩) rfl ?_
            refine wp_goto (tgt := 143) dX12_counted_139 (by decide) ?_
            refine wp_iadd dX12_counted_143 ?_
            refine wp_istore_n (L2 := [some (Rv 88), some (Iv x1), some (Iv (x2 + (M5 95 x3))), some (Iv x3), some (Iv z5)]) dX12_counted_144 (Nat.le_of_ble_eq_true rfl) (Nat.le_of_ble_eq_true rfl) rfl ?_
            refine wp_iinc (L2 := [some (Rv 88), some (Iv x1), some (Iv (x2 + (M5 95 x3))), some (Iv (x3 + 1)), some (Iv z5)]) dX12_counted_145 rfl (Nat.le_of_ble_eq_true rfl) (Nat.le_of_ble_eq_true rfl) rfl ?_
            refine wp_goto (tgt := 75) dX12_counted_148 (by decide) ?_
            exact wp_weak [true, true, true, true, false] rfl h
      · have h := h.2 q8
        refine wp_iload dX12_counted_104 rfl ?_
        refine wp_if_eq (tgt := 123) dX12_counted_106 (by decide) (by have := hz5; omega) (fun q12 => ?_) (fun q12 => ?_)
        · have h := h.1 q12
          refine wp_iload_n dX12_counted_123 rfl ?_
          refine wp_iconst dX12_counted_124 ?_
          refine wp_icmp_ne (tgt := 142) dX12_counted_125 (by decide) (Or.inr ⟨o6, (by decide)⟩) (fun q13 => ?_) (fun q13 => ?_)
          · have h := h.1 q13
            refine wp_iconst dX12_counted_142 ?_
            refine wp_iadd dX12_counted_143 ?_
            refine wp_istore_n (L2 := [some (Rv 88), some (Iv x1), some (Iv (x2 + 0)), some (Iv x3), some (Iv z5)]) dX12_counted_144 (Nat.le_of_ble_eq_true rfl) (Nat.le_of_ble_eq_true rfl) rfl ?_
            refine wp_iinc (L2 := [some (Rv 88), some (Iv x1), some (Iv (x2 + 0)), some (Iv (x3 + 1)), some (Iv z5)]) dX12_counted_145 rfl (Nat.le_of_ble_eq_true rfl) (Nat.le_of_ble_eq_true rfl) rfl ?_
            refine wp_goto (tgt := 75) dX12_counted_148 (by decide) ?_
            exact wp_weak [true, true, true, true, false] rfl h
          · have h := h.2 q13
            refine wp_iload dX12_counted_128 rfl ?_
            refine wp_if_eq (tgt := 142) dX12_counted_130 (by decide) (by have := hz5; omega) (fun q14 => ?_) (fun q14 => ?_)
            · have h := h.1 q14
              refine wp_iconst dX12_counted_142 ?_
              refine wp_iadd dX12_counted_143 ?_
              refine wp_istore_n (L2 := [some (Rv 88), some (Iv x1), some (Iv (x2 + 0)), some (Iv x3), some (Iv z5)]) dX12_counted_144 (Nat.le_of_ble_eq_true rfl) (Nat.le_of_ble_eq_true rfl) rfl ?_
              refine wp_iinc (L2 := [some (Rv 88), some (Iv x1), some (Iv (x2 + 0)), some (Iv (x3 + 1)), some (Iv z5)]) dX12_counted_145 rfl (Nat.le_of_ble_eq_true rfl) (Nat.le_of_ble_eq_true rfl) rfl ?_
              refine wp_goto (tgt := 75) dX12_counted_148 (by decide) ?_
              exact wp_weak [true, true, true, true, false] rfl h
            · have h := h.2 q14
              refine wp_aload_n dX12_counted_133 rfl (by decide) ?_
              refine wp_getf (t := Rv 95) 95 dX12_counted_134 (fl_X12_29 rfl) kd_88 rfl rfl ?_
              refine wp_iload_n dX12_counted_137 rfl ?_
              obtain ⟨o15, h⟩ := h
              refine wp_iald (M5 95 x3) dX12_counted_138 kd_95 sz_95 o15 q2 (⟨by omega, by omega⟩) rfl ?_
              refine wp_goto (tgt := 143) dX12_counted_139 (by decide) ?_
              refine wp_iadd dX12_counted_143 ?_
              refine wp_istore_n (L2 := [some (Rv 88), some (Iv x1), some (Iv (x2 + (M5 95 x3))), some (Iv x3), some (Iv z5)]) dX12_counted_144 (Nat.le_of_ble_eq_true rfl) (Nat.le_of_ble_eq_true rfl) rfl ?_
              refine wp_iinc (L2 := [some (Rv 88), some (Iv x1), some (Iv (x2 + (M5 95 x3))), some (Iv (x3 + 1)), some (Iv z5)]) dX12_counted_145 rfl (Nat.le_of_ble_eq_true rfl) (Nat.le_of_ble_eq_true rfl) rfl ?_
              refine wp_goto (tgt := 75) dX12_counted_148 (by decide) ?_
              exact wp_weak [true, true, true, true, false] rfl h
        · have h := h.2 q12
          refine wp_aload_n dX12_counted_109 rfl (by decide) ?_
          refine wp_getf (t := Rv 97) 97 dX12_counted_110 (fl_X12_35 rfl) kd_88 rfl rfl ?_
          refine wp_iload_n dX12_counted_113 rfl ?_
          obtain ⟨o16, h⟩ := h
          refine wp_iald (M5 97 x3) dX12_counted_114 kd_97 sz_97 o16 q2 (⟨by omega, by omega⟩) rfl ?_
          refine wp_iconst dX12_counted_115 ?_
          obtain ⟨o17, h⟩ := h
          refine wp_icmp_le (tgt := 123) dX12_counted_116 (by decide) o17 (by decide) (fun q18 => ?_) (fun q18 => ?_)
          · have h := h.1 q18
            refine wp_iload_n dX12_counted_123 rfl ?_
            refine wp_iconst dX12_counted_124 ?_
            refine wp_icmp_ne (tgt := 142) dX12_counted_125 (by decide) (Or.inr ⟨o6, (by decide)⟩) (fun q19 => ?_) (fun q19 => ?_)
            · have h := h.1 q19
              refine wp_iconst dX12_counted_142 ?_
              refine wp_iadd dX12_counted_143 ?_
              refine wp_istore_n (L2 := [some (Rv 88), some (Iv x1), some (Iv (x2 + 0)), some (Iv x3), some (Iv z5)]) dX12_counted_144 (Nat.le_of_ble_eq_true rfl) (Nat.le_of_ble_eq_true rfl) rfl ?_
              refine wp_iinc (L2 := [some (Rv 88), some (Iv x1), some (Iv (x2 + 0)), some (Iv (x3 + 1)), some (Iv z5)]) dX12_counted_145 rfl (Nat.le_of_ble_eq_true rfl) (Nat.le_of_ble_eq_true rfl) rfl ?_
              refine wp_goto (tgt := 75) dX12_counted_148 (by decide) ?_
              exact wp_weak [true, true, true, true, false] rfl h
            · have h := h.2 q19
              refine wp_iload dX12_counted_128 rfl ?_
              refine wp_if_eq (tgt := 142) dX12_counted_130 (by decide) (by have := hz5; omega) (fun q20 => ?_) (fun q20 => ?_)
              · have h := h.1 q20
                refine wp_iconst dX12_counted_142 ?_
                refine wp_iadd dX12_counted_143 ?_
                refine wp_istore_n (L2 := [some (Rv 88), some (Iv x1), some (Iv (x2 + 0)), some (Iv x3), some (Iv z5)]) dX12_counted_144 (Nat.le_of_ble_eq_true rfl) (Nat.le_of_ble_eq_true rfl) rfl ?_
                refine wp_iinc (L2 := [some (Rv 88), some (Iv x1), some (Iv (x2 + 0)), some (Iv (x3 + 1)), some (Iv z5)]) dX12_counted_145 rfl (Nat.le_of_ble_eq_true rfl) (Nat.le_of_ble_eq_true rfl) rfl ?_
                refine wp_goto (tgt := 75) dX12_counted_148 (by decide) ?_
                exact wp_weak [true, true, true, true, false] rfl h
              · have h := h.2 q20
                refine wp_aload_n dX12_counted_133 rfl (by decide) ?_
                refine wp_getf (t := Rv 95) 95 dX12_counted_134 (fl_X12_29 rfl) kd_88 rfl rfl ?_
                refine wp_iload_n dX12_counted_137 rfl ?_
                refine wp_iald (M5 95 x3) dX12_counted_138 kd_95 sz_95 o16 q2 (⟨by omega, by omega⟩) rfl ?_
                refine wp_goto (tgt := 143) dX12_counted_139 (by decide) ?_
                refine wp_iadd dX12_counted_143 ?_
                refine wp_istore_n (L2 := [some (Rv 88), some (Iv x1), some (Iv (x2 + (M5 95 x3))), some (Iv x3), some (Iv z5)]) dX12_counted_144 (Nat.le_of_ble_eq_true rfl) (Nat.le_of_ble_eq_true rfl) rfl ?_
                refine wp_iinc (L2 := [some (Rv 88), some (Iv x1), some (Iv (x2 + (M5 95 x3))), some (Iv (x3 + 1)), some (Iv z5)]) dX12_counted_145 rfl (Nat.le_of_ble_eq_true rfl) (Nat.le_of_ble_eq_true rfl) rfl ?_
                refine wp_goto (tgt := 75) dX12_counted_148 (by decide) ?_
                exact wp_weak [true, true, true, true, false] rfl h
          · have h := h.2 q18
            refine wp_iconst dX12_counted_119 ?_
            refine wp_goto (tgt := 143) dX12_counted_120 (by decide) ?_
            refine wp_iadd dX12_counted_143 ?_
            refine wp_istore_n (L2 := [some (Rv 88), some (Iv x1), some (Iv (x2 + 1)), some (Iv x3), some (Iv z5)]) dX12_counted_144 (Nat.le_of_ble_eq_true rfl) (Nat.le_of_ble_eq_true rfl) rfl ?_
            refine wp_iinc (L2 := [some (Rv 88), some (Iv x1), some (Iv (x2 + 1)), some (Iv (x3 + 1)), some (Iv z5)]) dX12_counted_145 rfl (Nat.le_of_ble_eq_true rfl) (Nat.le_of_ble_eq_true rfl) rfl ?_
            refine wp_goto (tgt := 75) dX12_counted_148 (by decide) ?_
            exact wp_weak [true, true, true, true, false] rfl h
    · have h := h.2 q7
      refine wp_iload dX12_counted_94 rfl ?_
      refine wp_if_ne (tgt := 119) dX12_counted_96 (by decide) (by have := hz5; omega) (fun q21 => ?_) (fun q21 => ?_)
      · have h := h.1 q21
        refine wp_iconst dX12_counted_119 ?_
        refine wp_goto (tgt := 143) dX12_counted_120 (by decide) ?_
        refine wp_iadd dX12_counted_143 ?_
        refine wp_istore_n (L2 := [some (Rv 88), some (Iv x1), some (Iv (x2 + 1)), some (Iv x3), some (Iv z5)]) dX12_counted_144 (Nat.le_of_ble_eq_true rfl) (Nat.le_of_ble_eq_true rfl) rfl ?_
        refine wp_iinc (L2 := [some (Rv 88), some (Iv x1), some (Iv (x2 + 1)), some (Iv (x3 + 1)), some (Iv z5)]) dX12_counted_145 rfl (Nat.le_of_ble_eq_true rfl) (Nat.le_of_ble_eq_true rfl) rfl ?_
        refine wp_goto (tgt := 75) dX12_counted_148 (by decide) ?_
        exact wp_weak [true, true, true, true, false] rfl h
      · have h := h.2 q21
        refine wp_iload_n dX12_counted_99 rfl ?_
        refine wp_iconst dX12_counted_100 ?_
        refine wp_icmp_ne (tgt := 123) dX12_counted_101 (by decide) (Or.inr ⟨o6, (by decide)⟩) (fun q22 => ?_) (fun q22 => ?_)
        · have h := h.1 q22
          refine wp_iload_n dX12_counted_123 rfl ?_
          refine wp_iconst dX12_counted_124 ?_
          refine wp_icmp_ne (tgt := 142) dX12_counted_125 (by decide) (Or.inr ⟨o6, (by decide)⟩) (fun q23 => ?_) (fun q23 => ?_)
          · have h := h.1 q23
            refine wp_iconst dX12_counted_142 ?_
            refine wp_iadd dX12_counted_143 ?_
            refine wp_istore_n (L2 := [some (Rv 88), some (Iv x1), some (Iv (x2 + 0)), some (Iv x3), some (Iv z5)]) dX12_counted_144 (Nat.le_of_ble_eq_true rfl) (Nat.le_of_ble_eq_true rfl) rfl ?_
            refine wp_iinc (L2 := [some (Rv 88), some (Iv x1), some (Iv (x2 + 0)), some (Iv (x3 + 1)), some (Iv z5)]) dX12_counted_145 rfl (Nat.le_of_ble_eq_true rfl) (Nat.le_of_ble_eq_true rfl) rfl ?_
            refine wp_goto (tgt := 75) dX12_counted_148 (by decide) ?_
            exact wp_weak [true, true, true, true, false] rfl h
          · have h := h.2 q23
            refine wp_iload dX12_counted_128 rfl ?_
            refine wp_if_eq (tgt := 142) dX12_counted_130 (by decide) (by have := hz5; omega) (fun q24 => ?_) (fun q24 => ?_)
            · have h := h.1 q24
              refine wp_iconst dX12_counted_142 ?_
              refine wp_iadd dX12_counted_143 ?_
              refine wp_istore_n (L2 := [some (Rv 88), some (Iv x1), some (Iv (x2 + 0)), some (Iv x3), some (Iv z5)]) dX12_counted_144 (Nat.le_of_ble_eq_true rfl) (Nat.le_of_ble_eq_true rfl) rfl ?_
              refine wp_iinc (L2 := [some (Rv 88), some (Iv x1), some (Iv (x2 + 0)), some (Iv (x3 + 1)), some (Iv z5)]) dX12_counted_145 rfl (Nat.le_of_ble_eq_true rfl) (Nat.le_of_ble_eq_true rfl) rfl ?_
              refine wp_goto (tgt := 75) dX12_counted_148 (by decide) ?_
              exact wp_weak [true, true, true, true, false] rfl h
            · have h := h.2 q24
              refine wp_aload_n dX12_counted_133 rfl (by decide) ?_
              refine wp_getf (t := Rv 95) 95 dX12_counted_134 (fl_X12_29 rfl) kd_88 rfl rfl ?_
              refine wp_iload_n dX12_counted_137 rfl ?_
              obtain ⟨o25, h⟩ := h
              refine wp_iald (M5 95 x3) dX12_counted_138 kd_95 sz_95 o25 q2 (⟨by omega, by omega⟩) rfl ?_
              refine wp_goto (tgt := 143) dX12_counted_139 (by decide) ?_
              refine wp_iadd dX12_counted_143 ?_
              refine wp_istore_n (L2 := [some (Rv 88), some (Iv x1), some (Iv (x2 + (M5 95 x3))), some (Iv x3), some (Iv z5)]) dX12_counted_144 (Nat.le_of_ble_eq_true rfl) (Nat.le_of_ble_eq_true rfl) rfl ?_
              refine wp_iinc (L2 := [some (Rv 88), some (Iv x1), some (Iv (x2 + (M5 95 x3))), some (Iv (x3 + 1)), some (Iv z5)]) dX12_counted_145 rfl (Nat.le_of_ble_eq_true rfl) (Nat.le_of_ble_eq_true rfl) rfl ?_
              refine wp_goto (tgt := 75) dX12_counted_148 (by decide) ?_
              exact wp_weak [true, true, true, true, false] rfl h
        · have h := h.2 q22
          refine wp_iload dX12_counted_104 rfl ?_
          refine wp_if_eq (tgt := 123) dX12_counted_106 (by decide) (by have := hz5; omega) (fun q26 => ?_) (fun q26 => ?_)
          · have h := h.1 q26
            refine wp_iload_n dX12_counted_123 rfl ?_
            refine wp_iconst dX12_counted_124 ?_
            refine wp_icmp_ne (tgt := 142) dX12_counted_125 (by decide) (Or.inr ⟨o6, (by decide)⟩) (fun q27 => ?_) (fun q27 => ?_)
            · have h := h.1 q27
              refine wp_iconst dX12_counted_142 ?_
              refine wp_iadd dX12_counted_143 ?_
              refine wp_istore_n (L2 := [some (Rv 88), some (Iv x1), some (Iv (x2 + 0)), some (Iv x3), some (Iv z5)]) dX12_counted_144 (Nat.le_of_ble_eq_true rfl) (Nat.le_of_ble_eq_true rfl) rfl ?_
              refine wp_iinc (L2 := [some (Rv 88), some (Iv x1), some (Iv (x2 + 0)), some (Iv (x3 + 1)), some (Iv z5)]) dX12_counted_145 rfl (Nat.le_of_ble_eq_true rfl) (Nat.le_of_ble_eq_true rfl) rfl ?_
              refine wp_goto (tgt := 75) dX12_counted_148 (by decide) ?_
              exact wp_weak [true, true, true, true, false] rfl h
            · have h := h.2 q27
              refine wp_iload dX12_counted_128 rfl ?_
              refine wp_if_eq (tgt := 142) dX12_counted_130 (by decide) (by have := hz5; omega) (fun q28 => ?_) (fun q28 => ?_)
              · have h := h.1 q28
                refine wp_iconst dX12_counted_142 ?_
                refine wp_iadd dX12_counted_143 ?_
                refine wp_istore_n (L2 := [some (Rv 88), some (Iv x1), some (Iv (x2 + 0)), some (Iv x3), some (Iv z5)]) dX12_counted_144 (Nat.le_of_ble_eq_true rfl) (Nat.le_of_ble_eq_true rfl) rfl ?_
                refine wp_iinc (L2 := [some (Rv 88), some (Iv x1), some (Iv (x2 + 0)), some (Iv (x3 + 1)), some (Iv z5)]) dX12_counted_145 rfl (Nat.le_of_ble_eq_true rfl) (Nat.le_of_ble_eq_true rfl) rfl ?_
                refine wp_goto (tgt := 75) dX12_counted_148 (by decide) ?_
                exact wp_weak [true, true, true, true, false] rfl h
              · have h := h.2 q28
                refine wp_aload_n dX12_counted_133 rfl (by decide) ?_
                refine wp_getf (t := Rv 95) 95 dX12_counted_134 (fl_X12_29 rfl) kd_88 rfl rfl ?_
                refine wp_iload_n dX12_counted_137 rfl ?_
                obtain ⟨o29, h⟩ := h
                refine wp_iald (M5 95 x3) dX12_counted_138 kd_95 sz_95 o29 q2 (⟨by omega, by omega⟩) rfl ?_
                refine wp_goto (tgt := 143) dX12_counted_139 (by decide) ?_
                refine wp_iadd dX12_counted_143 ?_
                refine wp_istore_n (L2 := [some (Rv 88), some (Iv x1), some (Iv (x2 + (M5 95 x3))), some (Iv x3), some (Iv z5)]) dX12_counted_144 (Nat.le_of_ble_eq_true rfl) (Nat.le_of_ble_eq_true rfl) rfl ?_
                refine wp_iinc (L2 := [some (Rv 88), some (Iv x1), some (Iv (x2 + (M5 95 x3))), some (Iv (x3 + 1)), some (Iv z5)]) dX12_counted_145 rfl (Nat.le_of_ble_eq_true rfl) (Nat.le_of_ble_eq_true rfl) rfl ?_
                refine wp_goto (tgt := 75) dX12_counted_148 (by decide) ?_
                exact wp_weak [true, true, true, true, false] rfl h
          · have h := h.2 q26
            refine wp_aload_n dX12_counted_109 rfl (by decide) ?_
            refine wp_getf (t := Rv 97) 97 dX12_counted_110 (fl_X12_35 rfl) kd_88 rfl rfl ?_
            refine wp_iload_n dX12_counted_113 rfl ?_
            obtain ⟨o30, h⟩ := h
            refine wp_iald (M5 97 x3) dX12_counted_114 kd_97 sz_97 o30 q2 (⟨by omega, by omega⟩) rfl ?_
            refine wp_iconst dX12_counted_115 ?_
            obtain ⟨o31, h⟩ := h
            refine wp_icmp_le (tgt := 123) dX12_counted_116 (by decide) o31 (by decide) (fun q32 => ?_) (fun q32 => ?_)
            · have h := h.1 q32
              refine wp_iload_n dX12_counted_123 rfl ?_
              refine wp_iconst dX12_counted_124 ?_
              refine wp_icmp_ne (tgt := 142) dX12_counted_125 (by decide) (Or.inr ⟨o6, (by decide)⟩) (fun q33 => ?_) (fun q33 => ?_)
              · have h := h.1 q33
                refine wp_iconst dX12_counted_142 ?_
                refine wp_iadd dX12_counted_143 ?_
                refine wp_istore_n (L2 := [some (Rv 88), some (Iv x1), some (Iv (x2 + 0)), some (Iv x3), some (Iv z5)]) dX12_counted_144 (Nat.le_of_ble_eq_true rfl) (Nat.le_of_ble_eq_true rfl) rfl ?_
                refine wp_iinc (L2 := [some (Rv 88), some (Iv x1), some (Iv (x2 + 0)), some (Iv (x3 + 1)), some (Iv z5)]) dX12_counted_145 rfl (Nat.le_of_ble_eq_true rfl) (Nat.le_of_ble_eq_true rfl) rfl ?_
                refine wp_goto (tgt := 75) dX12_counted_148 (by decide) ?_
                exact wp_weak [true, true, true, true, false] rfl h
              · have h := h.2 q33
                refine wp_iload dX12_counted_128 rfl ?_
                refine wp_if_eq (tgt := 142) dX12_counted_130 (by decide) (by have := hz5; omega) (fun q34 => ?_) (fun q34 => ?_)
                · have h := h.1 q34
                  refine wp_iconst dX12_counted_142 ?_
                  refine wp_iadd dX12_counted_143 ?_
                  refine wp_istore_n (L2 := [some (Rv 88), some (Iv x1), some (Iv (x2 + 0)), some (Iv x3), some (Iv z5)]) dX12_counted_144 (Nat.le_of_ble_eq_true rfl) (Nat.le_of_ble_eq_true rfl) rfl ?_
                  refine wp_iinc (L2 := [some (Rv 88), some (Iv x1), some (Iv (x2 + 0)), some (Iv (x3 + 1)), some (Iv z5)]) dX12_counted_145 rfl (Nat.le_of_ble_eq_true rfl) (Nat.le_of_ble_eq_true rfl) rfl ?_
                  refine wp_goto (tgt := 75) dX12_counted_148 (by decide) ?_
                  exact wp_weak [true, true, true, true, false] rfl h
                · have h := h.2 q34
                  refine wp_aload_n dX12_counted_133 rfl (by decide) ?_
                  refine wp_getf (t := Rv 95) 95 dX12_counted_134 (fl_X12_29 rfl) kd_88 rfl rfl ?_
                  refine wp_iload_n dX12_counted_137 rfl ?_
                  refine wp_iald (M5 95 x3) dX12_counted_138 kd_95 sz_95 o30 q2 (⟨by omega, by omega⟩) rfl ?_
                  refine wp_goto (tgt := 143) dX12_counted_139 (by decide) ?_
                  refine wp_iadd dX12_counted_143 ?_
                  refine wp_istore_n (L2 := [some (Rv 88), some (Iv x1), some (Iv (x2 + (M5 95 x3))), some (Iv x3), some (Iv z5)]) dX12_counted_144 (Nat.le_of_ble_eq_true rfl) (Nat.le_of_ble_eq_true rfl) rfl ?_
                  refine wp_iinc (L2 := [some (Rv 88), some (Iv x1), some (Iv (x2 + (M5 95 x3))), some (Iv (x3 + 1)), some (Iv z5)]) dX12_counted_145 rfl (Nat.le_of_ble_eq_true rfl) (Nat.le_of_ble_eq_true rfl) rfl ?_
                  refine wp_goto (tgt := 75) dX12_counted_148 (by decide) ?_
                  exact wp_weak [true, true, true, true, false] rfl h
            · have h := h.2 q32
              refine wp_iconst dX12_counted_119 ?_
              refine wp_goto (tgt := 143) dX12_counted_120 (by decide) ?_
              refine wp_iadd dX12_counted_143 ?_
              refine wp_istore_n (L2 := [some (Rv 88), some (Iv x1), some (Iv (x2 + 1)), some (Iv x3), some (Iv z5)]) dX12_counted_144 (Nat.le_of_ble_eq_true rfl) (Nat.le_of_ble_eq_true rfl) rfl ?_
              refine wp_iinc (L2 := [some (Rv 88), some (Iv x1), some (Iv (x2 + 1)), some (Iv (x3 + 1)), some (Iv z5)]) dX12_counted_145 rfl (Nat.le_of_ble_eq_true rfl) (Nat.le_of_ble_eq_true rfl) rfl ?_
              refine wp_goto (tgt := 75) dX12_counted_148 (by decide) ?_
              exact wp_weak [true, true, true, true, false] rfl h
theorem gX12_count {x1 : Int}  {M : Mem} {Q : Vl → Mem → Prop} (h : cl 0 yX12_in [Iv x1, Iv 0, Iv 5] M (QI (fun z1 M1 => ((z1 = 0 → Q (Iv (-1)) M1) ∧ (z1 ≠ 0 → cl 0 yX12_counted [Rv 88, Iv x1] M1 (QI (fun z3 M3 => (Q (Iv z3) M3)))))))) : wp 0 yX12_count 0 [some (Rv 88), some (Iv x1)] [] M Q := by
  refine wp_iload_n dX12_count_0 rfl ?_
  refine wp_iconst dX12_count_1 ?_
  refine wp_iconst dX12_count_2 ?_
  refine wp_callS (e1 := 0) (as := [Iv x1, Iv 0, Iv 5]) (S := []) dX12_count_3 (cs_X12_117 rfl) rfl rfl (Nat.le_of_ble_eq_true rfl) (Nat.le_of_ble_eq_true rfl) h (fun v1 M1 q1 r1 => ?_)
  obtain ⟨z1, rfl, hz1⟩ := retV_z r1 rfl
  have h := q1
  refine wp_if_eq (tgt := 17) dX12_count_6 (by decide) (by have := hz1; omega) (fun q2 => ?_) (fun q2 => ?_)
  · have h := h.1 q2
    refine wp_iconst dX12_count_17 ?_
    exact wp_iret dX12_count_18 rfl (Or.inr ⟨rfl, rfl, rfl, by decide⟩) rfl h
  · have h := h.2 q2
    refine wp_aload_n dX12_count_9 rfl (by decide) ?_
    refine wp_iload_n dX12_count_10 rfl ?_
    refine wp_callV (e1 := 0) (as := [Iv x1]) (S := []) dX12_count_11 (cs_X12_312 rfl) kd_88 rfl rfl (Nat.le_of_ble_eq_true rfl) (Nat.le_of_ble_eq_true rfl) h (fun v3 M3 q3 r3 => ?_)
    obtain ⟨z3, rfl⟩ := retV_i r3 rfl
    have h := q3
    refine wp_goto (tgt := 18) dX12_count_14 (by decide) ?_
    exact wp_iret dX12_count_18 rfl (Or.inr ⟨rfl, rfl, rfl, by decide⟩) rfl h
theorem eX12_count {x1 : Int}  {M : Mem} {Q : Vl → Mem → Prop} (h : cl 0 yX12_in [Iv x1, Iv 0, Iv 5] M (QI (fun z1 M1 => ((z1 = 0 → Q (Iv (-1)) M1) ∧ (z1 ≠ 0 → cl 0 yX12_counted [Rv 88, Iv x1] M1 (QI (fun z3 M3 => (Q (Iv z3) M3)))))))) : cl 0 yX12_count [Rv 88, Iv x1] M Q := enterG (by decide +kernel) (by exact Or.inr (Or.inl rfl)) (Nat.le_of_ble_eq_true rfl) rfl (gX12_count h)
theorem gX12_mix {x1 : Int}  {M : Mem} {Q : Vl → Mem → Prop} (h : Q (Iv 0) (up M 88 43 ((31 * (M 88 43)) + x1))) : wp 0 yX12_mix 0 [some (Rv 88), some (Jv x1), none] [] M Q := by
  refine wp_aload_n dX12_mix_0 rfl (by decide) ?_
  refine wp_ldc2 31 dX12_mix_1 (kc_X12_315 rfl) ?_
  refine wp_aload_n dX12_mix_4 rfl (by decide) ?_
  refine wp_getf (t := Jv (M 88 43)) (M 88 43) dX12_mix_5 (fl_X12_317 rfl) kd_88 rfl rfl ?_
  refine wp_lmul dX12_mix_8 ?_
  refine wp_lload_n dX12_mix_9 rfl ?_
  refine wp_ladd dX12_mix_10 ?_
  refine wp_putf (x := ((31 * (M 88 43)) + x1)) dX12_mix_11 (fl_X12_317 rfl) kd_88 (fun _ => rfl) rfl rfl trivial ?_
  exact wp_vret dX12_mix_14 rfl (Or.inr ⟨rfl, rfl, rfl, by decide⟩) rfl h
theorem eX12_mix {x1 : Int}  {M : Mem} {Q : Vl → Mem → Prop} (h : Q (Iv 0) (up M 88 43 ((31 * (M 88 43)) + x1))) : cl 0 yX12_mix [Rv 88, Jv x1] M Q := enterG (by decide +kernel) (by exact Or.inl rfl) (Nat.le_of_ble_eq_true rfl) rfl (gX12_mix h)
theorem gX12_mixWord {x1 : Int}  {M : Mem} {Q : Vl → Mem → Prop} (h : cl 0 yX12_isThere [Rv 88, Iv x1] M (QI (fun z1 M1 => ((z1 = 0 → cl 0 yX12_mix [Rv 88, Jv (-1)] M1 (QV (fun M3 => (Q (Iv 0) M3)))) ∧ (z1 ≠ 0 → 0 ≤ x1 ∧ (x1 < 8 ∧ (inr (M1 97 x1) ∧ (cl 0 yX12_mix [Rv 88, Jv (M1 97 x1)] M1 (QV (fun M7 => (cl 0 yX12_markOf [Rv 88, Iv x1, Iv (M7 97 x1)] M7 (QI (fun z8 M8 => (inr z8 ∧ (cl 0 yX12_mix [Rv 88, Jv z8] M8 (QV (fun M10 => (inr (M10 95 x1) ∧ (cl 0 yX12_mix [Rv 88, Jv (M10 95 x1)] M10 (QV (fun M12 => (wp 0 yX12_mixWord 48 [some (Rv 88), some (Iv x1), some (Iv 0)] [] M12 Q)))))))))))))))))))))) : wp 0 yX12_mixWord 0 [some (Rv 88), some (Iv x1), none] [] M Q := by
  refine wp_aload_n dX12_mixWord_0 rfl (by decide) ?_
  refine wp_iload_n dX12_mixWord_1 rfl ?_
  refine wp_callV (e1 := 0) (as := [Iv x1]) (S := []) dX12_mixWord_2 (cs_X12_185 rfl) kd_88 rfl rfl (Nat.le_of_ble_eq_true rfl) (Nat.le_of_ble_eq_true rfl) h (fun v1 M1 q1 r1 => ?_)
  obtain ⟨z1, rfl, hz1⟩ := retV_z r1 rfl
  have h := q1
  refine wp_if_eq (tgt := 78) dX12_mixWord_5 (by decide) (by have := hz1; omega) (fun q2 => ?_) (fun q2 => ?_)
  · have h := h.1 q2
    refine wp_aload_n dX12_mixWord_78 rfl (by decide) ?_
    refine wp_ldc2 (-1) dX12_mixWord_79 (kc_X12_324 rfl) ?_
    refine wp_callV (e1 := 0) (as := [Jv (-1)]) (S := []) dX12_mixWord_82 (cs_X12_320 rfl) kd_88 rfl rfl (Nat.le_of_ble_eq_true rfl) (Nat.le_of_ble_eq_true rfl) h (fun v3 M3 q3 r3 => ?_)
    have h := q3
    exact wp_vret dX12_mixWord_85 rfl (Or.inr ⟨rfl, rfl, rfl, by decide⟩) rfl h
  · have h := h.2 q2
    refine wp_aload_n dX12_mixWord_8 rfl (by decide) ?_
    refine wp_aload_n dX12_mixWord_9 rfl (by decide) ?_
    refine wp_getf (t := Rv 97) 97 dX12_mixWord_10 (fl_X12_35 rfl) kd_88 rfl rfl ?_
    refine wp_iload_n dX12_mixWord_13 rfl ?_
    obtain ⟨o4, h⟩ := h
    obtain ⟨o5, h⟩ := h
    refine wp_iald (M1 97 x1) dX12_mixWord_14 kd_97 sz_97 o4 o5 (⟨by omega, by omega⟩) rfl ?_
    obtain ⟨o6, h⟩ := h
    refine wp_i2l dX12_mixWord_15 o6 ?_
    refine wp_callV (e1 := 0) (as := [Jv (M1 97 x1)]) (S := []) dX12_mixWord_16 (cs_X12_320 rfl) kd_88 rfl rfl (Nat.le_of_ble_eq_true rfl) (Nat.le_of_ble_eq_true rfl) h (fun v7 M7 q7 r7 => ?_)
    have h := q7
    refine wp_aload_n dX12_mixWord_19 rfl (by decide) ?_
    refine wp_aload_n dX12_mixWord_20 rfl (by decide) ?_
    refine wp_iload_n dX12_mixWord_21 rfl ?_
    refine wp_aload_n dX12_mixWord_22 rfl (by decide) ?_
    refine wp_getf (t := Rv 97) 97 dX12_mixWord_23 (fl_X12_35 rfl) kd_88 rfl rfl ?_
    refine wp_iload_n dX12_mixWord_26 rfl ?_
    refine wp_iald (M7 97 x1) dX12_mixWord_27 kd_97 sz_97 o4 o5 (⟨by omega, by omega⟩) rfl ?_
    refine wp_callV (e1 := 0) (as := [Iv x1, Iv (M7 97 x1)]) (S := [Rv 88]) dX12_mixWord_28 (cs_X12_196 rfl) kd_88 rfl rfl (Nat.le_of_ble_eq_true rfl) (Nat.le_of_ble_eq_true rfl) h (fun v8 M8 q8 r8 => ?_)
    obtain ⟨z8, rfl⟩ := retV_i r8 rfl
    have h := q8
    obtain ⟨o9, h⟩ := h
    refine wp_i2l dX12_mixWord_31 o9 ?_
    refine wp_callV (e1 := 0) (as := [Jv z8]) (S := []) dX12_mixWord_32 (cs_X12_320 rfl) kd_88 rfl rfl (Nat.le_of_ble_eq_true rfl) (Nat.le_of_ble_eq_true rfl) h (fun v10 M10 q10 r10 => ?_)
    have h := q10
    refine wp_aload_n dX12_mixWord_35 rfl (by decide) ?_
    refine wp_aload_n dX12_mixWord_36 rfl (by decide) ?_
    refine wp_getf (t := Rv 95) 95 dX12_mixWord_37 (fl_X12_29 rfl) kd_88 rfl rfl ?_
    refine wp_iload_n dX12_mixWord_40 rfl ?_
    refine wp_iald (M10 95 x1) dX12_mixWord_41 kd_95 sz_95 o4 o5 (⟨by omega, by omega⟩) rfl ?_
    obtain ⟨o11, h⟩ := h
    refine wp_i2l dX12_mixWord_42 o11 ?_
    refine wp_callV (e1 := 0) (as := [Jv (M10 95 x1)]) (S := []) dX12_mixWord_43 (cs_X12_320 rfl) kd_88 rfl rfl (Nat.le_of_ble_eq_true rfl) (Nat.le_of_ble_eq_true rfl) h (fun v12 M12 q12 r12 => ?_)
    have h := q12
    refine wp_iconst dX12_mixWord_46 ?_
    refine wp_istore_n (L2 := [some (Rv 88), some (Iv x1), some (Iv 0)]) dX12_mixWord_47 (Nat.le_of_ble_eq_true rfl) (Nat.le_of_ble_eq_true rfl) rfl ?_
    exact h
theorem eX12_mixWord {x1 : Int}  {M : Mem} {Q : Vl → Mem → Prop} (h : cl 0 yX12_isThere [Rv 88, Iv x1] M (QI (fun z1 M1 => ((z1 = 0 → cl 0 yX12_mix [Rv 88, Jv (-1)] M1 (QV (fun M3 => (Q (Iv 0) M3)))) ∧ (z1 ≠ 0 → 0 ≤ x1 ∧ (x1 < 8 ∧ (inr (M1 97 x1) ∧ (cl 0 yX12_mix [Rv 88, Jv (M1 97 x1)] M1 (QV (fun M7 => (cl 0 yX12_markOf [Rv 88, Iv x1, Iv (M7 97 x1)] M7 (QI (fun z8 M8 => (inr z8 ∧ (cl 0 yX12_mix [Rv 88, Jv z8] M8 (QV (fun M10 => (inr (M10 95 x1) ∧ (cl 0 yX12_mix [Rv 88, Jv (M10 95 x1)] M10 (QV (fun M12 => (wp 0 yX12_mixWord 48 [some (Rv 88), some (Iv x1), some (Iv 0)] [] M12 Q)))))))))))))))))))))) : cl 0 yX12_mixWord [Rv 88, Iv x1] M Q := enterG (by decide +kernel) (by exact Or.inl rfl) (Nat.le_of_ble_eq_true rfl) rfl (gX12_mixWord h)
theorem gX12_mixWord_48 {x1 x2 : Int}  {M : Mem} {Q : Vl → Mem → Prop} (h : 0 ≤ x1 ∧ (x1 < 8 ∧ (inr x2 ∧ (inr (M 95 x1) ∧ (((M 95 x1) ≤ x2 → Q (Iv 0) M) ∧ (x2 < (M 95 x1) → cl 0 yX12_at0 [Rv 88, Iv x1, Iv x2] M (QI (fun z6 M6 => (inr z6 ∧ (cl 0 yX12_mix [Rv 88, Jv z6] M6 (QV (fun M8 => (wp 0 yX12_mixWord 48 [some (Rv 88), some (Iv x1), some (Iv (x2 + 1))] [] M8 Q))))))))))))) : wp 0 yX12_mixWord 48 [some (Rv 88), some (Iv x1), some (Iv x2)] [] M Q := by
  refine wp_iload_n dX12_mixWord_48 rfl ?_
  refine wp_aload_n dX12_mixWord_49 rfl (by decide) ?_
  refine wp_getf (t := Rv 95) 95 dX12_mixWord_50 (fl_X12_29 rfl) kd_88 rfl rfl ?_
  refine wp_iload_n dX12_mixWord_53 rfl ?_
  obtain ⟨o1, h⟩ := h
  obtain ⟨o2, h⟩ := h
  refine wp_iald (M 95 x1) dX12_mixWord_54 kd_95 sz_95 o1 o2 (⟨by omega, by omega⟩) rfl ?_
  obtain ⟨o3, h⟩ := h
  obtain ⟨o4, h⟩ := h
  refine wp_icmp_ge (tgt := 75) dX12_mixWord_55 (by decide) o3 o4 (fun q5 => ?_) (fun q5 => ?_)
  · have h := h.1 q5
    refine wp_goto (tgt := 85) dX12_mixWord_75 (by decide) ?_
    exact wp_vret dX12_mixWord_85 rfl (Or.inr ⟨rfl, rfl, rfl, by decide⟩) rfl h
  · have h := h.2 q5
    refine wp_aload_n dX12_mixWord_58 rfl (by decide) ?_
    refine wp_aload_n dX12_mixWord_59 rfl (by decide) ?_
    refine wp_iload_n dX12_mixWord_60 rfl ?_
    refine wp_iload_n dX12_mixWord_61 rfl ?_
    refine wp_callV (e1 := 0) (as := [Iv x1, Iv x2]) (S := [Rv 88]) dX12_mixWord_62 (cs_X12_148 rfl) kd_88 rfl rfl (Nat.le_of_ble_eq_true rfl) (Nat.le_of_ble_eq_true rfl) h (fun v6 M6 q6 r6 => ?_)
    obtain ⟨z6, rfl⟩ := retV_i r6 rfl
    have h := q6
    obtain ⟨o7, h⟩ := h
    refine wp_i2l dX12_mixWord_65 o7 ?_
    refine wp_callV (e1 := 0) (as := [Jv z6]) (S := []) dX12_mixWord_66 (cs_X12_320 rfl) kd_88 rfl rfl (Nat.le_of_ble_eq_true rfl) (Nat.le_of_ble_eq_true rfl) h (fun v8 M8 q8 r8 => ?_)
    have h := q8
    refine wp_iinc (L2 := [some (Rv 88), some (Iv x1), some (Iv (x2 + 1))]) dX12_mixWord_69 rfl (Nat.le_of_ble_eq_true rfl) (Nat.le_of_ble_eq_true rfl) rfl ?_
    refine wp_goto (tgt := 48) dX12_mixWord_72 (by decide) ?_
    exact h
theorem gX12_digest  {M : Mem} {Q : Vl → Mem → Prop} (h : wp 0 yX12_digest 9 [some (Rv 88), some (Iv 0), none] [] (up M 88 43 17) Q) : wp 0 yX12_digest 0 [some (Rv 88), none, none] [] M Q := by
  refine wp_aload_n dX12_digest_0 rfl (by decide) ?_
  refine wp_ldc2 17 dX12_digest_1 (kc_X12_326 rfl) ?_
  refine wp_putf (x := 17) dX12_digest_4 (fl_X12_317 rfl) kd_88 (fun _ => rfl) rfl rfl trivial ?_
  refine wp_iconst dX12_digest_7 ?_
  refine wp_istore_n (L2 := [some (Rv 88), some (Iv 0), none]) dX12_digest_8 (Nat.le_of_ble_eq_true rfl) (Nat.le_of_ble_eq_true rfl) rfl ?_
  exact h
theorem eX12_digest  {M : Mem} {Q : Vl → Mem → Prop} (h : wp 0 yX12_digest 9 [some (Rv 88), some (Iv 0), none] [] (up M 88 43 17) Q) : cl 0 yX12_digest [Rv 88] M Q := enterG (by decide +kernel) (by exact Or.inr (Or.inr (Or.inr (Or.inl rfl)))) (Nat.le_of_ble_eq_true rfl) rfl (gX12_digest h)
theorem gX12_digest_9 {x1 : Int}  {M : Mem} {Q : Vl → Mem → Prop} (h : inr x1 ∧ ((6 ≤ x1 → wp 0 yX12_digest 33 [some (Rv 88), some (Iv 0), none] [] M Q) ∧ (x1 < 6 → cl 0 yX12_counted [Rv 88, Iv x1] M (QI (fun z3 M3 => (inr z3 ∧ (cl 0 yX12_mix [Rv 88, Jv z3] M3 (QV (fun M5 => (wp 0 yX12_digest 9 [some (Rv 88), some (Iv (x1 + 1)), none] [] M5 Q)))))))))) : wp 0 yX12_digest 9 [some (Rv 88), some (Iv x1), none] [] M Q := by
  refine wp_iload_n dX12_digest_9 rfl ?_
  refine wp_bipush dX12_digest_10 (by decide) ?_
  obtain ⟨o1, h⟩ := h
  refine wp_icmp_ge (tgt := 31) dX12_digest_12 (by decide) o1 (by decide) (fun q2 => ?_) (fun q2 => ?_)
  · have h := h.1 q2
    refine wp_iconst dX12_digest_31 ?_
    refine wp_istore_n (L2 := [some (Rv 88), some (Iv 0), none]) dX12_digest_32 (Nat.le_of_ble_eq_true rfl) (Nat.le_of_ble_eq_true rfl) rfl ?_
    exact h
  · have h := h.2 q2
    refine wp_aload_n dX12_digest_15 rfl (by decide) ?_
    refine wp_aload_n dX12_digest_16 rfl (by decide) ?_
    refine wp_iload_n dX12_digest_17 rfl ?_
    refine wp_callV (e1 := 0) (as := [Iv x1]) (S := [Rv 88]) dX12_digest_18 (cs_X12_312 rfl) kd_88 rfl rfl (Nat.le_of_ble_eq_true rfl) (Nat.le_of_ble_eq_true rfl) h (fun v3 M3 q3 r3 => ?_)
    obtain ⟨z3, rfl⟩ := retV_i r3 rfl
    have h := q3
    obtain ⟨o4, h⟩ := h
    refine wp_i2l dX12_digest_21 o4 ?_
    refine wp_callV (e1 := 0) (as := [Jv z3]) (S := []) dX12_digest_22 (cs_X12_320 rfl) kd_88 rfl rfl (Nat.le_of_ble_eq_true rfl) (Nat.le_of_ble_eq_true rfl) h (fun v5 M5 q5 r5 => ?_)
    have h := q5
    refine wp_iinc (L2 := [some (Rv 88), some (Iv (x1 + 1)), none]) dX12_digest_25 rfl (Nat.le_of_ble_eq_true rfl) (Nat.le_of_ble_eq_true rfl) rfl ?_
    refine wp_goto (tgt := 9) dX12_digest_28 (by decide) ?_
    exact h
theorem gX12_digest_33 {x1 : Int}  {M : Mem} {Q : Vl → Mem → Prop} (h : inr x1 ∧ ((8 ≤ x1 → wp 0 yX12_digest 52 [some (Rv 88), some (Iv 0), none] [] M Q) ∧ (x1 < 8 → cl 0 yX12_mixWord [Rv 88, Iv x1] M (QV (fun M3 => (wp 0 yX12_digest 33 [some (Rv 88), some (Iv (x1 + 1)), none] [] M3 Q)))))) : wp 0 yX12_digest 33 [some (Rv 88), some (Iv x1), none] [] M Q := by
  refine wp_iload_n dX12_digest_33 rfl ?_
  refine wp_bipush dX12_digest_34 (by decide) ?_
  obtain ⟨o1, h⟩ := h
  refine wp_icmp_ge (tgt := 50) dX12_digest_36 (by decide) o1 (by decide) (fun q2 => ?_) (fun q2 => ?_)
  · have h := h.1 q2
    refine wp_iconst dX12_digest_50 ?_
    refine wp_istore_n (L2 := [some (Rv 88), some (Iv 0), none]) dX12_digest_51 (Nat.le_of_ble_eq_true rfl) (Nat.le_of_ble_eq_true rfl) rfl ?_
    exact h
  · have h := h.2 q2
    refine wp_aload_n dX12_digest_39 rfl (by decide) ?_
    refine wp_iload_n dX12_digest_40 rfl ?_
    refine wp_callV (e1 := 0) (as := [Iv x1]) (S := []) dX12_digest_41 (cs_X12_328 rfl) kd_88 rfl rfl (Nat.le_of_ble_eq_true rfl) (Nat.le_of_ble_eq_true rfl) h (fun v3 M3 q3 r3 => ?_)
    have h := q3
    refine wp_iinc (L2 := [some (Rv 88), some (Iv (x1 + 1)), none]) dX12_digest_44 rfl (Nat.le_of_ble_eq_true rfl) (Nat.le_of_ble_eq_true rfl) rfl ?_
    refine wp_goto (tgt := 33) dX12_digest_47 (by decide) ?_
    exact h
theorem gX12_digest_52 {x1 : Int}  {M : Mem} {Q : Vl → Mem → Prop} (h : inr x1 ∧ ((6 ≤ x1 → wp 0 yX12_digest 106 [some (Rv 88), some (Iv 0), none] [] M Q) ∧ (x1 < 6 → 0 ≤ x1 ∧ (inr (M 90 x1) ∧ (cl 0 yX12_mix [Rv 88, Jv (M 90 x1)] M (QV (fun M5 => (wp 0 yX12_digest 71 [some (Rv 88), some (Iv x1), some (Iv 0)] [] M5 Q)))))))) : wp 0 yX12_digest 52 [some (Rv 88), some (Iv x1), none] [] M Q := by
  refine wp_iload_n dX12_digest_52 rfl ?_
  refine wp_bipush dX12_digest_53 (by decide) ?_
  obtain ⟨o1, h⟩ := h
  refine wp_icmp_ge (tgt := 104) dX12_digest_55 (by decide) o1 (by decide) (fun q2 => ?_) (fun q2 => ?_)
  · have h := h.1 q2
    refine wp_iconst dX12_digest_104 ?_
    refine wp_istore_n (L2 := [some (Rv 88), some (Iv 0), none]) dX12_digest_105 (Nat.le_of_ble_eq_true rfl) (Nat.le_of_ble_eq_true rfl) rfl ?_
    exact h
  · have h := h.2 q2
    refine wp_aload_n dX12_digest_58 rfl (by decide) ?_
    refine wp_aload_n dX12_digest_59 rfl (by decide) ?_
    refine wp_getf (t := Rv 90) 90 dX12_digest_60 (fl_X12_13 rfl) kd_88 rfl rfl ?_
    refine wp_iload_n dX12_digest_63 rfl ?_
    obtain ⟨o3, h⟩ := h
    refine wp_iald (M 90 x1) dX12_digest_64 kd_90 sz_90 o3 q2 (⟨by omega, by omega⟩) rfl ?_
    obtain ⟨o4, h⟩ := h
    refine wp_i2l dX12_digest_65 o4 ?_
    refine wp_callV (e1 := 0) (as := [Jv (M 90 x1)]) (S := []) dX12_digest_66 (cs_X12_320 rfl) kd_88 rfl rfl (Nat.le_of_ble_eq_true rfl) (Nat.le_of_ble_eq_true rfl) h (fun v5 M5 q5 r5 => ?_)
    have h := q5
    refine wp_iconst dX12_digest_69 ?_
    refine wp_istore_n (L2 := [some (Rv 88), some (Iv x1), some (Iv 0)]) dX12_digest_70 (Nat.le_of_ble_eq_true rfl) (Nat.le_of_ble_eq_true rfl) rfl ?_
    exact h
theorem gX12_digest_71 {x1 x2 : Int}  {M : Mem} {Q : Vl → Mem → Prop} (h : 0 ≤ x1 ∧ (x1 < 6 ∧ (inr x2 ∧ (inr (M 90 x1) ∧ (((M 90 x1) ≤ x2 → wp 0 yX12_digest 52 [some (Rv 88), some (Iv (x1 + 1)), none] [] M Q) ∧ (x2 < (M 90 x1) → cl 0 yX12_rowAt [Rv 88, Iv x1, Iv x2] M (QI (fun z6 M6 => (inr z6 ∧ (cl 0 yX12_mix [Rv 88, Jv z6] M6 (QV (fun M8 => (wp 0 yX12_digest 71 [some (Rv 88), some (Iv x1), some (Iv (x2 + 1))] [] M8 Q))))))))))))) : wp 0 yX12_digest 71 [some (Rv 88), some (Iv x1), some (Iv x2)] [] M Q := by
  refine wp_iload_n dX12_digest_71 rfl ?_
  refine wp_aload_n dX12_digest_72 rfl (by decide) ?_
  refine wp_getf (t := Rv 90) 90 dX12_digest_73 (fl_X12_13 rfl) kd_88 rfl rfl ?_
  refine wp_iload_n dX12_digest_76 rfl ?_
  obtain ⟨o1, h⟩ := h
  obtain ⟨o2, h⟩ := h
  refine wp_iald (M 90 x1) dX12_digest_77 kd_90 sz_90 o1 o2 (⟨by omega, by omega⟩) rfl ?_
  obtain ⟨o3, h⟩ := h
  obtain ⟨o4, h⟩ := h
  refine wp_icmp_ge (tgt := 98) dX12_digest_78 (by decide) o3 o4 (fun q5 => ?_) (fun q5 => ?_)
  · have h := h.1 q5
    refine wp_iinc (L2 := [some (Rv 88), some (Iv (x1 + 1)), some (Iv x2)]) dX12_digest_98 rfl (Nat.le_of_ble_eq_true rfl) (Nat.le_of_ble_eq_true rfl) rfl ?_
    refine wp_goto (tgt := 52) dX12_digest_101 (by decide) ?_
    exact wp_weak [true, true, false] rfl h
  · have h := h.2 q5
    refine wp_aload_n dX12_digest_81 rfl (by decide) ?_
    refine wp_aload_n dX12_digest_82 rfl (by decide) ?_
    refine wp_iload_n dX12_digest_83 rfl ?_
    refine wp_iload_n dX12_digest_84 rfl ?_
    refine wp_callV (e1 := 0) (as := [Iv x1, Iv x2]) (S := [Rv 88]) dX12_digest_85 (cs_X12_138 rfl) kd_88 rfl rfl (Nat.le_of_ble_eq_true rfl) (Nat.le_of_ble_eq_true rfl) h (fun v6 M6 q6 r6 => ?_)
    obtain ⟨z6, rfl⟩ := retV_i r6 rfl
    have h := q6
    obtain ⟨o7, h⟩ := h
    refine wp_i2l dX12_digest_88 o7 ?_
    refine wp_callV (e1 := 0) (as := [Jv z6]) (S := []) dX12_digest_89 (cs_X12_320 rfl) kd_88 rfl rfl (Nat.le_of_ble_eq_true rfl) (Nat.le_of_ble_eq_true rfl) h (fun v8 M8 q8 r8 => ?_)
    have h := q8
    refine wp_iinc (L2 := [some (Rv 88), some (Iv x1), some (Iv (x2 + 1))]) dX12_digest_92 rfl (Nat.le_of_ble_eq_true rfl) (Nat.le_of_ble_eq_true rfl) rfl ?_
    refine wp_goto (tgt := 71) dX12_digest_95 (by decide) ?_
    exact h
theorem gX12_digest_106 {x1 : Int}  {M : Mem} {Q : Vl → Mem → Prop} (h : inr x1 ∧ ((4 ≤ x1 → Q (Jv (M 88 43)) M) ∧ (x1 < 4 → 0 ≤ x1 ∧ (inr (M 93 x1) ∧ (cl 0 yX12_mix [Rv 88, Jv (M 93 x1)] M (QV (fun M5 => (wp 0 yX12_digest 124 [some (Rv 88), some (Iv x1), some (Iv 0)] [] M5 Q)))))))) : wp 0 yX12_digest 106 [some (Rv 88), some (Iv x1), none] [] M Q := by
  refine wp_iload_n dX12_digest_106 rfl ?_
  refine wp_iconst dX12_digest_107 ?_
  obtain ⟨o1, h⟩ := h
  refine wp_icmp_ge (tgt := 157) dX12_digest_108 (by decide) o1 (by decide) (fun q2 => ?_) (fun q2 => ?_)
  · have h := h.1 q2
    refine wp_aload_n dX12_digest_157 rfl (by decide) ?_
    refine wp_getf (t := Jv (M 88 43)) (M 88 43) dX12_digest_158 (fl_X12_317 rfl) kd_88 rfl rfl ?_
    exact wp_lret dX12_digest_161 rfl (Or.inr ⟨rfl, rfl, rfl, by decide⟩) rfl h
  · have h := h.2 q2
    refine wp_aload_n dX12_digest_111 rfl (by decide) ?_
    refine wp_aload_n dX12_digest_112 rfl (by decide) ?_
    refine wp_getf (t := Rv 93) 93 dX12_digest_113 (fl_X12_22 rfl) kd_88 rfl rfl ?_
    refine wp_iload_n dX12_digest_116 rfl ?_
    obtain ⟨o3, h⟩ := h
    refine wp_iald (M 93 x1) dX12_digest_117 kd_93 sz_93 o3 q2 (⟨by omega, by omega⟩) rfl ?_
    obtain ⟨o4, h⟩ := h
    refine wp_i2l dX12_digest_118 o4 ?_
    refine wp_callV (e1 := 0) (as := [Jv (M 93 x1)]) (S := []) dX12_digest_119 (cs_X12_320 rfl) kd_88 rfl rfl (Nat.le_of_ble_eq_true rfl) (Nat.le_of_ble_eq_true rfl) h (fun v5 M5 q5 r5 => ?_)
    have h := q5
    refine wp_iconst dX12_digest_122 ?_
    refine wp_istore_n (L2 := [some (Rv 88), some (Iv x1), some (Iv 0)]) dX12_digest_123 (Nat.le_of_ble_eq_true rfl) (Nat.le_of_ble_eq_true rfl) rfl ?_
    exact h
theorem gX12_digest_124 {x1 x2 : Int}  {M : Mem} {Q : Vl → Mem → Prop} (h : 0 ≤ x1 ∧ (x1 < 4 ∧ (inr x2 ∧ (inr (M 93 x1) ∧ (((M 93 x1) ≤ x2 → wp 0 yX12_digest 106 [some (Rv 88), some (Iv (x1 + 1)), none] [] M Q) ∧ (x2 < (M 93 x1) → cl 0 yX12_byteAt [Rv 88, Iv x1, Iv x2] M (QI (fun z6 M6 => (inr z6 ∧ (cl 0 yX12_mix [Rv 88, Jv z6] M6 (QV (fun M8 => (wp 0 yX12_digest 124 [some (Rv 88), some (Iv x1), some (Iv (x2 + 1))] [] M8 Q))))))))))))) : wp 0 yX12_digest 124 [some (Rv 88), some (Iv x1), some (Iv x2)] [] M Q := by
  refine wp_iload_n dX12_digest_124 rfl ?_
  refine wp_aload_n dX12_digest_125 rfl (by decide) ?_
  refine wp_getf (t := Rv 93) 93 dX12_digest_126 (fl_X12_22 rfl) kd_88 rfl rfl ?_
  refine wp_iload_n dX12_digest_129 rfl ?_
  obtain ⟨o1, h⟩ := h
  obtain ⟨o2, h⟩ := h
  refine wp_iald (M 93 x1) dX12_digest_130 kd_93 sz_93 o1 o2 (⟨by omega, by omega⟩) rfl ?_
  obtain ⟨o3, h⟩ := h
  obtain ⟨o4, h⟩ := h
  refine wp_icmp_ge (tgt := 151) dX12_digest_131 (by decide) o3 o4 (fun q5 => ?_) (fun q5 => ?_)
  · have h := h.1 q5
    refine wp_iinc (L2 := [some (Rv 88), some (Iv (x1 + 1)), some (Iv x2)]) dX12_digest_151 rfl (Nat.le_of_ble_eq_true rfl) (Nat.le_of_ble_eq_true rfl) rfl ?_
    refine wp_goto (tgt := 106) dX12_digest_154 (by decide) ?_
    exact wp_weak [true, true, false] rfl h
  · have h := h.2 q5
    refine wp_aload_n dX12_digest_134 rfl (by decide) ?_
    refine wp_aload_n dX12_digest_135 rfl (by decide) ?_
    refine wp_iload_n dX12_digest_136 rfl ?_
    refine wp_iload_n dX12_digest_137 rfl ?_
    refine wp_callV (e1 := 0) (as := [Iv x1, Iv x2]) (S := [Rv 88]) dX12_digest_138 (cs_X12_172 rfl) kd_88 rfl rfl (Nat.le_of_ble_eq_true rfl) (Nat.le_of_ble_eq_true rfl) h (fun v6 M6 q6 r6 => ?_)
    obtain ⟨z6, rfl⟩ := retV_i r6 rfl
    have h := q6
    obtain ⟨o7, h⟩ := h
    refine wp_i2l dX12_digest_141 o7 ?_
    refine wp_callV (e1 := 0) (as := [Jv z6]) (S := []) dX12_digest_142 (cs_X12_320 rfl) kd_88 rfl rfl (Nat.le_of_ble_eq_true rfl) (Nat.le_of_ble_eq_true rfl) h (fun v8 M8 q8 r8 => ?_)
    have h := q8
    refine wp_iinc (L2 := [some (Rv 88), some (Iv x1), some (Iv (x2 + 1))]) dX12_digest_145 rfl (Nat.le_of_ble_eq_true rfl) (Nat.le_of_ble_eq_true rfl) rfl ?_
    refine wp_goto (tgt := 124) dX12_digest_148 (by decide) ?_
    exact h
