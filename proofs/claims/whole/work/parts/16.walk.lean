theorem gX11_row {x1 x2 : Int}  {M : Mem} {Q : Vl → Mem → Prop} (h : cl 0 yX11_noRow [Iv x1] M (QI (fun z1 M1 => ((z1 ≠ 0 → Q (Iv (-1)) M1) ∧ (z1 = 0 → inr x2 ∧ ((x2 ≤ 40 → ((0 ≤ x2 → 0 ≤ x1 ∧ (x1 < 6 ∧ (cl 0 yX3_begin [Rv (35 + 2 * x1), Iv x2, Iv 0] M1 (QV (fun M8 => (Q (Iv x2) M8)))))) ∧ (x2 < 0 → cl 0 yX11_found [Rv 1, Iv 5] M1 (QI (fun z9 M9 => (Q (Iv z9) M9)))))) ∧ (40 < x2 → Q (Iv (-1)) M1))))))) : wp 0 yX11_row 0 [some (Rv 1), some (Iv x1), some (Iv x2)] [] M Q := by
  refine wp_iload_n dX11_row_0 rfl ?_
  refine wp_callS (e1 := 0) (as := [Iv x1]) (S := []) dX11_row_1 (cs_X11_113 rfl) rfl rfl (Nat.le_of_ble_eq_true rfl) (Nat.le_of_ble_eq_true rfl) h (fun v1 M1 q1 r1 => ?_)
  obtain ⟨z1, rfl, hz1⟩ := retV_z r1 rfl
  have h := q1
  refine wp_if_ne (tgt := 13) dX11_row_4 (by decide) (by have := hz1; omega) (fun q2 => ?_) (fun q2 => ?_)
  · have h := h.1 q2
    refine wp_iconst dX11_row_13 ?_
    exact wp_iret dX11_row_14 rfl (Or.inr ⟨rfl, rfl, rfl, by decide⟩) rfl h
  · have h := h.2 q2
    refine wp_iload_n dX11_row_7 rfl ?_
    refine wp_bipush dX11_row_8 (by decide) ?_
    obtain ⟨o3, h⟩ := h
    refine wp_icmp_le (tgt := 15) dX11_row_10 (by decide) o3 (by decide) (fun q4 => ?_) (fun q4 => ?_)
    · have h := h.1 q4
      refine wp_iload_n dX11_row_15 rfl ?_
      refine wp_if_ge (tgt := 25) dX11_row_16 (by decide) o3 (fun q5 => ?_) (fun q5 => ?_)
      · have h := h.1 q5
        refine wp_aload_n dX11_row_25 rfl (by decide) ?_
        refine wp_getf (t := Rv 2) 2 dX11_row_26 (fl_X11_11 rfl) kd_1 rfl rfl ?_
        refine wp_iload_n dX11_row_29 rfl ?_
        obtain ⟨o6, h⟩ := h
        obtain ⟨o7, h⟩ := h
        refine wp_aaldL (35 + 2 * x1) dX11_row_30 kd_2 sz_2 o6 o7 (⟨by omega, by omega⟩) rfl ?_
        refine wp_iload_n dX11_row_31 rfl ?_
        refine wp_iconst dX11_row_32 ?_
        refine wp_callV (e1 := 0) (as := [Iv x2, Iv 0]) (S := []) dX11_row_33 (cs_X11_121 rfl) (isL_row o6 o7).k rfl rfl (Nat.le_of_ble_eq_true rfl) (Nat.le_of_ble_eq_true rfl) h (fun v8 M8 q8 r8 => ?_)
        have h := q8
        refine wp_iload_n dX11_row_36 rfl ?_
        exact wp_iret dX11_row_37 rfl (Or.inr ⟨rfl, rfl, rfl, by decide⟩) rfl h
      · have h := h.2 q5
        refine wp_aload_n dX11_row_19 rfl (by decide) ?_
        refine wp_iconst dX11_row_20 ?_
        refine wp_callV (e1 := 0) (as := [Iv 5]) (S := []) dX11_row_21 (cs_X11_117 rfl) kd_1 rfl rfl (Nat.le_of_ble_eq_true rfl) (Nat.le_of_ble_eq_true rfl) h (fun v9 M9 q9 r9 => ?_)
        obtain ⟨z9, rfl⟩ := retV_i r9 rfl
        have h := q9
        exact wp_iret dX11_row_24 rfl (Or.inr ⟨rfl, rfl, rfl, by decide⟩) rfl h
    · have h := h.2 q4
      refine wp_iconst dX11_row_13 ?_
      exact wp_iret dX11_row_14 rfl (Or.inr ⟨rfl, rfl, rfl, by decide⟩) rfl h
theorem eX11_row {x1 x2 : Int}  {M : Mem} {Q : Vl → Mem → Prop} (h : cl 0 yX11_noRow [Iv x1] M (QI (fun z1 M1 => ((z1 ≠ 0 → Q (Iv (-1)) M1) ∧ (z1 = 0 → inr x2 ∧ ((x2 ≤ 40 → ((0 ≤ x2 → 0 ≤ x1 ∧ (x1 < 6 ∧ (cl 0 yX3_begin [Rv (35 + 2 * x1), Iv x2, Iv 0] M1 (QV (fun M8 => (Q (Iv x2) M8)))))) ∧ (x2 < 0 → cl 0 yX11_found [Rv 1, Iv 5] M1 (QI (fun z9 M9 => (Q (Iv z9) M9)))))) ∧ (40 < x2 → Q (Iv (-1)) M1))))))) : cl 0 yX11_row [Rv 1, Iv x1, Iv x2] M Q := enterG (by decide +kernel) (by exact Or.inr (Or.inl rfl)) (Nat.le_of_ble_eq_true rfl) rfl (gX11_row h)
theorem gX11_lay {x1 x2 x3 : Int}  {M : Mem} {Q : Vl → Mem → Prop} (h : cl 0 yX11_refusePlace [Rv 1, Iv x1, Iv x2] M (QI (fun z1 M1 => (inr z1 ∧ ((z1 = 0 → 0 ≤ x1 ∧ (x1 < 6 ∧ (0 ≤ x2 ∧ (x2 < 40 ∧ (Q (Iv 1) (up (up M1 1 4 (M1 ((35 + 2 * x1) + 1) x2)) ((35 + 2 * x1) + 1) x2 x3)))))) ∧ (z1 ≠ 0 → Q (Iv z1) M1)))))) : wp 0 yX11_lay 0 [some (Rv 1), some (Iv x1), some (Iv x2), some (Iv x3), none] [] M Q := by
  refine wp_aload_n dX11_lay_0 rfl (by decide) ?_
  refine wp_iload_n dX11_lay_1 rfl ?_
  refine wp_iload_n dX11_lay_2 rfl ?_
  refine wp_callV (e1 := 0) (as := [Iv x1, Iv x2]) (S := []) dX11_lay_3 (cs_X11_125 rfl) kd_1 rfl rfl (Nat.le_of_ble_eq_true rfl) (Nat.le_of_ble_eq_true rfl) h (fun v1 M1 q1 r1 => ?_)
  obtain ⟨z1, rfl⟩ := retV_i r1 rfl
  have h := q1
  refine wp_istore (L2 := [some (Rv 1), some (Iv x1), some (Iv x2), some (Iv x3), some (Iv z1)]) dX11_lay_6 (Nat.le_of_ble_eq_true rfl) (Nat.le_of_ble_eq_true rfl) rfl ?_
  refine wp_iload dX11_lay_8 rfl ?_
  obtain ⟨o2, h⟩ := h
  refine wp_if_eq (tgt := 16) dX11_lay_10 (by decide) o2 (fun q3 => ?_) (fun q3 => ?_)
  · have h := h.1 q3
    refine wp_aload_n dX11_lay_16 rfl (by decide) ?_
    refine wp_aload_n dX11_lay_17 rfl (by decide) ?_
    refine wp_getf (t := Rv 2) 2 dX11_lay_18 (fl_X11_11 rfl) kd_1 rfl rfl ?_
    refine wp_iload_n dX11_lay_21 rfl ?_
    obtain ⟨o4, h⟩ := h
    obtain ⟨o5, h⟩ := h
    refine wp_aaldL (35 + 2 * x1) dX11_lay_22 kd_2 sz_2 o4 o5 (⟨by omega, by omega⟩) rfl ?_
    refine wp_getf (t := Rv ((35 + 2 * x1) + 1)) ((35 + 2 * x1) + 1) dX11_lay_23 (fl_X11_129 rfl) (isL_row o4 o5).k rfl rfl ?_
    refine wp_iload_n dX11_lay_26 rfl ?_
    obtain ⟨o6, h⟩ := h
    obtain ⟨o7, h⟩ := h
    refine wp_iald (M1 ((35 + 2 * x1) + 1) x2) dX11_lay_27 (isL_row o4 o5).a.k (isL_row o4 o5).a.n o6 o7 (⟨by omega, by omega⟩) rfl ?_
    refine wp_putf (x := (M1 ((35 + 2 * x1) + 1) x2)) dX11_lay_28 (fl_X11_28 rfl) kd_1 (fun _ => rfl) rfl rfl trivial ?_
    refine wp_aload_n dX11_lay_31 rfl (by decide) ?_
    refine wp_getf (t := Rv 2) 2 dX11_lay_32 (fl_X11_11 rfl) kd_1 rfl rfl ?_
    refine wp_iload_n dX11_lay_35 rfl ?_
    refine wp_aaldL (35 + 2 * x1) dX11_lay_36 kd_2 sz_2 o4 o5 (⟨by omega, by omega⟩) rfl ?_
    refine wp_getf (t := Rv ((35 + 2 * x1) + 1)) ((35 + 2 * x1) + 1) dX11_lay_37 (fl_X11_129 rfl) (isL_row o4 o5).k rfl rfl ?_
    refine wp_iload_n dX11_lay_40 rfl ?_
    refine wp_iload_n dX11_lay_41 rfl ?_
    refine wp_iast dX11_lay_42 (isL_row o4 o5).a.k (isL_row o4 o5).a.n o6 o7 (⟨by omega, by omega⟩) ?_
    refine wp_iconst dX11_lay_43 ?_
    exact wp_iret dX11_lay_44 rfl (Or.inr ⟨rfl, rfl, rfl, by decide⟩) rfl h
  · have h := h.2 q3
    refine wp_iload dX11_lay_13 rfl ?_
    exact wp_iret dX11_lay_15 rfl (Or.inr ⟨rfl, rfl, rfl, by decide⟩) rfl h
theorem eX11_lay {x1 x2 x3 : Int}  {M : Mem} {Q : Vl → Mem → Prop} (h : cl 0 yX11_refusePlace [Rv 1, Iv x1, Iv x2] M (QI (fun z1 M1 => (inr z1 ∧ ((z1 = 0 → 0 ≤ x1 ∧ (x1 < 6 ∧ (0 ≤ x2 ∧ (x2 < 40 ∧ (Q (Iv 1) (up (up M1 1 4 (M1 ((35 + 2 * x1) + 1) x2)) ((35 + 2 * x1) + 1) x2 x3)))))) ∧ (z1 ≠ 0 → Q (Iv z1) M1)))))) : cl 0 yX11_lay [Rv 1, Iv x1, Iv x2, Iv x3] M Q := enterG (by decide +kernel) (by exact Or.inr (Or.inl rfl)) (Nat.le_of_ble_eq_true rfl) rfl (gX11_lay h)
theorem gX11_at {x1 x2 : Int}  {M : Mem} {Q : Vl → Mem → Prop} (h : cl 0 yX11_refusePlace [Rv 1, Iv x1, Iv x2] M (QI (fun z1 M1 => (inr z1 ∧ ((z1 = 0 → 0 ≤ x1 ∧ (x1 < 6 ∧ (0 ≤ x2 ∧ (x2 < 40 ∧ (Q (Iv 1) (up M1 1 4 (M1 ((35 + 2 * x1) + 1) x2))))))) ∧ (z1 ≠ 0 → Q (Iv z1) M1)))))) : wp 0 yX11_at 0 [some (Rv 1), some (Iv x1), some (Iv x2), none] [] M Q := by
  refine wp_aload_n dX11_at_0 rfl (by decide) ?_
  refine wp_iload_n dX11_at_1 rfl ?_
  refine wp_iload_n dX11_at_2 rfl ?_
  refine wp_callV (e1 := 0) (as := [Iv x1, Iv x2]) (S := []) dX11_at_3 (cs_X11_125 rfl) kd_1 rfl rfl (Nat.le_of_ble_eq_true rfl) (Nat.le_of_ble_eq_true rfl) h (fun v1 M1 q1 r1 => ?_)
  obtain ⟨z1, rfl⟩ := retV_i r1 rfl
  have h := q1
  refine wp_istore_n (L2 := [some (Rv 1), some (Iv x1), some (Iv x2), some (Iv z1)]) dX11_at_6 (Nat.le_of_ble_eq_true rfl) (Nat.le_of_ble_eq_true rfl) rfl ?_
  refine wp_iload_n dX11_at_7 rfl ?_
  obtain ⟨o2, h⟩ := h
  refine wp_if_eq (tgt := 13) dX11_at_8 (by decide) o2 (fun q3 => ?_) (fun q3 => ?_)
  · have h := h.1 q3
    refine wp_aload_n dX11_at_13 rfl (by decide) ?_
    refine wp_aload_n dX11_at_14 rfl (by decide) ?_
    refine wp_getf (t := Rv 2) 2 dX11_at_15 (fl_X11_11 rfl) kd_1 rfl rfl ?_
    refine wp_iload_n dX11_at_18 rfl ?_
    obtain ⟨o4, h⟩ := h
    obtain ⟨o5, h⟩ := h
    refine wp_aaldL (35 + 2 * x1) dX11_at_19 kd_2 sz_2 o4 o5 (⟨by omega, by omega⟩) rfl ?_
    refine wp_getf (t := Rv ((35 + 2 * x1) + 1)) ((35 + 2 * x1) + 1) dX11_at_20 (fl_X11_129 rfl) (isL_row o4 o5).k rfl rfl ?_
    refine wp_iload_n dX11_at_23 rfl ?_
    obtain ⟨o6, h⟩ := h
    obtain ⟨o7, h⟩ := h
    refine wp_iald (M1 ((35 + 2 * x1) + 1) x2) dX11_at_24 (isL_row o4 o5).a.k (isL_row o4 o5).a.n o6 o7 (⟨by omega, by omega⟩) rfl ?_
    refine wp_putf (x := (M1 ((35 + 2 * x1) + 1) x2)) dX11_at_25 (fl_X11_28 rfl) kd_1 (fun _ => rfl) rfl rfl trivial ?_
    refine wp_iconst dX11_at_28 ?_
    exact wp_iret dX11_at_29 rfl (Or.inr ⟨rfl, rfl, rfl, by decide⟩) rfl h
  · have h := h.2 q3
    refine wp_iload_n dX11_at_11 rfl ?_
    exact wp_iret dX11_at_12 rfl (Or.inr ⟨rfl, rfl, rfl, by decide⟩) rfl h
theorem eX11_at {x1 x2 : Int}  {M : Mem} {Q : Vl → Mem → Prop} (h : cl 0 yX11_refusePlace [Rv 1, Iv x1, Iv x2] M (QI (fun z1 M1 => (inr z1 ∧ ((z1 = 0 → 0 ≤ x1 ∧ (x1 < 6 ∧ (0 ≤ x2 ∧ (x2 < 40 ∧ (Q (Iv 1) (up M1 1 4 (M1 ((35 + 2 * x1) + 1) x2))))))) ∧ (z1 ≠ 0 → Q (Iv z1) M1)))))) : cl 0 yX11_at [Rv 1, Iv x1, Iv x2] M Q := enterG (by decide +kernel) (by exact Or.inr (Or.inl rfl)) (Nat.le_of_ble_eq_true rfl) rfl (gX11_at h)
theorem gX11_tear {x1 : Int}  {M : Mem} {Q : Vl → Mem → Prop} (h : cl 0 yX11_refuseRow [Rv 1, Iv x1] M (QI (fun z1 M1 => (inr z1 ∧ ((z1 = 0 → 0 ≤ x1 ∧ (x1 < 6 ∧ (Q (Iv 1) (up M1 (35 + 2 * x1) 1 (-1))))) ∧ (z1 ≠ 0 → Q (Iv z1) M1)))))) : wp 0 yX11_tear 0 [some (Rv 1), some (Iv x1), none] [] M Q := by
  refine wp_aload_n dX11_tear_0 rfl (by decide) ?_
  refine wp_iload_n dX11_tear_1 rfl ?_
  refine wp_callV (e1 := 0) (as := [Iv x1]) (S := []) dX11_tear_2 (cs_X11_132 rfl) kd_1 rfl rfl (Nat.le_of_ble_eq_true rfl) (Nat.le_of_ble_eq_true rfl) h (fun v1 M1 q1 r1 => ?_)
  obtain ⟨z1, rfl⟩ := retV_i r1 rfl
  have h := q1
  refine wp_istore_n (L2 := [some (Rv 1), some (Iv x1), some (Iv z1)]) dX11_tear_5 (Nat.le_of_ble_eq_true rfl) (Nat.le_of_ble_eq_true rfl) rfl ?_
  refine wp_iload_n dX11_tear_6 rfl ?_
  obtain ⟨o2, h⟩ := h
  refine wp_if_eq (tgt := 12) dX11_tear_7 (by decide) o2 (fun q3 => ?_) (fun q3 => ?_)
  · have h := h.1 q3
    refine wp_aload_n dX11_tear_12 rfl (by decide) ?_
    refine wp_getf (t := Rv 2) 2 dX11_tear_13 (fl_X11_11 rfl) kd_1 rfl rfl ?_
    refine wp_iload_n dX11_tear_16 rfl ?_
    obtain ⟨o4, h⟩ := h
    obtain ⟨o5, h⟩ := h
    refine wp_aaldL (35 + 2 * x1) dX11_tear_17 kd_2 sz_2 o4 o5 (⟨by omega, by omega⟩) rfl ?_
    refine wp_iconst dX11_tear_18 ?_
    refine wp_putf (x := (-1)) dX11_tear_19 (fl_X11_135 rfl) (isL_row o4 o5).k (fun _ => rfl) rfl rfl trivial ?_
    refine wp_iconst dX11_tear_22 ?_
    exact wp_iret dX11_tear_23 rfl (Or.inr ⟨rfl, rfl, rfl, by decide⟩) rfl h
  · have h := h.2 q3
    refine wp_iload_n dX11_tear_10 rfl ?_
    exact wp_iret dX11_tear_11 rfl (Or.inr ⟨rfl, rfl, rfl, by decide⟩) rfl h
theorem eX11_tear {x1 : Int}  {M : Mem} {Q : Vl → Mem → Prop} (h : cl 0 yX11_refuseRow [Rv 1, Iv x1] M (QI (fun z1 M1 => (inr z1 ∧ ((z1 = 0 → 0 ≤ x1 ∧ (x1 < 6 ∧ (Q (Iv 1) (up M1 (35 + 2 * x1) 1 (-1))))) ∧ (z1 ≠ 0 → Q (Iv z1) M1)))))) : cl 0 yX11_tear [Rv 1, Iv x1] M Q := enterG (by decide +kernel) (by exact Or.inr (Or.inl rfl)) (Nat.le_of_ble_eq_true rfl) rfl (gX11_tear h)
theorem gX11_copy {x1 x2 x3 x4 x5 : Int}  {M : Mem} {Q : Vl → Mem → Prop} (h : cl 0 yX11_noRow [Iv x1] M (QI (fun z1 M1 => ((z1 ≠ 0 → Q (Iv (-1)) M1) ∧ (z1 = 0 → cl 0 yX11_noRow [Iv x3] M1 (QI (fun z3 M3 => ((z3 = 0 → inr x5 ∧ ((0 ≤ x5 → 0 ≤ x1 ∧ (x1 < 6 ∧ (cl 0 yX3_isMissing [Rv (35 + 2 * x1)] M3 (QI (fun z9 M9 => ((z9 ≠ 0 → cl 0 yX11_found [Rv 1, Iv 1] M9 (QI (fun z11 M11 => (Q (Iv z11) M11)))) ∧ (z9 = 0 → 0 ≤ x3 ∧ (x3 < 6 ∧ (cl 0 yX3_isMissing [Rv (35 + 2 * x3)] M9 (QI (fun z14 M14 => ((z14 = 0 → cl 0 yX3_reaches [Rv (35 + 2 * x1), Iv x2, Iv x5] M14 (QI (fun z16 M16 => ((z16 = 0 → cl 0 yX11_found [Rv 1, Iv 2] M16 (QI (fun z18 M18 => (Q (Iv z18) M18)))) ∧ (z16 ≠ 0 → cl 0 yX3_reaches [Rv (35 + 2 * x3), Iv x4, Iv x5] M16 (QI (fun z19 M19 => ((z19 ≠ 0 → 0 ≤ x2 ∧ (0 ≤ x4 ∧ (x2 + x5 ≤ 40 ∧ (x4 + x5 ≤ 40 ∧ (Q (Iv 1) (setA M19 ((35 + 2 * x3) + 1) (cpyf M19 ((35 + 2 * x1) + 1) x2 ((35 + 2 * x3) + 1) x4 x5))))))) ∧ (z19 = 0 → cl 0 yX11_found [Rv 1, Iv 2] M19 (QI (fun z25 M25 => (Q (Iv z25) M25)))))))))))) ∧ (z14 ≠ 0 → cl 0 yX11_found [Rv 1, Iv 1] M14 (QI (fun z26 M26 => (Q (Iv z26) M26)))))))))))))))) ∧ (x5 < 0 → cl 0 yX11_found [Rv 1, Iv 5] M3 (QI (fun z27 M27 => (Q (Iv z27) M27)))))) ∧ (z3 ≠ 0 → Q (Iv (-1)) M3))))))))) : wp 0 yX11_copy 0 [some (Rv 1), some (Iv x1), some (Iv x2), some (Iv x3), some (Iv x4), some (Iv x5)] [] M Q := by
  refine wp_iload_n dX11_copy_0 rfl ?_
  refine wp_callS (e1 := 0) (as := [Iv x1]) (S := []) dX11_copy_1 (cs_X11_113 rfl) rfl rfl (Nat.le_of_ble_eq_true rfl) (Nat.le_of_ble_eq_true rfl) h (fun v1 M1 q1 r1 => ?_)
  obtain ⟨z1, rfl, hz1⟩ := retV_z r1 rfl
  have h := q1
  refine wp_if_ne (tgt := 14) dX11_copy_4 (by decide) (by have := hz1; omega) (fun q2 => ?_) (fun q2 => ?_)
  · have h := h.1 q2
    refine wp_iconst dX11_copy_14 ?_
    exact wp_iret dX11_copy_15 rfl (Or.inr ⟨rfl, rfl, rfl, by decide⟩) rfl h
  · have h := h.2 q2
    refine wp_iload_n dX11_copy_7 rfl ?_
    refine wp_callS (e1 := 0) (as := [Iv x3]) (S := []) dX11_copy_8 (cs_X11_113 rfl) rfl rfl (Nat.le_of_ble_eq_true rfl) (Nat.le_of_ble_eq_true rfl) h (fun v3 M3 q3 r3 => ?_)
    obtain ⟨z3, rfl, hz3⟩ := retV_z r3 rfl
    have h := q3
    refine wp_if_eq (tgt := 16) dX11_copy_11 (by decide) (by have := hz3; omega) (fun q4 => ?_) (fun q4 => ?_)
    · have h := h.1 q4
      refine wp_iload dX11_copy_16 rfl ?_
      obtain ⟨o5, h⟩ := h
      refine wp_if_ge (tgt := 27) dX11_copy_18 (by decide) o5 (fun q6 => ?_) (fun q6 => ?_)
      · have h := h.1 q6
        refine wp_aload_n dX11_copy_27 rfl (by decide) ?_
        refine wp_getf (t := Rv 2) 2 dX11_copy_28 (fl_X11_11 rfl) kd_1 rfl rfl ?_
        refine wp_iload_n dX11_copy_31 rfl ?_
        obtain ⟨o7, h⟩ := h
        obtain ⟨o8, h⟩ := h
        refine wp_aaldL (35 + 2 * x1) dX11_copy_32 kd_2 sz_2 o7 o8 (⟨by omega, by omega⟩) rfl ?_
        refine wp_callV (e1 := 0) (as := []) (S := []) dX11_copy_33 (cs_X11_138 rfl) (isL_row o7 o8).k rfl rfl (Nat.le_of_ble_eq_true rfl) (Nat.le_of_ble_eq_true rfl) h (fun v9 M9 q9 r9 => ?_)
        obtain ⟨z9, rfl, hz9⟩ := retV_z r9 rfl
        have h := q9
        refine wp_if_ne (tgt := 51) dX11_copy_36 (by decide) (by have := hz9; omega) (fun q10 => ?_) (fun q10 => ?_)
        · have h := h.1 q10
          refine wp_aload_n dX11_copy_51 rfl (by decide) ?_
          refine wp_iconst dX11_copy_52 ?_
          refine wp_callV (e1 := 0) (as := [Iv 1]) (S := []) dX11_copy_53 (cs_X11_117 rfl) kd_1 rfl rfl (Nat.le_of_ble_eq_true rfl) (Nat.le_of_ble_eq_true rfl) h (fun v11 M11 q11 r11 => ?_)
          obtain ⟨z11, rfl⟩ := retV_i r11 rfl
          have h := q11
          exact wp_iret dX11_copy_56 rfl (Or.inr ⟨rfl, rfl, rfl, by decide⟩) rfl h
        · have h := h.2 q10
          refine wp_aload_n dX11_copy_39 rfl (by decide) ?_
          refine wp_getf (t := Rv 2) 2 dX11_copy_40 (fl_X11_11 rfl) kd_1 rfl rfl ?_
          refine wp_iload_n dX11_copy_43 rfl ?_
          obtain ⟨o12, h⟩ := h
          obtain ⟨o13, h⟩ := h
          refine wp_aaldL (35 + 2 * x3) dX11_copy_44 kd_2 sz_2 o12 o13 (⟨by omega, by omega⟩) rfl ?_
          refine wp_callV (e1 := 0) (as := []) (S := []) dX11_copy_45 (cs_X11_138 rfl) (isL_row o12 o13).k rfl rfl (Nat.le_of_ble_eq_true rfl) (Nat.le_of_ble_eq_true rfl) h (fun v14 M14 q14 r14 => ?_)
          obtain ⟨z14, rfl, hz14⟩ := retV_z r14 rfl
          have h := q14
          refine wp_if_eq (tgt := 57) dX11_copy_48 (by decide) (by have := hz14; omega) (fun q15 => ?_) (fun q15 => ?_)
          · have h := h.1 q15
            refine wp_aload_n dX11_copy_57 rfl (by decide) ?_
            refine wp_getf (t := Rv 2) 2 dX11_copy_58 (fl_X11_11 rfl) kd_1 rfl rfl ?_
            refine wp_iload_n dX11_copy_61 rfl ?_
            refine wp_aaldL (35 + 2 * x1) dX11_copy_62 kd_2 sz_2 o7 o8 (⟨by omega, by omega⟩) rfl ?_
            refine wp_iload_n dX11_copy_63 rfl ?_
            refine wp_iload dX11_copy_64 rfl ?_
            refine wp_callV (e1 := 0) (as := [Iv x2, Iv x5]) (S := []) dX11_copy_66 (cs_X11_142 rfl) (isL_row o7 o8).k rfl rfl (Nat.le_of_ble_eq_true rfl) (Nat.le_of_ble_eq_true rfl) h (fun v16 M16 q16 r16 => ?_)
            obtain ⟨z16, rfl, hz16⟩ := retV_z r16 rfl
            have h := q16
            refine wp_if_eq (tgt := 88) dX11_copy_69 (by decide) (by have := hz16; omega) (fun q17 => ?_) (fun q17 => ?_)
            · have h := h.1 q17
              refine wp_aload_n dX11_copy_88 rfl (by decide) ?_
              refine wp_iconst dX11_copy_89 ?_
              refine wp_callV (e1 := 0) (as := [Iv 2]) (S := []) dX11_copy_90 (cs_X11_117 rfl) kd_1 rfl rfl (Nat.le_of_ble_eq_true rfl) (Nat.le_of_ble_eq_true rfl) h (fun v18 M18 q18 r18 => ?_)
              obtain ⟨z18, rfl⟩ := retV_i r18 rfl
              have h := q18
              exact wp_iret dX11_copy_93 rfl (Or.inr ⟨rfl, rfl, rfl, by decide⟩) rfl h
            · have h := h.2 q17
              refine wp_aload_n dX11_copy_72 rfl (by decide) ?_
              refine wp_getf (t := Rv 2) 2 dX11_copy_73 (fl_X11_11 rfl) kd_1 rfl rfl ?_
              refine wp_iload_n dX11_copy_76 rfl ?_
              refine wp_aaldL (35 + 2 * x3) dX11_copy_77 kd_2 sz_2 o12 o13 (⟨by omega, by omega⟩) rfl ?_
              refine wp_iload dX11_copy_78 rfl ?_
              refine wp_iload dX11_copy_80 rfl ?_
              refine wp_callV (e1 := 0) (as := [Iv x4, Iv x5]) (S := []) dX11_copy_82 (cs_X11_142 rfl) (isL_row o12 o13).k rfl rfl (Nat.le_of_ble_eq_true rfl) (Nat.le_of_ble_eq_true rfl) h (fun v19 M19 q19 r19 => ?_)
              obtain ⟨z19, rfl, hz19⟩ := retV_z r19 rfl
              have h := q19
              refine wp_if_ne (tgt := 94) dX11_copy_85 (by decide) (by have := hz19; omega) (fun q20 => ?_) (fun q20 => ?_)
              · have h := h.1 q20
                refine wp_aload_n dX11_copy_94 rfl (by decide) ?_
                refine wp_getf (t := Rv 2) 2 dX11_copy_95 (fl_X11_11 rfl) kd_1 rfl rfl ?_
                refine wp_iload_n dX11_copy_98 rfl ?_
                refine wp_aaldL (35 + 2 * x1) dX11_copy_99 kd_2 sz_2 o7 o8 (⟨by omega, by omega⟩) rfl ?_
                refine wp_getf (t := Rv ((35 + 2 * x1) + 1)) ((35 + 2 * x1) + 1) dX11_copy_100 (fl_X11_129 rfl) (isL_row o7 o8).k rfl rfl ?_
                refine wp_iload_n dX11_copy_103 rfl ?_
                refine wp_aload_n dX11_copy_104 rfl (by decide) ?_
                refine wp_getf (t := Rv 2) 2 dX11_copy_105 (fl_X11_11 rfl) kd_1 rfl rfl ?_
                refine wp_iload_n dX11_copy_108 rfl ?_
                refine wp_aaldL (35 + 2 * x3) dX11_copy_109 kd_2 sz_2 o12 o13 (⟨by omega, by omega⟩) rfl ?_
                refine wp_getf (t := Rv ((35 + 2 * x3) + 1)) ((35 + 2 * x3) + 1) dX11_copy_110 (fl_X11_129 rfl) (isL_row o12 o13).k rfl rfl ?_
                refine wp_iload dX11_copy_113 rfl ?_
                refine wp_iload dX11_copy_115 rfl ?_
                obtain ⟨o21, h⟩ := h
                obtain ⟨o22, h⟩ := h
                obtain ⟨o23, h⟩ := h
                obtain ⟨o24, h⟩ := h
                refine wp_copy dX11_copy_117 (ml_X11_146 rfl) (isL_row o7 o8).a.k (isL_row o12 o13).a.k (isL_row o7 o8).a.n (isL_row o12 o13).a.n o21 o22 q6 o23 o24 ⟨by omega, by omega⟩ ⟨by omega, by omega⟩ ⟨by omega, by omega⟩ (Nat.le_of_ble_eq_true rfl) (by decide) ?_
                refine wp_iconst dX11_copy_120 ?_
                exact wp_iret dX11_copy_121 rfl (Or.inr ⟨rfl, rfl, rfl, by decide⟩) rfl h
              · have h := h.2 q20
                refine wp_aload_n dX11_copy_88 rfl (by decide) ?_
                refine wp_iconst dX11_copy_89 ?_
                refine wp_callV (e1 := 0) (as := [Iv 2]) (S := []) dX11_copy_90 (cs_X11_117 rfl) kd_1 rfl rfl (Nat.le_of_ble_eq_true rfl) (Nat.le_of_ble_eq_true rfl) h (fun v25 M25 q25 r25 => ?_)
                obtain ⟨z25, rfl⟩ := retV_i r25 rfl
                have h := q25
                exact wp_iret dX11_copy_93 rfl (Or.inr ⟨rfl, rfl, rfl, by decide⟩) rfl h
          · have h := h.2 q15
            refine wp_aload_n dX11_copy_51 rfl (by decide) ?_
            refine wp_iconst dX11_copy_52 ?_
            refine wp_callV (e1 := 0) (as := [Iv 1]) (S := []) dX11_copy_53 (cs_X11_117 rfl) kd_1 rfl rfl (Nat.le_of_ble_eq_true rfl) (Nat.le_of_ble_eq_true rfl) h (fun v26 M26 q26 r26 => ?_)
            obtain ⟨z26, rfl⟩ := retV_i r26 rfl
            have h := q26
            exact wp_iret dX11_copy_56 rfl (Or.inr ⟨rfl, rfl, rfl, by decide⟩) rfl h
      · have h := h.2 q6
        refine wp_aload_n dX11_copy_21 rfl (by decide) ?_
        refine wp_iconst dX11_copy_22 ?_
        refine wp_callV (e1 := 0) (as := [Iv 5]) (S := []) dX11_copy_23 (cs_X11_117 rfl) kd_1 rfl rfl (Nat.le_of_ble_eq_true rfl) (Nat.le_of_ble_eq_true rfl) h (fun v27 M27 q27 r27 => ?_)
        obtain ⟨z27, rfl⟩ := retV_i r27 rfl
        have h := q27
        exact wp_iret dX11_copy_26 rfl (Or.inr ⟨rfl, rfl, rfl, by decide⟩) rfl h
    · have h := h.2 q4
      refine wp_iconst dX11_copy_14 ?_
      exact wp_iret dX11_copy_15 rfl (Or.inr ⟨rfl, rfl, rfl, by decide⟩) rfl h
theorem eX11_copy {x1 x2 x3 x4 x5 : Int}  {M : Mem} {Q : Vl → Mem → Prop} (h : cl 0 yX11_noRow [Iv x1] M (QI (fun z1 M1 => ((z1 ≠ 0 → Q (Iv (-1)) M1) ∧ (z1 = 0 → cl 0 yX11_noRow [Iv x3] M1 (QI (fun z3 M3 => ((z3 = 0 → inr x5 ∧ ((0 ≤ x5 → 0 ≤ x1 ∧ (x1 < 6 ∧ (cl 0 yX3_isMissing [Rv (35 + 2 * x1)] M3 (QI (fun z9 M9 => ((z9 ≠ 0 → cl 0 yX11_found [Rv 1, Iv 1] M9 (QI (fun z11 M11 => (Q (Iv z11) M11)))) ∧ (z9 = 0 → 0 ≤ x3 ∧ (x3 < 6 ∧ (cl 0 yX3_isMissing [Rv (35 + 2 * x3)] M9 (QI (fun z14 M14 => ((z14 = 0 → cl 0 yX3_reaches [Rv (35 + 2 * x1), Iv x2, Iv x5] M14 (QI (fun z16 M16 => ((z16 = 0 → cl 0 yX11_found [Rv 1, Iv 2] M16 (QI (fun z18 M18 => (Q (Iv z18) M18)))) ∧ (z16 ≠ 0 → cl 0 yX3_reaches [Rv (35 + 2 * x3), Iv x4, Iv x5] M16 (QI (fun z19 M19 => ((z19 ≠ 0 → 0 ≤ x2 ∧ (0 ≤ x4 ∧ (x2 + x5 ≤ 40 ∧ (x4 + x5 ≤ 40 ∧ (Q (Iv 1) (setA M19 ((35 + 2 * x3) + 1) (cpyf M19 ((35 + 2 * x1) + 1) x2 ((35 + 2 * x3) + 1) x4 x5))))))) ∧ (z19 = 0 → cl 0 yX11_found [Rv 1, Iv 2] M19 (QI (fun z25 M25 => (Q (Iv z25) M25)))))))))))) ∧ (z14 ≠ 0 → cl 0 yX11_found [Rv 1, Iv 1] M14 (QI (fun z26 M26 => (Q (Iv z26) M26)))))))))))))))) ∧ (x5 < 0 → cl 0 yX11_found [Rv 1, Iv 5] M3 (QI (fun z27 M27 => (Q (Iv z27) M27)))))) ∧ (z3 ≠ 0 → Q (Iv (-1)) M3))))))))) : cl 0 yX11_copy [Rv 1, Iv x1, Iv x2, Iv x3, Iv x4, Iv x5] M Q := enterG (by decide +kernel) (by exact Or.inr (Or.inl rfl)) (Nat.le_of_ble_eq_true rfl) rfl (gX11_copy h)
theorem gX11_mean {x1 : Int}  {M : Mem} {Q : Vl → Mem → Prop} (h : cl 0 yX11_refuseRow [Rv 1, Iv x1] M (QI (fun z1 M1 => (inr z1 ∧ ((z1 = 0 → 0 ≤ x1 ∧ (x1 < 6 ∧ (inr (M1 (35 + 2 * x1) 1) ∧ (((M1 (35 + 2 * x1) 1) ≠ 0 → wp 0 yX11_mean 38 [some (Rv 1), some (Iv x1), some (Iv z1), some (Rv (35 + 2 * x1)), some (Jv 0), none, some (Iv 0)] [] M1 Q) ∧ ((M1 (35 + 2 * x1) 1) = 0 → cl 0 yX11_found [Rv 1, Iv 4] M1 (QI (fun z8 M8 => (Q (Iv z8) M8)))))))) ∧ (z1 ≠ 0 → Q (Iv z1) M1)))))) : wp 0 yX11_mean 0 [some (Rv 1), some (Iv x1), none, none, none, none, none] [] M Q := by
  refine wp_aload_n dX11_mean_0 rfl (by decide) ?_
  refine wp_iload_n dX11_mean_1 rfl ?_
  refine wp_callV (e1 := 0) (as := [Iv x1]) (S := []) dX11_mean_2 (cs_X11_132 rfl) kd_1 rfl rfl (Nat.le_of_ble_eq_true rfl) (Nat.le_of_ble_eq_true rfl) h (fun v1 M1 q1 r1 => ?_)
  obtain ⟨z1, rfl⟩ := retV_i r1 rfl
  have h := q1
  refine wp_istore_n (L2 := [some (Rv 1), some (Iv x1), some (Iv z1), none, none, none, none]) dX11_mean_5 (Nat.le_of_ble_eq_true rfl) (Nat.le_of_ble_eq_true rfl) rfl ?_
  refine wp_iload_n dX11_mean_6 rfl ?_
  obtain ⟨o2, h⟩ := h
  refine wp_if_eq (tgt := 12) dX11_mean_7 (by decide) o2 (fun q3 => ?_) (fun q3 => ?_)
  · have h := h.1 q3
    refine wp_aload_n dX11_mean_12 rfl (by decide) ?_
    refine wp_getf (t := Rv 2) 2 dX11_mean_13 (fl_X11_11 rfl) kd_1 rfl rfl ?_
    refine wp_iload_n dX11_mean_16 rfl ?_
    obtain ⟨o4, h⟩ := h
    obtain ⟨o5, h⟩ := h
    refine wp_aaldL (35 + 2 * x1) dX11_mean_17 kd_2 sz_2 o4 o5 (⟨by omega, by omega⟩) rfl ?_
    refine wp_astore_n (L2 := [some (Rv 1), some (Iv x1), some (Iv z1), some (Rv (35 + 2 * x1)), none, none, none]) dX11_mean_18 (Nat.le_of_ble_eq_true rfl) (Nat.le_of_ble_eq_true rfl) rfl (isL_row o4 o5).p ?_
    refine wp_aload_n dX11_mean_19 rfl (isL_row o4 o5).p ?_
    refine wp_getf (t := Iv (M1 (35 + 2 * x1) 1)) (M1 (35 + 2 * x1) 1) dX11_mean_20 (fl_X11_135 rfl) (isL_row o4 o5).k rfl rfl ?_
    obtain ⟨o6, h⟩ := h
    refine wp_if_ne (tgt := 32) dX11_mean_23 (by decide) o6 (fun q7 => ?_) (fun q7 => ?_)
    · have h := h.1 q7
      refine wp_lconst0 dX11_mean_32 ?_
      refine wp_lstore (L2 := [some (Rv 1), some (Iv x1), some (Iv z1), some (Rv (35 + 2 * x1)), some (Jv 0), none, none]) dX11_mean_33 (Nat.le_of_ble_eq_true rfl) (Nat.le_of_ble_eq_true rfl) rfl ?_
      refine wp_iconst dX11_mean_35 ?_
      refine wp_istore (L2 := [some (Rv 1), some (Iv x1), some (Iv z1), some (Rv (35 + 2 * x1)), some (Jv 0), none, some (Iv 0)]) dX11_mean_36 (Nat.le_of_ble_eq_true rfl) (Nat.le_of_ble_eq_true rfl) rfl ?_
      exact h
    · have h := h.2 q7
      refine wp_aload_n dX11_mean_26 rfl (by decide) ?_
      refine wp_iconst dX11_mean_27 ?_
      refine wp_callV (e1 := 0) (as := [Iv 4]) (S := []) dX11_mean_28 (cs_X11_117 rfl) kd_1 rfl rfl (Nat.le_of_ble_eq_true rfl) (Nat.le_of_ble_eq_true rfl) h (fun v8 M8 q8 r8 => ?_)
      obtain ⟨z8, rfl⟩ := retV_i r8 rfl
      have h := q8
      exact wp_iret dX11_mean_31 rfl (Or.inr ⟨rfl, rfl, rfl, by decide⟩) rfl h
  · have h := h.2 q3
    refine wp_iload_n dX11_mean_10 rfl ?_
    exact wp_iret dX11_mean_11 rfl (Or.inr ⟨rfl, rfl, rfl, by decide⟩) rfl h
theorem eX11_mean {x1 : Int}  {M : Mem} {Q : Vl → Mem → Prop} (h : cl 0 yX11_refuseRow [Rv 1, Iv x1] M (QI (fun z1 M1 => (inr z1 ∧ ((z1 = 0 → 0 ≤ x1 ∧ (x1 < 6 ∧ (inr (M1 (35 + 2 * x1) 1) ∧ (((M1 (35 + 2 * x1) 1) ≠ 0 → wp 0 yX11_mean 38 [some (Rv 1), some (Iv x1), some (Iv z1), some (Rv (35 + 2 * x1)), some (Jv 0), none, some (Iv 0)] [] M1 Q) ∧ ((M1 (35 + 2 * x1) 1) = 0 → cl 0 yX11_found [Rv 1, Iv 4] M1 (QI (fun z8 M8 => (Q (Iv z8) M8)))))))) ∧ (z1 ≠ 0 → Q (Iv z1) M1)))))) : cl 0 yX11_mean [Rv 1, Iv x1] M Q := enterG (by decide +kernel) (by exact Or.inr (Or.inl rfl)) (Nat.le_of_ble_eq_true rfl) rfl (gX11_mean h)
theorem gX11_mean_38 {x1 x2 x4 x6 a3 : Int} (ha3 : isL a3 40) {M : Mem} {Q : Vl → Mem → Prop} (h : inr x6 ∧ (inr (M a3 1) ∧ (((M a3 1) ≤ x6 → inL x4 ∧ (inL (M a3 1) ∧ (M a3 1 ≠ 0 ∧ (Q (Iv 1) (up M 1 4 (Int.tdiv x4 (M a3 1))))))) ∧ (x6 < (M a3 1) → 0 ≤ x6 ∧ (x6 < 40 ∧ (inr (M (a3 + 1) x6) ∧ (wp 0 yX11_mean 38 [some (Rv 1), some (Iv x1), some (Iv x2), some (Rv a3), some (Jv (x4 + (M (a3 + 1) x6))), none, some (Iv (x6 + 1))] [] M Q))))))) : wp 0 yX11_mean 38 [some (Rv 1), some (Iv x1), some (Iv x2), some (Rv a3), some (Jv x4), none, some (Iv x6)] [] M Q := by
  refine wp_iload dX11_mean_38 rfl ?_
  refine wp_aload_n dX11_mean_40 rfl ha3.p ?_
  refine wp_getf (t := Iv (M a3 1)) (M a3 1) dX11_mean_41 (fl_X11_135 rfl) ha3.k rfl rfl ?_
  obtain ⟨o1, h⟩ := h
  obtain ⟨o2, h⟩ := h
  refine wp_icmp_ge (tgt := 66) dX11_mean_44 (by decide) o1 o2 (fun q3 => ?_) (fun q3 => ?_)
  · have h := h.1 q3
    refine wp_aload_n dX11_mean_66 rfl (by decide) ?_
    refine wp_lload dX11_mean_67 rfl ?_
    refine wp_aload_n dX11_mean_69 rfl ha3.p ?_
    refine wp_getf (t := Iv (M a3 1)) (M a3 1) dX11_mean_70 (fl_X11_135 rfl) ha3.k rfl rfl ?_
    refine wp_i2l dX11_mean_73 o2 ?_
    obtain ⟨o4, h⟩ := h
    obtain ⟨o5, h⟩ := h
    obtain ⟨o6, h⟩ := h
    refine wp_ldiv dX11_mean_74 o4 o5 o6 ?_
    refine wp_l2i dX11_mean_75 ?_
    refine wp_putf (x := (Int.tdiv x4 (M a3 1))) dX11_mean_76 (fl_X11_28 rfl) kd_1 (fun _ => rfl) rfl rfl trivial ?_
    refine wp_iconst dX11_mean_79 ?_
    exact wp_iret dX11_mean_80 rfl (Or.inr ⟨rfl, rfl, rfl, by decide⟩) rfl h
  · have h := h.2 q3
    refine wp_lload dX11_mean_47 rfl ?_
    refine wp_aload_n dX11_mean_49 rfl ha3.p ?_
    refine wp_getf (t := Rv (a3 + 1)) (a3 + 1) dX11_mean_50 (fl_X11_129 rfl) ha3.k rfl rfl ?_
    refine wp_iload dX11_mean_53 rfl ?_
    obtain ⟨o7, h⟩ := h
    obtain ⟨o8, h⟩ := h
    refine wp_iald (M (a3 + 1) x6) dX11_mean_55 ha3.a.k ha3.a.n o7 o8 (⟨by omega, by omega⟩) rfl ?_
    obtain ⟨o9, h⟩ := h
    refine wp_i2l dX11_mean_56 o9 ?_
    refine wp_ladd dX11_mean_57 ?_
    refine wp_lstore (L2 := [some (Rv 1), some (Iv x1), some (Iv x2), some (Rv a3), some (Jv (x4 + (M (a3 + 1) x6))), none, some (Iv x6)]) dX11_mean_58 (Nat.le_of_ble_eq_true rfl) (Nat.le_of_ble_eq_true rfl) rfl ?_
    refine wp_iinc (L2 := [some (Rv 1), some (Iv x1), some (Iv x2), some (Rv a3), some (Jv (x4 + (M (a3 + 1) x6))), none, some (Iv (x6 + 1))]) dX11_mean_60 rfl (Nat.le_of_ble_eq_true rfl) (Nat.le_of_ble_eq_true rfl) rfl ?_
    refine wp_goto (tgt := 38) dX11_mean_63 (by decide) ?_
    exact h
theorem gX11_text {x1 x2 : Int}  {M : Mem} {Q : Vl → Mem → Prop} (h : cl 0 yX11_noText [Iv x1] M (QI (fun z1 M1 => ((z1 ≠ 0 → Q (Iv (-1)) M1) ∧ (z1 = 0 → inr x2 ∧ ((x2 ≤ 60 → ((0 ≤ x2 → 0 ≤ x1 ∧ (x1 < 4 ∧ (cl 0 yX3_begin [Rv (47 + 2 * x1), Iv x2, Iv 32] M1 (QV (fun M8 => (Q (Iv x2) M8)))))) ∧ (x2 < 0 → cl 0 yX11_found [Rv 1, Iv 5] M1 (QI (fun z9 M9 => (Q (Iv z9) M9)))))) ∧ (60 < x2 → Q (Iv (-1)) M1))))))) : wp 0 yX11_text 0 [some (Rv 1), some (Iv x1), some (Iv x2)] [] M Q := by
  refine wp_iload_n dX11_text_0 rfl ?_
  refine wp_callS (e1 := 0) (as := [Iv x1]) (S := []) dX11_text_1 (cs_X11_152 rfl) rfl rfl (Nat.le_of_ble_eq_true rfl) (Nat.le_of_ble_eq_true rfl) h (fun v1 M1 q1 r1 => ?_)
  obtain ⟨z1, rfl, hz1⟩ := retV_z r1 rfl
  have h := q1
  refine wp_if_ne (tgt := 13) dX11_text_4 (by decide) (by have := hz1; omega) (fun q2 => ?_) (fun q2 => ?_)
  · have h := h.1 q2
    refine wp_iconst dX11_text_13 ?_
    exact wp_iret dX11_text_14 rfl (Or.inr ⟨rfl, rfl, rfl, by decide⟩) rfl h
  · have h := h.2 q2
    refine wp_iload_n dX11_text_7 rfl ?_
    refine wp_bipush dX11_text_8 (by decide) ?_
    obtain ⟨o3, h⟩ := h
    refine wp_icmp_le (tgt := 15) dX11_text_10 (by decide) o3 (by decide) (fun q4 => ?_) (fun q4 => ?_)
    · have h := h.1 q4
      refine wp_iload_n dX11_text_15 rfl ?_
      refine wp_if_ge (tgt := 25) dX11_text_16 (by decide) o3 (fun q5 => ?_) (fun q5 => ?_)
      · have h := h.1 q5
        refine wp_aload_n dX11_text_25 rfl (by decide) ?_
        refine wp_getf (t := Rv 3) 3 dX11_text_26 (fl_X11_15 rfl) kd_1 rfl rfl ?_
        refine wp_iload_n dX11_text_29 rfl ?_
        obtain ⟨o6, h⟩ := h
        obtain ⟨o7, h⟩ := h
        refine wp_aaldL (47 + 2 * x1) dX11_text_30 kd_3 sz_3 o6 o7 (⟨by omega, by omega⟩) rfl ?_
        refine wp_iload_n dX11_text_31 rfl ?_
        refine wp_bipush dX11_text_32 (by decide) ?_
        refine wp_callV (e1 := 0) (as := [Iv x2, Iv 32]) (S := []) dX11_text_34 (cs_X11_121 rfl) (isL_text o6 o7).k rfl rfl (Nat.le_of_ble_eq_true rfl) (Nat.le_of_ble_eq_true rfl) h (fun v8 M8 q8 r8 => ?_)
        have h := q8
        refine wp_iload_n dX11_text_37 rfl ?_
        exact wp_iret dX11_text_38 rfl (Or.inr ⟨rfl, rfl, rfl, by decide⟩) rfl h
      · have h := h.2 q5
        refine wp_aload_n dX11_text_19 rfl (by decide) ?_
        refine wp_iconst dX11_text_20 ?_
        refine wp_callV (e1 := 0) (as := [Iv 5]) (S := []) dX11_text_21 (cs_X11_117 rfl) kd_1 rfl rfl (Nat.le_of_ble_eq_true rfl) (Nat.le_of_ble_eq_true rfl) h (fun v9 M9 q9 r9 => ?_)
        obtain ⟨z9, rfl⟩ := retV_i r9 rfl
        have h := q9
        exact wp_iret dX11_text_24 rfl (Or.inr ⟨rfl, rfl, rfl, by decide⟩) rfl h
    · have h := h.2 q4
      refine wp_iconst dX11_text_13 ?_
      exact wp_iret dX11_text_14 rfl (Or.inr ⟨rfl, rfl, rfl, by decide⟩) rfl h
theorem eX11_text {x1 x2 : Int}  {M : Mem} {Q : Vl → Mem → Prop} (h : cl 0 yX11_noText [Iv x1] M (QI (fun z1 M1 => ((z1 ≠ 0 → Q (Iv (-1)) M1) ∧ (z1 = 0 → inr x2 ∧ ((x2 ≤ 60 → ((0 ≤ x2 → 0 ≤ x1 ∧ (x1 < 4 ∧ (cl 0 yX3_begin [Rv (47 + 2 * x1), Iv x2, Iv 32] M1 (QV (fun M8 => (Q (Iv x2) M8)))))) ∧ (x2 < 0 → cl 0 yX11_found [Rv 1, Iv 5] M1 (QI (fun z9 M9 => (Q (Iv z9) M9)))))) ∧ (60 < x2 → Q (Iv (-1)) M1))))))) : cl 0 yX11_text [Rv 1, Iv x1, Iv x2] M Q := enterG (by decide +kernel) (by exact Or.inr (Or.inl rfl)) (Nat.le_of_ble_eq_true rfl) rfl (gX11_text h)
theorem gX11_put {x1 x2 x3 : Int}  {M : Mem} {Q : Vl → Mem → Prop} (h : cl 0 yX11_refuseText [Rv 1, Iv x1] M (QI (fun z1 M1 => (inr z1 ∧ ((z1 = 0 → 0 ≤ x1 ∧ (x1 < 4 ∧ (cl 0 yX3_has [Rv (47 + 2 * x1), Iv x2] M1 (QI (fun z6 M6 => ((z6 ≠ 0 → 0 ≤ x2 ∧ (x2 < 60 ∧ (Q (Iv ((M6 ((47 + 2 * x1) + 1) x2) + 1000)) (up M6 ((47 + 2 * x1) + 1) x2 (Int.bmod x3 256))))) ∧ (z6 = 0 → cl 0 yX11_found [Rv 1, Iv 2] M6 (QI (fun z10 M10 => (Q (Iv z10) M10)))))))))) ∧ (z1 ≠ 0 → Q (Iv z1) M1)))))) : wp 0 yX11_put 0 [some (Rv 1), some (Iv x1), some (Iv x2), some (Iv x3), none, none] [] M Q := by
  refine wp_aload_n dX11_put_0 rfl (by decide) ?_
  refine wp_iload_n dX11_put_1 rfl ?_
  refine wp_callV (e1 := 0) (as := [Iv x1]) (S := []) dX11_put_2 (cs_X11_155 rfl) kd_1 rfl rfl (Nat.le_of_ble_eq_true rfl) (Nat.le_of_ble_eq_true rfl) h (fun v1 M1 q1 r1 => ?_)
  obtain ⟨z1, rfl⟩ := retV_i r1 rfl
  have h := q1
  refine wp_istore (L2 := [some (Rv 1), some (Iv x1), some (Iv x2), some (Iv x3), some (Iv z1), none]) dX11_put_5 (Nat.le_of_ble_eq_true rfl) (Nat.le_of_ble_eq_true rfl) rfl ?_
  refine wp_iload dX11_put_7 rfl ?_
  obtain ⟨o2, h⟩ := h
  refine wp_if_eq (tgt := 15) dX11_put_9 (by decide) o2 (fun q3 => ?_) (fun q3 => ?_)
  · have h := h.1 q3
    refine wp_aload_n dX11_put_15 rfl (by decide) ?_
    refine wp_getf (t := Rv 3) 3 dX11_put_16 (fl_X11_15 rfl) kd_1 rfl rfl ?_
    refine wp_iload_n dX11_put_19 rfl ?_
    obtain ⟨o4, h⟩ := h
    obtain ⟨o5, h⟩ := h
    refine wp_aaldL (47 + 2 * x1) dX11_put_20 kd_3 sz_3 o4 o5 (⟨by omega, by omega⟩) rfl ?_
    refine wp_iload_n dX11_put_21 rfl ?_
    refine wp_callV (e1 := 0) (as := [Iv x2]) (S := []) dX11_put_22 (cs_X11_158 rfl) (isL_text o4 o5).k rfl rfl (Nat.le_of_ble_eq_true rfl) (Nat.le_of_ble_eq_true rfl) h (fun v6 M6 q6 r6 => ?_)
    obtain ⟨z6, rfl, hz6⟩ := retV_z r6 rfl
    have h := q6
    refine wp_if_ne (tgt := 34) dX11_put_25 (by decide) (by have := hz6; omega) (fun q7 => ?_) (fun q7 => ?_)
    · have h := h.1 q7
      refine wp_aload_n dX11_put_34 rfl (by decide) ?_
      refine wp_getf (t := Rv 3) 3 dX11_put_35 (fl_X11_15 rfl) kd_1 rfl rfl ?_
      refine wp_iload_n dX11_put_38 rfl ?_
      refine wp_aaldL (47 + 2 * x1) dX11_put_39 kd_3 sz_3 o4 o5 (⟨by omega, by omega⟩) rfl ?_
      refine wp_getf (t := Rv ((47 + 2 * x1) + 1)) ((47 + 2 * x1) + 1) dX11_put_40 (fl_X11_129 rfl) (isL_text o4 o5).k rfl rfl ?_
      refine wp_iload_n dX11_put_43 rfl ?_
      obtain ⟨o8, h⟩ := h
      obtain ⟨o9, h⟩ := h
      refine wp_iald (M6 ((47 + 2 * x1) + 1) x2) dX11_put_44 (isL_text o4 o5).a.k (isL_text o4 o5).a.n o8 o9 (⟨by omega, by omega⟩) rfl ?_
      refine wp_istore (L2 := [some (Rv 1), some (Iv x1), some (Iv x2), some (Iv x3), some (Iv z1), some (Iv (M6 ((47 + 2 * x1) + 1) x2))]) dX11_put_45 (Nat.le_of_ble_eq_true rfl) (Nat.le_of_ble_eq_true rfl) rfl ?_
      refine wp_aload_n dX11_put_47 rfl (by decide) ?_
      refine wp_getf (t := Rv 3) 3 dX11_put_48 (fl_X11_15 rfl) kd_1 rfl rfl ?_
      refine wp_iload_n dX11_put_51 rfl ?_
      refine wp_aaldL (47 + 2 * x1) dX11_put_52 kd_3 sz_3 o4 o5 (⟨by omega, by omega⟩) rfl ?_
      refine wp_getf (t := Rv ((47 + 2 * x1) + 1)) ((47 + 2 * x1) + 1) dX11_put_53 (fl_X11_129 rfl) (isL_text o4 o5).k rfl rfl ?_
      refine wp_iload_n dX11_put_56 rfl ?_
      refine wp_iload_n dX11_put_57 rfl ?_
      refine wp_i2b dX11_put_58 ?_
      refine wp_iast dX11_put_59 (isL_text o4 o5).a.k (isL_text o4 o5).a.n o8 o9 (⟨by omega, by omega⟩) ?_
      refine wp_iload dX11_put_60 rfl ?_
      refine wp_sipush dX11_put_62 (by decide) ?_
      refine wp_iadd dX11_put_65 ?_
      exact wp_iret dX11_put_66 rfl (Or.inr ⟨rfl, rfl, rfl, by decide⟩) rfl h
    · have h := h.2 q7
      refine wp_aload_n dX11_put_28 rfl (by decide) ?_
      refine wp_iconst dX11_put_29 ?_
      refine wp_callV (e1 := 0) (as := [Iv 2]) (S := []) dX11_put_30 (cs_X11_117 rfl) kd_1 rfl rfl (Nat.le_of_ble_eq_true rfl) (Nat.le_of_ble_eq_true rfl) h (fun v10 M10 q10 r10 => ?_)
      obtain ⟨z10, rfl⟩ := retV_i r10 rfl
      have h := q10
      exact wp_iret dX11_put_33 rfl (Or.inr ⟨rfl, rfl, rfl, by decide⟩) rfl h
  · have h := h.2 q3
    refine wp_iload dX11_put_12 rfl ?_
    exact wp_iret dX11_put_14 rfl (Or.inr ⟨rfl, rfl, rfl, by decide⟩) rfl h
theorem eX11_put {x1 x2 x3 : Int}  {M : Mem} {Q : Vl → Mem → Prop} (h : cl 0 yX11_refuseText [Rv 1, Iv x1] M (QI (fun z1 M1 => (inr z1 ∧ ((z1 = 0 → 0 ≤ x1 ∧ (x1 < 4 ∧ (cl 0 yX3_has [Rv (47 + 2 * x1), Iv x2] M1 (QI (fun z6 M6 => ((z6 ≠ 0 → 0 ≤ x2 ∧ (x2 < 60 ∧ (Q (Iv ((M6 ((47 + 2 * x1) + 1) x2) + 1000)) (up M6 ((47 + 2 * x1) + 1) x2 (Int.bmod x3 256))))) ∧ (z6 = 0 → cl 0 yX11_found [Rv 1, Iv 2] M6 (QI (fun z10 M10 => (Q (Iv z10) M10)))))))))) ∧ (z1 ≠ 0 → Q (Iv z1) M1)))))) : cl 0 yX11_put [Rv 1, Iv x1, Iv x2, Iv x3] M Q := enterG (by decide +kernel) (by exact Or.inr (Or.inl rfl)) (Nat.le_of_ble_eq_true rfl) rfl (gX11_put h)
theorem gX11_letters {x1 : Int}  {M : Mem} {Q : Vl → Mem → Prop} (h : inr x1 ∧ ((x1 < 1 → Q (Iv (-1)) M) ∧ (1 ≤ x1 → ((x1 ≤ 6 → wp 0 yX11_letters 15 [some (Rv 1), some (Iv x1), some (Iv 0)] [] M Q) ∧ (6 < x1 → Q (Iv (-1)) M))))) : wp 0 yX11_letters 0 [some (Rv 1), some (Iv x1), none] [] M Q := by
  refine wp_iload_n dX11_letters_0 rfl ?_
  refine wp_iconst dX11_letters_1 ?_
  obtain ⟨o1, h⟩ := h
  refine wp_icmp_lt (tgt := 11) dX11_letters_2 (by decide) o1 (by decide) (fun q2 => ?_) (fun q2 => ?_)
  · have h := h.1 q2
    refine wp_iconst dX11_letters_11 ?_
    exact wp_iret dX11_letters_12 rfl (Or.inr ⟨rfl, rfl, rfl, by decide⟩) rfl h
  · have h := h.2 q2
    refine wp_iload_n dX11_letters_5 rfl ?_
    refine wp_bipush dX11_letters_6 (by decide) ?_
    refine wp_icmp_le (tgt := 13) dX11_letters_8 (by decide) o1 (by decide) (fun q3 => ?_) (fun q3 => ?_)
    · have h := h.1 q3
      refine wp_iconst dX11_letters_13 ?_
      refine wp_istore_n (L2 := [some (Rv 1), some (Iv x1), some (Iv 0)]) dX11_letters_14 (Nat.le_of_ble_eq_true rfl) (Nat.le_of_ble_eq_true rfl) rfl ?_
      exact h
    · have h := h.2 q3
      refine wp_iconst dX11_letters_11 ?_
      exact wp_iret dX11_letters_12 rfl (Or.inr ⟨rfl, rfl, rfl, by decide⟩) rfl h
theorem eX11_letters {x1 : Int}  {M : Mem} {Q : Vl → Mem → Prop} (h : inr x1 ∧ ((x1 < 1 → Q (Iv (-1)) M) ∧ (1 ≤ x1 → ((x1 ≤ 6 → wp 0 yX11_letters 15 [some (Rv 1), some (Iv x1), some (Iv 0)] [] M Q) ∧ (6 < x1 → Q (Iv (-1)) M))))) : cl 0 yX11_letters [Rv 1, Iv x1] M Q := enterG (by decide +kernel) (by exact Or.inr (Or.inl rfl)) (Nat.le_of_ble_eq_true rfl) rfl (gX11_letters h)
theorem gX11_letters_15 {x1 x2 : Int}  {M : Mem} {Q : Vl → Mem → Prop} (h : inr x2 ∧ ((8 ≤ x2 → Q (Iv (M 1 3)) (up M 1 3 x1)) ∧ (x2 < 8 → 0 ≤ x2 ∧ (cl 0 yX3_isBelow [Rv ((55 + 3 * x2) + 1), Iv x1] M (QI (fun z4 M4 => ((z4 ≠ 0 → wp 0 yX11_letters 15 [some (Rv 1), some (Iv x1), some (Iv (x2 + 1))] [] M4 Q) ∧ (z4 = 0 → Q (Iv (-4)) M4)))))))) : wp 0 yX11_letters 15 [some (Rv 1), some (Iv x1), some (Iv x2)] [] M Q := by
  refine wp_iload_n dX11_letters_15 rfl ?_
  refine wp_bipush dX11_letters_16 (by decide) ?_
  obtain ⟨o1, h⟩ := h
  refine wp_icmp_ge (tgt := 46) dX11_letters_18 (by decide) o1 (by decide) (fun q2 => ?_) (fun q2 => ?_)
  · have h := h.1 q2
    refine wp_aload_n dX11_letters_46 rfl (by decide) ?_
    refine wp_getf (t := Iv (M 1 3)) (M 1 3) dX11_letters_47 (fl_X11_24 rfl) kd_1 rfl rfl ?_
    refine wp_istore_n (L2 := [some (Rv 1), some (Iv x1), some (Iv (M 1 3))]) dX11_letters_50 (Nat.le_of_ble_eq_true rfl) (Nat.le_of_ble_eq_true rfl) rfl ?_
    refine wp_aload_n dX11_letters_51 rfl (by decide) ?_
    refine wp_iload_n dX11_letters_52 rfl ?_
    refine wp_putf (x := x1) dX11_letters_53 (fl_X11_24 rfl) kd_1 (fun _ => rfl) rfl rfl trivial ?_
    refine wp_iload_n dX11_letters_56 rfl ?_
    exact wp_iret dX11_letters_57 rfl (Or.inr ⟨rfl, rfl, rfl, by decide⟩) rfl h
  · have h := h.2 q2
    refine wp_aload_n dX11_letters_21 rfl (by decide) ?_
    refine wp_getf (t := Rv 4) 4 dX11_letters_22 (fl_X11_20 rfl) kd_1 rfl rfl ?_
    refine wp_iload_n dX11_letters_25 rfl ?_
    obtain ⟨o3, h⟩ := h
    refine wp_aaldW (55 + 3 * x2) dX11_letters_26 kd_4 sz_4 o3 q2 (⟨by omega, by omega⟩) rfl ?_
    refine wp_getf (t := Rv ((55 + 3 * x2) + 1)) ((55 + 3 * x2) + 1) dX11_letters_27 (fl_X11_161 rfl) (isW_word o3 q2).k rfl rfl ?_
    refine wp_iload_n dX11_letters_30 rfl ?_
    refine wp_callV (e1 := 0) (as := [Iv x1]) (S := []) dX11_letters_31 (cs_X11_165 rfl) (isW_word o3 q2).l.k rfl rfl (Nat.le_of_ble_eq_true rfl) (Nat.le_of_ble_eq_true rfl) h (fun v4 M4 q4 r4 => ?_)
    obtain ⟨z4, rfl, hz4⟩ := retV_z r4 rfl
    have h := q4
    refine wp_if_ne (tgt := 40) dX11_letters_34 (by decide) (by have := hz4; omega) (fun q5 => ?_) (fun q5 => ?_)
    · have h := h.1 q5
      refine wp_iinc (L2 := [some (Rv 1), some (Iv x1), some (Iv (x2 + 1))]) dX11_letters_40 rfl (Nat.le_of_ble_eq_true rfl) (Nat.le_of_ble_eq_true rfl) rfl ?_
      refine wp_goto (tgt := 15) dX11_letters_43 (by decide) ?_
      exact h
    · have h := h.2 q5
      refine wp_bipush dX11_letters_37 (by decide) ?_
      exact wp_iret dX11_letters_39 rfl (Or.inr ⟨rfl, rfl, rfl, by decide⟩) rfl h
theorem gX11_word {x1 x2 : Int}  {M : Mem} {Q : Vl → Mem → Prop} (h : cl 0 yX11_noWord [Iv x1] M (QI (fun z1 M1 => ((z1 ≠ 0 → Q (Iv (-1)) M1) ∧ (z1 = 0 → cl 0 yX11_noRow [Iv x2] M1 (QI (fun z3 M3 => ((z3 = 0 → 0 ≤ x2 ∧ (x2 < 6 ∧ (cl 0 yX3_isMissing [Rv (35 + 2 * x2)] M3 (QI (fun z7 M7 => ((z7 = 0 → cl 0 yX3_isBelow [Rv (35 + 2 * x2), Iv (M7 1 3)] M7 (QI (fun z9 M9 => ((z9 ≠ 0 → 0 ≤ x1 ∧ (x1 < 8 ∧ (cl 0 yX10_become [Rv (55 + 3 * x1), Rv ((35 + 2 * x2) + 1), Iv (M9 (35 + 2 * x2) 1), Iv 0, Iv 0, Iv 0] M9 (QI (fun z13 M13 => (Q (Iv z13) M13)))))) ∧ (z9 = 0 → cl 0 yX11_found [Rv 1, Iv 3] M9 (QI (fun z14 M14 => (Q (Iv z14) M14)))))))) ∧ (z7 ≠ 0 → cl 0 yX11_found [Rv 1, Iv 1] M7 (QI (fun z15 M15 => (Q (Iv z15) M15)))))))))) ∧ (z3 ≠ 0 → Q (Iv (-1)) M3))))))))) : wp 0 yX11_word 0 [some (Rv 1), some (Iv x1), some (Iv x2), none] [] M Q := by
  refine wp_iload_n dX11_word_0 rfl ?_
  refine wp_callS (e1 := 0) (as := [Iv x1]) (S := []) dX11_word_1 (cs_X11_168 rfl) rfl rfl (Nat.le_of_ble_eq_true rfl) (Nat.le_of_ble_eq_true rfl) h (fun v1 M1 q1 r1 => ?_)
  obtain ⟨z1, rfl, hz1⟩ := retV_z r1 rfl
  have h := q1
  refine wp_if_ne (tgt := 14) dX11_word_4 (by decide) (by have := hz1; omega) (fun q2 => ?_) (fun q2 => ?_)
  · have h := h.1 q2
    refine wp_iconst dX11_word_14 ?_
    exact wp_iret dX11_word_15 rfl (Or.inr ⟨rfl, rfl, rfl, by decide⟩) rfl h
  · have h := h.2 q2
    refine wp_iload_n dX11_word_7 rfl ?_
    refine wp_callS (e1 := 0) (as := [Iv x2]) (S := []) dX11_word_8 (cs_X11_113 rfl) rfl rfl (Nat.le_of_ble_eq_true rfl) (Nat.le_of_ble_eq_true rfl) h (fun v3 M3 q3 r3 => ?_)
    obtain ⟨z3, rfl, hz3⟩ := retV_z r3 rfl
    have h := q3
    refine wp_if_eq (tgt := 16) dX11_word_11 (by decide) (by have := hz3; omega) (fun q4 => ?_) (fun q4 => ?_)
    · have h := h.1 q4
      refine wp_aload_n dX11_word_16 rfl (by decide) ?_
      refine wp_getf (t := Rv 2) 2 dX11_word_17 (fl_X11_11 rfl) kd_1 rfl rfl ?_
      refine wp_iload_n dX11_word_20 rfl ?_
      obtain ⟨o5, h⟩ := h
      obtain ⟨o6, h⟩ := h
      refine wp_aaldL (35 + 2 * x2) dX11_word_21 kd_2 sz_2 o5 o6 (⟨by omega, by omega⟩) rfl ?_
      refine wp_astore_n (L2 := [some (Rv 1), some (Iv x1), some (Iv x2), some (Rv (35 + 2 * x2))]) dX11_word_22 (Nat.le_of_ble_eq_true rfl) (Nat.le_of_ble_eq_true rfl) rfl (isL_row o5 o6).p ?_
      refine wp_aload_n dX11_word_23 rfl (isL_row o5 o6).p ?_
      refine wp_callV (e1 := 0) (as := []) (S := []) dX11_word_24 (cs_X11_138 rfl) (isL_row o5 o6).k rfl rfl (Nat.le_of_ble_eq_true rfl) (Nat.le_of_ble_eq_true rfl) h (fun v7 M7 q7 r7 => ?_)
      obtain ⟨z7, rfl, hz7⟩ := retV_z r7 rfl
      have h := q7
      refine wp_if_eq (tgt := 36) dX11_word_27 (by decide) (by have := hz7; omega) (fun q8 => ?_) (fun q8 => ?_)
      · have h := h.1 q8
        refine wp_aload_n dX11_word_36 rfl (isL_row o5 o6).p ?_
        refine wp_aload_n dX11_word_37 rfl (by decide) ?_
        refine wp_getf (t := Iv (M7 1 3)) (M7 1 3) dX11_word_38 (fl_X11_24 rfl) kd_1 rfl rfl ?_
        refine wp_callV (e1 := 0) (as := [Iv (M7 1 3)]) (S := []) dX11_word_41 (cs_X11_165 rfl) (isL_row o5 o6).k rfl rfl (Nat.le_of_ble_eq_true rfl) (Nat.le_of_ble_eq_true rfl) h (fun v9 M9 q9 r9 => ?_)
        obtain ⟨z9, rfl, hz9⟩ := retV_z r9 rfl
        have h := q9
        refine wp_if_ne (tgt := 53) dX11_word_44 (by decide) (by have := hz9; omega) (fun q10 => ?_) (fun q10 => ?_)
        · have h := h.1 q10
          refine wp_aload_n dX11_word_53 rfl (by decide) ?_
          refine wp_getf (t := Rv 4) 4 dX11_word_54 (fl_X11_20 rfl) kd_1 rfl rfl ?_
          refine wp_iload_n dX11_word_57 rfl ?_
          obtain ⟨o11, h⟩ := h
          obtain ⟨o12, h⟩ := h
          refine wp_aaldW (55 + 3 * x1) dX11_word_58 kd_4 sz_4 o11 o12 (⟨by omega, by omega⟩) rfl ?_
          refine wp_aload_n dX11_word_59 rfl (isL_row o5 o6).p ?_
          refine wp_getf (t := Rv ((35 + 2 * x2) + 1)) ((35 + 2 * x2) + 1) dX11_word_60 (fl_X11_129 rfl) (isL_row o5 o6).k rfl rfl ?_
          refine wp_aload_n dX11_word_63 rfl (isL_row o5 o6).p ?_
          refine wp_getf (t := Iv (M9 (35 + 2 * x2) 1)) (M9 (35 + 2 * x2) 1) dX11_word_64 (fl_X11_135 rfl) (isL_row o5 o6).k rfl rfl ?_
          refine wp_iconst dX11_word_67 ?_
          refine wp_iconst dX11_word_68 ?_
          refine wp_iconst dX11_word_69 ?_
          refine wp_callV (e1 := 0) (as := [Rv ((35 + 2 * x2) + 1), Iv (M9 (35 + 2 * x2) 1), Iv 0, Iv 0, Iv 0]) (S := []) dX11_word_70 (cs_X11_171 rfl) (isW_word o11 o12).k rfl rfl (Nat.le_of_ble_eq_true rfl) (Nat.le_of_ble_eq_true rfl) h (fun v13 M13 q13 r13 => ?_)
          obtain ⟨z13, rfl⟩ := retV_i r13 rfl
          have h := q13
          exact wp_iret dX11_word_73 rfl (Or.inr ⟨rfl, rfl, rfl, by decide⟩) rfl h
        · have h := h.2 q10
          refine wp_aload_n dX11_word_47 rfl (by decide) ?_
          refine wp_iconst dX11_word_48 ?_
          refine wp_callV (e1 := 0) (as := [Iv 3]) (S := []) dX11_word_49 (cs_X11_117 rfl) kd_1 rfl rfl (Nat.le_of_ble_eq_true rfl) (Nat.le_of_ble_eq_true rfl) h (fun v14 M14 q14 r14 => ?_)
          obtain ⟨z14, rfl⟩ := retV_i r14 rfl
          have h := q14
          exact wp_iret dX11_word_52 rfl (Or.inr ⟨rfl, rfl, rfl, by decide⟩) rfl h
      · have h := h.2 q8
        refine wp_aload_n dX11_word_30 rfl (by decide) ?_
        refine wp_iconst dX11_word_31 ?_
        refine wp_callV (e1 := 0) (as := [Iv 1]) (S := []) dX11_word_32 (cs_X11_117 rfl) kd_1 rfl rfl (Nat.le_of_ble_eq_true rfl) (Nat.le_of_ble_eq_true rfl) h (fun v15 M15 q15 r15 => ?_)
        obtain ⟨z15, rfl⟩ := retV_i r15 rfl
        have h := q15
        exact wp_iret dX11_word_35 rfl (Or.inr ⟨rfl, rfl, rfl, by decide⟩) rfl h
    · have h := h.2 q4
      refine wp_iconst dX11_word_14 ?_
      exact wp_iret dX11_word_15 rfl (Or.inr ⟨rfl, rfl, rfl, by decide⟩) rfl h
theorem eX11_word {x1 x2 : Int}  {M : Mem} {Q : Vl → Mem → Prop} (h : cl 0 yX11_noWord [Iv x1] M (QI (fun z1 M1 => ((z1 ≠ 0 → Q (Iv (-1)) M1) ∧ (z1 = 0 → cl 0 yX11_noRow [Iv x2] M1 (QI (fun z3 M3 => ((z3 = 0 → 0 ≤ x2 ∧ (x2 < 6 ∧ (cl 0 yX3_isMissing [Rv (35 + 2 * x2)] M3 (QI (fun z7 M7 => ((z7 = 0 → cl 0 yX3_isBelow [Rv (35 + 2 * x2), Iv (M7 1 3)] M7 (QI (fun z9 M9 => ((z9 ≠ 0 → 0 ≤ x1 ∧ (x1 < 8 ∧ (cl 0 yX10_become [Rv (55 + 3 * x1), Rv ((35 + 2 * x2) + 1), Iv (M9 (35 + 2 * x2) 1), Iv 0, Iv 0, Iv 0] M9 (QI (fun z13 M13 => (Q (Iv z13) M13)))))) ∧ (z9 = 0 → cl 0 yX11_found [Rv 1, Iv 3] M9 (QI (fun z14 M14 => (Q (Iv z14) M14)))))))) ∧ (z7 ≠ 0 → cl 0 yX11_found [Rv 1, Iv 1] M7 (QI (fun z15 M15 => (Q (Iv z15) M15)))))))))) ∧ (z3 ≠ 0 → Q (Iv (-1)) M3))))))))) : cl 0 yX11_word [Rv 1, Iv x1, Iv x2] M Q := enterG (by decide +kernel) (by exact Or.inr (Or.inl rfl)) (Nat.le_of_ble_eq_true rfl) rfl (gX11_word h)
theorem gX11_fault {x1 : Int}  {M : Mem} {Q : Vl → Mem → Prop} (h : cl 0 yX11_refuseText [Rv 1, Iv x1] M (QI (fun z1 M1 => (inr z1 ∧ ((z1 = 0 → 0 ≤ x1 ∧ (x1 < 4 ∧ (cl 0 yX6_read [Rv 7, Rv (47 + 2 * x1), Iv (M1 1 3)] M1 (QI (fun z6 M6 => (Q (Iv z6) M6)))))) ∧ (z1 ≠ 0 → Q (Iv z1) M1)))))) : wp 0 yX11_fault 0 [some (Rv 1), some (Iv x1), none] [] M Q := by
  refine wp_aload_n dX11_fault_0 rfl (by decide) ?_
  refine wp_iload_n dX11_fault_1 rfl ?_
  refine wp_callV (e1 := 0) (as := [Iv x1]) (S := []) dX11_fault_2 (cs_X11_155 rfl) kd_1 rfl rfl (Nat.le_of_ble_eq_true rfl) (Nat.le_of_ble_eq_true rfl) h (fun v1 M1 q1 r1 => ?_)
  obtain ⟨z1, rfl⟩ := retV_i r1 rfl
  have h := q1
  refine wp_istore_n (L2 := [some (Rv 1), some (Iv x1), some (Iv z1)]) dX11_fault_5 (Nat.le_of_ble_eq_true rfl) (Nat.le_of_ble_eq_true rfl) rfl ?_
  refine wp_iload_n dX11_fault_6 rfl ?_
  obtain ⟨o2, h⟩ := h
  refine wp_if_eq (tgt := 14) dX11_fault_7 (by decide) o2 (fun q3 => ?_) (fun q3 => ?_)
  · have h := h.1 q3
    refine wp_aload_n dX11_fault_14 rfl (by decide) ?_
    refine wp_getf (t := Rv 7) 7 dX11_fault_15 (fl_X11_54 rfl) kd_1 rfl rfl ?_
    refine wp_aload_n dX11_fault_18 rfl (by decide) ?_
    refine wp_getf (t := Rv 3) 3 dX11_fault_19 (fl_X11_15 rfl) kd_1 rfl rfl ?_
    refine wp_iload_n dX11_fault_22 rfl ?_
    obtain ⟨o4, h⟩ := h
    obtain ⟨o5, h⟩ := h
    refine wp_aaldL (47 + 2 * x1) dX11_fault_23 kd_3 sz_3 o4 o5 (⟨by omega, by omega⟩) rfl ?_
    refine wp_aload_n dX11_fault_24 rfl (by decide) ?_
    refine wp_getf (t := Iv (M1 1 3)) (M1 1 3) dX11_fault_25 (fl_X11_24 rfl) kd_1 rfl rfl ?_
    refine wp_callV (e1 := 0) (as := [Rv (47 + 2 * x1), Iv (M1 1 3)]) (S := []) dX11_fault_28 (cs_X11_175 rfl) kd_7 rfl rfl (Nat.le_of_ble_eq_true rfl) (Nat.le_of_ble_eq_true rfl) h (fun v6 M6 q6 r6 => ?_)
    obtain ⟨z6, rfl⟩ := retV_i r6 rfl
    have h := q6
    exact wp_iret dX11_fault_31 rfl (Or.inr ⟨rfl, rfl, rfl, by decide⟩) rfl h
  · have h := h.2 q3
    refine wp_iload_n dX11_fault_10 rfl ?_
    refine wp_goto (tgt := 31) dX11_fault_11 (by decide) ?_
    exact wp_iret dX11_fault_31 rfl (Or.inr ⟨rfl, rfl, rfl, by decide⟩) rfl h
theorem eX11_fault {x1 : Int}  {M : Mem} {Q : Vl → Mem → Prop} (h : cl 0 yX11_refuseText [Rv 1, Iv x1] M (QI (fun z1 M1 => (inr z1 ∧ ((z1 = 0 → 0 ≤ x1 ∧ (x1 < 4 ∧ (cl 0 yX6_read [Rv 7, Rv (47 + 2 * x1), Iv (M1 1 3)] M1 (QI (fun z6 M6 => (Q (Iv z6) M6)))))) ∧ (z1 ≠ 0 → Q (Iv z1) M1)))))) : cl 0 yX11_fault [Rv 1, Iv x1] M Q := enterG (by decide +kernel) (by exact Or.inr (Or.inl rfl)) (Nat.le_of_ble_eq_true rfl) rfl (gX11_fault h)
theorem gX11_tell {x1 x2 : Int}  {M : Mem} {Q : Vl → Mem → Prop} (h : cl 0 yX11_noWord [Iv x1] M (QI (fun z1 M1 => ((z1 = 0 → cl 0 yX11_refuseText [Rv 1, Iv x2] M1 (QI (fun z3 M3 => (inr z3 ∧ ((z3 = 0 → 0 ≤ x2 ∧ (x2 < 4 ∧ (cl 0 yX6_read [Rv 7, Rv (47 + 2 * x2), Iv (M3 1 3)] M3 (QI (fun z8 M8 => (inr z8 ∧ ((z8 = (-9) → inr (M8 7 1) ∧ (((M8 7 1) ≤ 40 → 0 ≤ x1 ∧ (x1 < 8 ∧ (cl 0 yX10_become [Rv (55 + 3 * x1), Rv 8, Iv (M8 7 1), Iv 1, Iv 0, Iv (M8 (47 + 2 * x2) 1)] M8 (QI (fun z15 M15 => (Q (Iv z15) M15)))))) ∧ (40 < (M8 7 1) → Q (Iv (-2)) M8))) ∧ (z8 ≠ (-9) → Q (Iv (-4)) M8)))))))) ∧ (z3 ≠ 0 → Q (Iv z3) M3)))))) ∧ (z1 ≠ 0 → Q (Iv (-1)) M1))))) : wp 0 yX11_tell 0 [some (Rv 1), some (Iv x1), some (Iv x2), none] [] M Q := by
  refine wp_iload_n dX11_tell_0 rfl ?_
  refine wp_callS (e1 := 0) (as := [Iv x1]) (S := []) dX11_tell_1 (cs_X11_168 rfl) rfl rfl (Nat.le_of_ble_eq_true rfl) (Nat.le_of_ble_eq_true rfl) h (fun v1 M1 q1 r1 => ?_)
  obtain ⟨z1, rfl, hz1⟩ := retV_z r1 rfl
  have h := q1
  refine wp_if_eq (tgt := 9) dX11_tell_4 (by decide) (by have := hz1; omega) (fun q2 => ?_) (fun q2 => ?_)
  · have h := h.1 q2
    refine wp_aload_n dX11_tell_9 rfl (by decide) ?_
    refine wp_iload_n dX11_tell_10 rfl ?_
    refine wp_callV (e1 := 0) (as := [Iv x2]) (S := []) dX11_tell_11 (cs_X11_155 rfl) kd_1 rfl rfl (Nat.le_of_ble_eq_true rfl) (Nat.le_of_ble_eq_true rfl) h (fun v3 M3 q3 r3 => ?_)
    obtain ⟨z3, rfl⟩ := retV_i r3 rfl
    have h := q3
    refine wp_istore_n (L2 := [some (Rv 1), some (Iv x1), some (Iv x2), some (Iv z3)]) dX11_tell_14 (Nat.le_of_ble_eq_true rfl) (Nat.le_of_ble_eq_true rfl) rfl ?_
    refine wp_iload_n dX11_tell_15 rfl ?_
    obtain ⟨o4, h⟩ := h
    refine wp_if_eq (tgt := 21) dX11_tell_16 (by decide) o4 (fun q5 => ?_) (fun q5 => ?_)
    · have h := h.1 q5
      refine wp_aload_n dX11_tell_21 rfl (by decide) ?_
      refine wp_getf (t := Rv 7) 7 dX11_tell_22 (fl_X11_54 rfl) kd_1 rfl rfl ?_
      refine wp_aload_n dX11_tell_25 rfl (by decide) ?_
      refine wp_getf (t := Rv 3) 3 dX11_tell_26 (fl_X11_15 rfl) kd_1 rfl rfl ?_
      refine wp_iload_n dX11_tell_29 rfl ?_
      obtain ⟨o6, h⟩ := h
      obtain ⟨o7, h⟩ := h
      refine wp_aaldL (47 + 2 * x2) dX11_tell_30 kd_3 sz_3 o6 o7 (⟨by omega, by omega⟩) rfl ?_
      refine wp_aload_n dX11_tell_31 rfl (by decide) ?_
      refine wp_getf (t := Iv (M3 1 3)) (M3 1 3) dX11_tell_32 (fl_X11_24 rfl) kd_1 rfl rfl ?_
      refine wp_callV (e1 := 0) (as := [Rv (47 + 2 * x2), Iv (M3 1 3)]) (S := []) dX11_tell_35 (cs_X11_175 rfl) kd_7 rfl rfl (Nat.le_of_ble_eq_true rfl) (Nat.le_of_ble_eq_true rfl) h (fun v8 M8 q8 r8 => ?_)
      obtain ⟨z8, rfl⟩ := retV_i r8 rfl
      have h := q8
      refine wp_bipush dX11_tell_38 (by decide) ?_
      obtain ⟨o9, h⟩ := h
      refine wp_icmp_eq (tgt := 46) dX11_tell_40 (by decide) (Or.inr ⟨o9, (by decide)⟩) (fun q10 => ?_) (fun q10 => ?_)
      · have h := h.1 q10
        refine wp_aload_n dX11_tell_46 rfl (by decide) ?_
        refine wp_getf (t := Rv 7) 7 dX11_tell_47 (fl_X11_54 rfl) kd_1 rfl rfl ?_
        refine wp_getf (t := Iv (M8 7 1)) (M8 7 1) dX11_tell_50 (fl_X11_179 rfl) kd_7 rfl rfl ?_
        refine wp_bipush dX11_tell_53 (by decide) ?_
        obtain ⟨o11, h⟩ := h
        refine wp_icmp_le (tgt := 61) dX11_tell_55 (by decide) o11 (by decide) (fun q12 => ?_) (fun q12 => ?_)
        · have h := h.1 q12
          refine wp_aload_n dX11_tell_61 rfl (by decide) ?_
          refine wp_getf (t := Rv 4) 4 dX11_tell_62 (fl_X11_20 rfl) kd_1 rfl rfl ?_
          refine wp_iload_n dX11_tell_65 rfl ?_
          obtain ⟨o13, h⟩ := h
          obtain ⟨o14, h⟩ := h
          refine wp_aaldW (55 + 3 * x1) dX11_tell_66 kd_4 sz_4 o13 o14 (⟨by omega, by omega⟩) rfl ?_
          refine wp_aload_n dX11_tell_67 rfl (by decide) ?_
          refine wp_getf (t := Rv 7) 7 dX11_tell_68 (fl_X11_54 rfl) kd_1 rfl rfl ?_
          refine wp_getf (t := Rv 8) 8 dX11_tell_71 (fl_X11_180 rfl) kd_7 rfl rfl ?_
          refine wp_aload_n dX11_tell_74 rfl (by decide) ?_
          refine wp_getf (t := Rv 7) 7 dX11_tell_75 (fl_X11_54 rfl) kd_1 rfl rfl ?_
          refine wp_getf (t := Iv (M8 7 1)) (M8 7 1) dX11_tell_78 (fl_X11_179 rfl) kd_7 rfl rfl ?_
          refine wp_iconst dX11_tell_81 ?_
          refine wp_iconst dX11_tell_82 ?_
          refine wp_aload_n dX11_tell_83 rfl (by decide) ?_
          refine wp_getf (t := Rv 3) 3 dX11_tell_84 (fl_X11_15 rfl) kd_1 rfl rfl ?_
          refine wp_iload_n dX11_tell_87 rfl ?_
          refine wp_aaldL (47 + 2 * x2) dX11_tell_88 kd_3 sz_3 o6 o7 (⟨by omega, by omega⟩) rfl ?_
          refine wp_getf (t := Iv (M8 (47 + 2 * x2) 1)) (M8 (47 + 2 * x2) 1) dX11_tell_89 (fl_X11_135 rfl) (isL_text o6 o7).k rfl rfl ?_
          refine wp_callV (e1 := 0) (as := [Rv 8, Iv (M8 7 1), Iv 1, Iv 0, Iv (M8 (47 + 2 * x2) 1)]) (S := []) dX11_tell_92 (cs_X11_171 rfl) (isW_word o13 o14).k rfl rfl (Nat.le_of_ble_eq_true rfl) (Nat.le_of_ble_eq_true rfl) h (fun v15 M15 q15 r15 => ?_)
          obtain ⟨z15, rfl⟩ := retV_i r15 rfl
          have h := q15
          exact wp_iret dX11_tell_95 rfl (Or.inr ⟨rfl, rfl, rfl, by decide⟩) rfl h
        · have h := h.2 q12
          refine wp_bipush dX11_tell_58 (by decide) ?_
          exact wp_iret dX11_tell_60 rfl (Or.inr ⟨rfl, rfl, rfl, by decide⟩) rfl h
      · have h := h.2 q10
        refine wp_bipush dX11_tell_43 (by decide) ?_
        exact wp_iret dX11_tell_45 rfl (Or.inr ⟨rfl, rfl, rfl, by decide⟩) rfl h
    · have h := h.2 q5
      refine wp_iload_n dX11_tell_19 rfl ?_
      exact wp_iret dX11_tell_20 rfl (Or.inr ⟨rfl, rfl, rfl, by decide⟩) rfl h
  · have h := h.2 q2
    refine wp_iconst dX11_tell_7 ?_
    exact wp_iret dX11_tell_8 rfl (Or.inr ⟨rfl, rfl, rfl, by decide⟩) rfl h
theorem eX11_tell {x1 x2 : Int}  {M : Mem} {Q : Vl → Mem → Prop} (h : cl 0 yX11_noWord [Iv x1] M (QI (fun z1 M1 => ((z1 = 0 → cl 0 yX11_refuseText [Rv 1, Iv x2] M1 (QI (fun z3 M3 => (inr z3 ∧ ((z3 = 0 → 0 ≤ x2 ∧ (x2 < 4 ∧ (cl 0 yX6_read [Rv 7, Rv (47 + 2 * x2), Iv (M3 1 3)] M3 (QI (fun z8 M8 => (inr z8 ∧ ((z8 = (-9) → inr (M8 7 1) ∧ (((M8 7 1) ≤ 40 → 0 ≤ x1 ∧ (x1 < 8 ∧ (cl 0 yX10_become [Rv (55 + 3 * x1), Rv 8, Iv (M8 7 1), Iv 1, Iv 0, Iv (M8 (47 + 2 * x2) 1)] M8 (QI (fun z15 M15 => (Q (Iv z15) M15)))))) ∧ (40 < (M8 7 1) → Q (Iv (-2)) M8))) ∧ (z8 ≠ (-9) → Q (Iv (-4)) M8)))))))) ∧ (z3 ≠ 0 → Q (Iv z3) M3)))))) ∧ (z1 ≠ 0 → Q (Iv (-1)) M1))))) : cl 0 yX11_tell [Rv 1, Iv x1, Iv x2] M Q := enterG (by decide +kernel) (by exact Or.inr (Or.inl rfl)) (Nat.le_of_ble_eq_true rfl) rfl (gX11_tell h)
theorem gX11_join {x1 x2 x3 : Int}  {M : Mem} {Q : Vl → Mem → Prop} (h : cl 0 yX11_noWord [Iv x1] M (QI (fun z1 M1 => ((z1 = 0 → cl 0 yX11_refuseWords [Rv 1, Iv x2, Iv x3] M1 (QI (fun z3 M3 => (inr z3 ∧ ((z3 = 0 → 0 ≤ x2 ∧ (x2 < 8 ∧ (0 ≤ x3 ∧ (x3 < 8 ∧ (inr ((M3 ((55 + 3 * x2) + 1) 1) + (M3 ((55 + 3 * x3) + 1) 1)) ∧ ((((M3 ((55 + 3 * x2) + 1) 1) + (M3 ((55 + 3 * x3) + 1) 1)) ≤ 40 → 0 ≤ M3 ((55 + 3 * x2) + 1) 1 ∧ (0 + (M3 ((55 + 3 * x2) + 1) 1) ≤ 40 ∧ (0 + (M3 ((55 + 3 * x2) + 1) 1) ≤ 80 ∧ (0 ≤ (setA M3 6 (cpyf M3 (((55 + 3 * x2) + 1) + 1) 0 6 0 (M3 ((55 + 3 * x2) + 1) 1))) ((55 + 3 * x2) + 1) 1 ∧ (0 ≤ (setA M3 6 (cpyf M3 (((55 + 3 * x2) + 1) + 1) 0 6 0 (M3 ((55 + 3 * x2) + 1) 1))) ((55 + 3 * x3) + 1) 1 ∧ (0 + ((setA M3 6 (cpyf M3 (((55 + 3 * x2) + 1) + 1) 0 6 0 (M3 ((55 + 3 * x2) + 1) 1))) ((55 + 3 * x3) + 1) 1) ≤ 40 ∧ (((setA M3 6 (cpyf M3 (((55 + 3 * x2) + 1) + 1) 0 6 0 (M3 ((55 + 3 * x2) + 1) 1))) ((55 + 3 * x2) + 1) 1) + ((setA M3 6 (cpyf M3 (((55 + 3 * x2) + 1) + 1) 0 6 0 (M3 ((55 + 3 * x2) + 1) 1))) ((55 + 3 * x3) + 1) 1) ≤ 80 ∧ (0 ≤ x1 ∧ (x1 < 8 ∧ (cl 0 yX10_become [Rv (55 + 3 * x1), Rv 6, Iv ((M3 ((55 + 3 * x2) + 1) 1) + (M3 ((55 + 3 * x3) + 1) 1)), Iv 2, Iv x2, Iv 0] (setA (setA M3 6 (cpyf M3 (((55 + 3 * x2) + 1) + 1) 0 6 0 (M3 ((55 + 3 * x2) + 1) 1))) 6 (cpyf (setA M3 6 (cpyf M3 (((55 + 3 * x2) + 1) + 1) 0 6 0 (M3 ((55 + 3 * x2) + 1) 1))) (((55 + 3 * x3) + 1) + 1) 0 6 ((setA M3 6 (cpyf M3 (((55 + 3 * x2) + 1) + 1) 0 6 0 (M3 ((55 + 3 * x2) + 1) 1))) ((55 + 3 * x2) + 1) 1) ((setA M3 6 (cpyf M3 (((55 + 3 * x2) + 1) + 1) 0 6 0 (M3 ((55 + 3 * x2) + 1) 1))) ((55 + 3 * x3) + 1) 1))) (QI (fun z21 M21 => (Q (Iv z21) M21))))))))))))) ∧ (40 < ((M3 ((55 + 3 * x2) + 1) 1) + (M3 ((55 + 3 * x3) + 1) 1)) → Q (Iv (-2)) M3))))))) ∧ (z3 ≠ 0 → Q (Iv z3) M3)))))) ∧ (z1 ≠ 0 → Q (Iv (-1)) M1))))) : wp 0 yX11_join 0 [some (Rv 1), some (Iv x1), some (Iv x2), some (Iv x3), none, none, none, none] [] M Q := by
  refine wp_iload_n dX11_join_0 rfl ?_
  refine wp_callS (e1 := 0) (as := [Iv x1]) (S := []) dX11_join_1 (cs_X11_168 rfl) rfl rfl (Nat.le_of_ble_eq_true rfl) (Nat.le_of_ble_eq_true rfl) h (fun v1 M1 q1 r1 => ?_)
  obtain ⟨z1, rfl, hz1⟩ := retV_z r1 rfl
  have h := q1
  refine wp_if_eq (tgt := 9) dX11_join_4 (by decide) (by have := hz1; omega) (fun q2 => ?_) (fun q2 => ?_)
  · have h := h.1 q2
    refine wp_aload_n dX11_join_9 rfl (by decide) ?_
    refine wp_iload_n dX11_join_10 rfl ?_
    refine wp_iload_n dX11_join_11 rfl ?_
    refine wp_callV (e1 := 0) (as := [Iv x2, Iv x3]) (S := []) dX11_join_12 (cs_X11_183 rfl) kd_1 rfl rfl (Nat.le_of_ble_eq_true rfl) (Nat.le_of_ble_eq_true rfl) h (fun v3 M3 q3 r3 => ?_)
    obtain ⟨z3, rfl⟩ := retV_i r3 rfl
    have h := q3
    refine wp_istore (L2 := [some (Rv 1), some (Iv x1), some (Iv x2), some (Iv x3), some (Iv z3), none, none, none]) dX11_join_15 (Nat.le_of_ble_eq_true rfl) (Nat.le_of_ble_eq_true rfl) rfl ?_
    refine wp_iload dX11_join_17 rfl ?_
    obtain ⟨o4, h⟩ := h
    refine wp_if_eq (tgt := 25) dX11_join_19 (by decide) o4 (fun q5 => ?_) (fun q5 => ?_)
    · have h := h.1 q5
      refine wp_aload_n dX11_join_25 rfl (by decide) ?_
      refine wp_getf (t := Rv 4) 4 dX11_join_26 (fl_X11_20 rfl) kd_1 rfl rfl ?_
      refine wp_iload_n dX11_join_29 rfl ?_
      obtain ⟨o6, h⟩ := h
      obtain ⟨o7, h⟩ := h
      refine wp_aaldW (55 + 3 * x2) dX11_join_30 kd_4 sz_4 o6 o7 (⟨by omega, by omega⟩) rfl ?_
      refine wp_getf (t := Rv ((55 + 3 * x2) + 1)) ((55 + 3 * x2) + 1) dX11_join_31 (fl_X11_161 rfl) (isW_word o6 o7).k rfl rfl ?_
      refine wp_astore (L2 := [some (Rv 1), some (Iv x1), some (Iv x2), some (Iv x3), some (Iv z3), some (Rv ((55 + 3 * x2) + 1)), none, none]) dX11_join_34 (Nat.le_of_ble_eq_true rfl) (Nat.le_of_ble_eq_true rfl) rfl (isW_word o6 o7).l.p ?_
      refine wp_aload_n dX11_join_36 rfl (by decide) ?_
      refine wp_getf (t := Rv 4) 4 dX11_join_37 (fl_X11_20 rfl) kd_1 rfl rfl ?_
      refine wp_iload_n dX11_join_40 rfl ?_
      obtain ⟨o8, h⟩ := h
      obtain ⟨o9, h⟩ := h
      refine wp_aaldW (55 + 3 * x3) dX11_join_41 kd_4 sz_4 o8 o9 (⟨by omega, by omega⟩) rfl ?_
      refine wp_getf (t := Rv ((55 + 3 * x3) + 1)) ((55 + 3 * x3) + 1) dX11_join_42 (fl_X11_161 rfl) (isW_word o8 o9).k rfl rfl ?_
      refine wp_astore (L2 := [some (Rv 1), some (Iv x1), some (Iv x2), some (Iv x3), some (Iv z3), some (Rv ((55 + 3 * x2) + 1)), some (Rv ((55 + 3 * x3) + 1)), none]) dX11_join_45 (Nat.le_of_ble_eq_true rfl) (Nat.le_of_ble_eq_true rfl) rfl (isW_word o8 o9).l.p ?_
      refine wp_aload dX11_join_47 rfl (isW_word o6 o7).l.p ?_
      refine wp_getf (t := Iv (M3 ((55 + 3 * x2) + 1) 1)) (M3 ((55 + 3 * x2) + 1) 1) dX11_join_49 (fl_X11_135 rfl) (isW_word o6 o7).l.k rfl rfl ?_
      refine wp_aload dX11_join_52 rfl (isW_word o8 o9).l.p ?_
      refine wp_getf (t := Iv (M3 ((55 + 3 * x3) + 1) 1)) (M3 ((55 + 3 * x3) + 1) 1) dX11_join_54 (fl_X11_135 rfl) (isW_word o8 o9).l.k rfl rfl ?_
      refine wp_iadd dX11_join_57 ?_
      refine wp_istore (L2 := [some (Rv 1), some (Iv x1), some (Iv x2), some (Iv x3), some (Iv z3), some (Rv ((55 + 3 * x2) + 1)), some (Rv ((55 + 3 * x3) + 1)), some (Iv ((M3 ((55 + 3 * x2) + 1) 1) + (M3 ((55 + 3 * x3) + 1) 1)))]) dX11_join_58 (Nat.le_of_ble_eq_true rfl) (Nat.le_of_ble_eq_true rfl) rfl ?_
      refine wp_iload dX11_join_60 rfl ?_
      refine wp_bipush dX11_join_62 (by decide) ?_
      obtain ⟨o10, h⟩ := h
      refine wp_icmp_le (tgt := 70) dX11_join_64 (by decide) o10 (by decide) (fun q11 => ?_) (fun q11 => ?_)
      · have h := h.1 q11
        refine wp_aload dX11_join_70 rfl (isW_word o6 o7).l.p ?_
        refine wp_getf (t := Rv (((55 + 3 * x2) + 1) + 1)) (((55 + 3 * x2) + 1) + 1) dX11_join_72 (fl_X11_129 rfl) (isW_word o6 o7).l.k rfl rfl ?_
        refine wp_iconst dX11_join_75 ?_
        refine wp_aload_n dX11_join_76 rfl (by decide) ?_
        refine wp_getf (t := Rv 6) 6 dX11_join_77 (fl_X11_48 rfl) kd_1 rfl rfl ?_
        refine wp_iconst dX11_join_80 ?_
        refine wp_aload dX11_join_81 rfl (isW_word o6 o7).l.p ?_
        refine wp_getf (t := Iv (M3 ((55 + 3 * x2) + 1) 1)) (M3 ((55 + 3 * x2) + 1) 1) dX11_join_83 (fl_X11_135 rfl) (isW_word o6 o7).l.k rfl rfl ?_
        obtain ⟨o12, h⟩ := h
        obtain ⟨o13, h⟩ := h
        obtain ⟨o14, h⟩ := h
        refine wp_copy dX11_join_86 (ml_X11_146 rfl) (isW_word o6 o7).l.a.k kd_6 (isW_word o6 o7).l.a.n sz_6 (by decide) (by decide) o12 o13 o14 (by decide) (by decide) ⟨by omega, by omega⟩ (Nat.le_of_ble_eq_true rfl) (by decide) ?_
        refine wp_aload dX11_join_89 rfl (isW_word o8 o9).l.p ?_
        refine wp_getf (t := Rv (((55 + 3 * x3) + 1) + 1)) (((55 + 3 * x3) + 1) + 1) dX11_join_91 (fl_X11_129 rfl) (isW_word o8 o9).l.k rfl rfl ?_
        refine wp_iconst dX11_join_94 ?_
        refine wp_aload_n dX11_join_95 rfl (by decide) ?_
        refine wp_getf (t := Rv 6) 6 dX11_join_96 (fl_X11_48 rfl) kd_1 rfl rfl ?_
        refine wp_aload dX11_join_99 rfl (isW_word o6 o7).l.p ?_
        refine wp_getf (t := Iv ((setA M3 6 (cpyf M3 (((55 + 3 * x2) + 1) + 1) 0 6 0 (M3 ((55 + 3 * x2) + 1) 1))) ((55 + 3 * x2) + 1) 1)) ((setA M3 6 (cpyf M3 (((55 + 3 * x2) + 1) + 1) 0 6 0 (M3 ((55 + 3 * x2) + 1) 1))) ((55 + 3 * x2) + 1) 1) dX11_join_101 (fl_X11_135 rfl) (isW_word o6 o7).l.k rfl rfl ?_
        refine wp_aload dX11_join_104 rfl (isW_word o8 o9).l.p ?_
        refine wp_getf (t := Iv ((setA M3 6 (cpyf M3 (((55 + 3 * x2) + 1) + 1) 0 6 0 (M3 ((55 + 3 * x2) + 1) 1))) ((55 + 3 * x3) + 1) 1)) ((setA M3 6 (cpyf M3 (((55 + 3 * x2) + 1) + 1) 0 6 0 (M3 ((55 + 3 * x2) + 1) 1))) ((55 + 3 * x3) + 1) 1) dX11_join_106 (fl_X11_135 rfl) (isW_word o8 o9).l.k rfl rfl ?_
        obtain ⟨o15, h⟩ := h
        obtain ⟨o16, h⟩ := h
        obtain ⟨o17, h⟩ := h
        obtain ⟨o18, h⟩ := h
        refine wp_copy dX11_join_109 (ml_X11_146 rfl) (isW_word o8 o9).l.a.k kd_6 (isW_word o8 o9).l.a.n sz_6 (by decide) o15 o16 o17 o18 (by decide) ⟨by omega, by omega⟩ ⟨by omega, by omega⟩ (Nat.le_of_ble_eq_true rfl) (by decide) ?_
        refine wp_aload_n dX11_join_112 rfl (by decide) ?_
        refine wp_getf (t := Rv 4) 4 dX11_join_113 (fl_X11_20 rfl) kd_1 rfl rfl ?_
        refine wp_iload_n dX11_join_116 rfl ?_
        obtain ⟨o19, h⟩ := h
        obtain ⟨o20, h⟩ := h
        refine wp_aaldW (55 + 3 * x1) dX11_join_117 kd_4 sz_4 o19 o20 (⟨by omega, by omega⟩) rfl ?_
        refine wp_aload_n dX11_join_118 rfl (by decide) ?_
        refine wp_getf (t := Rv 6) 6 dX11_join_119 (fl_X11_48 rfl) kd_1 rfl rfl ?_
        refine wp_iload dX11_join_122 rfl ?_
        refine wp_iconst dX11_join_124 ?_
        refine wp_iload_n dX11_join_125 rfl ?_
        refine wp_iconst dX11_join_126 ?_
        refine wp_callV (e1 := 0) (as := [Rv 6, Iv ((M3 ((55 + 3 * x2) + 1) 1) + (M3 ((55 + 3 * x3) + 1) 1)), Iv 2, Iv x2, Iv 0]) (S := []) dX11_join_127 (cs_X11_171 rfl) (isW_word o19 o20).k rfl rfl (Nat.le_of_ble_eq_true rfl) (Nat.le_of_ble_eq_true rfl) h (fun v21 M21 q21 r21 => ?_)
        obtain ⟨z21, rfl⟩ := retV_i r21 rfl
        have h := q21
        exact wp_iret dX11_join_130 rfl (Or.inr ⟨rfl, rfl, rfl, by decide⟩) rfl h
      · have h := h.2 q11
        refine wp_bipush dX11_join_67 (by decide) ?_
        exact wp_iret dX11_join_69 rfl (Or.inr ⟨rfl, rfl, rfl, by decide⟩) rfl h
    · have h := h.2 q5
      refine wp_iload dX11_join_22 rfl ?_
      exact wp_iret dX11_join_24 rfl (Or.inr ⟨rfl, rfl, rfl, by decide⟩) rfl h
  · have h := h.2 q2
    refine wp_iconst dX11_join_7 ?_
    exact wp_iret dX11_join_8 rfl (Or.inr ⟨rfl, rfl, rfl, by decide⟩) rfl h
theorem eX11_join {x1 x2 x3 : Int}  {M : Mem} {Q : Vl → Mem → Prop} (h : cl 0 yX11_noWord [Iv x1] M (QI (fun z1 M1 => ((z1 = 0 → cl 0 yX11_refuseWords [Rv 1, Iv x2, Iv x3] M1 (QI (fun z3 M3 => (inr z3 ∧ ((z3 = 0 → 0 ≤ x2 ∧ (x2 < 8 ∧ (0 ≤ x3 ∧ (x3 < 8 ∧ (inr ((M3 ((55 + 3 * x2) + 1) 1) + (M3 ((55 + 3 * x3) + 1) 1)) ∧ ((((M3 ((55 + 3 * x2) + 1) 1) + (M3 ((55 + 3 * x3) + 1) 1)) ≤ 40 → 0 ≤ M3 ((55 + 3 * x2) + 1) 1 ∧ (0 + (M3 ((55 + 3 * x2) + 1) 1) ≤ 40 ∧ (0 + (M3 ((55 + 3 * x2) + 1) 1) ≤ 80 ∧ (0 ≤ (setA M3 6 (cpyf M3 (((55 + 3 * x2) + 1) + 1) 0 6 0 (M3 ((55 + 3 * x2) + 1) 1))) ((55 + 3 * x2) + 1) 1 ∧ (0 ≤ (setA M3 6 (cpyf M3 (((55 + 3 * x2) + 1) + 1) 0 6 0 (M3 ((55 + 3 * x2) + 1) 1))) ((55 + 3 * x3) + 1) 1 ∧ (0 + ((setA M3 6 (cpyf M3 (((55 + 3 * x2) + 1) + 1) 0 6 0 (M3 ((55 + 3 * x2) + 1) 1))) ((55 + 3 * x3) + 1) 1) ≤ 40 ∧ (((setA M3 6 (cpyf M3 (((55 + 3 * x2) + 1) + 1) 0 6 0 (M3 ((55 + 3 * x2) + 1) 1))) ((55 + 3 * x2) + 1) 1) + ((setA M3 6 (cpyf M3 (((55 + 3 * x2) + 1) + 1) 0 6 0 (M3 ((55 + 3 * x2) + 1) 1))) ((55 + 3 * x3) + 1) 1) ≤ 80 ∧ (0 ≤ x1 ∧ (x1 < 8 ∧ (cl 0 yX10_become [Rv (55 + 3 * x1), Rv 6, Iv ((M3 ((55 + 3 * x2) + 1) 1) + (M3 ((55 + 3 * x3) + 1) 1)), Iv 2, Iv x2, Iv 0] (setA (setA M3 6 (cpyf M3 (((55 + 3 * x2) + 1) + 1) 0 6 0 (M3 ((55 + 3 * x2) + 1) 1))) 6 (cpyf (setA M3 6 (cpyf M3 (((55 + 3 * x2) + 1) + 1) 0 6 0 (M3 ((55 + 3 * x2) + 1) 1))) (((55 + 3 * x3) + 1) + 1) 0 6 ((setA M3 6 (cpyf M3 (((55 + 3 * x2) + 1) + 1) 0 6 0 (M3 ((55 + 3 * x2) + 1) 1))) ((55 + 3 * x2) + 1) 1) ((setA M3 6 (cpyf M3 (((55 + 3 * x2) + 1) + 1) 0 6 0 (M3 ((55 + 3 * x2) + 1) 1))) ((55 + 3 * x3) + 1) 1))) (QI (fun z21 M21 => (Q (Iv z21) M21))))))))))))) ∧ (40 < ((M3 ((55 + 3 * x2) + 1) 1) + (M3 ((55 + 3 * x3) + 1) 1)) → Q (Iv (-2)) M3))))))) ∧ (z3 ≠ 0 → Q (Iv z3) M3)))))) ∧ (z1 ≠ 0 → Q (Iv (-1)) M1))))) : cl 0 yX11_join [Rv 1, Iv x1, Iv x2, Iv x3] M Q := enterG (by decide +kernel) (by exact Or.inr (Or.inl rfl)) (Nat.le_of_ble_eq_true rfl) rfl (gX11_join h)
theorem gX11_part {x1 x2 x3 x4 : Int}  {M : Mem} {Q : Vl → Mem → Prop} (h : cl 0 yX11_noWord [Iv x1] M (QI (fun z1 M1 => ((z1 ≠ 0 → Q (Iv (-1)) M1) ∧ (z1 = 0 → cl 0 yX11_noWord [Iv x2] M1 (QI (fun z3 M3 => ((z3 = 0 → inr x4 ∧ ((0 ≤ x4 → 0 ≤ x2 ∧ (x2 < 8 ∧ (cl 0 yX3_isMissing [Rv ((55 + 3 * x2) + 1)] M3 (QI (fun z9 M9 => ((z9 = 0 → cl 0 yX3_reaches [Rv ((55 + 3 * x2) + 1), Iv x3, Iv x4] M9 (QI (fun z11 M11 => ((z11 ≠ 0 → 0 ≤ x3 ∧ (x3 + x4 ≤ 40 ∧ (0 + x4 ≤ 80 ∧ (0 ≤ x1 ∧ (x1 < 8 ∧ (cl 0 yX10_become [Rv (55 + 3 * x1), Rv 6, Iv x4, Iv 2, Iv x2, Iv 0] (setA M11 6 (cpyf M11 (((55 + 3 * x2) + 1) + 1) x3 6 0 x4)) (QI (fun z18 M18 => (Q (Iv z18) M18))))))))) ∧ (z11 = 0 → cl 0 yX11_found [Rv 1, Iv 2] M11 (QI (fun z19 M19 => (Q (Iv z19) M19)))))))) ∧ (z9 ≠ 0 → cl 0 yX11_found [Rv 1, Iv 1] M9 (QI (fun z20 M20 => (Q (Iv z20) M20)))))))))) ∧ (x4 < 0 → cl 0 yX11_found [Rv 1, Iv 5] M3 (QI (fun z21 M21 => (Q (Iv z21) M21)))))) ∧ (z3 ≠ 0 → Q (Iv (-1)) M3))))))))) : wp 0 yX11_part 0 [some (Rv 1), some (Iv x1), some (Iv x2), some (Iv x3), some (Iv x4), none] [] M Q := by
  refine wp_iload_n dX11_part_0 rfl ?_
  refine wp_callS (e1 := 0) (as := [Iv x1]) (S := []) dX11_part_1 (cs_X11_168 rfl) rfl rfl (Nat.le_of_ble_eq_true rfl) (Nat.le_of_ble_eq_true rfl) h (fun v1 M1 q1 r1 => ?_)
  obtain ⟨z1, rfl, hz1⟩ := retV_z r1 rfl
  have h := q1
  refine wp_if_ne (tgt := 14) dX11_part_4 (by decide) (by have := hz1; omega) (fun q2 => ?_) (fun q2 => ?_)
  · have h := h.1 q2
    refine wp_iconst dX11_part_14 ?_
    exact wp_iret dX11_part_15 rfl (Or.inr ⟨rfl, rfl, rfl, by decide⟩) rfl h
  · have h := h.2 q2
    refine wp_iload_n dX11_part_7 rfl ?_
    refine wp_callS (e1 := 0) (as := [Iv x2]) (S := []) dX11_part_8 (cs_X11_168 rfl) rfl rfl (Nat.le_of_ble_eq_true rfl) (Nat.le_of_ble_eq_true rfl) h (fun v3 M3 q3 r3 => ?_)
    obtain ⟨z3, rfl, hz3⟩ := retV_z r3 rfl
    have h := q3
    refine wp_if_eq (tgt := 16) dX11_part_11 (by decide) (by have := hz3; omega) (fun q4 => ?_) (fun q4 => ?_)
    · have h := h.1 q4
      refine wp_iload dX11_part_16 rfl ?_
      obtain ⟨o5, h⟩ := h
      refine wp_if_ge (tgt := 27) dX11_part_18 (by decide) o5 (fun q6 => ?_) (fun q6 => ?_)
      · have h := h.1 q6
        refine wp_aload_n dX11_part_27 rfl (by decide) ?_
        refine wp_getf (t := Rv 4) 4 dX11_part_28 (fl_X11_20 rfl) kd_1 rfl rfl ?_
        refine wp_iload_n dX11_part_31 rfl ?_
        obtain ⟨o7, h⟩ := h
        obtain ⟨o8, h⟩ := h
        refine wp_aaldW (55 + 3 * x2) dX11_part_32 kd_4 sz_4 o7 o8 (⟨by omega, by omega⟩) rfl ?_
        refine wp_getf (t := Rv ((55 + 3 * x2) + 1)) ((55 + 3 * x2) + 1) dX11_part_33 (fl_X11_161 rfl) (isW_word o7 o8).k rfl rfl ?_
        refine wp_astore (L2 := [some (Rv 1), some (Iv x1), some (Iv x2), some (Iv x3), some (Iv x4), some (Rv ((55 + 3 * x2) + 1))]) dX11_part_36 (Nat.le_of_ble_eq_true rfl) (Nat.le_of_ble_eq_true rfl) rfl (isW_word o7 o8).l.p ?_
        refine wp_aload dX11_part_38 rfl (isW_word o7 o8).l.p ?_
        refine wp_callV (e1 := 0) (as := []) (S := []) dX11_part_40 (cs_X11_138 rfl) (isW_word o7 o8).l.k rfl rfl (Nat.le_of_ble_eq_true rfl) (Nat.le_of_ble_eq_true rfl) h (fun v9 M9 q9 r9 => ?_)
        obtain ⟨z9, rfl, hz9⟩ := retV_z r9 rfl
        have h := q9
        refine wp_if_eq (tgt := 52) dX11_part_43 (by decide) (by have := hz9; omega) (fun q10 => ?_) (fun q10 => ?_)
        · have h := h.1 q10
          refine wp_aload dX11_part_52 rfl (isW_word o7 o8).l.p ?_
          refine wp_iload_n dX11_part_54 rfl ?_
          refine wp_iload dX11_part_55 rfl ?_
          refine wp_callV (e1 := 0) (as := [Iv x3, Iv x4]) (S := []) dX11_part_57 (cs_X11_142 rfl) (isW_word o7 o8).l.k rfl rfl (Nat.le_of_ble_eq_true rfl) (Nat.le_of_ble_eq_true rfl) h (fun v11 M11 q11 r11 => ?_)
          obtain ⟨z11, rfl, hz11⟩ := retV_z r11 rfl
          have h := q11
          refine wp_if_ne (tgt := 69) dX11_part_60 (by decide) (by have := hz11; omega) (fun q12 => ?_) (fun q12 => ?_)
          · have h := h.1 q12
            refine wp_aload dX11_part_69 rfl (isW_word o7 o8).l.p ?_
            refine wp_getf (t := Rv (((55 + 3 * x2) + 1) + 1)) (((55 + 3 * x2) + 1) + 1) dX11_part_71 (fl_X11_129 rfl) (isW_word o7 o8).l.k rfl rfl ?_
            refine wp_iload_n dX11_part_74 rfl ?_
            refine wp_aload_n dX11_part_75 rfl (by decide) ?_
            refine wp_getf (t := Rv 6) 6 dX11_part_76 (fl_X11_48 rfl) kd_1 rfl rfl ?_
            refine wp_iconst dX11_part_79 ?_
            refine wp_iload dX11_part_80 rfl ?_
            obtain ⟨o13, h⟩ := h
            obtain ⟨o14, h⟩ := h
            obtain ⟨o15, h⟩ := h
            refine wp_copy dX11_part_82 (ml_X11_146 rfl) (isW_word o7 o8).l.a.k kd_6 (isW_word o7 o8).l.a.n sz_6 o13 (by decide) q6 o14 o15 ⟨by omega, by omega⟩ (by decide) ⟨by omega, by omega⟩ (Nat.le_of_ble_eq_true rfl) (by decide) ?_
            refine wp_aload_n dX11_part_85 rfl (by decide) ?_
            refine wp_getf (t := Rv 4) 4 dX11_part_86 (fl_X11_20 rfl) kd_1 rfl rfl ?_
            refine wp_iload_n dX11_part_89 rfl ?_
            obtain ⟨o16, h⟩ := h
            obtain ⟨o17, h⟩ := h
            refine wp_aaldW (55 + 3 * x1) dX11_part_90 kd_4 sz_4 o16 o17 (⟨by omega, by omega⟩) rfl ?_
            refine wp_aload_n dX11_part_91 rfl (by decide) ?_
            refine wp_getf (t := Rv 6) 6 dX11_part_92 (fl_X11_48 rfl) kd_1 rfl rfl ?_
            refine wp_iload dX11_part_95 rfl ?_
            refine wp_iconst dX11_part_97 ?_
            refine wp_iload_n dX11_part_98 rfl ?_
            refine wp_iconst dX11_part_99 ?_
            refine wp_callV (e1 := 0) (as := [Rv 6, Iv x4, Iv 2, Iv x2, Iv 0]) (S := []) dX11_part_100 (cs_X11_171 rfl) (isW_word o16 o17).k rfl rfl (Nat.le_of_ble_eq_true rfl) (Nat.le_of_ble_eq_true rfl) h (fun v18 M18 q18 r18 => ?_)
            obtain ⟨z18, rfl⟩ := retV_i r18 rfl
            have h := q18
            exact wp_iret dX11_part_103 rfl (Or.inr ⟨rfl, rfl, rfl, by decide⟩) rfl h
          · have h := h.2 q12
            refine wp_aload_n dX11_part_63 rfl (by decide) ?_
            refine wp_iconst dX11_part_64 ?_
            refine wp_callV (e1 := 0) (as := [Iv 2]) (S := []) dX11_part_65 (cs_X11_117 rfl) kd_1 rfl rfl (Nat.le_of_ble_eq_true rfl) (Nat.le_of_ble_eq_true rfl) h (fun v19 M19 q19 r19 => ?_)
            obtain ⟨z19, rfl⟩ := retV_i r19 rfl
            have h := q19
            exact wp_iret dX11_part_68 rfl (Or.inr ⟨rfl, rfl, rfl, by decide⟩) rfl h
        · have h := h.2 q10
          refine wp_aload_n dX11_part_46 rfl (by decide) ?_
          refine wp_iconst dX11_part_47 ?_
          refine wp_callV (e1 := 0) (as := [Iv 1]) (S := []) dX11_part_48 (cs_X11_117 rfl) kd_1 rfl rfl (Nat.le_of_ble_eq_true rfl) (Nat.le_of_ble_eq_true rfl) h (fun v20 M20 q20 r20 => ?_)
          obtain ⟨z20, rfl⟩ := retV_i r20 rfl
          have h := q20
          exact wp_iret dX11_part_51 rfl (Or.inr ⟨rfl, rfl, rfl, by decide⟩) rfl h
      · have h := h.2 q6
        refine wp_aload_n dX11_part_21 rfl (by decide) ?_
        refine wp_iconst dX11_part_22 ?_
        refine wp_callV (e1 := 0) (as := [Iv 5]) (S := []) dX11_part_23 (cs_X11_117 rfl) kd_1 rfl rfl (Nat.le_of_ble_eq_true rfl) (Nat.le_of_ble_eq_true rfl) h (fun v21 M21 q21 r21 => ?_)
        obtain ⟨z21, rfl⟩ := retV_i r21 rfl
        have h := q21
        exact wp_iret dX11_part_26 rfl (Or.inr ⟨rfl, rfl, rfl, by decide⟩) rfl h
    · have h := h.2 q4
      refine wp_iconst dX11_part_14 ?_
      exact wp_iret dX11_part_15 rfl (Or.inr ⟨rfl, rfl, rfl, by decide⟩) rfl h
theorem eX11_part {x1 x2 x3 x4 : Int}  {M : Mem} {Q : Vl → Mem → Prop} (h : cl 0 yX11_noWord [Iv x1] M (QI (fun z1 M1 => ((z1 ≠ 0 → Q (Iv (-1)) M1) ∧ (z1 = 0 → cl 0 yX11_noWord [Iv x2] M1 (QI (fun z3 M3 => ((z3 = 0 → inr x4 ∧ ((0 ≤ x4 → 0 ≤ x2 ∧ (x2 < 8 ∧ (cl 0 yX3_isMissing [Rv ((55 + 3 * x2) + 1)] M3 (QI (fun z9 M9 => ((z9 = 0 → cl 0 yX3_reaches [Rv ((55 + 3 * x2) + 1), Iv x3, Iv x4] M9 (QI (fun z11 M11 => ((z11 ≠ 0 → 0 ≤ x3 ∧ (x3 + x4 ≤ 40 ∧ (0 + x4 ≤ 80 ∧ (0 ≤ x1 ∧ (x1 < 8 ∧ (cl 0 yX10_become [Rv (55 + 3 * x1), Rv 6, Iv x4, Iv 2, Iv x2, Iv 0] (setA M11 6 (cpyf M11 (((55 + 3 * x2) + 1) + 1) x3 6 0 x4)) (QI (fun z18 M18 => (Q (Iv z18) M18))))))))) ∧ (z11 = 0 → cl 0 yX11_found [Rv 1, Iv 2] M11 (QI (fun z19 M19 => (Q (Iv z19) M19)))))))) ∧ (z9 ≠ 0 → cl 0 yX11_found [Rv 1, Iv 1] M9 (QI (fun z20 M20 => (Q (Iv z20) M20)))))))))) ∧ (x4 < 0 → cl 0 yX11_found [Rv 1, Iv 5] M3 (QI (fun z21 M21 => (Q (Iv z21) M21)))))) ∧ (z3 ≠ 0 → Q (Iv (-1)) M3))))))))) : cl 0 yX11_part [Rv 1, Iv x1, Iv x2, Iv x3, Iv x4] M Q := enterG (by decide +kernel) (by exact Or.inr (Or.inl rfl)) (Nat.le_of_ble_eq_true rfl) rfl (gX11_part h)
theorem gX11_turn {x1 x2 x3 : Int}  {M : Mem} {Q : Vl → Mem → Prop} (h : cl 0 yX11_noWord [Iv x1] M (QI (fun z1 M1 => ((z1 ≠ 0 → Q (Iv (-1)) M1) ∧ (z1 = 0 → inr x3 ∧ ((x3 < 0 → Q (Iv (-1)) M1) ∧ (0 ≤ x3 → ((x3 ≤ 1 → cl 0 yX11_refuseWord [Rv 1, Iv x2] M1 (QI (fun z6 M6 => (inr z6 ∧ ((z6 = 0 → 0 ≤ x2 ∧ (x2 < 8 ∧ (wp 0 yX11_turn 47 [some (Rv 1), some (Iv x1), some (Iv x2), some (Iv x3), some (Iv z6), some (Rv ((55 + 3 * x2) + 1)), some (Iv 0)] [] M6 Q))) ∧ (z6 ≠ 0 → Q (Iv z6) M6)))))) ∧ (1 < x3 → Q (Iv (-1)) M1))))))))) : wp 0 yX11_turn 0 [some (Rv 1), some (Iv x1), some (Iv x2), some (Iv x3), none, none, none] [] M Q := by
  refine wp_iload_n dX11_turn_0 rfl ?_
  refine wp_callS (e1 := 0) (as := [Iv x1]) (S := []) dX11_turn_1 (cs_X11_168 rfl) rfl rfl (Nat.le_of_ble_eq_true rfl) (Nat.le_of_ble_eq_true rfl) h (fun v1 M1 q1 r1 => ?_)
  obtain ⟨z1, rfl, hz1⟩ := retV_z r1 rfl
  have h := q1
  refine wp_if_ne (tgt := 16) dX11_turn_4 (by decide) (by have := hz1; omega) (fun q2 => ?_) (fun q2 => ?_)
  · have h := h.1 q2
    refine wp_iconst dX11_turn_16 ?_
    exact wp_iret dX11_turn_17 rfl (Or.inr ⟨rfl, rfl, rfl, by decide⟩) rfl h
  · have h := h.2 q2
    refine wp_iload_n dX11_turn_7 rfl ?_
    obtain ⟨o3, h⟩ := h
    refine wp_if_lt (tgt := 16) dX11_turn_8 (by decide) o3 (fun q4 => ?_) (fun q4 => ?_)
    · have h := h.1 q4
      refine wp_iconst dX11_turn_16 ?_
      exact wp_iret dX11_turn_17 rfl (Or.inr ⟨rfl, rfl, rfl, by decide⟩) rfl h
    · have h := h.2 q4
      refine wp_iload_n dX11_turn_11 rfl ?_
      refine wp_iconst dX11_turn_12 ?_
      refine wp_icmp_le (tgt := 18) dX11_turn_13 (by decide) o3 (by decide) (fun q5 => ?_) (fun q5 => ?_)
      · have h := h.1 q5
        refine wp_aload_n dX11_turn_18 rfl (by decide) ?_
        refine wp_iload_n dX11_turn_19 rfl ?_
        refine wp_callV (e1 := 0) (as := [Iv x2]) (S := []) dX11_turn_20 (cs_X11_186 rfl) kd_1 rfl rfl (Nat.le_of_ble_eq_true rfl) (Nat.le_of_ble_eq_true rfl) h (fun v6 M6 q6 r6 => ?_)
        obtain ⟨z6, rfl⟩ := retV_i r6 rfl
        have h := q6
        refine wp_istore (L2 := [some (Rv 1), some (Iv x1), some (Iv x2), some (Iv x3), some (Iv z6), none, none]) dX11_turn_23 (Nat.le_of_ble_eq_true rfl) (Nat.le_of_ble_eq_true rfl) rfl ?_
        refine wp_iload dX11_turn_25 rfl ?_
        obtain ⟨o7, h⟩ := h
        refine wp_if_eq (tgt := 33) dX11_turn_27 (by decide) o7 (fun q8 => ?_) (fun q8 => ?_)
        · have h := h.1 q8
          refine wp_aload_n dX11_turn_33 rfl (by decide) ?_
          refine wp_getf (t := Rv 4) 4 dX11_turn_34 (fl_X11_20 rfl) kd_1 rfl rfl ?_
          refine wp_iload_n dX11_turn_37 rfl ?_
          obtain ⟨o9, h⟩ := h
          obtain ⟨o10, h⟩ := h
          refine wp_aaldW (55 + 3 * x2) dX11_turn_38 kd_4 sz_4 o9 o10 (⟨by omega, by omega⟩) rfl ?_
          refine wp_getf (t := Rv ((55 + 3 * x2) + 1)) ((55 + 3 * x2) + 1) dX11_turn_39 (fl_X11_161 rfl) (isW_word o9 o10).k rfl rfl ?_
          refine wp_astore (L2 := [some (Rv 1), some (Iv x1), some (Iv x2), some (Iv x3), some (Iv z6), some (Rv ((55 + 3 * x2) + 1)), none]) dX11_turn_42 (Nat.le_of_ble_eq_true rfl) (Nat.le_of_ble_eq_true rfl) rfl (isW_word o9 o10).l.p ?_
          refine wp_iconst dX11_turn_44 ?_
          refine wp_istore (L2 := [some (Rv 1), some (Iv x1), some (Iv x2), some (Iv x3), some (Iv z6), some (Rv ((55 + 3 * x2) + 1)), some (Iv 0)]) dX11_turn_45 (Nat.le_of_ble_eq_true rfl) (Nat.le_of_ble_eq_true rfl) rfl ?_
          exact h
        · have h := h.2 q8
          refine wp_iload dX11_turn_30 rfl ?_
          exact wp_iret dX11_turn_32 rfl (Or.inr ⟨rfl, rfl, rfl, by decide⟩) rfl h
      · have h := h.2 q5
        refine wp_iconst dX11_turn_16 ?_
        exact wp_iret dX11_turn_17 rfl (Or.inr ⟨rfl, rfl, rfl, by decide⟩) rfl h
theorem eX11_turn {x1 x2 x3 : Int}  {M : Mem} {Q : Vl → Mem → Prop} (h : cl 0 yX11_noWord [Iv x1] M (QI (fun z1 M1 => ((z1 ≠ 0 → Q (Iv (-1)) M1) ∧ (z1 = 0 → inr x3 ∧ ((x3 < 0 → Q (Iv (-1)) M1) ∧ (0 ≤ x3 → ((x3 ≤ 1 → cl 0 yX11_refuseWord [Rv 1, Iv x2] M1 (QI (fun z6 M6 => (inr z6 ∧ ((z6 = 0 → 0 ≤ x2 ∧ (x2 < 8 ∧ (wp 0 yX11_turn 47 [some (Rv 1), some (Iv x1), some (Iv x2), some (Iv x3), some (Iv z6), some (Rv ((55 + 3 * x2) + 1)), some (Iv 0)] [] M6 Q))) ∧ (z6 ≠ 0 → Q (Iv z6) M6)))))) ∧ (1 < x3 → Q (Iv (-1)) M1))))))))) : cl 0 yX11_turn [Rv 1, Iv x1, Iv x2, Iv x3] M Q := enterG (by decide +kernel) (by exact Or.inr (Or.inl rfl)) (Nat.le_of_ble_eq_true rfl) rfl (gX11_turn h)
theorem gX11_turn_47 {x1 x2 x3 x4 x6 a5 : Int} (ha5 : isL a5 40) {M : Mem} {Q : Vl → Mem → Prop} (h : inr x6 ∧ (inr (M a5 1) ∧ (((M a5 1) ≤ x6 → 0 ≤ x1 ∧ (x1 < 8 ∧ (cl 0 yX10_become [Rv (55 + 3 * x1), Rv 6, Iv (M a5 1), Iv 3, Iv x2, Iv x3] M (QI (fun z6 M6 => (Q (Iv z6) M6)))))) ∧ (x6 < (M a5 1) → inr x3 ∧ ((x3 ≠ 0 → 0 ≤ x6 ∧ (x6 < 40 ∧ (x6 < 80 ∧ (wp 0 yX11_turn 47 [some (Rv 1), some (Iv x1), some (Iv x2), some (Iv x3), some (Iv x4), some (Rv a5), some (Iv (x6 + 1))] [] (up M 6 x6 (((M 1 3) - 1) - (M (a5 + 1) x6))) Q)))) ∧ (x3 = 0 → 0 ≤ ((M a5 1) - 1) - x6 ∧ (((M a5 1) - 1) - x6 < 40 ∧ (0 ≤ x6 ∧ (x6 < 80 ∧ (wp 0 yX11_turn 47 [some (Rv 1), some (Iv x1), some (Iv x2), some (Iv x3), some (Iv x4), some (Rv a5), some (Iv (x6 + 1))] [] (up M 6 x6 (M (a5 + 1) (((M a5 1) - 1) - x6))) Q)))))))))) : wp 0 yX11_turn 47 [some (Rv 1), some (Iv x1), some (Iv x2), some (Iv x3), some (Iv x4), some (Rv a5), some (Iv x6)] [] M Q := by
  refine wp_iload dX11_turn_47 rfl ?_
  refine wp_aload dX11_turn_49 rfl ha5.p ?_
  refine wp_getf (t := Iv (M a5 1)) (M a5 1) dX11_turn_51 (fl_X11_135 rfl) ha5.k rfl rfl ?_
  obtain ⟨o1, h⟩ := h
  obtain ⟨o2, h⟩ := h
  refine wp_icmp_ge (tgt := 108) dX11_turn_54 (by decide) o1 o2 (fun q3 => ?_) (fun q3 => ?_)
  · have h := h.1 q3
    refine wp_aload_n dX11_turn_108 rfl (by decide) ?_
    refine wp_getf (t := Rv 4) 4 dX11_turn_109 (fl_X11_20 rfl) kd_1 rfl rfl ?_
    refine wp_iload_n dX11_turn_112 rfl ?_
    obtain ⟨o4, h⟩ := h
    obtain ⟨o5, h⟩ := h
    refine wp_aaldW (55 + 3 * x1) dX11_turn_113 kd_4 sz_4 o4 o5 (⟨by omega, by omega⟩) rfl ?_
    refine wp_aload_n dX11_turn_114 rfl (by decide) ?_
    refine wp_getf (t := Rv 6) 6 dX11_turn_115 (fl_X11_48 rfl) kd_1 rfl rfl ?_
    refine wp_aload dX11_turn_118 rfl ha5.p ?_
    refine wp_getf (t := Iv (M a5 1)) (M a5 1) dX11_turn_120 (fl_X11_135 rfl) ha5.k rfl rfl ?_
    refine wp_iconst dX11_turn_123 ?_
    refine wp_iload_n dX11_turn_124 rfl ?_
    refine wp_iload_n dX11_turn_125 rfl ?_
    refine wp_callV (e1 := 0) (as := [Rv 6, Iv (M a5 1), Iv 3, Iv x2, Iv x3]) (S := []) dX11_turn_126 (cs_X11_171 rfl) (isW_word o4 o5).k rfl rfl (Nat.le_of_ble_eq_true rfl) (Nat.le_of_ble_eq_true rfl) h (fun v6 M6 q6 r6 => ?_)
    obtain ⟨z6, rfl⟩ := retV_i r6 rfl
    have h := q6
    exact wp_iret dX11_turn_129 rfl (Or.inr ⟨rfl, rfl, rfl, by decide⟩) rfl h
  · have h := h.2 q3
    refine wp_aload_n dX11_turn_57 rfl (by decide) ?_
    refine wp_getf (t := Rv 6) 6 dX11_turn_58 (fl_X11_48 rfl) kd_1 rfl rfl ?_
    refine wp_iload dX11_turn_61 rfl ?_
    refine wp_iload_n dX11_turn_63 rfl ?_
    obtain ⟨o7, h⟩ := h
    refine wp_if_ne (tgt := 86) dX11_turn_64 (by decide) o7 (fun q8 => ?_) (fun q8 => ?_)
    · have h := h.1 q8
      refine wp_aload_n dX11_turn_86 rfl (by decide) ?_
      refine wp_getf (t := Iv (M 1 3)) (M 1 3) dX11_turn_87 (fl_X11_24 rfl) kd_1 rfl rfl ?_
      refine wp_iconst dX11_turn_90 ?_
      refine wp_isub dX11_turn_91 ?_
      refine wp_aload dX11_turn_92 rfl ha5.p ?_
      refine wp_getf (t := Rv (a5 + 1)) (a5 + 1) dX11_turn_94 (fl_X11_129 rfl) ha5.k rfl rfl ?_
      refine wp_iload dX11_turn_97 rfl ?_
      obtain ⟨o9, h⟩ := h
      obtain ⟨o10, h⟩ := h
      refine wp_iald (M (a5 + 1) x6) dX11_turn_99 ha5.a.k ha5.a.n o9 o10 (⟨by omega, by omega⟩) rfl ?_
      refine wp_isub dX11_turn_100 ?_
      obtain ⟨o11, h⟩ := h
      refine wp_iast dX11_turn_101 kd_6 sz_6 o9 o11 (⟨by omega, by omega⟩) ?_
      refine wp_iinc (L2 := [some (Rv 1), some (Iv x1), some (Iv x2), some (Iv x3), some (Iv x4), some (Rv a5), some (Iv (x6 + 1))]) dX11_turn_102 rfl (Nat.le_of_ble_eq_true rfl) (Nat.le_of_ble_eq_true rfl) rfl ?_
      refine wp_goto (tgt := 47) dX11_turn_105 (by decide) ?_
      exact h
    · have h := h.2 q8
      refine wp_aload dX11_turn_67 rfl ha5.p ?_
      refine wp_getf (t := Rv (a5 + 1)) (a5 + 1) dX11_turn_69 (fl_X11_129 rfl) ha5.k rfl rfl ?_
      refine wp_aload dX11_turn_72 rfl ha5.p ?_
      refine wp_getf (t := Iv (M a5 1)) (M a5 1) dX11_turn_74 (fl_X11_135 rfl) ha5.k rfl rfl ?_
      refine wp_iconst dX11_turn_77 ?_
      refine wp_isub dX11_turn_78 ?_
      refine wp_iload dX11_turn_79 rfl ?_
      refine wp_isub dX11_turn_81 ?_
      obtain ⟨o12, h⟩ := h
      obtain ⟨o13, h⟩ := h
      refine wp_iald (M (a5 + 1) (((M a5 1) - 1) - x6)) dX11_turn_82 ha5.a.k ha5.a.n o12 o13 (⟨by omega, by omega⟩) rfl ?_
      refine wp_goto (tgt := 101) dX11_turn_83 (by decide) ?_
      obtain ⟨o14, h⟩ := h
      obtain ⟨o15, h⟩ := h
      refine wp_iast dX11_turn_101 kd_6 sz_6 o14 o15 (⟨by omega, by omega⟩) ?_
      refine wp_iinc (L2 := [some (Rv 1), some (Iv x1), some (Iv x2), some (Iv x3), some (Iv x4), some (Rv a5), some (Iv (x6 + 1))]) dX11_turn_102 rfl (Nat.le_of_ble_eq_true rfl) (Nat.le_of_ble_eq_true rfl) rfl ?_
      refine wp_goto (tgt := 47) dX11_turn_105 (by decide) ?_
      exact h
theorem gX11_drop {x1 x2 x3 : Int}  {M : Mem} {Q : Vl → Mem → Prop} (h : cl 0 yX11_noWord [Iv x1] M (QI (fun z1 M1 => ((z1 ≠ 0 → Q (Iv (-1)) M1) ∧ (z1 = 0 → cl 0 yX11_noLength [Iv x3] M1 (QI (fun z3 M3 => ((z3 = 0 → cl 0 yX11_refuseWord [Rv 1, Iv x2] M3 (QI (fun z5 M5 => (inr z5 ∧ ((z5 = 0 → 0 ≤ x2 ∧ (x2 < 8 ∧ (cl 0 yX1_keep [Rv 20, Rv ((55 + 3 * x2) + 1), Iv x3, Rv 6] M5 (QI (fun z10 M10 => (0 ≤ x1 ∧ (x1 < 8 ∧ (cl 0 yX10_become [Rv (55 + 3 * x1), Rv 6, Iv z10, Iv 4, Iv x2, Iv x3] M10 (QI (fun z13 M13 => (Q (Iv z13) M13))))))))))) ∧ (z5 ≠ 0 → Q (Iv z5) M5)))))) ∧ (z3 ≠ 0 → Q (Iv (-1)) M3))))))))) : wp 0 yX11_drop 0 [some (Rv 1), some (Iv x1), some (Iv x2), some (Iv x3), none, none] [] M Q := by
  refine wp_iload_n dX11_drop_0 rfl ?_
  refine wp_callS (e1 := 0) (as := [Iv x1]) (S := []) dX11_drop_1 (cs_X11_168 rfl) rfl rfl (Nat.le_of_ble_eq_true rfl) (Nat.le_of_ble_eq_true rfl) h (fun v1 M1 q1 r1 => ?_)
  obtain ⟨z1, rfl, hz1⟩ := retV_z r1 rfl
  have h := q1
  refine wp_if_ne (tgt := 14) dX11_drop_4 (by decide) (by have := hz1; omega) (fun q2 => ?_) (fun q2 => ?_)
  · have h := h.1 q2
    refine wp_iconst dX11_drop_14 ?_
    exact wp_iret dX11_drop_15 rfl (Or.inr ⟨rfl, rfl, rfl, by decide⟩) rfl h
  · have h := h.2 q2
    refine wp_iload_n dX11_drop_7 rfl ?_
    refine wp_callS (e1 := 0) (as := [Iv x3]) (S := []) dX11_drop_8 (cs_X11_189 rfl) rfl rfl (Nat.le_of_ble_eq_true rfl) (Nat.le_of_ble_eq_true rfl) h (fun v3 M3 q3 r3 => ?_)
    obtain ⟨z3, rfl, hz3⟩ := retV_z r3 rfl
    have h := q3
    refine wp_if_eq (tgt := 16) dX11_drop_11 (by decide) (by have := hz3; omega) (fun q4 => ?_) (fun q4 => ?_)
    · have h := h.1 q4
      refine wp_aload_n dX11_drop_16 rfl (by decide) ?_
      refine wp_iload_n dX11_drop_17 rfl ?_
      refine wp_callV (e1 := 0) (as := [Iv x2]) (S := []) dX11_drop_18 (cs_X11_186 rfl) kd_1 rfl rfl (Nat.le_of_ble_eq_true rfl) (Nat.le_of_ble_eq_true rfl) h (fun v5 M5 q5 r5 => ?_)
      obtain ⟨z5, rfl⟩ := retV_i r5 rfl
      have h := q5
      refine wp_istore (L2 := [some (Rv 1), some (Iv x1), some (Iv x2), some (Iv x3), some (Iv z5), none]) dX11_drop_21 (Nat.le_of_ble_eq_true rfl) (Nat.le_of_ble_eq_true rfl) rfl ?_
      refine wp_iload dX11_drop_23 rfl ?_
      obtain ⟨o6, h⟩ := h
      refine wp_if_eq (tgt := 31) dX11_drop_25 (by decide) o6 (fun q7 => ?_) (fun q7 => ?_)
      · have h := h.1 q7
        refine wp_aload_n dX11_drop_31 rfl (by decide) ?_
        refine wp_getf (t := Rv 20) 20 dX11_drop_32 (fl_X11_75 rfl) kd_1 rfl rfl ?_
        refine wp_aload_n dX11_drop_35 rfl (by decide) ?_
        refine wp_getf (t := Rv 4) 4 dX11_drop_36 (fl_X11_20 rfl) kd_1 rfl rfl ?_
        refine wp_iload_n dX11_drop_39 rfl ?_
        obtain ⟨o8, h⟩ := h
        obtain ⟨o9, h⟩ := h
        refine wp_aaldW (55 + 3 * x2) dX11_drop_40 kd_4 sz_4 o8 o9 (⟨by omega, by omega⟩) rfl ?_
        refine wp_getf (t := Rv ((55 + 3 * x2) + 1)) ((55 + 3 * x2) + 1) dX11_drop_41 (fl_X11_161 rfl) (isW_word o8 o9).k rfl rfl ?_
        refine wp_iload_n dX11_drop_44 rfl ?_
        refine wp_aload_n dX11_drop_45 rfl (by decide) ?_
        refine wp_getf (t := Rv 6) 6 dX11_drop_46 (fl_X11_48 rfl) kd_1 rfl rfl ?_
        refine wp_callV (e1 := 0) (as := [Rv ((55 + 3 * x2) + 1), Iv x3, Rv 6]) (S := []) dX11_drop_49 (cs_X11_192 rfl) kd_20 rfl rfl (Nat.le_of_ble_eq_true rfl) (Nat.le_of_ble_eq_true rfl) h (fun v10 M10 q10 r10 => ?_)
        obtain ⟨z10, rfl⟩ := retV_i r10 rfl
        have h := q10
        refine wp_istore (L2 := [some (Rv 1), some (Iv x1), some (Iv x2), some (Iv x3), some (Iv z5), some (Iv z10)]) dX11_drop_52 (Nat.le_of_ble_eq_true rfl) (Nat.le_of_ble_eq_true rfl) rfl ?_
        refine wp_aload_n dX11_drop_54 rfl (by decide) ?_
        refine wp_getf (t := Rv 4) 4 dX11_drop_55 (fl_X11_20 rfl) kd_1 rfl rfl ?_
        refine wp_iload_n dX11_drop_58 rfl ?_
        obtain ⟨o11, h⟩ := h
        obtain ⟨o12, h⟩ := h
        refine wp_aaldW (55 + 3 * x1) dX11_drop_59 kd_4 sz_4 o11 o12 (⟨by omega, by omega⟩) rfl ?_
        refine wp_aload_n dX11_drop_60 rfl (by decide) ?_
        refine wp_getf (t := Rv 6) 6 dX11_drop_61 (fl_X11_48 rfl) kd_1 rfl rfl ?_
        refine wp_iload dX11_drop_64 rfl ?_
        refine wp_iconst dX11_drop_66 ?_
        refine wp_iload_n dX11_drop_67 rfl ?_
        refine wp_iload_n dX11_drop_68 rfl ?_
        refine wp_callV (e1 := 0) (as := [Rv 6, Iv z10, Iv 4, Iv x2, Iv x3]) (S := []) dX11_drop_69 (cs_X11_171 rfl) (isW_word o11 o12).k rfl rfl (Nat.le_of_ble_eq_true rfl) (Nat.le_of_ble_eq_true rfl) h (fun v13 M13 q13 r13 => ?_)
        obtain ⟨z13, rfl⟩ := retV_i r13 rfl
        have h := q13
        exact wp_iret dX11_drop_72 rfl (Or.inr ⟨rfl, rfl, rfl, by decide⟩) rfl h
      · have h := h.2 q7
        refine wp_iload dX11_drop_28 rfl ?_
        exact wp_iret dX11_drop_30 rfl (Or.inr ⟨rfl, rfl, rfl, by decide⟩) rfl h
    · have h := h.2 q4
      refine wp_iconst dX11_drop_14 ?_
      exact wp_iret dX11_drop_15 rfl (Or.inr ⟨rfl, rfl, rfl, by decide⟩) rfl h
theorem eX11_drop {x1 x2 x3 : Int}  {M : Mem} {Q : Vl → Mem → Prop} (h : cl 0 yX11_noWord [Iv x1] M (QI (fun z1 M1 => ((z1 ≠ 0 → Q (Iv (-1)) M1) ∧ (z1 = 0 → cl 0 yX11_noLength [Iv x3] M1 (QI (fun z3 M3 => ((z3 = 0 → cl 0 yX11_refuseWord [Rv 1, Iv x2] M3 (QI (fun z5 M5 => (inr z5 ∧ ((z5 = 0 → 0 ≤ x2 ∧ (x2 < 8 ∧ (cl 0 yX1_keep [Rv 20, Rv ((55 + 3 * x2) + 1), Iv x3, Rv 6] M5 (QI (fun z10 M10 => (0 ≤ x1 ∧ (x1 < 8 ∧ (cl 0 yX10_become [Rv (55 + 3 * x1), Rv 6, Iv z10, Iv 4, Iv x2, Iv x3] M10 (QI (fun z13 M13 => (Q (Iv z13) M13))))))))))) ∧ (z5 ≠ 0 → Q (Iv z5) M5)))))) ∧ (z3 ≠ 0 → Q (Iv (-1)) M3))))))))) : cl 0 yX11_drop [Rv 1, Iv x1, Iv x2, Iv x3] M Q := enterG (by decide +kernel) (by exact Or.inr (Or.inl rfl)) (Nat.le_of_ble_eq_true rfl) rfl (gX11_drop h)
theorem gX11_erase {x1 : Int}  {M : Mem} {Q : Vl → Mem → Prop} (h : cl 0 yX11_refuseWord [Rv 1, Iv x1] M (QI (fun z1 M1 => (inr z1 ∧ ((z1 = 0 → 0 ≤ x1 ∧ (x1 < 8 ∧ (Q (Iv 1) (up M1 ((55 + 3 * x1) + 1) 1 (-1))))) ∧ (z1 ≠ 0 → Q (Iv z1) M1)))))) : wp 0 yX11_erase 0 [some (Rv 1), some (Iv x1), none] [] M Q := by
  refine wp_aload_n dX11_erase_0 rfl (by decide) ?_
  refine wp_iload_n dX11_erase_1 rfl ?_
  refine wp_callV (e1 := 0) (as := [Iv x1]) (S := []) dX11_erase_2 (cs_X11_186 rfl) kd_1 rfl rfl (Nat.le_of_ble_eq_true rfl) (Nat.le_of_ble_eq_true rfl) h (fun v1 M1 q1 r1 => ?_)
  obtain ⟨z1, rfl⟩ := retV_i r1 rfl
  have h := q1
  refine wp_istore_n (L2 := [some (Rv 1), some (Iv x1), some (Iv z1)]) dX11_erase_5 (Nat.le_of_ble_eq_true rfl) (Nat.le_of_ble_eq_true rfl) rfl ?_
  refine wp_iload_n dX11_erase_6 rfl ?_
  obtain ⟨o2, h⟩ := h
  refine wp_if_eq (tgt := 12) dX11_erase_7 (by decide) o2 (fun q3 => ?_) (fun q3 => ?_)
  · have h := h.1 q3
    refine wp_aload_n dX11_erase_12 rfl (by decide) ?_
    refine wp_getf (t := Rv 4) 4 dX11_erase_13 (fl_X11_20 rfl) kd_1 rfl rfl ?_
    refine wp_iload_n dX11_erase_16 rfl ?_
    obtain ⟨o4, h⟩ := h
    obtain ⟨o5, h⟩ := h
    refine wp_aaldW (55 + 3 * x1) dX11_erase_17 kd_4 sz_4 o4 o5 (⟨by omega, by omega⟩) rfl ?_
    refine wp_getf (t := Rv ((55 + 3 * x1) + 1)) ((55 + 3 * x1) + 1) dX11_erase_18 (fl_X11_161 rfl) (isW_word o4 o5).k rfl rfl ?_
    refine wp_iconst dX11_erase_21 ?_
    refine wp_putf (x := (-1)) dX11_erase_22 (fl_X11_135 rfl) (isW_word o4 o5).l.k (fun _ => rfl) rfl rfl trivial ?_
    refine wp_iconst dX11_erase_25 ?_
    exact wp_iret dX11_erase_26 rfl (Or.inr ⟨rfl, rfl, rfl, by decide⟩) rfl h
  · have h := h.2 q3
    refine wp_iload_n dX11_erase_10 rfl ?_
    exact wp_iret dX11_erase_11 rfl (Or.inr ⟨rfl, rfl, rfl, by decide⟩) rfl h
theorem eX11_erase {x1 : Int}  {M : Mem} {Q : Vl → Mem → Prop} (h : cl 0 yX11_refuseWord [Rv 1, Iv x1] M (QI (fun z1 M1 => (inr z1 ∧ ((z1 = 0 → 0 ≤ x1 ∧ (x1 < 8 ∧ (Q (Iv 1) (up M1 ((55 + 3 * x1) + 1) 1 (-1))))) ∧ (z1 ≠ 0 → Q (Iv z1) M1)))))) : cl 0 yX11_erase [Rv 1, Iv x1] M Q := enterG (by decide +kernel) (by exact Or.inr (Or.inl rfl)) (Nat.le_of_ble_eq_true rfl) rfl (gX11_erase h)
theorem gX11_size {x1 : Int}  {M : Mem} {Q : Vl → Mem → Prop} (h : cl 0 yX11_refuseWord [Rv 1, Iv x1] M (QI (fun z1 M1 => (inr z1 ∧ ((z1 = 0 → 0 ≤ x1 ∧ (x1 < 8 ∧ (Q (Iv (M1 ((55 + 3 * x1) + 1) 1)) M1))) ∧ (z1 ≠ 0 → Q (Iv z1) M1)))))) : wp 0 yX11_size 0 [some (Rv 1), some (Iv x1), none] [] M Q := by
  refine wp_aload_n dX11_size_0 rfl (by decide) ?_
  refine wp_iload_n dX11_size_1 rfl ?_
  refine wp_callV (e1 := 0) (as := [Iv x1]) (S := []) dX11_size_2 (cs_X11_186 rfl) kd_1 rfl rfl (Nat.le_of_ble_eq_true rfl) (Nat.le_of_ble_eq_true rfl) h (fun v1 M1 q1 r1 => ?_)
  obtain ⟨z1, rfl⟩ := retV_i r1 rfl
  have h := q1
  refine wp_istore_n (L2 := [some (Rv 1), some (Iv x1), some (Iv z1)]) dX11_size_5 (Nat.le_of_ble_eq_true rfl) (Nat.le_of_ble_eq_true rfl) rfl ?_
  refine wp_iload_n dX11_size_6 rfl ?_
  obtain ⟨o2, h⟩ := h
  refine wp_if_eq (tgt := 14) dX11_size_7 (by decide) o2 (fun q3 => ?_) (fun q3 => ?_)
  · have h := h.1 q3
    refine wp_aload_n dX11_size_14 rfl (by decide) ?_
    refine wp_getf (t := Rv 4) 4 dX11_size_15 (fl_X11_20 rfl) kd_1 rfl rfl ?_
    refine wp_iload_n dX11_size_18 rfl ?_
    obtain ⟨o4, h⟩ := h
    obtain ⟨o5, h⟩ := h
    refine wp_aaldW (55 + 3 * x1) dX11_size_19 kd_4 sz_4 o4 o5 (⟨by omega, by omega⟩) rfl ?_
    refine wp_getf (t := Rv ((55 + 3 * x1) + 1)) ((55 + 3 * x1) + 1) dX11_size_20 (fl_X11_161 rfl) (isW_word o4 o5).k rfl rfl ?_
    refine wp_getf (t := Iv (M1 ((55 + 3 * x1) + 1) 1)) (M1 ((55 + 3 * x1) + 1) 1) dX11_size_23 (fl_X11_135 rfl) (isW_word o4 o5).l.k rfl rfl ?_
    exact wp_iret dX11_size_26 rfl (Or.inr ⟨rfl, rfl, rfl, by decide⟩) rfl h
  · have h := h.2 q3
    refine wp_iload_n dX11_size_10 rfl ?_
    refine wp_goto (tgt := 26) dX11_size_11 (by decide) ?_
    exact wp_iret dX11_size_26 rfl (Or.inr ⟨rfl, rfl, rfl, by decide⟩) rfl h
theorem eX11_size {x1 : Int}  {M : Mem} {Q : Vl → Mem → Prop} (h : cl 0 yX11_refuseWord [Rv 1, Iv x1] M (QI (fun z1 M1 => (inr z1 ∧ ((z1 = 0 → 0 ≤ x1 ∧ (x1 < 8 ∧ (Q (Iv (M1 ((55 + 3 * x1) + 1) 1)) M1))) ∧ (z1 ≠ 0 → Q (Iv z1) M1)))))) : cl 0 yX11_size [Rv 1, Iv x1] M Q := enterG (by decide +kernel) (by exact Or.inr (Or.inl rfl)) (Nat.le_of_ble_eq_true rfl) rfl (gX11_size h)
theorem gX11_letter {x1 x2 : Int}  {M : Mem} {Q : Vl → Mem → Prop} (h : cl 0 yX11_refuseWord [Rv 1, Iv x1] M (QI (fun z1 M1 => (inr z1 ∧ ((z1 = 0 → 0 ≤ x1 ∧ (x1 < 8 ∧ (cl 0 yX3_has [Rv ((55 + 3 * x1) + 1), Iv x2] M1 (QI (fun z6 M6 => ((z6 ≠ 0 → 0 ≤ x2 ∧ (x2 < 40 ∧ (Q (Iv (M6 (((55 + 3 * x1) + 1) + 1) x2)) M6))) ∧ (z6 = 0 → cl 0 yX11_found [Rv 1, Iv 2] M6 (QI (fun z10 M10 => (Q (Iv z10) M10)))))))))) ∧ (z1 ≠ 0 → Q (Iv z1) M1)))))) : wp 0 yX11_letter 0 [some (Rv 1), some (Iv x1), some (Iv x2), none] [] M Q := by
  refine wp_aload_n dX11_letter_0 rfl (by decide) ?_
  refine wp_iload_n dX11_letter_1 rfl ?_
  refine wp_callV (e1 := 0) (as := [Iv x1]) (S := []) dX11_letter_2 (cs_X11_186 rfl) kd_1 rfl rfl (Nat.le_of_ble_eq_true rfl) (Nat.le_of_ble_eq_true rfl) h (fun v1 M1 q1 r1 => ?_)
  obtain ⟨z1, rfl⟩ := retV_i r1 rfl
  have h := q1
  refine wp_istore_n (L2 := [some (Rv 1), some (Iv x1), some (Iv x2), some (Iv z1)]) dX11_letter_5 (Nat.le_of_ble_eq_true rfl) (Nat.le_of_ble_eq_true rfl) rfl ?_
  refine wp_iload_n dX11_letter_6 rfl ?_
  obtain ⟨o2, h⟩ := h
  refine wp_if_eq (tgt := 12) dX11_letter_7 (by decide) o2 (fun q3 => ?_) (fun q3 => ?_)
  · have h := h.1 q3
    refine wp_aload_n dX11_letter_12 rfl (by decide) ?_
    refine wp_getf (t := Rv 4) 4 dX11_letter_13 (fl_X11_20 rfl) kd_1 rfl rfl ?_
    refine wp_iload_n dX11_letter_16 rfl ?_
    obtain ⟨o4, h⟩ := h
    obtain ⟨o5, h⟩ := h
    refine wp_aaldW (55 + 3 * x1) dX11_letter_17 kd_4 sz_4 o4 o5 (⟨by omega, by omega⟩) rfl ?_
    refine wp_getf (t := Rv ((55 + 3 * x1) + 1)) ((55 + 3 * x1) + 1) dX11_letter_18 (fl_X11_161 rfl) (isW_word o4 o5).k rfl rfl ?_
    refine wp_iload_n dX11_letter_21 rfl ?_
    refine wp_callV (e1 := 0) (as := [Iv x2]) (S := []) dX11_letter_22 (cs_X11_158 rfl) (isW_word o4 o5).l.k rfl rfl (Nat.le_of_ble_eq_true rfl) (Nat.le_of_ble_eq_true rfl) h (fun v6 M6 q6 r6 => ?_)
    obtain ⟨z6, rfl, hz6⟩ := retV_z r6 rfl
    have h := q6
    refine wp_if_ne (tgt := 34) dX11_letter_25 (by decide) (by have := hz6; omega) (fun q7 => ?_) (fun q7 => ?_)
    · have h := h.1 q7
      refine wp_aload_n dX11_letter_34 rfl (by decide) ?_
      refine wp_getf (t := Rv 4) 4 dX11_letter_35 (fl_X11_20 rfl) kd_1 rfl rfl ?_
      refine wp_iload_n dX11_letter_38 rfl ?_
      refine wp_aaldW (55 + 3 * x1) dX11_letter_39 kd_4 sz_4 o4 o5 (⟨by omega, by omega⟩) rfl ?_
      refine wp_getf (t := Rv ((55 + 3 * x1) + 1)) ((55 + 3 * x1) + 1) dX11_letter_40 (fl_X11_161 rfl) (isW_word o4 o5).k rfl rfl ?_
      refine wp_getf (t := Rv (((55 + 3 * x1) + 1) + 1)) (((55 + 3 * x1) + 1) + 1) dX11_letter_43 (fl_X11_129 rfl) (isW_word o4 o5).l.k rfl rfl ?_
      refine wp_iload_n dX11_letter_46 rfl ?_
      obtain ⟨o8, h⟩ := h
      obtain ⟨o9, h⟩ := h
      refine wp_iald (M6 (((55 + 3 * x1) + 1) + 1) x2) dX11_letter_47 (isW_word o4 o5).l.a.k (isW_word o4 o5).l.a.n o8 o9 (⟨by omega, by omega⟩) rfl ?_
      exact wp_iret dX11_letter_48 rfl (Or.inr ⟨rfl, rfl, rfl, by decide⟩) rfl h
    · have h := h.2 q7
      refine wp_aload_n dX11_letter_28 rfl (by decide) ?_
      refine wp_iconst dX11_letter_29 ?_
      refine wp_callV (e1 := 0) (as := [Iv 2]) (S := []) dX11_letter_30 (cs_X11_117 rfl) kd_1 rfl rfl (Nat.le_of_ble_eq_true rfl) (Nat.le_of_ble_eq_true rfl) h (fun v10 M10 q10 r10 => ?_)
      obtain ⟨z10, rfl⟩ := retV_i r10 rfl
      have h := q10
      exact wp_iret dX11_letter_33 rfl (Or.inr ⟨rfl, rfl, rfl, by decide⟩) rfl h
  · have h := h.2 q3
    refine wp_iload_n dX11_letter_10 rfl ?_
    exact wp_iret dX11_letter_11 rfl (Or.inr ⟨rfl, rfl, rfl, by decide⟩) rfl h
theorem eX11_letter {x1 x2 : Int}  {M : Mem} {Q : Vl → Mem → Prop} (h : cl 0 yX11_refuseWord [Rv 1, Iv x1] M (QI (fun z1 M1 => (inr z1 ∧ ((z1 = 0 → 0 ≤ x1 ∧ (x1 < 8 ∧ (cl 0 yX3_has [Rv ((55 + 3 * x1) + 1), Iv x2] M1 (QI (fun z6 M6 => ((z6 ≠ 0 → 0 ≤ x2 ∧ (x2 < 40 ∧ (Q (Iv (M6 (((55 + 3 * x1) + 1) + 1) x2)) M6))) ∧ (z6 = 0 → cl 0 yX11_found [Rv 1, Iv 2] M6 (QI (fun z10 M10 => (Q (Iv z10) M10)))))))))) ∧ (z1 ≠ 0 → Q (Iv z1) M1)))))) : cl 0 yX11_letter [Rv 1, Iv x1, Iv x2] M Q := enterG (by decide +kernel) (by exact Or.inr (Or.inl rfl)) (Nat.le_of_ble_eq_true rfl) rfl (gX11_letter h)
theorem gX11_kind {x1 : Int}  {M : Mem} {Q : Vl → Mem → Prop} (h : cl 0 yX11_refuseWord [Rv 1, Iv x1] M (QI (fun z1 M1 => (inr z1 ∧ ((z1 = 0 → 0 ≤ x1 ∧ (x1 < 8 ∧ (Q (Iv (M1 (55 + 3 * x1) 1)) M1))) ∧ (z1 ≠ 0 → Q (Iv z1) M1)))))) : wp 0 yX11_kind 0 [some (Rv 1), some (Iv x1), none] [] M Q := by
  refine wp_aload_n dX11_kind_0 rfl (by decide) ?_
  refine wp_iload_n dX11_kind_1 rfl ?_
  refine wp_callV (e1 := 0) (as := [Iv x1]) (S := []) dX11_kind_2 (cs_X11_186 rfl) kd_1 rfl rfl (Nat.le_of_ble_eq_true rfl) (Nat.le_of_ble_eq_true rfl) h (fun v1 M1 q1 r1 => ?_)
  obtain ⟨z1, rfl⟩ := retV_i r1 rfl
  have h := q1
  refine wp_istore_n (L2 := [some (Rv 1), some (Iv x1), some (Iv z1)]) dX11_kind_5 (Nat.le_of_ble_eq_true rfl) (Nat.le_of_ble_eq_true rfl) rfl ?_
  refine wp_iload_n dX11_kind_6 rfl ?_
  obtain ⟨o2, h⟩ := h
  refine wp_if_eq (tgt := 14) dX11_kind_7 (by decide) o2 (fun q3 => ?_) (fun q3 => ?_)
  · have h := h.1 q3
    refine wp_aload_n dX11_kind_14 rfl (by decide) ?_
    refine wp_getf (t := Rv 4) 4 dX11_kind_15 (fl_X11_20 rfl) kd_1 rfl rfl ?_
    refine wp_iload_n dX11_kind_18 rfl ?_
    obtain ⟨o4, h⟩ := h
    obtain ⟨o5, h⟩ := h
    refine wp_aaldW (55 + 3 * x1) dX11_kind_19 kd_4 sz_4 o4 o5 (⟨by omega, by omega⟩) rfl ?_
    refine wp_getf (t := Iv (M1 (55 + 3 * x1) 1)) (M1 (55 + 3 * x1) 1) dX11_kind_20 (fl_X11_196 rfl) (isW_word o4 o5).k rfl rfl ?_
    exact wp_iret dX11_kind_23 rfl (Or.inr ⟨rfl, rfl, rfl, by decide⟩) rfl h
  · have h := h.2 q3
    refine wp_iload_n dX11_kind_10 rfl ?_
    refine wp_goto (tgt := 23) dX11_kind_11 (by decide) ?_
    exact wp_iret dX11_kind_23 rfl (Or.inr ⟨rfl, rfl, rfl, by decide⟩) rfl h
theorem eX11_kind {x1 : Int}  {M : Mem} {Q : Vl → Mem → Prop} (h : cl 0 yX11_refuseWord [Rv 1, Iv x1] M (QI (fun z1 M1 => (inr z1 ∧ ((z1 = 0 → 0 ≤ x1 ∧ (x1 < 8 ∧ (Q (Iv (M1 (55 + 3 * x1) 1)) M1))) ∧ (z1 ≠ 0 → Q (Iv z1) M1)))))) : cl 0 yX11_kind [Rv 1, Iv x1] M Q := enterG (by decide +kernel) (by exact Or.inr (Or.inl rfl)) (Nat.le_of_ble_eq_true rfl) rfl (gX11_kind h)
theorem gX11_mark {x1 x2 : Int}  {M : Mem} {Q : Vl → Mem → Prop} (h : inr x2 ∧ ((x2 < 1 → Q (Iv (-1)) M) ∧ (1 ≤ x2 → ((x2 ≤ 4 → cl 0 yX11_refuseWord [Rv 1, Iv x1] M (QI (fun z4 M4 => (inr z4 ∧ ((z4 = 0 → 0 ≤ x1 ∧ (x1 < 8 ∧ (cl 0 yX10_is [Rv (55 + 3 * x1), Iv x2] M4 (QI (fun z9 M9 => ((z9 ≠ 0 → cl 0 yX10_markOf [Rv (55 + 3 * x1), Iv x2] M9 (QI (fun z11 M11 => (Q (Iv z11) M11)))) ∧ (z9 = 0 → cl 0 yX11_found [Rv 1, Iv 3] M9 (QI (fun z12 M12 => (Q (Iv z12) M12)))))))))) ∧ (z4 ≠ 0 → Q (Iv z4) M4)))))) ∧ (4 < x2 → Q (Iv (-1)) M))))) : wp 0 yX11_mark 0 [some (Rv 1), some (Iv x1), some (Iv x2), none] [] M Q := by
  refine wp_iload_n dX11_mark_0 rfl ?_
  refine wp_iconst dX11_mark_1 ?_
  obtain ⟨o1, h⟩ := h
  refine wp_icmp_lt (tgt := 10) dX11_mark_2 (by decide) o1 (by decide) (fun q2 => ?_) (fun q2 => ?_)
  · have h := h.1 q2
    refine wp_iconst dX11_mark_10 ?_
    exact wp_iret dX11_mark_11 rfl (Or.inr ⟨rfl, rfl, rfl, by decide⟩) rfl h
  · have h := h.2 q2
    refine wp_iload_n dX11_mark_5 rfl ?_
    refine wp_iconst dX11_mark_6 ?_
    refine wp_icmp_le (tgt := 12) dX11_mark_7 (by decide) o1 (by decide) (fun q3 => ?_) (fun q3 => ?_)
    · have h := h.1 q3
      refine wp_aload_n dX11_mark_12 rfl (by decide) ?_
      refine wp_iload_n dX11_mark_13 rfl ?_
      refine wp_callV (e1 := 0) (as := [Iv x1]) (S := []) dX11_mark_14 (cs_X11_186 rfl) kd_1 rfl rfl (Nat.le_of_ble_eq_true rfl) (Nat.le_of_ble_eq_true rfl) h (fun v4 M4 q4 r4 => ?_)
      obtain ⟨z4, rfl⟩ := retV_i r4 rfl
      have h := q4
      refine wp_istore_n (L2 := [some (Rv 1), some (Iv x1), some (Iv x2), some (Iv z4)]) dX11_mark_17 (Nat.le_of_ble_eq_true rfl) (Nat.le_of_ble_eq_true rfl) rfl ?_
      refine wp_iload_n dX11_mark_18 rfl ?_
      obtain ⟨o5, h⟩ := h
      refine wp_if_eq (tgt := 24) dX11_mark_19 (by decide) o5 (fun q6 => ?_) (fun q6 => ?_)
      · have h := h.1 q6
        refine wp_aload_n dX11_mark_24 rfl (by decide) ?_
        refine wp_getf (t := Rv 4) 4 dX11_mark_25 (fl_X11_20 rfl) kd_1 rfl rfl ?_
        refine wp_iload_n dX11_mark_28 rfl ?_
        obtain ⟨o7, h⟩ := h
        obtain ⟨o8, h⟩ := h
        refine wp_aaldW (55 + 3 * x1) dX11_mark_29 kd_4 sz_4 o7 o8 (⟨by omega, by omega⟩) rfl ?_
        refine wp_iload_n dX11_mark_30 rfl ?_
        refine wp_callV (e1 := 0) (as := [Iv x2]) (S := []) dX11_mark_31 (cs_X11_199 rfl) (isW_word o7 o8).k rfl rfl (Nat.le_of_ble_eq_true rfl) (Nat.le_of_ble_eq_true rfl) h (fun v9 M9 q9 r9 => ?_)
        obtain ⟨z9, rfl, hz9⟩ := retV_z r9 rfl
        have h := q9
        refine wp_if_ne (tgt := 43) dX11_mark_34 (by decide) (by have := hz9; omega) (fun q10 => ?_) (fun q10 => ?_)
        · have h := h.1 q10
          refine wp_aload_n dX11_mark_43 rfl (by decide) ?_
          refine wp_getf (t := Rv 4) 4 dX11_mark_44 (fl_X11_20 rfl) kd_1 rfl rfl ?_
          refine wp_iload_n dX11_mark_47 rfl ?_
          refine wp_aaldW (55 + 3 * x1) dX11_mark_48 kd_4 sz_4 o7 o8 (⟨by omega, by omega⟩) rfl ?_
          refine wp_iload_n dX11_mark_49 rfl ?_
          refine wp_callV (e1 := 0) (as := [Iv x2]) (S := []) dX11_mark_50 (cs_X11_202 rfl) (isW_word o7 o8).k rfl rfl (Nat.le_of_ble_eq_true rfl) (Nat.le_of_ble_eq_true rfl) h (fun v11 M11 q11 r11 => ?_)
          obtain ⟨z11, rfl⟩ := retV_i r11 rfl
          have h := q11
          exact wp_iret dX11_mark_53 rfl (Or.inr ⟨rfl, rfl, rfl, by decide⟩) rfl h
        · have h := h.2 q10
          refine wp_aload_n dX11_mark_37 rfl (by decide) ?_
          refine wp_iconst dX11_mark_38 ?_
          refine wp_callV (e1 := 0) (as := [Iv 3]) (S := []) dX11_mark_39 (cs_X11_117 rfl) kd_1 rfl rfl (Nat.le_of_ble_eq_true rfl) (Nat.le_of_ble_eq_true rfl) h (fun v12 M12 q12 r12 => ?_)
          obtain ⟨z12, rfl⟩ := retV_i r12 rfl
          have h := q12
          exact wp_iret dX11_mark_42 rfl (Or.inr ⟨rfl, rfl, rfl, by decide⟩) rfl h
      · have h := h.2 q6
        refine wp_iload_n dX11_mark_22 rfl ?_
        exact wp_iret dX11_mark_23 rfl (Or.inr ⟨rfl, rfl, rfl, by decide⟩) rfl h
    · have h := h.2 q3
      refine wp_iconst dX11_mark_10 ?_
      exact wp_iret dX11_mark_11 rfl (Or.inr ⟨rfl, rfl, rfl, by decide⟩) rfl h
theorem eX11_mark {x1 x2 : Int}  {M : Mem} {Q : Vl → Mem → Prop} (h : inr x2 ∧ ((x2 < 1 → Q (Iv (-1)) M) ∧ (1 ≤ x2 → ((x2 ≤ 4 → cl 0 yX11_refuseWord [Rv 1, Iv x1] M (QI (fun z4 M4 => (inr z4 ∧ ((z4 = 0 → 0 ≤ x1 ∧ (x1 < 8 ∧ (cl 0 yX10_is [Rv (55 + 3 * x1), Iv x2] M4 (QI (fun z9 M9 => ((z9 ≠ 0 → cl 0 yX10_markOf [Rv (55 + 3 * x1), Iv x2] M9 (QI (fun z11 M11 => (Q (Iv z11) M11)))) ∧ (z9 = 0 → cl 0 yX11_found [Rv 1, Iv 3] M9 (QI (fun z12 M12 => (Q (Iv z12) M12)))))))))) ∧ (z4 ≠ 0 → Q (Iv z4) M4)))))) ∧ (4 < x2 → Q (Iv (-1)) M))))) : cl 0 yX11_mark [Rv 1, Iv x1, Iv x2] M Q := enterG (by decide +kernel) (by exact Or.inr (Or.inl rfl)) (Nat.le_of_ble_eq_true rfl) rfl (gX11_mark h)
theorem gX11_ways {x1 x2 : Int}  {M : Mem} {Q : Vl → Mem → Prop} (h : cl 0 yX11_refuseWords [Rv 1, Iv x1, Iv x2] M (QI (fun z1 M1 => (inr z1 ∧ ((z1 = 0 → 0 ≤ x1 ∧ (x1 < 8 ∧ (0 ≤ x2 ∧ (x2 < 8 ∧ (cl 0 yX7_countWays [Rv 10, Rv ((55 + 3 * x1) + 1), Rv ((55 + 3 * x2) + 1)] M1 (QJ (fun z8 M8 => (inL z8 ∧ ((z8 ≤ 0 → Q (Iv 0) (up M8 1 5 z8)) ∧ (0 < z8 → Q (Iv 1) (up M8 1 5 z8))))))))))) ∧ (z1 ≠ 0 → Q (Iv z1) M1)))))) : wp 0 yX11_ways 0 [some (Rv 1), some (Iv x1), some (Iv x2), none] [] M Q := by
  refine wp_aload_n dX11_ways_0 rfl (by decide) ?_
  refine wp_iload_n dX11_ways_1 rfl ?_
  refine wp_iload_n dX11_ways_2 rfl ?_
  refine wp_callV (e1 := 0) (as := [Iv x1, Iv x2]) (S := []) dX11_ways_3 (cs_X11_183 rfl) kd_1 rfl rfl (Nat.le_of_ble_eq_true rfl) (Nat.le_of_ble_eq_true rfl) h (fun v1 M1 q1 r1 => ?_)
  obtain ⟨z1, rfl⟩ := retV_i r1 rfl
  have h := q1
  refine wp_istore_n (L2 := [some (Rv 1), some (Iv x1), some (Iv x2), some (Iv z1)]) dX11_ways_6 (Nat.le_of_ble_eq_true rfl) (Nat.le_of_ble_eq_true rfl) rfl ?_
  refine wp_iload_n dX11_ways_7 rfl ?_
  obtain ⟨o2, h⟩ := h
  refine wp_if_eq (tgt := 13) dX11_ways_8 (by decide) o2 (fun q3 => ?_) (fun q3 => ?_)
  · have h := h.1 q3
    refine wp_aload_n dX11_ways_13 rfl (by decide) ?_
    refine wp_aload_n dX11_ways_14 rfl (by decide) ?_
    refine wp_getf (t := Rv 10) 10 dX11_ways_15 (fl_X11_61 rfl) kd_1 rfl rfl ?_
    refine wp_aload_n dX11_ways_18 rfl (by decide) ?_
    refine wp_getf (t := Rv 4) 4 dX11_ways_19 (fl_X11_20 rfl) kd_1 rfl rfl ?_
    refine wp_iload_n dX11_ways_22 rfl ?_
    obtain ⟨o4, h⟩ := h
    obtain ⟨o5, h⟩ := h
    refine wp_aaldW (55 + 3 * x1) dX11_ways_23 kd_4 sz_4 o4 o5 (⟨by omega, by omega⟩) rfl ?_
    refine wp_getf (t := Rv ((55 + 3 * x1) + 1)) ((55 + 3 * x1) + 1) dX11_ways_24 (fl_X11_161 rfl) (isW_word o4 o5).k rfl rfl ?_
    refine wp_aload_n dX11_ways_27 rfl (by decide) ?_
    refine wp_getf (t := Rv 4) 4 dX11_ways_28 (fl_X11_20 rfl) kd_1 rfl rfl ?_
    refine wp_iload_n dX11_ways_31 rfl ?_
    obtain ⟨o6, h⟩ := h
    obtain ⟨o7, h⟩ := h
    refine wp_aaldW (55 + 3 * x2) dX11_ways_32 kd_4 sz_4 o6 o7 (⟨by omega, by omega⟩) rfl ?_
    refine wp_getf (t := Rv ((55 + 3 * x2) + 1)) ((55 + 3 * x2) + 1) dX11_ways_33 (fl_X11_161 rfl) (isW_word o6 o7).k rfl rfl ?_
    refine wp_callV (e1 := 0) (as := [Rv ((55 + 3 * x1) + 1), Rv ((55 + 3 * x2) + 1)]) (S := [Rv 1]) dX11_ways_36 (cs_X11_205 rfl) kd_10 rfl rfl (Nat.le_of_ble_eq_true rfl) (Nat.le_of_ble_eq_true rfl) h (fun v8 M8 q8 r8 => ?_)
    obtain ⟨z8, rfl⟩ := retV_j r8 rfl
    have h := q8
    refine wp_putf (x := z8) dX11_ways_39 (fl_X11_31 rfl) kd_1 (fun _ => rfl) rfl rfl trivial ?_
    refine wp_aload_n dX11_ways_42 rfl (by decide) ?_
    refine wp_getf (t := Jv z8) z8 dX11_ways_43 (fl_X11_31 rfl) kd_1 rfl rfl ?_
    refine wp_lconst0 dX11_ways_46 ?_
    obtain ⟨o9, h⟩ := h
    refine wp_lcmp dX11_ways_47 (Or.inr ⟨o9, (by decide)⟩) ?_
    refine wp_if_le (tgt := 55) dX11_ways_48 (by decide) lc_inr (fun q10 => ?_) (fun q10 => ?_)
    · have q10 := lc_le.mp q10
      have h := h.1 q10
      refine wp_iconst dX11_ways_55 ?_
      exact wp_iret dX11_ways_56 rfl (Or.inr ⟨rfl, rfl, rfl, by decide⟩) rfl h
    · have q10 := lc_gt.mp q10
      have h := h.2 q10
      refine wp_iconst dX11_ways_51 ?_
      refine wp_goto (tgt := 56) dX11_ways_52 (by decide) ?_
      exact wp_iret dX11_ways_56 rfl (Or.inr ⟨rfl, rfl, rfl, by decide⟩) rfl h
  · have h := h.2 q3
    refine wp_iload_n dX11_ways_11 rfl ?_
    exact wp_iret dX11_ways_12 rfl (Or.inr ⟨rfl, rfl, rfl, by decide⟩) rfl h
theorem eX11_ways {x1 x2 : Int}  {M : Mem} {Q : Vl → Mem → Prop} (h : cl 0 yX11_refuseWords [Rv 1, Iv x1, Iv x2] M (QI (fun z1 M1 => (inr z1 ∧ ((z1 = 0 → 0 ≤ x1 ∧ (x1 < 8 ∧ (0 ≤ x2 ∧ (x2 < 8 ∧ (cl 0 yX7_countWays [Rv 10, Rv ((55 + 3 * x1) + 1), Rv ((55 + 3 * x2) + 1)] M1 (QJ (fun z8 M8 => (inL z8 ∧ ((z8 ≤ 0 → Q (Iv 0) (up M8 1 5 z8)) ∧ (0 < z8 → Q (Iv 1) (up M8 1 5 z8))))))))))) ∧ (z1 ≠ 0 → Q (Iv z1) M1)))))) : cl 0 yX11_ways [Rv 1, Iv x1, Iv x2] M Q := enterG (by decide +kernel) (by exact Or.inr (Or.inl rfl)) (Nat.le_of_ble_eq_true rfl) rfl (gX11_ways h)
theorem gX11_way {x1 x2 x3 x4 : Int}  {M : Mem} {Q : Vl → Mem → Prop} (h : cl 0 yX11_noRow [Iv x3] M (QI (fun z1 M1 => ((z1 = 0 → cl 0 yX11_refuseWords [Rv 1, Iv x1, Iv x2] M1 (QI (fun z3 M3 => (inr z3 ∧ ((z3 = 0 → 0 ≤ x1 ∧ (x1 < 8 ∧ (0 ≤ x2 ∧ (x2 < 8 ∧ (cl 0 yX7_readBounds [Rv 10, Rv ((55 + 3 * x1) + 1), Rv ((55 + 3 * x2) + 1)] M3 (QI (fun z10 M10 => ((z10 ≠ 0 → 0 ≤ x3 ∧ (x3 < 6 ∧ (inr x4 ∧ ((x4 = 0 → cl 0 yX3_take [Rv (35 + 2 * x3), Rv 11, Iv (M10 ((55 + 3 * x2) + 1) 1)] M10 (QI (fun z16 M16 => (Q (Iv z16) M16)))) ∧ (x4 ≠ 0 → cl 0 yX3_take [Rv (35 + 2 * x3), Rv 12, Iv (M10 ((55 + 3 * x2) + 1) 1)] M10 (QI (fun z17 M17 => (Q (Iv z17) M17)))))))) ∧ (z10 = 0 → Q (Iv (-9)) M10))))))))) ∧ (z3 ≠ 0 → Q (Iv z3) M3)))))) ∧ (z1 ≠ 0 → Q (Iv (-1)) M1))))) : wp 0 yX11_way 0 [some (Rv 1), some (Iv x1), some (Iv x2), some (Iv x3), some (Iv x4), none] [] M Q := by
  refine wp_iload_n dX11_way_0 rfl ?_
  refine wp_callS (e1 := 0) (as := [Iv x3]) (S := []) dX11_way_1 (cs_X11_113 rfl) rfl rfl (Nat.le_of_ble_eq_true rfl) (Nat.le_of_ble_eq_true rfl) h (fun v1 M1 q1 r1 => ?_)
  obtain ⟨z1, rfl, hz1⟩ := retV_z r1 rfl
  have h := q1
  refine wp_if_eq (tgt := 9) dX11_way_4 (by decide) (by have := hz1; omega) (fun q2 => ?_) (fun q2 => ?_)
  · have h := h.1 q2
    refine wp_aload_n dX11_way_9 rfl (by decide) ?_
    refine wp_iload_n dX11_way_10 rfl ?_
    refine wp_iload_n dX11_way_11 rfl ?_
    refine wp_callV (e1 := 0) (as := [Iv x1, Iv x2]) (S := []) dX11_way_12 (cs_X11_183 rfl) kd_1 rfl rfl (Nat.le_of_ble_eq_true rfl) (Nat.le_of_ble_eq_true rfl) h (fun v3 M3 q3 r3 => ?_)
    obtain ⟨z3, rfl⟩ := retV_i r3 rfl
    have h := q3
    refine wp_istore (L2 := [some (Rv 1), some (Iv x1), some (Iv x2), some (Iv x3), some (Iv x4), some (Iv z3)]) dX11_way_15 (Nat.le_of_ble_eq_true rfl) (Nat.le_of_ble_eq_true rfl) rfl ?_
    refine wp_iload dX11_way_17 rfl ?_
    obtain ⟨o4, h⟩ := h
    refine wp_if_eq (tgt := 25) dX11_way_19 (by decide) o4 (fun q5 => ?_) (fun q5 => ?_)
    · have h := h.1 q5
      refine wp_aload_n dX11_way_25 rfl (by decide) ?_
      refine wp_getf (t := Rv 10) 10 dX11_way_26 (fl_X11_61 rfl) kd_1 rfl rfl ?_
      refine wp_aload_n dX11_way_29 rfl (by decide) ?_
      refine wp_getf (t := Rv 4) 4 dX11_way_30 (fl_X11_20 rfl) kd_1 rfl rfl ?_
      refine wp_iload_n dX11_way_33 rfl ?_
      obtain ⟨o6, h⟩ := h
      obtain ⟨o7, h⟩ := h
      refine wp_aaldW (55 + 3 * x1) dX11_way_34 kd_4 sz_4 o6 o7 (⟨by omega, by omega⟩) rfl ?_
      refine wp_getf (t := Rv ((55 + 3 * x1) + 1)) ((55 + 3 * x1) + 1) dX11_way_35 (fl_X11_161 rfl) (isW_word o6 o7).k rfl rfl ?_
      refine wp_aload_n dX11_way_38 rfl (by decide) ?_
      refine wp_getf (t := Rv 4) 4 dX11_way_39 (fl_X11_20 rfl) kd_1 rfl rfl ?_
      refine wp_iload_n dX11_way_42 rfl ?_
      obtain ⟨o8, h⟩ := h
      obtain ⟨o9, h⟩ := h
      refine wp_aaldW (55 + 3 * x2) dX11_way_43 kd_4 sz_4 o8 o9 (⟨by omega, by omega⟩) rfl ?_
      refine wp_getf (t := Rv ((55 + 3 * x2) + 1)) ((55 + 3 * x2) + 1) dX11_way_44 (fl_X11_161 rfl) (isW_word o8 o9).k rfl rfl ?_
      refine wp_callV (e1 := 0) (as := [Rv ((55 + 3 * x1) + 1), Rv ((55 + 3 * x2) + 1)]) (S := []) dX11_way_47 (cs_X11_209 rfl) kd_10 rfl rfl (Nat.le_of_ble_eq_true rfl) (Nat.le_of_ble_eq_true rfl) h (fun v10 M10 q10 r10 => ?_)
      obtain ⟨z10, rfl, hz10⟩ := retV_z r10 rfl
      have h := q10
      refine wp_if_ne (tgt := 56) dX11_way_50 (by decide) (by have := hz10; omega) (fun q11 => ?_) (fun q11 => ?_)
      · have h := h.1 q11
        refine wp_aload_n dX11_way_56 rfl (by decide) ?_
        refine wp_getf (t := Rv 2) 2 dX11_way_57 (fl_X11_11 rfl) kd_1 rfl rfl ?_
        refine wp_iload_n dX11_way_60 rfl ?_
        obtain ⟨o12, h⟩ := h
        obtain ⟨o13, h⟩ := h
        refine wp_aaldL (35 + 2 * x3) dX11_way_61 kd_2 sz_2 o12 o13 (⟨by omega, by omega⟩) rfl ?_
        refine wp_iload dX11_way_62 rfl ?_
        obtain ⟨o14, h⟩ := h
        refine wp_if_eq (tgt := 77) dX11_way_64 (by decide) o14 (fun q15 => ?_) (fun q15 => ?_)
        · have h := h.1 q15
          refine wp_aload_n dX11_way_77 rfl (by decide) ?_
          refine wp_getf (t := Rv 10) 10 dX11_way_78 (fl_X11_61 rfl) kd_1 rfl rfl ?_
          refine wp_getf (t := Rv 11) 11 dX11_way_81 (fl_X11_216 rfl) kd_10 rfl rfl ?_
          refine wp_aload_n dX11_way_84 rfl (by decide) ?_
          refine wp_getf (t := Rv 4) 4 dX11_way_85 (fl_X11_20 rfl) kd_1 rfl rfl ?_
          refine wp_iload_n dX11_way_88 rfl ?_
          refine wp_aaldW (55 + 3 * x2) dX11_way_89 kd_4 sz_4 o8 o9 (⟨by omega, by omega⟩) rfl ?_
          refine wp_getf (t := Rv ((55 + 3 * x2) + 1)) ((55 + 3 * x2) + 1) dX11_way_90 (fl_X11_161 rfl) (isW_word o8 o9).k rfl rfl ?_
          refine wp_getf (t := Iv (M10 ((55 + 3 * x2) + 1) 1)) (M10 ((55 + 3 * x2) + 1) 1) dX11_way_93 (fl_X11_135 rfl) (isW_word o8 o9).l.k rfl rfl ?_
          refine wp_callV (e1 := 0) (as := [Rv 11, Iv (M10 ((55 + 3 * x2) + 1) 1)]) (S := []) dX11_way_96 (cs_X11_219 rfl) (isL_row o12 o13).k rfl rfl (Nat.le_of_ble_eq_true rfl) (Nat.le_of_ble_eq_true rfl) h (fun v16 M16 q16 r16 => ?_)
          obtain ⟨z16, rfl⟩ := retV_i r16 rfl
          have h := q16
          exact wp_iret dX11_way_99 rfl (Or.inr ⟨rfl, rfl, rfl, by decide⟩) rfl h
        · have h := h.2 q15
          refine wp_aload_n dX11_way_67 rfl (by decide) ?_
          refine wp_getf (t := Rv 10) 10 dX11_way_68 (fl_X11_61 rfl) kd_1 rfl rfl ?_
          refine wp_getf (t := Rv 12) 12 dX11_way_71 (fl_X11_213 rfl) kd_10 rfl rfl ?_
          refine wp_goto (tgt := 84) dX11_way_74 (by decide) ?_
          refine wp_aload_n dX11_way_84 rfl (by decide) ?_
          refine wp_getf (t := Rv 4) 4 dX11_way_85 (fl_X11_20 rfl) kd_1 rfl rfl ?_
          refine wp_iload_n dX11_way_88 rfl ?_
          refine wp_aaldW (55 + 3 * x2) dX11_way_89 kd_4 sz_4 o8 o9 (⟨by omega, by omega⟩) rfl ?_
          refine wp_getf (t := Rv ((55 + 3 * x2) + 1)) ((55 + 3 * x2) + 1) dX11_way_90 (fl_X11_161 rfl) (isW_word o8 o9).k rfl rfl ?_
          refine wp_getf (t := Iv (M10 ((55 + 3 * x2) + 1) 1)) (M10 ((55 + 3 * x2) + 1) 1) dX11_way_93 (fl_X11_135 rfl) (isW_word o8 o9).l.k rfl rfl ?_
          refine wp_callV (e1 := 0) (as := [Rv 12, Iv (M10 ((55 + 3 * x2) + 1) 1)]) (S := []) dX11_way_96 (cs_X11_219 rfl) (isL_row o12 o13).k rfl rfl (Nat.le_of_ble_eq_true rfl) (Nat.le_of_ble_eq_true rfl) h (fun v17 M17 q17 r17 => ?_)
          obtain ⟨z17, rfl⟩ := retV_i r17 rfl
          have h := q17
          exact wp_iret dX11_way_99 rfl (Or.inr ⟨rfl, rfl, rfl, by decide⟩) rfl h
      · have h := h.2 q11
        refine wp_bipush dX11_way_53 (by decide) ?_
        exact wp_iret dX11_way_55 rfl (Or.inr ⟨rfl, rfl, rfl, by decide⟩) rfl h
    · have h := h.2 q5
      refine wp_iload dX11_way_22 rfl ?_
      exact wp_iret dX11_way_24 rfl (Or.inr ⟨rfl, rfl, rfl, by decide⟩) rfl h
  · have h := h.2 q2
    refine wp_iconst dX11_way_7 ?_
    exact wp_iret dX11_way_8 rfl (Or.inr ⟨rfl, rfl, rfl, by decide⟩) rfl h
theorem eX11_way {x1 x2 x3 x4 : Int}  {M : Mem} {Q : Vl → Mem → Prop} (h : cl 0 yX11_noRow [Iv x3] M (QI (fun z1 M1 => ((z1 = 0 → cl 0 yX11_refuseWords [Rv 1, Iv x1, Iv x2] M1 (QI (fun z3 M3 => (inr z3 ∧ ((z3 = 0 → 0 ≤ x1 ∧ (x1 < 8 ∧ (0 ≤ x2 ∧ (x2 < 8 ∧ (cl 0 yX7_readBounds [Rv 10, Rv ((55 + 3 * x1) + 1), Rv ((55 + 3 * x2) + 1)] M3 (QI (fun z10 M10 => ((z10 ≠ 0 → 0 ≤ x3 ∧ (x3 < 6 ∧ (inr x4 ∧ ((x4 = 0 → cl 0 yX3_take [Rv (35 + 2 * x3), Rv 11, Iv (M10 ((55 + 3 * x2) + 1) 1)] M10 (QI (fun z16 M16 => (Q (Iv z16) M16)))) ∧ (x4 ≠ 0 → cl 0 yX3_take [Rv (35 + 2 * x3), Rv 12, Iv (M10 ((55 + 3 * x2) + 1) 1)] M10 (QI (fun z17 M17 => (Q (Iv z17) M17)))))))) ∧ (z10 = 0 → Q (Iv (-9)) M10))))))))) ∧ (z3 ≠ 0 → Q (Iv z3) M3)))))) ∧ (z1 ≠ 0 → Q (Iv (-1)) M1))))) : cl 0 yX11_way [Rv 1, Iv x1, Iv x2, Iv x3, Iv x4] M Q := enterG (by decide +kernel) (by exact Or.inr (Or.inl rfl)) (Nat.le_of_ble_eq_true rfl) rfl (gX11_way h)
theorem gX11_places {x1 x2 x3 : Int}  {M : Mem} {Q : Vl → Mem → Prop} (h : cl 0 yX11_refuseWords [Rv 1, Iv x1, Iv x2] M (QI (fun z1 M1 => (inr z1 ∧ ((z1 = 0 → 0 ≤ x1 ∧ (x1 < 8 ∧ (0 ≤ x2 ∧ (x2 < 8 ∧ (cl 0 yX7_readBounds [Rv 10, Rv ((55 + 3 * x1) + 1), Rv ((55 + 3 * x2) + 1)] M1 (QI (fun z8 M8 => ((z8 ≠ 0 → inr x3 ∧ ((x3 = 0 → cl 0 yX7_someWay [Rv 10, Rv ((55 + 3 * x1) + 1), Rv ((55 + 3 * x2) + 1)] M8 (QJ (fun z12 M12 => (cl 0 yJ13_bitCount_95d88 [Jv z12] (up M12 1 5 z12) (QI (fun z13 M13 => (Q (Iv z13) M13))))))) ∧ (x3 ≠ 0 → cl 0 yX7_everyWay [Rv 10, Iv (M8 ((55 + 3 * x2) + 1) 1)] M8 (QJ (fun z14 M14 => (cl 0 yJ13_bitCount_95d88 [Jv z14] (up M14 1 5 z14) (QI (fun z15 M15 => (Q (Iv z15) M15))))))))) ∧ (z8 = 0 → Q (Iv (-9)) M8))))))))) ∧ (z1 ≠ 0 → Q (Iv z1) M1)))))) : wp 0 yX11_places 0 [some (Rv 1), some (Iv x1), some (Iv x2), some (Iv x3), none, none, none] [] M Q := by
  refine wp_aload_n dX11_places_0 rfl (by decide) ?_
  refine wp_iload_n dX11_places_1 rfl ?_
  refine wp_iload_n dX11_places_2 rfl ?_
  refine wp_callV (e1 := 0) (as := [Iv x1, Iv x2]) (S := []) dX11_places_3 (cs_X11_183 rfl) kd_1 rfl rfl (Nat.le_of_ble_eq_true rfl) (Nat.le_of_ble_eq_true rfl) h (fun v1 M1 q1 r1 => ?_)
  obtain ⟨z1, rfl⟩ := retV_i r1 rfl
  have h := q1
  refine wp_istore (L2 := [some (Rv 1), some (Iv x1), some (Iv x2), some (Iv x3), some (Iv z1), none, none]) dX11_places_6 (Nat.le_of_ble_eq_true rfl) (Nat.le_of_ble_eq_true rfl) rfl ?_
  refine wp_iload dX11_places_8 rfl ?_
  obtain ⟨o2, h⟩ := h
  refine wp_if_eq (tgt := 16) dX11_places_10 (by decide) o2 (fun q3 => ?_) (fun q3 => ?_)
  · have h := h.1 q3
    refine wp_aload_n dX11_places_16 rfl (by decide) ?_
    refine wp_getf (t := Rv 4) 4 dX11_places_17 (fl_X11_20 rfl) kd_1 rfl rfl ?_
    refine wp_iload_n dX11_places_20 rfl ?_
    obtain ⟨o4, h⟩ := h
    obtain ⟨o5, h⟩ := h
    refine wp_aaldW (55 + 3 * x1) dX11_places_21 kd_4 sz_4 o4 o5 (⟨by omega, by omega⟩) rfl ?_
    refine wp_getf (t := Rv ((55 + 3 * x1) + 1)) ((55 + 3 * x1) + 1) dX11_places_22 (fl_X11_161 rfl) (isW_word o4 o5).k rfl rfl ?_
    refine wp_astore (L2 := [some (Rv 1), some (Iv x1), some (Iv x2), some (Iv x3), some (Iv z1), some (Rv ((55 + 3 * x1) + 1)), none]) dX11_places_25 (Nat.le_of_ble_eq_true rfl) (Nat.le_of_ble_eq_true rfl) rfl (isW_word o4 o5).l.p ?_
    refine wp_aload_n dX11_places_27 rfl (by decide) ?_
    refine wp_getf (t := Rv 4) 4 dX11_places_28 (fl_X11_20 rfl) kd_1 rfl rfl ?_
    refine wp_iload_n dX11_places_31 rfl ?_
    obtain ⟨o6, h⟩ := h
    obtain ⟨o7, h⟩ := h
    refine wp_aaldW (55 + 3 * x2) dX11_places_32 kd_4 sz_4 o6 o7 (⟨by omega, by omega⟩) rfl ?_
    refine wp_getf (t := Rv ((55 + 3 * x2) + 1)) ((55 + 3 * x2) + 1) dX11_places_33 (fl_X11_161 rfl) (isW_word o6 o7).k rfl rfl ?_
    refine wp_astore (L2 := [some (Rv 1), some (Iv x1), some (Iv x2), some (Iv x3), some (Iv z1), some (Rv ((55 + 3 * x1) + 1)), some (Rv ((55 + 3 * x2) + 1))]) dX11_places_36 (Nat.le_of_ble_eq_true rfl) (Nat.le_of_ble_eq_true rfl) rfl (isW_word o6 o7).l.p ?_
    refine wp_aload_n dX11_places_38 rfl (by decide) ?_
    refine wp_getf (t := Rv 10) 10 dX11_places_39 (fl_X11_61 rfl) kd_1 rfl rfl ?_
    refine wp_aload dX11_places_42 rfl (isW_word o4 o5).l.p ?_
    refine wp_aload dX11_places_44 rfl (isW_word o6 o7).l.p ?_
    refine wp_callV (e1 := 0) (as := [Rv ((55 + 3 * x1) + 1), Rv ((55 + 3 * x2) + 1)]) (S := []) dX11_places_46 (cs_X11_209 rfl) kd_10 rfl rfl (Nat.le_of_ble_eq_true rfl) (Nat.le_of_ble_eq_true rfl) h (fun v8 M8 q8 r8 => ?_)
    obtain ⟨z8, rfl, hz8⟩ := retV_z r8 rfl
    have h := q8
    refine wp_if_ne (tgt := 55) dX11_places_49 (by decide) (by have := hz8; omega) (fun q9 => ?_) (fun q9 => ?_)
    · have h := h.1 q9
      refine wp_aload_n dX11_places_55 rfl (by decide) ?_
      refine wp_iload_n dX11_places_56 rfl ?_
      obtain ⟨o10, h⟩ := h
      refine wp_if_eq (tgt := 75) dX11_places_57 (by decide) o10 (fun q11 => ?_) (fun q11 => ?_)
      · have h := h.1 q11
        refine wp_aload_n dX11_places_75 rfl (by decide) ?_
        refine wp_getf (t := Rv 10) 10 dX11_places_76 (fl_X11_61 rfl) kd_1 rfl rfl ?_
        refine wp_aload dX11_places_79 rfl (isW_word o4 o5).l.p ?_
        refine wp_aload dX11_places_81 rfl (isW_word o6 o7).l.p ?_
        refine wp_callV (e1 := 0) (as := [Rv ((55 + 3 * x1) + 1), Rv ((55 + 3 * x2) + 1)]) (S := [Rv 1]) dX11_places_83 (cs_X11_227 rfl) kd_10 rfl rfl (Nat.le_of_ble_eq_true rfl) (Nat.le_of_ble_eq_true rfl) h (fun v12 M12 q12 r12 => ?_)
        obtain ⟨z12, rfl⟩ := retV_j r12 rfl
        have h := q12
        refine wp_putf (x := z12) dX11_places_86 (fl_X11_31 rfl) kd_1 (fun _ => rfl) rfl rfl trivial ?_
        refine wp_aload_n dX11_places_89 rfl (by decide) ?_
        refine wp_getf (t := Jv z12) z12 dX11_places_90 (fl_X11_31 rfl) kd_1 rfl rfl ?_
        refine wp_callS (e1 := 0) (as := [Jv z12]) (S := []) dX11_places_93 (cs_X11_230 rfl) rfl rfl (Nat.le_of_ble_eq_true rfl) (Nat.le_of_ble_eq_true rfl) h (fun v13 M13 q13 r13 => ?_)
        obtain ⟨z13, rfl⟩ := retV_i r13 rfl
        have h := q13
        exact wp_iret dX11_places_96 rfl (Or.inr ⟨rfl, rfl, rfl, by decide⟩) rfl h
      · have h := h.2 q11
        refine wp_aload_n dX11_places_60 rfl (by decide) ?_
        refine wp_getf (t := Rv 10) 10 dX11_places_61 (fl_X11_61 rfl) kd_1 rfl rfl ?_
        refine wp_aload dX11_places_64 rfl (isW_word o6 o7).l.p ?_
        refine wp_getf (t := Iv (M8 ((55 + 3 * x2) + 1) 1)) (M8 ((55 + 3 * x2) + 1) 1) dX11_places_66 (fl_X11_135 rfl) (isW_word o6 o7).l.k rfl rfl ?_
        refine wp_callV (e1 := 0) (as := [Iv (M8 ((55 + 3 * x2) + 1) 1)]) (S := [Rv 1]) dX11_places_69 (cs_X11_223 rfl) kd_10 rfl rfl (Nat.le_of_ble_eq_true rfl) (Nat.le_of_ble_eq_true rfl) h (fun v14 M14 q14 r14 => ?_)
        obtain ⟨z14, rfl⟩ := retV_j r14 rfl
        have h := q14
        refine wp_goto (tgt := 86) dX11_places_72 (by decide) ?_
        refine wp_putf (x := z14) dX11_places_86 (fl_X11_31 rfl) kd_1 (fun _ => rfl) rfl rfl trivial ?_
        refine wp_aload_n dX11_places_89 rfl (by decide) ?_
        refine wp_getf (t := Jv z14) z14 dX11_places_90 (fl_X11_31 rfl) kd_1 rfl rfl ?_
        refine wp_callS (e1 := 0) (as := [Jv z14]) (S := []) dX11_places_93 (cs_X11_230 rfl) rfl rfl (Nat.le_of_ble_eq_true rfl) (Nat.le_of_ble_eq_true rfl) h (fun v15 M15 q15 r15 => ?_)
        obtain ⟨z15, rfl⟩ := retV_i r15 rfl
        have h := q15
        exact wp_iret dX11_places_96 rfl (Or.inr ⟨rfl, rfl, rfl, by decide⟩) rfl h
    · have h := h.2 q9
      refine wp_bipush dX11_places_52 (by decide) ?_
      exact wp_iret dX11_places_54 rfl (Or.inr ⟨rfl, rfl, rfl, by decide⟩) rfl h
  · have h := h.2 q3
    refine wp_iload dX11_places_13 rfl ?_
    exact wp_iret dX11_places_15 rfl (Or.inr ⟨rfl, rfl, rfl, by decide⟩) rfl h
theorem eX11_places {x1 x2 x3 : Int}  {M : Mem} {Q : Vl → Mem → Prop} (h : cl 0 yX11_refuseWords [Rv 1, Iv x1, Iv x2] M (QI (fun z1 M1 => (inr z1 ∧ ((z1 = 0 → 0 ≤ x1 ∧ (x1 < 8 ∧ (0 ≤ x2 ∧ (x2 < 8 ∧ (cl 0 yX7_readBounds [Rv 10, Rv ((55 + 3 * x1) + 1), Rv ((55 + 3 * x2) + 1)] M1 (QI (fun z8 M8 => ((z8 ≠ 0 → inr x3 ∧ ((x3 = 0 → cl 0 yX7_someWay [Rv 10, Rv ((55 + 3 * x1) + 1), Rv ((55 + 3 * x2) + 1)] M8 (QJ (fun z12 M12 => (cl 0 yJ13_bitCount_95d88 [Jv z12] (up M12 1 5 z12) (QI (fun z13 M13 => (Q (Iv z13) M13))))))) ∧ (x3 ≠ 0 → cl 0 yX7_everyWay [Rv 10, Iv (M8 ((55 + 3 * x2) + 1) 1)] M8 (QJ (fun z14 M14 => (cl 0 yJ13_bitCount_95d88 [Jv z14] (up M14 1 5 z14) (QI (fun z15 M15 => (Q (Iv z15) M15))))))))) ∧ (z8 = 0 → Q (Iv (-9)) M8))))))))) ∧ (z1 ≠ 0 → Q (Iv z1) M1)))))) : cl 0 yX11_places [Rv 1, Iv x1, Iv x2, Iv x3] M Q := enterG (by decide +kernel) (by exact Or.inr (Or.inl rfl)) (Nat.le_of_ble_eq_true rfl) rfl (gX11_places h)
theorem gX11_judge {x1 x2 x3 : Int}  {M : Mem} {Q : Vl → Mem → Prop} (h : cl 0 yX11_noRow [Iv x3] M (QI (fun z1 M1 => ((z1 = 0 → cl 0 yX11_refuseWords [Rv 1, Iv x1, Iv x2] M1 (QI (fun z3 M3 => (inr z3 ∧ ((z3 = 0 → 0 ≤ x3 ∧ (x3 < 6 ∧ (cl 0 yX3_isMissing [Rv (35 + 2 * x3)] M3 (QI (fun z8 M8 => ((z8 = 0 → 0 ≤ x1 ∧ (x1 < 8 ∧ (0 ≤ x2 ∧ (x2 < 8 ∧ (cl 0 yX7_isWay [Rv ((55 + 3 * x1) + 1), Rv ((55 + 3 * x2) + 1), Rv (35 + 2 * x3)] M8 (QI (fun z14 M14 => ((z14 = 0 → Q (Iv 0) M14) ∧ (z14 ≠ 0 → Q (Iv 1) M14))))))))) ∧ (z8 ≠ 0 → cl 0 yX11_found [Rv 1, Iv 1] M8 (QI (fun z16 M16 => (Q (Iv z16) M16)))))))))) ∧ (z3 ≠ 0 → Q (Iv z3) M3)))))) ∧ (z1 ≠ 0 → Q (Iv (-1)) M1))))) : wp 0 yX11_judge 0 [some (Rv 1), some (Iv x1), some (Iv x2), some (Iv x3), none] [] M Q := by
  refine wp_iload_n dX11_judge_0 rfl ?_
  refine wp_callS (e1 := 0) (as := [Iv x3]) (S := []) dX11_judge_1 (cs_X11_113 rfl) rfl rfl (Nat.le_of_ble_eq_true rfl) (Nat.le_of_ble_eq_true rfl) h (fun v1 M1 q1 r1 => ?_)
  obtain ⟨z1, rfl, hz1⟩ := retV_z r1 rfl
  have h := q1
  refine wp_if_eq (tgt := 9) dX11_judge_4 (by decide) (by have := hz1; omega) (fun q2 => ?_) (fun q2 => ?_)
  · have h := h.1 q2
    refine wp_aload_n dX11_judge_9 rfl (by decide) ?_
    refine wp_iload_n dX11_judge_10 rfl ?_
    refine wp_iload_n dX11_judge_11 rfl ?_
    refine wp_callV (e1 := 0) (as := [Iv x1, Iv x2]) (S := []) dX11_judge_12 (cs_X11_183 rfl) kd_1 rfl rfl (Nat.le_of_ble_eq_true rfl) (Nat.le_of_ble_eq_true rfl) h (fun v3 M3 q3 r3 => ?_)
    obtain ⟨z3, rfl⟩ := retV_i r3 rfl
    have h := q3
    refine wp_istore (L2 := [some (Rv 1), some (Iv x1), some (Iv x2), some (Iv x3), some (Iv z3)]) dX11_judge_15 (Nat.le_of_ble_eq_true rfl) (Nat.le_of_ble_eq_true rfl) rfl ?_
    refine wp_iload dX11_judge_17 rfl ?_
    obtain ⟨o4, h⟩ := h
    refine wp_if_eq (tgt := 25) dX11_judge_19 (by decide) o4 (fun q5 => ?_) (fun q5 => ?_)
    · have h := h.1 q5
      refine wp_aload_n dX11_judge_25 rfl (by decide) ?_
      refine wp_getf (t := Rv 2) 2 dX11_judge_26 (fl_X11_11 rfl) kd_1 rfl rfl ?_
      refine wp_iload_n dX11_judge_29 rfl ?_
      obtain ⟨o6, h⟩ := h
      obtain ⟨o7, h⟩ := h
      refine wp_aaldL (35 + 2 * x3) dX11_judge_30 kd_2 sz_2 o6 o7 (⟨by omega, by omega⟩) rfl ?_
      refine wp_callV (e1 := 0) (as := []) (S := []) dX11_judge_31 (cs_X11_138 rfl) (isL_row o6 o7).k rfl rfl (Nat.le_of_ble_eq_true rfl) (Nat.le_of_ble_eq_true rfl) h (fun v8 M8 q8 r8 => ?_)
      obtain ⟨z8, rfl, hz8⟩ := retV_z r8 rfl
      have h := q8
      refine wp_if_eq (tgt := 43) dX11_judge_34 (by decide) (by have := hz8; omega) (fun q9 => ?_) (fun q9 => ?_)
      · have h := h.1 q9
        refine wp_aload_n dX11_judge_43 rfl (by decide) ?_
        refine wp_getf (t := Rv 4) 4 dX11_judge_44 (fl_X11_20 rfl) kd_1 rfl rfl ?_
        refine wp_iload_n dX11_judge_47 rfl ?_
        obtain ⟨o10, h⟩ := h
        obtain ⟨o11, h⟩ := h
        refine wp_aaldW (55 + 3 * x1) dX11_judge_48 kd_4 sz_4 o10 o11 (⟨by omega, by omega⟩) rfl ?_
        refine wp_getf (t := Rv ((55 + 3 * x1) + 1)) ((55 + 3 * x1) + 1) dX11_judge_49 (fl_X11_161 rfl) (isW_word o10 o11).k rfl rfl ?_
        refine wp_aload_n dX11_judge_52 rfl (by decide) ?_
        refine wp_getf (t := Rv 4) 4 dX11_judge_53 (fl_X11_20 rfl) kd_1 rfl rfl ?_
        refine wp_iload_n dX11_judge_56 rfl ?_
        obtain ⟨o12, h⟩ := h
        obtain ⟨o13, h⟩ := h
        refine wp_aaldW (55 + 3 * x2) dX11_judge_57 kd_4 sz_4 o12 o13 (⟨by omega, by omega⟩) rfl ?_
        refine wp_getf (t := Rv ((55 + 3 * x2) + 1)) ((55 + 3 * x2) + 1) dX11_judge_58 (fl_X11_161 rfl) (isW_word o12 o13).k rfl rfl ?_
        refine wp_aload_n dX11_judge_61 rfl (by decide) ?_
        refine wp_getf (t := Rv 2) 2 dX11_judge_62 (fl_X11_11 rfl) kd_1 rfl rfl ?_
        refine wp_iload_n dX11_judge_65 rfl ?_
        refine wp_aaldL (35 + 2 * x3) dX11_judge_66 kd_2 sz_2 o6 o7 (⟨by omega, by omega⟩) rfl ?_
        refine wp_callS (e1 := 0) (as := [Rv ((55 + 3 * x1) + 1), Rv ((55 + 3 * x2) + 1), Rv (35 + 2 * x3)]) (S := []) dX11_judge_67 (cs_X11_236 rfl) rfl rfl (Nat.le_of_ble_eq_true rfl) (Nat.le_of_ble_eq_true rfl) h (fun v14 M14 q14 r14 => ?_)
        obtain ⟨z14, rfl, hz14⟩ := retV_z r14 rfl
        have h := q14
        refine wp_if_eq (tgt := 77) dX11_judge_70 (by decide) (by have := hz14; omega) (fun q15 => ?_) (fun q15 => ?_)
        · have h := h.1 q15
          refine wp_iconst dX11_judge_77 ?_
          exact wp_iret dX11_judge_78 rfl (Or.inr ⟨rfl, rfl, rfl, by decide⟩) rfl h
        · have h := h.2 q15
          refine wp_iconst dX11_judge_73 ?_
          refine wp_goto (tgt := 78) dX11_judge_74 (by decide) ?_
          exact wp_iret dX11_judge_78 rfl (Or.inr ⟨rfl, rfl, rfl, by decide⟩) rfl h
      · have h := h.2 q9
        refine wp_aload_n dX11_judge_37 rfl (by decide) ?_
        refine wp_iconst dX11_judge_38 ?_
        refine wp_callV (e1 := 0) (as := [Iv 1]) (S := []) dX11_judge_39 (cs_X11_117 rfl) kd_1 rfl rfl (Nat.le_of_ble_eq_true rfl) (Nat.le_of_ble_eq_true rfl) h (fun v16 M16 q16 r16 => ?_)
        obtain ⟨z16, rfl⟩ := retV_i r16 rfl
        have h := q16
        exact wp_iret dX11_judge_42 rfl (Or.inr ⟨rfl, rfl, rfl, by decide⟩) rfl h
    · have h := h.2 q5
      refine wp_iload dX11_judge_22 rfl ?_
      exact wp_iret dX11_judge_24 rfl (Or.inr ⟨rfl, rfl, rfl, by decide⟩) rfl h
  · have h := h.2 q2
    refine wp_iconst dX11_judge_7 ?_
    exact wp_iret dX11_judge_8 rfl (Or.inr ⟨rfl, rfl, rfl, by decide⟩) rfl h
theorem eX11_judge {x1 x2 x3 : Int}  {M : Mem} {Q : Vl → Mem → Prop} (h : cl 0 yX11_noRow [Iv x3] M (QI (fun z1 M1 => ((z1 = 0 → cl 0 yX11_refuseWords [Rv 1, Iv x1, Iv x2] M1 (QI (fun z3 M3 => (inr z3 ∧ ((z3 = 0 → 0 ≤ x3 ∧ (x3 < 6 ∧ (cl 0 yX3_isMissing [Rv (35 + 2 * x3)] M3 (QI (fun z8 M8 => ((z8 = 0 → 0 ≤ x1 ∧ (x1 < 8 ∧ (0 ≤ x2 ∧ (x2 < 8 ∧ (cl 0 yX7_isWay [Rv ((55 + 3 * x1) + 1), Rv ((55 + 3 * x2) + 1), Rv (35 + 2 * x3)] M8 (QI (fun z14 M14 => ((z14 = 0 → Q (Iv 0) M14) ∧ (z14 ≠ 0 → Q (Iv 1) M14))))))))) ∧ (z8 ≠ 0 → cl 0 yX11_found [Rv 1, Iv 1] M8 (QI (fun z16 M16 => (Q (Iv z16) M16)))))))))) ∧ (z3 ≠ 0 → Q (Iv z3) M3)))))) ∧ (z1 ≠ 0 → Q (Iv (-1)) M1))))) : cl 0 yX11_judge [Rv 1, Iv x1, Iv x2, Iv x3] M Q := enterG (by decide +kernel) (by exact Or.inr (Or.inl rfl)) (Nat.le_of_ble_eq_true rfl) rfl (gX11_judge h)
theorem gX11_bar {x1 x2 : Int}  {M : Mem} {Q : Vl → Mem → Prop} (h : cl 0 yX11_refuseWords [Rv 1, Iv x1, Iv x2] M (QI (fun z1 M1 => (inr z1 ∧ ((z1 = 0 → 0 ≤ x2 ∧ (x2 < 8 ∧ (inr (M1 ((55 + 3 * x2) + 1) 1) ∧ (((M1 ((55 + 3 * x2) + 1) 1) ≠ 0 → 0 ≤ x1 ∧ (x1 < 8 ∧ (cl 0 yX7_fewestToBar [Rv 10, Rv ((55 + 3 * x1) + 1), Rv ((55 + 3 * x2) + 1)] M1 (QI (fun z10 M10 => (Q (Iv z10) M10)))))) ∧ ((M1 ((55 + 3 * x2) + 1) 1) = 0 → Q (Iv (-4)) M1))))) ∧ (z1 ≠ 0 → Q (Iv z1) M1)))))) : wp 0 yX11_bar 0 [some (Rv 1), some (Iv x1), some (Iv x2), none] [] M Q := by
  refine wp_aload_n dX11_bar_0 rfl (by decide) ?_
  refine wp_iload_n dX11_bar_1 rfl ?_
  refine wp_iload_n dX11_bar_2 rfl ?_
  refine wp_callV (e1 := 0) (as := [Iv x1, Iv x2]) (S := []) dX11_bar_3 (cs_X11_183 rfl) kd_1 rfl rfl (Nat.le_of_ble_eq_true rfl) (Nat.le_of_ble_eq_true rfl) h (fun v1 M1 q1 r1 => ?_)
  obtain ⟨z1, rfl⟩ := retV_i r1 rfl
  have h := q1
  refine wp_istore_n (L2 := [some (Rv 1), some (Iv x1), some (Iv x2), some (Iv z1)]) dX11_bar_6 (Nat.le_of_ble_eq_true rfl) (Nat.le_of_ble_eq_true rfl) rfl ?_
  refine wp_iload_n dX11_bar_7 rfl ?_
  obtain ⟨o2, h⟩ := h
  refine wp_if_eq (tgt := 13) dX11_bar_8 (by decide) o2 (fun q3 => ?_) (fun q3 => ?_)
  · have h := h.1 q3
    refine wp_aload_n dX11_bar_13 rfl (by decide) ?_
    refine wp_getf (t := Rv 4) 4 dX11_bar_14 (fl_X11_20 rfl) kd_1 rfl rfl ?_
    refine wp_iload_n dX11_bar_17 rfl ?_
    obtain ⟨o4, h⟩ := h
    obtain ⟨o5, h⟩ := h
    refine wp_aaldW (55 + 3 * x2) dX11_bar_18 kd_4 sz_4 o4 o5 (⟨by omega, by omega⟩) rfl ?_
    refine wp_getf (t := Rv ((55 + 3 * x2) + 1)) ((55 + 3 * x2) + 1) dX11_bar_19 (fl_X11_161 rfl) (isW_word o4 o5).k rfl rfl ?_
    refine wp_getf (t := Iv (M1 ((55 + 3 * x2) + 1) 1)) (M1 ((55 + 3 * x2) + 1) 1) dX11_bar_22 (fl_X11_135 rfl) (isW_word o4 o5).l.k rfl rfl ?_
    obtain ⟨o6, h⟩ := h
    refine wp_if_ne (tgt := 31) dX11_bar_25 (by decide) o6 (fun q7 => ?_) (fun q7 => ?_)
    · have h := h.1 q7
      refine wp_aload_n dX11_bar_31 rfl (by decide) ?_
      refine wp_getf (t := Rv 10) 10 dX11_bar_32 (fl_X11_61 rfl) kd_1 rfl rfl ?_
      refine wp_aload_n dX11_bar_35 rfl (by decide) ?_
      refine wp_getf (t := Rv 4) 4 dX11_bar_36 (fl_X11_20 rfl) kd_1 rfl rfl ?_
      refine wp_iload_n dX11_bar_39 rfl ?_
      obtain ⟨o8, h⟩ := h
      obtain ⟨o9, h⟩ := h
      refine wp_aaldW (55 + 3 * x1) dX11_bar_40 kd_4 sz_4 o8 o9 (⟨by omega, by omega⟩) rfl ?_
      refine wp_getf (t := Rv ((55 + 3 * x1) + 1)) ((55 + 3 * x1) + 1) dX11_bar_41 (fl_X11_161 rfl) (isW_word o8 o9).k rfl rfl ?_
      refine wp_aload_n dX11_bar_44 rfl (by decide) ?_
      refine wp_getf (t := Rv 4) 4 dX11_bar_45 (fl_X11_20 rfl) kd_1 rfl rfl ?_
      refine wp_iload_n dX11_bar_48 rfl ?_
      refine wp_aaldW (55 + 3 * x2) dX11_bar_49 kd_4 sz_4 o4 o5 (⟨by omega, by omega⟩) rfl ?_
      refine wp_getf (t := Rv ((55 + 3 * x2) + 1)) ((55 + 3 * x2) + 1) dX11_bar_50 (fl_X11_161 rfl) (isW_word o4 o5).k rfl rfl ?_
      refine wp_callV (e1 := 0) (as := [Rv ((55 + 3 * x1) + 1), Rv ((55 + 3 * x2) + 1)]) (S := []) dX11_bar_53 (cs_X11_240 rfl) kd_10 rfl rfl (Nat.le_of_ble_eq_true rfl) (Nat.le_of_ble_eq_true rfl) h (fun v10 M10 q10 r10 => ?_)
      obtain ⟨z10, rfl⟩ := retV_i r10 rfl
      have h := q10
      exact wp_iret dX11_bar_56 rfl (Or.inr ⟨rfl, rfl, rfl, by decide⟩) rfl h
    · have h := h.2 q7
      refine wp_bipush dX11_bar_28 (by decide) ?_
      exact wp_iret dX11_bar_30 rfl (Or.inr ⟨rfl, rfl, rfl, by decide⟩) rfl h
  · have h := h.2 q3
    refine wp_iload_n dX11_bar_11 rfl ?_
    exact wp_iret dX11_bar_12 rfl (Or.inr ⟨rfl, rfl, rfl, by decide⟩) rfl h
theorem eX11_bar {x1 x2 : Int}  {M : Mem} {Q : Vl → Mem → Prop} (h : cl 0 yX11_refuseWords [Rv 1, Iv x1, Iv x2] M (QI (fun z1 M1 => (inr z1 ∧ ((z1 = 0 → 0 ≤ x2 ∧ (x2 < 8 ∧ (inr (M1 ((55 + 3 * x2) + 1) 1) ∧ (((M1 ((55 + 3 * x2) + 1) 1) ≠ 0 → 0 ≤ x1 ∧ (x1 < 8 ∧ (cl 0 yX7_fewestToBar [Rv 10, Rv ((55 + 3 * x1) + 1), Rv ((55 + 3 * x2) + 1)] M1 (QI (fun z10 M10 => (Q (Iv z10) M10)))))) ∧ ((M1 ((55 + 3 * x2) + 1) 1) = 0 → Q (Iv (-4)) M1))))) ∧ (z1 ≠ 0 → Q (Iv z1) M1)))))) : cl 0 yX11_bar [Rv 1, Iv x1, Iv x2] M Q := enterG (by decide +kernel) (by exact Or.inr (Or.inl rfl)) (Nat.le_of_ble_eq_true rfl) rfl (gX11_bar h)
theorem gX11_inner {x1 x2 : Int}  {M : Mem} {Q : Vl → Mem → Prop} (h : inr x2 ∧ ((x2 = (-9) → cl 0 yX11_refuseWord [Rv 1, Iv x1] M (QI (fun z3 M3 => (inr z3 ∧ ((z3 = 0 → 0 ≤ x1 ∧ (x1 < 8 ∧ (cl 0 yX2_read [Rv 80, Rv ((55 + 3 * x1) + 1)] M3 (QV (fun M8 => ((x2 ≠ (-9) → cl 0 yX2_ofLength [Rv 80, Iv x2] M8 (QJ (fun z10 M10 => (Q (Iv 1) (up M10 1 5 z10))))) ∧ (x2 = (-9) → cl 0 yX2_ofAnyLength [Rv 80] M8 (QJ (fun z11 M11 => (Q (Iv 1) (up M11 1 5 z11))))))))))) ∧ (z3 ≠ 0 → Q (Iv z3) M3)))))) ∧ (x2 ≠ (-9) → cl 0 yX11_noLength [Iv x2] M (QI (fun z12 M12 => ((z12 = 0 → cl 0 yX11_refuseWord [Rv 1, Iv x1] M12 (QI (fun z14 M14 => (inr z14 ∧ ((z14 = 0 → 0 ≤ x1 ∧ (x1 < 8 ∧ (cl 0 yX2_read [Rv 80, Rv ((55 + 3 * x1) + 1)] M14 (QV (fun M19 => ((x2 ≠ (-9) → cl 0 yX2_ofLength [Rv 80, Iv x2] M19 (QJ (fun z21 M21 => (Q (Iv 1) (up M21 1 5 z21))))) ∧ (x2 = (-9) → cl 0 yX2_ofAnyLength [Rv 80] M19 (QJ (fun z22 M22 => (Q (Iv 1) (up M22 1 5 z22))))))))))) ∧ (z14 ≠ 0 → Q (Iv z14) M14)))))) ∧ (z12 ≠ 0 → Q (Iv (-1)) M12))))))) : wp 0 yX11_inner 0 [some (Rv 1), some (Iv x1), some (Iv x2), none] [] M Q := by
  refine wp_iload_n dX11_inner_0 rfl ?_
  refine wp_bipush dX11_inner_1 (by decide) ?_
  obtain ⟨o1, h⟩ := h
  refine wp_icmp_eq (tgt := 15) dX11_inner_3 (by decide) (Or.inr ⟨o1, (by decide)⟩) (fun q2 => ?_) (fun q2 => ?_)
  · have h := h.1 q2
    refine wp_aload_n dX11_inner_15 rfl (by decide) ?_
    refine wp_iload_n dX11_inner_16 rfl ?_
    refine wp_callV (e1 := 0) (as := [Iv x1]) (S := []) dX11_inner_17 (cs_X11_186 rfl) kd_1 rfl rfl (Nat.le_of_ble_eq_true rfl) (Nat.le_of_ble_eq_true rfl) h (fun v3 M3 q3 r3 => ?_)
    obtain ⟨z3, rfl⟩ := retV_i r3 rfl
    have h := q3
    refine wp_istore_n (L2 := [some (Rv 1), some (Iv x1), some (Iv x2), some (Iv z3)]) dX11_inner_20 (Nat.le_of_ble_eq_true rfl) (Nat.le_of_ble_eq_true rfl) rfl ?_
    refine wp_iload_n dX11_inner_21 rfl ?_
    obtain ⟨o4, h⟩ := h
    refine wp_if_eq (tgt := 27) dX11_inner_22 (by decide) o4 (fun q5 => ?_) (fun q5 => ?_)
    · have h := h.1 q5
      refine wp_aload_n dX11_inner_27 rfl (by decide) ?_
      refine wp_getf (t := Rv 80) 80 dX11_inner_28 (fl_X11_102 rfl) kd_1 rfl rfl ?_
      refine wp_aload_n dX11_inner_31 rfl (by decide) ?_
      refine wp_getf (t := Rv 4) 4 dX11_inner_32 (fl_X11_20 rfl) kd_1 rfl rfl ?_
      refine wp_iload_n dX11_inner_35 rfl ?_
      obtain ⟨o6, h⟩ := h
      obtain ⟨o7, h⟩ := h
      refine wp_aaldW (55 + 3 * x1) dX11_inner_36 kd_4 sz_4 o6 o7 (⟨by omega, by omega⟩) rfl ?_
      refine wp_getf (t := Rv ((55 + 3 * x1) + 1)) ((55 + 3 * x1) + 1) dX11_inner_37 (fl_X11_161 rfl) (isW_word o6 o7).k rfl rfl ?_
      refine wp_callV (e1 := 0) (as := [Rv ((55 + 3 * x1) + 1)]) (S := []) dX11_inner_40 (cs_X11_244 rfl) kd_80 rfl rfl (Nat.le_of_ble_eq_true rfl) (Nat.le_of_ble_eq_true rfl) h (fun v8 M8 q8 r8 => ?_)
      have h := q8
      refine wp_aload_n dX11_inner_43 rfl (by decide) ?_
      refine wp_iload_n dX11_inner_44 rfl ?_
      refine wp_bipush dX11_inner_45 (by decide) ?_
      refine wp_icmp_ne (tgt := 60) dX11_inner_47 (by decide) (Or.inr ⟨o1, (by decide)⟩) (fun q9 => ?_) (fun q9 => ?_)
      · have h := h.1 q9
        refine wp_aload_n dX11_inner_60 rfl (by decide) ?_
        refine wp_getf (t := Rv 80) 80 dX11_inner_61 (fl_X11_102 rfl) kd_1 rfl rfl ?_
        refine wp_iload_n dX11_inner_64 rfl ?_
        refine wp_callV (e1 := 0) (as := [Iv x2]) (S := [Rv 1]) dX11_inner_65 (cs_X11_251 rfl) kd_80 rfl rfl (Nat.le_of_ble_eq_true rfl) (Nat.le_of_ble_eq_true rfl) h (fun v10 M10 q10 r10 => ?_)
        obtain ⟨z10, rfl⟩ := retV_j r10 rfl
        have h := q10
        refine wp_putf (x := z10) dX11_inner_68 (fl_X11_31 rfl) kd_1 (fun _ => rfl) rfl rfl trivial ?_
        refine wp_iconst dX11_inner_71 ?_
        exact wp_iret dX11_inner_72 rfl (Or.inr ⟨rfl, rfl, rfl, by decide⟩) rfl h
      · have h := h.2 q9
        refine wp_aload_n dX11_inner_50 rfl (by decide) ?_
        refine wp_getf (t := Rv 80) 80 dX11_inner_51 (fl_X11_102 rfl) kd_1 rfl rfl ?_
        refine wp_callV (e1 := 0) (as := []) (S := [Rv 1]) dX11_inner_54 (cs_X11_247 rfl) kd_80 rfl rfl (Nat.le_of_ble_eq_true rfl) (Nat.le_of_ble_eq_true rfl) h (fun v11 M11 q11 r11 => ?_)
        obtain ⟨z11, rfl⟩ := retV_j r11 rfl
        have h := q11
        refine wp_goto (tgt := 68) dX11_inner_57 (by decide) ?_
        refine wp_putf (x := z11) dX11_inner_68 (fl_X11_31 rfl) kd_1 (fun _ => rfl) rfl rfl trivial ?_
        refine wp_iconst dX11_inner_71 ?_
        exact wp_iret dX11_inner_72 rfl (Or.inr ⟨rfl, rfl, rfl, by decide⟩) rfl h
    · have h := h.2 q5
      refine wp_iload_n dX11_inner_25 rfl ?_
      exact wp_iret dX11_inner_26 rfl (Or.inr ⟨rfl, rfl, rfl, by decide⟩) rfl h
  · have h := h.2 q2
    refine wp_iload_n dX11_inner_6 rfl ?_
    refine wp_callS (e1 := 0) (as := [Iv x2]) (S := []) dX11_inner_7 (cs_X11_189 rfl) rfl rfl (Nat.le_of_ble_eq_true rfl) (Nat.le_of_ble_eq_true rfl) h (fun v12 M12 q12 r12 => ?_)
    obtain ⟨z12, rfl, hz12⟩ := retV_z r12 rfl
    have h := q12
    refine wp_if_eq (tgt := 15) dX11_inner_10 (by decide) (by have := hz12; omega) (fun q13 => ?_) (fun q13 => ?_)
    · have h := h.1 q13
      refine wp_aload_n dX11_inner_15 rfl (by decide) ?_
      refine wp_iload_n dX11_inner_16 rfl ?_
      refine wp_callV (e1 := 0) (as := [Iv x1]) (S := []) dX11_inner_17 (cs_X11_186 rfl) kd_1 rfl rfl (Nat.le_of_ble_eq_true rfl) (Nat.le_of_ble_eq_true rfl) h (fun v14 M14 q14 r14 => ?_)
      obtain ⟨z14, rfl⟩ := retV_i r14 rfl
      have h := q14
      refine wp_istore_n (L2 := [some (Rv 1), some (Iv x1), some (Iv x2), some (Iv z14)]) dX11_inner_20 (Nat.le_of_ble_eq_true rfl) (Nat.le_of_ble_eq_true rfl) rfl ?_
      refine wp_iload_n dX11_inner_21 rfl ?_
      obtain ⟨o15, h⟩ := h
      refine wp_if_eq (tgt := 27) dX11_inner_22 (by decide) o15 (fun q16 => ?_) (fun q16 => ?_)
      · have h := h.1 q16
        refine wp_aload_n dX11_inner_27 rfl (by decide) ?_
        refine wp_getf (t := Rv 80) 80 dX11_inner_28 (fl_X11_102 rfl) kd_1 rfl rfl ?_
        refine wp_aload_n dX11_inner_31 rfl (by decide) ?_
        refine wp_getf (t := Rv 4) 4 dX11_inner_32 (fl_X11_20 rfl) kd_1 rfl rfl ?_
        refine wp_iload_n dX11_inner_35 rfl ?_
        obtain ⟨o17, h⟩ := h
        obtain ⟨o18, h⟩ := h
        refine wp_aaldW (55 + 3 * x1) dX11_inner_36 kd_4 sz_4 o17 o18 (⟨by omega, by omega⟩) rfl ?_
        refine wp_getf (t := Rv ((55 + 3 * x1) + 1)) ((55 + 3 * x1) + 1) dX11_inner_37 (fl_X11_161 rfl) (isW_word o17 o18).k rfl rfl ?_
        refine wp_callV (e1 := 0) (as := [Rv ((55 + 3 * x1) + 1)]) (S := []) dX11_inner_40 (cs_X11_244 rfl) kd_80 rfl rfl (Nat.le_of_ble_eq_true rfl) (Nat.le_of_ble_eq_true rfl) h (fun v19 M19 q19 r19 => ?_)
        have h := q19
        refine wp_aload_n dX11_inner_43 rfl (by decide) ?_
        refine wp_iload_n dX11_inner_44 rfl ?_
        refine wp_bipush dX11_inner_45 (by decide) ?_
        refine wp_icmp_ne (tgt := 60) dX11_inner_47 (by decide) (Or.inr ⟨o1, (by decide)⟩) (fun q20 => ?_) (fun q20 => ?_)
        · have h := h.1 q20
          refine wp_aload_n dX11_inner_60 rfl (by decide) ?_
          refine wp_getf (t := Rv 80) 80 dX11_inner_61 (fl_X11_102 rfl) kd_1 rfl rfl ?_
          refine wp_iload_n dX11_inner_64 rfl ?_
          refine wp_callV (e1 := 0) (as := [Iv x2]) (S := [Rv 1]) dX11_inner_65 (cs_X11_251 rfl) kd_80 rfl rfl (Nat.le_of_ble_eq_true rfl) (Nat.le_of_ble_eq_true rfl) h (fun v21 M21 q21 r21 => ?_)
          obtain ⟨z21, rfl⟩ := retV_j r21 rfl
          have h := q21
          refine wp_putf (x := z21) dX11_inner_68 (fl_X11_31 rfl) kd_1 (fun _ => rfl) rfl rfl trivial ?_
          refine wp_iconst dX11_inner_71 ?_
          exact wp_iret dX11_inner_72 rfl (Or.inr ⟨rfl, rfl, rfl, by decide⟩) rfl h
        · have h := h.2 q20
          refine wp_aload_n dX11_inner_50 rfl (by decide) ?_
          refine wp_getf (t := Rv 80) 80 dX11_inner_51 (fl_X11_102 rfl) kd_1 rfl rfl ?_
          refine wp_callV (e1 := 0) (as := []) (S := [Rv 1]) dX11_inner_54 (cs_X11_247 rfl) kd_80 rfl rfl (Nat.le_of_ble_eq_true rfl) (Nat.le_of_ble_eq_true rfl) h (fun v22 M22 q22 r22 => ?_)
          obtain ⟨z22, rfl⟩ := retV_j r22 rfl
          have h := q22
          refine wp_goto (tgt := 68) dX11_inner_57 (by decide) ?_
          refine wp_putf (x := z22) dX11_inner_68 (fl_X11_31 rfl) kd_1 (fun _ => rfl) rfl rfl trivial ?_
          refine wp_iconst dX11_inner_71 ?_
          exact wp_iret dX11_inner_72 rfl (Or.inr ⟨rfl, rfl, rfl, by decide⟩) rfl h
      · have h := h.2 q16
        refine wp_iload_n dX11_inner_25 rfl ?_
        exact wp_iret dX11_inner_26 rfl (Or.inr ⟨rfl, rfl, rfl, by decide⟩) rfl h
    · have h := h.2 q13
      refine wp_iconst dX11_inner_13 ?_
      exact wp_iret dX11_inner_14 rfl (Or.inr ⟨rfl, rfl, rfl, by decide⟩) rfl h
theorem eX11_inner {x1 x2 : Int}  {M : Mem} {Q : Vl → Mem → Prop} (h : inr x2 ∧ ((x2 = (-9) → cl 0 yX11_refuseWord [Rv 1, Iv x1] M (QI (fun z3 M3 => (inr z3 ∧ ((z3 = 0 → 0 ≤ x1 ∧ (x1 < 8 ∧ (cl 0 yX2_read [Rv 80, Rv ((55 + 3 * x1) + 1)] M3 (QV (fun M8 => ((x2 ≠ (-9) → cl 0 yX2_ofLength [Rv 80, Iv x2] M8 (QJ (fun z10 M10 => (Q (Iv 1) (up M10 1 5 z10))))) ∧ (x2 = (-9) → cl 0 yX2_ofAnyLength [Rv 80] M8 (QJ (fun z11 M11 => (Q (Iv 1) (up M11 1 5 z11))))))))))) ∧ (z3 ≠ 0 → Q (Iv z3) M3)))))) ∧ (x2 ≠ (-9) → cl 0 yX11_noLength [Iv x2] M (QI (fun z12 M12 => ((z12 = 0 → cl 0 yX11_refuseWord [Rv 1, Iv x1] M12 (QI (fun z14 M14 => (inr z14 ∧ ((z14 = 0 → 0 ≤ x1 ∧ (x1 < 8 ∧ (cl 0 yX2_read [Rv 80, Rv ((55 + 3 * x1) + 1)] M14 (QV (fun M19 => ((x2 ≠ (-9) → cl 0 yX2_ofLength [Rv 80, Iv x2] M19 (QJ (fun z21 M21 => (Q (Iv 1) (up M21 1 5 z21))))) ∧ (x2 = (-9) → cl 0 yX2_ofAnyLength [Rv 80] M19 (QJ (fun z22 M22 => (Q (Iv 1) (up M22 1 5 z22))))))))))) ∧ (z14 ≠ 0 → Q (Iv z14) M14)))))) ∧ (z12 ≠ 0 → Q (Iv (-1)) M12))))))) : cl 0 yX11_inner [Rv 1, Iv x1, Iv x2] M Q := enterG (by decide +kernel) (by exact Or.inr (Or.inl rfl)) (Nat.le_of_ble_eq_true rfl) rfl (gX11_inner h)
theorem gX11_rank {x1 x2 : Int}  {M : Mem} {Q : Vl → Mem → Prop} (h : cl 0 yX11_refuseWords [Rv 1, Iv x1, Iv x2] M (QI (fun z1 M1 => (inr z1 ∧ ((z1 = 0 → 0 ≤ x1 ∧ (x1 < 8 ∧ (cl 0 yX2_read [Rv 80, Rv ((55 + 3 * x1) + 1)] M1 (QV (fun M6 => (0 ≤ x2 ∧ (x2 < 8 ∧ (cl 0 yX2_ahead [Rv 80, Rv ((55 + 3 * x2) + 1)] M6 (QJ (fun z9 M9 => (inL z9 ∧ ((0 ≤ z9 → Q (Iv 1) (up M9 1 5 z9)) ∧ (z9 < 0 → Q (Iv (-9)) M9))))))))))))) ∧ (z1 ≠ 0 → Q (Iv z1) M1)))))) : wp 0 yX11_rank 0 [some (Rv 1), some (Iv x1), some (Iv x2), none, none, none] [] M Q := by
  refine wp_aload_n dX11_rank_0 rfl (by decide) ?_
  refine wp_iload_n dX11_rank_1 rfl ?_
  refine wp_iload_n dX11_rank_2 rfl ?_
  refine wp_callV (e1 := 0) (as := [Iv x1, Iv x2]) (S := []) dX11_rank_3 (cs_X11_183 rfl) kd_1 rfl rfl (Nat.le_of_ble_eq_true rfl) (Nat.le_of_ble_eq_true rfl) h (fun v1 M1 q1 r1 => ?_)
  obtain ⟨z1, rfl⟩ := retV_i r1 rfl
  have h := q1
  refine wp_istore_n (L2 := [some (Rv 1), some (Iv x1), some (Iv x2), some (Iv z1), none, none]) dX11_rank_6 (Nat.le_of_ble_eq_true rfl) (Nat.le_of_ble_eq_true rfl) rfl ?_
  refine wp_iload_n dX11_rank_7 rfl ?_
  obtain ⟨o2, h⟩ := h
  refine wp_if_eq (tgt := 13) dX11_rank_8 (by decide) o2 (fun q3 => ?_) (fun q3 => ?_)
  · have h := h.1 q3
    refine wp_aload_n dX11_rank_13 rfl (by decide) ?_
    refine wp_getf (t := Rv 80) 80 dX11_rank_14 (fl_X11_102 rfl) kd_1 rfl rfl ?_
    refine wp_aload_n dX11_rank_17 rfl (by decide) ?_
    refine wp_getf (t := Rv 4) 4 dX11_rank_18 (fl_X11_20 rfl) kd_1 rfl rfl ?_
    refine wp_iload_n dX11_rank_21 rfl ?_
    obtain ⟨o4, h⟩ := h
    obtain ⟨o5, h⟩ := h
    refine wp_aaldW (55 + 3 * x1) dX11_rank_22 kd_4 sz_4 o4 o5 (⟨by omega, by omega⟩) rfl ?_
    refine wp_getf (t := Rv ((55 + 3 * x1) + 1)) ((55 + 3 * x1) + 1) dX11_rank_23 (fl_X11_161 rfl) (isW_word o4 o5).k rfl rfl ?_
    refine wp_callV (e1 := 0) (as := [Rv ((55 + 3 * x1) + 1)]) (S := []) dX11_rank_26 (cs_X11_244 rfl) kd_80 rfl rfl (Nat.le_of_ble_eq_true rfl) (Nat.le_of_ble_eq_true rfl) h (fun v6 M6 q6 r6 => ?_)
    have h := q6
    refine wp_aload_n dX11_rank_29 rfl (by decide) ?_
    refine wp_getf (t := Rv 80) 80 dX11_rank_30 (fl_X11_102 rfl) kd_1 rfl rfl ?_
    refine wp_aload_n dX11_rank_33 rfl (by decide) ?_
    refine wp_getf (t := Rv 4) 4 dX11_rank_34 (fl_X11_20 rfl) kd_1 rfl rfl ?_
    refine wp_iload_n dX11_rank_37 rfl ?_
    obtain ⟨o7, h⟩ := h
    obtain ⟨o8, h⟩ := h
    refine wp_aaldW (55 + 3 * x2) dX11_rank_38 kd_4 sz_4 o7 o8 (⟨by omega, by omega⟩) rfl ?_
    refine wp_getf (t := Rv ((55 + 3 * x2) + 1)) ((55 + 3 * x2) + 1) dX11_rank_39 (fl_X11_161 rfl) (isW_word o7 o8).k rfl rfl ?_
    refine wp_callV (e1 := 0) (as := [Rv ((55 + 3 * x2) + 1)]) (S := []) dX11_rank_42 (cs_X11_254 rfl) kd_80 rfl rfl (Nat.le_of_ble_eq_true rfl) (Nat.le_of_ble_eq_true rfl) h (fun v9 M9 q9 r9 => ?_)
    obtain ⟨z9, rfl⟩ := retV_j r9 rfl
    have h := q9
    refine wp_lstore (L2 := [some (Rv 1), some (Iv x1), some (Iv x2), some (Iv z1), some (Jv z9), none]) dX11_rank_45 (Nat.le_of_ble_eq_true rfl) (Nat.le_of_ble_eq_true rfl) rfl ?_
    refine wp_lload dX11_rank_47 rfl ?_
    refine wp_lconst0 dX11_rank_49 ?_
    obtain ⟨o10, h⟩ := h
    refine wp_lcmp dX11_rank_50 (Or.inr ⟨o10, (by decide)⟩) ?_
    refine wp_if_ge (tgt := 57) dX11_rank_51 (by decide) lc_inr (fun q11 => ?_) (fun q11 => ?_)
    · have q11 := lc_ge.mp q11
      have h := h.1 q11
      refine wp_aload_n dX11_rank_57 rfl (by decide) ?_
      refine wp_lload dX11_rank_58 rfl ?_
      refine wp_putf (x := z9) dX11_rank_60 (fl_X11_31 rfl) kd_1 (fun _ => rfl) rfl rfl trivial ?_
      refine wp_iconst dX11_rank_63 ?_
      exact wp_iret dX11_rank_64 rfl (Or.inr ⟨rfl, rfl, rfl, by decide⟩) rfl h
    · have q11 := lc_lt.mp q11
      have h := h.2 q11
      refine wp_bipush dX11_rank_54 (by decide) ?_
      exact wp_iret dX11_rank_56 rfl (Or.inr ⟨rfl, rfl, rfl, by decide⟩) rfl h
  · have h := h.2 q3
    refine wp_iload_n dX11_rank_11 rfl ?_
    exact wp_iret dX11_rank_12 rfl (Or.inr ⟨rfl, rfl, rfl, by decide⟩) rfl h
theorem eX11_rank {x1 x2 : Int}  {M : Mem} {Q : Vl → Mem → Prop} (h : cl 0 yX11_refuseWords [Rv 1, Iv x1, Iv x2] M (QI (fun z1 M1 => (inr z1 ∧ ((z1 = 0 → 0 ≤ x1 ∧ (x1 < 8 ∧ (cl 0 yX2_read [Rv 80, Rv ((55 + 3 * x1) + 1)] M1 (QV (fun M6 => (0 ≤ x2 ∧ (x2 < 8 ∧ (cl 0 yX2_ahead [Rv 80, Rv ((55 + 3 * x2) + 1)] M6 (QJ (fun z9 M9 => (inL z9 ∧ ((0 ≤ z9 → Q (Iv 1) (up M9 1 5 z9)) ∧ (z9 < 0 → Q (Iv (-9)) M9))))))))))))) ∧ (z1 ≠ 0 → Q (Iv z1) M1)))))) : cl 0 yX11_rank [Rv 1, Iv x1, Iv x2] M Q := enterG (by decide +kernel) (by exact Or.inr (Or.inl rfl)) (Nat.le_of_ble_eq_true rfl) rfl (gX11_rank h)
theorem gX11_byRank {x1 x2 x3 x4 : Int}  {M : Mem} {Q : Vl → Mem → Prop} (h : cl 0 yX11_noLength [Iv x2] M (QI (fun z1 M1 => ((z1 ≠ 0 → Q (Iv (-1)) M1) ∧ (z1 = 0 → inr x3 ∧ ((x3 < 0 → Q (Iv (-1)) M1) ∧ (0 ≤ x3 → cl 0 yX11_noRow [Iv x4] M1 (QI (fun z5 M5 => ((z5 = 0 → cl 0 yX11_refuseWord [Rv 1, Iv x1] M5 (QI (fun z7 M7 => (inr z7 ∧ ((z7 = 0 → 0 ≤ x1 ∧ (x1 < 8 ∧ (cl 0 yX2_read [Rv 80, Rv ((55 + 3 * x1) + 1)] M7 (QV (fun M12 => (cl 0 yX2_ofLength [Rv 80, Iv x2] M12 (QJ (fun z13 M13 => (inL x3 ∧ (inL z13 ∧ ((x3 < z13 → cl 0 yX2_pick [Rv 80, Iv x2, Iv x3, Rv 6] M13 (QV (fun M17 => (0 ≤ x4 ∧ (x4 < 6 ∧ (cl 0 yX3_take [Rv (35 + 2 * x4), Rv 6, Iv x2] M17 (QI (fun z20 M20 => (Q (Iv z20) M20))))))))) ∧ (z13 ≤ x3 → Q (Iv (-9)) M13)))))))))))) ∧ (z7 ≠ 0 → Q (Iv z7) M7)))))) ∧ (z5 ≠ 0 → Q (Iv (-1)) M5))))))))))) : wp 0 yX11_byRank 0 [some (Rv 1), some (Iv x1), some (Iv x2), some (Iv x3), some (Iv x4), none] [] M Q := by
  refine wp_iload_n dX11_byRank_0 rfl ?_
  refine wp_callS (e1 := 0) (as := [Iv x2]) (S := []) dX11_byRank_1 (cs_X11_189 rfl) rfl rfl (Nat.le_of_ble_eq_true rfl) (Nat.le_of_ble_eq_true rfl) h (fun v1 M1 q1 r1 => ?_)
  obtain ⟨z1, rfl, hz1⟩ := retV_z r1 rfl
  have h := q1
  refine wp_if_ne (tgt := 19) dX11_byRank_4 (by decide) (by have := hz1; omega) (fun q2 => ?_) (fun q2 => ?_)
  · have h := h.1 q2
    refine wp_iconst dX11_byRank_19 ?_
    exact wp_iret dX11_byRank_20 rfl (Or.inr ⟨rfl, rfl, rfl, by decide⟩) rfl h
  · have h := h.2 q2
    refine wp_iload_n dX11_byRank_7 rfl ?_
    obtain ⟨o3, h⟩ := h
    refine wp_if_lt (tgt := 19) dX11_byRank_8 (by decide) o3 (fun q4 => ?_) (fun q4 => ?_)
    · have h := h.1 q4
      refine wp_iconst dX11_byRank_19 ?_
      exact wp_iret dX11_byRank_20 rfl (Or.inr ⟨rfl, rfl, rfl, by decide⟩) rfl h
    · have h := h.2 q4
      refine wp_iload dX11_byRank_11 rfl ?_
      refine wp_callS (e1 := 0) (as := [Iv x4]) (S := []) dX11_byRank_13 (cs_X11_113 rfl) rfl rfl (Nat.le_of_ble_eq_true rfl) (Nat.le_of_ble_eq_true rfl) h (fun v5 M5 q5 r5 => ?_)
      obtain ⟨z5, rfl, hz5⟩ := retV_z r5 rfl
      have h := q5
      refine wp_if_eq (tgt := 21) dX11_byRank_16 (by decide) (by have := hz5; omega) (fun q6 => ?_) (fun q6 => ?_)
      · have h := h.1 q6
        refine wp_aload_n dX11_byRank_21 rfl (by decide) ?_
        refine wp_iload_n dX11_byRank_22 rfl ?_
        refine wp_callV (e1 := 0) (as := [Iv x1]) (S := []) dX11_byRank_23 (cs_X11_186 rfl) kd_1 rfl rfl (Nat.le_of_ble_eq_true rfl) (Nat.le_of_ble_eq_true rfl) h (fun v7 M7 q7 r7 => ?_)
        obtain ⟨z7, rfl⟩ := retV_i r7 rfl
        have h := q7
        refine wp_istore (L2 := [some (Rv 1), some (Iv x1), some (Iv x2), some (Iv x3), some (Iv x4), some (Iv z7)]) dX11_byRank_26 (Nat.le_of_ble_eq_true rfl) (Nat.le_of_ble_eq_true rfl) rfl ?_
        refine wp_iload dX11_byRank_28 rfl ?_
        obtain ⟨o8, h⟩ := h
        refine wp_if_eq (tgt := 36) dX11_byRank_30 (by decide) o8 (fun q9 => ?_) (fun q9 => ?_)
        · have h := h.1 q9
          refine wp_aload_n dX11_byRank_36 rfl (by decide) ?_
          refine wp_getf (t := Rv 80) 80 dX11_byRank_37 (fl_X11_102 rfl) kd_1 rfl rfl ?_
          refine wp_aload_n dX11_byRank_40 rfl (by decide) ?_
          refine wp_getf (t := Rv 4) 4 dX11_byRank_41 (fl_X11_20 rfl) kd_1 rfl rfl ?_
          refine wp_iload_n dX11_byRank_44 rfl ?_
          obtain ⟨o10, h⟩ := h
          obtain ⟨o11, h⟩ := h
          refine wp_aaldW (55 + 3 * x1) dX11_byRank_45 kd_4 sz_4 o10 o11 (⟨by omega, by omega⟩) rfl ?_
          refine wp_getf (t := Rv ((55 + 3 * x1) + 1)) ((55 + 3 * x1) + 1) dX11_byRank_46 (fl_X11_161 rfl) (isW_word o10 o11).k rfl rfl ?_
          refine wp_callV (e1 := 0) (as := [Rv ((55 + 3 * x1) + 1)]) (S := []) dX11_byRank_49 (cs_X11_244 rfl) kd_80 rfl rfl (Nat.le_of_ble_eq_true rfl) (Nat.le_of_ble_eq_true rfl) h (fun v12 M12 q12 r12 => ?_)
          have h := q12
          refine wp_iload_n dX11_byRank_52 rfl ?_
          refine wp_i2l dX11_byRank_53 o3 ?_
          refine wp_aload_n dX11_byRank_54 rfl (by decide) ?_
          refine wp_getf (t := Rv 80) 80 dX11_byRank_55 (fl_X11_102 rfl) kd_1 rfl rfl ?_
          refine wp_iload_n dX11_byRank_58 rfl ?_
          refine wp_callV (e1 := 0) (as := [Iv x2]) (S := [Jv x3]) dX11_byRank_59 (cs_X11_251 rfl) kd_80 rfl rfl (Nat.le_of_ble_eq_true rfl) (Nat.le_of_ble_eq_true rfl) h (fun v13 M13 q13 r13 => ?_)
          obtain ⟨z13, rfl⟩ := retV_j r13 rfl
          have h := q13
          obtain ⟨o14, h⟩ := h
          obtain ⟨o15, h⟩ := h
          refine wp_lcmp dX11_byRank_62 (Or.inr ⟨o14, o15⟩) ?_
          refine wp_if_lt (tgt := 69) dX11_byRank_63 (by decide) lc_inr (fun q16 => ?_) (fun q16 => ?_)
          · have q16 := lc_lt.mp q16
            have h := h.1 q16
            refine wp_aload_n dX11_byRank_69 rfl (by decide) ?_
            refine wp_getf (t := Rv 80) 80 dX11_byRank_70 (fl_X11_102 rfl) kd_1 rfl rfl ?_
            refine wp_iload_n dX11_byRank_73 rfl ?_
            refine wp_iload_n dX11_byRank_74 rfl ?_
            refine wp_aload_n dX11_byRank_75 rfl (by decide) ?_
            refine wp_getf (t := Rv 6) 6 dX11_byRank_76 (fl_X11_48 rfl) kd_1 rfl rfl ?_
            refine wp_callV (e1 := 0) (as := [Iv x2, Iv x3, Rv 6]) (S := []) dX11_byRank_79 (cs_X11_258 rfl) kd_80 rfl rfl (Nat.le_of_ble_eq_true rfl) (Nat.le_of_ble_eq_true rfl) h (fun v17 M17 q17 r17 => ?_)
            have h := q17
            refine wp_aload_n dX11_byRank_82 rfl (by decide) ?_
            refine wp_getf (t := Rv 2) 2 dX11_byRank_83 (fl_X11_11 rfl) kd_1 rfl rfl ?_
            refine wp_iload dX11_byRank_86 rfl ?_
            obtain ⟨o18, h⟩ := h
            obtain ⟨o19, h⟩ := h
            refine wp_aaldL (35 + 2 * x4) dX11_byRank_88 kd_2 sz_2 o18 o19 (⟨by omega, by omega⟩) rfl ?_
            refine wp_aload_n dX11_byRank_89 rfl (by decide) ?_
            refine wp_getf (t := Rv 6) 6 dX11_byRank_90 (fl_X11_48 rfl) kd_1 rfl rfl ?_
            refine wp_iload_n dX11_byRank_93 rfl ?_
            refine wp_callV (e1 := 0) (as := [Rv 6, Iv x2]) (S := []) dX11_byRank_94 (cs_X11_219 rfl) (isL_row o18 o19).k rfl rfl (Nat.le_of_ble_eq_true rfl) (Nat.le_of_ble_eq_true rfl) h (fun v20 M20 q20 r20 => ?_)
            obtain ⟨z20, rfl⟩ := retV_i r20 rfl
            have h := q20
            exact wp_iret dX11_byRank_97 rfl (Or.inr ⟨rfl, rfl, rfl, by decide⟩) rfl h
          · have q16 := lc_ge.mp q16
            have h := h.2 q16
            refine wp_bipush dX11_byRank_66 (by decide) ?_
            exact wp_iret dX11_byRank_68 rfl (Or.inr ⟨rfl, rfl, rfl, by decide⟩) rfl h
        · have h := h.2 q9
          refine wp_iload dX11_byRank_33 rfl ?_
          exact wp_iret dX11_byRank_35 rfl (Or.inr ⟨rfl, rfl, rfl, by decide⟩) rfl h
      · have h := h.2 q6
        refine wp_iconst dX11_byRank_19 ?_
        exact wp_iret dX11_byRank_20 rfl (Or.inr ⟨rfl, rfl, rfl, by decide⟩) rfl h
theorem eX11_byRank {x1 x2 x3 x4 : Int}  {M : Mem} {Q : Vl → Mem → Prop} (h : cl 0 yX11_noLength [Iv x2] M (QI (fun z1 M1 => ((z1 ≠ 0 → Q (Iv (-1)) M1) ∧ (z1 = 0 → inr x3 ∧ ((x3 < 0 → Q (Iv (-1)) M1) ∧ (0 ≤ x3 → cl 0 yX11_noRow [Iv x4] M1 (QI (fun z5 M5 => ((z5 = 0 → cl 0 yX11_refuseWord [Rv 1, Iv x1] M5 (QI (fun z7 M7 => (inr z7 ∧ ((z7 = 0 → 0 ≤ x1 ∧ (x1 < 8 ∧ (cl 0 yX2_read [Rv 80, Rv ((55 + 3 * x1) + 1)] M7 (QV (fun M12 => (cl 0 yX2_ofLength [Rv 80, Iv x2] M12 (QJ (fun z13 M13 => (inL x3 ∧ (inL z13 ∧ ((x3 < z13 → cl 0 yX2_pick [Rv 80, Iv x2, Iv x3, Rv 6] M13 (QV (fun M17 => (0 ≤ x4 ∧ (x4 < 6 ∧ (cl 0 yX3_take [Rv (35 + 2 * x4), Rv 6, Iv x2] M17 (QI (fun z20 M20 => (Q (Iv z20) M20))))))))) ∧ (z13 ≤ x3 → Q (Iv (-9)) M13)))))))))))) ∧ (z7 ≠ 0 → Q (Iv z7) M7)))))) ∧ (z5 ≠ 0 → Q (Iv (-1)) M5))))))))))) : cl 0 yX11_byRank [Rv 1, Iv x1, Iv x2, Iv x3, Iv x4] M Q := enterG (by decide +kernel) (by exact Or.inr (Or.inl rfl)) (Nat.le_of_ble_eq_true rfl) rfl (gX11_byRank h)
theorem gX11_arches {x1 : Int}  {M : Mem} {Q : Vl → Mem → Prop} (h : cl 0 yX11_refuseWord [Rv 1, Iv x1] M (QI (fun z1 M1 => (inr z1 ∧ ((z1 = 0 → 0 ≤ x1 ∧ (x1 < 8 ∧ (cl 0 yX0_read [Rv 15, Rv ((55 + 3 * x1) + 1), Iv (M1 1 3)] M1 (QV (fun M6 => (Q (Iv (M6 15 0)) (up M6 1 4 (M6 15 1)))))))) ∧ (z1 ≠ 0 → Q (Iv z1) M1)))))) : wp 0 yX11_arches 0 [some (Rv 1), some (Iv x1), none] [] M Q := by
  refine wp_aload_n dX11_arches_0 rfl (by decide) ?_
  refine wp_iload_n dX11_arches_1 rfl ?_
  refine wp_callV (e1 := 0) (as := [Iv x1]) (S := []) dX11_arches_2 (cs_X11_186 rfl) kd_1 rfl rfl (Nat.le_of_ble_eq_true rfl) (Nat.le_of_ble_eq_true rfl) h (fun v1 M1 q1 r1 => ?_)
  obtain ⟨z1, rfl⟩ := retV_i r1 rfl
  have h := q1
  refine wp_istore_n (L2 := [some (Rv 1), some (Iv x1), some (Iv z1)]) dX11_arches_5 (Nat.le_of_ble_eq_true rfl) (Nat.le_of_ble_eq_true rfl) rfl ?_
  refine wp_iload_n dX11_arches_6 rfl ?_
  obtain ⟨o2, h⟩ := h
  refine wp_if_eq (tgt := 12) dX11_arches_7 (by decide) o2 (fun q3 => ?_) (fun q3 => ?_)
  · have h := h.1 q3
    refine wp_aload_n dX11_arches_12 rfl (by decide) ?_
    refine wp_getf (t := Rv 15) 15 dX11_arches_13 (fl_X11_68 rfl) kd_1 rfl rfl ?_
    refine wp_aload_n dX11_arches_16 rfl (by decide) ?_
    refine wp_getf (t := Rv 4) 4 dX11_arches_17 (fl_X11_20 rfl) kd_1 rfl rfl ?_
    refine wp_iload_n dX11_arches_20 rfl ?_
    obtain ⟨o4, h⟩ := h
    obtain ⟨o5, h⟩ := h
    refine wp_aaldW (55 + 3 * x1) dX11_arches_21 kd_4 sz_4 o4 o5 (⟨by omega, by omega⟩) rfl ?_
    refine wp_getf (t := Rv ((55 + 3 * x1) + 1)) ((55 + 3 * x1) + 1) dX11_arches_22 (fl_X11_161 rfl) (isW_word o4 o5).k rfl rfl ?_
    refine wp_aload_n dX11_arches_25 rfl (by decide) ?_
    refine wp_getf (t := Iv (M1 1 3)) (M1 1 3) dX11_arches_26 (fl_X11_24 rfl) kd_1 rfl rfl ?_
    refine wp_callV (e1 := 0) (as := [Rv ((55 + 3 * x1) + 1), Iv (M1 1 3)]) (S := []) dX11_arches_29 (cs_X11_262 rfl) kd_15 rfl rfl (Nat.le_of_ble_eq_true rfl) (Nat.le_of_ble_eq_true rfl) h (fun v6 M6 q6 r6 => ?_)
    have h := q6
    refine wp_aload_n dX11_arches_32 rfl (by decide) ?_
    refine wp_aload_n dX11_arches_33 rfl (by decide) ?_
    refine wp_getf (t := Rv 15) 15 dX11_arches_34 (fl_X11_68 rfl) kd_1 rfl rfl ?_
    refine wp_getf (t := Iv (M6 15 1)) (M6 15 1) dX11_arches_37 (fl_X11_265 rfl) kd_15 rfl rfl ?_
    refine wp_putf (x := (M6 15 1)) dX11_arches_40 (fl_X11_28 rfl) kd_1 (fun _ => rfl) rfl rfl trivial ?_
    refine wp_aload_n dX11_arches_43 rfl (by decide) ?_
    refine wp_getf (t := Rv 15) 15 dX11_arches_44 (fl_X11_68 rfl) kd_1 rfl rfl ?_
    refine wp_getf (t := Iv (M6 15 0)) (M6 15 0) dX11_arches_47 (fl_X11_268 rfl) kd_15 rfl rfl ?_
    exact wp_iret dX11_arches_50 rfl (Or.inr ⟨rfl, rfl, rfl, by decide⟩) rfl h
  · have h := h.2 q3
    refine wp_iload_n dX11_arches_10 rfl ?_
    exact wp_iret dX11_arches_11 rfl (Or.inr ⟨rfl, rfl, rfl, by decide⟩) rfl h
theorem eX11_arches {x1 : Int}  {M : Mem} {Q : Vl → Mem → Prop} (h : cl 0 yX11_refuseWord [Rv 1, Iv x1] M (QI (fun z1 M1 => (inr z1 ∧ ((z1 = 0 → 0 ≤ x1 ∧ (x1 < 8 ∧ (cl 0 yX0_read [Rv 15, Rv ((55 + 3 * x1) + 1), Iv (M1 1 3)] M1 (QV (fun M6 => (Q (Iv (M6 15 0)) (up M6 1 4 (M6 15 1)))))))) ∧ (z1 ≠ 0 → Q (Iv z1) M1)))))) : cl 0 yX11_arches [Rv 1, Iv x1] M Q := enterG (by decide +kernel) (by exact Or.inr (Or.inl rfl)) (Nat.le_of_ble_eq_true rfl) rfl (gX11_arches h)
theorem gX11_absent {x1 x2 : Int}  {M : Mem} {Q : Vl → Mem → Prop} (h : cl 0 yX11_noRow [Iv x2] M (QI (fun z1 M1 => ((z1 = 0 → cl 0 yX11_refuseWord [Rv 1, Iv x1] M1 (QI (fun z3 M3 => (inr z3 ∧ ((z3 = 0 → 0 ≤ x1 ∧ (x1 < 8 ∧ (cl 0 yX0_readAbsent [Rv 15, Rv ((55 + 3 * x1) + 1), Iv (M3 1 3)] M3 (QV (fun M8 => (0 ≤ x2 ∧ (x2 < 6 ∧ (cl 0 yX0_firstAbsent [Rv 15, Iv (M8 1 3), Rv 6] (up M8 1 5 (M8 17 0)) (QI (fun z11 M11 => (cl 0 yX3_take [Rv (35 + 2 * x2), Rv 6, Iv z11] M11 (QI (fun z12 M12 => (Q (Iv (M8 16 0)) M12)))))))))))))) ∧ (z3 ≠ 0 → Q (Iv z3) M3)))))) ∧ (z1 ≠ 0 → Q (Iv (-1)) M1))))) : wp 0 yX11_absent 0 [some (Rv 1), some (Iv x1), some (Iv x2), none, none] [] M Q := by
  refine wp_iload_n dX11_absent_0 rfl ?_
  refine wp_callS (e1 := 0) (as := [Iv x2]) (S := []) dX11_absent_1 (cs_X11_113 rfl) rfl rfl (Nat.le_of_ble_eq_true rfl) (Nat.le_of_ble_eq_true rfl) h (fun v1 M1 q1 r1 => ?_)
  obtain ⟨z1, rfl, hz1⟩ := retV_z r1 rfl
  have h := q1
  refine wp_if_eq (tgt := 9) dX11_absent_4 (by decide) (by have := hz1; omega) (fun q2 => ?_) (fun q2 => ?_)
  · have h := h.1 q2
    refine wp_aload_n dX11_absent_9 rfl (by decide) ?_
    refine wp_iload_n dX11_absent_10 rfl ?_
    refine wp_callV (e1 := 0) (as := [Iv x1]) (S := []) dX11_absent_11 (cs_X11_186 rfl) kd_1 rfl rfl (Nat.le_of_ble_eq_true rfl) (Nat.le_of_ble_eq_true rfl) h (fun v3 M3 q3 r3 => ?_)
    obtain ⟨z3, rfl⟩ := retV_i r3 rfl
    have h := q3
    refine wp_istore_n (L2 := [some (Rv 1), some (Iv x1), some (Iv x2), some (Iv z3), none]) dX11_absent_14 (Nat.le_of_ble_eq_true rfl) (Nat.le_of_ble_eq_true rfl) rfl ?_
    refine wp_iload_n dX11_absent_15 rfl ?_
    obtain ⟨o4, h⟩ := h
    refine wp_if_eq (tgt := 21) dX11_absent_16 (by decide) o4 (fun q5 => ?_) (fun q5 => ?_)
    · have h := h.1 q5
      refine wp_aload_n dX11_absent_21 rfl (by decide) ?_
      refine wp_getf (t := Rv 15) 15 dX11_absent_22 (fl_X11_68 rfl) kd_1 rfl rfl ?_
      refine wp_aload_n dX11_absent_25 rfl (by decide) ?_
      refine wp_getf (t := Rv 4) 4 dX11_absent_26 (fl_X11_20 rfl) kd_1 rfl rfl ?_
      refine wp_iload_n dX11_absent_29 rfl ?_
      obtain ⟨o6, h⟩ := h
      obtain ⟨o7, h⟩ := h
      refine wp_aaldW (55 + 3 * x1) dX11_absent_30 kd_4 sz_4 o6 o7 (⟨by omega, by omega⟩) rfl ?_
      refine wp_getf (t := Rv ((55 + 3 * x1) + 1)) ((55 + 3 * x1) + 1) dX11_absent_31 (fl_X11_161 rfl) (isW_word o6 o7).k rfl rfl ?_
      refine wp_aload_n dX11_absent_34 rfl (by decide) ?_
      refine wp_getf (t := Iv (M3 1 3)) (M3 1 3) dX11_absent_35 (fl_X11_24 rfl) kd_1 rfl rfl ?_
      refine wp_callV (e1 := 0) (as := [Rv ((55 + 3 * x1) + 1), Iv (M3 1 3)]) (S := []) dX11_absent_38 (cs_X11_271 rfl) kd_15 rfl rfl (Nat.le_of_ble_eq_true rfl) (Nat.le_of_ble_eq_true rfl) h (fun v8 M8 q8 r8 => ?_)
      have h := q8
      refine wp_aload_n dX11_absent_41 rfl (by decide) ?_
      refine wp_aload_n dX11_absent_42 rfl (by decide) ?_
      refine wp_getf (t := Rv 15) 15 dX11_absent_43 (fl_X11_68 rfl) kd_1 rfl rfl ?_
      refine wp_getf (t := Rv 17) 17 dX11_absent_46 (fl_X11_274 rfl) kd_15 rfl rfl ?_
      refine wp_iconst dX11_absent_49 ?_
      refine wp_lald (M8 17 0) dX11_absent_50 kd_17 sz_17 (by decide) (by decide) (by decide) rfl ?_
      refine wp_putf (x := (M8 17 0)) dX11_absent_51 (fl_X11_31 rfl) kd_1 (fun _ => rfl) rfl rfl trivial ?_
      refine wp_aload_n dX11_absent_54 rfl (by decide) ?_
      refine wp_getf (t := Rv 15) 15 dX11_absent_55 (fl_X11_68 rfl) kd_1 rfl rfl ?_
      refine wp_getf (t := Rv 16) 16 dX11_absent_58 (fl_X11_278 rfl) kd_15 rfl rfl ?_
      refine wp_iconst dX11_absent_61 ?_
      refine wp_iald (M8 16 0) dX11_absent_62 kd_16 sz_16 (by decide) (by decide) (by decide) rfl ?_
      refine wp_istore (L2 := [some (Rv 1), some (Iv x1), some (Iv x2), some (Iv z3), some (Iv (M8 16 0))]) dX11_absent_63 (Nat.le_of_ble_eq_true rfl) (Nat.le_of_ble_eq_true rfl) rfl ?_
      refine wp_aload_n dX11_absent_65 rfl (by decide) ?_
      refine wp_getf (t := Rv 2) 2 dX11_absent_66 (fl_X11_11 rfl) kd_1 rfl rfl ?_
      refine wp_iload_n dX11_absent_69 rfl ?_
      obtain ⟨o9, h⟩ := h
      obtain ⟨o10, h⟩ := h
      refine wp_aaldL (35 + 2 * x2) dX11_absent_70 kd_2 sz_2 o9 o10 (⟨by omega, by omega⟩) rfl ?_
      refine wp_aload_n dX11_absent_71 rfl (by decide) ?_
      refine wp_getf (t := Rv 6) 6 dX11_absent_72 (fl_X11_48 rfl) kd_1 rfl rfl ?_
      refine wp_aload_n dX11_absent_75 rfl (by decide) ?_
      refine wp_getf (t := Rv 15) 15 dX11_absent_76 (fl_X11_68 rfl) kd_1 rfl rfl ?_
      refine wp_aload_n dX11_absent_79 rfl (by decide) ?_
      refine wp_getf (t := Iv (M8 1 3)) (M8 1 3) dX11_absent_80 (fl_X11_24 rfl) kd_1 rfl rfl ?_
      refine wp_aload_n dX11_absent_83 rfl (by decide) ?_
      refine wp_getf (t := Rv 6) 6 dX11_absent_84 (fl_X11_48 rfl) kd_1 rfl rfl ?_
      refine wp_callV (e1 := 0) (as := [Iv (M8 1 3), Rv 6]) (S := [Rv 6, Rv (35 + 2 * x2)]) dX11_absent_87 (cs_X11_281 rfl) kd_15 rfl rfl (Nat.le_of_ble_eq_true rfl) (Nat.le_of_ble_eq_true rfl) h (fun v11 M11 q11 r11 => ?_)
      obtain ⟨z11, rfl⟩ := retV_i r11 rfl
      have h := q11
      refine wp_callV (e1 := 0) (as := [Rv 6, Iv z11]) (S := []) dX11_absent_90 (cs_X11_219 rfl) (isL_row o9 o10).k rfl rfl (Nat.le_of_ble_eq_true rfl) (Nat.le_of_ble_eq_true rfl) h (fun v12 M12 q12 r12 => ?_)
      obtain ⟨z12, rfl⟩ := retV_i r12 rfl
      have h := q12
      refine wp_pop dX11_absent_93 rfl ?_
      refine wp_iload dX11_absent_94 rfl ?_
      exact wp_iret dX11_absent_96 rfl (Or.inr ⟨rfl, rfl, rfl, by decide⟩) rfl h
    · have h := h.2 q5
      refine wp_iload_n dX11_absent_19 rfl ?_
      exact wp_iret dX11_absent_20 rfl (Or.inr ⟨rfl, rfl, rfl, by decide⟩) rfl h
  · have h := h.2 q2
    refine wp_iconst dX11_absent_7 ?_
    exact wp_iret dX11_absent_8 rfl (Or.inr ⟨rfl, rfl, rfl, by decide⟩) rfl h
theorem eX11_absent {x1 x2 : Int}  {M : Mem} {Q : Vl → Mem → Prop} (h : cl 0 yX11_noRow [Iv x2] M (QI (fun z1 M1 => ((z1 = 0 → cl 0 yX11_refuseWord [Rv 1, Iv x1] M1 (QI (fun z3 M3 => (inr z3 ∧ ((z3 = 0 → 0 ≤ x1 ∧ (x1 < 8 ∧ (cl 0 yX0_readAbsent [Rv 15, Rv ((55 + 3 * x1) + 1), Iv (M3 1 3)] M3 (QV (fun M8 => (0 ≤ x2 ∧ (x2 < 6 ∧ (cl 0 yX0_firstAbsent [Rv 15, Iv (M8 1 3), Rv 6] (up M8 1 5 (M8 17 0)) (QI (fun z11 M11 => (cl 0 yX3_take [Rv (35 + 2 * x2), Rv 6, Iv z11] M11 (QI (fun z12 M12 => (Q (Iv (M8 16 0)) M12)))))))))))))) ∧ (z3 ≠ 0 → Q (Iv z3) M3)))))) ∧ (z1 ≠ 0 → Q (Iv (-1)) M1))))) : cl 0 yX11_absent [Rv 1, Iv x1, Iv x2] M Q := enterG (by decide +kernel) (by exact Or.inr (Or.inl rfl)) (Nat.le_of_ble_eq_true rfl) rfl (gX11_absent h)
theorem gX11_added {x1 x2 : Int}  {M : Mem} {Q : Vl → Mem → Prop} (h : cl 0 yX11_noLength [Iv x2] M (QI (fun z1 M1 => ((z1 = 0 → cl 0 yX11_refuseWord [Rv 1, Iv x1] M1 (QI (fun z3 M3 => (inr z3 ∧ ((z3 = 0 → 0 ≤ x1 ∧ (x1 < 8 ∧ (cl 0 yX0_read [Rv 15, Rv ((55 + 3 * x1) + 1), Iv (M3 1 3)] M3 (QV (fun M8 => (cl 0 yX0_toClose [Rv 15, Iv x2, Iv (M8 1 3)] M8 (QI (fun z9 M9 => (Q (Iv z9) M9))))))))) ∧ (z3 ≠ 0 → Q (Iv z3) M3)))))) ∧ (z1 ≠ 0 → Q (Iv (-1)) M1))))) : wp 0 yX11_added 0 [some (Rv 1), some (Iv x1), some (Iv x2), none] [] M Q := by
  refine wp_iload_n dX11_added_0 rfl ?_
  refine wp_callS (e1 := 0) (as := [Iv x2]) (S := []) dX11_added_1 (cs_X11_189 rfl) rfl rfl (Nat.le_of_ble_eq_true rfl) (Nat.le_of_ble_eq_true rfl) h (fun v1 M1 q1 r1 => ?_)
  obtain ⟨z1, rfl, hz1⟩ := retV_z r1 rfl
  have h := q1
  refine wp_if_eq (tgt := 9) dX11_added_4 (by decide) (by have := hz1; omega) (fun q2 => ?_) (fun q2 => ?_)
  · have h := h.1 q2
    refine wp_aload_n dX11_added_9 rfl (by decide) ?_
    refine wp_iload_n dX11_added_10 rfl ?_
    refine wp_callV (e1 := 0) (as := [Iv x1]) (S := []) dX11_added_11 (cs_X11_186 rfl) kd_1 rfl rfl (Nat.le_of_ble_eq_true rfl) (Nat.le_of_ble_eq_true rfl) h (fun v3 M3 q3 r3 => ?_)
    obtain ⟨z3, rfl⟩ := retV_i r3 rfl
    have h := q3
    refine wp_istore_n (L2 := [some (Rv 1), some (Iv x1), some (Iv x2), some (Iv z3)]) dX11_added_14 (Nat.le_of_ble_eq_true rfl) (Nat.le_of_ble_eq_true rfl) rfl ?_
    refine wp_iload_n dX11_added_15 rfl ?_
    obtain ⟨o4, h⟩ := h
    refine wp_if_eq (tgt := 21) dX11_added_16 (by decide) o4 (fun q5 => ?_) (fun q5 => ?_)
    · have h := h.1 q5
      refine wp_aload_n dX11_added_21 rfl (by decide) ?_
      refine wp_getf (t := Rv 15) 15 dX11_added_22 (fl_X11_68 rfl) kd_1 rfl rfl ?_
      refine wp_aload_n dX11_added_25 rfl (by decide) ?_
      refine wp_getf (t := Rv 4) 4 dX11_added_26 (fl_X11_20 rfl) kd_1 rfl rfl ?_
      refine wp_iload_n dX11_added_29 rfl ?_
      obtain ⟨o6, h⟩ := h
      obtain ⟨o7, h⟩ := h
      refine wp_aaldW (55 + 3 * x1) dX11_added_30 kd_4 sz_4 o6 o7 (⟨by omega, by omega⟩) rfl ?_
      refine wp_getf (t := Rv ((55 + 3 * x1) + 1)) ((55 + 3 * x1) + 1) dX11_added_31 (fl_X11_161 rfl) (isW_word o6 o7).k rfl rfl ?_
      refine wp_aload_n dX11_added_34 rfl (by decide) ?_
      refine wp_getf (t := Iv (M3 1 3)) (M3 1 3) dX11_added_35 (fl_X11_24 rfl) kd_1 rfl rfl ?_
      refine wp_callV (e1 := 0) (as := [Rv ((55 + 3 * x1) + 1), Iv (M3 1 3)]) (S := []) dX11_added_38 (cs_X11_262 rfl) kd_15 rfl rfl (Nat.le_of_ble_eq_true rfl) (Nat.le_of_ble_eq_true rfl) h (fun v8 M8 q8 r8 => ?_)
      have h := q8
      refine wp_aload_n dX11_added_41 rfl (by decide) ?_
      refine wp_getf (t := Rv 15) 15 dX11_added_42 (fl_X11_68 rfl) kd_1 rfl rfl ?_
      refine wp_iload_n dX11_added_45 rfl ?_
      refine wp_aload_n dX11_added_46 rfl (by decide) ?_
      refine wp_getf (t := Iv (M8 1 3)) (M8 1 3) dX11_added_47 (fl_X11_24 rfl) kd_1 rfl rfl ?_
      refine wp_callV (e1 := 0) (as := [Iv x2, Iv (M8 1 3)]) (S := []) dX11_added_50 (cs_X11_285 rfl) kd_15 rfl rfl (Nat.le_of_ble_eq_true rfl) (Nat.le_of_ble_eq_true rfl) h (fun v9 M9 q9 r9 => ?_)
      obtain ⟨z9, rfl⟩ := retV_i r9 rfl
      have h := q9
      exact wp_iret dX11_added_53 rfl (Or.inr ⟨rfl, rfl, rfl, by decide⟩) rfl h
    · have h := h.2 q5
      refine wp_iload_n dX11_added_19 rfl ?_
      exact wp_iret dX11_added_20 rfl (Or.inr ⟨rfl, rfl, rfl, by decide⟩) rfl h
  · have h := h.2 q2
    refine wp_iconst dX11_added_7 ?_
    exact wp_iret dX11_added_8 rfl (Or.inr ⟨rfl, rfl, rfl, by decide⟩) rfl h
theorem eX11_added {x1 x2 : Int}  {M : Mem} {Q : Vl → Mem → Prop} (h : cl 0 yX11_noLength [Iv x2] M (QI (fun z1 M1 => ((z1 = 0 → cl 0 yX11_refuseWord [Rv 1, Iv x1] M1 (QI (fun z3 M3 => (inr z3 ∧ ((z3 = 0 → 0 ≤ x1 ∧ (x1 < 8 ∧ (cl 0 yX0_read [Rv 15, Rv ((55 + 3 * x1) + 1), Iv (M3 1 3)] M3 (QV (fun M8 => (cl 0 yX0_toClose [Rv 15, Iv x2, Iv (M8 1 3)] M8 (QI (fun z9 M9 => (Q (Iv z9) M9))))))))) ∧ (z3 ≠ 0 → Q (Iv z3) M3)))))) ∧ (z1 ≠ 0 → Q (Iv (-1)) M1))))) : cl 0 yX11_added [Rv 1, Iv x1, Iv x2] M Q := enterG (by decide +kernel) (by exact Or.inr (Or.inl rfl)) (Nat.le_of_ble_eq_true rfl) rfl (gX11_added h)
theorem gX11_alike {x1 x2 x3 : Int}  {M : Mem} {Q : Vl → Mem → Prop} (h : cl 0 yX11_noLength [Iv x3] M (QI (fun z1 M1 => ((z1 = 0 → cl 0 yX11_refuseWords [Rv 1, Iv x1, Iv x2] M1 (QI (fun z3 M3 => (inr z3 ∧ ((z3 = 0 → 0 ≤ x1 ∧ (x1 < 8 ∧ (0 ≤ x2 ∧ (x2 < 8 ∧ (cl 0 yX4_measureParting [Rv 83, Rv ((55 + 3 * x1) + 1), Rv ((55 + 3 * x2) + 1)] M3 (QI (fun z10 M10 => (inr z10 ∧ ((z10 = 0 → Q (Iv 1) M10) ∧ (z10 ≠ 0 → inr x3 ∧ ((z10 ≤ x3 → Q (Iv 0) M10) ∧ (x3 < z10 → Q (Iv 1) M10)))))))))))) ∧ (z3 ≠ 0 → Q (Iv z3) M3)))))) ∧ (z1 ≠ 0 → Q (Iv (-1)) M1))))) : wp 0 yX11_alike 0 [some (Rv 1), some (Iv x1), some (Iv x2), some (Iv x3), none, none] [] M Q := by
  refine wp_iload_n dX11_alike_0 rfl ?_
  refine wp_callS (e1 := 0) (as := [Iv x3]) (S := []) dX11_alike_1 (cs_X11_189 rfl) rfl rfl (Nat.le_of_ble_eq_true rfl) (Nat.le_of_ble_eq_true rfl) h (fun v1 M1 q1 r1 => ?_)
  obtain ⟨z1, rfl, hz1⟩ := retV_z r1 rfl
  have h := q1
  refine wp_if_eq (tgt := 9) dX11_alike_4 (by decide) (by have := hz1; omega) (fun q2 => ?_) (fun q2 => ?_)
  · have h := h.1 q2
    refine wp_aload_n dX11_alike_9 rfl (by decide) ?_
    refine wp_iload_n dX11_alike_10 rfl ?_
    refine wp_iload_n dX11_alike_11 rfl ?_
    refine wp_callV (e1 := 0) (as := [Iv x1, Iv x2]) (S := []) dX11_alike_12 (cs_X11_183 rfl) kd_1 rfl rfl (Nat.le_of_ble_eq_true rfl) (Nat.le_of_ble_eq_true rfl) h (fun v3 M3 q3 r3 => ?_)
    obtain ⟨z3, rfl⟩ := retV_i r3 rfl
    have h := q3
    refine wp_istore (L2 := [some (Rv 1), some (Iv x1), some (Iv x2), some (Iv x3), some (Iv z3), none]) dX11_alike_15 (Nat.le_of_ble_eq_true rfl) (Nat.le_of_ble_eq_true rfl) rfl ?_
    refine wp_iload dX11_alike_17 rfl ?_
    obtain ⟨o4, h⟩ := h
    refine wp_if_eq (tgt := 25) dX11_alike_19 (by decide) o4 (fun q5 => ?_) (fun q5 => ?_)
    · have h := h.1 q5
      refine wp_aload_n dX11_alike_25 rfl (by decide) ?_
      refine wp_getf (t := Rv 83) 83 dX11_alike_26 (fl_X11_109 rfl) kd_1 rfl rfl ?_
      refine wp_aload_n dX11_alike_29 rfl (by decide) ?_
      refine wp_getf (t := Rv 4) 4 dX11_alike_30 (fl_X11_20 rfl) kd_1 rfl rfl ?_
      refine wp_iload_n dX11_alike_33 rfl ?_
      obtain ⟨o6, h⟩ := h
      obtain ⟨o7, h⟩ := h
      refine wp_aaldW (55 + 3 * x1) dX11_alike_34 kd_4 sz_4 o6 o7 (⟨by omega, by omega⟩) rfl ?_
      refine wp_getf (t := Rv ((55 + 3 * x1) + 1)) ((55 + 3 * x1) + 1) dX11_alike_35 (fl_X11_161 rfl) (isW_word o6 o7).k rfl rfl ?_
      refine wp_aload_n dX11_alike_38 rfl (by decide) ?_
      refine wp_getf (t := Rv 4) 4 dX11_alike_39 (fl_X11_20 rfl) kd_1 rfl rfl ?_
      refine wp_iload_n dX11_alike_42 rfl ?_
      obtain ⟨o8, h⟩ := h
      obtain ⟨o9, h⟩ := h
      refine wp_aaldW (55 + 3 * x2) dX11_alike_43 kd_4 sz_4 o8 o9 (⟨by omega, by omega⟩) rfl ?_
      refine wp_getf (t := Rv ((55 + 3 * x2) + 1)) ((55 + 3 * x2) + 1) dX11_alike_44 (fl_X11_161 rfl) (isW_word o8 o9).k rfl rfl ?_
      refine wp_callV (e1 := 0) (as := [Rv ((55 + 3 * x1) + 1), Rv ((55 + 3 * x2) + 1)]) (S := []) dX11_alike_47 (cs_X11_288 rfl) kd_83 rfl rfl (Nat.le_of_ble_eq_true rfl) (Nat.le_of_ble_eq_true rfl) h (fun v10 M10 q10 r10 => ?_)
      obtain ⟨z10, rfl⟩ := retV_i r10 rfl
      have h := q10
      refine wp_istore (L2 := [some (Rv 1), some (Iv x1), some (Iv x2), some (Iv x3), some (Iv z3), some (Iv z10)]) dX11_alike_50 (Nat.le_of_ble_eq_true rfl) (Nat.le_of_ble_eq_true rfl) rfl ?_
      refine wp_iload dX11_alike_52 rfl ?_
      obtain ⟨o11, h⟩ := h
      refine wp_if_eq (tgt := 63) dX11_alike_54 (by decide) o11 (fun q12 => ?_) (fun q12 => ?_)
      · have h := h.1 q12
        refine wp_iconst dX11_alike_63 ?_
        refine wp_goto (tgt := 68) dX11_alike_64 (by decide) ?_
        exact wp_iret dX11_alike_68 rfl (Or.inr ⟨rfl, rfl, rfl, by decide⟩) rfl h
      · have h := h.2 q12
        refine wp_iload dX11_alike_57 rfl ?_
        refine wp_iload_n dX11_alike_59 rfl ?_
        obtain ⟨o13, h⟩ := h
        refine wp_icmp_le (tgt := 67) dX11_alike_60 (by decide) o11 o13 (fun q14 => ?_) (fun q14 => ?_)
        · have h := h.1 q14
          refine wp_iconst dX11_alike_67 ?_
          exact wp_iret dX11_alike_68 rfl (Or.inr ⟨rfl, rfl, rfl, by decide⟩) rfl h
        · have h := h.2 q14
          refine wp_iconst dX11_alike_63 ?_
          refine wp_goto (tgt := 68) dX11_alike_64 (by decide) ?_
          exact wp_iret dX11_alike_68 rfl (Or.inr ⟨rfl, rfl, rfl, by decide⟩) rfl h
    · have h := h.2 q5
      refine wp_iload dX11_alike_22 rfl ?_
      exact wp_iret dX11_alike_24 rfl (Or.inr ⟨rfl, rfl, rfl, by decide⟩) rfl h
  · have h := h.2 q2
    refine wp_iconst dX11_alike_7 ?_
    exact wp_iret dX11_alike_8 rfl (Or.inr ⟨rfl, rfl, rfl, by decide⟩) rfl h
theorem eX11_alike {x1 x2 x3 : Int}  {M : Mem} {Q : Vl → Mem → Prop} (h : cl 0 yX11_noLength [Iv x3] M (QI (fun z1 M1 => ((z1 = 0 → cl 0 yX11_refuseWords [Rv 1, Iv x1, Iv x2] M1 (QI (fun z3 M3 => (inr z3 ∧ ((z3 = 0 → 0 ≤ x1 ∧ (x1 < 8 ∧ (0 ≤ x2 ∧ (x2 < 8 ∧ (cl 0 yX4_measureParting [Rv 83, Rv ((55 + 3 * x1) + 1), Rv ((55 + 3 * x2) + 1)] M3 (QI (fun z10 M10 => (inr z10 ∧ ((z10 = 0 → Q (Iv 1) M10) ∧ (z10 ≠ 0 → inr x3 ∧ ((z10 ≤ x3 → Q (Iv 0) M10) ∧ (x3 < z10 → Q (Iv 1) M10)))))))))))) ∧ (z3 ≠ 0 → Q (Iv z3) M3)))))) ∧ (z1 ≠ 0 → Q (Iv (-1)) M1))))) : cl 0 yX11_alike [Rv 1, Iv x1, Iv x2, Iv x3] M Q := enterG (by decide +kernel) (by exact Or.inr (Or.inl rfl)) (Nat.le_of_ble_eq_true rfl) rfl (gX11_alike h)
theorem gX11_parting {x1 x2 x3 : Int}  {M : Mem} {Q : Vl → Mem → Prop} (h : cl 0 yX11_noRow [Iv x3] M (QI (fun z1 M1 => ((z1 = 0 → cl 0 yX11_refuseWords [Rv 1, Iv x1, Iv x2] M1 (QI (fun z3 M3 => (inr z3 ∧ ((z3 = 0 → 0 ≤ x1 ∧ (x1 < 8 ∧ (0 ≤ x2 ∧ (x2 < 8 ∧ (cl 0 yX4_measureParting [Rv 83, Rv ((55 + 3 * x1) + 1), Rv ((55 + 3 * x2) + 1)] M3 (QI (fun z10 M10 => (inr z10 ∧ ((z10 ≠ 0 → cl 0 yX4_firstParting [Rv 83, Iv z10, Rv 6] M10 (QV (fun M13 => (0 ≤ x3 ∧ (x3 < 6 ∧ (cl 0 yX3_take [Rv (35 + 2 * x3), Rv 6, Iv z10] M13 (QI (fun z16 M16 => (Q (Iv z16) M16))))))))) ∧ (z10 = 0 → Q (Iv (-9)) M10)))))))))) ∧ (z3 ≠ 0 → Q (Iv z3) M3)))))) ∧ (z1 ≠ 0 → Q (Iv (-1)) M1))))) : wp 0 yX11_parting 0 [some (Rv 1), some (Iv x1), some (Iv x2), some (Iv x3), none, none] [] M Q := by
  refine wp_iload_n dX11_parting_0 rfl ?_
  refine wp_callS (e1 := 0) (as := [Iv x3]) (S := []) dX11_parting_1 (cs_X11_113 rfl) rfl rfl (Nat.le_of_ble_eq_true rfl) (Nat.le_of_ble_eq_true rfl) h (fun v1 M1 q1 r1 => ?_)
  obtain ⟨z1, rfl, hz1⟩ := retV_z r1 rfl
  have h := q1
  refine wp_if_eq (tgt := 9) dX11_parting_4 (by decide) (by have := hz1; omega) (fun q2 => ?_) (fun q2 => ?_)
  · have h := h.1 q2
    refine wp_aload_n dX11_parting_9 rfl (by decide) ?_
    refine wp_iload_n dX11_parting_10 rfl ?_
    refine wp_iload_n dX11_parting_11 rfl ?_
    refine wp_callV (e1 := 0) (as := [Iv x1, Iv x2]) (S := []) dX11_parting_12 (cs_X11_183 rfl) kd_1 rfl rfl (Nat.le_of_ble_eq_true rfl) (Nat.le_of_ble_eq_true rfl) h (fun v3 M3 q3 r3 => ?_)
    obtain ⟨z3, rfl⟩ := retV_i r3 rfl
    have h := q3
    refine wp_istore (L2 := [some (Rv 1), some (Iv x1), some (Iv x2), some (Iv x3), some (Iv z3), none]) dX11_parting_15 (Nat.le_of_ble_eq_true rfl) (Nat.le_of_ble_eq_true rfl) rfl ?_
    refine wp_iload dX11_parting_17 rfl ?_
    obtain ⟨o4, h⟩ := h
    refine wp_if_eq (tgt := 25) dX11_parting_19 (by decide) o4 (fun q5 => ?_) (fun q5 => ?_)
    · have h := h.1 q5
      refine wp_aload_n dX11_parting_25 rfl (by decide) ?_
      refine wp_getf (t := Rv 83) 83 dX11_parting_26 (fl_X11_109 rfl) kd_1 rfl rfl ?_
      refine wp_aload_n dX11_parting_29 rfl (by decide) ?_
      refine wp_getf (t := Rv 4) 4 dX11_parting_30 (fl_X11_20 rfl) kd_1 rfl rfl ?_
      refine wp_iload_n dX11_parting_33 rfl ?_
      obtain ⟨o6, h⟩ := h
      obtain ⟨o7, h⟩ := h
      refine wp_aaldW (55 + 3 * x1) dX11_parting_34 kd_4 sz_4 o6 o7 (⟨by omega, by omega⟩) rfl ?_
      refine wp_getf (t := Rv ((55 + 3 * x1) + 1)) ((55 + 3 * x1) + 1) dX11_parting_35 (fl_X11_161 rfl) (isW_word o6 o7).k rfl rfl ?_
      refine wp_aload_n dX11_parting_38 rfl (by decide) ?_
      refine wp_getf (t := Rv 4) 4 dX11_parting_39 (fl_X11_20 rfl) kd_1 rfl rfl ?_
      refine wp_iload_n dX11_parting_42 rfl ?_
      obtain ⟨o8, h⟩ := h
      obtain ⟨o9, h⟩ := h
      refine wp_aaldW (55 + 3 * x2) dX11_parting_43 kd_4 sz_4 o8 o9 (⟨by omega, by omega⟩) rfl ?_
      refine wp_getf (t := Rv ((55 + 3 * x2) + 1)) ((55 + 3 * x2) + 1) dX11_parting_44 (fl_X11_161 rfl) (isW_word o8 o9).k rfl rfl ?_
      refine wp_callV (e1 := 0) (as := [Rv ((55 + 3 * x1) + 1), Rv ((55 + 3 * x2) + 1)]) (S := []) dX11_parting_47 (cs_X11_288 rfl) kd_83 rfl rfl (Nat.le_of_ble_eq_true rfl) (Nat.le_of_ble_eq_true rfl) h (fun v10 M10 q10 r10 => ?_)
      obtain ⟨z10, rfl⟩ := retV_i r10 rfl
      have h := q10
      refine wp_istore (L2 := [some (Rv 1), some (Iv x1), some (Iv x2), some (Iv x3), some (Iv z3), some (Iv z10)]) dX11_parting_50 (Nat.le_of_ble_eq_true rfl) (Nat.le_of_ble_eq_true rfl) rfl ?_
      refine wp_iload dX11_parting_52 rfl ?_
      obtain ⟨o11, h⟩ := h
      refine wp_if_ne (tgt := 60) dX11_parting_54 (by decide) o11 (fun q12 => ?_) (fun q12 => ?_)
      · have h := h.1 q12
        refine wp_aload_n dX11_parting_60 rfl (by decide) ?_
        refine wp_getf (t := Rv 83) 83 dX11_parting_61 (fl_X11_109 rfl) kd_1 rfl rfl ?_
        refine wp_iload dX11_parting_64 rfl ?_
        refine wp_aload_n dX11_parting_66 rfl (by decide) ?_
        refine wp_getf (t := Rv 6) 6 dX11_parting_67 (fl_X11_48 rfl) kd_1 rfl rfl ?_
        refine wp_callV (e1 := 0) (as := [Iv z10, Rv 6]) (S := []) dX11_parting_70 (cs_X11_291 rfl) kd_83 rfl rfl (Nat.le_of_ble_eq_true rfl) (Nat.le_of_ble_eq_true rfl) h (fun v13 M13 q13 r13 => ?_)
        have h := q13
        refine wp_aload_n dX11_parting_73 rfl (by decide) ?_
        refine wp_getf (t := Rv 2) 2 dX11_parting_74 (fl_X11_11 rfl) kd_1 rfl rfl ?_
        refine wp_iload_n dX11_parting_77 rfl ?_
        obtain ⟨o14, h⟩ := h
        obtain ⟨o15, h⟩ := h
        refine wp_aaldL (35 + 2 * x3) dX11_parting_78 kd_2 sz_2 o14 o15 (⟨by omega, by omega⟩) rfl ?_
        refine wp_aload_n dX11_parting_79 rfl (by decide) ?_
        refine wp_getf (t := Rv 6) 6 dX11_parting_80 (fl_X11_48 rfl) kd_1 rfl rfl ?_
        refine wp_iload dX11_parting_83 rfl ?_
        refine wp_callV (e1 := 0) (as := [Rv 6, Iv z10]) (S := []) dX11_parting_85 (cs_X11_219 rfl) (isL_row o14 o15).k rfl rfl (Nat.le_of_ble_eq_true rfl) (Nat.le_of_ble_eq_true rfl) h (fun v16 M16 q16 r16 => ?_)
        obtain ⟨z16, rfl⟩ := retV_i r16 rfl
        have h := q16
        exact wp_iret dX11_parting_88 rfl (Or.inr ⟨rfl, rfl, rfl, by decide⟩) rfl h
      · have h := h.2 q12
        refine wp_bipush dX11_parting_57 (by decide) ?_
        exact wp_iret dX11_parting_59 rfl (Or.inr ⟨rfl, rfl, rfl, by decide⟩) rfl h
    · have h := h.2 q5
      refine wp_iload dX11_parting_22 rfl ?_
      exact wp_iret dX11_parting_24 rfl (Or.inr ⟨rfl, rfl, rfl, by decide⟩) rfl h
  · have h := h.2 q2
    refine wp_iconst dX11_parting_7 ?_
    exact wp_iret dX11_parting_8 rfl (Or.inr ⟨rfl, rfl, rfl, by decide⟩) rfl h
theorem eX11_parting {x1 x2 x3 : Int}  {M : Mem} {Q : Vl → Mem → Prop} (h : cl 0 yX11_noRow [Iv x3] M (QI (fun z1 M1 => ((z1 = 0 → cl 0 yX11_refuseWords [Rv 1, Iv x1, Iv x2] M1 (QI (fun z3 M3 => (inr z3 ∧ ((z3 = 0 → 0 ≤ x1 ∧ (x1 < 8 ∧ (0 ≤ x2 ∧ (x2 < 8 ∧ (cl 0 yX4_measureParting [Rv 83, Rv ((55 + 3 * x1) + 1), Rv ((55 + 3 * x2) + 1)] M3 (QI (fun z10 M10 => (inr z10 ∧ ((z10 ≠ 0 → cl 0 yX4_firstParting [Rv 83, Iv z10, Rv 6] M10 (QV (fun M13 => (0 ≤ x3 ∧ (x3 < 6 ∧ (cl 0 yX3_take [Rv (35 + 2 * x3), Rv 6, Iv z10] M13 (QI (fun z16 M16 => (Q (Iv z16) M16))))))))) ∧ (z10 = 0 → Q (Iv (-9)) M10)))))))))) ∧ (z3 ≠ 0 → Q (Iv z3) M3)))))) ∧ (z1 ≠ 0 → Q (Iv (-1)) M1))))) : cl 0 yX11_parting [Rv 1, Iv x1, Iv x2, Iv x3] M Q := enterG (by decide +kernel) (by exact Or.inr (Or.inl rfl)) (Nat.le_of_ble_eq_true rfl) rfl (gX11_parting h)
theorem gX11_common {x1 x2 : Int}  {M : Mem} {Q : Vl → Mem → Prop} (h : cl 0 yX11_refuseSet [Rv 1, Iv x1, Iv x2] M (QI (fun z1 M1 => (inr z1 ∧ ((z1 = 0 → cl 0 yX5_longestCommon [Rv 23, Rv 6] M1 (QI (fun z4 M4 => (0 ≤ x2 ∧ (x2 < 6 ∧ (cl 0 yX3_take [Rv (35 + 2 * x2), Rv 6, Iv z4] M4 (QI (fun z7 M7 => (Q (Iv z7) M7))))))))) ∧ (z1 ≠ 0 → Q (Iv z1) M1)))))) : wp 0 yX11_common 0 [some (Rv 1), some (Iv x1), some (Iv x2), none, none] [] M Q := by
  refine wp_aload_n dX11_common_0 rfl (by decide) ?_
  refine wp_iload_n dX11_common_1 rfl ?_
  refine wp_iload_n dX11_common_2 rfl ?_
  refine wp_callV (e1 := 0) (as := [Iv x1, Iv x2]) (S := []) dX11_common_3 (cs_X11_295 rfl) kd_1 rfl rfl (Nat.le_of_ble_eq_true rfl) (Nat.le_of_ble_eq_true rfl) h (fun v1 M1 q1 r1 => ?_)
  obtain ⟨z1, rfl⟩ := retV_i r1 rfl
  have h := q1
  refine wp_istore_n (L2 := [some (Rv 1), some (Iv x1), some (Iv x2), some (Iv z1), none]) dX11_common_6 (Nat.le_of_ble_eq_true rfl) (Nat.le_of_ble_eq_true rfl) rfl ?_
  refine wp_iload_n dX11_common_7 rfl ?_
  obtain ⟨o2, h⟩ := h
  refine wp_if_eq (tgt := 13) dX11_common_8 (by decide) o2 (fun q3 => ?_) (fun q3 => ?_)
  · have h := h.1 q3
    refine wp_aload_n dX11_common_13 rfl (by decide) ?_
    refine wp_getf (t := Rv 23) 23 dX11_common_14 (fl_X11_82 rfl) kd_1 rfl rfl ?_
    refine wp_aload_n dX11_common_17 rfl (by decide) ?_
    refine wp_getf (t := Rv 6) 6 dX11_common_18 (fl_X11_48 rfl) kd_1 rfl rfl ?_
    refine wp_callV (e1 := 0) (as := [Rv 6]) (S := []) dX11_common_21 (cs_X11_298 rfl) kd_23 rfl rfl (Nat.le_of_ble_eq_true rfl) (Nat.le_of_ble_eq_true rfl) h (fun v4 M4 q4 r4 => ?_)
    obtain ⟨z4, rfl⟩ := retV_i r4 rfl
    have h := q4
    refine wp_istore (L2 := [some (Rv 1), some (Iv x1), some (Iv x2), some (Iv z1), some (Iv z4)]) dX11_common_24 (Nat.le_of_ble_eq_true rfl) (Nat.le_of_ble_eq_true rfl) rfl ?_
    refine wp_aload_n dX11_common_26 rfl (by decide) ?_
    refine wp_getf (t := Rv 2) 2 dX11_common_27 (fl_X11_11 rfl) kd_1 rfl rfl ?_
    refine wp_iload_n dX11_common_30 rfl ?_
    obtain ⟨o5, h⟩ := h
    obtain ⟨o6, h⟩ := h
    refine wp_aaldL (35 + 2 * x2) dX11_common_31 kd_2 sz_2 o5 o6 (⟨by omega, by omega⟩) rfl ?_
    refine wp_aload_n dX11_common_32 rfl (by decide) ?_
    refine wp_getf (t := Rv 6) 6 dX11_common_33 (fl_X11_48 rfl) kd_1 rfl rfl ?_
    refine wp_iload dX11_common_36 rfl ?_
    refine wp_callV (e1 := 0) (as := [Rv 6, Iv z4]) (S := []) dX11_common_38 (cs_X11_219 rfl) (isL_row o5 o6).k rfl rfl (Nat.le_of_ble_eq_true rfl) (Nat.le_of_ble_eq_true rfl) h (fun v7 M7 q7 r7 => ?_)
    obtain ⟨z7, rfl⟩ := retV_i r7 rfl
    have h := q7
    exact wp_iret dX11_common_41 rfl (Or.inr ⟨rfl, rfl, rfl, by decide⟩) rfl h
  · have h := h.2 q3
    refine wp_iload_n dX11_common_11 rfl ?_
    exact wp_iret dX11_common_12 rfl (Or.inr ⟨rfl, rfl, rfl, by decide⟩) rfl h
theorem eX11_common {x1 x2 : Int}  {M : Mem} {Q : Vl → Mem → Prop} (h : cl 0 yX11_refuseSet [Rv 1, Iv x1, Iv x2] M (QI (fun z1 M1 => (inr z1 ∧ ((z1 = 0 → cl 0 yX5_longestCommon [Rv 23, Rv 6] M1 (QI (fun z4 M4 => (0 ≤ x2 ∧ (x2 < 6 ∧ (cl 0 yX3_take [Rv (35 + 2 * x2), Rv 6, Iv z4] M4 (QI (fun z7 M7 => (Q (Iv z7) M7))))))))) ∧ (z1 ≠ 0 → Q (Iv z1) M1)))))) : cl 0 yX11_common [Rv 1, Iv x1, Iv x2] M Q := enterG (by decide +kernel) (by exact Or.inr (Or.inl rfl)) (Nat.le_of_ble_eq_true rfl) rfl (gX11_common h)
theorem gX11_cover {x1 x2 : Int}  {M : Mem} {Q : Vl → Mem → Prop} (h : cl 0 yX11_refuseSet [Rv 1, Iv x1, Iv x2] M (QI (fun z1 M1 => (inr z1 ∧ ((z1 = 0 → cl 0 yX5_shortestCover [Rv 23, Rv 6] M1 (QI (fun z4 M4 => (0 ≤ x2 ∧ (x2 < 6 ∧ (inr z4 ∧ (cl 0 yX3_take [Rv (35 + 2 * x2), Rv 6, Iv (if 40 < z4 then 40 else z4)] M4 (QI (fun z8 M8 => (Q (Iv z4) M8)))))))))) ∧ (z1 ≠ 0 → Q (Iv z1) M1)))))) : wp 0 yX11_cover 0 [some (Rv 1), some (Iv x1), some (Iv x2), none, none] [] M Q := by
  refine wp_aload_n dX11_cover_0 rfl (by decide) ?_
  refine wp_iload_n dX11_cover_1 rfl ?_
  refine wp_iload_n dX11_cover_2 rfl ?_
  refine wp_callV (e1 := 0) (as := [Iv x1, Iv x2]) (S := []) dX11_cover_3 (cs_X11_295 rfl) kd_1 rfl rfl (Nat.le_of_ble_eq_true rfl) (Nat.le_of_ble_eq_true rfl) h (fun v1 M1 q1 r1 => ?_)
  obtain ⟨z1, rfl⟩ := retV_i r1 rfl
  have h := q1
  refine wp_istore_n (L2 := [some (Rv 1), some (Iv x1), some (Iv x2), some (Iv z1), none]) dX11_cover_6 (Nat.le_of_ble_eq_true rfl) (Nat.le_of_ble_eq_true rfl) rfl ?_
  refine wp_iload_n dX11_cover_7 rfl ?_
  obtain ⟨o2, h⟩ := h
  refine wp_if_eq (tgt := 13) dX11_cover_8 (by decide) o2 (fun q3 => ?_) (fun q3 => ?_)
  · have h := h.1 q3
    refine wp_aload_n dX11_cover_13 rfl (by decide) ?_
    refine wp_getf (t := Rv 23) 23 dX11_cover_14 (fl_X11_82 rfl) kd_1 rfl rfl ?_
    refine wp_aload_n dX11_cover_17 rfl (by decide) ?_
    refine wp_getf (t := Rv 6) 6 dX11_cover_18 (fl_X11_48 rfl) kd_1 rfl rfl ?_
    refine wp_callV (e1 := 0) (as := [Rv 6]) (S := []) dX11_cover_21 (cs_X11_302 rfl) kd_23 rfl rfl (Nat.le_of_ble_eq_true rfl) (Nat.le_of_ble_eq_true rfl) h (fun v4 M4 q4 r4 => ?_)
    obtain ⟨z4, rfl⟩ := retV_i r4 rfl
    have h := q4
    refine wp_istore (L2 := [some (Rv 1), some (Iv x1), some (Iv x2), some (Iv z1), some (Iv z4)]) dX11_cover_24 (Nat.le_of_ble_eq_true rfl) (Nat.le_of_ble_eq_true rfl) rfl ?_
    refine wp_aload_n dX11_cover_26 rfl (by decide) ?_
    refine wp_getf (t := Rv 2) 2 dX11_cover_27 (fl_X11_11 rfl) kd_1 rfl rfl ?_
    refine wp_iload_n dX11_cover_30 rfl ?_
    obtain ⟨o5, h⟩ := h
    obtain ⟨o6, h⟩ := h
    refine wp_aaldL (35 + 2 * x2) dX11_cover_31 kd_2 sz_2 o5 o6 (⟨by omega, by omega⟩) rfl ?_
    refine wp_aload_n dX11_cover_32 rfl (by decide) ?_
    refine wp_getf (t := Rv 6) 6 dX11_cover_33 (fl_X11_48 rfl) kd_1 rfl rfl ?_
    refine wp_iload dX11_cover_36 rfl ?_
    refine wp_bipush dX11_cover_38 (by decide) ?_
    obtain ⟨o7, h⟩ := h
    refine wp_mmin dX11_cover_40 (ml_X11_305 rfl) o7 (by decide) (Nat.le_of_ble_eq_true rfl) (by decide) (by decide) ?_
    refine wp_callV (e1 := 0) (as := [Rv 6, Iv (if 40 < z4 then 40 else z4)]) (S := []) dX11_cover_43 (cs_X11_219 rfl) (isL_row o5 o6).k rfl rfl (Nat.le_of_ble_eq_true rfl) (Nat.le_of_ble_eq_true rfl) h (fun v8 M8 q8 r8 => ?_)
    obtain ⟨z8, rfl⟩ := retV_i r8 rfl
    have h := q8
    refine wp_pop dX11_cover_46 rfl ?_
    refine wp_iload dX11_cover_47 rfl ?_
    exact wp_iret dX11_cover_49 rfl (Or.inr ⟨rfl, rfl, rfl, by decide⟩) rfl h
  · have h := h.2 q3
    refine wp_iload_n dX11_cover_11 rfl ?_
    exact wp_iret dX11_cover_12 rfl (Or.inr ⟨rfl, rfl, rfl, by decide⟩) rfl h
theorem eX11_cover {x1 x2 : Int}  {M : Mem} {Q : Vl → Mem → Prop} (h : cl 0 yX11_refuseSet [Rv 1, Iv x1, Iv x2] M (QI (fun z1 M1 => (inr z1 ∧ ((z1 = 0 → cl 0 yX5_shortestCover [Rv 23, Rv 6] M1 (QI (fun z4 M4 => (0 ≤ x2 ∧ (x2 < 6 ∧ (inr z4 ∧ (cl 0 yX3_take [Rv (35 + 2 * x2), Rv 6, Iv (if 40 < z4 then 40 else z4)] M4 (QI (fun z8 M8 => (Q (Iv z4) M8)))))))))) ∧ (z1 ≠ 0 → Q (Iv z1) M1)))))) : cl 0 yX11_cover [Rv 1, Iv x1, Iv x2] M Q := enterG (by decide +kernel) (by exact Or.inr (Or.inl rfl)) (Nat.le_of_ble_eq_true rfl) rfl (gX11_cover h)
theorem gX11_both {x1 x2 : Int}  {M : Mem} {Q : Vl → Mem → Prop} (h : cl 0 yX11_refuseWords [Rv 1, Iv x1, Iv x2] M (QI (fun z1 M1 => (inr z1 ∧ ((z1 = 0 → 0 ≤ x1 ∧ (x1 < 8 ∧ (0 ≤ x2 ∧ (x2 < 8 ∧ (cl 0 yX4_countShared [Rv 83, Rv ((55 + 3 * x1) + 1), Rv ((55 + 3 * x2) + 1)] M1 (QJ (fun z8 M8 => (Q (Iv 1) (up M8 1 5 z8))))))))) ∧ (z1 ≠ 0 → Q (Iv z1) M1)))))) : wp 0 yX11_both 0 [some (Rv 1), some (Iv x1), some (Iv x2), none] [] M Q := by
  refine wp_aload_n dX11_both_0 rfl (by decide) ?_
  refine wp_iload_n dX11_both_1 rfl ?_
  refine wp_iload_n dX11_both_2 rfl ?_
  refine wp_callV (e1 := 0) (as := [Iv x1, Iv x2]) (S := []) dX11_both_3 (cs_X11_183 rfl) kd_1 rfl rfl (Nat.le_of_ble_eq_true rfl) (Nat.le_of_ble_eq_true rfl) h (fun v1 M1 q1 r1 => ?_)
  obtain ⟨z1, rfl⟩ := retV_i r1 rfl
  have h := q1
  refine wp_istore_n (L2 := [some (Rv 1), some (Iv x1), some (Iv x2), some (Iv z1)]) dX11_both_6 (Nat.le_of_ble_eq_true rfl) (Nat.le_of_ble_eq_true rfl) rfl ?_
  refine wp_iload_n dX11_both_7 rfl ?_
  obtain ⟨o2, h⟩ := h
  refine wp_if_eq (tgt := 13) dX11_both_8 (by decide) o2 (fun q3 => ?_) (fun q3 => ?_)
  · have h := h.1 q3
    refine wp_aload_n dX11_both_13 rfl (by decide) ?_
    refine wp_aload_n dX11_both_14 rfl (by decide) ?_
    refine wp_getf (t := Rv 83) 83 dX11_both_15 (fl_X11_109 rfl) kd_1 rfl rfl ?_
    refine wp_aload_n dX11_both_18 rfl (by decide) ?_
    refine wp_getf (t := Rv 4) 4 dX11_both_19 (fl_X11_20 rfl) kd_1 rfl rfl ?_
    refine wp_iload_n dX11_both_22 rfl ?_
    obtain ⟨o4, h⟩ := h
    obtain ⟨o5, h⟩ := h
    refine wp_aaldW (55 + 3 * x1) dX11_both_23 kd_4 sz_4 o4 o5 (⟨by omega, by omega⟩) rfl ?_
    refine wp_getf (t := Rv ((55 + 3 * x1) + 1)) ((55 + 3 * x1) + 1) dX11_both_24 (fl_X11_161 rfl) (isW_word o4 o5).k rfl rfl ?_
    refine wp_aload_n dX11_both_27 rfl (by decide) ?_
    refine wp_getf (t := Rv 4) 4 dX11_both_28 (fl_X11_20 rfl) kd_1 rfl rfl ?_
    refine wp_iload_n dX11_both_31 rfl ?_
    obtain ⟨o6, h⟩ := h
    obtain ⟨o7, h⟩ := h
    refine wp_aaldW (55 + 3 * x2) dX11_both_32 kd_4 sz_4 o6 o7 (⟨by omega, by omega⟩) rfl ?_
    refine wp_getf (t := Rv ((55 + 3 * x2) + 1)) ((55 + 3 * x2) + 1) dX11_both_33 (fl_X11_161 rfl) (isW_word o6 o7).k rfl rfl ?_
    refine wp_callV (e1 := 0) (as := [Rv ((55 + 3 * x1) + 1), Rv ((55 + 3 * x2) + 1)]) (S := [Rv 1]) dX11_both_36 (cs_X11_310 rfl) kd_83 rfl rfl (Nat.le_of_ble_eq_true rfl) (Nat.le_of_ble_eq_true rfl) h (fun v8 M8 q8 r8 => ?_)
    obtain ⟨z8, rfl⟩ := retV_j r8 rfl
    have h := q8
    refine wp_putf (x := z8) dX11_both_39 (fl_X11_31 rfl) kd_1 (fun _ => rfl) rfl rfl trivial ?_
    refine wp_iconst dX11_both_42 ?_
    exact wp_iret dX11_both_43 rfl (Or.inr ⟨rfl, rfl, rfl, by decide⟩) rfl h
  · have h := h.2 q3
    refine wp_iload_n dX11_both_11 rfl ?_
    exact wp_iret dX11_both_12 rfl (Or.inr ⟨rfl, rfl, rfl, by decide⟩) rfl h
theorem eX11_both {x1 x2 : Int}  {M : Mem} {Q : Vl → Mem → Prop} (h : cl 0 yX11_refuseWords [Rv 1, Iv x1, Iv x2] M (QI (fun z1 M1 => (inr z1 ∧ ((z1 = 0 → 0 ≤ x1 ∧ (x1 < 8 ∧ (0 ≤ x2 ∧ (x2 < 8 ∧ (cl 0 yX4_countShared [Rv 83, Rv ((55 + 3 * x1) + 1), Rv ((55 + 3 * x2) + 1)] M1 (QJ (fun z8 M8 => (Q (Iv 1) (up M8 1 5 z8))))))))) ∧ (z1 ≠ 0 → Q (Iv z1) M1)))))) : cl 0 yX11_both [Rv 1, Iv x1, Iv x2] M Q := enterG (by decide +kernel) (by exact Or.inr (Or.inl rfl)) (Nat.le_of_ble_eq_true rfl) rfl (gX11_both h)
theorem gX11_twins {x1 x2 x3 : Int}  {M : Mem} {Q : Vl → Mem → Prop} (h : inr x2 ∧ ((x2 < 1 → Q (Iv (-1)) M) ∧ (1 ≤ x2 → ((3 < x2 → Q (Iv (-1)) M) ∧ (x2 ≤ 3 → cl 0 yX11_noRow [Iv x3] M (QI (fun z4 M4 => ((z4 = 0 → cl 0 yX11_refuseWord [Rv 1, Iv x1] M4 (QI (fun z6 M6 => (inr z6 ∧ ((z6 = 0 → 0 ≤ x1 ∧ (x1 < 8 ∧ (cl 0 yX11_isPowerAbove [Iv (M6 1 3), Iv (M6 ((55 + 3 * x1) + 1) 1), Iv 10000] M6 (QI (fun z11 M11 => ((z11 = 0 → cl 0 yX9_search [Rv 28, Rv ((55 + 3 * x1) + 1), Iv (M11 1 3), Iv x2] M11 (QI (fun z13 M13 => (0 ≤ x3 ∧ (x3 < 6 ∧ (cl 0 yX3_take [Rv (35 + 2 * x3), Rv 29, Iv (M13 ((55 + 3 * x1) + 1) 1)] M13 (QI (fun z16 M16 => (Q (Iv z13) M16))))))))) ∧ (z11 ≠ 0 → Q (Iv (-6)) M11))))))) ∧ (z6 ≠ 0 → Q (Iv z6) M6)))))) ∧ (z4 ≠ 0 → Q (Iv (-1)) M4))))))))) : wp 0 yX11_twins 0 [some (Rv 1), some (Iv x1), some (Iv x2), some (Iv x3), none, none, none] [] M Q := by
  refine wp_iload_n dX11_twins_0 rfl ?_
  refine wp_iconst dX11_twins_1 ?_
  obtain ⟨o1, h⟩ := h
  refine wp_icmp_lt (tgt := 17) dX11_twins_2 (by decide) o1 (by decide) (fun q2 => ?_) (fun q2 => ?_)
  · have h := h.1 q2
    refine wp_iconst dX11_twins_17 ?_
    exact wp_iret dX11_twins_18 rfl (Or.inr ⟨rfl, rfl, rfl, by decide⟩) rfl h
  · have h := h.2 q2
    refine wp_iload_n dX11_twins_5 rfl ?_
    refine wp_iconst dX11_twins_6 ?_
    refine wp_icmp_gt (tgt := 17) dX11_twins_7 (by decide) o1 (by decide) (fun q3 => ?_) (fun q3 => ?_)
    · have h := h.1 q3
      refine wp_iconst dX11_twins_17 ?_
      exact wp_iret dX11_twins_18 rfl (Or.inr ⟨rfl, rfl, rfl, by decide⟩) rfl h
    · have h := h.2 q3
      refine wp_iload_n dX11_twins_10 rfl ?_
      refine wp_callS (e1 := 0) (as := [Iv x3]) (S := []) dX11_twins_11 (cs_X11_113 rfl) rfl rfl (Nat.le_of_ble_eq_true rfl) (Nat.le_of_ble_eq_true rfl) h (fun v4 M4 q4 r4 => ?_)
      obtain ⟨z4, rfl, hz4⟩ := retV_z r4 rfl
      have h := q4
      refine wp_if_eq (tgt := 19) dX11_twins_14 (by decide) (by have := hz4; omega) (fun q5 => ?_) (fun q5 => ?_)
      · have h := h.1 q5
        refine wp_aload_n dX11_twins_19 rfl (by decide) ?_
        refine wp_iload_n dX11_twins_20 rfl ?_
        refine wp_callV (e1 := 0) (as := [Iv x1]) (S := []) dX11_twins_21 (cs_X11_186 rfl) kd_1 rfl rfl (Nat.le_of_ble_eq_true rfl) (Nat.le_of_ble_eq_true rfl) h (fun v6 M6 q6 r6 => ?_)
        obtain ⟨z6, rfl⟩ := retV_i r6 rfl
        have h := q6
        refine wp_istore (L2 := [some (Rv 1), some (Iv x1), some (Iv x2), some (Iv x3), some (Iv z6), none, none]) dX11_twins_24 (Nat.le_of_ble_eq_true rfl) (Nat.le_of_ble_eq_true rfl) rfl ?_
        refine wp_iload dX11_twins_26 rfl ?_
        obtain ⟨o7, h⟩ := h
        refine wp_if_eq (tgt := 34) dX11_twins_28 (by decide) o7 (fun q8 => ?_) (fun q8 => ?_)
        · have h := h.1 q8
          refine wp_aload_n dX11_twins_34 rfl (by decide) ?_
          refine wp_getf (t := Rv 4) 4 dX11_twins_35 (fl_X11_20 rfl) kd_1 rfl rfl ?_
          refine wp_iload_n dX11_twins_38 rfl ?_
          obtain ⟨o9, h⟩ := h
          obtain ⟨o10, h⟩ := h
          refine wp_aaldW (55 + 3 * x1) dX11_twins_39 kd_4 sz_4 o9 o10 (⟨by omega, by omega⟩) rfl ?_
          refine wp_getf (t := Rv ((55 + 3 * x1) + 1)) ((55 + 3 * x1) + 1) dX11_twins_40 (fl_X11_161 rfl) (isW_word o9 o10).k rfl rfl ?_
          refine wp_astore (L2 := [some (Rv 1), some (Iv x1), some (Iv x2), some (Iv x3), some (Iv z6), some (Rv ((55 + 3 * x1) + 1)), none]) dX11_twins_43 (Nat.le_of_ble_eq_true rfl) (Nat.le_of_ble_eq_true rfl) rfl (isW_word o9 o10).l.p ?_
          refine wp_aload_n dX11_twins_45 rfl (by decide) ?_
          refine wp_getf (t := Iv (M6 1 3)) (M6 1 3) dX11_twins_46 (fl_X11_24 rfl) kd_1 rfl rfl ?_
          refine wp_aload dX11_twins_49 rfl (isW_word o9 o10).l.p ?_
          refine wp_getf (t := Iv (M6 ((55 + 3 * x1) + 1) 1)) (M6 ((55 + 3 * x1) + 1) 1) dX11_twins_51 (fl_X11_135 rfl) (isW_word o9 o10).l.k rfl rfl ?_
          refine wp_sipush dX11_twins_54 (by decide) ?_
          refine wp_callS (e1 := 0) (as := [Iv (M6 1 3), Iv (M6 ((55 + 3 * x1) + 1) 1), Iv 10000]) (S := []) dX11_twins_57 (cs_X11_313 rfl) rfl rfl (Nat.le_of_ble_eq_true rfl) (Nat.le_of_ble_eq_true rfl) h (fun v11 M11 q11 r11 => ?_)
          obtain ⟨z11, rfl, hz11⟩ := retV_z r11 rfl
          have h := q11
          refine wp_if_eq (tgt := 66) dX11_twins_60 (by decide) (by have := hz11; omega) (fun q12 => ?_) (fun q12 => ?_)
          · have h := h.1 q12
            refine wp_aload_n dX11_twins_66 rfl (by decide) ?_
            refine wp_getf (t := Rv 28) 28 dX11_twins_67 (fl_X11_89 rfl) kd_1 rfl rfl ?_
            refine wp_aload dX11_twins_70 rfl (isW_word o9 o10).l.p ?_
            refine wp_aload_n dX11_twins_72 rfl (by decide) ?_
            refine wp_getf (t := Iv (M11 1 3)) (M11 1 3) dX11_twins_73 (fl_X11_24 rfl) kd_1 rfl rfl ?_
            refine wp_iload_n dX11_twins_76 rfl ?_
            refine wp_callV (e1 := 0) (as := [Rv ((55 + 3 * x1) + 1), Iv (M11 1 3), Iv x2]) (S := []) dX11_twins_77 (cs_X11_317 rfl) kd_28 rfl rfl (Nat.le_of_ble_eq_true rfl) (Nat.le_of_ble_eq_true rfl) h (fun v13 M13 q13 r13 => ?_)
            obtain ⟨z13, rfl⟩ := retV_i r13 rfl
            have h := q13
            refine wp_istore (L2 := [some (Rv 1), some (Iv x1), some (Iv x2), some (Iv x3), some (Iv z6), some (Rv ((55 + 3 * x1) + 1)), some (Iv z13)]) dX11_twins_80 (Nat.le_of_ble_eq_true rfl) (Nat.le_of_ble_eq_true rfl) rfl ?_
            refine wp_aload_n dX11_twins_82 rfl (by decide) ?_
            refine wp_getf (t := Rv 2) 2 dX11_twins_83 (fl_X11_11 rfl) kd_1 rfl rfl ?_
            refine wp_iload_n dX11_twins_86 rfl ?_
            obtain ⟨o14, h⟩ := h
            obtain ⟨o15, h⟩ := h
            refine wp_aaldL (35 + 2 * x3) dX11_twins_87 kd_2 sz_2 o14 o15 (⟨by omega, by omega⟩) rfl ?_
            refine wp_aload_n dX11_twins_88 rfl (by decide) ?_
            refine wp_getf (t := Rv 28) 28 dX11_twins_89 (fl_X11_89 rfl) kd_1 rfl rfl ?_
            refine wp_getf (t := Rv 29) 29 dX11_twins_92 (fl_X11_321 rfl) kd_28 rfl rfl ?_
            refine wp_aload dX11_twins_95 rfl (isW_word o9 o10).l.p ?_
            refine wp_getf (t := Iv (M13 ((55 + 3 * x1) + 1) 1)) (M13 ((55 + 3 * x1) + 1) 1) dX11_twins_97 (fl_X11_135 rfl) (isW_word o9 o10).l.k rfl rfl ?_
            refine wp_callV (e1 := 0) (as := [Rv 29, Iv (M13 ((55 + 3 * x1) + 1) 1)]) (S := []) dX11_twins_100 (cs_X11_219 rfl) (isL_row o14 o15).k rfl rfl (Nat.le_of_ble_eq_true rfl) (Nat.le_of_ble_eq_true rfl) h (fun v16 M16 q16 r16 => ?_)
            obtain ⟨z16, rfl⟩ := retV_i r16 rfl
            have h := q16
            refine wp_pop dX11_twins_103 rfl ?_
            refine wp_iload dX11_twins_104 rfl ?_
            exact wp_iret dX11_twins_106 rfl (Or.inr ⟨rfl, rfl, rfl, by decide⟩) rfl h
          · have h := h.2 q12
            refine wp_bipush dX11_twins_63 (by decide) ?_
            exact wp_iret dX11_twins_65 rfl (Or.inr ⟨rfl, rfl, rfl, by decide⟩) rfl h
        · have h := h.2 q8
          refine wp_iload dX11_twins_31 rfl ?_
          exact wp_iret dX11_twins_33 rfl (Or.inr ⟨rfl, rfl, rfl, by decide⟩) rfl h
      · have h := h.2 q5
        refine wp_iconst dX11_twins_17 ?_
        exact wp_iret dX11_twins_18 rfl (Or.inr ⟨rfl, rfl, rfl, by decide⟩) rfl h
theorem eX11_twins {x1 x2 x3 : Int}  {M : Mem} {Q : Vl → Mem → Prop} (h : inr x2 ∧ ((x2 < 1 → Q (Iv (-1)) M) ∧ (1 ≤ x2 → ((3 < x2 → Q (Iv (-1)) M) ∧ (x2 ≤ 3 → cl 0 yX11_noRow [Iv x3] M (QI (fun z4 M4 => ((z4 = 0 → cl 0 yX11_refuseWord [Rv 1, Iv x1] M4 (QI (fun z6 M6 => (inr z6 ∧ ((z6 = 0 → 0 ≤ x1 ∧ (x1 < 8 ∧ (cl 0 yX11_isPowerAbove [Iv (M6 1 3), Iv (M6 ((55 + 3 * x1) + 1) 1), Iv 10000] M6 (QI (fun z11 M11 => ((z11 = 0 → cl 0 yX9_search [Rv 28, Rv ((55 + 3 * x1) + 1), Iv (M11 1 3), Iv x2] M11 (QI (fun z13 M13 => (0 ≤ x3 ∧ (x3 < 6 ∧ (cl 0 yX3_take [Rv (35 + 2 * x3), Rv 29, Iv (M13 ((55 + 3 * x1) + 1) 1)] M13 (QI (fun z16 M16 => (Q (Iv z13) M16))))))))) ∧ (z11 ≠ 0 → Q (Iv (-6)) M11))))))) ∧ (z6 ≠ 0 → Q (Iv z6) M6)))))) ∧ (z4 ≠ 0 → Q (Iv (-1)) M4))))))))) : cl 0 yX11_twins [Rv 1, Iv x1, Iv x2, Iv x3] M Q := enterG (by decide +kernel) (by exact Or.inr (Or.inl rfl)) (Nat.le_of_ble_eq_true rfl) rfl (gX11_twins h)
theorem gX11_odds {x1 x2 : Int}  {M : Mem} {Q : Vl → Mem → Prop} (h : cl 0 yX11_refuseWords [Rv 1, Iv x1, Iv x2] M (QI (fun z1 M1 => (inr z1 ∧ ((z1 = 0 → 0 ≤ x1 ∧ (x1 < 8 ∧ (0 ≤ x2 ∧ (x2 < 8 ∧ (inr (M1 ((55 + 3 * x2) + 1) 1) ∧ (inr (M1 ((55 + 3 * x1) + 1) 1) ∧ (((M1 ((55 + 3 * x2) + 1) 1) ≤ (M1 ((55 + 3 * x1) + 1) 1) → cl 0 yX7_countWays [Rv 10, Rv ((55 + 3 * x1) + 1), Rv ((55 + 3 * x2) + 1)] M1 (QJ (fun z11 M11 => (cl 0 yX11_choose [Iv (M11 ((55 + 3 * x1) + 1) 1), Iv (M11 ((55 + 3 * x2) + 1) 1)] M11 (QJ (fun z12 M12 => (cl 0 yX11_tellFraction [Rv 1, Jv z11, Jv z12] M12 (QV (fun M13 => (Q (Iv 1) M13)))))))))) ∧ ((M1 ((55 + 3 * x1) + 1) 1) < (M1 ((55 + 3 * x2) + 1) 1) → cl 0 yX11_found [Rv 1, Iv 4] M1 (QI (fun z14 M14 => (Q (Iv z14) M14))))))))))) ∧ (z1 ≠ 0 → Q (Iv z1) M1)))))) : wp 0 yX11_odds 0 [some (Rv 1), some (Iv x1), some (Iv x2), none, none, none] [] M Q := by
  refine wp_aload_n dX11_odds_0 rfl (by decide) ?_
  refine wp_iload_n dX11_odds_1 rfl ?_
  refine wp_iload_n dX11_odds_2 rfl ?_
  refine wp_callV (e1 := 0) (as := [Iv x1, Iv x2]) (S := []) dX11_odds_3 (cs_X11_183 rfl) kd_1 rfl rfl (Nat.le_of_ble_eq_true rfl) (Nat.le_of_ble_eq_true rfl) h (fun v1 M1 q1 r1 => ?_)
  obtain ⟨z1, rfl⟩ := retV_i r1 rfl
  have h := q1
  refine wp_istore_n (L2 := [some (Rv 1), some (Iv x1), some (Iv x2), some (Iv z1), none, none]) dX11_odds_6 (Nat.le_of_ble_eq_true rfl) (Nat.le_of_ble_eq_true rfl) rfl ?_
  refine wp_iload_n dX11_odds_7 rfl ?_
  obtain ⟨o2, h⟩ := h
  refine wp_if_eq (tgt := 13) dX11_odds_8 (by decide) o2 (fun q3 => ?_) (fun q3 => ?_)
  · have h := h.1 q3
    refine wp_aload_n dX11_odds_13 rfl (by decide) ?_
    refine wp_getf (t := Rv 4) 4 dX11_odds_14 (fl_X11_20 rfl) kd_1 rfl rfl ?_
    refine wp_iload_n dX11_odds_17 rfl ?_
    obtain ⟨o4, h⟩ := h
    obtain ⟨o5, h⟩ := h
    refine wp_aaldW (55 + 3 * x1) dX11_odds_18 kd_4 sz_4 o4 o5 (⟨by omega, by omega⟩) rfl ?_
    refine wp_getf (t := Rv ((55 + 3 * x1) + 1)) ((55 + 3 * x1) + 1) dX11_odds_19 (fl_X11_161 rfl) (isW_word o4 o5).k rfl rfl ?_
    refine wp_astore (L2 := [some (Rv 1), some (Iv x1), some (Iv x2), some (Iv z1), some (Rv ((55 + 3 * x1) + 1)), none]) dX11_odds_22 (Nat.le_of_ble_eq_true rfl) (Nat.le_of_ble_eq_true rfl) rfl (isW_word o4 o5).l.p ?_
    refine wp_aload_n dX11_odds_24 rfl (by decide) ?_
    refine wp_getf (t := Rv 4) 4 dX11_odds_25 (fl_X11_20 rfl) kd_1 rfl rfl ?_
    refine wp_iload_n dX11_odds_28 rfl ?_
    obtain ⟨o6, h⟩ := h
    obtain ⟨o7, h⟩ := h
    refine wp_aaldW (55 + 3 * x2) dX11_odds_29 kd_4 sz_4 o6 o7 (⟨by omega, by omega⟩) rfl ?_
    refine wp_getf (t := Rv ((55 + 3 * x2) + 1)) ((55 + 3 * x2) + 1) dX11_odds_30 (fl_X11_161 rfl) (isW_word o6 o7).k rfl rfl ?_
    refine wp_astore (L2 := [some (Rv 1), some (Iv x1), some (Iv x2), some (Iv z1), some (Rv ((55 + 3 * x1) + 1)), some (Rv ((55 + 3 * x2) + 1))]) dX11_odds_33 (Nat.le_of_ble_eq_true rfl) (Nat.le_of_ble_eq_true rfl) rfl (isW_word o6 o7).l.p ?_
    refine wp_aload dX11_odds_35 rfl (isW_word o6 o7).l.p ?_
    refine wp_getf (t := Iv (M1 ((55 + 3 * x2) + 1) 1)) (M1 ((55 + 3 * x2) + 1) 1) dX11_odds_37 (fl_X11_135 rfl) (isW_word o6 o7).l.k rfl rfl ?_
    refine wp_aload dX11_odds_40 rfl (isW_word o4 o5).l.p ?_
    refine wp_getf (t := Iv (M1 ((55 + 3 * x1) + 1) 1)) (M1 ((55 + 3 * x1) + 1) 1) dX11_odds_42 (fl_X11_135 rfl) (isW_word o4 o5).l.k rfl rfl ?_
    obtain ⟨o8, h⟩ := h
    obtain ⟨o9, h⟩ := h
    refine wp_icmp_le (tgt := 54) dX11_odds_45 (by decide) o8 o9 (fun q10 => ?_) (fun q10 => ?_)
    · have h := h.1 q10
      refine wp_aload_n dX11_odds_54 rfl (by decide) ?_
      refine wp_aload_n dX11_odds_55 rfl (by decide) ?_
      refine wp_getf (t := Rv 10) 10 dX11_odds_56 (fl_X11_61 rfl) kd_1 rfl rfl ?_
      refine wp_aload dX11_odds_59 rfl (isW_word o4 o5).l.p ?_
      refine wp_aload dX11_odds_61 rfl (isW_word o6 o7).l.p ?_
      refine wp_callV (e1 := 0) (as := [Rv ((55 + 3 * x1) + 1), Rv ((55 + 3 * x2) + 1)]) (S := [Rv 1]) dX11_odds_63 (cs_X11_205 rfl) kd_10 rfl rfl (Nat.le_of_ble_eq_true rfl) (Nat.le_of_ble_eq_true rfl) h (fun v11 M11 q11 r11 => ?_)
      obtain ⟨z11, rfl⟩ := retV_j r11 rfl
      have h := q11
      refine wp_aload dX11_odds_66 rfl (isW_word o4 o5).l.p ?_
      refine wp_getf (t := Iv (M11 ((55 + 3 * x1) + 1) 1)) (M11 ((55 + 3 * x1) + 1) 1) dX11_odds_68 (fl_X11_135 rfl) (isW_word o4 o5).l.k rfl rfl ?_
      refine wp_aload dX11_odds_71 rfl (isW_word o6 o7).l.p ?_
      refine wp_getf (t := Iv (M11 ((55 + 3 * x2) + 1) 1)) (M11 ((55 + 3 * x2) + 1) 1) dX11_odds_73 (fl_X11_135 rfl) (isW_word o6 o7).l.k rfl rfl ?_
      refine wp_callS (e1 := 0) (as := [Iv (M11 ((55 + 3 * x1) + 1) 1), Iv (M11 ((55 + 3 * x2) + 1) 1)]) (S := [Jv z11, Rv 1]) dX11_odds_76 (cs_X11_324 rfl) rfl rfl (Nat.le_of_ble_eq_true rfl) (Nat.le_of_ble_eq_true rfl) h (fun v12 M12 q12 r12 => ?_)
      obtain ⟨z12, rfl⟩ := retV_j r12 rfl
      have h := q12
      refine wp_callV (e1 := 0) (as := [Jv z11, Jv z12]) (S := []) dX11_odds_79 (cs_X11_328 rfl) kd_1 rfl rfl (Nat.le_of_ble_eq_true rfl) (Nat.le_of_ble_eq_true rfl) h (fun v13 M13 q13 r13 => ?_)
      have h := q13
      refine wp_iconst dX11_odds_82 ?_
      exact wp_iret dX11_odds_83 rfl (Or.inr ⟨rfl, rfl, rfl, by decide⟩) rfl h
    · have h := h.2 q10
      refine wp_aload_n dX11_odds_48 rfl (by decide) ?_
      refine wp_iconst dX11_odds_49 ?_
      refine wp_callV (e1 := 0) (as := [Iv 4]) (S := []) dX11_odds_50 (cs_X11_117 rfl) kd_1 rfl rfl (Nat.le_of_ble_eq_true rfl) (Nat.le_of_ble_eq_true rfl) h (fun v14 M14 q14 r14 => ?_)
      obtain ⟨z14, rfl⟩ := retV_i r14 rfl
      have h := q14
      exact wp_iret dX11_odds_53 rfl (Or.inr ⟨rfl, rfl, rfl, by decide⟩) rfl h
  · have h := h.2 q3
    refine wp_iload_n dX11_odds_11 rfl ?_
    exact wp_iret dX11_odds_12 rfl (Or.inr ⟨rfl, rfl, rfl, by decide⟩) rfl h
theorem eX11_odds {x1 x2 : Int}  {M : Mem} {Q : Vl → Mem → Prop} (h : cl 0 yX11_refuseWords [Rv 1, Iv x1, Iv x2] M (QI (fun z1 M1 => (inr z1 ∧ ((z1 = 0 → 0 ≤ x1 ∧ (x1 < 8 ∧ (0 ≤ x2 ∧ (x2 < 8 ∧ (inr (M1 ((55 + 3 * x2) + 1) 1) ∧ (inr (M1 ((55 + 3 * x1) + 1) 1) ∧ (((M1 ((55 + 3 * x2) + 1) 1) ≤ (M1 ((55 + 3 * x1) + 1) 1) → cl 0 yX7_countWays [Rv 10, Rv ((55 + 3 * x1) + 1), Rv ((55 + 3 * x2) + 1)] M1 (QJ (fun z11 M11 => (cl 0 yX11_choose [Iv (M11 ((55 + 3 * x1) + 1) 1), Iv (M11 ((55 + 3 * x2) + 1) 1)] M11 (QJ (fun z12 M12 => (cl 0 yX11_tellFraction [Rv 1, Jv z11, Jv z12] M12 (QV (fun M13 => (Q (Iv 1) M13)))))))))) ∧ ((M1 ((55 + 3 * x1) + 1) 1) < (M1 ((55 + 3 * x2) + 1) 1) → cl 0 yX11_found [Rv 1, Iv 4] M1 (QI (fun z14 M14 => (Q (Iv z14) M14))))))))))) ∧ (z1 ≠ 0 → Q (Iv z1) M1)))))) : cl 0 yX11_odds [Rv 1, Iv x1, Iv x2] M Q := enterG (by decide +kernel) (by exact Or.inr (Or.inl rfl)) (Nat.le_of_ble_eq_true rfl) rfl (gX11_odds h)
theorem gX11_byChance {x1 x2 : Int}  {M : Mem} {Q : Vl → Mem → Prop} (h : inr x2 ∧ ((x2 < 0 → Q (Iv (-1)) M) ∧ (0 ≤ x2 → ((x2 ≤ 20 → cl 0 yX11_refuseWord [Rv 1, Iv x1] M (QI (fun z4 M4 => (inr z4 ∧ ((z4 = 0 → 0 ≤ x1 ∧ (x1 < 8 ∧ (wp 0 yX11_byChance 41 [some (Rv 1), some (Iv x1), some (Iv x2), some (Iv z4), some (Jv 0), none, some (Iv (M4 ((55 + 3 * x1) + 1) 1))] [] M4 Q))) ∧ (z4 ≠ 0 → Q (Iv z4) M4)))))) ∧ (20 < x2 → Q (Iv (-1)) M))))) : wp 0 yX11_byChance 0 [some (Rv 1), some (Iv x1), some (Iv x2), none, none, none, none] [] M Q := by
  refine wp_iload_n dX11_byChance_0 rfl ?_
  obtain ⟨o1, h⟩ := h
  refine wp_if_lt (tgt := 10) dX11_byChance_1 (by decide) o1 (fun q2 => ?_) (fun q2 => ?_)
  · have h := h.1 q2
    refine wp_iconst dX11_byChance_10 ?_
    exact wp_iret dX11_byChance_11 rfl (Or.inr ⟨rfl, rfl, rfl, by decide⟩) rfl h
  · have h := h.2 q2
    refine wp_iload_n dX11_byChance_4 rfl ?_
    refine wp_bipush dX11_byChance_5 (by decide) ?_
    refine wp_icmp_le (tgt := 12) dX11_byChance_7 (by decide) o1 (by decide) (fun q3 => ?_) (fun q3 => ?_)
    · have h := h.1 q3
      refine wp_aload_n dX11_byChance_12 rfl (by decide) ?_
      refine wp_iload_n dX11_byChance_13 rfl ?_
      refine wp_callV (e1 := 0) (as := [Iv x1]) (S := []) dX11_byChance_14 (cs_X11_186 rfl) kd_1 rfl rfl (Nat.le_of_ble_eq_true rfl) (Nat.le_of_ble_eq_true rfl) h (fun v4 M4 q4 r4 => ?_)
      obtain ⟨z4, rfl⟩ := retV_i r4 rfl
      have h := q4
      refine wp_istore_n (L2 := [some (Rv 1), some (Iv x1), some (Iv x2), some (Iv z4), none, none, none]) dX11_byChance_17 (Nat.le_of_ble_eq_true rfl) (Nat.le_of_ble_eq_true rfl) rfl ?_
      refine wp_iload_n dX11_byChance_18 rfl ?_
      obtain ⟨o5, h⟩ := h
      refine wp_if_eq (tgt := 24) dX11_byChance_19 (by decide) o5 (fun q6 => ?_) (fun q6 => ?_)
      · have h := h.1 q6
        refine wp_lconst0 dX11_byChance_24 ?_
        refine wp_lstore (L2 := [some (Rv 1), some (Iv x1), some (Iv x2), some (Iv z4), some (Jv 0), none, none]) dX11_byChance_25 (Nat.le_of_ble_eq_true rfl) (Nat.le_of_ble_eq_true rfl) rfl ?_
        refine wp_aload_n dX11_byChance_27 rfl (by decide) ?_
        refine wp_getf (t := Rv 4) 4 dX11_byChance_28 (fl_X11_20 rfl) kd_1 rfl rfl ?_
        refine wp_iload_n dX11_byChance_31 rfl ?_
        obtain ⟨o7, h⟩ := h
        obtain ⟨o8, h⟩ := h
        refine wp_aaldW (55 + 3 * x1) dX11_byChance_32 kd_4 sz_4 o7 o8 (⟨by omega, by omega⟩) rfl ?_
        refine wp_getf (t := Rv ((55 + 3 * x1) + 1)) ((55 + 3 * x1) + 1) dX11_byChance_33 (fl_X11_161 rfl) (isW_word o7 o8).k rfl rfl ?_
        refine wp_getf (t := Iv (M4 ((55 + 3 * x1) + 1) 1)) (M4 ((55 + 3 * x1) + 1) 1) dX11_byChance_36 (fl_X11_135 rfl) (isW_word o7 o8).l.k rfl rfl ?_
        refine wp_istore (L2 := [some (Rv 1), some (Iv x1), some (Iv x2), some (Iv z4), some (Jv 0), none, some (Iv (M4 ((55 + 3 * x1) + 1) 1))]) dX11_byChance_39 (Nat.le_of_ble_eq_true rfl) (Nat.le_of_ble_eq_true rfl) rfl ?_
        exact h
      · have h := h.2 q6
        refine wp_iload_n dX11_byChance_22 rfl ?_
        exact wp_iret dX11_byChance_23 rfl (Or.inr ⟨rfl, rfl, rfl, by decide⟩) rfl h
    · have h := h.2 q3
      refine wp_iconst dX11_byChance_10 ?_
      exact wp_iret dX11_byChance_11 rfl (Or.inr ⟨rfl, rfl, rfl, by decide⟩) rfl h
theorem eX11_byChance {x1 x2 : Int}  {M : Mem} {Q : Vl → Mem → Prop} (h : inr x2 ∧ ((x2 < 0 → Q (Iv (-1)) M) ∧ (0 ≤ x2 → ((x2 ≤ 20 → cl 0 yX11_refuseWord [Rv 1, Iv x1] M (QI (fun z4 M4 => (inr z4 ∧ ((z4 = 0 → 0 ≤ x1 ∧ (x1 < 8 ∧ (wp 0 yX11_byChance 41 [some (Rv 1), some (Iv x1), some (Iv x2), some (Iv z4), some (Jv 0), none, some (Iv (M4 ((55 + 3 * x1) + 1) 1))] [] M4 Q))) ∧ (z4 ≠ 0 → Q (Iv z4) M4)))))) ∧ (20 < x2 → Q (Iv (-1)) M))))) : cl 0 yX11_byChance [Rv 1, Iv x1, Iv x2] M Q := enterG (by decide +kernel) (by exact Or.inr (Or.inl rfl)) (Nat.le_of_ble_eq_true rfl) rfl (gX11_byChance h)
theorem gX11_byChance_41 {x1 x2 x3 x4 x6 : Int}  {M : Mem} {Q : Vl → Mem → Prop} (h : inr x6 ∧ (inr x2 ∧ ((x2 < x6 → cl 0 yX11_power [Iv (M 1 3), Iv x2] M (QJ (fun z4 M4 => (cl 0 yX11_tellFraction [Rv 1, Jv x4, Jv z4] M4 (QV (fun M5 => (Q (Iv 1) M5))))))) ∧ (x6 ≤ x2 → cl 0 yX11_choose [Iv x2, Iv x6] M (QJ (fun z6 M6 => (cl 0 yX11_power [Iv ((M6 1 3) - 1), Iv (x2 - x6)] M6 (QJ (fun z7 M7 => (wp 0 yX11_byChance 41 [some (Rv 1), some (Iv x1), some (Iv x2), some (Iv x3), some (Jv (x4 + (z6 * z7))), none, some (Iv (x6 + 1))] [] M7 Q)))))))))) : wp 0 yX11_byChance 41 [some (Rv 1), some (Iv x1), some (Iv x2), some (Iv x3), some (Jv x4), none, some (Iv x6)] [] M Q := by
  refine wp_iload dX11_byChance_41 rfl ?_
  refine wp_iload_n dX11_byChance_43 rfl ?_
  obtain ⟨o1, h⟩ := h
  obtain ⟨o2, h⟩ := h
  refine wp_icmp_gt (tgt := 78) dX11_byChance_44 (by decide) o1 o2 (fun q3 => ?_) (fun q3 => ?_)
  · have h := h.1 q3
    refine wp_aload_n dX11_byChance_78 rfl (by decide) ?_
    refine wp_lload dX11_byChance_79 rfl ?_
    refine wp_aload_n dX11_byChance_81 rfl (by decide) ?_
    refine wp_getf (t := Iv (M 1 3)) (M 1 3) dX11_byChance_82 (fl_X11_24 rfl) kd_1 rfl rfl ?_
    refine wp_iload_n dX11_byChance_85 rfl ?_
    refine wp_callS (e1 := 0) (as := [Iv (M 1 3), Iv x2]) (S := [Jv x4, Rv 1]) dX11_byChance_86 (cs_X11_332 rfl) rfl rfl (Nat.le_of_ble_eq_true rfl) (Nat.le_of_ble_eq_true rfl) h (fun v4 M4 q4 r4 => ?_)
    obtain ⟨z4, rfl⟩ := retV_j r4 rfl
    have h := q4
    refine wp_callV (e1 := 0) (as := [Jv x4, Jv z4]) (S := []) dX11_byChance_89 (cs_X11_328 rfl) kd_1 rfl rfl (Nat.le_of_ble_eq_true rfl) (Nat.le_of_ble_eq_true rfl) h (fun v5 M5 q5 r5 => ?_)
    have h := q5
    refine wp_iconst dX11_byChance_92 ?_
    exact wp_iret dX11_byChance_93 rfl (Or.inr ⟨rfl, rfl, rfl, by decide⟩) rfl h
  · have h := h.2 q3
    refine wp_lload dX11_byChance_47 rfl ?_
    refine wp_iload_n dX11_byChance_49 rfl ?_
    refine wp_iload dX11_byChance_50 rfl ?_
    refine wp_callS (e1 := 0) (as := [Iv x2, Iv x6]) (S := [Jv x4]) dX11_byChance_52 (cs_X11_324 rfl) rfl rfl (Nat.le_of_ble_eq_true rfl) (Nat.le_of_ble_eq_true rfl) h (fun v6 M6 q6 r6 => ?_)
    obtain ⟨z6, rfl⟩ := retV_j r6 rfl
    have h := q6
    refine wp_aload_n dX11_byChance_55 rfl (by decide) ?_
    refine wp_getf (t := Iv (M6 1 3)) (M6 1 3) dX11_byChance_56 (fl_X11_24 rfl) kd_1 rfl rfl ?_
    refine wp_iconst dX11_byChance_59 ?_
    refine wp_isub dX11_byChance_60 ?_
    refine wp_iload_n dX11_byChance_61 rfl ?_
    refine wp_iload dX11_byChance_62 rfl ?_
    refine wp_isub dX11_byChance_64 ?_
    refine wp_callS (e1 := 0) (as := [Iv ((M6 1 3) - 1), Iv (x2 - x6)]) (S := [Jv z6, Jv x4]) dX11_byChance_65 (cs_X11_332 rfl) rfl rfl (Nat.le_of_ble_eq_true rfl) (Nat.le_of_ble_eq_true rfl) h (fun v7 M7 q7 r7 => ?_)
    obtain ⟨z7, rfl⟩ := retV_j r7 rfl
    have h := q7
    refine wp_lmul dX11_byChance_68 ?_
    refine wp_ladd dX11_byChance_69 ?_
    refine wp_lstore (L2 := [some (Rv 1), some (Iv x1), some (Iv x2), some (Iv x3), some (Jv (x4 + (z6 * z7))), none, some (Iv x6)]) dX11_byChance_70 (Nat.le_of_ble_eq_true rfl) (Nat.le_of_ble_eq_true rfl) rfl ?_
    refine wp_iinc (L2 := [some (Rv 1), some (Iv x1), some (Iv x2), some (Iv x3), some (Jv (x4 + (z6 * z7))), none, some (Iv (x6 + 1))]) dX11_byChance_72 rfl (Nat.le_of_ble_eq_true rfl) (Nat.le_of_ble_eq_true rfl) rfl ?_
    refine wp_goto (tgt := 41) dX11_byChance_75 (by decide) ?_
    exact h
theorem gX11_asked  {M : Mem} {Q : Vl → Mem → Prop} (h : Q (Iv (M 1 4)) M) : wp 0 yX11_asked 0 [some (Rv 1)] [] M Q := by
  refine wp_aload_n dX11_asked_0 rfl (by decide) ?_
  refine wp_getf (t := Iv (M 1 4)) (M 1 4) dX11_asked_1 (fl_X11_28 rfl) kd_1 rfl rfl ?_
  exact wp_iret dX11_asked_4 rfl (Or.inr ⟨rfl, rfl, rfl, by decide⟩) rfl h
theorem eX11_asked  {M : Mem} {Q : Vl → Mem → Prop} (h : Q (Iv (M 1 4)) M) : cl 0 yX11_asked [Rv 1] M Q := enterG (by decide +kernel) (by exact Or.inr (Or.inl rfl)) (Nat.le_of_ble_eq_true rfl) rfl (gX11_asked h)
theorem gX11_many  {M : Mem} {Q : Vl → Mem → Prop} (h : Q (Jv (M 1 5)) M) : wp 0 yX11_many 0 [some (Rv 1)] [] M Q := by
  refine wp_aload_n dX11_many_0 rfl (by decide) ?_
  refine wp_getf (t := Jv (M 1 5)) (M 1 5) dX11_many_1 (fl_X11_31 rfl) kd_1 rfl rfl ?_
  exact wp_lret dX11_many_4 rfl (Or.inr ⟨rfl, rfl, rfl, by decide⟩) rfl h
theorem eX11_many  {M : Mem} {Q : Vl → Mem → Prop} (h : Q (Jv (M 1 5)) M) : cl 0 yX11_many [Rv 1] M Q := enterG (by decide +kernel) (by exact Or.inr (Or.inr (Or.inr (Or.inl rfl)))) (Nat.le_of_ble_eq_true rfl) rfl (gX11_many h)
theorem gX11_upper  {M : Mem} {Q : Vl → Mem → Prop} (h : Q (Jv (M 1 6)) M) : wp 0 yX11_upper 0 [some (Rv 1)] [] M Q := by
  refine wp_aload_n dX11_upper_0 rfl (by decide) ?_
  refine wp_getf (t := Jv (M 1 6)) (M 1 6) dX11_upper_1 (fl_X11_35 rfl) kd_1 rfl rfl ?_
  exact wp_lret dX11_upper_4 rfl (Or.inr ⟨rfl, rfl, rfl, by decide⟩) rfl h
theorem eX11_upper  {M : Mem} {Q : Vl → Mem → Prop} (h : Q (Jv (M 1 6)) M) : cl 0 yX11_upper [Rv 1] M Q := enterG (by decide +kernel) (by exact Or.inr (Or.inr (Or.inr (Or.inl rfl)))) (Nat.le_of_ble_eq_true rfl) rfl (gX11_upper h)
theorem gX11_lower  {M : Mem} {Q : Vl → Mem → Prop} (h : Q (Jv (M 1 7)) M) : wp 0 yX11_lower 0 [some (Rv 1)] [] M Q := by
  refine wp_aload_n dX11_lower_0 rfl (by decide) ?_
  refine wp_getf (t := Jv (M 1 7)) (M 1 7) dX11_lower_1 (fl_X11_38 rfl) kd_1 rfl rfl ?_
  exact wp_lret dX11_lower_4 rfl (Or.inr ⟨rfl, rfl, rfl, by decide⟩) rfl h
theorem eX11_lower  {M : Mem} {Q : Vl → Mem → Prop} (h : Q (Jv (M 1 7)) M) : cl 0 yX11_lower [Rv 1] M Q := enterG (by decide +kernel) (by exact Or.inr (Or.inr (Or.inr (Or.inl rfl)))) (Nat.le_of_ble_eq_true rfl) rfl (gX11_lower h)
theorem gX11_count {x1 : Int}  {M : Mem} {Q : Vl → Mem → Prop} (h : inr x1 ∧ ((x1 < 0 ∨ 5 < x1 → Q (Iv (-1)) M) ∧ (x1 = 0 → Q (Iv (M 1 3)) M) ∧ (x1 = 1 → cl 0 yX11_countThere [Rv 2] M (QI (fun z3 M3 => (Q (Iv z3) M3)))) ∧ (x1 = 2 → cl 0 yX11_countThere [Rv 3] M (QI (fun z4 M4 => (Q (Iv z4) M4)))) ∧ (x1 = 3 → cl 0 yX11_countWords [Rv 1, Iv 0] M (QI (fun z5 M5 => (Q (Iv z5) M5)))) ∧ (x1 = 4 → cl 0 yX11_countWords [Rv 1, Iv 2] M (QI (fun z6 M6 => (Q (Iv z6) M6)))) ∧ (x1 = 5 → cl 0 yX11_countLetters [Rv 1] M (QI (fun z7 M7 => (Q (Iv z7) M7)))))) : wp 0 yX11_count 0 [some (Rv 1), some (Iv x1)] [] M Q := by
  refine wp_iload_n dX11_count_0 rfl ?_
  obtain ⟨o1, h⟩ := h
  by_cases q2 : x1 < 0 ∨ 5 < x1
  · refine wp_tableOut (tgt := 78) dX11_count_1 o1 q2 (by decide) ?_
    have h := h.1 q2
    refine wp_iconst dX11_count_78 ?_
    exact wp_iret dX11_count_79 rfl (Or.inr ⟨rfl, rfl, rfl, by decide⟩) rfl h
  · have q2 : x1 = 0 ∨ x1 = 1 ∨ x1 = 2 ∨ x1 = 3 ∨ x1 = 4 ∨ x1 = 5 := by omega
    have h := h.2
    rcases q2 with q2 | q2 | q2 | q2 | q2 | q2
    · refine wp_tableIn (off := 39) (tgt := 40) dX11_count_1 o1 (by omega) (by omega) (by rw [q2]; rfl) (by decide) ?_
      have h := h.1 q2
      refine wp_aload_n dX11_count_40 rfl (by decide) ?_
      refine wp_getf (t := Iv (M 1 3)) (M 1 3) dX11_count_41 (fl_X11_24 rfl) kd_1 rfl rfl ?_
      exact wp_iret dX11_count_44 rfl (Or.inr ⟨rfl, rfl, rfl, by decide⟩) rfl h
    · refine wp_tableIn (off := 44) (tgt := 45) dX11_count_1 o1 (by omega) (by omega) (by rw [q2]; rfl) (by decide) ?_
      have h := h.2.1 q2
      refine wp_aload_n dX11_count_45 rfl (by decide) ?_
      refine wp_getf (t := Rv 2) 2 dX11_count_46 (fl_X11_11 rfl) kd_1 rfl rfl ?_
      refine wp_callS (e1 := 0) (as := [Rv 2]) (S := []) dX11_count_49 (cs_X11_335 rfl) rfl rfl (Nat.le_of_ble_eq_true rfl) (Nat.le_of_ble_eq_true rfl) h (fun v3 M3 q3 r3 => ?_)
      obtain ⟨z3, rfl⟩ := retV_i r3 rfl
      have h := q3
      exact wp_iret dX11_count_52 rfl (Or.inr ⟨rfl, rfl, rfl, by decide⟩) rfl h
    · refine wp_tableIn (off := 52) (tgt := 53) dX11_count_1 o1 (by omega) (by omega) (by rw [q2]; rfl) (by decide) ?_
      have h := h.2.2.1 q2
      refine wp_aload_n dX11_count_53 rfl (by decide) ?_
      refine wp_getf (t := Rv 3) 3 dX11_count_54 (fl_X11_15 rfl) kd_1 rfl rfl ?_
      refine wp_callS (e1 := 0) (as := [Rv 3]) (S := []) dX11_count_57 (cs_X11_335 rfl) rfl rfl (Nat.le_of_ble_eq_true rfl) (Nat.le_of_ble_eq_true rfl) h (fun v4 M4 q4 r4 => ?_)
      obtain ⟨z4, rfl⟩ := retV_i r4 rfl
      have h := q4
      exact wp_iret dX11_count_60 rfl (Or.inr ⟨rfl, rfl, rfl, by decide⟩) rfl h
    · refine wp_tableIn (off := 60) (tgt := 61) dX11_count_1 o1 (by omega) (by omega) (by rw [q2]; rfl) (by decide) ?_
      have h := h.2.2.2.1 q2
      refine wp_aload_n dX11_count_61 rfl (by decide) ?_
      refine wp_iconst dX11_count_62 ?_
      refine wp_callV (e1 := 0) (as := [Iv 0]) (S := []) dX11_count_63 (cs_X11_339 rfl) kd_1 rfl rfl (Nat.le_of_ble_eq_true rfl) (Nat.le_of_ble_eq_true rfl) h (fun v5 M5 q5 r5 => ?_)
      obtain ⟨z5, rfl⟩ := retV_i r5 rfl
      have h := q5
      exact wp_iret dX11_count_66 rfl (Or.inr ⟨rfl, rfl, rfl, by decide⟩) rfl h
    · refine wp_tableIn (off := 66) (tgt := 67) dX11_count_1 o1 (by omega) (by omega) (by rw [q2]; rfl) (by decide) ?_
      have h := h.2.2.2.2.1 q2
      refine wp_aload_n dX11_count_67 rfl (by decide) ?_
      refine wp_iconst dX11_count_68 ?_
      refine wp_callV (e1 := 0) (as := [Iv 2]) (S := []) dX11_count_69 (cs_X11_339 rfl) kd_1 rfl rfl (Nat.le_of_ble_eq_true rfl) (Nat.le_of_ble_eq_true rfl) h (fun v6 M6 q6 r6 => ?_)
      obtain ⟨z6, rfl⟩ := retV_i r6 rfl
      have h := q6
      exact wp_iret dX11_count_72 rfl (Or.inr ⟨rfl, rfl, rfl, by decide⟩) rfl h
    · refine wp_tableIn (off := 72) (tgt := 73) dX11_count_1 o1 (by omega) (by omega) (by rw [q2]; rfl) (by decide) ?_
      have h := h.2.2.2.2.2 q2
      refine wp_aload_n dX11_count_73 rfl (by decide) ?_
      refine wp_callV (e1 := 0) (as := []) (S := []) dX11_count_74 (cs_X11_342 rfl) kd_1 rfl rfl (Nat.le_of_ble_eq_true rfl) (Nat.le_of_ble_eq_true rfl) h (fun v7 M7 q7 r7 => ?_)
      obtain ⟨z7, rfl⟩ := retV_i r7 rfl
      have h := q7
      exact wp_iret dX11_count_77 rfl (Or.inr ⟨rfl, rfl, rfl, by decide⟩) rfl h
theorem eX11_count {x1 : Int}  {M : Mem} {Q : Vl → Mem → Prop} (h : inr x1 ∧ ((x1 < 0 ∨ 5 < x1 → Q (Iv (-1)) M) ∧ (x1 = 0 → Q (Iv (M 1 3)) M) ∧ (x1 = 1 → cl 0 yX11_countThere [Rv 2] M (QI (fun z3 M3 => (Q (Iv z3) M3)))) ∧ (x1 = 2 → cl 0 yX11_countThere [Rv 3] M (QI (fun z4 M4 => (Q (Iv z4) M4)))) ∧ (x1 = 3 → cl 0 yX11_countWords [Rv 1, Iv 0] M (QI (fun z5 M5 => (Q (Iv z5) M5)))) ∧ (x1 = 4 → cl 0 yX11_countWords [Rv 1, Iv 2] M (QI (fun z6 M6 => (Q (Iv z6) M6)))) ∧ (x1 = 5 → cl 0 yX11_countLetters [Rv 1] M (QI (fun z7 M7 => (Q (Iv z7) M7)))))) : cl 0 yX11_count [Rv 1, Iv x1] M Q := enterG (by decide +kernel) (by exact Or.inr (Or.inl rfl)) (Nat.le_of_ble_eq_true rfl) rfl (gX11_count h)
theorem gX11_finding  {M : Mem} {Q : Vl → Mem → Prop} (h : Q (Iv (M 1 8)) M) : wp 0 yX11_finding 0 [some (Rv 1)] [] M Q := by
  refine wp_aload_n dX11_finding_0 rfl (by decide) ?_
  refine wp_getf (t := Iv (M 1 8)) (M 1 8) dX11_finding_1 (fl_X11_41 rfl) kd_1 rfl rfl ?_
  exact wp_iret dX11_finding_4 rfl (Or.inr ⟨rfl, rfl, rfl, by decide⟩) rfl h
theorem eX11_finding  {M : Mem} {Q : Vl → Mem → Prop} (h : Q (Iv (M 1 8)) M) : cl 0 yX11_finding [Rv 1] M Q := enterG (by decide +kernel) (by exact Or.inr (Or.inl rfl)) (Nat.le_of_ble_eq_true rfl) rfl (gX11_finding h)
theorem gX11_findings {x1 : Int}  {M : Mem} {Q : Vl → Mem → Prop} (h : inr x1 ∧ ((x1 < 1 → Q (Iv (-1)) M) ∧ (1 ≤ x1 → ((x1 ≤ 5 → 0 ≤ x1 ∧ (x1 < 6 ∧ (Q (Iv (M 5 x1)) M))) ∧ (5 < x1 → Q (Iv (-1)) M))))) : wp 0 yX11_findings 0 [some (Rv 1), some (Iv x1)] [] M Q := by
  refine wp_iload_n dX11_findings_0 rfl ?_
  refine wp_iconst dX11_findings_1 ?_
  obtain ⟨o1, h⟩ := h
  refine wp_icmp_lt (tgt := 10) dX11_findings_2 (by decide) o1 (by decide) (fun q2 => ?_) (fun q2 => ?_)
  · have h := h.1 q2
    refine wp_iconst dX11_findings_10 ?_
    refine wp_goto (tgt := 20) dX11_findings_11 (by decide) ?_
    exact wp_iret dX11_findings_20 rfl (Or.inr ⟨rfl, rfl, rfl, by decide⟩) rfl h
  · have h := h.2 q2
    refine wp_iload_n dX11_findings_5 rfl ?_
    refine wp_iconst dX11_findings_6 ?_
    refine wp_icmp_le (tgt := 14) dX11_findings_7 (by decide) o1 (by decide) (fun q3 => ?_) (fun q3 => ?_)
    · have h := h.1 q3
      refine wp_aload_n dX11_findings_14 rfl (by decide) ?_
      refine wp_getf (t := Rv 5) 5 dX11_findings_15 (fl_X11_44 rfl) kd_1 rfl rfl ?_
      refine wp_iload_n dX11_findings_18 rfl ?_
      obtain ⟨o4, h⟩ := h
      obtain ⟨o5, h⟩ := h
      refine wp_iald (M 5 x1) dX11_findings_19 kd_5 sz_5 o4 o5 (⟨by omega, by omega⟩) rfl ?_
      exact wp_iret dX11_findings_20 rfl (Or.inr ⟨rfl, rfl, rfl, by decide⟩) rfl h
    · have h := h.2 q3
      refine wp_iconst dX11_findings_10 ?_
      refine wp_goto (tgt := 20) dX11_findings_11 (by decide) ?_
      exact wp_iret dX11_findings_20 rfl (Or.inr ⟨rfl, rfl, rfl, by decide⟩) rfl h
theorem eX11_findings {x1 : Int}  {M : Mem} {Q : Vl → Mem → Prop} (h : inr x1 ∧ ((x1 < 1 → Q (Iv (-1)) M) ∧ (1 ≤ x1 → ((x1 ≤ 5 → 0 ≤ x1 ∧ (x1 < 6 ∧ (Q (Iv (M 5 x1)) M))) ∧ (5 < x1 → Q (Iv (-1)) M))))) : cl 0 yX11_findings [Rv 1, Iv x1] M Q := enterG (by decide +kernel) (by exact Or.inr (Or.inl rfl)) (Nat.le_of_ble_eq_true rfl) rfl (gX11_findings h)
theorem gX11_digest  {M : Mem} {Q : Vl → Mem → Prop} (h : wp 0 yX11_digest 6 [some (Rv 1), some (Jv 17), none, some (Iv 0), none] [] M Q) : wp 0 yX11_digest 0 [some (Rv 1), none, none, none, none] [] M Q := by
  refine wp_ldc2 17 dX11_digest_0 (kc_X11_346 rfl) ?_
  refine wp_lstore_n (L2 := [some (Rv 1), some (Jv 17), none, none, none]) dX11_digest_3 (Nat.le_of_ble_eq_true rfl) (Nat.le_of_ble_eq_true rfl) rfl ?_
  refine wp_iconst dX11_digest_4 ?_
  refine wp_istore_n (L2 := [some (Rv 1), some (Jv 17), none, some (Iv 0), none]) dX11_digest_5 (Nat.le_of_ble_eq_true rfl) (Nat.le_of_ble_eq_true rfl) rfl ?_
  exact h
theorem eX11_digest  {M : Mem} {Q : Vl → Mem → Prop} (h : wp 0 yX11_digest 6 [some (Rv 1), some (Jv 17), none, some (Iv 0), none] [] M Q) : cl 0 yX11_digest [Rv 1] M Q := enterG (by decide +kernel) (by exact Or.inr (Or.inr (Or.inr (Or.inl rfl)))) (Nat.le_of_ble_eq_true rfl) rfl (gX11_digest h)
theorem gX11_digest_6 {x1 x3 : Int}  {M : Mem} {Q : Vl → Mem → Prop} (h : inr x3 ∧ ((5 < x3 → wp 0 yX11_digest 32 [some (Rv 1), some (Jv x1), none, some (Iv 0), none] [] M Q) ∧ (x3 ≤ 5 → cl 0 yX11_count [Rv 1, Iv x3] M (QI (fun z3 M3 => (inr z3 ∧ (wp 0 yX11_digest 6 [some (Rv 1), some (Jv ((31 * x1) + z3)), none, some (Iv (x3 + 1)), none] [] M3 Q))))))) : wp 0 yX11_digest 6 [some (Rv 1), some (Jv x1), none, some (Iv x3), none] [] M Q := by
  refine wp_iload_n dX11_digest_6 rfl ?_
  refine wp_iconst dX11_digest_7 ?_
  obtain ⟨o1, h⟩ := h
  refine wp_icmp_gt (tgt := 30) dX11_digest_8 (by decide) o1 (by decide) (fun q2 => ?_) (fun q2 => ?_)
  · have h := h.1 q2
    refine wp_iconst dX11_digest_30 ?_
    refine wp_istore_n (L2 := [some (Rv 1), some (Jv x1), none, some (Iv 0), none]) dX11_digest_31 (Nat.le_of_ble_eq_true rfl) (Nat.le_of_ble_eq_true rfl) rfl ?_
    exact h
  · have h := h.2 q2
    refine wp_ldc2 31 dX11_digest_11 (kc_X11_348 rfl) ?_
    refine wp_lload_n dX11_digest_14 rfl ?_
    refine wp_lmul dX11_digest_15 ?_
    refine wp_aload_n dX11_digest_16 rfl (by decide) ?_
    refine wp_iload_n dX11_digest_17 rfl ?_
    refine wp_callV (e1 := 0) (as := [Iv x3]) (S := [Jv (31 * x1)]) dX11_digest_18 (cs_X11_350 rfl) kd_1 rfl rfl (Nat.le_of_ble_eq_true rfl) (Nat.le_of_ble_eq_true rfl) h (fun v3 M3 q3 r3 => ?_)
    obtain ⟨z3, rfl⟩ := retV_i r3 rfl
    have h := q3
    obtain ⟨o4, h⟩ := h
    refine wp_i2l dX11_digest_21 o4 ?_
    refine wp_ladd dX11_digest_22 ?_
    refine wp_lstore_n (L2 := [some (Rv 1), some (Jv ((31 * x1) + z3)), none, some (Iv x3), none]) dX11_digest_23 (Nat.le_of_ble_eq_true rfl) (Nat.le_of_ble_eq_true rfl) rfl ?_
    refine wp_iinc (L2 := [some (Rv 1), some (Jv ((31 * x1) + z3)), none, some (Iv (x3 + 1)), none]) dX11_digest_24 rfl (Nat.le_of_ble_eq_true rfl) (Nat.le_of_ble_eq_true rfl) rfl ?_
    refine wp_goto (tgt := 6) dX11_digest_27 (by decide) ?_
    exact h
theorem gX11_digest_32 {x1 x3 : Int}  {M : Mem} {Q : Vl → Mem → Prop} (h : inr x3 ∧ ((8 ≤ x3 → wp 0 yX11_digest 106 [some (Rv 1), some (Jv x1), none, some (Iv 0), none] [] M Q) ∧ (x3 < 8 → 0 ≤ x3 ∧ (cl 0 yX3_isMissing [Rv ((55 + 3 * x3) + 1)] M (QI (fun z4 M4 => ((z4 ≠ 0 → cl 0 yX3_mixInto [Rv ((55 + 3 * x3) + 1), Jv x1] M4 (QJ (fun z6 M6 => (wp 0 yX11_digest 32 [some (Rv 1), some (Jv z6), none, some (Iv (x3 + 1)), none] [] M6 Q)))) ∧ (z4 = 0 → inr (M4 (55 + 3 * x3) 1) ∧ (cl 0 yX10_markOf [Rv (55 + 3 * x3), Iv (M4 (55 + 3 * x3) 1)] M4 (QI (fun z8 M8 => (inr z8 ∧ (cl 0 yX3_mixInto [Rv ((55 + 3 * x3) + 1), Jv ((31 * ((31 * x1) + (M4 (55 + 3 * x3) 1))) + z8)] M8 (QJ (fun z10 M10 => (wp 0 yX11_digest 32 [some (Rv 1), some (Jv z10), none, some (Iv (x3 + 1)), none] [] M10 Q)))))))))))))))) : wp 0 yX11_digest 32 [some (Rv 1), some (Jv x1), none, some (Iv x3), none] [] M Q := by
  refine wp_iload_n dX11_digest_32 rfl ?_
  refine wp_bipush dX11_digest_33 (by decide) ?_
  obtain ⟨o1, h⟩ := h
  refine wp_icmp_ge (tgt := 104) dX11_digest_35 (by decide) o1 (by decide) (fun q2 => ?_) (fun q2 => ?_)
  · have h := h.1 q2
    refine wp_iconst dX11_digest_104 ?_
    refine wp_istore_n (L2 := [some (Rv 1), some (Jv x1), none, some (Iv 0), none]) dX11_digest_105 (Nat.le_of_ble_eq_true rfl) (Nat.le_of_ble_eq_true rfl) rfl ?_
    exact h
  · have h := h.2 q2
    refine wp_aload_n dX11_digest_38 rfl (by decide) ?_
    refine wp_getf (t := Rv 4) 4 dX11_digest_39 (fl_X11_20 rfl) kd_1 rfl rfl ?_
    refine wp_iload_n dX11_digest_42 rfl ?_
    obtain ⟨o3, h⟩ := h
    refine wp_aaldW (55 + 3 * x3) dX11_digest_43 kd_4 sz_4 o3 q2 (⟨by omega, by omega⟩) rfl ?_
    refine wp_astore (L2 := [some (Rv 1), some (Jv x1), none, some (Iv x3), some (Rv (55 + 3 * x3))]) dX11_digest_44 (Nat.le_of_ble_eq_true rfl) (Nat.le_of_ble_eq_true rfl) rfl (isW_word o3 q2).p ?_
    refine wp_aload dX11_digest_46 rfl (isW_word o3 q2).p ?_
    refine wp_getf (t := Rv ((55 + 3 * x3) + 1)) ((55 + 3 * x3) + 1) dX11_digest_48 (fl_X11_161 rfl) (isW_word o3 q2).k rfl rfl ?_
    refine wp_callV (e1 := 0) (as := []) (S := []) dX11_digest_51 (cs_X11_138 rfl) (isW_word o3 q2).l.k rfl rfl (Nat.le_of_ble_eq_true rfl) (Nat.le_of_ble_eq_true rfl) h (fun v4 M4 q4 r4 => ?_)
    obtain ⟨z4, rfl, hz4⟩ := retV_z r4 rfl
    have h := q4
    refine wp_if_ne (tgt := 88) dX11_digest_54 (by decide) (by have := hz4; omega) (fun q5 => ?_) (fun q5 => ?_)
    · have h := h.1 q5
      refine wp_aload dX11_digest_88 rfl (isW_word o3 q2).p ?_
      refine wp_getf (t := Rv ((55 + 3 * x3) + 1)) ((55 + 3 * x3) + 1) dX11_digest_90 (fl_X11_161 rfl) (isW_word o3 q2).k rfl rfl ?_
      refine wp_lload_n dX11_digest_93 rfl ?_
      refine wp_callV (e1 := 0) (as := [Jv x1]) (S := []) dX11_digest_94 (cs_X11_353 rfl) (isW_word o3 q2).l.k rfl rfl (Nat.le_of_ble_eq_true rfl) (Nat.le_of_ble_eq_true rfl) h (fun v6 M6 q6 r6 => ?_)
      obtain ⟨z6, rfl⟩ := retV_j r6 rfl
      have h := q6
      refine wp_lstore_n (L2 := [some (Rv 1), some (Jv z6), none, some (Iv x3), some (Rv (55 + 3 * x3))]) dX11_digest_97 (Nat.le_of_ble_eq_true rfl) (Nat.le_of_ble_eq_true rfl) rfl ?_
      refine wp_iinc (L2 := [some (Rv 1), some (Jv z6), none, some (Iv (x3 + 1)), some (Rv (55 + 3 * x3))]) dX11_digest_98 rfl (Nat.le_of_ble_eq_true rfl) (Nat.le_of_ble_eq_true rfl) rfl ?_
      refine wp_goto (tgt := 32) dX11_digest_101 (by decide) ?_
      exact wp_weak [true, true, true, true, false] rfl h
    · have h := h.2 q5
      refine wp_ldc2 31 dX11_digest_57 (kc_X11_348 rfl) ?_
      refine wp_lload_n dX11_digest_60 rfl ?_
      refine wp_lmul dX11_digest_61 ?_
      refine wp_aload dX11_digest_62 rfl (isW_word o3 q2).p ?_
      refine wp_getf (t := Iv (M4 (55 + 3 * x3) 1)) (M4 (55 + 3 * x3) 1) dX11_digest_64 (fl_X11_196 rfl) (isW_word o3 q2).k rfl rfl ?_
      obtain ⟨o7, h⟩ := h
      refine wp_i2l dX11_digest_67 o7 ?_
      refine wp_ladd dX11_digest_68 ?_
      refine wp_lstore_n (L2 := [some (Rv 1), some (Jv ((31 * x1) + (M4 (55 + 3 * x3) 1))), none, some (Iv x3), some (Rv (55 + 3 * x3))]) dX11_digest_69 (Nat.le_of_ble_eq_true rfl) (Nat.le_of_ble_eq_true rfl) rfl ?_
      refine wp_ldc2 31 dX11_digest_70 (kc_X11_348 rfl) ?_
      refine wp_lload_n dX11_digest_73 rfl ?_
      refine wp_lmul dX11_digest_74 ?_
      refine wp_aload dX11_digest_75 rfl (isW_word o3 q2).p ?_
      refine wp_aload dX11_digest_77 rfl (isW_word o3 q2).p ?_
      refine wp_getf (t := Iv (M4 (55 + 3 * x3) 1)) (M4 (55 + 3 * x3) 1) dX11_digest_79 (fl_X11_196 rfl) (isW_word o3 q2).k rfl rfl ?_
      refine wp_callV (e1 := 0) (as := [Iv (M4 (55 + 3 * x3) 1)]) (S := [Jv (31 * ((31 * x1) + (M4 (55 + 3 * x3) 1)))]) dX11_digest_82 (cs_X11_202 rfl) (isW_word o3 q2).k rfl rfl (Nat.le_of_ble_eq_true rfl) (Nat.le_of_ble_eq_true rfl) h (fun v8 M8 q8 r8 => ?_)
      obtain ⟨z8, rfl⟩ := retV_i r8 rfl
      have h := q8
      obtain ⟨o9, h⟩ := h
      refine wp_i2l dX11_digest_85 o9 ?_
      refine wp_ladd dX11_digest_86 ?_
      refine wp_lstore_n (L2 := [some (Rv 1), some (Jv ((31 * ((31 * x1) + (M4 (55 + 3 * x3) 1))) + z8)), none, some (Iv x3), some (Rv (55 + 3 * x3))]) dX11_digest_87 (Nat.le_of_ble_eq_true rfl) (Nat.le_of_ble_eq_true rfl) rfl ?_
      refine wp_aload dX11_digest_88 rfl (isW_word o3 q2).p ?_
      refine wp_getf (t := Rv ((55 + 3 * x3) + 1)) ((55 + 3 * x3) + 1) dX11_digest_90 (fl_X11_161 rfl) (isW_word o3 q2).k rfl rfl ?_
      refine wp_lload_n dX11_digest_93 rfl ?_
      refine wp_callV (e1 := 0) (as := [Jv ((31 * ((31 * x1) + (M4 (55 + 3 * x3) 1))) + z8)]) (S := []) dX11_digest_94 (cs_X11_353 rfl) (isW_word o3 q2).l.k rfl rfl (Nat.le_of_ble_eq_true rfl) (Nat.le_of_ble_eq_true rfl) h (fun v10 M10 q10 r10 => ?_)
      obtain ⟨z10, rfl⟩ := retV_j r10 rfl
      have h := q10
      refine wp_lstore_n (L2 := [some (Rv 1), some (Jv z10), none, some (Iv x3), some (Rv (55 + 3 * x3))]) dX11_digest_97 (Nat.le_of_ble_eq_true rfl) (Nat.le_of_ble_eq_true rfl) rfl ?_
      refine wp_iinc (L2 := [some (Rv 1), some (Jv z10), none, some (Iv (x3 + 1)), some (Rv (55 + 3 * x3))]) dX11_digest_98 rfl (Nat.le_of_ble_eq_true rfl) (Nat.le_of_ble_eq_true rfl) rfl ?_
      refine wp_goto (tgt := 32) dX11_digest_101 (by decide) ?_
      exact wp_weak [true, true, true, true, false] rfl h
theorem gX11_digest_106 {x1 x3 : Int}  {M : Mem} {Q : Vl → Mem → Prop} (h : inr x3 ∧ ((6 ≤ x3 → wp 0 yX11_digest 131 [some (Rv 1), some (Jv x1), none, some (Iv 0), none] [] M Q) ∧ (x3 < 6 → 0 ≤ x3 ∧ (cl 0 yX3_mixInto [Rv (35 + 2 * x3), Jv x1] M (QJ (fun z4 M4 => (wp 0 yX11_digest 106 [some (Rv 1), some (Jv z4), none, some (Iv (x3 + 1)), none] [] M4 Q))))))) : wp 0 yX11_digest 106 [some (Rv 1), some (Jv x1), none, some (Iv x3), none] [] M Q := by
  refine wp_iload_n dX11_digest_106 rfl ?_
  refine wp_bipush dX11_digest_107 (by decide) ?_
  obtain ⟨o1, h⟩ := h
  refine wp_icmp_ge (tgt := 129) dX11_digest_109 (by decide) o1 (by decide) (fun q2 => ?_) (fun q2 => ?_)
  · have h := h.1 q2
    refine wp_iconst dX11_digest_129 ?_
    refine wp_istore_n (L2 := [some (Rv 1), some (Jv x1), none, some (Iv 0), none]) dX11_digest_130 (Nat.le_of_ble_eq_true rfl) (Nat.le_of_ble_eq_true rfl) rfl ?_
    exact h
  · have h := h.2 q2
    refine wp_aload_n dX11_digest_112 rfl (by decide) ?_
    refine wp_getf (t := Rv 2) 2 dX11_digest_113 (fl_X11_11 rfl) kd_1 rfl rfl ?_
    refine wp_iload_n dX11_digest_116 rfl ?_
    obtain ⟨o3, h⟩ := h
    refine wp_aaldL (35 + 2 * x3) dX11_digest_117 kd_2 sz_2 o3 q2 (⟨by omega, by omega⟩) rfl ?_
    refine wp_lload_n dX11_digest_118 rfl ?_
    refine wp_callV (e1 := 0) (as := [Jv x1]) (S := []) dX11_digest_119 (cs_X11_353 rfl) (isL_row o3 q2).k rfl rfl (Nat.le_of_ble_eq_true rfl) (Nat.le_of_ble_eq_true rfl) h (fun v4 M4 q4 r4 => ?_)
    obtain ⟨z4, rfl⟩ := retV_j r4 rfl
    have h := q4
    refine wp_lstore_n (L2 := [some (Rv 1), some (Jv z4), none, some (Iv x3), none]) dX11_digest_122 (Nat.le_of_ble_eq_true rfl) (Nat.le_of_ble_eq_true rfl) rfl ?_
    refine wp_iinc (L2 := [some (Rv 1), some (Jv z4), none, some (Iv (x3 + 1)), none]) dX11_digest_123 rfl (Nat.le_of_ble_eq_true rfl) (Nat.le_of_ble_eq_true rfl) rfl ?_
    refine wp_goto (tgt := 106) dX11_digest_126 (by decide) ?_
    exact h
theorem gX11_digest_131 {x1 x3 : Int}  {M : Mem} {Q : Vl → Mem → Prop} (h : inr x3 ∧ ((4 ≤ x3 → Q (Jv x1) M) ∧ (x3 < 4 → 0 ≤ x3 ∧ (cl 0 yX3_mixInto [Rv (47 + 2 * x3), Jv x1] M (QJ (fun z4 M4 => (wp 0 yX11_digest 131 [some (Rv 1), some (Jv z4), none, some (Iv (x3 + 1)), none] [] M4 Q))))))) : wp 0 yX11_digest 131 [some (Rv 1), some (Jv x1), none, some (Iv x3), none] [] M Q := by
  refine wp_iload_n dX11_digest_131 rfl ?_
  refine wp_iconst dX11_digest_132 ?_
  obtain ⟨o1, h⟩ := h
  refine wp_icmp_ge (tgt := 153) dX11_digest_133 (by decide) o1 (by decide) (fun q2 => ?_) (fun q2 => ?_)
  · have h := h.1 q2
    refine wp_lload_n dX11_digest_153 rfl ?_
    exact wp_lret dX11_digest_154 rfl (Or.inr ⟨rfl, rfl, rfl, by decide⟩) rfl h
  · have h := h.2 q2
    refine wp_aload_n dX11_digest_136 rfl (by decide) ?_
    refine wp_getf (t := Rv 3) 3 dX11_digest_137 (fl_X11_15 rfl) kd_1 rfl rfl ?_
    refine wp_iload_n dX11_digest_140 rfl ?_
    obtain ⟨o3, h⟩ := h
    refine wp_aaldL (47 + 2 * x3) dX11_digest_141 kd_3 sz_3 o3 q2 (⟨by omega, by omega⟩) rfl ?_
    refine wp_lload_n dX11_digest_142 rfl ?_
    refine wp_callV (e1 := 0) (as := [Jv x1]) (S := []) dX11_digest_143 (cs_X11_353 rfl) (isL_text o3 q2).k rfl rfl (Nat.le_of_ble_eq_true rfl) (Nat.le_of_ble_eq_true rfl) h (fun v4 M4 q4 r4 => ?_)
    obtain ⟨z4, rfl⟩ := retV_j r4 rfl
    have h := q4
    refine wp_lstore_n (L2 := [some (Rv 1), some (Jv z4), none, some (Iv x3), none]) dX11_digest_146 (Nat.le_of_ble_eq_true rfl) (Nat.le_of_ble_eq_true rfl) rfl ?_
    refine wp_iinc (L2 := [some (Rv 1), some (Jv z4), none, some (Iv (x3 + 1)), none]) dX11_digest_147 rfl (Nat.le_of_ble_eq_true rfl) (Nat.le_of_ble_eq_true rfl) rfl ?_
    refine wp_goto (tgt := 131) dX11_digest_150 (by decide) ?_
    exact h
theorem gX11_noRow {x0 : Int}  {M : Mem} {Q : Vl → Mem → Prop} (h : inr x0 ∧ ((x0 < 0 → Q (Iv 1) M) ∧ (0 ≤ x0 → ((x0 < 6 → Q (Iv 0) M) ∧ (6 ≤ x0 → Q (Iv 1) M))))) : wp 0 yX11_noRow 0 [some (Iv x0)] [] M Q := by
  refine wp_iload_n dX11_noRow_0 rfl ?_
  obtain ⟨o1, h⟩ := h
  refine wp_if_lt (tgt := 10) dX11_noRow_1 (by decide) o1 (fun q2 => ?_) (fun q2 => ?_)
  · have h := h.1 q2
    refine wp_iconst dX11_noRow_10 ?_
    refine wp_goto (tgt := 15) dX11_noRow_11 (by decide) ?_
    exact wp_zret dX11_noRow_15 rfl (Or.inr ⟨rfl, rfl, rfl, by decide⟩) rfl (by decide) h
  · have h := h.2 q2
    refine wp_iload_n dX11_noRow_4 rfl ?_
    refine wp_bipush dX11_noRow_5 (by decide) ?_
    refine wp_icmp_lt (tgt := 14) dX11_noRow_7 (by decide) o1 (by decide) (fun q3 => ?_) (fun q3 => ?_)
    · have h := h.1 q3
      refine wp_iconst dX11_noRow_14 ?_
      exact wp_zret dX11_noRow_15 rfl (Or.inr ⟨rfl, rfl, rfl, by decide⟩) rfl (by decide) h
    · have h := h.2 q3
      refine wp_iconst dX11_noRow_10 ?_
      refine wp_goto (tgt := 15) dX11_noRow_11 (by decide) ?_
      exact wp_zret dX11_noRow_15 rfl (Or.inr ⟨rfl, rfl, rfl, by decide⟩) rfl (by decide) h
theorem eX11_noRow {x0 : Int}  {M : Mem} {Q : Vl → Mem → Prop} (h : inr x0 ∧ ((x0 < 0 → Q (Iv 1) M) ∧ (0 ≤ x0 → ((x0 < 6 → Q (Iv 0) M) ∧ (6 ≤ x0 → Q (Iv 1) M))))) : cl 0 yX11_noRow [Iv x0] M Q := enterG (by decide +kernel) (by exact Or.inr (Or.inr (Or.inl rfl))) (Nat.le_of_ble_eq_true rfl) rfl (gX11_noRow h)
theorem gX11_noText {x0 : Int}  {M : Mem} {Q : Vl → Mem → Prop} (h : inr x0 ∧ ((x0 < 0 → Q (Iv 1) M) ∧ (0 ≤ x0 → ((x0 < 4 → Q (Iv 0) M) ∧ (4 ≤ x0 → Q (Iv 1) M))))) : wp 0 yX11_noText 0 [some (Iv x0)] [] M Q := by
  refine wp_iload_n dX11_noText_0 rfl ?_
  obtain ⟨o1, h⟩ := h
  refine wp_if_lt (tgt := 9) dX11_noText_1 (by decide) o1 (fun q2 => ?_) (fun q2 => ?_)
  · have h := h.1 q2
    refine wp_iconst dX11_noText_9 ?_
    refine wp_goto (tgt := 14) dX11_noText_10 (by decide) ?_
    exact wp_zret dX11_noText_14 rfl (Or.inr ⟨rfl, rfl, rfl, by decide⟩) rfl (by decide) h
  · have h := h.2 q2
    refine wp_iload_n dX11_noText_4 rfl ?_
    refine wp_iconst dX11_noText_5 ?_
    refine wp_icmp_lt (tgt := 13) dX11_noText_6 (by decide) o1 (by decide) (fun q3 => ?_) (fun q3 => ?_)
    · have h := h.1 q3
      refine wp_iconst dX11_noText_13 ?_
      exact wp_zret dX11_noText_14 rfl (Or.inr ⟨rfl, rfl, rfl, by decide⟩) rfl (by decide) h
    · have h := h.2 q3
      refine wp_iconst dX11_noText_9 ?_
      refine wp_goto (tgt := 14) dX11_noText_10 (by decide) ?_
      exact wp_zret dX11_noText_14 rfl (Or.inr ⟨rfl, rfl, rfl, by decide⟩) rfl (by decide) h
theorem eX11_noText {x0 : Int}  {M : Mem} {Q : Vl → Mem → Prop} (h : inr x0 ∧ ((x0 < 0 → Q (Iv 1) M) ∧ (0 ≤ x0 → ((x0 < 4 → Q (Iv 0) M) ∧ (4 ≤ x0 → Q (Iv 1) M))))) : cl 0 yX11_noText [Iv x0] M Q := enterG (by decide +kernel) (by exact Or.inr (Or.inr (Or.inl rfl))) (Nat.le_of_ble_eq_true rfl) rfl (gX11_noText h)
theorem gX11_noWord {x0 : Int}  {M : Mem} {Q : Vl → Mem → Prop} (h : inr x0 ∧ ((x0 < 0 → Q (Iv 1) M) ∧ (0 ≤ x0 → ((x0 < 8 → Q (Iv 0) M) ∧ (8 ≤ x0 → Q (Iv 1) M))))) : wp 0 yX11_noWord 0 [some (Iv x0)] [] M Q := by
  refine wp_iload_n dX11_noWord_0 rfl ?_
  obtain ⟨o1, h⟩ := h
  refine wp_if_lt (tgt := 10) dX11_noWord_1 (by decide) o1 (fun q2 => ?_) (fun q2 => ?_)
  · have h := h.1 q2
    refine wp_iconst dX11_noWord_10 ?_
    refine wp_goto (tgt := 15) dX11_noWord_11 (by decide) ?_
    exact wp_zret dX11_noWord_15 rfl (Or.inr ⟨rfl, rfl, rfl, by decide⟩) rfl (by decide) h
  · have h := h.2 q2
    refine wp_iload_n dX11_noWord_4 rfl ?_
    refine wp_bipush dX11_noWord_5 (by decide) ?_
    refine wp_icmp_lt (tgt := 14) dX11_noWord_7 (by decide) o1 (by decide) (fun q3 => ?_) (fun q3 => ?_)
    · have h := h.1 q3
      refine wp_iconst dX11_noWord_14 ?_
      exact wp_zret dX11_noWord_15 rfl (Or.inr ⟨rfl, rfl, rfl, by decide⟩) rfl (by decide) h
    · have h := h.2 q3
      refine wp_iconst dX11_noWord_10 ?_
      refine wp_goto (tgt := 15) dX11_noWord_11 (by decide) ?_
      exact wp_zret dX11_noWord_15 rfl (Or.inr ⟨rfl, rfl, rfl, by decide⟩) rfl (by decide) h
theorem eX11_noWord {x0 : Int}  {M : Mem} {Q : Vl → Mem → Prop} (h : inr x0 ∧ ((x0 < 0 → Q (Iv 1) M) ∧ (0 ≤ x0 → ((x0 < 8 → Q (Iv 0) M) ∧ (8 ≤ x0 → Q (Iv 1) M))))) : cl 0 yX11_noWord [Iv x0] M Q := enterG (by decide +kernel) (by exact Or.inr (Or.inr (Or.inl rfl))) (Nat.le_of_ble_eq_true rfl) rfl (gX11_noWord h)
theorem gX11_noLength {x0 : Int}  {M : Mem} {Q : Vl → Mem → Prop} (h : inr x0 ∧ ((x0 < 0 → Q (Iv 1) M) ∧ (0 ≤ x0 → ((x0 ≤ 40 → Q (Iv 0) M) ∧ (40 < x0 → Q (Iv 1) M))))) : wp 0 yX11_noLength 0 [some (Iv x0)] [] M Q := by
  refine wp_iload_n dX11_noLength_0 rfl ?_
  obtain ⟨o1, h⟩ := h
  refine wp_if_lt (tgt := 10) dX11_noLength_1 (by decide) o1 (fun q2 => ?_) (fun q2 => ?_)
  · have h := h.1 q2
    refine wp_iconst dX11_noLength_10 ?_
    refine wp_goto (tgt := 15) dX11_noLength_11 (by decide) ?_
    exact wp_zret dX11_noLength_15 rfl (Or.inr ⟨rfl, rfl, rfl, by decide⟩) rfl (by decide) h
  · have h := h.2 q2
    refine wp_iload_n dX11_noLength_4 rfl ?_
    refine wp_bipush dX11_noLength_5 (by decide) ?_
    refine wp_icmp_le (tgt := 14) dX11_noLength_7 (by decide) o1 (by decide) (fun q3 => ?_) (fun q3 => ?_)
    · have h := h.1 q3
      refine wp_iconst dX11_noLength_14 ?_
      exact wp_zret dX11_noLength_15 rfl (Or.inr ⟨rfl, rfl, rfl, by decide⟩) rfl (by decide) h
    · have h := h.2 q3
      refine wp_iconst dX11_noLength_10 ?_
      refine wp_goto (tgt := 15) dX11_noLength_11 (by decide) ?_
      exact wp_zret dX11_noLength_15 rfl (Or.inr ⟨rfl, rfl, rfl, by decide⟩) rfl (by decide) h
theorem eX11_noLength {x0 : Int}  {M : Mem} {Q : Vl → Mem → Prop} (h : inr x0 ∧ ((x0 < 0 → Q (Iv 1) M) ∧ (0 ≤ x0 → ((x0 ≤ 40 → Q (Iv 0) M) ∧ (40 < x0 → Q (Iv 1) M))))) : cl 0 yX11_noLength [Iv x0] M Q := enterG (by decide +kernel) (by exact Or.inr (Or.inr (Or.inl rfl))) (Nat.le_of_ble_eq_true rfl) rfl (gX11_noLength h)
theorem gX11_found {x1 : Int}  {M : Mem} {Q : Vl → Mem → Prop} (h : 0 ≤ x1 ∧ (x1 < 6 ∧ (Q (Iv (-3)) (up (up M 1 8 x1) 5 x1 ((M 5 x1) + 1))))) : wp 0 yX11_found 0 [some (Rv 1), some (Iv x1)] [] M Q := by
  refine wp_aload_n dX11_found_0 rfl (by decide) ?_
  refine wp_iload_n dX11_found_1 rfl ?_
  refine wp_putf (x := x1) dX11_found_2 (fl_X11_41 rfl) kd_1 (fun _ => rfl) rfl rfl trivial ?_
  refine wp_aload_n dX11_found_5 rfl (by decide) ?_
  refine wp_getf (t := Rv 5) 5 dX11_found_6 (fl_X11_44 rfl) kd_1 rfl rfl ?_
  refine wp_iload_n dX11_found_9 rfl ?_
  refine wp_dup2 dX11_found_10 rfl rfl ?_
  obtain ⟨o1, h⟩ := h
  obtain ⟨o2, h⟩ := h
  refine wp_iald (M 5 x1) dX11_found_11 kd_5 sz_5 o1 o2 (⟨by omega, by omega⟩) rfl ?_
  refine wp_iconst dX11_found_12 ?_
  refine wp_iadd dX11_found_13 ?_
  refine wp_iast dX11_found_14 kd_5 sz_5 o1 o2 (⟨by omega, by omega⟩) ?_
  refine wp_bipush dX11_found_15 (by decide) ?_
  exact wp_iret dX11_found_17 rfl (Or.inr ⟨rfl, rfl, rfl, by decide⟩) rfl h
theorem eX11_found {x1 : Int}  {M : Mem} {Q : Vl → Mem → Prop} (h : 0 ≤ x1 ∧ (x1 < 6 ∧ (Q (Iv (-3)) (up (up M 1 8 x1) 5 x1 ((M 5 x1) + 1))))) : cl 0 yX11_found [Rv 1, Iv x1] M Q := enterG (by decide +kernel) (by exact Or.inr (Or.inl rfl)) (Nat.le_of_ble_eq_true rfl) rfl (gX11_found h)
theorem gX11_refuseRow {x1 : Int}  {M : Mem} {Q : Vl → Mem → Prop} (h : cl 0 yX11_noRow [Iv x1] M (QI (fun z1 M1 => ((z1 = 0 → 0 ≤ x1 ∧ (x1 < 6 ∧ (cl 0 yX3_isMissing [Rv (35 + 2 * x1)] M1 (QI (fun z5 M5 => ((z5 = 0 → Q (Iv 0) M5) ∧ (z5 ≠ 0 → cl 0 yX11_found [Rv 1, Iv 1] M5 (QI (fun z7 M7 => (Q (Iv z7) M7)))))))))) ∧ (z1 ≠ 0 → Q (Iv (-1)) M1))))) : wp 0 yX11_refuseRow 0 [some (Rv 1), some (Iv x1)] [] M Q := by
  refine wp_iload_n dX11_refuseRow_0 rfl ?_
  refine wp_callS (e1 := 0) (as := [Iv x1]) (S := []) dX11_refuseRow_1 (cs_X11_113 rfl) rfl rfl (Nat.le_of_ble_eq_true rfl) (Nat.le_of_ble_eq_true rfl) h (fun v1 M1 q1 r1 => ?_)
  obtain ⟨z1, rfl, hz1⟩ := retV_z r1 rfl
  have h := q1
  refine wp_if_eq (tgt := 9) dX11_refuseRow_4 (by decide) (by have := hz1; omega) (fun q2 => ?_) (fun q2 => ?_)
  · have h := h.1 q2
    refine wp_aload_n dX11_refuseRow_9 rfl (by decide) ?_
    refine wp_getf (t := Rv 2) 2 dX11_refuseRow_10 (fl_X11_11 rfl) kd_1 rfl rfl ?_
    refine wp_iload_n dX11_refuseRow_13 rfl ?_
    obtain ⟨o3, h⟩ := h
    obtain ⟨o4, h⟩ := h
    refine wp_aaldL (35 + 2 * x1) dX11_refuseRow_14 kd_2 sz_2 o3 o4 (⟨by omega, by omega⟩) rfl ?_
    refine wp_callV (e1 := 0) (as := []) (S := []) dX11_refuseRow_15 (cs_X11_138 rfl) (isL_row o3 o4).k rfl rfl (Nat.le_of_ble_eq_true rfl) (Nat.le_of_ble_eq_true rfl) h (fun v5 M5 q5 r5 => ?_)
    obtain ⟨z5, rfl, hz5⟩ := retV_z r5 rfl
    have h := q5
    refine wp_if_eq (tgt := 29) dX11_refuseRow_18 (by decide) (by have := hz5; omega) (fun q6 => ?_) (fun q6 => ?_)
    · have h := h.1 q6
      refine wp_iconst dX11_refuseRow_29 ?_
      exact wp_iret dX11_refuseRow_30 rfl (Or.inr ⟨rfl, rfl, rfl, by decide⟩) rfl h
    · have h := h.2 q6
      refine wp_aload_n dX11_refuseRow_21 rfl (by decide) ?_
      refine wp_iconst dX11_refuseRow_22 ?_
      refine wp_callV (e1 := 0) (as := [Iv 1]) (S := []) dX11_refuseRow_23 (cs_X11_117 rfl) kd_1 rfl rfl (Nat.le_of_ble_eq_true rfl) (Nat.le_of_ble_eq_true rfl) h (fun v7 M7 q7 r7 => ?_)
      obtain ⟨z7, rfl⟩ := retV_i r7 rfl
      have h := q7
      refine wp_goto (tgt := 30) dX11_refuseRow_26 (by decide) ?_
      exact wp_iret dX11_refuseRow_30 rfl (Or.inr ⟨rfl, rfl, rfl, by decide⟩) rfl h
  · have h := h.2 q2
    refine wp_iconst dX11_refuseRow_7 ?_
    exact wp_iret dX11_refuseRow_8 rfl (Or.inr ⟨rfl, rfl, rfl, by decide⟩) rfl h
theorem eX11_refuseRow {x1 : Int}  {M : Mem} {Q : Vl → Mem → Prop} (h : cl 0 yX11_noRow [Iv x1] M (QI (fun z1 M1 => ((z1 = 0 → 0 ≤ x1 ∧ (x1 < 6 ∧ (cl 0 yX3_isMissing [Rv (35 + 2 * x1)] M1 (QI (fun z5 M5 => ((z5 = 0 → Q (Iv 0) M5) ∧ (z5 ≠ 0 → cl 0 yX11_found [Rv 1, Iv 1] M5 (QI (fun z7 M7 => (Q (Iv z7) M7)))))))))) ∧ (z1 ≠ 0 → Q (Iv (-1)) M1))))) : cl 0 yX11_refuseRow [Rv 1, Iv x1] M Q := enterG (by decide +kernel) (by exact Or.inr (Or.inl rfl)) (Nat.le_of_ble_eq_true rfl) rfl (gX11_refuseRow h)
theorem gX11_refusePlace {x1 x2 : Int}  {M : Mem} {Q : Vl → Mem → Prop} (h : cl 0 yX11_refuseRow [Rv 1, Iv x1] M (QI (fun z1 M1 => (inr z1 ∧ ((z1 = 0 → 0 ≤ x1 ∧ (x1 < 6 ∧ (cl 0 yX3_has [Rv (35 + 2 * x1), Iv x2] M1 (QI (fun z6 M6 => ((z6 = 0 → cl 0 yX11_found [Rv 1, Iv 2] M6 (QI (fun z8 M8 => (Q (Iv z8) M8)))) ∧ (z6 ≠ 0 → Q (Iv 0) M6))))))) ∧ (z1 ≠ 0 → Q (Iv z1) M1)))))) : wp 0 yX11_refusePlace 0 [some (Rv 1), some (Iv x1), some (Iv x2), none] [] M Q := by
  refine wp_aload_n dX11_refusePlace_0 rfl (by decide) ?_
  refine wp_iload_n dX11_refusePlace_1 rfl ?_
  refine wp_callV (e1 := 0) (as := [Iv x1]) (S := []) dX11_refusePlace_2 (cs_X11_132 rfl) kd_1 rfl rfl (Nat.le_of_ble_eq_true rfl) (Nat.le_of_ble_eq_true rfl) h (fun v1 M1 q1 r1 => ?_)
  obtain ⟨z1, rfl⟩ := retV_i r1 rfl
  have h := q1
  refine wp_istore_n (L2 := [some (Rv 1), some (Iv x1), some (Iv x2), some (Iv z1)]) dX11_refusePlace_5 (Nat.le_of_ble_eq_true rfl) (Nat.le_of_ble_eq_true rfl) rfl ?_
  refine wp_iload_n dX11_refusePlace_6 rfl ?_
  obtain ⟨o2, h⟩ := h
  refine wp_if_eq (tgt := 12) dX11_refusePlace_7 (by decide) o2 (fun q3 => ?_) (fun q3 => ?_)
  · have h := h.1 q3
    refine wp_aload_n dX11_refusePlace_12 rfl (by decide) ?_
    refine wp_getf (t := Rv 2) 2 dX11_refusePlace_13 (fl_X11_11 rfl) kd_1 rfl rfl ?_
    refine wp_iload_n dX11_refusePlace_16 rfl ?_
    obtain ⟨o4, h⟩ := h
    obtain ⟨o5, h⟩ := h
    refine wp_aaldL (35 + 2 * x1) dX11_refusePlace_17 kd_2 sz_2 o4 o5 (⟨by omega, by omega⟩) rfl ?_
    refine wp_iload_n dX11_refusePlace_18 rfl ?_
    refine wp_callV (e1 := 0) (as := [Iv x2]) (S := []) dX11_refusePlace_19 (cs_X11_158 rfl) (isL_row o4 o5).k rfl rfl (Nat.le_of_ble_eq_true rfl) (Nat.le_of_ble_eq_true rfl) h (fun v6 M6 q6 r6 => ?_)
    obtain ⟨z6, rfl, hz6⟩ := retV_z r6 rfl
    have h := q6
    refine wp_if_eq (tgt := 29) dX11_refusePlace_22 (by decide) (by have := hz6; omega) (fun q7 => ?_) (fun q7 => ?_)
    · have h := h.1 q7
      refine wp_aload_n dX11_refusePlace_29 rfl (by decide) ?_
      refine wp_iconst dX11_refusePlace_30 ?_
      refine wp_callV (e1 := 0) (as := [Iv 2]) (S := []) dX11_refusePlace_31 (cs_X11_117 rfl) kd_1 rfl rfl (Nat.le_of_ble_eq_true rfl) (Nat.le_of_ble_eq_true rfl) h (fun v8 M8 q8 r8 => ?_)
      obtain ⟨z8, rfl⟩ := retV_i r8 rfl
      have h := q8
      exact wp_iret dX11_refusePlace_34 rfl (Or.inr ⟨rfl, rfl, rfl, by decide⟩) rfl h
    · have h := h.2 q7
      refine wp_iconst dX11_refusePlace_25 ?_
      refine wp_goto (tgt := 34) dX11_refusePlace_26 (by decide) ?_
      exact wp_iret dX11_refusePlace_34 rfl (Or.inr ⟨rfl, rfl, rfl, by decide⟩) rfl h
  · have h := h.2 q3
    refine wp_iload_n dX11_refusePlace_10 rfl ?_
    exact wp_iret dX11_refusePlace_11 rfl (Or.inr ⟨rfl, rfl, rfl, by decide⟩) rfl h
theorem eX11_refusePlace {x1 x2 : Int}  {M : Mem} {Q : Vl → Mem → Prop} (h : cl 0 yX11_refuseRow [Rv 1, Iv x1] M (QI (fun z1 M1 => (inr z1 ∧ ((z1 = 0 → 0 ≤ x1 ∧ (x1 < 6 ∧ (cl 0 yX3_has [Rv (35 + 2 * x1), Iv x2] M1 (QI (fun z6 M6 => ((z6 = 0 → cl 0 yX11_found [Rv 1, Iv 2] M6 (QI (fun z8 M8 => (Q (Iv z8) M8)))) ∧ (z6 ≠ 0 → Q (Iv 0) M6))))))) ∧ (z1 ≠ 0 → Q (Iv z1) M1)))))) : cl 0 yX11_refusePlace [Rv 1, Iv x1, Iv x2] M Q := enterG (by decide +kernel) (by exact Or.inr (Or.inl rfl)) (Nat.le_of_ble_eq_true rfl) rfl (gX11_refusePlace h)
theorem gX11_refuseText {x1 : Int}  {M : Mem} {Q : Vl → Mem → Prop} (h : cl 0 yX11_noText [Iv x1] M (QI (fun z1 M1 => ((z1 = 0 → 0 ≤ x1 ∧ (x1 < 4 ∧ (cl 0 yX3_isMissing [Rv (47 + 2 * x1)] M1 (QI (fun z5 M5 => ((z5 = 0 → Q (Iv 0) M5) ∧ (z5 ≠ 0 → cl 0 yX11_found [Rv 1, Iv 1] M5 (QI (fun z7 M7 => (Q (Iv z7) M7)))))))))) ∧ (z1 ≠ 0 → Q (Iv (-1)) M1))))) : wp 0 yX11_refuseText 0 [some (Rv 1), some (Iv x1)] [] M Q := by
  refine wp_iload_n dX11_refuseText_0 rfl ?_
  refine wp_callS (e1 := 0) (as := [Iv x1]) (S := []) dX11_refuseText_1 (cs_X11_152 rfl) rfl rfl (Nat.le_of_ble_eq_true rfl) (Nat.le_of_ble_eq_true rfl) h (fun v1 M1 q1 r1 => ?_)
  obtain ⟨z1, rfl, hz1⟩ := retV_z r1 rfl
  have h := q1
  refine wp_if_eq (tgt := 9) dX11_refuseText_4 (by decide) (by have := hz1; omega) (fun q2 => ?_) (fun q2 => ?_)
  · have h := h.1 q2
    refine wp_aload_n dX11_refuseText_9 rfl (by decide) ?_
    refine wp_getf (t := Rv 3) 3 dX11_refuseText_10 (fl_X11_15 rfl) kd_1 rfl rfl ?_
    refine wp_iload_n dX11_refuseText_13 rfl ?_
    obtain ⟨o3, h⟩ := h
    obtain ⟨o4, h⟩ := h
    refine wp_aaldL (47 + 2 * x1) dX11_refuseText_14 kd_3 sz_3 o3 o4 (⟨by omega, by omega⟩) rfl ?_
    refine wp_callV (e1 := 0) (as := []) (S := []) dX11_refuseText_15 (cs_X11_138 rfl) (isL_text o3 o4).k rfl rfl (Nat.le_of_ble_eq_true rfl) (Nat.le_of_ble_eq_true rfl) h (fun v5 M5 q5 r5 => ?_)
    obtain ⟨z5, rfl, hz5⟩ := retV_z r5 rfl
    have h := q5
    refine wp_if_eq (tgt := 29) dX11_refuseText_18 (by decide) (by have := hz5; omega) (fun q6 => ?_) (fun q6 => ?_)
    · have h := h.1 q6
      refine wp_iconst dX11_refuseText_29 ?_
      exact wp_iret dX11_refuseText_30 rfl (Or.inr ⟨rfl, rfl, rfl, by decide⟩) rfl h
    · have h := h.2 q6
      refine wp_aload_n dX11_refuseText_21 rfl (by decide) ?_
      refine wp_iconst dX11_refuseText_22 ?_
      refine wp_callV (e1 := 0) (as := [Iv 1]) (S := []) dX11_refuseText_23 (cs_X11_117 rfl) kd_1 rfl rfl (Nat.le_of_ble_eq_true rfl) (Nat.le_of_ble_eq_true rfl) h (fun v7 M7 q7 r7 => ?_)
      obtain ⟨z7, rfl⟩ := retV_i r7 rfl
      have h := q7
      refine wp_goto (tgt := 30) dX11_refuseText_26 (by decide) ?_
      exact wp_iret dX11_refuseText_30 rfl (Or.inr ⟨rfl, rfl, rfl, by decide⟩) rfl h
  · have h := h.2 q2
    refine wp_iconst dX11_refuseText_7 ?_
    exact wp_iret dX11_refuseText_8 rfl (Or.inr ⟨rfl, rfl, rfl, by decide⟩) rfl h
theorem eX11_refuseText {x1 : Int}  {M : Mem} {Q : Vl → Mem → Prop} (h : cl 0 yX11_noText [Iv x1] M (QI (fun z1 M1 => ((z1 = 0 → 0 ≤ x1 ∧ (x1 < 4 ∧ (cl 0 yX3_isMissing [Rv (47 + 2 * x1)] M1 (QI (fun z5 M5 => ((z5 = 0 → Q (Iv 0) M5) ∧ (z5 ≠ 0 → cl 0 yX11_found [Rv 1, Iv 1] M5 (QI (fun z7 M7 => (Q (Iv z7) M7)))))))))) ∧ (z1 ≠ 0 → Q (Iv (-1)) M1))))) : cl 0 yX11_refuseText [Rv 1, Iv x1] M Q := enterG (by decide +kernel) (by exact Or.inr (Or.inl rfl)) (Nat.le_of_ble_eq_true rfl) rfl (gX11_refuseText h)
theorem gX11_refuseWord {x1 : Int}  {M : Mem} {Q : Vl → Mem → Prop} (h : cl 0 yX11_refuseWords [Rv 1, Iv x1, Iv x1] M (QI (fun z1 M1 => (Q (Iv z1) M1)))) : wp 0 yX11_refuseWord 0 [some (Rv 1), some (Iv x1)] [] M Q := by
  refine wp_aload_n dX11_refuseWord_0 rfl (by decide) ?_
  refine wp_iload_n dX11_refuseWord_1 rfl ?_
  refine wp_iload_n dX11_refuseWord_2 rfl ?_
  refine wp_callV (e1 := 0) (as := [Iv x1, Iv x1]) (S := []) dX11_refuseWord_3 (cs_X11_183 rfl) kd_1 rfl rfl (Nat.le_of_ble_eq_true rfl) (Nat.le_of_ble_eq_true rfl) h (fun v1 M1 q1 r1 => ?_)
  obtain ⟨z1, rfl⟩ := retV_i r1 rfl
  have h := q1
  exact wp_iret dX11_refuseWord_6 rfl (Or.inr ⟨rfl, rfl, rfl, by decide⟩) rfl h
theorem eX11_refuseWord {x1 : Int}  {M : Mem} {Q : Vl → Mem → Prop} (h : cl 0 yX11_refuseWords [Rv 1, Iv x1, Iv x1] M (QI (fun z1 M1 => (Q (Iv z1) M1)))) : cl 0 yX11_refuseWord [Rv 1, Iv x1] M Q := enterG (by decide +kernel) (by exact Or.inr (Or.inl rfl)) (Nat.le_of_ble_eq_true rfl) rfl (gX11_refuseWord h)
theorem gX11_refuseWords {x1 x2 : Int}  {M : Mem} {Q : Vl → Mem → Prop} (h : cl 0 yX11_noWord [Iv x1] M (QI (fun z1 M1 => ((z1 ≠ 0 → Q (Iv (-1)) M1) ∧ (z1 = 0 → cl 0 yX11_noWord [Iv x2] M1 (QI (fun z3 M3 => ((z3 = 0 → 0 ≤ x1 ∧ (x1 < 8 ∧ (cl 0 yX3_isMissing [Rv ((55 + 3 * x1) + 1)] M3 (QI (fun z7 M7 => ((z7 ≠ 0 → cl 0 yX11_found [Rv 1, Iv 1] M7 (QI (fun z9 M9 => (Q (Iv z9) M9)))) ∧ (z7 = 0 → 0 ≤ x2 ∧ (x2 < 8 ∧ (cl 0 yX3_isMissing [Rv ((55 + 3 * x2) + 1)] M7 (QI (fun z12 M12 => ((z12 = 0 → Q (Iv 0) M12) ∧ (z12 ≠ 0 → cl 0 yX11_found [Rv 1, Iv 1] M12 (QI (fun z14 M14 => (Q (Iv z14) M14)))))))))))))))) ∧ (z3 ≠ 0 → Q (Iv (-1)) M3))))))))) : wp 0 yX11_refuseWords 0 [some (Rv 1), some (Iv x1), some (Iv x2)] [] M Q := by
  refine wp_iload_n dX11_refuseWords_0 rfl ?_
  refine wp_callS (e1 := 0) (as := [Iv x1]) (S := []) dX11_refuseWords_1 (cs_X11_168 rfl) rfl rfl (Nat.le_of_ble_eq_true rfl) (Nat.le_of_ble_eq_true rfl) h (fun v1 M1 q1 r1 => ?_)
  obtain ⟨z1, rfl, hz1⟩ := retV_z r1 rfl
  have h := q1
  refine wp_if_ne (tgt := 14) dX11_refuseWords_4 (by decide) (by have := hz1; omega) (fun q2 => ?_) (fun q2 => ?_)
  · have h := h.1 q2
    refine wp_iconst dX11_refuseWords_14 ?_
    exact wp_iret dX11_refuseWords_15 rfl (Or.inr ⟨rfl, rfl, rfl, by decide⟩) rfl h
  · have h := h.2 q2
    refine wp_iload_n dX11_refuseWords_7 rfl ?_
    refine wp_callS (e1 := 0) (as := [Iv x2]) (S := []) dX11_refuseWords_8 (cs_X11_168 rfl) rfl rfl (Nat.le_of_ble_eq_true rfl) (Nat.le_of_ble_eq_true rfl) h (fun v3 M3 q3 r3 => ?_)
    obtain ⟨z3, rfl, hz3⟩ := retV_z r3 rfl
    have h := q3
    refine wp_if_eq (tgt := 16) dX11_refuseWords_11 (by decide) (by have := hz3; omega) (fun q4 => ?_) (fun q4 => ?_)
    · have h := h.1 q4
      refine wp_aload_n dX11_refuseWords_16 rfl (by decide) ?_
      refine wp_getf (t := Rv 4) 4 dX11_refuseWords_17 (fl_X11_20 rfl) kd_1 rfl rfl ?_
      refine wp_iload_n dX11_refuseWords_20 rfl ?_
      obtain ⟨o5, h⟩ := h
      obtain ⟨o6, h⟩ := h
      refine wp_aaldW (55 + 3 * x1) dX11_refuseWords_21 kd_4 sz_4 o5 o6 (⟨by omega, by omega⟩) rfl ?_
      refine wp_getf (t := Rv ((55 + 3 * x1) + 1)) ((55 + 3 * x1) + 1) dX11_refuseWords_22 (fl_X11_161 rfl) (isW_word o5 o6).k rfl rfl ?_
      refine wp_callV (e1 := 0) (as := []) (S := []) dX11_refuseWords_25 (cs_X11_138 rfl) (isW_word o5 o6).l.k rfl rfl (Nat.le_of_ble_eq_true rfl) (Nat.le_of_ble_eq_true rfl) h (fun v7 M7 q7 r7 => ?_)
      obtain ⟨z7, rfl, hz7⟩ := retV_z r7 rfl
      have h := q7
      refine wp_if_ne (tgt := 46) dX11_refuseWords_28 (by decide) (by have := hz7; omega) (fun q8 => ?_) (fun q8 => ?_)
      · have h := h.1 q8
        refine wp_aload_n dX11_refuseWords_46 rfl (by decide) ?_
        refine wp_iconst dX11_refuseWords_47 ?_
        refine wp_callV (e1 := 0) (as := [Iv 1]) (S := []) dX11_refuseWords_48 (cs_X11_117 rfl) kd_1 rfl rfl (Nat.le_of_ble_eq_true rfl) (Nat.le_of_ble_eq_true rfl) h (fun v9 M9 q9 r9 => ?_)
        obtain ⟨z9, rfl⟩ := retV_i r9 rfl
        have h := q9
        refine wp_goto (tgt := 55) dX11_refuseWords_51 (by decide) ?_
        exact wp_iret dX11_refuseWords_55 rfl (Or.inr ⟨rfl, rfl, rfl, by decide⟩) rfl h
      · have h := h.2 q8
        refine wp_aload_n dX11_refuseWords_31 rfl (by decide) ?_
        refine wp_getf (t := Rv 4) 4 dX11_refuseWords_32 (fl_X11_20 rfl) kd_1 rfl rfl ?_
        refine wp_iload_n dX11_refuseWords_35 rfl ?_
        obtain ⟨o10, h⟩ := h
        obtain ⟨o11, h⟩ := h
        refine wp_aaldW (55 + 3 * x2) dX11_refuseWords_36 kd_4 sz_4 o10 o11 (⟨by omega, by omega⟩) rfl ?_
        refine wp_getf (t := Rv ((55 + 3 * x2) + 1)) ((55 + 3 * x2) + 1) dX11_refuseWords_37 (fl_X11_161 rfl) (isW_word o10 o11).k rfl rfl ?_
        refine wp_callV (e1 := 0) (as := []) (S := []) dX11_refuseWords_40 (cs_X11_138 rfl) (isW_word o10 o11).l.k rfl rfl (Nat.le_of_ble_eq_true rfl) (Nat.le_of_ble_eq_true rfl) h (fun v12 M12 q12 r12 => ?_)
        obtain ⟨z12, rfl, hz12⟩ := retV_z r12 rfl
        have h := q12
        refine wp_if_eq (tgt := 54) dX11_refuseWords_43 (by decide) (by have := hz12; omega) (fun q13 => ?_) (fun q13 => ?_)
        · have h := h.1 q13
          refine wp_iconst dX11_refuseWords_54 ?_
          exact wp_iret dX11_refuseWords_55 rfl (Or.inr ⟨rfl, rfl, rfl, by decide⟩) rfl h
        · have h := h.2 q13
          refine wp_aload_n dX11_refuseWords_46 rfl (by decide) ?_
          refine wp_iconst dX11_refuseWords_47 ?_
          refine wp_callV (e1 := 0) (as := [Iv 1]) (S := []) dX11_refuseWords_48 (cs_X11_117 rfl) kd_1 rfl rfl (Nat.le_of_ble_eq_true rfl) (Nat.le_of_ble_eq_true rfl) h (fun v14 M14 q14 r14 => ?_)
          obtain ⟨z14, rfl⟩ := retV_i r14 rfl
          have h := q14
          refine wp_goto (tgt := 55) dX11_refuseWords_51 (by decide) ?_
          exact wp_iret dX11_refuseWords_55 rfl (Or.inr ⟨rfl, rfl, rfl, by decide⟩) rfl h
    · have h := h.2 q4
      refine wp_iconst dX11_refuseWords_14 ?_
      exact wp_iret dX11_refuseWords_15 rfl (Or.inr ⟨rfl, rfl, rfl, by decide⟩) rfl h
theorem eX11_refuseWords {x1 x2 : Int}  {M : Mem} {Q : Vl → Mem → Prop} (h : cl 0 yX11_noWord [Iv x1] M (QI (fun z1 M1 => ((z1 ≠ 0 → Q (Iv (-1)) M1) ∧ (z1 = 0 → cl 0 yX11_noWord [Iv x2] M1 (QI (fun z3 M3 => ((z3 = 0 → 0 ≤ x1 ∧ (x1 < 8 ∧ (cl 0 yX3_isMissing [Rv ((55 + 3 * x1) + 1)] M3 (QI (fun z7 M7 => ((z7 ≠ 0 → cl 0 yX11_found [Rv 1, Iv 1] M7 (QI (fun z9 M9 => (Q (Iv z9) M9)))) ∧ (z7 = 0 → 0 ≤ x2 ∧ (x2 < 8 ∧ (cl 0 yX3_isMissing [Rv ((55 + 3 * x2) + 1)] M7 (QI (fun z12 M12 => ((z12 = 0 → Q (Iv 0) M12) ∧ (z12 ≠ 0 → cl 0 yX11_found [Rv 1, Iv 1] M12 (QI (fun z14 M14 => (Q (Iv z14) M14)))))))))))))))) ∧ (z3 ≠ 0 → Q (Iv (-1)) M3))))))))) : cl 0 yX11_refuseWords [Rv 1, Iv x1, Iv x2] M Q := enterG (by decide +kernel) (by exact Or.inr (Or.inl rfl)) (Nat.le_of_ble_eq_true rfl) rfl (gX11_refuseWords h)
theorem gX11_refuseSet {x1 x2 : Int}  {M : Mem} {Q : Vl → Mem → Prop} (h : cl 0 yX11_noRow [Iv x2] M (QI (fun z1 M1 => ((z1 ≠ 0 → Q (Iv (-1)) M1) ∧ (z1 = 0 → inr x1 ∧ ((x1 < 1 → Q (Iv (-1)) M1) ∧ (1 ≤ x1 → ((256 ≤ x1 → Q (Iv (-1)) M1) ∧ (x1 < 256 → cl 0 yJ6_bitCount_0f7a4 [Iv x1] M1 (QI (fun z6 M6 => (inr z6 ∧ ((z6 ≤ 4 → cl 0 yX5_begin [Rv 23] M6 (QV (fun M9 => (wp 0 yX11_refuseSet 38 [some (Rv 1), some (Iv x1), some (Iv x2), some (Iv 0)] [] M9 Q)))) ∧ (4 < z6 → Q (Iv (-1)) M6)))))))))))))) : wp 0 yX11_refuseSet 0 [some (Rv 1), some (Iv x1), some (Iv x2), none] [] M Q := by
  refine wp_iload_n dX11_refuseSet_0 rfl ?_
  refine wp_callS (e1 := 0) (as := [Iv x2]) (S := []) dX11_refuseSet_1 (cs_X11_113 rfl) rfl rfl (Nat.le_of_ble_eq_true rfl) (Nat.le_of_ble_eq_true rfl) h (fun v1 M1 q1 r1 => ?_)
  obtain ⟨z1, rfl, hz1⟩ := retV_z r1 rfl
  have h := q1
  refine wp_if_ne (tgt := 27) dX11_refuseSet_4 (by decide) (by have := hz1; omega) (fun q2 => ?_) (fun q2 => ?_)
  · have h := h.1 q2
    refine wp_iconst dX11_refuseSet_27 ?_
    exact wp_iret dX11_refuseSet_28 rfl (Or.inr ⟨rfl, rfl, rfl, by decide⟩) rfl h
  · have h := h.2 q2
    refine wp_iload_n dX11_refuseSet_7 rfl ?_
    refine wp_iconst dX11_refuseSet_8 ?_
    obtain ⟨o3, h⟩ := h
    refine wp_icmp_lt (tgt := 27) dX11_refuseSet_9 (by decide) o3 (by decide) (fun q4 => ?_) (fun q4 => ?_)
    · have h := h.1 q4
      refine wp_iconst dX11_refuseSet_27 ?_
      exact wp_iret dX11_refuseSet_28 rfl (Or.inr ⟨rfl, rfl, rfl, by decide⟩) rfl h
    · have h := h.2 q4
      refine wp_iload_n dX11_refuseSet_12 rfl ?_
      refine wp_sipush dX11_refuseSet_13 (by decide) ?_
      refine wp_icmp_ge (tgt := 27) dX11_refuseSet_16 (by decide) o3 (by decide) (fun q5 => ?_) (fun q5 => ?_)
      · have h := h.1 q5
        refine wp_iconst dX11_refuseSet_27 ?_
        exact wp_iret dX11_refuseSet_28 rfl (Or.inr ⟨rfl, rfl, rfl, by decide⟩) rfl h
      · have h := h.2 q5
        refine wp_iload_n dX11_refuseSet_19 rfl ?_
        refine wp_callS (e1 := 0) (as := [Iv x1]) (S := []) dX11_refuseSet_20 (cs_X11_357 rfl) rfl rfl (Nat.le_of_ble_eq_true rfl) (Nat.le_of_ble_eq_true rfl) h (fun v6 M6 q6 r6 => ?_)
        obtain ⟨z6, rfl⟩ := retV_i r6 rfl
        have h := q6
        refine wp_iconst dX11_refuseSet_23 ?_
        obtain ⟨o7, h⟩ := h
        refine wp_icmp_le (tgt := 29) dX11_refuseSet_24 (by decide) o7 (by decide) (fun q8 => ?_) (fun q8 => ?_)
        · have h := h.1 q8
          refine wp_aload_n dX11_refuseSet_29 rfl (by decide) ?_
          refine wp_getf (t := Rv 23) 23 dX11_refuseSet_30 (fl_X11_82 rfl) kd_1 rfl rfl ?_
          refine wp_callV (e1 := 0) (as := []) (S := []) dX11_refuseSet_33 (cs_X11_361 rfl) kd_23 rfl rfl (Nat.le_of_ble_eq_true rfl) (Nat.le_of_ble_eq_true rfl) h (fun v9 M9 q9 r9 => ?_)
          have h := q9
          refine wp_iconst dX11_refuseSet_36 ?_
          refine wp_istore_n (L2 := [some (Rv 1), some (Iv x1), some (Iv x2), some (Iv 0)]) dX11_refuseSet_37 (Nat.le_of_ble_eq_true rfl) (Nat.le_of_ble_eq_true rfl) rfl ?_
          exact h
        · have h := h.2 q8
          refine wp_iconst dX11_refuseSet_27 ?_
          exact wp_iret dX11_refuseSet_28 rfl (Or.inr ⟨rfl, rfl, rfl, by decide⟩) rfl h
theorem eX11_refuseSet {x1 x2 : Int}  {M : Mem} {Q : Vl → Mem → Prop} (h : cl 0 yX11_noRow [Iv x2] M (QI (fun z1 M1 => ((z1 ≠ 0 → Q (Iv (-1)) M1) ∧ (z1 = 0 → inr x1 ∧ ((x1 < 1 → Q (Iv (-1)) M1) ∧ (1 ≤ x1 → ((256 ≤ x1 → Q (Iv (-1)) M1) ∧ (x1 < 256 → cl 0 yJ6_bitCount_0f7a4 [Iv x1] M1 (QI (fun z6 M6 => (inr z6 ∧ ((z6 ≤ 4 → cl 0 yX5_begin [Rv 23] M6 (QV (fun M9 => (wp 0 yX11_refuseSet 38 [some (Rv 1), some (Iv x1), some (Iv x2), some (Iv 0)] [] M9 Q)))) ∧ (4 < z6 → Q (Iv (-1)) M6)))))))))))))) : cl 0 yX11_refuseSet [Rv 1, Iv x1, Iv x2] M Q := enterG (by decide +kernel) (by exact Or.inr (Or.inl rfl)) (Nat.le_of_ble_eq_true rfl) rfl (gX11_refuseSet h)
theorem gX11_refuseSet_38 {x1 x2 x3 : Int}  {M : Mem} {Q : Vl → Mem → Prop} (h : inr x3 ∧ ((8 ≤ x3 → cl 0 yX5_states [Rv 23] M (QI (fun z3 M3 => (inr z3 ∧ ((z3 ≤ 20000 → Q (Iv 0) M3) ∧ (20000 < z3 → Q (Iv (-6)) M3)))))) ∧ (x3 < 8 → inr x1 ∧ (0 ≤ x3 ∧ (x3 < 32 ∧ (inr ((x1 / 2 ^ Int.toNat x3) % 2 ^ 1) ∧ ((((x1 / 2 ^ Int.toNat x3) % 2 ^ 1) ≠ 0 → cl 0 yX3_isMissing [Rv ((55 + 3 * x3) + 1)] M (QI (fun z11 M11 => ((z11 = 0 → cl 0 yX5_choose [Rv 23, Rv ((55 + 3 * x3) + 1)] M11 (QV (fun M13 => (wp 0 yX11_refuseSet 38 [some (Rv 1), some (Iv x1), some (Iv x2), some (Iv (x3 + 1))] [] M13 Q)))) ∧ (z11 ≠ 0 → cl 0 yX11_found [Rv 1, Iv 1] M11 (QI (fun z14 M14 => (Q (Iv z14) M14)))))))) ∧ (((x1 / 2 ^ Int.toNat x3) % 2 ^ 1) = 0 → wp 0 yX11_refuseSet 38 [some (Rv 1), some (Iv x1), some (Iv x2), some (Iv (x3 + 1))] [] M Q)))))))) : wp 0 yX11_refuseSet 38 [some (Rv 1), some (Iv x1), some (Iv x2), some (Iv x3)] [] M Q := by
  refine wp_iload_n dX11_refuseSet_38 rfl ?_
  refine wp_bipush dX11_refuseSet_39 (by decide) ?_
  obtain ⟨o1, h⟩ := h
  refine wp_icmp_ge (tgt := 98) dX11_refuseSet_41 (by decide) o1 (by decide) (fun q2 => ?_) (fun q2 => ?_)
  · have h := h.1 q2
    refine wp_aload_n dX11_refuseSet_98 rfl (by decide) ?_
    refine wp_getf (t := Rv 23) 23 dX11_refuseSet_99 (fl_X11_82 rfl) kd_1 rfl rfl ?_
    refine wp_callV (e1 := 0) (as := []) (S := []) dX11_refuseSet_102 (cs_X11_365 rfl) kd_23 rfl rfl (Nat.le_of_ble_eq_true rfl) (Nat.le_of_ble_eq_true rfl) h (fun v3 M3 q3 r3 => ?_)
    obtain ⟨z3, rfl⟩ := retV_i r3 rfl
    have h := q3
    refine wp_sipush dX11_refuseSet_105 (by decide) ?_
    obtain ⟨o4, h⟩ := h
    refine wp_icmp_le (tgt := 116) dX11_refuseSet_108 (by decide) o4 (by decide) (fun q5 => ?_) (fun q5 => ?_)
    · have h := h.1 q5
      refine wp_iconst dX11_refuseSet_116 ?_
      exact wp_iret dX11_refuseSet_117 rfl (Or.inr ⟨rfl, rfl, rfl, by decide⟩) rfl h
    · have h := h.2 q5
      refine wp_bipush dX11_refuseSet_111 (by decide) ?_
      refine wp_goto (tgt := 117) dX11_refuseSet_113 (by decide) ?_
      exact wp_iret dX11_refuseSet_117 rfl (Or.inr ⟨rfl, rfl, rfl, by decide⟩) rfl h
  · have h := h.2 q2
    refine wp_iload_n dX11_refuseSet_44 rfl ?_
    refine wp_iload_n dX11_refuseSet_45 rfl ?_
    obtain ⟨o6, h⟩ := h
    obtain ⟨o7, h⟩ := h
    obtain ⟨o8, h⟩ := h
    refine wp_ishr (x1 / 2 ^ Int.toNat x3) dX11_refuseSet_46 (bits_shr o6 o7 o8) ?_
    refine wp_iconst dX11_refuseSet_47 ?_
    refine wp_iand ((x1 / 2 ^ Int.toNat x3) % 2 ^ 1) dX11_refuseSet_48 (bits_mask _ 1 (by decide)) ?_
    obtain ⟨o9, h⟩ := h
    refine wp_if_ne (tgt := 55) dX11_refuseSet_49 (by decide) o9 (fun q10 => ?_) (fun q10 => ?_)
    · have h := h.1 q10
      refine wp_aload_n dX11_refuseSet_55 rfl (by decide) ?_
      refine wp_getf (t := Rv 4) 4 dX11_refuseSet_56 (fl_X11_20 rfl) kd_1 rfl rfl ?_
      refine wp_iload_n dX11_refuseSet_59 rfl ?_
      refine wp_aaldW (55 + 3 * x3) dX11_refuseSet_60 kd_4 sz_4 o7 q2 (⟨by omega, by omega⟩) rfl ?_
      refine wp_getf (t := Rv ((55 + 3 * x3) + 1)) ((55 + 3 * x3) + 1) dX11_refuseSet_61 (fl_X11_161 rfl) (isW_word o7 q2).k rfl rfl ?_
      refine wp_callV (e1 := 0) (as := []) (S := []) dX11_refuseSet_64 (cs_X11_138 rfl) (isW_word o7 q2).l.k rfl rfl (Nat.le_of_ble_eq_true rfl) (Nat.le_of_ble_eq_true rfl) h (fun v11 M11 q11 r11 => ?_)
      obtain ⟨z11, rfl, hz11⟩ := retV_z r11 rfl
      have h := q11
      refine wp_if_eq (tgt := 76) dX11_refuseSet_67 (by decide) (by have := hz11; omega) (fun q12 => ?_) (fun q12 => ?_)
      · have h := h.1 q12
        refine wp_aload_n dX11_refuseSet_76 rfl (by decide) ?_
        refine wp_getf (t := Rv 23) 23 dX11_refuseSet_77 (fl_X11_82 rfl) kd_1 rfl rfl ?_
        refine wp_aload_n dX11_refuseSet_80 rfl (by decide) ?_
        refine wp_getf (t := Rv 4) 4 dX11_refuseSet_81 (fl_X11_20 rfl) kd_1 rfl rfl ?_
        refine wp_iload_n dX11_refuseSet_84 rfl ?_
        refine wp_aaldW (55 + 3 * x3) dX11_refuseSet_85 kd_4 sz_4 o7 q2 (⟨by omega, by omega⟩) rfl ?_
        refine wp_getf (t := Rv ((55 + 3 * x3) + 1)) ((55 + 3 * x3) + 1) dX11_refuseSet_86 (fl_X11_161 rfl) (isW_word o7 q2).k rfl rfl ?_
        refine wp_callV (e1 := 0) (as := [Rv ((55 + 3 * x3) + 1)]) (S := []) dX11_refuseSet_89 (cs_X11_363 rfl) kd_23 rfl rfl (Nat.le_of_ble_eq_true rfl) (Nat.le_of_ble_eq_true rfl) h (fun v13 M13 q13 r13 => ?_)
        have h := q13
        refine wp_iinc (L2 := [some (Rv 1), some (Iv x1), some (Iv x2), some (Iv (x3 + 1))]) dX11_refuseSet_92 rfl (Nat.le_of_ble_eq_true rfl) (Nat.le_of_ble_eq_true rfl) rfl ?_
        refine wp_goto (tgt := 38) dX11_refuseSet_95 (by decide) ?_
        exact h
      · have h := h.2 q12
        refine wp_aload_n dX11_refuseSet_70 rfl (by decide) ?_
        refine wp_iconst dX11_refuseSet_71 ?_
        refine wp_callV (e1 := 0) (as := [Iv 1]) (S := []) dX11_refuseSet_72 (cs_X11_117 rfl) kd_1 rfl rfl (Nat.le_of_ble_eq_true rfl) (Nat.le_of_ble_eq_true rfl) h (fun v14 M14 q14 r14 => ?_)
        obtain ⟨z14, rfl⟩ := retV_i r14 rfl
        have h := q14
        exact wp_iret dX11_refuseSet_75 rfl (Or.inr ⟨rfl, rfl, rfl, by decide⟩) rfl h
    · have h := h.2 q10
      refine wp_goto (tgt := 92) dX11_refuseSet_52 (by decide) ?_
      refine wp_iinc (L2 := [some (Rv 1), some (Iv x1), some (Iv x2), some (Iv (x3 + 1))]) dX11_refuseSet_92 rfl (Nat.le_of_ble_eq_true rfl) (Nat.le_of_ble_eq_true rfl) rfl ?_
      refine wp_goto (tgt := 38) dX11_refuseSet_95 (by decide) ?_
      exact h
theorem gX11_countThere_r  {M : Mem} {Q : Vl → Mem → Prop} (h : wp 0 yX11_countThere 4 [some (Rv 2), some (Iv 0), some (Iv 0)] [] M Q) : wp 0 yX11_countThere 0 [some (Rv 2), none, none] [] M Q := by
  refine wp_iconst dX11_countThere_0 ?_
  refine wp_istore_n (L2 := [some (Rv 2), some (Iv 0), none]) dX11_countThere_1 (Nat.le_of_ble_eq_true rfl) (Nat.le_of_ble_eq_true rfl) rfl ?_
  refine wp_iconst dX11_countThere_2 ?_
  refine wp_istore_n (L2 := [some (Rv 2), some (Iv 0), some (Iv 0)]) dX11_countThere_3 (Nat.le_of_ble_eq_true rfl) (Nat.le_of_ble_eq_true rfl) rfl ?_
  exact h
theorem eX11_countThere_r  {M : Mem} {Q : Vl → Mem → Prop} (h : wp 0 yX11_countThere 4 [some (Rv 2), some (Iv 0), some (Iv 0)] [] M Q) : cl 0 yX11_countThere [Rv 2] M Q := enterG (by decide +kernel) (by exact Or.inr (Or.inl rfl)) (Nat.le_of_ble_eq_true rfl) rfl (gX11_countThere_r h)
theorem gX11_countThere_r_4 {x1 x2 : Int}  {M : Mem} {Q : Vl → Mem → Prop} (h : inr x2 ∧ ((6 ≤ x2 → Q (Iv x1) M) ∧ (x2 < 6 → 0 ≤ x2 ∧ (cl 0 yX3_isMissing [Rv (35 + 2 * x2)] M (QI (fun z4 M4 => ((z4 = 0 → wp 0 yX11_countThere 4 [some (Rv 2), some (Iv (x1 + 1)), some (Iv (x2 + 1))] [] M4 Q) ∧ (z4 ≠ 0 → wp 0 yX11_countThere 4 [some (Rv 2), some (Iv (x1 + 0)), some (Iv (x2 + 1))] [] M4 Q)))))))) : wp 0 yX11_countThere 4 [some (Rv 2), some (Iv x1), some (Iv x2)] [] M Q := by
  refine wp_iload_n dX11_countThere_4 rfl ?_
  refine wp_aload_n dX11_countThere_5 rfl (by decide) ?_
  refine wp_alen dX11_countThere_6 kd_2 (by decide) (by decide) sz_2 ?_
  obtain ⟨o1, h⟩ := h
  refine wp_icmp_ge (tgt := 33) dX11_countThere_7 (by decide) o1 (by decide) (fun q2 => ?_) (fun q2 => ?_)
  · have h := h.1 q2
    refine wp_iload_n dX11_countThere_33 rfl ?_
    exact wp_iret dX11_countThere_34 rfl (Or.inr ⟨rfl, rfl, rfl, by decide⟩) rfl h
  · have h := h.2 q2
    refine wp_iload_n dX11_countThere_10 rfl ?_
    refine wp_aload_n dX11_countThere_11 rfl (by decide) ?_
    refine wp_iload_n dX11_countThere_12 rfl ?_
    obtain ⟨o3, h⟩ := h
    refine wp_aaldL (35 + 2 * x2) dX11_countThere_13 kd_2 sz_2 o3 q2 (⟨by omega, by omega⟩) rfl ?_
    refine wp_callV (e1 := 0) (as := []) (S := [Iv x1]) dX11_countThere_14 (cs_X11_138 rfl) (isL_row o3 q2).k rfl rfl (Nat.le_of_ble_eq_true rfl) (Nat.le_of_ble_eq_true rfl) h (fun v4 M4 q4 r4 => ?_)
    obtain ⟨z4, rfl, hz4⟩ := retV_z r4 rfl
    have h := q4
    refine wp_if_eq (tgt := 24) dX11_countThere_17 (by decide) (by have := hz4; omega) (fun q5 => ?_) (fun q5 => ?_)
    · have h := h.1 q5
      refine wp_iconst dX11_countThere_24 ?_
      refine wp_iadd dX11_countThere_25 ?_
      refine wp_istore_n (L2 := [some (Rv 2), some (Iv (x1 + 1)), some (Iv x2)]) dX11_countThere_26 (Nat.le_of_ble_eq_true rfl) (Nat.le_of_ble_eq_true rfl) rfl ?_
      refine wp_iinc (L2 := [some (Rv 2), some (Iv (x1 + 1)), some (Iv (x2 + 1))]) dX11_countThere_27 rfl (Nat.le_of_ble_eq_true rfl) (Nat.le_of_ble_eq_true rfl) rfl ?_
      refine wp_goto (tgt := 4) dX11_countThere_30 (by decide) ?_
      exact h
    · have h := h.2 q5
      refine wp_iconst dX11_countThere_20 ?_
      refine wp_goto (tgt := 25) dX11_countThere_21 (by decide) ?_
      refine wp_iadd dX11_countThere_25 ?_
      refine wp_istore_n (L2 := [some (Rv 2), some (Iv (x1 + 0)), some (Iv x2)]) dX11_countThere_26 (Nat.le_of_ble_eq_true rfl) (Nat.le_of_ble_eq_true rfl) rfl ?_
      refine wp_iinc (L2 := [some (Rv 2), some (Iv (x1 + 0)), some (Iv (x2 + 1))]) dX11_countThere_27 rfl (Nat.le_of_ble_eq_true rfl) (Nat.le_of_ble_eq_true rfl) rfl ?_
      refine wp_goto (tgt := 4) dX11_countThere_30 (by decide) ?_
      exact h
theorem gX11_countThere_t  {M : Mem} {Q : Vl → Mem → Prop} (h : wp 0 yX11_countThere 4 [some (Rv 3), some (Iv 0), some (Iv 0)] [] M Q) : wp 0 yX11_countThere 0 [some (Rv 3), none, none] [] M Q := by
  refine wp_iconst dX11_countThere_0 ?_
  refine wp_istore_n (L2 := [some (Rv 3), some (Iv 0), none]) dX11_countThere_1 (Nat.le_of_ble_eq_true rfl) (Nat.le_of_ble_eq_true rfl) rfl ?_
  refine wp_iconst dX11_countThere_2 ?_
  refine wp_istore_n (L2 := [some (Rv 3), some (Iv 0), some (Iv 0)]) dX11_countThere_3 (Nat.le_of_ble_eq_true rfl) (Nat.le_of_ble_eq_true rfl) rfl ?_
  exact h
theorem eX11_countThere_t  {M : Mem} {Q : Vl → Mem → Prop} (h : wp 0 yX11_countThere 4 [some (Rv 3), some (Iv 0), some (Iv 0)] [] M Q) : cl 0 yX11_countThere [Rv 3] M Q := enterG (by decide +kernel) (by exact Or.inr (Or.inl rfl)) (Nat.le_of_ble_eq_true rfl) rfl (gX11_countThere_t h)
theorem gX11_countThere_t_4 {x1 x2 : Int}  {M : Mem} {Q : Vl → Mem → Prop} (h : inr x2 ∧ ((4 ≤ x2 → Q (Iv x1) M) ∧ (x2 < 4 → 0 ≤ x2 ∧ (cl 0 yX3_isMissing [Rv (47 + 2 * x2)] M (QI (fun z4 M4 => ((z4 = 0 → wp 0 yX11_countThere 4 [some (Rv 3), some (Iv (x1 + 1)), some (Iv (x2 + 1))] [] M4 Q) ∧ (z4 ≠ 0 → wp 0 yX11_countThere 4 [some (Rv 3), some (Iv (x1 + 0)), some (Iv (x2 + 1))] [] M4 Q)))))))) : wp 0 yX11_countThere 4 [some (Rv 3), some (Iv x1), some (Iv x2)] [] M Q := by
  refine wp_iload_n dX11_countThere_4 rfl ?_
  refine wp_aload_n dX11_countThere_5 rfl (by decide) ?_
  refine wp_alen dX11_countThere_6 kd_3 (by decide) (by decide) sz_3 ?_
  obtain ⟨o1, h⟩ := h
  refine wp_icmp_ge (tgt := 33) dX11_countThere_7 (by decide) o1 (by decide) (fun q2 => ?_) (fun q2 => ?_)
  · have h := h.1 q2
    refine wp_iload_n dX11_countThere_33 rfl ?_
    exact wp_iret dX11_countThere_34 rfl (Or.inr ⟨rfl, rfl, rfl, by decide⟩) rfl h
  · have h := h.2 q2
    refine wp_iload_n dX11_countThere_10 rfl ?_
    refine wp_aload_n dX11_countThere_11 rfl (by decide) ?_
    refine wp_iload_n dX11_countThere_12 rfl ?_
    obtain ⟨o3, h⟩ := h
    refine wp_aaldL (47 + 2 * x2) dX11_countThere_13 kd_3 sz_3 o3 q2 (⟨by omega, by omega⟩) rfl ?_
    refine wp_callV (e1 := 0) (as := []) (S := [Iv x1]) dX11_countThere_14 (cs_X11_138 rfl) (isL_text o3 q2).k rfl rfl (Nat.le_of_ble_eq_true rfl) (Nat.le_of_ble_eq_true rfl) h (fun v4 M4 q4 r4 => ?_)
    obtain ⟨z4, rfl, hz4⟩ := retV_z r4 rfl
    have h := q4
    refine wp_if_eq (tgt := 24) dX11_countThere_17 (by decide) (by have := hz4; omega) (fun q5 => ?_) (fun q5 => ?_)
    · have h := h.1 q5
      refine wp_iconst dX11_countThere_24 ?_
      refine wp_iadd dX11_countThere_25 ?_
      refine wp_istore_n (L2 := [some (Rv 3), some (Iv (x1 + 1)), some (Iv x2)]) dX11_countThere_26 (Nat.le_of_ble_eq_true rfl) (Nat.le_of_ble_eq_true rfl) rfl ?_
      refine wp_iinc (L2 := [some (Rv 3), some (Iv (x1 + 1)), some (Iv (x2 + 1))]) dX11_countThere_27 rfl (Nat.le_of_ble_eq_true rfl) (Nat.le_of_ble_eq_true rfl) rfl ?_
      refine wp_goto (tgt := 4) dX11_countThere_30 (by decide) ?_
      exact h
    · have h := h.2 q5
      refine wp_iconst dX11_countThere_20 ?_
      refine wp_goto (tgt := 25) dX11_countThere_21 (by decide) ?_
      refine wp_iadd dX11_countThere_25 ?_
      refine wp_istore_n (L2 := [some (Rv 3), some (Iv (x1 + 0)), some (Iv x2)]) dX11_countThere_26 (Nat.le_of_ble_eq_true rfl) (Nat.le_of_ble_eq_true rfl) rfl ?_
      refine wp_iinc (L2 := [some (Rv 3), some (Iv (x1 + 0)), some (Iv (x2 + 1))]) dX11_countThere_27 rfl (Nat.le_of_ble_eq_true rfl) (Nat.le_of_ble_eq_true rfl) rfl ?_
      refine wp_goto (tgt := 4) dX11_countThere_30 (by decide) ?_
      exact h
theorem gX11_countWords {x1 : Int}  {M : Mem} {Q : Vl → Mem → Prop} (h : wp 0 yX11_countWords 4 [some (Rv 1), some (Iv x1), some (Iv 0), some (Iv 0)] [] M Q) : wp 0 yX11_countWords 0 [some (Rv 1), some (Iv x1), none, none] [] M Q := by
  refine wp_iconst dX11_countWords_0 ?_
  refine wp_istore_n (L2 := [some (Rv 1), some (Iv x1), some (Iv 0), none]) dX11_countWords_1 (Nat.le_of_ble_eq_true rfl) (Nat.le_of_ble_eq_true rfl) rfl ?_
  refine wp_iconst dX11_countWords_2 ?_
  refine wp_istore_n (L2 := [some (Rv 1), some (Iv x1), some (Iv 0), some (Iv 0)]) dX11_countWords_3 (Nat.le_of_ble_eq_true rfl) (Nat.le_of_ble_eq_true rfl) rfl ?_
  exact h
theorem eX11_countWords {x1 : Int}  {M : Mem} {Q : Vl → Mem → Prop} (h : wp 0 yX11_countWords 4 [some (Rv 1), some (Iv x1), some (Iv 0), some (Iv 0)] [] M Q) : cl 0 yX11_countWords [Rv 1, Iv x1] M Q := enterG (by decide +kernel) (by exact Or.inr (Or.inl rfl)) (Nat.le_of_ble_eq_true rfl) rfl (gX11_countWords h)
theorem gX11_countWords_4 {x1 x2 x3 : Int}  {M : Mem} {Q : Vl → Mem → Prop} (h : inr x3 ∧ ((8 ≤ x3 → Q (Iv x2) M) ∧ (x3 < 8 → 0 ≤ x3 ∧ (cl 0 yX3_isMissing [Rv ((55 + 3 * x3) + 1)] M (QI (fun z4 M4 => ((z4 ≠ 0 → wp 0 yX11_countWords 4 [some (Rv 1), some (Iv x1), some (Iv (x2 + 0)), some (Iv (x3 + 1))] [] M4 Q) ∧ (z4 = 0 → inr (M4 (55 + 3 * x3) 1) ∧ (inr x1 ∧ (((M4 (55 + 3 * x3) 1) < x1 → wp 0 yX11_countWords 4 [some (Rv 1), some (Iv x1), some (Iv (x2 + 0)), some (Iv (x3 + 1))] [] M4 Q) ∧ (x1 ≤ (M4 (55 + 3 * x3) 1) → wp 0 yX11_countWords 4 [some (Rv 1), some (Iv x1), some (Iv (x2 + 1)), some (Iv (x3 + 1))] [] M4 Q))))))))))) : wp 0 yX11_countWords 4 [some (Rv 1), some (Iv x1), some (Iv x2), some (Iv x3)] [] M Q := by
  refine wp_iload_n dX11_countWords_4 rfl ?_
  refine wp_bipush dX11_countWords_5 (by decide) ?_
  obtain ⟨o1, h⟩ := h
  refine wp_icmp_ge (tgt := 52) dX11_countWords_7 (by decide) o1 (by decide) (fun q2 => ?_) (fun q2 => ?_)
  · have h := h.1 q2
    refine wp_iload_n dX11_countWords_52 rfl ?_
    exact wp_iret dX11_countWords_53 rfl (Or.inr ⟨rfl, rfl, rfl, by decide⟩) rfl h
  · have h := h.2 q2
    refine wp_iload_n dX11_countWords_10 rfl ?_
    refine wp_aload_n dX11_countWords_11 rfl (by decide) ?_
    refine wp_getf (t := Rv 4) 4 dX11_countWords_12 (fl_X11_20 rfl) kd_1 rfl rfl ?_
    refine wp_iload_n dX11_countWords_15 rfl ?_
    obtain ⟨o3, h⟩ := h
    refine wp_aaldW (55 + 3 * x3) dX11_countWords_16 kd_4 sz_4 o3 q2 (⟨by omega, by omega⟩) rfl ?_
    refine wp_getf (t := Rv ((55 + 3 * x3) + 1)) ((55 + 3 * x3) + 1) dX11_countWords_17 (fl_X11_161 rfl) (isW_word o3 q2).k rfl rfl ?_
    refine wp_callV (e1 := 0) (as := []) (S := [Iv x2]) dX11_countWords_20 (cs_X11_138 rfl) (isW_word o3 q2).l.k rfl rfl (Nat.le_of_ble_eq_true rfl) (Nat.le_of_ble_eq_true rfl) h (fun v4 M4 q4 r4 => ?_)
    obtain ⟨z4, rfl, hz4⟩ := retV_z r4 rfl
    have h := q4
    refine wp_if_ne (tgt := 43) dX11_countWords_23 (by decide) (by have := hz4; omega) (fun q5 => ?_) (fun q5 => ?_)
    · have h := h.1 q5
      refine wp_iconst dX11_countWords_43 ?_
      refine wp_iadd dX11_countWords_44 ?_
      refine wp_istore_n (L2 := [some (Rv 1), some (Iv x1), some (Iv (x2 + 0)), some (Iv x3)]) dX11_countWords_45 (Nat.le_of_ble_eq_true rfl) (Nat.le_of_ble_eq_true rfl) rfl ?_
      refine wp_iinc (L2 := [some (Rv 1), some (Iv x1), some (Iv (x2 + 0)), some (Iv (x3 + 1))]) dX11_countWords_46 rfl (Nat.le_of_ble_eq_true rfl) (Nat.le_of_ble_eq_true rfl) rfl ?_
      refine wp_goto (tgt := 4) dX11_countWords_49 (by decide) ?_
      exact h
    · have h := h.2 q5
      refine wp_aload_n dX11_countWords_26 rfl (by decide) ?_
      refine wp_getf (t := Rv 4) 4 dX11_countWords_27 (fl_X11_20 rfl) kd_1 rfl rfl ?_
      refine wp_iload_n dX11_countWords_30 rfl ?_
      refine wp_aaldW (55 + 3 * x3) dX11_countWords_31 kd_4 sz_4 o3 q2 (⟨by omega, by omega⟩) rfl ?_
      refine wp_getf (t := Iv (M4 (55 + 3 * x3) 1)) (M4 (55 + 3 * x3) 1) dX11_countWords_32 (fl_X11_196 rfl) (isW_word o3 q2).k rfl rfl ?_
      refine wp_iload_n dX11_countWords_35 rfl ?_
      obtain ⟨o6, h⟩ := h
      obtain ⟨o7, h⟩ := h
      refine wp_icmp_lt (tgt := 43) dX11_countWords_36 (by decide) o6 o7 (fun q8 => ?_) (fun q8 => ?_)
      · have h := h.1 q8
        refine wp_iconst dX11_countWords_43 ?_
        refine wp_iadd dX11_countWords_44 ?_
        refine wp_istore_n (L2 := [some (Rv 1), some (Iv x1), some (Iv (x2 + 0)), some (Iv x3)]) dX11_countWords_45 (Nat.le_of_ble_eq_true rfl) (Nat.le_of_ble_eq_true rfl) rfl ?_
        refine wp_iinc (L2 := [some (Rv 1), some (Iv x1), some (Iv (x2 + 0)), some (Iv (x3 + 1))]) dX11_countWords_46 rfl (Nat.le_of_ble_eq_true rfl) (Nat.le_of_ble_eq_true rfl) rfl ?_
        refine wp_goto (tgt := 4) dX11_countWords_49 (by decide) ?_
        exact h
      · have h := h.2 q8
        refine wp_iconst dX11_countWords_39 ?_
        refine wp_goto (tgt := 44) dX11_countWords_40 (by decide) ?_
        refine wp_iadd dX11_countWords_44 ?_
        refine wp_istore_n (L2 := [some (Rv 1), some (Iv x1), some (Iv (x2 + 1)), some (Iv x3)]) dX11_countWords_45 (Nat.le_of_ble_eq_true rfl) (Nat.le_of_ble_eq_true rfl) rfl ?_
        refine wp_iinc (L2 := [some (Rv 1), some (Iv x1), some (Iv (x2 + 1)), some (Iv (x3 + 1))]) dX11_countWords_46 rfl (Nat.le_of_ble_eq_true rfl) (Nat.le_of_ble_eq_true rfl) rfl ?_
        refine wp_goto (tgt := 4) dX11_countWords_49 (by decide) ?_
        exact h
theorem gX11_countLetters  {M : Mem} {Q : Vl → Mem → Prop} (h : wp 0 yX11_countLetters 4 [some (Rv 1), some (Iv 0), some (Iv 0)] [] M Q) : wp 0 yX11_countLetters 0 [some (Rv 1), none, none] [] M Q := by
  refine wp_iconst dX11_countLetters_0 ?_
  refine wp_istore_n (L2 := [some (Rv 1), some (Iv 0), none]) dX11_countLetters_1 (Nat.le_of_ble_eq_true rfl) (Nat.le_of_ble_eq_true rfl) rfl ?_
  refine wp_iconst dX11_countLetters_2 ?_
  refine wp_istore_n (L2 := [some (Rv 1), some (Iv 0), some (Iv 0)]) dX11_countLetters_3 (Nat.le_of_ble_eq_true rfl) (Nat.le_of_ble_eq_true rfl) rfl ?_
  exact h
theorem eX11_countLetters  {M : Mem} {Q : Vl → Mem → Prop} (h : wp 0 yX11_countLetters 4 [some (Rv 1), some (Iv 0), some (Iv 0)] [] M Q) : cl 0 yX11_countLetters [Rv 1] M Q := enterG (by decide +kernel) (by exact Or.inr (Or.inl rfl)) (Nat.le_of_ble_eq_true rfl) rfl (gX11_countLetters h)
theorem gX11_countLetters_4 {x1 x2 : Int}  {M : Mem} {Q : Vl → Mem → Prop} (h : inr x2 ∧ ((8 ≤ x2 → Q (Iv x1) M) ∧ (x2 < 8 → 0 ≤ x2 ∧ (inr (M ((55 + 3 * x2) + 1) 1) ∧ (wp 0 yX11_countLetters 4 [some (Rv 1), some (Iv (x1 + (if (M ((55 + 3 * x2) + 1) 1) < 0 then 0 else (M ((55 + 3 * x2) + 1) 1)))), some (Iv (x2 + 1))] [] M Q))))) : wp 0 yX11_countLetters 4 [some (Rv 1), some (Iv x1), some (Iv x2)] [] M Q := by
  refine wp_iload_n dX11_countLetters_4 rfl ?_
  refine wp_bipush dX11_countLetters_5 (by decide) ?_
  obtain ⟨o1, h⟩ := h
  refine wp_icmp_ge (tgt := 35) dX11_countLetters_7 (by decide) o1 (by decide) (fun q2 => ?_) (fun q2 => ?_)
  · have h := h.1 q2
    refine wp_iload_n dX11_countLetters_35 rfl ?_
    exact wp_iret dX11_countLetters_36 rfl (Or.inr ⟨rfl, rfl, rfl, by decide⟩) rfl h
  · have h := h.2 q2
    refine wp_iload_n dX11_countLetters_10 rfl ?_
    refine wp_aload_n dX11_countLetters_11 rfl (by decide) ?_
    refine wp_getf (t := Rv 4) 4 dX11_countLetters_12 (fl_X11_20 rfl) kd_1 rfl rfl ?_
    refine wp_iload_n dX11_countLetters_15 rfl ?_
    obtain ⟨o3, h⟩ := h
    refine wp_aaldW (55 + 3 * x2) dX11_countLetters_16 kd_4 sz_4 o3 q2 (⟨by omega, by omega⟩) rfl ?_
    refine wp_getf (t := Rv ((55 + 3 * x2) + 1)) ((55 + 3 * x2) + 1) dX11_countLetters_17 (fl_X11_161 rfl) (isW_word o3 q2).k rfl rfl ?_
    refine wp_getf (t := Iv (M ((55 + 3 * x2) + 1) 1)) (M ((55 + 3 * x2) + 1) 1) dX11_countLetters_20 (fl_X11_135 rfl) (isW_word o3 q2).l.k rfl rfl ?_
    refine wp_iconst dX11_countLetters_23 ?_
    obtain ⟨o4, h⟩ := h
    refine wp_mmax dX11_countLetters_24 (ml_X11_368 rfl) o4 (by decide) (Nat.le_of_ble_eq_true rfl) (by decide) (by decide) ?_
    refine wp_iadd dX11_countLetters_27 ?_
    refine wp_istore_n (L2 := [some (Rv 1), some (Iv (x1 + (if (M ((55 + 3 * x2) + 1) 1) < 0 then 0 else (M ((55 + 3 * x2) + 1) 1)))), some (Iv x2)]) dX11_countLetters_28 (Nat.le_of_ble_eq_true rfl) (Nat.le_of_ble_eq_true rfl) rfl ?_
    refine wp_iinc (L2 := [some (Rv 1), some (Iv (x1 + (if (M ((55 + 3 * x2) + 1) 1) < 0 then 0 else (M ((55 + 3 * x2) + 1) 1)))), some (Iv (x2 + 1))]) dX11_countLetters_29 rfl (Nat.le_of_ble_eq_true rfl) (Nat.le_of_ble_eq_true rfl) rfl ?_
    refine wp_goto (tgt := 4) dX11_countLetters_32 (by decide) ?_
    exact h
theorem gX11_tellFraction {x1 x3 : Int}  {M : Mem} {Q : Vl → Mem → Prop} (h : cl 0 yX11_commonDivisor [Jv x3, Jv x1] M (QJ (fun z1 M1 => (inL z1 ∧ ((1 ≤ z1 → inL x1 ∧ (z1 ≠ 0 ∧ (inL x3 ∧ (Q (Iv 0) (up (up M1 1 6 (Int.tdiv x1 z1)) 1 7 (Int.tdiv x3 z1)))))) ∧ (z1 < 1 → Q (Iv 0) M1)))))) : wp 0 yX11_tellFraction 0 [some (Rv 1), some (Jv x1), none, some (Jv x3), none, none, none] [] M Q := by
  refine wp_lload_n dX11_tellFraction_0 rfl ?_
  refine wp_lload_n dX11_tellFraction_1 rfl ?_
  refine wp_callS (e1 := 0) (as := [Jv x3, Jv x1]) (S := []) dX11_tellFraction_2 (cs_X11_371 rfl) rfl rfl (Nat.le_of_ble_eq_true rfl) (Nat.le_of_ble_eq_true rfl) h (fun v1 M1 q1 r1 => ?_)
  obtain ⟨z1, rfl⟩ := retV_j r1 rfl
  have h := q1
  refine wp_lstore (L2 := [some (Rv 1), some (Jv x1), none, some (Jv x3), none, some (Jv z1), none]) dX11_tellFraction_5 (Nat.le_of_ble_eq_true rfl) (Nat.le_of_ble_eq_true rfl) rfl ?_
  refine wp_lload dX11_tellFraction_7 rfl ?_
  refine wp_lconst1 dX11_tellFraction_9 ?_
  obtain ⟨o2, h⟩ := h
  refine wp_lcmp dX11_tellFraction_10 (Or.inr ⟨o2, (by decide)⟩) ?_
  refine wp_if_ge (tgt := 15) dX11_tellFraction_11 (by decide) lc_inr (fun q3 => ?_) (fun q3 => ?_)
  · have q3 := lc_ge.mp q3
    have h := h.1 q3
    refine wp_aload_n dX11_tellFraction_15 rfl (by decide) ?_
    refine wp_lload_n dX11_tellFraction_16 rfl ?_
    refine wp_lload dX11_tellFraction_17 rfl ?_
    obtain ⟨o4, h⟩ := h
    obtain ⟨o5, h⟩ := h
    refine wp_ldiv dX11_tellFraction_19 o4 o2 o5 ?_
    refine wp_putf (x := (Int.tdiv x1 z1)) dX11_tellFraction_20 (fl_X11_35 rfl) kd_1 (fun _ => rfl) rfl rfl trivial ?_
    refine wp_aload_n dX11_tellFraction_23 rfl (by decide) ?_
    refine wp_lload_n dX11_tellFraction_24 rfl ?_
    refine wp_lload dX11_tellFraction_25 rfl ?_
    obtain ⟨o6, h⟩ := h
    refine wp_ldiv dX11_tellFraction_27 o6 o2 o5 ?_
    refine wp_putf (x := (Int.tdiv x3 z1)) dX11_tellFraction_28 (fl_X11_38 rfl) kd_1 (fun _ => rfl) rfl rfl trivial ?_
    exact wp_vret dX11_tellFraction_31 rfl (Or.inr ⟨rfl, rfl, rfl, by decide⟩) rfl h
  · have q3 := lc_lt.mp q3
    have h := h.2 q3
    exact wp_vret dX11_tellFraction_14 rfl (Or.inr ⟨rfl, rfl, rfl, by decide⟩) rfl h
theorem eX11_tellFraction {x1 x3 : Int}  {M : Mem} {Q : Vl → Mem → Prop} (h : cl 0 yX11_commonDivisor [Jv x3, Jv x1] M (QJ (fun z1 M1 => (inL z1 ∧ ((1 ≤ z1 → inL x1 ∧ (z1 ≠ 0 ∧ (inL x3 ∧ (Q (Iv 0) (up (up M1 1 6 (Int.tdiv x1 z1)) 1 7 (Int.tdiv x3 z1)))))) ∧ (z1 < 1 → Q (Iv 0) M1)))))) : cl 0 yX11_tellFraction [Rv 1, Jv x1, Jv x3] M Q := enterG (by decide +kernel) (by exact Or.inl rfl) (Nat.le_of_ble_eq_true rfl) rfl (gX11_tellFraction h)
theorem gX11_commonDivisor {x0 x2 : Int}  {M : Mem} {Q : Vl → Mem → Prop} (h : wp 0 yX11_commonDivisor 3 [some (Jv x0), none, some (Jv x2), none, some (Iv 0), none, none] [] M Q) : wp 0 yX11_commonDivisor 0 [some (Jv x0), none, some (Jv x2), none, none, none, none] [] M Q := by
  refine wp_iconst dX11_commonDivisor_0 ?_
  refine wp_istore (L2 := [some (Jv x0), none, some (Jv x2), none, some (Iv 0), none, none]) dX11_commonDivisor_1 (Nat.le_of_ble_eq_true rfl) (Nat.le_of_ble_eq_true rfl) rfl ?_
  exact h
theorem eX11_commonDivisor {x0 x2 : Int}  {M : Mem} {Q : Vl → Mem → Prop} (h : wp 0 yX11_commonDivisor 3 [some (Jv x0), none, some (Jv x2), none, some (Iv 0), none, none] [] M Q) : cl 0 yX11_commonDivisor [Jv x0, Jv x2] M Q := enterG (by decide +kernel) (by exact Or.inr (Or.inr (Or.inr (Or.inl rfl)))) (Nat.le_of_ble_eq_true rfl) rfl (gX11_commonDivisor h)
theorem gX11_commonDivisor_3 {x0 x2 x4 : Int}  {M : Mem} {Q : Vl → Mem → Prop} (h : inr x4 ∧ ((100 ≤ x4 → Q (Jv x0) M) ∧ (x4 < 100 → (x2 = 0 ∨ (inL x2 ∧ inL 0)) ∧ ((x2 = 0 → Q (Jv x0) M) ∧ (x2 ≠ 0 → inL x0 ∧ (inL x2 ∧ (x2 ≠ 0 ∧ (wp 0 yX11_commonDivisor 3 [some (Jv x2), none, some (Jv (Int.tmod x0 x2)), none, some (Iv (x4 + 1)), none, none] [] M Q)))))))) : wp 0 yX11_commonDivisor 3 [some (Jv x0), none, some (Jv x2), none, some (Iv x4), none, none] [] M Q := by
  refine wp_iload dX11_commonDivisor_3 rfl ?_
  refine wp_bipush dX11_commonDivisor_5 (by decide) ?_
  obtain ⟨o1, h⟩ := h
  refine wp_icmp_ge (tgt := 32) dX11_commonDivisor_7 (by decide) o1 (by decide) (fun q2 => ?_) (fun q2 => ?_)
  · have h := h.1 q2
    refine wp_lload_n dX11_commonDivisor_32 rfl ?_
    exact wp_lret dX11_commonDivisor_33 rfl (Or.inr ⟨rfl, rfl, rfl, by decide⟩) rfl h
  · have h := h.2 q2
    refine wp_lload_n dX11_commonDivisor_10 rfl ?_
    refine wp_lconst0 dX11_commonDivisor_11 ?_
    obtain ⟨o3, h⟩ := h
    refine wp_lcmp dX11_commonDivisor_12 o3 ?_
    refine wp_if_eq (tgt := 32) dX11_commonDivisor_13 (by decide) lc_inr (fun q4 => ?_) (fun q4 => ?_)
    · have q4 := lc_eq.mp q4
      have h := h.1 q4
      refine wp_lload_n dX11_commonDivisor_32 rfl ?_
      exact wp_lret dX11_commonDivisor_33 rfl (Or.inr ⟨rfl, rfl, rfl, by decide⟩) rfl h
    · have q4 := lc_ne.mp q4
      have h := h.2 q4
      refine wp_lload_n dX11_commonDivisor_16 rfl ?_
      refine wp_lload_n dX11_commonDivisor_17 rfl ?_
      obtain ⟨o5, h⟩ := h
      obtain ⟨o6, h⟩ := h
      obtain ⟨o7, h⟩ := h
      refine wp_lrem dX11_commonDivisor_18 o5 o6 o7 ?_
      refine wp_lstore (L2 := [some (Jv x0), none, some (Jv x2), none, some (Iv x4), some (Jv (Int.tmod x0 x2)), none]) dX11_commonDivisor_19 (Nat.le_of_ble_eq_true rfl) (Nat.le_of_ble_eq_true rfl) rfl ?_
      refine wp_lload_n dX11_commonDivisor_21 rfl ?_
      refine wp_lstore_n (L2 := [some (Jv x2), none, some (Jv x2), none, some (Iv x4), some (Jv (Int.tmod x0 x2)), none]) dX11_commonDivisor_22 (Nat.le_of_ble_eq_true rfl) (Nat.le_of_ble_eq_true rfl) rfl ?_
      refine wp_lload dX11_commonDivisor_23 rfl ?_
      refine wp_lstore_n (L2 := [some (Jv x2), none, some (Jv (Int.tmod x0 x2)), none, some (Iv x4), some (Jv (Int.tmod x0 x2)), none]) dX11_commonDivisor_25 (Nat.le_of_ble_eq_true rfl) (Nat.le_of_ble_eq_true rfl) rfl ?_
      refine wp_iinc (L2 := [some (Jv x2), none, some (Jv (Int.tmod x0 x2)), none, some (Iv (x4 + 1)), some (Jv (Int.tmod x0 x2)), none]) dX11_commonDivisor_26 rfl (Nat.le_of_ble_eq_true rfl) (Nat.le_of_ble_eq_true rfl) rfl ?_
      refine wp_goto (tgt := 3) dX11_commonDivisor_29 (by decide) ?_
      exact wp_weak [true, true, true, true, true, false, true] rfl h
theorem gX11_choose {x0 x1 : Int}  {M : Mem} {Q : Vl → Mem → Prop} (h : wp 0 yX11_choose 5 [some (Iv x0), some (Iv x1), some (Jv 1), none, some (Iv 0)] [] M Q) : wp 0 yX11_choose 0 [some (Iv x0), some (Iv x1), none, none, none] [] M Q := by
  refine wp_lconst1 dX11_choose_0 ?_
  refine wp_lstore_n (L2 := [some (Iv x0), some (Iv x1), some (Jv 1), none, none]) dX11_choose_1 (Nat.le_of_ble_eq_true rfl) (Nat.le_of_ble_eq_true rfl) rfl ?_
  refine wp_iconst dX11_choose_2 ?_
  refine wp_istore (L2 := [some (Iv x0), some (Iv x1), some (Jv 1), none, some (Iv 0)]) dX11_choose_3 (Nat.le_of_ble_eq_true rfl) (Nat.le_of_ble_eq_true rfl) rfl ?_
  exact h
theorem eX11_choose {x0 x1 : Int}  {M : Mem} {Q : Vl → Mem → Prop} (h : wp 0 yX11_choose 5 [some (Iv x0), some (Iv x1), some (Jv 1), none, some (Iv 0)] [] M Q) : cl 0 yX11_choose [Iv x0, Iv x1] M Q := enterG (by decide +kernel) (by exact Or.inr (Or.inr (Or.inr (Or.inl rfl)))) (Nat.le_of_ble_eq_true rfl) rfl (gX11_choose h)
theorem gX11_choose_5 {x0 x1 x2 x4 : Int}  {M : Mem} {Q : Vl → Mem → Prop} (h : inr x4 ∧ (inr x1 ∧ ((x1 ≤ x4 → Q (Jv x2) M) ∧ (x4 < x1 → inr (x0 - x4) ∧ (inr (x4 + 1) ∧ (inL (x2 * (x0 - x4)) ∧ (inL (x4 + 1) ∧ (x4 + 1 ≠ 0 ∧ (wp 0 yX11_choose 5 [some (Iv x0), some (Iv x1), some (Jv (Int.tdiv (x2 * (x0 - x4)) (x4 + 1))), none, some (Iv (x4 + 1))] [] M Q))))))))) : wp 0 yX11_choose 5 [some (Iv x0), some (Iv x1), some (Jv x2), none, some (Iv x4)] [] M Q := by
  refine wp_iload dX11_choose_5 rfl ?_
  refine wp_iload_n dX11_choose_7 rfl ?_
  obtain ⟨o1, h⟩ := h
  obtain ⟨o2, h⟩ := h
  refine wp_icmp_ge (tgt := 31) dX11_choose_8 (by decide) o1 o2 (fun q3 => ?_) (fun q3 => ?_)
  · have h := h.1 q3
    refine wp_lload_n dX11_choose_31 rfl ?_
    exact wp_lret dX11_choose_32 rfl (Or.inr ⟨rfl, rfl, rfl, by decide⟩) rfl h
  · have h := h.2 q3
    refine wp_lload_n dX11_choose_11 rfl ?_
    refine wp_iload_n dX11_choose_12 rfl ?_
    refine wp_iload dX11_choose_13 rfl ?_
    refine wp_isub dX11_choose_15 ?_
    obtain ⟨o4, h⟩ := h
    refine wp_i2l dX11_choose_16 o4 ?_
    refine wp_lmul dX11_choose_17 ?_
    refine wp_iload dX11_choose_18 rfl ?_
    refine wp_iconst dX11_choose_20 ?_
    refine wp_iadd dX11_choose_21 ?_
    obtain ⟨o5, h⟩ := h
    refine wp_i2l dX11_choose_22 o5 ?_
    obtain ⟨o6, h⟩ := h
    obtain ⟨o7, h⟩ := h
    obtain ⟨o8, h⟩ := h
    refine wp_ldiv dX11_choose_23 o6 o7 o8 ?_
    refine wp_lstore_n (L2 := [some (Iv x0), some (Iv x1), some (Jv (Int.tdiv (x2 * (x0 - x4)) (x4 + 1))), none, some (Iv x4)]) dX11_choose_24 (Nat.le_of_ble_eq_true rfl) (Nat.le_of_ble_eq_true rfl) rfl ?_
    refine wp_iinc (L2 := [some (Iv x0), some (Iv x1), some (Jv (Int.tdiv (x2 * (x0 - x4)) (x4 + 1))), none, some (Iv (x4 + 1))]) dX11_choose_25 rfl (Nat.le_of_ble_eq_true rfl) (Nat.le_of_ble_eq_true rfl) rfl ?_
    refine wp_goto (tgt := 5) dX11_choose_28 (by decide) ?_
    exact h
theorem gX11_power {x0 x1 : Int}  {M : Mem} {Q : Vl → Mem → Prop} (h : wp 0 yX11_power 5 [some (Iv x0), some (Iv x1), some (Jv 1), none, some (Iv 0)] [] M Q) : wp 0 yX11_power 0 [some (Iv x0), some (Iv x1), none, none, none] [] M Q := by
  refine wp_lconst1 dX11_power_0 ?_
  refine wp_lstore_n (L2 := [some (Iv x0), some (Iv x1), some (Jv 1), none, none]) dX11_power_1 (Nat.le_of_ble_eq_true rfl) (Nat.le_of_ble_eq_true rfl) rfl ?_
  refine wp_iconst dX11_power_2 ?_
  refine wp_istore (L2 := [some (Iv x0), some (Iv x1), some (Jv 1), none, some (Iv 0)]) dX11_power_3 (Nat.le_of_ble_eq_true rfl) (Nat.le_of_ble_eq_true rfl) rfl ?_
  exact h
theorem eX11_power {x0 x1 : Int}  {M : Mem} {Q : Vl → Mem → Prop} (h : wp 0 yX11_power 5 [some (Iv x0), some (Iv x1), some (Jv 1), none, some (Iv 0)] [] M Q) : cl 0 yX11_power [Iv x0, Iv x1] M Q := enterG (by decide +kernel) (by exact Or.inr (Or.inr (Or.inr (Or.inl rfl)))) (Nat.le_of_ble_eq_true rfl) rfl (gX11_power h)
theorem gX11_power_5 {x0 x1 x2 x4 : Int}  {M : Mem} {Q : Vl → Mem → Prop} (h : inr x4 ∧ (inr x1 ∧ ((x1 ≤ x4 → Q (Jv x2) M) ∧ (x4 < x1 → inr x0 ∧ (wp 0 yX11_power 5 [some (Iv x0), some (Iv x1), some (Jv (x2 * x0)), none, some (Iv (x4 + 1))] [] M Q))))) : wp 0 yX11_power 5 [some (Iv x0), some (Iv x1), some (Jv x2), none, some (Iv x4)] [] M Q := by
  refine wp_iload dX11_power_5 rfl ?_
  refine wp_iload_n dX11_power_7 rfl ?_
  obtain ⟨o1, h⟩ := h
  obtain ⟨o2, h⟩ := h
  refine wp_icmp_ge (tgt := 22) dX11_power_8 (by decide) o1 o2 (fun q3 => ?_) (fun q3 => ?_)
  · have h := h.1 q3
    refine wp_lload_n dX11_power_22 rfl ?_
    exact wp_lret dX11_power_23 rfl (Or.inr ⟨rfl, rfl, rfl, by decide⟩) rfl h
  · have h := h.2 q3
    refine wp_lload_n dX11_power_11 rfl ?_
    refine wp_iload_n dX11_power_12 rfl ?_
    obtain ⟨o4, h⟩ := h
    refine wp_i2l dX11_power_13 o4 ?_
    refine wp_lmul dX11_power_14 ?_
    refine wp_lstore_n (L2 := [some (Iv x0), some (Iv x1), some (Jv (x2 * x0)), none, some (Iv x4)]) dX11_power_15 (Nat.le_of_ble_eq_true rfl) (Nat.le_of_ble_eq_true rfl) rfl ?_
    refine wp_iinc (L2 := [some (Iv x0), some (Iv x1), some (Jv (x2 * x0)), none, some (Iv (x4 + 1))]) dX11_power_16 rfl (Nat.le_of_ble_eq_true rfl) (Nat.le_of_ble_eq_true rfl) rfl ?_
    refine wp_goto (tgt := 5) dX11_power_19 (by decide) ?_
    exact h
theorem gX11_isPowerAbove {x0 x1 x2 : Int}  {M : Mem} {Q : Vl → Mem → Prop} (h : wp 0 yX11_isPowerAbove 5 [some (Iv x0), some (Iv x1), some (Iv x2), some (Jv 1), none, some (Iv 0)] [] M Q) : wp 0 yX11_isPowerAbove 0 [some (Iv x0), some (Iv x1), some (Iv x2), none, none, none] [] M Q := by
  refine wp_lconst1 dX11_isPowerAbove_0 ?_
  refine wp_lstore_n (L2 := [some (Iv x0), some (Iv x1), some (Iv x2), some (Jv 1), none, none]) dX11_isPowerAbove_1 (Nat.le_of_ble_eq_true rfl) (Nat.le_of_ble_eq_true rfl) rfl ?_
  refine wp_iconst dX11_isPowerAbove_2 ?_
  refine wp_istore (L2 := [some (Iv x0), some (Iv x1), some (Iv x2), some (Jv 1), none, some (Iv 0)]) dX11_isPowerAbove_3 (Nat.le_of_ble_eq_true rfl) (Nat.le_of_ble_eq_true rfl) rfl ?_
  exact h
theorem eX11_isPowerAbove {x0 x1 x2 : Int}  {M : Mem} {Q : Vl → Mem → Prop} (h : wp 0 yX11_isPowerAbove 5 [some (Iv x0), some (Iv x1), some (Iv x2), some (Jv 1), none, some (Iv 0)] [] M Q) : cl 0 yX11_isPowerAbove [Iv x0, Iv x1, Iv x2] M Q := enterG (by decide +kernel) (by exact Or.inr (Or.inr (Or.inl rfl))) (Nat.le_of_ble_eq_true rfl) rfl (gX11_isPowerAbove h)
theorem gX11_isPowerAbove_5 {x0 x1 x2 x3 x5 : Int}  {M : Mem} {Q : Vl → Mem → Prop} (h : inr x5 ∧ (inr x1 ∧ ((x1 ≤ x5 → inr x2 ∧ (inL x3 ∧ (inL x2 ∧ ((x3 ≤ x2 → Q (Iv 0) M) ∧ (x2 < x3 → Q (Iv 1) M))))) ∧ (x5 < x1 → inr x2 ∧ (inL x3 ∧ (inL x2 ∧ ((x2 < x3 → ((x3 ≤ x2 → Q (Iv 0) M) ∧ (x2 < x3 → Q (Iv 1) M))) ∧ (x3 ≤ x2 → inr x0 ∧ (wp 0 yX11_isPowerAbove 5 [some (Iv x0), some (Iv x1), some (Iv x2), some (Jv (x3 * x0)), none, some (Iv (x5 + 1))] [] M Q))))))))) : wp 0 yX11_isPowerAbove 5 [some (Iv x0), some (Iv x1), some (Iv x2), some (Jv x3), none, some (Iv x5)] [] M Q := by
  refine wp_iload dX11_isPowerAbove_5 rfl ?_
  refine wp_iload_n dX11_isPowerAbove_7 rfl ?_
  obtain ⟨o1, h⟩ := h
  obtain ⟨o2, h⟩ := h
  refine wp_icmp_ge (tgt := 29) dX11_isPowerAbove_8 (by decide) o1 o2 (fun q3 => ?_) (fun q3 => ?_)
  · have h := h.1 q3
    refine wp_lload_n dX11_isPowerAbove_29 rfl ?_
    refine wp_iload_n dX11_isPowerAbove_30 rfl ?_
    obtain ⟨o4, h⟩ := h
    refine wp_i2l dX11_isPowerAbove_31 o4 ?_
    obtain ⟨o5, h⟩ := h
    obtain ⟨o6, h⟩ := h
    refine wp_lcmp dX11_isPowerAbove_32 (Or.inr ⟨o5, o6⟩) ?_
    refine wp_if_le (tgt := 40) dX11_isPowerAbove_33 (by decide) lc_inr (fun q7 => ?_) (fun q7 => ?_)
    · have q7 := lc_le.mp q7
      have h := h.1 q7
      refine wp_iconst dX11_isPowerAbove_40 ?_
      exact wp_zret dX11_isPowerAbove_41 rfl (Or.inr ⟨rfl, rfl, rfl, by decide⟩) rfl (by decide) h
    · have q7 := lc_gt.mp q7
      have h := h.2 q7
      refine wp_iconst dX11_isPowerAbove_36 ?_
      refine wp_goto (tgt := 41) dX11_isPowerAbove_37 (by decide) ?_
      exact wp_zret dX11_isPowerAbove_41 rfl (Or.inr ⟨rfl, rfl, rfl, by decide⟩) rfl (by decide) h
  · have h := h.2 q3
    refine wp_lload_n dX11_isPowerAbove_11 rfl ?_
    refine wp_iload_n dX11_isPowerAbove_12 rfl ?_
    obtain ⟨o8, h⟩ := h
    refine wp_i2l dX11_isPowerAbove_13 o8 ?_
    obtain ⟨o9, h⟩ := h
    obtain ⟨o10, h⟩ := h
    refine wp_lcmp dX11_isPowerAbove_14 (Or.inr ⟨o9, o10⟩) ?_
    refine wp_if_gt (tgt := 29) dX11_isPowerAbove_15 (by decide) lc_inr (fun q11 => ?_) (fun q11 => ?_)
    · have q11 := lc_gt.mp q11
      have h := h.1 q11
      refine wp_lload_n dX11_isPowerAbove_29 rfl ?_
      refine wp_iload_n dX11_isPowerAbove_30 rfl ?_
      refine wp_i2l dX11_isPowerAbove_31 o8 ?_
      refine wp_lcmp dX11_isPowerAbove_32 (Or.inr ⟨o9, o10⟩) ?_
      refine wp_if_le (tgt := 40) dX11_isPowerAbove_33 (by decide) lc_inr (fun q12 => ?_) (fun q12 => ?_)
      · have q12 := lc_le.mp q12
        have h := h.1 q12
        refine wp_iconst dX11_isPowerAbove_40 ?_
        exact wp_zret dX11_isPowerAbove_41 rfl (Or.inr ⟨rfl, rfl, rfl, by decide⟩) rfl (by decide) h
      · have q12 := lc_gt.mp q12
        have h := h.2 q12
        refine wp_iconst dX11_isPowerAbove_36 ?_
        refine wp_goto (tgt := 41) dX11_isPowerAbove_37 (by decide) ?_
        exact wp_zret dX11_isPowerAbove_41 rfl (Or.inr ⟨rfl, rfl, rfl, by decide⟩) rfl (by decide) h
    · have q11 := lc_le.mp q11
      have h := h.2 q11
      refine wp_lload_n dX11_isPowerAbove_18 rfl ?_
      refine wp_iload_n dX11_isPowerAbove_19 rfl ?_
      obtain ⟨o13, h⟩ := h
      refine wp_i2l dX11_isPowerAbove_20 o13 ?_
      refine wp_lmul dX11_isPowerAbove_21 ?_
      refine wp_lstore_n (L2 := [some (Iv x0), some (Iv x1), some (Iv x2), some (Jv (x3 * x0)), none, some (Iv x5)]) dX11_isPowerAbove_22 (Nat.le_of_ble_eq_true rfl) (Nat.le_of_ble_eq_true rfl) rfl ?_
      refine wp_iinc (L2 := [some (Iv x0), some (Iv x1), some (Iv x2), some (Jv (x3 * x0)), none, some (Iv (x5 + 1))]) dX11_isPowerAbove_23 rfl (Nat.le_of_ble_eq_true rfl) (Nat.le_of_ble_eq_true rfl) rfl ?_
      refine wp_goto (tgt := 5) dX11_isPowerAbove_26 (by decide) ?_
      exact h
