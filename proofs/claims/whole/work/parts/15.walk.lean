theorem gX0_read {x2 a1 : Int} {n1 : Nat} (ha1 : isL a1 n1) {M : Mem} {Q : Vl → Mem → Prop} (h : 0 ≤ x2 ∧ (x2 < 32 ∧ (wp 0 yX0_read 22 [some (Rv 15), some (Rv a1), some (Iv x2), some (Iv ((1 * 2 ^ Int.toNat x2) - 1)), some (Iv 0), some (Iv 0)] [] (up (up M 15 0 0) 15 1 0) Q))) : wp 0 yX0_read 0 [some (Rv 15), some (Rv a1), some (Iv x2), none, none, none] [] M Q := by
  refine wp_iconst dX0_read_0 ?_
  refine wp_iload_n dX0_read_1 rfl ?_
  obtain ⟨o1, h⟩ := h
  obtain ⟨o2, h⟩ := h
  refine wp_ishl (1 * 2 ^ Int.toNat x2) dX0_read_2 (bits_shl o1 o2) ?_
  refine wp_iconst dX0_read_3 ?_
  refine wp_isub dX0_read_4 ?_
  refine wp_istore_n (L2 := [some (Rv 15), some (Rv a1), some (Iv x2), some (Iv ((1 * 2 ^ Int.toNat x2) - 1)), none, none]) dX0_read_5 (Nat.le_of_ble_eq_true rfl) (Nat.le_of_ble_eq_true rfl) rfl ?_
  refine wp_iconst dX0_read_6 ?_
  refine wp_istore (L2 := [some (Rv 15), some (Rv a1), some (Iv x2), some (Iv ((1 * 2 ^ Int.toNat x2) - 1)), some (Iv 0), none]) dX0_read_7 (Nat.le_of_ble_eq_true rfl) (Nat.le_of_ble_eq_true rfl) rfl ?_
  refine wp_aload_n dX0_read_9 rfl (by decide) ?_
  refine wp_iconst dX0_read_10 ?_
  refine wp_putf (x := 0) dX0_read_11 (fl_X0_26 rfl) kd_15 (fun _ => rfl) rfl rfl trivial ?_
  refine wp_aload_n dX0_read_14 rfl (by decide) ?_
  refine wp_iconst dX0_read_15 ?_
  refine wp_putf (x := 0) dX0_read_16 (fl_X0_30 rfl) kd_15 (fun _ => rfl) rfl rfl trivial ?_
  refine wp_iconst dX0_read_19 ?_
  refine wp_istore (L2 := [some (Rv 15), some (Rv a1), some (Iv x2), some (Iv ((1 * 2 ^ Int.toNat x2) - 1)), some (Iv 0), some (Iv 0)]) dX0_read_20 (Nat.le_of_ble_eq_true rfl) (Nat.le_of_ble_eq_true rfl) rfl ?_
  exact h
theorem eX0_read {x2 a1 : Int} {n1 : Nat} (ha1 : isL a1 n1) {M : Mem} {Q : Vl → Mem → Prop} (h : 0 ≤ x2 ∧ (x2 < 32 ∧ (wp 0 yX0_read 22 [some (Rv 15), some (Rv a1), some (Iv x2), some (Iv ((1 * 2 ^ Int.toNat x2) - 1)), some (Iv 0), some (Iv 0)] [] (up (up M 15 0 0) 15 1 0) Q))) : cl 0 yX0_read [Rv 15, Rv a1, Iv x2] M Q := enterG (by decide +kernel) (by exact Or.inl rfl) (Nat.le_of_ble_eq_true rfl) rfl (gX0_read ha1 h)
theorem gX0_read_22 {x2 x3 x4 x5 a1 : Int} {n1 : Nat} (ha1 : isL a1 n1) {M : Mem} {Q : Vl → Mem → Prop} (h : inr x5 ∧ (inr (M a1 1) ∧ (((M a1 1) ≤ x5 → cl 0 yJ6_bitCount_0f7a4 [Iv x4] M (QI (fun z4 M4 => (Q (Iv 0) (up M4 15 2 z4))))) ∧ (x5 < (M a1 1) → 0 ≤ x5 ∧ (x5 < n1 ∧ (0 ≤ M (a1 + 1) x5 ∧ (M (a1 + 1) x5 < 32 ∧ (0 ≤ x4 ∧ ((((Int.toNat x4 ||| Int.toNat (1 * 2 ^ Int.toNat (M (a1 + 1) x5)) : Nat) : Int) = x3 ∨ (inr ((Int.toNat x4 ||| Int.toNat (1 * 2 ^ Int.toNat (M (a1 + 1) x5)) : Nat) : Int) ∧ inr x3)) ∧ ((((Int.toNat x4 ||| Int.toNat (1 * 2 ^ Int.toNat (M (a1 + 1) x5)) : Nat) : Int) ≠ x3 → wp 0 yX0_read 22 [some (Rv 15), some (Rv a1), some (Iv x2), some (Iv x3), some (Iv ((Int.toNat x4 ||| Int.toNat (1 * 2 ^ Int.toNat (M (a1 + 1) x5)) : Nat) : Int)), some (Iv (x5 + 1))] [] (up M 15 1 ((M 15 1) + 1)) Q) ∧ (((Int.toNat x4 ||| Int.toNat (1 * 2 ^ Int.toNat (M (a1 + 1) x5)) : Nat) : Int) = x3 → wp 0 yX0_read 22 [some (Rv 15), some (Rv a1), some (Iv x2), some (Iv x3), some (Iv 0), some (Iv (x5 + 1))] [] (up (up (up M 15 1 ((M 15 1) + 1)) 15 0 ((M 15 0) + 1)) 15 1 0) Q))))))))))) : wp 0 yX0_read 22 [some (Rv 15), some (Rv a1), some (Iv x2), some (Iv x3), some (Iv x4), some (Iv x5)] [] M Q := by
  refine wp_iload dX0_read_22 rfl ?_
  refine wp_aload_n dX0_read_24 rfl ha1.p ?_
  refine wp_getf (t := Iv (M a1 1)) (M a1 1) dX0_read_25 (fl_X0_33 rfl) ha1.k rfl rfl ?_
  obtain ⟨o1, h⟩ := h
  obtain ⟨o2, h⟩ := h
  refine wp_icmp_ge (tgt := 85) dX0_read_28 (by decide) o1 o2 (fun q3 => ?_) (fun q3 => ?_)
  · have h := h.1 q3
    refine wp_aload_n dX0_read_85 rfl (by decide) ?_
    refine wp_iload dX0_read_86 rfl ?_
    refine wp_callS (e1 := 0) (as := [Iv x4]) (S := [Rv 15]) dX0_read_88 (cs_X0_41 rfl) rfl rfl (Nat.le_of_ble_eq_true rfl) (Nat.le_of_ble_eq_true rfl) h (fun v4 M4 q4 r4 => ?_)
    obtain ⟨z4, rfl⟩ := retV_i r4 rfl
    have h := q4
    refine wp_putf (x := z4) dX0_read_91 (fl_X0_47 rfl) kd_15 (fun _ => rfl) rfl rfl trivial ?_
    exact wp_vret dX0_read_94 rfl (Or.inr ⟨rfl, rfl, rfl, by decide⟩) rfl h
  · have h := h.2 q3
    refine wp_iload dX0_read_31 rfl ?_
    refine wp_iconst dX0_read_33 ?_
    refine wp_aload_n dX0_read_34 rfl ha1.p ?_
    refine wp_getf (t := Rv (a1 + 1)) (a1 + 1) dX0_read_35 (fl_X0_38 rfl) ha1.k rfl rfl ?_
    refine wp_iload dX0_read_38 rfl ?_
    obtain ⟨o5, h⟩ := h
    obtain ⟨o6, h⟩ := h
    refine wp_iald (M (a1 + 1) x5) dX0_read_40 ha1.a.k ha1.a.n o5 o6 o1 rfl ?_
    obtain ⟨o7, h⟩ := h
    obtain ⟨o8, h⟩ := h
    refine wp_ishl (1 * 2 ^ Int.toNat (M (a1 + 1) x5)) dX0_read_41 (bits_shl o7 o8) ?_
    obtain ⟨o9, h⟩ := h
    refine wp_ior ((Int.toNat x4 ||| Int.toNat (1 * 2 ^ Int.toNat (M (a1 + 1) x5)) : Nat) : Int) dX0_read_42 (bits_or o9 (p2_nn _)) ?_
    refine wp_istore (L2 := [some (Rv 15), some (Rv a1), some (Iv x2), some (Iv x3), some (Iv ((Int.toNat x4 ||| Int.toNat (1 * 2 ^ Int.toNat (M (a1 + 1) x5)) : Nat) : Int)), some (Iv x5)]) dX0_read_43 (Nat.le_of_ble_eq_true rfl) (Nat.le_of_ble_eq_true rfl) rfl ?_
    refine wp_aload_n dX0_read_45 rfl (by decide) ?_
    refine wp_dup dX0_read_46 rfl ?_
    refine wp_getf (t := Iv (M 15 1)) (M 15 1) dX0_read_47 (fl_X0_30 rfl) kd_15 rfl rfl ?_
    refine wp_iconst dX0_read_50 ?_
    refine wp_iadd dX0_read_51 ?_
    refine wp_putf (x := ((M 15 1) + 1)) dX0_read_52 (fl_X0_30 rfl) kd_15 (fun _ => rfl) rfl rfl trivial ?_
    refine wp_iload dX0_read_55 rfl ?_
    refine wp_iload_n dX0_read_57 rfl ?_
    obtain ⟨o10, h⟩ := h
    refine wp_icmp_ne (tgt := 79) dX0_read_58 (by decide) o10 (fun q11 => ?_) (fun q11 => ?_)
    · have h := h.1 q11
      refine wp_iinc (L2 := [some (Rv 15), some (Rv a1), some (Iv x2), some (Iv x3), some (Iv ((Int.toNat x4 ||| Int.toNat (1 * 2 ^ Int.toNat (M (a1 + 1) x5)) : Nat) : Int)), some (Iv (x5 + 1))]) dX0_read_79 rfl (Nat.le_of_ble_eq_true rfl) (Nat.le_of_ble_eq_true rfl) rfl ?_
      refine wp_goto (tgt := 22) dX0_read_82 (by decide) ?_
      exact h
    · have h := h.2 q11
      refine wp_aload_n dX0_read_61 rfl (by decide) ?_
      refine wp_dup dX0_read_62 rfl ?_
      refine wp_getf (t := Iv (M 15 0)) (M 15 0) dX0_read_63 (fl_X0_26 rfl) kd_15 rfl rfl ?_
      refine wp_iconst dX0_read_66 ?_
      refine wp_iadd dX0_read_67 ?_
      refine wp_putf (x := ((M 15 0) + 1)) dX0_read_68 (fl_X0_26 rfl) kd_15 (fun _ => rfl) rfl rfl trivial ?_
      refine wp_aload_n dX0_read_71 rfl (by decide) ?_
      refine wp_iconst dX0_read_72 ?_
      refine wp_putf (x := 0) dX0_read_73 (fl_X0_30 rfl) kd_15 (fun _ => rfl) rfl rfl trivial ?_
      refine wp_iconst dX0_read_76 ?_
      refine wp_istore (L2 := [some (Rv 15), some (Rv a1), some (Iv x2), some (Iv x3), some (Iv 0), some (Iv x5)]) dX0_read_77 (Nat.le_of_ble_eq_true rfl) (Nat.le_of_ble_eq_true rfl) rfl ?_
      refine wp_iinc (L2 := [some (Rv 15), some (Rv a1), some (Iv x2), some (Iv x3), some (Iv 0), some (Iv (x5 + 1))]) dX0_read_79 rfl (Nat.le_of_ble_eq_true rfl) (Nat.le_of_ble_eq_true rfl) rfl ?_
      refine wp_goto (tgt := 22) dX0_read_82 (by decide) ?_
      exact h
theorem gX0_toClose {x1 x2 : Int}  {M : Mem} {Q : Vl → Mem → Prop} (h : inr x1 ∧ (inr (M 15 0) ∧ (((M 15 0) < x1 → Q (Iv (((x1 - (M 15 0)) * x2) - (M 15 2))) M) ∧ (x1 ≤ (M 15 0) → Q (Iv 0) M)))) : wp 0 yX0_toClose 0 [some (Rv 15), some (Iv x1), some (Iv x2)] [] M Q := by
  refine wp_iload_n dX0_toClose_0 rfl ?_
  refine wp_aload_n dX0_toClose_1 rfl (by decide) ?_
  refine wp_getf (t := Iv (M 15 0)) (M 15 0) dX0_toClose_2 (fl_X0_26 rfl) kd_15 rfl rfl ?_
  obtain ⟨o1, h⟩ := h
  obtain ⟨o2, h⟩ := h
  refine wp_icmp_gt (tgt := 12) dX0_toClose_5 (by decide) o1 o2 (fun q3 => ?_) (fun q3 => ?_)
  · have h := h.1 q3
    refine wp_iload_n dX0_toClose_12 rfl ?_
    refine wp_aload_n dX0_toClose_13 rfl (by decide) ?_
    refine wp_getf (t := Iv (M 15 0)) (M 15 0) dX0_toClose_14 (fl_X0_26 rfl) kd_15 rfl rfl ?_
    refine wp_isub dX0_toClose_17 ?_
    refine wp_iload_n dX0_toClose_18 rfl ?_
    refine wp_imul dX0_toClose_19 ?_
    refine wp_aload_n dX0_toClose_20 rfl (by decide) ?_
    refine wp_getf (t := Iv (M 15 2)) (M 15 2) dX0_toClose_21 (fl_X0_47 rfl) kd_15 rfl rfl ?_
    refine wp_isub dX0_toClose_24 ?_
    exact wp_iret dX0_toClose_25 rfl (Or.inr ⟨rfl, rfl, rfl, by decide⟩) rfl h
  · have h := h.2 q3
    refine wp_iconst dX0_toClose_8 ?_
    refine wp_goto (tgt := 25) dX0_toClose_9 (by decide) ?_
    exact wp_iret dX0_toClose_25 rfl (Or.inr ⟨rfl, rfl, rfl, by decide⟩) rfl h
theorem eX0_toClose {x1 x2 : Int}  {M : Mem} {Q : Vl → Mem → Prop} (h : inr x1 ∧ (inr (M 15 0) ∧ (((M 15 0) < x1 → Q (Iv (((x1 - (M 15 0)) * x2) - (M 15 2))) M) ∧ (x1 ≤ (M 15 0) → Q (Iv 0) M)))) : cl 0 yX0_toClose [Rv 15, Iv x1, Iv x2] M Q := enterG (by decide +kernel) (by exact Or.inr (Or.inl rfl)) (Nat.le_of_ble_eq_true rfl) rfl (gX0_toClose h)
theorem gX0_readAbsent {x2 a1 : Int} {n1 : Nat} (ha1 : isL a1 n1) {M : Mem} {Q : Vl → Mem → Prop} (h : cl 0 yX8_read [Rv 18, Rv a1] M (QV (fun M1 => (wp 0 yX0_readAbsent 13 [some (Rv 15), some (Rv a1), some (Iv x2), some (Iv (M1 a1 1)), none, none, none, none, none, none, none, none] [] M1 Q)))) : wp 0 yX0_readAbsent 0 [some (Rv 15), some (Rv a1), some (Iv x2), none, none, none, none, none, none, none, none, none] [] M Q := by
  refine wp_aload_n dX0_readAbsent_0 rfl (by decide) ?_
  refine wp_getf (t := Rv 18) 18 dX0_readAbsent_1 (fl_X0_22 rfl) kd_15 rfl rfl ?_
  refine wp_aload_n dX0_readAbsent_4 rfl ha1.p ?_
  refine wp_callV (e1 := 0) (as := [Rv a1]) (S := []) dX0_readAbsent_5 (cs_X0_50 rfl) kd_18 rfl rfl (Nat.le_of_ble_eq_true rfl) (Nat.le_of_ble_eq_true rfl) h (fun v1 M1 q1 r1 => ?_)
  have h := q1
  refine wp_aload_n dX0_readAbsent_8 rfl ha1.p ?_
  refine wp_getf (t := Iv (M1 a1 1)) (M1 a1 1) dX0_readAbsent_9 (fl_X0_33 rfl) ha1.k rfl rfl ?_
  refine wp_istore_n (L2 := [some (Rv 15), some (Rv a1), some (Iv x2), some (Iv (M1 a1 1)), none, none, none, none, none, none, none, none]) dX0_readAbsent_12 (Nat.le_of_ble_eq_true rfl) (Nat.le_of_ble_eq_true rfl) rfl ?_
  exact h
theorem eX0_readAbsent {x2 a1 : Int} {n1 : Nat} (ha1 : isL a1 n1) {M : Mem} {Q : Vl → Mem → Prop} (h : cl 0 yX8_read [Rv 18, Rv a1] M (QV (fun M1 => (wp 0 yX0_readAbsent 13 [some (Rv 15), some (Rv a1), some (Iv x2), some (Iv (M1 a1 1)), none, none, none, none, none, none, none, none] [] M1 Q)))) : cl 0 yX0_readAbsent [Rv 15, Rv a1, Iv x2] M Q := enterG (by decide +kernel) (by exact Or.inl rfl) (Nat.le_of_ble_eq_true rfl) rfl (gX0_readAbsent ha1 h)
theorem gX0_readAbsent_13 {x2 x3 a1 : Int} {n1 : Nat} (ha1 : isL a1 n1) {M : Mem} {Q : Vl → Mem → Prop} (h : inr x3 ∧ ((x3 < 0 → Q (Iv 0) M) ∧ (0 ≤ x3 → wp 0 yX0_readAbsent 27 [some (Rv 15), some (Rv a1), some (Iv x2), some (Iv x3), some (Iv 42), some (Jv 0), none, some (Iv 0), none, none, none, none] [] M Q))) : wp 0 yX0_readAbsent 13 [some (Rv 15), some (Rv a1), some (Iv x2), some (Iv x3), none, none, none, none, none, none, none, none] [] M Q := by
  refine wp_iload_n dX0_readAbsent_13 rfl ?_
  obtain ⟨o1, h⟩ := h
  refine wp_if_lt (tgt := 132) dX0_readAbsent_14 (by decide) o1 (fun q2 => ?_) (fun q2 => ?_)
  · have h := h.1 q2
    exact wp_vret dX0_readAbsent_132 rfl (Or.inr ⟨rfl, rfl, rfl, by decide⟩) rfl h
  · have h := h.2 q2
    refine wp_bipush dX0_readAbsent_17 (by decide) ?_
    refine wp_istore (L2 := [some (Rv 15), some (Rv a1), some (Iv x2), some (Iv x3), some (Iv 42), none, none, none, none, none, none, none]) dX0_readAbsent_19 (Nat.le_of_ble_eq_true rfl) (Nat.le_of_ble_eq_true rfl) rfl ?_
    refine wp_lconst0 dX0_readAbsent_21 ?_
    refine wp_lstore (L2 := [some (Rv 15), some (Rv a1), some (Iv x2), some (Iv x3), some (Iv 42), some (Jv 0), none, none, none, none, none, none]) dX0_readAbsent_22 (Nat.le_of_ble_eq_true rfl) (Nat.le_of_ble_eq_true rfl) rfl ?_
    refine wp_iconst dX0_readAbsent_24 ?_
    refine wp_istore (L2 := [some (Rv 15), some (Rv a1), some (Iv x2), some (Iv x3), some (Iv 42), some (Jv 0), none, some (Iv 0), none, none, none, none]) dX0_readAbsent_25 (Nat.le_of_ble_eq_true rfl) (Nat.le_of_ble_eq_true rfl) rfl ?_
    exact h
theorem gX0_readAbsent_27 {x2 x3 x4 x5 x7 a1 : Int} {n1 : Nat} (ha1 : isL a1 n1) {M : Mem} {Q : Vl → Mem → Prop} (h : inr x7 ∧ (inr x2 ∧ ((x2 ≤ x7 → 0 ≤ x3 ∧ (x3 < 41 ∧ (wp 0 yX0_readAbsent 13 [some (Rv 15), some (Rv a1), some (Iv x2), some (Iv (x3 + (-1))), none, none, none, none, none, none, none, none] [] (up (up M 16 x3 x4) 17 x3 x5) Q))) ∧ (x7 < x2 → cl 0 yX0_absentFrom [Rv 15, Iv x3, Iv x7] M (QI (fun z6 M6 => (cl 0 yX8_behind [Rv 18, Iv x3, Iv x7] M6 (QI (fun z7 M7 => (inr z7 ∧ ((z7 ≠ 0 → 0 ≤ z7 ∧ (z7 < 41 ∧ (inr z6 ∧ (inr x4 ∧ ((x4 ≤ z6 → ((z6 ≠ x4 → wp 0 yX0_readAbsent 27 [some (Rv 15), some (Rv a1), some (Iv x2), some (Iv x3), some (Iv x4), some (Jv x5), none, some (Iv (x7 + 1)), none, none, none, none] [] M7 Q) ∧ (z6 = x4 → wp 0 yX0_readAbsent 27 [some (Rv 15), some (Rv a1), some (Iv x2), some (Iv x3), some (Iv x4), some (Jv (x5 + (M7 17 z7))), none, some (Iv (x7 + 1)), none, none, none, none] [] M7 Q))) ∧ (z6 < x4 → wp 0 yX0_readAbsent 27 [some (Rv 15), some (Rv a1), some (Iv x2), some (Iv x3), some (Iv z6), some (Jv (M7 17 z7)), none, some (Iv (x7 + 1)), none, none, none, none] [] M7 Q)))))) ∧ (z7 = 0 → inr z6 ∧ (inr x4 ∧ ((x4 ≤ z6 → ((z6 ≠ x4 → wp 0 yX0_readAbsent 27 [some (Rv 15), some (Rv a1), some (Iv x2), some (Iv x3), some (Iv x4), some (Jv x5), none, some (Iv (x7 + 1)), none, none, none, none] [] M7 Q) ∧ (z6 = x4 → wp 0 yX0_readAbsent 27 [some (Rv 15), some (Rv a1), some (Iv x2), some (Iv x3), some (Iv x4), some (Jv (x5 + 1)), none, some (Iv (x7 + 1)), none, none, none, none] [] M7 Q))) ∧ (z6 < x4 → wp 0 yX0_readAbsent 27 [some (Rv 15), some (Rv a1), some (Iv x2), some (Iv x3), some (Iv z6), some (Jv 1), none, some (Iv (x7 + 1)), none, none, none, none] [] M7 Q))))))))))))))) : wp 0 yX0_readAbsent 27 [some (Rv 15), some (Rv a1), some (Iv x2), some (Iv x3), some (Iv x4), some (Jv x5), none, some (Iv x7), none, none, none, none] [] M Q := by
  refine wp_iload dX0_readAbsent_27 rfl ?_
  refine wp_iload_n dX0_readAbsent_29 rfl ?_
  obtain ⟨o1, h⟩ := h
  obtain ⟨o2, h⟩ := h
  refine wp_icmp_ge (tgt := 110) dX0_readAbsent_30 (by decide) o1 o2 (fun q3 => ?_) (fun q3 => ?_)
  · have h := h.1 q3
    refine wp_aload_n dX0_readAbsent_110 rfl (by decide) ?_
    refine wp_getf (t := Rv 16) 16 dX0_readAbsent_111 (fl_X0_9 rfl) kd_15 rfl rfl ?_
    refine wp_iload_n dX0_readAbsent_114 rfl ?_
    refine wp_iload dX0_readAbsent_115 rfl ?_
    obtain ⟨o4, h⟩ := h
    obtain ⟨o5, h⟩ := h
    refine wp_iast dX0_readAbsent_117 kd_16 sz_16 o4 o5 (⟨by omega, by omega⟩) ?_
    refine wp_aload_n dX0_readAbsent_118 rfl (by decide) ?_
    refine wp_getf (t := Rv 17) 17 dX0_readAbsent_119 (fl_X0_15 rfl) kd_15 rfl rfl ?_
    refine wp_iload_n dX0_readAbsent_122 rfl ?_
    refine wp_lload dX0_readAbsent_123 rfl ?_
    refine wp_last dX0_readAbsent_125 kd_17 sz_17 o4 o5 (⟨by omega, by omega⟩) ?_
    refine wp_iinc (L2 := [some (Rv 15), some (Rv a1), some (Iv x2), some (Iv (x3 + (-1))), some (Iv x4), some (Jv x5), none, some (Iv x7), none, none, none, none]) dX0_readAbsent_126 rfl (Nat.le_of_ble_eq_true rfl) (Nat.le_of_ble_eq_true rfl) rfl ?_
    refine wp_goto (tgt := 13) dX0_readAbsent_129 (by decide) ?_
    exact wp_weak [true, true, true, true, false, false, true, false, true, true, true, true] rfl h
  · have h := h.2 q3
    refine wp_aload_n dX0_readAbsent_33 rfl (by decide) ?_
    refine wp_iload_n dX0_readAbsent_34 rfl ?_
    refine wp_iload dX0_readAbsent_35 rfl ?_
    refine wp_callV (e1 := 0) (as := [Iv x3, Iv x7]) (S := []) dX0_readAbsent_37 (cs_X0_54 rfl) kd_15 rfl rfl (Nat.le_of_ble_eq_true rfl) (Nat.le_of_ble_eq_true rfl) h (fun v6 M6 q6 r6 => ?_)
    obtain ⟨z6, rfl⟩ := retV_i r6 rfl
    have h := q6
    refine wp_istore (L2 := [some (Rv 15), some (Rv a1), some (Iv x2), some (Iv x3), some (Iv x4), some (Jv x5), none, some (Iv x7), some (Iv z6), none, none, none]) dX0_readAbsent_40 (Nat.le_of_ble_eq_true rfl) (Nat.le_of_ble_eq_true rfl) rfl ?_
    refine wp_aload_n dX0_readAbsent_42 rfl (by decide) ?_
    refine wp_getf (t := Rv 18) 18 dX0_readAbsent_43 (fl_X0_22 rfl) kd_15 rfl rfl ?_
    refine wp_iload_n dX0_readAbsent_46 rfl ?_
    refine wp_iload dX0_readAbsent_47 rfl ?_
    refine wp_callV (e1 := 0) (as := [Iv x3, Iv x7]) (S := []) dX0_readAbsent_49 (cs_X0_58 rfl) kd_18 rfl rfl (Nat.le_of_ble_eq_true rfl) (Nat.le_of_ble_eq_true rfl) h (fun v7 M7 q7 r7 => ?_)
    obtain ⟨z7, rfl⟩ := retV_i r7 rfl
    have h := q7
    refine wp_istore (L2 := [some (Rv 15), some (Rv a1), some (Iv x2), some (Iv x3), some (Iv x4), some (Jv x5), none, some (Iv x7), some (Iv z6), some (Iv z7), none, none]) dX0_readAbsent_52 (Nat.le_of_ble_eq_true rfl) (Nat.le_of_ble_eq_true rfl) rfl ?_
    refine wp_iload dX0_readAbsent_54 rfl ?_
    obtain ⟨o8, h⟩ := h
    refine wp_if_ne (tgt := 63) dX0_readAbsent_56 (by decide) o8 (fun q9 => ?_) (fun q9 => ?_)
    · have h := h.1 q9
      refine wp_aload_n dX0_readAbsent_63 rfl (by decide) ?_
      refine wp_getf (t := Rv 17) 17 dX0_readAbsent_64 (fl_X0_15 rfl) kd_15 rfl rfl ?_
      refine wp_iload dX0_readAbsent_67 rfl ?_
      obtain ⟨o10, h⟩ := h
      obtain ⟨o11, h⟩ := h
      refine wp_lald (M7 17 z7) dX0_readAbsent_69 kd_17 sz_17 o10 o11 (⟨by omega, by omega⟩) rfl ?_
      refine wp_lstore (L2 := [some (Rv 15), some (Rv a1), some (Iv x2), some (Iv x3), some (Iv x4), some (Jv x5), none, some (Iv x7), some (Iv z6), some (Iv z7), some (Jv (M7 17 z7)), none]) dX0_readAbsent_70 (Nat.le_of_ble_eq_true rfl) (Nat.le_of_ble_eq_true rfl) rfl ?_
      refine wp_iload dX0_readAbsent_72 rfl ?_
      refine wp_iload dX0_readAbsent_74 rfl ?_
      obtain ⟨o12, h⟩ := h
      obtain ⟨o13, h⟩ := h
      refine wp_icmp_ge (tgt := 90) dX0_readAbsent_76 (by decide) o12 o13 (fun q14 => ?_) (fun q14 => ?_)
      · have h := h.1 q14
        refine wp_iload dX0_readAbsent_90 rfl ?_
        refine wp_iload dX0_readAbsent_92 rfl ?_
        refine wp_icmp_ne (tgt := 104) dX0_readAbsent_94 (by decide) (Or.inr ⟨o12, o13⟩) (fun q15 => ?_) (fun q15 => ?_)
        · have h := h.1 q15
          refine wp_iinc (L2 := [some (Rv 15), some (Rv a1), some (Iv x2), some (Iv x3), some (Iv x4), some (Jv x5), none, some (Iv (x7 + 1)), some (Iv z6), some (Iv z7), some (Jv (M7 17 z7)), none]) dX0_readAbsent_104 rfl (Nat.le_of_ble_eq_true rfl) (Nat.le_of_ble_eq_true rfl) rfl ?_
          refine wp_goto (tgt := 27) dX0_readAbsent_107 (by decide) ?_
          exact wp_weak [true, true, true, true, true, true, true, true, false, false, false, true] rfl h
        · have h := h.2 q15
          refine wp_lload dX0_readAbsent_97 rfl ?_
          refine wp_lload dX0_readAbsent_99 rfl ?_
          refine wp_ladd dX0_readAbsent_101 ?_
          refine wp_lstore (L2 := [some (Rv 15), some (Rv a1), some (Iv x2), some (Iv x3), some (Iv x4), some (Jv (x5 + (M7 17 z7))), none, some (Iv x7), some (Iv z6), some (Iv z7), some (Jv (M7 17 z7)), none]) dX0_readAbsent_102 (Nat.le_of_ble_eq_true rfl) (Nat.le_of_ble_eq_true rfl) rfl ?_
          refine wp_iinc (L2 := [some (Rv 15), some (Rv a1), some (Iv x2), some (Iv x3), some (Iv x4), some (Jv (x5 + (M7 17 z7))), none, some (Iv (x7 + 1)), some (Iv z6), some (Iv z7), some (Jv (M7 17 z7)), none]) dX0_readAbsent_104 rfl (Nat.le_of_ble_eq_true rfl) (Nat.le_of_ble_eq_true rfl) rfl ?_
          refine wp_goto (tgt := 27) dX0_readAbsent_107 (by decide) ?_
          exact wp_weak [true, true, true, true, true, true, true, true, false, false, false, true] rfl h
      · have h := h.2 q14
        refine wp_iload dX0_readAbsent_79 rfl ?_
        refine wp_istore (L2 := [some (Rv 15), some (Rv a1), some (Iv x2), some (Iv x3), some (Iv z6), some (Jv x5), none, some (Iv x7), some (Iv z6), some (Iv z7), some (Jv (M7 17 z7)), none]) dX0_readAbsent_81 (Nat.le_of_ble_eq_true rfl) (Nat.le_of_ble_eq_true rfl) rfl ?_
        refine wp_lload dX0_readAbsent_83 rfl ?_
        refine wp_lstore (L2 := [some (Rv 15), some (Rv a1), some (Iv x2), some (Iv x3), some (Iv z6), some (Jv (M7 17 z7)), none, some (Iv x7), some (Iv z6), some (Iv z7), some (Jv (M7 17 z7)), none]) dX0_readAbsent_85 (Nat.le_of_ble_eq_true rfl) (Nat.le_of_ble_eq_true rfl) rfl ?_
        refine wp_goto (tgt := 104) dX0_readAbsent_87 (by decide) ?_
        refine wp_iinc (L2 := [some (Rv 15), some (Rv a1), some (Iv x2), some (Iv x3), some (Iv z6), some (Jv (M7 17 z7)), none, some (Iv (x7 + 1)), some (Iv z6), some (Iv z7), some (Jv (M7 17 z7)), none]) dX0_readAbsent_104 rfl (Nat.le_of_ble_eq_true rfl) (Nat.le_of_ble_eq_true rfl) rfl ?_
        refine wp_goto (tgt := 27) dX0_readAbsent_107 (by decide) ?_
        exact wp_weak [true, true, true, true, true, true, true, true, false, false, false, true] rfl h
    · have h := h.2 q9
      refine wp_lconst1 dX0_readAbsent_59 ?_
      refine wp_goto (tgt := 70) dX0_readAbsent_60 (by decide) ?_
      refine wp_lstore (L2 := [some (Rv 15), some (Rv a1), some (Iv x2), some (Iv x3), some (Iv x4), some (Jv x5), none, some (Iv x7), some (Iv z6), some (Iv z7), some (Jv 1), none]) dX0_readAbsent_70 (Nat.le_of_ble_eq_true rfl) (Nat.le_of_ble_eq_true rfl) rfl ?_
      refine wp_iload dX0_readAbsent_72 rfl ?_
      refine wp_iload dX0_readAbsent_74 rfl ?_
      obtain ⟨o16, h⟩ := h
      obtain ⟨o17, h⟩ := h
      refine wp_icmp_ge (tgt := 90) dX0_readAbsent_76 (by decide) o16 o17 (fun q18 => ?_) (fun q18 => ?_)
      · have h := h.1 q18
        refine wp_iload dX0_readAbsent_90 rfl ?_
        refine wp_iload dX0_readAbsent_92 rfl ?_
        refine wp_icmp_ne (tgt := 104) dX0_readAbsent_94 (by decide) (Or.inr ⟨o16, o17⟩) (fun q19 => ?_) (fun q19 => ?_)
        · have h := h.1 q19
          refine wp_iinc (L2 := [some (Rv 15), some (Rv a1), some (Iv x2), some (Iv x3), some (Iv x4), some (Jv x5), none, some (Iv (x7 + 1)), some (Iv z6), some (Iv z7), some (Jv 1), none]) dX0_readAbsent_104 rfl (Nat.le_of_ble_eq_true rfl) (Nat.le_of_ble_eq_true rfl) rfl ?_
          refine wp_goto (tgt := 27) dX0_readAbsent_107 (by decide) ?_
          exact wp_weak [true, true, true, true, true, true, true, true, false, false, false, true] rfl h
        · have h := h.2 q19
          refine wp_lload dX0_readAbsent_97 rfl ?_
          refine wp_lload dX0_readAbsent_99 rfl ?_
          refine wp_ladd dX0_readAbsent_101 ?_
          refine wp_lstore (L2 := [some (Rv 15), some (Rv a1), some (Iv x2), some (Iv x3), some (Iv x4), some (Jv (x5 + 1)), none, some (Iv x7), some (Iv z6), some (Iv z7), some (Jv 1), none]) dX0_readAbsent_102 (Nat.le_of_ble_eq_true rfl) (Nat.le_of_ble_eq_true rfl) rfl ?_
          refine wp_iinc (L2 := [some (Rv 15), some (Rv a1), some (Iv x2), some (Iv x3), some (Iv x4), some (Jv (x5 + 1)), none, some (Iv (x7 + 1)), some (Iv z6), some (Iv z7), some (Jv 1), none]) dX0_readAbsent_104 rfl (Nat.le_of_ble_eq_true rfl) (Nat.le_of_ble_eq_true rfl) rfl ?_
          refine wp_goto (tgt := 27) dX0_readAbsent_107 (by decide) ?_
          exact wp_weak [true, true, true, true, true, true, true, true, false, false, false, true] rfl h
      · have h := h.2 q18
        refine wp_iload dX0_readAbsent_79 rfl ?_
        refine wp_istore (L2 := [some (Rv 15), some (Rv a1), some (Iv x2), some (Iv x3), some (Iv z6), some (Jv x5), none, some (Iv x7), some (Iv z6), some (Iv z7), some (Jv 1), none]) dX0_readAbsent_81 (Nat.le_of_ble_eq_true rfl) (Nat.le_of_ble_eq_true rfl) rfl ?_
        refine wp_lload dX0_readAbsent_83 rfl ?_
        refine wp_lstore (L2 := [some (Rv 15), some (Rv a1), some (Iv x2), some (Iv x3), some (Iv z6), some (Jv 1), none, some (Iv x7), some (Iv z6), some (Iv z7), some (Jv 1), none]) dX0_readAbsent_85 (Nat.le_of_ble_eq_true rfl) (Nat.le_of_ble_eq_true rfl) rfl ?_
        refine wp_goto (tgt := 104) dX0_readAbsent_87 (by decide) ?_
        refine wp_iinc (L2 := [some (Rv 15), some (Rv a1), some (Iv x2), some (Iv x3), some (Iv z6), some (Jv 1), none, some (Iv (x7 + 1)), some (Iv z6), some (Iv z7), some (Jv 1), none]) dX0_readAbsent_104 rfl (Nat.le_of_ble_eq_true rfl) (Nat.le_of_ble_eq_true rfl) rfl ?_
        refine wp_goto (tgt := 27) dX0_readAbsent_107 (by decide) ?_
        exact wp_weak [true, true, true, true, true, true, true, true, false, false, false, true] rfl h
theorem gX0_absentFrom {x1 x2 : Int}  {M : Mem} {Q : Vl → Mem → Prop} (h : cl 0 yX8_behind [Rv 18, Iv x1, Iv x2] M (QI (fun z1 M1 => (inr z1 ∧ ((z1 ≠ 0 → 0 ≤ z1 ∧ (z1 < 41 ∧ (Q (Iv (1 + (M1 16 z1))) M1))) ∧ (z1 = 0 → Q (Iv 1) M1)))))) : wp 0 yX0_absentFrom 0 [some (Rv 15), some (Iv x1), some (Iv x2), none] [] M Q := by
  refine wp_aload_n dX0_absentFrom_0 rfl (by decide) ?_
  refine wp_getf (t := Rv 18) 18 dX0_absentFrom_1 (fl_X0_22 rfl) kd_15 rfl rfl ?_
  refine wp_iload_n dX0_absentFrom_4 rfl ?_
  refine wp_iload_n dX0_absentFrom_5 rfl ?_
  refine wp_callV (e1 := 0) (as := [Iv x1, Iv x2]) (S := []) dX0_absentFrom_6 (cs_X0_58 rfl) kd_18 rfl rfl (Nat.le_of_ble_eq_true rfl) (Nat.le_of_ble_eq_true rfl) h (fun v1 M1 q1 r1 => ?_)
  obtain ⟨z1, rfl⟩ := retV_i r1 rfl
  have h := q1
  refine wp_istore_n (L2 := [some (Rv 15), some (Iv x1), some (Iv x2), some (Iv z1)]) dX0_absentFrom_9 (Nat.le_of_ble_eq_true rfl) (Nat.le_of_ble_eq_true rfl) rfl ?_
  refine wp_iload_n dX0_absentFrom_10 rfl ?_
  obtain ⟨o2, h⟩ := h
  refine wp_if_ne (tgt := 18) dX0_absentFrom_11 (by decide) o2 (fun q3 => ?_) (fun q3 => ?_)
  · have h := h.1 q3
    refine wp_iconst dX0_absentFrom_18 ?_
    refine wp_aload_n dX0_absentFrom_19 rfl (by decide) ?_
    refine wp_getf (t := Rv 16) 16 dX0_absentFrom_20 (fl_X0_9 rfl) kd_15 rfl rfl ?_
    refine wp_iload_n dX0_absentFrom_23 rfl ?_
    obtain ⟨o4, h⟩ := h
    obtain ⟨o5, h⟩ := h
    refine wp_iald (M1 16 z1) dX0_absentFrom_24 kd_16 sz_16 o4 o5 (⟨by omega, by omega⟩) rfl ?_
    refine wp_iadd dX0_absentFrom_25 ?_
    exact wp_iret dX0_absentFrom_26 rfl (Or.inr ⟨rfl, rfl, rfl, by decide⟩) rfl h
  · have h := h.2 q3
    refine wp_iconst dX0_absentFrom_14 ?_
    refine wp_goto (tgt := 26) dX0_absentFrom_15 (by decide) ?_
    exact wp_iret dX0_absentFrom_26 rfl (Or.inr ⟨rfl, rfl, rfl, by decide⟩) rfl h
theorem eX0_absentFrom {x1 x2 : Int}  {M : Mem} {Q : Vl → Mem → Prop} (h : cl 0 yX8_behind [Rv 18, Iv x1, Iv x2] M (QI (fun z1 M1 => (inr z1 ∧ ((z1 ≠ 0 → 0 ≤ z1 ∧ (z1 < 41 ∧ (Q (Iv (1 + (M1 16 z1))) M1))) ∧ (z1 = 0 → Q (Iv 1) M1)))))) : cl 0 yX0_absentFrom [Rv 15, Iv x1, Iv x2] M Q := enterG (by decide +kernel) (by exact Or.inr (Or.inl rfl)) (Nat.le_of_ble_eq_true rfl) rfl (gX0_absentFrom h)
theorem gX0_firstAbsent {x1 a2 : Int} {n2 : Nat} (ha2 : isA a2 n2) {M : Mem} {Q : Vl → Mem → Prop} (h : inr (M 16 0) ∧ (wp 0 yX0_firstAbsent 18 [some (Rv 15), some (Iv x1), some (Rv a2), some (Iv (if 40 < (M 16 0) then 40 else (M 16 0))), some (Iv 0), some (Iv 0), none] [] M Q)) : wp 0 yX0_firstAbsent 0 [some (Rv 15), some (Iv x1), some (Rv a2), none, none, none, none] [] M Q := by
  refine wp_aload_n dX0_firstAbsent_0 rfl (by decide) ?_
  refine wp_getf (t := Rv 16) 16 dX0_firstAbsent_1 (fl_X0_9 rfl) kd_15 rfl rfl ?_
  refine wp_iconst dX0_firstAbsent_4 ?_
  refine wp_iald (M 16 0) dX0_firstAbsent_5 kd_16 sz_16 (by decide) (by decide) (by decide) rfl ?_
  refine wp_bipush dX0_firstAbsent_6 (by decide) ?_
  obtain ⟨o1, h⟩ := h
  refine wp_mmin dX0_firstAbsent_8 (ml_X0_61 rfl) o1 (by decide) (Nat.le_of_ble_eq_true rfl) (by decide) (by decide) ?_
  refine wp_istore_n (L2 := [some (Rv 15), some (Iv x1), some (Rv a2), some (Iv (if 40 < (M 16 0) then 40 else (M 16 0))), none, none, none]) dX0_firstAbsent_11 (Nat.le_of_ble_eq_true rfl) (Nat.le_of_ble_eq_true rfl) rfl ?_
  refine wp_iconst dX0_firstAbsent_12 ?_
  refine wp_istore (L2 := [some (Rv 15), some (Iv x1), some (Rv a2), some (Iv (if 40 < (M 16 0) then 40 else (M 16 0))), some (Iv 0), none, none]) dX0_firstAbsent_13 (Nat.le_of_ble_eq_true rfl) (Nat.le_of_ble_eq_true rfl) rfl ?_
  refine wp_iconst dX0_firstAbsent_15 ?_
  refine wp_istore (L2 := [some (Rv 15), some (Iv x1), some (Rv a2), some (Iv (if 40 < (M 16 0) then 40 else (M 16 0))), some (Iv 0), some (Iv 0), none]) dX0_firstAbsent_16 (Nat.le_of_ble_eq_true rfl) (Nat.le_of_ble_eq_true rfl) rfl ?_
  exact h
theorem eX0_firstAbsent {x1 a2 : Int} {n2 : Nat} (ha2 : isA a2 n2) {M : Mem} {Q : Vl → Mem → Prop} (h : inr (M 16 0) ∧ (wp 0 yX0_firstAbsent 18 [some (Rv 15), some (Iv x1), some (Rv a2), some (Iv (if 40 < (M 16 0) then 40 else (M 16 0))), some (Iv 0), some (Iv 0), none] [] M Q)) : cl 0 yX0_firstAbsent [Rv 15, Iv x1, Rv a2] M Q := enterG (by decide +kernel) (by exact Or.inr (Or.inl rfl)) (Nat.le_of_ble_eq_true rfl) rfl (gX0_firstAbsent ha2 h)
theorem gX0_firstAbsent_18 {x1 x3 x4 x5 a2 : Int} {n2 : Nat} (ha2 : isA a2 n2) {M : Mem} {Q : Vl → Mem → Prop} (h : inr x5 ∧ (inr x3 ∧ ((x3 ≤ x5 → Q (Iv x3) M) ∧ (x5 < x3 → wp 0 yX0_firstAbsent 27 [some (Rv 15), some (Iv x1), some (Rv a2), some (Iv x3), some (Iv x4), some (Iv x5), some (Iv 0)] [] M Q)))) : wp 0 yX0_firstAbsent 18 [some (Rv 15), some (Iv x1), some (Rv a2), some (Iv x3), some (Iv x4), some (Iv x5), none] [] M Q := by
  refine wp_iload dX0_firstAbsent_18 rfl ?_
  refine wp_iload_n dX0_firstAbsent_20 rfl ?_
  obtain ⟨o1, h⟩ := h
  obtain ⟨o2, h⟩ := h
  refine wp_icmp_ge (tgt := 84) dX0_firstAbsent_21 (by decide) o1 o2 (fun q3 => ?_) (fun q3 => ?_)
  · have h := h.1 q3
    refine wp_iload_n dX0_firstAbsent_84 rfl ?_
    exact wp_iret dX0_firstAbsent_85 rfl (Or.inr ⟨rfl, rfl, rfl, by decide⟩) rfl h
  · have h := h.2 q3
    refine wp_iconst dX0_firstAbsent_24 ?_
    refine wp_istore (L2 := [some (Rv 15), some (Iv x1), some (Rv a2), some (Iv x3), some (Iv x4), some (Iv x5), some (Iv 0)]) dX0_firstAbsent_25 (Nat.le_of_ble_eq_true rfl) (Nat.le_of_ble_eq_true rfl) rfl ?_
    exact h
theorem gX0_firstAbsent_27 {x1 x3 x4 x5 x6 a2 : Int} {n2 : Nat} (ha2 : isA a2 n2) {M : Mem} {Q : Vl → Mem → Prop} (h : inr x6 ∧ (inr (x1 - 1) ∧ (((x1 - 1) ≤ x6 → 0 ≤ x5 ∧ (x5 < n2 ∧ (inr x5 ∧ (cl 0 yX8_behind [Rv 18, Iv x4, Iv x6] (up M a2 x5 x6) (QI (fun z7 M7 => (wp 0 yX0_firstAbsent 18 [some (Rv 15), some (Iv x1), some (Rv a2), some (Iv x3), some (Iv z7), some (Iv (x5 + 1)), none] [] M7 Q))))))) ∧ (x6 < (x1 - 1) → cl 0 yX0_absentFrom [Rv 15, Iv x4, Iv x6] M (QI (fun z8 M8 => (0 ≤ x4 ∧ (x4 < 41 ∧ ((z8 = (M8 16 x4) ∨ (inr z8 ∧ inr (M8 16 x4))) ∧ ((z8 = (M8 16 x4) → 0 ≤ x5 ∧ (x5 < n2 ∧ (inr x5 ∧ (cl 0 yX8_behind [Rv 18, Iv x4, Iv x6] (up M8 a2 x5 x6) (QI (fun z16 M16 => (wp 0 yX0_firstAbsent 18 [some (Rv 15), some (Iv x1), some (Rv a2), some (Iv x3), some (Iv z16), some (Iv (x5 + 1)), none] [] M16 Q))))))) ∧ (z8 ≠ (M8 16 x4) → wp 0 yX0_firstAbsent 27 [some (Rv 15), some (Iv x1), some (Rv a2), some (Iv x3), some (Iv x4), some (Iv x5), some (Iv (x6 + 1))] [] M8 Q))))))))))) : wp 0 yX0_firstAbsent 27 [some (Rv 15), some (Iv x1), some (Rv a2), some (Iv x3), some (Iv x4), some (Iv x5), some (Iv x6)] [] M Q := by
  refine wp_iload dX0_firstAbsent_27 rfl ?_
  refine wp_iload_n dX0_firstAbsent_29 rfl ?_
  refine wp_iconst dX0_firstAbsent_30 ?_
  refine wp_isub dX0_firstAbsent_31 ?_
  obtain ⟨o1, h⟩ := h
  obtain ⟨o2, h⟩ := h
  refine wp_icmp_ge (tgt := 59) dX0_firstAbsent_32 (by decide) o1 o2 (fun q3 => ?_) (fun q3 => ?_)
  · have h := h.1 q3
    refine wp_aload_n dX0_firstAbsent_59 rfl ha2.p ?_
    refine wp_iload dX0_firstAbsent_60 rfl ?_
    refine wp_iload dX0_firstAbsent_62 rfl ?_
    obtain ⟨o4, h⟩ := h
    obtain ⟨o5, h⟩ := h
    obtain ⟨o6, h⟩ := h
    refine wp_iast dX0_firstAbsent_64 ha2.k ha2.n o4 o5 o6 ?_
    refine wp_aload_n dX0_firstAbsent_65 rfl (by decide) ?_
    refine wp_getf (t := Rv 18) 18 dX0_firstAbsent_66 (fl_X0_22 rfl) kd_15 rfl rfl ?_
    refine wp_iload dX0_firstAbsent_69 rfl ?_
    refine wp_iload dX0_firstAbsent_71 rfl ?_
    refine wp_callV (e1 := 0) (as := [Iv x4, Iv x6]) (S := []) dX0_firstAbsent_73 (cs_X0_58 rfl) kd_18 rfl rfl (Nat.le_of_ble_eq_true rfl) (Nat.le_of_ble_eq_true rfl) h (fun v7 M7 q7 r7 => ?_)
    obtain ⟨z7, rfl⟩ := retV_i r7 rfl
    have h := q7
    refine wp_istore (L2 := [some (Rv 15), some (Iv x1), some (Rv a2), some (Iv x3), some (Iv z7), some (Iv x5), some (Iv x6)]) dX0_firstAbsent_76 (Nat.le_of_ble_eq_true rfl) (Nat.le_of_ble_eq_true rfl) rfl ?_
    refine wp_iinc (L2 := [some (Rv 15), some (Iv x1), some (Rv a2), some (Iv x3), some (Iv z7), some (Iv (x5 + 1)), some (Iv x6)]) dX0_firstAbsent_78 rfl (Nat.le_of_ble_eq_true rfl) (Nat.le_of_ble_eq_true rfl) rfl ?_
    refine wp_goto (tgt := 18) dX0_firstAbsent_81 (by decide) ?_
    exact wp_weak [true, true, true, true, true, true, false] rfl h
  · have h := h.2 q3
    refine wp_aload_n dX0_firstAbsent_35 rfl (by decide) ?_
    refine wp_iload dX0_firstAbsent_36 rfl ?_
    refine wp_iload dX0_firstAbsent_38 rfl ?_
    refine wp_callV (e1 := 0) (as := [Iv x4, Iv x6]) (S := []) dX0_firstAbsent_40 (cs_X0_54 rfl) kd_15 rfl rfl (Nat.le_of_ble_eq_true rfl) (Nat.le_of_ble_eq_true rfl) h (fun v8 M8 q8 r8 => ?_)
    obtain ⟨z8, rfl⟩ := retV_i r8 rfl
    have h := q8
    refine wp_aload_n dX0_firstAbsent_43 rfl (by decide) ?_
    refine wp_getf (t := Rv 16) 16 dX0_firstAbsent_44 (fl_X0_9 rfl) kd_15 rfl rfl ?_
    refine wp_iload dX0_firstAbsent_47 rfl ?_
    obtain ⟨o9, h⟩ := h
    obtain ⟨o10, h⟩ := h
    refine wp_iald (M8 16 x4) dX0_firstAbsent_49 kd_16 sz_16 o9 o10 (⟨by omega, by omega⟩) rfl ?_
    obtain ⟨o11, h⟩ := h
    refine wp_icmp_eq (tgt := 59) dX0_firstAbsent_50 (by decide) o11 (fun q12 => ?_) (fun q12 => ?_)
    · have h := h.1 q12
      refine wp_aload_n dX0_firstAbsent_59 rfl ha2.p ?_
      refine wp_iload dX0_firstAbsent_60 rfl ?_
      refine wp_iload dX0_firstAbsent_62 rfl ?_
      obtain ⟨o13, h⟩ := h
      obtain ⟨o14, h⟩ := h
      obtain ⟨o15, h⟩ := h
      refine wp_iast dX0_firstAbsent_64 ha2.k ha2.n o13 o14 o15 ?_
      refine wp_aload_n dX0_firstAbsent_65 rfl (by decide) ?_
      refine wp_getf (t := Rv 18) 18 dX0_firstAbsent_66 (fl_X0_22 rfl) kd_15 rfl rfl ?_
      refine wp_iload dX0_firstAbsent_69 rfl ?_
      refine wp_iload dX0_firstAbsent_71 rfl ?_
      refine wp_callV (e1 := 0) (as := [Iv x4, Iv x6]) (S := []) dX0_firstAbsent_73 (cs_X0_58 rfl) kd_18 rfl rfl (Nat.le_of_ble_eq_true rfl) (Nat.le_of_ble_eq_true rfl) h (fun v16 M16 q16 r16 => ?_)
      obtain ⟨z16, rfl⟩ := retV_i r16 rfl
      have h := q16
      refine wp_istore (L2 := [some (Rv 15), some (Iv x1), some (Rv a2), some (Iv x3), some (Iv z16), some (Iv x5), some (Iv x6)]) dX0_firstAbsent_76 (Nat.le_of_ble_eq_true rfl) (Nat.le_of_ble_eq_true rfl) rfl ?_
      refine wp_iinc (L2 := [some (Rv 15), some (Iv x1), some (Rv a2), some (Iv x3), some (Iv z16), some (Iv (x5 + 1)), some (Iv x6)]) dX0_firstAbsent_78 rfl (Nat.le_of_ble_eq_true rfl) (Nat.le_of_ble_eq_true rfl) rfl ?_
      refine wp_goto (tgt := 18) dX0_firstAbsent_81 (by decide) ?_
      exact wp_weak [true, true, true, true, true, true, false] rfl h
    · have h := h.2 q12
      refine wp_iinc (L2 := [some (Rv 15), some (Iv x1), some (Rv a2), some (Iv x3), some (Iv x4), some (Iv x5), some (Iv (x6 + 1))]) dX0_firstAbsent_53 rfl (Nat.le_of_ble_eq_true rfl) (Nat.le_of_ble_eq_true rfl) rfl ?_
      refine wp_goto (tgt := 27) dX0_firstAbsent_56 (by decide) ?_
      exact h
theorem gX1_keep {x2 a1 a3 : Int} {n1 : Nat} (ha1 : isL a1 n1) {n3 : Nat} (ha3 : isA a3 n3) {M : Mem} {Q : Vl → Mem → Prop} (h : wp 0 yX1_keep 8 [some (Rv 20), some (Rv a1), some (Iv x2), some (Rv a3), some (Iv ((M a1 1) - 1)), none, none] [] M Q) : wp 0 yX1_keep 0 [some (Rv 20), some (Rv a1), some (Iv x2), some (Rv a3), none, none, none] [] M Q := by
  refine wp_aload_n dX1_keep_0 rfl ha1.p ?_
  refine wp_getf (t := Iv (M a1 1)) (M a1 1) dX1_keep_1 (fl_X1_18 rfl) ha1.k rfl rfl ?_
  refine wp_iconst dX1_keep_4 ?_
  refine wp_isub dX1_keep_5 ?_
  refine wp_istore (L2 := [some (Rv 20), some (Rv a1), some (Iv x2), some (Rv a3), some (Iv ((M a1 1) - 1)), none, none]) dX1_keep_6 (Nat.le_of_ble_eq_true rfl) (Nat.le_of_ble_eq_true rfl) rfl ?_
  exact h
theorem eX1_keep {x2 a1 a3 : Int} {n1 : Nat} (ha1 : isL a1 n1) {n3 : Nat} (ha3 : isA a3 n3) {M : Mem} {Q : Vl → Mem → Prop} (h : wp 0 yX1_keep 8 [some (Rv 20), some (Rv a1), some (Iv x2), some (Rv a3), some (Iv ((M a1 1) - 1)), none, none] [] M Q) : cl 0 yX1_keep [Rv 20, Rv a1, Iv x2, Rv a3] M Q := enterG (by decide +kernel) (by exact Or.inr (Or.inl rfl)) (Nat.le_of_ble_eq_true rfl) rfl (gX1_keep ha1 ha3 h)
theorem gX1_keep_8 {x2 x4 a1 a3 : Int} {n1 : Nat} (ha1 : isL a1 n1) {n3 : Nat} (ha3 : isA a3 n3) {M : Mem} {Q : Vl → Mem → Prop} (h : inr x4 ∧ ((x4 < 0 → wp 0 yX1_keep 39 [some (Rv 20), some (Rv a1), some (Iv x2), some (Rv a3), some (Iv 0), some (Iv 0), none] [] M Q) ∧ (0 ≤ x4 → cl 0 yX1_lookBehind [Rv 20, Rv a1, Iv x4] M (QI (fun z3 M3 => (x4 < 40 ∧ (wp 0 yX1_keep 8 [some (Rv 20), some (Rv a1), some (Iv x2), some (Rv a3), some (Iv (x4 + (-1))), none, none] [] (up M3 22 x4 z3) Q))))))) : wp 0 yX1_keep 8 [some (Rv 20), some (Rv a1), some (Iv x2), some (Rv a3), some (Iv x4), none, none] [] M Q := by
  refine wp_iload dX1_keep_8 rfl ?_
  obtain ⟨o1, h⟩ := h
  refine wp_if_lt (tgt := 33) dX1_keep_10 (by decide) o1 (fun q2 => ?_) (fun q2 => ?_)
  · have h := h.1 q2
    refine wp_iconst dX1_keep_33 ?_
    refine wp_istore (L2 := [some (Rv 20), some (Rv a1), some (Iv x2), some (Rv a3), some (Iv 0), none, none]) dX1_keep_34 (Nat.le_of_ble_eq_true rfl) (Nat.le_of_ble_eq_true rfl) rfl ?_
    refine wp_iconst dX1_keep_36 ?_
    refine wp_istore (L2 := [some (Rv 20), some (Rv a1), some (Iv x2), some (Rv a3), some (Iv 0), some (Iv 0), none]) dX1_keep_37 (Nat.le_of_ble_eq_true rfl) (Nat.le_of_ble_eq_true rfl) rfl ?_
    exact h
  · have h := h.2 q2
    refine wp_aload_n dX1_keep_13 rfl (by decide) ?_
    refine wp_getf (t := Rv 22) 22 dX1_keep_14 (fl_X1_15 rfl) kd_20 rfl rfl ?_
    refine wp_iload dX1_keep_17 rfl ?_
    refine wp_aload_n dX1_keep_19 rfl (by decide) ?_
    refine wp_aload_n dX1_keep_20 rfl ha1.p ?_
    refine wp_iload dX1_keep_21 rfl ?_
    refine wp_callV (e1 := 0) (as := [Rv a1, Iv x4]) (S := [Iv x4, Rv 22]) dX1_keep_23 (cs_X1_24 rfl) kd_20 rfl rfl (Nat.le_of_ble_eq_true rfl) (Nat.le_of_ble_eq_true rfl) h (fun v3 M3 q3 r3 => ?_)
    obtain ⟨z3, rfl⟩ := retV_i r3 rfl
    have h := q3
    obtain ⟨o4, h⟩ := h
    refine wp_iast dX1_keep_26 kd_22 sz_22 q2 o4 (⟨by omega, by omega⟩) ?_
    refine wp_iinc (L2 := [some (Rv 20), some (Rv a1), some (Iv x2), some (Rv a3), some (Iv (x4 + (-1))), none, none]) dX1_keep_27 rfl (Nat.le_of_ble_eq_true rfl) (Nat.le_of_ble_eq_true rfl) rfl ?_
    refine wp_goto (tgt := 8) dX1_keep_30 (by decide) ?_
    exact h
theorem gX1_keep_39 {x2 x4 x5 a1 a3 : Int} {n1 : Nat} (ha1 : isL a1 n1) {n3 : Nat} (ha3 : isA a3 n3) {M : Mem} {Q : Vl → Mem → Prop} (h : inr x5 ∧ (inr (M a1 1) ∧ (((M a1 1) ≤ x5 → Q (Iv x4) M) ∧ (x5 < (M a1 1) → 0 ≤ x5 ∧ (x5 < n1 ∧ (cl 0 yX1_lookAhead [Rv 20, Rv a3, Iv x4, Iv (M (a1 + 1) x5)] M (QI (fun z6 M6 => (x5 < 40 ∧ (inr (z6 + (M6 22 x5)) ∧ (inr x2 ∧ ((x2 ≤ (z6 + (M6 22 x5)) → wp 0 yX1_keep 39 [some (Rv 20), some (Rv a1), some (Iv x2), some (Rv a3), some (Iv x4), some (Iv (x5 + 1)), none] [] M6 Q) ∧ ((z6 + (M6 22 x5)) < x2 → 0 ≤ x4 ∧ (x4 < n3 ∧ (inr x4 ∧ (x4 < 40 ∧ (wp 0 yX1_keep 39 [some (Rv 20), some (Rv a1), some (Iv x2), some (Rv a3), some (Iv (x4 + 1)), some (Iv (x5 + 1)), none] [] (up (up M6 a3 x4 (M6 (a1 + 1) x5)) 21 x4 z6) Q))))))))))))))))) : wp 0 yX1_keep 39 [some (Rv 20), some (Rv a1), some (Iv x2), some (Rv a3), some (Iv x4), some (Iv x5), none] [] M Q := by
  refine wp_iload dX1_keep_39 rfl ?_
  refine wp_aload_n dX1_keep_41 rfl ha1.p ?_
  refine wp_getf (t := Iv (M a1 1)) (M a1 1) dX1_keep_42 (fl_X1_18 rfl) ha1.k rfl rfl ?_
  obtain ⟨o1, h⟩ := h
  obtain ⟨o2, h⟩ := h
  refine wp_icmp_ge (tgt := 107) dX1_keep_45 (by decide) o1 o2 (fun q3 => ?_) (fun q3 => ?_)
  · have h := h.1 q3
    refine wp_iload dX1_keep_107 rfl ?_
    exact wp_iret dX1_keep_109 rfl (Or.inr ⟨rfl, rfl, rfl, by decide⟩) rfl h
  · have h := h.2 q3
    refine wp_aload_n dX1_keep_48 rfl (by decide) ?_
    refine wp_aload_n dX1_keep_49 rfl ha3.p ?_
    refine wp_iload dX1_keep_50 rfl ?_
    refine wp_aload_n dX1_keep_52 rfl ha1.p ?_
    refine wp_getf (t := Rv (a1 + 1)) (a1 + 1) dX1_keep_53 (fl_X1_28 rfl) ha1.k rfl rfl ?_
    refine wp_iload dX1_keep_56 rfl ?_
    obtain ⟨o4, h⟩ := h
    obtain ⟨o5, h⟩ := h
    refine wp_iald (M (a1 + 1) x5) dX1_keep_58 ha1.a.k ha1.a.n o4 o5 o1 rfl ?_
    refine wp_callV (e1 := 0) (as := [Rv a3, Iv x4, Iv (M (a1 + 1) x5)]) (S := []) dX1_keep_59 (cs_X1_31 rfl) kd_20 rfl rfl (Nat.le_of_ble_eq_true rfl) (Nat.le_of_ble_eq_true rfl) h (fun v6 M6 q6 r6 => ?_)
    obtain ⟨z6, rfl⟩ := retV_i r6 rfl
    have h := q6
    refine wp_istore (L2 := [some (Rv 20), some (Rv a1), some (Iv x2), some (Rv a3), some (Iv x4), some (Iv x5), some (Iv z6)]) dX1_keep_62 (Nat.le_of_ble_eq_true rfl) (Nat.le_of_ble_eq_true rfl) rfl ?_
    refine wp_iload dX1_keep_64 rfl ?_
    refine wp_aload_n dX1_keep_66 rfl (by decide) ?_
    refine wp_getf (t := Rv 22) 22 dX1_keep_67 (fl_X1_15 rfl) kd_20 rfl rfl ?_
    refine wp_iload dX1_keep_70 rfl ?_
    obtain ⟨o7, h⟩ := h
    refine wp_iald (M6 22 x5) dX1_keep_72 kd_22 sz_22 o4 o7 (⟨by omega, by omega⟩) rfl ?_
    refine wp_iadd dX1_keep_73 ?_
    refine wp_iload_n dX1_keep_74 rfl ?_
    obtain ⟨o8, h⟩ := h
    obtain ⟨o9, h⟩ := h
    refine wp_icmp_ge (tgt := 101) dX1_keep_75 (by decide) o8 o9 (fun q10 => ?_) (fun q10 => ?_)
    · have h := h.1 q10
      refine wp_iinc (L2 := [some (Rv 20), some (Rv a1), some (Iv x2), some (Rv a3), some (Iv x4), some (Iv (x5 + 1)), some (Iv z6)]) dX1_keep_101 rfl (Nat.le_of_ble_eq_true rfl) (Nat.le_of_ble_eq_true rfl) rfl ?_
      refine wp_goto (tgt := 39) dX1_keep_104 (by decide) ?_
      exact wp_weak [true, true, true, true, true, true, false] rfl h
    · have h := h.2 q10
      refine wp_aload_n dX1_keep_78 rfl ha3.p ?_
      refine wp_iload dX1_keep_79 rfl ?_
      refine wp_aload_n dX1_keep_81 rfl ha1.p ?_
      refine wp_getf (t := Rv (a1 + 1)) (a1 + 1) dX1_keep_82 (fl_X1_28 rfl) ha1.k rfl rfl ?_
      refine wp_iload dX1_keep_85 rfl ?_
      refine wp_iald (M6 (a1 + 1) x5) dX1_keep_87 ha1.a.k ha1.a.n o4 o5 o1 rfl ?_
      obtain ⟨o11, h⟩ := h
      obtain ⟨o12, h⟩ := h
      obtain ⟨o13, h⟩ := h
      refine wp_iast dX1_keep_88 ha3.k ha3.n o11 o12 o13 ?_
      refine wp_aload_n dX1_keep_89 rfl (by decide) ?_
      refine wp_getf (t := Rv 21) 21 dX1_keep_90 (fl_X1_9 rfl) kd_20 rfl rfl ?_
      refine wp_iload dX1_keep_93 rfl ?_
      refine wp_iload dX1_keep_95 rfl ?_
      obtain ⟨o14, h⟩ := h
      refine wp_iast dX1_keep_97 kd_21 sz_21 o11 o14 (⟨by omega, by omega⟩) ?_
      refine wp_iinc (L2 := [some (Rv 20), some (Rv a1), some (Iv x2), some (Rv a3), some (Iv (x4 + 1)), some (Iv x5), some (Iv z6)]) dX1_keep_98 rfl (Nat.le_of_ble_eq_true rfl) (Nat.le_of_ble_eq_true rfl) rfl ?_
      refine wp_iinc (L2 := [some (Rv 20), some (Rv a1), some (Iv x2), some (Rv a3), some (Iv (x4 + 1)), some (Iv (x5 + 1)), some (Iv z6)]) dX1_keep_101 rfl (Nat.le_of_ble_eq_true rfl) (Nat.le_of_ble_eq_true rfl) rfl ?_
      refine wp_goto (tgt := 39) dX1_keep_104 (by decide) ?_
      exact wp_weak [true, true, true, true, true, true, false] rfl h
theorem gX1_lookBehind {x2 a1 : Int} {n1 : Nat} (ha1 : isL a1 n1) {M : Mem} {Q : Vl → Mem → Prop} (h : wp 0 yX1_lookBehind 8 [some (Rv 20), some (Rv a1), some (Iv x2), some (Iv 40), some (Iv (x2 + 1))] [] M Q) : wp 0 yX1_lookBehind 0 [some (Rv 20), some (Rv a1), some (Iv x2), none, none] [] M Q := by
  refine wp_bipush dX1_lookBehind_0 (by decide) ?_
  refine wp_istore_n (L2 := [some (Rv 20), some (Rv a1), some (Iv x2), some (Iv 40), none]) dX1_lookBehind_2 (Nat.le_of_ble_eq_true rfl) (Nat.le_of_ble_eq_true rfl) rfl ?_
  refine wp_iload_n dX1_lookBehind_3 rfl ?_
  refine wp_iconst dX1_lookBehind_4 ?_
  refine wp_iadd dX1_lookBehind_5 ?_
  refine wp_istore (L2 := [some (Rv 20), some (Rv a1), some (Iv x2), some (Iv 40), some (Iv (x2 + 1))]) dX1_lookBehind_6 (Nat.le_of_ble_eq_true rfl) (Nat.le_of_ble_eq_true rfl) rfl ?_
  exact h
theorem eX1_lookBehind {x2 a1 : Int} {n1 : Nat} (ha1 : isL a1 n1) {M : Mem} {Q : Vl → Mem → Prop} (h : wp 0 yX1_lookBehind 8 [some (Rv 20), some (Rv a1), some (Iv x2), some (Iv 40), some (Iv (x2 + 1))] [] M Q) : cl 0 yX1_lookBehind [Rv 20, Rv a1, Iv x2] M Q := enterG (by decide +kernel) (by exact Or.inr (Or.inl rfl)) (Nat.le_of_ble_eq_true rfl) rfl (gX1_lookBehind ha1 h)
theorem gX1_lookBehind_8 {x2 x3 x4 a1 : Int} {n1 : Nat} (ha1 : isL a1 n1) {M : Mem} {Q : Vl → Mem → Prop} (h : inr x4 ∧ (inr (M a1 1) ∧ (((M a1 1) ≤ x4 → Q (Iv 0) M) ∧ (x4 < (M a1 1) → 0 ≤ x4 ∧ (x4 < 40 ∧ (inr x3 ∧ (inr ((M 22 x4) + 1) ∧ (x4 < n1 ∧ (0 ≤ x2 ∧ (x2 < n1 ∧ (inr x2 ∧ (((M (a1 + 1) x4) = (M (a1 + 1) x2) ∨ (inr (M (a1 + 1) x4) ∧ inr (M (a1 + 1) x2))) ∧ (((M (a1 + 1) x4) ≠ (M (a1 + 1) x2) → wp 0 yX1_lookBehind 8 [some (Rv 20), some (Rv a1), some (Iv x2), some (Iv (if ((M 22 x4) + 1) < x3 then ((M 22 x4) + 1) else x3)), some (Iv (x4 + 1))] [] M Q) ∧ ((M (a1 + 1) x4) = (M (a1 + 1) x2) → Q (Iv (if ((M 22 x4) + 1) < x3 then ((M 22 x4) + 1) else x3)) M)))))))))))))) : wp 0 yX1_lookBehind 8 [some (Rv 20), some (Rv a1), some (Iv x2), some (Iv x3), some (Iv x4)] [] M Q := by
  refine wp_iload dX1_lookBehind_8 rfl ?_
  refine wp_aload_n dX1_lookBehind_10 rfl ha1.p ?_
  refine wp_getf (t := Iv (M a1 1)) (M a1 1) dX1_lookBehind_11 (fl_X1_18 rfl) ha1.k rfl rfl ?_
  obtain ⟨o1, h⟩ := h
  obtain ⟨o2, h⟩ := h
  refine wp_icmp_ge (tgt := 55) dX1_lookBehind_14 (by decide) o1 o2 (fun q3 => ?_) (fun q3 => ?_)
  · have h := h.1 q3
    refine wp_iconst dX1_lookBehind_55 ?_
    exact wp_iret dX1_lookBehind_56 rfl (Or.inr ⟨rfl, rfl, rfl, by decide⟩) rfl h
  · have h := h.2 q3
    refine wp_iload_n dX1_lookBehind_17 rfl ?_
    refine wp_aload_n dX1_lookBehind_18 rfl (by decide) ?_
    refine wp_getf (t := Rv 22) 22 dX1_lookBehind_19 (fl_X1_15 rfl) kd_20 rfl rfl ?_
    refine wp_iload dX1_lookBehind_22 rfl ?_
    obtain ⟨o4, h⟩ := h
    obtain ⟨o5, h⟩ := h
    refine wp_iald (M 22 x4) dX1_lookBehind_24 kd_22 sz_22 o4 o5 (⟨by omega, by omega⟩) rfl ?_
    refine wp_iconst dX1_lookBehind_25 ?_
    refine wp_iadd dX1_lookBehind_26 ?_
    obtain ⟨o6, h⟩ := h
    obtain ⟨o7, h⟩ := h
    refine wp_mmin dX1_lookBehind_27 (ml_X1_35 rfl) o6 o7 (Nat.le_of_ble_eq_true rfl) (by decide) (by decide) ?_
    refine wp_istore_n (L2 := [some (Rv 20), some (Rv a1), some (Iv x2), some (Iv (if ((M 22 x4) + 1) < x3 then ((M 22 x4) + 1) else x3)), some (Iv x4)]) dX1_lookBehind_30 (Nat.le_of_ble_eq_true rfl) (Nat.le_of_ble_eq_true rfl) rfl ?_
    refine wp_aload_n dX1_lookBehind_31 rfl ha1.p ?_
    refine wp_getf (t := Rv (a1 + 1)) (a1 + 1) dX1_lookBehind_32 (fl_X1_28 rfl) ha1.k rfl rfl ?_
    refine wp_iload dX1_lookBehind_35 rfl ?_
    obtain ⟨o8, h⟩ := h
    refine wp_iald (M (a1 + 1) x4) dX1_lookBehind_37 ha1.a.k ha1.a.n o4 o8 o1 rfl ?_
    refine wp_aload_n dX1_lookBehind_38 rfl ha1.p ?_
    refine wp_getf (t := Rv (a1 + 1)) (a1 + 1) dX1_lookBehind_39 (fl_X1_28 rfl) ha1.k rfl rfl ?_
    refine wp_iload_n dX1_lookBehind_42 rfl ?_
    obtain ⟨o9, h⟩ := h
    obtain ⟨o10, h⟩ := h
    obtain ⟨o11, h⟩ := h
    refine wp_iald (M (a1 + 1) x2) dX1_lookBehind_43 ha1.a.k ha1.a.n o9 o10 o11 rfl ?_
    obtain ⟨o12, h⟩ := h
    refine wp_icmp_ne (tgt := 49) dX1_lookBehind_44 (by decide) o12 (fun q13 => ?_) (fun q13 => ?_)
    · have h := h.1 q13
      refine wp_iinc (L2 := [some (Rv 20), some (Rv a1), some (Iv x2), some (Iv (if ((M 22 x4) + 1) < x3 then ((M 22 x4) + 1) else x3)), some (Iv (x4 + 1))]) dX1_lookBehind_49 rfl (Nat.le_of_ble_eq_true rfl) (Nat.le_of_ble_eq_true rfl) rfl ?_
      refine wp_goto (tgt := 8) dX1_lookBehind_52 (by decide) ?_
      exact h
    · have h := h.2 q13
      refine wp_iload_n dX1_lookBehind_47 rfl ?_
      exact wp_iret dX1_lookBehind_48 rfl (Or.inr ⟨rfl, rfl, rfl, by decide⟩) rfl h
theorem gX1_lookAhead {x2 x3 a1 : Int} {n1 : Nat} (ha1 : isA a1 n1) {M : Mem} {Q : Vl → Mem → Prop} (h : wp 0 yX1_lookAhead 9 [some (Rv 20), some (Rv a1), some (Iv x2), some (Iv x3), some (Iv 40), some (Iv (x2 - 1))] [] M Q) : wp 0 yX1_lookAhead 0 [some (Rv 20), some (Rv a1), some (Iv x2), some (Iv x3), none, none] [] M Q := by
  refine wp_bipush dX1_lookAhead_0 (by decide) ?_
  refine wp_istore (L2 := [some (Rv 20), some (Rv a1), some (Iv x2), some (Iv x3), some (Iv 40), none]) dX1_lookAhead_2 (Nat.le_of_ble_eq_true rfl) (Nat.le_of_ble_eq_true rfl) rfl ?_
  refine wp_iload_n dX1_lookAhead_4 rfl ?_
  refine wp_iconst dX1_lookAhead_5 ?_
  refine wp_isub dX1_lookAhead_6 ?_
  refine wp_istore (L2 := [some (Rv 20), some (Rv a1), some (Iv x2), some (Iv x3), some (Iv 40), some (Iv (x2 - 1))]) dX1_lookAhead_7 (Nat.le_of_ble_eq_true rfl) (Nat.le_of_ble_eq_true rfl) rfl ?_
  exact h
theorem eX1_lookAhead {x2 x3 a1 : Int} {n1 : Nat} (ha1 : isA a1 n1) {M : Mem} {Q : Vl → Mem → Prop} (h : wp 0 yX1_lookAhead 9 [some (Rv 20), some (Rv a1), some (Iv x2), some (Iv x3), some (Iv 40), some (Iv (x2 - 1))] [] M Q) : cl 0 yX1_lookAhead [Rv 20, Rv a1, Iv x2, Iv x3] M Q := enterG (by decide +kernel) (by exact Or.inr (Or.inl rfl)) (Nat.le_of_ble_eq_true rfl) rfl (gX1_lookAhead ha1 h)
theorem gX1_lookAhead_9 {x2 x3 x4 x5 a1 : Int} {n1 : Nat} (ha1 : isA a1 n1) {M : Mem} {Q : Vl → Mem → Prop} (h : inr x5 ∧ ((x5 < 0 → Q (Iv 0) M) ∧ (0 ≤ x5 → x5 < 40 ∧ (inr x4 ∧ (inr ((M 21 x5) + 1) ∧ (x5 < n1 ∧ (((M a1 x5) = x3 ∨ (inr (M a1 x5) ∧ inr x3)) ∧ (((M a1 x5) ≠ x3 → wp 0 yX1_lookAhead 9 [some (Rv 20), some (Rv a1), some (Iv x2), some (Iv x3), some (Iv (if ((M 21 x5) + 1) < x4 then ((M 21 x5) + 1) else x4)), some (Iv (x5 + (-1)))] [] M Q) ∧ ((M a1 x5) = x3 → Q (Iv (if ((M 21 x5) + 1) < x4 then ((M 21 x5) + 1) else x4)) M))))))))) : wp 0 yX1_lookAhead 9 [some (Rv 20), some (Rv a1), some (Iv x2), some (Iv x3), some (Iv x4), some (Iv x5)] [] M Q := by
  refine wp_iload dX1_lookAhead_9 rfl ?_
  obtain ⟨o1, h⟩ := h
  refine wp_if_lt (tgt := 47) dX1_lookAhead_11 (by decide) o1 (fun q2 => ?_) (fun q2 => ?_)
  · have h := h.1 q2
    refine wp_iconst dX1_lookAhead_47 ?_
    exact wp_iret dX1_lookAhead_48 rfl (Or.inr ⟨rfl, rfl, rfl, by decide⟩) rfl h
  · have h := h.2 q2
    refine wp_iload dX1_lookAhead_14 rfl ?_
    refine wp_aload_n dX1_lookAhead_16 rfl (by decide) ?_
    refine wp_getf (t := Rv 21) 21 dX1_lookAhead_17 (fl_X1_9 rfl) kd_20 rfl rfl ?_
    refine wp_iload dX1_lookAhead_20 rfl ?_
    obtain ⟨o3, h⟩ := h
    refine wp_iald (M 21 x5) dX1_lookAhead_22 kd_21 sz_21 q2 o3 (⟨by omega, by omega⟩) rfl ?_
    refine wp_iconst dX1_lookAhead_23 ?_
    refine wp_iadd dX1_lookAhead_24 ?_
    obtain ⟨o4, h⟩ := h
    obtain ⟨o5, h⟩ := h
    refine wp_mmin dX1_lookAhead_25 (ml_X1_35 rfl) o4 o5 (Nat.le_of_ble_eq_true rfl) (by decide) (by decide) ?_
    refine wp_istore (L2 := [some (Rv 20), some (Rv a1), some (Iv x2), some (Iv x3), some (Iv (if ((M 21 x5) + 1) < x4 then ((M 21 x5) + 1) else x4)), some (Iv x5)]) dX1_lookAhead_28 (Nat.le_of_ble_eq_true rfl) (Nat.le_of_ble_eq_true rfl) rfl ?_
    refine wp_aload_n dX1_lookAhead_30 rfl ha1.p ?_
    refine wp_iload dX1_lookAhead_31 rfl ?_
    obtain ⟨o6, h⟩ := h
    refine wp_iald (M a1 x5) dX1_lookAhead_33 ha1.k ha1.n q2 o6 o1 rfl ?_
    refine wp_iload_n dX1_lookAhead_34 rfl ?_
    obtain ⟨o7, h⟩ := h
    refine wp_icmp_ne (tgt := 41) dX1_lookAhead_35 (by decide) o7 (fun q8 => ?_) (fun q8 => ?_)
    · have h := h.1 q8
      refine wp_iinc (L2 := [some (Rv 20), some (Rv a1), some (Iv x2), some (Iv x3), some (Iv (if ((M 21 x5) + 1) < x4 then ((M 21 x5) + 1) else x4)), some (Iv (x5 + (-1)))]) dX1_lookAhead_41 rfl (Nat.le_of_ble_eq_true rfl) (Nat.le_of_ble_eq_true rfl) rfl ?_
      refine wp_goto (tgt := 9) dX1_lookAhead_44 (by decide) ?_
      exact h
    · have h := h.2 q8
      refine wp_iload dX1_lookAhead_38 rfl ?_
      exact wp_iret dX1_lookAhead_40 rfl (Or.inr ⟨rfl, rfl, rfl, by decide⟩) rfl h
theorem gX2_read {a1 : Int} {n1 : Nat} (ha1 : isL a1 n1) {M : Mem} {Q : Vl → Mem → Prop} (h : cl 0 yX8_read [Rv 81, Rv a1] M (QV (fun M1 => (0 ≤ ((up M1 80 2 (M1 a1 1)) a1 1) * 41 ∧ (((up M1 80 2 (M1 a1 1)) a1 1) * 41 < 1681 ∧ (wp 0 yX2_read 33 [some (Rv 80), some (Rv a1), some (Iv (((up M1 80 2 (M1 a1 1)) a1 1) * 41)), some (Iv 1)] [] (up (up M1 80 2 (M1 a1 1)) 79 (((up M1 80 2 (M1 a1 1)) a1 1) * 41) 1) Q)))))) : wp 0 yX2_read 0 [some (Rv 80), some (Rv a1), none, none] [] M Q := by
  refine wp_aload_n dX2_read_0 rfl (by decide) ?_
  refine wp_getf (t := Rv 81) 81 dX2_read_1 (fl_X2_12 rfl) kd_80 rfl rfl ?_
  refine wp_aload_n dX2_read_4 rfl ha1.p ?_
  refine wp_callV (e1 := 0) (as := [Rv a1]) (S := []) dX2_read_5 (cs_X2_22 rfl) kd_81 rfl rfl (Nat.le_of_ble_eq_true rfl) (Nat.le_of_ble_eq_true rfl) h (fun v1 M1 q1 r1 => ?_)
  have h := q1
  refine wp_aload_n dX2_read_8 rfl (by decide) ?_
  refine wp_aload_n dX2_read_9 rfl ha1.p ?_
  refine wp_getf (t := Iv (M1 a1 1)) (M1 a1 1) dX2_read_10 (fl_X2_26 rfl) ha1.k rfl rfl ?_
  refine wp_putf (x := (M1 a1 1)) dX2_read_13 (fl_X2_32 rfl) kd_80 (fun _ => rfl) rfl rfl trivial ?_
  refine wp_aload_n dX2_read_16 rfl ha1.p ?_
  refine wp_getf (t := Iv ((up M1 80 2 (M1 a1 1)) a1 1)) ((up M1 80 2 (M1 a1 1)) a1 1) dX2_read_17 (fl_X2_26 rfl) ha1.k rfl rfl ?_
  refine wp_bipush dX2_read_20 (by decide) ?_
  refine wp_imul dX2_read_22 ?_
  refine wp_istore_n (L2 := [some (Rv 80), some (Rv a1), some (Iv (((up M1 80 2 (M1 a1 1)) a1 1) * 41)), none]) dX2_read_23 (Nat.le_of_ble_eq_true rfl) (Nat.le_of_ble_eq_true rfl) rfl ?_
  refine wp_aload_n dX2_read_24 rfl (by decide) ?_
  refine wp_getf (t := Rv 79) 79 dX2_read_25 (fl_X2_18 rfl) kd_80 rfl rfl ?_
  refine wp_iload_n dX2_read_28 rfl ?_
  refine wp_lconst1 dX2_read_29 ?_
  obtain ⟨o2, h⟩ := h
  obtain ⟨o3, h⟩ := h
  refine wp_last dX2_read_30 kd_79 sz_79 o2 o3 (⟨by omega, by omega⟩) ?_
  refine wp_iconst dX2_read_31 ?_
  refine wp_istore_n (L2 := [some (Rv 80), some (Rv a1), some (Iv (((up M1 80 2 (M1 a1 1)) a1 1) * 41)), some (Iv 1)]) dX2_read_32 (Nat.le_of_ble_eq_true rfl) (Nat.le_of_ble_eq_true rfl) rfl ?_
  exact h
theorem eX2_read {a1 : Int} {n1 : Nat} (ha1 : isL a1 n1) {M : Mem} {Q : Vl → Mem → Prop} (h : cl 0 yX8_read [Rv 81, Rv a1] M (QV (fun M1 => (0 ≤ ((up M1 80 2 (M1 a1 1)) a1 1) * 41 ∧ (((up M1 80 2 (M1 a1 1)) a1 1) * 41 < 1681 ∧ (wp 0 yX2_read 33 [some (Rv 80), some (Rv a1), some (Iv (((up M1 80 2 (M1 a1 1)) a1 1) * 41)), some (Iv 1)] [] (up (up M1 80 2 (M1 a1 1)) 79 (((up M1 80 2 (M1 a1 1)) a1 1) * 41) 1) Q)))))) : cl 0 yX2_read [Rv 80, Rv a1] M Q := enterG (by decide +kernel) (by exact Or.inl rfl) (Nat.le_of_ble_eq_true rfl) rfl (gX2_read ha1 h)
theorem gX2_read_33 {x2 x3 a1 : Int} {n1 : Nat} (ha1 : isL a1 n1) {M : Mem} {Q : Vl → Mem → Prop} (h : inr x3 ∧ ((41 ≤ x3 → wp 0 yX2_read 61 [some (Rv 80), some (Rv a1), some (Iv x2), some (Iv ((M a1 1) - 1))] [] M Q) ∧ (x3 < 41 → 0 ≤ x2 + x3 ∧ (x2 + x3 < 1681 ∧ (wp 0 yX2_read 33 [some (Rv 80), some (Rv a1), some (Iv x2), some (Iv (x3 + 1))] [] (up M 79 (x2 + x3) 0) Q))))) : wp 0 yX2_read 33 [some (Rv 80), some (Rv a1), some (Iv x2), some (Iv x3)] [] M Q := by
  refine wp_iload_n dX2_read_33 rfl ?_
  refine wp_bipush dX2_read_34 (by decide) ?_
  obtain ⟨o1, h⟩ := h
  refine wp_icmp_ge (tgt := 54) dX2_read_36 (by decide) o1 (by decide) (fun q2 => ?_) (fun q2 => ?_)
  · have h := h.1 q2
    refine wp_aload_n dX2_read_54 rfl ha1.p ?_
    refine wp_getf (t := Iv (M a1 1)) (M a1 1) dX2_read_55 (fl_X2_26 rfl) ha1.k rfl rfl ?_
    refine wp_iconst dX2_read_58 ?_
    refine wp_isub dX2_read_59 ?_
    refine wp_istore_n (L2 := [some (Rv 80), some (Rv a1), some (Iv x2), some (Iv ((M a1 1) - 1))]) dX2_read_60 (Nat.le_of_ble_eq_true rfl) (Nat.le_of_ble_eq_true rfl) rfl ?_
    exact h
  · have h := h.2 q2
    refine wp_aload_n dX2_read_39 rfl (by decide) ?_
    refine wp_getf (t := Rv 79) 79 dX2_read_40 (fl_X2_18 rfl) kd_80 rfl rfl ?_
    refine wp_iload_n dX2_read_43 rfl ?_
    refine wp_iload_n dX2_read_44 rfl ?_
    refine wp_iadd dX2_read_45 ?_
    refine wp_lconst0 dX2_read_46 ?_
    obtain ⟨o3, h⟩ := h
    obtain ⟨o4, h⟩ := h
    refine wp_last dX2_read_47 kd_79 sz_79 o3 o4 (⟨by omega, by omega⟩) ?_
    refine wp_iinc (L2 := [some (Rv 80), some (Rv a1), some (Iv x2), some (Iv (x3 + 1))]) dX2_read_48 rfl (Nat.le_of_ble_eq_true rfl) (Nat.le_of_ble_eq_true rfl) rfl ?_
    refine wp_goto (tgt := 33) dX2_read_51 (by decide) ?_
    exact h
theorem gX2_read_61 {x2 x3 a1 : Int} {n1 : Nat} (ha1 : isL a1 n1) {M : Mem} {Q : Vl → Mem → Prop} (h : inr x3 ∧ ((x3 < 0 → Q (Iv 0) M) ∧ (0 ≤ x3 → x3 < n1 ∧ (cl 0 yX8_behind [Rv 81, Iv (x3 + 1), Iv (M (a1 + 1) x3)] M (QI (fun z4 M4 => (cl 0 yX2_readPlace [Rv 80, Iv (x3 * 41), Iv z4] M4 (QV (fun M5 => (wp 0 yX2_read 61 [some (Rv 80), some (Rv a1), some (Iv x2), some (Iv (x3 + (-1)))] [] M5 Q)))))))))) : wp 0 yX2_read 61 [some (Rv 80), some (Rv a1), some (Iv x2), some (Iv x3)] [] M Q := by
  refine wp_iload_n dX2_read_61 rfl ?_
  obtain ⟨o1, h⟩ := h
  refine wp_if_lt (tgt := 95) dX2_read_62 (by decide) o1 (fun q2 => ?_) (fun q2 => ?_)
  · have h := h.1 q2
    exact wp_vret dX2_read_95 rfl (Or.inr ⟨rfl, rfl, rfl, by decide⟩) rfl h
  · have h := h.2 q2
    refine wp_aload_n dX2_read_65 rfl (by decide) ?_
    refine wp_iload_n dX2_read_66 rfl ?_
    refine wp_bipush dX2_read_67 (by decide) ?_
    refine wp_imul dX2_read_69 ?_
    refine wp_aload_n dX2_read_70 rfl (by decide) ?_
    refine wp_getf (t := Rv 81) 81 dX2_read_71 (fl_X2_12 rfl) kd_80 rfl rfl ?_
    refine wp_iload_n dX2_read_74 rfl ?_
    refine wp_iconst dX2_read_75 ?_
    refine wp_iadd dX2_read_76 ?_
    refine wp_aload_n dX2_read_77 rfl ha1.p ?_
    refine wp_getf (t := Rv (a1 + 1)) (a1 + 1) dX2_read_78 (fl_X2_35 rfl) ha1.k rfl rfl ?_
    refine wp_iload_n dX2_read_81 rfl ?_
    obtain ⟨o3, h⟩ := h
    refine wp_iald (M (a1 + 1) x3) dX2_read_82 ha1.a.k ha1.a.n q2 o3 o1 rfl ?_
    refine wp_callV (e1 := 0) (as := [Iv (x3 + 1), Iv (M (a1 + 1) x3)]) (S := [Iv (x3 * 41), Rv 80]) dX2_read_83 (cs_X2_39 rfl) kd_81 rfl rfl (Nat.le_of_ble_eq_true rfl) (Nat.le_of_ble_eq_true rfl) h (fun v4 M4 q4 r4 => ?_)
    obtain ⟨z4, rfl⟩ := retV_i r4 rfl
    have h := q4
    refine wp_callV (e1 := 0) (as := [Iv (x3 * 41), Iv z4]) (S := []) dX2_read_86 (cs_X2_43 rfl) kd_80 rfl rfl (Nat.le_of_ble_eq_true rfl) (Nat.le_of_ble_eq_true rfl) h (fun v5 M5 q5 r5 => ?_)
    have h := q5
    refine wp_iinc (L2 := [some (Rv 80), some (Rv a1), some (Iv x2), some (Iv (x3 + (-1)))]) dX2_read_89 rfl (Nat.le_of_ble_eq_true rfl) (Nat.le_of_ble_eq_true rfl) rfl ?_
    refine wp_goto (tgt := 61) dX2_read_92 (by decide) ?_
    exact h
theorem gX2_readPlace {x1 x2 : Int}  {M : Mem} {Q : Vl → Mem → Prop} (h : 0 ≤ x1 ∧ (x1 < 1681 ∧ (wp 0 yX2_readPlace 9 [some (Rv 80), some (Iv x1), some (Iv x2), some (Iv 1), none, none] [] (up M 79 x1 1) Q))) : wp 0 yX2_readPlace 0 [some (Rv 80), some (Iv x1), some (Iv x2), none, none, none] [] M Q := by
  refine wp_aload_n dX2_readPlace_0 rfl (by decide) ?_
  refine wp_getf (t := Rv 79) 79 dX2_readPlace_1 (fl_X2_18 rfl) kd_80 rfl rfl ?_
  refine wp_iload_n dX2_readPlace_4 rfl ?_
  refine wp_lconst1 dX2_readPlace_5 ?_
  obtain ⟨o1, h⟩ := h
  obtain ⟨o2, h⟩ := h
  refine wp_last dX2_readPlace_6 kd_79 sz_79 o1 o2 (⟨by omega, by omega⟩) ?_
  refine wp_iconst dX2_readPlace_7 ?_
  refine wp_istore_n (L2 := [some (Rv 80), some (Iv x1), some (Iv x2), some (Iv 1), none, none]) dX2_readPlace_8 (Nat.le_of_ble_eq_true rfl) (Nat.le_of_ble_eq_true rfl) rfl ?_
  exact h
theorem eX2_readPlace {x1 x2 : Int}  {M : Mem} {Q : Vl → Mem → Prop} (h : 0 ≤ x1 ∧ (x1 < 1681 ∧ (wp 0 yX2_readPlace 9 [some (Rv 80), some (Iv x1), some (Iv x2), some (Iv 1), none, none] [] (up M 79 x1 1) Q))) : cl 0 yX2_readPlace [Rv 80, Iv x1, Iv x2] M Q := enterG (by decide +kernel) (by exact Or.inl rfl) (Nat.le_of_ble_eq_true rfl) rfl (gX2_readPlace h)
theorem gX2_readPlace_9 {x1 x2 x3 : Int}  {M : Mem} {Q : Vl → Mem → Prop} (h : inr x3 ∧ ((41 ≤ x3 → Q (Iv 0) M) ∧ (x3 < 41 → inr x2 ∧ ((x2 ≠ 0 → 0 ≤ ((x2 * 41) + x3) - 1 ∧ (((x2 * 41) + x3) - 1 < 1681 ∧ (0 ≤ (x1 + 41) + x3 ∧ ((x1 + 41) + x3 < 1681 ∧ (0 ≤ ((x1 + 41) + x3) - 1 ∧ (((x1 + 41) + x3) - 1 < 1681 ∧ (0 ≤ x1 + x3 ∧ (x1 + x3 < 1681 ∧ (wp 0 yX2_readPlace 9 [some (Rv 80), some (Iv x1), some (Iv x2), some (Iv (x3 + 1)), none, none] [] (up M 79 (x1 + x3) (((M 79 ((x1 + 41) + x3)) + (M 79 (((x1 + 41) + x3) - 1))) - (M 79 (((x2 * 41) + x3) - 1)))) Q))))))))) ∧ (x2 = 0 → 0 ≤ (x1 + 41) + x3 ∧ ((x1 + 41) + x3 < 1681 ∧ (0 ≤ ((x1 + 41) + x3) - 1 ∧ (((x1 + 41) + x3) - 1 < 1681 ∧ (0 ≤ x1 + x3 ∧ (x1 + x3 < 1681 ∧ (wp 0 yX2_readPlace 9 [some (Rv 80), some (Iv x1), some (Iv x2), some (Iv (x3 + 1)), none, none] [] (up M 79 (x1 + x3) (((M 79 ((x1 + 41) + x3)) + (M 79 (((x1 + 41) + x3) - 1))) - 0)) Q))))))))))) : wp 0 yX2_readPlace 9 [some (Rv 80), some (Iv x1), some (Iv x2), some (Iv x3), none, none] [] M Q := by
  refine wp_iload_n dX2_readPlace_9 rfl ?_
  refine wp_bipush dX2_readPlace_10 (by decide) ?_
  obtain ⟨o1, h⟩ := h
  refine wp_icmp_ge (tgt := 80) dX2_readPlace_12 (by decide) o1 (by decide) (fun q2 => ?_) (fun q2 => ?_)
  · have h := h.1 q2
    exact wp_vret dX2_readPlace_80 rfl (Or.inr ⟨rfl, rfl, rfl, by decide⟩) rfl h
  · have h := h.2 q2
    refine wp_iload_n dX2_readPlace_15 rfl ?_
    obtain ⟨o3, h⟩ := h
    refine wp_if_ne (tgt := 23) dX2_readPlace_16 (by decide) o3 (fun q4 => ?_) (fun q4 => ?_)
    · have h := h.1 q4
      refine wp_aload_n dX2_readPlace_23 rfl (by decide) ?_
      refine wp_getf (t := Rv 79) 79 dX2_readPlace_24 (fl_X2_18 rfl) kd_80 rfl rfl ?_
      refine wp_iload_n dX2_readPlace_27 rfl ?_
      refine wp_bipush dX2_readPlace_28 (by decide) ?_
      refine wp_imul dX2_readPlace_30 ?_
      refine wp_iload_n dX2_readPlace_31 rfl ?_
      refine wp_iadd dX2_readPlace_32 ?_
      refine wp_iconst dX2_readPlace_33 ?_
      refine wp_isub dX2_readPlace_34 ?_
      obtain ⟨o5, h⟩ := h
      obtain ⟨o6, h⟩ := h
      refine wp_lald (M 79 (((x2 * 41) + x3) - 1)) dX2_readPlace_35 kd_79 sz_79 o5 o6 (⟨by omega, by omega⟩) rfl ?_
      refine wp_lstore (L2 := [some (Rv 80), some (Iv x1), some (Iv x2), some (Iv x3), some (Jv (M 79 (((x2 * 41) + x3) - 1))), none]) dX2_readPlace_36 (Nat.le_of_ble_eq_true rfl) (Nat.le_of_ble_eq_true rfl) rfl ?_
      refine wp_aload_n dX2_readPlace_38 rfl (by decide) ?_
      refine wp_getf (t := Rv 79) 79 dX2_readPlace_39 (fl_X2_18 rfl) kd_80 rfl rfl ?_
      refine wp_iload_n dX2_readPlace_42 rfl ?_
      refine wp_iload_n dX2_readPlace_43 rfl ?_
      refine wp_iadd dX2_readPlace_44 ?_
      refine wp_aload_n dX2_readPlace_45 rfl (by decide) ?_
      refine wp_getf (t := Rv 79) 79 dX2_readPlace_46 (fl_X2_18 rfl) kd_80 rfl rfl ?_
      refine wp_iload_n dX2_readPlace_49 rfl ?_
      refine wp_bipush dX2_readPlace_50 (by decide) ?_
      refine wp_iadd dX2_readPlace_52 ?_
      refine wp_iload_n dX2_readPlace_53 rfl ?_
      refine wp_iadd dX2_readPlace_54 ?_
      obtain ⟨o7, h⟩ := h
      obtain ⟨o8, h⟩ := h
      refine wp_lald (M 79 ((x1 + 41) + x3)) dX2_readPlace_55 kd_79 sz_79 o7 o8 (⟨by omega, by omega⟩) rfl ?_
      refine wp_aload_n dX2_readPlace_56 rfl (by decide) ?_
      refine wp_getf (t := Rv 79) 79 dX2_readPlace_57 (fl_X2_18 rfl) kd_80 rfl rfl ?_
      refine wp_iload_n dX2_readPlace_60 rfl ?_
      refine wp_bipush dX2_readPlace_61 (by decide) ?_
      refine wp_iadd dX2_readPlace_63 ?_
      refine wp_iload_n dX2_readPlace_64 rfl ?_
      refine wp_iadd dX2_readPlace_65 ?_
      refine wp_iconst dX2_readPlace_66 ?_
      refine wp_isub dX2_readPlace_67 ?_
      obtain ⟨o9, h⟩ := h
      obtain ⟨o10, h⟩ := h
      refine wp_lald (M 79 (((x1 + 41) + x3) - 1)) dX2_readPlace_68 kd_79 sz_79 o9 o10 (⟨by omega, by omega⟩) rfl ?_
      refine wp_ladd dX2_readPlace_69 ?_
      refine wp_lload dX2_readPlace_70 rfl ?_
      refine wp_lsub dX2_readPlace_72 ?_
      obtain ⟨o11, h⟩ := h
      obtain ⟨o12, h⟩ := h
      refine wp_last dX2_readPlace_73 kd_79 sz_79 o11 o12 (⟨by omega, by omega⟩) ?_
      refine wp_iinc (L2 := [some (Rv 80), some (Iv x1), some (Iv x2), some (Iv (x3 + 1)), some (Jv (M 79 (((x2 * 41) + x3) - 1))), none]) dX2_readPlace_74 rfl (Nat.le_of_ble_eq_true rfl) (Nat.le_of_ble_eq_true rfl) rfl ?_
      refine wp_goto (tgt := 9) dX2_readPlace_77 (by decide) ?_
      exact wp_weak [true, true, true, true, false, true] rfl h
    · have h := h.2 q4
      refine wp_lconst0 dX2_readPlace_19 ?_
      refine wp_goto (tgt := 36) dX2_readPlace_20 (by decide) ?_
      refine wp_lstore (L2 := [some (Rv 80), some (Iv x1), some (Iv x2), some (Iv x3), some (Jv 0), none]) dX2_readPlace_36 (Nat.le_of_ble_eq_true rfl) (Nat.le_of_ble_eq_true rfl) rfl ?_
      refine wp_aload_n dX2_readPlace_38 rfl (by decide) ?_
      refine wp_getf (t := Rv 79) 79 dX2_readPlace_39 (fl_X2_18 rfl) kd_80 rfl rfl ?_
      refine wp_iload_n dX2_readPlace_42 rfl ?_
      refine wp_iload_n dX2_readPlace_43 rfl ?_
      refine wp_iadd dX2_readPlace_44 ?_
      refine wp_aload_n dX2_readPlace_45 rfl (by decide) ?_
      refine wp_getf (t := Rv 79) 79 dX2_readPlace_46 (fl_X2_18 rfl) kd_80 rfl rfl ?_
      refine wp_iload_n dX2_readPlace_49 rfl ?_
      refine wp_bipush dX2_readPlace_50 (by decide) ?_
      refine wp_iadd dX2_readPlace_52 ?_
      refine wp_iload_n dX2_readPlace_53 rfl ?_
      refine wp_iadd dX2_readPlace_54 ?_
      obtain ⟨o13, h⟩ := h
      obtain ⟨o14, h⟩ := h
      refine wp_lald (M 79 ((x1 + 41) + x3)) dX2_readPlace_55 kd_79 sz_79 o13 o14 (⟨by omega, by omega⟩) rfl ?_
      refine wp_aload_n dX2_readPlace_56 rfl (by decide) ?_
      refine wp_getf (t := Rv 79) 79 dX2_readPlace_57 (fl_X2_18 rfl) kd_80 rfl rfl ?_
      refine wp_iload_n dX2_readPlace_60 rfl ?_
      refine wp_bipush dX2_readPlace_61 (by decide) ?_
      refine wp_iadd dX2_readPlace_63 ?_
      refine wp_iload_n dX2_readPlace_64 rfl ?_
      refine wp_iadd dX2_readPlace_65 ?_
      refine wp_iconst dX2_readPlace_66 ?_
      refine wp_isub dX2_readPlace_67 ?_
      obtain ⟨o15, h⟩ := h
      obtain ⟨o16, h⟩ := h
      refine wp_lald (M 79 (((x1 + 41) + x3) - 1)) dX2_readPlace_68 kd_79 sz_79 o15 o16 (⟨by omega, by omega⟩) rfl ?_
      refine wp_ladd dX2_readPlace_69 ?_
      refine wp_lload dX2_readPlace_70 rfl ?_
      refine wp_lsub dX2_readPlace_72 ?_
      obtain ⟨o17, h⟩ := h
      obtain ⟨o18, h⟩ := h
      refine wp_last dX2_readPlace_73 kd_79 sz_79 o17 o18 (⟨by omega, by omega⟩) ?_
      refine wp_iinc (L2 := [some (Rv 80), some (Iv x1), some (Iv x2), some (Iv (x3 + 1)), some (Jv 0), none]) dX2_readPlace_74 rfl (Nat.le_of_ble_eq_true rfl) (Nat.le_of_ble_eq_true rfl) rfl ?_
      refine wp_goto (tgt := 9) dX2_readPlace_77 (by decide) ?_
      exact wp_weak [true, true, true, true, false, true] rfl h
theorem gX2_ofLength {x1 : Int}  {M : Mem} {Q : Vl → Mem → Prop} (h : 0 ≤ x1 ∧ (x1 < 1681 ∧ (Q (Jv (M 79 x1)) M))) : wp 0 yX2_ofLength 0 [some (Rv 80), some (Iv x1)] [] M Q := by
  refine wp_aload_n dX2_ofLength_0 rfl (by decide) ?_
  refine wp_getf (t := Rv 79) 79 dX2_ofLength_1 (fl_X2_18 rfl) kd_80 rfl rfl ?_
  refine wp_iload_n dX2_ofLength_4 rfl ?_
  obtain ⟨o1, h⟩ := h
  obtain ⟨o2, h⟩ := h
  refine wp_lald (M 79 x1) dX2_ofLength_5 kd_79 sz_79 o1 o2 (⟨by omega, by omega⟩) rfl ?_
  exact wp_lret dX2_ofLength_6 rfl (Or.inr ⟨rfl, rfl, rfl, by decide⟩) rfl h
theorem eX2_ofLength {x1 : Int}  {M : Mem} {Q : Vl → Mem → Prop} (h : 0 ≤ x1 ∧ (x1 < 1681 ∧ (Q (Jv (M 79 x1)) M))) : cl 0 yX2_ofLength [Rv 80, Iv x1] M Q := enterG (by decide +kernel) (by exact Or.inr (Or.inr (Or.inr (Or.inl rfl)))) (Nat.le_of_ble_eq_true rfl) rfl (gX2_ofLength h)
theorem gX2_ofAnyLength  {M : Mem} {Q : Vl → Mem → Prop} (h : wp 0 yX2_ofAnyLength 4 [some (Rv 80), some (Jv 0), none, some (Iv 0)] [] M Q) : wp 0 yX2_ofAnyLength 0 [some (Rv 80), none, none, none] [] M Q := by
  refine wp_lconst0 dX2_ofAnyLength_0 ?_
  refine wp_lstore_n (L2 := [some (Rv 80), some (Jv 0), none, none]) dX2_ofAnyLength_1 (Nat.le_of_ble_eq_true rfl) (Nat.le_of_ble_eq_true rfl) rfl ?_
  refine wp_iconst dX2_ofAnyLength_2 ?_
  refine wp_istore_n (L2 := [some (Rv 80), some (Jv 0), none, some (Iv 0)]) dX2_ofAnyLength_3 (Nat.le_of_ble_eq_true rfl) (Nat.le_of_ble_eq_true rfl) rfl ?_
  exact h
theorem eX2_ofAnyLength  {M : Mem} {Q : Vl → Mem → Prop} (h : wp 0 yX2_ofAnyLength 4 [some (Rv 80), some (Jv 0), none, some (Iv 0)] [] M Q) : cl 0 yX2_ofAnyLength [Rv 80] M Q := enterG (by decide +kernel) (by exact Or.inr (Or.inr (Or.inr (Or.inl rfl)))) (Nat.le_of_ble_eq_true rfl) rfl (gX2_ofAnyLength h)
theorem gX2_ofAnyLength_4 {x1 x3 : Int}  {M : Mem} {Q : Vl → Mem → Prop} (h : inr x3 ∧ (inr (M 80 2) ∧ (((M 80 2) < x3 → Q (Jv x1) M) ∧ (x3 ≤ (M 80 2) → 0 ≤ x3 ∧ (x3 < 1681 ∧ (wp 0 yX2_ofAnyLength 4 [some (Rv 80), some (Jv (x1 + (M 79 x3))), none, some (Iv (x3 + 1))] [] M Q)))))) : wp 0 yX2_ofAnyLength 4 [some (Rv 80), some (Jv x1), none, some (Iv x3)] [] M Q := by
  refine wp_iload_n dX2_ofAnyLength_4 rfl ?_
  refine wp_aload_n dX2_ofAnyLength_5 rfl (by decide) ?_
  refine wp_getf (t := Iv (M 80 2)) (M 80 2) dX2_ofAnyLength_6 (fl_X2_32 rfl) kd_80 rfl rfl ?_
  obtain ⟨o1, h⟩ := h
  obtain ⟨o2, h⟩ := h
  refine wp_icmp_gt (tgt := 27) dX2_ofAnyLength_9 (by decide) o1 o2 (fun q3 => ?_) (fun q3 => ?_)
  · have h := h.1 q3
    refine wp_lload_n dX2_ofAnyLength_27 rfl ?_
    exact wp_lret dX2_ofAnyLength_28 rfl (Or.inr ⟨rfl, rfl, rfl, by decide⟩) rfl h
  · have h := h.2 q3
    refine wp_lload_n dX2_ofAnyLength_12 rfl ?_
    refine wp_aload_n dX2_ofAnyLength_13 rfl (by decide) ?_
    refine wp_getf (t := Rv 79) 79 dX2_ofAnyLength_14 (fl_X2_18 rfl) kd_80 rfl rfl ?_
    refine wp_iload_n dX2_ofAnyLength_17 rfl ?_
    obtain ⟨o4, h⟩ := h
    obtain ⟨o5, h⟩ := h
    refine wp_lald (M 79 x3) dX2_ofAnyLength_18 kd_79 sz_79 o4 o5 (⟨by omega, by omega⟩) rfl ?_
    refine wp_ladd dX2_ofAnyLength_19 ?_
    refine wp_lstore_n (L2 := [some (Rv 80), some (Jv (x1 + (M 79 x3))), none, some (Iv x3)]) dX2_ofAnyLength_20 (Nat.le_of_ble_eq_true rfl) (Nat.le_of_ble_eq_true rfl) rfl ?_
    refine wp_iinc (L2 := [some (Rv 80), some (Jv (x1 + (M 79 x3))), none, some (Iv (x3 + 1))]) dX2_ofAnyLength_21 rfl (Nat.le_of_ble_eq_true rfl) (Nat.le_of_ble_eq_true rfl) rfl ?_
    refine wp_goto (tgt := 4) dX2_ofAnyLength_24 (by decide) ?_
    exact h
theorem gX2_ahead {a1 : Int} {n1 : Nat} (ha1 : isL a1 n1) {M : Mem} {Q : Vl → Mem → Prop} (h : wp 0 yX2_ahead 8 [some (Rv 80), some (Rv a1), some (Jv 0), none, some (Iv 0), some (Iv 0), none] [] M Q) : wp 0 yX2_ahead 0 [some (Rv 80), some (Rv a1), none, none, none, none, none] [] M Q := by
  refine wp_lconst0 dX2_ahead_0 ?_
  refine wp_lstore_n (L2 := [some (Rv 80), some (Rv a1), some (Jv 0), none, none, none, none]) dX2_ahead_1 (Nat.le_of_ble_eq_true rfl) (Nat.le_of_ble_eq_true rfl) rfl ?_
  refine wp_iconst dX2_ahead_2 ?_
  refine wp_istore (L2 := [some (Rv 80), some (Rv a1), some (Jv 0), none, some (Iv 0), none, none]) dX2_ahead_3 (Nat.le_of_ble_eq_true rfl) (Nat.le_of_ble_eq_true rfl) rfl ?_
  refine wp_iconst dX2_ahead_5 ?_
  refine wp_istore (L2 := [some (Rv 80), some (Rv a1), some (Jv 0), none, some (Iv 0), some (Iv 0), none]) dX2_ahead_6 (Nat.le_of_ble_eq_true rfl) (Nat.le_of_ble_eq_true rfl) rfl ?_
  exact h
theorem eX2_ahead {a1 : Int} {n1 : Nat} (ha1 : isL a1 n1) {M : Mem} {Q : Vl → Mem → Prop} (h : wp 0 yX2_ahead 8 [some (Rv 80), some (Rv a1), some (Jv 0), none, some (Iv 0), some (Iv 0), none] [] M Q) : cl 0 yX2_ahead [Rv 80, Rv a1] M Q := enterG (by decide +kernel) (by exact Or.inr (Or.inr (Or.inr (Or.inl rfl)))) (Nat.le_of_ble_eq_true rfl) rfl (gX2_ahead ha1 h)
theorem gX2_ahead_8 {x2 x4 x5 a1 : Int} {n1 : Nat} (ha1 : isL a1 n1) {M : Mem} {Q : Vl → Mem → Prop} (h : inr x5 ∧ (inr (M a1 1) ∧ (((M a1 1) ≤ x5 → Q (Jv x2) M) ∧ (x5 < (M a1 1) → wp 0 yX2_ahead 20 [some (Rv 80), some (Rv a1), some (Jv x2), none, some (Iv x4), some (Iv x5), some (Iv 0)] [] M Q)))) : wp 0 yX2_ahead 8 [some (Rv 80), some (Rv a1), some (Jv x2), none, some (Iv x4), some (Iv x5), none] [] M Q := by
  refine wp_iload dX2_ahead_8 rfl ?_
  refine wp_aload_n dX2_ahead_10 rfl ha1.p ?_
  refine wp_getf (t := Iv (M a1 1)) (M a1 1) dX2_ahead_11 (fl_X2_26 rfl) ha1.k rfl rfl ?_
  obtain ⟨o1, h⟩ := h
  obtain ⟨o2, h⟩ := h
  refine wp_icmp_ge (tgt := 91) dX2_ahead_14 (by decide) o1 o2 (fun q3 => ?_) (fun q3 => ?_)
  · have h := h.1 q3
    refine wp_lload_n dX2_ahead_91 rfl ?_
    exact wp_lret dX2_ahead_92 rfl (Or.inr ⟨rfl, rfl, rfl, by decide⟩) rfl h
  · have h := h.2 q3
    refine wp_iconst dX2_ahead_17 ?_
    refine wp_istore (L2 := [some (Rv 80), some (Rv a1), some (Jv x2), none, some (Iv x4), some (Iv x5), some (Iv 0)]) dX2_ahead_18 (Nat.le_of_ble_eq_true rfl) (Nat.le_of_ble_eq_true rfl) rfl ?_
    exact h
theorem gX2_ahead_20 {x2 x4 x5 x6 a1 : Int} {n1 : Nat} (ha1 : isL a1 n1) {M : Mem} {Q : Vl → Mem → Prop} (h : 0 ≤ x5 ∧ (x5 < n1 ∧ (inr x5 ∧ (inr x6 ∧ (inr (M (a1 + 1) x5) ∧ (((M (a1 + 1) x5) ≤ x6 → cl 0 yX8_behind [Rv 81, Iv x4, Iv (M (a1 + 1) x5)] M (QI (fun z7 M7 => (inr z7 ∧ ((z7 ≠ 0 → wp 0 yX2_ahead 8 [some (Rv 80), some (Rv a1), some (Jv x2), none, some (Iv z7), some (Iv (x5 + 1)), none] [] M7 Q) ∧ (z7 = 0 → Q (Jv (-1)) M7)))))) ∧ (x6 < (M (a1 + 1) x5) → cl 0 yX2_countBegun [Rv 80, Iv x4, Iv x6, Iv (((M a1 1) - 1) - x5)] M (QJ (fun z10 M10 => (wp 0 yX2_ahead 20 [some (Rv 80), some (Rv a1), some (Jv (x2 + z10)), none, some (Iv x4), some (Iv x5), some (Iv (x6 + 1))] [] M10 Q)))))))))) : wp 0 yX2_ahead 20 [some (Rv 80), some (Rv a1), some (Jv x2), none, some (Iv x4), some (Iv x5), some (Iv x6)] [] M Q := by
  refine wp_iload dX2_ahead_20 rfl ?_
  refine wp_aload_n dX2_ahead_22 rfl ha1.p ?_
  refine wp_getf (t := Rv (a1 + 1)) (a1 + 1) dX2_ahead_23 (fl_X2_35 rfl) ha1.k rfl rfl ?_
  refine wp_iload dX2_ahead_26 rfl ?_
  obtain ⟨o1, h⟩ := h
  obtain ⟨o2, h⟩ := h
  obtain ⟨o3, h⟩ := h
  refine wp_iald (M (a1 + 1) x5) dX2_ahead_28 ha1.a.k ha1.a.n o1 o2 o3 rfl ?_
  obtain ⟨o4, h⟩ := h
  obtain ⟨o5, h⟩ := h
  refine wp_icmp_ge (tgt := 58) dX2_ahead_29 (by decide) o4 o5 (fun q6 => ?_) (fun q6 => ?_)
  · have h := h.1 q6
    refine wp_aload_n dX2_ahead_58 rfl (by decide) ?_
    refine wp_getf (t := Rv 81) 81 dX2_ahead_59 (fl_X2_12 rfl) kd_80 rfl rfl ?_
    refine wp_iload dX2_ahead_62 rfl ?_
    refine wp_aload_n dX2_ahead_64 rfl ha1.p ?_
    refine wp_getf (t := Rv (a1 + 1)) (a1 + 1) dX2_ahead_65 (fl_X2_35 rfl) ha1.k rfl rfl ?_
    refine wp_iload dX2_ahead_68 rfl ?_
    refine wp_iald (M (a1 + 1) x5) dX2_ahead_70 ha1.a.k ha1.a.n o1 o2 o3 rfl ?_
    refine wp_callV (e1 := 0) (as := [Iv x4, Iv (M (a1 + 1) x5)]) (S := []) dX2_ahead_71 (cs_X2_39 rfl) kd_81 rfl rfl (Nat.le_of_ble_eq_true rfl) (Nat.le_of_ble_eq_true rfl) h (fun v7 M7 q7 r7 => ?_)
    obtain ⟨z7, rfl⟩ := retV_i r7 rfl
    have h := q7
    refine wp_istore (L2 := [some (Rv 80), some (Rv a1), some (Jv x2), none, some (Iv z7), some (Iv x5), some (Iv x6)]) dX2_ahead_74 (Nat.le_of_ble_eq_true rfl) (Nat.le_of_ble_eq_true rfl) rfl ?_
    refine wp_iload dX2_ahead_76 rfl ?_
    obtain ⟨o8, h⟩ := h
    refine wp_if_ne (tgt := 85) dX2_ahead_78 (by decide) o8 (fun q9 => ?_) (fun q9 => ?_)
    · have h := h.1 q9
      refine wp_iinc (L2 := [some (Rv 80), some (Rv a1), some (Jv x2), none, some (Iv z7), some (Iv (x5 + 1)), some (Iv x6)]) dX2_ahead_85 rfl (Nat.le_of_ble_eq_true rfl) (Nat.le_of_ble_eq_true rfl) rfl ?_
      refine wp_goto (tgt := 8) dX2_ahead_88 (by decide) ?_
      exact wp_weak [true, true, true, true, true, true, false] rfl h
    · have h := h.2 q9
      refine wp_ldc2 (-1) dX2_ahead_81 (kc_X2_51 rfl) ?_
      exact wp_lret dX2_ahead_84 rfl (Or.inr ⟨rfl, rfl, rfl, by decide⟩) rfl h
  · have h := h.2 q6
    refine wp_lload_n dX2_ahead_32 rfl ?_
    refine wp_aload_n dX2_ahead_33 rfl (by decide) ?_
    refine wp_iload dX2_ahead_34 rfl ?_
    refine wp_iload dX2_ahead_36 rfl ?_
    refine wp_aload_n dX2_ahead_38 rfl ha1.p ?_
    refine wp_getf (t := Iv (M a1 1)) (M a1 1) dX2_ahead_39 (fl_X2_26 rfl) ha1.k rfl rfl ?_
    refine wp_iconst dX2_ahead_42 ?_
    refine wp_isub dX2_ahead_43 ?_
    refine wp_iload dX2_ahead_44 rfl ?_
    refine wp_isub dX2_ahead_46 ?_
    refine wp_callV (e1 := 0) (as := [Iv x4, Iv x6, Iv (((M a1 1) - 1) - x5)]) (S := [Jv x2]) dX2_ahead_47 (cs_X2_47 rfl) kd_80 rfl rfl (Nat.le_of_ble_eq_true rfl) (Nat.le_of_ble_eq_true rfl) h (fun v10 M10 q10 r10 => ?_)
    obtain ⟨z10, rfl⟩ := retV_j r10 rfl
    have h := q10
    refine wp_ladd dX2_ahead_50 ?_
    refine wp_lstore_n (L2 := [some (Rv 80), some (Rv a1), some (Jv (x2 + z10)), none, some (Iv x4), some (Iv x5), some (Iv x6)]) dX2_ahead_51 (Nat.le_of_ble_eq_true rfl) (Nat.le_of_ble_eq_true rfl) rfl ?_
    refine wp_iinc (L2 := [some (Rv 80), some (Rv a1), some (Jv (x2 + z10)), none, some (Iv x4), some (Iv x5), some (Iv (x6 + 1))]) dX2_ahead_52 rfl (Nat.le_of_ble_eq_true rfl) (Nat.le_of_ble_eq_true rfl) rfl ?_
    refine wp_goto (tgt := 20) dX2_ahead_55 (by decide) ?_
    exact h
theorem gX2_pick {x1 x2 a3 : Int} {n3 : Nat} (ha3 : isA a3 n3) {M : Mem} {Q : Vl → Mem → Prop} (h : inr x2 ∧ (wp 0 yX2_pick 10 [some (Rv 80), some (Iv x1), some (Iv x2), some (Rv a3), some (Jv x2), none, some (Iv 0), some (Iv 0), none, none, none] [] M Q)) : wp 0 yX2_pick 0 [some (Rv 80), some (Iv x1), some (Iv x2), some (Rv a3), none, none, none, none, none, none, none] [] M Q := by
  refine wp_iload_n dX2_pick_0 rfl ?_
  obtain ⟨o1, h⟩ := h
  refine wp_i2l dX2_pick_1 o1 ?_
  refine wp_lstore (L2 := [some (Rv 80), some (Iv x1), some (Iv x2), some (Rv a3), some (Jv x2), none, none, none, none, none, none]) dX2_pick_2 (Nat.le_of_ble_eq_true rfl) (Nat.le_of_ble_eq_true rfl) rfl ?_
  refine wp_iconst dX2_pick_4 ?_
  refine wp_istore (L2 := [some (Rv 80), some (Iv x1), some (Iv x2), some (Rv a3), some (Jv x2), none, some (Iv 0), none, none, none, none]) dX2_pick_5 (Nat.le_of_ble_eq_true rfl) (Nat.le_of_ble_eq_true rfl) rfl ?_
  refine wp_iconst dX2_pick_7 ?_
  refine wp_istore (L2 := [some (Rv 80), some (Iv x1), some (Iv x2), some (Rv a3), some (Jv x2), none, some (Iv 0), some (Iv 0), none, none, none]) dX2_pick_8 (Nat.le_of_ble_eq_true rfl) (Nat.le_of_ble_eq_true rfl) rfl ?_
  exact h
theorem eX2_pick {x1 x2 a3 : Int} {n3 : Nat} (ha3 : isA a3 n3) {M : Mem} {Q : Vl → Mem → Prop} (h : inr x2 ∧ (wp 0 yX2_pick 10 [some (Rv 80), some (Iv x1), some (Iv x2), some (Rv a3), some (Jv x2), none, some (Iv 0), some (Iv 0), none, none, none] [] M Q)) : cl 0 yX2_pick [Rv 80, Iv x1, Iv x2, Rv a3] M Q := enterG (by decide +kernel) (by exact Or.inl rfl) (Nat.le_of_ble_eq_true rfl) rfl (gX2_pick ha3 h)
theorem gX2_pick_10 {x1 x2 x4 x6 x7 a3 : Int} {n3 : Nat} (ha3 : isA a3 n3) {M : Mem} {Q : Vl → Mem → Prop} (h : inr x7 ∧ (inr x1 ∧ ((x1 ≤ x7 → Q (Iv 0) M) ∧ (x7 < x1 → cl 0 yX2_countBegun [Rv 80, Iv x6, Iv 0, Iv ((x1 - 1) - x7)] M (QJ (fun z4 M4 => (wp 0 yX2_pick 35 [some (Rv 80), some (Iv x1), some (Iv x2), some (Rv a3), some (Jv x4), none, some (Iv x6), some (Iv x7), some (Iv 0), some (Jv z4), none] [] M4 Q))))))) : wp 0 yX2_pick 10 [some (Rv 80), some (Iv x1), some (Iv x2), some (Rv a3), some (Jv x4), none, some (Iv x6), some (Iv x7), none, none, none] [] M Q := by
  refine wp_iload dX2_pick_10 rfl ?_
  refine wp_iload_n dX2_pick_12 rfl ?_
  obtain ⟨o1, h⟩ := h
  obtain ⟨o2, h⟩ := h
  refine wp_icmp_ge (tgt := 103) dX2_pick_13 (by decide) o1 o2 (fun q3 => ?_) (fun q3 => ?_)
  · have h := h.1 q3
    exact wp_vret dX2_pick_103 rfl (Or.inr ⟨rfl, rfl, rfl, by decide⟩) rfl h
  · have h := h.2 q3
    refine wp_iconst dX2_pick_16 ?_
    refine wp_istore (L2 := [some (Rv 80), some (Iv x1), some (Iv x2), some (Rv a3), some (Jv x4), none, some (Iv x6), some (Iv x7), some (Iv 0), none, none]) dX2_pick_17 (Nat.le_of_ble_eq_true rfl) (Nat.le_of_ble_eq_true rfl) rfl ?_
    refine wp_aload_n dX2_pick_19 rfl (by decide) ?_
    refine wp_iload dX2_pick_20 rfl ?_
    refine wp_iload dX2_pick_22 rfl ?_
    refine wp_iload_n dX2_pick_24 rfl ?_
    refine wp_iconst dX2_pick_25 ?_
    refine wp_isub dX2_pick_26 ?_
    refine wp_iload dX2_pick_27 rfl ?_
    refine wp_isub dX2_pick_29 ?_
    refine wp_callV (e1 := 0) (as := [Iv x6, Iv 0, Iv ((x1 - 1) - x7)]) (S := []) dX2_pick_30 (cs_X2_47 rfl) kd_80 rfl rfl (Nat.le_of_ble_eq_true rfl) (Nat.le_of_ble_eq_true rfl) h (fun v4 M4 q4 r4 => ?_)
    obtain ⟨z4, rfl⟩ := retV_j r4 rfl
    have h := q4
    refine wp_lstore (L2 := [some (Rv 80), some (Iv x1), some (Iv x2), some (Rv a3), some (Jv x4), none, some (Iv x6), some (Iv x7), some (Iv 0), some (Jv z4), none]) dX2_pick_33 (Nat.le_of_ble_eq_true rfl) (Nat.le_of_ble_eq_true rfl) rfl ?_
    exact h
theorem gX2_pick_35 {x1 x2 x4 x6 x7 x8 x9 a3 : Int} {n3 : Nat} (ha3 : isA a3 n3) {M : Mem} {Q : Vl → Mem → Prop} (h : inr x8 ∧ ((5 ≤ x8 → 0 ≤ x7 ∧ (x7 < n3 ∧ (inr x7 ∧ (cl 0 yX8_behind [Rv 81, Iv x6, Iv x8] (up M a3 x7 x8) (QI (fun z6 M6 => (wp 0 yX2_pick 10 [some (Rv 80), some (Iv x1), some (Iv x2), some (Rv a3), some (Jv x4), none, some (Iv z6), some (Iv (x7 + 1)), none, none, none] [] M6 Q))))))) ∧ (x8 < 5 → inL x4 ∧ (inL x9 ∧ ((x4 < x9 → 0 ≤ x7 ∧ (x7 < n3 ∧ (inr x7 ∧ (cl 0 yX8_behind [Rv 81, Iv x6, Iv x8] (up M a3 x7 x8) (QI (fun z13 M13 => (wp 0 yX2_pick 10 [some (Rv 80), some (Iv x1), some (Iv x2), some (Rv a3), some (Jv x4), none, some (Iv z13), some (Iv (x7 + 1)), none, none, none] [] M13 Q))))))) ∧ (x9 ≤ x4 → cl 0 yX2_countBegun [Rv 80, Iv x6, Iv (x8 + 1), Iv ((x1 - 1) - x7)] M (QJ (fun z14 M14 => (wp 0 yX2_pick 35 [some (Rv 80), some (Iv x1), some (Iv x2), some (Rv a3), some (Jv (x4 - x9)), none, some (Iv x6), some (Iv x7), some (Iv (x8 + 1)), some (Jv z14), none] [] M14 Q))))))))) : wp 0 yX2_pick 35 [some (Rv 80), some (Iv x1), some (Iv x2), some (Rv a3), some (Jv x4), none, some (Iv x6), some (Iv x7), some (Iv x8), some (Jv x9), none] [] M Q := by
  refine wp_iload dX2_pick_35 rfl ?_
  refine wp_iconst dX2_pick_37 ?_
  obtain ⟨o1, h⟩ := h
  refine wp_icmp_ge (tgt := 78) dX2_pick_38 (by decide) o1 (by decide) (fun q2 => ?_) (fun q2 => ?_)
  · have h := h.1 q2
    refine wp_aload_n dX2_pick_78 rfl ha3.p ?_
    refine wp_iload dX2_pick_79 rfl ?_
    refine wp_iload dX2_pick_81 rfl ?_
    obtain ⟨o3, h⟩ := h
    obtain ⟨o4, h⟩ := h
    obtain ⟨o5, h⟩ := h
    refine wp_iast dX2_pick_83 ha3.k ha3.n o3 o4 o5 ?_
    refine wp_aload_n dX2_pick_84 rfl (by decide) ?_
    refine wp_getf (t := Rv 81) 81 dX2_pick_85 (fl_X2_12 rfl) kd_80 rfl rfl ?_
    refine wp_iload dX2_pick_88 rfl ?_
    refine wp_iload dX2_pick_90 rfl ?_
    refine wp_callV (e1 := 0) (as := [Iv x6, Iv x8]) (S := []) dX2_pick_92 (cs_X2_39 rfl) kd_81 rfl rfl (Nat.le_of_ble_eq_true rfl) (Nat.le_of_ble_eq_true rfl) h (fun v6 M6 q6 r6 => ?_)
    obtain ⟨z6, rfl⟩ := retV_i r6 rfl
    have h := q6
    refine wp_istore (L2 := [some (Rv 80), some (Iv x1), some (Iv x2), some (Rv a3), some (Jv x4), none, some (Iv z6), some (Iv x7), some (Iv x8), some (Jv x9), none]) dX2_pick_95 (Nat.le_of_ble_eq_true rfl) (Nat.le_of_ble_eq_true rfl) rfl ?_
    refine wp_iinc (L2 := [some (Rv 80), some (Iv x1), some (Iv x2), some (Rv a3), some (Jv x4), none, some (Iv z6), some (Iv (x7 + 1)), some (Iv x8), some (Jv x9), none]) dX2_pick_97 rfl (Nat.le_of_ble_eq_true rfl) (Nat.le_of_ble_eq_true rfl) rfl ?_
    refine wp_goto (tgt := 10) dX2_pick_100 (by decide) ?_
    exact wp_weak [true, true, true, true, true, true, true, true, false, false, true] rfl h
  · have h := h.2 q2
    refine wp_lload dX2_pick_41 rfl ?_
    refine wp_lload dX2_pick_43 rfl ?_
    obtain ⟨o7, h⟩ := h
    obtain ⟨o8, h⟩ := h
    refine wp_lcmp dX2_pick_45 (Or.inr ⟨o7, o8⟩) ?_
    refine wp_if_lt (tgt := 78) dX2_pick_46 (by decide) lc_inr (fun q9 => ?_) (fun q9 => ?_)
    · have q9 := lc_lt.mp q9
      have h := h.1 q9
      refine wp_aload_n dX2_pick_78 rfl ha3.p ?_
      refine wp_iload dX2_pick_79 rfl ?_
      refine wp_iload dX2_pick_81 rfl ?_
      obtain ⟨o10, h⟩ := h
      obtain ⟨o11, h⟩ := h
      obtain ⟨o12, h⟩ := h
      refine wp_iast dX2_pick_83 ha3.k ha3.n o10 o11 o12 ?_
      refine wp_aload_n dX2_pick_84 rfl (by decide) ?_
      refine wp_getf (t := Rv 81) 81 dX2_pick_85 (fl_X2_12 rfl) kd_80 rfl rfl ?_
      refine wp_iload dX2_pick_88 rfl ?_
      refine wp_iload dX2_pick_90 rfl ?_
      refine wp_callV (e1 := 0) (as := [Iv x6, Iv x8]) (S := []) dX2_pick_92 (cs_X2_39 rfl) kd_81 rfl rfl (Nat.le_of_ble_eq_true rfl) (Nat.le_of_ble_eq_true rfl) h (fun v13 M13 q13 r13 => ?_)
      obtain ⟨z13, rfl⟩ := retV_i r13 rfl
      have h := q13
      refine wp_istore (L2 := [some (Rv 80), some (Iv x1), some (Iv x2), some (Rv a3), some (Jv x4), none, some (Iv z13), some (Iv x7), some (Iv x8), some (Jv x9), none]) dX2_pick_95 (Nat.le_of_ble_eq_true rfl) (Nat.le_of_ble_eq_true rfl) rfl ?_
      refine wp_iinc (L2 := [some (Rv 80), some (Iv x1), some (Iv x2), some (Rv a3), some (Jv x4), none, some (Iv z13), some (Iv (x7 + 1)), some (Iv x8), some (Jv x9), none]) dX2_pick_97 rfl (Nat.le_of_ble_eq_true rfl) (Nat.le_of_ble_eq_true rfl) rfl ?_
      refine wp_goto (tgt := 10) dX2_pick_100 (by decide) ?_
      exact wp_weak [true, true, true, true, true, true, true, true, false, false, true] rfl h
    · have q9 := lc_ge.mp q9
      have h := h.2 q9
      refine wp_lload dX2_pick_49 rfl ?_
      refine wp_lload dX2_pick_51 rfl ?_
      refine wp_lsub dX2_pick_53 ?_
      refine wp_lstore (L2 := [some (Rv 80), some (Iv x1), some (Iv x2), some (Rv a3), some (Jv (x4 - x9)), none, some (Iv x6), some (Iv x7), some (Iv x8), some (Jv x9), none]) dX2_pick_54 (Nat.le_of_ble_eq_true rfl) (Nat.le_of_ble_eq_true rfl) rfl ?_
      refine wp_iinc (L2 := [some (Rv 80), some (Iv x1), some (Iv x2), some (Rv a3), some (Jv (x4 - x9)), none, some (Iv x6), some (Iv x7), some (Iv (x8 + 1)), some (Jv x9), none]) dX2_pick_56 rfl (Nat.le_of_ble_eq_true rfl) (Nat.le_of_ble_eq_true rfl) rfl ?_
      refine wp_aload_n dX2_pick_59 rfl (by decide) ?_
      refine wp_iload dX2_pick_60 rfl ?_
      refine wp_iload dX2_pick_62 rfl ?_
      refine wp_iload_n dX2_pick_64 rfl ?_
      refine wp_iconst dX2_pick_65 ?_
      refine wp_isub dX2_pick_66 ?_
      refine wp_iload dX2_pick_67 rfl ?_
      refine wp_isub dX2_pick_69 ?_
      refine wp_callV (e1 := 0) (as := [Iv x6, Iv (x8 + 1), Iv ((x1 - 1) - x7)]) (S := []) dX2_pick_70 (cs_X2_47 rfl) kd_80 rfl rfl (Nat.le_of_ble_eq_true rfl) (Nat.le_of_ble_eq_true rfl) h (fun v14 M14 q14 r14 => ?_)
      obtain ⟨z14, rfl⟩ := retV_j r14 rfl
      have h := q14
      refine wp_lstore (L2 := [some (Rv 80), some (Iv x1), some (Iv x2), some (Rv a3), some (Jv (x4 - x9)), none, some (Iv x6), some (Iv x7), some (Iv (x8 + 1)), some (Jv z14), none]) dX2_pick_73 (Nat.le_of_ble_eq_true rfl) (Nat.le_of_ble_eq_true rfl) rfl ?_
      refine wp_goto (tgt := 35) dX2_pick_75 (by decide) ?_
      exact h
theorem gX2_countBegun {x1 x2 x3 : Int}  {M : Mem} {Q : Vl → Mem → Prop} (h : cl 0 yX8_behind [Rv 81, Iv x1, Iv x2] M (QI (fun z1 M1 => (inr z1 ∧ ((z1 ≠ 0 → 0 ≤ (z1 * 41) + x3 ∧ ((z1 * 41) + x3 < 1681 ∧ (Q (Jv (M1 79 ((z1 * 41) + x3))) M1))) ∧ (z1 = 0 → Q (Jv 0) M1)))))) : wp 0 yX2_countBegun 0 [some (Rv 80), some (Iv x1), some (Iv x2), some (Iv x3), none] [] M Q := by
  refine wp_aload_n dX2_countBegun_0 rfl (by decide) ?_
  refine wp_getf (t := Rv 81) 81 dX2_countBegun_1 (fl_X2_12 rfl) kd_80 rfl rfl ?_
  refine wp_iload_n dX2_countBegun_4 rfl ?_
  refine wp_iload_n dX2_countBegun_5 rfl ?_
  refine wp_callV (e1 := 0) (as := [Iv x1, Iv x2]) (S := []) dX2_countBegun_6 (cs_X2_39 rfl) kd_81 rfl rfl (Nat.le_of_ble_eq_true rfl) (Nat.le_of_ble_eq_true rfl) h (fun v1 M1 q1 r1 => ?_)
  obtain ⟨z1, rfl⟩ := retV_i r1 rfl
  have h := q1
  refine wp_istore (L2 := [some (Rv 80), some (Iv x1), some (Iv x2), some (Iv x3), some (Iv z1)]) dX2_countBegun_9 (Nat.le_of_ble_eq_true rfl) (Nat.le_of_ble_eq_true rfl) rfl ?_
  refine wp_iload dX2_countBegun_11 rfl ?_
  obtain ⟨o2, h⟩ := h
  refine wp_if_ne (tgt := 20) dX2_countBegun_13 (by decide) o2 (fun q3 => ?_) (fun q3 => ?_)
  · have h := h.1 q3
    refine wp_aload_n dX2_countBegun_20 rfl (by decide) ?_
    refine wp_getf (t := Rv 79) 79 dX2_countBegun_21 (fl_X2_18 rfl) kd_80 rfl rfl ?_
    refine wp_iload dX2_countBegun_24 rfl ?_
    refine wp_bipush dX2_countBegun_26 (by decide) ?_
    refine wp_imul dX2_countBegun_28 ?_
    refine wp_iload_n dX2_countBegun_29 rfl ?_
    refine wp_iadd dX2_countBegun_30 ?_
    obtain ⟨o4, h⟩ := h
    obtain ⟨o5, h⟩ := h
    refine wp_lald (M1 79 ((z1 * 41) + x3)) dX2_countBegun_31 kd_79 sz_79 o4 o5 (⟨by omega, by omega⟩) rfl ?_
    exact wp_lret dX2_countBegun_32 rfl (Or.inr ⟨rfl, rfl, rfl, by decide⟩) rfl h
  · have h := h.2 q3
    refine wp_lconst0 dX2_countBegun_16 ?_
    refine wp_goto (tgt := 32) dX2_countBegun_17 (by decide) ?_
    exact wp_lret dX2_countBegun_32 rfl (Or.inr ⟨rfl, rfl, rfl, by decide⟩) rfl h
theorem eX2_countBegun {x1 x2 x3 : Int}  {M : Mem} {Q : Vl → Mem → Prop} (h : cl 0 yX8_behind [Rv 81, Iv x1, Iv x2] M (QI (fun z1 M1 => (inr z1 ∧ ((z1 ≠ 0 → 0 ≤ (z1 * 41) + x3 ∧ ((z1 * 41) + x3 < 1681 ∧ (Q (Jv (M1 79 ((z1 * 41) + x3))) M1))) ∧ (z1 = 0 → Q (Jv 0) M1)))))) : cl 0 yX2_countBegun [Rv 80, Iv x1, Iv x2, Iv x3] M Q := enterG (by decide +kernel) (by exact Or.inr (Or.inr (Or.inr (Or.inl rfl)))) (Nat.le_of_ble_eq_true rfl) rfl (gX2_countBegun h)
theorem gX3_isMissing {a0 : Int} {n0 : Nat} (ha0 : isL a0 n0) {M : Mem} {Q : Vl → Mem → Prop} (h : inr (M a0 1) ∧ ((0 ≤ (M a0 1) → Q (Iv 0) M) ∧ ((M a0 1) < 0 → Q (Iv 1) M))) : wp 0 yX3_isMissing 0 [some (Rv a0)] [] M Q := by
  refine wp_aload_n dX3_isMissing_0 rfl ha0.p ?_
  refine wp_getf (t := Iv (M a0 1)) (M a0 1) dX3_isMissing_1 (fl_X3_9 rfl) ha0.k rfl rfl ?_
  obtain ⟨o1, h⟩ := h
  refine wp_if_ge (tgt := 11) dX3_isMissing_4 (by decide) o1 (fun q2 => ?_) (fun q2 => ?_)
  · have h := h.1 q2
    refine wp_iconst dX3_isMissing_11 ?_
    exact wp_zret dX3_isMissing_12 rfl (Or.inr ⟨rfl, rfl, rfl, by decide⟩) rfl (by decide) h
  · have h := h.2 q2
    refine wp_iconst dX3_isMissing_7 ?_
    refine wp_goto (tgt := 12) dX3_isMissing_8 (by decide) ?_
    exact wp_zret dX3_isMissing_12 rfl (Or.inr ⟨rfl, rfl, rfl, by decide⟩) rfl (by decide) h
theorem eX3_isMissing {a0 : Int} {n0 : Nat} (ha0 : isL a0 n0) {M : Mem} {Q : Vl → Mem → Prop} (h : inr (M a0 1) ∧ ((0 ≤ (M a0 1) → Q (Iv 0) M) ∧ ((M a0 1) < 0 → Q (Iv 1) M))) : cl 0 yX3_isMissing [Rv a0] M Q := enterG (by decide +kernel) (by exact Or.inr (Or.inr (Or.inl rfl))) (Nat.le_of_ble_eq_true rfl) rfl (gX3_isMissing ha0 h)
theorem gX3_has {x1 a0 : Int} {n0 : Nat} (ha0 : isL a0 n0) {M : Mem} {Q : Vl → Mem → Prop} (h : inr x1 ∧ ((x1 < 0 → Q (Iv 0) M) ∧ (0 ≤ x1 → inr (M a0 1) ∧ (((M a0 1) ≤ x1 → Q (Iv 0) M) ∧ (x1 < (M a0 1) → Q (Iv 1) M))))) : wp 0 yX3_has 0 [some (Rv a0), some (Iv x1)] [] M Q := by
  refine wp_iload_n dX3_has_0 rfl ?_
  obtain ⟨o1, h⟩ := h
  refine wp_if_lt (tgt := 16) dX3_has_1 (by decide) o1 (fun q2 => ?_) (fun q2 => ?_)
  · have h := h.1 q2
    refine wp_iconst dX3_has_16 ?_
    exact wp_zret dX3_has_17 rfl (Or.inr ⟨rfl, rfl, rfl, by decide⟩) rfl (by decide) h
  · have h := h.2 q2
    refine wp_iload_n dX3_has_4 rfl ?_
    refine wp_aload_n dX3_has_5 rfl ha0.p ?_
    refine wp_getf (t := Iv (M a0 1)) (M a0 1) dX3_has_6 (fl_X3_9 rfl) ha0.k rfl rfl ?_
    obtain ⟨o3, h⟩ := h
    refine wp_icmp_ge (tgt := 16) dX3_has_9 (by decide) o1 o3 (fun q4 => ?_) (fun q4 => ?_)
    · have h := h.1 q4
      refine wp_iconst dX3_has_16 ?_
      exact wp_zret dX3_has_17 rfl (Or.inr ⟨rfl, rfl, rfl, by decide⟩) rfl (by decide) h
    · have h := h.2 q4
      refine wp_iconst dX3_has_12 ?_
      refine wp_goto (tgt := 17) dX3_has_13 (by decide) ?_
      exact wp_zret dX3_has_17 rfl (Or.inr ⟨rfl, rfl, rfl, by decide⟩) rfl (by decide) h
theorem eX3_has {x1 a0 : Int} {n0 : Nat} (ha0 : isL a0 n0) {M : Mem} {Q : Vl → Mem → Prop} (h : inr x1 ∧ ((x1 < 0 → Q (Iv 0) M) ∧ (0 ≤ x1 → inr (M a0 1) ∧ (((M a0 1) ≤ x1 → Q (Iv 0) M) ∧ (x1 < (M a0 1) → Q (Iv 1) M))))) : cl 0 yX3_has [Rv a0, Iv x1] M Q := enterG (by decide +kernel) (by exact Or.inr (Or.inr (Or.inl rfl))) (Nat.le_of_ble_eq_true rfl) rfl (gX3_has ha0 h)
theorem gX3_reaches {x1 x2 a0 : Int} {n0 : Nat} (ha0 : isL a0 n0) {M : Mem} {Q : Vl → Mem → Prop} (h : inr x1 ∧ ((x1 < 0 → Q (Iv 0) M) ∧ (0 ≤ x1 → inr ((M a0 1) - x2) ∧ ((((M a0 1) - x2) < x1 → Q (Iv 0) M) ∧ (x1 ≤ ((M a0 1) - x2) → Q (Iv 1) M))))) : wp 0 yX3_reaches 0 [some (Rv a0), some (Iv x1), some (Iv x2)] [] M Q := by
  refine wp_iload_n dX3_reaches_0 rfl ?_
  obtain ⟨o1, h⟩ := h
  refine wp_if_lt (tgt := 18) dX3_reaches_1 (by decide) o1 (fun q2 => ?_) (fun q2 => ?_)
  · have h := h.1 q2
    refine wp_iconst dX3_reaches_18 ?_
    exact wp_zret dX3_reaches_19 rfl (Or.inr ⟨rfl, rfl, rfl, by decide⟩) rfl (by decide) h
  · have h := h.2 q2
    refine wp_iload_n dX3_reaches_4 rfl ?_
    refine wp_aload_n dX3_reaches_5 rfl ha0.p ?_
    refine wp_getf (t := Iv (M a0 1)) (M a0 1) dX3_reaches_6 (fl_X3_9 rfl) ha0.k rfl rfl ?_
    refine wp_iload_n dX3_reaches_9 rfl ?_
    refine wp_isub dX3_reaches_10 ?_
    obtain ⟨o3, h⟩ := h
    refine wp_icmp_gt (tgt := 18) dX3_reaches_11 (by decide) o1 o3 (fun q4 => ?_) (fun q4 => ?_)
    · have h := h.1 q4
      refine wp_iconst dX3_reaches_18 ?_
      exact wp_zret dX3_reaches_19 rfl (Or.inr ⟨rfl, rfl, rfl, by decide⟩) rfl (by decide) h
    · have h := h.2 q4
      refine wp_iconst dX3_reaches_14 ?_
      refine wp_goto (tgt := 19) dX3_reaches_15 (by decide) ?_
      exact wp_zret dX3_reaches_19 rfl (Or.inr ⟨rfl, rfl, rfl, by decide⟩) rfl (by decide) h
theorem eX3_reaches {x1 x2 a0 : Int} {n0 : Nat} (ha0 : isL a0 n0) {M : Mem} {Q : Vl → Mem → Prop} (h : inr x1 ∧ ((x1 < 0 → Q (Iv 0) M) ∧ (0 ≤ x1 → inr ((M a0 1) - x2) ∧ ((((M a0 1) - x2) < x1 → Q (Iv 0) M) ∧ (x1 ≤ ((M a0 1) - x2) → Q (Iv 1) M))))) : cl 0 yX3_reaches [Rv a0, Iv x1, Iv x2] M Q := enterG (by decide +kernel) (by exact Or.inr (Or.inr (Or.inl rfl))) (Nat.le_of_ble_eq_true rfl) rfl (gX3_reaches ha0 h)
theorem gX3_isBelow {x1 a0 : Int} {n0 : Nat} (ha0 : isL a0 n0) {M : Mem} {Q : Vl → Mem → Prop} (h : wp 0 yX3_isBelow 2 [some (Rv a0), some (Iv x1), some (Iv 0)] [] M Q) : wp 0 yX3_isBelow 0 [some (Rv a0), some (Iv x1), none] [] M Q := by
  refine wp_iconst dX3_isBelow_0 ?_
  refine wp_istore_n (L2 := [some (Rv a0), some (Iv x1), some (Iv 0)]) dX3_isBelow_1 (Nat.le_of_ble_eq_true rfl) (Nat.le_of_ble_eq_true rfl) rfl ?_
  exact h
theorem eX3_isBelow {x1 a0 : Int} {n0 : Nat} (ha0 : isL a0 n0) {M : Mem} {Q : Vl → Mem → Prop} (h : wp 0 yX3_isBelow 2 [some (Rv a0), some (Iv x1), some (Iv 0)] [] M Q) : cl 0 yX3_isBelow [Rv a0, Iv x1] M Q := enterG (by decide +kernel) (by exact Or.inr (Or.inr (Or.inl rfl))) (Nat.le_of_ble_eq_true rfl) rfl (gX3_isBelow ha0 h)
theorem gX3_isBelow_2 {x1 x2 a0 : Int} {n0 : Nat} (ha0 : isL a0 n0) {M : Mem} {Q : Vl → Mem → Prop} (h : inr x2 ∧ (inr (M a0 1) ∧ (((M a0 1) ≤ x2 → Q (Iv 1) M) ∧ (x2 < (M a0 1) → 0 ≤ x2 ∧ (x2 < n0 ∧ (inr (M (a0 + 1) x2) ∧ (((M (a0 + 1) x2) < 0 → Q (Iv 0) M) ∧ (0 ≤ (M (a0 + 1) x2) → inr x1 ∧ (((M (a0 + 1) x2) < x1 → wp 0 yX3_isBelow 2 [some (Rv a0), some (Iv x1), some (Iv (x2 + 1))] [] M Q) ∧ (x1 ≤ (M (a0 + 1) x2) → Q (Iv 0) M)))))))))) : wp 0 yX3_isBelow 2 [some (Rv a0), some (Iv x1), some (Iv x2)] [] M Q := by
  refine wp_iload_n dX3_isBelow_2 rfl ?_
  refine wp_aload_n dX3_isBelow_3 rfl ha0.p ?_
  refine wp_getf (t := Iv (M a0 1)) (M a0 1) dX3_isBelow_4 (fl_X3_9 rfl) ha0.k rfl rfl ?_
  obtain ⟨o1, h⟩ := h
  obtain ⟨o2, h⟩ := h
  refine wp_icmp_ge (tgt := 37) dX3_isBelow_7 (by decide) o1 o2 (fun q3 => ?_) (fun q3 => ?_)
  · have h := h.1 q3
    refine wp_iconst dX3_isBelow_37 ?_
    exact wp_zret dX3_isBelow_38 rfl (Or.inr ⟨rfl, rfl, rfl, by decide⟩) rfl (by decide) h
  · have h := h.2 q3
    refine wp_aload_n dX3_isBelow_10 rfl ha0.p ?_
    refine wp_getf (t := Rv (a0 + 1)) (a0 + 1) dX3_isBelow_11 (fl_X3_15 rfl) ha0.k rfl rfl ?_
    refine wp_iload_n dX3_isBelow_14 rfl ?_
    obtain ⟨o4, h⟩ := h
    obtain ⟨o5, h⟩ := h
    refine wp_iald (M (a0 + 1) x2) dX3_isBelow_15 ha0.a.k ha0.a.n o4 o5 o1 rfl ?_
    obtain ⟨o6, h⟩ := h
    refine wp_if_lt (tgt := 29) dX3_isBelow_16 (by decide) o6 (fun q7 => ?_) (fun q7 => ?_)
    · have h := h.1 q7
      refine wp_iconst dX3_isBelow_29 ?_
      exact wp_zret dX3_isBelow_30 rfl (Or.inr ⟨rfl, rfl, rfl, by decide⟩) rfl (by decide) h
    · have h := h.2 q7
      refine wp_aload_n dX3_isBelow_19 rfl ha0.p ?_
      refine wp_getf (t := Rv (a0 + 1)) (a0 + 1) dX3_isBelow_20 (fl_X3_15 rfl) ha0.k rfl rfl ?_
      refine wp_iload_n dX3_isBelow_23 rfl ?_
      refine wp_iald (M (a0 + 1) x2) dX3_isBelow_24 ha0.a.k ha0.a.n o4 o5 o1 rfl ?_
      refine wp_iload_n dX3_isBelow_25 rfl ?_
      obtain ⟨o8, h⟩ := h
      refine wp_icmp_lt (tgt := 31) dX3_isBelow_26 (by decide) o6 o8 (fun q9 => ?_) (fun q9 => ?_)
      · have h := h.1 q9
        refine wp_iinc (L2 := [some (Rv a0), some (Iv x1), some (Iv (x2 + 1))]) dX3_isBelow_31 rfl (Nat.le_of_ble_eq_true rfl) (Nat.le_of_ble_eq_true rfl) rfl ?_
        refine wp_goto (tgt := 2) dX3_isBelow_34 (by decide) ?_
        exact h
      · have h := h.2 q9
        refine wp_iconst dX3_isBelow_29 ?_
        exact wp_zret dX3_isBelow_30 rfl (Or.inr ⟨rfl, rfl, rfl, by decide⟩) rfl (by decide) h
theorem gX3_begin {x1 x2 a0 : Int} {n0 : Nat} (ha0 : isL a0 n0) {M : Mem} {Q : Vl → Mem → Prop} (h : wp 0 yX3_begin 2 [some (Rv a0), some (Iv x1), some (Iv x2), some (Iv 0)] [] M Q) : wp 0 yX3_begin 0 [some (Rv a0), some (Iv x1), some (Iv x2), none] [] M Q := by
  refine wp_iconst dX3_begin_0 ?_
  refine wp_istore_n (L2 := [some (Rv a0), some (Iv x1), some (Iv x2), some (Iv 0)]) dX3_begin_1 (Nat.le_of_ble_eq_true rfl) (Nat.le_of_ble_eq_true rfl) rfl ?_
  exact h
theorem eX3_begin {x1 x2 a0 : Int} {n0 : Nat} (ha0 : isL a0 n0) {M : Mem} {Q : Vl → Mem → Prop} (h : wp 0 yX3_begin 2 [some (Rv a0), some (Iv x1), some (Iv x2), some (Iv 0)] [] M Q) : cl 0 yX3_begin [Rv a0, Iv x1, Iv x2] M Q := enterG (by decide +kernel) (by exact Or.inl rfl) (Nat.le_of_ble_eq_true rfl) rfl (gX3_begin ha0 h)
theorem gX3_begin_2 {x1 x2 x3 a0 : Int} {n0 : Nat} (ha0 : isL a0 n0) {M : Mem} {Q : Vl → Mem → Prop} (h : inr x3 ∧ (inr x1 ∧ ((x1 ≤ x3 → Q (Iv 0) (up M a0 1 x1)) ∧ (x3 < x1 → 0 ≤ x3 ∧ (x3 < n0 ∧ (wp 0 yX3_begin 2 [some (Rv a0), some (Iv x1), some (Iv x2), some (Iv (x3 + 1))] [] (up M (a0 + 1) x3 x2) Q)))))) : wp 0 yX3_begin 2 [some (Rv a0), some (Iv x1), some (Iv x2), some (Iv x3)] [] M Q := by
  refine wp_iload_n dX3_begin_2 rfl ?_
  refine wp_iload_n dX3_begin_3 rfl ?_
  obtain ⟨o1, h⟩ := h
  obtain ⟨o2, h⟩ := h
  refine wp_icmp_ge (tgt := 20) dX3_begin_4 (by decide) o1 o2 (fun q3 => ?_) (fun q3 => ?_)
  · have h := h.1 q3
    refine wp_aload_n dX3_begin_20 rfl ha0.p ?_
    refine wp_iload_n dX3_begin_21 rfl ?_
    refine wp_putf (x := x1) dX3_begin_22 (fl_X3_9 rfl) ha0.k (fun _ => rfl) rfl rfl trivial ?_
    exact wp_vret dX3_begin_25 rfl (Or.inr ⟨rfl, rfl, rfl, by decide⟩) rfl h
  · have h := h.2 q3
    refine wp_aload_n dX3_begin_7 rfl ha0.p ?_
    refine wp_getf (t := Rv (a0 + 1)) (a0 + 1) dX3_begin_8 (fl_X3_15 rfl) ha0.k rfl rfl ?_
    refine wp_iload_n dX3_begin_11 rfl ?_
    refine wp_iload_n dX3_begin_12 rfl ?_
    obtain ⟨o4, h⟩ := h
    obtain ⟨o5, h⟩ := h
    refine wp_iast dX3_begin_13 ha0.a.k ha0.a.n o4 o5 o1 ?_
    refine wp_iinc (L2 := [some (Rv a0), some (Iv x1), some (Iv x2), some (Iv (x3 + 1))]) dX3_begin_14 rfl (Nat.le_of_ble_eq_true rfl) (Nat.le_of_ble_eq_true rfl) rfl ?_
    refine wp_goto (tgt := 2) dX3_begin_17 (by decide) ?_
    exact h
theorem gX3_take {x2 a0 a1 : Int} {n0 : Nat} (ha0 : isL a0 n0) {n1 : Nat} (ha1 : isA a1 n1) {M : Mem} {Q : Vl → Mem → Prop} (h : 0 ≤ x2 ∧ (0 + x2 ≤ n1 ∧ (0 + x2 ≤ n0 ∧ (inr x2 ∧ (Q (Iv x2) (up (setA M (a0 + 1) (cpyf M a1 0 (a0 + 1) 0 x2)) a0 1 x2)))))) : wp 0 yX3_take 0 [some (Rv a0), some (Rv a1), some (Iv x2)] [] M Q := by
  refine wp_aload_n dX3_take_0 rfl ha1.p ?_
  refine wp_iconst dX3_take_1 ?_
  refine wp_aload_n dX3_take_2 rfl ha0.p ?_
  refine wp_getf (t := Rv (a0 + 1)) (a0 + 1) dX3_take_3 (fl_X3_15 rfl) ha0.k rfl rfl ?_
  refine wp_iconst dX3_take_6 ?_
  refine wp_iload_n dX3_take_7 rfl ?_
  obtain ⟨o1, h⟩ := h
  obtain ⟨o2, h⟩ := h
  obtain ⟨o3, h⟩ := h
  obtain ⟨o4, h⟩ := h
  refine wp_copy dX3_take_8 (ml_X3_19 rfl) ha1.k ha0.a.k ha1.n ha0.a.n (by decide) (by decide) o1 o2 o3 (by decide) (by decide) o4 (Nat.le_of_ble_eq_true rfl) (by decide) ?_
  refine wp_aload_n dX3_take_11 rfl ha0.p ?_
  refine wp_iload_n dX3_take_12 rfl ?_
  refine wp_putf (x := x2) dX3_take_13 (fl_X3_9 rfl) ha0.k (fun _ => rfl) rfl rfl trivial ?_
  refine wp_iload_n dX3_take_16 rfl ?_
  exact wp_iret dX3_take_17 rfl (Or.inr ⟨rfl, rfl, rfl, by decide⟩) rfl h
theorem eX3_take {x2 a0 a1 : Int} {n0 : Nat} (ha0 : isL a0 n0) {n1 : Nat} (ha1 : isA a1 n1) {M : Mem} {Q : Vl → Mem → Prop} (h : 0 ≤ x2 ∧ (0 + x2 ≤ n1 ∧ (0 + x2 ≤ n0 ∧ (inr x2 ∧ (Q (Iv x2) (up (setA M (a0 + 1) (cpyf M a1 0 (a0 + 1) 0 x2)) a0 1 x2)))))) : cl 0 yX3_take [Rv a0, Rv a1, Iv x2] M Q := enterG (by decide +kernel) (by exact Or.inr (Or.inl rfl)) (Nat.le_of_ble_eq_true rfl) rfl (gX3_take ha0 ha1 h)
theorem gX3_mixInto {x1 a0 : Int} {n0 : Nat} (ha0 : isL a0 n0) {M : Mem} {Q : Vl → Mem → Prop} (h : inr (M a0 1) ∧ (wp 0 yX3_mixInto 15 [some (Rv a0), some (Jv x1), none, some (Jv ((31 * x1) + (M a0 1))), none, some (Iv 0)] [] M Q)) : wp 0 yX3_mixInto 0 [some (Rv a0), some (Jv x1), none, none, none, none] [] M Q := by
  refine wp_ldc2 31 dX3_mixInto_0 (kc_X3_25 rfl) ?_
  refine wp_lload_n dX3_mixInto_3 rfl ?_
  refine wp_lmul dX3_mixInto_4 ?_
  refine wp_aload_n dX3_mixInto_5 rfl ha0.p ?_
  refine wp_getf (t := Iv (M a0 1)) (M a0 1) dX3_mixInto_6 (fl_X3_9 rfl) ha0.k rfl rfl ?_
  obtain ⟨o1, h⟩ := h
  refine wp_i2l dX3_mixInto_9 o1 ?_
  refine wp_ladd dX3_mixInto_10 ?_
  refine wp_lstore_n (L2 := [some (Rv a0), some (Jv x1), none, some (Jv ((31 * x1) + (M a0 1))), none, none]) dX3_mixInto_11 (Nat.le_of_ble_eq_true rfl) (Nat.le_of_ble_eq_true rfl) rfl ?_
  refine wp_iconst dX3_mixInto_12 ?_
  refine wp_istore (L2 := [some (Rv a0), some (Jv x1), none, some (Jv ((31 * x1) + (M a0 1))), none, some (Iv 0)]) dX3_mixInto_13 (Nat.le_of_ble_eq_true rfl) (Nat.le_of_ble_eq_true rfl) rfl ?_
  exact h
theorem eX3_mixInto {x1 a0 : Int} {n0 : Nat} (ha0 : isL a0 n0) {M : Mem} {Q : Vl → Mem → Prop} (h : inr (M a0 1) ∧ (wp 0 yX3_mixInto 15 [some (Rv a0), some (Jv x1), none, some (Jv ((31 * x1) + (M a0 1))), none, some (Iv 0)] [] M Q)) : cl 0 yX3_mixInto [Rv a0, Jv x1] M Q := enterG (by decide +kernel) (by exact Or.inr (Or.inr (Or.inr (Or.inl rfl)))) (Nat.le_of_ble_eq_true rfl) rfl (gX3_mixInto ha0 h)
theorem gX3_mixInto_15 {x1 x3 x5 a0 : Int} {n0 : Nat} (ha0 : isL a0 n0) {M : Mem} {Q : Vl → Mem → Prop} (h : inr x5 ∧ (inr (M a0 1) ∧ (((M a0 1) ≤ x5 → Q (Jv x3) M) ∧ (x5 < (M a0 1) → 0 ≤ x5 ∧ (x5 < n0 ∧ (inr (M (a0 + 1) x5) ∧ (wp 0 yX3_mixInto 15 [some (Rv a0), some (Jv x1), none, some (Jv ((31 * x3) + (M (a0 + 1) x5))), none, some (Iv (x5 + 1))] [] M Q))))))) : wp 0 yX3_mixInto 15 [some (Rv a0), some (Jv x1), none, some (Jv x3), none, some (Iv x5)] [] M Q := by
  refine wp_iload dX3_mixInto_15 rfl ?_
  refine wp_aload_n dX3_mixInto_17 rfl ha0.p ?_
  refine wp_getf (t := Iv (M a0 1)) (M a0 1) dX3_mixInto_18 (fl_X3_9 rfl) ha0.k rfl rfl ?_
  obtain ⟨o1, h⟩ := h
  obtain ⟨o2, h⟩ := h
  refine wp_icmp_ge (tgt := 45) dX3_mixInto_21 (by decide) o1 o2 (fun q3 => ?_) (fun q3 => ?_)
  · have h := h.1 q3
    refine wp_lload_n dX3_mixInto_45 rfl ?_
    exact wp_lret dX3_mixInto_46 rfl (Or.inr ⟨rfl, rfl, rfl, by decide⟩) rfl h
  · have h := h.2 q3
    refine wp_ldc2 31 dX3_mixInto_24 (kc_X3_25 rfl) ?_
    refine wp_lload_n dX3_mixInto_27 rfl ?_
    refine wp_lmul dX3_mixInto_28 ?_
    refine wp_aload_n dX3_mixInto_29 rfl ha0.p ?_
    refine wp_getf (t := Rv (a0 + 1)) (a0 + 1) dX3_mixInto_30 (fl_X3_15 rfl) ha0.k rfl rfl ?_
    refine wp_iload dX3_mixInto_33 rfl ?_
    obtain ⟨o4, h⟩ := h
    obtain ⟨o5, h⟩ := h
    refine wp_iald (M (a0 + 1) x5) dX3_mixInto_35 ha0.a.k ha0.a.n o4 o5 o1 rfl ?_
    obtain ⟨o6, h⟩ := h
    refine wp_i2l dX3_mixInto_36 o6 ?_
    refine wp_ladd dX3_mixInto_37 ?_
    refine wp_lstore_n (L2 := [some (Rv a0), some (Jv x1), none, some (Jv ((31 * x3) + (M (a0 + 1) x5))), none, some (Iv x5)]) dX3_mixInto_38 (Nat.le_of_ble_eq_true rfl) (Nat.le_of_ble_eq_true rfl) rfl ?_
    refine wp_iinc (L2 := [some (Rv a0), some (Jv x1), none, some (Jv ((31 * x3) + (M (a0 + 1) x5))), none, some (Iv (x5 + 1))]) dX3_mixInto_39 rfl (Nat.le_of_ble_eq_true rfl) (Nat.le_of_ble_eq_true rfl) rfl ?_
    refine wp_goto (tgt := 15) dX3_mixInto_42 (by decide) ?_
    exact h
theorem gX4_measureParting {a1 a2 : Int} {n1 : Nat} (ha1 : isL a1 n1) {n2 : Nat} (ha2 : isL a2 n2) {M : Mem} {Q : Vl → Mem → Prop} (h : cl 0 yX8_read [Rv 84, Rv a1] M (QV (fun M1 => (cl 0 yX8_read [Rv 86, Rv a2] M1 (QV (fun M2 => (wp 0 yX4_measureParting 21 [some (Rv 83), some (Rv a1), some (Rv a2), some (Iv (M2 a1 1)), none] [] M2 Q))))))) : wp 0 yX4_measureParting 0 [some (Rv 83), some (Rv a1), some (Rv a2), none, none] [] M Q := by
  refine wp_aload_n dX4_measureParting_0 rfl (by decide) ?_
  refine wp_getf (t := Rv 84) 84 dX4_measureParting_1 (fl_X4_12 rfl) kd_83 rfl rfl ?_
  refine wp_aload_n dX4_measureParting_4 rfl ha1.p ?_
  refine wp_callV (e1 := 0) (as := [Rv a1]) (S := []) dX4_measureParting_5 (cs_X4_25 rfl) kd_84 rfl rfl (Nat.le_of_ble_eq_true rfl) (Nat.le_of_ble_eq_true rfl) h (fun v1 M1 q1 r1 => ?_)
  have h := q1
  refine wp_aload_n dX4_measureParting_8 rfl (by decide) ?_
  refine wp_getf (t := Rv 86) 86 dX4_measureParting_9 (fl_X4_18 rfl) kd_83 rfl rfl ?_
  refine wp_aload_n dX4_measureParting_12 rfl ha2.p ?_
  refine wp_callV (e1 := 0) (as := [Rv a2]) (S := []) dX4_measureParting_13 (cs_X4_25 rfl) kd_86 rfl rfl (Nat.le_of_ble_eq_true rfl) (Nat.le_of_ble_eq_true rfl) h (fun v2 M2 q2 r2 => ?_)
  have h := q2
  refine wp_aload_n dX4_measureParting_16 rfl ha1.p ?_
  refine wp_getf (t := Iv (M2 a1 1)) (M2 a1 1) dX4_measureParting_17 (fl_X4_29 rfl) ha1.k rfl rfl ?_
  refine wp_istore_n (L2 := [some (Rv 83), some (Rv a1), some (Rv a2), some (Iv (M2 a1 1)), none]) dX4_measureParting_20 (Nat.le_of_ble_eq_true rfl) (Nat.le_of_ble_eq_true rfl) rfl ?_
  exact h
theorem eX4_measureParting {a1 a2 : Int} {n1 : Nat} (ha1 : isL a1 n1) {n2 : Nat} (ha2 : isL a2 n2) {M : Mem} {Q : Vl → Mem → Prop} (h : cl 0 yX8_read [Rv 84, Rv a1] M (QV (fun M1 => (cl 0 yX8_read [Rv 86, Rv a2] M1 (QV (fun M2 => (wp 0 yX4_measureParting 21 [some (Rv 83), some (Rv a1), some (Rv a2), some (Iv (M2 a1 1)), none] [] M2 Q))))))) : cl 0 yX4_measureParting [Rv 83, Rv a1, Rv a2] M Q := enterG (by decide +kernel) (by exact Or.inr (Or.inl rfl)) (Nat.le_of_ble_eq_true rfl) rfl (gX4_measureParting ha1 ha2 h)
theorem gX4_measureParting_21 {x3 a1 a2 : Int} {n1 : Nat} (ha1 : isL a1 n1) {n2 : Nat} (ha2 : isL a2 n2) {M : Mem} {Q : Vl → Mem → Prop} (h : inr x3 ∧ ((x3 < 0 → Q (Iv (M 79 0)) M) ∧ (0 ≤ x3 → wp 0 yX4_measureParting 31 [some (Rv 83), some (Rv a1), some (Rv a2), some (Iv x3), some (Iv (M a2 1))] [] M Q))) : wp 0 yX4_measureParting 21 [some (Rv 83), some (Rv a1), some (Rv a2), some (Iv x3), none] [] M Q := by
  refine wp_iload_n dX4_measureParting_21 rfl ?_
  obtain ⟨o1, h⟩ := h
  refine wp_if_lt (tgt := 78) dX4_measureParting_22 (by decide) o1 (fun q2 => ?_) (fun q2 => ?_)
  · have h := h.1 q2
    refine wp_aload_n dX4_measureParting_78 rfl (by decide) ?_
    refine wp_getf (t := Rv 79) 79 dX4_measureParting_79 (fl_X4_21 rfl) kd_83 rfl rfl ?_
    refine wp_iconst dX4_measureParting_82 ?_
    refine wp_lald (M 79 0) dX4_measureParting_83 kd_79 sz_79 (by decide) (by decide) (by decide) rfl ?_
    refine wp_l2i dX4_measureParting_84 ?_
    exact wp_iret dX4_measureParting_85 rfl (Or.inr ⟨rfl, rfl, rfl, by decide⟩) rfl h
  · have h := h.2 q2
    refine wp_aload_n dX4_measureParting_25 rfl ha2.p ?_
    refine wp_getf (t := Iv (M a2 1)) (M a2 1) dX4_measureParting_26 (fl_X4_29 rfl) ha2.k rfl rfl ?_
    refine wp_istore (L2 := [some (Rv 83), some (Rv a1), some (Rv a2), some (Iv x3), some (Iv (M a2 1))]) dX4_measureParting_29 (Nat.le_of_ble_eq_true rfl) (Nat.le_of_ble_eq_true rfl) rfl ?_
    exact h
theorem gX4_measureParting_31 {x3 x4 a1 a2 : Int} {n1 : Nat} (ha1 : isL a1 n1) {n2 : Nat} (ha2 : isL a2 n2) {M : Mem} {Q : Vl → Mem → Prop} (h : inr x4 ∧ ((x4 < 0 → wp 0 yX4_measureParting 21 [some (Rv 83), some (Rv a1), some (Rv a2), some (Iv (x3 + (-1))), none] [] M Q) ∧ (0 ≤ x4 → cl 0 yX4_isReached [Rv a1, Iv x3, Rv a2, Iv x4] M (QI (fun z3 M3 => ((z3 = 0 → wp 0 yX4_measureParting 31 [some (Rv 83), some (Rv a1), some (Rv a2), some (Iv x3), some (Iv (x4 + (-1)))] [] M3 Q) ∧ (z3 ≠ 0 → cl 0 yX4_shortestParting [Rv 83, Iv x3, Iv x4] M3 (QJ (fun z5 M5 => (0 ≤ (x3 * 41) + x4 ∧ ((x3 * 41) + x4 < 1681 ∧ (wp 0 yX4_measureParting 31 [some (Rv 83), some (Rv a1), some (Rv a2), some (Iv x3), some (Iv (x4 + (-1)))] [] (up M5 79 ((x3 * 41) + x4) z5) Q)))))))))))) : wp 0 yX4_measureParting 31 [some (Rv 83), some (Rv a1), some (Rv a2), some (Iv x3), some (Iv x4)] [] M Q := by
  refine wp_iload dX4_measureParting_31 rfl ?_
  obtain ⟨o1, h⟩ := h
  refine wp_if_lt (tgt := 72) dX4_measureParting_33 (by decide) o1 (fun q2 => ?_) (fun q2 => ?_)
  · have h := h.1 q2
    refine wp_iinc (L2 := [some (Rv 83), some (Rv a1), some (Rv a2), some (Iv (x3 + (-1))), some (Iv x4)]) dX4_measureParting_72 rfl (Nat.le_of_ble_eq_true rfl) (Nat.le_of_ble_eq_true rfl) rfl ?_
    refine wp_goto (tgt := 21) dX4_measureParting_75 (by decide) ?_
    exact wp_weak [true, true, true, true, false] rfl h
  · have h := h.2 q2
    refine wp_aload_n dX4_measureParting_36 rfl ha1.p ?_
    refine wp_iload_n dX4_measureParting_37 rfl ?_
    refine wp_aload_n dX4_measureParting_38 rfl ha2.p ?_
    refine wp_iload dX4_measureParting_39 rfl ?_
    refine wp_callS (e1 := 0) (as := [Rv a1, Iv x3, Rv a2, Iv x4]) (S := []) dX4_measureParting_41 (cs_X4_35 rfl) rfl rfl (Nat.le_of_ble_eq_true rfl) (Nat.le_of_ble_eq_true rfl) h (fun v3 M3 q3 r3 => ?_)
    obtain ⟨z3, rfl, hz3⟩ := retV_z r3 rfl
    have h := q3
    refine wp_if_eq (tgt := 66) dX4_measureParting_44 (by decide) (by have := hz3; omega) (fun q4 => ?_) (fun q4 => ?_)
    · have h := h.1 q4
      refine wp_iinc (L2 := [some (Rv 83), some (Rv a1), some (Rv a2), some (Iv x3), some (Iv (x4 + (-1)))]) dX4_measureParting_66 rfl (Nat.le_of_ble_eq_true rfl) (Nat.le_of_ble_eq_true rfl) rfl ?_
      refine wp_goto (tgt := 31) dX4_measureParting_69 (by decide) ?_
      exact h
    · have h := h.2 q4
      refine wp_aload_n dX4_measureParting_47 rfl (by decide) ?_
      refine wp_getf (t := Rv 79) 79 dX4_measureParting_48 (fl_X4_21 rfl) kd_83 rfl rfl ?_
      refine wp_iload_n dX4_measureParting_51 rfl ?_
      refine wp_bipush dX4_measureParting_52 (by decide) ?_
      refine wp_imul dX4_measureParting_54 ?_
      refine wp_iload dX4_measureParting_55 rfl ?_
      refine wp_iadd dX4_measureParting_57 ?_
      refine wp_aload_n dX4_measureParting_58 rfl (by decide) ?_
      refine wp_iload_n dX4_measureParting_59 rfl ?_
      refine wp_iload dX4_measureParting_60 rfl ?_
      refine wp_callV (e1 := 0) (as := [Iv x3, Iv x4]) (S := [Iv ((x3 * 41) + x4), Rv 79]) dX4_measureParting_62 (cs_X4_39 rfl) kd_83 rfl rfl (Nat.le_of_ble_eq_true rfl) (Nat.le_of_ble_eq_true rfl) h (fun v5 M5 q5 r5 => ?_)
      obtain ⟨z5, rfl⟩ := retV_j r5 rfl
      have h := q5
      obtain ⟨o6, h⟩ := h
      obtain ⟨o7, h⟩ := h
      refine wp_last dX4_measureParting_65 kd_79 sz_79 o6 o7 (⟨by omega, by omega⟩) ?_
      refine wp_iinc (L2 := [some (Rv 83), some (Rv a1), some (Rv a2), some (Iv x3), some (Iv (x4 + (-1)))]) dX4_measureParting_66 rfl (Nat.le_of_ble_eq_true rfl) (Nat.le_of_ble_eq_true rfl) rfl ?_
      refine wp_goto (tgt := 31) dX4_measureParting_69 (by decide) ?_
      exact h
theorem gX4_isReached {x1 x3 a0 a2 : Int} {n0 : Nat} (ha0 : isL a0 n0) {n2 : Nat} (ha2 : isL a2 n2) {M : Mem} {Q : Vl → Mem → Prop} (h : inr x1 ∧ ((x1 = 0 → (x1 = x3 ∨ (inr x1 ∧ inr x3)) ∧ ((x1 ≠ x3 → Q (Iv 0) M) ∧ (x1 = x3 → Q (Iv 1) M))) ∧ (x1 ≠ 0 → inr x3 ∧ ((x3 ≠ 0 → 0 ≤ x1 - 1 ∧ (x1 - 1 < n0 ∧ (inr (x1 - 1) ∧ (0 ≤ x3 - 1 ∧ (x3 - 1 < n2 ∧ (inr (x3 - 1) ∧ (((M (a0 + 1) (x1 - 1)) = (M (a2 + 1) (x3 - 1)) ∨ (inr (M (a0 + 1) (x1 - 1)) ∧ inr (M (a2 + 1) (x3 - 1)))) ∧ (((M (a0 + 1) (x1 - 1)) ≠ (M (a2 + 1) (x3 - 1)) → Q (Iv 0) M) ∧ ((M (a0 + 1) (x1 - 1)) = (M (a2 + 1) (x3 - 1)) → Q (Iv 1) M))))))))) ∧ (x3 = 0 → ((x1 ≠ x3 → Q (Iv 0) M) ∧ (x1 = x3 → Q (Iv 1) M))))))) : wp 0 yX4_isReached 0 [some (Rv a0), some (Iv x1), some (Rv a2), some (Iv x3)] [] M Q := by
  refine wp_iload_n dX4_isReached_0 rfl ?_
  obtain ⟨o1, h⟩ := h
  refine wp_if_eq (tgt := 8) dX4_isReached_1 (by decide) o1 (fun q2 => ?_) (fun q2 => ?_)
  · have h := h.1 q2
    refine wp_iload_n dX4_isReached_8 rfl ?_
    refine wp_iload_n dX4_isReached_9 rfl ?_
    obtain ⟨o3, h⟩ := h
    refine wp_icmp_ne (tgt := 17) dX4_isReached_10 (by decide) o3 (fun q4 => ?_) (fun q4 => ?_)
    · have h := h.1 q4
      refine wp_iconst dX4_isReached_17 ?_
      exact wp_zret dX4_isReached_18 rfl (Or.inr ⟨rfl, rfl, rfl, by decide⟩) rfl (by decide) h
    · have h := h.2 q4
      refine wp_iconst dX4_isReached_13 ?_
      refine wp_goto (tgt := 18) dX4_isReached_14 (by decide) ?_
      exact wp_zret dX4_isReached_18 rfl (Or.inr ⟨rfl, rfl, rfl, by decide⟩) rfl (by decide) h
  · have h := h.2 q2
    refine wp_iload_n dX4_isReached_4 rfl ?_
    obtain ⟨o5, h⟩ := h
    refine wp_if_ne (tgt := 19) dX4_isReached_5 (by decide) o5 (fun q6 => ?_) (fun q6 => ?_)
    · have h := h.1 q6
      refine wp_aload_n dX4_isReached_19 rfl ha0.p ?_
      refine wp_getf (t := Rv (a0 + 1)) (a0 + 1) dX4_isReached_20 (fl_X4_43 rfl) ha0.k rfl rfl ?_
      refine wp_iload_n dX4_isReached_23 rfl ?_
      refine wp_iconst dX4_isReached_24 ?_
      refine wp_isub dX4_isReached_25 ?_
      obtain ⟨o7, h⟩ := h
      obtain ⟨o8, h⟩ := h
      obtain ⟨o9, h⟩ := h
      refine wp_iald (M (a0 + 1) (x1 - 1)) dX4_isReached_26 ha0.a.k ha0.a.n o7 o8 o9 rfl ?_
      refine wp_aload_n dX4_isReached_27 rfl ha2.p ?_
      refine wp_getf (t := Rv (a2 + 1)) (a2 + 1) dX4_isReached_28 (fl_X4_43 rfl) ha2.k rfl rfl ?_
      refine wp_iload_n dX4_isReached_31 rfl ?_
      refine wp_iconst dX4_isReached_32 ?_
      refine wp_isub dX4_isReached_33 ?_
      obtain ⟨o10, h⟩ := h
      obtain ⟨o11, h⟩ := h
      obtain ⟨o12, h⟩ := h
      refine wp_iald (M (a2 + 1) (x3 - 1)) dX4_isReached_34 ha2.a.k ha2.a.n o10 o11 o12 rfl ?_
      obtain ⟨o13, h⟩ := h
      refine wp_icmp_ne (tgt := 42) dX4_isReached_35 (by decide) o13 (fun q14 => ?_) (fun q14 => ?_)
      · have h := h.1 q14
        refine wp_iconst dX4_isReached_42 ?_
        exact wp_zret dX4_isReached_43 rfl (Or.inr ⟨rfl, rfl, rfl, by decide⟩) rfl (by decide) h
      · have h := h.2 q14
        refine wp_iconst dX4_isReached_38 ?_
        refine wp_goto (tgt := 43) dX4_isReached_39 (by decide) ?_
        exact wp_zret dX4_isReached_43 rfl (Or.inr ⟨rfl, rfl, rfl, by decide⟩) rfl (by decide) h
    · have h := h.2 q6
      refine wp_iload_n dX4_isReached_8 rfl ?_
      refine wp_iload_n dX4_isReached_9 rfl ?_
      refine wp_icmp_ne (tgt := 17) dX4_isReached_10 (by decide) (Or.inr ⟨o1, o5⟩) (fun q15 => ?_) (fun q15 => ?_)
      · have h := h.1 q15
        refine wp_iconst dX4_isReached_17 ?_
        exact wp_zret dX4_isReached_18 rfl (Or.inr ⟨rfl, rfl, rfl, by decide⟩) rfl (by decide) h
      · have h := h.2 q15
        refine wp_iconst dX4_isReached_13 ?_
        refine wp_goto (tgt := 18) dX4_isReached_14 (by decide) ?_
        exact wp_zret dX4_isReached_18 rfl (Or.inr ⟨rfl, rfl, rfl, by decide⟩) rfl (by decide) h
theorem eX4_isReached {x1 x3 a0 a2 : Int} {n0 : Nat} (ha0 : isL a0 n0) {n2 : Nat} (ha2 : isL a2 n2) {M : Mem} {Q : Vl → Mem → Prop} (h : inr x1 ∧ ((x1 = 0 → (x1 = x3 ∨ (inr x1 ∧ inr x3)) ∧ ((x1 ≠ x3 → Q (Iv 0) M) ∧ (x1 = x3 → Q (Iv 1) M))) ∧ (x1 ≠ 0 → inr x3 ∧ ((x3 ≠ 0 → 0 ≤ x1 - 1 ∧ (x1 - 1 < n0 ∧ (inr (x1 - 1) ∧ (0 ≤ x3 - 1 ∧ (x3 - 1 < n2 ∧ (inr (x3 - 1) ∧ (((M (a0 + 1) (x1 - 1)) = (M (a2 + 1) (x3 - 1)) ∨ (inr (M (a0 + 1) (x1 - 1)) ∧ inr (M (a2 + 1) (x3 - 1)))) ∧ (((M (a0 + 1) (x1 - 1)) ≠ (M (a2 + 1) (x3 - 1)) → Q (Iv 0) M) ∧ ((M (a0 + 1) (x1 - 1)) = (M (a2 + 1) (x3 - 1)) → Q (Iv 1) M))))))))) ∧ (x3 = 0 → ((x1 ≠ x3 → Q (Iv 0) M) ∧ (x1 = x3 → Q (Iv 1) M))))))) : cl 0 yX4_isReached [Rv a0, Iv x1, Rv a2, Iv x3] M Q := enterG (by decide +kernel) (by exact Or.inr (Or.inr (Or.inl rfl))) (Nat.le_of_ble_eq_true rfl) rfl (gX4_isReached ha0 ha2 h)
theorem gX4_shortestParting {x1 x2 : Int}  {M : Mem} {Q : Vl → Mem → Prop} (h : wp 0 yX4_shortestParting 5 [some (Rv 83), some (Iv x1), some (Iv x2), some (Jv 0), none, some (Iv 0), none, none] [] M Q) : wp 0 yX4_shortestParting 0 [some (Rv 83), some (Iv x1), some (Iv x2), none, none, none, none, none] [] M Q := by
  refine wp_lconst0 dX4_shortestParting_0 ?_
  refine wp_lstore_n (L2 := [some (Rv 83), some (Iv x1), some (Iv x2), some (Jv 0), none, none, none, none]) dX4_shortestParting_1 (Nat.le_of_ble_eq_true rfl) (Nat.le_of_ble_eq_true rfl) rfl ?_
  refine wp_iconst dX4_shortestParting_2 ?_
  refine wp_istore (L2 := [some (Rv 83), some (Iv x1), some (Iv x2), some (Jv 0), none, some (Iv 0), none, none]) dX4_shortestParting_3 (Nat.le_of_ble_eq_true rfl) (Nat.le_of_ble_eq_true rfl) rfl ?_
  exact h
theorem eX4_shortestParting {x1 x2 : Int}  {M : Mem} {Q : Vl → Mem → Prop} (h : wp 0 yX4_shortestParting 5 [some (Rv 83), some (Iv x1), some (Iv x2), some (Jv 0), none, some (Iv 0), none, none] [] M Q) : cl 0 yX4_shortestParting [Rv 83, Iv x1, Iv x2] M Q := enterG (by decide +kernel) (by exact Or.inr (Or.inr (Or.inr (Or.inl rfl)))) (Nat.le_of_ble_eq_true rfl) rfl (gX4_shortestParting h)
theorem gX4_shortestParting_5 {x1 x2 x3 x5 : Int}  {M : Mem} {Q : Vl → Mem → Prop} (h : inr x5 ∧ ((6 ≤ x5 → Q (Jv x3) M) ∧ (x5 < 6 → cl 0 yX4_partingFrom [Rv 83, Iv x1, Iv x2, Iv x5] M (QJ (fun z3 M3 => (inL z3 ∧ ((z3 ≤ 0 → wp 0 yX4_shortestParting 5 [some (Rv 83), some (Iv x1), some (Iv x2), some (Jv x3), none, some (Iv (x5 + 1)), none, none] [] M3 Q) ∧ (0 < z3 → (x3 = 0 ∨ (inL x3 ∧ inL 0)) ∧ ((x3 = 0 → wp 0 yX4_shortestParting 5 [some (Rv 83), some (Iv x1), some (Iv x2), some (Jv z3), none, some (Iv (x5 + 1)), none, none] [] M3 Q) ∧ (x3 ≠ 0 → inL x3 ∧ ((x3 ≤ z3 → wp 0 yX4_shortestParting 5 [some (Rv 83), some (Iv x1), some (Iv x2), some (Jv x3), none, some (Iv (x5 + 1)), none, none] [] M3 Q) ∧ (z3 < x3 → wp 0 yX4_shortestParting 5 [some (Rv 83), some (Iv x1), some (Iv x2), some (Jv z3), none, some (Iv (x5 + 1)), none, none] [] M3 Q)))))))))))) : wp 0 yX4_shortestParting 5 [some (Rv 83), some (Iv x1), some (Iv x2), some (Jv x3), none, some (Iv x5), none, none] [] M Q := by
  refine wp_iload dX4_shortestParting_5 rfl ?_
  refine wp_bipush dX4_shortestParting_7 (by decide) ?_
  obtain ⟨o1, h⟩ := h
  refine wp_icmp_ge (tgt := 51) dX4_shortestParting_9 (by decide) o1 (by decide) (fun q2 => ?_) (fun q2 => ?_)
  · have h := h.1 q2
    refine wp_lload_n dX4_shortestParting_51 rfl ?_
    exact wp_lret dX4_shortestParting_52 rfl (Or.inr ⟨rfl, rfl, rfl, by decide⟩) rfl h
  · have h := h.2 q2
    refine wp_aload_n dX4_shortestParting_12 rfl (by decide) ?_
    refine wp_iload_n dX4_shortestParting_13 rfl ?_
    refine wp_iload_n dX4_shortestParting_14 rfl ?_
    refine wp_iload dX4_shortestParting_15 rfl ?_
    refine wp_callV (e1 := 0) (as := [Iv x1, Iv x2, Iv x5]) (S := []) dX4_shortestParting_17 (cs_X4_47 rfl) kd_83 rfl rfl (Nat.le_of_ble_eq_true rfl) (Nat.le_of_ble_eq_true rfl) h (fun v3 M3 q3 r3 => ?_)
    obtain ⟨z3, rfl⟩ := retV_j r3 rfl
    have h := q3
    refine wp_lstore (L2 := [some (Rv 83), some (Iv x1), some (Iv x2), some (Jv x3), none, some (Iv x5), some (Jv z3), none]) dX4_shortestParting_20 (Nat.le_of_ble_eq_true rfl) (Nat.le_of_ble_eq_true rfl) rfl ?_
    refine wp_lload dX4_shortestParting_22 rfl ?_
    refine wp_lconst0 dX4_shortestParting_24 ?_
    obtain ⟨o4, h⟩ := h
    refine wp_lcmp dX4_shortestParting_25 (Or.inr ⟨o4, (by decide)⟩) ?_
    refine wp_if_le (tgt := 45) dX4_shortestParting_26 (by decide) lc_inr (fun q5 => ?_) (fun q5 => ?_)
    · have q5 := lc_le.mp q5
      have h := h.1 q5
      refine wp_iinc (L2 := [some (Rv 83), some (Iv x1), some (Iv x2), some (Jv x3), none, some (Iv (x5 + 1)), some (Jv z3), none]) dX4_shortestParting_45 rfl (Nat.le_of_ble_eq_true rfl) (Nat.le_of_ble_eq_true rfl) rfl ?_
      refine wp_goto (tgt := 5) dX4_shortestParting_48 (by decide) ?_
      exact wp_weak [true, true, true, true, true, true, false, true] rfl h
    · have q5 := lc_gt.mp q5
      have h := h.2 q5
      refine wp_lload_n dX4_shortestParting_29 rfl ?_
      refine wp_lconst0 dX4_shortestParting_30 ?_
      obtain ⟨o6, h⟩ := h
      refine wp_lcmp dX4_shortestParting_31 o6 ?_
      refine wp_if_eq (tgt := 42) dX4_shortestParting_32 (by decide) lc_inr (fun q7 => ?_) (fun q7 => ?_)
      · have q7 := lc_eq.mp q7
        have h := h.1 q7
        refine wp_lload dX4_shortestParting_42 rfl ?_
        refine wp_lstore_n (L2 := [some (Rv 83), some (Iv x1), some (Iv x2), some (Jv z3), none, some (Iv x5), some (Jv z3), none]) dX4_shortestParting_44 (Nat.le_of_ble_eq_true rfl) (Nat.le_of_ble_eq_true rfl) rfl ?_
        refine wp_iinc (L2 := [some (Rv 83), some (Iv x1), some (Iv x2), some (Jv z3), none, some (Iv (x5 + 1)), some (Jv z3), none]) dX4_shortestParting_45 rfl (Nat.le_of_ble_eq_true rfl) (Nat.le_of_ble_eq_true rfl) rfl ?_
        refine wp_goto (tgt := 5) dX4_shortestParting_48 (by decide) ?_
        exact wp_weak [true, true, true, true, true, true, false, true] rfl h
      · have q7 := lc_ne.mp q7
        have h := h.2 q7
        refine wp_lload dX4_shortestParting_35 rfl ?_
        refine wp_lload_n dX4_shortestParting_37 rfl ?_
        obtain ⟨o8, h⟩ := h
        refine wp_lcmp dX4_shortestParting_38 (Or.inr ⟨o4, o8⟩) ?_
        refine wp_if_ge (tgt := 45) dX4_shortestParting_39 (by decide) lc_inr (fun q9 => ?_) (fun q9 => ?_)
        · have q9 := lc_ge.mp q9
          have h := h.1 q9
          refine wp_iinc (L2 := [some (Rv 83), some (Iv x1), some (Iv x2), some (Jv x3), none, some (Iv (x5 + 1)), some (Jv z3), none]) dX4_shortestParting_45 rfl (Nat.le_of_ble_eq_true rfl) (Nat.le_of_ble_eq_true rfl) rfl ?_
          refine wp_goto (tgt := 5) dX4_shortestParting_48 (by decide) ?_
          exact wp_weak [true, true, true, true, true, true, false, true] rfl h
        · have q9 := lc_lt.mp q9
          have h := h.2 q9
          refine wp_lload dX4_shortestParting_42 rfl ?_
          refine wp_lstore_n (L2 := [some (Rv 83), some (Iv x1), some (Iv x2), some (Jv z3), none, some (Iv x5), some (Jv z3), none]) dX4_shortestParting_44 (Nat.le_of_ble_eq_true rfl) (Nat.le_of_ble_eq_true rfl) rfl ?_
          refine wp_iinc (L2 := [some (Rv 83), some (Iv x1), some (Iv x2), some (Jv z3), none, some (Iv (x5 + 1)), some (Jv z3), none]) dX4_shortestParting_45 rfl (Nat.le_of_ble_eq_true rfl) (Nat.le_of_ble_eq_true rfl) rfl ?_
          refine wp_goto (tgt := 5) dX4_shortestParting_48 (by decide) ?_
          exact wp_weak [true, true, true, true, true, true, false, true] rfl h
theorem gX4_partingFrom {x1 x2 x3 : Int}  {M : Mem} {Q : Vl → Mem → Prop} (h : cl 0 yX8_behind [Rv 84, Iv x1, Iv x3] M (QI (fun z1 M1 => (cl 0 yX8_behind [Rv 86, Iv x2, Iv x3] M1 (QI (fun z2 M2 => (inr z1 ∧ ((z1 = 0 → (z1 = z2 ∨ (inr z1 ∧ inr z2)) ∧ ((z1 ≠ z2 → Q (Jv 1) M2) ∧ (z1 = z2 → Q (Jv 0) M2))) ∧ (z1 ≠ 0 → inr z2 ∧ ((z2 ≠ 0 → 0 ≤ (z1 * 41) + z2 ∧ ((z1 * 41) + z2 < 1681 ∧ ((M2 79 ((z1 * 41) + z2) = 0 ∨ (inL (M2 79 ((z1 * 41) + z2)) ∧ inL 0)) ∧ (((M2 79 ((z1 * 41) + z2)) ≠ 0 → Q (Jv ((M2 79 ((z1 * 41) + z2)) + 1)) M2) ∧ ((M2 79 ((z1 * 41) + z2)) = 0 → Q (Jv 0) M2))))) ∧ (z2 = 0 → ((z1 ≠ z2 → Q (Jv 1) M2) ∧ (z1 = z2 → Q (Jv 0) M2))))))))))))) : wp 0 yX4_partingFrom 0 [some (Rv 83), some (Iv x1), some (Iv x2), some (Iv x3), none, none, none, none] [] M Q := by
  refine wp_aload_n dX4_partingFrom_0 rfl (by decide) ?_
  refine wp_getf (t := Rv 84) 84 dX4_partingFrom_1 (fl_X4_12 rfl) kd_83 rfl rfl ?_
  refine wp_iload_n dX4_partingFrom_4 rfl ?_
  refine wp_iload_n dX4_partingFrom_5 rfl ?_
  refine wp_callV (e1 := 0) (as := [Iv x1, Iv x3]) (S := []) dX4_partingFrom_6 (cs_X4_51 rfl) kd_84 rfl rfl (Nat.le_of_ble_eq_true rfl) (Nat.le_of_ble_eq_true rfl) h (fun v1 M1 q1 r1 => ?_)
  obtain ⟨z1, rfl⟩ := retV_i r1 rfl
  have h := q1
  refine wp_istore (L2 := [some (Rv 83), some (Iv x1), some (Iv x2), some (Iv x3), some (Iv z1), none, none, none]) dX4_partingFrom_9 (Nat.le_of_ble_eq_true rfl) (Nat.le_of_ble_eq_true rfl) rfl ?_
  refine wp_aload_n dX4_partingFrom_11 rfl (by decide) ?_
  refine wp_getf (t := Rv 86) 86 dX4_partingFrom_12 (fl_X4_18 rfl) kd_83 rfl rfl ?_
  refine wp_iload_n dX4_partingFrom_15 rfl ?_
  refine wp_iload_n dX4_partingFrom_16 rfl ?_
  refine wp_callV (e1 := 0) (as := [Iv x2, Iv x3]) (S := []) dX4_partingFrom_17 (cs_X4_51 rfl) kd_86 rfl rfl (Nat.le_of_ble_eq_true rfl) (Nat.le_of_ble_eq_true rfl) h (fun v2 M2 q2 r2 => ?_)
  obtain ⟨z2, rfl⟩ := retV_i r2 rfl
  have h := q2
  refine wp_istore (L2 := [some (Rv 83), some (Iv x1), some (Iv x2), some (Iv x3), some (Iv z1), some (Iv z2), none, none]) dX4_partingFrom_20 (Nat.le_of_ble_eq_true rfl) (Nat.le_of_ble_eq_true rfl) rfl ?_
  refine wp_iload dX4_partingFrom_22 rfl ?_
  obtain ⟨o3, h⟩ := h
  refine wp_if_eq (tgt := 32) dX4_partingFrom_24 (by decide) o3 (fun q4 => ?_) (fun q4 => ?_)
  · have h := h.1 q4
    refine wp_iload dX4_partingFrom_32 rfl ?_
    refine wp_iload dX4_partingFrom_34 rfl ?_
    obtain ⟨o5, h⟩ := h
    refine wp_icmp_ne (tgt := 43) dX4_partingFrom_36 (by decide) o5 (fun q6 => ?_) (fun q6 => ?_)
    · have h := h.1 q6
      refine wp_lconst1 dX4_partingFrom_43 ?_
      exact wp_lret dX4_partingFrom_44 rfl (Or.inr ⟨rfl, rfl, rfl, by decide⟩) rfl h
    · have h := h.2 q6
      refine wp_lconst0 dX4_partingFrom_39 ?_
      refine wp_goto (tgt := 44) dX4_partingFrom_40 (by decide) ?_
      exact wp_lret dX4_partingFrom_44 rfl (Or.inr ⟨rfl, rfl, rfl, by decide⟩) rfl h
  · have h := h.2 q4
    refine wp_iload dX4_partingFrom_27 rfl ?_
    obtain ⟨o7, h⟩ := h
    refine wp_if_ne (tgt := 45) dX4_partingFrom_29 (by decide) o7 (fun q8 => ?_) (fun q8 => ?_)
    · have h := h.1 q8
      refine wp_aload_n dX4_partingFrom_45 rfl (by decide) ?_
      refine wp_getf (t := Rv 79) 79 dX4_partingFrom_46 (fl_X4_21 rfl) kd_83 rfl rfl ?_
      refine wp_iload dX4_partingFrom_49 rfl ?_
      refine wp_bipush dX4_partingFrom_51 (by decide) ?_
      refine wp_imul dX4_partingFrom_53 ?_
      refine wp_iload dX4_partingFrom_54 rfl ?_
      refine wp_iadd dX4_partingFrom_56 ?_
      obtain ⟨o9, h⟩ := h
      obtain ⟨o10, h⟩ := h
      refine wp_lald (M2 79 ((z1 * 41) + z2)) dX4_partingFrom_57 kd_79 sz_79 o9 o10 (⟨by omega, by omega⟩) rfl ?_
      refine wp_lstore (L2 := [some (Rv 83), some (Iv x1), some (Iv x2), some (Iv x3), some (Iv z1), some (Iv z2), some (Jv (M2 79 ((z1 * 41) + z2))), none]) dX4_partingFrom_58 (Nat.le_of_ble_eq_true rfl) (Nat.le_of_ble_eq_true rfl) rfl ?_
      refine wp_lload dX4_partingFrom_60 rfl ?_
      refine wp_lconst0 dX4_partingFrom_62 ?_
      obtain ⟨o11, h⟩ := h
      refine wp_lcmp dX4_partingFrom_63 o11 ?_
      refine wp_if_ne (tgt := 71) dX4_partingFrom_64 (by decide) lc_inr (fun q12 => ?_) (fun q12 => ?_)
      · have q12 := lc_ne.mp q12
        have h := h.1 q12
        refine wp_lload dX4_partingFrom_71 rfl ?_
        refine wp_lconst1 dX4_partingFrom_73 ?_
        refine wp_ladd dX4_partingFrom_74 ?_
        exact wp_lret dX4_partingFrom_75 rfl (Or.inr ⟨rfl, rfl, rfl, by decide⟩) rfl h
      · have q12 := lc_eq.mp q12
        have h := h.2 q12
        refine wp_lconst0 dX4_partingFrom_67 ?_
        refine wp_goto (tgt := 75) dX4_partingFrom_68 (by decide) ?_
        exact wp_lret dX4_partingFrom_75 rfl (Or.inr ⟨rfl, rfl, rfl, by decide⟩) rfl h
    · have h := h.2 q8
      refine wp_iload dX4_partingFrom_32 rfl ?_
      refine wp_iload dX4_partingFrom_34 rfl ?_
      refine wp_icmp_ne (tgt := 43) dX4_partingFrom_36 (by decide) (Or.inr ⟨o3, o7⟩) (fun q13 => ?_) (fun q13 => ?_)
      · have h := h.1 q13
        refine wp_lconst1 dX4_partingFrom_43 ?_
        exact wp_lret dX4_partingFrom_44 rfl (Or.inr ⟨rfl, rfl, rfl, by decide⟩) rfl h
      · have h := h.2 q13
        refine wp_lconst0 dX4_partingFrom_39 ?_
        refine wp_goto (tgt := 44) dX4_partingFrom_40 (by decide) ?_
        exact wp_lret dX4_partingFrom_44 rfl (Or.inr ⟨rfl, rfl, rfl, by decide⟩) rfl h
theorem eX4_partingFrom {x1 x2 x3 : Int}  {M : Mem} {Q : Vl → Mem → Prop} (h : cl 0 yX8_behind [Rv 84, Iv x1, Iv x3] M (QI (fun z1 M1 => (cl 0 yX8_behind [Rv 86, Iv x2, Iv x3] M1 (QI (fun z2 M2 => (inr z1 ∧ ((z1 = 0 → (z1 = z2 ∨ (inr z1 ∧ inr z2)) ∧ ((z1 ≠ z2 → Q (Jv 1) M2) ∧ (z1 = z2 → Q (Jv 0) M2))) ∧ (z1 ≠ 0 → inr z2 ∧ ((z2 ≠ 0 → 0 ≤ (z1 * 41) + z2 ∧ ((z1 * 41) + z2 < 1681 ∧ ((M2 79 ((z1 * 41) + z2) = 0 ∨ (inL (M2 79 ((z1 * 41) + z2)) ∧ inL 0)) ∧ (((M2 79 ((z1 * 41) + z2)) ≠ 0 → Q (Jv ((M2 79 ((z1 * 41) + z2)) + 1)) M2) ∧ ((M2 79 ((z1 * 41) + z2)) = 0 → Q (Jv 0) M2))))) ∧ (z2 = 0 → ((z1 ≠ z2 → Q (Jv 1) M2) ∧ (z1 = z2 → Q (Jv 0) M2))))))))))))) : cl 0 yX4_partingFrom [Rv 83, Iv x1, Iv x2, Iv x3] M Q := enterG (by decide +kernel) (by exact Or.inr (Or.inr (Or.inr (Or.inl rfl)))) (Nat.le_of_ble_eq_true rfl) rfl (gX4_partingFrom h)
theorem gX4_firstParting {x1 a2 : Int} {n2 : Nat} (ha2 : isA a2 n2) {M : Mem} {Q : Vl → Mem → Prop} (h : wp 0 yX4_firstParting 8 [some (Rv 83), some (Iv x1), some (Rv a2), some (Iv 0), some (Iv 0), some (Iv 0), none] [] M Q) : wp 0 yX4_firstParting 0 [some (Rv 83), some (Iv x1), some (Rv a2), none, none, none, none] [] M Q := by
  refine wp_iconst dX4_firstParting_0 ?_
  refine wp_istore_n (L2 := [some (Rv 83), some (Iv x1), some (Rv a2), some (Iv 0), none, none, none]) dX4_firstParting_1 (Nat.le_of_ble_eq_true rfl) (Nat.le_of_ble_eq_true rfl) rfl ?_
  refine wp_iconst dX4_firstParting_2 ?_
  refine wp_istore (L2 := [some (Rv 83), some (Iv x1), some (Rv a2), some (Iv 0), some (Iv 0), none, none]) dX4_firstParting_3 (Nat.le_of_ble_eq_true rfl) (Nat.le_of_ble_eq_true rfl) rfl ?_
  refine wp_iconst dX4_firstParting_5 ?_
  refine wp_istore (L2 := [some (Rv 83), some (Iv x1), some (Rv a2), some (Iv 0), some (Iv 0), some (Iv 0), none]) dX4_firstParting_6 (Nat.le_of_ble_eq_true rfl) (Nat.le_of_ble_eq_true rfl) rfl ?_
  exact h
theorem eX4_firstParting {x1 a2 : Int} {n2 : Nat} (ha2 : isA a2 n2) {M : Mem} {Q : Vl → Mem → Prop} (h : wp 0 yX4_firstParting 8 [some (Rv 83), some (Iv x1), some (Rv a2), some (Iv 0), some (Iv 0), some (Iv 0), none] [] M Q) : cl 0 yX4_firstParting [Rv 83, Iv x1, Rv a2] M Q := enterG (by decide +kernel) (by exact Or.inl rfl) (Nat.le_of_ble_eq_true rfl) rfl (gX4_firstParting ha2 h)
theorem gX4_firstParting_8 {x1 x3 x4 x5 a2 : Int} {n2 : Nat} (ha2 : isA a2 n2) {M : Mem} {Q : Vl → Mem → Prop} (h : inr x5 ∧ (inr x1 ∧ ((x1 ≤ x5 → Q (Iv 0) M) ∧ (x5 < x1 → wp 0 yX4_firstParting 17 [some (Rv 83), some (Iv x1), some (Rv a2), some (Iv x3), some (Iv x4), some (Iv x5), some (Iv 0)] [] M Q)))) : wp 0 yX4_firstParting 8 [some (Rv 83), some (Iv x1), some (Rv a2), some (Iv x3), some (Iv x4), some (Iv x5), none] [] M Q := by
  refine wp_iload dX4_firstParting_8 rfl ?_
  refine wp_iload_n dX4_firstParting_10 rfl ?_
  obtain ⟨o1, h⟩ := h
  obtain ⟨o2, h⟩ := h
  refine wp_icmp_ge (tgt := 83) dX4_firstParting_11 (by decide) o1 o2 (fun q3 => ?_) (fun q3 => ?_)
  · have h := h.1 q3
    exact wp_vret dX4_firstParting_83 rfl (Or.inr ⟨rfl, rfl, rfl, by decide⟩) rfl h
  · have h := h.2 q3
    refine wp_iconst dX4_firstParting_14 ?_
    refine wp_istore (L2 := [some (Rv 83), some (Iv x1), some (Rv a2), some (Iv x3), some (Iv x4), some (Iv x5), some (Iv 0)]) dX4_firstParting_15 (Nat.le_of_ble_eq_true rfl) (Nat.le_of_ble_eq_true rfl) rfl ?_
    exact h
theorem gX4_firstParting_17 {x1 x3 x4 x5 x6 a2 : Int} {n2 : Nat} (ha2 : isA a2 n2) {M : Mem} {Q : Vl → Mem → Prop} (h : inr x6 ∧ ((5 ≤ x6 → 0 ≤ x5 ∧ (x5 < n2 ∧ (inr x5 ∧ (cl 0 yX8_behind [Rv 84, Iv x3, Iv x6] (up M a2 x5 x6) (QI (fun z6 M6 => (cl 0 yX8_behind [Rv 86, Iv x4, Iv x6] M6 (QI (fun z7 M7 => (wp 0 yX4_firstParting 8 [some (Rv 83), some (Iv x1), some (Rv a2), some (Iv z6), some (Iv z7), some (Iv (x5 + 1)), none] [] M7 Q)))))))))) ∧ (x6 < 5 → cl 0 yX4_partingFrom [Rv 83, Iv x3, Iv x4, Iv x6] M (QJ (fun z8 M8 => (inr (x1 - x5) ∧ ((z8 = x1 - x5 ∨ (inL z8 ∧ inL (x1 - x5))) ∧ ((z8 = (x1 - x5) → 0 ≤ x5 ∧ (x5 < n2 ∧ (inr x5 ∧ (cl 0 yX8_behind [Rv 84, Iv x3, Iv x6] (up M8 a2 x5 x6) (QI (fun z15 M15 => (cl 0 yX8_behind [Rv 86, Iv x4, Iv x6] M15 (QI (fun z16 M16 => (wp 0 yX4_firstParting 8 [some (Rv 83), some (Iv x1), some (Rv a2), some (Iv z15), some (Iv z16), some (Iv (x5 + 1)), none] [] M16 Q)))))))))) ∧ (z8 ≠ (x1 - x5) → wp 0 yX4_firstParting 17 [some (Rv 83), some (Iv x1), some (Rv a2), some (Iv x3), some (Iv x4), some (Iv x5), some (Iv (x6 + 1))] [] M8 Q))))))))) : wp 0 yX4_firstParting 17 [some (Rv 83), some (Iv x1), some (Rv a2), some (Iv x3), some (Iv x4), some (Iv x5), some (Iv x6)] [] M Q := by
  refine wp_iload dX4_firstParting_17 rfl ?_
  refine wp_iconst dX4_firstParting_19 ?_
  obtain ⟨o1, h⟩ := h
  refine wp_icmp_ge (tgt := 47) dX4_firstParting_20 (by decide) o1 (by decide) (fun q2 => ?_) (fun q2 => ?_)
  · have h := h.1 q2
    refine wp_aload_n dX4_firstParting_47 rfl ha2.p ?_
    refine wp_iload dX4_firstParting_48 rfl ?_
    refine wp_iload dX4_firstParting_50 rfl ?_
    obtain ⟨o3, h⟩ := h
    obtain ⟨o4, h⟩ := h
    obtain ⟨o5, h⟩ := h
    refine wp_iast dX4_firstParting_52 ha2.k ha2.n o3 o4 o5 ?_
    refine wp_aload_n dX4_firstParting_53 rfl (by decide) ?_
    refine wp_getf (t := Rv 84) 84 dX4_firstParting_54 (fl_X4_12 rfl) kd_83 rfl rfl ?_
    refine wp_iload_n dX4_firstParting_57 rfl ?_
    refine wp_iload dX4_firstParting_58 rfl ?_
    refine wp_callV (e1 := 0) (as := [Iv x3, Iv x6]) (S := []) dX4_firstParting_60 (cs_X4_51 rfl) kd_84 rfl rfl (Nat.le_of_ble_eq_true rfl) (Nat.le_of_ble_eq_true rfl) h (fun v6 M6 q6 r6 => ?_)
    obtain ⟨z6, rfl⟩ := retV_i r6 rfl
    have h := q6
    refine wp_istore_n (L2 := [some (Rv 83), some (Iv x1), some (Rv a2), some (Iv z6), some (Iv x4), some (Iv x5), some (Iv x6)]) dX4_firstParting_63 (Nat.le_of_ble_eq_true rfl) (Nat.le_of_ble_eq_true rfl) rfl ?_
    refine wp_aload_n dX4_firstParting_64 rfl (by decide) ?_
    refine wp_getf (t := Rv 86) 86 dX4_firstParting_65 (fl_X4_18 rfl) kd_83 rfl rfl ?_
    refine wp_iload dX4_firstParting_68 rfl ?_
    refine wp_iload dX4_firstParting_70 rfl ?_
    refine wp_callV (e1 := 0) (as := [Iv x4, Iv x6]) (S := []) dX4_firstParting_72 (cs_X4_51 rfl) kd_86 rfl rfl (Nat.le_of_ble_eq_true rfl) (Nat.le_of_ble_eq_true rfl) h (fun v7 M7 q7 r7 => ?_)
    obtain ⟨z7, rfl⟩ := retV_i r7 rfl
    have h := q7
    refine wp_istore (L2 := [some (Rv 83), some (Iv x1), some (Rv a2), some (Iv z6), some (Iv z7), some (Iv x5), some (Iv x6)]) dX4_firstParting_75 (Nat.le_of_ble_eq_true rfl) (Nat.le_of_ble_eq_true rfl) rfl ?_
    refine wp_iinc (L2 := [some (Rv 83), some (Iv x1), some (Rv a2), some (Iv z6), some (Iv z7), some (Iv (x5 + 1)), some (Iv x6)]) dX4_firstParting_77 rfl (Nat.le_of_ble_eq_true rfl) (Nat.le_of_ble_eq_true rfl) rfl ?_
    refine wp_goto (tgt := 8) dX4_firstParting_80 (by decide) ?_
    exact wp_weak [true, true, true, true, true, true, false] rfl h
  · have h := h.2 q2
    refine wp_aload_n dX4_firstParting_23 rfl (by decide) ?_
    refine wp_iload_n dX4_firstParting_24 rfl ?_
    refine wp_iload dX4_firstParting_25 rfl ?_
    refine wp_iload dX4_firstParting_27 rfl ?_
    refine wp_callV (e1 := 0) (as := [Iv x3, Iv x4, Iv x6]) (S := []) dX4_firstParting_29 (cs_X4_47 rfl) kd_83 rfl rfl (Nat.le_of_ble_eq_true rfl) (Nat.le_of_ble_eq_true rfl) h (fun v8 M8 q8 r8 => ?_)
    obtain ⟨z8, rfl⟩ := retV_j r8 rfl
    have h := q8
    refine wp_iload_n dX4_firstParting_32 rfl ?_
    refine wp_iload dX4_firstParting_33 rfl ?_
    refine wp_isub dX4_firstParting_35 ?_
    obtain ⟨o9, h⟩ := h
    refine wp_i2l dX4_firstParting_36 o9 ?_
    obtain ⟨o10, h⟩ := h
    refine wp_lcmp dX4_firstParting_37 o10 ?_
    refine wp_if_eq (tgt := 47) dX4_firstParting_38 (by decide) lc_inr (fun q11 => ?_) (fun q11 => ?_)
    · have q11 := lc_eq.mp q11
      have h := h.1 q11
      refine wp_aload_n dX4_firstParting_47 rfl ha2.p ?_
      refine wp_iload dX4_firstParting_48 rfl ?_
      refine wp_iload dX4_firstParting_50 rfl ?_
      obtain ⟨o12, h⟩ := h
      obtain ⟨o13, h⟩ := h
      obtain ⟨o14, h⟩ := h
      refine wp_iast dX4_firstParting_52 ha2.k ha2.n o12 o13 o14 ?_
      refine wp_aload_n dX4_firstParting_53 rfl (by decide) ?_
      refine wp_getf (t := Rv 84) 84 dX4_firstParting_54 (fl_X4_12 rfl) kd_83 rfl rfl ?_
      refine wp_iload_n dX4_firstParting_57 rfl ?_
      refine wp_iload dX4_firstParting_58 rfl ?_
      refine wp_callV (e1 := 0) (as := [Iv x3, Iv x6]) (S := []) dX4_firstParting_60 (cs_X4_51 rfl) kd_84 rfl rfl (Nat.le_of_ble_eq_true rfl) (Nat.le_of_ble_eq_true rfl) h (fun v15 M15 q15 r15 => ?_)
      obtain ⟨z15, rfl⟩ := retV_i r15 rfl
      have h := q15
      refine wp_istore_n (L2 := [some (Rv 83), some (Iv x1), some (Rv a2), some (Iv z15), some (Iv x4), some (Iv x5), some (Iv x6)]) dX4_firstParting_63 (Nat.le_of_ble_eq_true rfl) (Nat.le_of_ble_eq_true rfl) rfl ?_
      refine wp_aload_n dX4_firstParting_64 rfl (by decide) ?_
      refine wp_getf (t := Rv 86) 86 dX4_firstParting_65 (fl_X4_18 rfl) kd_83 rfl rfl ?_
      refine wp_iload dX4_firstParting_68 rfl ?_
      refine wp_iload dX4_firstParting_70 rfl ?_
      refine wp_callV (e1 := 0) (as := [Iv x4, Iv x6]) (S := []) dX4_firstParting_72 (cs_X4_51 rfl) kd_86 rfl rfl (Nat.le_of_ble_eq_true rfl) (Nat.le_of_ble_eq_true rfl) h (fun v16 M16 q16 r16 => ?_)
      obtain ⟨z16, rfl⟩ := retV_i r16 rfl
      have h := q16
      refine wp_istore (L2 := [some (Rv 83), some (Iv x1), some (Rv a2), some (Iv z15), some (Iv z16), some (Iv x5), some (Iv x6)]) dX4_firstParting_75 (Nat.le_of_ble_eq_true rfl) (Nat.le_of_ble_eq_true rfl) rfl ?_
      refine wp_iinc (L2 := [some (Rv 83), some (Iv x1), some (Rv a2), some (Iv z15), some (Iv z16), some (Iv (x5 + 1)), some (Iv x6)]) dX4_firstParting_77 rfl (Nat.le_of_ble_eq_true rfl) (Nat.le_of_ble_eq_true rfl) rfl ?_
      refine wp_goto (tgt := 8) dX4_firstParting_80 (by decide) ?_
      exact wp_weak [true, true, true, true, true, true, false] rfl h
    · have q11 := lc_ne.mp q11
      have h := h.2 q11
      refine wp_iinc (L2 := [some (Rv 83), some (Iv x1), some (Rv a2), some (Iv x3), some (Iv x4), some (Iv x5), some (Iv (x6 + 1))]) dX4_firstParting_41 rfl (Nat.le_of_ble_eq_true rfl) (Nat.le_of_ble_eq_true rfl) rfl ?_
      refine wp_goto (tgt := 17) dX4_firstParting_44 (by decide) ?_
      exact h
theorem gX4_countShared {a1 a2 : Int} {n1 : Nat} (ha1 : isL a1 n1) {n2 : Nat} (ha2 : isL a2 n2) {M : Mem} {Q : Vl → Mem → Prop} (h : cl 0 yX8_read [Rv 84, Rv a1] M (QV (fun M1 => (cl 0 yX8_read [Rv 86, Rv a2] M1 (QV (fun M2 => (wp 0 yX4_countShared 21 [some (Rv 83), some (Rv a1), some (Rv a2), some (Iv (M2 a1 1)), none] [] M2 Q))))))) : wp 0 yX4_countShared 0 [some (Rv 83), some (Rv a1), some (Rv a2), none, none] [] M Q := by
  refine wp_aload_n dX4_countShared_0 rfl (by decide) ?_
  refine wp_getf (t := Rv 84) 84 dX4_countShared_1 (fl_X4_12 rfl) kd_83 rfl rfl ?_
  refine wp_aload_n dX4_countShared_4 rfl ha1.p ?_
  refine wp_callV (e1 := 0) (as := [Rv a1]) (S := []) dX4_countShared_5 (cs_X4_25 rfl) kd_84 rfl rfl (Nat.le_of_ble_eq_true rfl) (Nat.le_of_ble_eq_true rfl) h (fun v1 M1 q1 r1 => ?_)
  have h := q1
  refine wp_aload_n dX4_countShared_8 rfl (by decide) ?_
  refine wp_getf (t := Rv 86) 86 dX4_countShared_9 (fl_X4_18 rfl) kd_83 rfl rfl ?_
  refine wp_aload_n dX4_countShared_12 rfl ha2.p ?_
  refine wp_callV (e1 := 0) (as := [Rv a2]) (S := []) dX4_countShared_13 (cs_X4_25 rfl) kd_86 rfl rfl (Nat.le_of_ble_eq_true rfl) (Nat.le_of_ble_eq_true rfl) h (fun v2 M2 q2 r2 => ?_)
  have h := q2
  refine wp_aload_n dX4_countShared_16 rfl ha1.p ?_
  refine wp_getf (t := Iv (M2 a1 1)) (M2 a1 1) dX4_countShared_17 (fl_X4_29 rfl) ha1.k rfl rfl ?_
  refine wp_istore_n (L2 := [some (Rv 83), some (Rv a1), some (Rv a2), some (Iv (M2 a1 1)), none]) dX4_countShared_20 (Nat.le_of_ble_eq_true rfl) (Nat.le_of_ble_eq_true rfl) rfl ?_
  exact h
theorem eX4_countShared {a1 a2 : Int} {n1 : Nat} (ha1 : isL a1 n1) {n2 : Nat} (ha2 : isL a2 n2) {M : Mem} {Q : Vl → Mem → Prop} (h : cl 0 yX8_read [Rv 84, Rv a1] M (QV (fun M1 => (cl 0 yX8_read [Rv 86, Rv a2] M1 (QV (fun M2 => (wp 0 yX4_countShared 21 [some (Rv 83), some (Rv a1), some (Rv a2), some (Iv (M2 a1 1)), none] [] M2 Q))))))) : cl 0 yX4_countShared [Rv 83, Rv a1, Rv a2] M Q := enterG (by decide +kernel) (by exact Or.inr (Or.inr (Or.inr (Or.inl rfl)))) (Nat.le_of_ble_eq_true rfl) rfl (gX4_countShared ha1 ha2 h)
theorem gX4_countShared_21 {x3 a1 a2 : Int} {n1 : Nat} (ha1 : isL a1 n1) {n2 : Nat} (ha2 : isL a2 n2) {M : Mem} {Q : Vl → Mem → Prop} (h : inr x3 ∧ ((x3 < 0 → Q (Jv (M 79 0)) M) ∧ (0 ≤ x3 → wp 0 yX4_countShared 31 [some (Rv 83), some (Rv a1), some (Rv a2), some (Iv x3), some (Iv (M a2 1))] [] M Q))) : wp 0 yX4_countShared 21 [some (Rv 83), some (Rv a1), some (Rv a2), some (Iv x3), none] [] M Q := by
  refine wp_iload_n dX4_countShared_21 rfl ?_
  obtain ⟨o1, h⟩ := h
  refine wp_if_lt (tgt := 78) dX4_countShared_22 (by decide) o1 (fun q2 => ?_) (fun q2 => ?_)
  · have h := h.1 q2
    refine wp_aload_n dX4_countShared_78 rfl (by decide) ?_
    refine wp_getf (t := Rv 79) 79 dX4_countShared_79 (fl_X4_21 rfl) kd_83 rfl rfl ?_
    refine wp_iconst dX4_countShared_82 ?_
    refine wp_lald (M 79 0) dX4_countShared_83 kd_79 sz_79 (by decide) (by decide) (by decide) rfl ?_
    exact wp_lret dX4_countShared_84 rfl (Or.inr ⟨rfl, rfl, rfl, by decide⟩) rfl h
  · have h := h.2 q2
    refine wp_aload_n dX4_countShared_25 rfl ha2.p ?_
    refine wp_getf (t := Iv (M a2 1)) (M a2 1) dX4_countShared_26 (fl_X4_29 rfl) ha2.k rfl rfl ?_
    refine wp_istore (L2 := [some (Rv 83), some (Rv a1), some (Rv a2), some (Iv x3), some (Iv (M a2 1))]) dX4_countShared_29 (Nat.le_of_ble_eq_true rfl) (Nat.le_of_ble_eq_true rfl) rfl ?_
    exact h
theorem gX4_countShared_31 {x3 x4 a1 a2 : Int} {n1 : Nat} (ha1 : isL a1 n1) {n2 : Nat} (ha2 : isL a2 n2) {M : Mem} {Q : Vl → Mem → Prop} (h : inr x4 ∧ ((x4 < 0 → wp 0 yX4_countShared 21 [some (Rv 83), some (Rv a1), some (Rv a2), some (Iv (x3 + (-1))), none] [] M Q) ∧ (0 ≤ x4 → cl 0 yX4_isReached [Rv a1, Iv x3, Rv a2, Iv x4] M (QI (fun z3 M3 => ((z3 = 0 → wp 0 yX4_countShared 31 [some (Rv 83), some (Rv a1), some (Rv a2), some (Iv x3), some (Iv (x4 + (-1)))] [] M3 Q) ∧ (z3 ≠ 0 → cl 0 yX4_sharedFrom [Rv 83, Iv x3, Iv x4] M3 (QJ (fun z5 M5 => (0 ≤ (x3 * 41) + x4 ∧ ((x3 * 41) + x4 < 1681 ∧ (wp 0 yX4_countShared 31 [some (Rv 83), some (Rv a1), some (Rv a2), some (Iv x3), some (Iv (x4 + (-1)))] [] (up M5 79 ((x3 * 41) + x4) z5) Q)))))))))))) : wp 0 yX4_countShared 31 [some (Rv 83), some (Rv a1), some (Rv a2), some (Iv x3), some (Iv x4)] [] M Q := by
  refine wp_iload dX4_countShared_31 rfl ?_
  obtain ⟨o1, h⟩ := h
  refine wp_if_lt (tgt := 72) dX4_countShared_33 (by decide) o1 (fun q2 => ?_) (fun q2 => ?_)
  · have h := h.1 q2
    refine wp_iinc (L2 := [some (Rv 83), some (Rv a1), some (Rv a2), some (Iv (x3 + (-1))), some (Iv x4)]) dX4_countShared_72 rfl (Nat.le_of_ble_eq_true rfl) (Nat.le_of_ble_eq_true rfl) rfl ?_
    refine wp_goto (tgt := 21) dX4_countShared_75 (by decide) ?_
    exact wp_weak [true, true, true, true, false] rfl h
  · have h := h.2 q2
    refine wp_aload_n dX4_countShared_36 rfl ha1.p ?_
    refine wp_iload_n dX4_countShared_37 rfl ?_
    refine wp_aload_n dX4_countShared_38 rfl ha2.p ?_
    refine wp_iload dX4_countShared_39 rfl ?_
    refine wp_callS (e1 := 0) (as := [Rv a1, Iv x3, Rv a2, Iv x4]) (S := []) dX4_countShared_41 (cs_X4_35 rfl) rfl rfl (Nat.le_of_ble_eq_true rfl) (Nat.le_of_ble_eq_true rfl) h (fun v3 M3 q3 r3 => ?_)
    obtain ⟨z3, rfl, hz3⟩ := retV_z r3 rfl
    have h := q3
    refine wp_if_eq (tgt := 66) dX4_countShared_44 (by decide) (by have := hz3; omega) (fun q4 => ?_) (fun q4 => ?_)
    · have h := h.1 q4
      refine wp_iinc (L2 := [some (Rv 83), some (Rv a1), some (Rv a2), some (Iv x3), some (Iv (x4 + (-1)))]) dX4_countShared_66 rfl (Nat.le_of_ble_eq_true rfl) (Nat.le_of_ble_eq_true rfl) rfl ?_
      refine wp_goto (tgt := 31) dX4_countShared_69 (by decide) ?_
      exact h
    · have h := h.2 q4
      refine wp_aload_n dX4_countShared_47 rfl (by decide) ?_
      refine wp_getf (t := Rv 79) 79 dX4_countShared_48 (fl_X4_21 rfl) kd_83 rfl rfl ?_
      refine wp_iload_n dX4_countShared_51 rfl ?_
      refine wp_bipush dX4_countShared_52 (by decide) ?_
      refine wp_imul dX4_countShared_54 ?_
      refine wp_iload dX4_countShared_55 rfl ?_
      refine wp_iadd dX4_countShared_57 ?_
      refine wp_aload_n dX4_countShared_58 rfl (by decide) ?_
      refine wp_iload_n dX4_countShared_59 rfl ?_
      refine wp_iload dX4_countShared_60 rfl ?_
      refine wp_callV (e1 := 0) (as := [Iv x3, Iv x4]) (S := [Iv ((x3 * 41) + x4), Rv 79]) dX4_countShared_62 (cs_X4_55 rfl) kd_83 rfl rfl (Nat.le_of_ble_eq_true rfl) (Nat.le_of_ble_eq_true rfl) h (fun v5 M5 q5 r5 => ?_)
      obtain ⟨z5, rfl⟩ := retV_j r5 rfl
      have h := q5
      obtain ⟨o6, h⟩ := h
      obtain ⟨o7, h⟩ := h
      refine wp_last dX4_countShared_65 kd_79 sz_79 o6 o7 (⟨by omega, by omega⟩) ?_
      refine wp_iinc (L2 := [some (Rv 83), some (Rv a1), some (Rv a2), some (Iv x3), some (Iv (x4 + (-1)))]) dX4_countShared_66 rfl (Nat.le_of_ble_eq_true rfl) (Nat.le_of_ble_eq_true rfl) rfl ?_
      refine wp_goto (tgt := 31) dX4_countShared_69 (by decide) ?_
      exact h
theorem gX4_sharedFrom {x1 x2 : Int}  {M : Mem} {Q : Vl → Mem → Prop} (h : wp 0 yX4_sharedFrom 5 [some (Rv 83), some (Iv x1), some (Iv x2), some (Jv 1), none, some (Iv 0), none, none] [] M Q) : wp 0 yX4_sharedFrom 0 [some (Rv 83), some (Iv x1), some (Iv x2), none, none, none, none, none] [] M Q := by
  refine wp_lconst1 dX4_sharedFrom_0 ?_
  refine wp_lstore_n (L2 := [some (Rv 83), some (Iv x1), some (Iv x2), some (Jv 1), none, none, none, none]) dX4_sharedFrom_1 (Nat.le_of_ble_eq_true rfl) (Nat.le_of_ble_eq_true rfl) rfl ?_
  refine wp_iconst dX4_sharedFrom_2 ?_
  refine wp_istore (L2 := [some (Rv 83), some (Iv x1), some (Iv x2), some (Jv 1), none, some (Iv 0), none, none]) dX4_sharedFrom_3 (Nat.le_of_ble_eq_true rfl) (Nat.le_of_ble_eq_true rfl) rfl ?_
  exact h
theorem eX4_sharedFrom {x1 x2 : Int}  {M : Mem} {Q : Vl → Mem → Prop} (h : wp 0 yX4_sharedFrom 5 [some (Rv 83), some (Iv x1), some (Iv x2), some (Jv 1), none, some (Iv 0), none, none] [] M Q) : cl 0 yX4_sharedFrom [Rv 83, Iv x1, Iv x2] M Q := enterG (by decide +kernel) (by exact Or.inr (Or.inr (Or.inr (Or.inl rfl)))) (Nat.le_of_ble_eq_true rfl) rfl (gX4_sharedFrom h)
theorem gX4_sharedFrom_5 {x1 x2 x3 x5 : Int}  {M : Mem} {Q : Vl → Mem → Prop} (h : inr x5 ∧ ((6 ≤ x5 → Q (Jv x3) M) ∧ (x5 < 6 → cl 0 yX8_behind [Rv 84, Iv x1, Iv x5] M (QI (fun z3 M3 => (cl 0 yX8_behind [Rv 86, Iv x2, Iv x5] M3 (QI (fun z4 M4 => (inr z3 ∧ ((z3 = 0 → wp 0 yX4_sharedFrom 5 [some (Rv 83), some (Iv x1), some (Iv x2), some (Jv x3), none, some (Iv (x5 + 1)), none, none] [] M4 Q) ∧ (z3 ≠ 0 → inr z4 ∧ ((z4 = 0 → wp 0 yX4_sharedFrom 5 [some (Rv 83), some (Iv x1), some (Iv x2), some (Jv x3), none, some (Iv (x5 + 1)), none, none] [] M4 Q) ∧ (z4 ≠ 0 → 0 ≤ (z3 * 41) + z4 ∧ ((z3 * 41) + z4 < 1681 ∧ (wp 0 yX4_sharedFrom 5 [some (Rv 83), some (Iv x1), some (Iv x2), some (Jv (x3 + (M4 79 ((z3 * 41) + z4)))), none, some (Iv (x5 + 1)), none, none] [] M4 Q))))))))))))))) : wp 0 yX4_sharedFrom 5 [some (Rv 83), some (Iv x1), some (Iv x2), some (Jv x3), none, some (Iv x5), none, none] [] M Q := by
  refine wp_iload dX4_sharedFrom_5 rfl ?_
  refine wp_bipush dX4_sharedFrom_7 (by decide) ?_
  obtain ⟨o1, h⟩ := h
  refine wp_icmp_ge (tgt := 68) dX4_sharedFrom_9 (by decide) o1 (by decide) (fun q2 => ?_) (fun q2 => ?_)
  · have h := h.1 q2
    refine wp_lload_n dX4_sharedFrom_68 rfl ?_
    exact wp_lret dX4_sharedFrom_69 rfl (Or.inr ⟨rfl, rfl, rfl, by decide⟩) rfl h
  · have h := h.2 q2
    refine wp_aload_n dX4_sharedFrom_12 rfl (by decide) ?_
    refine wp_getf (t := Rv 84) 84 dX4_sharedFrom_13 (fl_X4_12 rfl) kd_83 rfl rfl ?_
    refine wp_iload_n dX4_sharedFrom_16 rfl ?_
    refine wp_iload dX4_sharedFrom_17 rfl ?_
    refine wp_callV (e1 := 0) (as := [Iv x1, Iv x5]) (S := []) dX4_sharedFrom_19 (cs_X4_51 rfl) kd_84 rfl rfl (Nat.le_of_ble_eq_true rfl) (Nat.le_of_ble_eq_true rfl) h (fun v3 M3 q3 r3 => ?_)
    obtain ⟨z3, rfl⟩ := retV_i r3 rfl
    have h := q3
    refine wp_istore (L2 := [some (Rv 83), some (Iv x1), some (Iv x2), some (Jv x3), none, some (Iv x5), some (Iv z3), none]) dX4_sharedFrom_22 (Nat.le_of_ble_eq_true rfl) (Nat.le_of_ble_eq_true rfl) rfl ?_
    refine wp_aload_n dX4_sharedFrom_24 rfl (by decide) ?_
    refine wp_getf (t := Rv 86) 86 dX4_sharedFrom_25 (fl_X4_18 rfl) kd_83 rfl rfl ?_
    refine wp_iload_n dX4_sharedFrom_28 rfl ?_
    refine wp_iload dX4_sharedFrom_29 rfl ?_
    refine wp_callV (e1 := 0) (as := [Iv x2, Iv x5]) (S := []) dX4_sharedFrom_31 (cs_X4_51 rfl) kd_86 rfl rfl (Nat.le_of_ble_eq_true rfl) (Nat.le_of_ble_eq_true rfl) h (fun v4 M4 q4 r4 => ?_)
    obtain ⟨z4, rfl⟩ := retV_i r4 rfl
    have h := q4
    refine wp_istore (L2 := [some (Rv 83), some (Iv x1), some (Iv x2), some (Jv x3), none, some (Iv x5), some (Iv z3), some (Iv z4)]) dX4_sharedFrom_34 (Nat.le_of_ble_eq_true rfl) (Nat.le_of_ble_eq_true rfl) rfl ?_
    refine wp_iload dX4_sharedFrom_36 rfl ?_
    obtain ⟨o5, h⟩ := h
    refine wp_if_eq (tgt := 62) dX4_sharedFrom_38 (by decide) o5 (fun q6 => ?_) (fun q6 => ?_)
    · have h := h.1 q6
      refine wp_iinc (L2 := [some (Rv 83), some (Iv x1), some (Iv x2), some (Jv x3), none, some (Iv (x5 + 1)), some (Iv z3), some (Iv z4)]) dX4_sharedFrom_62 rfl (Nat.le_of_ble_eq_true rfl) (Nat.le_of_ble_eq_true rfl) rfl ?_
      refine wp_goto (tgt := 5) dX4_sharedFrom_65 (by decide) ?_
      exact wp_weak [true, true, true, true, true, true, false, false] rfl h
    · have h := h.2 q6
      refine wp_iload dX4_sharedFrom_41 rfl ?_
      obtain ⟨o7, h⟩ := h
      refine wp_if_eq (tgt := 62) dX4_sharedFrom_43 (by decide) o7 (fun q8 => ?_) (fun q8 => ?_)
      · have h := h.1 q8
        refine wp_iinc (L2 := [some (Rv 83), some (Iv x1), some (Iv x2), some (Jv x3), none, some (Iv (x5 + 1)), some (Iv z3), some (Iv z4)]) dX4_sharedFrom_62 rfl (Nat.le_of_ble_eq_true rfl) (Nat.le_of_ble_eq_true rfl) rfl ?_
        refine wp_goto (tgt := 5) dX4_sharedFrom_65 (by decide) ?_
        exact wp_weak [true, true, true, true, true, true, false, false] rfl h
      · have h := h.2 q8
        refine wp_lload_n dX4_sharedFrom_46 rfl ?_
        refine wp_aload_n dX4_sharedFrom_47 rfl (by decide) ?_
        refine wp_getf (t := Rv 79) 79 dX4_sharedFrom_48 (fl_X4_21 rfl) kd_83 rfl rfl ?_
        refine wp_iload dX4_sharedFrom_51 rfl ?_
        refine wp_bipush dX4_sharedFrom_53 (by decide) ?_
        refine wp_imul dX4_sharedFrom_55 ?_
        refine wp_iload dX4_sharedFrom_56 rfl ?_
        refine wp_iadd dX4_sharedFrom_58 ?_
        obtain ⟨o9, h⟩ := h
        obtain ⟨o10, h⟩ := h
        refine wp_lald (M4 79 ((z3 * 41) + z4)) dX4_sharedFrom_59 kd_79 sz_79 o9 o10 (⟨by omega, by omega⟩) rfl ?_
        refine wp_ladd dX4_sharedFrom_60 ?_
        refine wp_lstore_n (L2 := [some (Rv 83), some (Iv x1), some (Iv x2), some (Jv (x3 + (M4 79 ((z3 * 41) + z4)))), none, some (Iv x5), some (Iv z3), some (Iv z4)]) dX4_sharedFrom_61 (Nat.le_of_ble_eq_true rfl) (Nat.le_of_ble_eq_true rfl) rfl ?_
        refine wp_iinc (L2 := [some (Rv 83), some (Iv x1), some (Iv x2), some (Jv (x3 + (M4 79 ((z3 * 41) + z4)))), none, some (Iv (x5 + 1)), some (Iv z3), some (Iv z4)]) dX4_sharedFrom_62 rfl (Nat.le_of_ble_eq_true rfl) (Nat.le_of_ble_eq_true rfl) rfl ?_
        refine wp_goto (tgt := 5) dX4_sharedFrom_65 (by decide) ?_
        exact wp_weak [true, true, true, true, true, true, false, false] rfl h
theorem gX5_begin  {M : Mem} {Q : Vl → Mem → Prop} (h : Q (Iv 0) (up (up M 23 5 0) 23 6 1)) : wp 0 yX5_begin 0 [some (Rv 23)] [] M Q := by
  refine wp_aload_n dX5_begin_0 rfl (by decide) ?_
  refine wp_iconst dX5_begin_1 ?_
  refine wp_putf (x := 0) dX5_begin_2 (fl_X5_27 rfl) kd_23 (fun _ => rfl) rfl rfl trivial ?_
  refine wp_aload_n dX5_begin_5 rfl (by decide) ?_
  refine wp_iconst dX5_begin_6 ?_
  refine wp_putf (x := 1) dX5_begin_7 (fl_X5_31 rfl) kd_23 (fun _ => rfl) rfl rfl trivial ?_
  exact wp_vret dX5_begin_10 rfl (Or.inr ⟨rfl, rfl, rfl, by decide⟩) rfl h
theorem eX5_begin  {M : Mem} {Q : Vl → Mem → Prop} (h : Q (Iv 0) (up (up M 23 5 0) 23 6 1)) : cl 0 yX5_begin [Rv 23] M Q := enterG (by decide +kernel) (by exact Or.inl rfl) (Nat.le_of_ble_eq_true rfl) rfl (gX5_begin h)
theorem gX5_choose {a1 : Int} {n1 : Nat} (ha1 : isL a1 n1) {M : Mem} {Q : Vl → Mem → Prop} (h : 0 ≤ M 23 5 ∧ (M 23 5 < 4 ∧ (Q (Iv 0) (up (up (up (up M 24 (M 23 5) a1) 25 (M 23 5) (M 23 6)) 23 6 ((M 23 6) * (((up (up M 24 (M 23 5) a1) 25 (M 23 5) (M 23 6)) a1 1) + 1))) 23 5 ((M 23 5) + 1))))) : wp 0 yX5_choose 0 [some (Rv 23), some (Rv a1)] [] M Q := by
  refine wp_aload_n dX5_choose_0 rfl (by decide) ?_
  refine wp_getf (t := Rv 24) 24 dX5_choose_1 (fl_X5_11 rfl) kd_23 rfl rfl ?_
  refine wp_aload_n dX5_choose_4 rfl (by decide) ?_
  refine wp_getf (t := Iv (M 23 5)) (M 23 5) dX5_choose_5 (fl_X5_27 rfl) kd_23 rfl rfl ?_
  refine wp_aload_n dX5_choose_8 rfl ha1.p ?_
  obtain ⟨o1, h⟩ := h
  obtain ⟨o2, h⟩ := h
  refine wp_aastL dX5_choose_9 kd_24 ha1.k sz_24 o1 o2 (⟨by omega, by omega⟩) (fun _ => rfl) ?_
  refine wp_aload_n dX5_choose_10 rfl (by decide) ?_
  refine wp_getf (t := Rv 25) 25 dX5_choose_11 (fl_X5_17 rfl) kd_23 rfl rfl ?_
  refine wp_aload_n dX5_choose_14 rfl (by decide) ?_
  refine wp_getf (t := Iv (M 23 5)) (M 23 5) dX5_choose_15 (fl_X5_27 rfl) kd_23 rfl rfl ?_
  refine wp_aload_n dX5_choose_18 rfl (by decide) ?_
  refine wp_getf (t := Iv (M 23 6)) (M 23 6) dX5_choose_19 (fl_X5_31 rfl) kd_23 rfl rfl ?_
  refine wp_iast dX5_choose_22 kd_25 sz_25 o1 o2 (⟨by omega, by omega⟩) ?_
  refine wp_aload_n dX5_choose_23 rfl (by decide) ?_
  refine wp_dup dX5_choose_24 rfl ?_
  refine wp_getf (t := Iv (M 23 6)) (M 23 6) dX5_choose_25 (fl_X5_31 rfl) kd_23 rfl rfl ?_
  refine wp_aload_n dX5_choose_28 rfl ha1.p ?_
  refine wp_getf (t := Iv ((up (up M 24 (M 23 5) a1) 25 (M 23 5) (M 23 6)) a1 1)) ((up (up M 24 (M 23 5) a1) 25 (M 23 5) (M 23 6)) a1 1) dX5_choose_29 (fl_X5_34 rfl) ha1.k rfl rfl ?_
  refine wp_iconst dX5_choose_32 ?_
  refine wp_iadd dX5_choose_33 ?_
  refine wp_imul dX5_choose_34 ?_
  refine wp_putf (x := ((M 23 6) * (((up (up M 24 (M 23 5) a1) 25 (M 23 5) (M 23 6)) a1 1) + 1))) dX5_choose_35 (fl_X5_31 rfl) kd_23 (fun _ => rfl) rfl rfl trivial ?_
  refine wp_aload_n dX5_choose_38 rfl (by decide) ?_
  refine wp_dup dX5_choose_39 rfl ?_
  refine wp_getf (t := Iv (M 23 5)) (M 23 5) dX5_choose_40 (fl_X5_27 rfl) kd_23 rfl rfl ?_
  refine wp_iconst dX5_choose_43 ?_
  refine wp_iadd dX5_choose_44 ?_
  refine wp_putf (x := ((M 23 5) + 1)) dX5_choose_45 (fl_X5_27 rfl) kd_23 (fun _ => rfl) rfl rfl trivial ?_
  exact wp_vret dX5_choose_48 rfl (Or.inr ⟨rfl, rfl, rfl, by decide⟩) rfl h
theorem eX5_choose {a1 : Int} {n1 : Nat} (ha1 : isL a1 n1) {M : Mem} {Q : Vl → Mem → Prop} (h : 0 ≤ M 23 5 ∧ (M 23 5 < 4 ∧ (Q (Iv 0) (up (up (up (up M 24 (M 23 5) a1) 25 (M 23 5) (M 23 6)) 23 6 ((M 23 6) * (((up (up M 24 (M 23 5) a1) 25 (M 23 5) (M 23 6)) a1 1) + 1))) 23 5 ((M 23 5) + 1))))) : cl 0 yX5_choose [Rv 23, Rv a1] M Q := enterG (by decide +kernel) (by exact Or.inl rfl) (Nat.le_of_ble_eq_true rfl) rfl (gX5_choose ha1 h)
theorem gX5_states  {M : Mem} {Q : Vl → Mem → Prop} (h : Q (Iv (M 23 6)) M) : wp 0 yX5_states 0 [some (Rv 23)] [] M Q := by
  refine wp_aload_n dX5_states_0 rfl (by decide) ?_
  refine wp_getf (t := Iv (M 23 6)) (M 23 6) dX5_states_1 (fl_X5_31 rfl) kd_23 rfl rfl ?_
  exact wp_iret dX5_states_4 rfl (Or.inr ⟨rfl, rfl, rfl, by decide⟩) rfl h
theorem eX5_states  {M : Mem} {Q : Vl → Mem → Prop} (h : Q (Iv (M 23 6)) M) : cl 0 yX5_states [Rv 23] M Q := enterG (by decide +kernel) (by exact Or.inr (Or.inl rfl)) (Nat.le_of_ble_eq_true rfl) rfl (gX5_states h)
theorem gX5_longestCommon {a1 : Int} {n1 : Nat} (ha1 : isA a1 n1) {M : Mem} {Q : Vl → Mem → Prop} (h : cl 0 yX5_goToEnd [Rv 23] M (QV (fun M1 => (wp 0 yX5_longestCommon 11 [some (Rv 23), some (Rv a1), some (Iv ((M1 23 6) - 1)), none] [] M1 Q)))) : wp 0 yX5_longestCommon 0 [some (Rv 23), some (Rv a1), none, none] [] M Q := by
  refine wp_aload_n dX5_longestCommon_0 rfl (by decide) ?_
  refine wp_callV (e1 := 0) (as := []) (S := []) dX5_longestCommon_1 (cs_X5_37 rfl) kd_23 rfl rfl (Nat.le_of_ble_eq_true rfl) (Nat.le_of_ble_eq_true rfl) h (fun v1 M1 q1 r1 => ?_)
  have h := q1
  refine wp_aload_n dX5_longestCommon_4 rfl (by decide) ?_
  refine wp_getf (t := Iv (M1 23 6)) (M1 23 6) dX5_longestCommon_5 (fl_X5_31 rfl) kd_23 rfl rfl ?_
  refine wp_iconst dX5_longestCommon_8 ?_
  refine wp_isub dX5_longestCommon_9 ?_
  refine wp_istore_n (L2 := [some (Rv 23), some (Rv a1), some (Iv ((M1 23 6) - 1)), none]) dX5_longestCommon_10 (Nat.le_of_ble_eq_true rfl) (Nat.le_of_ble_eq_true rfl) rfl ?_
  exact h
theorem eX5_longestCommon {a1 : Int} {n1 : Nat} (ha1 : isA a1 n1) {M : Mem} {Q : Vl → Mem → Prop} (h : cl 0 yX5_goToEnd [Rv 23] M (QV (fun M1 => (wp 0 yX5_longestCommon 11 [some (Rv 23), some (Rv a1), some (Iv ((M1 23 6) - 1)), none] [] M1 Q)))) : cl 0 yX5_longestCommon [Rv 23, Rv a1] M Q := enterG (by decide +kernel) (by exact Or.inr (Or.inl rfl)) (Nat.le_of_ble_eq_true rfl) rfl (gX5_longestCommon ha1 h)
theorem gX5_longestCommon_11 {x2 a1 : Int} {n1 : Nat} (ha1 : isA a1 n1) {M : Mem} {Q : Vl → Mem → Prop} (h : inr x2 ∧ ((x2 < 0 → cl 0 yX5_goToBeginning [Rv 23] M (QV (fun M3 => (M3 23 4 = 120 ∧ (M3 (-1) 0 = 1 ∧ (wp 0 yX5_longestCommon 49 [some (Rv 23), some (Rv a1), some (Iv (M3 120 0)), some (Iv 0)] [] M3 Q)))))) ∧ (0 ≤ x2 → M 23 4 = 120 ∧ (cl 0 yX5_commonFrom [Rv 23, Iv x2] M (QI (fun z7 M7 => (M7 (-1) 0 = 1 ∧ (x2 < 20000 ∧ (cl 0 yX5_stepBack [Rv 23] (up M7 120 x2 z7) (QV (fun M10 => (wp 0 yX5_longestCommon 11 [some (Rv 23), some (Rv a1), some (Iv (x2 + (-1))), none] [] M10 Q)))))))))))) : wp 0 yX5_longestCommon 11 [some (Rv 23), some (Rv a1), some (Iv x2), none] [] M Q := by
  refine wp_iload_n dX5_longestCommon_11 rfl ?_
  obtain ⟨o1, h⟩ := h
  refine wp_if_lt (tgt := 36) dX5_longestCommon_12 (by decide) o1 (fun q2 => ?_) (fun q2 => ?_)
  · have h := h.1 q2
    refine wp_aload_n dX5_longestCommon_36 rfl (by decide) ?_
    refine wp_callV (e1 := 0) (as := []) (S := []) dX5_longestCommon_37 (cs_X5_50 rfl) kd_23 rfl rfl (Nat.le_of_ble_eq_true rfl) (Nat.le_of_ble_eq_true rfl) h (fun v3 M3 q3 r3 => ?_)
    have h := q3
    refine wp_aload_n dX5_longestCommon_40 rfl (by decide) ?_
    obtain ⟨o4, h⟩ := h
    refine wp_getf (t := Rv 120) 120 dX5_longestCommon_41 (fl_X5_40 rfl) kd_23 o4 rfl ?_
    refine wp_iconst dX5_longestCommon_44 ?_
    obtain ⟨o5, h⟩ := h
    refine wp_iald (M3 120 0) dX5_longestCommon_45 (kd_120 o5) sz_120 (by decide) (by decide) (by decide) rfl ?_
    refine wp_istore_n (L2 := [some (Rv 23), some (Rv a1), some (Iv (M3 120 0)), none]) dX5_longestCommon_46 (Nat.le_of_ble_eq_true rfl) (Nat.le_of_ble_eq_true rfl) rfl ?_
    refine wp_iconst dX5_longestCommon_47 ?_
    refine wp_istore_n (L2 := [some (Rv 23), some (Rv a1), some (Iv (M3 120 0)), some (Iv 0)]) dX5_longestCommon_48 (Nat.le_of_ble_eq_true rfl) (Nat.le_of_ble_eq_true rfl) rfl ?_
    exact h
  · have h := h.2 q2
    refine wp_aload_n dX5_longestCommon_15 rfl (by decide) ?_
    obtain ⟨o6, h⟩ := h
    refine wp_getf (t := Rv 120) 120 dX5_longestCommon_16 (fl_X5_40 rfl) kd_23 o6 rfl ?_
    refine wp_iload_n dX5_longestCommon_19 rfl ?_
    refine wp_aload_n dX5_longestCommon_20 rfl (by decide) ?_
    refine wp_iload_n dX5_longestCommon_21 rfl ?_
    refine wp_callV (e1 := 0) (as := [Iv x2]) (S := [Iv x2, Rv 120]) dX5_longestCommon_22 (cs_X5_43 rfl) kd_23 rfl rfl (Nat.le_of_ble_eq_true rfl) (Nat.le_of_ble_eq_true rfl) h (fun v7 M7 q7 r7 => ?_)
    obtain ⟨z7, rfl⟩ := retV_i r7 rfl
    have h := q7
    obtain ⟨o8, h⟩ := h
    obtain ⟨o9, h⟩ := h
    refine wp_iast dX5_longestCommon_25 (kd_120 o8) sz_120 q2 o9 (⟨by omega, by omega⟩) ?_
    refine wp_aload_n dX5_longestCommon_26 rfl (by decide) ?_
    refine wp_callV (e1 := 0) (as := []) (S := []) dX5_longestCommon_27 (cs_X5_47 rfl) kd_23 rfl rfl (Nat.le_of_ble_eq_true rfl) (Nat.le_of_ble_eq_true rfl) h (fun v10 M10 q10 r10 => ?_)
    have h := q10
    refine wp_iinc (L2 := [some (Rv 23), some (Rv a1), some (Iv (x2 + (-1))), none]) dX5_longestCommon_30 rfl (Nat.le_of_ble_eq_true rfl) (Nat.le_of_ble_eq_true rfl) rfl ?_
    refine wp_goto (tgt := 11) dX5_longestCommon_33 (by decide) ?_
    exact h
theorem gX5_longestCommon_49 {x2 x3 a1 : Int} {n1 : Nat} (ha1 : isA a1 n1) {M : Mem} {Q : Vl → Mem → Prop} (h : inr x3 ∧ (inr x2 ∧ ((x2 ≤ x3 → Q (Iv x2) M) ∧ (x3 < x2 → cl 0 yX5_commonLetter [Rv 23, Iv ((x2 - 1) - x3)] M (QI (fun z4 M4 => (0 ≤ x3 ∧ (x3 < n1 ∧ (wp 0 yX5_longestCommon 49 [some (Rv 23), some (Rv a1), some (Iv x2), some (Iv (x3 + 1))] [] (up M4 a1 x3 z4) Q))))))))) : wp 0 yX5_longestCommon 49 [some (Rv 23), some (Rv a1), some (Iv x2), some (Iv x3)] [] M Q := by
  refine wp_iload_n dX5_longestCommon_49 rfl ?_
  refine wp_iload_n dX5_longestCommon_50 rfl ?_
  obtain ⟨o1, h⟩ := h
  obtain ⟨o2, h⟩ := h
  refine wp_icmp_ge (tgt := 72) dX5_longestCommon_51 (by decide) o1 o2 (fun q3 => ?_) (fun q3 => ?_)
  · have h := h.1 q3
    refine wp_iload_n dX5_longestCommon_72 rfl ?_
    exact wp_iret dX5_longestCommon_73 rfl (Or.inr ⟨rfl, rfl, rfl, by decide⟩) rfl h
  · have h := h.2 q3
    refine wp_aload_n dX5_longestCommon_54 rfl ha1.p ?_
    refine wp_iload_n dX5_longestCommon_55 rfl ?_
    refine wp_aload_n dX5_longestCommon_56 rfl (by decide) ?_
    refine wp_iload_n dX5_longestCommon_57 rfl ?_
    refine wp_iconst dX5_longestCommon_58 ?_
    refine wp_isub dX5_longestCommon_59 ?_
    refine wp_iload_n dX5_longestCommon_60 rfl ?_
    refine wp_isub dX5_longestCommon_61 ?_
    refine wp_callV (e1 := 0) (as := [Iv ((x2 - 1) - x3)]) (S := [Iv x3, Rv a1]) dX5_longestCommon_62 (cs_X5_53 rfl) kd_23 rfl rfl (Nat.le_of_ble_eq_true rfl) (Nat.le_of_ble_eq_true rfl) h (fun v4 M4 q4 r4 => ?_)
    obtain ⟨z4, rfl⟩ := retV_i r4 rfl
    have h := q4
    obtain ⟨o5, h⟩ := h
    obtain ⟨o6, h⟩ := h
    refine wp_iast dX5_longestCommon_65 ha1.k ha1.n o5 o6 o1 ?_
    refine wp_iinc (L2 := [some (Rv 23), some (Rv a1), some (Iv x2), some (Iv (x3 + 1))]) dX5_longestCommon_66 rfl (Nat.le_of_ble_eq_true rfl) (Nat.le_of_ble_eq_true rfl) rfl ?_
    refine wp_goto (tgt := 49) dX5_longestCommon_69 (by decide) ?_
    exact h
theorem gX5_commonFrom {x1 : Int}  {M : Mem} {Q : Vl → Mem → Prop} (h : wp 0 yX5_commonFrom 10 [some (Rv 23), some (Iv x1), some (Iv 0), some (Iv x1), some (Iv 1), some (Iv 0)] [] M Q) : wp 0 yX5_commonFrom 0 [some (Rv 23), some (Iv x1), none, none, none, none] [] M Q := by
  refine wp_iconst dX5_commonFrom_0 ?_
  refine wp_istore_n (L2 := [some (Rv 23), some (Iv x1), some (Iv 0), none, none, none]) dX5_commonFrom_1 (Nat.le_of_ble_eq_true rfl) (Nat.le_of_ble_eq_true rfl) rfl ?_
  refine wp_iload_n dX5_commonFrom_2 rfl ?_
  refine wp_istore_n (L2 := [some (Rv 23), some (Iv x1), some (Iv 0), some (Iv x1), none, none]) dX5_commonFrom_3 (Nat.le_of_ble_eq_true rfl) (Nat.le_of_ble_eq_true rfl) rfl ?_
  refine wp_iconst dX5_commonFrom_4 ?_
  refine wp_istore (L2 := [some (Rv 23), some (Iv x1), some (Iv 0), some (Iv x1), some (Iv 1), none]) dX5_commonFrom_5 (Nat.le_of_ble_eq_true rfl) (Nat.le_of_ble_eq_true rfl) rfl ?_
  refine wp_iconst dX5_commonFrom_7 ?_
  refine wp_istore (L2 := [some (Rv 23), some (Iv x1), some (Iv 0), some (Iv x1), some (Iv 1), some (Iv 0)]) dX5_commonFrom_8 (Nat.le_of_ble_eq_true rfl) (Nat.le_of_ble_eq_true rfl) rfl ?_
  exact h
theorem eX5_commonFrom {x1 : Int}  {M : Mem} {Q : Vl → Mem → Prop} (h : wp 0 yX5_commonFrom 10 [some (Rv 23), some (Iv x1), some (Iv 0), some (Iv x1), some (Iv 1), some (Iv 0)] [] M Q) : cl 0 yX5_commonFrom [Rv 23, Iv x1] M Q := enterG (by decide +kernel) (by exact Or.inr (Or.inl rfl)) (Nat.le_of_ble_eq_true rfl) rfl (gX5_commonFrom h)
theorem gX5_commonFrom_10 {x1 x2 x3 x4 x5 : Int}  {M : Mem} {Q : Vl → Mem → Prop} (h : inr x5 ∧ (inr (M 23 5) ∧ (((M 23 5) ≤ x5 → inr x4 ∧ ((x4 = 0 → Q (Iv x2) M) ∧ (x4 ≠ 0 → M 23 4 = 120 ∧ (M (-1) 0 = 1 ∧ (0 ≤ x3 ∧ (x3 < 20000 ∧ (Q (Iv (1 + (M 120 x3))) M))))))) ∧ (x5 < (M 23 5) → 0 ≤ x5 ∧ (x5 < 4 ∧ (isL (M 24 x5) 40 ∧ (((M 26 x5) = (M (M 24 x5) 1) ∨ (inr (M 26 x5) ∧ inr (M (M 24 x5) 1))) ∧ (((M 26 x5) ≠ (M (M 24 x5) 1) → M 23 4 = 120 ∧ (M (-1) 0 = 1 ∧ (0 ≤ x1 + (M 25 x5) ∧ (x1 + (M 25 x5) < 20000 ∧ (inr x2 ∧ (inr (M 120 (x1 + (M 25 x5))) ∧ (inr x4 ∧ ((x4 = 0 → wp 0 yX5_commonFrom 10 [some (Rv 23), some (Iv x1), some (Iv (if x2 < (M 120 (x1 + (M 25 x5))) then (M 120 (x1 + (M 25 x5))) else x2)), some (Iv (x3 + (M 25 x5))), some (Iv 0), some (Iv (x5 + 1))] [] M Q) ∧ (x4 ≠ 0 → cl 0 yX5_head [Rv 23, Iv x5] M (QI (fun z23 M23 => (cl 0 yX5_head [Rv 23, Iv 0] M23 (QI (fun z24 M24 => ((z23 = z24 ∨ (inr z23 ∧ inr z24)) ∧ ((z23 ≠ z24 → wp 0 yX5_commonFrom 10 [some (Rv 23), some (Iv x1), some (Iv (if x2 < (M 120 (x1 + (M 25 x5))) then (M 120 (x1 + (M 25 x5))) else x2)), some (Iv (x3 + (M 25 x5))), some (Iv 0), some (Iv (x5 + 1))] [] M24 Q) ∧ (z23 = z24 → wp 0 yX5_commonFrom 10 [some (Rv 23), some (Iv x1), some (Iv (if x2 < (M 120 (x1 + (M 25 x5))) then (M 120 (x1 + (M 25 x5))) else x2)), some (Iv (x3 + (M 25 x5))), some (Iv 1), some (Iv (x5 + 1))] [] M24 Q))))))))))))))))) ∧ ((M 26 x5) = (M (M 24 x5) 1) → Q (Iv 0) M))))))))) : wp 0 yX5_commonFrom 10 [some (Rv 23), some (Iv x1), some (Iv x2), some (Iv x3), some (Iv x4), some (Iv x5)] [] M Q := by
  refine wp_iload dX5_commonFrom_10 rfl ?_
  refine wp_aload_n dX5_commonFrom_12 rfl (by decide) ?_
  refine wp_getf (t := Iv (M 23 5)) (M 23 5) dX5_commonFrom_13 (fl_X5_27 rfl) kd_23 rfl rfl ?_
  obtain ⟨o1, h⟩ := h
  obtain ⟨o2, h⟩ := h
  refine wp_icmp_ge (tgt := 102) dX5_commonFrom_16 (by decide) o1 o2 (fun q3 => ?_) (fun q3 => ?_)
  · have h := h.1 q3
    refine wp_iload dX5_commonFrom_102 rfl ?_
    obtain ⟨o4, h⟩ := h
    refine wp_if_eq (tgt := 118) dX5_commonFrom_104 (by decide) o4 (fun q5 => ?_) (fun q5 => ?_)
    · have h := h.1 q5
      refine wp_iload_n dX5_commonFrom_118 rfl ?_
      exact wp_iret dX5_commonFrom_119 rfl (Or.inr ⟨rfl, rfl, rfl, by decide⟩) rfl h
    · have h := h.2 q5
      refine wp_iconst dX5_commonFrom_107 ?_
      refine wp_aload_n dX5_commonFrom_108 rfl (by decide) ?_
      obtain ⟨o6, h⟩ := h
      refine wp_getf (t := Rv 120) 120 dX5_commonFrom_109 (fl_X5_40 rfl) kd_23 o6 rfl ?_
      refine wp_iload_n dX5_commonFrom_112 rfl ?_
      obtain ⟨o7, h⟩ := h
      obtain ⟨o8, h⟩ := h
      obtain ⟨o9, h⟩ := h
      refine wp_iald (M 120 x3) dX5_commonFrom_113 (kd_120 o7) sz_120 o8 o9 (⟨by omega, by omega⟩) rfl ?_
      refine wp_iadd dX5_commonFrom_114 ?_
      refine wp_goto (tgt := 119) dX5_commonFrom_115 (by decide) ?_
      exact wp_iret dX5_commonFrom_119 rfl (Or.inr ⟨rfl, rfl, rfl, by decide⟩) rfl h
  · have h := h.2 q3
    refine wp_aload_n dX5_commonFrom_19 rfl (by decide) ?_
    refine wp_getf (t := Rv 26) 26 dX5_commonFrom_20 (fl_X5_21 rfl) kd_23 rfl rfl ?_
    refine wp_iload dX5_commonFrom_23 rfl ?_
    obtain ⟨o10, h⟩ := h
    obtain ⟨o11, h⟩ := h
    refine wp_iald (M 26 x5) dX5_commonFrom_25 kd_26 sz_26 o10 o11 (⟨by omega, by omega⟩) rfl ?_
    refine wp_aload_n dX5_commonFrom_26 rfl (by decide) ?_
    refine wp_getf (t := Rv 24) 24 dX5_commonFrom_27 (fl_X5_11 rfl) kd_23 rfl rfl ?_
    refine wp_iload dX5_commonFrom_30 rfl ?_
    obtain ⟨o12, h⟩ := h
    refine wp_aaldL (M 24 x5) dX5_commonFrom_32 kd_24 sz_24 o10 o11 (⟨by omega, by omega⟩) rfl ?_
    refine wp_getf (t := Iv (M (M 24 x5) 1)) (M (M 24 x5) 1) dX5_commonFrom_33 (fl_X5_34 rfl) o12.k rfl rfl ?_
    obtain ⟨o13, h⟩ := h
    refine wp_icmp_ne (tgt := 41) dX5_commonFrom_36 (by decide) o13 (fun q14 => ?_) (fun q14 => ?_)
    · have h := h.1 q14
      refine wp_iload_n dX5_commonFrom_41 rfl ?_
      refine wp_aload_n dX5_commonFrom_42 rfl (by decide) ?_
      obtain ⟨o15, h⟩ := h
      refine wp_getf (t := Rv 120) 120 dX5_commonFrom_43 (fl_X5_40 rfl) kd_23 o15 rfl ?_
      refine wp_iload_n dX5_commonFrom_46 rfl ?_
      refine wp_aload_n dX5_commonFrom_47 rfl (by decide) ?_
      refine wp_getf (t := Rv 25) 25 dX5_commonFrom_48 (fl_X5_17 rfl) kd_23 rfl rfl ?_
      refine wp_iload dX5_commonFrom_51 rfl ?_
      refine wp_iald (M 25 x5) dX5_commonFrom_53 kd_25 sz_25 o10 o11 (⟨by omega, by omega⟩) rfl ?_
      refine wp_iadd dX5_commonFrom_54 ?_
      obtain ⟨o16, h⟩ := h
      obtain ⟨o17, h⟩ := h
      obtain ⟨o18, h⟩ := h
      refine wp_iald (M 120 (x1 + (M 25 x5))) dX5_commonFrom_55 (kd_120 o16) sz_120 o17 o18 (⟨by omega, by omega⟩) rfl ?_
      obtain ⟨o19, h⟩ := h
      obtain ⟨o20, h⟩ := h
      refine wp_mmax dX5_commonFrom_56 (ml_X5_56 rfl) o19 o20 (Nat.le_of_ble_eq_true rfl) (by decide) (by decide) ?_
      refine wp_istore_n (L2 := [some (Rv 23), some (Iv x1), some (Iv (if x2 < (M 120 (x1 + (M 25 x5))) then (M 120 (x1 + (M 25 x5))) else x2)), some (Iv x3), some (Iv x4), some (Iv x5)]) dX5_commonFrom_59 (Nat.le_of_ble_eq_true rfl) (Nat.le_of_ble_eq_true rfl) rfl ?_
      refine wp_iload_n dX5_commonFrom_60 rfl ?_
      refine wp_aload_n dX5_commonFrom_61 rfl (by decide) ?_
      refine wp_getf (t := Rv 25) 25 dX5_commonFrom_62 (fl_X5_17 rfl) kd_23 rfl rfl ?_
      refine wp_iload dX5_commonFrom_65 rfl ?_
      refine wp_iald (M 25 x5) dX5_commonFrom_67 kd_25 sz_25 o10 o11 (⟨by omega, by omega⟩) rfl ?_
      refine wp_iadd dX5_commonFrom_68 ?_
      refine wp_istore_n (L2 := [some (Rv 23), some (Iv x1), some (Iv (if x2 < (M 120 (x1 + (M 25 x5))) then (M 120 (x1 + (M 25 x5))) else x2)), some (Iv (x3 + (M 25 x5))), some (Iv x4), some (Iv x5)]) dX5_commonFrom_69 (Nat.le_of_ble_eq_true rfl) (Nat.le_of_ble_eq_true rfl) rfl ?_
      refine wp_iload dX5_commonFrom_70 rfl ?_
      obtain ⟨o21, h⟩ := h
      refine wp_if_eq (tgt := 93) dX5_commonFrom_72 (by decide) o21 (fun q22 => ?_) (fun q22 => ?_)
      · have h := h.1 q22
        refine wp_iconst dX5_commonFrom_93 ?_
        refine wp_istore (L2 := [some (Rv 23), some (Iv x1), some (Iv (if x2 < (M 120 (x1 + (M 25 x5))) then (M 120 (x1 + (M 25 x5))) else x2)), some (Iv (x3 + (M 25 x5))), some (Iv 0), some (Iv x5)]) dX5_commonFrom_94 (Nat.le_of_ble_eq_true rfl) (Nat.le_of_ble_eq_true rfl) rfl ?_
        refine wp_iinc (L2 := [some (Rv 23), some (Iv x1), some (Iv (if x2 < (M 120 (x1 + (M 25 x5))) then (M 120 (x1 + (M 25 x5))) else x2)), some (Iv (x3 + (M 25 x5))), some (Iv 0), some (Iv (x5 + 1))]) dX5_commonFrom_96 rfl (Nat.le_of_ble_eq_true rfl) (Nat.le_of_ble_eq_true rfl) rfl ?_
        refine wp_goto (tgt := 10) dX5_commonFrom_99 (by decide) ?_
        exact h
      · have h := h.2 q22
        refine wp_aload_n dX5_commonFrom_75 rfl (by decide) ?_
        refine wp_iload dX5_commonFrom_76 rfl ?_
        refine wp_callV (e1 := 0) (as := [Iv x5]) (S := []) dX5_commonFrom_78 (cs_X5_62 rfl) kd_23 rfl rfl (Nat.le_of_ble_eq_true rfl) (Nat.le_of_ble_eq_true rfl) h (fun v23 M23 q23 r23 => ?_)
        obtain ⟨z23, rfl⟩ := retV_i r23 rfl
        have h := q23
        refine wp_aload_n dX5_commonFrom_81 rfl (by decide) ?_
        refine wp_iconst dX5_commonFrom_82 ?_
        refine wp_callV (e1 := 0) (as := [Iv 0]) (S := [Iv z23]) dX5_commonFrom_83 (cs_X5_62 rfl) kd_23 rfl rfl (Nat.le_of_ble_eq_true rfl) (Nat.le_of_ble_eq_true rfl) h (fun v24 M24 q24 r24 => ?_)
        obtain ⟨z24, rfl⟩ := retV_i r24 rfl
        have h := q24
        obtain ⟨o25, h⟩ := h
        refine wp_icmp_ne (tgt := 93) dX5_commonFrom_86 (by decide) o25 (fun q26 => ?_) (fun q26 => ?_)
        · have h := h.1 q26
          refine wp_iconst dX5_commonFrom_93 ?_
          refine wp_istore (L2 := [some (Rv 23), some (Iv x1), some (Iv (if x2 < (M 120 (x1 + (M 25 x5))) then (M 120 (x1 + (M 25 x5))) else x2)), some (Iv (x3 + (M 25 x5))), some (Iv 0), some (Iv x5)]) dX5_commonFrom_94 (Nat.le_of_ble_eq_true rfl) (Nat.le_of_ble_eq_true rfl) rfl ?_
          refine wp_iinc (L2 := [some (Rv 23), some (Iv x1), some (Iv (if x2 < (M 120 (x1 + (M 25 x5))) then (M 120 (x1 + (M 25 x5))) else x2)), some (Iv (x3 + (M 25 x5))), some (Iv 0), some (Iv (x5 + 1))]) dX5_commonFrom_96 rfl (Nat.le_of_ble_eq_true rfl) (Nat.le_of_ble_eq_true rfl) rfl ?_
          refine wp_goto (tgt := 10) dX5_commonFrom_99 (by decide) ?_
          exact h
        · have h := h.2 q26
          refine wp_iconst dX5_commonFrom_89 ?_
          refine wp_goto (tgt := 94) dX5_commonFrom_90 (by decide) ?_
          refine wp_istore (L2 := [some (Rv 23), some (Iv x1), some (Iv (if x2 < (M 120 (x1 + (M 25 x5))) then (M 120 (x1 + (M 25 x5))) else x2)), some (Iv (x3 + (M 25 x5))), some (Iv 1), some (Iv x5)]) dX5_commonFrom_94 (Nat.le_of_ble_eq_true rfl) (Nat.le_of_ble_eq_true rfl) rfl ?_
          refine wp_iinc (L2 := [some (Rv 23), some (Iv x1), some (Iv (if x2 < (M 120 (x1 + (M 25 x5))) then (M 120 (x1 + (M 25 x5))) else x2)), some (Iv (x3 + (M 25 x5))), some (Iv 1), some (Iv (x5 + 1))]) dX5_commonFrom_96 rfl (Nat.le_of_ble_eq_true rfl) (Nat.le_of_ble_eq_true rfl) rfl ?_
          refine wp_goto (tgt := 10) dX5_commonFrom_99 (by decide) ?_
          exact h
    · have h := h.2 q14
      refine wp_iconst dX5_commonFrom_39 ?_
      exact wp_iret dX5_commonFrom_40 rfl (Or.inr ⟨rfl, rfl, rfl, by decide⟩) rfl h
theorem gX5_commonLetter {x1 : Int}  {M : Mem} {Q : Vl → Mem → Prop} (h : wp 0 yX5_commonLetter 2 [some (Rv 23), some (Iv x1), some (Iv 0), none] [] M Q) : wp 0 yX5_commonLetter 0 [some (Rv 23), some (Iv x1), none, none] [] M Q := by
  refine wp_iconst dX5_commonLetter_0 ?_
  refine wp_istore_n (L2 := [some (Rv 23), some (Iv x1), some (Iv 0), none]) dX5_commonLetter_1 (Nat.le_of_ble_eq_true rfl) (Nat.le_of_ble_eq_true rfl) rfl ?_
  exact h
theorem eX5_commonLetter {x1 : Int}  {M : Mem} {Q : Vl → Mem → Prop} (h : wp 0 yX5_commonLetter 2 [some (Rv 23), some (Iv x1), some (Iv 0), none] [] M Q) : cl 0 yX5_commonLetter [Rv 23, Iv x1] M Q := enterG (by decide +kernel) (by exact Or.inr (Or.inl rfl)) (Nat.le_of_ble_eq_true rfl) rfl (gX5_commonLetter h)
theorem gX5_commonLetter_2 {x1 x2 : Int}  {M : Mem} {Q : Vl → Mem → Prop} (h : inr x2 ∧ ((5 ≤ x2 → wp 0 yX5_commonLetter 24 [some (Rv 23), some (Iv x1), some (Iv x2), some (Iv 0)] [] M Q) ∧ (x2 < 5 → cl 0 yX5_leads [Rv 23, Iv x2, Iv x1] M (QI (fun z3 M3 => ((z3 ≠ 0 → wp 0 yX5_commonLetter 24 [some (Rv 23), some (Iv x1), some (Iv x2), some (Iv 0)] [] M3 Q) ∧ (z3 = 0 → wp 0 yX5_commonLetter 2 [some (Rv 23), some (Iv x1), some (Iv (x2 + 1)), none] [] M3 Q))))))) : wp 0 yX5_commonLetter 2 [some (Rv 23), some (Iv x1), some (Iv x2), none] [] M Q := by
  refine wp_iload_n dX5_commonLetter_2 rfl ?_
  refine wp_iconst dX5_commonLetter_3 ?_
  obtain ⟨o1, h⟩ := h
  refine wp_icmp_ge (tgt := 22) dX5_commonLetter_4 (by decide) o1 (by decide) (fun q2 => ?_) (fun q2 => ?_)
  · have h := h.1 q2
    refine wp_iconst dX5_commonLetter_22 ?_
    refine wp_istore_n (L2 := [some (Rv 23), some (Iv x1), some (Iv x2), some (Iv 0)]) dX5_commonLetter_23 (Nat.le_of_ble_eq_true rfl) (Nat.le_of_ble_eq_true rfl) rfl ?_
    exact h
  · have h := h.2 q2
    refine wp_aload_n dX5_commonLetter_7 rfl (by decide) ?_
    refine wp_iload_n dX5_commonLetter_8 rfl ?_
    refine wp_iload_n dX5_commonLetter_9 rfl ?_
    refine wp_callV (e1 := 0) (as := [Iv x2, Iv x1]) (S := []) dX5_commonLetter_10 (cs_X5_65 rfl) kd_23 rfl rfl (Nat.le_of_ble_eq_true rfl) (Nat.le_of_ble_eq_true rfl) h (fun v3 M3 q3 r3 => ?_)
    obtain ⟨z3, rfl, hz3⟩ := retV_z r3 rfl
    have h := q3
    refine wp_if_ne (tgt := 22) dX5_commonLetter_13 (by decide) (by have := hz3; omega) (fun q4 => ?_) (fun q4 => ?_)
    · have h := h.1 q4
      refine wp_iconst dX5_commonLetter_22 ?_
      refine wp_istore_n (L2 := [some (Rv 23), some (Iv x1), some (Iv x2), some (Iv 0)]) dX5_commonLetter_23 (Nat.le_of_ble_eq_true rfl) (Nat.le_of_ble_eq_true rfl) rfl ?_
      exact h
    · have h := h.2 q4
      refine wp_iinc (L2 := [some (Rv 23), some (Iv x1), some (Iv (x2 + 1)), none]) dX5_commonLetter_16 rfl (Nat.le_of_ble_eq_true rfl) (Nat.le_of_ble_eq_true rfl) rfl ?_
      refine wp_goto (tgt := 2) dX5_commonLetter_19 (by decide) ?_
      exact h
theorem gX5_commonLetter_24 {x1 x2 x3 : Int}  {M : Mem} {Q : Vl → Mem → Prop} (h : inr x3 ∧ (inr (M 23 5) ∧ (((M 23 5) ≤ x3 → Q (Iv x2) M) ∧ (x3 < (M 23 5) → cl 0 yX5_behindNext [Rv 23, Iv x3, Iv x2] M (QI (fun z4 M4 => (0 ≤ x3 ∧ (x3 < 4 ∧ (wp 0 yX5_commonLetter 24 [some (Rv 23), some (Iv x1), some (Iv x2), some (Iv (x3 + 1))] [] (up M4 26 x3 z4) Q))))))))) : wp 0 yX5_commonLetter 24 [some (Rv 23), some (Iv x1), some (Iv x2), some (Iv x3)] [] M Q := by
  refine wp_iload_n dX5_commonLetter_24 rfl ?_
  refine wp_aload_n dX5_commonLetter_25 rfl (by decide) ?_
  refine wp_getf (t := Iv (M 23 5)) (M 23 5) dX5_commonLetter_26 (fl_X5_27 rfl) kd_23 rfl rfl ?_
  obtain ⟨o1, h⟩ := h
  obtain ⟨o2, h⟩ := h
  refine wp_icmp_ge (tgt := 50) dX5_commonLetter_29 (by decide) o1 o2 (fun q3 => ?_) (fun q3 => ?_)
  · have h := h.1 q3
    refine wp_iload_n dX5_commonLetter_50 rfl ?_
    exact wp_iret dX5_commonLetter_51 rfl (Or.inr ⟨rfl, rfl, rfl, by decide⟩) rfl h
  · have h := h.2 q3
    refine wp_aload_n dX5_commonLetter_32 rfl (by decide) ?_
    refine wp_getf (t := Rv 26) 26 dX5_commonLetter_33 (fl_X5_21 rfl) kd_23 rfl rfl ?_
    refine wp_iload_n dX5_commonLetter_36 rfl ?_
    refine wp_aload_n dX5_commonLetter_37 rfl (by decide) ?_
    refine wp_iload_n dX5_commonLetter_38 rfl ?_
    refine wp_iload_n dX5_commonLetter_39 rfl ?_
    refine wp_callV (e1 := 0) (as := [Iv x3, Iv x2]) (S := [Iv x3, Rv 26]) dX5_commonLetter_40 (cs_X5_69 rfl) kd_23 rfl rfl (Nat.le_of_ble_eq_true rfl) (Nat.le_of_ble_eq_true rfl) h (fun v4 M4 q4 r4 => ?_)
    obtain ⟨z4, rfl⟩ := retV_i r4 rfl
    have h := q4
    obtain ⟨o5, h⟩ := h
    obtain ⟨o6, h⟩ := h
    refine wp_iast dX5_commonLetter_43 kd_26 sz_26 o5 o6 (⟨by omega, by omega⟩) ?_
    refine wp_iinc (L2 := [some (Rv 23), some (Iv x1), some (Iv x2), some (Iv (x3 + 1))]) dX5_commonLetter_44 rfl (Nat.le_of_ble_eq_true rfl) (Nat.le_of_ble_eq_true rfl) rfl ?_
    refine wp_goto (tgt := 24) dX5_commonLetter_47 (by decide) ?_
    exact h
theorem gX5_behindNext {x1 x2 : Int}  {M : Mem} {Q : Vl → Mem → Prop} (h : 0 ≤ x1 ∧ (x1 < 4 ∧ (wp 0 yX5_behindNext 7 [some (Rv 23), some (Iv x1), some (Iv x2), some (Iv (M 26 x1))] [] M Q))) : wp 0 yX5_behindNext 0 [some (Rv 23), some (Iv x1), some (Iv x2), none] [] M Q := by
  refine wp_aload_n dX5_behindNext_0 rfl (by decide) ?_
  refine wp_getf (t := Rv 26) 26 dX5_behindNext_1 (fl_X5_21 rfl) kd_23 rfl rfl ?_
  refine wp_iload_n dX5_behindNext_4 rfl ?_
  obtain ⟨o1, h⟩ := h
  obtain ⟨o2, h⟩ := h
  refine wp_iald (M 26 x1) dX5_behindNext_5 kd_26 sz_26 o1 o2 (⟨by omega, by omega⟩) rfl ?_
  refine wp_istore_n (L2 := [some (Rv 23), some (Iv x1), some (Iv x2), some (Iv (M 26 x1))]) dX5_behindNext_6 (Nat.le_of_ble_eq_true rfl) (Nat.le_of_ble_eq_true rfl) rfl ?_
  exact h
theorem eX5_behindNext {x1 x2 : Int}  {M : Mem} {Q : Vl → Mem → Prop} (h : 0 ≤ x1 ∧ (x1 < 4 ∧ (wp 0 yX5_behindNext 7 [some (Rv 23), some (Iv x1), some (Iv x2), some (Iv (M 26 x1))] [] M Q))) : cl 0 yX5_behindNext [Rv 23, Iv x1, Iv x2] M Q := enterG (by decide +kernel) (by exact Or.inr (Or.inl rfl)) (Nat.le_of_ble_eq_true rfl) rfl (gX5_behindNext h)
theorem gX5_behindNext_7 {x1 x2 x3 : Int}  {M : Mem} {Q : Vl → Mem → Prop} (h : 0 ≤ x1 ∧ (x1 < 4 ∧ (isL (M 24 x1) 40 ∧ (inr x3 ∧ (inr (M (M 24 x1) 1) ∧ (((M (M 24 x1) 1) ≤ x3 → Q (Iv 0) M) ∧ (x3 < (M (M 24 x1) 1) → 0 ≤ x3 ∧ (x3 < 40 ∧ (((M ((M 24 x1) + 1) x3) = x2 ∨ (inr (M ((M 24 x1) + 1) x3) ∧ inr x2)) ∧ (((M ((M 24 x1) + 1) x3) ≠ x2 → wp 0 yX5_behindNext 7 [some (Rv 23), some (Iv x1), some (Iv x2), some (Iv (x3 + 1))] [] M Q) ∧ ((M ((M 24 x1) + 1) x3) = x2 → Q (Iv (x3 + 1)) M))))))))))) : wp 0 yX5_behindNext 7 [some (Rv 23), some (Iv x1), some (Iv x2), some (Iv x3)] [] M Q := by
  refine wp_iload_n dX5_behindNext_7 rfl ?_
  refine wp_aload_n dX5_behindNext_8 rfl (by decide) ?_
  refine wp_getf (t := Rv 24) 24 dX5_behindNext_9 (fl_X5_11 rfl) kd_23 rfl rfl ?_
  refine wp_iload_n dX5_behindNext_12 rfl ?_
  obtain ⟨o1, h⟩ := h
  obtain ⟨o2, h⟩ := h
  obtain ⟨o3, h⟩ := h
  refine wp_aaldL (M 24 x1) dX5_behindNext_13 kd_24 sz_24 o1 o2 (⟨by omega, by omega⟩) rfl ?_
  refine wp_getf (t := Iv (M (M 24 x1) 1)) (M (M 24 x1) 1) dX5_behindNext_14 (fl_X5_34 rfl) o3.k rfl rfl ?_
  obtain ⟨o4, h⟩ := h
  obtain ⟨o5, h⟩ := h
  refine wp_icmp_ge (tgt := 45) dX5_behindNext_17 (by decide) o4 o5 (fun q6 => ?_) (fun q6 => ?_)
  · have h := h.1 q6
    refine wp_iconst dX5_behindNext_45 ?_
    exact wp_iret dX5_behindNext_46 rfl (Or.inr ⟨rfl, rfl, rfl, by decide⟩) rfl h
  · have h := h.2 q6
    refine wp_aload_n dX5_behindNext_20 rfl (by decide) ?_
    refine wp_getf (t := Rv 24) 24 dX5_behindNext_21 (fl_X5_11 rfl) kd_23 rfl rfl ?_
    refine wp_iload_n dX5_behindNext_24 rfl ?_
    refine wp_aaldL (M 24 x1) dX5_behindNext_25 kd_24 sz_24 o1 o2 (⟨by omega, by omega⟩) rfl ?_
    refine wp_getf (t := Rv ((M 24 x1) + 1)) ((M 24 x1) + 1) dX5_behindNext_26 (fl_X5_72 rfl) o3.k rfl rfl ?_
    refine wp_iload_n dX5_behindNext_29 rfl ?_
    obtain ⟨o7, h⟩ := h
    obtain ⟨o8, h⟩ := h
    refine wp_iald (M ((M 24 x1) + 1) x3) dX5_behindNext_30 o3.a.k o3.a.n o7 o8 (⟨by omega, by omega⟩) rfl ?_
    refine wp_iload_n dX5_behindNext_31 rfl ?_
    obtain ⟨o9, h⟩ := h
    refine wp_icmp_ne (tgt := 39) dX5_behindNext_32 (by decide) o9 (fun q10 => ?_) (fun q10 => ?_)
    · have h := h.1 q10
      refine wp_iinc (L2 := [some (Rv 23), some (Iv x1), some (Iv x2), some (Iv (x3 + 1))]) dX5_behindNext_39 rfl (Nat.le_of_ble_eq_true rfl) (Nat.le_of_ble_eq_true rfl) rfl ?_
      refine wp_goto (tgt := 7) dX5_behindNext_42 (by decide) ?_
      exact h
    · have h := h.2 q10
      refine wp_iload_n dX5_behindNext_35 rfl ?_
      refine wp_iconst dX5_behindNext_36 ?_
      refine wp_iadd dX5_behindNext_37 ?_
      exact wp_iret dX5_behindNext_38 rfl (Or.inr ⟨rfl, rfl, rfl, by decide⟩) rfl h
theorem gX5_leads {x1 x2 : Int}  {M : Mem} {Q : Vl → Mem → Prop} (h : wp 0 yX5_leads 5 [some (Rv 23), some (Iv x1), some (Iv x2), some (Iv 0), some (Iv 0), none] [] M Q) : wp 0 yX5_leads 0 [some (Rv 23), some (Iv x1), some (Iv x2), none, none, none] [] M Q := by
  refine wp_iconst dX5_leads_0 ?_
  refine wp_istore_n (L2 := [some (Rv 23), some (Iv x1), some (Iv x2), some (Iv 0), none, none]) dX5_leads_1 (Nat.le_of_ble_eq_true rfl) (Nat.le_of_ble_eq_true rfl) rfl ?_
  refine wp_iconst dX5_leads_2 ?_
  refine wp_istore (L2 := [some (Rv 23), some (Iv x1), some (Iv x2), some (Iv 0), some (Iv 0), none]) dX5_leads_3 (Nat.le_of_ble_eq_true rfl) (Nat.le_of_ble_eq_true rfl) rfl ?_
  exact h
theorem eX5_leads {x1 x2 : Int}  {M : Mem} {Q : Vl → Mem → Prop} (h : wp 0 yX5_leads 5 [some (Rv 23), some (Iv x1), some (Iv x2), some (Iv 0), some (Iv 0), none] [] M Q) : cl 0 yX5_leads [Rv 23, Iv x1, Iv x2] M Q := enterG (by decide +kernel) (by exact Or.inr (Or.inr (Or.inl rfl))) (Nat.le_of_ble_eq_true rfl) rfl (gX5_leads h)
theorem gX5_leads_5 {x1 x2 x3 x4 : Int}  {M : Mem} {Q : Vl → Mem → Prop} (h : inr x4 ∧ (inr (M 23 5) ∧ (((M 23 5) ≤ x4 → M 23 4 = 120 ∧ (M (-1) 0 = 1 ∧ (0 ≤ x3 ∧ (x3 < 20000 ∧ (((M 120 x3) = x2 ∨ (inr (M 120 x3) ∧ inr x2)) ∧ (((M 120 x3) ≠ x2 → Q (Iv 0) M) ∧ ((M 120 x3) = x2 → Q (Iv 1) M))))))) ∧ (x4 < (M 23 5) → cl 0 yX5_behindNext [Rv 23, Iv x4, Iv x1] M (QI (fun z10 M10 => (inr z10 ∧ ((z10 ≠ 0 → 0 ≤ x4 ∧ (x4 < 4 ∧ (wp 0 yX5_leads 5 [some (Rv 23), some (Iv x1), some (Iv x2), some (Iv (x3 + (z10 * (M10 25 x4)))), some (Iv (x4 + 1)), none] [] M10 Q))) ∧ (z10 = 0 → Q (Iv 0) M10))))))))) : wp 0 yX5_leads 5 [some (Rv 23), some (Iv x1), some (Iv x2), some (Iv x3), some (Iv x4), none] [] M Q := by
  refine wp_iload dX5_leads_5 rfl ?_
  refine wp_aload_n dX5_leads_7 rfl (by decide) ?_
  refine wp_getf (t := Iv (M 23 5)) (M 23 5) dX5_leads_8 (fl_X5_27 rfl) kd_23 rfl rfl ?_
  obtain ⟨o1, h⟩ := h
  obtain ⟨o2, h⟩ := h
  refine wp_icmp_ge (tgt := 49) dX5_leads_11 (by decide) o1 o2 (fun q3 => ?_) (fun q3 => ?_)
  · have h := h.1 q3
    refine wp_aload_n dX5_leads_49 rfl (by decide) ?_
    obtain ⟨o4, h⟩ := h
    refine wp_getf (t := Rv 120) 120 dX5_leads_50 (fl_X5_40 rfl) kd_23 o4 rfl ?_
    refine wp_iload_n dX5_leads_53 rfl ?_
    obtain ⟨o5, h⟩ := h
    obtain ⟨o6, h⟩ := h
    obtain ⟨o7, h⟩ := h
    refine wp_iald (M 120 x3) dX5_leads_54 (kd_120 o5) sz_120 o6 o7 (⟨by omega, by omega⟩) rfl ?_
    refine wp_iload_n dX5_leads_55 rfl ?_
    obtain ⟨o8, h⟩ := h
    refine wp_icmp_ne (tgt := 63) dX5_leads_56 (by decide) o8 (fun q9 => ?_) (fun q9 => ?_)
    · have h := h.1 q9
      refine wp_iconst dX5_leads_63 ?_
      exact wp_zret dX5_leads_64 rfl (Or.inr ⟨rfl, rfl, rfl, by decide⟩) rfl (by decide) h
    · have h := h.2 q9
      refine wp_iconst dX5_leads_59 ?_
      refine wp_goto (tgt := 64) dX5_leads_60 (by decide) ?_
      exact wp_zret dX5_leads_64 rfl (Or.inr ⟨rfl, rfl, rfl, by decide⟩) rfl (by decide) h
  · have h := h.2 q3
    refine wp_aload_n dX5_leads_14 rfl (by decide) ?_
    refine wp_iload dX5_leads_15 rfl ?_
    refine wp_iload_n dX5_leads_17 rfl ?_
    refine wp_callV (e1 := 0) (as := [Iv x4, Iv x1]) (S := []) dX5_leads_18 (cs_X5_69 rfl) kd_23 rfl rfl (Nat.le_of_ble_eq_true rfl) (Nat.le_of_ble_eq_true rfl) h (fun v10 M10 q10 r10 => ?_)
    obtain ⟨z10, rfl⟩ := retV_i r10 rfl
    have h := q10
    refine wp_istore (L2 := [some (Rv 23), some (Iv x1), some (Iv x2), some (Iv x3), some (Iv x4), some (Iv z10)]) dX5_leads_21 (Nat.le_of_ble_eq_true rfl) (Nat.le_of_ble_eq_true rfl) rfl ?_
    refine wp_iload dX5_leads_23 rfl ?_
    obtain ⟨o11, h⟩ := h
    refine wp_if_ne (tgt := 30) dX5_leads_25 (by decide) o11 (fun q12 => ?_) (fun q12 => ?_)
    · have h := h.1 q12
      refine wp_iload_n dX5_leads_30 rfl ?_
      refine wp_iload dX5_leads_31 rfl ?_
      refine wp_aload_n dX5_leads_33 rfl (by decide) ?_
      refine wp_getf (t := Rv 25) 25 dX5_leads_34 (fl_X5_17 rfl) kd_23 rfl rfl ?_
      refine wp_iload dX5_leads_37 rfl ?_
      obtain ⟨o13, h⟩ := h
      obtain ⟨o14, h⟩ := h
      refine wp_iald (M10 25 x4) dX5_leads_39 kd_25 sz_25 o13 o14 (⟨by omega, by omega⟩) rfl ?_
      refine wp_imul dX5_leads_40 ?_
      refine wp_iadd dX5_leads_41 ?_
      refine wp_istore_n (L2 := [some (Rv 23), some (Iv x1), some (Iv x2), some (Iv (x3 + (z10 * (M10 25 x4)))), some (Iv x4), some (Iv z10)]) dX5_leads_42 (Nat.le_of_ble_eq_true rfl) (Nat.le_of_ble_eq_true rfl) rfl ?_
      refine wp_iinc (L2 := [some (Rv 23), some (Iv x1), some (Iv x2), some (Iv (x3 + (z10 * (M10 25 x4)))), some (Iv (x4 + 1)), some (Iv z10)]) dX5_leads_43 rfl (Nat.le_of_ble_eq_true rfl) (Nat.le_of_ble_eq_true rfl) rfl ?_
      refine wp_goto (tgt := 5) dX5_leads_46 (by decide) ?_
      exact wp_weak [true, true, true, true, true, false] rfl h
    · have h := h.2 q12
      refine wp_iconst dX5_leads_28 ?_
      exact wp_zret dX5_leads_29 rfl (Or.inr ⟨rfl, rfl, rfl, by decide⟩) rfl (by decide) h
theorem gX5_shortestCover {a1 : Int} {n1 : Nat} (ha1 : isA a1 n1) {M : Mem} {Q : Vl → Mem → Prop} (h : cl 0 yX5_goToEnd [Rv 23] M (QV (fun M1 => (wp 0 yX5_shortestCover 11 [some (Rv 23), some (Rv a1), some (Iv ((M1 23 6) - 1)), none, none, none] [] M1 Q)))) : wp 0 yX5_shortestCover 0 [some (Rv 23), some (Rv a1), none, none, none, none] [] M Q := by
  refine wp_aload_n dX5_shortestCover_0 rfl (by decide) ?_
  refine wp_callV (e1 := 0) (as := []) (S := []) dX5_shortestCover_1 (cs_X5_37 rfl) kd_23 rfl rfl (Nat.le_of_ble_eq_true rfl) (Nat.le_of_ble_eq_true rfl) h (fun v1 M1 q1 r1 => ?_)
  have h := q1
  refine wp_aload_n dX5_shortestCover_4 rfl (by decide) ?_
  refine wp_getf (t := Iv (M1 23 6)) (M1 23 6) dX5_shortestCover_5 (fl_X5_31 rfl) kd_23 rfl rfl ?_
  refine wp_iconst dX5_shortestCover_8 ?_
  refine wp_isub dX5_shortestCover_9 ?_
  refine wp_istore_n (L2 := [some (Rv 23), some (Rv a1), some (Iv ((M1 23 6) - 1)), none, none, none]) dX5_shortestCover_10 (Nat.le_of_ble_eq_true rfl) (Nat.le_of_ble_eq_true rfl) rfl ?_
  exact h
theorem eX5_shortestCover {a1 : Int} {n1 : Nat} (ha1 : isA a1 n1) {M : Mem} {Q : Vl → Mem → Prop} (h : cl 0 yX5_goToEnd [Rv 23] M (QV (fun M1 => (wp 0 yX5_shortestCover 11 [some (Rv 23), some (Rv a1), some (Iv ((M1 23 6) - 1)), none, none, none] [] M1 Q)))) : cl 0 yX5_shortestCover [Rv 23, Rv a1] M Q := enterG (by decide +kernel) (by exact Or.inr (Or.inl rfl)) (Nat.le_of_ble_eq_true rfl) rfl (gX5_shortestCover ha1 h)
theorem gX5_shortestCover_11 {x2 a1 : Int} {n1 : Nat} (ha1 : isA a1 n1) {M : Mem} {Q : Vl → Mem → Prop} (h : inr x2 ∧ ((x2 < 0 → cl 0 yX5_goToBeginning [Rv 23] M (QV (fun M3 => (M3 23 4 = 120 ∧ (M3 (-1) 0 = 1 ∧ (wp 0 yX5_shortestCover 52 [some (Rv 23), some (Rv a1), some (Iv (M3 120 0)), some (Iv 0), some (Iv 0), none] [] M3 Q)))))) ∧ (0 ≤ x2 → M 23 4 = 120 ∧ (cl 0 yX5_coverFrom [Rv 23, Iv x2] M (QI (fun z7 M7 => (M7 (-1) 0 = 1 ∧ (x2 < 20000 ∧ (cl 0 yX5_stepBack [Rv 23] (up M7 120 x2 z7) (QV (fun M10 => (wp 0 yX5_shortestCover 11 [some (Rv 23), some (Rv a1), some (Iv (x2 + (-1))), none, none, none] [] M10 Q)))))))))))) : wp 0 yX5_shortestCover 11 [some (Rv 23), some (Rv a1), some (Iv x2), none, none, none] [] M Q := by
  refine wp_iload_n dX5_shortestCover_11 rfl ?_
  obtain ⟨o1, h⟩ := h
  refine wp_if_lt (tgt := 36) dX5_shortestCover_12 (by decide) o1 (fun q2 => ?_) (fun q2 => ?_)
  · have h := h.1 q2
    refine wp_aload_n dX5_shortestCover_36 rfl (by decide) ?_
    refine wp_callV (e1 := 0) (as := []) (S := []) dX5_shortestCover_37 (cs_X5_50 rfl) kd_23 rfl rfl (Nat.le_of_ble_eq_true rfl) (Nat.le_of_ble_eq_true rfl) h (fun v3 M3 q3 r3 => ?_)
    have h := q3
    refine wp_aload_n dX5_shortestCover_40 rfl (by decide) ?_
    obtain ⟨o4, h⟩ := h
    refine wp_getf (t := Rv 120) 120 dX5_shortestCover_41 (fl_X5_40 rfl) kd_23 o4 rfl ?_
    refine wp_iconst dX5_shortestCover_44 ?_
    obtain ⟨o5, h⟩ := h
    refine wp_iald (M3 120 0) dX5_shortestCover_45 (kd_120 o5) sz_120 (by decide) (by decide) (by decide) rfl ?_
    refine wp_istore_n (L2 := [some (Rv 23), some (Rv a1), some (Iv (M3 120 0)), none, none, none]) dX5_shortestCover_46 (Nat.le_of_ble_eq_true rfl) (Nat.le_of_ble_eq_true rfl) rfl ?_
    refine wp_iconst dX5_shortestCover_47 ?_
    refine wp_istore_n (L2 := [some (Rv 23), some (Rv a1), some (Iv (M3 120 0)), some (Iv 0), none, none]) dX5_shortestCover_48 (Nat.le_of_ble_eq_true rfl) (Nat.le_of_ble_eq_true rfl) rfl ?_
    refine wp_iconst dX5_shortestCover_49 ?_
    refine wp_istore (L2 := [some (Rv 23), some (Rv a1), some (Iv (M3 120 0)), some (Iv 0), some (Iv 0), none]) dX5_shortestCover_50 (Nat.le_of_ble_eq_true rfl) (Nat.le_of_ble_eq_true rfl) rfl ?_
    exact h
  · have h := h.2 q2
    refine wp_aload_n dX5_shortestCover_15 rfl (by decide) ?_
    obtain ⟨o6, h⟩ := h
    refine wp_getf (t := Rv 120) 120 dX5_shortestCover_16 (fl_X5_40 rfl) kd_23 o6 rfl ?_
    refine wp_iload_n dX5_shortestCover_19 rfl ?_
    refine wp_aload_n dX5_shortestCover_20 rfl (by decide) ?_
    refine wp_iload_n dX5_shortestCover_21 rfl ?_
    refine wp_callV (e1 := 0) (as := [Iv x2]) (S := [Iv x2, Rv 120]) dX5_shortestCover_22 (cs_X5_75 rfl) kd_23 rfl rfl (Nat.le_of_ble_eq_true rfl) (Nat.le_of_ble_eq_true rfl) h (fun v7 M7 q7 r7 => ?_)
    obtain ⟨z7, rfl⟩ := retV_i r7 rfl
    have h := q7
    obtain ⟨o8, h⟩ := h
    obtain ⟨o9, h⟩ := h
    refine wp_iast dX5_shortestCover_25 (kd_120 o8) sz_120 q2 o9 (⟨by omega, by omega⟩) ?_
    refine wp_aload_n dX5_shortestCover_26 rfl (by decide) ?_
    refine wp_callV (e1 := 0) (as := []) (S := []) dX5_shortestCover_27 (cs_X5_47 rfl) kd_23 rfl rfl (Nat.le_of_ble_eq_true rfl) (Nat.le_of_ble_eq_true rfl) h (fun v10 M10 q10 r10 => ?_)
    have h := q10
    refine wp_iinc (L2 := [some (Rv 23), some (Rv a1), some (Iv (x2 + (-1))), none, none, none]) dX5_shortestCover_30 rfl (Nat.le_of_ble_eq_true rfl) (Nat.le_of_ble_eq_true rfl) rfl ?_
    refine wp_goto (tgt := 11) dX5_shortestCover_33 (by decide) ?_
    exact h
theorem gX5_shortestCover_52 {x2 x3 x4 a1 : Int} {n1 : Nat} (ha1 : isA a1 n1) {M : Mem} {Q : Vl → Mem → Prop} (h : inr x4 ∧ (inr x2 ∧ ((x2 ≤ x4 → Q (Iv x2) M) ∧ (x4 < x2 → ((40 ≤ x4 → Q (Iv x2) M) ∧ (x4 < 40 → cl 0 yX5_readHeads [Rv 23] M (QV (fun M5 => (wp 0 yX5_shortestCover 72 [some (Rv 23), some (Rv a1), some (Iv x2), some (Iv x3), some (Iv x4), some (Iv 0)] [] M5 Q))))))))) : wp 0 yX5_shortestCover 52 [some (Rv 23), some (Rv a1), some (Iv x2), some (Iv x3), some (Iv x4), none] [] M Q := by
  refine wp_iload dX5_shortestCover_52 rfl ?_
  refine wp_iload_n dX5_shortestCover_54 rfl ?_
  obtain ⟨o1, h⟩ := h
  obtain ⟨o2, h⟩ := h
  refine wp_icmp_ge (tgt := 122) dX5_shortestCover_55 (by decide) o1 o2 (fun q3 => ?_) (fun q3 => ?_)
  · have h := h.1 q3
    refine wp_iload_n dX5_shortestCover_122 rfl ?_
    exact wp_iret dX5_shortestCover_123 rfl (Or.inr ⟨rfl, rfl, rfl, by decide⟩) rfl h
  · have h := h.2 q3
    refine wp_iload dX5_shortestCover_58 rfl ?_
    refine wp_bipush dX5_shortestCover_60 (by decide) ?_
    refine wp_icmp_ge (tgt := 122) dX5_shortestCover_62 (by decide) o1 (by decide) (fun q4 => ?_) (fun q4 => ?_)
    · have h := h.1 q4
      refine wp_iload_n dX5_shortestCover_122 rfl ?_
      exact wp_iret dX5_shortestCover_123 rfl (Or.inr ⟨rfl, rfl, rfl, by decide⟩) rfl h
    · have h := h.2 q4
      refine wp_aload_n dX5_shortestCover_65 rfl (by decide) ?_
      refine wp_callV (e1 := 0) (as := []) (S := []) dX5_shortestCover_66 (cs_X5_78 rfl) kd_23 rfl rfl (Nat.le_of_ble_eq_true rfl) (Nat.le_of_ble_eq_true rfl) h (fun v5 M5 q5 r5 => ?_)
      have h := q5
      refine wp_iconst dX5_shortestCover_69 ?_
      refine wp_istore (L2 := [some (Rv 23), some (Rv a1), some (Iv x2), some (Iv x3), some (Iv x4), some (Iv 0)]) dX5_shortestCover_70 (Nat.le_of_ble_eq_true rfl) (Nat.le_of_ble_eq_true rfl) rfl ?_
      exact h
theorem gX5_shortestCover_72 {x2 x3 x4 x5 a1 : Int} {n1 : Nat} (ha1 : isA a1 n1) {M : Mem} {Q : Vl → Mem → Prop} (h : inr x5 ∧ ((5 ≤ x5 → 0 ≤ x4 ∧ (x4 < n1 ∧ (inr x4 ∧ (0 ≤ x5 ∧ (x5 < 6 ∧ (cl 0 yX5_goBehind [Rv 23, Iv x5] (up M a1 x4 x5) (QV (fun M8 => (wp 0 yX5_shortestCover 52 [some (Rv 23), some (Rv a1), some (Iv x2), some (Iv (x3 + ((up M a1 x4 x5) 27 x5))), some (Iv (x4 + 1)), none] [] M8 Q))))))))) ∧ (x5 < 5 → cl 0 yX5_coversBy [Rv 23, Iv x3, Iv x5] M (QI (fun z9 M9 => ((z9 ≠ 0 → 0 ≤ x4 ∧ (x4 < n1 ∧ (inr x4 ∧ (0 ≤ x5 ∧ (x5 < 6 ∧ (cl 0 yX5_goBehind [Rv 23, Iv x5] (up M9 a1 x4 x5) (QV (fun M16 => (wp 0 yX5_shortestCover 52 [some (Rv 23), some (Rv a1), some (Iv x2), some (Iv (x3 + ((up M9 a1 x4 x5) 27 x5))), some (Iv (x4 + 1)), none] [] M16 Q))))))))) ∧ (z9 = 0 → wp 0 yX5_shortestCover 72 [some (Rv 23), some (Rv a1), some (Iv x2), some (Iv x3), some (Iv x4), some (Iv (x5 + 1))] [] M9 Q))))))) : wp 0 yX5_shortestCover 72 [some (Rv 23), some (Rv a1), some (Iv x2), some (Iv x3), some (Iv x4), some (Iv x5)] [] M Q := by
  refine wp_iload dX5_shortestCover_72 rfl ?_
  refine wp_iconst dX5_shortestCover_74 ?_
  obtain ⟨o1, h⟩ := h
  refine wp_icmp_ge (tgt := 94) dX5_shortestCover_75 (by decide) o1 (by decide) (fun q2 => ?_) (fun q2 => ?_)
  · have h := h.1 q2
    refine wp_aload_n dX5_shortestCover_94 rfl ha1.p ?_
    refine wp_iload dX5_shortestCover_95 rfl ?_
    refine wp_iload dX5_shortestCover_97 rfl ?_
    obtain ⟨o3, h⟩ := h
    obtain ⟨o4, h⟩ := h
    obtain ⟨o5, h⟩ := h
    refine wp_iast dX5_shortestCover_99 ha1.k ha1.n o3 o4 o5 ?_
    refine wp_iload_n dX5_shortestCover_100 rfl ?_
    refine wp_aload_n dX5_shortestCover_101 rfl (by decide) ?_
    refine wp_getf (t := Rv 27) 27 dX5_shortestCover_102 (fl_X5_24 rfl) kd_23 rfl rfl ?_
    refine wp_iload dX5_shortestCover_105 rfl ?_
    obtain ⟨o6, h⟩ := h
    obtain ⟨o7, h⟩ := h
    refine wp_iald ((up M a1 x4 x5) 27 x5) dX5_shortestCover_107 kd_27 sz_27 o6 o7 (⟨by omega, by omega⟩) rfl ?_
    refine wp_iadd dX5_shortestCover_108 ?_
    refine wp_istore_n (L2 := [some (Rv 23), some (Rv a1), some (Iv x2), some (Iv (x3 + ((up M a1 x4 x5) 27 x5))), some (Iv x4), some (Iv x5)]) dX5_shortestCover_109 (Nat.le_of_ble_eq_true rfl) (Nat.le_of_ble_eq_true rfl) rfl ?_
    refine wp_aload_n dX5_shortestCover_110 rfl (by decide) ?_
    refine wp_iload dX5_shortestCover_111 rfl ?_
    refine wp_callV (e1 := 0) (as := [Iv x5]) (S := []) dX5_shortestCover_113 (cs_X5_84 rfl) kd_23 rfl rfl (Nat.le_of_ble_eq_true rfl) (Nat.le_of_ble_eq_true rfl) h (fun v8 M8 q8 r8 => ?_)
    have h := q8
    refine wp_iinc (L2 := [some (Rv 23), some (Rv a1), some (Iv x2), some (Iv (x3 + ((up M a1 x4 x5) 27 x5))), some (Iv (x4 + 1)), some (Iv x5)]) dX5_shortestCover_116 rfl (Nat.le_of_ble_eq_true rfl) (Nat.le_of_ble_eq_true rfl) rfl ?_
    refine wp_goto (tgt := 52) dX5_shortestCover_119 (by decide) ?_
    exact wp_weak [true, true, true, true, true, false] rfl h
  · have h := h.2 q2
    refine wp_aload_n dX5_shortestCover_78 rfl (by decide) ?_
    refine wp_iload_n dX5_shortestCover_79 rfl ?_
    refine wp_iload dX5_shortestCover_80 rfl ?_
    refine wp_callV (e1 := 0) (as := [Iv x3, Iv x5]) (S := []) dX5_shortestCover_82 (cs_X5_81 rfl) kd_23 rfl rfl (Nat.le_of_ble_eq_true rfl) (Nat.le_of_ble_eq_true rfl) h (fun v9 M9 q9 r9 => ?_)
    obtain ⟨z9, rfl, hz9⟩ := retV_z r9 rfl
    have h := q9
    refine wp_if_ne (tgt := 94) dX5_shortestCover_85 (by decide) (by have := hz9; omega) (fun q10 => ?_) (fun q10 => ?_)
    · have h := h.1 q10
      refine wp_aload_n dX5_shortestCover_94 rfl ha1.p ?_
      refine wp_iload dX5_shortestCover_95 rfl ?_
      refine wp_iload dX5_shortestCover_97 rfl ?_
      obtain ⟨o11, h⟩ := h
      obtain ⟨o12, h⟩ := h
      obtain ⟨o13, h⟩ := h
      refine wp_iast dX5_shortestCover_99 ha1.k ha1.n o11 o12 o13 ?_
      refine wp_iload_n dX5_shortestCover_100 rfl ?_
      refine wp_aload_n dX5_shortestCover_101 rfl (by decide) ?_
      refine wp_getf (t := Rv 27) 27 dX5_shortestCover_102 (fl_X5_24 rfl) kd_23 rfl rfl ?_
      refine wp_iload dX5_shortestCover_105 rfl ?_
      obtain ⟨o14, h⟩ := h
      obtain ⟨o15, h⟩ := h
      refine wp_iald ((up M9 a1 x4 x5) 27 x5) dX5_shortestCover_107 kd_27 sz_27 o14 o15 (⟨by omega, by omega⟩) rfl ?_
      refine wp_iadd dX5_shortestCover_108 ?_
      refine wp_istore_n (L2 := [some (Rv 23), some (Rv a1), some (Iv x2), some (Iv (x3 + ((up M9 a1 x4 x5) 27 x5))), some (Iv x4), some (Iv x5)]) dX5_shortestCover_109 (Nat.le_of_ble_eq_true rfl) (Nat.le_of_ble_eq_true rfl) rfl ?_
      refine wp_aload_n dX5_shortestCover_110 rfl (by decide) ?_
      refine wp_iload dX5_shortestCover_111 rfl ?_
      refine wp_callV (e1 := 0) (as := [Iv x5]) (S := []) dX5_shortestCover_113 (cs_X5_84 rfl) kd_23 rfl rfl (Nat.le_of_ble_eq_true rfl) (Nat.le_of_ble_eq_true rfl) h (fun v16 M16 q16 r16 => ?_)
      have h := q16
      refine wp_iinc (L2 := [some (Rv 23), some (Rv a1), some (Iv x2), some (Iv (x3 + ((up M9 a1 x4 x5) 27 x5))), some (Iv (x4 + 1)), some (Iv x5)]) dX5_shortestCover_116 rfl (Nat.le_of_ble_eq_true rfl) (Nat.le_of_ble_eq_true rfl) rfl ?_
      refine wp_goto (tgt := 52) dX5_shortestCover_119 (by decide) ?_
      exact wp_weak [true, true, true, true, true, false] rfl h
    · have h := h.2 q10
      refine wp_iinc (L2 := [some (Rv 23), some (Rv a1), some (Iv x2), some (Iv x3), some (Iv x4), some (Iv (x5 + 1))]) dX5_shortestCover_88 rfl (Nat.le_of_ble_eq_true rfl) (Nat.le_of_ble_eq_true rfl) rfl ?_
      refine wp_goto (tgt := 72) dX5_shortestCover_91 (by decide) ?_
      exact h
theorem gX5_coversBy {x1 x2 : Int}  {M : Mem} {Q : Vl → Mem → Prop} (h : 0 ≤ x2 ∧ (x2 < 6 ∧ (inr (M 27 x2) ∧ (((M 27 x2) ≤ 0 → Q (Iv 0) M) ∧ (0 < (M 27 x2) → M 23 4 = 120 ∧ (M (-1) 0 = 1 ∧ (0 ≤ x1 + (M 27 x2) ∧ (x1 + (M 27 x2) < 20000 ∧ (0 ≤ x1 ∧ (x1 < 20000 ∧ (((M 120 (x1 + (M 27 x2))) = ((M 120 x1) - 1) ∨ (inr (M 120 (x1 + (M 27 x2))) ∧ inr ((M 120 x1) - 1))) ∧ (((M 120 (x1 + (M 27 x2))) ≠ ((M 120 x1) - 1) → Q (Iv 0) M) ∧ ((M 120 (x1 + (M 27 x2))) = ((M 120 x1) - 1) → Q (Iv 1) M))))))))))))) : wp 0 yX5_coversBy 0 [some (Rv 23), some (Iv x1), some (Iv x2)] [] M Q := by
  refine wp_aload_n dX5_coversBy_0 rfl (by decide) ?_
  refine wp_getf (t := Rv 27) 27 dX5_coversBy_1 (fl_X5_24 rfl) kd_23 rfl rfl ?_
  refine wp_iload_n dX5_coversBy_4 rfl ?_
  obtain ⟨o1, h⟩ := h
  obtain ⟨o2, h⟩ := h
  refine wp_iald (M 27 x2) dX5_coversBy_5 kd_27 sz_27 o1 o2 (⟨by omega, by omega⟩) rfl ?_
  obtain ⟨o3, h⟩ := h
  refine wp_if_le (tgt := 37) dX5_coversBy_6 (by decide) o3 (fun q4 => ?_) (fun q4 => ?_)
  · have h := h.1 q4
    refine wp_iconst dX5_coversBy_37 ?_
    exact wp_zret dX5_coversBy_38 rfl (Or.inr ⟨rfl, rfl, rfl, by decide⟩) rfl (by decide) h
  · have h := h.2 q4
    refine wp_aload_n dX5_coversBy_9 rfl (by decide) ?_
    obtain ⟨o5, h⟩ := h
    refine wp_getf (t := Rv 120) 120 dX5_coversBy_10 (fl_X5_40 rfl) kd_23 o5 rfl ?_
    refine wp_iload_n dX5_coversBy_13 rfl ?_
    refine wp_aload_n dX5_coversBy_14 rfl (by decide) ?_
    refine wp_getf (t := Rv 27) 27 dX5_coversBy_15 (fl_X5_24 rfl) kd_23 rfl rfl ?_
    refine wp_iload_n dX5_coversBy_18 rfl ?_
    refine wp_iald (M 27 x2) dX5_coversBy_19 kd_27 sz_27 o1 o2 (⟨by omega, by omega⟩) rfl ?_
    refine wp_iadd dX5_coversBy_20 ?_
    obtain ⟨o6, h⟩ := h
    obtain ⟨o7, h⟩ := h
    obtain ⟨o8, h⟩ := h
    refine wp_iald (M 120 (x1 + (M 27 x2))) dX5_coversBy_21 (kd_120 o6) sz_120 o7 o8 (⟨by omega, by omega⟩) rfl ?_
    refine wp_aload_n dX5_coversBy_22 rfl (by decide) ?_
    refine wp_getf (t := Rv 120) 120 dX5_coversBy_23 (fl_X5_40 rfl) kd_23 o5 rfl ?_
    refine wp_iload_n dX5_coversBy_26 rfl ?_
    obtain ⟨o9, h⟩ := h
    obtain ⟨o10, h⟩ := h
    refine wp_iald (M 120 x1) dX5_coversBy_27 (kd_120 o6) sz_120 o9 o10 (⟨by omega, by omega⟩) rfl ?_
    refine wp_iconst dX5_coversBy_28 ?_
    refine wp_isub dX5_coversBy_29 ?_
    obtain ⟨o11, h⟩ := h
    refine wp_icmp_ne (tgt := 37) dX5_coversBy_30 (by decide) o11 (fun q12 => ?_) (fun q12 => ?_)
    · have h := h.1 q12
      refine wp_iconst dX5_coversBy_37 ?_
      exact wp_zret dX5_coversBy_38 rfl (Or.inr ⟨rfl, rfl, rfl, by decide⟩) rfl (by decide) h
    · have h := h.2 q12
      refine wp_iconst dX5_coversBy_33 ?_
      refine wp_goto (tgt := 38) dX5_coversBy_34 (by decide) ?_
      exact wp_zret dX5_coversBy_38 rfl (Or.inr ⟨rfl, rfl, rfl, by decide⟩) rfl (by decide) h
theorem eX5_coversBy {x1 x2 : Int}  {M : Mem} {Q : Vl → Mem → Prop} (h : 0 ≤ x2 ∧ (x2 < 6 ∧ (inr (M 27 x2) ∧ (((M 27 x2) ≤ 0 → Q (Iv 0) M) ∧ (0 < (M 27 x2) → M 23 4 = 120 ∧ (M (-1) 0 = 1 ∧ (0 ≤ x1 + (M 27 x2) ∧ (x1 + (M 27 x2) < 20000 ∧ (0 ≤ x1 ∧ (x1 < 20000 ∧ (((M 120 (x1 + (M 27 x2))) = ((M 120 x1) - 1) ∨ (inr (M 120 (x1 + (M 27 x2))) ∧ inr ((M 120 x1) - 1))) ∧ (((M 120 (x1 + (M 27 x2))) ≠ ((M 120 x1) - 1) → Q (Iv 0) M) ∧ ((M 120 (x1 + (M 27 x2))) = ((M 120 x1) - 1) → Q (Iv 1) M))))))))))))) : cl 0 yX5_coversBy [Rv 23, Iv x1, Iv x2] M Q := enterG (by decide +kernel) (by exact Or.inr (Or.inr (Or.inl rfl))) (Nat.le_of_ble_eq_true rfl) rfl (gX5_coversBy h)
theorem gX5_coverFrom {x1 : Int}  {M : Mem} {Q : Vl → Mem → Prop} (h : cl 0 yX5_readHeads [Rv 23] M (QV (fun M1 => (wp 0 yX5_coverFrom 8 [some (Rv 23), some (Iv x1), some (Iv 0), some (Iv 0), none] [] M1 Q)))) : wp 0 yX5_coverFrom 0 [some (Rv 23), some (Iv x1), none, none, none] [] M Q := by
  refine wp_aload_n dX5_coverFrom_0 rfl (by decide) ?_
  refine wp_callV (e1 := 0) (as := []) (S := []) dX5_coverFrom_1 (cs_X5_78 rfl) kd_23 rfl rfl (Nat.le_of_ble_eq_true rfl) (Nat.le_of_ble_eq_true rfl) h (fun v1 M1 q1 r1 => ?_)
  have h := q1
  refine wp_iconst dX5_coverFrom_4 ?_
  refine wp_istore_n (L2 := [some (Rv 23), some (Iv x1), some (Iv 0), none, none]) dX5_coverFrom_5 (Nat.le_of_ble_eq_true rfl) (Nat.le_of_ble_eq_true rfl) rfl ?_
  refine wp_iconst dX5_coverFrom_6 ?_
  refine wp_istore_n (L2 := [some (Rv 23), some (Iv x1), some (Iv 0), some (Iv 0), none]) dX5_coverFrom_7 (Nat.le_of_ble_eq_true rfl) (Nat.le_of_ble_eq_true rfl) rfl ?_
  exact h
theorem eX5_coverFrom {x1 : Int}  {M : Mem} {Q : Vl → Mem → Prop} (h : cl 0 yX5_readHeads [Rv 23] M (QV (fun M1 => (wp 0 yX5_coverFrom 8 [some (Rv 23), some (Iv x1), some (Iv 0), some (Iv 0), none] [] M1 Q)))) : cl 0 yX5_coverFrom [Rv 23, Iv x1] M Q := enterG (by decide +kernel) (by exact Or.inr (Or.inl rfl)) (Nat.le_of_ble_eq_true rfl) rfl (gX5_coverFrom h)
theorem gX5_coverFrom_8 {x1 x2 x3 : Int}  {M : Mem} {Q : Vl → Mem → Prop} (h : inr x3 ∧ (inr (M 23 5) ∧ (((M 23 5) ≤ x3 → Q (Iv x2) M) ∧ (x3 < (M 23 5) → 0 ≤ x3 ∧ (x3 < 4 ∧ (isL (M 24 x3) 40 ∧ (inr (M 26 x3) ∧ (inr (M (M 24 x3) 1) ∧ (((M (M 24 x3) 1) ≤ (M 26 x3) → wp 0 yX5_coverFrom 8 [some (Rv 23), some (Iv x1), some (Iv x2), some (Iv (x3 + 1)), none] [] M Q) ∧ ((M 26 x3) < (M (M 24 x3) 1) → M 23 4 = 120 ∧ (cl 0 yX5_head [Rv 23, Iv x3] M (QI (fun z11 M11 => (0 ≤ z11 ∧ (z11 < 6 ∧ (M11 (-1) 0 = 1 ∧ (0 ≤ x1 + (M11 27 z11) ∧ (x1 + (M11 27 z11) < 20000 ∧ (inr x2 ∧ ((x2 ≠ 0 → inr (1 + (M11 120 (x1 + (M11 27 z11)))) ∧ (wp 0 yX5_coverFrom 8 [some (Rv 23), some (Iv x1), some (Iv (if (1 + (M11 120 (x1 + (M11 27 z11)))) < x2 then (1 + (M11 120 (x1 + (M11 27 z11)))) else x2)), some (Iv (x3 + 1)), none] [] M11 Q)) ∧ (x2 = 0 → wp 0 yX5_coverFrom 8 [some (Rv 23), some (Iv x1), some (Iv (1 + (M11 120 (x1 + (M11 27 z11))))), some (Iv (x3 + 1)), none] [] M11 Q))))))))))))))))))))) : wp 0 yX5_coverFrom 8 [some (Rv 23), some (Iv x1), some (Iv x2), some (Iv x3), none] [] M Q := by
  refine wp_iload_n dX5_coverFrom_8 rfl ?_
  refine wp_aload_n dX5_coverFrom_9 rfl (by decide) ?_
  refine wp_getf (t := Iv (M 23 5)) (M 23 5) dX5_coverFrom_10 (fl_X5_27 rfl) kd_23 rfl rfl ?_
  obtain ⟨o1, h⟩ := h
  obtain ⟨o2, h⟩ := h
  refine wp_icmp_ge (tgt := 77) dX5_coverFrom_13 (by decide) o1 o2 (fun q3 => ?_) (fun q3 => ?_)
  · have h := h.1 q3
    refine wp_iload_n dX5_coverFrom_77 rfl ?_
    exact wp_iret dX5_coverFrom_78 rfl (Or.inr ⟨rfl, rfl, rfl, by decide⟩) rfl h
  · have h := h.2 q3
    refine wp_aload_n dX5_coverFrom_16 rfl (by decide) ?_
    refine wp_getf (t := Rv 26) 26 dX5_coverFrom_17 (fl_X5_21 rfl) kd_23 rfl rfl ?_
    refine wp_iload_n dX5_coverFrom_20 rfl ?_
    obtain ⟨o4, h⟩ := h
    obtain ⟨o5, h⟩ := h
    refine wp_iald (M 26 x3) dX5_coverFrom_21 kd_26 sz_26 o4 o5 (⟨by omega, by omega⟩) rfl ?_
    refine wp_aload_n dX5_coverFrom_22 rfl (by decide) ?_
    refine wp_getf (t := Rv 24) 24 dX5_coverFrom_23 (fl_X5_11 rfl) kd_23 rfl rfl ?_
    refine wp_iload_n dX5_coverFrom_26 rfl ?_
    obtain ⟨o6, h⟩ := h
    refine wp_aaldL (M 24 x3) dX5_coverFrom_27 kd_24 sz_24 o4 o5 (⟨by omega, by omega⟩) rfl ?_
    refine wp_getf (t := Iv (M (M 24 x3) 1)) (M (M 24 x3) 1) dX5_coverFrom_28 (fl_X5_34 rfl) o6.k rfl rfl ?_
    obtain ⟨o7, h⟩ := h
    obtain ⟨o8, h⟩ := h
    refine wp_icmp_ge (tgt := 71) dX5_coverFrom_31 (by decide) o7 o8 (fun q9 => ?_) (fun q9 => ?_)
    · have h := h.1 q9
      refine wp_iinc (L2 := [some (Rv 23), some (Iv x1), some (Iv x2), some (Iv (x3 + 1)), none]) dX5_coverFrom_71 rfl (Nat.le_of_ble_eq_true rfl) (Nat.le_of_ble_eq_true rfl) rfl ?_
      refine wp_goto (tgt := 8) dX5_coverFrom_74 (by decide) ?_
      exact h
    · have h := h.2 q9
      refine wp_iconst dX5_coverFrom_34 ?_
      refine wp_aload_n dX5_coverFrom_35 rfl (by decide) ?_
      obtain ⟨o10, h⟩ := h
      refine wp_getf (t := Rv 120) 120 dX5_coverFrom_36 (fl_X5_40 rfl) kd_23 o10 rfl ?_
      refine wp_iload_n dX5_coverFrom_39 rfl ?_
      refine wp_aload_n dX5_coverFrom_40 rfl (by decide) ?_
      refine wp_getf (t := Rv 27) 27 dX5_coverFrom_41 (fl_X5_24 rfl) kd_23 rfl rfl ?_
      refine wp_aload_n dX5_coverFrom_44 rfl (by decide) ?_
      refine wp_iload_n dX5_coverFrom_45 rfl ?_
      refine wp_callV (e1 := 0) (as := [Iv x3]) (S := [Rv 27, Iv x1, Rv 120, Iv 1]) dX5_coverFrom_46 (cs_X5_62 rfl) kd_23 rfl rfl (Nat.le_of_ble_eq_true rfl) (Nat.le_of_ble_eq_true rfl) h (fun v11 M11 q11 r11 => ?_)
      obtain ⟨z11, rfl⟩ := retV_i r11 rfl
      have h := q11
      obtain ⟨o12, h⟩ := h
      obtain ⟨o13, h⟩ := h
      refine wp_iald (M11 27 z11) dX5_coverFrom_49 kd_27 sz_27 o12 o13 (⟨by omega, by omega⟩) rfl ?_
      refine wp_iadd dX5_coverFrom_50 ?_
      obtain ⟨o14, h⟩ := h
      obtain ⟨o15, h⟩ := h
      obtain ⟨o16, h⟩ := h
      refine wp_iald (M11 120 (x1 + (M11 27 z11))) dX5_coverFrom_51 (kd_120 o14) sz_120 o15 o16 (⟨by omega, by omega⟩) rfl ?_
      refine wp_iadd dX5_coverFrom_52 ?_
      refine wp_istore (L2 := [some (Rv 23), some (Iv x1), some (Iv x2), some (Iv x3), some (Iv (1 + (M11 120 (x1 + (M11 27 z11)))))]) dX5_coverFrom_53 (Nat.le_of_ble_eq_true rfl) (Nat.le_of_ble_eq_true rfl) rfl ?_
      refine wp_iload_n dX5_coverFrom_55 rfl ?_
      obtain ⟨o17, h⟩ := h
      refine wp_if_ne (tgt := 64) dX5_coverFrom_56 (by decide) o17 (fun q18 => ?_) (fun q18 => ?_)
      · have h := h.1 q18
        refine wp_iload_n dX5_coverFrom_64 rfl ?_
        refine wp_iload dX5_coverFrom_65 rfl ?_
        obtain ⟨o19, h⟩ := h
        refine wp_mmin dX5_coverFrom_67 (ml_X5_88 rfl) o17 o19 (Nat.le_of_ble_eq_true rfl) (by decide) (by decide) ?_
        refine wp_istore_n (L2 := [some (Rv 23), some (Iv x1), some (Iv (if (1 + (M11 120 (x1 + (M11 27 z11)))) < x2 then (1 + (M11 120 (x1 + (M11 27 z11)))) else x2)), some (Iv x3), some (Iv (1 + (M11 120 (x1 + (M11 27 z11)))))]) dX5_coverFrom_70 (Nat.le_of_ble_eq_true rfl) (Nat.le_of_ble_eq_true rfl) rfl ?_
        refine wp_iinc (L2 := [some (Rv 23), some (Iv x1), some (Iv (if (1 + (M11 120 (x1 + (M11 27 z11)))) < x2 then (1 + (M11 120 (x1 + (M11 27 z11)))) else x2)), some (Iv (x3 + 1)), some (Iv (1 + (M11 120 (x1 + (M11 27 z11)))))]) dX5_coverFrom_71 rfl (Nat.le_of_ble_eq_true rfl) (Nat.le_of_ble_eq_true rfl) rfl ?_
        refine wp_goto (tgt := 8) dX5_coverFrom_74 (by decide) ?_
        exact wp_weak [true, true, true, true, false] rfl h
      · have h := h.2 q18
        refine wp_iload dX5_coverFrom_59 rfl ?_
        refine wp_goto (tgt := 70) dX5_coverFrom_61 (by decide) ?_
        refine wp_istore_n (L2 := [some (Rv 23), some (Iv x1), some (Iv (1 + (M11 120 (x1 + (M11 27 z11))))), some (Iv x3), some (Iv (1 + (M11 120 (x1 + (M11 27 z11)))))]) dX5_coverFrom_70 (Nat.le_of_ble_eq_true rfl) (Nat.le_of_ble_eq_true rfl) rfl ?_
        refine wp_iinc (L2 := [some (Rv 23), some (Iv x1), some (Iv (1 + (M11 120 (x1 + (M11 27 z11))))), some (Iv (x3 + 1)), some (Iv (1 + (M11 120 (x1 + (M11 27 z11)))))]) dX5_coverFrom_71 rfl (Nat.le_of_ble_eq_true rfl) (Nat.le_of_ble_eq_true rfl) rfl ?_
        refine wp_goto (tgt := 8) dX5_coverFrom_74 (by decide) ?_
        exact wp_weak [true, true, true, true, false] rfl h
theorem gX5_readHeads  {M : Mem} {Q : Vl → Mem → Prop} (h : wp 0 yX5_readHeads 2 [some (Rv 23), some (Iv 0)] [] M Q) : wp 0 yX5_readHeads 0 [some (Rv 23), none] [] M Q := by
  refine wp_iconst dX5_readHeads_0 ?_
  refine wp_istore_n (L2 := [some (Rv 23), some (Iv 0)]) dX5_readHeads_1 (Nat.le_of_ble_eq_true rfl) (Nat.le_of_ble_eq_true rfl) rfl ?_
  exact h
theorem eX5_readHeads  {M : Mem} {Q : Vl → Mem → Prop} (h : wp 0 yX5_readHeads 2 [some (Rv 23), some (Iv 0)] [] M Q) : cl 0 yX5_readHeads [Rv 23] M Q := enterG (by decide +kernel) (by exact Or.inl rfl) (Nat.le_of_ble_eq_true rfl) rfl (gX5_readHeads h)
theorem gX5_readHeads_2 {x1 : Int}  {M : Mem} {Q : Vl → Mem → Prop} (h : inr x1 ∧ ((6 ≤ x1 → wp 0 yX5_readHeads 23 [some (Rv 23), some (Iv 0)] [] M Q) ∧ (x1 < 6 → 0 ≤ x1 ∧ (wp 0 yX5_readHeads 2 [some (Rv 23), some (Iv (x1 + 1))] [] (up M 27 x1 0) Q)))) : wp 0 yX5_readHeads 2 [some (Rv 23), some (Iv x1)] [] M Q := by
  refine wp_iload_n dX5_readHeads_2 rfl ?_
  refine wp_bipush dX5_readHeads_3 (by decide) ?_
  obtain ⟨o1, h⟩ := h
  refine wp_icmp_ge (tgt := 21) dX5_readHeads_5 (by decide) o1 (by decide) (fun q2 => ?_) (fun q2 => ?_)
  · have h := h.1 q2
    refine wp_iconst dX5_readHeads_21 ?_
    refine wp_istore_n (L2 := [some (Rv 23), some (Iv 0)]) dX5_readHeads_22 (Nat.le_of_ble_eq_true rfl) (Nat.le_of_ble_eq_true rfl) rfl ?_
    exact h
  · have h := h.2 q2
    refine wp_aload_n dX5_readHeads_8 rfl (by decide) ?_
    refine wp_getf (t := Rv 27) 27 dX5_readHeads_9 (fl_X5_24 rfl) kd_23 rfl rfl ?_
    refine wp_iload_n dX5_readHeads_12 rfl ?_
    refine wp_iconst dX5_readHeads_13 ?_
    obtain ⟨o3, h⟩ := h
    refine wp_iast dX5_readHeads_14 kd_27 sz_27 o3 q2 (⟨by omega, by omega⟩) ?_
    refine wp_iinc (L2 := [some (Rv 23), some (Iv (x1 + 1))]) dX5_readHeads_15 rfl (Nat.le_of_ble_eq_true rfl) (Nat.le_of_ble_eq_true rfl) rfl ?_
    refine wp_goto (tgt := 2) dX5_readHeads_18 (by decide) ?_
    exact h
theorem gX5_readHeads_23 {x1 : Int}  {M : Mem} {Q : Vl → Mem → Prop} (h : inr x1 ∧ (inr (M 23 5) ∧ (((M 23 5) ≤ x1 → Q (Iv 0) M) ∧ (x1 < (M 23 5) → 0 ≤ x1 ∧ (x1 < 4 ∧ (isL (M 24 x1) 40 ∧ (inr (M 26 x1) ∧ (inr (M (M 24 x1) 1) ∧ (((M (M 24 x1) 1) ≤ (M 26 x1) → wp 0 yX5_readHeads 23 [some (Rv 23), some (Iv (x1 + 1))] [] M Q) ∧ ((M 26 x1) < (M (M 24 x1) 1) → cl 0 yX5_head [Rv 23, Iv x1] M (QI (fun z10 M10 => (0 ≤ z10 ∧ (z10 < 6 ∧ (wp 0 yX5_readHeads 23 [some (Rv 23), some (Iv (x1 + 1))] [] (up M10 27 z10 ((M10 27 z10) + (M10 25 x1))) Q))))))))))))))) : wp 0 yX5_readHeads 23 [some (Rv 23), some (Iv x1)] [] M Q := by
  refine wp_iload_n dX5_readHeads_23 rfl ?_
  refine wp_aload_n dX5_readHeads_24 rfl (by decide) ?_
  refine wp_getf (t := Iv (M 23 5)) (M 23 5) dX5_readHeads_25 (fl_X5_27 rfl) kd_23 rfl rfl ?_
  obtain ⟨o1, h⟩ := h
  obtain ⟨o2, h⟩ := h
  refine wp_icmp_ge (tgt := 74) dX5_readHeads_28 (by decide) o1 o2 (fun q3 => ?_) (fun q3 => ?_)
  · have h := h.1 q3
    exact wp_vret dX5_readHeads_74 rfl (Or.inr ⟨rfl, rfl, rfl, by decide⟩) rfl h
  · have h := h.2 q3
    refine wp_aload_n dX5_readHeads_31 rfl (by decide) ?_
    refine wp_getf (t := Rv 26) 26 dX5_readHeads_32 (fl_X5_21 rfl) kd_23 rfl rfl ?_
    refine wp_iload_n dX5_readHeads_35 rfl ?_
    obtain ⟨o4, h⟩ := h
    obtain ⟨o5, h⟩ := h
    refine wp_iald (M 26 x1) dX5_readHeads_36 kd_26 sz_26 o4 o5 (⟨by omega, by omega⟩) rfl ?_
    refine wp_aload_n dX5_readHeads_37 rfl (by decide) ?_
    refine wp_getf (t := Rv 24) 24 dX5_readHeads_38 (fl_X5_11 rfl) kd_23 rfl rfl ?_
    refine wp_iload_n dX5_readHeads_41 rfl ?_
    obtain ⟨o6, h⟩ := h
    refine wp_aaldL (M 24 x1) dX5_readHeads_42 kd_24 sz_24 o4 o5 (⟨by omega, by omega⟩) rfl ?_
    refine wp_getf (t := Iv (M (M 24 x1) 1)) (M (M 24 x1) 1) dX5_readHeads_43 (fl_X5_34 rfl) o6.k rfl rfl ?_
    obtain ⟨o7, h⟩ := h
    obtain ⟨o8, h⟩ := h
    refine wp_icmp_ge (tgt := 68) dX5_readHeads_46 (by decide) o7 o8 (fun q9 => ?_) (fun q9 => ?_)
    · have h := h.1 q9
      refine wp_iinc (L2 := [some (Rv 23), some (Iv (x1 + 1))]) dX5_readHeads_68 rfl (Nat.le_of_ble_eq_true rfl) (Nat.le_of_ble_eq_true rfl) rfl ?_
      refine wp_goto (tgt := 23) dX5_readHeads_71 (by decide) ?_
      exact h
    · have h := h.2 q9
      refine wp_aload_n dX5_readHeads_49 rfl (by decide) ?_
      refine wp_getf (t := Rv 27) 27 dX5_readHeads_50 (fl_X5_24 rfl) kd_23 rfl rfl ?_
      refine wp_aload_n dX5_readHeads_53 rfl (by decide) ?_
      refine wp_iload_n dX5_readHeads_54 rfl ?_
      refine wp_callV (e1 := 0) (as := [Iv x1]) (S := [Rv 27]) dX5_readHeads_55 (cs_X5_62 rfl) kd_23 rfl rfl (Nat.le_of_ble_eq_true rfl) (Nat.le_of_ble_eq_true rfl) h (fun v10 M10 q10 r10 => ?_)
      obtain ⟨z10, rfl⟩ := retV_i r10 rfl
      have h := q10
      refine wp_dup2 dX5_readHeads_58 rfl rfl ?_
      obtain ⟨o11, h⟩ := h
      obtain ⟨o12, h⟩ := h
      refine wp_iald (M10 27 z10) dX5_readHeads_59 kd_27 sz_27 o11 o12 (⟨by omega, by omega⟩) rfl ?_
      refine wp_aload_n dX5_readHeads_60 rfl (by decide) ?_
      refine wp_getf (t := Rv 25) 25 dX5_readHeads_61 (fl_X5_17 rfl) kd_23 rfl rfl ?_
      refine wp_iload_n dX5_readHeads_64 rfl ?_
      refine wp_iald (M10 25 x1) dX5_readHeads_65 kd_25 sz_25 o4 o5 (⟨by omega, by omega⟩) rfl ?_
      refine wp_iadd dX5_readHeads_66 ?_
      refine wp_iast dX5_readHeads_67 kd_27 sz_27 o11 o12 (⟨by omega, by omega⟩) ?_
      refine wp_iinc (L2 := [some (Rv 23), some (Iv (x1 + 1))]) dX5_readHeads_68 rfl (Nat.le_of_ble_eq_true rfl) (Nat.le_of_ble_eq_true rfl) rfl ?_
      refine wp_goto (tgt := 23) dX5_readHeads_71 (by decide) ?_
      exact h
theorem gX5_goBehind {x1 : Int}  {M : Mem} {Q : Vl → Mem → Prop} (h : wp 0 yX5_goBehind 2 [some (Rv 23), some (Iv x1), some (Iv 0)] [] M Q) : wp 0 yX5_goBehind 0 [some (Rv 23), some (Iv x1), none] [] M Q := by
  refine wp_iconst dX5_goBehind_0 ?_
  refine wp_istore_n (L2 := [some (Rv 23), some (Iv x1), some (Iv 0)]) dX5_goBehind_1 (Nat.le_of_ble_eq_true rfl) (Nat.le_of_ble_eq_true rfl) rfl ?_
  exact h
theorem eX5_goBehind {x1 : Int}  {M : Mem} {Q : Vl → Mem → Prop} (h : wp 0 yX5_goBehind 2 [some (Rv 23), some (Iv x1), some (Iv 0)] [] M Q) : cl 0 yX5_goBehind [Rv 23, Iv x1] M Q := enterG (by decide +kernel) (by exact Or.inl rfl) (Nat.le_of_ble_eq_true rfl) rfl (gX5_goBehind h)
theorem gX5_goBehind_2 {x1 x2 : Int}  {M : Mem} {Q : Vl → Mem → Prop} (h : inr x2 ∧ (inr (M 23 5) ∧ (((M 23 5) ≤ x2 → Q (Iv 0) M) ∧ (x2 < (M 23 5) → 0 ≤ x2 ∧ (x2 < 4 ∧ (isL (M 24 x2) 40 ∧ (inr (M 26 x2) ∧ (inr (M (M 24 x2) 1) ∧ (((M (M 24 x2) 1) ≤ (M 26 x2) → wp 0 yX5_goBehind 2 [some (Rv 23), some (Iv x1), some (Iv (x2 + 1))] [] M Q) ∧ ((M 26 x2) < (M (M 24 x2) 1) → cl 0 yX5_head [Rv 23, Iv x2] M (QI (fun z10 M10 => ((z10 = x1 ∨ (inr z10 ∧ inr x1)) ∧ ((z10 ≠ x1 → wp 0 yX5_goBehind 2 [some (Rv 23), some (Iv x1), some (Iv (x2 + 1))] [] M10 Q) ∧ (z10 = x1 → wp 0 yX5_goBehind 2 [some (Rv 23), some (Iv x1), some (Iv (x2 + 1))] [] (up M10 26 x2 ((M10 26 x2) + 1)) Q))))))))))))))) : wp 0 yX5_goBehind 2 [some (Rv 23), some (Iv x1), some (Iv x2)] [] M Q := by
  refine wp_iload_n dX5_goBehind_2 rfl ?_
  refine wp_aload_n dX5_goBehind_3 rfl (by decide) ?_
  refine wp_getf (t := Iv (M 23 5)) (M 23 5) dX5_goBehind_4 (fl_X5_27 rfl) kd_23 rfl rfl ?_
  obtain ⟨o1, h⟩ := h
  obtain ⟨o2, h⟩ := h
  refine wp_icmp_ge (tgt := 53) dX5_goBehind_7 (by decide) o1 o2 (fun q3 => ?_) (fun q3 => ?_)
  · have h := h.1 q3
    exact wp_vret dX5_goBehind_53 rfl (Or.inr ⟨rfl, rfl, rfl, by decide⟩) rfl h
  · have h := h.2 q3
    refine wp_aload_n dX5_goBehind_10 rfl (by decide) ?_
    refine wp_getf (t := Rv 26) 26 dX5_goBehind_11 (fl_X5_21 rfl) kd_23 rfl rfl ?_
    refine wp_iload_n dX5_goBehind_14 rfl ?_
    obtain ⟨o4, h⟩ := h
    obtain ⟨o5, h⟩ := h
    refine wp_iald (M 26 x2) dX5_goBehind_15 kd_26 sz_26 o4 o5 (⟨by omega, by omega⟩) rfl ?_
    refine wp_aload_n dX5_goBehind_16 rfl (by decide) ?_
    refine wp_getf (t := Rv 24) 24 dX5_goBehind_17 (fl_X5_11 rfl) kd_23 rfl rfl ?_
    refine wp_iload_n dX5_goBehind_20 rfl ?_
    obtain ⟨o6, h⟩ := h
    refine wp_aaldL (M 24 x2) dX5_goBehind_21 kd_24 sz_24 o4 o5 (⟨by omega, by omega⟩) rfl ?_
    refine wp_getf (t := Iv (M (M 24 x2) 1)) (M (M 24 x2) 1) dX5_goBehind_22 (fl_X5_34 rfl) o6.k rfl rfl ?_
    obtain ⟨o7, h⟩ := h
    obtain ⟨o8, h⟩ := h
    refine wp_icmp_ge (tgt := 47) dX5_goBehind_25 (by decide) o7 o8 (fun q9 => ?_) (fun q9 => ?_)
    · have h := h.1 q9
      refine wp_iinc (L2 := [some (Rv 23), some (Iv x1), some (Iv (x2 + 1))]) dX5_goBehind_47 rfl (Nat.le_of_ble_eq_true rfl) (Nat.le_of_ble_eq_true rfl) rfl ?_
      refine wp_goto (tgt := 2) dX5_goBehind_50 (by decide) ?_
      exact h
    · have h := h.2 q9
      refine wp_aload_n dX5_goBehind_28 rfl (by decide) ?_
      refine wp_iload_n dX5_goBehind_29 rfl ?_
      refine wp_callV (e1 := 0) (as := [Iv x2]) (S := []) dX5_goBehind_30 (cs_X5_62 rfl) kd_23 rfl rfl (Nat.le_of_ble_eq_true rfl) (Nat.le_of_ble_eq_true rfl) h (fun v10 M10 q10 r10 => ?_)
      obtain ⟨z10, rfl⟩ := retV_i r10 rfl
      have h := q10
      refine wp_iload_n dX5_goBehind_33 rfl ?_
      obtain ⟨o11, h⟩ := h
      refine wp_icmp_ne (tgt := 47) dX5_goBehind_34 (by decide) o11 (fun q12 => ?_) (fun q12 => ?_)
      · have h := h.1 q12
        refine wp_iinc (L2 := [some (Rv 23), some (Iv x1), some (Iv (x2 + 1))]) dX5_goBehind_47 rfl (Nat.le_of_ble_eq_true rfl) (Nat.le_of_ble_eq_true rfl) rfl ?_
        refine wp_goto (tgt := 2) dX5_goBehind_50 (by decide) ?_
        exact h
      · have h := h.2 q12
        refine wp_aload_n dX5_goBehind_37 rfl (by decide) ?_
        refine wp_getf (t := Rv 26) 26 dX5_goBehind_38 (fl_X5_21 rfl) kd_23 rfl rfl ?_
        refine wp_iload_n dX5_goBehind_41 rfl ?_
        refine wp_dup2 dX5_goBehind_42 rfl rfl ?_
        refine wp_iald (M10 26 x2) dX5_goBehind_43 kd_26 sz_26 o4 o5 (⟨by omega, by omega⟩) rfl ?_
        refine wp_iconst dX5_goBehind_44 ?_
        refine wp_iadd dX5_goBehind_45 ?_
        refine wp_iast dX5_goBehind_46 kd_26 sz_26 o4 o5 (⟨by omega, by omega⟩) ?_
        refine wp_iinc (L2 := [some (Rv 23), some (Iv x1), some (Iv (x2 + 1))]) dX5_goBehind_47 rfl (Nat.le_of_ble_eq_true rfl) (Nat.le_of_ble_eq_true rfl) rfl ?_
        refine wp_goto (tgt := 2) dX5_goBehind_50 (by decide) ?_
        exact h
theorem gX5_head {x1 : Int}  {M : Mem} {Q : Vl → Mem → Prop} (h : 0 ≤ x1 ∧ (x1 < 4 ∧ (isL (M 24 x1) 40 ∧ (0 ≤ M 26 x1 ∧ (M 26 x1 < 40 ∧ (Q (Iv (M ((M 24 x1) + 1) (M 26 x1))) M)))))) : wp 0 yX5_head 0 [some (Rv 23), some (Iv x1)] [] M Q := by
  refine wp_aload_n dX5_head_0 rfl (by decide) ?_
  refine wp_getf (t := Rv 24) 24 dX5_head_1 (fl_X5_11 rfl) kd_23 rfl rfl ?_
  refine wp_iload_n dX5_head_4 rfl ?_
  obtain ⟨o1, h⟩ := h
  obtain ⟨o2, h⟩ := h
  obtain ⟨o3, h⟩ := h
  refine wp_aaldL (M 24 x1) dX5_head_5 kd_24 sz_24 o1 o2 (⟨by omega, by omega⟩) rfl ?_
  refine wp_getf (t := Rv ((M 24 x1) + 1)) ((M 24 x1) + 1) dX5_head_6 (fl_X5_72 rfl) o3.k rfl rfl ?_
  refine wp_aload_n dX5_head_9 rfl (by decide) ?_
  refine wp_getf (t := Rv 26) 26 dX5_head_10 (fl_X5_21 rfl) kd_23 rfl rfl ?_
  refine wp_iload_n dX5_head_13 rfl ?_
  refine wp_iald (M 26 x1) dX5_head_14 kd_26 sz_26 o1 o2 (⟨by omega, by omega⟩) rfl ?_
  obtain ⟨o4, h⟩ := h
  obtain ⟨o5, h⟩ := h
  refine wp_iald (M ((M 24 x1) + 1) (M 26 x1)) dX5_head_15 o3.a.k o3.a.n o4 o5 (⟨by omega, by omega⟩) rfl ?_
  exact wp_iret dX5_head_16 rfl (Or.inr ⟨rfl, rfl, rfl, by decide⟩) rfl h
theorem eX5_head {x1 : Int}  {M : Mem} {Q : Vl → Mem → Prop} (h : 0 ≤ x1 ∧ (x1 < 4 ∧ (isL (M 24 x1) 40 ∧ (0 ≤ M 26 x1 ∧ (M 26 x1 < 40 ∧ (Q (Iv (M ((M 24 x1) + 1) (M 26 x1))) M)))))) : cl 0 yX5_head [Rv 23, Iv x1] M Q := enterG (by decide +kernel) (by exact Or.inr (Or.inl rfl)) (Nat.le_of_ble_eq_true rfl) rfl (gX5_head h)
theorem gX5_goToEnd  {M : Mem} {Q : Vl → Mem → Prop} (h : ((0 ≤ M 23 4 → wp 0 yX5_goToEnd 18 [some (Rv 23), some (Iv 0)] [] M Q) ∧ (M 23 4 < 0 → M (-1) 0 ≠ 1 ∧ (wp 0 yX5_goToEnd 18 [some (Rv 23), some (Iv 0)] [] (up (up (setA M 120 (fun _ => 0)) (-1) 0 1) 23 4 120) Q)))) : wp 0 yX5_goToEnd 0 [some (Rv 23), none] [] M Q := by
  refine wp_aload_n dX5_goToEnd_0 rfl (by decide) ?_
  refine wp_getf (t := Rv (M 23 4)) (M 23 4) dX5_goToEnd_1 (fl_X5_40 rfl) kd_23 rfl rfl ?_
  rcases (show (M 23 4) < 0 ∨ 0 ≤ (M 23 4) by omega) with q1 | q1
  · refine wp_isnull dX5_goToEnd_4 q1 ?_
    have h := h.2 q1
    refine wp_aload_n dX5_goToEnd_7 rfl (by decide) ?_
    refine wp_sipush dX5_goToEnd_8 (by decide) ?_
    obtain ⟨o2, h⟩ := h
    refine wp_newT dX5_goToEnd_11 o2 (by decide) ?_
    refine wp_putf (x := 120) dX5_goToEnd_13 (fl_X5_40 rfl) kd_23 (fun _ => rfl) rfl rfl trivial ?_
    refine wp_iconst dX5_goToEnd_16 ?_
    refine wp_istore_n (L2 := [some (Rv 23), some (Iv 0)]) dX5_goToEnd_17 (Nat.le_of_ble_eq_true rfl) (Nat.le_of_ble_eq_true rfl) rfl ?_
    exact h
  · refine wp_nonnull (tgt := 16) dX5_goToEnd_4 (by decide) q1 ?_
    have h := h.1 q1
    refine wp_iconst dX5_goToEnd_16 ?_
    refine wp_istore_n (L2 := [some (Rv 23), some (Iv 0)]) dX5_goToEnd_17 (Nat.le_of_ble_eq_true rfl) (Nat.le_of_ble_eq_true rfl) rfl ?_
    exact h
theorem eX5_goToEnd  {M : Mem} {Q : Vl → Mem → Prop} (h : ((0 ≤ M 23 4 → wp 0 yX5_goToEnd 18 [some (Rv 23), some (Iv 0)] [] M Q) ∧ (M 23 4 < 0 → M (-1) 0 ≠ 1 ∧ (wp 0 yX5_goToEnd 18 [some (Rv 23), some (Iv 0)] [] (up (up (setA M 120 (fun _ => 0)) (-1) 0 1) 23 4 120) Q)))) : cl 0 yX5_goToEnd [Rv 23] M Q := enterG (by decide +kernel) (by exact Or.inl rfl) (Nat.le_of_ble_eq_true rfl) rfl (gX5_goToEnd h)
theorem gX5_goToEnd_18 {x1 : Int}  {M : Mem} {Q : Vl → Mem → Prop} (h : inr x1 ∧ (inr (M 23 5) ∧ (((M 23 5) ≤ x1 → Q (Iv 0) M) ∧ (x1 < (M 23 5) → 0 ≤ x1 ∧ (x1 < 4 ∧ (isL (M 24 x1) 40 ∧ (wp 0 yX5_goToEnd 18 [some (Rv 23), some (Iv (x1 + 1))] [] (up M 26 x1 (M (M 24 x1) 1)) Q))))))) : wp 0 yX5_goToEnd 18 [some (Rv 23), some (Iv x1)] [] M Q := by
  refine wp_iload_n dX5_goToEnd_18 rfl ?_
  refine wp_aload_n dX5_goToEnd_19 rfl (by decide) ?_
  refine wp_getf (t := Iv (M 23 5)) (M 23 5) dX5_goToEnd_20 (fl_X5_27 rfl) kd_23 rfl rfl ?_
  obtain ⟨o1, h⟩ := h
  obtain ⟨o2, h⟩ := h
  refine wp_icmp_ge (tgt := 47) dX5_goToEnd_23 (by decide) o1 o2 (fun q3 => ?_) (fun q3 => ?_)
  · have h := h.1 q3
    exact wp_vret dX5_goToEnd_47 rfl (Or.inr ⟨rfl, rfl, rfl, by decide⟩) rfl h
  · have h := h.2 q3
    refine wp_aload_n dX5_goToEnd_26 rfl (by decide) ?_
    refine wp_getf (t := Rv 26) 26 dX5_goToEnd_27 (fl_X5_21 rfl) kd_23 rfl rfl ?_
    refine wp_iload_n dX5_goToEnd_30 rfl ?_
    refine wp_aload_n dX5_goToEnd_31 rfl (by decide) ?_
    refine wp_getf (t := Rv 24) 24 dX5_goToEnd_32 (fl_X5_11 rfl) kd_23 rfl rfl ?_
    refine wp_iload_n dX5_goToEnd_35 rfl ?_
    obtain ⟨o4, h⟩ := h
    obtain ⟨o5, h⟩ := h
    obtain ⟨o6, h⟩ := h
    refine wp_aaldL (M 24 x1) dX5_goToEnd_36 kd_24 sz_24 o4 o5 (⟨by omega, by omega⟩) rfl ?_
    refine wp_getf (t := Iv (M (M 24 x1) 1)) (M (M 24 x1) 1) dX5_goToEnd_37 (fl_X5_34 rfl) o6.k rfl rfl ?_
    refine wp_iast dX5_goToEnd_40 kd_26 sz_26 o4 o5 (⟨by omega, by omega⟩) ?_
    refine wp_iinc (L2 := [some (Rv 23), some (Iv (x1 + 1))]) dX5_goToEnd_41 rfl (Nat.le_of_ble_eq_true rfl) (Nat.le_of_ble_eq_true rfl) rfl ?_
    refine wp_goto (tgt := 18) dX5_goToEnd_44 (by decide) ?_
    exact h
theorem gX5_goToBeginning  {M : Mem} {Q : Vl → Mem → Prop} (h : wp 0 yX5_goToBeginning 2 [some (Rv 23), some (Iv 0)] [] M Q) : wp 0 yX5_goToBeginning 0 [some (Rv 23), none] [] M Q := by
  refine wp_iconst dX5_goToBeginning_0 ?_
  refine wp_istore_n (L2 := [some (Rv 23), some (Iv 0)]) dX5_goToBeginning_1 (Nat.le_of_ble_eq_true rfl) (Nat.le_of_ble_eq_true rfl) rfl ?_
  exact h
theorem eX5_goToBeginning  {M : Mem} {Q : Vl → Mem → Prop} (h : wp 0 yX5_goToBeginning 2 [some (Rv 23), some (Iv 0)] [] M Q) : cl 0 yX5_goToBeginning [Rv 23] M Q := enterG (by decide +kernel) (by exact Or.inl rfl) (Nat.le_of_ble_eq_true rfl) rfl (gX5_goToBeginning h)
theorem gX5_goToBeginning_2 {x1 : Int}  {M : Mem} {Q : Vl → Mem → Prop} (h : inr x1 ∧ (inr (M 23 5) ∧ (((M 23 5) ≤ x1 → Q (Iv 0) M) ∧ (x1 < (M 23 5) → 0 ≤ x1 ∧ (x1 < 4 ∧ (wp 0 yX5_goToBeginning 2 [some (Rv 23), some (Iv (x1 + 1))] [] (up M 26 x1 0) Q)))))) : wp 0 yX5_goToBeginning 2 [some (Rv 23), some (Iv x1)] [] M Q := by
  refine wp_iload_n dX5_goToBeginning_2 rfl ?_
  refine wp_aload_n dX5_goToBeginning_3 rfl (by decide) ?_
  refine wp_getf (t := Iv (M 23 5)) (M 23 5) dX5_goToBeginning_4 (fl_X5_27 rfl) kd_23 rfl rfl ?_
  obtain ⟨o1, h⟩ := h
  obtain ⟨o2, h⟩ := h
  refine wp_icmp_ge (tgt := 23) dX5_goToBeginning_7 (by decide) o1 o2 (fun q3 => ?_) (fun q3 => ?_)
  · have h := h.1 q3
    exact wp_vret dX5_goToBeginning_23 rfl (Or.inr ⟨rfl, rfl, rfl, by decide⟩) rfl h
  · have h := h.2 q3
    refine wp_aload_n dX5_goToBeginning_10 rfl (by decide) ?_
    refine wp_getf (t := Rv 26) 26 dX5_goToBeginning_11 (fl_X5_21 rfl) kd_23 rfl rfl ?_
    refine wp_iload_n dX5_goToBeginning_14 rfl ?_
    refine wp_iconst dX5_goToBeginning_15 ?_
    obtain ⟨o4, h⟩ := h
    obtain ⟨o5, h⟩ := h
    refine wp_iast dX5_goToBeginning_16 kd_26 sz_26 o4 o5 (⟨by omega, by omega⟩) ?_
    refine wp_iinc (L2 := [some (Rv 23), some (Iv (x1 + 1))]) dX5_goToBeginning_17 rfl (Nat.le_of_ble_eq_true rfl) (Nat.le_of_ble_eq_true rfl) rfl ?_
    refine wp_goto (tgt := 2) dX5_goToBeginning_20 (by decide) ?_
    exact h
theorem gX5_stepBack  {M : Mem} {Q : Vl → Mem → Prop} (h : wp 0 yX5_stepBack 2 [some (Rv 23), some (Iv 0)] [] M Q) : wp 0 yX5_stepBack 0 [some (Rv 23), none] [] M Q := by
  refine wp_iconst dX5_stepBack_0 ?_
  refine wp_istore_n (L2 := [some (Rv 23), some (Iv 0)]) dX5_stepBack_1 (Nat.le_of_ble_eq_true rfl) (Nat.le_of_ble_eq_true rfl) rfl ?_
  exact h
theorem eX5_stepBack  {M : Mem} {Q : Vl → Mem → Prop} (h : wp 0 yX5_stepBack 2 [some (Rv 23), some (Iv 0)] [] M Q) : cl 0 yX5_stepBack [Rv 23] M Q := enterG (by decide +kernel) (by exact Or.inl rfl) (Nat.le_of_ble_eq_true rfl) rfl (gX5_stepBack h)
theorem gX5_stepBack_2 {x1 : Int}  {M : Mem} {Q : Vl → Mem → Prop} (h : inr x1 ∧ (inr (M 23 5) ∧ (((M 23 5) ≤ x1 → Q (Iv 0) M) ∧ (x1 < (M 23 5) → 0 ≤ x1 ∧ (x1 < 4 ∧ (inr (M 26 x1) ∧ (((M 26 x1) ≤ 0 → isL (M 24 x1) 40 ∧ (wp 0 yX5_stepBack 2 [some (Rv 23), some (Iv (x1 + 1))] [] (up M 26 x1 (M (M 24 x1) 1)) Q)) ∧ (0 < (M 26 x1) → Q (Iv 0) (up M 26 x1 ((M 26 x1) - 1)))))))))) : wp 0 yX5_stepBack 2 [some (Rv 23), some (Iv x1)] [] M Q := by
  refine wp_iload_n dX5_stepBack_2 rfl ?_
  refine wp_aload_n dX5_stepBack_3 rfl (by decide) ?_
  refine wp_getf (t := Iv (M 23 5)) (M 23 5) dX5_stepBack_4 (fl_X5_27 rfl) kd_23 rfl rfl ?_
  obtain ⟨o1, h⟩ := h
  obtain ⟨o2, h⟩ := h
  refine wp_icmp_ge (tgt := 51) dX5_stepBack_7 (by decide) o1 o2 (fun q3 => ?_) (fun q3 => ?_)
  · have h := h.1 q3
    exact wp_vret dX5_stepBack_51 rfl (Or.inr ⟨rfl, rfl, rfl, by decide⟩) rfl h
  · have h := h.2 q3
    refine wp_aload_n dX5_stepBack_10 rfl (by decide) ?_
    refine wp_getf (t := Rv 26) 26 dX5_stepBack_11 (fl_X5_21 rfl) kd_23 rfl rfl ?_
    refine wp_iload_n dX5_stepBack_14 rfl ?_
    obtain ⟨o4, h⟩ := h
    obtain ⟨o5, h⟩ := h
    refine wp_iald (M 26 x1) dX5_stepBack_15 kd_26 sz_26 o4 o5 (⟨by omega, by omega⟩) rfl ?_
    obtain ⟨o6, h⟩ := h
    refine wp_if_le (tgt := 30) dX5_stepBack_16 (by decide) o6 (fun q7 => ?_) (fun q7 => ?_)
    · have h := h.1 q7
      refine wp_aload_n dX5_stepBack_30 rfl (by decide) ?_
      refine wp_getf (t := Rv 26) 26 dX5_stepBack_31 (fl_X5_21 rfl) kd_23 rfl rfl ?_
      refine wp_iload_n dX5_stepBack_34 rfl ?_
      refine wp_aload_n dX5_stepBack_35 rfl (by decide) ?_
      refine wp_getf (t := Rv 24) 24 dX5_stepBack_36 (fl_X5_11 rfl) kd_23 rfl rfl ?_
      refine wp_iload_n dX5_stepBack_39 rfl ?_
      obtain ⟨o8, h⟩ := h
      refine wp_aaldL (M 24 x1) dX5_stepBack_40 kd_24 sz_24 o4 o5 (⟨by omega, by omega⟩) rfl ?_
      refine wp_getf (t := Iv (M (M 24 x1) 1)) (M (M 24 x1) 1) dX5_stepBack_41 (fl_X5_34 rfl) o8.k rfl rfl ?_
      refine wp_iast dX5_stepBack_44 kd_26 sz_26 o4 o5 (⟨by omega, by omega⟩) ?_
      refine wp_iinc (L2 := [some (Rv 23), some (Iv (x1 + 1))]) dX5_stepBack_45 rfl (Nat.le_of_ble_eq_true rfl) (Nat.le_of_ble_eq_true rfl) rfl ?_
      refine wp_goto (tgt := 2) dX5_stepBack_48 (by decide) ?_
      exact h
    · have h := h.2 q7
      refine wp_aload_n dX5_stepBack_19 rfl (by decide) ?_
      refine wp_getf (t := Rv 26) 26 dX5_stepBack_20 (fl_X5_21 rfl) kd_23 rfl rfl ?_
      refine wp_iload_n dX5_stepBack_23 rfl ?_
      refine wp_dup2 dX5_stepBack_24 rfl rfl ?_
      refine wp_iald (M 26 x1) dX5_stepBack_25 kd_26 sz_26 o4 o5 (⟨by omega, by omega⟩) rfl ?_
      refine wp_iconst dX5_stepBack_26 ?_
      refine wp_isub dX5_stepBack_27 ?_
      refine wp_iast dX5_stepBack_28 kd_26 sz_26 o4 o5 (⟨by omega, by omega⟩) ?_
      exact wp_vret dX5_stepBack_29 rfl (Or.inr ⟨rfl, rfl, rfl, by decide⟩) rfl h
theorem gX6_read {x2 a1 : Int} {n1 : Nat} (ha1 : isL a1 n1) {M : Mem} {Q : Vl → Mem → Prop} (h : cl 0 yX6_behindBlanks [Rv a1, Iv 0] (up (up (up M 7 1 0) 7 3 0) 7 4 (-1)) (QI (fun z1 M1 => (wp 0 yX6_read 21 [some (Rv 7), some (Rv a1), some (Iv x2), some (Iv z1), none] [] M1 Q)))) : wp 0 yX6_read 0 [some (Rv 7), some (Rv a1), some (Iv x2), none, none] [] M Q := by
  refine wp_aload_n dX6_read_0 rfl (by decide) ?_
  refine wp_iconst dX6_read_1 ?_
  refine wp_putf (x := 0) dX6_read_2 (fl_X6_18 rfl) kd_7 (fun _ => rfl) rfl rfl trivial ?_
  refine wp_aload_n dX6_read_5 rfl (by decide) ?_
  refine wp_iconst dX6_read_6 ?_
  refine wp_putf (x := 0) dX6_read_7 (fl_X6_22 rfl) kd_7 (fun _ => rfl) rfl rfl trivial ?_
  refine wp_aload_n dX6_read_10 rfl (by decide) ?_
  refine wp_iconst dX6_read_11 ?_
  refine wp_putf (x := (-1)) dX6_read_12 (fl_X6_25 rfl) kd_7 (fun _ => rfl) rfl rfl trivial ?_
  refine wp_aload_n dX6_read_15 rfl ha1.p ?_
  refine wp_iconst dX6_read_16 ?_
  refine wp_callS (e1 := 0) (as := [Rv a1, Iv 0]) (S := []) dX6_read_17 (cs_X6_28 rfl) rfl rfl (Nat.le_of_ble_eq_true rfl) (Nat.le_of_ble_eq_true rfl) h (fun v1 M1 q1 r1 => ?_)
  obtain ⟨z1, rfl⟩ := retV_i r1 rfl
  have h := q1
  refine wp_istore_n (L2 := [some (Rv 7), some (Rv a1), some (Iv x2), some (Iv z1), none]) dX6_read_20 (Nat.le_of_ble_eq_true rfl) (Nat.le_of_ble_eq_true rfl) rfl ?_
  exact h
theorem eX6_read {x2 a1 : Int} {n1 : Nat} (ha1 : isL a1 n1) {M : Mem} {Q : Vl → Mem → Prop} (h : cl 0 yX6_behindBlanks [Rv a1, Iv 0] (up (up (up M 7 1 0) 7 3 0) 7 4 (-1)) (QI (fun z1 M1 => (wp 0 yX6_read 21 [some (Rv 7), some (Rv a1), some (Iv x2), some (Iv z1), none] [] M1 Q)))) : cl 0 yX6_read [Rv 7, Rv a1, Iv x2] M Q := enterG (by decide +kernel) (by exact Or.inr (Or.inl rfl)) (Nat.le_of_ble_eq_true rfl) rfl (gX6_read ha1 h)
theorem gX6_read_21 {x2 x3 a1 : Int} {n1 : Nat} (ha1 : isL a1 n1) {M : Mem} {Q : Vl → Mem → Prop} (h : inr x3 ∧ (inr (M a1 1) ∧ (((M a1 1) ≤ x3 → inr (M 7 3) ∧ (((M 7 3) ≠ 0 → Q (Iv (M a1 1)) M) ∧ ((M 7 3) = 0 → Q (Iv (-9)) M))) ∧ (x3 < (M a1 1) → 0 ≤ x3 ∧ (x3 < n1 ∧ (inr (M (a1 + 1) x3) ∧ (((M (a1 + 1) x3) ≠ 32 → cl 0 yX6_goesOn [Rv 7, Iv (M (a1 + 1) x3), Iv x2] M (QI (fun z10 M10 => ((z10 ≠ 0 → wp 0 yX6_read 21 [some (Rv 7), some (Rv a1), some (Iv x2), some (Iv (x3 + 1)), none] [] M10 Q) ∧ (z10 = 0 → Q (Iv x3) M10))))) ∧ ((M (a1 + 1) x3) = 32 → inr (M 7 3) ∧ (((M 7 3) ≠ 0 → cl 0 yX6_goesOn [Rv 7, Iv (M (a1 + 1) x3), Iv x2] M (QI (fun z14 M14 => ((z14 ≠ 0 → wp 0 yX6_read 21 [some (Rv 7), some (Rv a1), some (Iv x2), some (Iv (x3 + 1)), none] [] M14 Q) ∧ (z14 = 0 → Q (Iv x3) M14))))) ∧ ((M 7 3) = 0 → cl 0 yX6_behindBlanks [Rv a1, Iv x3] M (QI (fun z16 M16 => ((z16 = (M16 a1 1) ∨ (inr z16 ∧ inr (M16 a1 1))) ∧ ((z16 ≠ (M16 a1 1) → Q (Iv z16) M16) ∧ (z16 = (M16 a1 1) → Q (Iv (-9)) M16))))))))))))))) : wp 0 yX6_read 21 [some (Rv 7), some (Rv a1), some (Iv x2), some (Iv x3), none] [] M Q := by
  refine wp_iload_n dX6_read_21 rfl ?_
  refine wp_aload_n dX6_read_22 rfl ha1.p ?_
  refine wp_getf (t := Iv (M a1 1)) (M a1 1) dX6_read_23 (fl_X6_32 rfl) ha1.k rfl rfl ?_
  obtain ⟨o1, h⟩ := h
  obtain ⟨o2, h⟩ := h
  refine wp_icmp_ge (tgt := 93) dX6_read_26 (by decide) o1 o2 (fun q3 => ?_) (fun q3 => ?_)
  · have h := h.1 q3
    refine wp_aload_n dX6_read_93 rfl (by decide) ?_
    refine wp_getf (t := Iv (M 7 3)) (M 7 3) dX6_read_94 (fl_X6_22 rfl) kd_7 rfl rfl ?_
    obtain ⟨o4, h⟩ := h
    refine wp_if_ne (tgt := 105) dX6_read_97 (by decide) o4 (fun q5 => ?_) (fun q5 => ?_)
    · have h := h.1 q5
      refine wp_aload_n dX6_read_105 rfl ha1.p ?_
      refine wp_getf (t := Iv (M a1 1)) (M a1 1) dX6_read_106 (fl_X6_32 rfl) ha1.k rfl rfl ?_
      exact wp_iret dX6_read_109 rfl (Or.inr ⟨rfl, rfl, rfl, by decide⟩) rfl h
    · have h := h.2 q5
      refine wp_bipush dX6_read_100 (by decide) ?_
      refine wp_goto (tgt := 109) dX6_read_102 (by decide) ?_
      exact wp_iret dX6_read_109 rfl (Or.inr ⟨rfl, rfl, rfl, by decide⟩) rfl h
  · have h := h.2 q3
    refine wp_aload_n dX6_read_29 rfl ha1.p ?_
    refine wp_getf (t := Rv (a1 + 1)) (a1 + 1) dX6_read_30 (fl_X6_35 rfl) ha1.k rfl rfl ?_
    refine wp_iload_n dX6_read_33 rfl ?_
    obtain ⟨o6, h⟩ := h
    obtain ⟨o7, h⟩ := h
    refine wp_iald (M (a1 + 1) x3) dX6_read_34 ha1.a.k ha1.a.n o6 o7 o1 rfl ?_
    refine wp_bipush dX6_read_35 (by decide) ?_
    obtain ⟨o8, h⟩ := h
    refine wp_icmp_ne (tgt := 71) dX6_read_37 (by decide) (Or.inr ⟨o8, (by decide)⟩) (fun q9 => ?_) (fun q9 => ?_)
    · have h := h.1 q9
      refine wp_aload_n dX6_read_71 rfl (by decide) ?_
      refine wp_aload_n dX6_read_72 rfl ha1.p ?_
      refine wp_getf (t := Rv (a1 + 1)) (a1 + 1) dX6_read_73 (fl_X6_35 rfl) ha1.k rfl rfl ?_
      refine wp_iload_n dX6_read_76 rfl ?_
      refine wp_iald (M (a1 + 1) x3) dX6_read_77 ha1.a.k ha1.a.n o6 o7 o1 rfl ?_
      refine wp_iload_n dX6_read_78 rfl ?_
      refine wp_callV (e1 := 0) (as := [Iv (M (a1 + 1) x3), Iv x2]) (S := []) dX6_read_79 (cs_X6_38 rfl) kd_7 rfl rfl (Nat.le_of_ble_eq_true rfl) (Nat.le_of_ble_eq_true rfl) h (fun v10 M10 q10 r10 => ?_)
      obtain ⟨z10, rfl, hz10⟩ := retV_z r10 rfl
      have h := q10
      refine wp_if_ne (tgt := 87) dX6_read_82 (by decide) (by have := hz10; omega) (fun q11 => ?_) (fun q11 => ?_)
      · have h := h.1 q11
        refine wp_iinc (L2 := [some (Rv 7), some (Rv a1), some (Iv x2), some (Iv (x3 + 1)), none]) dX6_read_87 rfl (Nat.le_of_ble_eq_true rfl) (Nat.le_of_ble_eq_true rfl) rfl ?_
        refine wp_goto (tgt := 21) dX6_read_90 (by decide) ?_
        exact h
      · have h := h.2 q11
        refine wp_iload_n dX6_read_85 rfl ?_
        exact wp_iret dX6_read_86 rfl (Or.inr ⟨rfl, rfl, rfl, by decide⟩) rfl h
    · have h := h.2 q9
      refine wp_aload_n dX6_read_40 rfl (by decide) ?_
      refine wp_getf (t := Iv (M 7 3)) (M 7 3) dX6_read_41 (fl_X6_22 rfl) kd_7 rfl rfl ?_
      obtain ⟨o12, h⟩ := h
      refine wp_if_ne (tgt := 71) dX6_read_44 (by decide) o12 (fun q13 => ?_) (fun q13 => ?_)
      · have h := h.1 q13
        refine wp_aload_n dX6_read_71 rfl (by decide) ?_
        refine wp_aload_n dX6_read_72 rfl ha1.p ?_
        refine wp_getf (t := Rv (a1 + 1)) (a1 + 1) dX6_read_73 (fl_X6_35 rfl) ha1.k rfl rfl ?_
        refine wp_iload_n dX6_read_76 rfl ?_
        refine wp_iald (M (a1 + 1) x3) dX6_read_77 ha1.a.k ha1.a.n o6 o7 o1 rfl ?_
        refine wp_iload_n dX6_read_78 rfl ?_
        refine wp_callV (e1 := 0) (as := [Iv (M (a1 + 1) x3), Iv x2]) (S := []) dX6_read_79 (cs_X6_38 rfl) kd_7 rfl rfl (Nat.le_of_ble_eq_true rfl) (Nat.le_of_ble_eq_true rfl) h (fun v14 M14 q14 r14 => ?_)
        obtain ⟨z14, rfl, hz14⟩ := retV_z r14 rfl
        have h := q14
        refine wp_if_ne (tgt := 87) dX6_read_82 (by decide) (by have := hz14; omega) (fun q15 => ?_) (fun q15 => ?_)
        · have h := h.1 q15
          refine wp_iinc (L2 := [some (Rv 7), some (Rv a1), some (Iv x2), some (Iv (x3 + 1)), none]) dX6_read_87 rfl (Nat.le_of_ble_eq_true rfl) (Nat.le_of_ble_eq_true rfl) rfl ?_
          refine wp_goto (tgt := 21) dX6_read_90 (by decide) ?_
          exact h
        · have h := h.2 q15
          refine wp_iload_n dX6_read_85 rfl ?_
          exact wp_iret dX6_read_86 rfl (Or.inr ⟨rfl, rfl, rfl, by decide⟩) rfl h
      · have h := h.2 q13
        refine wp_aload_n dX6_read_47 rfl ha1.p ?_
        refine wp_iload_n dX6_read_48 rfl ?_
        refine wp_callS (e1 := 0) (as := [Rv a1, Iv x3]) (S := []) dX6_read_49 (cs_X6_28 rfl) rfl rfl (Nat.le_of_ble_eq_true rfl) (Nat.le_of_ble_eq_true rfl) h (fun v16 M16 q16 r16 => ?_)
        obtain ⟨z16, rfl⟩ := retV_i r16 rfl
        have h := q16
        refine wp_istore (L2 := [some (Rv 7), some (Rv a1), some (Iv x2), some (Iv x3), some (Iv z16)]) dX6_read_52 (Nat.le_of_ble_eq_true rfl) (Nat.le_of_ble_eq_true rfl) rfl ?_
        refine wp_iload dX6_read_54 rfl ?_
        refine wp_aload_n dX6_read_56 rfl ha1.p ?_
        refine wp_getf (t := Iv (M16 a1 1)) (M16 a1 1) dX6_read_57 (fl_X6_32 rfl) ha1.k rfl rfl ?_
        obtain ⟨o17, h⟩ := h
        refine wp_icmp_ne (tgt := 68) dX6_read_60 (by decide) o17 (fun q18 => ?_) (fun q18 => ?_)
        · have h := h.1 q18
          refine wp_iload dX6_read_68 rfl ?_
          exact wp_iret dX6_read_70 rfl (Or.inr ⟨rfl, rfl, rfl, by decide⟩) rfl h
        · have h := h.2 q18
          refine wp_bipush dX6_read_63 (by decide) ?_
          refine wp_goto (tgt := 70) dX6_read_65 (by decide) ?_
          exact wp_iret dX6_read_70 rfl (Or.inr ⟨rfl, rfl, rfl, by decide⟩) rfl h
theorem gX6_behindBlanks {x1 a0 : Int} {n0 : Nat} (ha0 : isL a0 n0) {M : Mem} {Q : Vl → Mem → Prop} (h : wp 0 yX6_behindBlanks 2 [some (Rv a0), some (Iv x1), some (Iv x1)] [] M Q) : wp 0 yX6_behindBlanks 0 [some (Rv a0), some (Iv x1), none] [] M Q := by
  refine wp_iload_n dX6_behindBlanks_0 rfl ?_
  refine wp_istore_n (L2 := [some (Rv a0), some (Iv x1), some (Iv x1)]) dX6_behindBlanks_1 (Nat.le_of_ble_eq_true rfl) (Nat.le_of_ble_eq_true rfl) rfl ?_
  exact h
theorem eX6_behindBlanks {x1 a0 : Int} {n0 : Nat} (ha0 : isL a0 n0) {M : Mem} {Q : Vl → Mem → Prop} (h : wp 0 yX6_behindBlanks 2 [some (Rv a0), some (Iv x1), some (Iv x1)] [] M Q) : cl 0 yX6_behindBlanks [Rv a0, Iv x1] M Q := enterG (by decide +kernel) (by exact Or.inr (Or.inl rfl)) (Nat.le_of_ble_eq_true rfl) rfl (gX6_behindBlanks ha0 h)
theorem gX6_behindBlanks_2 {x1 x2 a0 : Int} {n0 : Nat} (ha0 : isL a0 n0) {M : Mem} {Q : Vl → Mem → Prop} (h : inr x2 ∧ (inr (M a0 1) ∧ (((M a0 1) ≤ x2 → Q (Iv x2) M) ∧ (x2 < (M a0 1) → 0 ≤ x2 ∧ (x2 < n0 ∧ (inr (M (a0 + 1) x2) ∧ (((M (a0 + 1) x2) ≠ 32 → Q (Iv x2) M) ∧ ((M (a0 + 1) x2) = 32 → wp 0 yX6_behindBlanks 2 [some (Rv a0), some (Iv x1), some (Iv (x2 + 1))] [] M Q)))))))) : wp 0 yX6_behindBlanks 2 [some (Rv a0), some (Iv x1), some (Iv x2)] [] M Q := by
  refine wp_iload_n dX6_behindBlanks_2 rfl ?_
  refine wp_aload_n dX6_behindBlanks_3 rfl ha0.p ?_
  refine wp_getf (t := Iv (M a0 1)) (M a0 1) dX6_behindBlanks_4 (fl_X6_32 rfl) ha0.k rfl rfl ?_
  obtain ⟨o1, h⟩ := h
  obtain ⟨o2, h⟩ := h
  refine wp_icmp_ge (tgt := 27) dX6_behindBlanks_7 (by decide) o1 o2 (fun q3 => ?_) (fun q3 => ?_)
  · have h := h.1 q3
    refine wp_iload_n dX6_behindBlanks_27 rfl ?_
    exact wp_iret dX6_behindBlanks_28 rfl (Or.inr ⟨rfl, rfl, rfl, by decide⟩) rfl h
  · have h := h.2 q3
    refine wp_aload_n dX6_behindBlanks_10 rfl ha0.p ?_
    refine wp_getf (t := Rv (a0 + 1)) (a0 + 1) dX6_behindBlanks_11 (fl_X6_35 rfl) ha0.k rfl rfl ?_
    refine wp_iload_n dX6_behindBlanks_14 rfl ?_
    obtain ⟨o4, h⟩ := h
    obtain ⟨o5, h⟩ := h
    refine wp_iald (M (a0 + 1) x2) dX6_behindBlanks_15 ha0.a.k ha0.a.n o4 o5 o1 rfl ?_
    refine wp_bipush dX6_behindBlanks_16 (by decide) ?_
    obtain ⟨o6, h⟩ := h
    refine wp_icmp_ne (tgt := 27) dX6_behindBlanks_18 (by decide) (Or.inr ⟨o6, (by decide)⟩) (fun q7 => ?_) (fun q7 => ?_)
    · have h := h.1 q7
      refine wp_iload_n dX6_behindBlanks_27 rfl ?_
      exact wp_iret dX6_behindBlanks_28 rfl (Or.inr ⟨rfl, rfl, rfl, by decide⟩) rfl h
    · have h := h.2 q7
      refine wp_iinc (L2 := [some (Rv a0), some (Iv x1), some (Iv (x2 + 1))]) dX6_behindBlanks_21 rfl (Nat.le_of_ble_eq_true rfl) (Nat.le_of_ble_eq_true rfl) rfl ?_
      refine wp_goto (tgt := 2) dX6_behindBlanks_24 (by decide) ?_
      exact h
theorem gX6_goesOn {x1 x2 : Int}  {M : Mem} {Q : Vl → Mem → Prop} (h : inr x1 ∧ ((x1 < 97 → ((x1 ≠ 40 → ((x1 ≠ 41 → ((x1 < 49 → Q (Iv 0) M) ∧ (49 ≤ x1 → ((57 < x1 → Q (Iv 0) M) ∧ (x1 ≤ 57 → cl 0 yX6_repeat [Rv 7, Iv (x1 - 48)] M (QI (fun z7 M7 => ((z7 = 0 → Q (Iv 0) M7) ∧ (z7 ≠ 0 → Q (Iv 1) M7))))))))) ∧ (x1 = 41 → cl 0 yX6_close [Rv 7] M (QI (fun z9 M9 => (Q (Iv z9) M9)))))) ∧ (x1 = 40 → cl 0 yX6_open [Rv 7] M (QI (fun z10 M10 => (Q (Iv z10) M10)))))) ∧ (97 ≤ x1 → inr (97 + x2) ∧ (((97 + x2) ≤ x1 → ((x1 ≠ 40 → ((x1 ≠ 41 → ((x1 < 49 → Q (Iv 0) M) ∧ (49 ≤ x1 → ((57 < x1 → Q (Iv 0) M) ∧ (x1 ≤ 57 → cl 0 yX6_repeat [Rv 7, Iv (x1 - 48)] M (QI (fun z17 M17 => ((z17 = 0 → Q (Iv 0) M17) ∧ (z17 ≠ 0 → Q (Iv 1) M17))))))))) ∧ (x1 = 41 → cl 0 yX6_close [Rv 7] M (QI (fun z19 M19 => (Q (Iv z19) M19)))))) ∧ (x1 = 40 → cl 0 yX6_open [Rv 7] M (QI (fun z20 M20 => (Q (Iv z20) M20)))))) ∧ (x1 < (97 + x2) → cl 0 yX6_addLetter [Rv 7, Iv (x1 - 97)] M (QI (fun z21 M21 => (Q (Iv z21) M21)))))))) : wp 0 yX6_goesOn 0 [some (Rv 7), some (Iv x1), some (Iv x2)] [] M Q := by
  refine wp_iload_n dX6_goesOn_0 rfl ?_
  refine wp_bipush dX6_goesOn_1 (by decide) ?_
  obtain ⟨o1, h⟩ := h
  refine wp_icmp_lt (tgt := 23) dX6_goesOn_3 (by decide) o1 (by decide) (fun q2 => ?_) (fun q2 => ?_)
  · have h := h.1 q2
    refine wp_iload_n dX6_goesOn_23 rfl ?_
    refine wp_bipush dX6_goesOn_24 (by decide) ?_
    refine wp_icmp_ne (tgt := 34) dX6_goesOn_26 (by decide) (Or.inr ⟨o1, (by decide)⟩) (fun q3 => ?_) (fun q3 => ?_)
    · have h := h.1 q3
      refine wp_iload_n dX6_goesOn_34 rfl ?_
      refine wp_bipush dX6_goesOn_35 (by decide) ?_
      refine wp_icmp_ne (tgt := 45) dX6_goesOn_37 (by decide) (Or.inr ⟨o1, (by decide)⟩) (fun q4 => ?_) (fun q4 => ?_)
      · have h := h.1 q4
        refine wp_iload_n dX6_goesOn_45 rfl ?_
        refine wp_bipush dX6_goesOn_46 (by decide) ?_
        refine wp_icmp_lt (tgt := 72) dX6_goesOn_48 (by decide) o1 (by decide) (fun q5 => ?_) (fun q5 => ?_)
        · have h := h.1 q5
          refine wp_iconst dX6_goesOn_72 ?_
          exact wp_zret dX6_goesOn_73 rfl (Or.inr ⟨rfl, rfl, rfl, by decide⟩) rfl (by decide) h
        · have h := h.2 q5
          refine wp_iload_n dX6_goesOn_51 rfl ?_
          refine wp_bipush dX6_goesOn_52 (by decide) ?_
          refine wp_icmp_gt (tgt := 72) dX6_goesOn_54 (by decide) o1 (by decide) (fun q6 => ?_) (fun q6 => ?_)
          · have h := h.1 q6
            refine wp_iconst dX6_goesOn_72 ?_
            exact wp_zret dX6_goesOn_73 rfl (Or.inr ⟨rfl, rfl, rfl, by decide⟩) rfl (by decide) h
          · have h := h.2 q6
            refine wp_aload_n dX6_goesOn_57 rfl (by decide) ?_
            refine wp_iload_n dX6_goesOn_58 rfl ?_
            refine wp_bipush dX6_goesOn_59 (by decide) ?_
            refine wp_isub dX6_goesOn_61 ?_
            refine wp_callV (e1 := 0) (as := [Iv (x1 - 48)]) (S := []) dX6_goesOn_62 (cs_X6_53 rfl) kd_7 rfl rfl (Nat.le_of_ble_eq_true rfl) (Nat.le_of_ble_eq_true rfl) h (fun v7 M7 q7 r7 => ?_)
            obtain ⟨z7, rfl, hz7⟩ := retV_z r7 rfl
            have h := q7
            refine wp_if_eq (tgt := 72) dX6_goesOn_65 (by decide) (by have := hz7; omega) (fun q8 => ?_) (fun q8 => ?_)
            · have h := h.1 q8
              refine wp_iconst dX6_goesOn_72 ?_
              exact wp_zret dX6_goesOn_73 rfl (Or.inr ⟨rfl, rfl, rfl, by decide⟩) rfl (by decide) h
            · have h := h.2 q8
              refine wp_iconst dX6_goesOn_68 ?_
              refine wp_goto (tgt := 73) dX6_goesOn_69 (by decide) ?_
              exact wp_zret dX6_goesOn_73 rfl (Or.inr ⟨rfl, rfl, rfl, by decide⟩) rfl (by decide) h
      · have h := h.2 q4
        refine wp_aload_n dX6_goesOn_40 rfl (by decide) ?_
        refine wp_callV (e1 := 0) (as := []) (S := []) dX6_goesOn_41 (cs_X6_50 rfl) kd_7 rfl rfl (Nat.le_of_ble_eq_true rfl) (Nat.le_of_ble_eq_true rfl) h (fun v9 M9 q9 r9 => ?_)
        obtain ⟨z9, rfl, hz9⟩ := retV_z r9 rfl
        have h := q9
        exact wp_zret dX6_goesOn_44 rfl (Or.inr ⟨rfl, rfl, rfl, by decide⟩) rfl hz9 h
    · have h := h.2 q3
      refine wp_aload_n dX6_goesOn_29 rfl (by decide) ?_
      refine wp_callV (e1 := 0) (as := []) (S := []) dX6_goesOn_30 (cs_X6_46 rfl) kd_7 rfl rfl (Nat.le_of_ble_eq_true rfl) (Nat.le_of_ble_eq_true rfl) h (fun v10 M10 q10 r10 => ?_)
      obtain ⟨z10, rfl, hz10⟩ := retV_z r10 rfl
      have h := q10
      exact wp_zret dX6_goesOn_33 rfl (Or.inr ⟨rfl, rfl, rfl, by decide⟩) rfl hz10 h
  · have h := h.2 q2
    refine wp_iload_n dX6_goesOn_6 rfl ?_
    refine wp_bipush dX6_goesOn_7 (by decide) ?_
    refine wp_iload_n dX6_goesOn_9 rfl ?_
    refine wp_iadd dX6_goesOn_10 ?_
    obtain ⟨o11, h⟩ := h
    refine wp_icmp_ge (tgt := 23) dX6_goesOn_11 (by decide) o1 o11 (fun q12 => ?_) (fun q12 => ?_)
    · have h := h.1 q12
      refine wp_iload_n dX6_goesOn_23 rfl ?_
      refine wp_bipush dX6_goesOn_24 (by decide) ?_
      refine wp_icmp_ne (tgt := 34) dX6_goesOn_26 (by decide) (Or.inr ⟨o1, (by decide)⟩) (fun q13 => ?_) (fun q13 => ?_)
      · have h := h.1 q13
        refine wp_iload_n dX6_goesOn_34 rfl ?_
        refine wp_bipush dX6_goesOn_35 (by decide) ?_
        refine wp_icmp_ne (tgt := 45) dX6_goesOn_37 (by decide) (Or.inr ⟨o1, (by decide)⟩) (fun q14 => ?_) (fun q14 => ?_)
        · have h := h.1 q14
          refine wp_iload_n dX6_goesOn_45 rfl ?_
          refine wp_bipush dX6_goesOn_46 (by decide) ?_
          refine wp_icmp_lt (tgt := 72) dX6_goesOn_48 (by decide) o1 (by decide) (fun q15 => ?_) (fun q15 => ?_)
          · have h := h.1 q15
            refine wp_iconst dX6_goesOn_72 ?_
            exact wp_zret dX6_goesOn_73 rfl (Or.inr ⟨rfl, rfl, rfl, by decide⟩) rfl (by decide) h
          · have h := h.2 q15
            refine wp_iload_n dX6_goesOn_51 rfl ?_
            refine wp_bipush dX6_goesOn_52 (by decide) ?_
            refine wp_icmp_gt (tgt := 72) dX6_goesOn_54 (by decide) o1 (by decide) (fun q16 => ?_) (fun q16 => ?_)
            · have h := h.1 q16
              refine wp_iconst dX6_goesOn_72 ?_
              exact wp_zret dX6_goesOn_73 rfl (Or.inr ⟨rfl, rfl, rfl, by decide⟩) rfl (by decide) h
            · have h := h.2 q16
              refine wp_aload_n dX6_goesOn_57 rfl (by decide) ?_
              refine wp_iload_n dX6_goesOn_58 rfl ?_
              refine wp_bipush dX6_goesOn_59 (by decide) ?_
              refine wp_isub dX6_goesOn_61 ?_
              refine wp_callV (e1 := 0) (as := [Iv (x1 - 48)]) (S := []) dX6_goesOn_62 (cs_X6_53 rfl) kd_7 rfl rfl (Nat.le_of_ble_eq_true rfl) (Nat.le_of_ble_eq_true rfl) h (fun v17 M17 q17 r17 => ?_)
              obtain ⟨z17, rfl, hz17⟩ := retV_z r17 rfl
              have h := q17
              refine wp_if_eq (tgt := 72) dX6_goesOn_65 (by decide) (by have := hz17; omega) (fun q18 => ?_) (fun q18 => ?_)
              · have h := h.1 q18
                refine wp_iconst dX6_goesOn_72 ?_
                exact wp_zret dX6_goesOn_73 rfl (Or.inr ⟨rfl, rfl, rfl, by decide⟩) rfl (by decide) h
              · have h := h.2 q18
                refine wp_iconst dX6_goesOn_68 ?_
                refine wp_goto (tgt := 73) dX6_goesOn_69 (by decide) ?_
                exact wp_zret dX6_goesOn_73 rfl (Or.inr ⟨rfl, rfl, rfl, by decide⟩) rfl (by decide) h
        · have h := h.2 q14
          refine wp_aload_n dX6_goesOn_40 rfl (by decide) ?_
          refine wp_callV (e1 := 0) (as := []) (S := []) dX6_goesOn_41 (cs_X6_50 rfl) kd_7 rfl rfl (Nat.le_of_ble_eq_true rfl) (Nat.le_of_ble_eq_true rfl) h (fun v19 M19 q19 r19 => ?_)
          obtain ⟨z19, rfl, hz19⟩ := retV_z r19 rfl
          have h := q19
          exact wp_zret dX6_goesOn_44 rfl (Or.inr ⟨rfl, rfl, rfl, by decide⟩) rfl hz19 h
      · have h := h.2 q13
        refine wp_aload_n dX6_goesOn_29 rfl (by decide) ?_
        refine wp_callV (e1 := 0) (as := []) (S := []) dX6_goesOn_30 (cs_X6_46 rfl) kd_7 rfl rfl (Nat.le_of_ble_eq_true rfl) (Nat.le_of_ble_eq_true rfl) h (fun v20 M20 q20 r20 => ?_)
        obtain ⟨z20, rfl, hz20⟩ := retV_z r20 rfl
        have h := q20
        exact wp_zret dX6_goesOn_33 rfl (Or.inr ⟨rfl, rfl, rfl, by decide⟩) rfl hz20 h
    · have h := h.2 q12
      refine wp_aload_n dX6_goesOn_14 rfl (by decide) ?_
      refine wp_iload_n dX6_goesOn_15 rfl ?_
      refine wp_bipush dX6_goesOn_16 (by decide) ?_
      refine wp_isub dX6_goesOn_18 ?_
      refine wp_callV (e1 := 0) (as := [Iv (x1 - 97)]) (S := []) dX6_goesOn_19 (cs_X6_42 rfl) kd_7 rfl rfl (Nat.le_of_ble_eq_true rfl) (Nat.le_of_ble_eq_true rfl) h (fun v21 M21 q21 r21 => ?_)
      obtain ⟨z21, rfl, hz21⟩ := retV_z r21 rfl
      have h := q21
      exact wp_zret dX6_goesOn_22 rfl (Or.inr ⟨rfl, rfl, rfl, by decide⟩) rfl hz21 h
theorem eX6_goesOn {x1 x2 : Int}  {M : Mem} {Q : Vl → Mem → Prop} (h : inr x1 ∧ ((x1 < 97 → ((x1 ≠ 40 → ((x1 ≠ 41 → ((x1 < 49 → Q (Iv 0) M) ∧ (49 ≤ x1 → ((57 < x1 → Q (Iv 0) M) ∧ (x1 ≤ 57 → cl 0 yX6_repeat [Rv 7, Iv (x1 - 48)] M (QI (fun z7 M7 => ((z7 = 0 → Q (Iv 0) M7) ∧ (z7 ≠ 0 → Q (Iv 1) M7))))))))) ∧ (x1 = 41 → cl 0 yX6_close [Rv 7] M (QI (fun z9 M9 => (Q (Iv z9) M9)))))) ∧ (x1 = 40 → cl 0 yX6_open [Rv 7] M (QI (fun z10 M10 => (Q (Iv z10) M10)))))) ∧ (97 ≤ x1 → inr (97 + x2) ∧ (((97 + x2) ≤ x1 → ((x1 ≠ 40 → ((x1 ≠ 41 → ((x1 < 49 → Q (Iv 0) M) ∧ (49 ≤ x1 → ((57 < x1 → Q (Iv 0) M) ∧ (x1 ≤ 57 → cl 0 yX6_repeat [Rv 7, Iv (x1 - 48)] M (QI (fun z17 M17 => ((z17 = 0 → Q (Iv 0) M17) ∧ (z17 ≠ 0 → Q (Iv 1) M17))))))))) ∧ (x1 = 41 → cl 0 yX6_close [Rv 7] M (QI (fun z19 M19 => (Q (Iv z19) M19)))))) ∧ (x1 = 40 → cl 0 yX6_open [Rv 7] M (QI (fun z20 M20 => (Q (Iv z20) M20)))))) ∧ (x1 < (97 + x2) → cl 0 yX6_addLetter [Rv 7, Iv (x1 - 97)] M (QI (fun z21 M21 => (Q (Iv z21) M21)))))))) : cl 0 yX6_goesOn [Rv 7, Iv x1, Iv x2] M Q := enterG (by decide +kernel) (by exact Or.inr (Or.inr (Or.inl rfl))) (Nat.le_of_ble_eq_true rfl) rfl (gX6_goesOn h)
theorem gX6_addLetter {x1 : Int}  {M : Mem} {Q : Vl → Mem → Prop} (h : inr (M 7 1) ∧ ((40 ≤ (M 7 1) → Q (Iv 1) (up (up M 7 4 (M 7 1)) 7 1 ((M 7 1) + 1))) ∧ ((M 7 1) < 40 → 0 ≤ M 7 1 ∧ (M 7 1 < 40 ∧ (Q (Iv 1) (up (up (up M 7 4 (M 7 1)) 8 (M 7 1) x1) 7 1 ((M 7 1) + 1))))))) : wp 0 yX6_addLetter 0 [some (Rv 7), some (Iv x1)] [] M Q := by
  refine wp_aload_n dX6_addLetter_0 rfl (by decide) ?_
  refine wp_aload_n dX6_addLetter_1 rfl (by decide) ?_
  refine wp_getf (t := Iv (M 7 1)) (M 7 1) dX6_addLetter_2 (fl_X6_18 rfl) kd_7 rfl rfl ?_
  refine wp_putf (x := (M 7 1)) dX6_addLetter_5 (fl_X6_25 rfl) kd_7 (fun _ => rfl) rfl rfl trivial ?_
  refine wp_aload_n dX6_addLetter_8 rfl (by decide) ?_
  refine wp_getf (t := Iv (M 7 1)) (M 7 1) dX6_addLetter_9 (fl_X6_18 rfl) kd_7 rfl rfl ?_
  refine wp_bipush dX6_addLetter_12 (by decide) ?_
  obtain ⟨o1, h⟩ := h
  refine wp_icmp_ge (tgt := 27) dX6_addLetter_14 (by decide) o1 (by decide) (fun q2 => ?_) (fun q2 => ?_)
  · have h := h.1 q2
    refine wp_aload_n dX6_addLetter_27 rfl (by decide) ?_
    refine wp_dup dX6_addLetter_28 rfl ?_
    refine wp_getf (t := Iv (M 7 1)) (M 7 1) dX6_addLetter_29 (fl_X6_18 rfl) kd_7 rfl rfl ?_
    refine wp_iconst dX6_addLetter_32 ?_
    refine wp_iadd dX6_addLetter_33 ?_
    refine wp_putf (x := ((M 7 1) + 1)) dX6_addLetter_34 (fl_X6_18 rfl) kd_7 (fun _ => rfl) rfl rfl trivial ?_
    refine wp_iconst dX6_addLetter_37 ?_
    exact wp_zret dX6_addLetter_38 rfl (Or.inr ⟨rfl, rfl, rfl, by decide⟩) rfl (by decide) h
  · have h := h.2 q2
    refine wp_aload_n dX6_addLetter_17 rfl (by decide) ?_
    refine wp_getf (t := Rv 8) 8 dX6_addLetter_18 (fl_X6_9 rfl) kd_7 rfl rfl ?_
    refine wp_aload_n dX6_addLetter_21 rfl (by decide) ?_
    refine wp_getf (t := Iv (M 7 1)) (M 7 1) dX6_addLetter_22 (fl_X6_18 rfl) kd_7 rfl rfl ?_
    refine wp_iload_n dX6_addLetter_25 rfl ?_
    obtain ⟨o3, h⟩ := h
    obtain ⟨o4, h⟩ := h
    refine wp_iast dX6_addLetter_26 kd_8 sz_8 o3 o4 (⟨by omega, by omega⟩) ?_
    refine wp_aload_n dX6_addLetter_27 rfl (by decide) ?_
    refine wp_dup dX6_addLetter_28 rfl ?_
    refine wp_getf (t := Iv (M 7 1)) (M 7 1) dX6_addLetter_29 (fl_X6_18 rfl) kd_7 rfl rfl ?_
    refine wp_iconst dX6_addLetter_32 ?_
    refine wp_iadd dX6_addLetter_33 ?_
    refine wp_putf (x := ((M 7 1) + 1)) dX6_addLetter_34 (fl_X6_18 rfl) kd_7 (fun _ => rfl) rfl rfl trivial ?_
    refine wp_iconst dX6_addLetter_37 ?_
    exact wp_zret dX6_addLetter_38 rfl (Or.inr ⟨rfl, rfl, rfl, by decide⟩) rfl (by decide) h
theorem eX6_addLetter {x1 : Int}  {M : Mem} {Q : Vl → Mem → Prop} (h : inr (M 7 1) ∧ ((40 ≤ (M 7 1) → Q (Iv 1) (up (up M 7 4 (M 7 1)) 7 1 ((M 7 1) + 1))) ∧ ((M 7 1) < 40 → 0 ≤ M 7 1 ∧ (M 7 1 < 40 ∧ (Q (Iv 1) (up (up (up M 7 4 (M 7 1)) 8 (M 7 1) x1) 7 1 ((M 7 1) + 1))))))) : cl 0 yX6_addLetter [Rv 7, Iv x1] M Q := enterG (by decide +kernel) (by exact Or.inr (Or.inr (Or.inl rfl))) (Nat.le_of_ble_eq_true rfl) rfl (gX6_addLetter h)
theorem gX6_open  {M : Mem} {Q : Vl → Mem → Prop} (h : inr (M 7 3) ∧ (((M 7 3) < 4 → 0 ≤ M 7 3 ∧ (M 7 3 < 4 ∧ (Q (Iv 1) (up (up (up M 9 (M 7 3) (M 7 1)) 7 3 ((M 7 3) + 1)) 7 4 (-1))))) ∧ (4 ≤ (M 7 3) → Q (Iv 0) M))) : wp 0 yX6_open 0 [some (Rv 7)] [] M Q := by
  refine wp_aload_n dX6_open_0 rfl (by decide) ?_
  refine wp_getf (t := Iv (M 7 3)) (M 7 3) dX6_open_1 (fl_X6_22 rfl) kd_7 rfl rfl ?_
  refine wp_iconst dX6_open_4 ?_
  obtain ⟨o1, h⟩ := h
  refine wp_icmp_lt (tgt := 10) dX6_open_5 (by decide) o1 (by decide) (fun q2 => ?_) (fun q2 => ?_)
  · have h := h.1 q2
    refine wp_aload_n dX6_open_10 rfl (by decide) ?_
    refine wp_getf (t := Rv 9) 9 dX6_open_11 (fl_X6_15 rfl) kd_7 rfl rfl ?_
    refine wp_aload_n dX6_open_14 rfl (by decide) ?_
    refine wp_getf (t := Iv (M 7 3)) (M 7 3) dX6_open_15 (fl_X6_22 rfl) kd_7 rfl rfl ?_
    refine wp_aload_n dX6_open_18 rfl (by decide) ?_
    refine wp_getf (t := Iv (M 7 1)) (M 7 1) dX6_open_19 (fl_X6_18 rfl) kd_7 rfl rfl ?_
    obtain ⟨o3, h⟩ := h
    obtain ⟨o4, h⟩ := h
    refine wp_iast dX6_open_22 kd_9 sz_9 o3 o4 (⟨by omega, by omega⟩) ?_
    refine wp_aload_n dX6_open_23 rfl (by decide) ?_
    refine wp_dup dX6_open_24 rfl ?_
    refine wp_getf (t := Iv (M 7 3)) (M 7 3) dX6_open_25 (fl_X6_22 rfl) kd_7 rfl rfl ?_
    refine wp_iconst dX6_open_28 ?_
    refine wp_iadd dX6_open_29 ?_
    refine wp_putf (x := ((M 7 3) + 1)) dX6_open_30 (fl_X6_22 rfl) kd_7 (fun _ => rfl) rfl rfl trivial ?_
    refine wp_aload_n dX6_open_33 rfl (by decide) ?_
    refine wp_iconst dX6_open_34 ?_
    refine wp_putf (x := (-1)) dX6_open_35 (fl_X6_25 rfl) kd_7 (fun _ => rfl) rfl rfl trivial ?_
    refine wp_iconst dX6_open_38 ?_
    exact wp_zret dX6_open_39 rfl (Or.inr ⟨rfl, rfl, rfl, by decide⟩) rfl (by decide) h
  · have h := h.2 q2
    refine wp_iconst dX6_open_8 ?_
    exact wp_zret dX6_open_9 rfl (Or.inr ⟨rfl, rfl, rfl, by decide⟩) rfl (by decide) h
theorem eX6_open  {M : Mem} {Q : Vl → Mem → Prop} (h : inr (M 7 3) ∧ (((M 7 3) < 4 → 0 ≤ M 7 3 ∧ (M 7 3 < 4 ∧ (Q (Iv 1) (up (up (up M 9 (M 7 3) (M 7 1)) 7 3 ((M 7 3) + 1)) 7 4 (-1))))) ∧ (4 ≤ (M 7 3) → Q (Iv 0) M))) : cl 0 yX6_open [Rv 7] M Q := enterG (by decide +kernel) (by exact Or.inr (Or.inr (Or.inl rfl))) (Nat.le_of_ble_eq_true rfl) rfl (gX6_open h)
theorem gX6_close  {M : Mem} {Q : Vl → Mem → Prop} (h : inr (M 7 3) ∧ (((M 7 3) = 0 → Q (Iv 0) M) ∧ ((M 7 3) ≠ 0 → 0 ≤ (M 7 3) - 1 ∧ ((M 7 3) - 1 < 4 ∧ (((M 9 ((M 7 3) - 1)) = (M 7 1) ∨ (inr (M 9 ((M 7 3) - 1)) ∧ inr (M 7 1))) ∧ (((M 9 ((M 7 3) - 1)) ≠ (M 7 1) → Q (Iv 1) (up (up M 7 3 ((M 7 3) - 1)) 7 4 (M 9 ((M 7 3) - 1)))) ∧ ((M 9 ((M 7 3) - 1)) = (M 7 1) → Q (Iv 0) M))))))) : wp 0 yX6_close 0 [some (Rv 7)] [] M Q := by
  refine wp_aload_n dX6_close_0 rfl (by decide) ?_
  refine wp_getf (t := Iv (M 7 3)) (M 7 3) dX6_close_1 (fl_X6_22 rfl) kd_7 rfl rfl ?_
  obtain ⟨o1, h⟩ := h
  refine wp_if_eq (tgt := 25) dX6_close_4 (by decide) o1 (fun q2 => ?_) (fun q2 => ?_)
  · have h := h.1 q2
    refine wp_iconst dX6_close_25 ?_
    exact wp_zret dX6_close_26 rfl (Or.inr ⟨rfl, rfl, rfl, by decide⟩) rfl (by decide) h
  · have h := h.2 q2
    refine wp_aload_n dX6_close_7 rfl (by decide) ?_
    refine wp_getf (t := Rv 9) 9 dX6_close_8 (fl_X6_15 rfl) kd_7 rfl rfl ?_
    refine wp_aload_n dX6_close_11 rfl (by decide) ?_
    refine wp_getf (t := Iv (M 7 3)) (M 7 3) dX6_close_12 (fl_X6_22 rfl) kd_7 rfl rfl ?_
    refine wp_iconst dX6_close_15 ?_
    refine wp_isub dX6_close_16 ?_
    obtain ⟨o3, h⟩ := h
    obtain ⟨o4, h⟩ := h
    refine wp_iald (M 9 ((M 7 3) - 1)) dX6_close_17 kd_9 sz_9 o3 o4 (⟨by omega, by omega⟩) rfl ?_
    refine wp_aload_n dX6_close_18 rfl (by decide) ?_
    refine wp_getf (t := Iv (M 7 1)) (M 7 1) dX6_close_19 (fl_X6_18 rfl) kd_7 rfl rfl ?_
    obtain ⟨o5, h⟩ := h
    refine wp_icmp_ne (tgt := 27) dX6_close_22 (by decide) o5 (fun q6 => ?_) (fun q6 => ?_)
    · have h := h.1 q6
      refine wp_aload_n dX6_close_27 rfl (by decide) ?_
      refine wp_dup dX6_close_28 rfl ?_
      refine wp_getf (t := Iv (M 7 3)) (M 7 3) dX6_close_29 (fl_X6_22 rfl) kd_7 rfl rfl ?_
      refine wp_iconst dX6_close_32 ?_
      refine wp_isub dX6_close_33 ?_
      refine wp_putf (x := ((M 7 3) - 1)) dX6_close_34 (fl_X6_22 rfl) kd_7 (fun _ => rfl) rfl rfl trivial ?_
      refine wp_aload_n dX6_close_37 rfl (by decide) ?_
      refine wp_aload_n dX6_close_38 rfl (by decide) ?_
      refine wp_getf (t := Rv 9) 9 dX6_close_39 (fl_X6_15 rfl) kd_7 rfl rfl ?_
      refine wp_aload_n dX6_close_42 rfl (by decide) ?_
      refine wp_getf (t := Iv ((M 7 3) - 1)) ((M 7 3) - 1) dX6_close_43 (fl_X6_22 rfl) kd_7 rfl rfl ?_
      refine wp_iald (M 9 ((M 7 3) - 1)) dX6_close_46 kd_9 sz_9 o3 o4 (⟨by omega, by omega⟩) rfl ?_
      refine wp_putf (x := (M 9 ((M 7 3) - 1))) dX6_close_47 (fl_X6_25 rfl) kd_7 (fun _ => rfl) rfl rfl trivial ?_
      refine wp_iconst dX6_close_50 ?_
      exact wp_zret dX6_close_51 rfl (Or.inr ⟨rfl, rfl, rfl, by decide⟩) rfl (by decide) h
    · have h := h.2 q6
      refine wp_iconst dX6_close_25 ?_
      exact wp_zret dX6_close_26 rfl (Or.inr ⟨rfl, rfl, rfl, by decide⟩) rfl (by decide) h
theorem eX6_close  {M : Mem} {Q : Vl → Mem → Prop} (h : inr (M 7 3) ∧ (((M 7 3) = 0 → Q (Iv 0) M) ∧ ((M 7 3) ≠ 0 → 0 ≤ (M 7 3) - 1 ∧ ((M 7 3) - 1 < 4 ∧ (((M 9 ((M 7 3) - 1)) = (M 7 1) ∨ (inr (M 9 ((M 7 3) - 1)) ∧ inr (M 7 1))) ∧ (((M 9 ((M 7 3) - 1)) ≠ (M 7 1) → Q (Iv 1) (up (up M 7 3 ((M 7 3) - 1)) 7 4 (M 9 ((M 7 3) - 1)))) ∧ ((M 9 ((M 7 3) - 1)) = (M 7 1) → Q (Iv 0) M))))))) : cl 0 yX6_close [Rv 7] M Q := enterG (by decide +kernel) (by exact Or.inr (Or.inr (Or.inl rfl))) (Nat.le_of_ble_eq_true rfl) rfl (gX6_close h)
theorem gX6_repeat {x1 : Int}  {M : Mem} {Q : Vl → Mem → Prop} (h : inr (M 7 4) ∧ ((0 ≤ (M 7 4) → wp 0 yX6_repeat 34 [some (Rv 7), some (Iv x1), some (Iv ((M 7 1) - (M 7 4))), some (Iv ((M 7 4) + (((M 7 1) - (M 7 4)) * x1))), some (Iv (M 7 1))] [] M Q) ∧ ((M 7 4) < 0 → Q (Iv 0) M))) : wp 0 yX6_repeat 0 [some (Rv 7), some (Iv x1), none, none, none] [] M Q := by
  refine wp_aload_n dX6_repeat_0 rfl (by decide) ?_
  refine wp_getf (t := Iv (M 7 4)) (M 7 4) dX6_repeat_1 (fl_X6_25 rfl) kd_7 rfl rfl ?_
  obtain ⟨o1, h⟩ := h
  refine wp_if_ge (tgt := 9) dX6_repeat_4 (by decide) o1 (fun q2 => ?_) (fun q2 => ?_)
  · have h := h.1 q2
    refine wp_aload_n dX6_repeat_9 rfl (by decide) ?_
    refine wp_getf (t := Iv (M 7 1)) (M 7 1) dX6_repeat_10 (fl_X6_18 rfl) kd_7 rfl rfl ?_
    refine wp_aload_n dX6_repeat_13 rfl (by decide) ?_
    refine wp_getf (t := Iv (M 7 4)) (M 7 4) dX6_repeat_14 (fl_X6_25 rfl) kd_7 rfl rfl ?_
    refine wp_isub dX6_repeat_17 ?_
    refine wp_istore_n (L2 := [some (Rv 7), some (Iv x1), some (Iv ((M 7 1) - (M 7 4))), none, none]) dX6_repeat_18 (Nat.le_of_ble_eq_true rfl) (Nat.le_of_ble_eq_true rfl) rfl ?_
    refine wp_aload_n dX6_repeat_19 rfl (by decide) ?_
    refine wp_getf (t := Iv (M 7 4)) (M 7 4) dX6_repeat_20 (fl_X6_25 rfl) kd_7 rfl rfl ?_
    refine wp_iload_n dX6_repeat_23 rfl ?_
    refine wp_iload_n dX6_repeat_24 rfl ?_
    refine wp_imul dX6_repeat_25 ?_
    refine wp_iadd dX6_repeat_26 ?_
    refine wp_istore_n (L2 := [some (Rv 7), some (Iv x1), some (Iv ((M 7 1) - (M 7 4))), some (Iv ((M 7 4) + (((M 7 1) - (M 7 4)) * x1))), none]) dX6_repeat_27 (Nat.le_of_ble_eq_true rfl) (Nat.le_of_ble_eq_true rfl) rfl ?_
    refine wp_aload_n dX6_repeat_28 rfl (by decide) ?_
    refine wp_getf (t := Iv (M 7 1)) (M 7 1) dX6_repeat_29 (fl_X6_18 rfl) kd_7 rfl rfl ?_
    refine wp_istore (L2 := [some (Rv 7), some (Iv x1), some (Iv ((M 7 1) - (M 7 4))), some (Iv ((M 7 4) + (((M 7 1) - (M 7 4)) * x1))), some (Iv (M 7 1))]) dX6_repeat_32 (Nat.le_of_ble_eq_true rfl) (Nat.le_of_ble_eq_true rfl) rfl ?_
    exact h
  · have h := h.2 q2
    refine wp_iconst dX6_repeat_7 ?_
    exact wp_zret dX6_repeat_8 rfl (Or.inr ⟨rfl, rfl, rfl, by decide⟩) rfl (by decide) h
theorem eX6_repeat {x1 : Int}  {M : Mem} {Q : Vl → Mem → Prop} (h : inr (M 7 4) ∧ ((0 ≤ (M 7 4) → wp 0 yX6_repeat 34 [some (Rv 7), some (Iv x1), some (Iv ((M 7 1) - (M 7 4))), some (Iv ((M 7 4) + (((M 7 1) - (M 7 4)) * x1))), some (Iv (M 7 1))] [] M Q) ∧ ((M 7 4) < 0 → Q (Iv 0) M))) : cl 0 yX6_repeat [Rv 7, Iv x1] M Q := enterG (by decide +kernel) (by exact Or.inr (Or.inr (Or.inl rfl))) (Nat.le_of_ble_eq_true rfl) rfl (gX6_repeat h)
theorem gX6_repeat_34 {x1 x2 x3 x4 : Int}  {M : Mem} {Q : Vl → Mem → Prop} (h : inr x4 ∧ (inr x3 ∧ ((x3 ≤ x4 → Q (Iv 1) (up (up M 7 1 x3) 7 4 (-1))) ∧ (x4 < x3 → ((40 ≤ x4 → Q (Iv 1) (up (up M 7 1 x3) 7 4 (-1))) ∧ (x4 < 40 → 0 ≤ x4 - x2 ∧ (x4 - x2 < 40 ∧ (0 ≤ x4 ∧ (wp 0 yX6_repeat 34 [some (Rv 7), some (Iv x1), some (Iv x2), some (Iv x3), some (Iv (x4 + 1))] [] (up M 8 x4 (M 8 (x4 - x2))) Q))))))))) : wp 0 yX6_repeat 34 [some (Rv 7), some (Iv x1), some (Iv x2), some (Iv x3), some (Iv x4)] [] M Q := by
  refine wp_iload dX6_repeat_34 rfl ?_
  refine wp_iload_n dX6_repeat_36 rfl ?_
  obtain ⟨o1, h⟩ := h
  obtain ⟨o2, h⟩ := h
  refine wp_icmp_ge (tgt := 69) dX6_repeat_37 (by decide) o1 o2 (fun q3 => ?_) (fun q3 => ?_)
  · have h := h.1 q3
    refine wp_aload_n dX6_repeat_69 rfl (by decide) ?_
    refine wp_iload_n dX6_repeat_70 rfl ?_
    refine wp_putf (x := x3) dX6_repeat_71 (fl_X6_18 rfl) kd_7 (fun _ => rfl) rfl rfl trivial ?_
    refine wp_aload_n dX6_repeat_74 rfl (by decide) ?_
    refine wp_iconst dX6_repeat_75 ?_
    refine wp_putf (x := (-1)) dX6_repeat_76 (fl_X6_25 rfl) kd_7 (fun _ => rfl) rfl rfl trivial ?_
    refine wp_iconst dX6_repeat_79 ?_
    exact wp_zret dX6_repeat_80 rfl (Or.inr ⟨rfl, rfl, rfl, by decide⟩) rfl (by decide) h
  · have h := h.2 q3
    refine wp_iload dX6_repeat_40 rfl ?_
    refine wp_bipush dX6_repeat_42 (by decide) ?_
    refine wp_icmp_ge (tgt := 69) dX6_repeat_44 (by decide) o1 (by decide) (fun q4 => ?_) (fun q4 => ?_)
    · have h := h.1 q4
      refine wp_aload_n dX6_repeat_69 rfl (by decide) ?_
      refine wp_iload_n dX6_repeat_70 rfl ?_
      refine wp_putf (x := x3) dX6_repeat_71 (fl_X6_18 rfl) kd_7 (fun _ => rfl) rfl rfl trivial ?_
      refine wp_aload_n dX6_repeat_74 rfl (by decide) ?_
      refine wp_iconst dX6_repeat_75 ?_
      refine wp_putf (x := (-1)) dX6_repeat_76 (fl_X6_25 rfl) kd_7 (fun _ => rfl) rfl rfl trivial ?_
      refine wp_iconst dX6_repeat_79 ?_
      exact wp_zret dX6_repeat_80 rfl (Or.inr ⟨rfl, rfl, rfl, by decide⟩) rfl (by decide) h
    · have h := h.2 q4
      refine wp_aload_n dX6_repeat_47 rfl (by decide) ?_
      refine wp_getf (t := Rv 8) 8 dX6_repeat_48 (fl_X6_9 rfl) kd_7 rfl rfl ?_
      refine wp_iload dX6_repeat_51 rfl ?_
      refine wp_aload_n dX6_repeat_53 rfl (by decide) ?_
      refine wp_getf (t := Rv 8) 8 dX6_repeat_54 (fl_X6_9 rfl) kd_7 rfl rfl ?_
      refine wp_iload dX6_repeat_57 rfl ?_
      refine wp_iload_n dX6_repeat_59 rfl ?_
      refine wp_isub dX6_repeat_60 ?_
      obtain ⟨o5, h⟩ := h
      obtain ⟨o6, h⟩ := h
      refine wp_iald (M 8 (x4 - x2)) dX6_repeat_61 kd_8 sz_8 o5 o6 (⟨by omega, by omega⟩) rfl ?_
      obtain ⟨o7, h⟩ := h
      refine wp_iast dX6_repeat_62 kd_8 sz_8 o7 q4 (⟨by omega, by omega⟩) ?_
      refine wp_iinc (L2 := [some (Rv 7), some (Iv x1), some (Iv x2), some (Iv x3), some (Iv (x4 + 1))]) dX6_repeat_63 rfl (Nat.le_of_ble_eq_true rfl) (Nat.le_of_ble_eq_true rfl) rfl ?_
      refine wp_goto (tgt := 34) dX6_repeat_66 (by decide) ?_
      exact h
theorem gX7_countWays {a1 a2 : Int} {n1 : Nat} (ha1 : isL a1 n1) {n2 : Nat} (ha2 : isL a2 n2) {M : Mem} {Q : Vl → Mem → Prop} (h : wp 0 yX7_countWays 9 [some (Rv 10), some (Rv a1), some (Rv a2), some (Iv 1), none] [] (up M 13 0 1) Q) : wp 0 yX7_countWays 0 [some (Rv 10), some (Rv a1), some (Rv a2), none, none] [] M Q := by
  refine wp_aload_n dX7_countWays_0 rfl (by decide) ?_
  refine wp_getf (t := Rv 13) 13 dX7_countWays_1 (fl_X7_18 rfl) kd_10 rfl rfl ?_
  refine wp_iconst dX7_countWays_4 ?_
  refine wp_lconst1 dX7_countWays_5 ?_
  refine wp_last dX7_countWays_6 kd_13 sz_13 (by decide) (by decide) (by decide) ?_
  refine wp_iconst dX7_countWays_7 ?_
  refine wp_istore_n (L2 := [some (Rv 10), some (Rv a1), some (Rv a2), some (Iv 1), none]) dX7_countWays_8 (Nat.le_of_ble_eq_true rfl) (Nat.le_of_ble_eq_true rfl) rfl ?_
  exact h
theorem eX7_countWays {a1 a2 : Int} {n1 : Nat} (ha1 : isL a1 n1) {n2 : Nat} (ha2 : isL a2 n2) {M : Mem} {Q : Vl → Mem → Prop} (h : wp 0 yX7_countWays 9 [some (Rv 10), some (Rv a1), some (Rv a2), some (Iv 1), none] [] (up M 13 0 1) Q) : cl 0 yX7_countWays [Rv 10, Rv a1, Rv a2] M Q := enterG (by decide +kernel) (by exact Or.inr (Or.inr (Or.inr (Or.inl rfl)))) (Nat.le_of_ble_eq_true rfl) rfl (gX7_countWays ha1 ha2 h)
theorem gX7_countWays_9 {x3 a1 a2 : Int} {n1 : Nat} (ha1 : isL a1 n1) {n2 : Nat} (ha2 : isL a2 n2) {M : Mem} {Q : Vl → Mem → Prop} (h : inr x3 ∧ (inr (M a2 1) ∧ (((M a2 1) < x3 → wp 0 yX7_countWays 32 [some (Rv 10), some (Rv a1), some (Rv a2), some (Iv 0), none] [] M Q) ∧ (x3 ≤ (M a2 1) → 0 ≤ x3 ∧ (x3 < 41 ∧ (wp 0 yX7_countWays 9 [some (Rv 10), some (Rv a1), some (Rv a2), some (Iv (x3 + 1)), none] [] (up M 13 x3 0) Q)))))) : wp 0 yX7_countWays 9 [some (Rv 10), some (Rv a1), some (Rv a2), some (Iv x3), none] [] M Q := by
  refine wp_iload_n dX7_countWays_9 rfl ?_
  refine wp_aload_n dX7_countWays_10 rfl ha2.p ?_
  refine wp_getf (t := Iv (M a2 1)) (M a2 1) dX7_countWays_11 (fl_X7_25 rfl) ha2.k rfl rfl ?_
  obtain ⟨o1, h⟩ := h
  obtain ⟨o2, h⟩ := h
  refine wp_icmp_gt (tgt := 30) dX7_countWays_14 (by decide) o1 o2 (fun q3 => ?_) (fun q3 => ?_)
  · have h := h.1 q3
    refine wp_iconst dX7_countWays_30 ?_
    refine wp_istore_n (L2 := [some (Rv 10), some (Rv a1), some (Rv a2), some (Iv 0), none]) dX7_countWays_31 (Nat.le_of_ble_eq_true rfl) (Nat.le_of_ble_eq_true rfl) rfl ?_
    exact h
  · have h := h.2 q3
    refine wp_aload_n dX7_countWays_17 rfl (by decide) ?_
    refine wp_getf (t := Rv 13) 13 dX7_countWays_18 (fl_X7_18 rfl) kd_10 rfl rfl ?_
    refine wp_iload_n dX7_countWays_21 rfl ?_
    refine wp_lconst0 dX7_countWays_22 ?_
    obtain ⟨o4, h⟩ := h
    obtain ⟨o5, h⟩ := h
    refine wp_last dX7_countWays_23 kd_13 sz_13 o4 o5 (⟨by omega, by omega⟩) ?_
    refine wp_iinc (L2 := [some (Rv 10), some (Rv a1), some (Rv a2), some (Iv (x3 + 1)), none]) dX7_countWays_24 rfl (Nat.le_of_ble_eq_true rfl) (Nat.le_of_ble_eq_true rfl) rfl ?_
    refine wp_goto (tgt := 9) dX7_countWays_27 (by decide) ?_
    exact h
theorem gX7_countWays_32 {x3 a1 a2 : Int} {n1 : Nat} (ha1 : isL a1 n1) {n2 : Nat} (ha2 : isL a2 n2) {M : Mem} {Q : Vl → Mem → Prop} (h : inr x3 ∧ (inr (M a1 1) ∧ (((M a1 1) ≤ x3 → 0 ≤ M a2 1 ∧ (M a2 1 < 41 ∧ (Q (Jv (M 13 (M a2 1))) M))) ∧ (x3 < (M a1 1) → wp 0 yX7_countWays 46 [some (Rv 10), some (Rv a1), some (Rv a2), some (Iv x3), some (Iv (M a2 1))] [] M Q)))) : wp 0 yX7_countWays 32 [some (Rv 10), some (Rv a1), some (Rv a2), some (Iv x3), none] [] M Q := by
  refine wp_iload_n dX7_countWays_32 rfl ?_
  refine wp_aload_n dX7_countWays_33 rfl ha1.p ?_
  refine wp_getf (t := Iv (M a1 1)) (M a1 1) dX7_countWays_34 (fl_X7_25 rfl) ha1.k rfl rfl ?_
  obtain ⟨o1, h⟩ := h
  obtain ⟨o2, h⟩ := h
  refine wp_icmp_ge (tgt := 100) dX7_countWays_37 (by decide) o1 o2 (fun q3 => ?_) (fun q3 => ?_)
  · have h := h.1 q3
    refine wp_aload_n dX7_countWays_100 rfl (by decide) ?_
    refine wp_getf (t := Rv 13) 13 dX7_countWays_101 (fl_X7_18 rfl) kd_10 rfl rfl ?_
    refine wp_aload_n dX7_countWays_104 rfl ha2.p ?_
    refine wp_getf (t := Iv (M a2 1)) (M a2 1) dX7_countWays_105 (fl_X7_25 rfl) ha2.k rfl rfl ?_
    obtain ⟨o4, h⟩ := h
    obtain ⟨o5, h⟩ := h
    refine wp_lald (M 13 (M a2 1)) dX7_countWays_108 kd_13 sz_13 o4 o5 (⟨by omega, by omega⟩) rfl ?_
    exact wp_lret dX7_countWays_109 rfl (Or.inr ⟨rfl, rfl, rfl, by decide⟩) rfl h
  · have h := h.2 q3
    refine wp_aload_n dX7_countWays_40 rfl ha2.p ?_
    refine wp_getf (t := Iv (M a2 1)) (M a2 1) dX7_countWays_41 (fl_X7_25 rfl) ha2.k rfl rfl ?_
    refine wp_istore (L2 := [some (Rv 10), some (Rv a1), some (Rv a2), some (Iv x3), some (Iv (M a2 1))]) dX7_countWays_44 (Nat.le_of_ble_eq_true rfl) (Nat.le_of_ble_eq_true rfl) rfl ?_
    exact h
theorem gX7_countWays_46 {x3 x4 a1 a2 : Int} {n1 : Nat} (ha1 : isL a1 n1) {n2 : Nat} (ha2 : isL a2 n2) {M : Mem} {Q : Vl → Mem → Prop} (h : inr x4 ∧ ((x4 ≤ 0 → wp 0 yX7_countWays 32 [some (Rv 10), some (Rv a1), some (Rv a2), some (Iv (x3 + 1)), none] [] M Q) ∧ (0 < x4 → 0 ≤ x3 ∧ (x3 < n1 ∧ (inr x3 ∧ (0 ≤ x4 - 1 ∧ (x4 - 1 < n2 ∧ (inr (x4 - 1) ∧ (((M (a1 + 1) x3) = (M (a2 + 1) (x4 - 1)) ∨ (inr (M (a1 + 1) x3) ∧ inr (M (a2 + 1) (x4 - 1)))) ∧ (((M (a1 + 1) x3) ≠ (M (a2 + 1) (x4 - 1)) → wp 0 yX7_countWays 46 [some (Rv 10), some (Rv a1), some (Rv a2), some (Iv x3), some (Iv (x4 + (-1)))] [] M Q) ∧ ((M (a1 + 1) x3) = (M (a2 + 1) (x4 - 1)) → 0 ≤ x4 ∧ (x4 < 41 ∧ (x4 - 1 < 41 ∧ (wp 0 yX7_countWays 46 [some (Rv 10), some (Rv a1), some (Rv a2), some (Iv x3), some (Iv (x4 + (-1)))] [] (up M 13 x4 ((M 13 x4) + (M 13 (x4 - 1)))) Q)))))))))))))) : wp 0 yX7_countWays 46 [some (Rv 10), some (Rv a1), some (Rv a2), some (Iv x3), some (Iv x4)] [] M Q := by
  refine wp_iload dX7_countWays_46 rfl ?_
  obtain ⟨o1, h⟩ := h
  refine wp_if_le (tgt := 94) dX7_countWays_48 (by decide) o1 (fun q2 => ?_) (fun q2 => ?_)
  · have h := h.1 q2
    refine wp_iinc (L2 := [some (Rv 10), some (Rv a1), some (Rv a2), some (Iv (x3 + 1)), some (Iv x4)]) dX7_countWays_94 rfl (Nat.le_of_ble_eq_true rfl) (Nat.le_of_ble_eq_true rfl) rfl ?_
    refine wp_goto (tgt := 32) dX7_countWays_97 (by decide) ?_
    exact wp_weak [true, true, true, true, false] rfl h
  · have h := h.2 q2
    refine wp_aload_n dX7_countWays_51 rfl ha1.p ?_
    refine wp_getf (t := Rv (a1 + 1)) (a1 + 1) dX7_countWays_52 (fl_X7_31 rfl) ha1.k rfl rfl ?_
    refine wp_iload_n dX7_countWays_55 rfl ?_
    obtain ⟨o3, h⟩ := h
    obtain ⟨o4, h⟩ := h
    obtain ⟨o5, h⟩ := h
    refine wp_iald (M (a1 + 1) x3) dX7_countWays_56 ha1.a.k ha1.a.n o3 o4 o5 rfl ?_
    refine wp_aload_n dX7_countWays_57 rfl ha2.p ?_
    refine wp_getf (t := Rv (a2 + 1)) (a2 + 1) dX7_countWays_58 (fl_X7_31 rfl) ha2.k rfl rfl ?_
    refine wp_iload dX7_countWays_61 rfl ?_
    refine wp_iconst dX7_countWays_63 ?_
    refine wp_isub dX7_countWays_64 ?_
    obtain ⟨o6, h⟩ := h
    obtain ⟨o7, h⟩ := h
    obtain ⟨o8, h⟩ := h
    refine wp_iald (M (a2 + 1) (x4 - 1)) dX7_countWays_65 ha2.a.k ha2.a.n o6 o7 o8 rfl ?_
    obtain ⟨o9, h⟩ := h
    refine wp_icmp_ne (tgt := 88) dX7_countWays_66 (by decide) o9 (fun q10 => ?_) (fun q10 => ?_)
    · have h := h.1 q10
      refine wp_iinc (L2 := [some (Rv 10), some (Rv a1), some (Rv a2), some (Iv x3), some (Iv (x4 + (-1)))]) dX7_countWays_88 rfl (Nat.le_of_ble_eq_true rfl) (Nat.le_of_ble_eq_true rfl) rfl ?_
      refine wp_goto (tgt := 46) dX7_countWays_91 (by decide) ?_
      exact h
    · have h := h.2 q10
      refine wp_aload_n dX7_countWays_69 rfl (by decide) ?_
      refine wp_getf (t := Rv 13) 13 dX7_countWays_70 (fl_X7_18 rfl) kd_10 rfl rfl ?_
      refine wp_iload dX7_countWays_73 rfl ?_
      refine wp_dup2 dX7_countWays_75 rfl rfl ?_
      obtain ⟨o11, h⟩ := h
      obtain ⟨o12, h⟩ := h
      refine wp_lald (M 13 x4) dX7_countWays_76 kd_13 sz_13 o11 o12 (⟨by omega, by omega⟩) rfl ?_
      refine wp_aload_n dX7_countWays_77 rfl (by decide) ?_
      refine wp_getf (t := Rv 13) 13 dX7_countWays_78 (fl_X7_18 rfl) kd_10 rfl rfl ?_
      refine wp_iload dX7_countWays_81 rfl ?_
      refine wp_iconst dX7_countWays_83 ?_
      refine wp_isub dX7_countWays_84 ?_
      obtain ⟨o13, h⟩ := h
      refine wp_lald (M 13 (x4 - 1)) dX7_countWays_85 kd_13 sz_13 o6 o13 (⟨by omega, by omega⟩) rfl ?_
      refine wp_ladd dX7_countWays_86 ?_
      refine wp_last dX7_countWays_87 kd_13 sz_13 o11 o12 (⟨by omega, by omega⟩) ?_
      refine wp_iinc (L2 := [some (Rv 10), some (Rv a1), some (Rv a2), some (Iv x3), some (Iv (x4 + (-1)))]) dX7_countWays_88 rfl (Nat.le_of_ble_eq_true rfl) (Nat.le_of_ble_eq_true rfl) rfl ?_
      refine wp_goto (tgt := 46) dX7_countWays_91 (by decide) ?_
      exact h
theorem gX7_readBounds {a1 a2 : Int} {n1 : Nat} (ha1 : isL a1 n1) {n2 : Nat} (ha2 : isL a2 n2) {M : Mem} {Q : Vl → Mem → Prop} (h : wp 0 yX7_readBounds 5 [some (Rv 10), some (Rv a1), some (Rv a2), some (Iv 0), some (Iv 0)] [] M Q) : wp 0 yX7_readBounds 0 [some (Rv 10), some (Rv a1), some (Rv a2), none, none] [] M Q := by
  refine wp_iconst dX7_readBounds_0 ?_
  refine wp_istore_n (L2 := [some (Rv 10), some (Rv a1), some (Rv a2), some (Iv 0), none]) dX7_readBounds_1 (Nat.le_of_ble_eq_true rfl) (Nat.le_of_ble_eq_true rfl) rfl ?_
  refine wp_iconst dX7_readBounds_2 ?_
  refine wp_istore (L2 := [some (Rv 10), some (Rv a1), some (Rv a2), some (Iv 0), some (Iv 0)]) dX7_readBounds_3 (Nat.le_of_ble_eq_true rfl) (Nat.le_of_ble_eq_true rfl) rfl ?_
  exact h
theorem eX7_readBounds {a1 a2 : Int} {n1 : Nat} (ha1 : isL a1 n1) {n2 : Nat} (ha2 : isL a2 n2) {M : Mem} {Q : Vl → Mem → Prop} (h : wp 0 yX7_readBounds 5 [some (Rv 10), some (Rv a1), some (Rv a2), some (Iv 0), some (Iv 0)] [] M Q) : cl 0 yX7_readBounds [Rv 10, Rv a1, Rv a2] M Q := enterG (by decide +kernel) (by exact Or.inr (Or.inr (Or.inl rfl))) (Nat.le_of_ble_eq_true rfl) rfl (gX7_readBounds ha1 ha2 h)
theorem gX7_readBounds_5 {x3 x4 a1 a2 : Int} {n1 : Nat} (ha1 : isL a1 n1) {n2 : Nat} (ha2 : isL a2 n2) {M : Mem} {Q : Vl → Mem → Prop} (h : inr x4 ∧ (inr (M a1 1) ∧ (((M a1 1) ≤ x4 → inr x3 ∧ (inr (M a2 1) ∧ (((M a2 1) ≤ x3 → wp 0 yX7_readBounds 73 [some (Rv 10), some (Rv a1), some (Rv a2), some (Iv x3), some (Iv ((M a1 1) - 1))] [] M Q) ∧ (x3 < (M a2 1) → Q (Iv 0) M)))) ∧ (x4 < (M a1 1) → inr x3 ∧ (inr (M a2 1) ∧ (((M a2 1) ≤ x3 → (((M a2 1) ≤ x3 → wp 0 yX7_readBounds 73 [some (Rv 10), some (Rv a1), some (Rv a2), some (Iv x3), some (Iv ((M a1 1) - 1))] [] M Q) ∧ (x3 < (M a2 1) → Q (Iv 0) M))) ∧ (x3 < (M a2 1) → 0 ≤ x4 ∧ (x4 < n1 ∧ (0 ≤ x3 ∧ (x3 < n2 ∧ (((M (a1 + 1) x4) = (M (a2 + 1) x3) ∨ (inr (M (a1 + 1) x4) ∧ inr (M (a2 + 1) x3))) ∧ (((M (a1 + 1) x4) ≠ (M (a2 + 1) x3) → wp 0 yX7_readBounds 5 [some (Rv 10), some (Rv a1), some (Rv a2), some (Iv x3), some (Iv (x4 + 1))] [] M Q) ∧ ((M (a1 + 1) x4) = (M (a2 + 1) x3) → x3 < 40 ∧ (wp 0 yX7_readBounds 5 [some (Rv 10), some (Rv a1), some (Rv a2), some (Iv (x3 + 1)), some (Iv (x4 + 1))] [] (up M 11 x3 x4) Q)))))))))))))) : wp 0 yX7_readBounds 5 [some (Rv 10), some (Rv a1), some (Rv a2), some (Iv x3), some (Iv x4)] [] M Q := by
  refine wp_iload dX7_readBounds_5 rfl ?_
  refine wp_aload_n dX7_readBounds_7 rfl ha1.p ?_
  refine wp_getf (t := Iv (M a1 1)) (M a1 1) dX7_readBounds_8 (fl_X7_25 rfl) ha1.k rfl rfl ?_
  obtain ⟨o1, h⟩ := h
  obtain ⟨o2, h⟩ := h
  refine wp_icmp_ge (tgt := 55) dX7_readBounds_11 (by decide) o1 o2 (fun q3 => ?_) (fun q3 => ?_)
  · have h := h.1 q3
    refine wp_iload_n dX7_readBounds_55 rfl ?_
    refine wp_aload_n dX7_readBounds_56 rfl ha2.p ?_
    refine wp_getf (t := Iv (M a2 1)) (M a2 1) dX7_readBounds_57 (fl_X7_25 rfl) ha2.k rfl rfl ?_
    obtain ⟨o4, h⟩ := h
    obtain ⟨o5, h⟩ := h
    refine wp_icmp_ge (tgt := 65) dX7_readBounds_60 (by decide) o4 o5 (fun q6 => ?_) (fun q6 => ?_)
    · have h := h.1 q6
      refine wp_aload_n dX7_readBounds_65 rfl ha1.p ?_
      refine wp_getf (t := Iv (M a1 1)) (M a1 1) dX7_readBounds_66 (fl_X7_25 rfl) ha1.k rfl rfl ?_
      refine wp_iconst dX7_readBounds_69 ?_
      refine wp_isub dX7_readBounds_70 ?_
      refine wp_istore (L2 := [some (Rv 10), some (Rv a1), some (Rv a2), some (Iv x3), some (Iv ((M a1 1) - 1))]) dX7_readBounds_71 (Nat.le_of_ble_eq_true rfl) (Nat.le_of_ble_eq_true rfl) rfl ?_
      exact h
    · have h := h.2 q6
      refine wp_iconst dX7_readBounds_63 ?_
      exact wp_zret dX7_readBounds_64 rfl (Or.inr ⟨rfl, rfl, rfl, by decide⟩) rfl (by decide) h
  · have h := h.2 q3
    refine wp_iload_n dX7_readBounds_14 rfl ?_
    refine wp_aload_n dX7_readBounds_15 rfl ha2.p ?_
    refine wp_getf (t := Iv (M a2 1)) (M a2 1) dX7_readBounds_16 (fl_X7_25 rfl) ha2.k rfl rfl ?_
    obtain ⟨o7, h⟩ := h
    obtain ⟨o8, h⟩ := h
    refine wp_icmp_ge (tgt := 55) dX7_readBounds_19 (by decide) o7 o8 (fun q9 => ?_) (fun q9 => ?_)
    · have h := h.1 q9
      refine wp_iload_n dX7_readBounds_55 rfl ?_
      refine wp_aload_n dX7_readBounds_56 rfl ha2.p ?_
      refine wp_getf (t := Iv (M a2 1)) (M a2 1) dX7_readBounds_57 (fl_X7_25 rfl) ha2.k rfl rfl ?_
      refine wp_icmp_ge (tgt := 65) dX7_readBounds_60 (by decide) o7 o8 (fun q10 => ?_) (fun q10 => ?_)
      · have h := h.1 q10
        refine wp_aload_n dX7_readBounds_65 rfl ha1.p ?_
        refine wp_getf (t := Iv (M a1 1)) (M a1 1) dX7_readBounds_66 (fl_X7_25 rfl) ha1.k rfl rfl ?_
        refine wp_iconst dX7_readBounds_69 ?_
        refine wp_isub dX7_readBounds_70 ?_
        refine wp_istore (L2 := [some (Rv 10), some (Rv a1), some (Rv a2), some (Iv x3), some (Iv ((M a1 1) - 1))]) dX7_readBounds_71 (Nat.le_of_ble_eq_true rfl) (Nat.le_of_ble_eq_true rfl) rfl ?_
        exact h
      · have h := h.2 q10
        refine wp_iconst dX7_readBounds_63 ?_
        exact wp_zret dX7_readBounds_64 rfl (Or.inr ⟨rfl, rfl, rfl, by decide⟩) rfl (by decide) h
    · have h := h.2 q9
      refine wp_aload_n dX7_readBounds_22 rfl ha1.p ?_
      refine wp_getf (t := Rv (a1 + 1)) (a1 + 1) dX7_readBounds_23 (fl_X7_31 rfl) ha1.k rfl rfl ?_
      refine wp_iload dX7_readBounds_26 rfl ?_
      obtain ⟨o11, h⟩ := h
      obtain ⟨o12, h⟩ := h
      refine wp_iald (M (a1 + 1) x4) dX7_readBounds_28 ha1.a.k ha1.a.n o11 o12 o1 rfl ?_
      refine wp_aload_n dX7_readBounds_29 rfl ha2.p ?_
      refine wp_getf (t := Rv (a2 + 1)) (a2 + 1) dX7_readBounds_30 (fl_X7_31 rfl) ha2.k rfl rfl ?_
      refine wp_iload_n dX7_readBounds_33 rfl ?_
      obtain ⟨o13, h⟩ := h
      obtain ⟨o14, h⟩ := h
      refine wp_iald (M (a2 + 1) x3) dX7_readBounds_34 ha2.a.k ha2.a.n o13 o14 o7 rfl ?_
      obtain ⟨o15, h⟩ := h
      refine wp_icmp_ne (tgt := 49) dX7_readBounds_35 (by decide) o15 (fun q16 => ?_) (fun q16 => ?_)
      · have h := h.1 q16
        refine wp_iinc (L2 := [some (Rv 10), some (Rv a1), some (Rv a2), some (Iv x3), some (Iv (x4 + 1))]) dX7_readBounds_49 rfl (Nat.le_of_ble_eq_true rfl) (Nat.le_of_ble_eq_true rfl) rfl ?_
        refine wp_goto (tgt := 5) dX7_readBounds_52 (by decide) ?_
        exact h
      · have h := h.2 q16
        refine wp_aload_n dX7_readBounds_38 rfl (by decide) ?_
        refine wp_getf (t := Rv 11) 11 dX7_readBounds_39 (fl_X7_9 rfl) kd_10 rfl rfl ?_
        refine wp_iload_n dX7_readBounds_42 rfl ?_
        refine wp_iload dX7_readBounds_43 rfl ?_
        obtain ⟨o17, h⟩ := h
        refine wp_iast dX7_readBounds_45 kd_11 sz_11 o13 o17 (⟨by omega, by omega⟩) ?_
        refine wp_iinc (L2 := [some (Rv 10), some (Rv a1), some (Rv a2), some (Iv (x3 + 1)), some (Iv x4)]) dX7_readBounds_46 rfl (Nat.le_of_ble_eq_true rfl) (Nat.le_of_ble_eq_true rfl) rfl ?_
        refine wp_iinc (L2 := [some (Rv 10), some (Rv a1), some (Rv a2), some (Iv (x3 + 1)), some (Iv (x4 + 1))]) dX7_readBounds_49 rfl (Nat.le_of_ble_eq_true rfl) (Nat.le_of_ble_eq_true rfl) rfl ?_
        refine wp_goto (tgt := 5) dX7_readBounds_52 (by decide) ?_
        exact h
theorem gX7_readBounds_73 {x3 x4 a1 a2 : Int} {n1 : Nat} (ha1 : isL a1 n1) {n2 : Nat} (ha2 : isL a2 n2) {M : Mem} {Q : Vl → Mem → Prop} (h : inr x4 ∧ ((x4 < 0 → Q (Iv 1) M) ∧ (0 ≤ x4 → inr x3 ∧ ((x3 ≤ 0 → Q (Iv 1) M) ∧ (0 < x3 → x4 < n1 ∧ (0 ≤ x3 - 1 ∧ (x3 - 1 < n2 ∧ (inr (x3 - 1) ∧ (((M (a1 + 1) x4) = (M (a2 + 1) (x3 - 1)) ∨ (inr (M (a1 + 1) x4) ∧ inr (M (a2 + 1) (x3 - 1)))) ∧ (((M (a1 + 1) x4) ≠ (M (a2 + 1) (x3 - 1)) → wp 0 yX7_readBounds 73 [some (Rv 10), some (Rv a1), some (Rv a2), some (Iv x3), some (Iv (x4 + (-1)))] [] M Q) ∧ ((M (a1 + 1) x4) = (M (a2 + 1) (x3 - 1)) → 0 ≤ x3 + (-1) ∧ (x3 + (-1) < 40 ∧ (wp 0 yX7_readBounds 73 [some (Rv 10), some (Rv a1), some (Rv a2), some (Iv (x3 + (-1))), some (Iv (x4 + (-1)))] [] (up M 12 (x3 + (-1)) x4) Q))))))))))))) : wp 0 yX7_readBounds 73 [some (Rv 10), some (Rv a1), some (Rv a2), some (Iv x3), some (Iv x4)] [] M Q := by
  refine wp_iload dX7_readBounds_73 rfl ?_
  obtain ⟨o1, h⟩ := h
  refine wp_if_lt (tgt := 117) dX7_readBounds_75 (by decide) o1 (fun q2 => ?_) (fun q2 => ?_)
  · have h := h.1 q2
    refine wp_iconst dX7_readBounds_117 ?_
    exact wp_zret dX7_readBounds_118 rfl (Or.inr ⟨rfl, rfl, rfl, by decide⟩) rfl (by decide) h
  · have h := h.2 q2
    refine wp_iload_n dX7_readBounds_78 rfl ?_
    obtain ⟨o3, h⟩ := h
    refine wp_if_le (tgt := 117) dX7_readBounds_79 (by decide) o3 (fun q4 => ?_) (fun q4 => ?_)
    · have h := h.1 q4
      refine wp_iconst dX7_readBounds_117 ?_
      exact wp_zret dX7_readBounds_118 rfl (Or.inr ⟨rfl, rfl, rfl, by decide⟩) rfl (by decide) h
    · have h := h.2 q4
      refine wp_aload_n dX7_readBounds_82 rfl ha1.p ?_
      refine wp_getf (t := Rv (a1 + 1)) (a1 + 1) dX7_readBounds_83 (fl_X7_31 rfl) ha1.k rfl rfl ?_
      refine wp_iload dX7_readBounds_86 rfl ?_
      obtain ⟨o5, h⟩ := h
      refine wp_iald (M (a1 + 1) x4) dX7_readBounds_88 ha1.a.k ha1.a.n q2 o5 o1 rfl ?_
      refine wp_aload_n dX7_readBounds_89 rfl ha2.p ?_
      refine wp_getf (t := Rv (a2 + 1)) (a2 + 1) dX7_readBounds_90 (fl_X7_31 rfl) ha2.k rfl rfl ?_
      refine wp_iload_n dX7_readBounds_93 rfl ?_
      refine wp_iconst dX7_readBounds_94 ?_
      refine wp_isub dX7_readBounds_95 ?_
      obtain ⟨o6, h⟩ := h
      obtain ⟨o7, h⟩ := h
      obtain ⟨o8, h⟩ := h
      refine wp_iald (M (a2 + 1) (x3 - 1)) dX7_readBounds_96 ha2.a.k ha2.a.n o6 o7 o8 rfl ?_
      obtain ⟨o9, h⟩ := h
      refine wp_icmp_ne (tgt := 111) dX7_readBounds_97 (by decide) o9 (fun q10 => ?_) (fun q10 => ?_)
      · have h := h.1 q10
        refine wp_iinc (L2 := [some (Rv 10), some (Rv a1), some (Rv a2), some (Iv x3), some (Iv (x4 + (-1)))]) dX7_readBounds_111 rfl (Nat.le_of_ble_eq_true rfl) (Nat.le_of_ble_eq_true rfl) rfl ?_
        refine wp_goto (tgt := 73) dX7_readBounds_114 (by decide) ?_
        exact h
      · have h := h.2 q10
        refine wp_iinc (L2 := [some (Rv 10), some (Rv a1), some (Rv a2), some (Iv (x3 + (-1))), some (Iv x4)]) dX7_readBounds_100 rfl (Nat.le_of_ble_eq_true rfl) (Nat.le_of_ble_eq_true rfl) rfl ?_
        refine wp_aload_n dX7_readBounds_103 rfl (by decide) ?_
        refine wp_getf (t := Rv 12) 12 dX7_readBounds_104 (fl_X7_15 rfl) kd_10 rfl rfl ?_
        refine wp_iload_n dX7_readBounds_107 rfl ?_
        refine wp_iload dX7_readBounds_108 rfl ?_
        obtain ⟨o11, h⟩ := h
        obtain ⟨o12, h⟩ := h
        refine wp_iast dX7_readBounds_110 kd_12 sz_12 o11 o12 (⟨by omega, by omega⟩) ?_
        refine wp_iinc (L2 := [some (Rv 10), some (Rv a1), some (Rv a2), some (Iv (x3 + (-1))), some (Iv (x4 + (-1)))]) dX7_readBounds_111 rfl (Nat.le_of_ble_eq_true rfl) (Nat.le_of_ble_eq_true rfl) rfl ?_
        refine wp_goto (tgt := 73) dX7_readBounds_114 (by decide) ?_
        exact h
theorem gX7_someWay {a1 a2 : Int} {n1 : Nat} (ha1 : isL a1 n1) {n2 : Nat} (ha2 : isL a2 n2) {M : Mem} {Q : Vl → Mem → Prop} (h : wp 0 yX7_someWay 5 [some (Rv 10), some (Rv a1), some (Rv a2), some (Jv 0), none, some (Iv 0), none] [] M Q) : wp 0 yX7_someWay 0 [some (Rv 10), some (Rv a1), some (Rv a2), none, none, none, none] [] M Q := by
  refine wp_lconst0 dX7_someWay_0 ?_
  refine wp_lstore_n (L2 := [some (Rv 10), some (Rv a1), some (Rv a2), some (Jv 0), none, none, none]) dX7_someWay_1 (Nat.le_of_ble_eq_true rfl) (Nat.le_of_ble_eq_true rfl) rfl ?_
  refine wp_iconst dX7_someWay_2 ?_
  refine wp_istore (L2 := [some (Rv 10), some (Rv a1), some (Rv a2), some (Jv 0), none, some (Iv 0), none]) dX7_someWay_3 (Nat.le_of_ble_eq_true rfl) (Nat.le_of_ble_eq_true rfl) rfl ?_
  exact h
theorem eX7_someWay {a1 a2 : Int} {n1 : Nat} (ha1 : isL a1 n1) {n2 : Nat} (ha2 : isL a2 n2) {M : Mem} {Q : Vl → Mem → Prop} (h : wp 0 yX7_someWay 5 [some (Rv 10), some (Rv a1), some (Rv a2), some (Jv 0), none, some (Iv 0), none] [] M Q) : cl 0 yX7_someWay [Rv 10, Rv a1, Rv a2] M Q := enterG (by decide +kernel) (by exact Or.inr (Or.inr (Or.inr (Or.inl rfl)))) (Nat.le_of_ble_eq_true rfl) rfl (gX7_someWay ha1 ha2 h)
theorem gX7_someWay_5 {x3 x5 a1 a2 : Int} {n1 : Nat} (ha1 : isL a1 n1) {n2 : Nat} (ha2 : isL a2 n2) {M : Mem} {Q : Vl → Mem → Prop} (h : inr x5 ∧ (inr (M a2 1) ∧ (((M a2 1) ≤ x5 → Q (Jv x3) M) ∧ (x5 < (M a2 1) → 0 ≤ x5 ∧ (x5 < 40 ∧ (wp 0 yX7_someWay 23 [some (Rv 10), some (Rv a1), some (Rv a2), some (Jv x3), none, some (Iv x5), some (Iv (M 11 x5))] [] M Q)))))) : wp 0 yX7_someWay 5 [some (Rv 10), some (Rv a1), some (Rv a2), some (Jv x3), none, some (Iv x5), none] [] M Q := by
  refine wp_iload dX7_someWay_5 rfl ?_
  refine wp_aload_n dX7_someWay_7 rfl ha2.p ?_
  refine wp_getf (t := Iv (M a2 1)) (M a2 1) dX7_someWay_8 (fl_X7_25 rfl) ha2.k rfl rfl ?_
  obtain ⟨o1, h⟩ := h
  obtain ⟨o2, h⟩ := h
  refine wp_icmp_ge (tgt := 71) dX7_someWay_11 (by decide) o1 o2 (fun q3 => ?_) (fun q3 => ?_)
  · have h := h.1 q3
    refine wp_lload_n dX7_someWay_71 rfl ?_
    exact wp_lret dX7_someWay_72 rfl (Or.inr ⟨rfl, rfl, rfl, by decide⟩) rfl h
  · have h := h.2 q3
    refine wp_aload_n dX7_someWay_14 rfl (by decide) ?_
    refine wp_getf (t := Rv 11) 11 dX7_someWay_15 (fl_X7_9 rfl) kd_10 rfl rfl ?_
    refine wp_iload dX7_someWay_18 rfl ?_
    obtain ⟨o4, h⟩ := h
    obtain ⟨o5, h⟩ := h
    refine wp_iald (M 11 x5) dX7_someWay_20 kd_11 sz_11 o4 o5 (⟨by omega, by omega⟩) rfl ?_
    refine wp_istore (L2 := [some (Rv 10), some (Rv a1), some (Rv a2), some (Jv x3), none, some (Iv x5), some (Iv (M 11 x5))]) dX7_someWay_21 (Nat.le_of_ble_eq_true rfl) (Nat.le_of_ble_eq_true rfl) rfl ?_
    exact h
theorem gX7_someWay_23 {x3 x5 x6 a1 a2 : Int} {n1 : Nat} (ha1 : isL a1 n1) {n2 : Nat} (ha2 : isL a2 n2) {M : Mem} {Q : Vl → Mem → Prop} (h : 0 ≤ x5 ∧ (x5 < 40 ∧ (inr x6 ∧ (inr (M 12 x5) ∧ (((M 12 x5) < x6 → wp 0 yX7_someWay 5 [some (Rv 10), some (Rv a1), some (Rv a2), some (Jv x3), none, some (Iv (x5 + 1)), none] [] M Q) ∧ (x6 ≤ (M 12 x5) → 0 ≤ x6 ∧ (x6 < n1 ∧ (x5 < n2 ∧ (inr x5 ∧ (((M (a1 + 1) x6) = (M (a2 + 1) x5) ∨ (inr (M (a1 + 1) x6) ∧ inr (M (a2 + 1) x5))) ∧ (((M (a1 + 1) x6) ≠ (M (a2 + 1) x5) → wp 0 yX7_someWay 23 [some (Rv 10), some (Rv a1), some (Rv a2), some (Jv x3), none, some (Iv x5), some (Iv (x6 + 1))] [] M Q) ∧ ((M (a1 + 1) x6) = (M (a2 + 1) x5) → x6 < 64 ∧ (0 ≤ x3 ∧ (wp 0 yX7_someWay 23 [some (Rv 10), some (Rv a1), some (Rv a2), some (Jv ((Int.toNat x3 ||| Int.toNat (1 * 2 ^ Int.toNat x6) : Nat) : Int)), none, some (Iv x5), some (Iv (x6 + 1))] [] M Q)))))))))))))) : wp 0 yX7_someWay 23 [some (Rv 10), some (Rv a1), some (Rv a2), some (Jv x3), none, some (Iv x5), some (Iv x6)] [] M Q := by
  refine wp_iload dX7_someWay_23 rfl ?_
  refine wp_aload_n dX7_someWay_25 rfl (by decide) ?_
  refine wp_getf (t := Rv 12) 12 dX7_someWay_26 (fl_X7_15 rfl) kd_10 rfl rfl ?_
  refine wp_iload dX7_someWay_29 rfl ?_
  obtain ⟨o1, h⟩ := h
  obtain ⟨o2, h⟩ := h
  refine wp_iald (M 12 x5) dX7_someWay_31 kd_12 sz_12 o1 o2 (⟨by omega, by omega⟩) rfl ?_
  obtain ⟨o3, h⟩ := h
  obtain ⟨o4, h⟩ := h
  refine wp_icmp_gt (tgt := 65) dX7_someWay_32 (by decide) o3 o4 (fun q5 => ?_) (fun q5 => ?_)
  · have h := h.1 q5
    refine wp_iinc (L2 := [some (Rv 10), some (Rv a1), some (Rv a2), some (Jv x3), none, some (Iv (x5 + 1)), some (Iv x6)]) dX7_someWay_65 rfl (Nat.le_of_ble_eq_true rfl) (Nat.le_of_ble_eq_true rfl) rfl ?_
    refine wp_goto (tgt := 5) dX7_someWay_68 (by decide) ?_
    exact wp_weak [true, true, true, true, true, true, false] rfl h
  · have h := h.2 q5
    refine wp_aload_n dX7_someWay_35 rfl ha1.p ?_
    refine wp_getf (t := Rv (a1 + 1)) (a1 + 1) dX7_someWay_36 (fl_X7_31 rfl) ha1.k rfl rfl ?_
    refine wp_iload dX7_someWay_39 rfl ?_
    obtain ⟨o6, h⟩ := h
    obtain ⟨o7, h⟩ := h
    refine wp_iald (M (a1 + 1) x6) dX7_someWay_41 ha1.a.k ha1.a.n o6 o7 o3 rfl ?_
    refine wp_aload_n dX7_someWay_42 rfl ha2.p ?_
    refine wp_getf (t := Rv (a2 + 1)) (a2 + 1) dX7_someWay_43 (fl_X7_31 rfl) ha2.k rfl rfl ?_
    refine wp_iload dX7_someWay_46 rfl ?_
    obtain ⟨o8, h⟩ := h
    obtain ⟨o9, h⟩ := h
    refine wp_iald (M (a2 + 1) x5) dX7_someWay_48 ha2.a.k ha2.a.n o1 o8 o9 rfl ?_
    obtain ⟨o10, h⟩ := h
    refine wp_icmp_ne (tgt := 59) dX7_someWay_49 (by decide) o10 (fun q11 => ?_) (fun q11 => ?_)
    · have h := h.1 q11
      refine wp_iinc (L2 := [some (Rv 10), some (Rv a1), some (Rv a2), some (Jv x3), none, some (Iv x5), some (Iv (x6 + 1))]) dX7_someWay_59 rfl (Nat.le_of_ble_eq_true rfl) (Nat.le_of_ble_eq_true rfl) rfl ?_
      refine wp_goto (tgt := 23) dX7_someWay_62 (by decide) ?_
      exact h
    · have h := h.2 q11
      refine wp_lload_n dX7_someWay_52 rfl ?_
      refine wp_lconst1 dX7_someWay_53 ?_
      refine wp_iload dX7_someWay_54 rfl ?_
      obtain ⟨o12, h⟩ := h
      refine wp_lshl (1 * 2 ^ Int.toNat x6) dX7_someWay_56 (bits_shl64 o6 o12) ?_
      obtain ⟨o13, h⟩ := h
      refine wp_lor ((Int.toNat x3 ||| Int.toNat (1 * 2 ^ Int.toNat x6) : Nat) : Int) dX7_someWay_57 (bits_or64 o13 (p2_nn _)) ?_
      refine wp_lstore_n (L2 := [some (Rv 10), some (Rv a1), some (Rv a2), some (Jv ((Int.toNat x3 ||| Int.toNat (1 * 2 ^ Int.toNat x6) : Nat) : Int)), none, some (Iv x5), some (Iv x6)]) dX7_someWay_58 (Nat.le_of_ble_eq_true rfl) (Nat.le_of_ble_eq_true rfl) rfl ?_
      refine wp_iinc (L2 := [some (Rv 10), some (Rv a1), some (Rv a2), some (Jv ((Int.toNat x3 ||| Int.toNat (1 * 2 ^ Int.toNat x6) : Nat) : Int)), none, some (Iv x5), some (Iv (x6 + 1))]) dX7_someWay_59 rfl (Nat.le_of_ble_eq_true rfl) (Nat.le_of_ble_eq_true rfl) rfl ?_
      refine wp_goto (tgt := 23) dX7_someWay_62 (by decide) ?_
      exact h
theorem gX7_everyWay {x1 : Int}  {M : Mem} {Q : Vl → Mem → Prop} (h : wp 0 yX7_everyWay 5 [some (Rv 10), some (Iv x1), some (Jv 0), none, some (Iv 0)] [] M Q) : wp 0 yX7_everyWay 0 [some (Rv 10), some (Iv x1), none, none, none] [] M Q := by
  refine wp_lconst0 dX7_everyWay_0 ?_
  refine wp_lstore_n (L2 := [some (Rv 10), some (Iv x1), some (Jv 0), none, none]) dX7_everyWay_1 (Nat.le_of_ble_eq_true rfl) (Nat.le_of_ble_eq_true rfl) rfl ?_
  refine wp_iconst dX7_everyWay_2 ?_
  refine wp_istore (L2 := [some (Rv 10), some (Iv x1), some (Jv 0), none, some (Iv 0)]) dX7_everyWay_3 (Nat.le_of_ble_eq_true rfl) (Nat.le_of_ble_eq_true rfl) rfl ?_
  exact h
theorem eX7_everyWay {x1 : Int}  {M : Mem} {Q : Vl → Mem → Prop} (h : wp 0 yX7_everyWay 5 [some (Rv 10), some (Iv x1), some (Jv 0), none, some (Iv 0)] [] M Q) : cl 0 yX7_everyWay [Rv 10, Iv x1] M Q := enterG (by decide +kernel) (by exact Or.inr (Or.inr (Or.inr (Or.inl rfl)))) (Nat.le_of_ble_eq_true rfl) rfl (gX7_everyWay h)
theorem gX7_everyWay_5 {x1 x2 x4 : Int}  {M : Mem} {Q : Vl → Mem → Prop} (h : inr x4 ∧ (inr x1 ∧ ((x1 ≤ x4 → Q (Jv x2) M) ∧ (x4 < x1 → 0 ≤ x4 ∧ (x4 < 40 ∧ (((M 11 x4) = (M 12 x4) ∨ (inr (M 11 x4) ∧ inr (M 12 x4))) ∧ (((M 11 x4) ≠ (M 12 x4) → wp 0 yX7_everyWay 5 [some (Rv 10), some (Iv x1), some (Jv x2), none, some (Iv (x4 + 1))] [] M Q) ∧ ((M 11 x4) = (M 12 x4) → 0 ≤ M 11 x4 ∧ (M 11 x4 < 64 ∧ (0 ≤ x2 ∧ (wp 0 yX7_everyWay 5 [some (Rv 10), some (Iv x1), some (Jv ((Int.toNat x2 ||| Int.toNat (1 * 2 ^ Int.toNat (M 11 x4)) : Nat) : Int)), none, some (Iv (x4 + 1))] [] M Q))))))))))) : wp 0 yX7_everyWay 5 [some (Rv 10), some (Iv x1), some (Jv x2), none, some (Iv x4)] [] M Q := by
  refine wp_iload dX7_everyWay_5 rfl ?_
  refine wp_iload_n dX7_everyWay_7 rfl ?_
  obtain ⟨o1, h⟩ := h
  obtain ⟨o2, h⟩ := h
  refine wp_icmp_ge (tgt := 46) dX7_everyWay_8 (by decide) o1 o2 (fun q3 => ?_) (fun q3 => ?_)
  · have h := h.1 q3
    refine wp_lload_n dX7_everyWay_46 rfl ?_
    exact wp_lret dX7_everyWay_47 rfl (Or.inr ⟨rfl, rfl, rfl, by decide⟩) rfl h
  · have h := h.2 q3
    refine wp_aload_n dX7_everyWay_11 rfl (by decide) ?_
    refine wp_getf (t := Rv 11) 11 dX7_everyWay_12 (fl_X7_9 rfl) kd_10 rfl rfl ?_
    refine wp_iload dX7_everyWay_15 rfl ?_
    obtain ⟨o4, h⟩ := h
    obtain ⟨o5, h⟩ := h
    refine wp_iald (M 11 x4) dX7_everyWay_17 kd_11 sz_11 o4 o5 (⟨by omega, by omega⟩) rfl ?_
    refine wp_aload_n dX7_everyWay_18 rfl (by decide) ?_
    refine wp_getf (t := Rv 12) 12 dX7_everyWay_19 (fl_X7_15 rfl) kd_10 rfl rfl ?_
    refine wp_iload dX7_everyWay_22 rfl ?_
    refine wp_iald (M 12 x4) dX7_everyWay_24 kd_12 sz_12 o4 o5 (⟨by omega, by omega⟩) rfl ?_
    obtain ⟨o6, h⟩ := h
    refine wp_icmp_ne (tgt := 40) dX7_everyWay_25 (by decide) o6 (fun q7 => ?_) (fun q7 => ?_)
    · have h := h.1 q7
      refine wp_iinc (L2 := [some (Rv 10), some (Iv x1), some (Jv x2), none, some (Iv (x4 + 1))]) dX7_everyWay_40 rfl (Nat.le_of_ble_eq_true rfl) (Nat.le_of_ble_eq_true rfl) rfl ?_
      refine wp_goto (tgt := 5) dX7_everyWay_43 (by decide) ?_
      exact h
    · have h := h.2 q7
      refine wp_lload_n dX7_everyWay_28 rfl ?_
      refine wp_lconst1 dX7_everyWay_29 ?_
      refine wp_aload_n dX7_everyWay_30 rfl (by decide) ?_
      refine wp_getf (t := Rv 11) 11 dX7_everyWay_31 (fl_X7_9 rfl) kd_10 rfl rfl ?_
      refine wp_iload dX7_everyWay_34 rfl ?_
      refine wp_iald (M 11 x4) dX7_everyWay_36 kd_11 sz_11 o4 o5 (⟨by omega, by omega⟩) rfl ?_
      obtain ⟨o8, h⟩ := h
      obtain ⟨o9, h⟩ := h
      refine wp_lshl (1 * 2 ^ Int.toNat (M 11 x4)) dX7_everyWay_37 (bits_shl64 o8 o9) ?_
      obtain ⟨o10, h⟩ := h
      refine wp_lor ((Int.toNat x2 ||| Int.toNat (1 * 2 ^ Int.toNat (M 11 x4)) : Nat) : Int) dX7_everyWay_38 (bits_or64 o10 (p2_nn _)) ?_
      refine wp_lstore_n (L2 := [some (Rv 10), some (Iv x1), some (Jv ((Int.toNat x2 ||| Int.toNat (1 * 2 ^ Int.toNat (M 11 x4)) : Nat) : Int)), none, some (Iv x4)]) dX7_everyWay_39 (Nat.le_of_ble_eq_true rfl) (Nat.le_of_ble_eq_true rfl) rfl ?_
      refine wp_iinc (L2 := [some (Rv 10), some (Iv x1), some (Jv ((Int.toNat x2 ||| Int.toNat (1 * 2 ^ Int.toNat (M 11 x4)) : Nat) : Int)), none, some (Iv (x4 + 1))]) dX7_everyWay_40 rfl (Nat.le_of_ble_eq_true rfl) (Nat.le_of_ble_eq_true rfl) rfl ?_
      refine wp_goto (tgt := 5) dX7_everyWay_43 (by decide) ?_
      exact h
theorem gX7_isWay {a0 a1 a2 : Int} {n0 : Nat} (ha0 : isL a0 n0) {n1 : Nat} (ha1 : isL a1 n1) {n2 : Nat} (ha2 : isL a2 n2) {M : Mem} {Q : Vl → Mem → Prop} (h : ((M a2 1) = (M a1 1) ∨ (inr (M a2 1) ∧ inr (M a1 1))) ∧ (((M a2 1) = (M a1 1) → wp 0 yX7_isWay 18 [some (Rv a0), some (Rv a1), some (Rv a2), some (Iv (-1)), some (Iv 0), none] [] M Q) ∧ ((M a2 1) ≠ (M a1 1) → Q (Iv 0) M))) : wp 0 yX7_isWay 0 [some (Rv a0), some (Rv a1), some (Rv a2), none, none, none] [] M Q := by
  refine wp_aload_n dX7_isWay_0 rfl ha2.p ?_
  refine wp_getf (t := Iv (M a2 1)) (M a2 1) dX7_isWay_1 (fl_X7_25 rfl) ha2.k rfl rfl ?_
  refine wp_aload_n dX7_isWay_4 rfl ha1.p ?_
  refine wp_getf (t := Iv (M a1 1)) (M a1 1) dX7_isWay_5 (fl_X7_25 rfl) ha1.k rfl rfl ?_
  obtain ⟨o1, h⟩ := h
  refine wp_icmp_eq (tgt := 13) dX7_isWay_8 (by decide) o1 (fun q2 => ?_) (fun q2 => ?_)
  · have h := h.1 q2
    refine wp_iconst dX7_isWay_13 ?_
    refine wp_istore_n (L2 := [some (Rv a0), some (Rv a1), some (Rv a2), some (Iv (-1)), none, none]) dX7_isWay_14 (Nat.le_of_ble_eq_true rfl) (Nat.le_of_ble_eq_true rfl) rfl ?_
    refine wp_iconst dX7_isWay_15 ?_
    refine wp_istore (L2 := [some (Rv a0), some (Rv a1), some (Rv a2), some (Iv (-1)), some (Iv 0), none]) dX7_isWay_16 (Nat.le_of_ble_eq_true rfl) (Nat.le_of_ble_eq_true rfl) rfl ?_
    exact h
  · have h := h.2 q2
    refine wp_iconst dX7_isWay_11 ?_
    exact wp_zret dX7_isWay_12 rfl (Or.inr ⟨rfl, rfl, rfl, by decide⟩) rfl (by decide) h
theorem eX7_isWay {a0 a1 a2 : Int} {n0 : Nat} (ha0 : isL a0 n0) {n1 : Nat} (ha1 : isL a1 n1) {n2 : Nat} (ha2 : isL a2 n2) {M : Mem} {Q : Vl → Mem → Prop} (h : ((M a2 1) = (M a1 1) ∨ (inr (M a2 1) ∧ inr (M a1 1))) ∧ (((M a2 1) = (M a1 1) → wp 0 yX7_isWay 18 [some (Rv a0), some (Rv a1), some (Rv a2), some (Iv (-1)), some (Iv 0), none] [] M Q) ∧ ((M a2 1) ≠ (M a1 1) → Q (Iv 0) M))) : cl 0 yX7_isWay [Rv a0, Rv a1, Rv a2] M Q := enterG (by decide +kernel) (by exact Or.inr (Or.inr (Or.inl rfl))) (Nat.le_of_ble_eq_true rfl) rfl (gX7_isWay ha0 ha1 ha2 h)
theorem gX7_isWay_18 {x3 x4 a0 a1 a2 : Int} {n0 : Nat} (ha0 : isL a0 n0) {n1 : Nat} (ha1 : isL a1 n1) {n2 : Nat} (ha2 : isL a2 n2) {M : Mem} {Q : Vl → Mem → Prop} (h : inr x4 ∧ (inr (M a1 1) ∧ (((M a1 1) ≤ x4 → Q (Iv 1) M) ∧ (x4 < (M a1 1) → 0 ≤ x4 ∧ (x4 < n2 ∧ (inr (M (a2 + 1) x4) ∧ (inr x3 ∧ (((M (a2 + 1) x4) ≤ x3 → Q (Iv 0) M) ∧ (x3 < (M (a2 + 1) x4) → cl 0 yX3_has [Rv a0, Iv (M (a2 + 1) x4)] M (QI (fun z9 M9 => ((z9 = 0 → Q (Iv 0) M9) ∧ (z9 ≠ 0 → 0 ≤ M (a2 + 1) x4 ∧ (M (a2 + 1) x4 < n0 ∧ (inr (M (a2 + 1) x4) ∧ (x4 < n1 ∧ (((M9 (a0 + 1) (M (a2 + 1) x4)) = (M9 (a1 + 1) x4) ∨ (inr (M9 (a0 + 1) (M (a2 + 1) x4)) ∧ inr (M9 (a1 + 1) x4))) ∧ (((M9 (a0 + 1) (M (a2 + 1) x4)) = (M9 (a1 + 1) x4) → wp 0 yX7_isWay 18 [some (Rv a0), some (Rv a1), some (Rv a2), some (Iv (M (a2 + 1) x4)), some (Iv (x4 + 1)), none] [] M9 Q) ∧ ((M9 (a0 + 1) (M (a2 + 1) x4)) ≠ (M9 (a1 + 1) x4) → Q (Iv 0) M9))))))))))))))))))) : wp 0 yX7_isWay 18 [some (Rv a0), some (Rv a1), some (Rv a2), some (Iv x3), some (Iv x4), none] [] M Q := by
  refine wp_iload dX7_isWay_18 rfl ?_
  refine wp_aload_n dX7_isWay_20 rfl ha1.p ?_
  refine wp_getf (t := Iv (M a1 1)) (M a1 1) dX7_isWay_21 (fl_X7_25 rfl) ha1.k rfl rfl ?_
  obtain ⟨o1, h⟩ := h
  obtain ⟨o2, h⟩ := h
  refine wp_icmp_ge (tgt := 79) dX7_isWay_24 (by decide) o1 o2 (fun q3 => ?_) (fun q3 => ?_)
  · have h := h.1 q3
    refine wp_iconst dX7_isWay_79 ?_
    exact wp_zret dX7_isWay_80 rfl (Or.inr ⟨rfl, rfl, rfl, by decide⟩) rfl (by decide) h
  · have h := h.2 q3
    refine wp_aload_n dX7_isWay_27 rfl ha2.p ?_
    refine wp_getf (t := Rv (a2 + 1)) (a2 + 1) dX7_isWay_28 (fl_X7_31 rfl) ha2.k rfl rfl ?_
    refine wp_iload dX7_isWay_31 rfl ?_
    obtain ⟨o4, h⟩ := h
    obtain ⟨o5, h⟩ := h
    refine wp_iald (M (a2 + 1) x4) dX7_isWay_33 ha2.a.k ha2.a.n o4 o5 o1 rfl ?_
    refine wp_istore (L2 := [some (Rv a0), some (Rv a1), some (Rv a2), some (Iv x3), some (Iv x4), some (Iv (M (a2 + 1) x4))]) dX7_isWay_34 (Nat.le_of_ble_eq_true rfl) (Nat.le_of_ble_eq_true rfl) rfl ?_
    refine wp_iload dX7_isWay_36 rfl ?_
    refine wp_iload_n dX7_isWay_38 rfl ?_
    obtain ⟨o6, h⟩ := h
    obtain ⟨o7, h⟩ := h
    refine wp_icmp_le (tgt := 68) dX7_isWay_39 (by decide) o6 o7 (fun q8 => ?_) (fun q8 => ?_)
    · have h := h.1 q8
      refine wp_iconst dX7_isWay_68 ?_
      exact wp_zret dX7_isWay_69 rfl (Or.inr ⟨rfl, rfl, rfl, by decide⟩) rfl (by decide) h
    · have h := h.2 q8
      refine wp_aload_n dX7_isWay_42 rfl ha0.p ?_
      refine wp_iload dX7_isWay_43 rfl ?_
      refine wp_callV (e1 := 0) (as := [Iv (M (a2 + 1) x4)]) (S := []) dX7_isWay_45 (cs_X7_34 rfl) ha0.k rfl rfl (Nat.le_of_ble_eq_true rfl) (Nat.le_of_ble_eq_true rfl) h (fun v9 M9 q9 r9 => ?_)
      obtain ⟨z9, rfl, hz9⟩ := retV_z r9 rfl
      have h := q9
      refine wp_if_eq (tgt := 68) dX7_isWay_48 (by decide) (by have := hz9; omega) (fun q10 => ?_) (fun q10 => ?_)
      · have h := h.1 q10
        refine wp_iconst dX7_isWay_68 ?_
        exact wp_zret dX7_isWay_69 rfl (Or.inr ⟨rfl, rfl, rfl, by decide⟩) rfl (by decide) h
      · have h := h.2 q10
        refine wp_aload_n dX7_isWay_51 rfl ha0.p ?_
        refine wp_getf (t := Rv (a0 + 1)) (a0 + 1) dX7_isWay_52 (fl_X7_31 rfl) ha0.k rfl rfl ?_
        refine wp_iload dX7_isWay_55 rfl ?_
        obtain ⟨o11, h⟩ := h
        obtain ⟨o12, h⟩ := h
        obtain ⟨o13, h⟩ := h
        refine wp_iald (M9 (a0 + 1) (M (a2 + 1) x4)) dX7_isWay_57 ha0.a.k ha0.a.n o11 o12 o13 rfl ?_
        refine wp_aload_n dX7_isWay_58 rfl ha1.p ?_
        refine wp_getf (t := Rv (a1 + 1)) (a1 + 1) dX7_isWay_59 (fl_X7_31 rfl) ha1.k rfl rfl ?_
        refine wp_iload dX7_isWay_62 rfl ?_
        obtain ⟨o14, h⟩ := h
        refine wp_iald (M9 (a1 + 1) x4) dX7_isWay_64 ha1.a.k ha1.a.n o4 o14 o1 rfl ?_
        obtain ⟨o15, h⟩ := h
        refine wp_icmp_eq (tgt := 70) dX7_isWay_65 (by decide) o15 (fun q16 => ?_) (fun q16 => ?_)
        · have h := h.1 q16
          refine wp_iload dX7_isWay_70 rfl ?_
          refine wp_istore_n (L2 := [some (Rv a0), some (Rv a1), some (Rv a2), some (Iv (M (a2 + 1) x4)), some (Iv x4), some (Iv (M (a2 + 1) x4))]) dX7_isWay_72 (Nat.le_of_ble_eq_true rfl) (Nat.le_of_ble_eq_true rfl) rfl ?_
          refine wp_iinc (L2 := [some (Rv a0), some (Rv a1), some (Rv a2), some (Iv (M (a2 + 1) x4)), some (Iv (x4 + 1)), some (Iv (M (a2 + 1) x4))]) dX7_isWay_73 rfl (Nat.le_of_ble_eq_true rfl) (Nat.le_of_ble_eq_true rfl) rfl ?_
          refine wp_goto (tgt := 18) dX7_isWay_76 (by decide) ?_
          exact wp_weak [true, true, true, true, true, false] rfl h
        · have h := h.2 q16
          refine wp_iconst dX7_isWay_68 ?_
          exact wp_zret dX7_isWay_69 rfl (Or.inr ⟨rfl, rfl, rfl, by decide⟩) rfl (by decide) h
theorem gX7_fewestToBar {a1 a2 : Int} {n1 : Nat} (ha1 : isL a1 n1) {n2 : Nat} (ha2 : isL a2 n2) {M : Mem} {Q : Vl → Mem → Prop} (h : wp 0 yX7_fewestToBar 17 [some (Rv 10), some (Rv a1), some (Rv a2), some (Iv ((M a1 1) + 1)), some (Iv 1), none] [] (up M 14 0 0) Q) : wp 0 yX7_fewestToBar 0 [some (Rv 10), some (Rv a1), some (Rv a2), none, none, none] [] M Q := by
  refine wp_aload_n dX7_fewestToBar_0 rfl ha1.p ?_
  refine wp_getf (t := Iv (M a1 1)) (M a1 1) dX7_fewestToBar_1 (fl_X7_25 rfl) ha1.k rfl rfl ?_
  refine wp_iconst dX7_fewestToBar_4 ?_
  refine wp_iadd dX7_fewestToBar_5 ?_
  refine wp_istore_n (L2 := [some (Rv 10), some (Rv a1), some (Rv a2), some (Iv ((M a1 1) + 1)), none, none]) dX7_fewestToBar_6 (Nat.le_of_ble_eq_true rfl) (Nat.le_of_ble_eq_true rfl) rfl ?_
  refine wp_aload_n dX7_fewestToBar_7 rfl (by decide) ?_
  refine wp_getf (t := Rv 14) 14 dX7_fewestToBar_8 (fl_X7_22 rfl) kd_10 rfl rfl ?_
  refine wp_iconst dX7_fewestToBar_11 ?_
  refine wp_iconst dX7_fewestToBar_12 ?_
  refine wp_iast dX7_fewestToBar_13 kd_14 sz_14 (by decide) (by decide) (by decide) ?_
  refine wp_iconst dX7_fewestToBar_14 ?_
  refine wp_istore (L2 := [some (Rv 10), some (Rv a1), some (Rv a2), some (Iv ((M a1 1) + 1)), some (Iv 1), none]) dX7_fewestToBar_15 (Nat.le_of_ble_eq_true rfl) (Nat.le_of_ble_eq_true rfl) rfl ?_
  exact h
theorem eX7_fewestToBar {a1 a2 : Int} {n1 : Nat} (ha1 : isL a1 n1) {n2 : Nat} (ha2 : isL a2 n2) {M : Mem} {Q : Vl → Mem → Prop} (h : wp 0 yX7_fewestToBar 17 [some (Rv 10), some (Rv a1), some (Rv a2), some (Iv ((M a1 1) + 1)), some (Iv 1), none] [] (up M 14 0 0) Q) : cl 0 yX7_fewestToBar [Rv 10, Rv a1, Rv a2] M Q := enterG (by decide +kernel) (by exact Or.inr (Or.inl rfl)) (Nat.le_of_ble_eq_true rfl) rfl (gX7_fewestToBar ha1 ha2 h)
theorem gX7_fewestToBar_17 {x3 x4 a1 a2 : Int} {n1 : Nat} (ha1 : isL a1 n1) {n2 : Nat} (ha2 : isL a2 n2) {M : Mem} {Q : Vl → Mem → Prop} (h : inr x4 ∧ (inr (M a2 1) ∧ (((M a2 1) ≤ x4 → wp 0 yX7_fewestToBar 43 [some (Rv 10), some (Rv a1), some (Rv a2), some (Iv x3), some (Iv 0), none] [] M Q) ∧ (x4 < (M a2 1) → 0 ≤ x4 ∧ (x4 < 41 ∧ (wp 0 yX7_fewestToBar 17 [some (Rv 10), some (Rv a1), some (Rv a2), some (Iv x3), some (Iv (x4 + 1)), none] [] (up M 14 x4 x3) Q)))))) : wp 0 yX7_fewestToBar 17 [some (Rv 10), some (Rv a1), some (Rv a2), some (Iv x3), some (Iv x4), none] [] M Q := by
  refine wp_iload dX7_fewestToBar_17 rfl ?_
  refine wp_aload_n dX7_fewestToBar_19 rfl ha2.p ?_
  refine wp_getf (t := Iv (M a2 1)) (M a2 1) dX7_fewestToBar_20 (fl_X7_25 rfl) ha2.k rfl rfl ?_
  obtain ⟨o1, h⟩ := h
  obtain ⟨o2, h⟩ := h
  refine wp_icmp_ge (tgt := 40) dX7_fewestToBar_23 (by decide) o1 o2 (fun q3 => ?_) (fun q3 => ?_)
  · have h := h.1 q3
    refine wp_iconst dX7_fewestToBar_40 ?_
    refine wp_istore (L2 := [some (Rv 10), some (Rv a1), some (Rv a2), some (Iv x3), some (Iv 0), none]) dX7_fewestToBar_41 (Nat.le_of_ble_eq_true rfl) (Nat.le_of_ble_eq_true rfl) rfl ?_
    exact h
  · have h := h.2 q3
    refine wp_aload_n dX7_fewestToBar_26 rfl (by decide) ?_
    refine wp_getf (t := Rv 14) 14 dX7_fewestToBar_27 (fl_X7_22 rfl) kd_10 rfl rfl ?_
    refine wp_iload dX7_fewestToBar_30 rfl ?_
    refine wp_iload_n dX7_fewestToBar_32 rfl ?_
    obtain ⟨o4, h⟩ := h
    obtain ⟨o5, h⟩ := h
    refine wp_iast dX7_fewestToBar_33 kd_14 sz_14 o4 o5 (⟨by omega, by omega⟩) ?_
    refine wp_iinc (L2 := [some (Rv 10), some (Rv a1), some (Rv a2), some (Iv x3), some (Iv (x4 + 1)), none]) dX7_fewestToBar_34 rfl (Nat.le_of_ble_eq_true rfl) (Nat.le_of_ble_eq_true rfl) rfl ?_
    refine wp_goto (tgt := 17) dX7_fewestToBar_37 (by decide) ?_
    exact h
theorem gX7_fewestToBar_43 {x3 x4 a1 a2 : Int} {n1 : Nat} (ha1 : isL a1 n1) {n2 : Nat} (ha2 : isL a2 n2) {M : Mem} {Q : Vl → Mem → Prop} (h : inr x4 ∧ (inr (M a1 1) ∧ (((M a1 1) ≤ x4 → wp 0 yX7_fewestToBar 139 [some (Rv 10), some (Rv a1), some (Rv a2), some (Iv x3), some (Iv x3), some (Iv 0)] [] M Q) ∧ (x4 < (M a1 1) → wp 0 yX7_fewestToBar 60 [some (Rv 10), some (Rv a1), some (Rv a2), some (Iv x3), some (Iv x4), some (Iv ((M a2 1) - 1))] [] M Q)))) : wp 0 yX7_fewestToBar 43 [some (Rv 10), some (Rv a1), some (Rv a2), some (Iv x3), some (Iv x4), none] [] M Q := by
  refine wp_iload dX7_fewestToBar_43 rfl ?_
  refine wp_aload_n dX7_fewestToBar_45 rfl ha1.p ?_
  refine wp_getf (t := Iv (M a1 1)) (M a1 1) dX7_fewestToBar_46 (fl_X7_25 rfl) ha1.k rfl rfl ?_
  obtain ⟨o1, h⟩ := h
  obtain ⟨o2, h⟩ := h
  refine wp_icmp_ge (tgt := 133) dX7_fewestToBar_49 (by decide) o1 o2 (fun q3 => ?_) (fun q3 => ?_)
  · have h := h.1 q3
    refine wp_iload_n dX7_fewestToBar_133 rfl ?_
    refine wp_istore (L2 := [some (Rv 10), some (Rv a1), some (Rv a2), some (Iv x3), some (Iv x3), none]) dX7_fewestToBar_134 (Nat.le_of_ble_eq_true rfl) (Nat.le_of_ble_eq_true rfl) rfl ?_
    refine wp_iconst dX7_fewestToBar_136 ?_
    refine wp_istore (L2 := [some (Rv 10), some (Rv a1), some (Rv a2), some (Iv x3), some (Iv x3), some (Iv 0)]) dX7_fewestToBar_137 (Nat.le_of_ble_eq_true rfl) (Nat.le_of_ble_eq_true rfl) rfl ?_
    exact h
  · have h := h.2 q3
    refine wp_aload_n dX7_fewestToBar_52 rfl ha2.p ?_
    refine wp_getf (t := Iv (M a2 1)) (M a2 1) dX7_fewestToBar_53 (fl_X7_25 rfl) ha2.k rfl rfl ?_
    refine wp_iconst dX7_fewestToBar_56 ?_
    refine wp_isub dX7_fewestToBar_57 ?_
    refine wp_istore (L2 := [some (Rv 10), some (Rv a1), some (Rv a2), some (Iv x3), some (Iv x4), some (Iv ((M a2 1) - 1))]) dX7_fewestToBar_58 (Nat.le_of_ble_eq_true rfl) (Nat.le_of_ble_eq_true rfl) rfl ?_
    exact h
theorem gX7_fewestToBar_60 {x3 x4 x5 a1 a2 : Int} {n1 : Nat} (ha1 : isL a1 n1) {n2 : Nat} (ha2 : isL a2 n2) {M : Mem} {Q : Vl → Mem → Prop} (h : inr x5 ∧ ((x5 < 0 → wp 0 yX7_fewestToBar 43 [some (Rv 10), some (Rv a1), some (Rv a2), some (Iv x3), some (Iv (x4 + 1)), none] [] M Q) ∧ (0 ≤ x5 → 0 ≤ x4 ∧ (x4 < n1 ∧ (inr x4 ∧ (x5 < n2 ∧ (((M (a1 + 1) x4) = (M (a2 + 1) x5) ∨ (inr (M (a1 + 1) x4) ∧ inr (M (a2 + 1) x5))) ∧ (((M (a1 + 1) x4) ≠ (M (a2 + 1) x5) → wp 0 yX7_fewestToBar 60 [some (Rv 10), some (Rv a1), some (Rv a2), some (Iv x3), some (Iv x4), some (Iv (x5 + (-1)))] [] M Q) ∧ ((M (a1 + 1) x4) = (M (a2 + 1) x5) → 0 ≤ x5 + 1 ∧ (x5 + 1 < 41 ∧ (x5 < 41 ∧ (inr (M 14 (x5 + 1)) ∧ (inr (M 14 x5) ∧ (wp 0 yX7_fewestToBar 60 [some (Rv 10), some (Rv a1), some (Rv a2), some (Iv x3), some (Iv x4), some (Iv (x5 + (-1)))] [] (up (up M 14 (x5 + 1) (if (M 14 x5) < (M 14 (x5 + 1)) then (M 14 x5) else (M 14 (x5 + 1)))) 14 x5 (((up M 14 (x5 + 1) (if (M 14 x5) < (M 14 (x5 + 1)) then (M 14 x5) else (M 14 (x5 + 1)))) 14 x5) + 1)) Q)))))))))))))) : wp 0 yX7_fewestToBar 60 [some (Rv 10), some (Rv a1), some (Rv a2), some (Iv x3), some (Iv x4), some (Iv x5)] [] M Q := by
  refine wp_iload dX7_fewestToBar_60 rfl ?_
  obtain ⟨o1, h⟩ := h
  refine wp_if_lt (tgt := 127) dX7_fewestToBar_62 (by decide) o1 (fun q2 => ?_) (fun q2 => ?_)
  · have h := h.1 q2
    refine wp_iinc (L2 := [some (Rv 10), some (Rv a1), some (Rv a2), some (Iv x3), some (Iv (x4 + 1)), some (Iv x5)]) dX7_fewestToBar_127 rfl (Nat.le_of_ble_eq_true rfl) (Nat.le_of_ble_eq_true rfl) rfl ?_
    refine wp_goto (tgt := 43) dX7_fewestToBar_130 (by decide) ?_
    exact wp_weak [true, true, true, true, true, false] rfl h
  · have h := h.2 q2
    refine wp_aload_n dX7_fewestToBar_65 rfl ha1.p ?_
    refine wp_getf (t := Rv (a1 + 1)) (a1 + 1) dX7_fewestToBar_66 (fl_X7_31 rfl) ha1.k rfl rfl ?_
    refine wp_iload dX7_fewestToBar_69 rfl ?_
    obtain ⟨o3, h⟩ := h
    obtain ⟨o4, h⟩ := h
    obtain ⟨o5, h⟩ := h
    refine wp_iald (M (a1 + 1) x4) dX7_fewestToBar_71 ha1.a.k ha1.a.n o3 o4 o5 rfl ?_
    refine wp_aload_n dX7_fewestToBar_72 rfl ha2.p ?_
    refine wp_getf (t := Rv (a2 + 1)) (a2 + 1) dX7_fewestToBar_73 (fl_X7_31 rfl) ha2.k rfl rfl ?_
    refine wp_iload dX7_fewestToBar_76 rfl ?_
    obtain ⟨o6, h⟩ := h
    refine wp_iald (M (a2 + 1) x5) dX7_fewestToBar_78 ha2.a.k ha2.a.n q2 o6 o1 rfl ?_
    obtain ⟨o7, h⟩ := h
    refine wp_icmp_ne (tgt := 121) dX7_fewestToBar_79 (by decide) o7 (fun q8 => ?_) (fun q8 => ?_)
    · have h := h.1 q8
      refine wp_iinc (L2 := [some (Rv 10), some (Rv a1), some (Rv a2), some (Iv x3), some (Iv x4), some (Iv (x5 + (-1)))]) dX7_fewestToBar_121 rfl (Nat.le_of_ble_eq_true rfl) (Nat.le_of_ble_eq_true rfl) rfl ?_
      refine wp_goto (tgt := 60) dX7_fewestToBar_124 (by decide) ?_
      exact h
    · have h := h.2 q8
      refine wp_aload_n dX7_fewestToBar_82 rfl (by decide) ?_
      refine wp_getf (t := Rv 14) 14 dX7_fewestToBar_83 (fl_X7_22 rfl) kd_10 rfl rfl ?_
      refine wp_iload dX7_fewestToBar_86 rfl ?_
      refine wp_iconst dX7_fewestToBar_88 ?_
      refine wp_iadd dX7_fewestToBar_89 ?_
      refine wp_aload_n dX7_fewestToBar_90 rfl (by decide) ?_
      refine wp_getf (t := Rv 14) 14 dX7_fewestToBar_91 (fl_X7_22 rfl) kd_10 rfl rfl ?_
      refine wp_iload dX7_fewestToBar_94 rfl ?_
      refine wp_iconst dX7_fewestToBar_96 ?_
      refine wp_iadd dX7_fewestToBar_97 ?_
      obtain ⟨o9, h⟩ := h
      obtain ⟨o10, h⟩ := h
      refine wp_iald (M 14 (x5 + 1)) dX7_fewestToBar_98 kd_14 sz_14 o9 o10 (⟨by omega, by omega⟩) rfl ?_
      refine wp_aload_n dX7_fewestToBar_99 rfl (by decide) ?_
      refine wp_getf (t := Rv 14) 14 dX7_fewestToBar_100 (fl_X7_22 rfl) kd_10 rfl rfl ?_
      refine wp_iload dX7_fewestToBar_103 rfl ?_
      obtain ⟨o11, h⟩ := h
      refine wp_iald (M 14 x5) dX7_fewestToBar_105 kd_14 sz_14 q2 o11 (⟨by omega, by omega⟩) rfl ?_
      obtain ⟨o12, h⟩ := h
      obtain ⟨o13, h⟩ := h
      refine wp_mmin dX7_fewestToBar_106 (ml_X7_38 rfl) o12 o13 (Nat.le_of_ble_eq_true rfl) (by decide) (by decide) ?_
      refine wp_iast dX7_fewestToBar_109 kd_14 sz_14 o9 o10 (⟨by omega, by omega⟩) ?_
      refine wp_aload_n dX7_fewestToBar_110 rfl (by decide) ?_
      refine wp_getf (t := Rv 14) 14 dX7_fewestToBar_111 (fl_X7_22 rfl) kd_10 rfl rfl ?_
      refine wp_iload dX7_fewestToBar_114 rfl ?_
      refine wp_dup2 dX7_fewestToBar_116 rfl rfl ?_
      refine wp_iald ((up M 14 (x5 + 1) (if (M 14 x5) < (M 14 (x5 + 1)) then (M 14 x5) else (M 14 (x5 + 1)))) 14 x5) dX7_fewestToBar_117 kd_14 sz_14 q2 o11 (⟨by omega, by omega⟩) rfl ?_
      refine wp_iconst dX7_fewestToBar_118 ?_
      refine wp_iadd dX7_fewestToBar_119 ?_
      refine wp_iast dX7_fewestToBar_120 kd_14 sz_14 q2 o11 (⟨by omega, by omega⟩) ?_
      refine wp_iinc (L2 := [some (Rv 10), some (Rv a1), some (Rv a2), some (Iv x3), some (Iv x4), some (Iv (x5 + (-1)))]) dX7_fewestToBar_121 rfl (Nat.le_of_ble_eq_true rfl) (Nat.le_of_ble_eq_true rfl) rfl ?_
      refine wp_goto (tgt := 60) dX7_fewestToBar_124 (by decide) ?_
      exact h
theorem gX7_fewestToBar_139 {x3 x4 x5 a1 a2 : Int} {n1 : Nat} (ha1 : isL a1 n1) {n2 : Nat} (ha2 : isL a2 n2) {M : Mem} {Q : Vl → Mem → Prop} (h : inr x5 ∧ (inr (M a2 1) ∧ (((M a2 1) ≤ x5 → Q (Iv x4) M) ∧ (x5 < (M a2 1) → 0 ≤ x5 ∧ (x5 < 41 ∧ (inr x4 ∧ (inr (M 14 x5) ∧ (wp 0 yX7_fewestToBar 139 [some (Rv 10), some (Rv a1), some (Rv a2), some (Iv x3), some (Iv (if (M 14 x5) < x4 then (M 14 x5) else x4)), some (Iv (x5 + 1))] [] M Q)))))))) : wp 0 yX7_fewestToBar 139 [some (Rv 10), some (Rv a1), some (Rv a2), some (Iv x3), some (Iv x4), some (Iv x5)] [] M Q := by
  refine wp_iload dX7_fewestToBar_139 rfl ?_
  refine wp_aload_n dX7_fewestToBar_141 rfl ha2.p ?_
  refine wp_getf (t := Iv (M a2 1)) (M a2 1) dX7_fewestToBar_142 (fl_X7_25 rfl) ha2.k rfl rfl ?_
  obtain ⟨o1, h⟩ := h
  obtain ⟨o2, h⟩ := h
  refine wp_icmp_ge (tgt := 168) dX7_fewestToBar_145 (by decide) o1 o2 (fun q3 => ?_) (fun q3 => ?_)
  · have h := h.1 q3
    refine wp_iload dX7_fewestToBar_168 rfl ?_
    exact wp_iret dX7_fewestToBar_170 rfl (Or.inr ⟨rfl, rfl, rfl, by decide⟩) rfl h
  · have h := h.2 q3
    refine wp_iload dX7_fewestToBar_148 rfl ?_
    refine wp_aload_n dX7_fewestToBar_150 rfl (by decide) ?_
    refine wp_getf (t := Rv 14) 14 dX7_fewestToBar_151 (fl_X7_22 rfl) kd_10 rfl rfl ?_
    refine wp_iload dX7_fewestToBar_154 rfl ?_
    obtain ⟨o4, h⟩ := h
    obtain ⟨o5, h⟩ := h
    refine wp_iald (M 14 x5) dX7_fewestToBar_156 kd_14 sz_14 o4 o5 (⟨by omega, by omega⟩) rfl ?_
    obtain ⟨o6, h⟩ := h
    obtain ⟨o7, h⟩ := h
    refine wp_mmin dX7_fewestToBar_157 (ml_X7_38 rfl) o6 o7 (Nat.le_of_ble_eq_true rfl) (by decide) (by decide) ?_
    refine wp_istore (L2 := [some (Rv 10), some (Rv a1), some (Rv a2), some (Iv x3), some (Iv (if (M 14 x5) < x4 then (M 14 x5) else x4)), some (Iv x5)]) dX7_fewestToBar_160 (Nat.le_of_ble_eq_true rfl) (Nat.le_of_ble_eq_true rfl) rfl ?_
    refine wp_iinc (L2 := [some (Rv 10), some (Rv a1), some (Rv a2), some (Iv x3), some (Iv (if (M 14 x5) < x4 then (M 14 x5) else x4)), some (Iv (x5 + 1))]) dX7_fewestToBar_162 rfl (Nat.le_of_ble_eq_true rfl) (Nat.le_of_ble_eq_true rfl) rfl ?_
    refine wp_goto (tgt := 139) dX7_fewestToBar_165 (by decide) ?_
    exact h
theorem gX8_read {a0 a1 : Int} (ha0 : isS a0) {n1 : Nat} (ha1 : isL a1 n1) {M : Mem} {Q : Vl → Mem → Prop} (h : wp 0 yX8_read 10 [some (Rv a0), some (Rv a1), some (Iv ((M a1 1) * 6)), some (Iv 0), none] [] M Q) : wp 0 yX8_read 0 [some (Rv a0), some (Rv a1), none, none, none] [] M Q := by
  refine wp_aload_n dX8_read_0 rfl ha1.p ?_
  refine wp_getf (t := Iv (M a1 1)) (M a1 1) dX8_read_1 (fl_X8_15 rfl) ha1.k rfl rfl ?_
  refine wp_bipush dX8_read_4 (by decide) ?_
  refine wp_imul dX8_read_6 ?_
  refine wp_istore_n (L2 := [some (Rv a0), some (Rv a1), some (Iv ((M a1 1) * 6)), none, none]) dX8_read_7 (Nat.le_of_ble_eq_true rfl) (Nat.le_of_ble_eq_true rfl) rfl ?_
  refine wp_iconst dX8_read_8 ?_
  refine wp_istore_n (L2 := [some (Rv a0), some (Rv a1), some (Iv ((M a1 1) * 6)), some (Iv 0), none]) dX8_read_9 (Nat.le_of_ble_eq_true rfl) (Nat.le_of_ble_eq_true rfl) rfl ?_
  exact h
theorem eX8_read {a0 a1 : Int} (ha0 : isS a0) {n1 : Nat} (ha1 : isL a1 n1) {M : Mem} {Q : Vl → Mem → Prop} (h : wp 0 yX8_read 10 [some (Rv a0), some (Rv a1), some (Iv ((M a1 1) * 6)), some (Iv 0), none] [] M Q) : cl 0 yX8_read [Rv a0, Rv a1] M Q := enterG (by decide +kernel) (by exact Or.inl rfl) (Nat.le_of_ble_eq_true rfl) rfl (gX8_read ha0 ha1 h)
theorem gX8_read_10 {x2 x3 a0 a1 : Int} (ha0 : isS a0) {n1 : Nat} (ha1 : isL a1 n1) {M : Mem} {Q : Vl → Mem → Prop} (h : inr x3 ∧ ((6 ≤ x3 → wp 0 yX8_read 38 [some (Rv a0), some (Rv a1), some (Iv x2), some (Iv ((M a1 1) - 1)), none] [] M Q) ∧ (x3 < 6 → 0 ≤ x2 + x3 ∧ (x2 + x3 < 246 ∧ (wp 0 yX8_read 10 [some (Rv a0), some (Rv a1), some (Iv x2), some (Iv (x3 + 1)), none] [] (up M (a0 + 1) (x2 + x3) 0) Q))))) : wp 0 yX8_read 10 [some (Rv a0), some (Rv a1), some (Iv x2), some (Iv x3), none] [] M Q := by
  refine wp_iload_n dX8_read_10 rfl ?_
  refine wp_bipush dX8_read_11 (by decide) ?_
  obtain ⟨o1, h⟩ := h
  refine wp_icmp_ge (tgt := 31) dX8_read_13 (by decide) o1 (by decide) (fun q2 => ?_) (fun q2 => ?_)
  · have h := h.1 q2
    refine wp_aload_n dX8_read_31 rfl ha1.p ?_
    refine wp_getf (t := Iv (M a1 1)) (M a1 1) dX8_read_32 (fl_X8_15 rfl) ha1.k rfl rfl ?_
    refine wp_iconst dX8_read_35 ?_
    refine wp_isub dX8_read_36 ?_
    refine wp_istore_n (L2 := [some (Rv a0), some (Rv a1), some (Iv x2), some (Iv ((M a1 1) - 1)), none]) dX8_read_37 (Nat.le_of_ble_eq_true rfl) (Nat.le_of_ble_eq_true rfl) rfl ?_
    exact h
  · have h := h.2 q2
    refine wp_aload_n dX8_read_16 rfl ha0.p ?_
    refine wp_getf (t := Rv (a0 + 1)) (a0 + 1) dX8_read_17 (fl_X8_9 rfl) ha0.k rfl rfl ?_
    refine wp_iload_n dX8_read_20 rfl ?_
    refine wp_iload_n dX8_read_21 rfl ?_
    refine wp_iadd dX8_read_22 ?_
    refine wp_iconst dX8_read_23 ?_
    obtain ⟨o3, h⟩ := h
    obtain ⟨o4, h⟩ := h
    refine wp_iast dX8_read_24 ha0.a.k ha0.a.n o3 o4 (⟨by omega, by omega⟩) ?_
    refine wp_iinc (L2 := [some (Rv a0), some (Rv a1), some (Iv x2), some (Iv (x3 + 1)), none]) dX8_read_25 rfl (Nat.le_of_ble_eq_true rfl) (Nat.le_of_ble_eq_true rfl) rfl ?_
    refine wp_goto (tgt := 10) dX8_read_28 (by decide) ?_
    exact h
theorem gX8_read_38 {x2 x3 a0 a1 : Int} (ha0 : isS a0) {n1 : Nat} (ha1 : isL a1 n1) {M : Mem} {Q : Vl → Mem → Prop} (h : inr x3 ∧ ((x3 < 0 → Q (Iv 0) M) ∧ (0 ≤ x3 → 0 ≤ (x3 * 6) + 6 ∧ (0 ≤ x3 * 6 ∧ (((x3 * 6) + 6) + 6 ≤ 246 ∧ ((x3 * 6) + 6 ≤ 246 ∧ (x3 < n1 ∧ (0 ≤ (x3 * 6) + ((setA M (a0 + 1) (cpyf M (a0 + 1) ((x3 * 6) + 6) (a0 + 1) (x3 * 6) 6)) (a1 + 1) x3) ∧ ((x3 * 6) + ((setA M (a0 + 1) (cpyf M (a0 + 1) ((x3 * 6) + 6) (a0 + 1) (x3 * 6) 6)) (a1 + 1) x3) < 246 ∧ (wp 0 yX8_read 38 [some (Rv a0), some (Rv a1), some (Iv x2), some (Iv (x3 + (-1))), none] [] (up (setA M (a0 + 1) (cpyf M (a0 + 1) ((x3 * 6) + 6) (a0 + 1) (x3 * 6) 6)) (a0 + 1) ((x3 * 6) + ((setA M (a0 + 1) (cpyf M (a0 + 1) ((x3 * 6) + 6) (a0 + 1) (x3 * 6) 6)) (a1 + 1) x3)) (x3 + 1)) Q)))))))))) : wp 0 yX8_read 38 [some (Rv a0), some (Rv a1), some (Iv x2), some (Iv x3), none] [] M Q := by
  refine wp_iload_n dX8_read_38 rfl ?_
  obtain ⟨o1, h⟩ := h
  refine wp_if_lt (tgt := 91) dX8_read_39 (by decide) o1 (fun q2 => ?_) (fun q2 => ?_)
  · have h := h.1 q2
    exact wp_vret dX8_read_91 rfl (Or.inr ⟨rfl, rfl, rfl, by decide⟩) rfl h
  · have h := h.2 q2
    refine wp_iload_n dX8_read_42 rfl ?_
    refine wp_bipush dX8_read_43 (by decide) ?_
    refine wp_imul dX8_read_45 ?_
    refine wp_istore (L2 := [some (Rv a0), some (Rv a1), some (Iv x2), some (Iv x3), some (Iv (x3 * 6))]) dX8_read_46 (Nat.le_of_ble_eq_true rfl) (Nat.le_of_ble_eq_true rfl) rfl ?_
    refine wp_aload_n dX8_read_48 rfl ha0.p ?_
    refine wp_getf (t := Rv (a0 + 1)) (a0 + 1) dX8_read_49 (fl_X8_9 rfl) ha0.k rfl rfl ?_
    refine wp_iload dX8_read_52 rfl ?_
    refine wp_bipush dX8_read_54 (by decide) ?_
    refine wp_iadd dX8_read_56 ?_
    refine wp_aload_n dX8_read_57 rfl ha0.p ?_
    refine wp_getf (t := Rv (a0 + 1)) (a0 + 1) dX8_read_58 (fl_X8_9 rfl) ha0.k rfl rfl ?_
    refine wp_iload dX8_read_61 rfl ?_
    refine wp_bipush dX8_read_63 (by decide) ?_
    obtain ⟨o3, h⟩ := h
    obtain ⟨o4, h⟩ := h
    obtain ⟨o5, h⟩ := h
    obtain ⟨o6, h⟩ := h
    refine wp_copy dX8_read_65 (ml_X8_21 rfl) ha0.a.k ha0.a.k ha0.a.n ha0.a.n o3 o4 (by decide) o5 o6 ⟨by omega, by omega⟩ ⟨by omega, by omega⟩ (by decide) (Nat.le_of_ble_eq_true rfl) (by decide) ?_
    refine wp_aload_n dX8_read_68 rfl ha0.p ?_
    refine wp_getf (t := Rv (a0 + 1)) (a0 + 1) dX8_read_69 (fl_X8_9 rfl) ha0.k rfl rfl ?_
    refine wp_iload dX8_read_72 rfl ?_
    refine wp_aload_n dX8_read_74 rfl ha1.p ?_
    refine wp_getf (t := Rv (a1 + 1)) (a1 + 1) dX8_read_75 (fl_X8_27 rfl) ha1.k rfl rfl ?_
    refine wp_iload_n dX8_read_78 rfl ?_
    obtain ⟨o7, h⟩ := h
    refine wp_iald ((setA M (a0 + 1) (cpyf M (a0 + 1) ((x3 * 6) + 6) (a0 + 1) (x3 * 6) 6)) (a1 + 1) x3) dX8_read_79 ha1.a.k ha1.a.n q2 o7 o1 rfl ?_
    refine wp_iadd dX8_read_80 ?_
    refine wp_iload_n dX8_read_81 rfl ?_
    refine wp_iconst dX8_read_82 ?_
    refine wp_iadd dX8_read_83 ?_
    obtain ⟨o8, h⟩ := h
    obtain ⟨o9, h⟩ := h
    refine wp_iast dX8_read_84 ha0.a.k ha0.a.n o8 o9 (⟨by omega, by omega⟩) ?_
    refine wp_iinc (L2 := [some (Rv a0), some (Rv a1), some (Iv x2), some (Iv (x3 + (-1))), some (Iv (x3 * 6))]) dX8_read_85 rfl (Nat.le_of_ble_eq_true rfl) (Nat.le_of_ble_eq_true rfl) rfl ?_
    refine wp_goto (tgt := 38) dX8_read_88 (by decide) ?_
    exact wp_weak [true, true, true, true, false] rfl h
theorem gX8_behind {x1 x2 a0 : Int} (ha0 : isS a0) {M : Mem} {Q : Vl → Mem → Prop} (h : 0 ≤ (x1 * 6) + x2 ∧ ((x1 * 6) + x2 < 246 ∧ (Q (Iv (M (a0 + 1) ((x1 * 6) + x2))) M))) : wp 0 yX8_behind 0 [some (Rv a0), some (Iv x1), some (Iv x2)] [] M Q := by
  refine wp_aload_n dX8_behind_0 rfl ha0.p ?_
  refine wp_getf (t := Rv (a0 + 1)) (a0 + 1) dX8_behind_1 (fl_X8_9 rfl) ha0.k rfl rfl ?_
  refine wp_iload_n dX8_behind_4 rfl ?_
  refine wp_bipush dX8_behind_5 (by decide) ?_
  refine wp_imul dX8_behind_7 ?_
  refine wp_iload_n dX8_behind_8 rfl ?_
  refine wp_iadd dX8_behind_9 ?_
  obtain ⟨o1, h⟩ := h
  obtain ⟨o2, h⟩ := h
  refine wp_iald (M (a0 + 1) ((x1 * 6) + x2)) dX8_behind_10 ha0.a.k ha0.a.n o1 o2 (⟨by omega, by omega⟩) rfl ?_
  exact wp_iret dX8_behind_11 rfl (Or.inr ⟨rfl, rfl, rfl, by decide⟩) rfl h
theorem eX8_behind {x1 x2 a0 : Int} (ha0 : isS a0) {M : Mem} {Q : Vl → Mem → Prop} (h : 0 ≤ (x1 * 6) + x2 ∧ ((x1 * 6) + x2 < 246 ∧ (Q (Iv (M (a0 + 1) ((x1 * 6) + x2))) M))) : cl 0 yX8_behind [Rv a0, Iv x1, Iv x2] M Q := enterG (by decide +kernel) (by exact Or.inr (Or.inl rfl)) (Nat.le_of_ble_eq_true rfl) rfl (gX8_behind ha0 h)
theorem gX9_search {x2 x3 a1 : Int} {n1 : Nat} (ha1 : isL a1 n1) {M : Mem} {Q : Vl → Mem → Prop} (h : wp 0 yX9_search 26 [some (Rv 28), some (Rv a1), some (Iv x2), some (Iv x3), some (Iv 0), none] [] (up (up (up (up M 28 6 x2) 28 7 ((up M 28 6 x2) a1 1)) 28 8 x3) 28 9 0) Q) : wp 0 yX9_search 0 [some (Rv 28), some (Rv a1), some (Iv x2), some (Iv x3), none, none] [] M Q := by
  refine wp_aload_n dX9_search_0 rfl (by decide) ?_
  refine wp_iload_n dX9_search_1 rfl ?_
  refine wp_putf (x := x2) dX9_search_2 (fl_X9_30 rfl) kd_28 (fun _ => rfl) rfl rfl trivial ?_
  refine wp_aload_n dX9_search_5 rfl (by decide) ?_
  refine wp_aload_n dX9_search_6 rfl ha1.p ?_
  refine wp_getf (t := Iv ((up M 28 6 x2) a1 1)) ((up M 28 6 x2) a1 1) dX9_search_7 (fl_X9_34 rfl) ha1.k rfl rfl ?_
  refine wp_putf (x := ((up M 28 6 x2) a1 1)) dX9_search_10 (fl_X9_39 rfl) kd_28 (fun _ => rfl) rfl rfl trivial ?_
  refine wp_aload_n dX9_search_13 rfl (by decide) ?_
  refine wp_iload_n dX9_search_14 rfl ?_
  refine wp_putf (x := x3) dX9_search_15 (fl_X9_42 rfl) kd_28 (fun _ => rfl) rfl rfl trivial ?_
  refine wp_aload_n dX9_search_18 rfl (by decide) ?_
  refine wp_iconst dX9_search_19 ?_
  refine wp_putf (x := 0) dX9_search_20 (fl_X9_45 rfl) kd_28 (fun _ => rfl) rfl rfl trivial ?_
  refine wp_iconst dX9_search_23 ?_
  refine wp_istore (L2 := [some (Rv 28), some (Rv a1), some (Iv x2), some (Iv x3), some (Iv 0), none]) dX9_search_24 (Nat.le_of_ble_eq_true rfl) (Nat.le_of_ble_eq_true rfl) rfl ?_
  exact h
theorem eX9_search {x2 x3 a1 : Int} {n1 : Nat} (ha1 : isL a1 n1) {M : Mem} {Q : Vl → Mem → Prop} (h : wp 0 yX9_search 26 [some (Rv 28), some (Rv a1), some (Iv x2), some (Iv x3), some (Iv 0), none] [] (up (up (up (up M 28 6 x2) 28 7 ((up M 28 6 x2) a1 1)) 28 8 x3) 28 9 0) Q) : cl 0 yX9_search [Rv 28, Rv a1, Iv x2, Iv x3] M Q := enterG (by decide +kernel) (by exact Or.inr (Or.inl rfl)) (Nat.le_of_ble_eq_true rfl) rfl (gX9_search ha1 h)
theorem gX9_search_26 {x2 x3 x4 a1 : Int} {n1 : Nat} (ha1 : isL a1 n1) {M : Mem} {Q : Vl → Mem → Prop} (h : inr x4 ∧ (inr (M a1 1) ∧ (((M a1 1) ≤ x4 → cl 0 yX9_countsOfDepth [Rv 28] M (QR (fun z4 M4 => ∃ n4 : Nat, isA z4 n4 ∧ (0 ≤ (n4 : Int) ∧ (0 + (n4 : Int) ≤ n4 ∧ (0 + (n4 : Int) ≤ 216 ∧ (wp 0 yX9_search 80 [some (Rv 28), some (Rv a1), some (Iv x2), some (Iv x3), some (Rv z4), some (Iv (((setA M4 34 (cpyf M4 z4 0 34 0 (n4 : Int))) a1 1) - 1))] [] (setA M4 34 (cpyf M4 z4 0 34 0 (n4 : Int))) Q))))))) ∧ (x4 < (M a1 1) → 0 ≤ x4 ∧ (x4 < n1 ∧ (cl 0 yX9_addLetter [Rv 28, Iv (M (a1 + 1) x4)] M (QV (fun M10 => (wp 0 yX9_search 26 [some (Rv 28), some (Rv a1), some (Iv x2), some (Iv x3), some (Iv (x4 + 1)), none] [] M10 Q))))))))) : wp 0 yX9_search 26 [some (Rv 28), some (Rv a1), some (Iv x2), some (Iv x3), some (Iv x4), none] [] M Q := by
  refine wp_iload dX9_search_26 rfl ?_
  refine wp_aload_n dX9_search_28 rfl ha1.p ?_
  refine wp_getf (t := Iv (M a1 1)) (M a1 1) dX9_search_29 (fl_X9_34 rfl) ha1.k rfl rfl ?_
  obtain ⟨o1, h⟩ := h
  obtain ⟨o2, h⟩ := h
  refine wp_icmp_ge (tgt := 52) dX9_search_32 (by decide) o1 o2 (fun q3 => ?_) (fun q3 => ?_)
  · have h := h.1 q3
    refine wp_aload_n dX9_search_52 rfl (by decide) ?_
    refine wp_callV (e1 := 0) (as := []) (S := []) dX9_search_53 (cs_X9_55 rfl) kd_28 rfl rfl (Nat.le_of_ble_eq_true rfl) (Nat.le_of_ble_eq_true rfl) h (fun v4 M4 q4 r4 => ?_)
    obtain ⟨z4, rfl, hz4⟩ := retV_r r4 rfl
    obtain ⟨n4, ha4, h⟩ := q4
    refine wp_astore (L2 := [some (Rv 28), some (Rv a1), some (Iv x2), some (Iv x3), some (Rv z4), none]) dX9_search_56 (Nat.le_of_ble_eq_true rfl) (Nat.le_of_ble_eq_true rfl) rfl ha4.p ?_
    refine wp_aload dX9_search_58 rfl ha4.p ?_
    refine wp_iconst dX9_search_60 ?_
    refine wp_aload_n dX9_search_61 rfl (by decide) ?_
    refine wp_getf (t := Rv 34) 34 dX9_search_62 (fl_X9_27 rfl) kd_28 rfl rfl ?_
    refine wp_iconst dX9_search_65 ?_
    refine wp_aload dX9_search_66 rfl ha4.p ?_
    refine wp_alen dX9_search_68 ha4.k (by decide) (by decide) ha4.n ?_
    obtain ⟨o5, h⟩ := h
    obtain ⟨o6, h⟩ := h
    obtain ⟨o7, h⟩ := h
    refine wp_copy dX9_search_69 (ml_X9_59 rfl) ha4.k kd_34 ha4.n sz_34 (by decide) (by decide) o5 o6 o7 (by decide) (by decide) ⟨by omega, by omega⟩ (Nat.le_of_ble_eq_true rfl) (by decide) ?_
    refine wp_aload_n dX9_search_72 rfl ha1.p ?_
    refine wp_getf (t := Iv ((setA M4 34 (cpyf M4 z4 0 34 0 (n4 : Int))) a1 1)) ((setA M4 34 (cpyf M4 z4 0 34 0 (n4 : Int))) a1 1) dX9_search_73 (fl_X9_34 rfl) ha1.k rfl rfl ?_
    refine wp_iconst dX9_search_76 ?_
    refine wp_isub dX9_search_77 ?_
    refine wp_istore (L2 := [some (Rv 28), some (Rv a1), some (Iv x2), some (Iv x3), some (Rv z4), some (Iv (((setA M4 34 (cpyf M4 z4 0 34 0 (n4 : Int))) a1 1) - 1))]) dX9_search_78 (Nat.le_of_ble_eq_true rfl) (Nat.le_of_ble_eq_true rfl) rfl ?_
    exact h
  · have h := h.2 q3
    refine wp_aload_n dX9_search_35 rfl (by decide) ?_
    refine wp_aload_n dX9_search_36 rfl ha1.p ?_
    refine wp_getf (t := Rv (a1 + 1)) (a1 + 1) dX9_search_37 (fl_X9_48 rfl) ha1.k rfl rfl ?_
    refine wp_iload dX9_search_40 rfl ?_
    obtain ⟨o8, h⟩ := h
    obtain ⟨o9, h⟩ := h
    refine wp_iald (M (a1 + 1) x4) dX9_search_42 ha1.a.k ha1.a.n o8 o9 o1 rfl ?_
    refine wp_callV (e1 := 0) (as := [Iv (M (a1 + 1) x4)]) (S := []) dX9_search_43 (cs_X9_51 rfl) kd_28 rfl rfl (Nat.le_of_ble_eq_true rfl) (Nat.le_of_ble_eq_true rfl) h (fun v10 M10 q10 r10 => ?_)
    have h := q10
    refine wp_iinc (L2 := [some (Rv 28), some (Rv a1), some (Iv x2), some (Iv x3), some (Iv (x4 + 1)), none]) dX9_search_46 rfl (Nat.le_of_ble_eq_true rfl) (Nat.le_of_ble_eq_true rfl) rfl ?_
    refine wp_goto (tgt := 26) dX9_search_49 (by decide) ?_
    exact h
theorem gX9_search_80 {x2 x3 x5 a1 a4 : Int} {n1 : Nat} (ha1 : isL a1 n1) {n4 : Nat} (ha4 : isA a4 n4) {M : Mem} {Q : Vl → Mem → Prop} (h : inr x5 ∧ ((x5 < 0 → cl 41 yX9_grow [Rv 28, Iv 0] M (QV (fun M3 => (Q (Iv (M3 28 9)) M3)))) ∧ (0 ≤ x5 → x5 < n1 ∧ (cl 0 yX9_takeLetter [Rv 28, Iv (M (a1 + 1) x5)] M (QV (fun M5 => (wp 0 yX9_search 80 [some (Rv 28), some (Rv a1), some (Iv x2), some (Iv x3), some (Rv a4), some (Iv (x5 + (-1)))] [] M5 Q))))))) : wp 0 yX9_search 80 [some (Rv 28), some (Rv a1), some (Iv x2), some (Iv x3), some (Rv a4), some (Iv x5)] [] M Q := by
  refine wp_iload dX9_search_80 rfl ?_
  obtain ⟨o1, h⟩ := h
  refine wp_if_lt (tgt := 102) dX9_search_82 (by decide) o1 (fun q2 => ?_) (fun q2 => ?_)
  · have h := h.1 q2
    refine wp_aload_n dX9_search_102 rfl (by decide) ?_
    refine wp_iconst dX9_search_103 ?_
    refine wp_callV (e1 := 41) (as := [Iv 0]) (S := []) dX9_search_104 (cs_X9_68 rfl) kd_28 rfl rfl (Nat.le_of_ble_eq_true rfl) (Nat.le_of_ble_eq_true rfl) h (fun v3 M3 q3 r3 => ?_)
    have h := q3
    refine wp_aload_n dX9_search_107 rfl (by decide) ?_
    refine wp_getf (t := Iv (M3 28 9)) (M3 28 9) dX9_search_108 (fl_X9_45 rfl) kd_28 rfl rfl ?_
    exact wp_iret dX9_search_111 rfl (Or.inr ⟨rfl, rfl, rfl, by decide⟩) rfl h
  · have h := h.2 q2
    refine wp_aload_n dX9_search_85 rfl (by decide) ?_
    refine wp_aload_n dX9_search_86 rfl ha1.p ?_
    refine wp_getf (t := Rv (a1 + 1)) (a1 + 1) dX9_search_87 (fl_X9_48 rfl) ha1.k rfl rfl ?_
    refine wp_iload dX9_search_90 rfl ?_
    obtain ⟨o4, h⟩ := h
    refine wp_iald (M (a1 + 1) x5) dX9_search_92 ha1.a.k ha1.a.n q2 o4 o1 rfl ?_
    refine wp_callV (e1 := 0) (as := [Iv (M (a1 + 1) x5)]) (S := []) dX9_search_93 (cs_X9_65 rfl) kd_28 rfl rfl (Nat.le_of_ble_eq_true rfl) (Nat.le_of_ble_eq_true rfl) h (fun v5 M5 q5 r5 => ?_)
    have h := q5
    refine wp_iinc (L2 := [some (Rv 28), some (Rv a1), some (Iv x2), some (Iv x3), some (Rv a4), some (Iv (x5 + (-1)))]) dX9_search_96 rfl (Nat.le_of_ble_eq_true rfl) (Nat.le_of_ble_eq_true rfl) rfl ?_
    refine wp_goto (tgt := 80) dX9_search_99 (by decide) ?_
    exact h
theorem gX9_countsOfDepth  {M : Mem} {Q : Vl → Mem → Prop} (h : inr (M 28 8) ∧ (((M 28 8) ≠ 1 → (((M 28 8) ≠ 2 → Q (Rv 33) M) ∧ ((M 28 8) = 2 → Q (Rv 32) M))) ∧ ((M 28 8) = 1 → Q (Rv 31) M))) : wp 0 yX9_countsOfDepth 0 [some (Rv 28)] [] M Q := by
  refine wp_aload_n dX9_countsOfDepth_0 rfl (by decide) ?_
  refine wp_getf (t := Iv (M 28 8)) (M 28 8) dX9_countsOfDepth_1 (fl_X9_42 rfl) kd_28 rfl rfl ?_
  refine wp_iconst dX9_countsOfDepth_4 ?_
  obtain ⟨o1, h⟩ := h
  refine wp_icmp_ne (tgt := 13) dX9_countsOfDepth_5 (by decide) (Or.inr ⟨o1, (by decide)⟩) (fun q2 => ?_) (fun q2 => ?_)
  · have h := h.1 q2
    refine wp_aload_n dX9_countsOfDepth_13 rfl (by decide) ?_
    refine wp_getf (t := Iv (M 28 8)) (M 28 8) dX9_countsOfDepth_14 (fl_X9_42 rfl) kd_28 rfl rfl ?_
    refine wp_iconst dX9_countsOfDepth_17 ?_
    refine wp_icmp_ne (tgt := 28) dX9_countsOfDepth_18 (by decide) (Or.inr ⟨o1, (by decide)⟩) (fun q3 => ?_) (fun q3 => ?_)
    · have h := h.1 q3
      refine wp_aload_n dX9_countsOfDepth_28 rfl (by decide) ?_
      refine wp_getf (t := Rv 33) 33 dX9_countsOfDepth_29 (fl_X9_24 rfl) kd_28 rfl rfl ?_
      exact wp_aret dX9_countsOfDepth_32 rfl (Or.inr ⟨rfl, rfl, rfl, by decide⟩) rfl (by decide) h
    · have h := h.2 q3
      refine wp_aload_n dX9_countsOfDepth_21 rfl (by decide) ?_
      refine wp_getf (t := Rv 32) 32 dX9_countsOfDepth_22 (fl_X9_21 rfl) kd_28 rfl rfl ?_
      refine wp_goto (tgt := 32) dX9_countsOfDepth_25 (by decide) ?_
      exact wp_aret dX9_countsOfDepth_32 rfl (Or.inr ⟨rfl, rfl, rfl, by decide⟩) rfl (by decide) h
  · have h := h.2 q2
    refine wp_aload_n dX9_countsOfDepth_8 rfl (by decide) ?_
    refine wp_getf (t := Rv 31) 31 dX9_countsOfDepth_9 (fl_X9_18 rfl) kd_28 rfl rfl ?_
    exact wp_aret dX9_countsOfDepth_12 rfl (Or.inr ⟨rfl, rfl, rfl, by decide⟩) rfl (by decide) h
theorem eX9_countsOfDepth  {M : Mem} {Q : Vl → Mem → Prop} (h : inr (M 28 8) ∧ (((M 28 8) ≠ 1 → (((M 28 8) ≠ 2 → Q (Rv 33) M) ∧ ((M 28 8) = 2 → Q (Rv 32) M))) ∧ ((M 28 8) = 1 → Q (Rv 31) M))) : cl 0 yX9_countsOfDepth [Rv 28] M Q := enterG (by decide +kernel) (by exact Or.inr (Or.inr (Or.inr (Or.inr rfl)))) (Nat.le_of_ble_eq_true rfl) rfl (gX9_countsOfDepth h)
theorem gX9_grow {e1 : Nat} {x1 : Int}  {M : Mem} {Q : Vl → Mem → Prop} (h : inr x1 ∧ (inr (M 28 7) ∧ ((x1 < (M 28 7) → wp (e1 + 1) yX9_grow 15 [some (Rv 28), some (Iv x1), some (Iv 0)] [] M Q) ∧ ((M 28 7) ≤ x1 → cl 0 yX9_keepTwin [Rv 28] M (QV (fun M4 => (Q (Iv 0) M4))))))) : wp (e1 + 1) yX9_grow 0 [some (Rv 28), some (Iv x1), none] [] M Q := by
  refine wp_iload_n dX9_grow_0 rfl ?_
  refine wp_aload_n dX9_grow_1 rfl (by decide) ?_
  refine wp_getf (t := Iv (M 28 7)) (M 28 7) dX9_grow_2 (fl_X9_39 rfl) kd_28 rfl rfl ?_
  obtain ⟨o1, h⟩ := h
  obtain ⟨o2, h⟩ := h
  refine wp_icmp_lt (tgt := 13) dX9_grow_5 (by decide) o1 o2 (fun q3 => ?_) (fun q3 => ?_)
  · have h := h.1 q3
    refine wp_iconst dX9_grow_13 ?_
    refine wp_istore_n (L2 := [some (Rv 28), some (Iv x1), some (Iv 0)]) dX9_grow_14 (Nat.le_of_ble_eq_true rfl) (Nat.le_of_ble_eq_true rfl) rfl ?_
    exact h
  · have h := h.2 q3
    refine wp_aload_n dX9_grow_8 rfl (by decide) ?_
    refine wp_callV (e1 := 0) (as := []) (S := []) dX9_grow_9 (cs_X9_71 rfl) kd_28 rfl rfl (Nat.le_of_ble_eq_true rfl) (by show 1 + 0 + 1 ≤ 3 + (e1 + 1); omega) h (fun v4 M4 q4 r4 => ?_)
    have h := q4
    exact wp_vret dX9_grow_12 rfl (Or.inr ⟨rfl, rfl, rfl, by omega⟩) rfl h
theorem eX9_grow {e1 : Nat} {x1 : Int}  {M : Mem} {Q : Vl → Mem → Prop} (h : inr x1 ∧ (inr (M 28 7) ∧ ((x1 < (M 28 7) → wp (e1 + 1) yX9_grow 15 [some (Rv 28), some (Iv x1), some (Iv 0)] [] M Q) ∧ ((M 28 7) ≤ x1 → cl 0 yX9_keepTwin [Rv 28] M (QV (fun M4 => (Q (Iv 0) M4))))))) : cl (e1 + 1) yX9_grow [Rv 28, Iv x1] M Q := enterG (by decide +kernel) (by exact Or.inl rfl) (Nat.le_of_ble_eq_true rfl) rfl (gX9_grow h)
theorem gX9_grow_15 {e1 : Nat} {x1 x2 : Int}  {M : Mem} {Q : Vl → Mem → Prop} (h : inr x2 ∧ (inr (M 28 6) ∧ (((M 28 6) ≤ x2 → Q (Iv 0) M) ∧ (x2 < (M 28 6) → 0 ≤ x1 ∧ (x1 < 40 ∧ (cl 0 yX9_addLetter [Rv 28, Iv x2] (up M 30 x1 x2) (QV (fun M6 => (cl 0 yX9_hasTooMany [Rv 28, Iv x2] M6 (QI (fun z7 M7 => ((z7 ≠ 0 → cl 0 yX9_takeLetter [Rv 28, Iv x2] M7 (QV (fun M9 => (wp (e1 + 1) yX9_grow 15 [some (Rv 28), some (Iv x1), some (Iv (x2 + 1))] [] M9 Q)))) ∧ (z7 = 0 → cl e1 yX9_grow [Rv 28, Iv (x1 + 1)] M7 (QV (fun M10 => (cl 0 yX9_takeLetter [Rv 28, Iv x2] M10 (QV (fun M11 => (wp (e1 + 1) yX9_grow 15 [some (Rv 28), some (Iv x1), some (Iv (x2 + 1))] [] M11 Q))))))))))))))))))) : wp (e1 + 1) yX9_grow 15 [some (Rv 28), some (Iv x1), some (Iv x2)] [] M Q := by
  refine wp_iload_n dX9_grow_15 rfl ?_
  refine wp_aload_n dX9_grow_16 rfl (by decide) ?_
  refine wp_getf (t := Iv (M 28 6)) (M 28 6) dX9_grow_17 (fl_X9_30 rfl) kd_28 rfl rfl ?_
  obtain ⟨o1, h⟩ := h
  obtain ⟨o2, h⟩ := h
  refine wp_icmp_ge (tgt := 61) dX9_grow_20 (by decide) o1 o2 (fun q3 => ?_) (fun q3 => ?_)
  · have h := h.1 q3
    exact wp_vret dX9_grow_61 rfl (Or.inr ⟨rfl, rfl, rfl, by omega⟩) rfl h
  · have h := h.2 q3
    refine wp_aload_n dX9_grow_23 rfl (by decide) ?_
    refine wp_getf (t := Rv 30) 30 dX9_grow_24 (fl_X9_15 rfl) kd_28 rfl rfl ?_
    refine wp_iload_n dX9_grow_27 rfl ?_
    refine wp_iload_n dX9_grow_28 rfl ?_
    obtain ⟨o4, h⟩ := h
    obtain ⟨o5, h⟩ := h
    refine wp_iast dX9_grow_29 kd_30 sz_30 o4 o5 (⟨by omega, by omega⟩) ?_
    refine wp_aload_n dX9_grow_30 rfl (by decide) ?_
    refine wp_iload_n dX9_grow_31 rfl ?_
    refine wp_callV (e1 := 0) (as := [Iv x2]) (S := []) dX9_grow_32 (cs_X9_51 rfl) kd_28 rfl rfl (Nat.le_of_ble_eq_true rfl) (by show 1 + 0 + 1 ≤ 3 + (e1 + 1); omega) h (fun v6 M6 q6 r6 => ?_)
    have h := q6
    refine wp_aload_n dX9_grow_35 rfl (by decide) ?_
    refine wp_iload_n dX9_grow_36 rfl ?_
    refine wp_callV (e1 := 0) (as := [Iv x2]) (S := []) dX9_grow_37 (cs_X9_74 rfl) kd_28 rfl rfl (Nat.le_of_ble_eq_true rfl) (by show 2 + 0 + 1 ≤ 3 + (e1 + 1); omega) h (fun v7 M7 q7 r7 => ?_)
    obtain ⟨z7, rfl, hz7⟩ := retV_z r7 rfl
    have h := q7
    refine wp_if_ne (tgt := 50) dX9_grow_40 (by decide) (by have := hz7; omega) (fun q8 => ?_) (fun q8 => ?_)
    · have h := h.1 q8
      refine wp_aload_n dX9_grow_50 rfl (by decide) ?_
      refine wp_iload_n dX9_grow_51 rfl ?_
      refine wp_callV (e1 := 0) (as := [Iv x2]) (S := []) dX9_grow_52 (cs_X9_65 rfl) kd_28 rfl rfl (Nat.le_of_ble_eq_true rfl) (by show 1 + 0 + 1 ≤ 3 + (e1 + 1); omega) h (fun v9 M9 q9 r9 => ?_)
      have h := q9
      refine wp_iinc (L2 := [some (Rv 28), some (Iv x1), some (Iv (x2 + 1))]) dX9_grow_55 rfl (Nat.le_of_ble_eq_true rfl) (Nat.le_of_ble_eq_true rfl) rfl ?_
      refine wp_goto (tgt := 15) dX9_grow_58 (by decide) ?_
      exact h
    · have h := h.2 q8
      refine wp_aload_n dX9_grow_43 rfl (by decide) ?_
      refine wp_iload_n dX9_grow_44 rfl ?_
      refine wp_iconst dX9_grow_45 ?_
      refine wp_iadd dX9_grow_46 ?_
      refine wp_callV (e1 := e1) (as := [Iv (x1 + 1)]) (S := []) dX9_grow_47 (cs_X9_68 rfl) kd_28 rfl rfl (Nat.le_of_ble_eq_true rfl) (by show 3 + e1 + 1 ≤ 3 + (e1 + 1); omega) h (fun v10 M10 q10 r10 => ?_)
      have h := q10
      refine wp_aload_n dX9_grow_50 rfl (by decide) ?_
      refine wp_iload_n dX9_grow_51 rfl ?_
      refine wp_callV (e1 := 0) (as := [Iv x2]) (S := []) dX9_grow_52 (cs_X9_65 rfl) kd_28 rfl rfl (Nat.le_of_ble_eq_true rfl) (by show 1 + 0 + 1 ≤ 3 + (e1 + 1); omega) h (fun v11 M11 q11 r11 => ?_)
      have h := q11
      refine wp_iinc (L2 := [some (Rv 28), some (Iv x1), some (Iv (x2 + 1))]) dX9_grow_55 rfl (Nat.le_of_ble_eq_true rfl) (Nat.le_of_ble_eq_true rfl) rfl ?_
      refine wp_goto (tgt := 15) dX9_grow_58 (by decide) ?_
      exact h
theorem gX9_keepTwin  {M : Mem} {Q : Vl → Mem → Prop} (h : inr (M 28 9) ∧ (((M 28 9) ≠ 0 → Q (Iv 0) (up M 28 9 ((M 28 9) + 1))) ∧ ((M 28 9) = 0 → 0 ≤ M 28 7 ∧ (0 + (M 28 7) ≤ 40 ∧ (Q (Iv 0) (up (setA M 29 (cpyf M 30 0 29 0 (M 28 7))) 28 9 ((M 28 9) + 1))))))) : wp 0 yX9_keepTwin 0 [some (Rv 28)] [] M Q := by
  refine wp_aload_n dX9_keepTwin_0 rfl (by decide) ?_
  refine wp_getf (t := Iv (M 28 9)) (M 28 9) dX9_keepTwin_1 (fl_X9_45 rfl) kd_28 rfl rfl ?_
  obtain ⟨o1, h⟩ := h
  refine wp_if_ne (tgt := 24) dX9_keepTwin_4 (by decide) o1 (fun q2 => ?_) (fun q2 => ?_)
  · have h := h.1 q2
    refine wp_aload_n dX9_keepTwin_24 rfl (by decide) ?_
    refine wp_dup dX9_keepTwin_25 rfl ?_
    refine wp_getf (t := Iv (M 28 9)) (M 28 9) dX9_keepTwin_26 (fl_X9_45 rfl) kd_28 rfl rfl ?_
    refine wp_iconst dX9_keepTwin_29 ?_
    refine wp_iadd dX9_keepTwin_30 ?_
    refine wp_putf (x := ((M 28 9) + 1)) dX9_keepTwin_31 (fl_X9_45 rfl) kd_28 (fun _ => rfl) rfl rfl trivial ?_
    exact wp_vret dX9_keepTwin_34 rfl (Or.inr ⟨rfl, rfl, rfl, by decide⟩) rfl h
  · have h := h.2 q2
    refine wp_aload_n dX9_keepTwin_7 rfl (by decide) ?_
    refine wp_getf (t := Rv 30) 30 dX9_keepTwin_8 (fl_X9_15 rfl) kd_28 rfl rfl ?_
    refine wp_iconst dX9_keepTwin_11 ?_
    refine wp_aload_n dX9_keepTwin_12 rfl (by decide) ?_
    refine wp_getf (t := Rv 29) 29 dX9_keepTwin_13 (fl_X9_9 rfl) kd_28 rfl rfl ?_
    refine wp_iconst dX9_keepTwin_16 ?_
    refine wp_aload_n dX9_keepTwin_17 rfl (by decide) ?_
    refine wp_getf (t := Iv (M 28 7)) (M 28 7) dX9_keepTwin_18 (fl_X9_39 rfl) kd_28 rfl rfl ?_
    obtain ⟨o3, h⟩ := h
    obtain ⟨o4, h⟩ := h
    refine wp_copy dX9_keepTwin_21 (ml_X9_59 rfl) kd_30 kd_29 sz_30 sz_29 (by decide) (by decide) o3 o4 o4 (by decide) (by decide) ⟨by omega, by omega⟩ (Nat.le_of_ble_eq_true rfl) (by decide) ?_
    refine wp_aload_n dX9_keepTwin_24 rfl (by decide) ?_
    refine wp_dup dX9_keepTwin_25 rfl ?_
    refine wp_getf (t := Iv (M 28 9)) (M 28 9) dX9_keepTwin_26 (fl_X9_45 rfl) kd_28 rfl rfl ?_
    refine wp_iconst dX9_keepTwin_29 ?_
    refine wp_iadd dX9_keepTwin_30 ?_
    refine wp_putf (x := ((M 28 9) + 1)) dX9_keepTwin_31 (fl_X9_45 rfl) kd_28 (fun _ => rfl) rfl rfl trivial ?_
    exact wp_vret dX9_keepTwin_34 rfl (Or.inr ⟨rfl, rfl, rfl, by decide⟩) rfl h
theorem eX9_keepTwin  {M : Mem} {Q : Vl → Mem → Prop} (h : inr (M 28 9) ∧ (((M 28 9) ≠ 0 → Q (Iv 0) (up M 28 9 ((M 28 9) + 1))) ∧ ((M 28 9) = 0 → 0 ≤ M 28 7 ∧ (0 + (M 28 7) ≤ 40 ∧ (Q (Iv 0) (up (setA M 29 (cpyf M 30 0 29 0 (M 28 7))) 28 9 ((M 28 9) + 1))))))) : cl 0 yX9_keepTwin [Rv 28] M Q := enterG (by decide +kernel) (by exact Or.inl rfl) (Nat.le_of_ble_eq_true rfl) rfl (gX9_keepTwin h)
theorem gX9_addLetter {x1 : Int}  {M : Mem} {Q : Vl → Mem → Prop} (h : inr (M 28 8) ∧ (((M 28 8) ≤ 2 → wp 0 yX9_addLetter 53 [some (Rv 28), some (Iv x1), some (Iv 0)] [] M Q) ∧ (2 < (M 28 8) → wp 0 yX9_addLetter 10 [some (Rv 28), some (Iv x1), some (Iv 0)] [] M Q))) : wp 0 yX9_addLetter 0 [some (Rv 28), some (Iv x1), none] [] M Q := by
  refine wp_aload_n dX9_addLetter_0 rfl (by decide) ?_
  refine wp_getf (t := Iv (M 28 8)) (M 28 8) dX9_addLetter_1 (fl_X9_42 rfl) kd_28 rfl rfl ?_
  refine wp_iconst dX9_addLetter_4 ?_
  obtain ⟨o1, h⟩ := h
  refine wp_icmp_le (tgt := 51) dX9_addLetter_5 (by decide) o1 (by decide) (fun q2 => ?_) (fun q2 => ?_)
  · have h := h.1 q2
    refine wp_iconst dX9_addLetter_51 ?_
    refine wp_istore_n (L2 := [some (Rv 28), some (Iv x1), some (Iv 0)]) dX9_addLetter_52 (Nat.le_of_ble_eq_true rfl) (Nat.le_of_ble_eq_true rfl) rfl ?_
    exact h
  · have h := h.2 q2
    refine wp_iconst dX9_addLetter_8 ?_
    refine wp_istore_n (L2 := [some (Rv 28), some (Iv x1), some (Iv 0)]) dX9_addLetter_9 (Nat.le_of_ble_eq_true rfl) (Nat.le_of_ble_eq_true rfl) rfl ?_
    exact h
theorem eX9_addLetter {x1 : Int}  {M : Mem} {Q : Vl → Mem → Prop} (h : inr (M 28 8) ∧ (((M 28 8) ≤ 2 → wp 0 yX9_addLetter 53 [some (Rv 28), some (Iv x1), some (Iv 0)] [] M Q) ∧ (2 < (M 28 8) → wp 0 yX9_addLetter 10 [some (Rv 28), some (Iv x1), some (Iv 0)] [] M Q))) : cl 0 yX9_addLetter [Rv 28, Iv x1] M Q := enterG (by decide +kernel) (by exact Or.inl rfl) (Nat.le_of_ble_eq_true rfl) rfl (gX9_addLetter h)
theorem gX9_addLetter_10 {x1 x2 : Int}  {M : Mem} {Q : Vl → Mem → Prop} (h : inr x2 ∧ (inr ((M 28 6) * (M 28 6)) ∧ ((((M 28 6) * (M 28 6)) ≤ x2 → wp 0 yX9_addLetter 53 [some (Rv 28), some (Iv x1), some (Iv 0)] [] M Q) ∧ (x2 < ((M 28 6) * (M 28 6)) → 0 ≤ (x2 * (M 28 6)) + x1 ∧ ((x2 * (M 28 6)) + x1 < 216 ∧ (0 ≤ x2 ∧ (x2 < 36 ∧ (wp 0 yX9_addLetter 10 [some (Rv 28), some (Iv x1), some (Iv (x2 + 1))] [] (up M 33 ((x2 * (M 28 6)) + x1) ((M 33 ((x2 * (M 28 6)) + x1)) + (M 32 x2))) Q)))))))) : wp 0 yX9_addLetter 10 [some (Rv 28), some (Iv x1), some (Iv x2)] [] M Q := by
  refine wp_iload_n dX9_addLetter_10 rfl ?_
  refine wp_aload_n dX9_addLetter_11 rfl (by decide) ?_
  refine wp_getf (t := Iv (M 28 6)) (M 28 6) dX9_addLetter_12 (fl_X9_30 rfl) kd_28 rfl rfl ?_
  refine wp_aload_n dX9_addLetter_15 rfl (by decide) ?_
  refine wp_getf (t := Iv (M 28 6)) (M 28 6) dX9_addLetter_16 (fl_X9_30 rfl) kd_28 rfl rfl ?_
  refine wp_imul dX9_addLetter_19 ?_
  obtain ⟨o1, h⟩ := h
  obtain ⟨o2, h⟩ := h
  refine wp_icmp_ge (tgt := 51) dX9_addLetter_20 (by decide) o1 o2 (fun q3 => ?_) (fun q3 => ?_)
  · have h := h.1 q3
    refine wp_iconst dX9_addLetter_51 ?_
    refine wp_istore_n (L2 := [some (Rv 28), some (Iv x1), some (Iv 0)]) dX9_addLetter_52 (Nat.le_of_ble_eq_true rfl) (Nat.le_of_ble_eq_true rfl) rfl ?_
    exact h
  · have h := h.2 q3
    refine wp_aload_n dX9_addLetter_23 rfl (by decide) ?_
    refine wp_getf (t := Rv 33) 33 dX9_addLetter_24 (fl_X9_24 rfl) kd_28 rfl rfl ?_
    refine wp_iload_n dX9_addLetter_27 rfl ?_
    refine wp_aload_n dX9_addLetter_28 rfl (by decide) ?_
    refine wp_getf (t := Iv (M 28 6)) (M 28 6) dX9_addLetter_29 (fl_X9_30 rfl) kd_28 rfl rfl ?_
    refine wp_imul dX9_addLetter_32 ?_
    refine wp_iload_n dX9_addLetter_33 rfl ?_
    refine wp_iadd dX9_addLetter_34 ?_
    refine wp_dup2 dX9_addLetter_35 rfl rfl ?_
    obtain ⟨o4, h⟩ := h
    obtain ⟨o5, h⟩ := h
    refine wp_iald (M 33 ((x2 * (M 28 6)) + x1)) dX9_addLetter_36 kd_33 sz_33 o4 o5 (⟨by omega, by omega⟩) rfl ?_
    refine wp_aload_n dX9_addLetter_37 rfl (by decide) ?_
    refine wp_getf (t := Rv 32) 32 dX9_addLetter_38 (fl_X9_21 rfl) kd_28 rfl rfl ?_
    refine wp_iload_n dX9_addLetter_41 rfl ?_
    obtain ⟨o6, h⟩ := h
    obtain ⟨o7, h⟩ := h
    refine wp_iald (M 32 x2) dX9_addLetter_42 kd_32 sz_32 o6 o7 (⟨by omega, by omega⟩) rfl ?_
    refine wp_iadd dX9_addLetter_43 ?_
    refine wp_iast dX9_addLetter_44 kd_33 sz_33 o4 o5 (⟨by omega, by omega⟩) ?_
    refine wp_iinc (L2 := [some (Rv 28), some (Iv x1), some (Iv (x2 + 1))]) dX9_addLetter_45 rfl (Nat.le_of_ble_eq_true rfl) (Nat.le_of_ble_eq_true rfl) rfl ?_
    refine wp_goto (tgt := 10) dX9_addLetter_48 (by decide) ?_
    exact h
theorem gX9_addLetter_53 {x1 x2 : Int}  {M : Mem} {Q : Vl → Mem → Prop} (h : inr x2 ∧ (inr (M 28 6) ∧ (((M 28 6) ≤ x2 → 0 ≤ x1 ∧ (x1 < 6 ∧ (Q (Iv 0) (up M 31 x1 ((M 31 x1) + 1))))) ∧ (x2 < (M 28 6) → 0 ≤ (x2 * (M 28 6)) + x1 ∧ ((x2 * (M 28 6)) + x1 < 36 ∧ (0 ≤ x2 ∧ (x2 < 6 ∧ (wp 0 yX9_addLetter 53 [some (Rv 28), some (Iv x1), some (Iv (x2 + 1))] [] (up M 32 ((x2 * (M 28 6)) + x1) ((M 32 ((x2 * (M 28 6)) + x1)) + (M 31 x2))) Q)))))))) : wp 0 yX9_addLetter 53 [some (Rv 28), some (Iv x1), some (Iv x2)] [] M Q := by
  refine wp_iload_n dX9_addLetter_53 rfl ?_
  refine wp_aload_n dX9_addLetter_54 rfl (by decide) ?_
  refine wp_getf (t := Iv (M 28 6)) (M 28 6) dX9_addLetter_55 (fl_X9_30 rfl) kd_28 rfl rfl ?_
  obtain ⟨o1, h⟩ := h
  obtain ⟨o2, h⟩ := h
  refine wp_icmp_ge (tgt := 89) dX9_addLetter_58 (by decide) o1 o2 (fun q3 => ?_) (fun q3 => ?_)
  · have h := h.1 q3
    refine wp_aload_n dX9_addLetter_89 rfl (by decide) ?_
    refine wp_getf (t := Rv 31) 31 dX9_addLetter_90 (fl_X9_18 rfl) kd_28 rfl rfl ?_
    refine wp_iload_n dX9_addLetter_93 rfl ?_
    refine wp_dup2 dX9_addLetter_94 rfl rfl ?_
    obtain ⟨o4, h⟩ := h
    obtain ⟨o5, h⟩ := h
    refine wp_iald (M 31 x1) dX9_addLetter_95 kd_31 sz_31 o4 o5 (⟨by omega, by omega⟩) rfl ?_
    refine wp_iconst dX9_addLetter_96 ?_
    refine wp_iadd dX9_addLetter_97 ?_
    refine wp_iast dX9_addLetter_98 kd_31 sz_31 o4 o5 (⟨by omega, by omega⟩) ?_
    exact wp_vret dX9_addLetter_99 rfl (Or.inr ⟨rfl, rfl, rfl, by decide⟩) rfl h
  · have h := h.2 q3
    refine wp_aload_n dX9_addLetter_61 rfl (by decide) ?_
    refine wp_getf (t := Rv 32) 32 dX9_addLetter_62 (fl_X9_21 rfl) kd_28 rfl rfl ?_
    refine wp_iload_n dX9_addLetter_65 rfl ?_
    refine wp_aload_n dX9_addLetter_66 rfl (by decide) ?_
    refine wp_getf (t := Iv (M 28 6)) (M 28 6) dX9_addLetter_67 (fl_X9_30 rfl) kd_28 rfl rfl ?_
    refine wp_imul dX9_addLetter_70 ?_
    refine wp_iload_n dX9_addLetter_71 rfl ?_
    refine wp_iadd dX9_addLetter_72 ?_
    refine wp_dup2 dX9_addLetter_73 rfl rfl ?_
    obtain ⟨o6, h⟩ := h
    obtain ⟨o7, h⟩ := h
    refine wp_iald (M 32 ((x2 * (M 28 6)) + x1)) dX9_addLetter_74 kd_32 sz_32 o6 o7 (⟨by omega, by omega⟩) rfl ?_
    refine wp_aload_n dX9_addLetter_75 rfl (by decide) ?_
    refine wp_getf (t := Rv 31) 31 dX9_addLetter_76 (fl_X9_18 rfl) kd_28 rfl rfl ?_
    refine wp_iload_n dX9_addLetter_79 rfl ?_
    obtain ⟨o8, h⟩ := h
    obtain ⟨o9, h⟩ := h
    refine wp_iald (M 31 x2) dX9_addLetter_80 kd_31 sz_31 o8 o9 (⟨by omega, by omega⟩) rfl ?_
    refine wp_iadd dX9_addLetter_81 ?_
    refine wp_iast dX9_addLetter_82 kd_32 sz_32 o6 o7 (⟨by omega, by omega⟩) ?_
    refine wp_iinc (L2 := [some (Rv 28), some (Iv x1), some (Iv (x2 + 1))]) dX9_addLetter_83 rfl (Nat.le_of_ble_eq_true rfl) (Nat.le_of_ble_eq_true rfl) rfl ?_
    refine wp_goto (tgt := 53) dX9_addLetter_86 (by decide) ?_
    exact h
theorem gX9_takeLetter {x1 : Int}  {M : Mem} {Q : Vl → Mem → Prop} (h : 0 ≤ x1 ∧ (x1 < 6 ∧ (wp 0 yX9_takeLetter 12 [some (Rv 28), some (Iv x1), some (Iv 0)] [] (up M 31 x1 ((M 31 x1) - 1)) Q))) : wp 0 yX9_takeLetter 0 [some (Rv 28), some (Iv x1), none] [] M Q := by
  refine wp_aload_n dX9_takeLetter_0 rfl (by decide) ?_
  refine wp_getf (t := Rv 31) 31 dX9_takeLetter_1 (fl_X9_18 rfl) kd_28 rfl rfl ?_
  refine wp_iload_n dX9_takeLetter_4 rfl ?_
  refine wp_dup2 dX9_takeLetter_5 rfl rfl ?_
  obtain ⟨o1, h⟩ := h
  obtain ⟨o2, h⟩ := h
  refine wp_iald (M 31 x1) dX9_takeLetter_6 kd_31 sz_31 o1 o2 (⟨by omega, by omega⟩) rfl ?_
  refine wp_iconst dX9_takeLetter_7 ?_
  refine wp_isub dX9_takeLetter_8 ?_
  refine wp_iast dX9_takeLetter_9 kd_31 sz_31 o1 o2 (⟨by omega, by omega⟩) ?_
  refine wp_iconst dX9_takeLetter_10 ?_
  refine wp_istore_n (L2 := [some (Rv 28), some (Iv x1), some (Iv 0)]) dX9_takeLetter_11 (Nat.le_of_ble_eq_true rfl) (Nat.le_of_ble_eq_true rfl) rfl ?_
  exact h
theorem eX9_takeLetter {x1 : Int}  {M : Mem} {Q : Vl → Mem → Prop} (h : 0 ≤ x1 ∧ (x1 < 6 ∧ (wp 0 yX9_takeLetter 12 [some (Rv 28), some (Iv x1), some (Iv 0)] [] (up M 31 x1 ((M 31 x1) - 1)) Q))) : cl 0 yX9_takeLetter [Rv 28, Iv x1] M Q := enterG (by decide +kernel) (by exact Or.inl rfl) (Nat.le_of_ble_eq_true rfl) rfl (gX9_takeLetter h)
theorem gX9_takeLetter_12 {x1 x2 : Int}  {M : Mem} {Q : Vl → Mem → Prop} (h : inr x2 ∧ (inr (M 28 6) ∧ (((M 28 6) ≤ x2 → inr (M 28 8) ∧ (((M 28 8) ≤ 2 → Q (Iv 0) M) ∧ (2 < (M 28 8) → wp 0 yX9_takeLetter 58 [some (Rv 28), some (Iv x1), some (Iv 0)] [] M Q))) ∧ (x2 < (M 28 6) → 0 ≤ (x2 * (M 28 6)) + x1 ∧ ((x2 * (M 28 6)) + x1 < 36 ∧ (0 ≤ x2 ∧ (x2 < 6 ∧ (wp 0 yX9_takeLetter 12 [some (Rv 28), some (Iv x1), some (Iv (x2 + 1))] [] (up M 32 ((x2 * (M 28 6)) + x1) ((M 32 ((x2 * (M 28 6)) + x1)) - (M 31 x2))) Q)))))))) : wp 0 yX9_takeLetter 12 [some (Rv 28), some (Iv x1), some (Iv x2)] [] M Q := by
  refine wp_iload_n dX9_takeLetter_12 rfl ?_
  refine wp_aload_n dX9_takeLetter_13 rfl (by decide) ?_
  refine wp_getf (t := Iv (M 28 6)) (M 28 6) dX9_takeLetter_14 (fl_X9_30 rfl) kd_28 rfl rfl ?_
  obtain ⟨o1, h⟩ := h
  obtain ⟨o2, h⟩ := h
  refine wp_icmp_ge (tgt := 48) dX9_takeLetter_17 (by decide) o1 o2 (fun q3 => ?_) (fun q3 => ?_)
  · have h := h.1 q3
    refine wp_aload_n dX9_takeLetter_48 rfl (by decide) ?_
    refine wp_getf (t := Iv (M 28 8)) (M 28 8) dX9_takeLetter_49 (fl_X9_42 rfl) kd_28 rfl rfl ?_
    refine wp_iconst dX9_takeLetter_52 ?_
    obtain ⟨o4, h⟩ := h
    refine wp_icmp_le (tgt := 99) dX9_takeLetter_53 (by decide) o4 (by decide) (fun q5 => ?_) (fun q5 => ?_)
    · have h := h.1 q5
      exact wp_vret dX9_takeLetter_99 rfl (Or.inr ⟨rfl, rfl, rfl, by decide⟩) rfl h
    · have h := h.2 q5
      refine wp_iconst dX9_takeLetter_56 ?_
      refine wp_istore_n (L2 := [some (Rv 28), some (Iv x1), some (Iv 0)]) dX9_takeLetter_57 (Nat.le_of_ble_eq_true rfl) (Nat.le_of_ble_eq_true rfl) rfl ?_
      exact h
  · have h := h.2 q3
    refine wp_aload_n dX9_takeLetter_20 rfl (by decide) ?_
    refine wp_getf (t := Rv 32) 32 dX9_takeLetter_21 (fl_X9_21 rfl) kd_28 rfl rfl ?_
    refine wp_iload_n dX9_takeLetter_24 rfl ?_
    refine wp_aload_n dX9_takeLetter_25 rfl (by decide) ?_
    refine wp_getf (t := Iv (M 28 6)) (M 28 6) dX9_takeLetter_26 (fl_X9_30 rfl) kd_28 rfl rfl ?_
    refine wp_imul dX9_takeLetter_29 ?_
    refine wp_iload_n dX9_takeLetter_30 rfl ?_
    refine wp_iadd dX9_takeLetter_31 ?_
    refine wp_dup2 dX9_takeLetter_32 rfl rfl ?_
    obtain ⟨o6, h⟩ := h
    obtain ⟨o7, h⟩ := h
    refine wp_iald (M 32 ((x2 * (M 28 6)) + x1)) dX9_takeLetter_33 kd_32 sz_32 o6 o7 (⟨by omega, by omega⟩) rfl ?_
    refine wp_aload_n dX9_takeLetter_34 rfl (by decide) ?_
    refine wp_getf (t := Rv 31) 31 dX9_takeLetter_35 (fl_X9_18 rfl) kd_28 rfl rfl ?_
    refine wp_iload_n dX9_takeLetter_38 rfl ?_
    obtain ⟨o8, h⟩ := h
    obtain ⟨o9, h⟩ := h
    refine wp_iald (M 31 x2) dX9_takeLetter_39 kd_31 sz_31 o8 o9 (⟨by omega, by omega⟩) rfl ?_
    refine wp_isub dX9_takeLetter_40 ?_
    refine wp_iast dX9_takeLetter_41 kd_32 sz_32 o6 o7 (⟨by omega, by omega⟩) ?_
    refine wp_iinc (L2 := [some (Rv 28), some (Iv x1), some (Iv (x2 + 1))]) dX9_takeLetter_42 rfl (Nat.le_of_ble_eq_true rfl) (Nat.le_of_ble_eq_true rfl) rfl ?_
    refine wp_goto (tgt := 12) dX9_takeLetter_45 (by decide) ?_
    exact h
theorem gX9_takeLetter_58 {x1 x2 : Int}  {M : Mem} {Q : Vl → Mem → Prop} (h : inr x2 ∧ (inr ((M 28 6) * (M 28 6)) ∧ ((((M 28 6) * (M 28 6)) ≤ x2 → Q (Iv 0) M) ∧ (x2 < ((M 28 6) * (M 28 6)) → 0 ≤ (x2 * (M 28 6)) + x1 ∧ ((x2 * (M 28 6)) + x1 < 216 ∧ (0 ≤ x2 ∧ (x2 < 36 ∧ (wp 0 yX9_takeLetter 58 [some (Rv 28), some (Iv x1), some (Iv (x2 + 1))] [] (up M 33 ((x2 * (M 28 6)) + x1) ((M 33 ((x2 * (M 28 6)) + x1)) - (M 32 x2))) Q)))))))) : wp 0 yX9_takeLetter 58 [some (Rv 28), some (Iv x1), some (Iv x2)] [] M Q := by
  refine wp_iload_n dX9_takeLetter_58 rfl ?_
  refine wp_aload_n dX9_takeLetter_59 rfl (by decide) ?_
  refine wp_getf (t := Iv (M 28 6)) (M 28 6) dX9_takeLetter_60 (fl_X9_30 rfl) kd_28 rfl rfl ?_
  refine wp_aload_n dX9_takeLetter_63 rfl (by decide) ?_
  refine wp_getf (t := Iv (M 28 6)) (M 28 6) dX9_takeLetter_64 (fl_X9_30 rfl) kd_28 rfl rfl ?_
  refine wp_imul dX9_takeLetter_67 ?_
  obtain ⟨o1, h⟩ := h
  obtain ⟨o2, h⟩ := h
  refine wp_icmp_ge (tgt := 99) dX9_takeLetter_68 (by decide) o1 o2 (fun q3 => ?_) (fun q3 => ?_)
  · have h := h.1 q3
    exact wp_vret dX9_takeLetter_99 rfl (Or.inr ⟨rfl, rfl, rfl, by decide⟩) rfl h
  · have h := h.2 q3
    refine wp_aload_n dX9_takeLetter_71 rfl (by decide) ?_
    refine wp_getf (t := Rv 33) 33 dX9_takeLetter_72 (fl_X9_24 rfl) kd_28 rfl rfl ?_
    refine wp_iload_n dX9_takeLetter_75 rfl ?_
    refine wp_aload_n dX9_takeLetter_76 rfl (by decide) ?_
    refine wp_getf (t := Iv (M 28 6)) (M 28 6) dX9_takeLetter_77 (fl_X9_30 rfl) kd_28 rfl rfl ?_
    refine wp_imul dX9_takeLetter_80 ?_
    refine wp_iload_n dX9_takeLetter_81 rfl ?_
    refine wp_iadd dX9_takeLetter_82 ?_
    refine wp_dup2 dX9_takeLetter_83 rfl rfl ?_
    obtain ⟨o4, h⟩ := h
    obtain ⟨o5, h⟩ := h
    refine wp_iald (M 33 ((x2 * (M 28 6)) + x1)) dX9_takeLetter_84 kd_33 sz_33 o4 o5 (⟨by omega, by omega⟩) rfl ?_
    refine wp_aload_n dX9_takeLetter_85 rfl (by decide) ?_
    refine wp_getf (t := Rv 32) 32 dX9_takeLetter_86 (fl_X9_21 rfl) kd_28 rfl rfl ?_
    refine wp_iload_n dX9_takeLetter_89 rfl ?_
    obtain ⟨o6, h⟩ := h
    obtain ⟨o7, h⟩ := h
    refine wp_iald (M 32 x2) dX9_takeLetter_90 kd_32 sz_32 o6 o7 (⟨by omega, by omega⟩) rfl ?_
    refine wp_isub dX9_takeLetter_91 ?_
    refine wp_iast dX9_takeLetter_92 kd_33 sz_33 o4 o5 (⟨by omega, by omega⟩) ?_
    refine wp_iinc (L2 := [some (Rv 28), some (Iv x1), some (Iv (x2 + 1))]) dX9_takeLetter_93 rfl (Nat.le_of_ble_eq_true rfl) (Nat.le_of_ble_eq_true rfl) rfl ?_
    refine wp_goto (tgt := 58) dX9_takeLetter_96 (by decide) ?_
    exact h
theorem gX9_hasTooMany {x1 : Int}  {M : Mem} {Q : Vl → Mem → Prop} (h : cl 0 yX9_countsOfDepth [Rv 28] M (QR (fun z1 M1 => ∃ n1 : Nat, isA z1 n1 ∧ (wp 0 yX9_hasTooMany 10 [some (Rv 28), some (Iv x1), some (Rv z1), some (Iv 1), some (Iv 1)] [] M1 Q)))) : wp 0 yX9_hasTooMany 0 [some (Rv 28), some (Iv x1), none, none, none] [] M Q := by
  refine wp_aload_n dX9_hasTooMany_0 rfl (by decide) ?_
  refine wp_callV (e1 := 0) (as := []) (S := []) dX9_hasTooMany_1 (cs_X9_55 rfl) kd_28 rfl rfl (Nat.le_of_ble_eq_true rfl) (Nat.le_of_ble_eq_true rfl) h (fun v1 M1 q1 r1 => ?_)
  obtain ⟨z1, rfl, hz1⟩ := retV_r r1 rfl
  obtain ⟨n1, ha1, h⟩ := q1
  refine wp_astore_n (L2 := [some (Rv 28), some (Iv x1), some (Rv z1), none, none]) dX9_hasTooMany_4 (Nat.le_of_ble_eq_true rfl) (Nat.le_of_ble_eq_true rfl) rfl ha1.p ?_
  refine wp_iconst dX9_hasTooMany_5 ?_
  refine wp_istore_n (L2 := [some (Rv 28), some (Iv x1), some (Rv z1), some (Iv 1), none]) dX9_hasTooMany_6 (Nat.le_of_ble_eq_true rfl) (Nat.le_of_ble_eq_true rfl) rfl ?_
  refine wp_iconst dX9_hasTooMany_7 ?_
  refine wp_istore (L2 := [some (Rv 28), some (Iv x1), some (Rv z1), some (Iv 1), some (Iv 1)]) dX9_hasTooMany_8 (Nat.le_of_ble_eq_true rfl) (Nat.le_of_ble_eq_true rfl) rfl ?_
  exact h
theorem eX9_hasTooMany {x1 : Int}  {M : Mem} {Q : Vl → Mem → Prop} (h : cl 0 yX9_countsOfDepth [Rv 28] M (QR (fun z1 M1 => ∃ n1 : Nat, isA z1 n1 ∧ (wp 0 yX9_hasTooMany 10 [some (Rv 28), some (Iv x1), some (Rv z1), some (Iv 1), some (Iv 1)] [] M1 Q)))) : cl 0 yX9_hasTooMany [Rv 28, Iv x1] M Q := enterG (by decide +kernel) (by exact Or.inr (Or.inr (Or.inl rfl))) (Nat.le_of_ble_eq_true rfl) rfl (gX9_hasTooMany h)
theorem gX9_hasTooMany_10 {x1 x3 x4 a2 : Int} {n2 : Nat} (ha2 : isA a2 n2) {M : Mem} {Q : Vl → Mem → Prop} (h : inr x4 ∧ (inr (M 28 8) ∧ (((M 28 8) ≤ x4 → wp 0 yX9_hasTooMany 35 [some (Rv 28), some (Iv x1), some (Rv a2), some (Iv x3), some (Iv 0)] [] M Q) ∧ (x4 < (M 28 8) → wp 0 yX9_hasTooMany 10 [some (Rv 28), some (Iv x1), some (Rv a2), some (Iv (x3 * (M 28 6))), some (Iv (x4 + 1))] [] M Q)))) : wp 0 yX9_hasTooMany 10 [some (Rv 28), some (Iv x1), some (Rv a2), some (Iv x3), some (Iv x4)] [] M Q := by
  refine wp_iload dX9_hasTooMany_10 rfl ?_
  refine wp_aload_n dX9_hasTooMany_12 rfl (by decide) ?_
  refine wp_getf (t := Iv (M 28 8)) (M 28 8) dX9_hasTooMany_13 (fl_X9_42 rfl) kd_28 rfl rfl ?_
  obtain ⟨o1, h⟩ := h
  obtain ⟨o2, h⟩ := h
  refine wp_icmp_ge (tgt := 32) dX9_hasTooMany_16 (by decide) o1 o2 (fun q3 => ?_) (fun q3 => ?_)
  · have h := h.1 q3
    refine wp_iconst dX9_hasTooMany_32 ?_
    refine wp_istore (L2 := [some (Rv 28), some (Iv x1), some (Rv a2), some (Iv x3), some (Iv 0)]) dX9_hasTooMany_33 (Nat.le_of_ble_eq_true rfl) (Nat.le_of_ble_eq_true rfl) rfl ?_
    exact h
  · have h := h.2 q3
    refine wp_iload_n dX9_hasTooMany_19 rfl ?_
    refine wp_aload_n dX9_hasTooMany_20 rfl (by decide) ?_
    refine wp_getf (t := Iv (M 28 6)) (M 28 6) dX9_hasTooMany_21 (fl_X9_30 rfl) kd_28 rfl rfl ?_
    refine wp_imul dX9_hasTooMany_24 ?_
    refine wp_istore_n (L2 := [some (Rv 28), some (Iv x1), some (Rv a2), some (Iv (x3 * (M 28 6))), some (Iv x4)]) dX9_hasTooMany_25 (Nat.le_of_ble_eq_true rfl) (Nat.le_of_ble_eq_true rfl) rfl ?_
    refine wp_iinc (L2 := [some (Rv 28), some (Iv x1), some (Rv a2), some (Iv (x3 * (M 28 6))), some (Iv (x4 + 1))]) dX9_hasTooMany_26 rfl (Nat.le_of_ble_eq_true rfl) (Nat.le_of_ble_eq_true rfl) rfl ?_
    refine wp_goto (tgt := 10) dX9_hasTooMany_29 (by decide) ?_
    exact h
theorem gX9_hasTooMany_35 {x1 x3 x4 a2 : Int} {n2 : Nat} (ha2 : isA a2 n2) {M : Mem} {Q : Vl → Mem → Prop} (h : inr x4 ∧ (inr x3 ∧ ((x3 ≤ x4 → Q (Iv 0) M) ∧ (x4 < x3 → 0 ≤ (x4 * (M 28 6)) + x1 ∧ ((x4 * (M 28 6)) + x1 < n2 ∧ (inr ((x4 * (M 28 6)) + x1) ∧ ((x4 * (M 28 6)) + x1 < 216 ∧ (inr (M a2 ((x4 * (M 28 6)) + x1)) ∧ (inr (M 34 ((x4 * (M 28 6)) + x1)) ∧ (((M a2 ((x4 * (M 28 6)) + x1)) ≤ (M 34 ((x4 * (M 28 6)) + x1)) → wp 0 yX9_hasTooMany 35 [some (Rv 28), some (Iv x1), some (Rv a2), some (Iv x3), some (Iv (x4 + 1))] [] M Q) ∧ ((M 34 ((x4 * (M 28 6)) + x1)) < (M a2 ((x4 * (M 28 6)) + x1)) → Q (Iv 1) M))))))))))) : wp 0 yX9_hasTooMany 35 [some (Rv 28), some (Iv x1), some (Rv a2), some (Iv x3), some (Iv x4)] [] M Q := by
  refine wp_iload dX9_hasTooMany_35 rfl ?_
  refine wp_iload_n dX9_hasTooMany_37 rfl ?_
  obtain ⟨o1, h⟩ := h
  obtain ⟨o2, h⟩ := h
  refine wp_icmp_ge (tgt := 77) dX9_hasTooMany_38 (by decide) o1 o2 (fun q3 => ?_) (fun q3 => ?_)
  · have h := h.1 q3
    refine wp_iconst dX9_hasTooMany_77 ?_
    exact wp_zret dX9_hasTooMany_78 rfl (Or.inr ⟨rfl, rfl, rfl, by decide⟩) rfl (by decide) h
  · have h := h.2 q3
    refine wp_aload_n dX9_hasTooMany_41 rfl ha2.p ?_
    refine wp_iload dX9_hasTooMany_42 rfl ?_
    refine wp_aload_n dX9_hasTooMany_44 rfl (by decide) ?_
    refine wp_getf (t := Iv (M 28 6)) (M 28 6) dX9_hasTooMany_45 (fl_X9_30 rfl) kd_28 rfl rfl ?_
    refine wp_imul dX9_hasTooMany_48 ?_
    refine wp_iload_n dX9_hasTooMany_49 rfl ?_
    refine wp_iadd dX9_hasTooMany_50 ?_
    obtain ⟨o4, h⟩ := h
    obtain ⟨o5, h⟩ := h
    obtain ⟨o6, h⟩ := h
    refine wp_iald (M a2 ((x4 * (M 28 6)) + x1)) dX9_hasTooMany_51 ha2.k ha2.n o4 o5 o6 rfl ?_
    refine wp_aload_n dX9_hasTooMany_52 rfl (by decide) ?_
    refine wp_getf (t := Rv 34) 34 dX9_hasTooMany_53 (fl_X9_27 rfl) kd_28 rfl rfl ?_
    refine wp_iload dX9_hasTooMany_56 rfl ?_
    refine wp_aload_n dX9_hasTooMany_58 rfl (by decide) ?_
    refine wp_getf (t := Iv (M 28 6)) (M 28 6) dX9_hasTooMany_59 (fl_X9_30 rfl) kd_28 rfl rfl ?_
    refine wp_imul dX9_hasTooMany_62 ?_
    refine wp_iload_n dX9_hasTooMany_63 rfl ?_
    refine wp_iadd dX9_hasTooMany_64 ?_
    obtain ⟨o7, h⟩ := h
    refine wp_iald (M 34 ((x4 * (M 28 6)) + x1)) dX9_hasTooMany_65 kd_34 sz_34 o4 o7 (⟨by omega, by omega⟩) rfl ?_
    obtain ⟨o8, h⟩ := h
    obtain ⟨o9, h⟩ := h
    refine wp_icmp_le (tgt := 71) dX9_hasTooMany_66 (by decide) o8 o9 (fun q10 => ?_) (fun q10 => ?_)
    · have h := h.1 q10
      refine wp_iinc (L2 := [some (Rv 28), some (Iv x1), some (Rv a2), some (Iv x3), some (Iv (x4 + 1))]) dX9_hasTooMany_71 rfl (Nat.le_of_ble_eq_true rfl) (Nat.le_of_ble_eq_true rfl) rfl ?_
      refine wp_goto (tgt := 35) dX9_hasTooMany_74 (by decide) ?_
      exact h
    · have h := h.2 q10
      refine wp_iconst dX9_hasTooMany_69 ?_
      exact wp_zret dX9_hasTooMany_70 rfl (Or.inr ⟨rfl, rfl, rfl, by decide⟩) rfl (by decide) h
theorem gX10_become {x2 x3 x4 x5 a0 a1 : Int} (ha0 : isW a0) {n1 : Nat} (ha1 : isA a1 n1) {M : Mem} {Q : Vl → Mem → Prop} (h : cl 0 yX3_take [Rv (a0 + 1), Rv a1, Iv x2] (up (up (up M a0 1 x3) a0 2 x4) a0 3 x5) (QI (fun z1 M1 => (Q (Iv z1) M1)))) : wp 0 yX10_become 0 [some (Rv a0), some (Rv a1), some (Iv x2), some (Iv x3), some (Iv x4), some (Iv x5)] [] M Q := by
  refine wp_aload_n dX10_become_0 rfl ha0.p ?_
  refine wp_iload_n dX10_become_1 rfl ?_
  refine wp_putf (x := x3) dX10_become_2 (fl_X10_20 rfl) ha0.k (fun _ => rfl) rfl rfl trivial ?_
  refine wp_aload_n dX10_become_5 rfl ha0.p ?_
  refine wp_iload dX10_become_6 rfl ?_
  refine wp_putf (x := x4) dX10_become_8 (fl_X10_24 rfl) ha0.k (fun _ => rfl) rfl rfl trivial ?_
  refine wp_aload_n dX10_become_11 rfl ha0.p ?_
  refine wp_iload dX10_become_12 rfl ?_
  refine wp_putf (x := x5) dX10_become_14 (fl_X10_27 rfl) ha0.k (fun _ => rfl) rfl rfl trivial ?_
  refine wp_aload_n dX10_become_17 rfl ha0.p ?_
  refine wp_getf (t := Rv (a0 + 1)) (a0 + 1) dX10_become_18 (fl_X10_14 rfl) ha0.k rfl rfl ?_
  refine wp_aload_n dX10_become_21 rfl ha1.p ?_
  refine wp_iload_n dX10_become_22 rfl ?_
  refine wp_callV (e1 := 0) (as := [Rv a1, Iv x2]) (S := []) dX10_become_23 (cs_X10_30 rfl) ha0.l.k rfl rfl (Nat.le_of_ble_eq_true rfl) (Nat.le_of_ble_eq_true rfl) h (fun v1 M1 q1 r1 => ?_)
  obtain ⟨z1, rfl⟩ := retV_i r1 rfl
  have h := q1
  exact wp_iret dX10_become_26 rfl (Or.inr ⟨rfl, rfl, rfl, by decide⟩) rfl h
theorem eX10_become {x2 x3 x4 x5 a0 a1 : Int} (ha0 : isW a0) {n1 : Nat} (ha1 : isA a1 n1) {M : Mem} {Q : Vl → Mem → Prop} (h : cl 0 yX3_take [Rv (a0 + 1), Rv a1, Iv x2] (up (up (up M a0 1 x3) a0 2 x4) a0 3 x5) (QI (fun z1 M1 => (Q (Iv z1) M1)))) : cl 0 yX10_become [Rv a0, Rv a1, Iv x2, Iv x3, Iv x4, Iv x5] M Q := enterG (by decide +kernel) (by exact Or.inr (Or.inl rfl)) (Nat.le_of_ble_eq_true rfl) rfl (gX10_become ha0 ha1 h)
theorem gX10_is {x1 a0 : Int} (ha0 : isW a0) {M : Mem} {Q : Vl → Mem → Prop} (h : ((M a0 1) = x1 ∨ (inr (M a0 1) ∧ inr x1)) ∧ (((M a0 1) = x1 → Q (Iv 1) M) ∧ ((M a0 1) ≠ x1 → inr x1 ∧ ((x1 ≠ 2 → Q (Iv 0) M) ∧ (x1 = 2 → inr (M a0 1) ∧ (((M a0 1) ≤ 2 → Q (Iv 0) M) ∧ (2 < (M a0 1) → Q (Iv 1) M))))))) : wp 0 yX10_is 0 [some (Rv a0), some (Iv x1)] [] M Q := by
  refine wp_aload_n dX10_is_0 rfl ha0.p ?_
  refine wp_getf (t := Iv (M a0 1)) (M a0 1) dX10_is_1 (fl_X10_20 rfl) ha0.k rfl rfl ?_
  refine wp_iload_n dX10_is_4 rfl ?_
  obtain ⟨o1, h⟩ := h
  refine wp_icmp_eq (tgt := 21) dX10_is_5 (by decide) o1 (fun q2 => ?_) (fun q2 => ?_)
  · have h := h.1 q2
    refine wp_iconst dX10_is_21 ?_
    refine wp_goto (tgt := 26) dX10_is_22 (by decide) ?_
    exact wp_zret dX10_is_26 rfl (Or.inr ⟨rfl, rfl, rfl, by decide⟩) rfl (by decide) h
  · have h := h.2 q2
    refine wp_iload_n dX10_is_8 rfl ?_
    refine wp_iconst dX10_is_9 ?_
    obtain ⟨o3, h⟩ := h
    refine wp_icmp_ne (tgt := 25) dX10_is_10 (by decide) (Or.inr ⟨o3, (by decide)⟩) (fun q4 => ?_) (fun q4 => ?_)
    · have h := h.1 q4
      refine wp_iconst dX10_is_25 ?_
      exact wp_zret dX10_is_26 rfl (Or.inr ⟨rfl, rfl, rfl, by decide⟩) rfl (by decide) h
    · have h := h.2 q4
      refine wp_aload_n dX10_is_13 rfl ha0.p ?_
      refine wp_getf (t := Iv (M a0 1)) (M a0 1) dX10_is_14 (fl_X10_20 rfl) ha0.k rfl rfl ?_
      refine wp_iconst dX10_is_17 ?_
      obtain ⟨o5, h⟩ := h
      refine wp_icmp_le (tgt := 25) dX10_is_18 (by decide) o5 (by decide) (fun q6 => ?_) (fun q6 => ?_)
      · have h := h.1 q6
        refine wp_iconst dX10_is_25 ?_
        exact wp_zret dX10_is_26 rfl (Or.inr ⟨rfl, rfl, rfl, by decide⟩) rfl (by decide) h
      · have h := h.2 q6
        refine wp_iconst dX10_is_21 ?_
        refine wp_goto (tgt := 26) dX10_is_22 (by decide) ?_
        exact wp_zret dX10_is_26 rfl (Or.inr ⟨rfl, rfl, rfl, by decide⟩) rfl (by decide) h
theorem eX10_is {x1 a0 : Int} (ha0 : isW a0) {M : Mem} {Q : Vl → Mem → Prop} (h : ((M a0 1) = x1 ∨ (inr (M a0 1) ∧ inr x1)) ∧ (((M a0 1) = x1 → Q (Iv 1) M) ∧ ((M a0 1) ≠ x1 → inr x1 ∧ ((x1 ≠ 2 → Q (Iv 0) M) ∧ (x1 = 2 → inr (M a0 1) ∧ (((M a0 1) ≤ 2 → Q (Iv 0) M) ∧ (2 < (M a0 1) → Q (Iv 1) M))))))) : cl 0 yX10_is [Rv a0, Iv x1] M Q := enterG (by decide +kernel) (by exact Or.inr (Or.inr (Or.inl rfl))) (Nat.le_of_ble_eq_true rfl) rfl (gX10_is ha0 h)
theorem gX10_markOf {x1 a0 : Int} (ha0 : isW a0) {M : Mem} {Q : Vl → Mem → Prop} (h : inr x1 ∧ ((x1 ≠ 2 → Q (Iv (M a0 3)) M) ∧ (x1 = 2 → Q (Iv (M a0 2)) M))) : wp 0 yX10_markOf 0 [some (Rv a0), some (Iv x1)] [] M Q := by
  refine wp_iload_n dX10_markOf_0 rfl ?_
  refine wp_iconst dX10_markOf_1 ?_
  obtain ⟨o1, h⟩ := h
  refine wp_icmp_ne (tgt := 12) dX10_markOf_2 (by decide) (Or.inr ⟨o1, (by decide)⟩) (fun q2 => ?_) (fun q2 => ?_)
  · have h := h.1 q2
    refine wp_aload_n dX10_markOf_12 rfl ha0.p ?_
    refine wp_getf (t := Iv (M a0 3)) (M a0 3) dX10_markOf_13 (fl_X10_27 rfl) ha0.k rfl rfl ?_
    exact wp_iret dX10_markOf_16 rfl (Or.inr ⟨rfl, rfl, rfl, by decide⟩) rfl h
  · have h := h.2 q2
    refine wp_aload_n dX10_markOf_5 rfl ha0.p ?_
    refine wp_getf (t := Iv (M a0 2)) (M a0 2) dX10_markOf_6 (fl_X10_24 rfl) ha0.k rfl rfl ?_
    refine wp_goto (tgt := 16) dX10_markOf_9 (by decide) ?_
    exact wp_iret dX10_markOf_16 rfl (Or.inr ⟨rfl, rfl, rfl, by decide⟩) rfl h
theorem eX10_markOf {x1 a0 : Int} (ha0 : isW a0) {M : Mem} {Q : Vl → Mem → Prop} (h : inr x1 ∧ ((x1 ≠ 2 → Q (Iv (M a0 3)) M) ∧ (x1 = 2 → Q (Iv (M a0 2)) M))) : cl 0 yX10_markOf [Rv a0, Iv x1] M Q := enterG (by decide +kernel) (by exact Or.inr (Or.inl rfl)) (Nat.le_of_ble_eq_true rfl) rfl (gX10_markOf ha0 h)
theorem gJ6_bitCount_0f7a4 {x0 : Int}  {M : Mem} {Q : Vl → Mem → Prop} (h : Q (Iv (Int32.toInt (Int32.ofInt (((Int32.toInt (Int32.ofInt (((Int32.toInt (Int32.ofInt (x0 - (Int32.toInt (Int32.ofInt (Int32.toInt (((Int32.ofInt x0).toUInt32 >>> ((Int32.ofInt 1).toUInt32 &&& Int32.toUInt32 31)).toInt32)) &&& Int32.ofInt 1431655765))) &&& Int32.ofInt 858993459)) + (Int32.toInt (Int32.ofInt (Int32.toInt (((Int32.ofInt (x0 - (Int32.toInt (Int32.ofInt (Int32.toInt (((Int32.ofInt x0).toUInt32 >>> ((Int32.ofInt 1).toUInt32 &&& Int32.toUInt32 31)).toInt32)) &&& Int32.ofInt 1431655765)))).toUInt32 >>> ((Int32.ofInt 2).toUInt32 &&& Int32.toUInt32 31)).toInt32)) &&& Int32.ofInt 858993459))) + (Int32.toInt (((Int32.ofInt ((Int32.toInt (Int32.ofInt (x0 - (Int32.toInt (Int32.ofInt (Int32.toInt (((Int32.ofInt x0).toUInt32 >>> ((Int32.ofInt 1).toUInt32 &&& Int32.toUInt32 31)).toInt32)) &&& Int32.ofInt 1431655765))) &&& Int32.ofInt 858993459)) + (Int32.toInt (Int32.ofInt (Int32.toInt (((Int32.ofInt (x0 - (Int32.toInt (Int32.ofInt (Int32.toInt (((Int32.ofInt x0).toUInt32 >>> ((Int32.ofInt 1).toUInt32 &&& Int32.toUInt32 31)).toInt32)) &&& Int32.ofInt 1431655765)))).toUInt32 >>> ((Int32.ofInt 2).toUInt32 &&& Int32.toUInt32 31)).toInt32)) &&& Int32.ofInt 858993459)))).toUInt32 >>> ((Int32.ofInt 4).toUInt32 &&& Int32.toUInt32 31)).toInt32))) &&& Int32.ofInt 252645135)) + (Int32.toInt (((Int32.ofInt (Int32.toInt (Int32.ofInt (((Int32.toInt (Int32.ofInt (x0 - (Int32.toInt (Int32.ofInt (Int32.toInt (((Int32.ofInt x0).toUInt32 >>> ((Int32.ofInt 1).toUInt32 &&& Int32.toUInt32 31)).toInt32)) &&& Int32.ofInt 1431655765))) &&& Int32.ofInt 858993459)) + (Int32.toInt (Int32.ofInt (Int32.toInt (((Int32.ofInt (x0 - (Int32.toInt (Int32.ofInt (Int32.toInt (((Int32.ofInt x0).toUInt32 >>> ((Int32.ofInt 1).toUInt32 &&& Int32.toUInt32 31)).toInt32)) &&& Int32.ofInt 1431655765)))).toUInt32 >>> ((Int32.ofInt 2).toUInt32 &&& Int32.toUInt32 31)).toInt32)) &&& Int32.ofInt 858993459))) + (Int32.toInt (((Int32.ofInt ((Int32.toInt (Int32.ofInt (x0 - (Int32.toInt (Int32.ofInt (Int32.toInt (((Int32.ofInt x0).toUInt32 >>> ((Int32.ofInt 1).toUInt32 &&& Int32.toUInt32 31)).toInt32)) &&& Int32.ofInt 1431655765))) &&& Int32.ofInt 858993459)) + (Int32.toInt (Int32.ofInt (Int32.toInt (((Int32.ofInt (x0 - (Int32.toInt (Int32.ofInt (Int32.toInt (((Int32.ofInt x0).toUInt32 >>> ((Int32.ofInt 1).toUInt32 &&& Int32.toUInt32 31)).toInt32)) &&& Int32.ofInt 1431655765)))).toUInt32 >>> ((Int32.ofInt 2).toUInt32 &&& Int32.toUInt32 31)).toInt32)) &&& Int32.ofInt 858993459)))).toUInt32 >>> ((Int32.ofInt 4).toUInt32 &&& Int32.toUInt32 31)).toInt32))) &&& Int32.ofInt 252645135))).toUInt32 >>> ((Int32.ofInt 8).toUInt32 &&& Int32.toUInt32 31)).toInt32))) + (Int32.toInt (((Int32.ofInt ((Int32.toInt (Int32.ofInt (((Int32.toInt (Int32.ofInt (x0 - (Int32.toInt (Int32.ofInt (Int32.toInt (((Int32.ofInt x0).toUInt32 >>> ((Int32.ofInt 1).toUInt32 &&& Int32.toUInt32 31)).toInt32)) &&& Int32.ofInt 1431655765))) &&& Int32.ofInt 858993459)) + (Int32.toInt (Int32.ofInt (Int32.toInt (((Int32.ofInt (x0 - (Int32.toInt (Int32.ofInt (Int32.toInt (((Int32.ofInt x0).toUInt32 >>> ((Int32.ofInt 1).toUInt32 &&& Int32.toUInt32 31)).toInt32)) &&& Int32.ofInt 1431655765)))).toUInt32 >>> ((Int32.ofInt 2).toUInt32 &&& Int32.toUInt32 31)).toInt32)) &&& Int32.ofInt 858993459))) + (Int32.toInt (((Int32.ofInt ((Int32.toInt (Int32.ofInt (x0 - (Int32.toInt (Int32.ofInt (Int32.toInt (((Int32.ofInt x0).toUInt32 >>> ((Int32.ofInt 1).toUInt32 &&& Int32.toUInt32 31)).toInt32)) &&& Int32.ofInt 1431655765))) &&& Int32.ofInt 858993459)) + (Int32.toInt (Int32.ofInt (Int32.toInt (((Int32.ofInt (x0 - (Int32.toInt (Int32.ofInt (Int32.toInt (((Int32.ofInt x0).toUInt32 >>> ((Int32.ofInt 1).toUInt32 &&& Int32.toUInt32 31)).toInt32)) &&& Int32.ofInt 1431655765)))).toUInt32 >>> ((Int32.ofInt 2).toUInt32 &&& Int32.toUInt32 31)).toInt32)) &&& Int32.ofInt 858993459)))).toUInt32 >>> ((Int32.ofInt 4).toUInt32 &&& Int32.toUInt32 31)).toInt32))) &&& Int32.ofInt 252645135)) + (Int32.toInt (((Int32.ofInt (Int32.toInt (Int32.ofInt (((Int32.toInt (Int32.ofInt (x0 - (Int32.toInt (Int32.ofInt (Int32.toInt (((Int32.ofInt x0).toUInt32 >>> ((Int32.ofInt 1).toUInt32 &&& Int32.toUInt32 31)).toInt32)) &&& Int32.ofInt 1431655765))) &&& Int32.ofInt 858993459)) + (Int32.toInt (Int32.ofInt (Int32.toInt (((Int32.ofInt (x0 - (Int32.toInt (Int32.ofInt (Int32.toInt (((Int32.ofInt x0).toUInt32 >>> ((Int32.ofInt 1).toUInt32 &&& Int32.toUInt32 31)).toInt32)) &&& Int32.ofInt 1431655765)))).toUInt32 >>> ((Int32.ofInt 2).toUInt32 &&& Int32.toUInt32 31)).toInt32)) &&& Int32.ofInt 858993459))) + (Int32.toInt (((Int32.ofInt ((Int32.toInt (Int32.ofInt (x0 - (Int32.toInt (Int32.ofInt (Int32.toInt (((Int32.ofInt x0).toUInt32 >>> ((Int32.ofInt 1).toUInt32 &&& Int32.toUInt32 31)).toInt32)) &&& Int32.ofInt 1431655765))) &&& Int32.ofInt 858993459)) + (Int32.toInt (Int32.ofInt (Int32.toInt (((Int32.ofInt (x0 - (Int32.toInt (Int32.ofInt (Int32.toInt (((Int32.ofInt x0).toUInt32 >>> ((Int32.ofInt 1).toUInt32 &&& Int32.toUInt32 31)).toInt32)) &&& Int32.ofInt 1431655765)))).toUInt32 >>> ((Int32.ofInt 2).toUInt32 &&& Int32.toUInt32 31)).toInt32)) &&& Int32.ofInt 858993459)))).toUInt32 >>> ((Int32.ofInt 4).toUInt32 &&& Int32.toUInt32 31)).toInt32))) &&& Int32.ofInt 252645135))).toUInt32 >>> ((Int32.ofInt 8).toUInt32 &&& Int32.toUInt32 31)).toInt32)))).toUInt32 >>> ((Int32.ofInt 16).toUInt32 &&& Int32.toUInt32 31)).toInt32))) &&& Int32.ofInt 63))) M) : wp 0 yJ6_bitCount_0f7a4 0 [some (Iv x0)] [] M Q := by
  refine wp_iload_n dJ6_bitCount_0f7a4_0 rfl ?_
  refine wp_iload_n dJ6_bitCount_0f7a4_1 rfl ?_
  refine wp_iconst dJ6_bitCount_0f7a4_2 ?_
  refine wp_iushr (Int32.toInt (((Int32.ofInt x0).toUInt32 >>> ((Int32.ofInt 1).toUInt32 &&& Int32.toUInt32 31)).toInt32)) dJ6_bitCount_0f7a4_3 ((Int32.ofInt_toInt _).symm) ?_
  refine wp_ldcw 1431655765 dJ6_bitCount_0f7a4_4 (kc_JI_265 rfl) ?_
  refine wp_iand (Int32.toInt (Int32.ofInt (Int32.toInt (((Int32.ofInt x0).toUInt32 >>> ((Int32.ofInt 1).toUInt32 &&& Int32.toUInt32 31)).toInt32)) &&& Int32.ofInt 1431655765)) dJ6_bitCount_0f7a4_7 ((Int32.ofInt_toInt _).symm) ?_
  refine wp_isub dJ6_bitCount_0f7a4_8 ?_
  refine wp_istore_n (L2 := [some (Iv (x0 - (Int32.toInt (Int32.ofInt (Int32.toInt (((Int32.ofInt x0).toUInt32 >>> ((Int32.ofInt 1).toUInt32 &&& Int32.toUInt32 31)).toInt32)) &&& Int32.ofInt 1431655765))))]) dJ6_bitCount_0f7a4_9 (Nat.le_of_ble_eq_true rfl) (Nat.le_of_ble_eq_true rfl) rfl ?_
  refine wp_iload_n dJ6_bitCount_0f7a4_10 rfl ?_
  refine wp_ldcw 858993459 dJ6_bitCount_0f7a4_11 (kc_JI_266 rfl) ?_
  refine wp_iand (Int32.toInt (Int32.ofInt (x0 - (Int32.toInt (Int32.ofInt (Int32.toInt (((Int32.ofInt x0).toUInt32 >>> ((Int32.ofInt 1).toUInt32 &&& Int32.toUInt32 31)).toInt32)) &&& Int32.ofInt 1431655765))) &&& Int32.ofInt 858993459)) dJ6_bitCount_0f7a4_14 ((Int32.ofInt_toInt _).symm) ?_
  refine wp_iload_n dJ6_bitCount_0f7a4_15 rfl ?_
  refine wp_iconst dJ6_bitCount_0f7a4_16 ?_
  refine wp_iushr (Int32.toInt (((Int32.ofInt (x0 - (Int32.toInt (Int32.ofInt (Int32.toInt (((Int32.ofInt x0).toUInt32 >>> ((Int32.ofInt 1).toUInt32 &&& Int32.toUInt32 31)).toInt32)) &&& Int32.ofInt 1431655765)))).toUInt32 >>> ((Int32.ofInt 2).toUInt32 &&& Int32.toUInt32 31)).toInt32)) dJ6_bitCount_0f7a4_17 ((Int32.ofInt_toInt _).symm) ?_
  refine wp_ldcw 858993459 dJ6_bitCount_0f7a4_18 (kc_JI_266 rfl) ?_
  refine wp_iand (Int32.toInt (Int32.ofInt (Int32.toInt (((Int32.ofInt (x0 - (Int32.toInt (Int32.ofInt (Int32.toInt (((Int32.ofInt x0).toUInt32 >>> ((Int32.ofInt 1).toUInt32 &&& Int32.toUInt32 31)).toInt32)) &&& Int32.ofInt 1431655765)))).toUInt32 >>> ((Int32.ofInt 2).toUInt32 &&& Int32.toUInt32 31)).toInt32)) &&& Int32.ofInt 858993459)) dJ6_bitCount_0f7a4_21 ((Int32.ofInt_toInt _).symm) ?_
  refine wp_iadd dJ6_bitCount_0f7a4_22 ?_
  refine wp_istore_n (L2 := [some (Iv ((Int32.toInt (Int32.ofInt (x0 - (Int32.toInt (Int32.ofInt (Int32.toInt (((Int32.ofInt x0).toUInt32 >>> ((Int32.ofInt 1).toUInt32 &&& Int32.toUInt32 31)).toInt32)) &&& Int32.ofInt 1431655765))) &&& Int32.ofInt 858993459)) + (Int32.toInt (Int32.ofInt (Int32.toInt (((Int32.ofInt (x0 - (Int32.toInt (Int32.ofInt (Int32.toInt (((Int32.ofInt x0).toUInt32 >>> ((Int32.ofInt 1).toUInt32 &&& Int32.toUInt32 31)).toInt32)) &&& Int32.ofInt 1431655765)))).toUInt32 >>> ((Int32.ofInt 2).toUInt32 &&& Int32.toUInt32 31)).toInt32)) &&& Int32.ofInt 858993459))))]) dJ6_bitCount_0f7a4_23 (Nat.le_of_ble_eq_true rfl) (Nat.le_of_ble_eq_true rfl) rfl ?_
  refine wp_iload_n dJ6_bitCount_0f7a4_24 rfl ?_
  refine wp_iload_n dJ6_bitCount_0f7a4_25 rfl ?_
  refine wp_iconst dJ6_bitCount_0f7a4_26 ?_
  refine wp_iushr (Int32.toInt (((Int32.ofInt ((Int32.toInt (Int32.ofInt (x0 - (Int32.toInt (Int32.ofInt (Int32.toInt (((Int32.ofInt x0).toUInt32 >>> ((Int32.ofInt 1).toUInt32 &&& Int32.toUInt32 31)).toInt32)) &&& Int32.ofInt 1431655765))) &&& Int32.ofInt 858993459)) + (Int32.toInt (Int32.ofInt (Int32.toInt (((Int32.ofInt (x0 - (Int32.toInt (Int32.ofInt (Int32.toInt (((Int32.ofInt x0).toUInt32 >>> ((Int32.ofInt 1).toUInt32 &&& Int32.toUInt32 31)).toInt32)) &&& Int32.ofInt 1431655765)))).toUInt32 >>> ((Int32.ofInt 2).toUInt32 &&& Int32.toUInt32 31)).toInt32)) &&& Int32.ofInt 858993459)))).toUInt32 >>> ((Int32.ofInt 4).toUInt32 &&& Int32.toUInt32 31)).toInt32)) dJ6_bitCount_0f7a4_27 ((Int32.ofInt_toInt _).symm) ?_
  refine wp_iadd dJ6_bitCount_0f7a4_28 ?_
  refine wp_ldcw 252645135 dJ6_bitCount_0f7a4_29 (kc_JI_267 rfl) ?_
  refine wp_iand (Int32.toInt (Int32.ofInt (((Int32.toInt (Int32.ofInt (x0 - (Int32.toInt (Int32.ofInt (Int32.toInt (((Int32.ofInt x0).toUInt32 >>> ((Int32.ofInt 1).toUInt32 &&& Int32.toUInt32 31)).toInt32)) &&& Int32.ofInt 1431655765))) &&& Int32.ofInt 858993459)) + (Int32.toInt (Int32.ofInt (Int32.toInt (((Int32.ofInt (x0 - (Int32.toInt (Int32.ofInt (Int32.toInt (((Int32.ofInt x0).toUInt32 >>> ((Int32.ofInt 1).toUInt32 &&& Int32.toUInt32 31)).toInt32)) &&& Int32.ofInt 1431655765)))).toUInt32 >>> ((Int32.ofInt 2).toUInt32 &&& Int32.toUInt32 31)).toInt32)) &&& Int32.ofInt 858993459))) + (Int32.toInt (((Int32.ofInt ((Int32.toInt (Int32.ofInt (x0 - (Int32.toInt (Int32.ofInt (Int32.toInt (((Int32.ofInt x0).toUInt32 >>> ((Int32.ofInt 1).toUInt32 &&& Int32.toUInt32 31)).toInt32)) &&& Int32.ofInt 1431655765))) &&& Int32.ofInt 858993459)) + (Int32.toInt (Int32.ofInt (Int32.toInt (((Int32.ofInt (x0 - (Int32.toInt (Int32.ofInt (Int32.toInt (((Int32.ofInt x0).toUInt32 >>> ((Int32.ofInt 1).toUInt32 &&& Int32.toUInt32 31)).toInt32)) &&& Int32.ofInt 1431655765)))).toUInt32 >>> ((Int32.ofInt 2).toUInt32 &&& Int32.toUInt32 31)).toInt32)) &&& Int32.ofInt 858993459)))).toUInt32 >>> ((Int32.ofInt 4).toUInt32 &&& Int32.toUInt32 31)).toInt32))) &&& Int32.ofInt 252645135)) dJ6_bitCount_0f7a4_32 ((Int32.ofInt_toInt _).symm) ?_
  refine wp_istore_n (L2 := [some (Iv (Int32.toInt (Int32.ofInt (((Int32.toInt (Int32.ofInt (x0 - (Int32.toInt (Int32.ofInt (Int32.toInt (((Int32.ofInt x0).toUInt32 >>> ((Int32.ofInt 1).toUInt32 &&& Int32.toUInt32 31)).toInt32)) &&& Int32.ofInt 1431655765))) &&& Int32.ofInt 858993459)) + (Int32.toInt (Int32.ofInt (Int32.toInt (((Int32.ofInt (x0 - (Int32.toInt (Int32.ofInt (Int32.toInt (((Int32.ofInt x0).toUInt32 >>> ((Int32.ofInt 1).toUInt32 &&& Int32.toUInt32 31)).toInt32)) &&& Int32.ofInt 1431655765)))).toUInt32 >>> ((Int32.ofInt 2).toUInt32 &&& Int32.toUInt32 31)).toInt32)) &&& Int32.ofInt 858993459))) + (Int32.toInt (((Int32.ofInt ((Int32.toInt (Int32.ofInt (x0 - (Int32.toInt (Int32.ofInt (Int32.toInt (((Int32.ofInt x0).toUInt32 >>> ((Int32.ofInt 1).toUInt32 &&& Int32.toUInt32 31)).toInt32)) &&& Int32.ofInt 1431655765))) &&& Int32.ofInt 858993459)) + (Int32.toInt (Int32.ofInt (Int32.toInt (((Int32.ofInt (x0 - (Int32.toInt (Int32.ofInt (Int32.toInt (((Int32.ofInt x0).toUInt32 >>> ((Int32.ofInt 1).toUInt32 &&& Int32.toUInt32 31)).toInt32)) &&& Int32.ofInt 1431655765)))).toUInt32 >>> ((Int32.ofInt 2).toUInt32 &&& Int32.toUInt32 31)).toInt32)) &&& Int32.ofInt 858993459)))).toUInt32 >>> ((Int32.ofInt 4).toUInt32 &&& Int32.toUInt32 31)).toInt32))) &&& Int32.ofInt 252645135)))]) dJ6_bitCount_0f7a4_33 (Nat.le_of_ble_eq_true rfl) (Nat.le_of_ble_eq_true rfl) rfl ?_
  refine wp_iload_n dJ6_bitCount_0f7a4_34 rfl ?_
  refine wp_iload_n dJ6_bitCount_0f7a4_35 rfl ?_
  refine wp_bipush dJ6_bitCount_0f7a4_36 (by decide) ?_
  refine wp_iushr (Int32.toInt (((Int32.ofInt (Int32.toInt (Int32.ofInt (((Int32.toInt (Int32.ofInt (x0 - (Int32.toInt (Int32.ofInt (Int32.toInt (((Int32.ofInt x0).toUInt32 >>> ((Int32.ofInt 1).toUInt32 &&& Int32.toUInt32 31)).toInt32)) &&& Int32.ofInt 1431655765))) &&& Int32.ofInt 858993459)) + (Int32.toInt (Int32.ofInt (Int32.toInt (((Int32.ofInt (x0 - (Int32.toInt (Int32.ofInt (Int32.toInt (((Int32.ofInt x0).toUInt32 >>> ((Int32.ofInt 1).toUInt32 &&& Int32.toUInt32 31)).toInt32)) &&& Int32.ofInt 1431655765)))).toUInt32 >>> ((Int32.ofInt 2).toUInt32 &&& Int32.toUInt32 31)).toInt32)) &&& Int32.ofInt 858993459))) + (Int32.toInt (((Int32.ofInt ((Int32.toInt (Int32.ofInt (x0 - (Int32.toInt (Int32.ofInt (Int32.toInt (((Int32.ofInt x0).toUInt32 >>> ((Int32.ofInt 1).toUInt32 &&& Int32.toUInt32 31)).toInt32)) &&& Int32.ofInt 1431655765))) &&& Int32.ofInt 858993459)) + (Int32.toInt (Int32.ofInt (Int32.toInt (((Int32.ofInt (x0 - (Int32.toInt (Int32.ofInt (Int32.toInt (((Int32.ofInt x0).toUInt32 >>> ((Int32.ofInt 1).toUInt32 &&& Int32.toUInt32 31)).toInt32)) &&& Int32.ofInt 1431655765)))).toUInt32 >>> ((Int32.ofInt 2).toUInt32 &&& Int32.toUInt32 31)).toInt32)) &&& Int32.ofInt 858993459)))).toUInt32 >>> ((Int32.ofInt 4).toUInt32 &&& Int32.toUInt32 31)).toInt32))) &&& Int32.ofInt 252645135))).toUInt32 >>> ((Int32.ofInt 8).toUInt32 &&& Int32.toUInt32 31)).toInt32)) dJ6_bitCount_0f7a4_38 ((Int32.ofInt_toInt _).symm) ?_
  refine wp_iadd dJ6_bitCount_0f7a4_39 ?_
  refine wp_istore_n (L2 := [some (Iv ((Int32.toInt (Int32.ofInt (((Int32.toInt (Int32.ofInt (x0 - (Int32.toInt (Int32.ofInt (Int32.toInt (((Int32.ofInt x0).toUInt32 >>> ((Int32.ofInt 1).toUInt32 &&& Int32.toUInt32 31)).toInt32)) &&& Int32.ofInt 1431655765))) &&& Int32.ofInt 858993459)) + (Int32.toInt (Int32.ofInt (Int32.toInt (((Int32.ofInt (x0 - (Int32.toInt (Int32.ofInt (Int32.toInt (((Int32.ofInt x0).toUInt32 >>> ((Int32.ofInt 1).toUInt32 &&& Int32.toUInt32 31)).toInt32)) &&& Int32.ofInt 1431655765)))).toUInt32 >>> ((Int32.ofInt 2).toUInt32 &&& Int32.toUInt32 31)).toInt32)) &&& Int32.ofInt 858993459))) + (Int32.toInt (((Int32.ofInt ((Int32.toInt (Int32.ofInt (x0 - (Int32.toInt (Int32.ofInt (Int32.toInt (((Int32.ofInt x0).toUInt32 >>> ((Int32.ofInt 1).toUInt32 &&& Int32.toUInt32 31)).toInt32)) &&& Int32.ofInt 1431655765))) &&& Int32.ofInt 858993459)) + (Int32.toInt (Int32.ofInt (Int32.toInt (((Int32.ofInt (x0 - (Int32.toInt (Int32.ofInt (Int32.toInt (((Int32.ofInt x0).toUInt32 >>> ((Int32.ofInt 1).toUInt32 &&& Int32.toUInt32 31)).toInt32)) &&& Int32.ofInt 1431655765)))).toUInt32 >>> ((Int32.ofInt 2).toUInt32 &&& Int32.toUInt32 31)).toInt32)) &&& Int32.ofInt 858993459)))).toUInt32 >>> ((Int32.ofInt 4).toUInt32 &&& Int32.toUInt32 31)).toInt32))) &&& Int32.ofInt 252645135)) + (Int32.toInt (((Int32.ofInt (Int32.toInt (Int32.ofInt (((Int32.toInt (Int32.ofInt (x0 - (Int32.toInt (Int32.ofInt (Int32.toInt (((Int32.ofInt x0).toUInt32 >>> ((Int32.ofInt 1).toUInt32 &&& Int32.toUInt32 31)).toInt32)) &&& Int32.ofInt 1431655765))) &&& Int32.ofInt 858993459)) + (Int32.toInt (Int32.ofInt (Int32.toInt (((Int32.ofInt (x0 - (Int32.toInt (Int32.ofInt (Int32.toInt (((Int32.ofInt x0).toUInt32 >>> ((Int32.ofInt 1).toUInt32 &&& Int32.toUInt32 31)).toInt32)) &&& Int32.ofInt 1431655765)))).toUInt32 >>> ((Int32.ofInt 2).toUInt32 &&& Int32.toUInt32 31)).toInt32)) &&& Int32.ofInt 858993459))) + (Int32.toInt (((Int32.ofInt ((Int32.toInt (Int32.ofInt (x0 - (Int32.toInt (Int32.ofInt (Int32.toInt (((Int32.ofInt x0).toUInt32 >>> ((Int32.ofInt 1).toUInt32 &&& Int32.toUInt32 31)).toInt32)) &&& Int32.ofInt 1431655765))) &&& Int32.ofInt 858993459)) + (Int32.toInt (Int32.ofInt (Int32.toInt (((Int32.ofInt (x0 - (Int32.toInt (Int32.ofInt (Int32.toInt (((Int32.ofInt x0).toUInt32 >>> ((Int32.ofInt 1).toUInt32 &&& Int32.toUInt32 31)).toInt32)) &&& Int32.ofInt 1431655765)))).toUInt32 >>> ((Int32.ofInt 2).toUInt32 &&& Int32.toUInt32 31)).toInt32)) &&& Int32.ofInt 858993459)))).toUInt32 >>> ((Int32.ofInt 4).toUInt32 &&& Int32.toUInt32 31)).toInt32))) &&& Int32.ofInt 252645135))).toUInt32 >>> ((Int32.ofInt 8).toUInt32 &&& Int32.toUInt32 31)).toInt32))))]) dJ6_bitCount_0f7a4_40 (Nat.le_of_ble_eq_true rfl) (Nat.le_of_ble_eq_true rfl) rfl ?_
  refine wp_iload_n dJ6_bitCount_0f7a4_41 rfl ?_
  refine wp_iload_n dJ6_bitCount_0f7a4_42 rfl ?_
  refine wp_bipush dJ6_bitCount_0f7a4_43 (by decide) ?_
  refine wp_iushr (Int32.toInt (((Int32.ofInt ((Int32.toInt (Int32.ofInt (((Int32.toInt (Int32.ofInt (x0 - (Int32.toInt (Int32.ofInt (Int32.toInt (((Int32.ofInt x0).toUInt32 >>> ((Int32.ofInt 1).toUInt32 &&& Int32.toUInt32 31)).toInt32)) &&& Int32.ofInt 1431655765))) &&& Int32.ofInt 858993459)) + (Int32.toInt (Int32.ofInt (Int32.toInt (((Int32.ofInt (x0 - (Int32.toInt (Int32.ofInt (Int32.toInt (((Int32.ofInt x0).toUInt32 >>> ((Int32.ofInt 1).toUInt32 &&& Int32.toUInt32 31)).toInt32)) &&& Int32.ofInt 1431655765)))).toUInt32 >>> ((Int32.ofInt 2).toUInt32 &&& Int32.toUInt32 31)).toInt32)) &&& Int32.ofInt 858993459))) + (Int32.toInt (((Int32.ofInt ((Int32.toInt (Int32.ofInt (x0 - (Int32.toInt (Int32.ofInt (Int32.toInt (((Int32.ofInt x0).toUInt32 >>> ((Int32.ofInt 1).toUInt32 &&& Int32.toUInt32 31)).toInt32)) &&& Int32.ofInt 1431655765))) &&& Int32.ofInt 858993459)) + (Int32.toInt (Int32.ofInt (Int32.toInt (((Int32.ofInt (x0 - (Int32.toInt (Int32.ofInt (Int32.toInt (((Int32.ofInt x0).toUInt32 >>> ((Int32.ofInt 1).toUInt32 &&& Int32.toUInt32 31)).toInt32)) &&& Int32.ofInt 1431655765)))).toUInt32 >>> ((Int32.ofInt 2).toUInt32 &&& Int32.toUInt32 31)).toInt32)) &&& Int32.ofInt 858993459)))).toUInt32 >>> ((Int32.ofInt 4).toUInt32 &&& Int32.toUInt32 31)).toInt32))) &&& Int32.ofInt 252645135)) + (Int32.toInt (((Int32.ofInt (Int32.toInt (Int32.ofInt (((Int32.toInt (Int32.ofInt (x0 - (Int32.toInt (Int32.ofInt (Int32.toInt (((Int32.ofInt x0).toUInt32 >>> ((Int32.ofInt 1).toUInt32 &&& Int32.toUInt32 31)).toInt32)) &&& Int32.ofInt 1431655765))) &&& Int32.ofInt 858993459)) + (Int32.toInt (Int32.ofInt (Int32.toInt (((Int32.ofInt (x0 - (Int32.toInt (Int32.ofInt (Int32.toInt (((Int32.ofInt x0).toUInt32 >>> ((Int32.ofInt 1).toUInt32 &&& Int32.toUInt32 31)).toInt32)) &&& Int32.ofInt 1431655765)))).toUInt32 >>> ((Int32.ofInt 2).toUInt32 &&& Int32.toUInt32 31)).toInt32)) &&& Int32.ofInt 858993459))) + (Int32.toInt (((Int32.ofInt ((Int32.toInt (Int32.ofInt (x0 - (Int32.toInt (Int32.ofInt (Int32.toInt (((Int32.ofInt x0).toUInt32 >>> ((Int32.ofInt 1).toUInt32 &&& Int32.toUInt32 31)).toInt32)) &&& Int32.ofInt 1431655765))) &&& Int32.ofInt 858993459)) + (Int32.toInt (Int32.ofInt (Int32.toInt (((Int32.ofInt (x0 - (Int32.toInt (Int32.ofInt (Int32.toInt (((Int32.ofInt x0).toUInt32 >>> ((Int32.ofInt 1).toUInt32 &&& Int32.toUInt32 31)).toInt32)) &&& Int32.ofInt 1431655765)))).toUInt32 >>> ((Int32.ofInt 2).toUInt32 &&& Int32.toUInt32 31)).toInt32)) &&& Int32.ofInt 858993459)))).toUInt32 >>> ((Int32.ofInt 4).toUInt32 &&& Int32.toUInt32 31)).toInt32))) &&& Int32.ofInt 252645135))).toUInt32 >>> ((Int32.ofInt 8).toUInt32 &&& Int32.toUInt32 31)).toInt32)))).toUInt32 >>> ((Int32.ofInt 16).toUInt32 &&& Int32.toUInt32 31)).toInt32)) dJ6_bitCount_0f7a4_45 ((Int32.ofInt_toInt _).symm) ?_
  refine wp_iadd dJ6_bitCount_0f7a4_46 ?_
  refine wp_istore_n (L2 := [some (Iv (((Int32.toInt (Int32.ofInt (((Int32.toInt (Int32.ofInt (x0 - (Int32.toInt (Int32.ofInt (Int32.toInt (((Int32.ofInt x0).toUInt32 >>> ((Int32.ofInt 1).toUInt32 &&& Int32.toUInt32 31)).toInt32)) &&& Int32.ofInt 1431655765))) &&& Int32.ofInt 858993459)) + (Int32.toInt (Int32.ofInt (Int32.toInt (((Int32.ofInt (x0 - (Int32.toInt (Int32.ofInt (Int32.toInt (((Int32.ofInt x0).toUInt32 >>> ((Int32.ofInt 1).toUInt32 &&& Int32.toUInt32 31)).toInt32)) &&& Int32.ofInt 1431655765)))).toUInt32 >>> ((Int32.ofInt 2).toUInt32 &&& Int32.toUInt32 31)).toInt32)) &&& Int32.ofInt 858993459))) + (Int32.toInt (((Int32.ofInt ((Int32.toInt (Int32.ofInt (x0 - (Int32.toInt (Int32.ofInt (Int32.toInt (((Int32.ofInt x0).toUInt32 >>> ((Int32.ofInt 1).toUInt32 &&& Int32.toUInt32 31)).toInt32)) &&& Int32.ofInt 1431655765))) &&& Int32.ofInt 858993459)) + (Int32.toInt (Int32.ofInt (Int32.toInt (((Int32.ofInt (x0 - (Int32.toInt (Int32.ofInt (Int32.toInt (((Int32.ofInt x0).toUInt32 >>> ((Int32.ofInt 1).toUInt32 &&& Int32.toUInt32 31)).toInt32)) &&& Int32.ofInt 1431655765)))).toUInt32 >>> ((Int32.ofInt 2).toUInt32 &&& Int32.toUInt32 31)).toInt32)) &&& Int32.ofInt 858993459)))).toUInt32 >>> ((Int32.ofInt 4).toUInt32 &&& Int32.toUInt32 31)).toInt32))) &&& Int32.ofInt 252645135)) + (Int32.toInt (((Int32.ofInt (Int32.toInt (Int32.ofInt (((Int32.toInt (Int32.ofInt (x0 - (Int32.toInt (Int32.ofInt (Int32.toInt (((Int32.ofInt x0).toUInt32 >>> ((Int32.ofInt 1).toUInt32 &&& Int32.toUInt32 31)).toInt32)) &&& Int32.ofInt 1431655765))) &&& Int32.ofInt 858993459)) + (Int32.toInt (Int32.ofInt (Int32.toInt (((Int32.ofInt (x0 - (Int32.toInt (Int32.ofInt (Int32.toInt (((Int32.ofInt x0).toUInt32 >>> ((Int32.ofInt 1).toUInt32 &&& Int32.toUInt32 31)).toInt32)) &&& Int32.ofInt 1431655765)))).toUInt32 >>> ((Int32.ofInt 2).toUInt32 &&& Int32.toUInt32 31)).toInt32)) &&& Int32.ofInt 858993459))) + (Int32.toInt (((Int32.ofInt ((Int32.toInt (Int32.ofInt (x0 - (Int32.toInt (Int32.ofInt (Int32.toInt (((Int32.ofInt x0).toUInt32 >>> ((Int32.ofInt 1).toUInt32 &&& Int32.toUInt32 31)).toInt32)) &&& Int32.ofInt 1431655765))) &&& Int32.ofInt 858993459)) + (Int32.toInt (Int32.ofInt (Int32.toInt (((Int32.ofInt (x0 - (Int32.toInt (Int32.ofInt (Int32.toInt (((Int32.ofInt x0).toUInt32 >>> ((Int32.ofInt 1).toUInt32 &&& Int32.toUInt32 31)).toInt32)) &&& Int32.ofInt 1431655765)))).toUInt32 >>> ((Int32.ofInt 2).toUInt32 &&& Int32.toUInt32 31)).toInt32)) &&& Int32.ofInt 858993459)))).toUInt32 >>> ((Int32.ofInt 4).toUInt32 &&& Int32.toUInt32 31)).toInt32))) &&& Int32.ofInt 252645135))).toUInt32 >>> ((Int32.ofInt 8).toUInt32 &&& Int32.toUInt32 31)).toInt32))) + (Int32.toInt (((Int32.ofInt ((Int32.toInt (Int32.ofInt (((Int32.toInt (Int32.ofInt (x0 - (Int32.toInt (Int32.ofInt (Int32.toInt (((Int32.ofInt x0).toUInt32 >>> ((Int32.ofInt 1).toUInt32 &&& Int32.toUInt32 31)).toInt32)) &&& Int32.ofInt 1431655765))) &&& Int32.ofInt 858993459)) + (Int32.toInt (Int32.ofInt (Int32.toInt (((Int32.ofInt (x0 - (Int32.toInt (Int32.ofInt (Int32.toInt (((Int32.ofInt x0).toUInt32 >>> ((Int32.ofInt 1).toUInt32 &&& Int32.toUInt32 31)).toInt32)) &&& Int32.ofInt 1431655765)))).toUInt32 >>> ((Int32.ofInt 2).toUInt32 &&& Int32.toUInt32 31)).toInt32)) &&& Int32.ofInt 858993459))) + (Int32.toInt (((Int32.ofInt ((Int32.toInt (Int32.ofInt (x0 - (Int32.toInt (Int32.ofInt (Int32.toInt (((Int32.ofInt x0).toUInt32 >>> ((Int32.ofInt 1).toUInt32 &&& Int32.toUInt32 31)).toInt32)) &&& Int32.ofInt 1431655765))) &&& Int32.ofInt 858993459)) + (Int32.toInt (Int32.ofInt (Int32.toInt (((Int32.ofInt (x0 - (Int32.toInt (Int32.ofInt (Int32.toInt (((Int32.ofInt x0).toUInt32 >>> ((Int32.ofInt 1).toUInt32 &&& Int32.toUInt32 31)).toInt32)) &&& Int32.ofInt 1431655765)))).toUInt32 >>> ((Int32.ofInt 2).toUInt32 &&& Int32.toUInt32 31)).toInt32)) &&& Int32.ofInt 858993459)))).toUInt32 >>> ((Int32.ofInt 4).toUInt32 &&& Int32.toUInt32 31)).toInt32))) &&& Int32.ofInt 252645135)) + (Int32.toInt (((Int32.ofInt (Int32.toInt (Int32.ofInt (((Int32.toInt (Int32.ofInt (x0 - (Int32.toInt (Int32.ofInt (Int32.toInt (((Int32.ofInt x0).toUInt32 >>> ((Int32.ofInt 1).toUInt32 &&& Int32.toUInt32 31)).toInt32)) &&& Int32.ofInt 1431655765))) &&& Int32.ofInt 858993459)) + (Int32.toInt (Int32.ofInt (Int32.toInt (((Int32.ofInt (x0 - (Int32.toInt (Int32.ofInt (Int32.toInt (((Int32.ofInt x0).toUInt32 >>> ((Int32.ofInt 1).toUInt32 &&& Int32.toUInt32 31)).toInt32)) &&& Int32.ofInt 1431655765)))).toUInt32 >>> ((Int32.ofInt 2).toUInt32 &&& Int32.toUInt32 31)).toInt32)) &&& Int32.ofInt 858993459))) + (Int32.toInt (((Int32.ofInt ((Int32.toInt (Int32.ofInt (x0 - (Int32.toInt (Int32.ofInt (Int32.toInt (((Int32.ofInt x0).toUInt32 >>> ((Int32.ofInt 1).toUInt32 &&& Int32.toUInt32 31)).toInt32)) &&& Int32.ofInt 1431655765))) &&& Int32.ofInt 858993459)) + (Int32.toInt (Int32.ofInt (Int32.toInt (((Int32.ofInt (x0 - (Int32.toInt (Int32.ofInt (Int32.toInt (((Int32.ofInt x0).toUInt32 >>> ((Int32.ofInt 1).toUInt32 &&& Int32.toUInt32 31)).toInt32)) &&& Int32.ofInt 1431655765)))).toUInt32 >>> ((Int32.ofInt 2).toUInt32 &&& Int32.toUInt32 31)).toInt32)) &&& Int32.ofInt 858993459)))).toUInt32 >>> ((Int32.ofInt 4).toUInt32 &&& Int32.toUInt32 31)).toInt32))) &&& Int32.ofInt 252645135))).toUInt32 >>> ((Int32.ofInt 8).toUInt32 &&& Int32.toUInt32 31)).toInt32)))).toUInt32 >>> ((Int32.ofInt 16).toUInt32 &&& Int32.toUInt32 31)).toInt32))))]) dJ6_bitCount_0f7a4_47 (Nat.le_of_ble_eq_true rfl) (Nat.le_of_ble_eq_true rfl) rfl ?_
  refine wp_iload_n dJ6_bitCount_0f7a4_48 rfl ?_
  refine wp_bipush dJ6_bitCount_0f7a4_49 (by decide) ?_
  refine wp_iand (Int32.toInt (Int32.ofInt (((Int32.toInt (Int32.ofInt (((Int32.toInt (Int32.ofInt (x0 - (Int32.toInt (Int32.ofInt (Int32.toInt (((Int32.ofInt x0).toUInt32 >>> ((Int32.ofInt 1).toUInt32 &&& Int32.toUInt32 31)).toInt32)) &&& Int32.ofInt 1431655765))) &&& Int32.ofInt 858993459)) + (Int32.toInt (Int32.ofInt (Int32.toInt (((Int32.ofInt (x0 - (Int32.toInt (Int32.ofInt (Int32.toInt (((Int32.ofInt x0).toUInt32 >>> ((Int32.ofInt 1).toUInt32 &&& Int32.toUInt32 31)).toInt32)) &&& Int32.ofInt 1431655765)))).toUInt32 >>> ((Int32.ofInt 2).toUInt32 &&& Int32.toUInt32 31)).toInt32)) &&& Int32.ofInt 858993459))) + (Int32.toInt (((Int32.ofInt ((Int32.toInt (Int32.ofInt (x0 - (Int32.toInt (Int32.ofInt (Int32.toInt (((Int32.ofInt x0).toUInt32 >>> ((Int32.ofInt 1).toUInt32 &&& Int32.toUInt32 31)).toInt32)) &&& Int32.ofInt 1431655765))) &&& Int32.ofInt 858993459)) + (Int32.toInt (Int32.ofInt (Int32.toInt (((Int32.ofInt (x0 - (Int32.toInt (Int32.ofInt (Int32.toInt (((Int32.ofInt x0).toUInt32 >>> ((Int32.ofInt 1).toUInt32 &&& Int32.toUInt32 31)).toInt32)) &&& Int32.ofInt 1431655765)))).toUInt32 >>> ((Int32.ofInt 2).toUInt32 &&& Int32.toUInt32 31)).toInt32)) &&& Int32.ofInt 858993459)))).toUInt32 >>> ((Int32.ofInt 4).toUInt32 &&& Int32.toUInt32 31)).toInt32))) &&& Int32.ofInt 252645135)) + (Int32.toInt (((Int32.ofInt (Int32.toInt (Int32.ofInt (((Int32.toInt (Int32.ofInt (x0 - (Int32.toInt (Int32.ofInt (Int32.toInt (((Int32.ofInt x0).toUInt32 >>> ((Int32.ofInt 1).toUInt32 &&& Int32.toUInt32 31)).toInt32)) &&& Int32.ofInt 1431655765))) &&& Int32.ofInt 858993459)) + (Int32.toInt (Int32.ofInt (Int32.toInt (((Int32.ofInt (x0 - (Int32.toInt (Int32.ofInt (Int32.toInt (((Int32.ofInt x0).toUInt32 >>> ((Int32.ofInt 1).toUInt32 &&& Int32.toUInt32 31)).toInt32)) &&& Int32.ofInt 1431655765)))).toUInt32 >>> ((Int32.ofInt 2).toUInt32 &&& Int32.toUInt32 31)).toInt32)) &&& Int32.ofInt 858993459))) + (Int32.toInt (((Int32.ofInt ((Int32.toInt (Int32.ofInt (x0 - (Int32.toInt (Int32.ofInt (Int32.toInt (((Int32.ofInt x0).toUInt32 >>> ((Int32.ofInt 1).toUInt32 &&& Int32.toUInt32 31)).toInt32)) &&& Int32.ofInt 1431655765))) &&& Int32.ofInt 858993459)) + (Int32.toInt (Int32.ofInt (Int32.toInt (((Int32.ofInt (x0 - (Int32.toInt (Int32.ofInt (Int32.toInt (((Int32.ofInt x0).toUInt32 >>> ((Int32.ofInt 1).toUInt32 &&& Int32.toUInt32 31)).toInt32)) &&& Int32.ofInt 1431655765)))).toUInt32 >>> ((Int32.ofInt 2).toUInt32 &&& Int32.toUInt32 31)).toInt32)) &&& Int32.ofInt 858993459)))).toUInt32 >>> ((Int32.ofInt 4).toUInt32 &&& Int32.toUInt32 31)).toInt32))) &&& Int32.ofInt 252645135))).toUInt32 >>> ((Int32.ofInt 8).toUInt32 &&& Int32.toUInt32 31)).toInt32))) + (Int32.toInt (((Int32.ofInt ((Int32.toInt (Int32.ofInt (((Int32.toInt (Int32.ofInt (x0 - (Int32.toInt (Int32.ofInt (Int32.toInt (((Int32.ofInt x0).toUInt32 >>> ((Int32.ofInt 1).toUInt32 &&& Int32.toUInt32 31)).toInt32)) &&& Int32.ofInt 1431655765))) &&& Int32.ofInt 858993459)) + (Int32.toInt (Int32.ofInt (Int32.toInt (((Int32.ofInt (x0 - (Int32.toInt (Int32.ofInt (Int32.toInt (((Int32.ofInt x0).toUInt32 >>> ((Int32.ofInt 1).toUInt32 &&& Int32.toUInt32 31)).toInt32)) &&& Int32.ofInt 1431655765)))).toUInt32 >>> ((Int32.ofInt 2).toUInt32 &&& Int32.toUInt32 31)).toInt32)) &&& Int32.ofInt 858993459))) + (Int32.toInt (((Int32.ofInt ((Int32.toInt (Int32.ofInt (x0 - (Int32.toInt (Int32.ofInt (Int32.toInt (((Int32.ofInt x0).toUInt32 >>> ((Int32.ofInt 1).toUInt32 &&& Int32.toUInt32 31)).toInt32)) &&& Int32.ofInt 1431655765))) &&& Int32.ofInt 858993459)) + (Int32.toInt (Int32.ofInt (Int32.toInt (((Int32.ofInt (x0 - (Int32.toInt (Int32.ofInt (Int32.toInt (((Int32.ofInt x0).toUInt32 >>> ((Int32.ofInt 1).toUInt32 &&& Int32.toUInt32 31)).toInt32)) &&& Int32.ofInt 1431655765)))).toUInt32 >>> ((Int32.ofInt 2).toUInt32 &&& Int32.toUInt32 31)).toInt32)) &&& Int32.ofInt 858993459)))).toUInt32 >>> ((Int32.ofInt 4).toUInt32 &&& Int32.toUInt32 31)).toInt32))) &&& Int32.ofInt 252645135)) + (Int32.toInt (((Int32.ofInt (Int32.toInt (Int32.ofInt (((Int32.toInt (Int32.ofInt (x0 - (Int32.toInt (Int32.ofInt (Int32.toInt (((Int32.ofInt x0).toUInt32 >>> ((Int32.ofInt 1).toUInt32 &&& Int32.toUInt32 31)).toInt32)) &&& Int32.ofInt 1431655765))) &&& Int32.ofInt 858993459)) + (Int32.toInt (Int32.ofInt (Int32.toInt (((Int32.ofInt (x0 - (Int32.toInt (Int32.ofInt (Int32.toInt (((Int32.ofInt x0).toUInt32 >>> ((Int32.ofInt 1).toUInt32 &&& Int32.toUInt32 31)).toInt32)) &&& Int32.ofInt 1431655765)))).toUInt32 >>> ((Int32.ofInt 2).toUInt32 &&& Int32.toUInt32 31)).toInt32)) &&& Int32.ofInt 858993459))) + (Int32.toInt (((Int32.ofInt ((Int32.toInt (Int32.ofInt (x0 - (Int32.toInt (Int32.ofInt (Int32.toInt (((Int32.ofInt x0).toUInt32 >>> ((Int32.ofInt 1).toUInt32 &&& Int32.toUInt32 31)).toInt32)) &&& Int32.ofInt 1431655765))) &&& Int32.ofInt 858993459)) + (Int32.toInt (Int32.ofInt (Int32.toInt (((Int32.ofInt (x0 - (Int32.toInt (Int32.ofInt (Int32.toInt (((Int32.ofInt x0).toUInt32 >>> ((Int32.ofInt 1).toUInt32 &&& Int32.toUInt32 31)).toInt32)) &&& Int32.ofInt 1431655765)))).toUInt32 >>> ((Int32.ofInt 2).toUInt32 &&& Int32.toUInt32 31)).toInt32)) &&& Int32.ofInt 858993459)))).toUInt32 >>> ((Int32.ofInt 4).toUInt32 &&& Int32.toUInt32 31)).toInt32))) &&& Int32.ofInt 252645135))).toUInt32 >>> ((Int32.ofInt 8).toUInt32 &&& Int32.toUInt32 31)).toInt32)))).toUInt32 >>> ((Int32.ofInt 16).toUInt32 &&& Int32.toUInt32 31)).toInt32))) &&& Int32.ofInt 63)) dJ6_bitCount_0f7a4_51 ((Int32.ofInt_toInt _).symm) ?_
  exact wp_iret dJ6_bitCount_0f7a4_52 rfl (Or.inr ⟨rfl, rfl, rfl, by decide⟩) rfl h
theorem eJ6_bitCount_0f7a4 {x0 : Int}  {M : Mem} {Q : Vl → Mem → Prop} (h : Q (Iv (Int32.toInt (Int32.ofInt (((Int32.toInt (Int32.ofInt (((Int32.toInt (Int32.ofInt (x0 - (Int32.toInt (Int32.ofInt (Int32.toInt (((Int32.ofInt x0).toUInt32 >>> ((Int32.ofInt 1).toUInt32 &&& Int32.toUInt32 31)).toInt32)) &&& Int32.ofInt 1431655765))) &&& Int32.ofInt 858993459)) + (Int32.toInt (Int32.ofInt (Int32.toInt (((Int32.ofInt (x0 - (Int32.toInt (Int32.ofInt (Int32.toInt (((Int32.ofInt x0).toUInt32 >>> ((Int32.ofInt 1).toUInt32 &&& Int32.toUInt32 31)).toInt32)) &&& Int32.ofInt 1431655765)))).toUInt32 >>> ((Int32.ofInt 2).toUInt32 &&& Int32.toUInt32 31)).toInt32)) &&& Int32.ofInt 858993459))) + (Int32.toInt (((Int32.ofInt ((Int32.toInt (Int32.ofInt (x0 - (Int32.toInt (Int32.ofInt (Int32.toInt (((Int32.ofInt x0).toUInt32 >>> ((Int32.ofInt 1).toUInt32 &&& Int32.toUInt32 31)).toInt32)) &&& Int32.ofInt 1431655765))) &&& Int32.ofInt 858993459)) + (Int32.toInt (Int32.ofInt (Int32.toInt (((Int32.ofInt (x0 - (Int32.toInt (Int32.ofInt (Int32.toInt (((Int32.ofInt x0).toUInt32 >>> ((Int32.ofInt 1).toUInt32 &&& Int32.toUInt32 31)).toInt32)) &&& Int32.ofInt 1431655765)))).toUInt32 >>> ((Int32.ofInt 2).toUInt32 &&& Int32.toUInt32 31)).toInt32)) &&& Int32.ofInt 858993459)))).toUInt32 >>> ((Int32.ofInt 4).toUInt32 &&& Int32.toUInt32 31)).toInt32))) &&& Int32.ofInt 252645135)) + (Int32.toInt (((Int32.ofInt (Int32.toInt (Int32.ofInt (((Int32.toInt (Int32.ofInt (x0 - (Int32.toInt (Int32.ofInt (Int32.toInt (((Int32.ofInt x0).toUInt32 >>> ((Int32.ofInt 1).toUInt32 &&& Int32.toUInt32 31)).toInt32)) &&& Int32.ofInt 1431655765))) &&& Int32.ofInt 858993459)) + (Int32.toInt (Int32.ofInt (Int32.toInt (((Int32.ofInt (x0 - (Int32.toInt (Int32.ofInt (Int32.toInt (((Int32.ofInt x0).toUInt32 >>> ((Int32.ofInt 1).toUInt32 &&& Int32.toUInt32 31)).toInt32)) &&& Int32.ofInt 1431655765)))).toUInt32 >>> ((Int32.ofInt 2).toUInt32 &&& Int32.toUInt32 31)).toInt32)) &&& Int32.ofInt 858993459))) + (Int32.toInt (((Int32.ofInt ((Int32.toInt (Int32.ofInt (x0 - (Int32.toInt (Int32.ofInt (Int32.toInt (((Int32.ofInt x0).toUInt32 >>> ((Int32.ofInt 1).toUInt32 &&& Int32.toUInt32 31)).toInt32)) &&& Int32.ofInt 1431655765))) &&& Int32.ofInt 858993459)) + (Int32.toInt (Int32.ofInt (Int32.toInt (((Int32.ofInt (x0 - (Int32.toInt (Int32.ofInt (Int32.toInt (((Int32.ofInt x0).toUInt32 >>> ((Int32.ofInt 1).toUInt32 &&& Int32.toUInt32 31)).toInt32)) &&& Int32.ofInt 1431655765)))).toUInt32 >>> ((Int32.ofInt 2).toUInt32 &&& Int32.toUInt32 31)).toInt32)) &&& Int32.ofInt 858993459)))).toUInt32 >>> ((Int32.ofInt 4).toUInt32 &&& Int32.toUInt32 31)).toInt32))) &&& Int32.ofInt 252645135))).toUInt32 >>> ((Int32.ofInt 8).toUInt32 &&& Int32.toUInt32 31)).toInt32))) + (Int32.toInt (((Int32.ofInt ((Int32.toInt (Int32.ofInt (((Int32.toInt (Int32.ofInt (x0 - (Int32.toInt (Int32.ofInt (Int32.toInt (((Int32.ofInt x0).toUInt32 >>> ((Int32.ofInt 1).toUInt32 &&& Int32.toUInt32 31)).toInt32)) &&& Int32.ofInt 1431655765))) &&& Int32.ofInt 858993459)) + (Int32.toInt (Int32.ofInt (Int32.toInt (((Int32.ofInt (x0 - (Int32.toInt (Int32.ofInt (Int32.toInt (((Int32.ofInt x0).toUInt32 >>> ((Int32.ofInt 1).toUInt32 &&& Int32.toUInt32 31)).toInt32)) &&& Int32.ofInt 1431655765)))).toUInt32 >>> ((Int32.ofInt 2).toUInt32 &&& Int32.toUInt32 31)).toInt32)) &&& Int32.ofInt 858993459))) + (Int32.toInt (((Int32.ofInt ((Int32.toInt (Int32.ofInt (x0 - (Int32.toInt (Int32.ofInt (Int32.toInt (((Int32.ofInt x0).toUInt32 >>> ((Int32.ofInt 1).toUInt32 &&& Int32.toUInt32 31)).toInt32)) &&& Int32.ofInt 1431655765))) &&& Int32.ofInt 858993459)) + (Int32.toInt (Int32.ofInt (Int32.toInt (((Int32.ofInt (x0 - (Int32.toInt (Int32.ofInt (Int32.toInt (((Int32.ofInt x0).toUInt32 >>> ((Int32.ofInt 1).toUInt32 &&& Int32.toUInt32 31)).toInt32)) &&& Int32.ofInt 1431655765)))).toUInt32 >>> ((Int32.ofInt 2).toUInt32 &&& Int32.toUInt32 31)).toInt32)) &&& Int32.ofInt 858993459)))).toUInt32 >>> ((Int32.ofInt 4).toUInt32 &&& Int32.toUInt32 31)).toInt32))) &&& Int32.ofInt 252645135)) + (Int32.toInt (((Int32.ofInt (Int32.toInt (Int32.ofInt (((Int32.toInt (Int32.ofInt (x0 - (Int32.toInt (Int32.ofInt (Int32.toInt (((Int32.ofInt x0).toUInt32 >>> ((Int32.ofInt 1).toUInt32 &&& Int32.toUInt32 31)).toInt32)) &&& Int32.ofInt 1431655765))) &&& Int32.ofInt 858993459)) + (Int32.toInt (Int32.ofInt (Int32.toInt (((Int32.ofInt (x0 - (Int32.toInt (Int32.ofInt (Int32.toInt (((Int32.ofInt x0).toUInt32 >>> ((Int32.ofInt 1).toUInt32 &&& Int32.toUInt32 31)).toInt32)) &&& Int32.ofInt 1431655765)))).toUInt32 >>> ((Int32.ofInt 2).toUInt32 &&& Int32.toUInt32 31)).toInt32)) &&& Int32.ofInt 858993459))) + (Int32.toInt (((Int32.ofInt ((Int32.toInt (Int32.ofInt (x0 - (Int32.toInt (Int32.ofInt (Int32.toInt (((Int32.ofInt x0).toUInt32 >>> ((Int32.ofInt 1).toUInt32 &&& Int32.toUInt32 31)).toInt32)) &&& Int32.ofInt 1431655765))) &&& Int32.ofInt 858993459)) + (Int32.toInt (Int32.ofInt (Int32.toInt (((Int32.ofInt (x0 - (Int32.toInt (Int32.ofInt (Int32.toInt (((Int32.ofInt x0).toUInt32 >>> ((Int32.ofInt 1).toUInt32 &&& Int32.toUInt32 31)).toInt32)) &&& Int32.ofInt 1431655765)))).toUInt32 >>> ((Int32.ofInt 2).toUInt32 &&& Int32.toUInt32 31)).toInt32)) &&& Int32.ofInt 858993459)))).toUInt32 >>> ((Int32.ofInt 4).toUInt32 &&& Int32.toUInt32 31)).toInt32))) &&& Int32.ofInt 252645135))).toUInt32 >>> ((Int32.ofInt 8).toUInt32 &&& Int32.toUInt32 31)).toInt32)))).toUInt32 >>> ((Int32.ofInt 16).toUInt32 &&& Int32.toUInt32 31)).toInt32))) &&& Int32.ofInt 63))) M) : cl 0 yJ6_bitCount_0f7a4 [Iv x0] M Q := enterG (by decide +kernel) (by exact Or.inr (Or.inl rfl)) (Nat.le_of_ble_eq_true rfl) rfl (gJ6_bitCount_0f7a4 h)
theorem gJ13_bitCount_95d88 {x0 : Int}  {M : Mem} {Q : Vl → Mem → Prop} (h : Q (Iv (Int32.toInt (Int32.ofInt ((((Int64.toInt (Int64.ofInt (((Int64.toInt (Int64.ofInt (x0 - (Int64.toInt (Int64.ofInt (Int64.toInt (((Int64.ofInt x0).toUInt64 >>> ((Int32.ofInt 1).toInt64.toUInt64 &&& Int64.toUInt64 63)).toInt64)) &&& Int64.ofInt 6148914691236517205))) &&& Int64.ofInt 3689348814741910323)) + (Int64.toInt (Int64.ofInt (Int64.toInt (((Int64.ofInt (x0 - (Int64.toInt (Int64.ofInt (Int64.toInt (((Int64.ofInt x0).toUInt64 >>> ((Int32.ofInt 1).toInt64.toUInt64 &&& Int64.toUInt64 63)).toInt64)) &&& Int64.ofInt 6148914691236517205)))).toUInt64 >>> ((Int32.ofInt 2).toInt64.toUInt64 &&& Int64.toUInt64 63)).toInt64)) &&& Int64.ofInt 3689348814741910323))) + (Int64.toInt (((Int64.ofInt ((Int64.toInt (Int64.ofInt (x0 - (Int64.toInt (Int64.ofInt (Int64.toInt (((Int64.ofInt x0).toUInt64 >>> ((Int32.ofInt 1).toInt64.toUInt64 &&& Int64.toUInt64 63)).toInt64)) &&& Int64.ofInt 6148914691236517205))) &&& Int64.ofInt 3689348814741910323)) + (Int64.toInt (Int64.ofInt (Int64.toInt (((Int64.ofInt (x0 - (Int64.toInt (Int64.ofInt (Int64.toInt (((Int64.ofInt x0).toUInt64 >>> ((Int32.ofInt 1).toInt64.toUInt64 &&& Int64.toUInt64 63)).toInt64)) &&& Int64.ofInt 6148914691236517205)))).toUInt64 >>> ((Int32.ofInt 2).toInt64.toUInt64 &&& Int64.toUInt64 63)).toInt64)) &&& Int64.ofInt 3689348814741910323)))).toUInt64 >>> ((Int32.ofInt 4).toInt64.toUInt64 &&& Int64.toUInt64 63)).toInt64))) &&& Int64.ofInt 1085102592571150095)) + (Int64.toInt (((Int64.ofInt (Int64.toInt (Int64.ofInt (((Int64.toInt (Int64.ofInt (x0 - (Int64.toInt (Int64.ofInt (Int64.toInt (((Int64.ofInt x0).toUInt64 >>> ((Int32.ofInt 1).toInt64.toUInt64 &&& Int64.toUInt64 63)).toInt64)) &&& Int64.ofInt 6148914691236517205))) &&& Int64.ofInt 3689348814741910323)) + (Int64.toInt (Int64.ofInt (Int64.toInt (((Int64.ofInt (x0 - (Int64.toInt (Int64.ofInt (Int64.toInt (((Int64.ofInt x0).toUInt64 >>> ((Int32.ofInt 1).toInt64.toUInt64 &&& Int64.toUInt64 63)).toInt64)) &&& Int64.ofInt 6148914691236517205)))).toUInt64 >>> ((Int32.ofInt 2).toInt64.toUInt64 &&& Int64.toUInt64 63)).toInt64)) &&& Int64.ofInt 3689348814741910323))) + (Int64.toInt (((Int64.ofInt ((Int64.toInt (Int64.ofInt (x0 - (Int64.toInt (Int64.ofInt (Int64.toInt (((Int64.ofInt x0).toUInt64 >>> ((Int32.ofInt 1).toInt64.toUInt64 &&& Int64.toUInt64 63)).toInt64)) &&& Int64.ofInt 6148914691236517205))) &&& Int64.ofInt 3689348814741910323)) + (Int64.toInt (Int64.ofInt (Int64.toInt (((Int64.ofInt (x0 - (Int64.toInt (Int64.ofInt (Int64.toInt (((Int64.ofInt x0).toUInt64 >>> ((Int32.ofInt 1).toInt64.toUInt64 &&& Int64.toUInt64 63)).toInt64)) &&& Int64.ofInt 6148914691236517205)))).toUInt64 >>> ((Int32.ofInt 2).toInt64.toUInt64 &&& Int64.toUInt64 63)).toInt64)) &&& Int64.ofInt 3689348814741910323)))).toUInt64 >>> ((Int32.ofInt 4).toInt64.toUInt64 &&& Int64.toUInt64 63)).toInt64))) &&& Int64.ofInt 1085102592571150095))).toUInt64 >>> ((Int32.ofInt 8).toInt64.toUInt64 &&& Int64.toUInt64 63)).toInt64))) + (Int64.toInt (((Int64.ofInt ((Int64.toInt (Int64.ofInt (((Int64.toInt (Int64.ofInt (x0 - (Int64.toInt (Int64.ofInt (Int64.toInt (((Int64.ofInt x0).toUInt64 >>> ((Int32.ofInt 1).toInt64.toUInt64 &&& Int64.toUInt64 63)).toInt64)) &&& Int64.ofInt 6148914691236517205))) &&& Int64.ofInt 3689348814741910323)) + (Int64.toInt (Int64.ofInt (Int64.toInt (((Int64.ofInt (x0 - (Int64.toInt (Int64.ofInt (Int64.toInt (((Int64.ofInt x0).toUInt64 >>> ((Int32.ofInt 1).toInt64.toUInt64 &&& Int64.toUInt64 63)).toInt64)) &&& Int64.ofInt 6148914691236517205)))).toUInt64 >>> ((Int32.ofInt 2).toInt64.toUInt64 &&& Int64.toUInt64 63)).toInt64)) &&& Int64.ofInt 3689348814741910323))) + (Int64.toInt (((Int64.ofInt ((Int64.toInt (Int64.ofInt (x0 - (Int64.toInt (Int64.ofInt (Int64.toInt (((Int64.ofInt x0).toUInt64 >>> ((Int32.ofInt 1).toInt64.toUInt64 &&& Int64.toUInt64 63)).toInt64)) &&& Int64.ofInt 6148914691236517205))) &&& Int64.ofInt 3689348814741910323)) + (Int64.toInt (Int64.ofInt (Int64.toInt (((Int64.ofInt (x0 - (Int64.toInt (Int64.ofInt (Int64.toInt (((Int64.ofInt x0).toUInt64 >>> ((Int32.ofInt 1).toInt64.toUInt64 &&& Int64.toUInt64 63)).toInt64)) &&& Int64.ofInt 6148914691236517205)))).toUInt64 >>> ((Int32.ofInt 2).toInt64.toUInt64 &&& Int64.toUInt64 63)).toInt64)) &&& Int64.ofInt 3689348814741910323)))).toUInt64 >>> ((Int32.ofInt 4).toInt64.toUInt64 &&& Int64.toUInt64 63)).toInt64))) &&& Int64.ofInt 1085102592571150095)) + (Int64.toInt (((Int64.ofInt (Int64.toInt (Int64.ofInt (((Int64.toInt (Int64.ofInt (x0 - (Int64.toInt (Int64.ofInt (Int64.toInt (((Int64.ofInt x0).toUInt64 >>> ((Int32.ofInt 1).toInt64.toUInt64 &&& Int64.toUInt64 63)).toInt64)) &&& Int64.ofInt 6148914691236517205))) &&& Int64.ofInt 3689348814741910323)) + (Int64.toInt (Int64.ofInt (Int64.toInt (((Int64.ofInt (x0 - (Int64.toInt (Int64.ofInt (Int64.toInt (((Int64.ofInt x0).toUInt64 >>> ((Int32.ofInt 1).toInt64.toUInt64 &&& Int64.toUInt64 63)).toInt64)) &&& Int64.ofInt 6148914691236517205)))).toUInt64 >>> ((Int32.ofInt 2).toInt64.toUInt64 &&& Int64.toUInt64 63)).toInt64)) &&& Int64.ofInt 3689348814741910323))) + (Int64.toInt (((Int64.ofInt ((Int64.toInt (Int64.ofInt (x0 - (Int64.toInt (Int64.ofInt (Int64.toInt (((Int64.ofInt x0).toUInt64 >>> ((Int32.ofInt 1).toInt64.toUInt64 &&& Int64.toUInt64 63)).toInt64)) &&& Int64.ofInt 6148914691236517205))) &&& Int64.ofInt 3689348814741910323)) + (Int64.toInt (Int64.ofInt (Int64.toInt (((Int64.ofInt (x0 - (Int64.toInt (Int64.ofInt (Int64.toInt (((Int64.ofInt x0).toUInt64 >>> ((Int32.ofInt 1).toInt64.toUInt64 &&& Int64.toUInt64 63)).toInt64)) &&& Int64.ofInt 6148914691236517205)))).toUInt64 >>> ((Int32.ofInt 2).toInt64.toUInt64 &&& Int64.toUInt64 63)).toInt64)) &&& Int64.ofInt 3689348814741910323)))).toUInt64 >>> ((Int32.ofInt 4).toInt64.toUInt64 &&& Int64.toUInt64 63)).toInt64))) &&& Int64.ofInt 1085102592571150095))).toUInt64 >>> ((Int32.ofInt 8).toInt64.toUInt64 &&& Int64.toUInt64 63)).toInt64)))).toUInt64 >>> ((Int32.ofInt 16).toInt64.toUInt64 &&& Int64.toUInt64 63)).toInt64))) + (Int64.toInt (((Int64.ofInt (((Int64.toInt (Int64.ofInt (((Int64.toInt (Int64.ofInt (x0 - (Int64.toInt (Int64.ofInt (Int64.toInt (((Int64.ofInt x0).toUInt64 >>> ((Int32.ofInt 1).toInt64.toUInt64 &&& Int64.toUInt64 63)).toInt64)) &&& Int64.ofInt 6148914691236517205))) &&& Int64.ofInt 3689348814741910323)) + (Int64.toInt (Int64.ofInt (Int64.toInt (((Int64.ofInt (x0 - (Int64.toInt (Int64.ofInt (Int64.toInt (((Int64.ofInt x0).toUInt64 >>> ((Int32.ofInt 1).toInt64.toUInt64 &&& Int64.toUInt64 63)).toInt64)) &&& Int64.ofInt 6148914691236517205)))).toUInt64 >>> ((Int32.ofInt 2).toInt64.toUInt64 &&& Int64.toUInt64 63)).toInt64)) &&& Int64.ofInt 3689348814741910323))) + (Int64.toInt (((Int64.ofInt ((Int64.toInt (Int64.ofInt (x0 - (Int64.toInt (Int64.ofInt (Int64.toInt (((Int64.ofInt x0).toUInt64 >>> ((Int32.ofInt 1).toInt64.toUInt64 &&& Int64.toUInt64 63)).toInt64)) &&& Int64.ofInt 6148914691236517205))) &&& Int64.ofInt 3689348814741910323)) + (Int64.toInt (Int64.ofInt (Int64.toInt (((Int64.ofInt (x0 - (Int64.toInt (Int64.ofInt (Int64.toInt (((Int64.ofInt x0).toUInt64 >>> ((Int32.ofInt 1).toInt64.toUInt64 &&& Int64.toUInt64 63)).toInt64)) &&& Int64.ofInt 6148914691236517205)))).toUInt64 >>> ((Int32.ofInt 2).toInt64.toUInt64 &&& Int64.toUInt64 63)).toInt64)) &&& Int64.ofInt 3689348814741910323)))).toUInt64 >>> ((Int32.ofInt 4).toInt64.toUInt64 &&& Int64.toUInt64 63)).toInt64))) &&& Int64.ofInt 1085102592571150095)) + (Int64.toInt (((Int64.ofInt (Int64.toInt (Int64.ofInt (((Int64.toInt (Int64.ofInt (x0 - (Int64.toInt (Int64.ofInt (Int64.toInt (((Int64.ofInt x0).toUInt64 >>> ((Int32.ofInt 1).toInt64.toUInt64 &&& Int64.toUInt64 63)).toInt64)) &&& Int64.ofInt 6148914691236517205))) &&& Int64.ofInt 3689348814741910323)) + (Int64.toInt (Int64.ofInt (Int64.toInt (((Int64.ofInt (x0 - (Int64.toInt (Int64.ofInt (Int64.toInt (((Int64.ofInt x0).toUInt64 >>> ((Int32.ofInt 1).toInt64.toUInt64 &&& Int64.toUInt64 63)).toInt64)) &&& Int64.ofInt 6148914691236517205)))).toUInt64 >>> ((Int32.ofInt 2).toInt64.toUInt64 &&& Int64.toUInt64 63)).toInt64)) &&& Int64.ofInt 3689348814741910323))) + (Int64.toInt (((Int64.ofInt ((Int64.toInt (Int64.ofInt (x0 - (Int64.toInt (Int64.ofInt (Int64.toInt (((Int64.ofInt x0).toUInt64 >>> ((Int32.ofInt 1).toInt64.toUInt64 &&& Int64.toUInt64 63)).toInt64)) &&& Int64.ofInt 6148914691236517205))) &&& Int64.ofInt 3689348814741910323)) + (Int64.toInt (Int64.ofInt (Int64.toInt (((Int64.ofInt (x0 - (Int64.toInt (Int64.ofInt (Int64.toInt (((Int64.ofInt x0).toUInt64 >>> ((Int32.ofInt 1).toInt64.toUInt64 &&& Int64.toUInt64 63)).toInt64)) &&& Int64.ofInt 6148914691236517205)))).toUInt64 >>> ((Int32.ofInt 2).toInt64.toUInt64 &&& Int64.toUInt64 63)).toInt64)) &&& Int64.ofInt 3689348814741910323)))).toUInt64 >>> ((Int32.ofInt 4).toInt64.toUInt64 &&& Int64.toUInt64 63)).toInt64))) &&& Int64.ofInt 1085102592571150095))).toUInt64 >>> ((Int32.ofInt 8).toInt64.toUInt64 &&& Int64.toUInt64 63)).toInt64))) + (Int64.toInt (((Int64.ofInt ((Int64.toInt (Int64.ofInt (((Int64.toInt (Int64.ofInt (x0 - (Int64.toInt (Int64.ofInt (Int64.toInt (((Int64.ofInt x0).toUInt64 >>> ((Int32.ofInt 1).toInt64.toUInt64 &&& Int64.toUInt64 63)).toInt64)) &&& Int64.ofInt 6148914691236517205))) &&& Int64.ofInt 3689348814741910323)) + (Int64.toInt (Int64.ofInt (Int64.toInt (((Int64.ofInt (x0 - (Int64.toInt (Int64.ofInt (Int64.toInt (((Int64.ofInt x0).toUInt64 >>> ((Int32.ofInt 1).toInt64.toUInt64 &&& Int64.toUInt64 63)).toInt64)) &&& Int64.ofInt 6148914691236517205)))).toUInt64 >>> ((Int32.ofInt 2).toInt64.toUInt64 &&& Int64.toUInt64 63)).toInt64)) &&& Int64.ofInt 3689348814741910323))) + (Int64.toInt (((Int64.ofInt ((Int64.toInt (Int64.ofInt (x0 - (Int64.toInt (Int64.ofInt (Int64.toInt (((Int64.ofInt x0).toUInt64 >>> ((Int32.ofInt 1).toInt64.toUInt64 &&& Int64.toUInt64 63)).toInt64)) &&& Int64.ofInt 6148914691236517205))) &&& Int64.ofInt 3689348814741910323)) + (Int64.toInt (Int64.ofInt (Int64.toInt (((Int64.ofInt (x0 - (Int64.toInt (Int64.ofInt (Int64.toInt (((Int64.ofInt x0).toUInt64 >>> ((Int32.ofInt 1).toInt64.toUInt64 &&& Int64.toUInt64 63)).toInt64)) &&& Int64.ofInt 6148914691236517205)))).toUInt64 >>> ((Int32.ofInt 2).toInt64.toUInt64 &&& Int64.toUInt64 63)).toInt64)) &&& Int64.ofInt 3689348814741910323)))).toUInt64 >>> ((Int32.ofInt 4).toInt64.toUInt64 &&& Int64.toUInt64 63)).toInt64))) &&& Int64.ofInt 1085102592571150095)) + (Int64.toInt (((Int64.ofInt (Int64.toInt (Int64.ofInt (((Int64.toInt (Int64.ofInt (x0 - (Int64.toInt (Int64.ofInt (Int64.toInt (((Int64.ofInt x0).toUInt64 >>> ((Int32.ofInt 1).toInt64.toUInt64 &&& Int64.toUInt64 63)).toInt64)) &&& Int64.ofInt 6148914691236517205))) &&& Int64.ofInt 3689348814741910323)) + (Int64.toInt (Int64.ofInt (Int64.toInt (((Int64.ofInt (x0 - (Int64.toInt (Int64.ofInt (Int64.toInt (((Int64.ofInt x0).toUInt64 >>> ((Int32.ofInt 1).toInt64.toUInt64 &&& Int64.toUInt64 63)).toInt64)) &&& Int64.ofInt 6148914691236517205)))).toUInt64 >>> ((Int32.ofInt 2).toInt64.toUInt64 &&& Int64.toUInt64 63)).toInt64)) &&& Int64.ofInt 3689348814741910323))) + (Int64.toInt (((Int64.ofInt ((Int64.toInt (Int64.ofInt (x0 - (Int64.toInt (Int64.ofInt (Int64.toInt (((Int64.ofInt x0).toUInt64 >>> ((Int32.ofInt 1).toInt64.toUInt64 &&& Int64.toUInt64 63)).toInt64)) &&& Int64.ofInt 6148914691236517205))) &&& Int64.ofInt 3689348814741910323)) + (Int64.toInt (Int64.ofInt (Int64.toInt (((Int64.ofInt (x0 - (Int64.toInt (Int64.ofInt (Int64.toInt (((Int64.ofInt x0).toUInt64 >>> ((Int32.ofInt 1).toInt64.toUInt64 &&& Int64.toUInt64 63)).toInt64)) &&& Int64.ofInt 6148914691236517205)))).toUInt64 >>> ((Int32.ofInt 2).toInt64.toUInt64 &&& Int64.toUInt64 63)).toInt64)) &&& Int64.ofInt 3689348814741910323)))).toUInt64 >>> ((Int32.ofInt 4).toInt64.toUInt64 &&& Int64.toUInt64 63)).toInt64))) &&& Int64.ofInt 1085102592571150095))).toUInt64 >>> ((Int32.ofInt 8).toInt64.toUInt64 &&& Int64.toUInt64 63)).toInt64)))).toUInt64 >>> ((Int32.ofInt 16).toInt64.toUInt64 &&& Int64.toUInt64 63)).toInt64)))).toUInt64 >>> ((Int32.ofInt 32).toInt64.toUInt64 &&& Int64.toUInt64 63)).toInt64))) &&& Int32.ofInt 127))) M) : wp 0 yJ13_bitCount_95d88 0 [some (Jv x0), none] [] M Q := by
  refine wp_lload_n dJ13_bitCount_95d88_0 rfl ?_
  refine wp_lload_n dJ13_bitCount_95d88_1 rfl ?_
  refine wp_iconst dJ13_bitCount_95d88_2 ?_
  refine wp_lushr (Int64.toInt (((Int64.ofInt x0).toUInt64 >>> ((Int32.ofInt 1).toInt64.toUInt64 &&& Int64.toUInt64 63)).toInt64)) dJ13_bitCount_95d88_3 ((Int64.ofInt_toInt _).symm) ?_
  refine wp_ldc2 6148914691236517205 dJ13_bitCount_95d88_4 (kc_JL_314 rfl) ?_
  refine wp_land (Int64.toInt (Int64.ofInt (Int64.toInt (((Int64.ofInt x0).toUInt64 >>> ((Int32.ofInt 1).toInt64.toUInt64 &&& Int64.toUInt64 63)).toInt64)) &&& Int64.ofInt 6148914691236517205)) dJ13_bitCount_95d88_7 ((Int64.ofInt_toInt _).symm) ?_
  refine wp_lsub dJ13_bitCount_95d88_8 ?_
  refine wp_lstore_n (L2 := [some (Jv (x0 - (Int64.toInt (Int64.ofInt (Int64.toInt (((Int64.ofInt x0).toUInt64 >>> ((Int32.ofInt 1).toInt64.toUInt64 &&& Int64.toUInt64 63)).toInt64)) &&& Int64.ofInt 6148914691236517205)))), none]) dJ13_bitCount_95d88_9 (Nat.le_of_ble_eq_true rfl) (Nat.le_of_ble_eq_true rfl) rfl ?_
  refine wp_lload_n dJ13_bitCount_95d88_10 rfl ?_
  refine wp_ldc2 3689348814741910323 dJ13_bitCount_95d88_11 (kc_JL_316 rfl) ?_
  refine wp_land (Int64.toInt (Int64.ofInt (x0 - (Int64.toInt (Int64.ofInt (Int64.toInt (((Int64.ofInt x0).toUInt64 >>> ((Int32.ofInt 1).toInt64.toUInt64 &&& Int64.toUInt64 63)).toInt64)) &&& Int64.ofInt 6148914691236517205))) &&& Int64.ofInt 3689348814741910323)) dJ13_bitCount_95d88_14 ((Int64.ofInt_toInt _).symm) ?_
  refine wp_lload_n dJ13_bitCount_95d88_15 rfl ?_
  refine wp_iconst dJ13_bitCount_95d88_16 ?_
  refine wp_lushr (Int64.toInt (((Int64.ofInt (x0 - (Int64.toInt (Int64.ofInt (Int64.toInt (((Int64.ofInt x0).toUInt64 >>> ((Int32.ofInt 1).toInt64.toUInt64 &&& Int64.toUInt64 63)).toInt64)) &&& Int64.ofInt 6148914691236517205)))).toUInt64 >>> ((Int32.ofInt 2).toInt64.toUInt64 &&& Int64.toUInt64 63)).toInt64)) dJ13_bitCount_95d88_17 ((Int64.ofInt_toInt _).symm) ?_
  refine wp_ldc2 3689348814741910323 dJ13_bitCount_95d88_18 (kc_JL_316 rfl) ?_
  refine wp_land (Int64.toInt (Int64.ofInt (Int64.toInt (((Int64.ofInt (x0 - (Int64.toInt (Int64.ofInt (Int64.toInt (((Int64.ofInt x0).toUInt64 >>> ((Int32.ofInt 1).toInt64.toUInt64 &&& Int64.toUInt64 63)).toInt64)) &&& Int64.ofInt 6148914691236517205)))).toUInt64 >>> ((Int32.ofInt 2).toInt64.toUInt64 &&& Int64.toUInt64 63)).toInt64)) &&& Int64.ofInt 3689348814741910323)) dJ13_bitCount_95d88_21 ((Int64.ofInt_toInt _).symm) ?_
  refine wp_ladd dJ13_bitCount_95d88_22 ?_
  refine wp_lstore_n (L2 := [some (Jv ((Int64.toInt (Int64.ofInt (x0 - (Int64.toInt (Int64.ofInt (Int64.toInt (((Int64.ofInt x0).toUInt64 >>> ((Int32.ofInt 1).toInt64.toUInt64 &&& Int64.toUInt64 63)).toInt64)) &&& Int64.ofInt 6148914691236517205))) &&& Int64.ofInt 3689348814741910323)) + (Int64.toInt (Int64.ofInt (Int64.toInt (((Int64.ofInt (x0 - (Int64.toInt (Int64.ofInt (Int64.toInt (((Int64.ofInt x0).toUInt64 >>> ((Int32.ofInt 1).toInt64.toUInt64 &&& Int64.toUInt64 63)).toInt64)) &&& Int64.ofInt 6148914691236517205)))).toUInt64 >>> ((Int32.ofInt 2).toInt64.toUInt64 &&& Int64.toUInt64 63)).toInt64)) &&& Int64.ofInt 3689348814741910323)))), none]) dJ13_bitCount_95d88_23 (Nat.le_of_ble_eq_true rfl) (Nat.le_of_ble_eq_true rfl) rfl ?_
  refine wp_lload_n dJ13_bitCount_95d88_24 rfl ?_
  refine wp_lload_n dJ13_bitCount_95d88_25 rfl ?_
  refine wp_iconst dJ13_bitCount_95d88_26 ?_
  refine wp_lushr (Int64.toInt (((Int64.ofInt ((Int64.toInt (Int64.ofInt (x0 - (Int64.toInt (Int64.ofInt (Int64.toInt (((Int64.ofInt x0).toUInt64 >>> ((Int32.ofInt 1).toInt64.toUInt64 &&& Int64.toUInt64 63)).toInt64)) &&& Int64.ofInt 6148914691236517205))) &&& Int64.ofInt 3689348814741910323)) + (Int64.toInt (Int64.ofInt (Int64.toInt (((Int64.ofInt (x0 - (Int64.toInt (Int64.ofInt (Int64.toInt (((Int64.ofInt x0).toUInt64 >>> ((Int32.ofInt 1).toInt64.toUInt64 &&& Int64.toUInt64 63)).toInt64)) &&& Int64.ofInt 6148914691236517205)))).toUInt64 >>> ((Int32.ofInt 2).toInt64.toUInt64 &&& Int64.toUInt64 63)).toInt64)) &&& Int64.ofInt 3689348814741910323)))).toUInt64 >>> ((Int32.ofInt 4).toInt64.toUInt64 &&& Int64.toUInt64 63)).toInt64)) dJ13_bitCount_95d88_27 ((Int64.ofInt_toInt _).symm) ?_
  refine wp_ladd dJ13_bitCount_95d88_28 ?_
  refine wp_ldc2 1085102592571150095 dJ13_bitCount_95d88_29 (kc_JL_318 rfl) ?_
  refine wp_land (Int64.toInt (Int64.ofInt (((Int64.toInt (Int64.ofInt (x0 - (Int64.toInt (Int64.ofInt (Int64.toInt (((Int64.ofInt x0).toUInt64 >>> ((Int32.ofInt 1).toInt64.toUInt64 &&& Int64.toUInt64 63)).toInt64)) &&& Int64.ofInt 6148914691236517205))) &&& Int64.ofInt 3689348814741910323)) + (Int64.toInt (Int64.ofInt (Int64.toInt (((Int64.ofInt (x0 - (Int64.toInt (Int64.ofInt (Int64.toInt (((Int64.ofInt x0).toUInt64 >>> ((Int32.ofInt 1).toInt64.toUInt64 &&& Int64.toUInt64 63)).toInt64)) &&& Int64.ofInt 6148914691236517205)))).toUInt64 >>> ((Int32.ofInt 2).toInt64.toUInt64 &&& Int64.toUInt64 63)).toInt64)) &&& Int64.ofInt 3689348814741910323))) + (Int64.toInt (((Int64.ofInt ((Int64.toInt (Int64.ofInt (x0 - (Int64.toInt (Int64.ofInt (Int64.toInt (((Int64.ofInt x0).toUInt64 >>> ((Int32.ofInt 1).toInt64.toUInt64 &&& Int64.toUInt64 63)).toInt64)) &&& Int64.ofInt 6148914691236517205))) &&& Int64.ofInt 3689348814741910323)) + (Int64.toInt (Int64.ofInt (Int64.toInt (((Int64.ofInt (x0 - (Int64.toInt (Int64.ofInt (Int64.toInt (((Int64.ofInt x0).toUInt64 >>> ((Int32.ofInt 1).toInt64.toUInt64 &&& Int64.toUInt64 63)).toInt64)) &&& Int64.ofInt 6148914691236517205)))).toUInt64 >>> ((Int32.ofInt 2).toInt64.toUInt64 &&& Int64.toUInt64 63)).toInt64)) &&& Int64.ofInt 3689348814741910323)))).toUInt64 >>> ((Int32.ofInt 4).toInt64.toUInt64 &&& Int64.toUInt64 63)).toInt64))) &&& Int64.ofInt 1085102592571150095)) dJ13_bitCount_95d88_32 ((Int64.ofInt_toInt _).symm) ?_
  refine wp_lstore_n (L2 := [some (Jv (Int64.toInt (Int64.ofInt (((Int64.toInt (Int64.ofInt (x0 - (Int64.toInt (Int64.ofInt (Int64.toInt (((Int64.ofInt x0).toUInt64 >>> ((Int32.ofInt 1).toInt64.toUInt64 &&& Int64.toUInt64 63)).toInt64)) &&& Int64.ofInt 6148914691236517205))) &&& Int64.ofInt 3689348814741910323)) + (Int64.toInt (Int64.ofInt (Int64.toInt (((Int64.ofInt (x0 - (Int64.toInt (Int64.ofInt (Int64.toInt (((Int64.ofInt x0).toUInt64 >>> ((Int32.ofInt 1).toInt64.toUInt64 &&& Int64.toUInt64 63)).toInt64)) &&& Int64.ofInt 6148914691236517205)))).toUInt64 >>> ((Int32.ofInt 2).toInt64.toUInt64 &&& Int64.toUInt64 63)).toInt64)) &&& Int64.ofInt 3689348814741910323))) + (Int64.toInt (((Int64.ofInt ((Int64.toInt (Int64.ofInt (x0 - (Int64.toInt (Int64.ofInt (Int64.toInt (((Int64.ofInt x0).toUInt64 >>> ((Int32.ofInt 1).toInt64.toUInt64 &&& Int64.toUInt64 63)).toInt64)) &&& Int64.ofInt 6148914691236517205))) &&& Int64.ofInt 3689348814741910323)) + (Int64.toInt (Int64.ofInt (Int64.toInt (((Int64.ofInt (x0 - (Int64.toInt (Int64.ofInt (Int64.toInt (((Int64.ofInt x0).toUInt64 >>> ((Int32.ofInt 1).toInt64.toUInt64 &&& Int64.toUInt64 63)).toInt64)) &&& Int64.ofInt 6148914691236517205)))).toUInt64 >>> ((Int32.ofInt 2).toInt64.toUInt64 &&& Int64.toUInt64 63)).toInt64)) &&& Int64.ofInt 3689348814741910323)))).toUInt64 >>> ((Int32.ofInt 4).toInt64.toUInt64 &&& Int64.toUInt64 63)).toInt64))) &&& Int64.ofInt 1085102592571150095))), none]) dJ13_bitCount_95d88_33 (Nat.le_of_ble_eq_true rfl) (Nat.le_of_ble_eq_true rfl) rfl ?_
  refine wp_lload_n dJ13_bitCount_95d88_34 rfl ?_
  refine wp_lload_n dJ13_bitCount_95d88_35 rfl ?_
  refine wp_bipush dJ13_bitCount_95d88_36 (by decide) ?_
  refine wp_lushr (Int64.toInt (((Int64.ofInt (Int64.toInt (Int64.ofInt (((Int64.toInt (Int64.ofInt (x0 - (Int64.toInt (Int64.ofInt (Int64.toInt (((Int64.ofInt x0).toUInt64 >>> ((Int32.ofInt 1).toInt64.toUInt64 &&& Int64.toUInt64 63)).toInt64)) &&& Int64.ofInt 6148914691236517205))) &&& Int64.ofInt 3689348814741910323)) + (Int64.toInt (Int64.ofInt (Int64.toInt (((Int64.ofInt (x0 - (Int64.toInt (Int64.ofInt (Int64.toInt (((Int64.ofInt x0).toUInt64 >>> ((Int32.ofInt 1).toInt64.toUInt64 &&& Int64.toUInt64 63)).toInt64)) &&& Int64.ofInt 6148914691236517205)))).toUInt64 >>> ((Int32.ofInt 2).toInt64.toUInt64 &&& Int64.toUInt64 63)).toInt64)) &&& Int64.ofInt 3689348814741910323))) + (Int64.toInt (((Int64.ofInt ((Int64.toInt (Int64.ofInt (x0 - (Int64.toInt (Int64.ofInt (Int64.toInt (((Int64.ofInt x0).toUInt64 >>> ((Int32.ofInt 1).toInt64.toUInt64 &&& Int64.toUInt64 63)).toInt64)) &&& Int64.ofInt 6148914691236517205))) &&& Int64.ofInt 3689348814741910323)) + (Int64.toInt (Int64.ofInt (Int64.toInt (((Int64.ofInt (x0 - (Int64.toInt (Int64.ofInt (Int64.toInt (((Int64.ofInt x0).toUInt64 >>> ((Int32.ofInt 1).toInt64.toUInt64 &&& Int64.toUInt64 63)).toInt64)) &&& Int64.ofInt 6148914691236517205)))).toUInt64 >>> ((Int32.ofInt 2).toInt64.toUInt64 &&& Int64.toUInt64 63)).toInt64)) &&& Int64.ofInt 3689348814741910323)))).toUInt64 >>> ((Int32.ofInt 4).toInt64.toUInt64 &&& Int64.toUInt64 63)).toInt64))) &&& Int64.ofInt 1085102592571150095))).toUInt64 >>> ((Int32.ofInt 8).toInt64.toUInt64 &&& Int64.toUInt64 63)).toInt64)) dJ13_bitCount_95d88_38 ((Int64.ofInt_toInt _).symm) ?_
  refine wp_ladd dJ13_bitCount_95d88_39 ?_
  refine wp_lstore_n (L2 := [some (Jv ((Int64.toInt (Int64.ofInt (((Int64.toInt (Int64.ofInt (x0 - (Int64.toInt (Int64.ofInt (Int64.toInt (((Int64.ofInt x0).toUInt64 >>> ((Int32.ofInt 1).toInt64.toUInt64 &&& Int64.toUInt64 63)).toInt64)) &&& Int64.ofInt 6148914691236517205))) &&& Int64.ofInt 3689348814741910323)) + (Int64.toInt (Int64.ofInt (Int64.toInt (((Int64.ofInt (x0 - (Int64.toInt (Int64.ofInt (Int64.toInt (((Int64.ofInt x0).toUInt64 >>> ((Int32.ofInt 1).toInt64.toUInt64 &&& Int64.toUInt64 63)).toInt64)) &&& Int64.ofInt 6148914691236517205)))).toUInt64 >>> ((Int32.ofInt 2).toInt64.toUInt64 &&& Int64.toUInt64 63)).toInt64)) &&& Int64.ofInt 3689348814741910323))) + (Int64.toInt (((Int64.ofInt ((Int64.toInt (Int64.ofInt (x0 - (Int64.toInt (Int64.ofInt (Int64.toInt (((Int64.ofInt x0).toUInt64 >>> ((Int32.ofInt 1).toInt64.toUInt64 &&& Int64.toUInt64 63)).toInt64)) &&& Int64.ofInt 6148914691236517205))) &&& Int64.ofInt 3689348814741910323)) + (Int64.toInt (Int64.ofInt (Int64.toInt (((Int64.ofInt (x0 - (Int64.toInt (Int64.ofInt (Int64.toInt (((Int64.ofInt x0).toUInt64 >>> ((Int32.ofInt 1).toInt64.toUInt64 &&& Int64.toUInt64 63)).toInt64)) &&& Int64.ofInt 6148914691236517205)))).toUInt64 >>> ((Int32.ofInt 2).toInt64.toUInt64 &&& Int64.toUInt64 63)).toInt64)) &&& Int64.ofInt 3689348814741910323)))).toUInt64 >>> ((Int32.ofInt 4).toInt64.toUInt64 &&& Int64.toUInt64 63)).toInt64))) &&& Int64.ofInt 1085102592571150095)) + (Int64.toInt (((Int64.ofInt (Int64.toInt (Int64.ofInt (((Int64.toInt (Int64.ofInt (x0 - (Int64.toInt (Int64.ofInt (Int64.toInt (((Int64.ofInt x0).toUInt64 >>> ((Int32.ofInt 1).toInt64.toUInt64 &&& Int64.toUInt64 63)).toInt64)) &&& Int64.ofInt 6148914691236517205))) &&& Int64.ofInt 3689348814741910323)) + (Int64.toInt (Int64.ofInt (Int64.toInt (((Int64.ofInt (x0 - (Int64.toInt (Int64.ofInt (Int64.toInt (((Int64.ofInt x0).toUInt64 >>> ((Int32.ofInt 1).toInt64.toUInt64 &&& Int64.toUInt64 63)).toInt64)) &&& Int64.ofInt 6148914691236517205)))).toUInt64 >>> ((Int32.ofInt 2).toInt64.toUInt64 &&& Int64.toUInt64 63)).toInt64)) &&& Int64.ofInt 3689348814741910323))) + (Int64.toInt (((Int64.ofInt ((Int64.toInt (Int64.ofInt (x0 - (Int64.toInt (Int64.ofInt (Int64.toInt (((Int64.ofInt x0).toUInt64 >>> ((Int32.ofInt 1).toInt64.toUInt64 &&& Int64.toUInt64 63)).toInt64)) &&& Int64.ofInt 6148914691236517205))) &&& Int64.ofInt 3689348814741910323)) + (Int64.toInt (Int64.ofInt (Int64.toInt (((Int64.ofInt (x0 - (Int64.toInt (Int64.ofInt (Int64.toInt (((Int64.ofInt x0).toUInt64 >>> ((Int32.ofInt 1).toInt64.toUInt64 &&& Int64.toUInt64 63)).toInt64)) &&& Int64.ofInt 6148914691236517205)))).toUInt64 >>> ((Int32.ofInt 2).toInt64.toUInt64 &&& Int64.toUInt64 63)).toInt64)) &&& Int64.ofInt 3689348814741910323)))).toUInt64 >>> ((Int32.ofInt 4).toInt64.toUInt64 &&& Int64.toUInt64 63)).toInt64))) &&& Int64.ofInt 1085102592571150095))).toUInt64 >>> ((Int32.ofInt 8).toInt64.toUInt64 &&& Int64.toUInt64 63)).toInt64)))), none]) dJ13_bitCount_95d88_40 (Nat.le_of_ble_eq_true rfl) (Nat.le_of_ble_eq_true rfl) rfl ?_
  refine wp_lload_n dJ13_bitCount_95d88_41 rfl ?_
  refine wp_lload_n dJ13_bitCount_95d88_42 rfl ?_
  refine wp_bipush dJ13_bitCount_95d88_43 (by decide) ?_
  refine wp_lushr (Int64.toInt (((Int64.ofInt ((Int64.toInt (Int64.ofInt (((Int64.toInt (Int64.ofInt (x0 - (Int64.toInt (Int64.ofInt (Int64.toInt (((Int64.ofInt x0).toUInt64 >>> ((Int32.ofInt 1).toInt64.toUInt64 &&& Int64.toUInt64 63)).toInt64)) &&& Int64.ofInt 6148914691236517205))) &&& Int64.ofInt 3689348814741910323)) + (Int64.toInt (Int64.ofInt (Int64.toInt (((Int64.ofInt (x0 - (Int64.toInt (Int64.ofInt (Int64.toInt (((Int64.ofInt x0).toUInt64 >>> ((Int32.ofInt 1).toInt64.toUInt64 &&& Int64.toUInt64 63)).toInt64)) &&& Int64.ofInt 6148914691236517205)))).toUInt64 >>> ((Int32.ofInt 2).toInt64.toUInt64 &&& Int64.toUInt64 63)).toInt64)) &&& Int64.ofInt 3689348814741910323))) + (Int64.toInt (((Int64.ofInt ((Int64.toInt (Int64.ofInt (x0 - (Int64.toInt (Int64.ofInt (Int64.toInt (((Int64.ofInt x0).toUInt64 >>> ((Int32.ofInt 1).toInt64.toUInt64 &&& Int64.toUInt64 63)).toInt64)) &&& Int64.ofInt 6148914691236517205))) &&& Int64.ofInt 3689348814741910323)) + (Int64.toInt (Int64.ofInt (Int64.toInt (((Int64.ofInt (x0 - (Int64.toInt (Int64.ofInt (Int64.toInt (((Int64.ofInt x0).toUInt64 >>> ((Int32.ofInt 1).toInt64.toUInt64 &&& Int64.toUInt64 63)).toInt64)) &&& Int64.ofInt 6148914691236517205)))).toUInt64 >>> ((Int32.ofInt 2).toInt64.toUInt64 &&& Int64.toUInt64 63)).toInt64)) &&& Int64.ofInt 3689348814741910323)))).toUInt64 >>> ((Int32.ofInt 4).toInt64.toUInt64 &&& Int64.toUInt64 63)).toInt64))) &&& Int64.ofInt 1085102592571150095)) + (Int64.toInt (((Int64.ofInt (Int64.toInt (Int64.ofInt (((Int64.toInt (Int64.ofInt (x0 - (Int64.toInt (Int64.ofInt (Int64.toInt (((Int64.ofInt x0).toUInt64 >>> ((Int32.ofInt 1).toInt64.toUInt64 &&& Int64.toUInt64 63)).toInt64)) &&& Int64.ofInt 6148914691236517205))) &&& Int64.ofInt 3689348814741910323)) + (Int64.toInt (Int64.ofInt (Int64.toInt (((Int64.ofInt (x0 - (Int64.toInt (Int64.ofInt (Int64.toInt (((Int64.ofInt x0).toUInt64 >>> ((Int32.ofInt 1).toInt64.toUInt64 &&& Int64.toUInt64 63)).toInt64)) &&& Int64.ofInt 6148914691236517205)))).toUInt64 >>> ((Int32.ofInt 2).toInt64.toUInt64 &&& Int64.toUInt64 63)).toInt64)) &&& Int64.ofInt 3689348814741910323))) + (Int64.toInt (((Int64.ofInt ((Int64.toInt (Int64.ofInt (x0 - (Int64.toInt (Int64.ofInt (Int64.toInt (((Int64.ofInt x0).toUInt64 >>> ((Int32.ofInt 1).toInt64.toUInt64 &&& Int64.toUInt64 63)).toInt64)) &&& Int64.ofInt 6148914691236517205))) &&& Int64.ofInt 3689348814741910323)) + (Int64.toInt (Int64.ofInt (Int64.toInt (((Int64.ofInt (x0 - (Int64.toInt (Int64.ofInt (Int64.toInt (((Int64.ofInt x0).toUInt64 >>> ((Int32.ofInt 1).toInt64.toUInt64 &&& Int64.toUInt64 63)).toInt64)) &&& Int64.ofInt 6148914691236517205)))).toUInt64 >>> ((Int32.ofInt 2).toInt64.toUInt64 &&& Int64.toUInt64 63)).toInt64)) &&& Int64.ofInt 3689348814741910323)))).toUInt64 >>> ((Int32.ofInt 4).toInt64.toUInt64 &&& Int64.toUInt64 63)).toInt64))) &&& Int64.ofInt 1085102592571150095))).toUInt64 >>> ((Int32.ofInt 8).toInt64.toUInt64 &&& Int64.toUInt64 63)).toInt64)))).toUInt64 >>> ((Int32.ofInt 16).toInt64.toUInt64 &&& Int64.toUInt64 63)).toInt64)) dJ13_bitCount_95d88_45 ((Int64.ofInt_toInt _).symm) ?_
  refine wp_ladd dJ13_bitCount_95d88_46 ?_
  refine wp_lstore_n (L2 := [some (Jv (((Int64.toInt (Int64.ofInt (((Int64.toInt (Int64.ofInt (x0 - (Int64.toInt (Int64.ofInt (Int64.toInt (((Int64.ofInt x0).toUInt64 >>> ((Int32.ofInt 1).toInt64.toUInt64 &&& Int64.toUInt64 63)).toInt64)) &&& Int64.ofInt 6148914691236517205))) &&& Int64.ofInt 3689348814741910323)) + (Int64.toInt (Int64.ofInt (Int64.toInt (((Int64.ofInt (x0 - (Int64.toInt (Int64.ofInt (Int64.toInt (((Int64.ofInt x0).toUInt64 >>> ((Int32.ofInt 1).toInt64.toUInt64 &&& Int64.toUInt64 63)).toInt64)) &&& Int64.ofInt 6148914691236517205)))).toUInt64 >>> ((Int32.ofInt 2).toInt64.toUInt64 &&& Int64.toUInt64 63)).toInt64)) &&& Int64.ofInt 3689348814741910323))) + (Int64.toInt (((Int64.ofInt ((Int64.toInt (Int64.ofInt (x0 - (Int64.toInt (Int64.ofInt (Int64.toInt (((Int64.ofInt x0).toUInt64 >>> ((Int32.ofInt 1).toInt64.toUInt64 &&& Int64.toUInt64 63)).toInt64)) &&& Int64.ofInt 6148914691236517205))) &&& Int64.ofInt 3689348814741910323)) + (Int64.toInt (Int64.ofInt (Int64.toInt (((Int64.ofInt (x0 - (Int64.toInt (Int64.ofInt (Int64.toInt (((Int64.ofInt x0).toUInt64 >>> ((Int32.ofInt 1).toInt64.toUInt64 &&& Int64.toUInt64 63)).toInt64)) &&& Int64.ofInt 6148914691236517205)))).toUInt64 >>> ((Int32.ofInt 2).toInt64.toUInt64 &&& Int64.toUInt64 63)).toInt64)) &&& Int64.ofInt 3689348814741910323)))).toUInt64 >>> ((Int32.ofInt 4).toInt64.toUInt64 &&& Int64.toUInt64 63)).toInt64))) &&& Int64.ofInt 1085102592571150095)) + (Int64.toInt (((Int64.ofInt (Int64.toInt (Int64.ofInt (((Int64.toInt (Int64.ofInt (x0 - (Int64.toInt (Int64.ofInt (Int64.toInt (((Int64.ofInt x0).toUInt64 >>> ((Int32.ofInt 1).toInt64.toUInt64 &&& Int64.toUInt64 63)).toInt64)) &&& Int64.ofInt 6148914691236517205))) &&& Int64.ofInt 3689348814741910323)) + (Int64.toInt (Int64.ofInt (Int64.toInt (((Int64.ofInt (x0 - (Int64.toInt (Int64.ofInt (Int64.toInt (((Int64.ofInt x0).toUInt64 >>> ((Int32.ofInt 1).toInt64.toUInt64 &&& Int64.toUInt64 63)).toInt64)) &&& Int64.ofInt 6148914691236517205)))).toUInt64 >>> ((Int32.ofInt 2).toInt64.toUInt64 &&& Int64.toUInt64 63)).toInt64)) &&& Int64.ofInt 3689348814741910323))) + (Int64.toInt (((Int64.ofInt ((Int64.toInt (Int64.ofInt (x0 - (Int64.toInt (Int64.ofInt (Int64.toInt (((Int64.ofInt x0).toUInt64 >>> ((Int32.ofInt 1).toInt64.toUInt64 &&& Int64.toUInt64 63)).toInt64)) &&& Int64.ofInt 6148914691236517205))) &&& Int64.ofInt 3689348814741910323)) + (Int64.toInt (Int64.ofInt (Int64.toInt (((Int64.ofInt (x0 - (Int64.toInt (Int64.ofInt (Int64.toInt (((Int64.ofInt x0).toUInt64 >>> ((Int32.ofInt 1).toInt64.toUInt64 &&& Int64.toUInt64 63)).toInt64)) &&& Int64.ofInt 6148914691236517205)))).toUInt64 >>> ((Int32.ofInt 2).toInt64.toUInt64 &&& Int64.toUInt64 63)).toInt64)) &&& Int64.ofInt 3689348814741910323)))).toUInt64 >>> ((Int32.ofInt 4).toInt64.toUInt64 &&& Int64.toUInt64 63)).toInt64))) &&& Int64.ofInt 1085102592571150095))).toUInt64 >>> ((Int32.ofInt 8).toInt64.toUInt64 &&& Int64.toUInt64 63)).toInt64))) + (Int64.toInt (((Int64.ofInt ((Int64.toInt (Int64.ofInt (((Int64.toInt (Int64.ofInt (x0 - (Int64.toInt (Int64.ofInt (Int64.toInt (((Int64.ofInt x0).toUInt64 >>> ((Int32.ofInt 1).toInt64.toUInt64 &&& Int64.toUInt64 63)).toInt64)) &&& Int64.ofInt 6148914691236517205))) &&& Int64.ofInt 3689348814741910323)) + (Int64.toInt (Int64.ofInt (Int64.toInt (((Int64.ofInt (x0 - (Int64.toInt (Int64.ofInt (Int64.toInt (((Int64.ofInt x0).toUInt64 >>> ((Int32.ofInt 1).toInt64.toUInt64 &&& Int64.toUInt64 63)).toInt64)) &&& Int64.ofInt 6148914691236517205)))).toUInt64 >>> ((Int32.ofInt 2).toInt64.toUInt64 &&& Int64.toUInt64 63)).toInt64)) &&& Int64.ofInt 3689348814741910323))) + (Int64.toInt (((Int64.ofInt ((Int64.toInt (Int64.ofInt (x0 - (Int64.toInt (Int64.ofInt (Int64.toInt (((Int64.ofInt x0).toUInt64 >>> ((Int32.ofInt 1).toInt64.toUInt64 &&& Int64.toUInt64 63)).toInt64)) &&& Int64.ofInt 6148914691236517205))) &&& Int64.ofInt 3689348814741910323)) + (Int64.toInt (Int64.ofInt (Int64.toInt (((Int64.ofInt (x0 - (Int64.toInt (Int64.ofInt (Int64.toInt (((Int64.ofInt x0).toUInt64 >>> ((Int32.ofInt 1).toInt64.toUInt64 &&& Int64.toUInt64 63)).toInt64)) &&& Int64.ofInt 6148914691236517205)))).toUInt64 >>> ((Int32.ofInt 2).toInt64.toUInt64 &&& Int64.toUInt64 63)).toInt64)) &&& Int64.ofInt 3689348814741910323)))).toUInt64 >>> ((Int32.ofInt 4).toInt64.toUInt64 &&& Int64.toUInt64 63)).toInt64))) &&& Int64.ofInt 1085102592571150095)) + (Int64.toInt (((Int64.ofInt (Int64.toInt (Int64.ofInt (((Int64.toInt (Int64.ofInt (x0 - (Int64.toInt (Int64.ofInt (Int64.toInt (((Int64.ofInt x0).toUInt64 >>> ((Int32.ofInt 1).toInt64.toUInt64 &&& Int64.toUInt64 63)).toInt64)) &&& Int64.ofInt 6148914691236517205))) &&& Int64.ofInt 3689348814741910323)) + (Int64.toInt (Int64.ofInt (Int64.toInt (((Int64.ofInt (x0 - (Int64.toInt (Int64.ofInt (Int64.toInt (((Int64.ofInt x0).toUInt64 >>> ((Int32.ofInt 1).toInt64.toUInt64 &&& Int64.toUInt64 63)).toInt64)) &&& Int64.ofInt 6148914691236517205)))).toUInt64 >>> ((Int32.ofInt 2).toInt64.toUInt64 &&& Int64.toUInt64 63)).toInt64)) &&& Int64.ofInt 3689348814741910323))) + (Int64.toInt (((Int64.ofInt ((Int64.toInt (Int64.ofInt (x0 - (Int64.toInt (Int64.ofInt (Int64.toInt (((Int64.ofInt x0).toUInt64 >>> ((Int32.ofInt 1).toInt64.toUInt64 &&& Int64.toUInt64 63)).toInt64)) &&& Int64.ofInt 6148914691236517205))) &&& Int64.ofInt 3689348814741910323)) + (Int64.toInt (Int64.ofInt (Int64.toInt (((Int64.ofInt (x0 - (Int64.toInt (Int64.ofInt (Int64.toInt (((Int64.ofInt x0).toUInt64 >>> ((Int32.ofInt 1).toInt64.toUInt64 &&& Int64.toUInt64 63)).toInt64)) &&& Int64.ofInt 6148914691236517205)))).toUInt64 >>> ((Int32.ofInt 2).toInt64.toUInt64 &&& Int64.toUInt64 63)).toInt64)) &&& Int64.ofInt 3689348814741910323)))).toUInt64 >>> ((Int32.ofInt 4).toInt64.toUInt64 &&& Int64.toUInt64 63)).toInt64))) &&& Int64.ofInt 1085102592571150095))).toUInt64 >>> ((Int32.ofInt 8).toInt64.toUInt64 &&& Int64.toUInt64 63)).toInt64)))).toUInt64 >>> ((Int32.ofInt 16).toInt64.toUInt64 &&& Int64.toUInt64 63)).toInt64)))), none]) dJ13_bitCount_95d88_47 (Nat.le_of_ble_eq_true rfl) (Nat.le_of_ble_eq_true rfl) rfl ?_
  refine wp_lload_n dJ13_bitCount_95d88_48 rfl ?_
  refine wp_lload_n dJ13_bitCount_95d88_49 rfl ?_
  refine wp_bipush dJ13_bitCount_95d88_50 (by decide) ?_
  refine wp_lushr (Int64.toInt (((Int64.ofInt (((Int64.toInt (Int64.ofInt (((Int64.toInt (Int64.ofInt (x0 - (Int64.toInt (Int64.ofInt (Int64.toInt (((Int64.ofInt x0).toUInt64 >>> ((Int32.ofInt 1).toInt64.toUInt64 &&& Int64.toUInt64 63)).toInt64)) &&& Int64.ofInt 6148914691236517205))) &&& Int64.ofInt 3689348814741910323)) + (Int64.toInt (Int64.ofInt (Int64.toInt (((Int64.ofInt (x0 - (Int64.toInt (Int64.ofInt (Int64.toInt (((Int64.ofInt x0).toUInt64 >>> ((Int32.ofInt 1).toInt64.toUInt64 &&& Int64.toUInt64 63)).toInt64)) &&& Int64.ofInt 6148914691236517205)))).toUInt64 >>> ((Int32.ofInt 2).toInt64.toUInt64 &&& Int64.toUInt64 63)).toInt64)) &&& Int64.ofInt 3689348814741910323))) + (Int64.toInt (((Int64.ofInt ((Int64.toInt (Int64.ofInt (x0 - (Int64.toInt (Int64.ofInt (Int64.toInt (((Int64.ofInt x0).toUInt64 >>> ((Int32.ofInt 1).toInt64.toUInt64 &&& Int64.toUInt64 63)).toInt64)) &&& Int64.ofInt 6148914691236517205))) &&& Int64.ofInt 3689348814741910323)) + (Int64.toInt (Int64.ofInt (Int64.toInt (((Int64.ofInt (x0 - (Int64.toInt (Int64.ofInt (Int64.toInt (((Int64.ofInt x0).toUInt64 >>> ((Int32.ofInt 1).toInt64.toUInt64 &&& Int64.toUInt64 63)).toInt64)) &&& Int64.ofInt 6148914691236517205)))).toUInt64 >>> ((Int32.ofInt 2).toInt64.toUInt64 &&& Int64.toUInt64 63)).toInt64)) &&& Int64.ofInt 3689348814741910323)))).toUInt64 >>> ((Int32.ofInt 4).toInt64.toUInt64 &&& Int64.toUInt64 63)).toInt64))) &&& Int64.ofInt 1085102592571150095)) + (Int64.toInt (((Int64.ofInt (Int64.toInt (Int64.ofInt (((Int64.toInt (Int64.ofInt (x0 - (Int64.toInt (Int64.ofInt (Int64.toInt (((Int64.ofInt x0).toUInt64 >>> ((Int32.ofInt 1).toInt64.toUInt64 &&& Int64.toUInt64 63)).toInt64)) &&& Int64.ofInt 6148914691236517205))) &&& Int64.ofInt 3689348814741910323)) + (Int64.toInt (Int64.ofInt (Int64.toInt (((Int64.ofInt (x0 - (Int64.toInt (Int64.ofInt (Int64.toInt (((Int64.ofInt x0).toUInt64 >>> ((Int32.ofInt 1).toInt64.toUInt64 &&& Int64.toUInt64 63)).toInt64)) &&& Int64.ofInt 6148914691236517205)))).toUInt64 >>> ((Int32.ofInt 2).toInt64.toUInt64 &&& Int64.toUInt64 63)).toInt64)) &&& Int64.ofInt 3689348814741910323))) + (Int64.toInt (((Int64.ofInt ((Int64.toInt (Int64.ofInt (x0 - (Int64.toInt (Int64.ofInt (Int64.toInt (((Int64.ofInt x0).toUInt64 >>> ((Int32.ofInt 1).toInt64.toUInt64 &&& Int64.toUInt64 63)).toInt64)) &&& Int64.ofInt 6148914691236517205))) &&& Int64.ofInt 3689348814741910323)) + (Int64.toInt (Int64.ofInt (Int64.toInt (((Int64.ofInt (x0 - (Int64.toInt (Int64.ofInt (Int64.toInt (((Int64.ofInt x0).toUInt64 >>> ((Int32.ofInt 1).toInt64.toUInt64 &&& Int64.toUInt64 63)).toInt64)) &&& Int64.ofInt 6148914691236517205)))).toUInt64 >>> ((Int32.ofInt 2).toInt64.toUInt64 &&& Int64.toUInt64 63)).toInt64)) &&& Int64.ofInt 3689348814741910323)))).toUInt64 >>> ((Int32.ofInt 4).toInt64.toUInt64 &&& Int64.toUInt64 63)).toInt64))) &&& Int64.ofInt 1085102592571150095))).toUInt64 >>> ((Int32.ofInt 8).toInt64.toUInt64 &&& Int64.toUInt64 63)).toInt64))) + (Int64.toInt (((Int64.ofInt ((Int64.toInt (Int64.ofInt (((Int64.toInt (Int64.ofInt (x0 - (Int64.toInt (Int64.ofInt (Int64.toInt (((Int64.ofInt x0).toUInt64 >>> ((Int32.ofInt 1).toInt64.toUInt64 &&& Int64.toUInt64 63)).toInt64)) &&& Int64.ofInt 6148914691236517205))) &&& Int64.ofInt 3689348814741910323)) + (Int64.toInt (Int64.ofInt (Int64.toInt (((Int64.ofInt (x0 - (Int64.toInt (Int64.ofInt (Int64.toInt (((Int64.ofInt x0).toUInt64 >>> ((Int32.ofInt 1).toInt64.toUInt64 &&& Int64.toUInt64 63)).toInt64)) &&& Int64.ofInt 6148914691236517205)))).toUInt64 >>> ((Int32.ofInt 2).toInt64.toUInt64 &&& Int64.toUInt64 63)).toInt64)) &&& Int64.ofInt 3689348814741910323))) + (Int64.toInt (((Int64.ofInt ((Int64.toInt (Int64.ofInt (x0 - (Int64.toInt (Int64.ofInt (Int64.toInt (((Int64.ofInt x0).toUInt64 >>> ((Int32.ofInt 1).toInt64.toUInt64 &&& Int64.toUInt64 63)).toInt64)) &&& Int64.ofInt 6148914691236517205))) &&& Int64.ofInt 3689348814741910323)) + (Int64.toInt (Int64.ofInt (Int64.toInt (((Int64.ofInt (x0 - (Int64.toInt (Int64.ofInt (Int64.toInt (((Int64.ofInt x0).toUInt64 >>> ((Int32.ofInt 1).toInt64.toUInt64 &&& Int64.toUInt64 63)).toInt64)) &&& Int64.ofInt 6148914691236517205)))).toUInt64 >>> ((Int32.ofInt 2).toInt64.toUInt64 &&& Int64.toUInt64 63)).toInt64)) &&& Int64.ofInt 3689348814741910323)))).toUInt64 >>> ((Int32.ofInt 4).toInt64.toUInt64 &&& Int64.toUInt64 63)).toInt64))) &&& Int64.ofInt 1085102592571150095)) + (Int64.toInt (((Int64.ofInt (Int64.toInt (Int64.ofInt (((Int64.toInt (Int64.ofInt (x0 - (Int64.toInt (Int64.ofInt (Int64.toInt (((Int64.ofInt x0).toUInt64 >>> ((Int32.ofInt 1).toInt64.toUInt64 &&& Int64.toUInt64 63)).toInt64)) &&& Int64.ofInt 6148914691236517205))) &&& Int64.ofInt 3689348814741910323)) + (Int64.toInt (Int64.ofInt (Int64.toInt (((Int64.ofInt (x0 - (Int64.toInt (Int64.ofInt (Int64.toInt (((Int64.ofInt x0).toUInt64 >>> ((Int32.ofInt 1).toInt64.toUInt64 &&& Int64.toUInt64 63)).toInt64)) &&& Int64.ofInt 6148914691236517205)))).toUInt64 >>> ((Int32.ofInt 2).toInt64.toUInt64 &&& Int64.toUInt64 63)).toInt64)) &&& Int64.ofInt 3689348814741910323))) + (Int64.toInt (((Int64.ofInt ((Int64.toInt (Int64.ofInt (x0 - (Int64.toInt (Int64.ofInt (Int64.toInt (((Int64.ofInt x0).toUInt64 >>> ((Int32.ofInt 1).toInt64.toUInt64 &&& Int64.toUInt64 63)).toInt64)) &&& Int64.ofInt 6148914691236517205))) &&& Int64.ofInt 3689348814741910323)) + (Int64.toInt (Int64.ofInt (Int64.toInt (((Int64.ofInt (x0 - (Int64.toInt (Int64.ofInt (Int64.toInt (((Int64.ofInt x0).toUInt64 >>> ((Int32.ofInt 1).toInt64.toUInt64 &&& Int64.toUInt64 63)).toInt64)) &&& Int64.ofInt 6148914691236517205)))).toUInt64 >>> ((Int32.ofInt 2).toInt64.toUInt64 &&& Int64.toUInt64 63)).toInt64)) &&& Int64.ofInt 3689348814741910323)))).toUInt64 >>> ((Int32.ofInt 4).toInt64.toUInt64 &&& Int64.toUInt64 63)).toInt64))) &&& Int64.ofInt 1085102592571150095))).toUInt64 >>> ((Int32.ofInt 8).toInt64.toUInt64 &&& Int64.toUInt64 63)).toInt64)))).toUInt64 >>> ((Int32.ofInt 16).toInt64.toUInt64 &&& Int64.toUInt64 63)).toInt64)))).toUInt64 >>> ((Int32.ofInt 32).toInt64.toUInt64 &&& Int64.toUInt64 63)).toInt64)) dJ13_bitCount_95d88_52 ((Int64.ofInt_toInt _).symm) ?_
  refine wp_ladd dJ13_bitCount_95d88_53 ?_
  refine wp_lstore_n (L2 := [some (Jv ((((Int64.toInt (Int64.ofInt (((Int64.toInt (Int64.ofInt (x0 - (Int64.toInt (Int64.ofInt (Int64.toInt (((Int64.ofInt x0).toUInt64 >>> ((Int32.ofInt 1).toInt64.toUInt64 &&& Int64.toUInt64 63)).toInt64)) &&& Int64.ofInt 6148914691236517205))) &&& Int64.ofInt 3689348814741910323)) + (Int64.toInt (Int64.ofInt (Int64.toInt (((Int64.ofInt (x0 - (Int64.toInt (Int64.ofInt (Int64.toInt (((Int64.ofInt x0).toUInt64 >>> ((Int32.ofInt 1).toInt64.toUInt64 &&& Int64.toUInt64 63)).toInt64)) &&& Int64.ofInt 6148914691236517205)))).toUInt64 >>> ((Int32.ofInt 2).toInt64.toUInt64 &&& Int64.toUInt64 63)).toInt64)) &&& Int64.ofInt 3689348814741910323))) + (Int64.toInt (((Int64.ofInt ((Int64.toInt (Int64.ofInt (x0 - (Int64.toInt (Int64.ofInt (Int64.toInt (((Int64.ofInt x0).toUInt64 >>> ((Int32.ofInt 1).toInt64.toUInt64 &&& Int64.toUInt64 63)).toInt64)) &&& Int64.ofInt 6148914691236517205))) &&& Int64.ofInt 3689348814741910323)) + (Int64.toInt (Int64.ofInt (Int64.toInt (((Int64.ofInt (x0 - (Int64.toInt (Int64.ofInt (Int64.toInt (((Int64.ofInt x0).toUInt64 >>> ((Int32.ofInt 1).toInt64.toUInt64 &&& Int64.toUInt64 63)).toInt64)) &&& Int64.ofInt 6148914691236517205)))).toUInt64 >>> ((Int32.ofInt 2).toInt64.toUInt64 &&& Int64.toUInt64 63)).toInt64)) &&& Int64.ofInt 3689348814741910323)))).toUInt64 >>> ((Int32.ofInt 4).toInt64.toUInt64 &&& Int64.toUInt64 63)).toInt64))) &&& Int64.ofInt 1085102592571150095)) + (Int64.toInt (((Int64.ofInt (Int64.toInt (Int64.ofInt (((Int64.toInt (Int64.ofInt (x0 - (Int64.toInt (Int64.ofInt (Int64.toInt (((Int64.ofInt x0).toUInt64 >>> ((Int32.ofInt 1).toInt64.toUInt64 &&& Int64.toUInt64 63)).toInt64)) &&& Int64.ofInt 6148914691236517205))) &&& Int64.ofInt 3689348814741910323)) + (Int64.toInt (Int64.ofInt (Int64.toInt (((Int64.ofInt (x0 - (Int64.toInt (Int64.ofInt (Int64.toInt (((Int64.ofInt x0).toUInt64 >>> ((Int32.ofInt 1).toInt64.toUInt64 &&& Int64.toUInt64 63)).toInt64)) &&& Int64.ofInt 6148914691236517205)))).toUInt64 >>> ((Int32.ofInt 2).toInt64.toUInt64 &&& Int64.toUInt64 63)).toInt64)) &&& Int64.ofInt 3689348814741910323))) + (Int64.toInt (((Int64.ofInt ((Int64.toInt (Int64.ofInt (x0 - (Int64.toInt (Int64.ofInt (Int64.toInt (((Int64.ofInt x0).toUInt64 >>> ((Int32.ofInt 1).toInt64.toUInt64 &&& Int64.toUInt64 63)).toInt64)) &&& Int64.ofInt 6148914691236517205))) &&& Int64.ofInt 3689348814741910323)) + (Int64.toInt (Int64.ofInt (Int64.toInt (((Int64.ofInt (x0 - (Int64.toInt (Int64.ofInt (Int64.toInt (((Int64.ofInt x0).toUInt64 >>> ((Int32.ofInt 1).toInt64.toUInt64 &&& Int64.toUInt64 63)).toInt64)) &&& Int64.ofInt 6148914691236517205)))).toUInt64 >>> ((Int32.ofInt 2).toInt64.toUInt64 &&& Int64.toUInt64 63)).toInt64)) &&& Int64.ofInt 3689348814741910323)))).toUInt64 >>> ((Int32.ofInt 4).toInt64.toUInt64 &&& Int64.toUInt64 63)).toInt64))) &&& Int64.ofInt 1085102592571150095))).toUInt64 >>> ((Int32.ofInt 8).toInt64.toUInt64 &&& Int64.toUInt64 63)).toInt64))) + (Int64.toInt (((Int64.ofInt ((Int64.toInt (Int64.ofInt (((Int64.toInt (Int64.ofInt (x0 - (Int64.toInt (Int64.ofInt (Int64.toInt (((Int64.ofInt x0).toUInt64 >>> ((Int32.ofInt 1).toInt64.toUInt64 &&& Int64.toUInt64 63)).toInt64)) &&& Int64.ofInt 6148914691236517205))) &&& Int64.ofInt 3689348814741910323)) + (Int64.toInt (Int64.ofInt (Int64.toInt (((Int64.ofInt (x0 - (Int64.toInt (Int64.ofInt (Int64.toInt (((Int64.ofInt x0).toUInt64 >>> ((Int32.ofInt 1).toInt64.toUInt64 &&& Int64.toUInt64 63)).toInt64)) &&& Int64.ofInt 6148914691236517205)))).toUInt64 >>> ((Int32.ofInt 2).toInt64.toUInt64 &&& Int64.toUInt64 63)).toInt64)) &&& Int64.ofInt 3689348814741910323))) + (Int64.toInt (((Int64.ofInt ((Int64.toInt (Int64.ofInt (x0 - (Int64.toInt (Int64.ofInt (Int64.toInt (((Int64.ofInt x0).toUInt64 >>> ((Int32.ofInt 1).toInt64.toUInt64 &&& Int64.toUInt64 63)).toInt64)) &&& Int64.ofInt 6148914691236517205))) &&& Int64.ofInt 3689348814741910323)) + (Int64.toInt (Int64.ofInt (Int64.toInt (((Int64.ofInt (x0 - (Int64.toInt (Int64.ofInt (Int64.toInt (((Int64.ofInt x0).toUInt64 >>> ((Int32.ofInt 1).toInt64.toUInt64 &&& Int64.toUInt64 63)).toInt64)) &&& Int64.ofInt 6148914691236517205)))).toUInt64 >>> ((Int32.ofInt 2).toInt64.toUInt64 &&& Int64.toUInt64 63)).toInt64)) &&& Int64.ofInt 3689348814741910323)))).toUInt64 >>> ((Int32.ofInt 4).toInt64.toUInt64 &&& Int64.toUInt64 63)).toInt64))) &&& Int64.ofInt 1085102592571150095)) + (Int64.toInt (((Int64.ofInt (Int64.toInt (Int64.ofInt (((Int64.toInt (Int64.ofInt (x0 - (Int64.toInt (Int64.ofInt (Int64.toInt (((Int64.ofInt x0).toUInt64 >>> ((Int32.ofInt 1).toInt64.toUInt64 &&& Int64.toUInt64 63)).toInt64)) &&& Int64.ofInt 6148914691236517205))) &&& Int64.ofInt 3689348814741910323)) + (Int64.toInt (Int64.ofInt (Int64.toInt (((Int64.ofInt (x0 - (Int64.toInt (Int64.ofInt (Int64.toInt (((Int64.ofInt x0).toUInt64 >>> ((Int32.ofInt 1).toInt64.toUInt64 &&& Int64.toUInt64 63)).toInt64)) &&& Int64.ofInt 6148914691236517205)))).toUInt64 >>> ((Int32.ofInt 2).toInt64.toUInt64 &&& Int64.toUInt64 63)).toInt64)) &&& Int64.ofInt 3689348814741910323))) + (Int64.toInt (((Int64.ofInt ((Int64.toInt (Int64.ofInt (x0 - (Int64.toInt (Int64.ofInt (Int64.toInt (((Int64.ofInt x0).toUInt64 >>> ((Int32.ofInt 1).toInt64.toUInt64 &&& Int64.toUInt64 63)).toInt64)) &&& Int64.ofInt 6148914691236517205))) &&& Int64.ofInt 3689348814741910323)) + (Int64.toInt (Int64.ofInt (Int64.toInt (((Int64.ofInt (x0 - (Int64.toInt (Int64.ofInt (Int64.toInt (((Int64.ofInt x0).toUInt64 >>> ((Int32.ofInt 1).toInt64.toUInt64 &&& Int64.toUInt64 63)).toInt64)) &&& Int64.ofInt 6148914691236517205)))).toUInt64 >>> ((Int32.ofInt 2).toInt64.toUInt64 &&& Int64.toUInt64 63)).toInt64)) &&& Int64.ofInt 3689348814741910323)))).toUInt64 >>> ((Int32.ofInt 4).toInt64.toUInt64 &&& Int64.toUInt64 63)).toInt64))) &&& Int64.ofInt 1085102592571150095))).toUInt64 >>> ((Int32.ofInt 8).toInt64.toUInt64 &&& Int64.toUInt64 63)).toInt64)))).toUInt64 >>> ((Int32.ofInt 16).toInt64.toUInt64 &&& Int64.toUInt64 63)).toInt64))) + (Int64.toInt (((Int64.ofInt (((Int64.toInt (Int64.ofInt (((Int64.toInt (Int64.ofInt (x0 - (Int64.toInt (Int64.ofInt (Int64.toInt (((Int64.ofInt x0).toUInt64 >>> ((Int32.ofInt 1).toInt64.toUInt64 &&& Int64.toUInt64 63)).toInt64)) &&& Int64.ofInt 6148914691236517205))) &&& Int64.ofInt 3689348814741910323)) + (Int64.toInt (Int64.ofInt (Int64.toInt (((Int64.ofInt (x0 - (Int64.toInt (Int64.ofInt (Int64.toInt (((Int64.ofInt x0).toUInt64 >>> ((Int32.ofInt 1).toInt64.toUInt64 &&& Int64.toUInt64 63)).toInt64)) &&& Int64.ofInt 6148914691236517205)))).toUInt64 >>> ((Int32.ofInt 2).toInt64.toUInt64 &&& Int64.toUInt64 63)).toInt64)) &&& Int64.ofInt 3689348814741910323))) + (Int64.toInt (((Int64.ofInt ((Int64.toInt (Int64.ofInt (x0 - (Int64.toInt (Int64.ofInt (Int64.toInt (((Int64.ofInt x0).toUInt64 >>> ((Int32.ofInt 1).toInt64.toUInt64 &&& Int64.toUInt64 63)).toInt64)) &&& Int64.ofInt 6148914691236517205))) &&& Int64.ofInt 3689348814741910323)) + (Int64.toInt (Int64.ofInt (Int64.toInt (((Int64.ofInt (x0 - (Int64.toInt (Int64.ofInt (Int64.toInt (((Int64.ofInt x0).toUInt64 >>> ((Int32.ofInt 1).toInt64.toUInt64 &&& Int64.toUInt64 63)).toInt64)) &&& Int64.ofInt 6148914691236517205)))).toUInt64 >>> ((Int32.ofInt 2).toInt64.toUInt64 &&& Int64.toUInt64 63)).toInt64)) &&& Int64.ofInt 3689348814741910323)))).toUInt64 >>> ((Int32.ofInt 4).toInt64.toUInt64 &&& Int64.toUInt64 63)).toInt64))) &&& Int64.ofInt 1085102592571150095)) + (Int64.toInt (((Int64.ofInt (Int64.toInt (Int64.ofInt (((Int64.toInt (Int64.ofInt (x0 - (Int64.toInt (Int64.ofInt (Int64.toInt (((Int64.ofInt x0).toUInt64 >>> ((Int32.ofInt 1).toInt64.toUInt64 &&& Int64.toUInt64 63)).toInt64)) &&& Int64.ofInt 6148914691236517205))) &&& Int64.ofInt 3689348814741910323)) + (Int64.toInt (Int64.ofInt (Int64.toInt (((Int64.ofInt (x0 - (Int64.toInt (Int64.ofInt (Int64.toInt (((Int64.ofInt x0).toUInt64 >>> ((Int32.ofInt 1).toInt64.toUInt64 &&& Int64.toUInt64 63)).toInt64)) &&& Int64.ofInt 6148914691236517205)))).toUInt64 >>> ((Int32.ofInt 2).toInt64.toUInt64 &&& Int64.toUInt64 63)).toInt64)) &&& Int64.ofInt 3689348814741910323))) + (Int64.toInt (((Int64.ofInt ((Int64.toInt (Int64.ofInt (x0 - (Int64.toInt (Int64.ofInt (Int64.toInt (((Int64.ofInt x0).toUInt64 >>> ((Int32.ofInt 1).toInt64.toUInt64 &&& Int64.toUInt64 63)).toInt64)) &&& Int64.ofInt 6148914691236517205))) &&& Int64.ofInt 3689348814741910323)) + (Int64.toInt (Int64.ofInt (Int64.toInt (((Int64.ofInt (x0 - (Int64.toInt (Int64.ofInt (Int64.toInt (((Int64.ofInt x0).toUInt64 >>> ((Int32.ofInt 1).toInt64.toUInt64 &&& Int64.toUInt64 63)).toInt64)) &&& Int64.ofInt 6148914691236517205)))).toUInt64 >>> ((Int32.ofInt 2).toInt64.toUInt64 &&& Int64.toUInt64 63)).toInt64)) &&& Int64.ofInt 3689348814741910323)))).toUInt64 >>> ((Int32.ofInt 4).toInt64.toUInt64 &&& Int64.toUInt64 63)).toInt64))) &&& Int64.ofInt 1085102592571150095))).toUInt64 >>> ((Int32.ofInt 8).toInt64.toUInt64 &&& Int64.toUInt64 63)).toInt64))) + (Int64.toInt (((Int64.ofInt ((Int64.toInt (Int64.ofInt (((Int64.toInt (Int64.ofInt (x0 - (Int64.toInt (Int64.ofInt (Int64.toInt (((Int64.ofInt x0).toUInt64 >>> ((Int32.ofInt 1).toInt64.toUInt64 &&& Int64.toUInt64 63)).toInt64)) &&& Int64.ofInt 6148914691236517205))) &&& Int64.ofInt 3689348814741910323)) + (Int64.toInt (Int64.ofInt (Int64.toInt (((Int64.ofInt (x0 - (Int64.toInt (Int64.ofInt (Int64.toInt (((Int64.ofInt x0).toUInt64 >>> ((Int32.ofInt 1).toInt64.toUInt64 &&& Int64.toUInt64 63)).toInt64)) &&& Int64.ofInt 6148914691236517205)))).toUInt64 >>> ((Int32.ofInt 2).toInt64.toUInt64 &&& Int64.toUInt64 63)).toInt64)) &&& Int64.ofInt 3689348814741910323))) + (Int64.toInt (((Int64.ofInt ((Int64.toInt (Int64.ofInt (x0 - (Int64.toInt (Int64.ofInt (Int64.toInt (((Int64.ofInt x0).toUInt64 >>> ((Int32.ofInt 1).toInt64.toUInt64 &&& Int64.toUInt64 63)).toInt64)) &&& Int64.ofInt 6148914691236517205))) &&& Int64.ofInt 3689348814741910323)) + (Int64.toInt (Int64.ofInt (Int64.toInt (((Int64.ofInt (x0 - (Int64.toInt (Int64.ofInt (Int64.toInt (((Int64.ofInt x0).toUInt64 >>> ((Int32.ofInt 1).toInt64.toUInt64 &&& Int64.toUInt64 63)).toInt64)) &&& Int64.ofInt 6148914691236517205)))).toUInt64 >>> ((Int32.ofInt 2).toInt64.toUInt64 &&& Int64.toUInt64 63)).toInt64)) &&& Int64.ofInt 3689348814741910323)))).toUInt64 >>> ((Int32.ofInt 4).toInt64.toUInt64 &&& Int64.toUInt64 63)).toInt64))) &&& Int64.ofInt 1085102592571150095)) + (Int64.toInt (((Int64.ofInt (Int64.toInt (Int64.ofInt (((Int64.toInt (Int64.ofInt (x0 - (Int64.toInt (Int64.ofInt (Int64.toInt (((Int64.ofInt x0).toUInt64 >>> ((Int32.ofInt 1).toInt64.toUInt64 &&& Int64.toUInt64 63)).toInt64)) &&& Int64.ofInt 6148914691236517205))) &&& Int64.ofInt 3689348814741910323)) + (Int64.toInt (Int64.ofInt (Int64.toInt (((Int64.ofInt (x0 - (Int64.toInt (Int64.ofInt (Int64.toInt (((Int64.ofInt x0).toUInt64 >>> ((Int32.ofInt 1).toInt64.toUInt64 &&& Int64.toUInt64 63)).toInt64)) &&& Int64.ofInt 6148914691236517205)))).toUInt64 >>> ((Int32.ofInt 2).toInt64.toUInt64 &&& Int64.toUInt64 63)).toInt64)) &&& Int64.ofInt 3689348814741910323))) + (Int64.toInt (((Int64.ofInt ((Int64.toInt (Int64.ofInt (x0 - (Int64.toInt (Int64.ofInt (Int64.toInt (((Int64.ofInt x0).toUInt64 >>> ((Int32.ofInt 1).toInt64.toUInt64 &&& Int64.toUInt64 63)).toInt64)) &&& Int64.ofInt 6148914691236517205))) &&& Int64.ofInt 3689348814741910323)) + (Int64.toInt (Int64.ofInt (Int64.toInt (((Int64.ofInt (x0 - (Int64.toInt (Int64.ofInt (Int64.toInt (((Int64.ofInt x0).toUInt64 >>> ((Int32.ofInt 1).toInt64.toUInt64 &&& Int64.toUInt64 63)).toInt64)) &&& Int64.ofInt 6148914691236517205)))).toUInt64 >>> ((Int32.ofInt 2).toInt64.toUInt64 &&& Int64.toUInt64 63)).toInt64)) &&& Int64.ofInt 3689348814741910323)))).toUInt64 >>> ((Int32.ofInt 4).toInt64.toUInt64 &&& Int64.toUInt64 63)).toInt64))) &&& Int64.ofInt 1085102592571150095))).toUInt64 >>> ((Int32.ofInt 8).toInt64.toUInt64 &&& Int64.toUInt64 63)).toInt64)))).toUInt64 >>> ((Int32.ofInt 16).toInt64.toUInt64 &&& Int64.toUInt64 63)).toInt64)))).toUInt64 >>> ((Int32.ofInt 32).toInt64.toUInt64 &&& Int64.toUInt64 63)).toInt64)))), none]) dJ13_bitCount_95d88_54 (Nat.le_of_ble_eq_true rfl) (Nat.le_of_ble_eq_true rfl) rfl ?_
  refine wp_lload_n dJ13_bitCount_95d88_55 rfl ?_
  refine wp_l2i dJ13_bitCount_95d88_56 ?_
  refine wp_bipush dJ13_bitCount_95d88_57 (by decide) ?_
  refine wp_iand (Int32.toInt (Int32.ofInt ((((Int64.toInt (Int64.ofInt (((Int64.toInt (Int64.ofInt (x0 - (Int64.toInt (Int64.ofInt (Int64.toInt (((Int64.ofInt x0).toUInt64 >>> ((Int32.ofInt 1).toInt64.toUInt64 &&& Int64.toUInt64 63)).toInt64)) &&& Int64.ofInt 6148914691236517205))) &&& Int64.ofInt 3689348814741910323)) + (Int64.toInt (Int64.ofInt (Int64.toInt (((Int64.ofInt (x0 - (Int64.toInt (Int64.ofInt (Int64.toInt (((Int64.ofInt x0).toUInt64 >>> ((Int32.ofInt 1).toInt64.toUInt64 &&& Int64.toUInt64 63)).toInt64)) &&& Int64.ofInt 6148914691236517205)))).toUInt64 >>> ((Int32.ofInt 2).toInt64.toUInt64 &&& Int64.toUInt64 63)).toInt64)) &&& Int64.ofInt 3689348814741910323))) + (Int64.toInt (((Int64.ofInt ((Int64.toInt (Int64.ofInt (x0 - (Int64.toInt (Int64.ofInt (Int64.toInt (((Int64.ofInt x0).toUInt64 >>> ((Int32.ofInt 1).toInt64.toUInt64 &&& Int64.toUInt64 63)).toInt64)) &&& Int64.ofInt 6148914691236517205))) &&& Int64.ofInt 3689348814741910323)) + (Int64.toInt (Int64.ofInt (Int64.toInt (((Int64.ofInt (x0 - (Int64.toInt (Int64.ofInt (Int64.toInt (((Int64.ofInt x0).toUInt64 >>> ((Int32.ofInt 1).toInt64.toUInt64 &&& Int64.toUInt64 63)).toInt64)) &&& Int64.ofInt 6148914691236517205)))).toUInt64 >>> ((Int32.ofInt 2).toInt64.toUInt64 &&& Int64.toUInt64 63)).toInt64)) &&& Int64.ofInt 3689348814741910323)))).toUInt64 >>> ((Int32.ofInt 4).toInt64.toUInt64 &&& Int64.toUInt64 63)).toInt64))) &&& Int64.ofInt 1085102592571150095)) + (Int64.toInt (((Int64.ofInt (Int64.toInt (Int64.ofInt (((Int64.toInt (Int64.ofInt (x0 - (Int64.toInt (Int64.ofInt (Int64.toInt (((Int64.ofInt x0).toUInt64 >>> ((Int32.ofInt 1).toInt64.toUInt64 &&& Int64.toUInt64 63)).toInt64)) &&& Int64.ofInt 6148914691236517205))) &&& Int64.ofInt 3689348814741910323)) + (Int64.toInt (Int64.ofInt (Int64.toInt (((Int64.ofInt (x0 - (Int64.toInt (Int64.ofInt (Int64.toInt (((Int64.ofInt x0).toUInt64 >>> ((Int32.ofInt 1).toInt64.toUInt64 &&& Int64.toUInt64 63)).toInt64)) &&& Int64.ofInt 6148914691236517205)))).toUInt64 >>> ((Int32.ofInt 2).toInt64.toUInt64 &&& Int64.toUInt64 63)).toInt64)) &&& Int64.ofInt 3689348814741910323))) + (Int64.toInt (((Int64.ofInt ((Int64.toInt (Int64.ofInt (x0 - (Int64.toInt (Int64.ofInt (Int64.toInt (((Int64.ofInt x0).toUInt64 >>> ((Int32.ofInt 1).toInt64.toUInt64 &&& Int64.toUInt64 63)).toInt64)) &&& Int64.ofInt 6148914691236517205))) &&& Int64.ofInt 3689348814741910323)) + (Int64.toInt (Int64.ofInt (Int64.toInt (((Int64.ofInt (x0 - (Int64.toInt (Int64.ofInt (Int64.toInt (((Int64.ofInt x0).toUInt64 >>> ((Int32.ofInt 1).toInt64.toUInt64 &&& Int64.toUInt64 63)).toInt64)) &&& Int64.ofInt 6148914691236517205)))).toUInt64 >>> ((Int32.ofInt 2).toInt64.toUInt64 &&& Int64.toUInt64 63)).toInt64)) &&& Int64.ofInt 3689348814741910323)))).toUInt64 >>> ((Int32.ofInt 4).toInt64.toUInt64 &&& Int64.toUInt64 63)).toInt64))) &&& Int64.ofInt 1085102592571150095))).toUInt64 >>> ((Int32.ofInt 8).toInt64.toUInt64 &&& Int64.toUInt64 63)).toInt64))) + (Int64.toInt (((Int64.ofInt ((Int64.toInt (Int64.ofInt (((Int64.toInt (Int64.ofInt (x0 - (Int64.toInt (Int64.ofInt (Int64.toInt (((Int64.ofInt x0).toUInt64 >>> ((Int32.ofInt 1).toInt64.toUInt64 &&& Int64.toUInt64 63)).toInt64)) &&& Int64.ofInt 6148914691236517205))) &&& Int64.ofInt 3689348814741910323)) + (Int64.toInt (Int64.ofInt (Int64.toInt (((Int64.ofInt (x0 - (Int64.toInt (Int64.ofInt (Int64.toInt (((Int64.ofInt x0).toUInt64 >>> ((Int32.ofInt 1).toInt64.toUInt64 &&& Int64.toUInt64 63)).toInt64)) &&& Int64.ofInt 6148914691236517205)))).toUInt64 >>> ((Int32.ofInt 2).toInt64.toUInt64 &&& Int64.toUInt64 63)).toInt64)) &&& Int64.ofInt 3689348814741910323))) + (Int64.toInt (((Int64.ofInt ((Int64.toInt (Int64.ofInt (x0 - (Int64.toInt (Int64.ofInt (Int64.toInt (((Int64.ofInt x0).toUInt64 >>> ((Int32.ofInt 1).toInt64.toUInt64 &&& Int64.toUInt64 63)).toInt64)) &&& Int64.ofInt 6148914691236517205))) &&& Int64.ofInt 3689348814741910323)) + (Int64.toInt (Int64.ofInt (Int64.toInt (((Int64.ofInt (x0 - (Int64.toInt (Int64.ofInt (Int64.toInt (((Int64.ofInt x0).toUInt64 >>> ((Int32.ofInt 1).toInt64.toUInt64 &&& Int64.toUInt64 63)).toInt64)) &&& Int64.ofInt 6148914691236517205)))).toUInt64 >>> ((Int32.ofInt 2).toInt64.toUInt64 &&& Int64.toUInt64 63)).toInt64)) &&& Int64.ofInt 3689348814741910323)))).toUInt64 >>> ((Int32.ofInt 4).toInt64.toUInt64 &&& Int64.toUInt64 63)).toInt64))) &&& Int64.ofInt 1085102592571150095)) + (Int64.toInt (((Int64.ofInt (Int64.toInt (Int64.ofInt (((Int64.toInt (Int64.ofInt (x0 - (Int64.toInt (Int64.ofInt (Int64.toInt (((Int64.ofInt x0).toUInt64 >>> ((Int32.ofInt 1).toInt64.toUInt64 &&& Int64.toUInt64 63)).toInt64)) &&& Int64.ofInt 6148914691236517205))) &&& Int64.ofInt 3689348814741910323)) + (Int64.toInt (Int64.ofInt (Int64.toInt (((Int64.ofInt (x0 - (Int64.toInt (Int64.ofInt (Int64.toInt (((Int64.ofInt x0).toUInt64 >>> ((Int32.ofInt 1).toInt64.toUInt64 &&& Int64.toUInt64 63)).toInt64)) &&& Int64.ofInt 6148914691236517205)))).toUInt64 >>> ((Int32.ofInt 2).toInt64.toUInt64 &&& Int64.toUInt64 63)).toInt64)) &&& Int64.ofInt 3689348814741910323))) + (Int64.toInt (((Int64.ofInt ((Int64.toInt (Int64.ofInt (x0 - (Int64.toInt (Int64.ofInt (Int64.toInt (((Int64.ofInt x0).toUInt64 >>> ((Int32.ofInt 1).toInt64.toUInt64 &&& Int64.toUInt64 63)).toInt64)) &&& Int64.ofInt 6148914691236517205))) &&& Int64.ofInt 3689348814741910323)) + (Int64.toInt (Int64.ofInt (Int64.toInt (((Int64.ofInt (x0 - (Int64.toInt (Int64.ofInt (Int64.toInt (((Int64.ofInt x0).toUInt64 >>> ((Int32.ofInt 1).toInt64.toUInt64 &&& Int64.toUInt64 63)).toInt64)) &&& Int64.ofInt 6148914691236517205)))).toUInt64 >>> ((Int32.ofInt 2).toInt64.toUInt64 &&& Int64.toUInt64 63)).toInt64)) &&& Int64.ofInt 3689348814741910323)))).toUInt64 >>> ((Int32.ofInt 4).toInt64.toUInt64 &&& Int64.toUInt64 63)).toInt64))) &&& Int64.ofInt 1085102592571150095))).toUInt64 >>> ((Int32.ofInt 8).toInt64.toUInt64 &&& Int64.toUInt64 63)).toInt64)))).toUInt64 >>> ((Int32.ofInt 16).toInt64.toUInt64 &&& Int64.toUInt64 63)).toInt64))) + (Int64.toInt (((Int64.ofInt (((Int64.toInt (Int64.ofInt (((Int64.toInt (Int64.ofInt (x0 - (Int64.toInt (Int64.ofInt (Int64.toInt (((Int64.ofInt x0).toUInt64 >>> ((Int32.ofInt 1).toInt64.toUInt64 &&& Int64.toUInt64 63)).toInt64)) &&& Int64.ofInt 6148914691236517205))) &&& Int64.ofInt 3689348814741910323)) + (Int64.toInt (Int64.ofInt (Int64.toInt (((Int64.ofInt (x0 - (Int64.toInt (Int64.ofInt (Int64.toInt (((Int64.ofInt x0).toUInt64 >>> ((Int32.ofInt 1).toInt64.toUInt64 &&& Int64.toUInt64 63)).toInt64)) &&& Int64.ofInt 6148914691236517205)))).toUInt64 >>> ((Int32.ofInt 2).toInt64.toUInt64 &&& Int64.toUInt64 63)).toInt64)) &&& Int64.ofInt 3689348814741910323))) + (Int64.toInt (((Int64.ofInt ((Int64.toInt (Int64.ofInt (x0 - (Int64.toInt (Int64.ofInt (Int64.toInt (((Int64.ofInt x0).toUInt64 >>> ((Int32.ofInt 1).toInt64.toUInt64 &&& Int64.toUInt64 63)).toInt64)) &&& Int64.ofInt 6148914691236517205))) &&& Int64.ofInt 3689348814741910323)) + (Int64.toInt (Int64.ofInt (Int64.toInt (((Int64.ofInt (x0 - (Int64.toInt (Int64.ofInt (Int64.toInt (((Int64.ofInt x0).toUInt64 >>> ((Int32.ofInt 1).toInt64.toUInt64 &&& Int64.toUInt64 63)).toInt64)) &&& Int64.ofInt 6148914691236517205)))).toUInt64 >>> ((Int32.ofInt 2).toInt64.toUInt64 &&& Int64.toUInt64 63)).toInt64)) &&& Int64.ofInt 3689348814741910323)))).toUInt64 >>> ((Int32.ofInt 4).toInt64.toUInt64 &&& Int64.toUInt64 63)).toInt64))) &&& Int64.ofInt 1085102592571150095)) + (Int64.toInt (((Int64.ofInt (Int64.toInt (Int64.ofInt (((Int64.toInt (Int64.ofInt (x0 - (Int64.toInt (Int64.ofInt (Int64.toInt (((Int64.ofInt x0).toUInt64 >>> ((Int32.ofInt 1).toInt64.toUInt64 &&& Int64.toUInt64 63)).toInt64)) &&& Int64.ofInt 6148914691236517205))) &&& Int64.ofInt 3689348814741910323)) + (Int64.toInt (Int64.ofInt (Int64.toInt (((Int64.ofInt (x0 - (Int64.toInt (Int64.ofInt (Int64.toInt (((Int64.ofInt x0).toUInt64 >>> ((Int32.ofInt 1).toInt64.toUInt64 &&& Int64.toUInt64 63)).toInt64)) &&& Int64.ofInt 6148914691236517205)))).toUInt64 >>> ((Int32.ofInt 2).toInt64.toUInt64 &&& Int64.toUInt64 63)).toInt64)) &&& Int64.ofInt 3689348814741910323))) + (Int64.toInt (((Int64.ofInt ((Int64.toInt (Int64.ofInt (x0 - (Int64.toInt (Int64.ofInt (Int64.toInt (((Int64.ofInt x0).toUInt64 >>> ((Int32.ofInt 1).toInt64.toUInt64 &&& Int64.toUInt64 63)).toInt64)) &&& Int64.ofInt 6148914691236517205))) &&& Int64.ofInt 3689348814741910323)) + (Int64.toInt (Int64.ofInt (Int64.toInt (((Int64.ofInt (x0 - (Int64.toInt (Int64.ofInt (Int64.toInt (((Int64.ofInt x0).toUInt64 >>> ((Int32.ofInt 1).toInt64.toUInt64 &&& Int64.toUInt64 63)).toInt64)) &&& Int64.ofInt 6148914691236517205)))).toUInt64 >>> ((Int32.ofInt 2).toInt64.toUInt64 &&& Int64.toUInt64 63)).toInt64)) &&& Int64.ofInt 3689348814741910323)))).toUInt64 >>> ((Int32.ofInt 4).toInt64.toUInt64 &&& Int64.toUInt64 63)).toInt64))) &&& Int64.ofInt 1085102592571150095))).toUInt64 >>> ((Int32.ofInt 8).toInt64.toUInt64 &&& Int64.toUInt64 63)).toInt64))) + (Int64.toInt (((Int64.ofInt ((Int64.toInt (Int64.ofInt (((Int64.toInt (Int64.ofInt (x0 - (Int64.toInt (Int64.ofInt (Int64.toInt (((Int64.ofInt x0).toUInt64 >>> ((Int32.ofInt 1).toInt64.toUInt64 &&& Int64.toUInt64 63)).toInt64)) &&& Int64.ofInt 6148914691236517205))) &&& Int64.ofInt 3689348814741910323)) + (Int64.toInt (Int64.ofInt (Int64.toInt (((Int64.ofInt (x0 - (Int64.toInt (Int64.ofInt (Int64.toInt (((Int64.ofInt x0).toUInt64 >>> ((Int32.ofInt 1).toInt64.toUInt64 &&& Int64.toUInt64 63)).toInt64)) &&& Int64.ofInt 6148914691236517205)))).toUInt64 >>> ((Int32.ofInt 2).toInt64.toUInt64 &&& Int64.toUInt64 63)).toInt64)) &&& Int64.ofInt 3689348814741910323))) + (Int64.toInt (((Int64.ofInt ((Int64.toInt (Int64.ofInt (x0 - (Int64.toInt (Int64.ofInt (Int64.toInt (((Int64.ofInt x0).toUInt64 >>> ((Int32.ofInt 1).toInt64.toUInt64 &&& Int64.toUInt64 63)).toInt64)) &&& Int64.ofInt 6148914691236517205))) &&& Int64.ofInt 3689348814741910323)) + (Int64.toInt (Int64.ofInt (Int64.toInt (((Int64.ofInt (x0 - (Int64.toInt (Int64.ofInt (Int64.toInt (((Int64.ofInt x0).toUInt64 >>> ((Int32.ofInt 1).toInt64.toUInt64 &&& Int64.toUInt64 63)).toInt64)) &&& Int64.ofInt 6148914691236517205)))).toUInt64 >>> ((Int32.ofInt 2).toInt64.toUInt64 &&& Int64.toUInt64 63)).toInt64)) &&& Int64.ofInt 3689348814741910323)))).toUInt64 >>> ((Int32.ofInt 4).toInt64.toUInt64 &&& Int64.toUInt64 63)).toInt64))) &&& Int64.ofInt 1085102592571150095)) + (Int64.toInt (((Int64.ofInt (Int64.toInt (Int64.ofInt (((Int64.toInt (Int64.ofInt (x0 - (Int64.toInt (Int64.ofInt (Int64.toInt (((Int64.ofInt x0).toUInt64 >>> ((Int32.ofInt 1).toInt64.toUInt64 &&& Int64.toUInt64 63)).toInt64)) &&& Int64.ofInt 6148914691236517205))) &&& Int64.ofInt 3689348814741910323)) + (Int64.toInt (Int64.ofInt (Int64.toInt (((Int64.ofInt (x0 - (Int64.toInt (Int64.ofInt (Int64.toInt (((Int64.ofInt x0).toUInt64 >>> ((Int32.ofInt 1).toInt64.toUInt64 &&& Int64.toUInt64 63)).toInt64)) &&& Int64.ofInt 6148914691236517205)))).toUInt64 >>> ((Int32.ofInt 2).toInt64.toUInt64 &&& Int64.toUInt64 63)).toInt64)) &&& Int64.ofInt 3689348814741910323))) + (Int64.toInt (((Int64.ofInt ((Int64.toInt (Int64.ofInt (x0 - (Int64.toInt (Int64.ofInt (Int64.toInt (((Int64.ofInt x0).toUInt64 >>> ((Int32.ofInt 1).toInt64.toUInt64 &&& Int64.toUInt64 63)).toInt64)) &&& Int64.ofInt 6148914691236517205))) &&& Int64.ofInt 3689348814741910323)) + (Int64.toInt (Int64.ofInt (Int64.toInt (((Int64.ofInt (x0 - (Int64.toInt (Int64.ofInt (Int64.toInt (((Int64.ofInt x0).toUInt64 >>> ((Int32.ofInt 1).toInt64.toUInt64 &&& Int64.toUInt64 63)).toInt64)) &&& Int64.ofInt 6148914691236517205)))).toUInt64 >>> ((Int32.ofInt 2).toInt64.toUInt64 &&& Int64.toUInt64 63)).toInt64)) &&& Int64.ofInt 3689348814741910323)))).toUInt64 >>> ((Int32.ofInt 4).toInt64.toUInt64 &&& Int64.toUInt64 63)).toInt64))) &&& Int64.ofInt 1085102592571150095))).toUInt64 >>> ((Int32.ofInt 8).toInt64.toUInt64 &&& Int64.toUInt64 63)).toInt64)))).toUInt64 >>> ((Int32.ofInt 16).toInt64.toUInt64 &&& Int64.toUInt64 63)).toInt64)))).toUInt64 >>> ((Int32.ofInt 32).toInt64.toUInt64 &&& Int64.toUInt64 63)).toInt64))) &&& Int32.ofInt 127)) dJ13_bitCount_95d88_59 ((Int32.ofInt_toInt _).symm) ?_
  exact wp_iret dJ13_bitCount_95d88_60 rfl (Or.inr ⟨rfl, rfl, rfl, by decide⟩) rfl h
theorem eJ13_bitCount_95d88 {x0 : Int}  {M : Mem} {Q : Vl → Mem → Prop} (h : Q (Iv (Int32.toInt (Int32.ofInt ((((Int64.toInt (Int64.ofInt (((Int64.toInt (Int64.ofInt (x0 - (Int64.toInt (Int64.ofInt (Int64.toInt (((Int64.ofInt x0).toUInt64 >>> ((Int32.ofInt 1).toInt64.toUInt64 &&& Int64.toUInt64 63)).toInt64)) &&& Int64.ofInt 6148914691236517205))) &&& Int64.ofInt 3689348814741910323)) + (Int64.toInt (Int64.ofInt (Int64.toInt (((Int64.ofInt (x0 - (Int64.toInt (Int64.ofInt (Int64.toInt (((Int64.ofInt x0).toUInt64 >>> ((Int32.ofInt 1).toInt64.toUInt64 &&& Int64.toUInt64 63)).toInt64)) &&& Int64.ofInt 6148914691236517205)))).toUInt64 >>> ((Int32.ofInt 2).toInt64.toUInt64 &&& Int64.toUInt64 63)).toInt64)) &&& Int64.ofInt 3689348814741910323))) + (Int64.toInt (((Int64.ofInt ((Int64.toInt (Int64.ofInt (x0 - (Int64.toInt (Int64.ofInt (Int64.toInt (((Int64.ofInt x0).toUInt64 >>> ((Int32.ofInt 1).toInt64.toUInt64 &&& Int64.toUInt64 63)).toInt64)) &&& Int64.ofInt 6148914691236517205))) &&& Int64.ofInt 3689348814741910323)) + (Int64.toInt (Int64.ofInt (Int64.toInt (((Int64.ofInt (x0 - (Int64.toInt (Int64.ofInt (Int64.toInt (((Int64.ofInt x0).toUInt64 >>> ((Int32.ofInt 1).toInt64.toUInt64 &&& Int64.toUInt64 63)).toInt64)) &&& Int64.ofInt 6148914691236517205)))).toUInt64 >>> ((Int32.ofInt 2).toInt64.toUInt64 &&& Int64.toUInt64 63)).toInt64)) &&& Int64.ofInt 3689348814741910323)))).toUInt64 >>> ((Int32.ofInt 4).toInt64.toUInt64 &&& Int64.toUInt64 63)).toInt64))) &&& Int64.ofInt 1085102592571150095)) + (Int64.toInt (((Int64.ofInt (Int64.toInt (Int64.ofInt (((Int64.toInt (Int64.ofInt (x0 - (Int64.toInt (Int64.ofInt (Int64.toInt (((Int64.ofInt x0).toUInt64 >>> ((Int32.ofInt 1).toInt64.toUInt64 &&& Int64.toUInt64 63)).toInt64)) &&& Int64.ofInt 6148914691236517205))) &&& Int64.ofInt 3689348814741910323)) + (Int64.toInt (Int64.ofInt (Int64.toInt (((Int64.ofInt (x0 - (Int64.toInt (Int64.ofInt (Int64.toInt (((Int64.ofInt x0).toUInt64 >>> ((Int32.ofInt 1).toInt64.toUInt64 &&& Int64.toUInt64 63)).toInt64)) &&& Int64.ofInt 6148914691236517205)))).toUInt64 >>> ((Int32.ofInt 2).toInt64.toUInt64 &&& Int64.toUInt64 63)).toInt64)) &&& Int64.ofInt 3689348814741910323))) + (Int64.toInt (((Int64.ofInt ((Int64.toInt (Int64.ofInt (x0 - (Int64.toInt (Int64.ofInt (Int64.toInt (((Int64.ofInt x0).toUInt64 >>> ((Int32.ofInt 1).toInt64.toUInt64 &&& Int64.toUInt64 63)).toInt64)) &&& Int64.ofInt 6148914691236517205))) &&& Int64.ofInt 3689348814741910323)) + (Int64.toInt (Int64.ofInt (Int64.toInt (((Int64.ofInt (x0 - (Int64.toInt (Int64.ofInt (Int64.toInt (((Int64.ofInt x0).toUInt64 >>> ((Int32.ofInt 1).toInt64.toUInt64 &&& Int64.toUInt64 63)).toInt64)) &&& Int64.ofInt 6148914691236517205)))).toUInt64 >>> ((Int32.ofInt 2).toInt64.toUInt64 &&& Int64.toUInt64 63)).toInt64)) &&& Int64.ofInt 3689348814741910323)))).toUInt64 >>> ((Int32.ofInt 4).toInt64.toUInt64 &&& Int64.toUInt64 63)).toInt64))) &&& Int64.ofInt 1085102592571150095))).toUInt64 >>> ((Int32.ofInt 8).toInt64.toUInt64 &&& Int64.toUInt64 63)).toInt64))) + (Int64.toInt (((Int64.ofInt ((Int64.toInt (Int64.ofInt (((Int64.toInt (Int64.ofInt (x0 - (Int64.toInt (Int64.ofInt (Int64.toInt (((Int64.ofInt x0).toUInt64 >>> ((Int32.ofInt 1).toInt64.toUInt64 &&& Int64.toUInt64 63)).toInt64)) &&& Int64.ofInt 6148914691236517205))) &&& Int64.ofInt 3689348814741910323)) + (Int64.toInt (Int64.ofInt (Int64.toInt (((Int64.ofInt (x0 - (Int64.toInt (Int64.ofInt (Int64.toInt (((Int64.ofInt x0).toUInt64 >>> ((Int32.ofInt 1).toInt64.toUInt64 &&& Int64.toUInt64 63)).toInt64)) &&& Int64.ofInt 6148914691236517205)))).toUInt64 >>> ((Int32.ofInt 2).toInt64.toUInt64 &&& Int64.toUInt64 63)).toInt64)) &&& Int64.ofInt 3689348814741910323))) + (Int64.toInt (((Int64.ofInt ((Int64.toInt (Int64.ofInt (x0 - (Int64.toInt (Int64.ofInt (Int64.toInt (((Int64.ofInt x0).toUInt64 >>> ((Int32.ofInt 1).toInt64.toUInt64 &&& Int64.toUInt64 63)).toInt64)) &&& Int64.ofInt 6148914691236517205))) &&& Int64.ofInt 3689348814741910323)) + (Int64.toInt (Int64.ofInt (Int64.toInt (((Int64.ofInt (x0 - (Int64.toInt (Int64.ofInt (Int64.toInt (((Int64.ofInt x0).toUInt64 >>> ((Int32.ofInt 1).toInt64.toUInt64 &&& Int64.toUInt64 63)).toInt64)) &&& Int64.ofInt 6148914691236517205)))).toUInt64 >>> ((Int32.ofInt 2).toInt64.toUInt64 &&& Int64.toUInt64 63)).toInt64)) &&& Int64.ofInt 3689348814741910323)))).toUInt64 >>> ((Int32.ofInt 4).toInt64.toUInt64 &&& Int64.toUInt64 63)).toInt64))) &&& Int64.ofInt 1085102592571150095)) + (Int64.toInt (((Int64.ofInt (Int64.toInt (Int64.ofInt (((Int64.toInt (Int64.ofInt (x0 - (Int64.toInt (Int64.ofInt (Int64.toInt (((Int64.ofInt x0).toUInt64 >>> ((Int32.ofInt 1).toInt64.toUInt64 &&& Int64.toUInt64 63)).toInt64)) &&& Int64.ofInt 6148914691236517205))) &&& Int64.ofInt 3689348814741910323)) + (Int64.toInt (Int64.ofInt (Int64.toInt (((Int64.ofInt (x0 - (Int64.toInt (Int64.ofInt (Int64.toInt (((Int64.ofInt x0).toUInt64 >>> ((Int32.ofInt 1).toInt64.toUInt64 &&& Int64.toUInt64 63)).toInt64)) &&& Int64.ofInt 6148914691236517205)))).toUInt64 >>> ((Int32.ofInt 2).toInt64.toUInt64 &&& Int64.toUInt64 63)).toInt64)) &&& Int64.ofInt 3689348814741910323))) + (Int64.toInt (((Int64.ofInt ((Int64.toInt (Int64.ofInt (x0 - (Int64.toInt (Int64.ofInt (Int64.toInt (((Int64.ofInt x0).toUInt64 >>> ((Int32.ofInt 1).toInt64.toUInt64 &&& Int64.toUInt64 63)).toInt64)) &&& Int64.ofInt 6148914691236517205))) &&& Int64.ofInt 3689348814741910323)) + (Int64.toInt (Int64.ofInt (Int64.toInt (((Int64.ofInt (x0 - (Int64.toInt (Int64.ofInt (Int64.toInt (((Int64.ofInt x0).toUInt64 >>> ((Int32.ofInt 1).toInt64.toUInt64 &&& Int64.toUInt64 63)).toInt64)) &&& Int64.ofInt 6148914691236517205)))).toUInt64 >>> ((Int32.ofInt 2).toInt64.toUInt64 &&& Int64.toUInt64 63)).toInt64)) &&& Int64.ofInt 3689348814741910323)))).toUInt64 >>> ((Int32.ofInt 4).toInt64.toUInt64 &&& Int64.toUInt64 63)).toInt64))) &&& Int64.ofInt 1085102592571150095))).toUInt64 >>> ((Int32.ofInt 8).toInt64.toUInt64 &&& Int64.toUInt64 63)).toInt64)))).toUInt64 >>> ((Int32.ofInt 16).toInt64.toUInt64 &&& Int64.toUInt64 63)).toInt64))) + (Int64.toInt (((Int64.ofInt (((Int64.toInt (Int64.ofInt (((Int64.toInt (Int64.ofInt (x0 - (Int64.toInt (Int64.ofInt (Int64.toInt (((Int64.ofInt x0).toUInt64 >>> ((Int32.ofInt 1).toInt64.toUInt64 &&& Int64.toUInt64 63)).toInt64)) &&& Int64.ofInt 6148914691236517205))) &&& Int64.ofInt 3689348814741910323)) + (Int64.toInt (Int64.ofInt (Int64.toInt (((Int64.ofInt (x0 - (Int64.toInt (Int64.ofInt (Int64.toInt (((Int64.ofInt x0).toUInt64 >>> ((Int32.ofInt 1).toInt64.toUInt64 &&& Int64.toUInt64 63)).toInt64)) &&& Int64.ofInt 6148914691236517205)))).toUInt64 >>> ((Int32.ofInt 2).toInt64.toUInt64 &&& Int64.toUInt64 63)).toInt64)) &&& Int64.ofInt 3689348814741910323))) + (Int64.toInt (((Int64.ofInt ((Int64.toInt (Int64.ofInt (x0 - (Int64.toInt (Int64.ofInt (Int64.toInt (((Int64.ofInt x0).toUInt64 >>> ((Int32.ofInt 1).toInt64.toUInt64 &&& Int64.toUInt64 63)).toInt64)) &&& Int64.ofInt 6148914691236517205))) &&& Int64.ofInt 3689348814741910323)) + (Int64.toInt (Int64.ofInt (Int64.toInt (((Int64.ofInt (x0 - (Int64.toInt (Int64.ofInt (Int64.toInt (((Int64.ofInt x0).toUInt64 >>> ((Int32.ofInt 1).toInt64.toUInt64 &&& Int64.toUInt64 63)).toInt64)) &&& Int64.ofInt 6148914691236517205)))).toUInt64 >>> ((Int32.ofInt 2).toInt64.toUInt64 &&& Int64.toUInt64 63)).toInt64)) &&& Int64.ofInt 3689348814741910323)))).toUInt64 >>> ((Int32.ofInt 4).toInt64.toUInt64 &&& Int64.toUInt64 63)).toInt64))) &&& Int64.ofInt 1085102592571150095)) + (Int64.toInt (((Int64.ofInt (Int64.toInt (Int64.ofInt (((Int64.toInt (Int64.ofInt (x0 - (Int64.toInt (Int64.ofInt (Int64.toInt (((Int64.ofInt x0).toUInt64 >>> ((Int32.ofInt 1).toInt64.toUInt64 &&& Int64.toUInt64 63)).toInt64)) &&& Int64.ofInt 6148914691236517205))) &&& Int64.ofInt 3689348814741910323)) + (Int64.toInt (Int64.ofInt (Int64.toInt (((Int64.ofInt (x0 - (Int64.toInt (Int64.ofInt (Int64.toInt (((Int64.ofInt x0).toUInt64 >>> ((Int32.ofInt 1).toInt64.toUInt64 &&& Int64.toUInt64 63)).toInt64)) &&& Int64.ofInt 6148914691236517205)))).toUInt64 >>> ((Int32.ofInt 2).toInt64.toUInt64 &&& Int64.toUInt64 63)).toInt64)) &&& Int64.ofInt 3689348814741910323))) + (Int64.toInt (((Int64.ofInt ((Int64.toInt (Int64.ofInt (x0 - (Int64.toInt (Int64.ofInt (Int64.toInt (((Int64.ofInt x0).toUInt64 >>> ((Int32.ofInt 1).toInt64.toUInt64 &&& Int64.toUInt64 63)).toInt64)) &&& Int64.ofInt 6148914691236517205))) &&& Int64.ofInt 3689348814741910323)) + (Int64.toInt (Int64.ofInt (Int64.toInt (((Int64.ofInt (x0 - (Int64.toInt (Int64.ofInt (Int64.toInt (((Int64.ofInt x0).toUInt64 >>> ((Int32.ofInt 1).toInt64.toUInt64 &&& Int64.toUInt64 63)).toInt64)) &&& Int64.ofInt 6148914691236517205)))).toUInt64 >>> ((Int32.ofInt 2).toInt64.toUInt64 &&& Int64.toUInt64 63)).toInt64)) &&& Int64.ofInt 3689348814741910323)))).toUInt64 >>> ((Int32.ofInt 4).toInt64.toUInt64 &&& Int64.toUInt64 63)).toInt64))) &&& Int64.ofInt 1085102592571150095))).toUInt64 >>> ((Int32.ofInt 8).toInt64.toUInt64 &&& Int64.toUInt64 63)).toInt64))) + (Int64.toInt (((Int64.ofInt ((Int64.toInt (Int64.ofInt (((Int64.toInt (Int64.ofInt (x0 - (Int64.toInt (Int64.ofInt (Int64.toInt (((Int64.ofInt x0).toUInt64 >>> ((Int32.ofInt 1).toInt64.toUInt64 &&& Int64.toUInt64 63)).toInt64)) &&& Int64.ofInt 6148914691236517205))) &&& Int64.ofInt 3689348814741910323)) + (Int64.toInt (Int64.ofInt (Int64.toInt (((Int64.ofInt (x0 - (Int64.toInt (Int64.ofInt (Int64.toInt (((Int64.ofInt x0).toUInt64 >>> ((Int32.ofInt 1).toInt64.toUInt64 &&& Int64.toUInt64 63)).toInt64)) &&& Int64.ofInt 6148914691236517205)))).toUInt64 >>> ((Int32.ofInt 2).toInt64.toUInt64 &&& Int64.toUInt64 63)).toInt64)) &&& Int64.ofInt 3689348814741910323))) + (Int64.toInt (((Int64.ofInt ((Int64.toInt (Int64.ofInt (x0 - (Int64.toInt (Int64.ofInt (Int64.toInt (((Int64.ofInt x0).toUInt64 >>> ((Int32.ofInt 1).toInt64.toUInt64 &&& Int64.toUInt64 63)).toInt64)) &&& Int64.ofInt 6148914691236517205))) &&& Int64.ofInt 3689348814741910323)) + (Int64.toInt (Int64.ofInt (Int64.toInt (((Int64.ofInt (x0 - (Int64.toInt (Int64.ofInt (Int64.toInt (((Int64.ofInt x0).toUInt64 >>> ((Int32.ofInt 1).toInt64.toUInt64 &&& Int64.toUInt64 63)).toInt64)) &&& Int64.ofInt 6148914691236517205)))).toUInt64 >>> ((Int32.ofInt 2).toInt64.toUInt64 &&& Int64.toUInt64 63)).toInt64)) &&& Int64.ofInt 3689348814741910323)))).toUInt64 >>> ((Int32.ofInt 4).toInt64.toUInt64 &&& Int64.toUInt64 63)).toInt64))) &&& Int64.ofInt 1085102592571150095)) + (Int64.toInt (((Int64.ofInt (Int64.toInt (Int64.ofInt (((Int64.toInt (Int64.ofInt (x0 - (Int64.toInt (Int64.ofInt (Int64.toInt (((Int64.ofInt x0).toUInt64 >>> ((Int32.ofInt 1).toInt64.toUInt64 &&& Int64.toUInt64 63)).toInt64)) &&& Int64.ofInt 6148914691236517205))) &&& Int64.ofInt 3689348814741910323)) + (Int64.toInt (Int64.ofInt (Int64.toInt (((Int64.ofInt (x0 - (Int64.toInt (Int64.ofInt (Int64.toInt (((Int64.ofInt x0).toUInt64 >>> ((Int32.ofInt 1).toInt64.toUInt64 &&& Int64.toUInt64 63)).toInt64)) &&& Int64.ofInt 6148914691236517205)))).toUInt64 >>> ((Int32.ofInt 2).toInt64.toUInt64 &&& Int64.toUInt64 63)).toInt64)) &&& Int64.ofInt 3689348814741910323))) + (Int64.toInt (((Int64.ofInt ((Int64.toInt (Int64.ofInt (x0 - (Int64.toInt (Int64.ofInt (Int64.toInt (((Int64.ofInt x0).toUInt64 >>> ((Int32.ofInt 1).toInt64.toUInt64 &&& Int64.toUInt64 63)).toInt64)) &&& Int64.ofInt 6148914691236517205))) &&& Int64.ofInt 3689348814741910323)) + (Int64.toInt (Int64.ofInt (Int64.toInt (((Int64.ofInt (x0 - (Int64.toInt (Int64.ofInt (Int64.toInt (((Int64.ofInt x0).toUInt64 >>> ((Int32.ofInt 1).toInt64.toUInt64 &&& Int64.toUInt64 63)).toInt64)) &&& Int64.ofInt 6148914691236517205)))).toUInt64 >>> ((Int32.ofInt 2).toInt64.toUInt64 &&& Int64.toUInt64 63)).toInt64)) &&& Int64.ofInt 3689348814741910323)))).toUInt64 >>> ((Int32.ofInt 4).toInt64.toUInt64 &&& Int64.toUInt64 63)).toInt64))) &&& Int64.ofInt 1085102592571150095))).toUInt64 >>> ((Int32.ofInt 8).toInt64.toUInt64 &&& Int64.toUInt64 63)).toInt64)))).toUInt64 >>> ((Int32.ofInt 16).toInt64.toUInt64 &&& Int64.toUInt64 63)).toInt64)))).toUInt64 >>> ((Int32.ofInt 32).toInt64.toUInt64 &&& Int64.toUInt64 63)).toInt64))) &&& Int32.ofInt 127))) M) : cl 0 yJ13_bitCount_95d88 [Jv x0] M Q := enterG (by decide +kernel) (by exact Or.inr (Or.inl rfl)) (Nat.le_of_ble_eq_true rfl) rfl (gJ13_bitCount_95d88 h)
