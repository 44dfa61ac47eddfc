def oks0 (t : FieldType) : Bool := match t with
  | .int => true
  | .long => true
  | .boolean => true
  | .array _ => true
  | .object _ => true
  | _ => false
theorem oks0_ok {t : FieldType} (h : oks0 t = true) : okst t 0 := by
  cases t with
  | int => trivial
  | long => trivial
  | boolean => exact Or.inl rfl
  | array _ => trivial
  | object _ => trivial
  | _ => cases h
theorem okst_c (c : Nat) (hc : c < 13) (k : Nat) (hk : k < (clT c).2.2) : okst (tyF c k) 0 := by
  have key : ∀ c, c < 13 → ∀ k, k < (clT c).2.2 → oks0 (tyF c k) = true := by decide +kernel
  exact oks0_ok (key c hc k hk)
def mkX6_init_7 (M : Mem) : Mem := (up (setA (up (setA M 8 (fun _ => 0)) 7 0 8) 9 (fun _ => 0)) 7 2 9)
theorem wkX6_init_7 {M : Mem} {Q : Vl → Mem → Prop} (h : Q (Iv 0) (mkX6_init_7 M)) : WPg 0 8 10 (some (2, 44)) 0 0 yX6_init 0 [some (Rv 7)] [] M Q := by
  refine wp_aload_n dX6_init_0 rfl (by decide) ?_
  refine wp_objInit dX6_init_1 (ml_X6_3 rfl) (by decide) (Nat.le_of_ble_eq_true rfl) (by decide) ?_
  refine wp_aload_n dX6_init_4 rfl (by decide) ?_
  refine wp_bipush dX6_init_5 (by decide) ?_
  refine wp_newI (n := 40) dX6_init_7 (by decide) rfl (by decide) ⟨Nat.le_of_ble_eq_true rfl, Nat.le_of_ble_eq_true rfl⟩ ?_
  refine wp_putF (x := 8) dX6_init_9 (fl_X6_9 rfl) rfl (fun h => absurd h (by decide)) rfl rfl rfl rfl trivial ?_
  refine wp_aload_n dX6_init_12 rfl (by decide) ?_
  refine wp_iconst dX6_init_13 ?_
  refine wp_newI (n := 4) dX6_init_14 (by decide) rfl (by decide) ⟨Nat.le_of_ble_eq_true rfl, Nat.le_of_ble_eq_true rfl⟩ ?_
  refine wp_putF (x := 9) dX6_init_16 (fl_X6_15 rfl) rfl (fun h => absurd h (by decide)) rfl rfl rfl rfl trivial ?_
  exact wp_vret dX6_init_19 rfl (Or.inl ⟨Nat.le_of_ble_eq_true rfl, Nat.le_of_ble_eq_true rfl⟩) rfl h
theorem kX6_init_7 {M : Mem} {Q : Vl → Mem → Prop} (h : Q (Iv 0) (mkX6_init_7 M)) : CL 0 8 10 (some (2, 44)) yX6_init [Rv 7] M Q := enterG (by decide +kernel) (by exact Or.inl rfl) (Nat.le_of_ble_eq_true rfl) rfl (wkX6_init_7 h)
def mkX7_init_10 (M : Mem) : Mem := (up (setA (up (setA (up (setA (up (setA M 11 (fun _ => 0)) 10 0 11) 12 (fun _ => 0)) 10 1 12) 13 (fun _ => 0)) 10 2 13) 14 (fun _ => 0)) 10 3 14)
theorem wkX7_init_10 {M : Mem} {Q : Vl → Mem → Prop} (h : Q (Iv 0) (mkX7_init_10 M)) : WPg 0 11 15 (some (4, 162)) 0 0 yX7_init 0 [some (Rv 10)] [] M Q := by
  refine wp_aload_n dX7_init_0 rfl (by decide) ?_
  refine wp_objInit dX7_init_1 (ml_X7_3 rfl) (by decide) (Nat.le_of_ble_eq_true rfl) (by decide) ?_
  refine wp_aload_n dX7_init_4 rfl (by decide) ?_
  refine wp_bipush dX7_init_5 (by decide) ?_
  refine wp_newI (n := 40) dX7_init_7 (by decide) rfl (by decide) ⟨Nat.le_of_ble_eq_true rfl, Nat.le_of_ble_eq_true rfl⟩ ?_
  refine wp_putF (x := 11) dX7_init_9 (fl_X7_9 rfl) rfl (fun h => absurd h (by decide)) rfl rfl rfl rfl trivial ?_
  refine wp_aload_n dX7_init_12 rfl (by decide) ?_
  refine wp_bipush dX7_init_13 (by decide) ?_
  refine wp_newI (n := 40) dX7_init_15 (by decide) rfl (by decide) ⟨Nat.le_of_ble_eq_true rfl, Nat.le_of_ble_eq_true rfl⟩ ?_
  refine wp_putF (x := 12) dX7_init_17 (fl_X7_15 rfl) rfl (fun h => absurd h (by decide)) rfl rfl rfl rfl trivial ?_
  refine wp_aload_n dX7_init_20 rfl (by decide) ?_
  refine wp_bipush dX7_init_21 (by decide) ?_
  refine wp_newJ (n := 41) dX7_init_23 (by decide) rfl (by decide) ⟨Nat.le_of_ble_eq_true rfl, Nat.le_of_ble_eq_true rfl⟩ ?_
  refine wp_putF (x := 13) dX7_init_25 (fl_X7_18 rfl) rfl (fun h => absurd h (by decide)) rfl rfl rfl rfl trivial ?_
  refine wp_aload_n dX7_init_28 rfl (by decide) ?_
  refine wp_bipush dX7_init_29 (by decide) ?_
  refine wp_newI (n := 41) dX7_init_31 (by decide) rfl (by decide) ⟨Nat.le_of_ble_eq_true rfl, Nat.le_of_ble_eq_true rfl⟩ ?_
  refine wp_putF (x := 14) dX7_init_33 (fl_X7_22 rfl) rfl (fun h => absurd h (by decide)) rfl rfl rfl rfl trivial ?_
  exact wp_vret dX7_init_36 rfl (Or.inl ⟨Nat.le_of_ble_eq_true rfl, Nat.le_of_ble_eq_true rfl⟩) rfl h
theorem kX7_init_10 {M : Mem} {Q : Vl → Mem → Prop} (h : Q (Iv 0) (mkX7_init_10 M)) : CL 0 11 15 (some (4, 162)) yX7_init [Rv 10] M Q := enterG (by decide +kernel) (by exact Or.inl rfl) (Nat.le_of_ble_eq_true rfl) rfl (wkX7_init_10 h)
def mkX8_init_18 (M : Mem) : Mem := (up (setA M 19 (fun _ => 0)) 18 0 19)
theorem wkX8_init_18 {M : Mem} {Q : Vl → Mem → Prop} (h : Q (Iv 0) (mkX8_init_18 M)) : WPg 0 19 20 (some (1, 246)) 0 0 yX8_init 0 [some (Rv 18)] [] M Q := by
  refine wp_aload_n dX8_init_0 rfl (by decide) ?_
  refine wp_objInit dX8_init_1 (ml_X8_3 rfl) (by decide) (Nat.le_of_ble_eq_true rfl) (by decide) ?_
  refine wp_aload_n dX8_init_4 rfl (by decide) ?_
  refine wp_sipush dX8_init_5 (by decide) ?_
  refine wp_newI (n := 246) dX8_init_8 (by decide) rfl (by decide) ⟨Nat.le_of_ble_eq_true rfl, Nat.le_of_ble_eq_true rfl⟩ ?_
  refine wp_putF (x := 19) dX8_init_10 (fl_X8_9 rfl) rfl (fun h => absurd h (by decide)) rfl rfl rfl rfl trivial ?_
  exact wp_vret dX8_init_13 rfl (Or.inl ⟨Nat.le_of_ble_eq_true rfl, Nat.le_of_ble_eq_true rfl⟩) rfl h
theorem kX8_init_18 {M : Mem} {Q : Vl → Mem → Prop} (h : Q (Iv 0) (mkX8_init_18 M)) : CL 0 19 20 (some (1, 246)) yX8_init [Rv 18] M Q := enterG (by decide +kernel) (by exact Or.inl rfl) (Nat.le_of_ble_eq_true rfl) rfl (wkX8_init_18 h)
def mkX0_init_15 (M : Mem) : Mem := (up (mkX8_init_18 (setA (up (setA (up (setA M 16 (fun _ => 0)) 15 3 16) 17 (fun _ => 0)) 15 4 17) 18 (dfl 8))) 15 5 18)
theorem wkX0_init_15 {M : Mem} {Q : Vl → Mem → Prop} (h : Q (Iv 0) (mkX0_init_15 M)) : WPg 0 16 20 (some (4, 329)) 0 0 yX0_init 0 [some (Rv 15)] [] M Q := by
  refine wp_aload_n dX0_init_0 rfl (by decide) ?_
  refine wp_objInit dX0_init_1 (ml_X0_3 rfl) (by decide) (Nat.le_of_ble_eq_true rfl) (by decide) ?_
  refine wp_aload_n dX0_init_4 rfl (by decide) ?_
  refine wp_bipush dX0_init_5 (by decide) ?_
  refine wp_newI (n := 41) dX0_init_7 (by decide) rfl (by decide) ⟨Nat.le_of_ble_eq_true rfl, Nat.le_of_ble_eq_true rfl⟩ ?_
  refine wp_putF (x := 16) dX0_init_9 (fl_X0_9 rfl) rfl (fun h => absurd h (by decide)) rfl rfl rfl rfl trivial ?_
  refine wp_aload_n dX0_init_12 rfl (by decide) ?_
  refine wp_bipush dX0_init_13 (by decide) ?_
  refine wp_newJ (n := 41) dX0_init_15 (by decide) rfl (by decide) ⟨Nat.le_of_ble_eq_true rfl, Nat.le_of_ble_eq_true rfl⟩ ?_
  refine wp_putF (x := 17) dX0_init_17 (fl_X0_15 rfl) rfl (fun h => absurd h (by decide)) rfl rfl rfl rfl trivial ?_
  refine wp_aload_n dX0_init_20 rfl (by decide) ?_
  refine wp_new (cl := 8) dX0_init_21 (by decide) (kl_X0_19 rfl) in_X8.1 in_X8.2 (by decide) rfl (okst_c _ (by decide)) ⟨Nat.le_of_ble_eq_true rfl, Nat.le_of_ble_eq_true rfl⟩ ?_
  refine wp_dup dX0_init_24 rfl ?_
  refine wp_callI (e1 := 0) (mc := 1) (ms := 246) (as := []) (S := [Rv 18, Rv 15]) (R2 := fun _ M2 => M2 = mkX8_init_18 _) dX0_init_25 (cs_X0_21 rfl) (by decide) rfl rfl (Nat.le_of_ble_eq_true rfl) (Nat.le_of_ble_eq_true rfl) ⟨Nat.le_of_ble_eq_true rfl, Nat.le_of_ble_eq_true rfl⟩ (kX8_init_18 rfl) (fun v M2 q => ?_)
  subst q
  refine wp_putF (x := 18) dX0_init_28 (fl_X0_22 rfl) rfl (fun h => absurd h (by decide)) rfl rfl rfl rfl trivial ?_
  exact wp_vret dX0_init_31 rfl (Or.inl ⟨Nat.le_of_ble_eq_true rfl, Nat.le_of_ble_eq_true rfl⟩) rfl h
theorem kX0_init_15 {M : Mem} {Q : Vl → Mem → Prop} (h : Q (Iv 0) (mkX0_init_15 M)) : CL 0 16 20 (some (4, 329)) yX0_init [Rv 15] M Q := enterG (by decide +kernel) (by exact Or.inl rfl) (Nat.le_of_ble_eq_true rfl) rfl (wkX0_init_15 h)
def mkX1_init_20 (M : Mem) : Mem := (up (setA (up (setA M 21 (fun _ => 0)) 20 0 21) 22 (fun _ => 0)) 20 1 22)
theorem wkX1_init_20 {M : Mem} {Q : Vl → Mem → Prop} (h : Q (Iv 0) (mkX1_init_20 M)) : WPg 0 21 23 (some (2, 80)) 0 0 yX1_init 0 [some (Rv 20)] [] M Q := by
  refine wp_aload_n dX1_init_0 rfl (by decide) ?_
  refine wp_objInit dX1_init_1 (ml_X1_3 rfl) (by decide) (Nat.le_of_ble_eq_true rfl) (by decide) ?_
  refine wp_aload_n dX1_init_4 rfl (by decide) ?_
  refine wp_bipush dX1_init_5 (by decide) ?_
  refine wp_newI (n := 40) dX1_init_7 (by decide) rfl (by decide) ⟨Nat.le_of_ble_eq_true rfl, Nat.le_of_ble_eq_true rfl⟩ ?_
  refine wp_putF (x := 21) dX1_init_9 (fl_X1_9 rfl) rfl (fun h => absurd h (by decide)) rfl rfl rfl rfl trivial ?_
  refine wp_aload_n dX1_init_12 rfl (by decide) ?_
  refine wp_bipush dX1_init_13 (by decide) ?_
  refine wp_newI (n := 40) dX1_init_15 (by decide) rfl (by decide) ⟨Nat.le_of_ble_eq_true rfl, Nat.le_of_ble_eq_true rfl⟩ ?_
  refine wp_putF (x := 22) dX1_init_17 (fl_X1_15 rfl) rfl (fun h => absurd h (by decide)) rfl rfl rfl rfl trivial ?_
  exact wp_vret dX1_init_20 rfl (Or.inl ⟨Nat.le_of_ble_eq_true rfl, Nat.le_of_ble_eq_true rfl⟩) rfl h
theorem kX1_init_20 {M : Mem} {Q : Vl → Mem → Prop} (h : Q (Iv 0) (mkX1_init_20 M)) : CL 0 21 23 (some (2, 80)) yX1_init [Rv 20] M Q := enterG (by decide +kernel) (by exact Or.inl rfl) (Nat.le_of_ble_eq_true rfl) rfl (wkX1_init_20 h)
def mkX5_init_23 (M : Mem) : Mem := (up (setA (up (setA (up (setA (up (setA M 24 (fun _ => -1)) 23 0 24) 25 (fun _ => 0)) 23 1 25) 26 (fun _ => 0)) 23 2 26) 27 (fun _ => 0)) 23 3 27)
theorem wkX5_init_23 {M : Mem} {Q : Vl → Mem → Prop} (h : Q (Iv 0) (mkX5_init_23 M)) : WPg 0 24 28 (some (4, 18)) 0 0 yX5_init 0 [some (Rv 23)] [] M Q := by
  refine wp_aload_n dX5_init_0 rfl (by decide) ?_
  refine wp_objInit dX5_init_1 (ml_X5_3 rfl) (by decide) (Nat.le_of_ble_eq_true rfl) (by decide) ?_
  refine wp_aload_n dX5_init_4 rfl (by decide) ?_
  refine wp_iconst dX5_init_5 ?_
  refine wp_anewL (n := 4) dX5_init_6 (kl_X5_9 rfl) (by decide) rfl (by decide) ⟨Nat.le_of_ble_eq_true rfl, Nat.le_of_ble_eq_true rfl⟩ ?_
  refine wp_putF (x := 24) dX5_init_9 (fl_X5_11 rfl) rfl (fun h => absurd h (by decide)) rfl rfl rfl rfl trivial ?_
  refine wp_aload_n dX5_init_12 rfl (by decide) ?_
  refine wp_iconst dX5_init_13 ?_
  refine wp_newI (n := 4) dX5_init_14 (by decide) rfl (by decide) ⟨Nat.le_of_ble_eq_true rfl, Nat.le_of_ble_eq_true rfl⟩ ?_
  refine wp_putF (x := 25) dX5_init_16 (fl_X5_17 rfl) rfl (fun h => absurd h (by decide)) rfl rfl rfl rfl trivial ?_
  refine wp_aload_n dX5_init_19 rfl (by decide) ?_
  refine wp_iconst dX5_init_20 ?_
  refine wp_newI (n := 4) dX5_init_21 (by decide) rfl (by decide) ⟨Nat.le_of_ble_eq_true rfl, Nat.le_of_ble_eq_true rfl⟩ ?_
  refine wp_putF (x := 26) dX5_init_23 (fl_X5_21 rfl) rfl (fun h => absurd h (by decide)) rfl rfl rfl rfl trivial ?_
  refine wp_aload_n dX5_init_26 rfl (by decide) ?_
  refine wp_bipush dX5_init_27 (by decide) ?_
  refine wp_newI (n := 6) dX5_init_29 (by decide) rfl (by decide) ⟨Nat.le_of_ble_eq_true rfl, Nat.le_of_ble_eq_true rfl⟩ ?_
  refine wp_putF (x := 27) dX5_init_31 (fl_X5_24 rfl) rfl (fun h => absurd h (by decide)) rfl rfl rfl rfl trivial ?_
  exact wp_vret dX5_init_34 rfl (Or.inl ⟨Nat.le_of_ble_eq_true rfl, Nat.le_of_ble_eq_true rfl⟩) rfl h
theorem kX5_init_23 {M : Mem} {Q : Vl → Mem → Prop} (h : Q (Iv 0) (mkX5_init_23 M)) : CL 0 24 28 (some (4, 18)) yX5_init [Rv 23] M Q := enterG (by decide +kernel) (by exact Or.inl rfl) (Nat.le_of_ble_eq_true rfl) rfl (wkX5_init_23 h)
def mkX9_init_28 (M : Mem) : Mem := (up (setA (up (setA (up (setA (up (setA (up (setA (up (setA M 29 (fun _ => 0)) 28 0 29) 30 (fun _ => 0)) 28 1 30) 31 (fun _ => 0)) 28 2 31) 32 (fun _ => 0)) 28 3 32) 33 (fun _ => 0)) 28 4 33) 34 (fun _ => 0)) 28 5 34)
theorem wkX9_init_28 {M : Mem} {Q : Vl → Mem → Prop} (h : Q (Iv 0) (mkX9_init_28 M)) : WPg 0 29 35 (some (6, 554)) 0 0 yX9_init 0 [some (Rv 28)] [] M Q := by
  refine wp_aload_n dX9_init_0 rfl (by decide) ?_
  refine wp_objInit dX9_init_1 (ml_X9_3 rfl) (by decide) (Nat.le_of_ble_eq_true rfl) (by decide) ?_
  refine wp_aload_n dX9_init_4 rfl (by decide) ?_
  refine wp_bipush dX9_init_5 (by decide) ?_
  refine wp_newI (n := 40) dX9_init_7 (by decide) rfl (by decide) ⟨Nat.le_of_ble_eq_true rfl, Nat.le_of_ble_eq_true rfl⟩ ?_
  refine wp_putF (x := 29) dX9_init_9 (fl_X9_9 rfl) rfl (fun h => absurd h (by decide)) rfl rfl rfl rfl trivial ?_
  refine wp_aload_n dX9_init_12 rfl (by decide) ?_
  refine wp_bipush dX9_init_13 (by decide) ?_
  refine wp_newI (n := 40) dX9_init_15 (by decide) rfl (by decide) ⟨Nat.le_of_ble_eq_true rfl, Nat.le_of_ble_eq_true rfl⟩ ?_
  refine wp_putF (x := 30) dX9_init_17 (fl_X9_15 rfl) rfl (fun h => absurd h (by decide)) rfl rfl rfl rfl trivial ?_
  refine wp_aload_n dX9_init_20 rfl (by decide) ?_
  refine wp_bipush dX9_init_21 (by decide) ?_
  refine wp_newI (n := 6) dX9_init_23 (by decide) rfl (by decide) ⟨Nat.le_of_ble_eq_true rfl, Nat.le_of_ble_eq_true rfl⟩ ?_
  refine wp_putF (x := 31) dX9_init_25 (fl_X9_18 rfl) rfl (fun h => absurd h (by decide)) rfl rfl rfl rfl trivial ?_
  refine wp_aload_n dX9_init_28 rfl (by decide) ?_
  refine wp_bipush dX9_init_29 (by decide) ?_
  refine wp_newI (n := 36) dX9_init_31 (by decide) rfl (by decide) ⟨Nat.le_of_ble_eq_true rfl, Nat.le_of_ble_eq_true rfl⟩ ?_
  refine wp_putF (x := 32) dX9_init_33 (fl_X9_21 rfl) rfl (fun h => absurd h (by decide)) rfl rfl rfl rfl trivial ?_
  refine wp_aload_n dX9_init_36 rfl (by decide) ?_
  refine wp_sipush dX9_init_37 (by decide) ?_
  refine wp_newI (n := 216) dX9_init_40 (by decide) rfl (by decide) ⟨Nat.le_of_ble_eq_true rfl, Nat.le_of_ble_eq_true rfl⟩ ?_
  refine wp_putF (x := 33) dX9_init_42 (fl_X9_24 rfl) rfl (fun h => absurd h (by decide)) rfl rfl rfl rfl trivial ?_
  refine wp_aload_n dX9_init_45 rfl (by decide) ?_
  refine wp_sipush dX9_init_46 (by decide) ?_
  refine wp_newI (n := 216) dX9_init_49 (by decide) rfl (by decide) ⟨Nat.le_of_ble_eq_true rfl, Nat.le_of_ble_eq_true rfl⟩ ?_
  refine wp_putF (x := 34) dX9_init_51 (fl_X9_27 rfl) rfl (fun h => absurd h (by decide)) rfl rfl rfl rfl trivial ?_
  exact wp_vret dX9_init_54 rfl (Or.inl ⟨Nat.le_of_ble_eq_true rfl, Nat.le_of_ble_eq_true rfl⟩) rfl h
theorem kX9_init_28 {M : Mem} {Q : Vl → Mem → Prop} (h : Q (Iv 0) (mkX9_init_28 M)) : CL 0 29 35 (some (6, 554)) yX9_init [Rv 28] M Q := enterG (by decide +kernel) (by exact Or.inl rfl) (Nat.le_of_ble_eq_true rfl) rfl (wkX9_init_28 h)
def mkX3_init_35 (M : Mem) : Mem := (up (setA (up M 35 1 (-1)) 36 (fun _ => 0)) 35 0 36)
theorem wkX3_init_35 {M : Mem} {Q : Vl → Mem → Prop} (h : Q (Iv 0) (mkX3_init_35 M)) : WPg 0 36 37 (some (1, 40)) 0 0 yX3_init 0 [some (Rv 35), some (Iv 40)] [] M Q := by
  refine wp_aload_n dX3_init_0 rfl (by decide) ?_
  refine wp_objInit dX3_init_1 (ml_X3_3 rfl) (by decide) (Nat.le_of_ble_eq_true rfl) (by decide) ?_
  refine wp_aload_n dX3_init_4 rfl (by decide) ?_
  refine wp_iconst dX3_init_5 ?_
  refine wp_putf (x := (-1)) dX3_init_6 (fl_X3_9 rfl) rfl (fun h => absurd h (by decide)) rfl rfl trivial ?_
  refine wp_aload_n dX3_init_9 rfl (by decide) ?_
  refine wp_iload_n dX3_init_10 rfl ?_
  refine wp_newI (n := 40) dX3_init_11 (by decide) rfl (by decide) ⟨Nat.le_of_ble_eq_true rfl, Nat.le_of_ble_eq_true rfl⟩ ?_
  refine wp_putF (x := 36) dX3_init_13 (fl_X3_15 rfl) rfl (fun h => absurd h (by decide)) rfl rfl rfl rfl trivial ?_
  exact wp_vret dX3_init_16 rfl (Or.inl ⟨Nat.le_of_ble_eq_true rfl, Nat.le_of_ble_eq_true rfl⟩) rfl h
theorem kX3_init_35 {M : Mem} {Q : Vl → Mem → Prop} (h : Q (Iv 0) (mkX3_init_35 M)) : CL 0 36 37 (some (1, 40)) yX3_init [Rv 35, Iv 40] M Q := enterG (by decide +kernel) (by exact Or.inl rfl) (Nat.le_of_ble_eq_true rfl) rfl (wkX3_init_35 h)
def mkX3_init_37 (M : Mem) : Mem := (up (setA (up M 37 1 (-1)) 38 (fun _ => 0)) 37 0 38)
theorem wkX3_init_37 {M : Mem} {Q : Vl → Mem → Prop} (h : Q (Iv 0) (mkX3_init_37 M)) : WPg 0 38 39 (some (1, 40)) 0 0 yX3_init 0 [some (Rv 37), some (Iv 40)] [] M Q := by
  refine wp_aload_n dX3_init_0 rfl (by decide) ?_
  refine wp_objInit dX3_init_1 (ml_X3_3 rfl) (by decide) (Nat.le_of_ble_eq_true rfl) (by decide) ?_
  refine wp_aload_n dX3_init_4 rfl (by decide) ?_
  refine wp_iconst dX3_init_5 ?_
  refine wp_putf (x := (-1)) dX3_init_6 (fl_X3_9 rfl) rfl (fun h => absurd h (by decide)) rfl rfl trivial ?_
  refine wp_aload_n dX3_init_9 rfl (by decide) ?_
  refine wp_iload_n dX3_init_10 rfl ?_
  refine wp_newI (n := 40) dX3_init_11 (by decide) rfl (by decide) ⟨Nat.le_of_ble_eq_true rfl, Nat.le_of_ble_eq_true rfl⟩ ?_
  refine wp_putF (x := 38) dX3_init_13 (fl_X3_15 rfl) rfl (fun h => absurd h (by decide)) rfl rfl rfl rfl trivial ?_
  exact wp_vret dX3_init_16 rfl (Or.inl ⟨Nat.le_of_ble_eq_true rfl, Nat.le_of_ble_eq_true rfl⟩) rfl h
theorem kX3_init_37 {M : Mem} {Q : Vl → Mem → Prop} (h : Q (Iv 0) (mkX3_init_37 M)) : CL 0 38 39 (some (1, 40)) yX3_init [Rv 37, Iv 40] M Q := enterG (by decide +kernel) (by exact Or.inl rfl) (Nat.le_of_ble_eq_true rfl) rfl (wkX3_init_37 h)
def mkX3_init_39 (M : Mem) : Mem := (up (setA (up M 39 1 (-1)) 40 (fun _ => 0)) 39 0 40)
theorem wkX3_init_39 {M : Mem} {Q : Vl → Mem → Prop} (h : Q (Iv 0) (mkX3_init_39 M)) : WPg 0 40 41 (some (1, 40)) 0 0 yX3_init 0 [some (Rv 39), some (Iv 40)] [] M Q := by
  refine wp_aload_n dX3_init_0 rfl (by decide) ?_
  refine wp_objInit dX3_init_1 (ml_X3_3 rfl) (by decide) (Nat.le_of_ble_eq_true rfl) (by decide) ?_
  refine wp_aload_n dX3_init_4 rfl (by decide) ?_
  refine wp_iconst dX3_init_5 ?_
  refine wp_putf (x := (-1)) dX3_init_6 (fl_X3_9 rfl) rfl (fun h => absurd h (by decide)) rfl rfl trivial ?_
  refine wp_aload_n dX3_init_9 rfl (by decide) ?_
  refine wp_iload_n dX3_init_10 rfl ?_
  refine wp_newI (n := 40) dX3_init_11 (by decide) rfl (by decide) ⟨Nat.le_of_ble_eq_true rfl, Nat.le_of_ble_eq_true rfl⟩ ?_
  refine wp_putF (x := 40) dX3_init_13 (fl_X3_15 rfl) rfl (fun h => absurd h (by decide)) rfl rfl rfl rfl trivial ?_
  exact wp_vret dX3_init_16 rfl (Or.inl ⟨Nat.le_of_ble_eq_true rfl, Nat.le_of_ble_eq_true rfl⟩) rfl h
theorem kX3_init_39 {M : Mem} {Q : Vl → Mem → Prop} (h : Q (Iv 0) (mkX3_init_39 M)) : CL 0 40 41 (some (1, 40)) yX3_init [Rv 39, Iv 40] M Q := enterG (by decide +kernel) (by exact Or.inl rfl) (Nat.le_of_ble_eq_true rfl) rfl (wkX3_init_39 h)
def mkX3_init_41 (M : Mem) : Mem := (up (setA (up M 41 1 (-1)) 42 (fun _ => 0)) 41 0 42)
theorem wkX3_init_41 {M : Mem} {Q : Vl → Mem → Prop} (h : Q (Iv 0) (mkX3_init_41 M)) : WPg 0 42 43 (some (1, 40)) 0 0 yX3_init 0 [some (Rv 41), some (Iv 40)] [] M Q := by
  refine wp_aload_n dX3_init_0 rfl (by decide) ?_
  refine wp_objInit dX3_init_1 (ml_X3_3 rfl) (by decide) (Nat.le_of_ble_eq_true rfl) (by decide) ?_
  refine wp_aload_n dX3_init_4 rfl (by decide) ?_
  refine wp_iconst dX3_init_5 ?_
  refine wp_putf (x := (-1)) dX3_init_6 (fl_X3_9 rfl) rfl (fun h => absurd h (by decide)) rfl rfl trivial ?_
  refine wp_aload_n dX3_init_9 rfl (by decide) ?_
  refine wp_iload_n dX3_init_10 rfl ?_
  refine wp_newI (n := 40) dX3_init_11 (by decide) rfl (by decide) ⟨Nat.le_of_ble_eq_true rfl, Nat.le_of_ble_eq_true rfl⟩ ?_
  refine wp_putF (x := 42) dX3_init_13 (fl_X3_15 rfl) rfl (fun h => absurd h (by decide)) rfl rfl rfl rfl trivial ?_
  exact wp_vret dX3_init_16 rfl (Or.inl ⟨Nat.le_of_ble_eq_true rfl, Nat.le_of_ble_eq_true rfl⟩) rfl h
theorem kX3_init_41 {M : Mem} {Q : Vl → Mem → Prop} (h : Q (Iv 0) (mkX3_init_41 M)) : CL 0 42 43 (some (1, 40)) yX3_init [Rv 41, Iv 40] M Q := enterG (by decide +kernel) (by exact Or.inl rfl) (Nat.le_of_ble_eq_true rfl) rfl (wkX3_init_41 h)
def mkX3_init_43 (M : Mem) : Mem := (up (setA (up M 43 1 (-1)) 44 (fun _ => 0)) 43 0 44)
theorem wkX3_init_43 {M : Mem} {Q : Vl → Mem → Prop} (h : Q (Iv 0) (mkX3_init_43 M)) : WPg 0 44 45 (some (1, 40)) 0 0 yX3_init 0 [some (Rv 43), some (Iv 40)] [] M Q := by
  refine wp_aload_n dX3_init_0 rfl (by decide) ?_
  refine wp_objInit dX3_init_1 (ml_X3_3 rfl) (by decide) (Nat.le_of_ble_eq_true rfl) (by decide) ?_
  refine wp_aload_n dX3_init_4 rfl (by decide) ?_
  refine wp_iconst dX3_init_5 ?_
  refine wp_putf (x := (-1)) dX3_init_6 (fl_X3_9 rfl) rfl (fun h => absurd h (by decide)) rfl rfl trivial ?_
  refine wp_aload_n dX3_init_9 rfl (by decide) ?_
  refine wp_iload_n dX3_init_10 rfl ?_
  refine wp_newI (n := 40) dX3_init_11 (by decide) rfl (by decide) ⟨Nat.le_of_ble_eq_true rfl, Nat.le_of_ble_eq_true rfl⟩ ?_
  refine wp_putF (x := 44) dX3_init_13 (fl_X3_15 rfl) rfl (fun h => absurd h (by decide)) rfl rfl rfl rfl trivial ?_
  exact wp_vret dX3_init_16 rfl (Or.inl ⟨Nat.le_of_ble_eq_true rfl, Nat.le_of_ble_eq_true rfl⟩) rfl h
theorem kX3_init_43 {M : Mem} {Q : Vl → Mem → Prop} (h : Q (Iv 0) (mkX3_init_43 M)) : CL 0 44 45 (some (1, 40)) yX3_init [Rv 43, Iv 40] M Q := enterG (by decide +kernel) (by exact Or.inl rfl) (Nat.le_of_ble_eq_true rfl) rfl (wkX3_init_43 h)
def mkX3_init_45 (M : Mem) : Mem := (up (setA (up M 45 1 (-1)) 46 (fun _ => 0)) 45 0 46)
theorem wkX3_init_45 {M : Mem} {Q : Vl → Mem → Prop} (h : Q (Iv 0) (mkX3_init_45 M)) : WPg 0 46 47 (some (1, 40)) 0 0 yX3_init 0 [some (Rv 45), some (Iv 40)] [] M Q := by
  refine wp_aload_n dX3_init_0 rfl (by decide) ?_
  refine wp_objInit dX3_init_1 (ml_X3_3 rfl) (by decide) (Nat.le_of_ble_eq_true rfl) (by decide) ?_
  refine wp_aload_n dX3_init_4 rfl (by decide) ?_
  refine wp_iconst dX3_init_5 ?_
  refine wp_putf (x := (-1)) dX3_init_6 (fl_X3_9 rfl) rfl (fun h => absurd h (by decide)) rfl rfl trivial ?_
  refine wp_aload_n dX3_init_9 rfl (by decide) ?_
  refine wp_iload_n dX3_init_10 rfl ?_
  refine wp_newI (n := 40) dX3_init_11 (by decide) rfl (by decide) ⟨Nat.le_of_ble_eq_true rfl, Nat.le_of_ble_eq_true rfl⟩ ?_
  refine wp_putF (x := 46) dX3_init_13 (fl_X3_15 rfl) rfl (fun h => absurd h (by decide)) rfl rfl rfl rfl trivial ?_
  exact wp_vret dX3_init_16 rfl (Or.inl ⟨Nat.le_of_ble_eq_true rfl, Nat.le_of_ble_eq_true rfl⟩) rfl h
theorem kX3_init_45 {M : Mem} {Q : Vl → Mem → Prop} (h : Q (Iv 0) (mkX3_init_45 M)) : CL 0 46 47 (some (1, 40)) yX3_init [Rv 45, Iv 40] M Q := enterG (by decide +kernel) (by exact Or.inl rfl) (Nat.le_of_ble_eq_true rfl) rfl (wkX3_init_45 h)
def mkX3_init_47 (M : Mem) : Mem := (up (setA (up M 47 1 (-1)) 48 (fun _ => 0)) 47 0 48)
theorem wkX3_init_47 {M : Mem} {Q : Vl → Mem → Prop} (h : Q (Iv 0) (mkX3_init_47 M)) : WPg 0 48 49 (some (1, 60)) 0 0 yX3_init 0 [some (Rv 47), some (Iv 60)] [] M Q := by
  refine wp_aload_n dX3_init_0 rfl (by decide) ?_
  refine wp_objInit dX3_init_1 (ml_X3_3 rfl) (by decide) (Nat.le_of_ble_eq_true rfl) (by decide) ?_
  refine wp_aload_n dX3_init_4 rfl (by decide) ?_
  refine wp_iconst dX3_init_5 ?_
  refine wp_putf (x := (-1)) dX3_init_6 (fl_X3_9 rfl) rfl (fun h => absurd h (by decide)) rfl rfl trivial ?_
  refine wp_aload_n dX3_init_9 rfl (by decide) ?_
  refine wp_iload_n dX3_init_10 rfl ?_
  refine wp_newI (n := 60) dX3_init_11 (by decide) rfl (by decide) ⟨Nat.le_of_ble_eq_true rfl, Nat.le_of_ble_eq_true rfl⟩ ?_
  refine wp_putF (x := 48) dX3_init_13 (fl_X3_15 rfl) rfl (fun h => absurd h (by decide)) rfl rfl rfl rfl trivial ?_
  exact wp_vret dX3_init_16 rfl (Or.inl ⟨Nat.le_of_ble_eq_true rfl, Nat.le_of_ble_eq_true rfl⟩) rfl h
theorem kX3_init_47 {M : Mem} {Q : Vl → Mem → Prop} (h : Q (Iv 0) (mkX3_init_47 M)) : CL 0 48 49 (some (1, 60)) yX3_init [Rv 47, Iv 60] M Q := enterG (by decide +kernel) (by exact Or.inl rfl) (Nat.le_of_ble_eq_true rfl) rfl (wkX3_init_47 h)
def mkX3_init_49 (M : Mem) : Mem := (up (setA (up M 49 1 (-1)) 50 (fun _ => 0)) 49 0 50)
theorem wkX3_init_49 {M : Mem} {Q : Vl → Mem → Prop} (h : Q (Iv 0) (mkX3_init_49 M)) : WPg 0 50 51 (some (1, 60)) 0 0 yX3_init 0 [some (Rv 49), some (Iv 60)] [] M Q := by
  refine wp_aload_n dX3_init_0 rfl (by decide) ?_
  refine wp_objInit dX3_init_1 (ml_X3_3 rfl) (by decide) (Nat.le_of_ble_eq_true rfl) (by decide) ?_
  refine wp_aload_n dX3_init_4 rfl (by decide) ?_
  refine wp_iconst dX3_init_5 ?_
  refine wp_putf (x := (-1)) dX3_init_6 (fl_X3_9 rfl) rfl (fun h => absurd h (by decide)) rfl rfl trivial ?_
  refine wp_aload_n dX3_init_9 rfl (by decide) ?_
  refine wp_iload_n dX3_init_10 rfl ?_
  refine wp_newI (n := 60) dX3_init_11 (by decide) rfl (by decide) ⟨Nat.le_of_ble_eq_true rfl, Nat.le_of_ble_eq_true rfl⟩ ?_
  refine wp_putF (x := 50) dX3_init_13 (fl_X3_15 rfl) rfl (fun h => absurd h (by decide)) rfl rfl rfl rfl trivial ?_
  exact wp_vret dX3_init_16 rfl (Or.inl ⟨Nat.le_of_ble_eq_true rfl, Nat.le_of_ble_eq_true rfl⟩) rfl h
theorem kX3_init_49 {M : Mem} {Q : Vl → Mem → Prop} (h : Q (Iv 0) (mkX3_init_49 M)) : CL 0 50 51 (some (1, 60)) yX3_init [Rv 49, Iv 60] M Q := enterG (by decide +kernel) (by exact Or.inl rfl) (Nat.le_of_ble_eq_true rfl) rfl (wkX3_init_49 h)
def mkX3_init_51 (M : Mem) : Mem := (up (setA (up M 51 1 (-1)) 52 (fun _ => 0)) 51 0 52)
theorem wkX3_init_51 {M : Mem} {Q : Vl → Mem → Prop} (h : Q (Iv 0) (mkX3_init_51 M)) : WPg 0 52 53 (some (1, 60)) 0 0 yX3_init 0 [some (Rv 51), some (Iv 60)] [] M Q := by
  refine wp_aload_n dX3_init_0 rfl (by decide) ?_
  refine wp_objInit dX3_init_1 (ml_X3_3 rfl) (by decide) (Nat.le_of_ble_eq_true rfl) (by decide) ?_
  refine wp_aload_n dX3_init_4 rfl (by decide) ?_
  refine wp_iconst dX3_init_5 ?_
  refine wp_putf (x := (-1)) dX3_init_6 (fl_X3_9 rfl) rfl (fun h => absurd h (by decide)) rfl rfl trivial ?_
  refine wp_aload_n dX3_init_9 rfl (by decide) ?_
  refine wp_iload_n dX3_init_10 rfl ?_
  refine wp_newI (n := 60) dX3_init_11 (by decide) rfl (by decide) ⟨Nat.le_of_ble_eq_true rfl, Nat.le_of_ble_eq_true rfl⟩ ?_
  refine wp_putF (x := 52) dX3_init_13 (fl_X3_15 rfl) rfl (fun h => absurd h (by decide)) rfl rfl rfl rfl trivial ?_
  exact wp_vret dX3_init_16 rfl (Or.inl ⟨Nat.le_of_ble_eq_true rfl, Nat.le_of_ble_eq_true rfl⟩) rfl h
theorem kX3_init_51 {M : Mem} {Q : Vl → Mem → Prop} (h : Q (Iv 0) (mkX3_init_51 M)) : CL 0 52 53 (some (1, 60)) yX3_init [Rv 51, Iv 60] M Q := enterG (by decide +kernel) (by exact Or.inl rfl) (Nat.le_of_ble_eq_true rfl) rfl (wkX3_init_51 h)
def mkX3_init_53 (M : Mem) : Mem := (up (setA (up M 53 1 (-1)) 54 (fun _ => 0)) 53 0 54)
theorem wkX3_init_53 {M : Mem} {Q : Vl → Mem → Prop} (h : Q (Iv 0) (mkX3_init_53 M)) : WPg 0 54 55 (some (1, 60)) 0 0 yX3_init 0 [some (Rv 53), some (Iv 60)] [] M Q := by
  refine wp_aload_n dX3_init_0 rfl (by decide) ?_
  refine wp_objInit dX3_init_1 (ml_X3_3 rfl) (by decide) (Nat.le_of_ble_eq_true rfl) (by decide) ?_
  refine wp_aload_n dX3_init_4 rfl (by decide) ?_
  refine wp_iconst dX3_init_5 ?_
  refine wp_putf (x := (-1)) dX3_init_6 (fl_X3_9 rfl) rfl (fun h => absurd h (by decide)) rfl rfl trivial ?_
  refine wp_aload_n dX3_init_9 rfl (by decide) ?_
  refine wp_iload_n dX3_init_10 rfl ?_
  refine wp_newI (n := 60) dX3_init_11 (by decide) rfl (by decide) ⟨Nat.le_of_ble_eq_true rfl, Nat.le_of_ble_eq_true rfl⟩ ?_
  refine wp_putF (x := 54) dX3_init_13 (fl_X3_15 rfl) rfl (fun h => absurd h (by decide)) rfl rfl rfl rfl trivial ?_
  exact wp_vret dX3_init_16 rfl (Or.inl ⟨Nat.le_of_ble_eq_true rfl, Nat.le_of_ble_eq_true rfl⟩) rfl h
theorem kX3_init_53 {M : Mem} {Q : Vl → Mem → Prop} (h : Q (Iv 0) (mkX3_init_53 M)) : CL 0 54 55 (some (1, 60)) yX3_init [Rv 53, Iv 60] M Q := enterG (by decide +kernel) (by exact Or.inl rfl) (Nat.le_of_ble_eq_true rfl) rfl (wkX3_init_53 h)
def mkX3_init_56 (M : Mem) : Mem := (up (setA (up M 56 1 (-1)) 57 (fun _ => 0)) 56 0 57)
theorem wkX3_init_56 {M : Mem} {Q : Vl → Mem → Prop} (h : Q (Iv 0) (mkX3_init_56 M)) : WPg 0 57 58 (some (1, 40)) 0 0 yX3_init 0 [some (Rv 56), some (Iv 40)] [] M Q := by
  refine wp_aload_n dX3_init_0 rfl (by decide) ?_
  refine wp_objInit dX3_init_1 (ml_X3_3 rfl) (by decide) (Nat.le_of_ble_eq_true rfl) (by decide) ?_
  refine wp_aload_n dX3_init_4 rfl (by decide) ?_
  refine wp_iconst dX3_init_5 ?_
  refine wp_putf (x := (-1)) dX3_init_6 (fl_X3_9 rfl) rfl (fun h => absurd h (by decide)) rfl rfl trivial ?_
  refine wp_aload_n dX3_init_9 rfl (by decide) ?_
  refine wp_iload_n dX3_init_10 rfl ?_
  refine wp_newI (n := 40) dX3_init_11 (by decide) rfl (by decide) ⟨Nat.le_of_ble_eq_true rfl, Nat.le_of_ble_eq_true rfl⟩ ?_
  refine wp_putF (x := 57) dX3_init_13 (fl_X3_15 rfl) rfl (fun h => absurd h (by decide)) rfl rfl rfl rfl trivial ?_
  exact wp_vret dX3_init_16 rfl (Or.inl ⟨Nat.le_of_ble_eq_true rfl, Nat.le_of_ble_eq_true rfl⟩) rfl h
theorem kX3_init_56 {M : Mem} {Q : Vl → Mem → Prop} (h : Q (Iv 0) (mkX3_init_56 M)) : CL 0 57 58 (some (1, 40)) yX3_init [Rv 56, Iv 40] M Q := enterG (by decide +kernel) (by exact Or.inl rfl) (Nat.le_of_ble_eq_true rfl) rfl (wkX3_init_56 h)
def mkX10_init_55 (M : Mem) : Mem := (up (mkX3_init_56 (setA M 56 (dfl 3))) 55 0 56)
theorem wkX10_init_55 {M : Mem} {Q : Vl → Mem → Prop} (h : Q (Iv 0) (mkX10_init_55 M)) : WPg 0 56 58 (some (2, 42)) 0 0 yX10_init 0 [some (Rv 55)] [] M Q := by
  refine wp_aload_n dX10_init_0 rfl (by decide) ?_
  refine wp_objInit dX10_init_1 (ml_X10_3 rfl) (by decide) (Nat.le_of_ble_eq_true rfl) (by decide) ?_
  refine wp_aload_n dX10_init_4 rfl (by decide) ?_
  refine wp_new (cl := 3) dX10_init_5 (by decide) (kl_X10_9 rfl) in_X3.1 in_X3.2 (by decide) rfl (okst_c _ (by decide)) ⟨Nat.le_of_ble_eq_true rfl, Nat.le_of_ble_eq_true rfl⟩ ?_
  refine wp_dup dX10_init_8 rfl ?_
  refine wp_bipush dX10_init_9 (by decide) ?_
  refine wp_callI (e1 := 0) (mc := 1) (ms := 40) (as := [Iv 40]) (S := [Rv 56, Rv 55]) (R2 := fun _ M2 => M2 = mkX3_init_56 _) dX10_init_11 (cs_X10_11 rfl) (by decide) rfl rfl (Nat.le_of_ble_eq_true rfl) (Nat.le_of_ble_eq_true rfl) ⟨Nat.le_of_ble_eq_true rfl, Nat.le_of_ble_eq_true rfl⟩ (kX3_init_56 rfl) (fun v M2 q => ?_)
  subst q
  refine wp_putF (x := 56) dX10_init_14 (fl_X10_14 rfl) rfl (fun h => absurd h (by decide)) rfl rfl rfl rfl trivial ?_
  exact wp_vret dX10_init_17 rfl (Or.inl ⟨Nat.le_of_ble_eq_true rfl, Nat.le_of_ble_eq_true rfl⟩) rfl h
theorem kX10_init_55 {M : Mem} {Q : Vl → Mem → Prop} (h : Q (Iv 0) (mkX10_init_55 M)) : CL 0 56 58 (some (2, 42)) yX10_init [Rv 55] M Q := enterG (by decide +kernel) (by exact Or.inl rfl) (Nat.le_of_ble_eq_true rfl) rfl (wkX10_init_55 h)
def mkX3_init_59 (M : Mem) : Mem := (up (setA (up M 59 1 (-1)) 60 (fun _ => 0)) 59 0 60)
theorem wkX3_init_59 {M : Mem} {Q : Vl → Mem → Prop} (h : Q (Iv 0) (mkX3_init_59 M)) : WPg 0 60 61 (some (1, 40)) 0 0 yX3_init 0 [some (Rv 59), some (Iv 40)] [] M Q := by
  refine wp_aload_n dX3_init_0 rfl (by decide) ?_
  refine wp_objInit dX3_init_1 (ml_X3_3 rfl) (by decide) (Nat.le_of_ble_eq_true rfl) (by decide) ?_
  refine wp_aload_n dX3_init_4 rfl (by decide) ?_
  refine wp_iconst dX3_init_5 ?_
  refine wp_putf (x := (-1)) dX3_init_6 (fl_X3_9 rfl) rfl (fun h => absurd h (by decide)) rfl rfl trivial ?_
  refine wp_aload_n dX3_init_9 rfl (by decide) ?_
  refine wp_iload_n dX3_init_10 rfl ?_
  refine wp_newI (n := 40) dX3_init_11 (by decide) rfl (by decide) ⟨Nat.le_of_ble_eq_true rfl, Nat.le_of_ble_eq_true rfl⟩ ?_
  refine wp_putF (x := 60) dX3_init_13 (fl_X3_15 rfl) rfl (fun h => absurd h (by decide)) rfl rfl rfl rfl trivial ?_
  exact wp_vret dX3_init_16 rfl (Or.inl ⟨Nat.le_of_ble_eq_true rfl, Nat.le_of_ble_eq_true rfl⟩) rfl h
theorem kX3_init_59 {M : Mem} {Q : Vl → Mem → Prop} (h : Q (Iv 0) (mkX3_init_59 M)) : CL 0 60 61 (some (1, 40)) yX3_init [Rv 59, Iv 40] M Q := enterG (by decide +kernel) (by exact Or.inl rfl) (Nat.le_of_ble_eq_true rfl) rfl (wkX3_init_59 h)
def mkX10_init_58 (M : Mem) : Mem := (up (mkX3_init_59 (setA M 59 (dfl 3))) 58 0 59)
theorem wkX10_init_58 {M : Mem} {Q : Vl → Mem → Prop} (h : Q (Iv 0) (mkX10_init_58 M)) : WPg 0 59 61 (some (2, 42)) 0 0 yX10_init 0 [some (Rv 58)] [] M Q := by
  refine wp_aload_n dX10_init_0 rfl (by decide) ?_
  refine wp_objInit dX10_init_1 (ml_X10_3 rfl) (by decide) (Nat.le_of_ble_eq_true rfl) (by decide) ?_
  refine wp_aload_n dX10_init_4 rfl (by decide) ?_
  refine wp_new (cl := 3) dX10_init_5 (by decide) (kl_X10_9 rfl) in_X3.1 in_X3.2 (by decide) rfl (okst_c _ (by decide)) ⟨Nat.le_of_ble_eq_true rfl, Nat.le_of_ble_eq_true rfl⟩ ?_
  refine wp_dup dX10_init_8 rfl ?_
  refine wp_bipush dX10_init_9 (by decide) ?_
  refine wp_callI (e1 := 0) (mc := 1) (ms := 40) (as := [Iv 40]) (S := [Rv 59, Rv 58]) (R2 := fun _ M2 => M2 = mkX3_init_59 _) dX10_init_11 (cs_X10_11 rfl) (by decide) rfl rfl (Nat.le_of_ble_eq_true rfl) (Nat.le_of_ble_eq_true rfl) ⟨Nat.le_of_ble_eq_true rfl, Nat.le_of_ble_eq_true rfl⟩ (kX3_init_59 rfl) (fun v M2 q => ?_)
  subst q
  refine wp_putF (x := 59) dX10_init_14 (fl_X10_14 rfl) rfl (fun h => absurd h (by decide)) rfl rfl rfl rfl trivial ?_
  exact wp_vret dX10_init_17 rfl (Or.inl ⟨Nat.le_of_ble_eq_true rfl, Nat.le_of_ble_eq_true rfl⟩) rfl h
theorem kX10_init_58 {M : Mem} {Q : Vl → Mem → Prop} (h : Q (Iv 0) (mkX10_init_58 M)) : CL 0 59 61 (some (2, 42)) yX10_init [Rv 58] M Q := enterG (by decide +kernel) (by exact Or.inl rfl) (Nat.le_of_ble_eq_true rfl) rfl (wkX10_init_58 h)
def mkX3_init_62 (M : Mem) : Mem := (up (setA (up M 62 1 (-1)) 63 (fun _ => 0)) 62 0 63)
theorem wkX3_init_62 {M : Mem} {Q : Vl → Mem → Prop} (h : Q (Iv 0) (mkX3_init_62 M)) : WPg 0 63 64 (some (1, 40)) 0 0 yX3_init 0 [some (Rv 62), some (Iv 40)] [] M Q := by
  refine wp_aload_n dX3_init_0 rfl (by decide) ?_
  refine wp_objInit dX3_init_1 (ml_X3_3 rfl) (by decide) (Nat.le_of_ble_eq_true rfl) (by decide) ?_
  refine wp_aload_n dX3_init_4 rfl (by decide) ?_
  refine wp_iconst dX3_init_5 ?_
  refine wp_putf (x := (-1)) dX3_init_6 (fl_X3_9 rfl) rfl (fun h => absurd h (by decide)) rfl rfl trivial ?_
  refine wp_aload_n dX3_init_9 rfl (by decide) ?_
  refine wp_iload_n dX3_init_10 rfl ?_
  refine wp_newI (n := 40) dX3_init_11 (by decide) rfl (by decide) ⟨Nat.le_of_ble_eq_true rfl, Nat.le_of_ble_eq_true rfl⟩ ?_
  refine wp_putF (x := 63) dX3_init_13 (fl_X3_15 rfl) rfl (fun h => absurd h (by decide)) rfl rfl rfl rfl trivial ?_
  exact wp_vret dX3_init_16 rfl (Or.inl ⟨Nat.le_of_ble_eq_true rfl, Nat.le_of_ble_eq_true rfl⟩) rfl h
theorem kX3_init_62 {M : Mem} {Q : Vl → Mem → Prop} (h : Q (Iv 0) (mkX3_init_62 M)) : CL 0 63 64 (some (1, 40)) yX3_init [Rv 62, Iv 40] M Q := enterG (by decide +kernel) (by exact Or.inl rfl) (Nat.le_of_ble_eq_true rfl) rfl (wkX3_init_62 h)
def mkX10_init_61 (M : Mem) : Mem := (up (mkX3_init_62 (setA M 62 (dfl 3))) 61 0 62)
theorem wkX10_init_61 {M : Mem} {Q : Vl → Mem → Prop} (h : Q (Iv 0) (mkX10_init_61 M)) : WPg 0 62 64 (some (2, 42)) 0 0 yX10_init 0 [some (Rv 61)] [] M Q := by
  refine wp_aload_n dX10_init_0 rfl (by decide) ?_
  refine wp_objInit dX10_init_1 (ml_X10_3 rfl) (by decide) (Nat.le_of_ble_eq_true rfl) (by decide) ?_
  refine wp_aload_n dX10_init_4 rfl (by decide) ?_
  refine wp_new (cl := 3) dX10_init_5 (by decide) (kl_X10_9 rfl) in_X3.1 in_X3.2 (by decide) rfl (okst_c _ (by decide)) ⟨Nat.le_of_ble_eq_true rfl, Nat.le_of_ble_eq_true rfl⟩ ?_
  refine wp_dup dX10_init_8 rfl ?_
  refine wp_bipush dX10_init_9 (by decide) ?_
  refine wp_callI (e1 := 0) (mc := 1) (ms := 40) (as := [Iv 40]) (S := [Rv 62, Rv 61]) (R2 := fun _ M2 => M2 = mkX3_init_62 _) dX10_init_11 (cs_X10_11 rfl) (by decide) rfl rfl (Nat.le_of_ble_eq_true rfl) (Nat.le_of_ble_eq_true rfl) ⟨Nat.le_of_ble_eq_true rfl, Nat.le_of_ble_eq_true rfl⟩ (kX3_init_62 rfl) (fun v M2 q => ?_)
  subst q
  refine wp_putF (x := 62) dX10_init_14 (fl_X10_14 rfl) rfl (fun h => absurd h (by decide)) rfl rfl rfl rfl trivial ?_
  exact wp_vret dX10_init_17 rfl (Or.inl ⟨Nat.le_of_ble_eq_true rfl, Nat.le_of_ble_eq_true rfl⟩) rfl h
theorem kX10_init_61 {M : Mem} {Q : Vl → Mem → Prop} (h : Q (Iv 0) (mkX10_init_61 M)) : CL 0 62 64 (some (2, 42)) yX10_init [Rv 61] M Q := enterG (by decide +kernel) (by exact Or.inl rfl) (Nat.le_of_ble_eq_true rfl) rfl (wkX10_init_61 h)
def mkX3_init_65 (M : Mem) : Mem := (up (setA (up M 65 1 (-1)) 66 (fun _ => 0)) 65 0 66)
theorem wkX3_init_65 {M : Mem} {Q : Vl → Mem → Prop} (h : Q (Iv 0) (mkX3_init_65 M)) : WPg 0 66 67 (some (1, 40)) 0 0 yX3_init 0 [some (Rv 65), some (Iv 40)] [] M Q := by
  refine wp_aload_n dX3_init_0 rfl (by decide) ?_
  refine wp_objInit dX3_init_1 (ml_X3_3 rfl) (by decide) (Nat.le_of_ble_eq_true rfl) (by decide) ?_
  refine wp_aload_n dX3_init_4 rfl (by decide) ?_
  refine wp_iconst dX3_init_5 ?_
  refine wp_putf (x := (-1)) dX3_init_6 (fl_X3_9 rfl) rfl (fun h => absurd h (by decide)) rfl rfl trivial ?_
  refine wp_aload_n dX3_init_9 rfl (by decide) ?_
  refine wp_iload_n dX3_init_10 rfl ?_
  refine wp_newI (n := 40) dX3_init_11 (by decide) rfl (by decide) ⟨Nat.le_of_ble_eq_true rfl, Nat.le_of_ble_eq_true rfl⟩ ?_
  refine wp_putF (x := 66) dX3_init_13 (fl_X3_15 rfl) rfl (fun h => absurd h (by decide)) rfl rfl rfl rfl trivial ?_
  exact wp_vret dX3_init_16 rfl (Or.inl ⟨Nat.le_of_ble_eq_true rfl, Nat.le_of_ble_eq_true rfl⟩) rfl h
theorem kX3_init_65 {M : Mem} {Q : Vl → Mem → Prop} (h : Q (Iv 0) (mkX3_init_65 M)) : CL 0 66 67 (some (1, 40)) yX3_init [Rv 65, Iv 40] M Q := enterG (by decide +kernel) (by exact Or.inl rfl) (Nat.le_of_ble_eq_true rfl) rfl (wkX3_init_65 h)
def mkX10_init_64 (M : Mem) : Mem := (up (mkX3_init_65 (setA M 65 (dfl 3))) 64 0 65)
theorem wkX10_init_64 {M : Mem} {Q : Vl → Mem → Prop} (h : Q (Iv 0) (mkX10_init_64 M)) : WPg 0 65 67 (some (2, 42)) 0 0 yX10_init 0 [some (Rv 64)] [] M Q := by
  refine wp_aload_n dX10_init_0 rfl (by decide) ?_
  refine wp_objInit dX10_init_1 (ml_X10_3 rfl) (by decide) (Nat.le_of_ble_eq_true rfl) (by decide) ?_
  refine wp_aload_n dX10_init_4 rfl (by decide) ?_
  refine wp_new (cl := 3) dX10_init_5 (by decide) (kl_X10_9 rfl) in_X3.1 in_X3.2 (by decide) rfl (okst_c _ (by decide)) ⟨Nat.le_of_ble_eq_true rfl, Nat.le_of_ble_eq_true rfl⟩ ?_
  refine wp_dup dX10_init_8 rfl ?_
  refine wp_bipush dX10_init_9 (by decide) ?_
  refine wp_callI (e1 := 0) (mc := 1) (ms := 40) (as := [Iv 40]) (S := [Rv 65, Rv 64]) (R2 := fun _ M2 => M2 = mkX3_init_65 _) dX10_init_11 (cs_X10_11 rfl) (by decide) rfl rfl (Nat.le_of_ble_eq_true rfl) (Nat.le_of_ble_eq_true rfl) ⟨Nat.le_of_ble_eq_true rfl, Nat.le_of_ble_eq_true rfl⟩ (kX3_init_65 rfl) (fun v M2 q => ?_)
  subst q
  refine wp_putF (x := 65) dX10_init_14 (fl_X10_14 rfl) rfl (fun h => absurd h (by decide)) rfl rfl rfl rfl trivial ?_
  exact wp_vret dX10_init_17 rfl (Or.inl ⟨Nat.le_of_ble_eq_true rfl, Nat.le_of_ble_eq_true rfl⟩) rfl h
theorem kX10_init_64 {M : Mem} {Q : Vl → Mem → Prop} (h : Q (Iv 0) (mkX10_init_64 M)) : CL 0 65 67 (some (2, 42)) yX10_init [Rv 64] M Q := enterG (by decide +kernel) (by exact Or.inl rfl) (Nat.le_of_ble_eq_true rfl) rfl (wkX10_init_64 h)
def mkX3_init_68 (M : Mem) : Mem := (up (setA (up M 68 1 (-1)) 69 (fun _ => 0)) 68 0 69)
theorem wkX3_init_68 {M : Mem} {Q : Vl → Mem → Prop} (h : Q (Iv 0) (mkX3_init_68 M)) : WPg 0 69 70 (some (1, 40)) 0 0 yX3_init 0 [some (Rv 68), some (Iv 40)] [] M Q := by
  refine wp_aload_n dX3_init_0 rfl (by decide) ?_
  refine wp_objInit dX3_init_1 (ml_X3_3 rfl) (by decide) (Nat.le_of_ble_eq_true rfl) (by decide) ?_
  refine wp_aload_n dX3_init_4 rfl (by decide) ?_
  refine wp_iconst dX3_init_5 ?_
  refine wp_putf (x := (-1)) dX3_init_6 (fl_X3_9 rfl) rfl (fun h => absurd h (by decide)) rfl rfl trivial ?_
  refine wp_aload_n dX3_init_9 rfl (by decide) ?_
  refine wp_iload_n dX3_init_10 rfl ?_
  refine wp_newI (n := 40) dX3_init_11 (by decide) rfl (by decide) ⟨Nat.le_of_ble_eq_true rfl, Nat.le_of_ble_eq_true rfl⟩ ?_
  refine wp_putF (x := 69) dX3_init_13 (fl_X3_15 rfl) rfl (fun h => absurd h (by decide)) rfl rfl rfl rfl trivial ?_
  exact wp_vret dX3_init_16 rfl (Or.inl ⟨Nat.le_of_ble_eq_true rfl, Nat.le_of_ble_eq_true rfl⟩) rfl h
theorem kX3_init_68 {M : Mem} {Q : Vl → Mem → Prop} (h : Q (Iv 0) (mkX3_init_68 M)) : CL 0 69 70 (some (1, 40)) yX3_init [Rv 68, Iv 40] M Q := enterG (by decide +kernel) (by exact Or.inl rfl) (Nat.le_of_ble_eq_true rfl) rfl (wkX3_init_68 h)
def mkX10_init_67 (M : Mem) : Mem := (up (mkX3_init_68 (setA M 68 (dfl 3))) 67 0 68)
theorem wkX10_init_67 {M : Mem} {Q : Vl → Mem → Prop} (h : Q (Iv 0) (mkX10_init_67 M)) : WPg 0 68 70 (some (2, 42)) 0 0 yX10_init 0 [some (Rv 67)] [] M Q := by
  refine wp_aload_n dX10_init_0 rfl (by decide) ?_
  refine wp_objInit dX10_init_1 (ml_X10_3 rfl) (by decide) (Nat.le_of_ble_eq_true rfl) (by decide) ?_
  refine wp_aload_n dX10_init_4 rfl (by decide) ?_
  refine wp_new (cl := 3) dX10_init_5 (by decide) (kl_X10_9 rfl) in_X3.1 in_X3.2 (by decide) rfl (okst_c _ (by decide)) ⟨Nat.le_of_ble_eq_true rfl, Nat.le_of_ble_eq_true rfl⟩ ?_
  refine wp_dup dX10_init_8 rfl ?_
  refine wp_bipush dX10_init_9 (by decide) ?_
  refine wp_callI (e1 := 0) (mc := 1) (ms := 40) (as := [Iv 40]) (S := [Rv 68, Rv 67]) (R2 := fun _ M2 => M2 = mkX3_init_68 _) dX10_init_11 (cs_X10_11 rfl) (by decide) rfl rfl (Nat.le_of_ble_eq_true rfl) (Nat.le_of_ble_eq_true rfl) ⟨Nat.le_of_ble_eq_true rfl, Nat.le_of_ble_eq_true rfl⟩ (kX3_init_68 rfl) (fun v M2 q => ?_)
  subst q
  refine wp_putF (x := 68) dX10_init_14 (fl_X10_14 rfl) rfl (fun h => absurd h (by decide)) rfl rfl rfl rfl trivial ?_
  exact wp_vret dX10_init_17 rfl (Or.inl ⟨Nat.le_of_ble_eq_true rfl, Nat.le_of_ble_eq_true rfl⟩) rfl h
theorem kX10_init_67 {M : Mem} {Q : Vl → Mem → Prop} (h : Q (Iv 0) (mkX10_init_67 M)) : CL 0 68 70 (some (2, 42)) yX10_init [Rv 67] M Q := enterG (by decide +kernel) (by exact Or.inl rfl) (Nat.le_of_ble_eq_true rfl) rfl (wkX10_init_67 h)
def mkX3_init_71 (M : Mem) : Mem := (up (setA (up M 71 1 (-1)) 72 (fun _ => 0)) 71 0 72)
theorem wkX3_init_71 {M : Mem} {Q : Vl → Mem → Prop} (h : Q (Iv 0) (mkX3_init_71 M)) : WPg 0 72 73 (some (1, 40)) 0 0 yX3_init 0 [some (Rv 71), some (Iv 40)] [] M Q := by
  refine wp_aload_n dX3_init_0 rfl (by decide) ?_
  refine wp_objInit dX3_init_1 (ml_X3_3 rfl) (by decide) (Nat.le_of_ble_eq_true rfl) (by decide) ?_
  refine wp_aload_n dX3_init_4 rfl (by decide) ?_
  refine wp_iconst dX3_init_5 ?_
  refine wp_putf (x := (-1)) dX3_init_6 (fl_X3_9 rfl) rfl (fun h => absurd h (by decide)) rfl rfl trivial ?_
  refine wp_aload_n dX3_init_9 rfl (by decide) ?_
  refine wp_iload_n dX3_init_10 rfl ?_
  refine wp_newI (n := 40) dX3_init_11 (by decide) rfl (by decide) ⟨Nat.le_of_ble_eq_true rfl, Nat.le_of_ble_eq_true rfl⟩ ?_
  refine wp_putF (x := 72) dX3_init_13 (fl_X3_15 rfl) rfl (fun h => absurd h (by decide)) rfl rfl rfl rfl trivial ?_
  exact wp_vret dX3_init_16 rfl (Or.inl ⟨Nat.le_of_ble_eq_true rfl, Nat.le_of_ble_eq_true rfl⟩) rfl h
theorem kX3_init_71 {M : Mem} {Q : Vl → Mem → Prop} (h : Q (Iv 0) (mkX3_init_71 M)) : CL 0 72 73 (some (1, 40)) yX3_init [Rv 71, Iv 40] M Q := enterG (by decide +kernel) (by exact Or.inl rfl) (Nat.le_of_ble_eq_true rfl) rfl (wkX3_init_71 h)
def mkX10_init_70 (M : Mem) : Mem := (up (mkX3_init_71 (setA M 71 (dfl 3))) 70 0 71)
theorem wkX10_init_70 {M : Mem} {Q : Vl → Mem → Prop} (h : Q (Iv 0) (mkX10_init_70 M)) : WPg 0 71 73 (some (2, 42)) 0 0 yX10_init 0 [some (Rv 70)] [] M Q := by
  refine wp_aload_n dX10_init_0 rfl (by decide) ?_
  refine wp_objInit dX10_init_1 (ml_X10_3 rfl) (by decide) (Nat.le_of_ble_eq_true rfl) (by decide) ?_
  refine wp_aload_n dX10_init_4 rfl (by decide) ?_
  refine wp_new (cl := 3) dX10_init_5 (by decide) (kl_X10_9 rfl) in_X3.1 in_X3.2 (by decide) rfl (okst_c _ (by decide)) ⟨Nat.le_of_ble_eq_true rfl, Nat.le_of_ble_eq_true rfl⟩ ?_
  refine wp_dup dX10_init_8 rfl ?_
  refine wp_bipush dX10_init_9 (by decide) ?_
  refine wp_callI (e1 := 0) (mc := 1) (ms := 40) (as := [Iv 40]) (S := [Rv 71, Rv 70]) (R2 := fun _ M2 => M2 = mkX3_init_71 _) dX10_init_11 (cs_X10_11 rfl) (by decide) rfl rfl (Nat.le_of_ble_eq_true rfl) (Nat.le_of_ble_eq_true rfl) ⟨Nat.le_of_ble_eq_true rfl, Nat.le_of_ble_eq_true rfl⟩ (kX3_init_71 rfl) (fun v M2 q => ?_)
  subst q
  refine wp_putF (x := 71) dX10_init_14 (fl_X10_14 rfl) rfl (fun h => absurd h (by decide)) rfl rfl rfl rfl trivial ?_
  exact wp_vret dX10_init_17 rfl (Or.inl ⟨Nat.le_of_ble_eq_true rfl, Nat.le_of_ble_eq_true rfl⟩) rfl h
theorem kX10_init_70 {M : Mem} {Q : Vl → Mem → Prop} (h : Q (Iv 0) (mkX10_init_70 M)) : CL 0 71 73 (some (2, 42)) yX10_init [Rv 70] M Q := enterG (by decide +kernel) (by exact Or.inl rfl) (Nat.le_of_ble_eq_true rfl) rfl (wkX10_init_70 h)
def mkX3_init_74 (M : Mem) : Mem := (up (setA (up M 74 1 (-1)) 75 (fun _ => 0)) 74 0 75)
theorem wkX3_init_74 {M : Mem} {Q : Vl → Mem → Prop} (h : Q (Iv 0) (mkX3_init_74 M)) : WPg 0 75 76 (some (1, 40)) 0 0 yX3_init 0 [some (Rv 74), some (Iv 40)] [] M Q := by
  refine wp_aload_n dX3_init_0 rfl (by decide) ?_
  refine wp_objInit dX3_init_1 (ml_X3_3 rfl) (by decide) (Nat.le_of_ble_eq_true rfl) (by decide) ?_
  refine wp_aload_n dX3_init_4 rfl (by decide) ?_
  refine wp_iconst dX3_init_5 ?_
  refine wp_putf (x := (-1)) dX3_init_6 (fl_X3_9 rfl) rfl (fun h => absurd h (by decide)) rfl rfl trivial ?_
  refine wp_aload_n dX3_init_9 rfl (by decide) ?_
  refine wp_iload_n dX3_init_10 rfl ?_
  refine wp_newI (n := 40) dX3_init_11 (by decide) rfl (by decide) ⟨Nat.le_of_ble_eq_true rfl, Nat.le_of_ble_eq_true rfl⟩ ?_
  refine wp_putF (x := 75) dX3_init_13 (fl_X3_15 rfl) rfl (fun h => absurd h (by decide)) rfl rfl rfl rfl trivial ?_
  exact wp_vret dX3_init_16 rfl (Or.inl ⟨Nat.le_of_ble_eq_true rfl, Nat.le_of_ble_eq_true rfl⟩) rfl h
theorem kX3_init_74 {M : Mem} {Q : Vl → Mem → Prop} (h : Q (Iv 0) (mkX3_init_74 M)) : CL 0 75 76 (some (1, 40)) yX3_init [Rv 74, Iv 40] M Q := enterG (by decide +kernel) (by exact Or.inl rfl) (Nat.le_of_ble_eq_true rfl) rfl (wkX3_init_74 h)
def mkX10_init_73 (M : Mem) : Mem := (up (mkX3_init_74 (setA M 74 (dfl 3))) 73 0 74)
theorem wkX10_init_73 {M : Mem} {Q : Vl → Mem → Prop} (h : Q (Iv 0) (mkX10_init_73 M)) : WPg 0 74 76 (some (2, 42)) 0 0 yX10_init 0 [some (Rv 73)] [] M Q := by
  refine wp_aload_n dX10_init_0 rfl (by decide) ?_
  refine wp_objInit dX10_init_1 (ml_X10_3 rfl) (by decide) (Nat.le_of_ble_eq_true rfl) (by decide) ?_
  refine wp_aload_n dX10_init_4 rfl (by decide) ?_
  refine wp_new (cl := 3) dX10_init_5 (by decide) (kl_X10_9 rfl) in_X3.1 in_X3.2 (by decide) rfl (okst_c _ (by decide)) ⟨Nat.le_of_ble_eq_true rfl, Nat.le_of_ble_eq_true rfl⟩ ?_
  refine wp_dup dX10_init_8 rfl ?_
  refine wp_bipush dX10_init_9 (by decide) ?_
  refine wp_callI (e1 := 0) (mc := 1) (ms := 40) (as := [Iv 40]) (S := [Rv 74, Rv 73]) (R2 := fun _ M2 => M2 = mkX3_init_74 _) dX10_init_11 (cs_X10_11 rfl) (by decide) rfl rfl (Nat.le_of_ble_eq_true rfl) (Nat.le_of_ble_eq_true rfl) ⟨Nat.le_of_ble_eq_true rfl, Nat.le_of_ble_eq_true rfl⟩ (kX3_init_74 rfl) (fun v M2 q => ?_)
  subst q
  refine wp_putF (x := 74) dX10_init_14 (fl_X10_14 rfl) rfl (fun h => absurd h (by decide)) rfl rfl rfl rfl trivial ?_
  exact wp_vret dX10_init_17 rfl (Or.inl ⟨Nat.le_of_ble_eq_true rfl, Nat.le_of_ble_eq_true rfl⟩) rfl h
theorem kX10_init_73 {M : Mem} {Q : Vl → Mem → Prop} (h : Q (Iv 0) (mkX10_init_73 M)) : CL 0 74 76 (some (2, 42)) yX10_init [Rv 73] M Q := enterG (by decide +kernel) (by exact Or.inl rfl) (Nat.le_of_ble_eq_true rfl) rfl (wkX10_init_73 h)
def mkX3_init_77 (M : Mem) : Mem := (up (setA (up M 77 1 (-1)) 78 (fun _ => 0)) 77 0 78)
theorem wkX3_init_77 {M : Mem} {Q : Vl → Mem → Prop} (h : Q (Iv 0) (mkX3_init_77 M)) : WPg 0 78 79 (some (1, 40)) 0 0 yX3_init 0 [some (Rv 77), some (Iv 40)] [] M Q := by
  refine wp_aload_n dX3_init_0 rfl (by decide) ?_
  refine wp_objInit dX3_init_1 (ml_X3_3 rfl) (by decide) (Nat.le_of_ble_eq_true rfl) (by decide) ?_
  refine wp_aload_n dX3_init_4 rfl (by decide) ?_
  refine wp_iconst dX3_init_5 ?_
  refine wp_putf (x := (-1)) dX3_init_6 (fl_X3_9 rfl) rfl (fun h => absurd h (by decide)) rfl rfl trivial ?_
  refine wp_aload_n dX3_init_9 rfl (by decide) ?_
  refine wp_iload_n dX3_init_10 rfl ?_
  refine wp_newI (n := 40) dX3_init_11 (by decide) rfl (by decide) ⟨Nat.le_of_ble_eq_true rfl, Nat.le_of_ble_eq_true rfl⟩ ?_
  refine wp_putF (x := 78) dX3_init_13 (fl_X3_15 rfl) rfl (fun h => absurd h (by decide)) rfl rfl rfl rfl trivial ?_
  exact wp_vret dX3_init_16 rfl (Or.inl ⟨Nat.le_of_ble_eq_true rfl, Nat.le_of_ble_eq_true rfl⟩) rfl h
theorem kX3_init_77 {M : Mem} {Q : Vl → Mem → Prop} (h : Q (Iv 0) (mkX3_init_77 M)) : CL 0 78 79 (some (1, 40)) yX3_init [Rv 77, Iv 40] M Q := enterG (by decide +kernel) (by exact Or.inl rfl) (Nat.le_of_ble_eq_true rfl) rfl (wkX3_init_77 h)
def mkX10_init_76 (M : Mem) : Mem := (up (mkX3_init_77 (setA M 77 (dfl 3))) 76 0 77)
theorem wkX10_init_76 {M : Mem} {Q : Vl → Mem → Prop} (h : Q (Iv 0) (mkX10_init_76 M)) : WPg 0 77 79 (some (2, 42)) 0 0 yX10_init 0 [some (Rv 76)] [] M Q := by
  refine wp_aload_n dX10_init_0 rfl (by decide) ?_
  refine wp_objInit dX10_init_1 (ml_X10_3 rfl) (by decide) (Nat.le_of_ble_eq_true rfl) (by decide) ?_
  refine wp_aload_n dX10_init_4 rfl (by decide) ?_
  refine wp_new (cl := 3) dX10_init_5 (by decide) (kl_X10_9 rfl) in_X3.1 in_X3.2 (by decide) rfl (okst_c _ (by decide)) ⟨Nat.le_of_ble_eq_true rfl, Nat.le_of_ble_eq_true rfl⟩ ?_
  refine wp_dup dX10_init_8 rfl ?_
  refine wp_bipush dX10_init_9 (by decide) ?_
  refine wp_callI (e1 := 0) (mc := 1) (ms := 40) (as := [Iv 40]) (S := [Rv 77, Rv 76]) (R2 := fun _ M2 => M2 = mkX3_init_77 _) dX10_init_11 (cs_X10_11 rfl) (by decide) rfl rfl (Nat.le_of_ble_eq_true rfl) (Nat.le_of_ble_eq_true rfl) ⟨Nat.le_of_ble_eq_true rfl, Nat.le_of_ble_eq_true rfl⟩ (kX3_init_77 rfl) (fun v M2 q => ?_)
  subst q
  refine wp_putF (x := 77) dX10_init_14 (fl_X10_14 rfl) rfl (fun h => absurd h (by decide)) rfl rfl rfl rfl trivial ?_
  exact wp_vret dX10_init_17 rfl (Or.inl ⟨Nat.le_of_ble_eq_true rfl, Nat.le_of_ble_eq_true rfl⟩) rfl h
theorem kX10_init_76 {M : Mem} {Q : Vl → Mem → Prop} (h : Q (Iv 0) (mkX10_init_76 M)) : CL 0 77 79 (some (2, 42)) yX10_init [Rv 76] M Q := enterG (by decide +kernel) (by exact Or.inl rfl) (Nat.le_of_ble_eq_true rfl) rfl (wkX10_init_76 h)
def mkX8_init_81 (M : Mem) : Mem := (up (setA M 82 (fun _ => 0)) 81 0 82)
theorem wkX8_init_81 {M : Mem} {Q : Vl → Mem → Prop} (h : Q (Iv 0) (mkX8_init_81 M)) : WPg 0 82 83 (some (1, 246)) 0 0 yX8_init 0 [some (Rv 81)] [] M Q := by
  refine wp_aload_n dX8_init_0 rfl (by decide) ?_
  refine wp_objInit dX8_init_1 (ml_X8_3 rfl) (by decide) (Nat.le_of_ble_eq_true rfl) (by decide) ?_
  refine wp_aload_n dX8_init_4 rfl (by decide) ?_
  refine wp_sipush dX8_init_5 (by decide) ?_
  refine wp_newI (n := 246) dX8_init_8 (by decide) rfl (by decide) ⟨Nat.le_of_ble_eq_true rfl, Nat.le_of_ble_eq_true rfl⟩ ?_
  refine wp_putF (x := 82) dX8_init_10 (fl_X8_9 rfl) rfl (fun h => absurd h (by decide)) rfl rfl rfl rfl trivial ?_
  exact wp_vret dX8_init_13 rfl (Or.inl ⟨Nat.le_of_ble_eq_true rfl, Nat.le_of_ble_eq_true rfl⟩) rfl h
theorem kX8_init_81 {M : Mem} {Q : Vl → Mem → Prop} (h : Q (Iv 0) (mkX8_init_81 M)) : CL 0 82 83 (some (1, 246)) yX8_init [Rv 81] M Q := enterG (by decide +kernel) (by exact Or.inl rfl) (Nat.le_of_ble_eq_true rfl) rfl (wkX8_init_81 h)
def mkX2_init_80 (M : Mem) : Mem := (up (up (mkX8_init_81 (setA M 81 (dfl 8))) 80 0 81) 80 1 79)
theorem wkX2_init_80 {M : Mem} {Q : Vl → Mem → Prop} (h : Q (Iv 0) (mkX2_init_80 M)) : WPg 0 81 83 (some (2, 247)) 0 0 yX2_init 0 [some (Rv 80), some (Rv 79)] [] M Q := by
  refine wp_aload_n dX2_init_0 rfl (by decide) ?_
  refine wp_objInit dX2_init_1 (ml_X2_3 rfl) (by decide) (Nat.le_of_ble_eq_true rfl) (by decide) ?_
  refine wp_aload_n dX2_init_4 rfl (by decide) ?_
  refine wp_new (cl := 8) dX2_init_5 (by decide) (kl_X2_9 rfl) in_X8.1 in_X8.2 (by decide) rfl (okst_c _ (by decide)) ⟨Nat.le_of_ble_eq_true rfl, Nat.le_of_ble_eq_true rfl⟩ ?_
  refine wp_dup dX2_init_8 rfl ?_
  refine wp_callI (e1 := 0) (mc := 1) (ms := 246) (as := []) (S := [Rv 81, Rv 80]) (R2 := fun _ M2 => M2 = mkX8_init_81 _) dX2_init_9 (cs_X2_11 rfl) (by decide) rfl rfl (Nat.le_of_ble_eq_true rfl) (Nat.le_of_ble_eq_true rfl) ⟨Nat.le_of_ble_eq_true rfl, Nat.le_of_ble_eq_true rfl⟩ (kX8_init_81 rfl) (fun v M2 q => ?_)
  subst q
  refine wp_putF (x := 81) dX2_init_12 (fl_X2_12 rfl) rfl (fun h => absurd h (by decide)) rfl rfl rfl rfl trivial ?_
  refine wp_aload_n dX2_init_15 rfl (by decide) ?_
  refine wp_aload_n dX2_init_16 rfl (by decide) ?_
  refine wp_putF (x := 79) dX2_init_17 (fl_X2_18 rfl) rfl (fun h => absurd h (by decide)) rfl rfl rfl rfl trivial ?_
  exact wp_vret dX2_init_20 rfl (Or.inl ⟨Nat.le_of_ble_eq_true rfl, Nat.le_of_ble_eq_true rfl⟩) rfl h
theorem kX2_init_80 {M : Mem} {Q : Vl → Mem → Prop} (h : Q (Iv 0) (mkX2_init_80 M)) : CL 0 81 83 (some (2, 247)) yX2_init [Rv 80, Rv 79] M Q := enterG (by decide +kernel) (by exact Or.inl rfl) (Nat.le_of_ble_eq_true rfl) rfl (wkX2_init_80 h)
def mkX8_init_84 (M : Mem) : Mem := (up (setA M 85 (fun _ => 0)) 84 0 85)
theorem wkX8_init_84 {M : Mem} {Q : Vl → Mem → Prop} (h : Q (Iv 0) (mkX8_init_84 M)) : WPg 0 85 86 (some (1, 246)) 0 0 yX8_init 0 [some (Rv 84)] [] M Q := by
  refine wp_aload_n dX8_init_0 rfl (by decide) ?_
  refine wp_objInit dX8_init_1 (ml_X8_3 rfl) (by decide) (Nat.le_of_ble_eq_true rfl) (by decide) ?_
  refine wp_aload_n dX8_init_4 rfl (by decide) ?_
  refine wp_sipush dX8_init_5 (by decide) ?_
  refine wp_newI (n := 246) dX8_init_8 (by decide) rfl (by decide) ⟨Nat.le_of_ble_eq_true rfl, Nat.le_of_ble_eq_true rfl⟩ ?_
  refine wp_putF (x := 85) dX8_init_10 (fl_X8_9 rfl) rfl (fun h => absurd h (by decide)) rfl rfl rfl rfl trivial ?_
  exact wp_vret dX8_init_13 rfl (Or.inl ⟨Nat.le_of_ble_eq_true rfl, Nat.le_of_ble_eq_true rfl⟩) rfl h
theorem kX8_init_84 {M : Mem} {Q : Vl → Mem → Prop} (h : Q (Iv 0) (mkX8_init_84 M)) : CL 0 85 86 (some (1, 246)) yX8_init [Rv 84] M Q := enterG (by decide +kernel) (by exact Or.inl rfl) (Nat.le_of_ble_eq_true rfl) rfl (wkX8_init_84 h)
def mkX8_init_86 (M : Mem) : Mem := (up (setA M 87 (fun _ => 0)) 86 0 87)
theorem wkX8_init_86 {M : Mem} {Q : Vl → Mem → Prop} (h : Q (Iv 0) (mkX8_init_86 M)) : WPg 0 87 88 (some (1, 246)) 0 0 yX8_init 0 [some (Rv 86)] [] M Q := by
  refine wp_aload_n dX8_init_0 rfl (by decide) ?_
  refine wp_objInit dX8_init_1 (ml_X8_3 rfl) (by decide) (Nat.le_of_ble_eq_true rfl) (by decide) ?_
  refine wp_aload_n dX8_init_4 rfl (by decide) ?_
  refine wp_sipush dX8_init_5 (by decide) ?_
  refine wp_newI (n := 246) dX8_init_8 (by decide) rfl (by decide) ⟨Nat.le_of_ble_eq_true rfl, Nat.le_of_ble_eq_true rfl⟩ ?_
  refine wp_putF (x := 87) dX8_init_10 (fl_X8_9 rfl) rfl (fun h => absurd h (by decide)) rfl rfl rfl rfl trivial ?_
  exact wp_vret dX8_init_13 rfl (Or.inl ⟨Nat.le_of_ble_eq_true rfl, Nat.le_of_ble_eq_true rfl⟩) rfl h
theorem kX8_init_86 {M : Mem} {Q : Vl → Mem → Prop} (h : Q (Iv 0) (mkX8_init_86 M)) : CL 0 87 88 (some (1, 246)) yX8_init [Rv 86] M Q := enterG (by decide +kernel) (by exact Or.inl rfl) (Nat.le_of_ble_eq_true rfl) rfl (wkX8_init_86 h)
def mkX4_init_83 (M : Mem) : Mem := (up (up (mkX8_init_86 (setA (up (mkX8_init_84 (setA M 84 (dfl 8))) 83 0 84) 86 (dfl 8))) 83 1 86) 83 2 79)
theorem wkX4_init_83 {M : Mem} {Q : Vl → Mem → Prop} (h : Q (Iv 0) (mkX4_init_83 M)) : WPg 0 84 88 (some (4, 494)) 0 0 yX4_init 0 [some (Rv 83), some (Rv 79)] [] M Q := by
  refine wp_aload_n dX4_init_0 rfl (by decide) ?_
  refine wp_objInit dX4_init_1 (ml_X4_3 rfl) (by decide) (Nat.le_of_ble_eq_true rfl) (by decide) ?_
  refine wp_aload_n dX4_init_4 rfl (by decide) ?_
  refine wp_new (cl := 8) dX4_init_5 (by decide) (kl_X4_9 rfl) in_X8.1 in_X8.2 (by decide) rfl (okst_c _ (by decide)) ⟨Nat.le_of_ble_eq_true rfl, Nat.le_of_ble_eq_true rfl⟩ ?_
  refine wp_dup dX4_init_8 rfl ?_
  refine wp_callI (e1 := 0) (mc := 1) (ms := 246) (as := []) (S := [Rv 84, Rv 83]) (R2 := fun _ M2 => M2 = mkX8_init_84 _) dX4_init_9 (cs_X4_11 rfl) (by decide) rfl rfl (Nat.le_of_ble_eq_true rfl) (Nat.le_of_ble_eq_true rfl) ⟨Nat.le_of_ble_eq_true rfl, Nat.le_of_ble_eq_true rfl⟩ (kX8_init_84 rfl) (fun v M2 q => ?_)
  subst q
  refine wp_putF (x := 84) dX4_init_12 (fl_X4_12 rfl) rfl (fun h => absurd h (by decide)) rfl rfl rfl rfl trivial ?_
  refine wp_aload_n dX4_init_15 rfl (by decide) ?_
  refine wp_new (cl := 8) dX4_init_16 (by decide) (kl_X4_9 rfl) in_X8.1 in_X8.2 (by decide) rfl (okst_c _ (by decide)) ⟨Nat.le_of_ble_eq_true rfl, Nat.le_of_ble_eq_true rfl⟩ ?_
  refine wp_dup dX4_init_19 rfl ?_
  refine wp_callI (e1 := 0) (mc := 1) (ms := 246) (as := []) (S := [Rv 86, Rv 83]) (R2 := fun _ M2 => M2 = mkX8_init_86 _) dX4_init_20 (cs_X4_11 rfl) (by decide) rfl rfl (Nat.le_of_ble_eq_true rfl) (Nat.le_of_ble_eq_true rfl) ⟨Nat.le_of_ble_eq_true rfl, Nat.le_of_ble_eq_true rfl⟩ (kX8_init_86 rfl) (fun v M2 q => ?_)
  subst q
  refine wp_putF (x := 86) dX4_init_23 (fl_X4_18 rfl) rfl (fun h => absurd h (by decide)) rfl rfl rfl rfl trivial ?_
  refine wp_aload_n dX4_init_26 rfl (by decide) ?_
  refine wp_aload_n dX4_init_27 rfl (by decide) ?_
  refine wp_putF (x := 79) dX4_init_28 (fl_X4_21 rfl) rfl (fun h => absurd h (by decide)) rfl rfl rfl rfl trivial ?_
  exact wp_vret dX4_init_31 rfl (Or.inl ⟨Nat.le_of_ble_eq_true rfl, Nat.le_of_ble_eq_true rfl⟩) rfl h
theorem kX4_init_83 {M : Mem} {Q : Vl → Mem → Prop} (h : Q (Iv 0) (mkX4_init_83 M)) : CL 0 84 88 (some (4, 494)) yX4_init [Rv 83, Rv 79] M Q := enterG (by decide +kernel) (by exact Or.inl rfl) (Nat.le_of_ble_eq_true rfl) rfl (wkX4_init_83 h)
def mkX11_init_1 (M : Mem) : Mem := (up (mkX4_init_83 (setA (up (mkX2_init_80 (setA (setA (up (mkX10_init_76 (setA (up (mkX10_init_73 (setA (up (mkX10_init_70 (setA (up (mkX10_init_67 (setA (up (mkX10_init_64 (setA (up (mkX10_init_61 (setA (up (mkX10_init_58 (setA (up (mkX10_init_55 (setA (up (mkX3_init_53 (setA (up (mkX3_init_51 (setA (up (mkX3_init_49 (setA (up (mkX3_init_47 (setA (up (mkX3_init_45 (setA (up (mkX3_init_43 (setA (up (mkX3_init_41 (setA (up (mkX3_init_39 (setA (up (mkX3_init_37 (setA (up (mkX3_init_35 (setA (up (mkX9_init_28 (setA (up (mkX5_init_23 (setA (up (mkX1_init_20 (setA (up (mkX0_init_15 (setA (up (mkX7_init_10 (setA (up (mkX6_init_7 (setA (up (setA (up (setA (up (up (up (up (up (up (up (setA (up (setA (up (setA M 2 (fun _ => -1)) 1 0 2) 3 (fun _ => -1)) 1 1 3) 4 (fun _ => -1)) 1 2 4) 1 3 3) 1 4 0) 1 5 0) 1 6 0) 1 7 1) 1 8 0) 5 (fun _ => 0)) 1 9 5) 6 (fun _ => 0)) 1 10 6) 7 (dfl 6))) 1 11 7) 10 (dfl 7))) 1 12 10) 15 (dfl 0))) 1 14 15) 20 (dfl 1))) 1 16 20) 23 (dfl 5))) 1 17 23) 28 (dfl 9))) 1 18 28) 35 (dfl 3))) 2 0 35) 37 (dfl 3))) 2 1 37) 39 (dfl 3))) 2 2 39) 41 (dfl 3))) 2 3 41) 43 (dfl 3))) 2 4 43) 45 (dfl 3))) 2 5 45) 47 (dfl 3))) 3 0 47) 49 (dfl 3))) 3 1 49) 51 (dfl 3))) 3 2 51) 53 (dfl 3))) 3 3 53) 55 (dfl 10))) 4 0 55) 58 (dfl 10))) 4 1 58) 61 (dfl 10))) 4 2 61) 64 (dfl 10))) 4 3 64) 67 (dfl 10))) 4 4 67) 70 (dfl 10))) 4 5 70) 73 (dfl 10))) 4 6 73) 76 (dfl 10))) 4 7 76) 79 (fun _ => 0)) 80 (dfl 2))) 1 13 80) 83 (dfl 4))) 1 15 83)
set_option maxRecDepth 20000 in
theorem wkX11_init_1 {M : Mem} {Q : Vl → Mem → Prop} (h : Q (Iv 0) (mkX11_init_1 M)) : WPg 0 2 88 (some (86, 4621)) 0 0 yX11_init 0 [some (Rv 1), none] [] M Q := by
  refine wp_aload_n dX11_init_0 rfl (by decide) ?_
  refine wp_objInit dX11_init_1 (ml_X11_3 rfl) (by decide) (Nat.le_of_ble_eq_true rfl) (by decide) ?_
  refine wp_aload_n dX11_init_4 rfl (by decide) ?_
  refine wp_bipush dX11_init_5 (by decide) ?_
  refine wp_anewL (n := 6) dX11_init_7 (kl_X11_9 rfl) (by decide) rfl (by decide) ⟨Nat.le_of_ble_eq_true rfl, Nat.le_of_ble_eq_true rfl⟩ ?_
  refine wp_putF (x := 2) dX11_init_10 (fl_X11_11 rfl) rfl (fun h => absurd h (by decide)) rfl rfl rfl rfl trivial ?_
  refine wp_aload_n dX11_init_13 rfl (by decide) ?_
  refine wp_iconst dX11_init_14 ?_
  refine wp_anewL (n := 4) dX11_init_15 (kl_X11_9 rfl) (by decide) rfl (by decide) ⟨Nat.le_of_ble_eq_true rfl, Nat.le_of_ble_eq_true rfl⟩ ?_
  refine wp_putF (x := 3) dX11_init_18 (fl_X11_15 rfl) rfl (fun h => absurd h (by decide)) rfl rfl rfl rfl trivial ?_
  refine wp_aload_n dX11_init_21 rfl (by decide) ?_
  refine wp_bipush dX11_init_22 (by decide) ?_
  refine wp_anewW (n := 8) dX11_init_24 (kl_X11_18 rfl) (by decide) rfl (by decide) ⟨Nat.le_of_ble_eq_true rfl, Nat.le_of_ble_eq_true rfl⟩ ?_
  refine wp_putF (x := 4) dX11_init_27 (fl_X11_20 rfl) rfl (fun h => absurd h (by decide)) rfl rfl rfl rfl trivial ?_
  refine wp_aload_n dX11_init_30 rfl (by decide) ?_
  refine wp_iconst dX11_init_31 ?_
  refine wp_putf (x := 3) dX11_init_32 (fl_X11_24 rfl) rfl (fun h => absurd h (by decide)) rfl rfl trivial ?_
  refine wp_aload_n dX11_init_35 rfl (by decide) ?_
  refine wp_iconst dX11_init_36 ?_
  refine wp_putf (x := 0) dX11_init_37 (fl_X11_28 rfl) rfl (fun h => absurd h (by decide)) rfl rfl trivial ?_
  refine wp_aload_n dX11_init_40 rfl (by decide) ?_
  refine wp_lconst0 dX11_init_41 ?_
  refine wp_putf (x := 0) dX11_init_42 (fl_X11_31 rfl) rfl (fun h => absurd h (by decide)) rfl rfl trivial ?_
  refine wp_aload_n dX11_init_45 rfl (by decide) ?_
  refine wp_lconst0 dX11_init_46 ?_
  refine wp_putf (x := 0) dX11_init_47 (fl_X11_35 rfl) rfl (fun h => absurd h (by decide)) rfl rfl trivial ?_
  refine wp_aload_n dX11_init_50 rfl (by decide) ?_
  refine wp_lconst1 dX11_init_51 ?_
  refine wp_putf (x := 1) dX11_init_52 (fl_X11_38 rfl) rfl (fun h => absurd h (by decide)) rfl rfl trivial ?_
  refine wp_aload_n dX11_init_55 rfl (by decide) ?_
  refine wp_iconst dX11_init_56 ?_
  refine wp_putf (x := 0) dX11_init_57 (fl_X11_41 rfl) rfl (fun h => absurd h (by decide)) rfl rfl trivial ?_
  refine wp_aload_n dX11_init_60 rfl (by decide) ?_
  refine wp_bipush dX11_init_61 (by decide) ?_
  refine wp_newI (n := 6) dX11_init_63 (by decide) rfl (by decide) ⟨Nat.le_of_ble_eq_true rfl, Nat.le_of_ble_eq_true rfl⟩ ?_
  refine wp_putF (x := 5) dX11_init_65 (fl_X11_44 rfl) rfl (fun h => absurd h (by decide)) rfl rfl rfl rfl trivial ?_
  refine wp_aload_n dX11_init_68 rfl (by decide) ?_
  refine wp_bipush dX11_init_69 (by decide) ?_
  refine wp_newI (n := 80) dX11_init_71 (by decide) rfl (by decide) ⟨Nat.le_of_ble_eq_true rfl, Nat.le_of_ble_eq_true rfl⟩ ?_
  refine wp_putF (x := 6) dX11_init_73 (fl_X11_48 rfl) rfl (fun h => absurd h (by decide)) rfl rfl rfl rfl trivial ?_
  refine wp_aload_n dX11_init_76 rfl (by decide) ?_
  refine wp_new (cl := 6) dX11_init_77 (by decide) (kl_X11_51 rfl) in_X6.1 in_X6.2 (by decide) rfl (okst_c _ (by decide)) ⟨Nat.le_of_ble_eq_true rfl, Nat.le_of_ble_eq_true rfl⟩ ?_
  refine wp_dup dX11_init_80 rfl ?_
  refine wp_callI (e1 := 0) (mc := 2) (ms := 44) (as := []) (S := [Rv 7, Rv 1]) (R2 := fun _ M2 => M2 = mkX6_init_7 _) dX11_init_81 (cs_X11_53 rfl) (by decide) rfl rfl (Nat.le_of_ble_eq_true rfl) (Nat.le_of_ble_eq_true rfl) ⟨Nat.le_of_ble_eq_true rfl, Nat.le_of_ble_eq_true rfl⟩ (kX6_init_7 rfl) (fun v M2 q => ?_)
  subst q
  refine wp_putF (x := 7) dX11_init_84 (fl_X11_54 rfl) rfl (fun h => absurd h (by decide)) rfl rfl rfl rfl trivial ?_
  refine wp_aload_n dX11_init_87 rfl (by decide) ?_
  refine wp_new (cl := 7) dX11_init_88 (by decide) (kl_X11_58 rfl) in_X7.1 in_X7.2 (by decide) rfl (okst_c _ (by decide)) ⟨Nat.le_of_ble_eq_true rfl, Nat.le_of_ble_eq_true rfl⟩ ?_
  refine wp_dup dX11_init_91 rfl ?_
  refine wp_callI (e1 := 0) (mc := 4) (ms := 162) (as := []) (S := [Rv 10, Rv 1]) (R2 := fun _ M2 => M2 = mkX7_init_10 _) dX11_init_92 (cs_X11_60 rfl) (by decide) rfl rfl (Nat.le_of_ble_eq_true rfl) (Nat.le_of_ble_eq_true rfl) ⟨Nat.le_of_ble_eq_true rfl, Nat.le_of_ble_eq_true rfl⟩ (kX7_init_10 rfl) (fun v M2 q => ?_)
  subst q
  refine wp_putF (x := 10) dX11_init_95 (fl_X11_61 rfl) rfl (fun h => absurd h (by decide)) rfl rfl rfl rfl trivial ?_
  refine wp_aload_n dX11_init_98 rfl (by decide) ?_
  refine wp_new (cl := 0) dX11_init_99 (by decide) (kl_X11_65 rfl) in_X0.1 in_X0.2 (by decide) rfl (okst_c _ (by decide)) ⟨Nat.le_of_ble_eq_true rfl, Nat.le_of_ble_eq_true rfl⟩ ?_
  refine wp_dup dX11_init_102 rfl ?_
  refine wp_callI (e1 := 0) (mc := 4) (ms := 329) (as := []) (S := [Rv 15, Rv 1]) (R2 := fun _ M2 => M2 = mkX0_init_15 _) dX11_init_103 (cs_X11_67 rfl) (by decide) rfl rfl (Nat.le_of_ble_eq_true rfl) (Nat.le_of_ble_eq_true rfl) ⟨Nat.le_of_ble_eq_true rfl, Nat.le_of_ble_eq_true rfl⟩ (kX0_init_15 rfl) (fun v M2 q => ?_)
  subst q
  refine wp_putF (x := 15) dX11_init_106 (fl_X11_68 rfl) rfl (fun h => absurd h (by decide)) rfl rfl rfl rfl trivial ?_
  refine wp_aload_n dX11_init_109 rfl (by decide) ?_
  refine wp_new (cl := 1) dX11_init_110 (by decide) (kl_X11_72 rfl) in_X1.1 in_X1.2 (by decide) rfl (okst_c _ (by decide)) ⟨Nat.le_of_ble_eq_true rfl, Nat.le_of_ble_eq_true rfl⟩ ?_
  refine wp_dup dX11_init_113 rfl ?_
  refine wp_callI (e1 := 0) (mc := 2) (ms := 80) (as := []) (S := [Rv 20, Rv 1]) (R2 := fun _ M2 => M2 = mkX1_init_20 _) dX11_init_114 (cs_X11_74 rfl) (by decide) rfl rfl (Nat.le_of_ble_eq_true rfl) (Nat.le_of_ble_eq_true rfl) ⟨Nat.le_of_ble_eq_true rfl, Nat.le_of_ble_eq_true rfl⟩ (kX1_init_20 rfl) (fun v M2 q => ?_)
  subst q
  refine wp_putF (x := 20) dX11_init_117 (fl_X11_75 rfl) rfl (fun h => absurd h (by decide)) rfl rfl rfl rfl trivial ?_
  refine wp_aload_n dX11_init_120 rfl (by decide) ?_
  refine wp_new (cl := 5) dX11_init_121 (by decide) (kl_X11_79 rfl) in_X5.1 in_X5.2 (by decide) rfl (okst_c _ (by decide)) ⟨Nat.le_of_ble_eq_true rfl, Nat.le_of_ble_eq_true rfl⟩ ?_
  refine wp_dup dX11_init_124 rfl ?_
  refine wp_callI (e1 := 0) (mc := 4) (ms := 18) (as := []) (S := [Rv 23, Rv 1]) (R2 := fun _ M2 => M2 = mkX5_init_23 _) dX11_init_125 (cs_X11_81 rfl) (by decide) rfl rfl (Nat.le_of_ble_eq_true rfl) (Nat.le_of_ble_eq_true rfl) ⟨Nat.le_of_ble_eq_true rfl, Nat.le_of_ble_eq_true rfl⟩ (kX5_init_23 rfl) (fun v M2 q => ?_)
  subst q
  refine wp_putF (x := 23) dX11_init_128 (fl_X11_82 rfl) rfl (fun h => absurd h (by decide)) rfl rfl rfl rfl trivial ?_
  refine wp_aload_n dX11_init_131 rfl (by decide) ?_
  refine wp_new (cl := 9) dX11_init_132 (by decide) (kl_X11_86 rfl) in_X9.1 in_X9.2 (by decide) rfl (okst_c _ (by decide)) ⟨Nat.le_of_ble_eq_true rfl, Nat.le_of_ble_eq_true rfl⟩ ?_
  refine wp_dup dX11_init_135 rfl ?_
  refine wp_callI (e1 := 0) (mc := 6) (ms := 554) (as := []) (S := [Rv 28, Rv 1]) (R2 := fun _ M2 => M2 = mkX9_init_28 _) dX11_init_136 (cs_X11_88 rfl) (by decide) rfl rfl (Nat.le_of_ble_eq_true rfl) (Nat.le_of_ble_eq_true rfl) ⟨Nat.le_of_ble_eq_true rfl, Nat.le_of_ble_eq_true rfl⟩ (kX9_init_28 rfl) (fun v M2 q => ?_)
  subst q
  refine wp_putF (x := 28) dX11_init_139 (fl_X11_89 rfl) rfl (fun h => absurd h (by decide)) rfl rfl rfl rfl trivial ?_
  refine wp_iconst dX11_init_142 ?_
  refine wp_istore_n (L2 := [some (Rv 1), some (Iv 0)]) dX11_init_143 (Nat.le_of_ble_eq_true rfl) (Nat.le_of_ble_eq_true rfl) rfl ?_
  refine wp_iload_n dX11_init_144 rfl ?_
  refine wp_bipush dX11_init_145 (by decide) ?_
  refine wp_icmp_ge (tgt := 171) dX11_init_147 (by decide) (by decide) (by decide) (fun q => absurd q (by decide)) (fun _ => ?_)
  refine wp_aload_n dX11_init_150 rfl (by decide) ?_
  refine wp_getf (t := Rv 2) 2 dX11_init_151 (fl_X11_11 rfl) rfl rfl rfl ?_
  refine wp_iload_n dX11_init_154 rfl ?_
  refine wp_new (cl := 3) dX11_init_155 (by decide) (kl_X11_9 rfl) in_X3.1 in_X3.2 (by decide) rfl (okst_c _ (by decide)) ⟨Nat.le_of_ble_eq_true rfl, Nat.le_of_ble_eq_true rfl⟩ ?_
  refine wp_dup dX11_init_158 rfl ?_
  refine wp_bipush dX11_init_159 (by decide) ?_
  refine wp_callI (e1 := 0) (mc := 1) (ms := 40) (as := [Iv 40]) (S := [Rv 35, Iv 0, Rv 2]) (R2 := fun _ M2 => M2 = mkX3_init_35 _) dX11_init_161 (cs_X11_93 rfl) (by decide) rfl rfl (Nat.le_of_ble_eq_true rfl) (Nat.le_of_ble_eq_true rfl) ⟨Nat.le_of_ble_eq_true rfl, Nat.le_of_ble_eq_true rfl⟩ (kX3_init_35 rfl) (fun v M2 q => ?_)
  subst q
  refine wp_aastL dX11_init_164 rfl rfl rfl (by decide) (by decide) (by decide) (fun h => absurd h (by decide)) ?_
  refine wp_iinc (L2 := [some (Rv 1), some (Iv 1)]) dX11_init_165 rfl (Nat.le_of_ble_eq_true rfl) (Nat.le_of_ble_eq_true rfl) rfl ?_
  refine wp_goto (tgt := 144) dX11_init_168 (by decide) ?_
  refine wp_iload_n dX11_init_144 rfl ?_
  refine wp_bipush dX11_init_145 (by decide) ?_
  refine wp_icmp_ge (tgt := 171) dX11_init_147 (by decide) (by decide) (by decide) (fun q => absurd q (by decide)) (fun _ => ?_)
  refine wp_aload_n dX11_init_150 rfl (by decide) ?_
  refine wp_getf (t := Rv 2) 2 dX11_init_151 (fl_X11_11 rfl) rfl rfl rfl ?_
  refine wp_iload_n dX11_init_154 rfl ?_
  refine wp_new (cl := 3) dX11_init_155 (by decide) (kl_X11_9 rfl) in_X3.1 in_X3.2 (by decide) rfl (okst_c _ (by decide)) ⟨Nat.le_of_ble_eq_true rfl, Nat.le_of_ble_eq_true rfl⟩ ?_
  refine wp_dup dX11_init_158 rfl ?_
  refine wp_bipush dX11_init_159 (by decide) ?_
  refine wp_callI (e1 := 0) (mc := 1) (ms := 40) (as := [Iv 40]) (S := [Rv 37, Iv 1, Rv 2]) (R2 := fun _ M2 => M2 = mkX3_init_37 _) dX11_init_161 (cs_X11_93 rfl) (by decide) rfl rfl (Nat.le_of_ble_eq_true rfl) (Nat.le_of_ble_eq_true rfl) ⟨Nat.le_of_ble_eq_true rfl, Nat.le_of_ble_eq_true rfl⟩ (kX3_init_37 rfl) (fun v M2 q => ?_)
  subst q
  refine wp_aastL dX11_init_164 rfl rfl rfl (by decide) (by decide) (by decide) (fun h => absurd h (by decide)) ?_
  refine wp_iinc (L2 := [some (Rv 1), some (Iv 2)]) dX11_init_165 rfl (Nat.le_of_ble_eq_true rfl) (Nat.le_of_ble_eq_true rfl) rfl ?_
  refine wp_goto (tgt := 144) dX11_init_168 (by decide) ?_
  refine wp_iload_n dX11_init_144 rfl ?_
  refine wp_bipush dX11_init_145 (by decide) ?_
  refine wp_icmp_ge (tgt := 171) dX11_init_147 (by decide) (by decide) (by decide) (fun q => absurd q (by decide)) (fun _ => ?_)
  refine wp_aload_n dX11_init_150 rfl (by decide) ?_
  refine wp_getf (t := Rv 2) 2 dX11_init_151 (fl_X11_11 rfl) rfl rfl rfl ?_
  refine wp_iload_n dX11_init_154 rfl ?_
  refine wp_new (cl := 3) dX11_init_155 (by decide) (kl_X11_9 rfl) in_X3.1 in_X3.2 (by decide) rfl (okst_c _ (by decide)) ⟨Nat.le_of_ble_eq_true rfl, Nat.le_of_ble_eq_true rfl⟩ ?_
  refine wp_dup dX11_init_158 rfl ?_
  refine wp_bipush dX11_init_159 (by decide) ?_
  refine wp_callI (e1 := 0) (mc := 1) (ms := 40) (as := [Iv 40]) (S := [Rv 39, Iv 2, Rv 2]) (R2 := fun _ M2 => M2 = mkX3_init_39 _) dX11_init_161 (cs_X11_93 rfl) (by decide) rfl rfl (Nat.le_of_ble_eq_true rfl) (Nat.le_of_ble_eq_true rfl) ⟨Nat.le_of_ble_eq_true rfl, Nat.le_of_ble_eq_true rfl⟩ (kX3_init_39 rfl) (fun v M2 q => ?_)
  subst q
  refine wp_aastL dX11_init_164 rfl rfl rfl (by decide) (by decide) (by decide) (fun h => absurd h (by decide)) ?_
  refine wp_iinc (L2 := [some (Rv 1), some (Iv 3)]) dX11_init_165 rfl (Nat.le_of_ble_eq_true rfl) (Nat.le_of_ble_eq_true rfl) rfl ?_
  refine wp_goto (tgt := 144) dX11_init_168 (by decide) ?_
  refine wp_iload_n dX11_init_144 rfl ?_
  refine wp_bipush dX11_init_145 (by decide) ?_
  refine wp_icmp_ge (tgt := 171) dX11_init_147 (by decide) (by decide) (by decide) (fun q => absurd q (by decide)) (fun _ => ?_)
  refine wp_aload_n dX11_init_150 rfl (by decide) ?_
  refine wp_getf (t := Rv 2) 2 dX11_init_151 (fl_X11_11 rfl) rfl rfl rfl ?_
  refine wp_iload_n dX11_init_154 rfl ?_
  refine wp_new (cl := 3) dX11_init_155 (by decide) (kl_X11_9 rfl) in_X3.1 in_X3.2 (by decide) rfl (okst_c _ (by decide)) ⟨Nat.le_of_ble_eq_true rfl, Nat.le_of_ble_eq_true rfl⟩ ?_
  refine wp_dup dX11_init_158 rfl ?_
  refine wp_bipush dX11_init_159 (by decide) ?_
  refine wp_callI (e1 := 0) (mc := 1) (ms := 40) (as := [Iv 40]) (S := [Rv 41, Iv 3, Rv 2]) (R2 := fun _ M2 => M2 = mkX3_init_41 _) dX11_init_161 (cs_X11_93 rfl) (by decide) rfl rfl (Nat.le_of_ble_eq_true rfl) (Nat.le_of_ble_eq_true rfl) ⟨Nat.le_of_ble_eq_true rfl, Nat.le_of_ble_eq_true rfl⟩ (kX3_init_41 rfl) (fun v M2 q => ?_)
  subst q
  refine wp_aastL dX11_init_164 rfl rfl rfl (by decide) (by decide) (by decide) (fun h => absurd h (by decide)) ?_
  refine wp_iinc (L2 := [some (Rv 1), some (Iv 4)]) dX11_init_165 rfl (Nat.le_of_ble_eq_true rfl) (Nat.le_of_ble_eq_true rfl) rfl ?_
  refine wp_goto (tgt := 144) dX11_init_168 (by decide) ?_
  refine wp_iload_n dX11_init_144 rfl ?_
  refine wp_bipush dX11_init_145 (by decide) ?_
  refine wp_icmp_ge (tgt := 171) dX11_init_147 (by decide) (by decide) (by decide) (fun q => absurd q (by decide)) (fun _ => ?_)
  refine wp_aload_n dX11_init_150 rfl (by decide) ?_
  refine wp_getf (t := Rv 2) 2 dX11_init_151 (fl_X11_11 rfl) rfl rfl rfl ?_
  refine wp_iload_n dX11_init_154 rfl ?_
  refine wp_new (cl := 3) dX11_init_155 (by decide) (kl_X11_9 rfl) in_X3.1 in_X3.2 (by decide) rfl (okst_c _ (by decide)) ⟨Nat.le_of_ble_eq_true rfl, Nat.le_of_ble_eq_true rfl⟩ ?_
  refine wp_dup dX11_init_158 rfl ?_
  refine wp_bipush dX11_init_159 (by decide) ?_
  refine wp_callI (e1 := 0) (mc := 1) (ms := 40) (as := [Iv 40]) (S := [Rv 43, Iv 4, Rv 2]) (R2 := fun _ M2 => M2 = mkX3_init_43 _) dX11_init_161 (cs_X11_93 rfl) (by decide) rfl rfl (Nat.le_of_ble_eq_true rfl) (Nat.le_of_ble_eq_true rfl) ⟨Nat.le_of_ble_eq_true rfl, Nat.le_of_ble_eq_true rfl⟩ (kX3_init_43 rfl) (fun v M2 q => ?_)
  subst q
  refine wp_aastL dX11_init_164 rfl rfl rfl (by decide) (by decide) (by decide) (fun h => absurd h (by decide)) ?_
  refine wp_iinc (L2 := [some (Rv 1), some (Iv 5)]) dX11_init_165 rfl (Nat.le_of_ble_eq_true rfl) (Nat.le_of_ble_eq_true rfl) rfl ?_
  refine wp_goto (tgt := 144) dX11_init_168 (by decide) ?_
  refine wp_iload_n dX11_init_144 rfl ?_
  refine wp_bipush dX11_init_145 (by decide) ?_
  refine wp_icmp_ge (tgt := 171) dX11_init_147 (by decide) (by decide) (by decide) (fun q => absurd q (by decide)) (fun _ => ?_)
  refine wp_aload_n dX11_init_150 rfl (by decide) ?_
  refine wp_getf (t := Rv 2) 2 dX11_init_151 (fl_X11_11 rfl) rfl rfl rfl ?_
  refine wp_iload_n dX11_init_154 rfl ?_
  refine wp_new (cl := 3) dX11_init_155 (by decide) (kl_X11_9 rfl) in_X3.1 in_X3.2 (by decide) rfl (okst_c _ (by decide)) ⟨Nat.le_of_ble_eq_true rfl, Nat.le_of_ble_eq_true rfl⟩ ?_
  refine wp_dup dX11_init_158 rfl ?_
  refine wp_bipush dX11_init_159 (by decide) ?_
  refine wp_callI (e1 := 0) (mc := 1) (ms := 40) (as := [Iv 40]) (S := [Rv 45, Iv 5, Rv 2]) (R2 := fun _ M2 => M2 = mkX3_init_45 _) dX11_init_161 (cs_X11_93 rfl) (by decide) rfl rfl (Nat.le_of_ble_eq_true rfl) (Nat.le_of_ble_eq_true rfl) ⟨Nat.le_of_ble_eq_true rfl, Nat.le_of_ble_eq_true rfl⟩ (kX3_init_45 rfl) (fun v M2 q => ?_)
  subst q
  refine wp_aastL dX11_init_164 rfl rfl rfl (by decide) (by decide) (by decide) (fun h => absurd h (by decide)) ?_
  refine wp_iinc (L2 := [some (Rv 1), some (Iv 6)]) dX11_init_165 rfl (Nat.le_of_ble_eq_true rfl) (Nat.le_of_ble_eq_true rfl) rfl ?_
  refine wp_goto (tgt := 144) dX11_init_168 (by decide) ?_
  refine wp_iload_n dX11_init_144 rfl ?_
  refine wp_bipush dX11_init_145 (by decide) ?_
  refine wp_icmp_ge (tgt := 171) dX11_init_147 (by decide) (by decide) (by decide) (fun _ => ?_) (fun q => absurd q (by decide))
  refine wp_iconst dX11_init_171 ?_
  refine wp_istore_n (L2 := [some (Rv 1), some (Iv 0)]) dX11_init_172 (Nat.le_of_ble_eq_true rfl) (Nat.le_of_ble_eq_true rfl) rfl ?_
  refine wp_iload_n dX11_init_173 rfl ?_
  refine wp_iconst dX11_init_174 ?_
  refine wp_icmp_ge (tgt := 199) dX11_init_175 (by decide) (by decide) (by decide) (fun q => absurd q (by decide)) (fun _ => ?_)
  refine wp_aload_n dX11_init_178 rfl (by decide) ?_
  refine wp_getf (t := Rv 3) 3 dX11_init_179 (fl_X11_15 rfl) rfl rfl rfl ?_
  refine wp_iload_n dX11_init_182 rfl ?_
  refine wp_new (cl := 3) dX11_init_183 (by decide) (kl_X11_9 rfl) in_X3.1 in_X3.2 (by decide) rfl (okst_c _ (by decide)) ⟨Nat.le_of_ble_eq_true rfl, Nat.le_of_ble_eq_true rfl⟩ ?_
  refine wp_dup dX11_init_186 rfl ?_
  refine wp_bipush dX11_init_187 (by decide) ?_
  refine wp_callI (e1 := 0) (mc := 1) (ms := 60) (as := [Iv 60]) (S := [Rv 47, Iv 0, Rv 3]) (R2 := fun _ M2 => M2 = mkX3_init_47 _) dX11_init_189 (cs_X11_93 rfl) (by decide) rfl rfl (Nat.le_of_ble_eq_true rfl) (Nat.le_of_ble_eq_true rfl) ⟨Nat.le_of_ble_eq_true rfl, Nat.le_of_ble_eq_true rfl⟩ (kX3_init_47 rfl) (fun v M2 q => ?_)
  subst q
  refine wp_aastL dX11_init_192 rfl rfl rfl (by decide) (by decide) (by decide) (fun h => absurd h (by decide)) ?_
  refine wp_iinc (L2 := [some (Rv 1), some (Iv 1)]) dX11_init_193 rfl (Nat.le_of_ble_eq_true rfl) (Nat.le_of_ble_eq_true rfl) rfl ?_
  refine wp_goto (tgt := 173) dX11_init_196 (by decide) ?_
  refine wp_iload_n dX11_init_173 rfl ?_
  refine wp_iconst dX11_init_174 ?_
  refine wp_icmp_ge (tgt := 199) dX11_init_175 (by decide) (by decide) (by decide) (fun q => absurd q (by decide)) (fun _ => ?_)
  refine wp_aload_n dX11_init_178 rfl (by decide) ?_
  refine wp_getf (t := Rv 3) 3 dX11_init_179 (fl_X11_15 rfl) rfl rfl rfl ?_
  refine wp_iload_n dX11_init_182 rfl ?_
  refine wp_new (cl := 3) dX11_init_183 (by decide) (kl_X11_9 rfl) in_X3.1 in_X3.2 (by decide) rfl (okst_c _ (by decide)) ⟨Nat.le_of_ble_eq_true rfl, Nat.le_of_ble_eq_true rfl⟩ ?_
  refine wp_dup dX11_init_186 rfl ?_
  refine wp_bipush dX11_init_187 (by decide) ?_
  refine wp_callI (e1 := 0) (mc := 1) (ms := 60) (as := [Iv 60]) (S := [Rv 49, Iv 1, Rv 3]) (R2 := fun _ M2 => M2 = mkX3_init_49 _) dX11_init_189 (cs_X11_93 rfl) (by decide) rfl rfl (Nat.le_of_ble_eq_true rfl) (Nat.le_of_ble_eq_true rfl) ⟨Nat.le_of_ble_eq_true rfl, Nat.le_of_ble_eq_true rfl⟩ (kX3_init_49 rfl) (fun v M2 q => ?_)
  subst q
  refine wp_aastL dX11_init_192 rfl rfl rfl (by decide) (by decide) (by decide) (fun h => absurd h (by decide)) ?_
  refine wp_iinc (L2 := [some (Rv 1), some (Iv 2)]) dX11_init_193 rfl (Nat.le_of_ble_eq_true rfl) (Nat.le_of_ble_eq_true rfl) rfl ?_
  refine wp_goto (tgt := 173) dX11_init_196 (by decide) ?_
  refine wp_iload_n dX11_init_173 rfl ?_
  refine wp_iconst dX11_init_174 ?_
  refine wp_icmp_ge (tgt := 199) dX11_init_175 (by decide) (by decide) (by decide) (fun q => absurd q (by decide)) (fun _ => ?_)
  refine wp_aload_n dX11_init_178 rfl (by decide) ?_
  refine wp_getf (t := Rv 3) 3 dX11_init_179 (fl_X11_15 rfl) rfl rfl rfl ?_
  refine wp_iload_n dX11_init_182 rfl ?_
  refine wp_new (cl := 3) dX11_init_183 (by decide) (kl_X11_9 rfl) in_X3.1 in_X3.2 (by decide) rfl (okst_c _ (by decide)) ⟨Nat.le_of_ble_eq_true rfl, Nat.le_of_ble_eq_true rfl⟩ ?_
  refine wp_dup dX11_init_186 rfl ?_
  refine wp_bipush dX11_init_187 (by decide) ?_
  refine wp_callI (e1 := 0) (mc := 1) (ms := 60) (as := [Iv 60]) (S := [Rv 51, Iv 2, Rv 3]) (R2 := fun _ M2 => M2 = mkX3_init_51 _) dX11_init_189 (cs_X11_93 rfl) (by decide) rfl rfl (Nat.le_of_ble_eq_true rfl) (Nat.le_of_ble_eq_true rfl) ⟨Nat.le_of_ble_eq_true rfl, Nat.le_of_ble_eq_true rfl⟩ (kX3_init_51 rfl) (fun v M2 q => ?_)
  subst q
  refine wp_aastL dX11_init_192 rfl rfl rfl (by decide) (by decide) (by decide) (fun h => absurd h (by decide)) ?_
  refine wp_iinc (L2 := [some (Rv 1), some (Iv 3)]) dX11_init_193 rfl (Nat.le_of_ble_eq_true rfl) (Nat.le_of_ble_eq_true rfl) rfl ?_
  refine wp_goto (tgt := 173) dX11_init_196 (by decide) ?_
  refine wp_iload_n dX11_init_173 rfl ?_
  refine wp_iconst dX11_init_174 ?_
  refine wp_icmp_ge (tgt := 199) dX11_init_175 (by decide) (by decide) (by decide) (fun q => absurd q (by decide)) (fun _ => ?_)
  refine wp_aload_n dX11_init_178 rfl (by decide) ?_
  refine wp_getf (t := Rv 3) 3 dX11_init_179 (fl_X11_15 rfl) rfl rfl rfl ?_
  refine wp_iload_n dX11_init_182 rfl ?_
  refine wp_new (cl := 3) dX11_init_183 (by decide) (kl_X11_9 rfl) in_X3.1 in_X3.2 (by decide) rfl (okst_c _ (by decide)) ⟨Nat.le_of_ble_eq_true rfl, Nat.le_of_ble_eq_true rfl⟩ ?_
  refine wp_dup dX11_init_186 rfl ?_
  refine wp_bipush dX11_init_187 (by decide) ?_
  refine wp_callI (e1 := 0) (mc := 1) (ms := 60) (as := [Iv 60]) (S := [Rv 53, Iv 3, Rv 3]) (R2 := fun _ M2 => M2 = mkX3_init_53 _) dX11_init_189 (cs_X11_93 rfl) (by decide) rfl rfl (Nat.le_of_ble_eq_true rfl) (Nat.le_of_ble_eq_true rfl) ⟨Nat.le_of_ble_eq_true rfl, Nat.le_of_ble_eq_true rfl⟩ (kX3_init_53 rfl) (fun v M2 q => ?_)
  subst q
  refine wp_aastL dX11_init_192 rfl rfl rfl (by decide) (by decide) (by decide) (fun h => absurd h (by decide)) ?_
  refine wp_iinc (L2 := [some (Rv 1), some (Iv 4)]) dX11_init_193 rfl (Nat.le_of_ble_eq_true rfl) (Nat.le_of_ble_eq_true rfl) rfl ?_
  refine wp_goto (tgt := 173) dX11_init_196 (by decide) ?_
  refine wp_iload_n dX11_init_173 rfl ?_
  refine wp_iconst dX11_init_174 ?_
  refine wp_icmp_ge (tgt := 199) dX11_init_175 (by decide) (by decide) (by decide) (fun _ => ?_) (fun q => absurd q (by decide))
  refine wp_iconst dX11_init_199 ?_
  refine wp_istore_n (L2 := [some (Rv 1), some (Iv 0)]) dX11_init_200 (Nat.le_of_ble_eq_true rfl) (Nat.le_of_ble_eq_true rfl) rfl ?_
  refine wp_iload_n dX11_init_201 rfl ?_
  refine wp_bipush dX11_init_202 (by decide) ?_
  refine wp_icmp_ge (tgt := 226) dX11_init_204 (by decide) (by decide) (by decide) (fun q => absurd q (by decide)) (fun _ => ?_)
  refine wp_aload_n dX11_init_207 rfl (by decide) ?_
  refine wp_getf (t := Rv 4) 4 dX11_init_208 (fl_X11_20 rfl) rfl rfl rfl ?_
  refine wp_iload_n dX11_init_211 rfl ?_
  refine wp_new (cl := 10) dX11_init_212 (by decide) (kl_X11_18 rfl) in_X10.1 in_X10.2 (by decide) rfl (okst_c _ (by decide)) ⟨Nat.le_of_ble_eq_true rfl, Nat.le_of_ble_eq_true rfl⟩ ?_
  refine wp_dup dX11_init_215 rfl ?_
  refine wp_callI (e1 := 0) (mc := 2) (ms := 42) (as := []) (S := [Rv 55, Iv 0, Rv 4]) (R2 := fun _ M2 => M2 = mkX10_init_55 _) dX11_init_216 (cs_X11_96 rfl) (by decide) rfl rfl (Nat.le_of_ble_eq_true rfl) (Nat.le_of_ble_eq_true rfl) ⟨Nat.le_of_ble_eq_true rfl, Nat.le_of_ble_eq_true rfl⟩ (kX10_init_55 rfl) (fun v M2 q => ?_)
  subst q
  refine wp_aastW dX11_init_219 rfl rfl rfl (by decide) (by decide) (by decide) (fun h => absurd h (by decide)) ?_
  refine wp_iinc (L2 := [some (Rv 1), some (Iv 1)]) dX11_init_220 rfl (Nat.le_of_ble_eq_true rfl) (Nat.le_of_ble_eq_true rfl) rfl ?_
  refine wp_goto (tgt := 201) dX11_init_223 (by decide) ?_
  refine wp_iload_n dX11_init_201 rfl ?_
  refine wp_bipush dX11_init_202 (by decide) ?_
  refine wp_icmp_ge (tgt := 226) dX11_init_204 (by decide) (by decide) (by decide) (fun q => absurd q (by decide)) (fun _ => ?_)
  refine wp_aload_n dX11_init_207 rfl (by decide) ?_
  refine wp_getf (t := Rv 4) 4 dX11_init_208 (fl_X11_20 rfl) rfl rfl rfl ?_
  refine wp_iload_n dX11_init_211 rfl ?_
  refine wp_new (cl := 10) dX11_init_212 (by decide) (kl_X11_18 rfl) in_X10.1 in_X10.2 (by decide) rfl (okst_c _ (by decide)) ⟨Nat.le_of_ble_eq_true rfl, Nat.le_of_ble_eq_true rfl⟩ ?_
  refine wp_dup dX11_init_215 rfl ?_
  refine wp_callI (e1 := 0) (mc := 2) (ms := 42) (as := []) (S := [Rv 58, Iv 1, Rv 4]) (R2 := fun _ M2 => M2 = mkX10_init_58 _) dX11_init_216 (cs_X11_96 rfl) (by decide) rfl rfl (Nat.le_of_ble_eq_true rfl) (Nat.le_of_ble_eq_true rfl) ⟨Nat.le_of_ble_eq_true rfl, Nat.le_of_ble_eq_true rfl⟩ (kX10_init_58 rfl) (fun v M2 q => ?_)
  subst q
  refine wp_aastW dX11_init_219 rfl rfl rfl (by decide) (by decide) (by decide) (fun h => absurd h (by decide)) ?_
  refine wp_iinc (L2 := [some (Rv 1), some (Iv 2)]) dX11_init_220 rfl (Nat.le_of_ble_eq_true rfl) (Nat.le_of_ble_eq_true rfl) rfl ?_
  refine wp_goto (tgt := 201) dX11_init_223 (by decide) ?_
  refine wp_iload_n dX11_init_201 rfl ?_
  refine wp_bipush dX11_init_202 (by decide) ?_
  refine wp_icmp_ge (tgt := 226) dX11_init_204 (by decide) (by decide) (by decide) (fun q => absurd q (by decide)) (fun _ => ?_)
  refine wp_aload_n dX11_init_207 rfl (by decide) ?_
  refine wp_getf (t := Rv 4) 4 dX11_init_208 (fl_X11_20 rfl) rfl rfl rfl ?_
  refine wp_iload_n dX11_init_211 rfl ?_
  refine wp_new (cl := 10) dX11_init_212 (by decide) (kl_X11_18 rfl) in_X10.1 in_X10.2 (by decide) rfl (okst_c _ (by decide)) ⟨Nat.le_of_ble_eq_true rfl, Nat.le_of_ble_eq_true rfl⟩ ?_
  refine wp_dup dX11_init_215 rfl ?_
  refine wp_callI (e1 := 0) (mc := 2) (ms := 42) (as := []) (S := [Rv 61, Iv 2, Rv 4]) (R2 := fun _ M2 => M2 = mkX10_init_61 _) dX11_init_216 (cs_X11_96 rfl) (by decide) rfl rfl (Nat.le_of_ble_eq_true rfl) (Nat.le_of_ble_eq_true rfl) ⟨Nat.le_of_ble_eq_true rfl, Nat.le_of_ble_eq_true rfl⟩ (kX10_init_61 rfl) (fun v M2 q => ?_)
  subst q
  refine wp_aastW dX11_init_219 rfl rfl rfl (by decide) (by decide) (by decide) (fun h => absurd h (by decide)) ?_
  refine wp_iinc (L2 := [some (Rv 1), some (Iv 3)]) dX11_init_220 rfl (Nat.le_of_ble_eq_true rfl) (Nat.le_of_ble_eq_true rfl) rfl ?_
  refine wp_goto (tgt := 201) dX11_init_223 (by decide) ?_
  refine wp_iload_n dX11_init_201 rfl ?_
  refine wp_bipush dX11_init_202 (by decide) ?_
  refine wp_icmp_ge (tgt := 226) dX11_init_204 (by decide) (by decide) (by decide) (fun q => absurd q (by decide)) (fun _ => ?_)
  refine wp_aload_n dX11_init_207 rfl (by decide) ?_
  refine wp_getf (t := Rv 4) 4 dX11_init_208 (fl_X11_20 rfl) rfl rfl rfl ?_
  refine wp_iload_n dX11_init_211 rfl ?_
  refine wp_new (cl := 10) dX11_init_212 (by decide) (kl_X11_18 rfl) in_X10.1 in_X10.2 (by decide) rfl (okst_c _ (by decide)) ⟨Nat.le_of_ble_eq_true rfl, Nat.le_of_ble_eq_true rfl⟩ ?_
  refine wp_dup dX11_init_215 rfl ?_
  refine wp_callI (e1 := 0) (mc := 2) (ms := 42) (as := []) (S := [Rv 64, Iv 3, Rv 4]) (R2 := fun _ M2 => M2 = mkX10_init_64 _) dX11_init_216 (cs_X11_96 rfl) (by decide) rfl rfl (Nat.le_of_ble_eq_true rfl) (Nat.le_of_ble_eq_true rfl) ⟨Nat.le_of_ble_eq_true rfl, Nat.le_of_ble_eq_true rfl⟩ (kX10_init_64 rfl) (fun v M2 q => ?_)
  subst q
  refine wp_aastW dX11_init_219 rfl rfl rfl (by decide) (by decide) (by decide) (fun h => absurd h (by decide)) ?_
  refine wp_iinc (L2 := [some (Rv 1), some (Iv 4)]) dX11_init_220 rfl (Nat.le_of_ble_eq_true rfl) (Nat.le_of_ble_eq_true rfl) rfl ?_
  refine wp_goto (tgt := 201) dX11_init_223 (by decide) ?_
  refine wp_iload_n dX11_init_201 rfl ?_
  refine wp_bipush dX11_init_202 (by decide) ?_
  refine wp_icmp_ge (tgt := 226) dX11_init_204 (by decide) (by decide) (by decide) (fun q => absurd q (by decide)) (fun _ => ?_)
  refine wp_aload_n dX11_init_207 rfl (by decide) ?_
  refine wp_getf (t := Rv 4) 4 dX11_init_208 (fl_X11_20 rfl) rfl rfl rfl ?_
  refine wp_iload_n dX11_init_211 rfl ?_
  refine wp_new (cl := 10) dX11_init_212 (by decide) (kl_X11_18 rfl) in_X10.1 in_X10.2 (by decide) rfl (okst_c _ (by decide)) ⟨Nat.le_of_ble_eq_true rfl, Nat.le_of_ble_eq_true rfl⟩ ?_
  refine wp_dup dX11_init_215 rfl ?_
  refine wp_callI (e1 := 0) (mc := 2) (ms := 42) (as := []) (S := [Rv 67, Iv 4, Rv 4]) (R2 := fun _ M2 => M2 = mkX10_init_67 _) dX11_init_216 (cs_X11_96 rfl) (by decide) rfl rfl (Nat.le_of_ble_eq_true rfl) (Nat.le_of_ble_eq_true rfl) ⟨Nat.le_of_ble_eq_true rfl, Nat.le_of_ble_eq_true rfl⟩ (kX10_init_67 rfl) (fun v M2 q => ?_)
  subst q
  refine wp_aastW dX11_init_219 rfl rfl rfl (by decide) (by decide) (by decide) (fun h => absurd h (by decide)) ?_
  refine wp_iinc (L2 := [some (Rv 1), some (Iv 5)]) dX11_init_220 rfl (Nat.le_of_ble_eq_true rfl) (Nat.le_of_ble_eq_true rfl) rfl ?_
  refine wp_goto (tgt := 201) dX11_init_223 (by decide) ?_
  refine wp_iload_n dX11_init_201 rfl ?_
  refine wp_bipush dX11_init_202 (by decide) ?_
  refine wp_icmp_ge (tgt := 226) dX11_init_204 (by decide) (by decide) (by decide) (fun q => absurd q (by decide)) (fun _ => ?_)
  refine wp_aload_n dX11_init_207 rfl (by decide) ?_
  refine wp_getf (t := Rv 4) 4 dX11_init_208 (fl_X11_20 rfl) rfl rfl rfl ?_
  refine wp_iload_n dX11_init_211 rfl ?_
  refine wp_new (cl := 10) dX11_init_212 (by decide) (kl_X11_18 rfl) in_X10.1 in_X10.2 (by decide) rfl (okst_c _ (by decide)) ⟨Nat.le_of_ble_eq_true rfl, Nat.le_of_ble_eq_true rfl⟩ ?_
  refine wp_dup dX11_init_215 rfl ?_
  refine wp_callI (e1 := 0) (mc := 2) (ms := 42) (as := []) (S := [Rv 70, Iv 5, Rv 4]) (R2 := fun _ M2 => M2 = mkX10_init_70 _) dX11_init_216 (cs_X11_96 rfl) (by decide) rfl rfl (Nat.le_of_ble_eq_true rfl) (Nat.le_of_ble_eq_true rfl) ⟨Nat.le_of_ble_eq_true rfl, Nat.le_of_ble_eq_true rfl⟩ (kX10_init_70 rfl) (fun v M2 q => ?_)
  subst q
  refine wp_aastW dX11_init_219 rfl rfl rfl (by decide) (by decide) (by decide) (fun h => absurd h (by decide)) ?_
  refine wp_iinc (L2 := [some (Rv 1), some (Iv 6)]) dX11_init_220 rfl (Nat.le_of_ble_eq_true rfl) (Nat.le_of_ble_eq_true rfl) rfl ?_
  refine wp_goto (tgt := 201) dX11_init_223 (by decide) ?_
  refine wp_iload_n dX11_init_201 rfl ?_
  refine wp_bipush dX11_init_202 (by decide) ?_
  refine wp_icmp_ge (tgt := 226) dX11_init_204 (by decide) (by decide) (by decide) (fun q => absurd q (by decide)) (fun _ => ?_)
  refine wp_aload_n dX11_init_207 rfl (by decide) ?_
  refine wp_getf (t := Rv 4) 4 dX11_init_208 (fl_X11_20 rfl) rfl rfl rfl ?_
  refine wp_iload_n dX11_init_211 rfl ?_
  refine wp_new (cl := 10) dX11_init_212 (by decide) (kl_X11_18 rfl) in_X10.1 in_X10.2 (by decide) rfl (okst_c _ (by decide)) ⟨Nat.le_of_ble_eq_true rfl, Nat.le_of_ble_eq_true rfl⟩ ?_
  refine wp_dup dX11_init_215 rfl ?_
  refine wp_callI (e1 := 0) (mc := 2) (ms := 42) (as := []) (S := [Rv 73, Iv 6, Rv 4]) (R2 := fun _ M2 => M2 = mkX10_init_73 _) dX11_init_216 (cs_X11_96 rfl) (by decide) rfl rfl (Nat.le_of_ble_eq_true rfl) (Nat.le_of_ble_eq_true rfl) ⟨Nat.le_of_ble_eq_true rfl, Nat.le_of_ble_eq_true rfl⟩ (kX10_init_73 rfl) (fun v M2 q => ?_)
  subst q
  refine wp_aastW dX11_init_219 rfl rfl rfl (by decide) (by decide) (by decide) (fun h => absurd h (by decide)) ?_
  refine wp_iinc (L2 := [some (Rv 1), some (Iv 7)]) dX11_init_220 rfl (Nat.le_of_ble_eq_true rfl) (Nat.le_of_ble_eq_true rfl) rfl ?_
  refine wp_goto (tgt := 201) dX11_init_223 (by decide) ?_
  refine wp_iload_n dX11_init_201 rfl ?_
  refine wp_bipush dX11_init_202 (by decide) ?_
  refine wp_icmp_ge (tgt := 226) dX11_init_204 (by decide) (by decide) (by decide) (fun q => absurd q (by decide)) (fun _ => ?_)
  refine wp_aload_n dX11_init_207 rfl (by decide) ?_
  refine wp_getf (t := Rv 4) 4 dX11_init_208 (fl_X11_20 rfl) rfl rfl rfl ?_
  refine wp_iload_n dX11_init_211 rfl ?_
  refine wp_new (cl := 10) dX11_init_212 (by decide) (kl_X11_18 rfl) in_X10.1 in_X10.2 (by decide) rfl (okst_c _ (by decide)) ⟨Nat.le_of_ble_eq_true rfl, Nat.le_of_ble_eq_true rfl⟩ ?_
  refine wp_dup dX11_init_215 rfl ?_
  refine wp_callI (e1 := 0) (mc := 2) (ms := 42) (as := []) (S := [Rv 76, Iv 7, Rv 4]) (R2 := fun _ M2 => M2 = mkX10_init_76 _) dX11_init_216 (cs_X11_96 rfl) (by decide) rfl rfl (Nat.le_of_ble_eq_true rfl) (Nat.le_of_ble_eq_true rfl) ⟨Nat.le_of_ble_eq_true rfl, Nat.le_of_ble_eq_true rfl⟩ (kX10_init_76 rfl) (fun v M2 q => ?_)
  subst q
  refine wp_aastW dX11_init_219 rfl rfl rfl (by decide) (by decide) (by decide) (fun h => absurd h (by decide)) ?_
  refine wp_iinc (L2 := [some (Rv 1), some (Iv 8)]) dX11_init_220 rfl (Nat.le_of_ble_eq_true rfl) (Nat.le_of_ble_eq_true rfl) rfl ?_
  refine wp_goto (tgt := 201) dX11_init_223 (by decide) ?_
  refine wp_iload_n dX11_init_201 rfl ?_
  refine wp_bipush dX11_init_202 (by decide) ?_
  refine wp_icmp_ge (tgt := 226) dX11_init_204 (by decide) (by decide) (by decide) (fun _ => ?_) (fun q => absurd q (by decide))
  refine wp_sipush dX11_init_226 (by decide) ?_
  refine wp_newJ (n := 1681) dX11_init_229 (by decide) rfl (by decide) ⟨Nat.le_of_ble_eq_true rfl, Nat.le_of_ble_eq_true rfl⟩ ?_
  refine wp_astore_n (L2 := [some (Rv 1), some (Rv 79)]) dX11_init_231 (Nat.le_of_ble_eq_true rfl) (Nat.le_of_ble_eq_true rfl) rfl (by decide) ?_
  refine wp_aload_n dX11_init_232 rfl (by decide) ?_
  refine wp_new (cl := 2) dX11_init_233 (by decide) (kl_X11_97 rfl) in_X2.1 in_X2.2 (by decide) rfl (okst_c _ (by decide)) ⟨Nat.le_of_ble_eq_true rfl, Nat.le_of_ble_eq_true rfl⟩ ?_
  refine wp_dup dX11_init_236 rfl ?_
  refine wp_aload_n dX11_init_237 rfl (by decide) ?_
  refine wp_callI (e1 := 0) (mc := 2) (ms := 247) (as := [Rv 79]) (S := [Rv 80, Rv 1]) (R2 := fun _ M2 => M2 = mkX2_init_80 _) dX11_init_238 (cs_X11_99 rfl) (by decide) rfl rfl (Nat.le_of_ble_eq_true rfl) (Nat.le_of_ble_eq_true rfl) ⟨Nat.le_of_ble_eq_true rfl, Nat.le_of_ble_eq_true rfl⟩ (kX2_init_80 rfl) (fun v M2 q => ?_)
  subst q
  refine wp_putF (x := 80) dX11_init_241 (fl_X11_102 rfl) rfl (fun h => absurd h (by decide)) rfl rfl rfl rfl trivial ?_
  refine wp_aload_n dX11_init_244 rfl (by decide) ?_
  refine wp_new (cl := 4) dX11_init_245 (by decide) (kl_X11_106 rfl) in_X4.1 in_X4.2 (by decide) rfl (okst_c _ (by decide)) ⟨Nat.le_of_ble_eq_true rfl, Nat.le_of_ble_eq_true rfl⟩ ?_
  refine wp_dup dX11_init_248 rfl ?_
  refine wp_aload_n dX11_init_249 rfl (by decide) ?_
  refine wp_callI (e1 := 0) (mc := 4) (ms := 494) (as := [Rv 79]) (S := [Rv 83, Rv 1]) (R2 := fun _ M2 => M2 = mkX4_init_83 _) dX11_init_250 (cs_X11_108 rfl) (by decide) rfl rfl (Nat.le_of_ble_eq_true rfl) (Nat.le_of_ble_eq_true rfl) ⟨Nat.le_of_ble_eq_true rfl, Nat.le_of_ble_eq_true rfl⟩ (kX4_init_83 rfl) (fun v M2 q => ?_)
  subst q
  refine wp_putF (x := 83) dX11_init_253 (fl_X11_109 rfl) rfl (fun h => absurd h (by decide)) rfl rfl rfl rfl trivial ?_
  exact wp_vret dX11_init_256 rfl (Or.inl ⟨Nat.le_of_ble_eq_true rfl, Nat.le_of_ble_eq_true rfl⟩) rfl h
theorem kX11_init_1 {M : Mem} {Q : Vl → Mem → Prop} (h : Q (Iv 0) (mkX11_init_1 M)) : CL 0 2 88 (some (86, 4621)) yX11_init [Rv 1] M Q := enterG (by decide +kernel) (by exact Or.inl rfl) (Nat.le_of_ble_eq_true rfl) rfl (wkX11_init_1 h)
def mkX12_init_88 (M : Mem) : Mem := (up (up (up (up (up (up (up (up (up (up (up (up (up (up (up (up (up (up (up (up (up (setA (up (setA (up (setA (up (setA (up (setA (up (setA (up (setA (up (setA (up (setA (up (setA (up (setA (up (setA (up (setA (up (setA (up (setA (up (setA (up (setA (up (setA (up (setA (up (setA (up (setA (up (setA (up (setA (up (setA (up (setA (up (setA (up (setA (up (setA (up (setA (up (setA (up (setA M 89 (fun _ => 0)) 88 1 89) 90 (fun _ => 0)) 88 6 90) 91 (fun _ => 0)) 88 7 91) 92 (fun _ => 0)) 88 8 92) 93 (fun _ => 0)) 88 9 93) 94 (fun _ => 0)) 88 10 94) 95 (fun _ => 0)) 88 12 95) 96 (fun _ => 0)) 88 13 96) 97 (fun _ => 0)) 88 14 97) 98 (fun _ => 0)) 88 15 98) 99 (fun _ => 0)) 88 16 99) 100 (fun _ => 0)) 88 18 100) 101 (fun _ => 0)) 88 19 101) 102 (fun _ => 0)) 88 20 102) 103 (fun _ => 0)) 88 22 103) 104 (fun _ => 0)) 88 23 104) 105 (fun _ => 0)) 88 24 105) 106 (fun _ => 0)) 88 25 106) 107 (fun _ => 0)) 88 26 107) 108 (fun _ => 0)) 88 29 108) 109 (fun _ => 0)) 88 30 109) 110 (fun _ => 0)) 88 31 110) 111 (fun _ => 0)) 88 32 111) 112 (fun _ => 0)) 88 34 112) 113 (fun _ => 0)) 88 36 113) 114 (fun _ => 0)) 88 37 114) 115 (fun _ => 0)) 88 38 115) 116 (fun _ => 0)) 88 39 116) 117 (fun _ => 0)) 88 40 117) 118 (fun _ => 0)) 88 41 118) 119 (fun _ => 0)) 88 42 119) 88 5 1) 88 11 3) 90 0 (-1)) 90 1 (-1)) 90 2 (-1)) 90 3 (-1)) 90 4 (-1)) 90 5 (-1)) 93 0 (-1)) 93 1 (-1)) 93 2 (-1)) 93 3 (-1)) 95 0 (-1)) 95 1 (-1)) 95 2 (-1)) 95 3 (-1)) 95 4 (-1)) 95 5 (-1)) 95 6 (-1)) 95 7 (-1))
set_option maxRecDepth 20000 in
theorem wkX12_init_88 {M : Mem} {Q : Vl → Mem → Prop} (h : Q (Iv 0) (mkX12_init_88 M)) : WPg 0 89 120 (some (31, 31747)) 0 0 yX12_init 0 [some (Rv 88), none] [] M Q := by
  refine wp_aload_n dX12_init_0 rfl (by decide) ?_
  refine wp_objInit dX12_init_1 (ml_X12_1 rfl) (by decide) (Nat.le_of_ble_eq_true rfl) (by decide) ?_
  refine wp_aload_n dX12_init_4 rfl (by decide) ?_
  refine wp_bipush dX12_init_5 (by decide) ?_
  refine wp_newI (n := 6) dX12_init_7 (by decide) rfl (by decide) ⟨Nat.le_of_ble_eq_true rfl, Nat.le_of_ble_eq_true rfl⟩ ?_
  refine wp_putF (x := 89) dX12_init_9 (fl_X12_7 rfl) rfl (fun h => absurd h (by decide)) rfl rfl rfl rfl trivial ?_
  refine wp_aload_n dX12_init_12 rfl (by decide) ?_
  refine wp_bipush dX12_init_13 (by decide) ?_
  refine wp_newI (n := 6) dX12_init_15 (by decide) rfl (by decide) ⟨Nat.le_of_ble_eq_true rfl, Nat.le_of_ble_eq_true rfl⟩ ?_
  refine wp_putF (x := 90) dX12_init_17 (fl_X12_13 rfl) rfl (fun h => absurd h (by decide)) rfl rfl rfl rfl trivial ?_
  refine wp_aload_n dX12_init_20 rfl (by decide) ?_
  refine wp_sipush dX12_init_21 (by decide) ?_
  refine wp_newI (n := 240) dX12_init_24 (by decide) rfl (by decide) ⟨Nat.le_of_ble_eq_true rfl, Nat.le_of_ble_eq_true rfl⟩ ?_
  refine wp_putF (x := 91) dX12_init_26 (fl_X12_16 rfl) rfl (fun h => absurd h (by decide)) rfl rfl rfl rfl trivial ?_
  refine wp_aload_n dX12_init_29 rfl (by decide) ?_
  refine wp_bipush dX12_init_30 (by decide) ?_
  refine wp_newI (n := 40) dX12_init_32 (by decide) rfl (by decide) ⟨Nat.le_of_ble_eq_true rfl, Nat.le_of_ble_eq_true rfl⟩ ?_
  refine wp_putF (x := 92) dX12_init_34 (fl_X12_19 rfl) rfl (fun h => absurd h (by decide)) rfl rfl rfl rfl trivial ?_
  refine wp_aload_n dX12_init_37 rfl (by decide) ?_
  refine wp_iconst dX12_init_38 ?_
  refine wp_newI (n := 4) dX12_init_39 (by decide) rfl (by decide) ⟨Nat.le_of_ble_eq_true rfl, Nat.le_of_ble_eq_true rfl⟩ ?_
  refine wp_putF (x := 93) dX12_init_41 (fl_X12_22 rfl) rfl (fun h => absurd h (by decide)) rfl rfl rfl rfl trivial ?_
  refine wp_aload_n dX12_init_44 rfl (by decide) ?_
  refine wp_sipush dX12_init_45 (by decide) ?_
  refine wp_newB (n := 240) dX12_init_48 (by decide) rfl (by decide) ⟨Nat.le_of_ble_eq_true rfl, Nat.le_of_ble_eq_true rfl⟩ ?_
  refine wp_putF (x := 94) dX12_init_50 (fl_X12_25 rfl) rfl (fun h => absurd h (by decide)) rfl rfl rfl rfl trivial ?_
  refine wp_aload_n dX12_init_53 rfl (by decide) ?_
  refine wp_bipush dX12_init_54 (by decide) ?_
  refine wp_newI (n := 8) dX12_init_56 (by decide) rfl (by decide) ⟨Nat.le_of_ble_eq_true rfl, Nat.le_of_ble_eq_true rfl⟩ ?_
  refine wp_putF (x := 95) dX12_init_58 (fl_X12_29 rfl) rfl (fun h => absurd h (by decide)) rfl rfl rfl rfl trivial ?_
  refine wp_aload_n dX12_init_61 rfl (by decide) ?_
  refine wp_sipush dX12_init_62 (by decide) ?_
  refine wp_newI (n := 320) dX12_init_65 (by decide) rfl (by decide) ⟨Nat.le_of_ble_eq_true rfl, Nat.le_of_ble_eq_true rfl⟩ ?_
  refine wp_putF (x := 96) dX12_init_67 (fl_X12_32 rfl) rfl (fun h => absurd h (by decide)) rfl rfl rfl rfl trivial ?_
  refine wp_aload_n dX12_init_70 rfl (by decide) ?_
  refine wp_bipush dX12_init_71 (by decide) ?_
  refine wp_newI (n := 8) dX12_init_73 (by decide) rfl (by decide) ⟨Nat.le_of_ble_eq_true rfl, Nat.le_of_ble_eq_true rfl⟩ ?_
  refine wp_putF (x := 97) dX12_init_75 (fl_X12_35 rfl) rfl (fun h => absurd h (by decide)) rfl rfl rfl rfl trivial ?_
  refine wp_aload_n dX12_init_78 rfl (by decide) ?_
  refine wp_bipush dX12_init_79 (by decide) ?_
  refine wp_newI (n := 8) dX12_init_81 (by decide) rfl (by decide) ⟨Nat.le_of_ble_eq_true rfl, Nat.le_of_ble_eq_true rfl⟩ ?_
  refine wp_putF (x := 98) dX12_init_83 (fl_X12_38 rfl) rfl (fun h => absurd h (by decide)) rfl rfl rfl rfl trivial ?_
  refine wp_aload_n dX12_init_86 rfl (by decide) ?_
  refine wp_bipush dX12_init_87 (by decide) ?_
  refine wp_newI (n := 8) dX12_init_89 (by decide) rfl (by decide) ⟨Nat.le_of_ble_eq_true rfl, Nat.le_of_ble_eq_true rfl⟩ ?_
  refine wp_putF (x := 99) dX12_init_91 (fl_X12_41 rfl) rfl (fun h => absurd h (by decide)) rfl rfl rfl rfl trivial ?_
  refine wp_aload_n dX12_init_94 rfl (by decide) ?_
  refine wp_bipush dX12_init_95 (by decide) ?_
  refine wp_newI (n := 40) dX12_init_97 (by decide) rfl (by decide) ⟨Nat.le_of_ble_eq_true rfl, Nat.le_of_ble_eq_true rfl⟩ ?_
  refine wp_putF (x := 100) dX12_init_99 (fl_X12_44 rfl) rfl (fun h => absurd h (by decide)) rfl rfl rfl rfl trivial ?_
  refine wp_aload_n dX12_init_102 rfl (by decide) ?_
  refine wp_iconst dX12_init_103 ?_
  refine wp_newI (n := 5) dX12_init_104 (by decide) rfl (by decide) ⟨Nat.le_of_ble_eq_true rfl, Nat.le_of_ble_eq_true rfl⟩ ?_
  refine wp_putF (x := 101) dX12_init_106 (fl_X12_47 rfl) rfl (fun h => absurd h (by decide)) rfl rfl rfl rfl trivial ?_
  refine wp_aload_n dX12_init_109 rfl (by decide) ?_
  refine wp_iconst dX12_init_110 ?_
  refine wp_newI (n := 5) dX12_init_111 (by decide) rfl (by decide) ⟨Nat.le_of_ble_eq_true rfl, Nat.le_of_ble_eq_true rfl⟩ ?_
  refine wp_putF (x := 102) dX12_init_113 (fl_X12_50 rfl) rfl (fun h => absurd h (by decide)) rfl rfl rfl rfl trivial ?_
  refine wp_aload_n dX12_init_116 rfl (by decide) ?_
  refine wp_bipush dX12_init_117 (by decide) ?_
  refine wp_newJ (n := 41) dX12_init_119 (by decide) rfl (by decide) ⟨Nat.le_of_ble_eq_true rfl, Nat.le_of_ble_eq_true rfl⟩ ?_
  refine wp_putF (x := 103) dX12_init_121 (fl_X12_53 rfl) rfl (fun h => absurd h (by decide)) rfl rfl rfl rfl trivial ?_
  refine wp_aload_n dX12_init_124 rfl (by decide) ?_
  refine wp_bipush dX12_init_125 (by decide) ?_
  refine wp_newI (n := 40) dX12_init_127 (by decide) rfl (by decide) ⟨Nat.le_of_ble_eq_true rfl, Nat.le_of_ble_eq_true rfl⟩ ?_
  refine wp_putF (x := 104) dX12_init_129 (fl_X12_57 rfl) rfl (fun h => absurd h (by decide)) rfl rfl rfl rfl trivial ?_
  refine wp_aload_n dX12_init_132 rfl (by decide) ?_
  refine wp_bipush dX12_init_133 (by decide) ?_
  refine wp_newI (n := 40) dX12_init_135 (by decide) rfl (by decide) ⟨Nat.le_of_ble_eq_true rfl, Nat.le_of_ble_eq_true rfl⟩ ?_
  refine wp_putF (x := 105) dX12_init_137 (fl_X12_60 rfl) rfl (fun h => absurd h (by decide)) rfl rfl rfl rfl trivial ?_
  refine wp_aload_n dX12_init_140 rfl (by decide) ?_
  refine wp_bipush dX12_init_141 (by decide) ?_
  refine wp_newI (n := 41) dX12_init_143 (by decide) rfl (by decide) ⟨Nat.le_of_ble_eq_true rfl, Nat.le_of_ble_eq_true rfl⟩ ?_
  refine wp_putF (x := 106) dX12_init_145 (fl_X12_63 rfl) rfl (fun h => absurd h (by decide)) rfl rfl rfl rfl trivial ?_
  refine wp_aload_n dX12_init_148 rfl (by decide) ?_
  refine wp_sipush dX12_init_149 (by decide) ?_
  refine wp_newJ (n := 1681) dX12_init_152 (by decide) rfl (by decide) ⟨Nat.le_of_ble_eq_true rfl, Nat.le_of_ble_eq_true rfl⟩ ?_
  refine wp_putF (x := 107) dX12_init_154 (fl_X12_66 rfl) rfl (fun h => absurd h (by decide)) rfl rfl rfl rfl trivial ?_
  refine wp_aload_n dX12_init_157 rfl (by decide) ?_
  refine wp_sipush dX12_init_158 (by decide) ?_
  refine wp_newI (n := 1700) dX12_init_161 (by decide) rfl (by decide) ⟨Nat.le_of_ble_eq_true rfl, Nat.le_of_ble_eq_true rfl⟩ ?_
  refine wp_putF (x := 108) dX12_init_163 (fl_X12_69 rfl) rfl (fun h => absurd h (by decide)) rfl rfl rfl rfl trivial ?_
  refine wp_aload_n dX12_init_166 rfl (by decide) ?_
  refine wp_sipush dX12_init_167 (by decide) ?_
  refine wp_newI (n := 1700) dX12_init_170 (by decide) rfl (by decide) ⟨Nat.le_of_ble_eq_true rfl, Nat.le_of_ble_eq_true rfl⟩ ?_
  refine wp_putF (x := 109) dX12_init_172 (fl_X12_72 rfl) rfl (fun h => absurd h (by decide)) rfl rfl rfl rfl trivial ?_
  refine wp_aload_n dX12_init_175 rfl (by decide) ?_
  refine wp_sipush dX12_init_176 (by decide) ?_
  refine wp_newI (n := 1700) dX12_init_179 (by decide) rfl (by decide) ⟨Nat.le_of_ble_eq_true rfl, Nat.le_of_ble_eq_true rfl⟩ ?_
  refine wp_putF (x := 110) dX12_init_181 (fl_X12_75 rfl) rfl (fun h => absurd h (by decide)) rfl rfl rfl rfl trivial ?_
  refine wp_aload_n dX12_init_184 rfl (by decide) ?_
  refine wp_sipush dX12_init_185 (by decide) ?_
  refine wp_newZ (n := 1700) dX12_init_188 (by decide) rfl (by decide) ⟨Nat.le_of_ble_eq_true rfl, Nat.le_of_ble_eq_true rfl⟩ ?_
  refine wp_putF (x := 111) dX12_init_190 (fl_X12_78 rfl) rfl (fun h => absurd h (by decide)) rfl rfl rfl rfl trivial ?_
  refine wp_aload_n dX12_init_193 rfl (by decide) ?_
  refine wp_bipush dX12_init_194 (by decide) ?_
  refine wp_newI (n := 40) dX12_init_196 (by decide) rfl (by decide) ⟨Nat.le_of_ble_eq_true rfl, Nat.le_of_ble_eq_true rfl⟩ ?_
  refine wp_putF (x := 112) dX12_init_198 (fl_X12_82 rfl) rfl (fun h => absurd h (by decide)) rfl rfl rfl rfl trivial ?_
  refine wp_aload_n dX12_init_201 rfl (by decide) ?_
  refine wp_iconst dX12_init_202 ?_
  refine wp_newI (n := 4) dX12_init_203 (by decide) rfl (by decide) ⟨Nat.le_of_ble_eq_true rfl, Nat.le_of_ble_eq_true rfl⟩ ?_
  refine wp_putF (x := 113) dX12_init_205 (fl_X12_85 rfl) rfl (fun h => absurd h (by decide)) rfl rfl rfl rfl trivial ?_
  refine wp_aload_n dX12_init_208 rfl (by decide) ?_
  refine wp_sipush dX12_init_209 (by decide) ?_
  refine wp_newI (n := 20001) dX12_init_212 (by decide) rfl (by decide) ⟨Nat.le_of_ble_eq_true rfl, Nat.le_of_ble_eq_true rfl⟩ ?_
  refine wp_putF (x := 114) dX12_init_214 (fl_X12_88 rfl) rfl (fun h => absurd h (by decide)) rfl rfl rfl rfl trivial ?_
  refine wp_aload_n dX12_init_217 rfl (by decide) ?_
  refine wp_iconst dX12_init_218 ?_
  refine wp_newI (n := 4) dX12_init_219 (by decide) rfl (by decide) ⟨Nat.le_of_ble_eq_true rfl, Nat.le_of_ble_eq_true rfl⟩ ?_
  refine wp_putF (x := 115) dX12_init_221 (fl_X12_91 rfl) rfl (fun h => absurd h (by decide)) rfl rfl rfl rfl trivial ?_
  refine wp_aload_n dX12_init_224 rfl (by decide) ?_
  refine wp_sipush dX12_init_225 (by decide) ?_
  refine wp_newJ (n := 1681) dX12_init_228 (by decide) rfl (by decide) ⟨Nat.le_of_ble_eq_true rfl, Nat.le_of_ble_eq_true rfl⟩ ?_
  refine wp_putF (x := 116) dX12_init_230 (fl_X12_94 rfl) rfl (fun h => absurd h (by decide)) rfl rfl rfl rfl trivial ?_
  refine wp_aload_n dX12_init_233 rfl (by decide) ?_
  refine wp_sipush dX12_init_234 (by decide) ?_
  refine wp_newJ (n := 216) dX12_init_237 (by decide) rfl (by decide) ⟨Nat.le_of_ble_eq_true rfl, Nat.le_of_ble_eq_true rfl⟩ ?_
  refine wp_putF (x := 117) dX12_init_239 (fl_X12_97 rfl) rfl (fun h => absurd h (by decide)) rfl rfl rfl rfl trivial ?_
  refine wp_aload_n dX12_init_242 rfl (by decide) ?_
  refine wp_sipush dX12_init_243 (by decide) ?_
  refine wp_newJ (n := 216) dX12_init_246 (by decide) rfl (by decide) ⟨Nat.le_of_ble_eq_true rfl, Nat.le_of_ble_eq_true rfl⟩ ?_
  refine wp_putF (x := 118) dX12_init_248 (fl_X12_100 rfl) rfl (fun h => absurd h (by decide)) rfl rfl rfl rfl trivial ?_
  refine wp_aload_n dX12_init_251 rfl (by decide) ?_
  refine wp_iconst dX12_init_252 ?_
  refine wp_newJ (n := 4) dX12_init_253 (by decide) rfl (by decide) ⟨Nat.le_of_ble_eq_true rfl, Nat.le_of_ble_eq_true rfl⟩ ?_
  refine wp_putF (x := 119) dX12_init_255 (fl_X12_103 rfl) rfl (fun h => absurd h (by decide)) rfl rfl rfl rfl trivial ?_
  refine wp_aload_n dX12_init_258 rfl (by decide) ?_
  refine wp_lconst1 dX12_init_259 ?_
  refine wp_putf (x := 1) dX12_init_260 (fl_X12_106 rfl) rfl (fun h => absurd h (by decide)) rfl rfl trivial ?_
  refine wp_aload_n dX12_init_263 rfl (by decide) ?_
  refine wp_iconst dX12_init_264 ?_
  refine wp_putf (x := 3) dX12_init_265 (fl_X12_110 rfl) rfl (fun h => absurd h (by decide)) rfl rfl trivial ?_
  refine wp_iconst dX12_init_268 ?_
  refine wp_istore_n (L2 := [some (Rv 88), some (Iv 0)]) dX12_init_269 (Nat.le_of_ble_eq_true rfl) (Nat.le_of_ble_eq_true rfl) rfl ?_
  refine wp_iload_n dX12_init_270 rfl ?_
  refine wp_bipush dX12_init_271 (by decide) ?_
  refine wp_icmp_ge (tgt := 289) dX12_init_273 (by decide) (by decide) (by decide) (fun q => absurd q (by decide)) (fun _ => ?_)
  refine wp_aload_n dX12_init_276 rfl (by decide) ?_
  refine wp_getf (t := Rv 90) 90 dX12_init_277 (fl_X12_13 rfl) rfl rfl rfl ?_
  refine wp_iload_n dX12_init_280 rfl ?_
  refine wp_iconst dX12_init_281 ?_
  refine wp_iast dX12_init_282 rfl rfl (by decide) (by decide) (by decide) ?_
  refine wp_iinc (L2 := [some (Rv 88), some (Iv 1)]) dX12_init_283 rfl (Nat.le_of_ble_eq_true rfl) (Nat.le_of_ble_eq_true rfl) rfl ?_
  refine wp_goto (tgt := 270) dX12_init_286 (by decide) ?_
  refine wp_iload_n dX12_init_270 rfl ?_
  refine wp_bipush dX12_init_271 (by decide) ?_
  refine wp_icmp_ge (tgt := 289) dX12_init_273 (by decide) (by decide) (by decide) (fun q => absurd q (by decide)) (fun _ => ?_)
  refine wp_aload_n dX12_init_276 rfl (by decide) ?_
  refine wp_getf (t := Rv 90) 90 dX12_init_277 (fl_X12_13 rfl) rfl rfl rfl ?_
  refine wp_iload_n dX12_init_280 rfl ?_
  refine wp_iconst dX12_init_281 ?_
  refine wp_iast dX12_init_282 rfl rfl (by decide) (by decide) (by decide) ?_
  refine wp_iinc (L2 := [some (Rv 88), some (Iv 2)]) dX12_init_283 rfl (Nat.le_of_ble_eq_true rfl) (Nat.le_of_ble_eq_true rfl) rfl ?_
  refine wp_goto (tgt := 270) dX12_init_286 (by decide) ?_
  refine wp_iload_n dX12_init_270 rfl ?_
  refine wp_bipush dX12_init_271 (by decide) ?_
  refine wp_icmp_ge (tgt := 289) dX12_init_273 (by decide) (by decide) (by decide) (fun q => absurd q (by decide)) (fun _ => ?_)
  refine wp_aload_n dX12_init_276 rfl (by decide) ?_
  refine wp_getf (t := Rv 90) 90 dX12_init_277 (fl_X12_13 rfl) rfl rfl rfl ?_
  refine wp_iload_n dX12_init_280 rfl ?_
  refine wp_iconst dX12_init_281 ?_
  refine wp_iast dX12_init_282 rfl rfl (by decide) (by decide) (by decide) ?_
  refine wp_iinc (L2 := [some (Rv 88), some (Iv 3)]) dX12_init_283 rfl (Nat.le_of_ble_eq_true rfl) (Nat.le_of_ble_eq_true rfl) rfl ?_
  refine wp_goto (tgt := 270) dX12_init_286 (by decide) ?_
  refine wp_iload_n dX12_init_270 rfl ?_
  refine wp_bipush dX12_init_271 (by decide) ?_
  refine wp_icmp_ge (tgt := 289) dX12_init_273 (by decide) (by decide) (by decide) (fun q => absurd q (by decide)) (fun _ => ?_)
  refine wp_aload_n dX12_init_276 rfl (by decide) ?_
  refine wp_getf (t := Rv 90) 90 dX12_init_277 (fl_X12_13 rfl) rfl rfl rfl ?_
  refine wp_iload_n dX12_init_280 rfl ?_
  refine wp_iconst dX12_init_281 ?_
  refine wp_iast dX12_init_282 rfl rfl (by decide) (by decide) (by decide) ?_
  refine wp_iinc (L2 := [some (Rv 88), some (Iv 4)]) dX12_init_283 rfl (Nat.le_of_ble_eq_true rfl) (Nat.le_of_ble_eq_true rfl) rfl ?_
  refine wp_goto (tgt := 270) dX12_init_286 (by decide) ?_
  refine wp_iload_n dX12_init_270 rfl ?_
  refine wp_bipush dX12_init_271 (by decide) ?_
  refine wp_icmp_ge (tgt := 289) dX12_init_273 (by decide) (by decide) (by decide) (fun q => absurd q (by decide)) (fun _ => ?_)
  refine wp_aload_n dX12_init_276 rfl (by decide) ?_
  refine wp_getf (t := Rv 90) 90 dX12_init_277 (fl_X12_13 rfl) rfl rfl rfl ?_
  refine wp_iload_n dX12_init_280 rfl ?_
  refine wp_iconst dX12_init_281 ?_
  refine wp_iast dX12_init_282 rfl rfl (by decide) (by decide) (by decide) ?_
  refine wp_iinc (L2 := [some (Rv 88), some (Iv 5)]) dX12_init_283 rfl (Nat.le_of_ble_eq_true rfl) (Nat.le_of_ble_eq_true rfl) rfl ?_
  refine wp_goto (tgt := 270) dX12_init_286 (by decide) ?_
  refine wp_iload_n dX12_init_270 rfl ?_
  refine wp_bipush dX12_init_271 (by decide) ?_
  refine wp_icmp_ge (tgt := 289) dX12_init_273 (by decide) (by decide) (by decide) (fun q => absurd q (by decide)) (fun _ => ?_)
  refine wp_aload_n dX12_init_276 rfl (by decide) ?_
  refine wp_getf (t := Rv 90) 90 dX12_init_277 (fl_X12_13 rfl) rfl rfl rfl ?_
  refine wp_iload_n dX12_init_280 rfl ?_
  refine wp_iconst dX12_init_281 ?_
  refine wp_iast dX12_init_282 rfl rfl (by decide) (by decide) (by decide) ?_
  refine wp_iinc (L2 := [some (Rv 88), some (Iv 6)]) dX12_init_283 rfl (Nat.le_of_ble_eq_true rfl) (Nat.le_of_ble_eq_true rfl) rfl ?_
  refine wp_goto (tgt := 270) dX12_init_286 (by decide) ?_
  refine wp_iload_n dX12_init_270 rfl ?_
  refine wp_bipush dX12_init_271 (by decide) ?_
  refine wp_icmp_ge (tgt := 289) dX12_init_273 (by decide) (by decide) (by decide) (fun _ => ?_) (fun q => absurd q (by decide))
  refine wp_iconst dX12_init_289 ?_
  refine wp_istore_n (L2 := [some (Rv 88), some (Iv 0)]) dX12_init_290 (Nat.le_of_ble_eq_true rfl) (Nat.le_of_ble_eq_true rfl) rfl ?_
  refine wp_iload_n dX12_init_291 rfl ?_
  refine wp_iconst dX12_init_292 ?_
  refine wp_icmp_ge (tgt := 309) dX12_init_293 (by decide) (by decide) (by decide) (fun q => absurd q (by decide)) (fun _ => ?_)
  refine wp_aload_n dX12_init_296 rfl (by decide) ?_
  refine wp_getf (t := Rv 93) 93 dX12_init_297 (fl_X12_22 rfl) rfl rfl rfl ?_
  refine wp_iload_n dX12_init_300 rfl ?_
  refine wp_iconst dX12_init_301 ?_
  refine wp_iast dX12_init_302 rfl rfl (by decide) (by decide) (by decide) ?_
  refine wp_iinc (L2 := [some (Rv 88), some (Iv 1)]) dX12_init_303 rfl (Nat.le_of_ble_eq_true rfl) (Nat.le_of_ble_eq_true rfl) rfl ?_
  refine wp_goto (tgt := 291) dX12_init_306 (by decide) ?_
  refine wp_iload_n dX12_init_291 rfl ?_
  refine wp_iconst dX12_init_292 ?_
  refine wp_icmp_ge (tgt := 309) dX12_init_293 (by decide) (by decide) (by decide) (fun q => absurd q (by decide)) (fun _ => ?_)
  refine wp_aload_n dX12_init_296 rfl (by decide) ?_
  refine wp_getf (t := Rv 93) 93 dX12_init_297 (fl_X12_22 rfl) rfl rfl rfl ?_
  refine wp_iload_n dX12_init_300 rfl ?_
  refine wp_iconst dX12_init_301 ?_
  refine wp_iast dX12_init_302 rfl rfl (by decide) (by decide) (by decide) ?_
  refine wp_iinc (L2 := [some (Rv 88), some (Iv 2)]) dX12_init_303 rfl (Nat.le_of_ble_eq_true rfl) (Nat.le_of_ble_eq_true rfl) rfl ?_
  refine wp_goto (tgt := 291) dX12_init_306 (by decide) ?_
  refine wp_iload_n dX12_init_291 rfl ?_
  refine wp_iconst dX12_init_292 ?_
  refine wp_icmp_ge (tgt := 309) dX12_init_293 (by decide) (by decide) (by decide) (fun q => absurd q (by decide)) (fun _ => ?_)
  refine wp_aload_n dX12_init_296 rfl (by decide) ?_
  refine wp_getf (t := Rv 93) 93 dX12_init_297 (fl_X12_22 rfl) rfl rfl rfl ?_
  refine wp_iload_n dX12_init_300 rfl ?_
  refine wp_iconst dX12_init_301 ?_
  refine wp_iast dX12_init_302 rfl rfl (by decide) (by decide) (by decide) ?_
  refine wp_iinc (L2 := [some (Rv 88), some (Iv 3)]) dX12_init_303 rfl (Nat.le_of_ble_eq_true rfl) (Nat.le_of_ble_eq_true rfl) rfl ?_
  refine wp_goto (tgt := 291) dX12_init_306 (by decide) ?_
  refine wp_iload_n dX12_init_291 rfl ?_
  refine wp_iconst dX12_init_292 ?_
  refine wp_icmp_ge (tgt := 309) dX12_init_293 (by decide) (by decide) (by decide) (fun q => absurd q (by decide)) (fun _ => ?_)
  refine wp_aload_n dX12_init_296 rfl (by decide) ?_
  refine wp_getf (t := Rv 93) 93 dX12_init_297 (fl_X12_22 rfl) rfl rfl rfl ?_
  refine wp_iload_n dX12_init_300 rfl ?_
  refine wp_iconst dX12_init_301 ?_
  refine wp_iast dX12_init_302 rfl rfl (by decide) (by decide) (by decide) ?_
  refine wp_iinc (L2 := [some (Rv 88), some (Iv 4)]) dX12_init_303 rfl (Nat.le_of_ble_eq_true rfl) (Nat.le_of_ble_eq_true rfl) rfl ?_
  refine wp_goto (tgt := 291) dX12_init_306 (by decide) ?_
  refine wp_iload_n dX12_init_291 rfl ?_
  refine wp_iconst dX12_init_292 ?_
  refine wp_icmp_ge (tgt := 309) dX12_init_293 (by decide) (by decide) (by decide) (fun _ => ?_) (fun q => absurd q (by decide))
  refine wp_iconst dX12_init_309 ?_
  refine wp_istore_n (L2 := [some (Rv 88), some (Iv 0)]) dX12_init_310 (Nat.le_of_ble_eq_true rfl) (Nat.le_of_ble_eq_true rfl) rfl ?_
  refine wp_iload_n dX12_init_311 rfl ?_
  refine wp_bipush dX12_init_312 (by decide) ?_
  refine wp_icmp_ge (tgt := 330) dX12_init_314 (by decide) (by decide) (by decide) (fun q => absurd q (by decide)) (fun _ => ?_)
  refine wp_aload_n dX12_init_317 rfl (by decide) ?_
  refine wp_getf (t := Rv 95) 95 dX12_init_318 (fl_X12_29 rfl) rfl rfl rfl ?_
  refine wp_iload_n dX12_init_321 rfl ?_
  refine wp_iconst dX12_init_322 ?_
  refine wp_iast dX12_init_323 rfl rfl (by decide) (by decide) (by decide) ?_
  refine wp_iinc (L2 := [some (Rv 88), some (Iv 1)]) dX12_init_324 rfl (Nat.le_of_ble_eq_true rfl) (Nat.le_of_ble_eq_true rfl) rfl ?_
  refine wp_goto (tgt := 311) dX12_init_327 (by decide) ?_
  refine wp_iload_n dX12_init_311 rfl ?_
  refine wp_bipush dX12_init_312 (by decide) ?_
  refine wp_icmp_ge (tgt := 330) dX12_init_314 (by decide) (by decide) (by decide) (fun q => absurd q (by decide)) (fun _ => ?_)
  refine wp_aload_n dX12_init_317 rfl (by decide) ?_
  refine wp_getf (t := Rv 95) 95 dX12_init_318 (fl_X12_29 rfl) rfl rfl rfl ?_
  refine wp_iload_n dX12_init_321 rfl ?_
  refine wp_iconst dX12_init_322 ?_
  refine wp_iast dX12_init_323 rfl rfl (by decide) (by decide) (by decide) ?_
  refine wp_iinc (L2 := [some (Rv 88), some (Iv 2)]) dX12_init_324 rfl (Nat.le_of_ble_eq_true rfl) (Nat.le_of_ble_eq_true rfl) rfl ?_
  refine wp_goto (tgt := 311) dX12_init_327 (by decide) ?_
  refine wp_iload_n dX12_init_311 rfl ?_
  refine wp_bipush dX12_init_312 (by decide) ?_
  refine wp_icmp_ge (tgt := 330) dX12_init_314 (by decide) (by decide) (by decide) (fun q => absurd q (by decide)) (fun _ => ?_)
  refine wp_aload_n dX12_init_317 rfl (by decide) ?_
  refine wp_getf (t := Rv 95) 95 dX12_init_318 (fl_X12_29 rfl) rfl rfl rfl ?_
  refine wp_iload_n dX12_init_321 rfl ?_
  refine wp_iconst dX12_init_322 ?_
  refine wp_iast dX12_init_323 rfl rfl (by decide) (by decide) (by decide) ?_
  refine wp_iinc (L2 := [some (Rv 88), some (Iv 3)]) dX12_init_324 rfl (Nat.le_of_ble_eq_true rfl) (Nat.le_of_ble_eq_true rfl) rfl ?_
  refine wp_goto (tgt := 311) dX12_init_327 (by decide) ?_
  refine wp_iload_n dX12_init_311 rfl ?_
  refine wp_bipush dX12_init_312 (by decide) ?_
  refine wp_icmp_ge (tgt := 330) dX12_init_314 (by decide) (by decide) (by decide) (fun q => absurd q (by decide)) (fun _ => ?_)
  refine wp_aload_n dX12_init_317 rfl (by decide) ?_
  refine wp_getf (t := Rv 95) 95 dX12_init_318 (fl_X12_29 rfl) rfl rfl rfl ?_
  refine wp_iload_n dX12_init_321 rfl ?_
  refine wp_iconst dX12_init_322 ?_
  refine wp_iast dX12_init_323 rfl rfl (by decide) (by decide) (by decide) ?_
  refine wp_iinc (L2 := [some (Rv 88), some (Iv 4)]) dX12_init_324 rfl (Nat.le_of_ble_eq_true rfl) (Nat.le_of_ble_eq_true rfl) rfl ?_
  refine wp_goto (tgt := 311) dX12_init_327 (by decide) ?_
  refine wp_iload_n dX12_init_311 rfl ?_
  refine wp_bipush dX12_init_312 (by decide) ?_
  refine wp_icmp_ge (tgt := 330) dX12_init_314 (by decide) (by decide) (by decide) (fun q => absurd q (by decide)) (fun _ => ?_)
  refine wp_aload_n dX12_init_317 rfl (by decide) ?_
  refine wp_getf (t := Rv 95) 95 dX12_init_318 (fl_X12_29 rfl) rfl rfl rfl ?_
  refine wp_iload_n dX12_init_321 rfl ?_
  refine wp_iconst dX12_init_322 ?_
  refine wp_iast dX12_init_323 rfl rfl (by decide) (by decide) (by decide) ?_
  refine wp_iinc (L2 := [some (Rv 88), some (Iv 5)]) dX12_init_324 rfl (Nat.le_of_ble_eq_true rfl) (Nat.le_of_ble_eq_true rfl) rfl ?_
  refine wp_goto (tgt := 311) dX12_init_327 (by decide) ?_
  refine wp_iload_n dX12_init_311 rfl ?_
  refine wp_bipush dX12_init_312 (by decide) ?_
  refine wp_icmp_ge (tgt := 330) dX12_init_314 (by decide) (by decide) (by decide) (fun q => absurd q (by decide)) (fun _ => ?_)
  refine wp_aload_n dX12_init_317 rfl (by decide) ?_
  refine wp_getf (t := Rv 95) 95 dX12_init_318 (fl_X12_29 rfl) rfl rfl rfl ?_
  refine wp_iload_n dX12_init_321 rfl ?_
  refine wp_iconst dX12_init_322 ?_
  refine wp_iast dX12_init_323 rfl rfl (by decide) (by decide) (by decide) ?_
  refine wp_iinc (L2 := [some (Rv 88), some (Iv 6)]) dX12_init_324 rfl (Nat.le_of_ble_eq_true rfl) (Nat.le_of_ble_eq_true rfl) rfl ?_
  refine wp_goto (tgt := 311) dX12_init_327 (by decide) ?_
  refine wp_iload_n dX12_init_311 rfl ?_
  refine wp_bipush dX12_init_312 (by decide) ?_
  refine wp_icmp_ge (tgt := 330) dX12_init_314 (by decide) (by decide) (by decide) (fun q => absurd q (by decide)) (fun _ => ?_)
  refine wp_aload_n dX12_init_317 rfl (by decide) ?_
  refine wp_getf (t := Rv 95) 95 dX12_init_318 (fl_X12_29 rfl) rfl rfl rfl ?_
  refine wp_iload_n dX12_init_321 rfl ?_
  refine wp_iconst dX12_init_322 ?_
  refine wp_iast dX12_init_323 rfl rfl (by decide) (by decide) (by decide) ?_
  refine wp_iinc (L2 := [some (Rv 88), some (Iv 7)]) dX12_init_324 rfl (Nat.le_of_ble_eq_true rfl) (Nat.le_of_ble_eq_true rfl) rfl ?_
  refine wp_goto (tgt := 311) dX12_init_327 (by decide) ?_
  refine wp_iload_n dX12_init_311 rfl ?_
  refine wp_bipush dX12_init_312 (by decide) ?_
  refine wp_icmp_ge (tgt := 330) dX12_init_314 (by decide) (by decide) (by decide) (fun q => absurd q (by decide)) (fun _ => ?_)
  refine wp_aload_n dX12_init_317 rfl (by decide) ?_
  refine wp_getf (t := Rv 95) 95 dX12_init_318 (fl_X12_29 rfl) rfl rfl rfl ?_
  refine wp_iload_n dX12_init_321 rfl ?_
  refine wp_iconst dX12_init_322 ?_
  refine wp_iast dX12_init_323 rfl rfl (by decide) (by decide) (by decide) ?_
  refine wp_iinc (L2 := [some (Rv 88), some (Iv 8)]) dX12_init_324 rfl (Nat.le_of_ble_eq_true rfl) (Nat.le_of_ble_eq_true rfl) rfl ?_
  refine wp_goto (tgt := 311) dX12_init_327 (by decide) ?_
  refine wp_iload_n dX12_init_311 rfl ?_
  refine wp_bipush dX12_init_312 (by decide) ?_
  refine wp_icmp_ge (tgt := 330) dX12_init_314 (by decide) (by decide) (by decide) (fun _ => ?_) (fun q => absurd q (by decide))
  exact wp_vret dX12_init_330 rfl (Or.inl ⟨Nat.le_of_ble_eq_true rfl, Nat.le_of_ble_eq_true rfl⟩) rfl h
theorem kX12_init_88 {M : Mem} {Q : Vl → Mem → Prop} (h : Q (Iv 0) (mkX12_init_88 M)) : CL 0 89 120 (some (31, 31747)) yX12_init [Rv 88] M Q := enterG (by decide +kernel) (by exact Or.inl rfl) (Nat.le_of_ble_eq_true rfl) rfl (wkX12_init_88 h)
