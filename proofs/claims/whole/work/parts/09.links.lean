abbrev yX0_init : Yx := (⟨"WithinWords$Arches", "<init>", "()V"⟩, prog_2_method_1_code, 1, none, 2)
theorem ok_X0_init : Cond.initialized yX0_init.1.cls ∈ gtbl ∧ Cond.code yX0_init.1 yX0_init.2.1 yX0_init.2.2.1 yX0_init.2.2.2.1 ∈ gtbl ∧ (yX0_init.1.cls ≠ "java/lang/invoke/MethodHandle" ∧ yX0_init.1.cls ≠ "java/lang/invoke/VarHandle" ∧ (parseMethodDescriptor yX0_init.1.desc).map (fun d => d.parameters.length) = some 0) ∧ yX0_init.2.2.1 ≤ 45 := ⟨tb_1 4 rfl rfl, tb_1 81 rfl rfl, by decide +kernel, by decide⟩
theorem im_X0_init : Cond.instanceMethod yX0_init.1 ∈ gtbl := tb_1 80 rfl rfl
abbrev yX0_read : Yx := (⟨"WithinWords$Arches", "read", "(LWithinWords$Line;I)V"⟩, prog_2_method_2_code, 6, none, 2)
theorem ok_X0_read : Cond.initialized yX0_read.1.cls ∈ gtbl ∧ Cond.code yX0_read.1 yX0_read.2.1 yX0_read.2.2.1 yX0_read.2.2.2.1 ∈ gtbl ∧ (yX0_read.1.cls ≠ "java/lang/invoke/MethodHandle" ∧ yX0_read.1.cls ≠ "java/lang/invoke/VarHandle" ∧ (parseMethodDescriptor yX0_read.1.desc).map (fun d => d.parameters.length) = some 2) ∧ yX0_read.2.2.1 ≤ 45 := ⟨tb_1 4 rfl rfl, tb_3 175 rfl rfl, by decide +kernel, by decide⟩
theorem im_X0_read : Cond.instanceMethod yX0_read.1 ∈ gtbl := tb_3 173 rfl rfl
theorem se_X0_read : Cond.selects yX0_read.1.cls yX0_read.1 yX0_read.1 ∈ gtbl := tb_3 174 rfl rfl
abbrev yX0_toClose : Yx := (⟨"WithinWords$Arches", "toClose", "(II)I"⟩, prog_2_method_3_code, 3, some .int, 1)
theorem ok_X0_toClose : Cond.initialized yX0_toClose.1.cls ∈ gtbl ∧ Cond.code yX0_toClose.1 yX0_toClose.2.1 yX0_toClose.2.2.1 yX0_toClose.2.2.2.1 ∈ gtbl ∧ (yX0_toClose.1.cls ≠ "java/lang/invoke/MethodHandle" ∧ yX0_toClose.1.cls ≠ "java/lang/invoke/VarHandle" ∧ (parseMethodDescriptor yX0_toClose.1.desc).map (fun d => d.parameters.length) = some 2) ∧ yX0_toClose.2.2.1 ≤ 45 := ⟨tb_1 4 rfl rfl, tb_3 208 rfl rfl, by decide +kernel, by decide⟩
theorem im_X0_toClose : Cond.instanceMethod yX0_toClose.1 ∈ gtbl := tb_3 206 rfl rfl
theorem se_X0_toClose : Cond.selects yX0_toClose.1.cls yX0_toClose.1 yX0_toClose.1 ∈ gtbl := tb_3 207 rfl rfl
abbrev yX0_readAbsent : Yx := (⟨"WithinWords$Arches", "readAbsent", "(LWithinWords$Line;I)V"⟩, prog_2_method_4_code, 12, none, 3)
theorem ok_X0_readAbsent : Cond.initialized yX0_readAbsent.1.cls ∈ gtbl ∧ Cond.code yX0_readAbsent.1 yX0_readAbsent.2.1 yX0_readAbsent.2.2.1 yX0_readAbsent.2.2.2.1 ∈ gtbl ∧ (yX0_readAbsent.1.cls ≠ "java/lang/invoke/MethodHandle" ∧ yX0_readAbsent.1.cls ≠ "java/lang/invoke/VarHandle" ∧ (parseMethodDescriptor yX0_readAbsent.1.desc).map (fun d => d.parameters.length) = some 2) ∧ yX0_readAbsent.2.2.1 ≤ 45 := ⟨tb_1 4 rfl rfl, tb_3 189 rfl rfl, by decide +kernel, by decide⟩
theorem im_X0_readAbsent : Cond.instanceMethod yX0_readAbsent.1 ∈ gtbl := tb_3 187 rfl rfl
theorem se_X0_readAbsent : Cond.selects yX0_readAbsent.1.cls yX0_readAbsent.1 yX0_readAbsent.1 ∈ gtbl := tb_3 188 rfl rfl
abbrev yX0_absentFrom : Yx := (⟨"WithinWords$Arches", "absentFrom", "(II)I"⟩, prog_2_method_5_code, 4, some .int, 2)
theorem ok_X0_absentFrom : Cond.initialized yX0_absentFrom.1.cls ∈ gtbl ∧ Cond.code yX0_absentFrom.1 yX0_absentFrom.2.1 yX0_absentFrom.2.2.1 yX0_absentFrom.2.2.2.1 ∈ gtbl ∧ (yX0_absentFrom.1.cls ≠ "java/lang/invoke/MethodHandle" ∧ yX0_absentFrom.1.cls ≠ "java/lang/invoke/VarHandle" ∧ (parseMethodDescriptor yX0_absentFrom.1.desc).map (fun d => d.parameters.length) = some 2) ∧ yX0_absentFrom.2.2.1 ≤ 45 := ⟨tb_1 4 rfl rfl, tb_3 194 rfl rfl, by decide +kernel, by decide⟩
theorem im_X0_absentFrom : Cond.instanceMethod yX0_absentFrom.1 ∈ gtbl := tb_3 193 rfl rfl
theorem se_X0_absentFrom : Cond.selects yX0_absentFrom.1.cls yX0_absentFrom.1 yX0_absentFrom.1 ∈ gtbl := tb_sel (q := (yX0_absentFrom.1, 6)) (List.mem_of_getElem? (i := 15) (by decide +kernel))
abbrev yX0_firstAbsent : Yx := (⟨"WithinWords$Arches", "firstAbsent", "(I[I)I"⟩, prog_2_method_6_code, 7, some .int, 3)
theorem ok_X0_firstAbsent : Cond.initialized yX0_firstAbsent.1.cls ∈ gtbl ∧ Cond.code yX0_firstAbsent.1 yX0_firstAbsent.2.1 yX0_firstAbsent.2.2.1 yX0_firstAbsent.2.2.2.1 ∈ gtbl ∧ (yX0_firstAbsent.1.cls ≠ "java/lang/invoke/MethodHandle" ∧ yX0_firstAbsent.1.cls ≠ "java/lang/invoke/VarHandle" ∧ (parseMethodDescriptor yX0_firstAbsent.1.desc).map (fun d => d.parameters.length) = some 2) ∧ yX0_firstAbsent.2.2.1 ≤ 45 := ⟨tb_1 4 rfl rfl, tb_3 199 rfl rfl, by decide +kernel, by decide⟩
theorem im_X0_firstAbsent : Cond.instanceMethod yX0_firstAbsent.1 ∈ gtbl := tb_3 197 rfl rfl
theorem se_X0_firstAbsent : Cond.selects yX0_firstAbsent.1.cls yX0_firstAbsent.1 yX0_firstAbsent.1 ∈ gtbl := tb_3 198 rfl rfl
abbrev yX1_init : Yx := (⟨"WithinWords$Dropping", "<init>", "()V"⟩, prog_3_method_1_code, 1, none, 1)
theorem ok_X1_init : Cond.initialized yX1_init.1.cls ∈ gtbl ∧ Cond.code yX1_init.1 yX1_init.2.1 yX1_init.2.2.1 yX1_init.2.2.2.1 ∈ gtbl ∧ (yX1_init.1.cls ≠ "java/lang/invoke/MethodHandle" ∧ yX1_init.1.cls ≠ "java/lang/invoke/VarHandle" ∧ (parseMethodDescriptor yX1_init.1.desc).map (fun d => d.parameters.length) = some 0) ∧ yX1_init.2.2.1 ≤ 45 := ⟨tb_1 6 rfl rfl, tb_1 120 rfl rfl, by decide +kernel, by decide⟩
theorem im_X1_init : Cond.instanceMethod yX1_init.1 ∈ gtbl := tb_1 119 rfl rfl
abbrev yX1_keep : Yx := (⟨"WithinWords$Dropping", "keep", "(LWithinWords$Line;I[I)I"⟩, prog_3_method_2_code, 7, some .int, 3)
theorem ok_X1_keep : Cond.initialized yX1_keep.1.cls ∈ gtbl ∧ Cond.code yX1_keep.1 yX1_keep.2.1 yX1_keep.2.2.1 yX1_keep.2.2.2.1 ∈ gtbl ∧ (yX1_keep.1.cls ≠ "java/lang/invoke/MethodHandle" ∧ yX1_keep.1.cls ≠ "java/lang/invoke/VarHandle" ∧ (parseMethodDescriptor yX1_keep.1.desc).map (fun d => d.parameters.length) = some 3) ∧ yX1_keep.2.2.1 ≤ 45 := ⟨tb_1 6 rfl rfl, tb_3 26 rfl rfl, by decide +kernel, by decide⟩
theorem im_X1_keep : Cond.instanceMethod yX1_keep.1 ∈ gtbl := tb_3 24 rfl rfl
theorem se_X1_keep : Cond.selects yX1_keep.1.cls yX1_keep.1 yX1_keep.1 ∈ gtbl := tb_3 25 rfl rfl
abbrev yX1_lookBehind : Yx := (⟨"WithinWords$Dropping", "lookBehind", "(LWithinWords$Line;I)I"⟩, prog_3_method_3_code, 5, some .int, 2)
theorem ok_X1_lookBehind : Cond.initialized yX1_lookBehind.1.cls ∈ gtbl ∧ Cond.code yX1_lookBehind.1 yX1_lookBehind.2.1 yX1_lookBehind.2.2.1 yX1_lookBehind.2.2.2.1 ∈ gtbl ∧ (yX1_lookBehind.1.cls ≠ "java/lang/invoke/MethodHandle" ∧ yX1_lookBehind.1.cls ≠ "java/lang/invoke/VarHandle" ∧ (parseMethodDescriptor yX1_lookBehind.1.desc).map (fun d => d.parameters.length) = some 2) ∧ yX1_lookBehind.2.2.1 ≤ 45 := ⟨tb_1 6 rfl rfl, tb_3 30 rfl rfl, by decide +kernel, by decide⟩
theorem im_X1_lookBehind : Cond.instanceMethod yX1_lookBehind.1 ∈ gtbl := tb_3 29 rfl rfl
theorem se_X1_lookBehind : Cond.selects yX1_lookBehind.1.cls yX1_lookBehind.1 yX1_lookBehind.1 ∈ gtbl := tb_sel (q := (yX1_lookBehind.1, 2)) (List.mem_of_getElem? (i := 11) (by decide +kernel))
abbrev yX1_lookAhead : Yx := (⟨"WithinWords$Dropping", "lookAhead", "([III)I"⟩, prog_3_method_4_code, 6, some .int, 2)
theorem ok_X1_lookAhead : Cond.initialized yX1_lookAhead.1.cls ∈ gtbl ∧ Cond.code yX1_lookAhead.1 yX1_lookAhead.2.1 yX1_lookAhead.2.2.1 yX1_lookAhead.2.2.2.1 ∈ gtbl ∧ (yX1_lookAhead.1.cls ≠ "java/lang/invoke/MethodHandle" ∧ yX1_lookAhead.1.cls ≠ "java/lang/invoke/VarHandle" ∧ (parseMethodDescriptor yX1_lookAhead.1.desc).map (fun d => d.parameters.length) = some 3) ∧ yX1_lookAhead.2.2.1 ≤ 45 := ⟨tb_1 6 rfl rfl, tb_3 37 rfl rfl, by decide +kernel, by decide⟩
theorem im_X1_lookAhead : Cond.instanceMethod yX1_lookAhead.1 ∈ gtbl := tb_3 36 rfl rfl
theorem se_X1_lookAhead : Cond.selects yX1_lookAhead.1.cls yX1_lookAhead.1 yX1_lookAhead.1 ∈ gtbl := tb_sel (q := (yX1_lookAhead.1, 2)) (List.mem_of_getElem? (i := 12) (by decide +kernel))
abbrev yX2_init : Yx := (⟨"WithinWords$InnerWords", "<init>", "([J)V"⟩, prog_4_method_1_code, 2, none, 2)
theorem ok_X2_init : Cond.initialized yX2_init.1.cls ∈ gtbl ∧ Cond.code yX2_init.1 yX2_init.2.1 yX2_init.2.2.1 yX2_init.2.2.2.1 ∈ gtbl ∧ (yX2_init.1.cls ≠ "java/lang/invoke/MethodHandle" ∧ yX2_init.1.cls ≠ "java/lang/invoke/VarHandle" ∧ (parseMethodDescriptor yX2_init.1.desc).map (fun d => d.parameters.length) = some 1) ∧ yX2_init.2.2.1 ≤ 45 := ⟨tb_1 11 rfl rfl, tb_2 14 rfl rfl, by decide +kernel, by decide⟩
theorem im_X2_init : Cond.instanceMethod yX2_init.1 ∈ gtbl := tb_2 13 rfl rfl
abbrev yX2_read : Yx := (⟨"WithinWords$InnerWords", "read", "(LWithinWords$Line;)V"⟩, prog_4_method_2_code, 4, none, 2)
theorem ok_X2_read : Cond.initialized yX2_read.1.cls ∈ gtbl ∧ Cond.code yX2_read.1 yX2_read.2.1 yX2_read.2.2.1 yX2_read.2.2.2.1 ∈ gtbl ∧ (yX2_read.1.cls ≠ "java/lang/invoke/MethodHandle" ∧ yX2_read.1.cls ≠ "java/lang/invoke/VarHandle" ∧ (parseMethodDescriptor yX2_read.1.desc).map (fun d => d.parameters.length) = some 1) ∧ yX2_read.2.2.1 ≤ 45 := ⟨tb_1 11 rfl rfl, tb_3 125 rfl rfl, by decide +kernel, by decide⟩
theorem im_X2_read : Cond.instanceMethod yX2_read.1 ∈ gtbl := tb_3 123 rfl rfl
theorem se_X2_read : Cond.selects yX2_read.1.cls yX2_read.1 yX2_read.1 ∈ gtbl := tb_3 124 rfl rfl
abbrev yX2_readPlace : Yx := (⟨"WithinWords$InnerWords", "readPlace", "(II)V"⟩, prog_4_method_3_code, 6, none, 1)
theorem ok_X2_readPlace : Cond.initialized yX2_readPlace.1.cls ∈ gtbl ∧ Cond.code yX2_readPlace.1 yX2_readPlace.2.1 yX2_readPlace.2.2.1 yX2_readPlace.2.2.2.1 ∈ gtbl ∧ (yX2_readPlace.1.cls ≠ "java/lang/invoke/MethodHandle" ∧ yX2_readPlace.1.cls ≠ "java/lang/invoke/VarHandle" ∧ (parseMethodDescriptor yX2_readPlace.1.desc).map (fun d => d.parameters.length) = some 2) ∧ yX2_readPlace.2.2.1 ≤ 45 := ⟨tb_1 11 rfl rfl, tb_3 138 rfl rfl, by decide +kernel, by decide⟩
theorem im_X2_readPlace : Cond.instanceMethod yX2_readPlace.1 ∈ gtbl := tb_3 137 rfl rfl
theorem se_X2_readPlace : Cond.selects yX2_readPlace.1.cls yX2_readPlace.1 yX2_readPlace.1 ∈ gtbl := tb_sel (q := (yX2_readPlace.1, 3)) (List.mem_of_getElem? (i := 13) (by decide +kernel))
abbrev yX2_ofLength : Yx := (⟨"WithinWords$InnerWords", "ofLength", "(I)J"⟩, prog_4_method_4_code, 2, some .long, 1)
theorem ok_X2_ofLength : Cond.initialized yX2_ofLength.1.cls ∈ gtbl ∧ Cond.code yX2_ofLength.1 yX2_ofLength.2.1 yX2_ofLength.2.2.1 yX2_ofLength.2.2.2.1 ∈ gtbl ∧ (yX2_ofLength.1.cls ≠ "java/lang/invoke/MethodHandle" ∧ yX2_ofLength.1.cls ≠ "java/lang/invoke/VarHandle" ∧ (parseMethodDescriptor yX2_ofLength.1.desc).map (fun d => d.parameters.length) = some 1) ∧ yX2_ofLength.2.2.1 ≤ 45 := ⟨tb_1 11 rfl rfl, tb_3 146 rfl rfl, by decide +kernel, by decide⟩
theorem im_X2_ofLength : Cond.instanceMethod yX2_ofLength.1 ∈ gtbl := tb_3 144 rfl rfl
theorem se_X2_ofLength : Cond.selects yX2_ofLength.1.cls yX2_ofLength.1 yX2_ofLength.1 ∈ gtbl := tb_3 145 rfl rfl
abbrev yX2_ofAnyLength : Yx := (⟨"WithinWords$InnerWords", "ofAnyLength", "()J"⟩, prog_4_method_5_code, 4, some .long, 1)
theorem ok_X2_ofAnyLength : Cond.initialized yX2_ofAnyLength.1.cls ∈ gtbl ∧ Cond.code yX2_ofAnyLength.1 yX2_ofAnyLength.2.1 yX2_ofAnyLength.2.2.1 yX2_ofAnyLength.2.2.2.1 ∈ gtbl ∧ (yX2_ofAnyLength.1.cls ≠ "java/lang/invoke/MethodHandle" ∧ yX2_ofAnyLength.1.cls ≠ "java/lang/invoke/VarHandle" ∧ (parseMethodDescriptor yX2_ofAnyLength.1.desc).map (fun d => d.parameters.length) = some 0) ∧ yX2_ofAnyLength.2.2.1 ≤ 45 := ⟨tb_1 11 rfl rfl, tb_3 142 rfl rfl, by decide +kernel, by decide⟩
theorem im_X2_ofAnyLength : Cond.instanceMethod yX2_ofAnyLength.1 ∈ gtbl := tb_3 140 rfl rfl
theorem se_X2_ofAnyLength : Cond.selects yX2_ofAnyLength.1.cls yX2_ofAnyLength.1 yX2_ofAnyLength.1 ∈ gtbl := tb_3 141 rfl rfl
abbrev yX2_ahead : Yx := (⟨"WithinWords$InnerWords", "ahead", "(LWithinWords$Line;)J"⟩, prog_4_method_6_code, 7, some .long, 3)
theorem ok_X2_ahead : Cond.initialized yX2_ahead.1.cls ∈ gtbl ∧ Cond.code yX2_ahead.1 yX2_ahead.2.1 yX2_ahead.2.2.1 yX2_ahead.2.2.2.1 ∈ gtbl ∧ (yX2_ahead.1.cls ≠ "java/lang/invoke/MethodHandle" ∧ yX2_ahead.1.cls ≠ "java/lang/invoke/VarHandle" ∧ (parseMethodDescriptor yX2_ahead.1.desc).map (fun d => d.parameters.length) = some 1) ∧ yX2_ahead.2.2.1 ≤ 45 := ⟨tb_1 11 rfl rfl, tb_3 154 rfl rfl, by decide +kernel, by decide⟩
theorem im_X2_ahead : Cond.instanceMethod yX2_ahead.1 ∈ gtbl := tb_3 152 rfl rfl
theorem se_X2_ahead : Cond.selects yX2_ahead.1.cls yX2_ahead.1 yX2_ahead.1 ∈ gtbl := tb_3 153 rfl rfl
abbrev yX2_pick : Yx := (⟨"WithinWords$InnerWords", "pick", "(II[I)V"⟩, prog_4_method_7_code, 11, none, 3)
theorem ok_X2_pick : Cond.initialized yX2_pick.1.cls ∈ gtbl ∧ Cond.code yX2_pick.1 yX2_pick.2.1 yX2_pick.2.2.1 yX2_pick.2.2.2.1 ∈ gtbl ∧ (yX2_pick.1.cls ≠ "java/lang/invoke/MethodHandle" ∧ yX2_pick.1.cls ≠ "java/lang/invoke/VarHandle" ∧ (parseMethodDescriptor yX2_pick.1.desc).map (fun d => d.parameters.length) = some 3) ∧ yX2_pick.2.2.1 ≤ 45 := ⟨tb_1 11 rfl rfl, tb_3 167 rfl rfl, by decide +kernel, by decide⟩
theorem im_X2_pick : Cond.instanceMethod yX2_pick.1 ∈ gtbl := tb_3 165 rfl rfl
theorem se_X2_pick : Cond.selects yX2_pick.1.cls yX2_pick.1 yX2_pick.1 ∈ gtbl := tb_3 166 rfl rfl
abbrev yX2_countBegun : Yx := (⟨"WithinWords$InnerWords", "countBegun", "(III)J"⟩, prog_4_method_8_code, 5, some .long, 2)
theorem ok_X2_countBegun : Cond.initialized yX2_countBegun.1.cls ∈ gtbl ∧ Cond.code yX2_countBegun.1 yX2_countBegun.2.1 yX2_countBegun.2.2.1 yX2_countBegun.2.2.2.1 ∈ gtbl ∧ (yX2_countBegun.1.cls ≠ "java/lang/invoke/MethodHandle" ∧ yX2_countBegun.1.cls ≠ "java/lang/invoke/VarHandle" ∧ (parseMethodDescriptor yX2_countBegun.1.desc).map (fun d => d.parameters.length) = some 3) ∧ yX2_countBegun.2.2.1 ≤ 45 := ⟨tb_1 11 rfl rfl, tb_3 158 rfl rfl, by decide +kernel, by decide⟩
theorem im_X2_countBegun : Cond.instanceMethod yX2_countBegun.1 ∈ gtbl := tb_3 157 rfl rfl
theorem se_X2_countBegun : Cond.selects yX2_countBegun.1.cls yX2_countBegun.1 yX2_countBegun.1 ∈ gtbl := tb_sel (q := (yX2_countBegun.1, 3)) (List.mem_of_getElem? (i := 14) (by decide +kernel))
abbrev yX3_init : Yx := (⟨"WithinWords$Line", "<init>", "(I)V"⟩, prog_5_method_1_code, 2, none, 1)
theorem ok_X3_init : Cond.initialized yX3_init.1.cls ∈ gtbl ∧ Cond.code yX3_init.1 yX3_init.2.1 yX3_init.2.2.1 yX3_init.2.2.2.1 ∈ gtbl ∧ (yX3_init.1.cls ≠ "java/lang/invoke/MethodHandle" ∧ yX3_init.1.cls ≠ "java/lang/invoke/VarHandle" ∧ (parseMethodDescriptor yX3_init.1.desc).map (fun d => d.parameters.length) = some 1) ∧ yX3_init.2.2.1 ≤ 45 := ⟨tb_1 9 rfl rfl, tb_1 199 rfl rfl, by decide +kernel, by decide⟩
theorem im_X3_init : Cond.instanceMethod yX3_init.1 ∈ gtbl := tb_1 198 rfl rfl
abbrev yX3_isMissing : Yx := (⟨"WithinWords$Line", "isMissing", "()Z"⟩, prog_5_method_2_code, 1, some .boolean, 1)
theorem ok_X3_isMissing : Cond.initialized yX3_isMissing.1.cls ∈ gtbl ∧ Cond.code yX3_isMissing.1 yX3_isMissing.2.1 yX3_isMissing.2.2.1 yX3_isMissing.2.2.2.1 ∈ gtbl ∧ (yX3_isMissing.1.cls ≠ "java/lang/invoke/MethodHandle" ∧ yX3_isMissing.1.cls ≠ "java/lang/invoke/VarHandle" ∧ (parseMethodDescriptor yX3_isMissing.1.desc).map (fun d => d.parameters.length) = some 0) ∧ yX3_isMissing.2.2.1 ≤ 45 := ⟨tb_1 9 rfl rfl, tb_2 134 rfl rfl, by decide +kernel, by decide⟩
theorem im_X3_isMissing : Cond.instanceMethod yX3_isMissing.1 ∈ gtbl := tb_2 132 rfl rfl
theorem se_X3_isMissing : Cond.selects yX3_isMissing.1.cls yX3_isMissing.1 yX3_isMissing.1 ∈ gtbl := tb_2 133 rfl rfl
abbrev yX3_has : Yx := (⟨"WithinWords$Line", "has", "(I)Z"⟩, prog_5_method_3_code, 2, some .boolean, 1)
theorem ok_X3_has : Cond.initialized yX3_has.1.cls ∈ gtbl ∧ Cond.code yX3_has.1 yX3_has.2.1 yX3_has.2.2.1 yX3_has.2.2.2.1 ∈ gtbl ∧ (yX3_has.1.cls ≠ "java/lang/invoke/MethodHandle" ∧ yX3_has.1.cls ≠ "java/lang/invoke/VarHandle" ∧ (parseMethodDescriptor yX3_has.1.desc).map (fun d => d.parameters.length) = some 1) ∧ yX3_has.2.2.1 ≤ 45 := ⟨tb_1 9 rfl rfl, tb_2 138 rfl rfl, by decide +kernel, by decide⟩
theorem im_X3_has : Cond.instanceMethod yX3_has.1 ∈ gtbl := tb_2 136 rfl rfl
theorem se_X3_has : Cond.selects yX3_has.1.cls yX3_has.1 yX3_has.1 ∈ gtbl := tb_2 137 rfl rfl
abbrev yX3_reaches : Yx := (⟨"WithinWords$Line", "reaches", "(II)Z"⟩, prog_5_method_4_code, 3, some .boolean, 1)
theorem ok_X3_reaches : Cond.initialized yX3_reaches.1.cls ∈ gtbl ∧ Cond.code yX3_reaches.1 yX3_reaches.2.1 yX3_reaches.2.2.1 yX3_reaches.2.2.2.1 ∈ gtbl ∧ (yX3_reaches.1.cls ≠ "java/lang/invoke/MethodHandle" ∧ yX3_reaches.1.cls ≠ "java/lang/invoke/VarHandle" ∧ (parseMethodDescriptor yX3_reaches.1.desc).map (fun d => d.parameters.length) = some 2) ∧ yX3_reaches.2.2.1 ≤ 45 := ⟨tb_1 9 rfl rfl, tb_2 154 rfl rfl, by decide +kernel, by decide⟩
theorem im_X3_reaches : Cond.instanceMethod yX3_reaches.1 ∈ gtbl := tb_2 152 rfl rfl
theorem se_X3_reaches : Cond.selects yX3_reaches.1.cls yX3_reaches.1 yX3_reaches.1 ∈ gtbl := tb_2 153 rfl rfl
abbrev yX3_isBelow : Yx := (⟨"WithinWords$Line", "isBelow", "(I)Z"⟩, prog_5_method_5_code, 3, some .boolean, 1)
theorem ok_X3_isBelow : Cond.initialized yX3_isBelow.1.cls ∈ gtbl ∧ Cond.code yX3_isBelow.1 yX3_isBelow.2.1 yX3_isBelow.2.2.1 yX3_isBelow.2.2.2.1 ∈ gtbl ∧ (yX3_isBelow.1.cls ≠ "java/lang/invoke/MethodHandle" ∧ yX3_isBelow.1.cls ≠ "java/lang/invoke/VarHandle" ∧ (parseMethodDescriptor yX3_isBelow.1.desc).map (fun d => d.parameters.length) = some 1) ∧ yX3_isBelow.2.2.1 ≤ 45 := ⟨tb_1 9 rfl rfl, tb_2 184 rfl rfl, by decide +kernel, by decide⟩
theorem im_X3_isBelow : Cond.instanceMethod yX3_isBelow.1 ∈ gtbl := tb_2 182 rfl rfl
theorem se_X3_isBelow : Cond.selects yX3_isBelow.1.cls yX3_isBelow.1 yX3_isBelow.1 ∈ gtbl := tb_2 183 rfl rfl
abbrev yX3_begin : Yx := (⟨"WithinWords$Line", "begin", "(II)V"⟩, prog_5_method_6_code, 4, none, 1)
theorem ok_X3_begin : Cond.initialized yX3_begin.1.cls ∈ gtbl ∧ Cond.code yX3_begin.1 yX3_begin.2.1 yX3_begin.2.2.1 yX3_begin.2.2.2.1 ∈ gtbl ∧ (yX3_begin.1.cls ≠ "java/lang/invoke/MethodHandle" ∧ yX3_begin.1.cls ≠ "java/lang/invoke/VarHandle" ∧ (parseMethodDescriptor yX3_begin.1.desc).map (fun d => d.parameters.length) = some 2) ∧ yX3_begin.2.2.1 ≤ 45 := ⟨tb_1 9 rfl rfl, tb_2 118 rfl rfl, by decide +kernel, by decide⟩
theorem im_X3_begin : Cond.instanceMethod yX3_begin.1 ∈ gtbl := tb_2 116 rfl rfl
theorem se_X3_begin : Cond.selects yX3_begin.1.cls yX3_begin.1 yX3_begin.1 ∈ gtbl := tb_2 117 rfl rfl
abbrev yX3_take : Yx := (⟨"WithinWords$Line", "take", "([II)I"⟩, prog_5_method_7_code, 3, some .int, 1)
theorem ok_X3_take : Cond.initialized yX3_take.1.cls ∈ gtbl ∧ Cond.code yX3_take.1 yX3_take.2.1 yX3_take.2.2.1 yX3_take.2.2.2.1 ∈ gtbl ∧ (yX3_take.1.cls ≠ "java/lang/invoke/MethodHandle" ∧ yX3_take.1.cls ≠ "java/lang/invoke/VarHandle" ∧ (parseMethodDescriptor yX3_take.1.desc).map (fun d => d.parameters.length) = some 2) ∧ yX3_take.2.2.1 ≤ 45 := ⟨tb_1 9 rfl rfl, tb_2 199 rfl rfl, by decide +kernel, by decide⟩
theorem im_X3_take : Cond.instanceMethod yX3_take.1 ∈ gtbl := tb_2 197 rfl rfl
theorem se_X3_take : Cond.selects yX3_take.1.cls yX3_take.1 yX3_take.1 ∈ gtbl := tb_2 198 rfl rfl
abbrev yX3_mixInto : Yx := (⟨"WithinWords$Line", "mixInto", "(J)J"⟩, prog_5_method_8_code, 6, some .long, 1)
theorem ok_X3_mixInto : Cond.initialized yX3_mixInto.1.cls ∈ gtbl ∧ Cond.code yX3_mixInto.1 yX3_mixInto.2.1 yX3_mixInto.2.2.1 yX3_mixInto.2.2.2.1 ∈ gtbl ∧ (yX3_mixInto.1.cls ≠ "java/lang/invoke/MethodHandle" ∧ yX3_mixInto.1.cls ≠ "java/lang/invoke/VarHandle" ∧ (parseMethodDescriptor yX3_mixInto.1.desc).map (fun d => d.parameters.length) = some 1) ∧ yX3_mixInto.2.2.1 ≤ 45 := ⟨tb_1 9 rfl rfl, tb_4 203 rfl rfl, by decide +kernel, by decide⟩
theorem im_X3_mixInto : Cond.instanceMethod yX3_mixInto.1 ∈ gtbl := tb_4 201 rfl rfl
theorem se_X3_mixInto : Cond.selects yX3_mixInto.1.cls yX3_mixInto.1 yX3_mixInto.1 ∈ gtbl := tb_4 202 rfl rfl
abbrev yX4_init : Yx := (⟨"WithinWords$Pair", "<init>", "([J)V"⟩, prog_6_method_1_code, 2, none, 2)
theorem ok_X4_init : Cond.initialized yX4_init.1.cls ∈ gtbl ∧ Cond.code yX4_init.1 yX4_init.2.1 yX4_init.2.2.1 yX4_init.2.2.2.1 ∈ gtbl ∧ (yX4_init.1.cls ≠ "java/lang/invoke/MethodHandle" ∧ yX4_init.1.cls ≠ "java/lang/invoke/VarHandle" ∧ (parseMethodDescriptor yX4_init.1.desc).map (fun d => d.parameters.length) = some 1) ∧ yX4_init.2.2.1 ≤ 45 := ⟨tb_1 12 rfl rfl, tb_2 32 rfl rfl, by decide +kernel, by decide⟩
theorem im_X4_init : Cond.instanceMethod yX4_init.1 ∈ gtbl := tb_2 31 rfl rfl
abbrev yX4_measureParting : Yx := (⟨"WithinWords$Pair", "measureParting", "(LWithinWords$Line;LWithinWords$Line;)I"⟩, prog_6_method_2_code, 5, some .int, 4)
theorem ok_X4_measureParting : Cond.initialized yX4_measureParting.1.cls ∈ gtbl ∧ Cond.code yX4_measureParting.1 yX4_measureParting.2.1 yX4_measureParting.2.2.1 yX4_measureParting.2.2.2.1 ∈ gtbl ∧ (yX4_measureParting.1.cls ≠ "java/lang/invoke/MethodHandle" ∧ yX4_measureParting.1.cls ≠ "java/lang/invoke/VarHandle" ∧ (parseMethodDescriptor yX4_measureParting.1.desc).map (fun d => d.parameters.length) = some 2) ∧ yX4_measureParting.2.2.1 ≤ 45 := ⟨tb_1 12 rfl rfl, tb_3 216 rfl rfl, by decide +kernel, by decide⟩
theorem im_X4_measureParting : Cond.instanceMethod yX4_measureParting.1 ∈ gtbl := tb_3 214 rfl rfl
theorem se_X4_measureParting : Cond.selects yX4_measureParting.1.cls yX4_measureParting.1 yX4_measureParting.1 ∈ gtbl := tb_3 215 rfl rfl
abbrev yX4_isReached : Yx := (⟨"WithinWords$Pair", "isReached", "(LWithinWords$Line;ILWithinWords$Line;I)Z"⟩, prog_6_method_3_code, 4, some .boolean, 1)
theorem ok_X4_isReached : Cond.initialized yX4_isReached.1.cls ∈ gtbl ∧ Cond.code yX4_isReached.1 yX4_isReached.2.1 yX4_isReached.2.2.1 yX4_isReached.2.2.2.1 ∈ gtbl ∧ (yX4_isReached.1.cls ≠ "java/lang/invoke/MethodHandle" ∧ yX4_isReached.1.cls ≠ "java/lang/invoke/VarHandle" ∧ (parseMethodDescriptor yX4_isReached.1.desc).map (fun d => d.parameters.length) = some 4) ∧ yX4_isReached.2.2.1 ≤ 45 := ⟨tb_1 12 rfl rfl, tb_3 220 rfl rfl, by decide +kernel, by decide⟩
theorem st_X4_isReached : Cond.static yX4_isReached.1 ∈ gtbl := tb_3 219 rfl rfl
abbrev yX4_shortestParting : Yx := (⟨"WithinWords$Pair", "shortestParting", "(II)J"⟩, prog_6_method_4_code, 8, some .long, 3)
theorem ok_X4_shortestParting : Cond.initialized yX4_shortestParting.1.cls ∈ gtbl ∧ Cond.code yX4_shortestParting.1 yX4_shortestParting.2.1 yX4_shortestParting.2.2.1 yX4_shortestParting.2.2.2.1 ∈ gtbl ∧ (yX4_shortestParting.1.cls ≠ "java/lang/invoke/MethodHandle" ∧ yX4_shortestParting.1.cls ≠ "java/lang/invoke/VarHandle" ∧ (parseMethodDescriptor yX4_shortestParting.1.desc).map (fun d => d.parameters.length) = some 2) ∧ yX4_shortestParting.2.2.1 ≤ 45 := ⟨tb_1 12 rfl rfl, tb_3 224 rfl rfl, by decide +kernel, by decide⟩
theorem im_X4_shortestParting : Cond.instanceMethod yX4_shortestParting.1 ∈ gtbl := tb_3 223 rfl rfl
theorem se_X4_shortestParting : Cond.selects yX4_shortestParting.1.cls yX4_shortestParting.1 yX4_shortestParting.1 ∈ gtbl := tb_sel (q := (yX4_shortestParting.1, 3)) (List.mem_of_getElem? (i := 16) (by decide +kernel))
abbrev yX4_partingFrom : Yx := (⟨"WithinWords$Pair", "partingFrom", "(III)J"⟩, prog_6_method_5_code, 8, some .long, 2)
theorem ok_X4_partingFrom : Cond.initialized yX4_partingFrom.1.cls ∈ gtbl ∧ Cond.code yX4_partingFrom.1 yX4_partingFrom.2.1 yX4_partingFrom.2.2.1 yX4_partingFrom.2.2.2.1 ∈ gtbl ∧ (yX4_partingFrom.1.cls ≠ "java/lang/invoke/MethodHandle" ∧ yX4_partingFrom.1.cls ≠ "java/lang/invoke/VarHandle" ∧ (parseMethodDescriptor yX4_partingFrom.1.desc).map (fun d => d.parameters.length) = some 3) ∧ yX4_partingFrom.2.2.1 ≤ 45 := ⟨tb_1 12 rfl rfl, tb_3 228 rfl rfl, by decide +kernel, by decide⟩
theorem im_X4_partingFrom : Cond.instanceMethod yX4_partingFrom.1 ∈ gtbl := tb_3 227 rfl rfl
theorem se_X4_partingFrom : Cond.selects yX4_partingFrom.1.cls yX4_partingFrom.1 yX4_partingFrom.1 ∈ gtbl := tb_sel (q := (yX4_partingFrom.1, 3)) (List.mem_of_getElem? (i := 17) (by decide +kernel))
abbrev yX4_firstParting : Yx := (⟨"WithinWords$Pair", "firstParting", "(I[I)V"⟩, prog_6_method_6_code, 7, none, 3)
theorem ok_X4_firstParting : Cond.initialized yX4_firstParting.1.cls ∈ gtbl ∧ Cond.code yX4_firstParting.1 yX4_firstParting.2.1 yX4_firstParting.2.2.1 yX4_firstParting.2.2.2.1 ∈ gtbl ∧ (yX4_firstParting.1.cls ≠ "java/lang/invoke/MethodHandle" ∧ yX4_firstParting.1.cls ≠ "java/lang/invoke/VarHandle" ∧ (parseMethodDescriptor yX4_firstParting.1.desc).map (fun d => d.parameters.length) = some 2) ∧ yX4_firstParting.2.2.1 ≤ 45 := ⟨tb_1 12 rfl rfl, tb_3 237 rfl rfl, by decide +kernel, by decide⟩
theorem im_X4_firstParting : Cond.instanceMethod yX4_firstParting.1 ∈ gtbl := tb_3 235 rfl rfl
theorem se_X4_firstParting : Cond.selects yX4_firstParting.1.cls yX4_firstParting.1 yX4_firstParting.1 ∈ gtbl := tb_3 236 rfl rfl
abbrev yX4_countShared : Yx := (⟨"WithinWords$Pair", "countShared", "(LWithinWords$Line;LWithinWords$Line;)J"⟩, prog_6_method_7_code, 5, some .long, 3)
theorem ok_X4_countShared : Cond.initialized yX4_countShared.1.cls ∈ gtbl ∧ Cond.code yX4_countShared.1 yX4_countShared.2.1 yX4_countShared.2.2.1 yX4_countShared.2.2.2.1 ∈ gtbl ∧ (yX4_countShared.1.cls ≠ "java/lang/invoke/MethodHandle" ∧ yX4_countShared.1.cls ≠ "java/lang/invoke/VarHandle" ∧ (parseMethodDescriptor yX4_countShared.1.desc).map (fun d => d.parameters.length) = some 2) ∧ yX4_countShared.2.2.1 ≤ 45 := ⟨tb_1 12 rfl rfl, tb_4 91 rfl rfl, by decide +kernel, by decide⟩
theorem im_X4_countShared : Cond.instanceMethod yX4_countShared.1 ∈ gtbl := tb_4 89 rfl rfl
theorem se_X4_countShared : Cond.selects yX4_countShared.1.cls yX4_countShared.1 yX4_countShared.1 ∈ gtbl := tb_4 90 rfl rfl
abbrev yX4_sharedFrom : Yx := (⟨"WithinWords$Pair", "sharedFrom", "(II)J"⟩, prog_6_method_8_code, 8, some .long, 2)
theorem ok_X4_sharedFrom : Cond.initialized yX4_sharedFrom.1.cls ∈ gtbl ∧ Cond.code yX4_sharedFrom.1 yX4_sharedFrom.2.1 yX4_sharedFrom.2.2.1 yX4_sharedFrom.2.2.2.1 ∈ gtbl ∧ (yX4_sharedFrom.1.cls ≠ "java/lang/invoke/MethodHandle" ∧ yX4_sharedFrom.1.cls ≠ "java/lang/invoke/VarHandle" ∧ (parseMethodDescriptor yX4_sharedFrom.1.desc).map (fun d => d.parameters.length) = some 2) ∧ yX4_sharedFrom.2.2.1 ≤ 45 := ⟨tb_1 12 rfl rfl, tb_4 95 rfl rfl, by decide +kernel, by decide⟩
theorem im_X4_sharedFrom : Cond.instanceMethod yX4_sharedFrom.1 ∈ gtbl := tb_4 94 rfl rfl
theorem se_X4_sharedFrom : Cond.selects yX4_sharedFrom.1.cls yX4_sharedFrom.1 yX4_sharedFrom.1 ∈ gtbl := tb_sel (q := (yX4_sharedFrom.1, 3)) (List.mem_of_getElem? (i := 31) (by decide +kernel))
abbrev yX5_init : Yx := (⟨"WithinWords$Several", "<init>", "()V"⟩, prog_7_method_1_code, 1, none, 1)
theorem ok_X5_init : Cond.initialized yX5_init.1.cls ∈ gtbl ∧ Cond.code yX5_init.1 yX5_init.2.1 yX5_init.2.2.1 yX5_init.2.2.2.1 ∈ gtbl ∧ (yX5_init.1.cls ≠ "java/lang/invoke/MethodHandle" ∧ yX5_init.1.cls ≠ "java/lang/invoke/VarHandle" ∧ (parseMethodDescriptor yX5_init.1.desc).map (fun d => d.parameters.length) = some 0) ∧ yX5_init.2.2.1 ≤ 45 := ⟨tb_1 7 rfl rfl, tb_1 133 rfl rfl, by decide +kernel, by decide⟩
theorem im_X5_init : Cond.instanceMethod yX5_init.1 ∈ gtbl := tb_1 132 rfl rfl
abbrev yX5_begin : Yx := (⟨"WithinWords$Several", "begin", "()V"⟩, prog_7_method_2_code, 1, none, 1)
theorem ok_X5_begin : Cond.initialized yX5_begin.1.cls ∈ gtbl ∧ Cond.code yX5_begin.1 yX5_begin.2.1 yX5_begin.2.2.1 yX5_begin.2.2.2.1 ∈ gtbl ∧ (yX5_begin.1.cls ≠ "java/lang/invoke/MethodHandle" ∧ yX5_begin.1.cls ≠ "java/lang/invoke/VarHandle" ∧ (parseMethodDescriptor yX5_begin.1.desc).map (fun d => d.parameters.length) = some 0) ∧ yX5_begin.2.2.1 ≤ 45 := ⟨tb_1 7 rfl rfl, tb_4 10 rfl rfl, by decide +kernel, by decide⟩
theorem im_X5_begin : Cond.instanceMethod yX5_begin.1 ∈ gtbl := tb_4 8 rfl rfl
theorem se_X5_begin : Cond.selects yX5_begin.1.cls yX5_begin.1 yX5_begin.1 ∈ gtbl := tb_4 9 rfl rfl
abbrev yX5_choose : Yx := (⟨"WithinWords$Several", "choose", "(LWithinWords$Line;)V"⟩, prog_7_method_3_code, 2, none, 1)
theorem ok_X5_choose : Cond.initialized yX5_choose.1.cls ∈ gtbl ∧ Cond.code yX5_choose.1 yX5_choose.2.1 yX5_choose.2.2.1 yX5_choose.2.2.2.1 ∈ gtbl ∧ (yX5_choose.1.cls ≠ "java/lang/invoke/MethodHandle" ∧ yX5_choose.1.cls ≠ "java/lang/invoke/VarHandle" ∧ (parseMethodDescriptor yX5_choose.1.desc).map (fun d => d.parameters.length) = some 1) ∧ yX5_choose.2.2.1 ≤ 45 := ⟨tb_1 7 rfl rfl, tb_4 14 rfl rfl, by decide +kernel, by decide⟩
theorem im_X5_choose : Cond.instanceMethod yX5_choose.1 ∈ gtbl := tb_4 12 rfl rfl
theorem se_X5_choose : Cond.selects yX5_choose.1.cls yX5_choose.1 yX5_choose.1 ∈ gtbl := tb_4 13 rfl rfl
abbrev yX5_states : Yx := (⟨"WithinWords$Several", "states", "()I"⟩, prog_7_method_4_code, 1, some .int, 1)
theorem ok_X5_states : Cond.initialized yX5_states.1.cls ∈ gtbl ∧ Cond.code yX5_states.1 yX5_states.2.1 yX5_states.2.2.1 yX5_states.2.2.2.1 ∈ gtbl ∧ (yX5_states.1.cls ≠ "java/lang/invoke/MethodHandle" ∧ yX5_states.1.cls ≠ "java/lang/invoke/VarHandle" ∧ (parseMethodDescriptor yX5_states.1.desc).map (fun d => d.parameters.length) = some 0) ∧ yX5_states.2.2.1 ≤ 45 := ⟨tb_1 7 rfl rfl, tb_4 18 rfl rfl, by decide +kernel, by decide⟩
theorem im_X5_states : Cond.instanceMethod yX5_states.1 ∈ gtbl := tb_4 16 rfl rfl
theorem se_X5_states : Cond.selects yX5_states.1.cls yX5_states.1 yX5_states.1 ∈ gtbl := tb_4 17 rfl rfl
abbrev yX5_longestCommon : Yx := (⟨"WithinWords$Several", "longestCommon", "([I)I"⟩, prog_7_method_5_code, 4, some .int, 4)
theorem ok_X5_longestCommon : Cond.initialized yX5_longestCommon.1.cls ∈ gtbl ∧ Cond.code yX5_longestCommon.1 yX5_longestCommon.2.1 yX5_longestCommon.2.2.1 yX5_longestCommon.2.2.2.1 ∈ gtbl ∧ (yX5_longestCommon.1.cls ≠ "java/lang/invoke/MethodHandle" ∧ yX5_longestCommon.1.cls ≠ "java/lang/invoke/VarHandle" ∧ (parseMethodDescriptor yX5_longestCommon.1.desc).map (fun d => d.parameters.length) = some 1) ∧ yX5_longestCommon.2.2.1 ≤ 45 := ⟨tb_1 7 rfl rfl, tb_4 22 rfl rfl, by decide +kernel, by decide⟩
theorem im_X5_longestCommon : Cond.instanceMethod yX5_longestCommon.1 ∈ gtbl := tb_4 20 rfl rfl
theorem se_X5_longestCommon : Cond.selects yX5_longestCommon.1.cls yX5_longestCommon.1 yX5_longestCommon.1 ∈ gtbl := tb_4 21 rfl rfl
abbrev yX5_commonFrom : Yx := (⟨"WithinWords$Several", "commonFrom", "(I)I"⟩, prog_7_method_6_code, 6, some .int, 2)
theorem ok_X5_commonFrom : Cond.initialized yX5_commonFrom.1.cls ∈ gtbl ∧ Cond.code yX5_commonFrom.1 yX5_commonFrom.2.1 yX5_commonFrom.2.2.1 yX5_commonFrom.2.2.2.1 ∈ gtbl ∧ (yX5_commonFrom.1.cls ≠ "java/lang/invoke/MethodHandle" ∧ yX5_commonFrom.1.cls ≠ "java/lang/invoke/VarHandle" ∧ (parseMethodDescriptor yX5_commonFrom.1.desc).map (fun d => d.parameters.length) = some 1) ∧ yX5_commonFrom.2.2.1 ≤ 45 := ⟨tb_1 7 rfl rfl, tb_4 30 rfl rfl, by decide +kernel, by decide⟩
theorem im_X5_commonFrom : Cond.instanceMethod yX5_commonFrom.1 ∈ gtbl := tb_4 29 rfl rfl
theorem se_X5_commonFrom : Cond.selects yX5_commonFrom.1.cls yX5_commonFrom.1 yX5_commonFrom.1 ∈ gtbl := tb_sel (q := (yX5_commonFrom.1, 7)) (List.mem_of_getElem? (i := 20) (by decide +kernel))
abbrev yX5_commonLetter : Yx := (⟨"WithinWords$Several", "commonLetter", "(I)I"⟩, prog_7_method_7_code, 4, some .int, 3)
theorem ok_X5_commonLetter : Cond.initialized yX5_commonLetter.1.cls ∈ gtbl ∧ Cond.code yX5_commonLetter.1 yX5_commonLetter.2.1 yX5_commonLetter.2.2.1 yX5_commonLetter.2.2.2.1 ∈ gtbl ∧ (yX5_commonLetter.1.cls ≠ "java/lang/invoke/MethodHandle" ∧ yX5_commonLetter.1.cls ≠ "java/lang/invoke/VarHandle" ∧ (parseMethodDescriptor yX5_commonLetter.1.desc).map (fun d => d.parameters.length) = some 1) ∧ yX5_commonLetter.2.2.1 ≤ 45 := ⟨tb_1 7 rfl rfl, tb_4 49 rfl rfl, by decide +kernel, by decide⟩
theorem im_X5_commonLetter : Cond.instanceMethod yX5_commonLetter.1 ∈ gtbl := tb_4 48 rfl rfl
theorem se_X5_commonLetter : Cond.selects yX5_commonLetter.1.cls yX5_commonLetter.1 yX5_commonLetter.1 ∈ gtbl := tb_sel (q := (yX5_commonLetter.1, 7)) (List.mem_of_getElem? (i := 24) (by decide +kernel))
abbrev yX5_behindNext : Yx := (⟨"WithinWords$Several", "behindNext", "(II)I"⟩, prog_7_method_8_code, 4, some .int, 1)
theorem ok_X5_behindNext : Cond.initialized yX5_behindNext.1.cls ∈ gtbl ∧ Cond.code yX5_behindNext.1 yX5_behindNext.2.1 yX5_behindNext.2.2.1 yX5_behindNext.2.2.2.1 ∈ gtbl ∧ (yX5_behindNext.1.cls ≠ "java/lang/invoke/MethodHandle" ∧ yX5_behindNext.1.cls ≠ "java/lang/invoke/VarHandle" ∧ (parseMethodDescriptor yX5_behindNext.1.desc).map (fun d => d.parameters.length) = some 2) ∧ yX5_behindNext.2.2.1 ≤ 45 := ⟨tb_1 7 rfl rfl, tb_4 57 rfl rfl, by decide +kernel, by decide⟩
theorem im_X5_behindNext : Cond.instanceMethod yX5_behindNext.1 ∈ gtbl := tb_4 56 rfl rfl
theorem se_X5_behindNext : Cond.selects yX5_behindNext.1.cls yX5_behindNext.1 yX5_behindNext.1 ∈ gtbl := tb_sel (q := (yX5_behindNext.1, 7)) (List.mem_of_getElem? (i := 26) (by decide +kernel))
abbrev yX5_leads : Yx := (⟨"WithinWords$Several", "leads", "(II)Z"⟩, prog_7_method_9_code, 6, some .boolean, 2)
theorem ok_X5_leads : Cond.initialized yX5_leads.1.cls ∈ gtbl ∧ Cond.code yX5_leads.1 yX5_leads.2.1 yX5_leads.2.2.1 yX5_leads.2.2.2.1 ∈ gtbl ∧ (yX5_leads.1.cls ≠ "java/lang/invoke/MethodHandle" ∧ yX5_leads.1.cls ≠ "java/lang/invoke/VarHandle" ∧ (parseMethodDescriptor yX5_leads.1.desc).map (fun d => d.parameters.length) = some 2) ∧ yX5_leads.2.2.1 ≤ 45 := ⟨tb_1 7 rfl rfl, tb_4 53 rfl rfl, by decide +kernel, by decide⟩
theorem im_X5_leads : Cond.instanceMethod yX5_leads.1 ∈ gtbl := tb_4 52 rfl rfl
theorem se_X5_leads : Cond.selects yX5_leads.1.cls yX5_leads.1 yX5_leads.1 ∈ gtbl := tb_sel (q := (yX5_leads.1, 7)) (List.mem_of_getElem? (i := 25) (by decide +kernel))
abbrev yX5_shortestCover : Yx := (⟨"WithinWords$Several", "shortestCover", "([I)I"⟩, prog_7_method_10_code, 6, some .int, 4)
theorem ok_X5_shortestCover : Cond.initialized yX5_shortestCover.1.cls ∈ gtbl ∧ Cond.code yX5_shortestCover.1 yX5_shortestCover.2.1 yX5_shortestCover.2.2.1 yX5_shortestCover.2.2.2.1 ∈ gtbl ∧ (yX5_shortestCover.1.cls ≠ "java/lang/invoke/MethodHandle" ∧ yX5_shortestCover.1.cls ≠ "java/lang/invoke/VarHandle" ∧ (parseMethodDescriptor yX5_shortestCover.1.desc).map (fun d => d.parameters.length) = some 1) ∧ yX5_shortestCover.2.2.1 ≤ 45 := ⟨tb_1 7 rfl rfl, tb_4 65 rfl rfl, by decide +kernel, by decide⟩
theorem im_X5_shortestCover : Cond.instanceMethod yX5_shortestCover.1 ∈ gtbl := tb_4 63 rfl rfl
theorem se_X5_shortestCover : Cond.selects yX5_shortestCover.1.cls yX5_shortestCover.1 yX5_shortestCover.1 ∈ gtbl := tb_4 64 rfl rfl
abbrev yX5_coversBy : Yx := (⟨"WithinWords$Several", "coversBy", "(II)Z"⟩, prog_7_method_11_code, 3, some .boolean, 1)
theorem ok_X5_coversBy : Cond.initialized yX5_coversBy.1.cls ∈ gtbl ∧ Cond.code yX5_coversBy.1 yX5_coversBy.2.1 yX5_coversBy.2.2.1 yX5_coversBy.2.2.2.1 ∈ gtbl ∧ (yX5_coversBy.1.cls ≠ "java/lang/invoke/MethodHandle" ∧ yX5_coversBy.1.cls ≠ "java/lang/invoke/VarHandle" ∧ (parseMethodDescriptor yX5_coversBy.1.desc).map (fun d => d.parameters.length) = some 2) ∧ yX5_coversBy.2.2.1 ≤ 45 := ⟨tb_1 7 rfl rfl, tb_4 78 rfl rfl, by decide +kernel, by decide⟩
theorem im_X5_coversBy : Cond.instanceMethod yX5_coversBy.1 ∈ gtbl := tb_4 77 rfl rfl
theorem se_X5_coversBy : Cond.selects yX5_coversBy.1.cls yX5_coversBy.1 yX5_coversBy.1 ∈ gtbl := tb_sel (q := (yX5_coversBy.1, 7)) (List.mem_of_getElem? (i := 29) (by decide +kernel))
abbrev yX5_coverFrom : Yx := (⟨"WithinWords$Several", "coverFrom", "(I)I"⟩, prog_7_method_12_code, 5, some .int, 3)
theorem ok_X5_coverFrom : Cond.initialized yX5_coverFrom.1.cls ∈ gtbl ∧ Cond.code yX5_coverFrom.1 yX5_coverFrom.2.1 yX5_coverFrom.2.2.1 yX5_coverFrom.2.2.2.1 ∈ gtbl ∧ (yX5_coverFrom.1.cls ≠ "java/lang/invoke/MethodHandle" ∧ yX5_coverFrom.1.cls ≠ "java/lang/invoke/VarHandle" ∧ (parseMethodDescriptor yX5_coverFrom.1.desc).map (fun d => d.parameters.length) = some 1) ∧ yX5_coverFrom.2.2.1 ≤ 45 := ⟨tb_1 7 rfl rfl, tb_4 69 rfl rfl, by decide +kernel, by decide⟩
theorem im_X5_coverFrom : Cond.instanceMethod yX5_coverFrom.1 ∈ gtbl := tb_4 68 rfl rfl
theorem se_X5_coverFrom : Cond.selects yX5_coverFrom.1.cls yX5_coverFrom.1 yX5_coverFrom.1 ∈ gtbl := tb_sel (q := (yX5_coverFrom.1, 7)) (List.mem_of_getElem? (i := 27) (by decide +kernel))
abbrev yX5_readHeads : Yx := (⟨"WithinWords$Several", "readHeads", "()V"⟩, prog_7_method_13_code, 2, none, 2)
theorem ok_X5_readHeads : Cond.initialized yX5_readHeads.1.cls ∈ gtbl ∧ Cond.code yX5_readHeads.1 yX5_readHeads.2.1 yX5_readHeads.2.2.1 yX5_readHeads.2.2.2.1 ∈ gtbl ∧ (yX5_readHeads.1.cls ≠ "java/lang/invoke/MethodHandle" ∧ yX5_readHeads.1.cls ≠ "java/lang/invoke/VarHandle" ∧ (parseMethodDescriptor yX5_readHeads.1.desc).map (fun d => d.parameters.length) = some 0) ∧ yX5_readHeads.2.2.1 ≤ 45 := ⟨tb_1 7 rfl rfl, tb_4 73 rfl rfl, by decide +kernel, by decide⟩
theorem im_X5_readHeads : Cond.instanceMethod yX5_readHeads.1 ∈ gtbl := tb_4 72 rfl rfl
theorem se_X5_readHeads : Cond.selects yX5_readHeads.1.cls yX5_readHeads.1 yX5_readHeads.1 ∈ gtbl := tb_sel (q := (yX5_readHeads.1, 7)) (List.mem_of_getElem? (i := 28) (by decide +kernel))
abbrev yX5_goBehind : Yx := (⟨"WithinWords$Several", "goBehind", "(I)V"⟩, prog_7_method_14_code, 3, none, 2)
theorem ok_X5_goBehind : Cond.initialized yX5_goBehind.1.cls ∈ gtbl ∧ Cond.code yX5_goBehind.1 yX5_goBehind.2.1 yX5_goBehind.2.2.1 yX5_goBehind.2.2.2.1 ∈ gtbl ∧ (yX5_goBehind.1.cls ≠ "java/lang/invoke/MethodHandle" ∧ yX5_goBehind.1.cls ≠ "java/lang/invoke/VarHandle" ∧ (parseMethodDescriptor yX5_goBehind.1.desc).map (fun d => d.parameters.length) = some 1) ∧ yX5_goBehind.2.2.1 ≤ 45 := ⟨tb_1 7 rfl rfl, tb_4 82 rfl rfl, by decide +kernel, by decide⟩
theorem im_X5_goBehind : Cond.instanceMethod yX5_goBehind.1 ∈ gtbl := tb_4 81 rfl rfl
theorem se_X5_goBehind : Cond.selects yX5_goBehind.1.cls yX5_goBehind.1 yX5_goBehind.1 ∈ gtbl := tb_sel (q := (yX5_goBehind.1, 7)) (List.mem_of_getElem? (i := 30) (by decide +kernel))
abbrev yX5_head : Yx := (⟨"WithinWords$Several", "head", "(I)I"⟩, prog_7_method_15_code, 2, some .int, 1)
theorem ok_X5_head : Cond.initialized yX5_head.1.cls ∈ gtbl ∧ Cond.code yX5_head.1 yX5_head.2.1 yX5_head.2.2.1 yX5_head.2.2.2.1 ∈ gtbl ∧ (yX5_head.1.cls ≠ "java/lang/invoke/MethodHandle" ∧ yX5_head.1.cls ≠ "java/lang/invoke/VarHandle" ∧ (parseMethodDescriptor yX5_head.1.desc).map (fun d => d.parameters.length) = some 1) ∧ yX5_head.2.2.1 ≤ 45 := ⟨tb_1 7 rfl rfl, tb_4 37 rfl rfl, by decide +kernel, by decide⟩
theorem im_X5_head : Cond.instanceMethod yX5_head.1 ∈ gtbl := tb_4 36 rfl rfl
theorem se_X5_head : Cond.selects yX5_head.1.cls yX5_head.1 yX5_head.1 ∈ gtbl := tb_sel (q := (yX5_head.1, 7)) (List.mem_of_getElem? (i := 21) (by decide +kernel))
abbrev yX5_goToEnd : Yx := (⟨"WithinWords$Several", "goToEnd", "()V"⟩, prog_7_method_16_code, 2, none, 2)
theorem ok_X5_goToEnd : Cond.initialized yX5_goToEnd.1.cls ∈ gtbl ∧ Cond.code yX5_goToEnd.1 yX5_goToEnd.2.1 yX5_goToEnd.2.2.1 yX5_goToEnd.2.2.2.1 ∈ gtbl ∧ (yX5_goToEnd.1.cls ≠ "java/lang/invoke/MethodHandle" ∧ yX5_goToEnd.1.cls ≠ "java/lang/invoke/VarHandle" ∧ (parseMethodDescriptor yX5_goToEnd.1.desc).map (fun d => d.parameters.length) = some 0) ∧ yX5_goToEnd.2.2.1 ≤ 45 := ⟨tb_1 7 rfl rfl, tb_4 26 rfl rfl, by decide +kernel, by decide⟩
theorem im_X5_goToEnd : Cond.instanceMethod yX5_goToEnd.1 ∈ gtbl := tb_4 25 rfl rfl
theorem se_X5_goToEnd : Cond.selects yX5_goToEnd.1.cls yX5_goToEnd.1 yX5_goToEnd.1 ∈ gtbl := tb_sel (q := (yX5_goToEnd.1, 7)) (List.mem_of_getElem? (i := 19) (by decide +kernel))
abbrev yX5_goToBeginning : Yx := (⟨"WithinWords$Several", "goToBeginning", "()V"⟩, prog_7_method_17_code, 2, none, 1)
theorem ok_X5_goToBeginning : Cond.initialized yX5_goToBeginning.1.cls ∈ gtbl ∧ Cond.code yX5_goToBeginning.1 yX5_goToBeginning.2.1 yX5_goToBeginning.2.2.1 yX5_goToBeginning.2.2.2.1 ∈ gtbl ∧ (yX5_goToBeginning.1.cls ≠ "java/lang/invoke/MethodHandle" ∧ yX5_goToBeginning.1.cls ≠ "java/lang/invoke/VarHandle" ∧ (parseMethodDescriptor yX5_goToBeginning.1.desc).map (fun d => d.parameters.length) = some 0) ∧ yX5_goToBeginning.2.2.1 ≤ 45 := ⟨tb_1 7 rfl rfl, tb_4 45 rfl rfl, by decide +kernel, by decide⟩
theorem im_X5_goToBeginning : Cond.instanceMethod yX5_goToBeginning.1 ∈ gtbl := tb_4 44 rfl rfl
theorem se_X5_goToBeginning : Cond.selects yX5_goToBeginning.1.cls yX5_goToBeginning.1 yX5_goToBeginning.1 ∈ gtbl := tb_sel (q := (yX5_goToBeginning.1, 7)) (List.mem_of_getElem? (i := 23) (by decide +kernel))
abbrev yX5_stepBack : Yx := (⟨"WithinWords$Several", "stepBack", "()V"⟩, prog_7_method_18_code, 2, none, 1)
theorem ok_X5_stepBack : Cond.initialized yX5_stepBack.1.cls ∈ gtbl ∧ Cond.code yX5_stepBack.1 yX5_stepBack.2.1 yX5_stepBack.2.2.1 yX5_stepBack.2.2.2.1 ∈ gtbl ∧ (yX5_stepBack.1.cls ≠ "java/lang/invoke/MethodHandle" ∧ yX5_stepBack.1.cls ≠ "java/lang/invoke/VarHandle" ∧ (parseMethodDescriptor yX5_stepBack.1.desc).map (fun d => d.parameters.length) = some 0) ∧ yX5_stepBack.2.2.1 ≤ 45 := ⟨tb_1 7 rfl rfl, tb_4 41 rfl rfl, by decide +kernel, by decide⟩
theorem im_X5_stepBack : Cond.instanceMethod yX5_stepBack.1 ∈ gtbl := tb_4 40 rfl rfl
theorem se_X5_stepBack : Cond.selects yX5_stepBack.1.cls yX5_stepBack.1 yX5_stepBack.1 ∈ gtbl := tb_sel (q := (yX5_stepBack.1, 7)) (List.mem_of_getElem? (i := 22) (by decide +kernel))
abbrev yX6_init : Yx := (⟨"WithinWords$Spelling", "<init>", "()V"⟩, prog_8_method_1_code, 1, none, 1)
theorem ok_X6_init : Cond.initialized yX6_init.1.cls ∈ gtbl ∧ Cond.code yX6_init.1 yX6_init.2.1 yX6_init.2.2.1 yX6_init.2.2.2.1 ∈ gtbl ∧ (yX6_init.1.cls ≠ "java/lang/invoke/MethodHandle" ∧ yX6_init.1.cls ≠ "java/lang/invoke/VarHandle" ∧ (parseMethodDescriptor yX6_init.1.desc).map (fun d => d.parameters.length) = some 0) ∧ yX6_init.2.2.1 ≤ 45 := ⟨tb_1 2 rfl rfl, tb_1 34 rfl rfl, by decide +kernel, by decide⟩
theorem im_X6_init : Cond.instanceMethod yX6_init.1 ∈ gtbl := tb_1 33 rfl rfl
abbrev yX6_read : Yx := (⟨"WithinWords$Spelling", "read", "(LWithinWords$Line;I)I"⟩, prog_8_method_2_code, 5, some .int, 3)
theorem ok_X6_read : Cond.initialized yX6_read.1.cls ∈ gtbl ∧ Cond.code yX6_read.1 yX6_read.2.1 yX6_read.2.2.1 yX6_read.2.2.2.1 ∈ gtbl ∧ (yX6_read.1.cls ≠ "java/lang/invoke/MethodHandle" ∧ yX6_read.1.cls ≠ "java/lang/invoke/VarHandle" ∧ (parseMethodDescriptor yX6_read.1.desc).map (fun d => d.parameters.length) = some 2) ∧ yX6_read.2.2.1 ≤ 45 := ⟨tb_1 2 rfl rfl, tb_2 208 rfl rfl, by decide +kernel, by decide⟩
theorem im_X6_read : Cond.instanceMethod yX6_read.1 ∈ gtbl := tb_2 206 rfl rfl
theorem se_X6_read : Cond.selects yX6_read.1.cls yX6_read.1 yX6_read.1 ∈ gtbl := tb_2 207 rfl rfl
abbrev yX6_behindBlanks : Yx := (⟨"WithinWords$Spelling", "behindBlanks", "(LWithinWords$Line;I)I"⟩, prog_8_method_3_code, 3, some .int, 1)
theorem ok_X6_behindBlanks : Cond.initialized yX6_behindBlanks.1.cls ∈ gtbl ∧ Cond.code yX6_behindBlanks.1 yX6_behindBlanks.2.1 yX6_behindBlanks.2.2.1 yX6_behindBlanks.2.2.2.1 ∈ gtbl ∧ (yX6_behindBlanks.1.cls ≠ "java/lang/invoke/MethodHandle" ∧ yX6_behindBlanks.1.cls ≠ "java/lang/invoke/VarHandle" ∧ (parseMethodDescriptor yX6_behindBlanks.1.desc).map (fun d => d.parameters.length) = some 2) ∧ yX6_behindBlanks.2.2.1 ≤ 45 := ⟨tb_1 2 rfl rfl, tb_2 211 rfl rfl, by decide +kernel, by decide⟩
theorem st_X6_behindBlanks : Cond.static yX6_behindBlanks.1 ∈ gtbl := tb_2 210 rfl rfl
abbrev yX6_goesOn : Yx := (⟨"WithinWords$Spelling", "goesOn", "(II)Z"⟩, prog_8_method_4_code, 3, some .boolean, 2)
theorem ok_X6_goesOn : Cond.initialized yX6_goesOn.1.cls ∈ gtbl ∧ Cond.code yX6_goesOn.1 yX6_goesOn.2.1 yX6_goesOn.2.2.1 yX6_goesOn.2.2.2.1 ∈ gtbl ∧ (yX6_goesOn.1.cls ≠ "java/lang/invoke/MethodHandle" ∧ yX6_goesOn.1.cls ≠ "java/lang/invoke/VarHandle" ∧ (parseMethodDescriptor yX6_goesOn.1.desc).map (fun d => d.parameters.length) = some 2) ∧ yX6_goesOn.2.2.1 ≤ 45 := ⟨tb_1 2 rfl rfl, tb_2 215 rfl rfl, by decide +kernel, by decide⟩
theorem im_X6_goesOn : Cond.instanceMethod yX6_goesOn.1 ∈ gtbl := tb_2 214 rfl rfl
theorem se_X6_goesOn : Cond.selects yX6_goesOn.1.cls yX6_goesOn.1 yX6_goesOn.1 ∈ gtbl := tb_sel (q := (yX6_goesOn.1, 5)) (List.mem_of_getElem? (i := 4) (by decide +kernel))
abbrev yX6_addLetter : Yx := (⟨"WithinWords$Spelling", "addLetter", "(I)Z"⟩, prog_8_method_5_code, 2, some .boolean, 1)
theorem ok_X6_addLetter : Cond.initialized yX6_addLetter.1.cls ∈ gtbl ∧ Cond.code yX6_addLetter.1 yX6_addLetter.2.1 yX6_addLetter.2.2.1 yX6_addLetter.2.2.2.1 ∈ gtbl ∧ (yX6_addLetter.1.cls ≠ "java/lang/invoke/MethodHandle" ∧ yX6_addLetter.1.cls ≠ "java/lang/invoke/VarHandle" ∧ (parseMethodDescriptor yX6_addLetter.1.desc).map (fun d => d.parameters.length) = some 1) ∧ yX6_addLetter.2.2.1 ≤ 45 := ⟨tb_1 2 rfl rfl, tb_2 219 rfl rfl, by decide +kernel, by decide⟩
theorem im_X6_addLetter : Cond.instanceMethod yX6_addLetter.1 ∈ gtbl := tb_2 218 rfl rfl
theorem se_X6_addLetter : Cond.selects yX6_addLetter.1.cls yX6_addLetter.1 yX6_addLetter.1 ∈ gtbl := tb_sel (q := (yX6_addLetter.1, 5)) (List.mem_of_getElem? (i := 5) (by decide +kernel))
abbrev yX6_open : Yx := (⟨"WithinWords$Spelling", "open", "()Z"⟩, prog_8_method_6_code, 1, some .boolean, 1)
theorem ok_X6_open : Cond.initialized yX6_open.1.cls ∈ gtbl ∧ Cond.code yX6_open.1 yX6_open.2.1 yX6_open.2.2.1 yX6_open.2.2.2.1 ∈ gtbl ∧ (yX6_open.1.cls ≠ "java/lang/invoke/MethodHandle" ∧ yX6_open.1.cls ≠ "java/lang/invoke/VarHandle" ∧ (parseMethodDescriptor yX6_open.1.desc).map (fun d => d.parameters.length) = some 0) ∧ yX6_open.2.2.1 ≤ 45 := ⟨tb_1 2 rfl rfl, tb_2 223 rfl rfl, by decide +kernel, by decide⟩
theorem im_X6_open : Cond.instanceMethod yX6_open.1 ∈ gtbl := tb_2 222 rfl rfl
theorem se_X6_open : Cond.selects yX6_open.1.cls yX6_open.1 yX6_open.1 ∈ gtbl := tb_sel (q := (yX6_open.1, 5)) (List.mem_of_getElem? (i := 6) (by decide +kernel))
abbrev yX6_close : Yx := (⟨"WithinWords$Spelling", "close", "()Z"⟩, prog_8_method_7_code, 1, some .boolean, 1)
theorem ok_X6_close : Cond.initialized yX6_close.1.cls ∈ gtbl ∧ Cond.code yX6_close.1 yX6_close.2.1 yX6_close.2.2.1 yX6_close.2.2.2.1 ∈ gtbl ∧ (yX6_close.1.cls ≠ "java/lang/invoke/MethodHandle" ∧ yX6_close.1.cls ≠ "java/lang/invoke/VarHandle" ∧ (parseMethodDescriptor yX6_close.1.desc).map (fun d => d.parameters.length) = some 0) ∧ yX6_close.2.2.1 ≤ 45 := ⟨tb_1 2 rfl rfl, tb_2 227 rfl rfl, by decide +kernel, by decide⟩
theorem im_X6_close : Cond.instanceMethod yX6_close.1 ∈ gtbl := tb_2 226 rfl rfl
theorem se_X6_close : Cond.selects yX6_close.1.cls yX6_close.1 yX6_close.1 ∈ gtbl := tb_sel (q := (yX6_close.1, 5)) (List.mem_of_getElem? (i := 7) (by decide +kernel))
abbrev yX6_repeat : Yx := (⟨"WithinWords$Spelling", "repeat", "(I)Z"⟩, prog_8_method_8_code, 5, some .boolean, 1)
theorem ok_X6_repeat : Cond.initialized yX6_repeat.1.cls ∈ gtbl ∧ Cond.code yX6_repeat.1 yX6_repeat.2.1 yX6_repeat.2.2.1 yX6_repeat.2.2.2.1 ∈ gtbl ∧ (yX6_repeat.1.cls ≠ "java/lang/invoke/MethodHandle" ∧ yX6_repeat.1.cls ≠ "java/lang/invoke/VarHandle" ∧ (parseMethodDescriptor yX6_repeat.1.desc).map (fun d => d.parameters.length) = some 1) ∧ yX6_repeat.2.2.1 ≤ 45 := ⟨tb_1 2 rfl rfl, tb_2 231 rfl rfl, by decide +kernel, by decide⟩
theorem im_X6_repeat : Cond.instanceMethod yX6_repeat.1 ∈ gtbl := tb_2 230 rfl rfl
theorem se_X6_repeat : Cond.selects yX6_repeat.1.cls yX6_repeat.1 yX6_repeat.1 ∈ gtbl := tb_sel (q := (yX6_repeat.1, 5)) (List.mem_of_getElem? (i := 8) (by decide +kernel))
abbrev yX7_init : Yx := (⟨"WithinWords$Standing", "<init>", "()V"⟩, prog_9_method_1_code, 1, none, 1)
theorem ok_X7_init : Cond.initialized yX7_init.1.cls ∈ gtbl ∧ Cond.code yX7_init.1 yX7_init.2.1 yX7_init.2.2.1 yX7_init.2.2.2.1 ∈ gtbl ∧ (yX7_init.1.cls ≠ "java/lang/invoke/MethodHandle" ∧ yX7_init.1.cls ≠ "java/lang/invoke/VarHandle" ∧ (parseMethodDescriptor yX7_init.1.desc).map (fun d => d.parameters.length) = some 0) ∧ yX7_init.2.2.1 ≤ 45 := ⟨tb_1 3 rfl rfl, tb_1 59 rfl rfl, by decide +kernel, by decide⟩
theorem im_X7_init : Cond.instanceMethod yX7_init.1 ∈ gtbl := tb_1 58 rfl rfl
abbrev yX7_countWays : Yx := (⟨"WithinWords$Standing", "countWays", "(LWithinWords$Line;LWithinWords$Line;)J"⟩, prog_9_method_2_code, 5, some .long, 1)
theorem ok_X7_countWays : Cond.initialized yX7_countWays.1.cls ∈ gtbl ∧ Cond.code yX7_countWays.1 yX7_countWays.2.1 yX7_countWays.2.2.1 yX7_countWays.2.2.2.1 ∈ gtbl ∧ (yX7_countWays.1.cls ≠ "java/lang/invoke/MethodHandle" ∧ yX7_countWays.1.cls ≠ "java/lang/invoke/VarHandle" ∧ (parseMethodDescriptor yX7_countWays.1.desc).map (fun d => d.parameters.length) = some 2) ∧ yX7_countWays.2.2.1 ≤ 45 := ⟨tb_1 3 rfl rfl, tb_3 73 rfl rfl, by decide +kernel, by decide⟩
theorem im_X7_countWays : Cond.instanceMethod yX7_countWays.1 ∈ gtbl := tb_3 71 rfl rfl
theorem se_X7_countWays : Cond.selects yX7_countWays.1.cls yX7_countWays.1 yX7_countWays.1 ∈ gtbl := tb_3 72 rfl rfl
abbrev yX7_readBounds : Yx := (⟨"WithinWords$Standing", "readBounds", "(LWithinWords$Line;LWithinWords$Line;)Z"⟩, prog_9_method_3_code, 5, some .boolean, 1)
theorem ok_X7_readBounds : Cond.initialized yX7_readBounds.1.cls ∈ gtbl ∧ Cond.code yX7_readBounds.1 yX7_readBounds.2.1 yX7_readBounds.2.2.1 yX7_readBounds.2.2.2.1 ∈ gtbl ∧ (yX7_readBounds.1.cls ≠ "java/lang/invoke/MethodHandle" ∧ yX7_readBounds.1.cls ≠ "java/lang/invoke/VarHandle" ∧ (parseMethodDescriptor yX7_readBounds.1.desc).map (fun d => d.parameters.length) = some 2) ∧ yX7_readBounds.2.2.1 ≤ 45 := ⟨tb_1 3 rfl rfl, tb_3 81 rfl rfl, by decide +kernel, by decide⟩
theorem im_X7_readBounds : Cond.instanceMethod yX7_readBounds.1 ∈ gtbl := tb_3 79 rfl rfl
theorem se_X7_readBounds : Cond.selects yX7_readBounds.1.cls yX7_readBounds.1 yX7_readBounds.1 ∈ gtbl := tb_3 80 rfl rfl
abbrev yX7_someWay : Yx := (⟨"WithinWords$Standing", "someWay", "(LWithinWords$Line;LWithinWords$Line;)J"⟩, prog_9_method_4_code, 7, some .long, 1)
theorem ok_X7_someWay : Cond.initialized yX7_someWay.1.cls ∈ gtbl ∧ Cond.code yX7_someWay.1 yX7_someWay.2.1 yX7_someWay.2.2.1 yX7_someWay.2.2.2.1 ∈ gtbl ∧ (yX7_someWay.1.cls ≠ "java/lang/invoke/MethodHandle" ∧ yX7_someWay.1.cls ≠ "java/lang/invoke/VarHandle" ∧ (parseMethodDescriptor yX7_someWay.1.desc).map (fun d => d.parameters.length) = some 2) ∧ yX7_someWay.2.2.1 ≤ 45 := ⟨tb_1 3 rfl rfl, tb_3 94 rfl rfl, by decide +kernel, by decide⟩
theorem im_X7_someWay : Cond.instanceMethod yX7_someWay.1 ∈ gtbl := tb_3 92 rfl rfl
theorem se_X7_someWay : Cond.selects yX7_someWay.1.cls yX7_someWay.1 yX7_someWay.1 ∈ gtbl := tb_3 93 rfl rfl
abbrev yX7_everyWay : Yx := (⟨"WithinWords$Standing", "everyWay", "(I)J"⟩, prog_9_method_5_code, 5, some .long, 1)
theorem ok_X7_everyWay : Cond.initialized yX7_everyWay.1.cls ∈ gtbl ∧ Cond.code yX7_everyWay.1 yX7_everyWay.2.1 yX7_everyWay.2.2.1 yX7_everyWay.2.2.2.1 ∈ gtbl ∧ (yX7_everyWay.1.cls ≠ "java/lang/invoke/MethodHandle" ∧ yX7_everyWay.1.cls ≠ "java/lang/invoke/VarHandle" ∧ (parseMethodDescriptor yX7_everyWay.1.desc).map (fun d => d.parameters.length) = some 1) ∧ yX7_everyWay.2.2.1 ≤ 45 := ⟨tb_1 3 rfl rfl, tb_3 90 rfl rfl, by decide +kernel, by decide⟩
theorem im_X7_everyWay : Cond.instanceMethod yX7_everyWay.1 ∈ gtbl := tb_3 88 rfl rfl
theorem se_X7_everyWay : Cond.selects yX7_everyWay.1.cls yX7_everyWay.1 yX7_everyWay.1 ∈ gtbl := tb_3 89 rfl rfl
abbrev yX7_isWay : Yx := (⟨"WithinWords$Standing", "isWay", "(LWithinWords$Line;LWithinWords$Line;LWithinWords$Line;)Z"⟩, prog_9_method_6_code, 6, some .boolean, 2)
theorem ok_X7_isWay : Cond.initialized yX7_isWay.1.cls ∈ gtbl ∧ Cond.code yX7_isWay.1 yX7_isWay.2.1 yX7_isWay.2.2.1 yX7_isWay.2.2.2.1 ∈ gtbl ∧ (yX7_isWay.1.cls ≠ "java/lang/invoke/MethodHandle" ∧ yX7_isWay.1.cls ≠ "java/lang/invoke/VarHandle" ∧ (parseMethodDescriptor yX7_isWay.1.desc).map (fun d => d.parameters.length) = some 3) ∧ yX7_isWay.2.2.1 ≤ 45 := ⟨tb_1 3 rfl rfl, tb_3 107 rfl rfl, by decide +kernel, by decide⟩
theorem st_X7_isWay : Cond.static yX7_isWay.1 ∈ gtbl := tb_3 106 rfl rfl
abbrev yX7_fewestToBar : Yx := (⟨"WithinWords$Standing", "fewestToBar", "(LWithinWords$Line;LWithinWords$Line;)I"⟩, prog_9_method_7_code, 6, some .int, 2)
theorem ok_X7_fewestToBar : Cond.initialized yX7_fewestToBar.1.cls ∈ gtbl ∧ Cond.code yX7_fewestToBar.1 yX7_fewestToBar.2.1 yX7_fewestToBar.2.2.1 yX7_fewestToBar.2.2.2.1 ∈ gtbl ∧ (yX7_fewestToBar.1.cls ≠ "java/lang/invoke/MethodHandle" ∧ yX7_fewestToBar.1.cls ≠ "java/lang/invoke/VarHandle" ∧ (parseMethodDescriptor yX7_fewestToBar.1.desc).map (fun d => d.parameters.length) = some 2) ∧ yX7_fewestToBar.2.2.1 ≤ 45 := ⟨tb_1 3 rfl rfl, tb_3 116 rfl rfl, by decide +kernel, by decide⟩
theorem im_X7_fewestToBar : Cond.instanceMethod yX7_fewestToBar.1 ∈ gtbl := tb_3 114 rfl rfl
theorem se_X7_fewestToBar : Cond.selects yX7_fewestToBar.1.cls yX7_fewestToBar.1 yX7_fewestToBar.1 ∈ gtbl := tb_3 115 rfl rfl
abbrev yX8_init : Yx := (⟨"WithinWords$Steps", "<init>", "()V"⟩, prog_10_method_1_code, 1, none, 1)
theorem ok_X8_init : Cond.initialized yX8_init.1.cls ∈ gtbl ∧ Cond.code yX8_init.1 yX8_init.2.1 yX8_init.2.2.1 yX8_init.2.2.2.1 ∈ gtbl ∧ (yX8_init.1.cls ≠ "java/lang/invoke/MethodHandle" ∧ yX8_init.1.cls ≠ "java/lang/invoke/VarHandle" ∧ (parseMethodDescriptor yX8_init.1.desc).map (fun d => d.parameters.length) = some 0) ∧ yX8_init.2.2.1 ≤ 45 := ⟨tb_1 5 rfl rfl, tb_1 87 rfl rfl, by decide +kernel, by decide⟩
theorem im_X8_init : Cond.instanceMethod yX8_init.1 ∈ gtbl := tb_1 86 rfl rfl
abbrev yX8_read : Yx := (⟨"WithinWords$Steps", "read", "(LWithinWords$Line;)V"⟩, prog_10_method_2_code, 5, none, 1)
theorem ok_X8_read : Cond.initialized yX8_read.1.cls ∈ gtbl ∧ Cond.code yX8_read.1 yX8_read.2.1 yX8_read.2.2.1 yX8_read.2.2.2.1 ∈ gtbl ∧ (yX8_read.1.cls ≠ "java/lang/invoke/MethodHandle" ∧ yX8_read.1.cls ≠ "java/lang/invoke/VarHandle" ∧ (parseMethodDescriptor yX8_read.1.desc).map (fun d => d.parameters.length) = some 1) ∧ yX8_read.2.2.1 ≤ 45 := ⟨tb_1 5 rfl rfl, tb_3 129 rfl rfl, by decide +kernel, by decide⟩
theorem im_X8_read : Cond.instanceMethod yX8_read.1 ∈ gtbl := tb_3 127 rfl rfl
theorem se_X8_read : Cond.selects yX8_read.1.cls yX8_read.1 yX8_read.1 ∈ gtbl := tb_3 128 rfl rfl
abbrev yX8_behind : Yx := (⟨"WithinWords$Steps", "behind", "(II)I"⟩, prog_10_method_3_code, 3, some .int, 1)
theorem ok_X8_behind : Cond.initialized yX8_behind.1.cls ∈ gtbl ∧ Cond.code yX8_behind.1 yX8_behind.2.1 yX8_behind.2.2.1 yX8_behind.2.2.2.1 ∈ gtbl ∧ (yX8_behind.1.cls ≠ "java/lang/invoke/MethodHandle" ∧ yX8_behind.1.cls ≠ "java/lang/invoke/VarHandle" ∧ (parseMethodDescriptor yX8_behind.1.desc).map (fun d => d.parameters.length) = some 2) ∧ yX8_behind.2.2.1 ≤ 45 := ⟨tb_1 5 rfl rfl, tb_3 134 rfl rfl, by decide +kernel, by decide⟩
theorem im_X8_behind : Cond.instanceMethod yX8_behind.1 ∈ gtbl := tb_3 132 rfl rfl
theorem se_X8_behind : Cond.selects yX8_behind.1.cls yX8_behind.1 yX8_behind.1 ∈ gtbl := tb_3 133 rfl rfl
abbrev yX9_init : Yx := (⟨"WithinWords$Twins", "<init>", "()V"⟩, prog_11_method_1_code, 1, none, 1)
theorem ok_X9_init : Cond.initialized yX9_init.1.cls ∈ gtbl ∧ Cond.code yX9_init.1 yX9_init.2.1 yX9_init.2.2.1 yX9_init.2.2.2.1 ∈ gtbl ∧ (yX9_init.1.cls ≠ "java/lang/invoke/MethodHandle" ∧ yX9_init.1.cls ≠ "java/lang/invoke/VarHandle" ∧ (parseMethodDescriptor yX9_init.1.desc).map (fun d => d.parameters.length) = some 0) ∧ yX9_init.2.2.1 ≤ 45 := ⟨tb_1 8 rfl rfl, tb_1 162 rfl rfl, by decide +kernel, by decide⟩
theorem im_X9_init : Cond.instanceMethod yX9_init.1 ∈ gtbl := tb_1 161 rfl rfl
abbrev yX9_search : Yx := (⟨"WithinWords$Twins", "search", "(LWithinWords$Line;II)I"⟩, prog_11_method_2_code, 6, some .int, 47)
theorem ok_X9_search : Cond.initialized yX9_search.1.cls ∈ gtbl ∧ Cond.code yX9_search.1 yX9_search.2.1 yX9_search.2.2.1 yX9_search.2.2.2.1 ∈ gtbl ∧ (yX9_search.1.cls ≠ "java/lang/invoke/MethodHandle" ∧ yX9_search.1.cls ≠ "java/lang/invoke/VarHandle" ∧ (parseMethodDescriptor yX9_search.1.desc).map (fun d => d.parameters.length) = some 3) ∧ yX9_search.2.2.1 ≤ 45 := ⟨tb_1 8 rfl rfl, tb_4 106 rfl rfl, by decide +kernel, by decide⟩
theorem im_X9_search : Cond.instanceMethod yX9_search.1 ∈ gtbl := tb_4 104 rfl rfl
theorem se_X9_search : Cond.selects yX9_search.1.cls yX9_search.1 yX9_search.1 ∈ gtbl := tb_4 105 rfl rfl
abbrev yX9_countsOfDepth : Yx := (⟨"WithinWords$Twins", "countsOfDepth", "()[I"⟩, prog_11_method_3_code, 1, some (.array .int), 1)
theorem ok_X9_countsOfDepth : Cond.initialized yX9_countsOfDepth.1.cls ∈ gtbl ∧ Cond.code yX9_countsOfDepth.1 yX9_countsOfDepth.2.1 yX9_countsOfDepth.2.2.1 yX9_countsOfDepth.2.2.2.1 ∈ gtbl ∧ (yX9_countsOfDepth.1.cls ≠ "java/lang/invoke/MethodHandle" ∧ yX9_countsOfDepth.1.cls ≠ "java/lang/invoke/VarHandle" ∧ (parseMethodDescriptor yX9_countsOfDepth.1.desc).map (fun d => d.parameters.length) = some 0) ∧ yX9_countsOfDepth.2.2.1 ≤ 45 := ⟨tb_1 8 rfl rfl, tb_4 114 rfl rfl, by decide +kernel, by decide⟩
theorem im_X9_countsOfDepth : Cond.instanceMethod yX9_countsOfDepth.1 ∈ gtbl := tb_4 113 rfl rfl
theorem se_X9_countsOfDepth : Cond.selects yX9_countsOfDepth.1.cls yX9_countsOfDepth.1 yX9_countsOfDepth.1 ∈ gtbl := tb_sel (q := (yX9_countsOfDepth.1, 10)) (List.mem_of_getElem? (i := 33) (by decide +kernel))
abbrev yX9_grow : Yx := (⟨"WithinWords$Twins", "grow", "(I)V"⟩, prog_11_method_4_code, 3, none, 3)
theorem ok_X9_grow : Cond.initialized yX9_grow.1.cls ∈ gtbl ∧ Cond.code yX9_grow.1 yX9_grow.2.1 yX9_grow.2.2.1 yX9_grow.2.2.2.1 ∈ gtbl ∧ (yX9_grow.1.cls ≠ "java/lang/invoke/MethodHandle" ∧ yX9_grow.1.cls ≠ "java/lang/invoke/VarHandle" ∧ (parseMethodDescriptor yX9_grow.1.desc).map (fun d => d.parameters.length) = some 1) ∧ yX9_grow.2.2.1 ≤ 45 := ⟨tb_1 8 rfl rfl, tb_4 123 rfl rfl, by decide +kernel, by decide⟩
theorem im_X9_grow : Cond.instanceMethod yX9_grow.1 ∈ gtbl := tb_4 122 rfl rfl
theorem se_X9_grow : Cond.selects yX9_grow.1.cls yX9_grow.1 yX9_grow.1 ∈ gtbl := tb_sel (q := (yX9_grow.1, 10)) (List.mem_of_getElem? (i := 35) (by decide +kernel))
abbrev yX9_keepTwin : Yx := (⟨"WithinWords$Twins", "keepTwin", "()V"⟩, prog_11_method_5_code, 1, none, 1)
theorem ok_X9_keepTwin : Cond.initialized yX9_keepTwin.1.cls ∈ gtbl ∧ Cond.code yX9_keepTwin.1 yX9_keepTwin.2.1 yX9_keepTwin.2.2.1 yX9_keepTwin.2.2.2.1 ∈ gtbl ∧ (yX9_keepTwin.1.cls ≠ "java/lang/invoke/MethodHandle" ∧ yX9_keepTwin.1.cls ≠ "java/lang/invoke/VarHandle" ∧ (parseMethodDescriptor yX9_keepTwin.1.desc).map (fun d => d.parameters.length) = some 0) ∧ yX9_keepTwin.2.2.1 ≤ 45 := ⟨tb_1 8 rfl rfl, tb_4 127 rfl rfl, by decide +kernel, by decide⟩
theorem im_X9_keepTwin : Cond.instanceMethod yX9_keepTwin.1 ∈ gtbl := tb_4 126 rfl rfl
theorem se_X9_keepTwin : Cond.selects yX9_keepTwin.1.cls yX9_keepTwin.1 yX9_keepTwin.1 ∈ gtbl := tb_sel (q := (yX9_keepTwin.1, 10)) (List.mem_of_getElem? (i := 36) (by decide +kernel))
abbrev yX9_addLetter : Yx := (⟨"WithinWords$Twins", "addLetter", "(I)V"⟩, prog_11_method_6_code, 3, none, 1)
theorem ok_X9_addLetter : Cond.initialized yX9_addLetter.1.cls ∈ gtbl ∧ Cond.code yX9_addLetter.1 yX9_addLetter.2.1 yX9_addLetter.2.2.1 yX9_addLetter.2.2.2.1 ∈ gtbl ∧ (yX9_addLetter.1.cls ≠ "java/lang/invoke/MethodHandle" ∧ yX9_addLetter.1.cls ≠ "java/lang/invoke/VarHandle" ∧ (parseMethodDescriptor yX9_addLetter.1.desc).map (fun d => d.parameters.length) = some 1) ∧ yX9_addLetter.2.2.1 ≤ 45 := ⟨tb_1 8 rfl rfl, tb_4 110 rfl rfl, by decide +kernel, by decide⟩
theorem im_X9_addLetter : Cond.instanceMethod yX9_addLetter.1 ∈ gtbl := tb_4 109 rfl rfl
theorem se_X9_addLetter : Cond.selects yX9_addLetter.1.cls yX9_addLetter.1 yX9_addLetter.1 ∈ gtbl := tb_sel (q := (yX9_addLetter.1, 10)) (List.mem_of_getElem? (i := 32) (by decide +kernel))
abbrev yX9_takeLetter : Yx := (⟨"WithinWords$Twins", "takeLetter", "(I)V"⟩, prog_11_method_7_code, 3, none, 1)
theorem ok_X9_takeLetter : Cond.initialized yX9_takeLetter.1.cls ∈ gtbl ∧ Cond.code yX9_takeLetter.1 yX9_takeLetter.2.1 yX9_takeLetter.2.2.1 yX9_takeLetter.2.2.2.1 ∈ gtbl ∧ (yX9_takeLetter.1.cls ≠ "java/lang/invoke/MethodHandle" ∧ yX9_takeLetter.1.cls ≠ "java/lang/invoke/VarHandle" ∧ (parseMethodDescriptor yX9_takeLetter.1.desc).map (fun d => d.parameters.length) = some 1) ∧ yX9_takeLetter.2.2.1 ≤ 45 := ⟨tb_1 8 rfl rfl, tb_4 119 rfl rfl, by decide +kernel, by decide⟩
theorem im_X9_takeLetter : Cond.instanceMethod yX9_takeLetter.1 ∈ gtbl := tb_4 118 rfl rfl
theorem se_X9_takeLetter : Cond.selects yX9_takeLetter.1.cls yX9_takeLetter.1 yX9_takeLetter.1 ∈ gtbl := tb_sel (q := (yX9_takeLetter.1, 10)) (List.mem_of_getElem? (i := 34) (by decide +kernel))
abbrev yX9_hasTooMany : Yx := (⟨"WithinWords$Twins", "hasTooMany", "(I)Z"⟩, prog_11_method_8_code, 5, some .boolean, 2)
theorem ok_X9_hasTooMany : Cond.initialized yX9_hasTooMany.1.cls ∈ gtbl ∧ Cond.code yX9_hasTooMany.1 yX9_hasTooMany.2.1 yX9_hasTooMany.2.2.1 yX9_hasTooMany.2.2.2.1 ∈ gtbl ∧ (yX9_hasTooMany.1.cls ≠ "java/lang/invoke/MethodHandle" ∧ yX9_hasTooMany.1.cls ≠ "java/lang/invoke/VarHandle" ∧ (parseMethodDescriptor yX9_hasTooMany.1.desc).map (fun d => d.parameters.length) = some 1) ∧ yX9_hasTooMany.2.2.1 ≤ 45 := ⟨tb_1 8 rfl rfl, tb_4 131 rfl rfl, by decide +kernel, by decide⟩
theorem im_X9_hasTooMany : Cond.instanceMethod yX9_hasTooMany.1 ∈ gtbl := tb_4 130 rfl rfl
theorem se_X9_hasTooMany : Cond.selects yX9_hasTooMany.1.cls yX9_hasTooMany.1 yX9_hasTooMany.1 ∈ gtbl := tb_sel (q := (yX9_hasTooMany.1, 10)) (List.mem_of_getElem? (i := 37) (by decide +kernel))
abbrev yX10_init : Yx := (⟨"WithinWords$Word", "<init>", "()V"⟩, prog_12_method_1_code, 1, none, 2)
theorem ok_X10_init : Cond.initialized yX10_init.1.cls ∈ gtbl ∧ Cond.code yX10_init.1 yX10_init.2.1 yX10_init.2.2.1 yX10_init.2.2.2.1 ∈ gtbl ∧ (yX10_init.1.cls ≠ "java/lang/invoke/MethodHandle" ∧ yX10_init.1.cls ≠ "java/lang/invoke/VarHandle" ∧ (parseMethodDescriptor yX10_init.1.desc).map (fun d => d.parameters.length) = some 0) ∧ yX10_init.2.2.1 ≤ 45 := ⟨tb_1 10 rfl rfl, tb_1 231 rfl rfl, by decide +kernel, by decide⟩
theorem im_X10_init : Cond.instanceMethod yX10_init.1 ∈ gtbl := tb_1 230 rfl rfl
abbrev yX10_become : Yx := (⟨"WithinWords$Word", "become", "([IIIII)I"⟩, prog_12_method_2_code, 6, some .int, 2)
theorem ok_X10_become : Cond.initialized yX10_become.1.cls ∈ gtbl ∧ Cond.code yX10_become.1 yX10_become.2.1 yX10_become.2.2.1 yX10_become.2.2.2.1 ∈ gtbl ∧ (yX10_become.1.cls ≠ "java/lang/invoke/MethodHandle" ∧ yX10_become.1.cls ≠ "java/lang/invoke/VarHandle" ∧ (parseMethodDescriptor yX10_become.1.desc).map (fun d => d.parameters.length) = some 5) ∧ yX10_become.2.2.1 ≤ 45 := ⟨tb_1 10 rfl rfl, tb_2 195 rfl rfl, by decide +kernel, by decide⟩
theorem im_X10_become : Cond.instanceMethod yX10_become.1 ∈ gtbl := tb_2 193 rfl rfl
theorem se_X10_become : Cond.selects yX10_become.1.cls yX10_become.1 yX10_become.1 ∈ gtbl := tb_2 194 rfl rfl
abbrev yX10_is : Yx := (⟨"WithinWords$Word", "is", "(I)Z"⟩, prog_12_method_3_code, 2, some .boolean, 1)
theorem ok_X10_is : Cond.initialized yX10_is.1.cls ∈ gtbl ∧ Cond.code yX10_is.1 yX10_is.2.1 yX10_is.2.2.1 yX10_is.2.2.2.1 ∈ gtbl ∧ (yX10_is.1.cls ≠ "java/lang/invoke/MethodHandle" ∧ yX10_is.1.cls ≠ "java/lang/invoke/VarHandle" ∧ (parseMethodDescriptor yX10_is.1.desc).map (fun d => d.parameters.length) = some 1) ∧ yX10_is.2.2.1 ≤ 45 := ⟨tb_1 10 rfl rfl, tb_3 61 rfl rfl, by decide +kernel, by decide⟩
theorem im_X10_is : Cond.instanceMethod yX10_is.1 ∈ gtbl := tb_3 59 rfl rfl
theorem se_X10_is : Cond.selects yX10_is.1.cls yX10_is.1 yX10_is.1 ∈ gtbl := tb_3 60 rfl rfl
abbrev yX10_markOf : Yx := (⟨"WithinWords$Word", "markOf", "(I)I"⟩, prog_12_method_4_code, 2, some .int, 1)
theorem ok_X10_markOf : Cond.initialized yX10_markOf.1.cls ∈ gtbl ∧ Cond.code yX10_markOf.1 yX10_markOf.2.1 yX10_markOf.2.2.1 yX10_markOf.2.2.2.1 ∈ gtbl ∧ (yX10_markOf.1.cls ≠ "java/lang/invoke/MethodHandle" ∧ yX10_markOf.1.cls ≠ "java/lang/invoke/VarHandle" ∧ (parseMethodDescriptor yX10_markOf.1.desc).map (fun d => d.parameters.length) = some 1) ∧ yX10_markOf.2.2.1 ≤ 45 := ⟨tb_1 10 rfl rfl, tb_3 65 rfl rfl, by decide +kernel, by decide⟩
theorem im_X10_markOf : Cond.instanceMethod yX10_markOf.1 ∈ gtbl := tb_3 63 rfl rfl
theorem se_X10_markOf : Cond.selects yX10_markOf.1.cls yX10_markOf.1 yX10_markOf.1 ∈ gtbl := tb_3 64 rfl rfl
abbrev yX11_init : Yx := (⟨"WithinWords", "<init>", "()V"⟩, prog_1_method_1_code, 2, none, 3)
theorem ok_X11_init : Cond.initialized yX11_init.1.cls ∈ gtbl ∧ Cond.code yX11_init.1 yX11_init.2.1 yX11_init.2.2.1 yX11_init.2.2.2.1 ∈ gtbl ∧ (yX11_init.1.cls ≠ "java/lang/invoke/MethodHandle" ∧ yX11_init.1.cls ≠ "java/lang/invoke/VarHandle" ∧ (parseMethodDescriptor yX11_init.1.desc).map (fun d => d.parameters.length) = some 0) ∧ yX11_init.2.2.1 ≤ 45 := ⟨tb_1 1 rfl rfl, tb_1 22 rfl rfl, by decide +kernel, by decide⟩
theorem im_X11_init : Cond.instanceMethod yX11_init.1 ∈ gtbl := tb_1 21 rfl rfl
abbrev yX11_row : Yx := (⟨"WithinWords", "row", "(II)I"⟩, prog_1_method_2_code, 3, some .int, 2)
theorem ok_X11_row : Cond.initialized yX11_row.1.cls ∈ gtbl ∧ Cond.code yX11_row.1 yX11_row.2.1 yX11_row.2.2.1 yX11_row.2.2.2.1 ∈ gtbl ∧ (yX11_row.1.cls ≠ "java/lang/invoke/MethodHandle" ∧ yX11_row.1.cls ≠ "java/lang/invoke/VarHandle" ∧ (parseMethodDescriptor yX11_row.1.desc).map (fun d => d.parameters.length) = some 2) ∧ yX11_row.2.2.1 ≤ 45 := ⟨tb_1 1 rfl rfl, tb_2 107 rfl rfl, by decide +kernel, by decide⟩
theorem im_X11_row : Cond.instanceMethod yX11_row.1 ∈ gtbl := tb_2 105 rfl rfl
theorem se_X11_row : Cond.selects yX11_row.1.cls yX11_row.1 yX11_row.1 ∈ gtbl := tb_2 106 rfl rfl
abbrev yX11_lay : Yx := (⟨"WithinWords", "lay", "(III)I"⟩, prog_1_method_3_code, 5, some .int, 4)
theorem ok_X11_lay : Cond.initialized yX11_lay.1.cls ∈ gtbl ∧ Cond.code yX11_lay.1 yX11_lay.2.1 yX11_lay.2.2.1 yX11_lay.2.2.2.1 ∈ gtbl ∧ (yX11_lay.1.cls ≠ "java/lang/invoke/MethodHandle" ∧ yX11_lay.1.cls ≠ "java/lang/invoke/VarHandle" ∧ (parseMethodDescriptor yX11_lay.1.desc).map (fun d => d.parameters.length) = some 3) ∧ yX11_lay.2.2.1 ≤ 45 := ⟨tb_1 1 rfl rfl, tb_2 122 rfl rfl, by decide +kernel, by decide⟩
theorem im_X11_lay : Cond.instanceMethod yX11_lay.1 ∈ gtbl := tb_2 120 rfl rfl
theorem se_X11_lay : Cond.selects yX11_lay.1.cls yX11_lay.1 yX11_lay.1 ∈ gtbl := tb_2 121 rfl rfl
abbrev yX11_at : Yx := (⟨"WithinWords", "at", "(II)I"⟩, prog_1_method_4_code, 4, some .int, 4)
theorem ok_X11_at : Cond.initialized yX11_at.1.cls ∈ gtbl ∧ Cond.code yX11_at.1 yX11_at.2.1 yX11_at.2.2.1 yX11_at.2.2.2.1 ∈ gtbl ∧ (yX11_at.1.cls ≠ "java/lang/invoke/MethodHandle" ∧ yX11_at.1.cls ≠ "java/lang/invoke/VarHandle" ∧ (parseMethodDescriptor yX11_at.1.desc).map (fun d => d.parameters.length) = some 2) ∧ yX11_at.2.2.1 ≤ 45 := ⟨tb_1 1 rfl rfl, tb_2 142 rfl rfl, by decide +kernel, by decide⟩
theorem im_X11_at : Cond.instanceMethod yX11_at.1 ∈ gtbl := tb_2 140 rfl rfl
theorem se_X11_at : Cond.selects yX11_at.1.cls yX11_at.1 yX11_at.1 ∈ gtbl := tb_2 141 rfl rfl
abbrev yX11_tear : Yx := (⟨"WithinWords", "tear", "(I)I"⟩, prog_1_method_5_code, 3, some .int, 3)
theorem ok_X11_tear : Cond.initialized yX11_tear.1.cls ∈ gtbl ∧ Cond.code yX11_tear.1 yX11_tear.2.1 yX11_tear.2.2.1 yX11_tear.2.2.2.1 ∈ gtbl ∧ (yX11_tear.1.cls ≠ "java/lang/invoke/MethodHandle" ∧ yX11_tear.1.cls ≠ "java/lang/invoke/VarHandle" ∧ (parseMethodDescriptor yX11_tear.1.desc).map (fun d => d.parameters.length) = some 1) ∧ yX11_tear.2.2.1 ≤ 45 := ⟨tb_1 1 rfl rfl, tb_2 146 rfl rfl, by decide +kernel, by decide⟩
theorem im_X11_tear : Cond.instanceMethod yX11_tear.1 ∈ gtbl := tb_2 144 rfl rfl
theorem se_X11_tear : Cond.selects yX11_tear.1.cls yX11_tear.1 yX11_tear.1 ∈ gtbl := tb_2 145 rfl rfl
abbrev yX11_copy : Yx := (⟨"WithinWords", "copy", "(IIIII)I"⟩, prog_1_method_6_code, 6, some .int, 2)
theorem ok_X11_copy : Cond.initialized yX11_copy.1.cls ∈ gtbl ∧ Cond.code yX11_copy.1 yX11_copy.2.1 yX11_copy.2.2.1 yX11_copy.2.2.2.1 ∈ gtbl ∧ (yX11_copy.1.cls ≠ "java/lang/invoke/MethodHandle" ∧ yX11_copy.1.cls ≠ "java/lang/invoke/VarHandle" ∧ (parseMethodDescriptor yX11_copy.1.desc).map (fun d => d.parameters.length) = some 5) ∧ yX11_copy.2.2.1 ≤ 45 := ⟨tb_1 1 rfl rfl, tb_2 150 rfl rfl, by decide +kernel, by decide⟩
theorem im_X11_copy : Cond.instanceMethod yX11_copy.1 ∈ gtbl := tb_2 148 rfl rfl
theorem se_X11_copy : Cond.selects yX11_copy.1.cls yX11_copy.1 yX11_copy.1 ∈ gtbl := tb_2 149 rfl rfl
abbrev yX11_mean : Yx := (⟨"WithinWords", "mean", "(I)I"⟩, prog_1_method_7_code, 7, some .int, 3)
theorem ok_X11_mean : Cond.initialized yX11_mean.1.cls ∈ gtbl ∧ Cond.code yX11_mean.1 yX11_mean.2.1 yX11_mean.2.2.1 yX11_mean.2.2.2.1 ∈ gtbl ∧ (yX11_mean.1.cls ≠ "java/lang/invoke/MethodHandle" ∧ yX11_mean.1.cls ≠ "java/lang/invoke/VarHandle" ∧ (parseMethodDescriptor yX11_mean.1.desc).map (fun d => d.parameters.length) = some 1) ∧ yX11_mean.2.2.1 ≤ 45 := ⟨tb_1 1 rfl rfl, tb_2 161 rfl rfl, by decide +kernel, by decide⟩
theorem im_X11_mean : Cond.instanceMethod yX11_mean.1 ∈ gtbl := tb_2 159 rfl rfl
theorem se_X11_mean : Cond.selects yX11_mean.1.cls yX11_mean.1 yX11_mean.1 ∈ gtbl := tb_2 160 rfl rfl
abbrev yX11_text : Yx := (⟨"WithinWords", "text", "(II)I"⟩, prog_1_method_8_code, 3, some .int, 2)
theorem ok_X11_text : Cond.initialized yX11_text.1.cls ∈ gtbl ∧ Cond.code yX11_text.1 yX11_text.2.1 yX11_text.2.2.1 yX11_text.2.2.2.1 ∈ gtbl ∧ (yX11_text.1.cls ≠ "java/lang/invoke/MethodHandle" ∧ yX11_text.1.cls ≠ "java/lang/invoke/VarHandle" ∧ (parseMethodDescriptor yX11_text.1.desc).map (fun d => d.parameters.length) = some 2) ∧ yX11_text.2.2.1 ≤ 45 := ⟨tb_1 1 rfl rfl, tb_2 165 rfl rfl, by decide +kernel, by decide⟩
theorem im_X11_text : Cond.instanceMethod yX11_text.1 ∈ gtbl := tb_2 163 rfl rfl
theorem se_X11_text : Cond.selects yX11_text.1.cls yX11_text.1 yX11_text.1 ∈ gtbl := tb_2 164 rfl rfl
abbrev yX11_put : Yx := (⟨"WithinWords", "put", "(III)I"⟩, prog_1_method_9_code, 6, some .int, 3)
theorem ok_X11_put : Cond.initialized yX11_put.1.cls ∈ gtbl ∧ Cond.code yX11_put.1 yX11_put.2.1 yX11_put.2.2.1 yX11_put.2.2.2.1 ∈ gtbl ∧ (yX11_put.1.cls ≠ "java/lang/invoke/MethodHandle" ∧ yX11_put.1.cls ≠ "java/lang/invoke/VarHandle" ∧ (parseMethodDescriptor yX11_put.1.desc).map (fun d => d.parameters.length) = some 3) ∧ yX11_put.2.2.1 ≤ 45 := ⟨tb_1 1 rfl rfl, tb_2 172 rfl rfl, by decide +kernel, by decide⟩
theorem im_X11_put : Cond.instanceMethod yX11_put.1 ∈ gtbl := tb_2 170 rfl rfl
theorem se_X11_put : Cond.selects yX11_put.1.cls yX11_put.1 yX11_put.1 ∈ gtbl := tb_2 171 rfl rfl
abbrev yX11_letters : Yx := (⟨"WithinWords", "letters", "(I)I"⟩, prog_1_method_10_code, 3, some .int, 2)
theorem ok_X11_letters : Cond.initialized yX11_letters.1.cls ∈ gtbl ∧ Cond.code yX11_letters.1 yX11_letters.2.1 yX11_letters.2.2.1 yX11_letters.2.2.2.1 ∈ gtbl ∧ (yX11_letters.1.cls ≠ "java/lang/invoke/MethodHandle" ∧ yX11_letters.1.cls ≠ "java/lang/invoke/VarHandle" ∧ (parseMethodDescriptor yX11_letters.1.desc).map (fun d => d.parameters.length) = some 1) ∧ yX11_letters.2.2.1 ≤ 45 := ⟨tb_1 1 rfl rfl, tb_2 180 rfl rfl, by decide +kernel, by decide⟩
theorem im_X11_letters : Cond.instanceMethod yX11_letters.1 ∈ gtbl := tb_2 178 rfl rfl
theorem se_X11_letters : Cond.selects yX11_letters.1.cls yX11_letters.1 yX11_letters.1 ∈ gtbl := tb_2 179 rfl rfl
abbrev yX11_word : Yx := (⟨"WithinWords", "word", "(II)I"⟩, prog_1_method_11_code, 4, some .int, 3)
theorem ok_X11_word : Cond.initialized yX11_word.1.cls ∈ gtbl ∧ Cond.code yX11_word.1 yX11_word.2.1 yX11_word.2.2.1 yX11_word.2.2.2.1 ∈ gtbl ∧ (yX11_word.1.cls ≠ "java/lang/invoke/MethodHandle" ∧ yX11_word.1.cls ≠ "java/lang/invoke/VarHandle" ∧ (parseMethodDescriptor yX11_word.1.desc).map (fun d => d.parameters.length) = some 2) ∧ yX11_word.2.2.1 ≤ 45 := ⟨tb_1 1 rfl rfl, tb_2 188 rfl rfl, by decide +kernel, by decide⟩
theorem im_X11_word : Cond.instanceMethod yX11_word.1 ∈ gtbl := tb_2 186 rfl rfl
theorem se_X11_word : Cond.selects yX11_word.1.cls yX11_word.1 yX11_word.1 ∈ gtbl := tb_2 187 rfl rfl
abbrev yX11_fault : Yx := (⟨"WithinWords", "fault", "(I)I"⟩, prog_1_method_12_code, 3, some .int, 4)
theorem ok_X11_fault : Cond.initialized yX11_fault.1.cls ∈ gtbl ∧ Cond.code yX11_fault.1 yX11_fault.2.1 yX11_fault.2.2.1 yX11_fault.2.2.2.1 ∈ gtbl ∧ (yX11_fault.1.cls ≠ "java/lang/invoke/MethodHandle" ∧ yX11_fault.1.cls ≠ "java/lang/invoke/VarHandle" ∧ (parseMethodDescriptor yX11_fault.1.desc).map (fun d => d.parameters.length) = some 1) ∧ yX11_fault.2.2.1 ≤ 45 := ⟨tb_1 1 rfl rfl, tb_2 204 rfl rfl, by decide +kernel, by decide⟩
theorem im_X11_fault : Cond.instanceMethod yX11_fault.1 ∈ gtbl := tb_2 202 rfl rfl
theorem se_X11_fault : Cond.selects yX11_fault.1.cls yX11_fault.1 yX11_fault.1 ∈ gtbl := tb_2 203 rfl rfl
abbrev yX11_tell : Yx := (⟨"WithinWords", "tell", "(II)I"⟩, prog_1_method_13_code, 4, some .int, 4)
theorem ok_X11_tell : Cond.initialized yX11_tell.1.cls ∈ gtbl ∧ Cond.code yX11_tell.1 yX11_tell.2.1 yX11_tell.2.2.1 yX11_tell.2.2.2.1 ∈ gtbl ∧ (yX11_tell.1.cls ≠ "java/lang/invoke/MethodHandle" ∧ yX11_tell.1.cls ≠ "java/lang/invoke/VarHandle" ∧ (parseMethodDescriptor yX11_tell.1.desc).map (fun d => d.parameters.length) = some 2) ∧ yX11_tell.2.2.1 ≤ 45 := ⟨tb_1 1 rfl rfl, tb_2 235 rfl rfl, by decide +kernel, by decide⟩
theorem im_X11_tell : Cond.instanceMethod yX11_tell.1 ∈ gtbl := tb_2 233 rfl rfl
theorem se_X11_tell : Cond.selects yX11_tell.1.cls yX11_tell.1 yX11_tell.1 ∈ gtbl := tb_2 234 rfl rfl
abbrev yX11_join : Yx := (⟨"WithinWords", "join", "(III)I"⟩, prog_1_method_14_code, 8, some .int, 3)
theorem ok_X11_join : Cond.initialized yX11_join.1.cls ∈ gtbl ∧ Cond.code yX11_join.1 yX11_join.2.1 yX11_join.2.2.1 yX11_join.2.2.2.1 ∈ gtbl ∧ (yX11_join.1.cls ≠ "java/lang/invoke/MethodHandle" ∧ yX11_join.1.cls ≠ "java/lang/invoke/VarHandle" ∧ (parseMethodDescriptor yX11_join.1.desc).map (fun d => d.parameters.length) = some 3) ∧ yX11_join.2.2.1 ≤ 45 := ⟨tb_1 1 rfl rfl, tb_2 239 rfl rfl, by decide +kernel, by decide⟩
theorem im_X11_join : Cond.instanceMethod yX11_join.1 ∈ gtbl := tb_2 237 rfl rfl
theorem se_X11_join : Cond.selects yX11_join.1.cls yX11_join.1 yX11_join.1 ∈ gtbl := tb_2 238 rfl rfl
abbrev yX11_part : Yx := (⟨"WithinWords", "part", "(IIII)I"⟩, prog_1_method_15_code, 6, some .int, 3)
theorem ok_X11_part : Cond.initialized yX11_part.1.cls ∈ gtbl ∧ Cond.code yX11_part.1 yX11_part.2.1 yX11_part.2.2.1 yX11_part.2.2.2.1 ∈ gtbl ∧ (yX11_part.1.cls ≠ "java/lang/invoke/MethodHandle" ∧ yX11_part.1.cls ≠ "java/lang/invoke/VarHandle" ∧ (parseMethodDescriptor yX11_part.1.desc).map (fun d => d.parameters.length) = some 4) ∧ yX11_part.2.2.1 ≤ 45 := ⟨tb_1 1 rfl rfl, tb_3 7 rfl rfl, by decide +kernel, by decide⟩
theorem im_X11_part : Cond.instanceMethod yX11_part.1 ∈ gtbl := tb_3 5 rfl rfl
theorem se_X11_part : Cond.selects yX11_part.1.cls yX11_part.1 yX11_part.1 ∈ gtbl := tb_3 6 rfl rfl
abbrev yX11_turn : Yx := (⟨"WithinWords", "turn", "(III)I"⟩, prog_1_method_16_code, 7, some .int, 4)
theorem ok_X11_turn : Cond.initialized yX11_turn.1.cls ∈ gtbl ∧ Cond.code yX11_turn.1 yX11_turn.2.1 yX11_turn.2.2.1 yX11_turn.2.2.2.1 ∈ gtbl ∧ (yX11_turn.1.cls ≠ "java/lang/invoke/MethodHandle" ∧ yX11_turn.1.cls ≠ "java/lang/invoke/VarHandle" ∧ (parseMethodDescriptor yX11_turn.1.desc).map (fun d => d.parameters.length) = some 3) ∧ yX11_turn.2.2.1 ≤ 45 := ⟨tb_1 1 rfl rfl, tb_3 11 rfl rfl, by decide +kernel, by decide⟩
theorem im_X11_turn : Cond.instanceMethod yX11_turn.1 ∈ gtbl := tb_3 9 rfl rfl
theorem se_X11_turn : Cond.selects yX11_turn.1.cls yX11_turn.1 yX11_turn.1 ∈ gtbl := tb_3 10 rfl rfl
abbrev yX11_drop : Yx := (⟨"WithinWords", "drop", "(III)I"⟩, prog_1_method_17_code, 6, some .int, 4)
theorem ok_X11_drop : Cond.initialized yX11_drop.1.cls ∈ gtbl ∧ Cond.code yX11_drop.1 yX11_drop.2.1 yX11_drop.2.2.1 yX11_drop.2.2.2.1 ∈ gtbl ∧ (yX11_drop.1.cls ≠ "java/lang/invoke/MethodHandle" ∧ yX11_drop.1.cls ≠ "java/lang/invoke/VarHandle" ∧ (parseMethodDescriptor yX11_drop.1.desc).map (fun d => d.parameters.length) = some 3) ∧ yX11_drop.2.2.1 ≤ 45 := ⟨tb_1 1 rfl rfl, tb_3 19 rfl rfl, by decide +kernel, by decide⟩
theorem im_X11_drop : Cond.instanceMethod yX11_drop.1 ∈ gtbl := tb_3 17 rfl rfl
theorem se_X11_drop : Cond.selects yX11_drop.1.cls yX11_drop.1 yX11_drop.1 ∈ gtbl := tb_3 18 rfl rfl
abbrev yX11_erase : Yx := (⟨"WithinWords", "erase", "(I)I"⟩, prog_1_method_18_code, 3, some .int, 4)
theorem ok_X11_erase : Cond.initialized yX11_erase.1.cls ∈ gtbl ∧ Cond.code yX11_erase.1 yX11_erase.2.1 yX11_erase.2.2.1 yX11_erase.2.2.2.1 ∈ gtbl ∧ (yX11_erase.1.cls ≠ "java/lang/invoke/MethodHandle" ∧ yX11_erase.1.cls ≠ "java/lang/invoke/VarHandle" ∧ (parseMethodDescriptor yX11_erase.1.desc).map (fun d => d.parameters.length) = some 1) ∧ yX11_erase.2.2.1 ≤ 45 := ⟨tb_1 1 rfl rfl, tb_3 41 rfl rfl, by decide +kernel, by decide⟩
theorem im_X11_erase : Cond.instanceMethod yX11_erase.1 ∈ gtbl := tb_3 39 rfl rfl
theorem se_X11_erase : Cond.selects yX11_erase.1.cls yX11_erase.1 yX11_erase.1 ∈ gtbl := tb_3 40 rfl rfl
abbrev yX11_size : Yx := (⟨"WithinWords", "size", "(I)I"⟩, prog_1_method_19_code, 3, some .int, 4)
theorem ok_X11_size : Cond.initialized yX11_size.1.cls ∈ gtbl ∧ Cond.code yX11_size.1 yX11_size.2.1 yX11_size.2.2.1 yX11_size.2.2.2.1 ∈ gtbl ∧ (yX11_size.1.cls ≠ "java/lang/invoke/MethodHandle" ∧ yX11_size.1.cls ≠ "java/lang/invoke/VarHandle" ∧ (parseMethodDescriptor yX11_size.1.desc).map (fun d => d.parameters.length) = some 1) ∧ yX11_size.2.2.1 ≤ 45 := ⟨tb_1 1 rfl rfl, tb_3 45 rfl rfl, by decide +kernel, by decide⟩
theorem im_X11_size : Cond.instanceMethod yX11_size.1 ∈ gtbl := tb_3 43 rfl rfl
theorem se_X11_size : Cond.selects yX11_size.1.cls yX11_size.1 yX11_size.1 ∈ gtbl := tb_3 44 rfl rfl
abbrev yX11_letter : Yx := (⟨"WithinWords", "letter", "(II)I"⟩, prog_1_method_20_code, 4, some .int, 4)
theorem ok_X11_letter : Cond.initialized yX11_letter.1.cls ∈ gtbl ∧ Cond.code yX11_letter.1 yX11_letter.2.1 yX11_letter.2.2.1 yX11_letter.2.2.2.1 ∈ gtbl ∧ (yX11_letter.1.cls ≠ "java/lang/invoke/MethodHandle" ∧ yX11_letter.1.cls ≠ "java/lang/invoke/VarHandle" ∧ (parseMethodDescriptor yX11_letter.1.desc).map (fun d => d.parameters.length) = some 2) ∧ yX11_letter.2.2.1 ≤ 45 := ⟨tb_1 1 rfl rfl, tb_3 49 rfl rfl, by decide +kernel, by decide⟩
theorem im_X11_letter : Cond.instanceMethod yX11_letter.1 ∈ gtbl := tb_3 47 rfl rfl
theorem se_X11_letter : Cond.selects yX11_letter.1.cls yX11_letter.1 yX11_letter.1 ∈ gtbl := tb_3 48 rfl rfl
abbrev yX11_kind : Yx := (⟨"WithinWords", "kind", "(I)I"⟩, prog_1_method_21_code, 3, some .int, 4)
theorem ok_X11_kind : Cond.initialized yX11_kind.1.cls ∈ gtbl ∧ Cond.code yX11_kind.1 yX11_kind.2.1 yX11_kind.2.2.1 yX11_kind.2.2.2.1 ∈ gtbl ∧ (yX11_kind.1.cls ≠ "java/lang/invoke/MethodHandle" ∧ yX11_kind.1.cls ≠ "java/lang/invoke/VarHandle" ∧ (parseMethodDescriptor yX11_kind.1.desc).map (fun d => d.parameters.length) = some 1) ∧ yX11_kind.2.2.1 ≤ 45 := ⟨tb_1 1 rfl rfl, tb_3 53 rfl rfl, by decide +kernel, by decide⟩
theorem im_X11_kind : Cond.instanceMethod yX11_kind.1 ∈ gtbl := tb_3 51 rfl rfl
theorem se_X11_kind : Cond.selects yX11_kind.1.cls yX11_kind.1 yX11_kind.1 ∈ gtbl := tb_3 52 rfl rfl
abbrev yX11_mark : Yx := (⟨"WithinWords", "mark", "(II)I"⟩, prog_1_method_22_code, 4, some .int, 4)
theorem ok_X11_mark : Cond.initialized yX11_mark.1.cls ∈ gtbl ∧ Cond.code yX11_mark.1 yX11_mark.2.1 yX11_mark.2.2.1 yX11_mark.2.2.2.1 ∈ gtbl ∧ (yX11_mark.1.cls ≠ "java/lang/invoke/MethodHandle" ∧ yX11_mark.1.cls ≠ "java/lang/invoke/VarHandle" ∧ (parseMethodDescriptor yX11_mark.1.desc).map (fun d => d.parameters.length) = some 2) ∧ yX11_mark.2.2.1 ≤ 45 := ⟨tb_1 1 rfl rfl, tb_3 57 rfl rfl, by decide +kernel, by decide⟩
theorem im_X11_mark : Cond.instanceMethod yX11_mark.1 ∈ gtbl := tb_3 55 rfl rfl
theorem se_X11_mark : Cond.selects yX11_mark.1.cls yX11_mark.1 yX11_mark.1 ∈ gtbl := tb_3 56 rfl rfl
abbrev yX11_ways : Yx := (⟨"WithinWords", "ways", "(II)I"⟩, prog_1_method_23_code, 4, some .int, 3)
theorem ok_X11_ways : Cond.initialized yX11_ways.1.cls ∈ gtbl ∧ Cond.code yX11_ways.1 yX11_ways.2.1 yX11_ways.2.2.1 yX11_ways.2.2.2.1 ∈ gtbl ∧ (yX11_ways.1.cls ≠ "java/lang/invoke/MethodHandle" ∧ yX11_ways.1.cls ≠ "java/lang/invoke/VarHandle" ∧ (parseMethodDescriptor yX11_ways.1.desc).map (fun d => d.parameters.length) = some 2) ∧ yX11_ways.2.2.1 ≤ 45 := ⟨tb_1 1 rfl rfl, tb_3 69 rfl rfl, by decide +kernel, by decide⟩
theorem im_X11_ways : Cond.instanceMethod yX11_ways.1 ∈ gtbl := tb_3 67 rfl rfl
theorem se_X11_ways : Cond.selects yX11_ways.1.cls yX11_ways.1 yX11_ways.1 ∈ gtbl := tb_3 68 rfl rfl
abbrev yX11_way : Yx := (⟨"WithinWords", "way", "(IIIZ)I"⟩, prog_1_method_24_code, 6, some .int, 3)
theorem ok_X11_way : Cond.initialized yX11_way.1.cls ∈ gtbl ∧ Cond.code yX11_way.1 yX11_way.2.1 yX11_way.2.2.1 yX11_way.2.2.2.1 ∈ gtbl ∧ (yX11_way.1.cls ≠ "java/lang/invoke/MethodHandle" ∧ yX11_way.1.cls ≠ "java/lang/invoke/VarHandle" ∧ (parseMethodDescriptor yX11_way.1.desc).map (fun d => d.parameters.length) = some 4) ∧ yX11_way.2.2.1 ≤ 45 := ⟨tb_1 1 rfl rfl, tb_3 77 rfl rfl, by decide +kernel, by decide⟩
theorem im_X11_way : Cond.instanceMethod yX11_way.1 ∈ gtbl := tb_3 75 rfl rfl
theorem se_X11_way : Cond.selects yX11_way.1.cls yX11_way.1 yX11_way.1 ∈ gtbl := tb_3 76 rfl rfl
abbrev yX11_places : Yx := (⟨"WithinWords", "places", "(IIZ)I"⟩, prog_1_method_25_code, 7, some .int, 3)
theorem ok_X11_places : Cond.initialized yX11_places.1.cls ∈ gtbl ∧ Cond.code yX11_places.1 yX11_places.2.1 yX11_places.2.2.1 yX11_places.2.2.2.1 ∈ gtbl ∧ (yX11_places.1.cls ≠ "java/lang/invoke/MethodHandle" ∧ yX11_places.1.cls ≠ "java/lang/invoke/VarHandle" ∧ (parseMethodDescriptor yX11_places.1.desc).map (fun d => d.parameters.length) = some 3) ∧ yX11_places.2.2.1 ≤ 45 := ⟨tb_1 1 rfl rfl, tb_3 86 rfl rfl, by decide +kernel, by decide⟩
theorem im_X11_places : Cond.instanceMethod yX11_places.1 ∈ gtbl := tb_3 84 rfl rfl
theorem se_X11_places : Cond.selects yX11_places.1.cls yX11_places.1 yX11_places.1 ∈ gtbl := tb_3 85 rfl rfl
abbrev yX11_judge : Yx := (⟨"WithinWords", "judge", "(III)I"⟩, prog_1_method_26_code, 5, some .int, 3)
theorem ok_X11_judge : Cond.initialized yX11_judge.1.cls ∈ gtbl ∧ Cond.code yX11_judge.1 yX11_judge.2.1 yX11_judge.2.2.1 yX11_judge.2.2.2.1 ∈ gtbl ∧ (yX11_judge.1.cls ≠ "java/lang/invoke/MethodHandle" ∧ yX11_judge.1.cls ≠ "java/lang/invoke/VarHandle" ∧ (parseMethodDescriptor yX11_judge.1.desc).map (fun d => d.parameters.length) = some 3) ∧ yX11_judge.2.2.1 ≤ 45 := ⟨tb_1 1 rfl rfl, tb_3 104 rfl rfl, by decide +kernel, by decide⟩
theorem im_X11_judge : Cond.instanceMethod yX11_judge.1 ∈ gtbl := tb_3 102 rfl rfl
theorem se_X11_judge : Cond.selects yX11_judge.1.cls yX11_judge.1 yX11_judge.1 ∈ gtbl := tb_3 103 rfl rfl
abbrev yX11_bar : Yx := (⟨"WithinWords", "bar", "(II)I"⟩, prog_1_method_27_code, 4, some .int, 3)
theorem ok_X11_bar : Cond.initialized yX11_bar.1.cls ∈ gtbl ∧ Cond.code yX11_bar.1 yX11_bar.2.1 yX11_bar.2.2.1 yX11_bar.2.2.2.1 ∈ gtbl ∧ (yX11_bar.1.cls ≠ "java/lang/invoke/MethodHandle" ∧ yX11_bar.1.cls ≠ "java/lang/invoke/VarHandle" ∧ (parseMethodDescriptor yX11_bar.1.desc).map (fun d => d.parameters.length) = some 2) ∧ yX11_bar.2.2.1 ≤ 45 := ⟨tb_1 1 rfl rfl, tb_3 112 rfl rfl, by decide +kernel, by decide⟩
theorem im_X11_bar : Cond.instanceMethod yX11_bar.1 ∈ gtbl := tb_3 110 rfl rfl
theorem se_X11_bar : Cond.selects yX11_bar.1.cls yX11_bar.1 yX11_bar.1 ∈ gtbl := tb_3 111 rfl rfl
abbrev yX11_inner : Yx := (⟨"WithinWords", "inner", "(II)I"⟩, prog_1_method_28_code, 4, some .int, 4)
theorem ok_X11_inner : Cond.initialized yX11_inner.1.cls ∈ gtbl ∧ Cond.code yX11_inner.1 yX11_inner.2.1 yX11_inner.2.2.1 yX11_inner.2.2.2.1 ∈ gtbl ∧ (yX11_inner.1.cls ≠ "java/lang/invoke/MethodHandle" ∧ yX11_inner.1.cls ≠ "java/lang/invoke/VarHandle" ∧ (parseMethodDescriptor yX11_inner.1.desc).map (fun d => d.parameters.length) = some 2) ∧ yX11_inner.2.2.1 ≤ 45 := ⟨tb_1 1 rfl rfl, tb_3 121 rfl rfl, by decide +kernel, by decide⟩
theorem im_X11_inner : Cond.instanceMethod yX11_inner.1 ∈ gtbl := tb_3 119 rfl rfl
theorem se_X11_inner : Cond.selects yX11_inner.1.cls yX11_inner.1 yX11_inner.1 ∈ gtbl := tb_3 120 rfl rfl
abbrev yX11_rank : Yx := (⟨"WithinWords", "rank", "(II)I"⟩, prog_1_method_29_code, 6, some .int, 4)
theorem ok_X11_rank : Cond.initialized yX11_rank.1.cls ∈ gtbl ∧ Cond.code yX11_rank.1 yX11_rank.2.1 yX11_rank.2.2.1 yX11_rank.2.2.2.1 ∈ gtbl ∧ (yX11_rank.1.cls ≠ "java/lang/invoke/MethodHandle" ∧ yX11_rank.1.cls ≠ "java/lang/invoke/VarHandle" ∧ (parseMethodDescriptor yX11_rank.1.desc).map (fun d => d.parameters.length) = some 2) ∧ yX11_rank.2.2.1 ≤ 45 := ⟨tb_1 1 rfl rfl, tb_3 150 rfl rfl, by decide +kernel, by decide⟩
theorem im_X11_rank : Cond.instanceMethod yX11_rank.1 ∈ gtbl := tb_3 148 rfl rfl
theorem se_X11_rank : Cond.selects yX11_rank.1.cls yX11_rank.1 yX11_rank.1 ∈ gtbl := tb_3 149 rfl rfl
abbrev yX11_byRank : Yx := (⟨"WithinWords", "byRank", "(IIII)I"⟩, prog_1_method_30_code, 6, some .int, 4)
theorem ok_X11_byRank : Cond.initialized yX11_byRank.1.cls ∈ gtbl ∧ Cond.code yX11_byRank.1 yX11_byRank.2.1 yX11_byRank.2.2.1 yX11_byRank.2.2.2.1 ∈ gtbl ∧ (yX11_byRank.1.cls ≠ "java/lang/invoke/MethodHandle" ∧ yX11_byRank.1.cls ≠ "java/lang/invoke/VarHandle" ∧ (parseMethodDescriptor yX11_byRank.1.desc).map (fun d => d.parameters.length) = some 4) ∧ yX11_byRank.2.2.1 ≤ 45 := ⟨tb_1 1 rfl rfl, tb_3 163 rfl rfl, by decide +kernel, by decide⟩
theorem im_X11_byRank : Cond.instanceMethod yX11_byRank.1 ∈ gtbl := tb_3 161 rfl rfl
theorem se_X11_byRank : Cond.selects yX11_byRank.1.cls yX11_byRank.1 yX11_byRank.1 ∈ gtbl := tb_3 162 rfl rfl
abbrev yX11_arches : Yx := (⟨"WithinWords", "arches", "(I)I"⟩, prog_1_method_31_code, 3, some .int, 4)
theorem ok_X11_arches : Cond.initialized yX11_arches.1.cls ∈ gtbl ∧ Cond.code yX11_arches.1 yX11_arches.2.1 yX11_arches.2.2.1 yX11_arches.2.2.2.1 ∈ gtbl ∧ (yX11_arches.1.cls ≠ "java/lang/invoke/MethodHandle" ∧ yX11_arches.1.cls ≠ "java/lang/invoke/VarHandle" ∧ (parseMethodDescriptor yX11_arches.1.desc).map (fun d => d.parameters.length) = some 1) ∧ yX11_arches.2.2.1 ≤ 45 := ⟨tb_1 1 rfl rfl, tb_3 171 rfl rfl, by decide +kernel, by decide⟩
theorem im_X11_arches : Cond.instanceMethod yX11_arches.1 ∈ gtbl := tb_3 169 rfl rfl
theorem se_X11_arches : Cond.selects yX11_arches.1.cls yX11_arches.1 yX11_arches.1 ∈ gtbl := tb_3 170 rfl rfl
abbrev yX11_absent : Yx := (⟨"WithinWords", "absent", "(II)I"⟩, prog_1_method_32_code, 5, some .int, 4)
theorem ok_X11_absent : Cond.initialized yX11_absent.1.cls ∈ gtbl ∧ Cond.code yX11_absent.1 yX11_absent.2.1 yX11_absent.2.2.1 yX11_absent.2.2.2.1 ∈ gtbl ∧ (yX11_absent.1.cls ≠ "java/lang/invoke/MethodHandle" ∧ yX11_absent.1.cls ≠ "java/lang/invoke/VarHandle" ∧ (parseMethodDescriptor yX11_absent.1.desc).map (fun d => d.parameters.length) = some 2) ∧ yX11_absent.2.2.1 ≤ 45 := ⟨tb_1 1 rfl rfl, tb_3 185 rfl rfl, by decide +kernel, by decide⟩
theorem im_X11_absent : Cond.instanceMethod yX11_absent.1 ∈ gtbl := tb_3 183 rfl rfl
theorem se_X11_absent : Cond.selects yX11_absent.1.cls yX11_absent.1 yX11_absent.1 ∈ gtbl := tb_3 184 rfl rfl
abbrev yX11_added : Yx := (⟨"WithinWords", "added", "(II)I"⟩, prog_1_method_33_code, 4, some .int, 4)
theorem ok_X11_added : Cond.initialized yX11_added.1.cls ∈ gtbl ∧ Cond.code yX11_added.1 yX11_added.2.1 yX11_added.2.2.1 yX11_added.2.2.2.1 ∈ gtbl ∧ (yX11_added.1.cls ≠ "java/lang/invoke/MethodHandle" ∧ yX11_added.1.cls ≠ "java/lang/invoke/VarHandle" ∧ (parseMethodDescriptor yX11_added.1.desc).map (fun d => d.parameters.length) = some 2) ∧ yX11_added.2.2.1 ≤ 45 := ⟨tb_1 1 rfl rfl, tb_3 204 rfl rfl, by decide +kernel, by decide⟩
theorem im_X11_added : Cond.instanceMethod yX11_added.1 ∈ gtbl := tb_3 202 rfl rfl
theorem se_X11_added : Cond.selects yX11_added.1.cls yX11_added.1 yX11_added.1 ∈ gtbl := tb_3 203 rfl rfl
abbrev yX11_alike : Yx := (⟨"WithinWords", "alike", "(III)I"⟩, prog_1_method_34_code, 6, some .int, 5)
theorem ok_X11_alike : Cond.initialized yX11_alike.1.cls ∈ gtbl ∧ Cond.code yX11_alike.1 yX11_alike.2.1 yX11_alike.2.2.1 yX11_alike.2.2.2.1 ∈ gtbl ∧ (yX11_alike.1.cls ≠ "java/lang/invoke/MethodHandle" ∧ yX11_alike.1.cls ≠ "java/lang/invoke/VarHandle" ∧ (parseMethodDescriptor yX11_alike.1.desc).map (fun d => d.parameters.length) = some 3) ∧ yX11_alike.2.2.1 ≤ 45 := ⟨tb_1 1 rfl rfl, tb_3 212 rfl rfl, by decide +kernel, by decide⟩
theorem im_X11_alike : Cond.instanceMethod yX11_alike.1 ∈ gtbl := tb_3 210 rfl rfl
theorem se_X11_alike : Cond.selects yX11_alike.1.cls yX11_alike.1 yX11_alike.1 ∈ gtbl := tb_3 211 rfl rfl
abbrev yX11_parting : Yx := (⟨"WithinWords", "parting", "(III)I"⟩, prog_1_method_35_code, 6, some .int, 5)
theorem ok_X11_parting : Cond.initialized yX11_parting.1.cls ∈ gtbl ∧ Cond.code yX11_parting.1 yX11_parting.2.1 yX11_parting.2.2.1 yX11_parting.2.2.2.1 ∈ gtbl ∧ (yX11_parting.1.cls ≠ "java/lang/invoke/MethodHandle" ∧ yX11_parting.1.cls ≠ "java/lang/invoke/VarHandle" ∧ (parseMethodDescriptor yX11_parting.1.desc).map (fun d => d.parameters.length) = some 3) ∧ yX11_parting.2.2.1 ≤ 45 := ⟨tb_1 1 rfl rfl, tb_3 233 rfl rfl, by decide +kernel, by decide⟩
theorem im_X11_parting : Cond.instanceMethod yX11_parting.1 ∈ gtbl := tb_3 231 rfl rfl
theorem se_X11_parting : Cond.selects yX11_parting.1.cls yX11_parting.1 yX11_parting.1 ∈ gtbl := tb_3 232 rfl rfl
abbrev yX11_common : Yx := (⟨"WithinWords", "common", "(II)I"⟩, prog_1_method_36_code, 5, some .int, 5)
theorem ok_X11_common : Cond.initialized yX11_common.1.cls ∈ gtbl ∧ Cond.code yX11_common.1 yX11_common.2.1 yX11_common.2.2.1 yX11_common.2.2.2.1 ∈ gtbl ∧ (yX11_common.1.cls ≠ "java/lang/invoke/MethodHandle" ∧ yX11_common.1.cls ≠ "java/lang/invoke/VarHandle" ∧ (parseMethodDescriptor yX11_common.1.desc).map (fun d => d.parameters.length) = some 2) ∧ yX11_common.2.2.1 ≤ 45 := ⟨tb_1 1 rfl rfl, tb_4 1 rfl rfl, by decide +kernel, by decide⟩
theorem im_X11_common : Cond.instanceMethod yX11_common.1 ∈ gtbl := tb_3 239 rfl rfl
theorem se_X11_common : Cond.selects yX11_common.1.cls yX11_common.1 yX11_common.1 ∈ gtbl := tb_4 0 rfl rfl
abbrev yX11_cover : Yx := (⟨"WithinWords", "cover", "(II)I"⟩, prog_1_method_37_code, 5, some .int, 5)
theorem ok_X11_cover : Cond.initialized yX11_cover.1.cls ∈ gtbl ∧ Cond.code yX11_cover.1 yX11_cover.2.1 yX11_cover.2.2.1 yX11_cover.2.2.2.1 ∈ gtbl ∧ (yX11_cover.1.cls ≠ "java/lang/invoke/MethodHandle" ∧ yX11_cover.1.cls ≠ "java/lang/invoke/VarHandle" ∧ (parseMethodDescriptor yX11_cover.1.desc).map (fun d => d.parameters.length) = some 2) ∧ yX11_cover.2.2.1 ≤ 45 := ⟨tb_1 1 rfl rfl, tb_4 61 rfl rfl, by decide +kernel, by decide⟩
theorem im_X11_cover : Cond.instanceMethod yX11_cover.1 ∈ gtbl := tb_4 59 rfl rfl
theorem se_X11_cover : Cond.selects yX11_cover.1.cls yX11_cover.1 yX11_cover.1 ∈ gtbl := tb_4 60 rfl rfl
abbrev yX11_both : Yx := (⟨"WithinWords", "both", "(II)I"⟩, prog_1_method_38_code, 4, some .int, 4)
theorem ok_X11_both : Cond.initialized yX11_both.1.cls ∈ gtbl ∧ Cond.code yX11_both.1 yX11_both.2.1 yX11_both.2.2.1 yX11_both.2.2.2.1 ∈ gtbl ∧ (yX11_both.1.cls ≠ "java/lang/invoke/MethodHandle" ∧ yX11_both.1.cls ≠ "java/lang/invoke/VarHandle" ∧ (parseMethodDescriptor yX11_both.1.desc).map (fun d => d.parameters.length) = some 2) ∧ yX11_both.2.2.1 ≤ 45 := ⟨tb_1 1 rfl rfl, tb_4 87 rfl rfl, by decide +kernel, by decide⟩
theorem im_X11_both : Cond.instanceMethod yX11_both.1 ∈ gtbl := tb_4 85 rfl rfl
theorem se_X11_both : Cond.selects yX11_both.1.cls yX11_both.1 yX11_both.1 ∈ gtbl := tb_4 86 rfl rfl
abbrev yX11_twins : Yx := (⟨"WithinWords", "twins", "(III)I"⟩, prog_1_method_39_code, 7, some .int, 48)
theorem ok_X11_twins : Cond.initialized yX11_twins.1.cls ∈ gtbl ∧ Cond.code yX11_twins.1 yX11_twins.2.1 yX11_twins.2.2.1 yX11_twins.2.2.2.1 ∈ gtbl ∧ (yX11_twins.1.cls ≠ "java/lang/invoke/MethodHandle" ∧ yX11_twins.1.cls ≠ "java/lang/invoke/VarHandle" ∧ (parseMethodDescriptor yX11_twins.1.desc).map (fun d => d.parameters.length) = some 3) ∧ yX11_twins.2.2.1 ≤ 45 := ⟨tb_1 1 rfl rfl, tb_4 99 rfl rfl, by decide +kernel, by decide⟩
theorem im_X11_twins : Cond.instanceMethod yX11_twins.1 ∈ gtbl := tb_4 97 rfl rfl
theorem se_X11_twins : Cond.selects yX11_twins.1.cls yX11_twins.1 yX11_twins.1 ∈ gtbl := tb_4 98 rfl rfl
abbrev yX11_odds : Yx := (⟨"WithinWords", "odds", "(II)I"⟩, prog_1_method_40_code, 6, some .int, 3)
theorem ok_X11_odds : Cond.initialized yX11_odds.1.cls ∈ gtbl ∧ Cond.code yX11_odds.1 yX11_odds.2.1 yX11_odds.2.2.1 yX11_odds.2.2.2.1 ∈ gtbl ∧ (yX11_odds.1.cls ≠ "java/lang/invoke/MethodHandle" ∧ yX11_odds.1.cls ≠ "java/lang/invoke/VarHandle" ∧ (parseMethodDescriptor yX11_odds.1.desc).map (fun d => d.parameters.length) = some 2) ∧ yX11_odds.2.2.1 ≤ 45 := ⟨tb_1 1 rfl rfl, tb_4 135 rfl rfl, by decide +kernel, by decide⟩
theorem im_X11_odds : Cond.instanceMethod yX11_odds.1 ∈ gtbl := tb_4 133 rfl rfl
theorem se_X11_odds : Cond.selects yX11_odds.1.cls yX11_odds.1 yX11_odds.1 ∈ gtbl := tb_4 134 rfl rfl
abbrev yX11_byChance : Yx := (⟨"WithinWords", "byChance", "(II)I"⟩, prog_1_method_41_code, 7, some .int, 4)
theorem ok_X11_byChance : Cond.initialized yX11_byChance.1.cls ∈ gtbl ∧ Cond.code yX11_byChance.1 yX11_byChance.2.1 yX11_byChance.2.2.1 yX11_byChance.2.2.2.1 ∈ gtbl ∧ (yX11_byChance.1.cls ≠ "java/lang/invoke/MethodHandle" ∧ yX11_byChance.1.cls ≠ "java/lang/invoke/VarHandle" ∧ (parseMethodDescriptor yX11_byChance.1.desc).map (fun d => d.parameters.length) = some 2) ∧ yX11_byChance.2.2.1 ≤ 45 := ⟨tb_1 1 rfl rfl, tb_4 149 rfl rfl, by decide +kernel, by decide⟩
theorem im_X11_byChance : Cond.instanceMethod yX11_byChance.1 ∈ gtbl := tb_4 147 rfl rfl
theorem se_X11_byChance : Cond.selects yX11_byChance.1.cls yX11_byChance.1 yX11_byChance.1 ∈ gtbl := tb_4 148 rfl rfl
abbrev yX11_asked : Yx := (⟨"WithinWords", "asked", "()I"⟩, prog_1_method_42_code, 1, some .int, 1)
theorem ok_X11_asked : Cond.initialized yX11_asked.1.cls ∈ gtbl ∧ Cond.code yX11_asked.1 yX11_asked.2.1 yX11_asked.2.2.1 yX11_asked.2.2.2.1 ∈ gtbl ∧ (yX11_asked.1.cls ≠ "java/lang/invoke/MethodHandle" ∧ yX11_asked.1.cls ≠ "java/lang/invoke/VarHandle" ∧ (parseMethodDescriptor yX11_asked.1.desc).map (fun d => d.parameters.length) = some 0) ∧ yX11_asked.2.2.1 ≤ 45 := ⟨tb_1 1 rfl rfl, tb_4 156 rfl rfl, by decide +kernel, by decide⟩
theorem im_X11_asked : Cond.instanceMethod yX11_asked.1 ∈ gtbl := tb_4 154 rfl rfl
theorem se_X11_asked : Cond.selects yX11_asked.1.cls yX11_asked.1 yX11_asked.1 ∈ gtbl := tb_4 155 rfl rfl
abbrev yX11_many : Yx := (⟨"WithinWords", "many", "()J"⟩, prog_1_method_43_code, 1, some .long, 1)
theorem ok_X11_many : Cond.initialized yX11_many.1.cls ∈ gtbl ∧ Cond.code yX11_many.1 yX11_many.2.1 yX11_many.2.2.1 yX11_many.2.2.2.1 ∈ gtbl ∧ (yX11_many.1.cls ≠ "java/lang/invoke/MethodHandle" ∧ yX11_many.1.cls ≠ "java/lang/invoke/VarHandle" ∧ (parseMethodDescriptor yX11_many.1.desc).map (fun d => d.parameters.length) = some 0) ∧ yX11_many.2.2.1 ≤ 45 := ⟨tb_1 1 rfl rfl, tb_4 160 rfl rfl, by decide +kernel, by decide⟩
theorem im_X11_many : Cond.instanceMethod yX11_many.1 ∈ gtbl := tb_4 158 rfl rfl
theorem se_X11_many : Cond.selects yX11_many.1.cls yX11_many.1 yX11_many.1 ∈ gtbl := tb_4 159 rfl rfl
abbrev yX11_upper : Yx := (⟨"WithinWords", "upper", "()J"⟩, prog_1_method_44_code, 1, some .long, 1)
theorem ok_X11_upper : Cond.initialized yX11_upper.1.cls ∈ gtbl ∧ Cond.code yX11_upper.1 yX11_upper.2.1 yX11_upper.2.2.1 yX11_upper.2.2.2.1 ∈ gtbl ∧ (yX11_upper.1.cls ≠ "java/lang/invoke/MethodHandle" ∧ yX11_upper.1.cls ≠ "java/lang/invoke/VarHandle" ∧ (parseMethodDescriptor yX11_upper.1.desc).map (fun d => d.parameters.length) = some 0) ∧ yX11_upper.2.2.1 ≤ 45 := ⟨tb_1 1 rfl rfl, tb_4 164 rfl rfl, by decide +kernel, by decide⟩
theorem im_X11_upper : Cond.instanceMethod yX11_upper.1 ∈ gtbl := tb_4 162 rfl rfl
theorem se_X11_upper : Cond.selects yX11_upper.1.cls yX11_upper.1 yX11_upper.1 ∈ gtbl := tb_4 163 rfl rfl
abbrev yX11_lower : Yx := (⟨"WithinWords", "lower", "()J"⟩, prog_1_method_45_code, 1, some .long, 1)
theorem ok_X11_lower : Cond.initialized yX11_lower.1.cls ∈ gtbl ∧ Cond.code yX11_lower.1 yX11_lower.2.1 yX11_lower.2.2.1 yX11_lower.2.2.2.1 ∈ gtbl ∧ (yX11_lower.1.cls ≠ "java/lang/invoke/MethodHandle" ∧ yX11_lower.1.cls ≠ "java/lang/invoke/VarHandle" ∧ (parseMethodDescriptor yX11_lower.1.desc).map (fun d => d.parameters.length) = some 0) ∧ yX11_lower.2.2.1 ≤ 45 := ⟨tb_1 1 rfl rfl, tb_4 168 rfl rfl, by decide +kernel, by decide⟩
theorem im_X11_lower : Cond.instanceMethod yX11_lower.1 ∈ gtbl := tb_4 166 rfl rfl
theorem se_X11_lower : Cond.selects yX11_lower.1.cls yX11_lower.1 yX11_lower.1 ∈ gtbl := tb_4 167 rfl rfl
abbrev yX11_count : Yx := (⟨"WithinWords", "count", "(I)I"⟩, prog_1_method_46_code, 2, some .int, 3)
theorem ok_X11_count : Cond.initialized yX11_count.1.cls ∈ gtbl ∧ Cond.code yX11_count.1 yX11_count.2.1 yX11_count.2.2.1 yX11_count.2.2.2.1 ∈ gtbl ∧ (yX11_count.1.cls ≠ "java/lang/invoke/MethodHandle" ∧ yX11_count.1.cls ≠ "java/lang/invoke/VarHandle" ∧ (parseMethodDescriptor yX11_count.1.desc).map (fun d => d.parameters.length) = some 1) ∧ yX11_count.2.2.1 ≤ 45 := ⟨tb_1 1 rfl rfl, tb_4 172 rfl rfl, by decide +kernel, by decide⟩
theorem im_X11_count : Cond.instanceMethod yX11_count.1 ∈ gtbl := tb_4 170 rfl rfl
theorem se_X11_count : Cond.selects yX11_count.1.cls yX11_count.1 yX11_count.1 ∈ gtbl := tb_4 171 rfl rfl
abbrev yX11_finding : Yx := (⟨"WithinWords", "finding", "()I"⟩, prog_1_method_47_code, 1, some .int, 1)
theorem ok_X11_finding : Cond.initialized yX11_finding.1.cls ∈ gtbl ∧ Cond.code yX11_finding.1 yX11_finding.2.1 yX11_finding.2.2.1 yX11_finding.2.2.2.1 ∈ gtbl ∧ (yX11_finding.1.cls ≠ "java/lang/invoke/MethodHandle" ∧ yX11_finding.1.cls ≠ "java/lang/invoke/VarHandle" ∧ (parseMethodDescriptor yX11_finding.1.desc).map (fun d => d.parameters.length) = some 0) ∧ yX11_finding.2.2.1 ≤ 45 := ⟨tb_1 1 rfl rfl, tb_4 188 rfl rfl, by decide +kernel, by decide⟩
theorem im_X11_finding : Cond.instanceMethod yX11_finding.1 ∈ gtbl := tb_4 186 rfl rfl
theorem se_X11_finding : Cond.selects yX11_finding.1.cls yX11_finding.1 yX11_finding.1 ∈ gtbl := tb_4 187 rfl rfl
abbrev yX11_findings : Yx := (⟨"WithinWords", "findings", "(I)I"⟩, prog_1_method_48_code, 2, some .int, 1)
theorem ok_X11_findings : Cond.initialized yX11_findings.1.cls ∈ gtbl ∧ Cond.code yX11_findings.1 yX11_findings.2.1 yX11_findings.2.2.1 yX11_findings.2.2.2.1 ∈ gtbl ∧ (yX11_findings.1.cls ≠ "java/lang/invoke/MethodHandle" ∧ yX11_findings.1.cls ≠ "java/lang/invoke/VarHandle" ∧ (parseMethodDescriptor yX11_findings.1.desc).map (fun d => d.parameters.length) = some 1) ∧ yX11_findings.2.2.1 ≤ 45 := ⟨tb_1 1 rfl rfl, tb_4 192 rfl rfl, by decide +kernel, by decide⟩
theorem im_X11_findings : Cond.instanceMethod yX11_findings.1 ∈ gtbl := tb_4 190 rfl rfl
theorem se_X11_findings : Cond.selects yX11_findings.1.cls yX11_findings.1 yX11_findings.1 ∈ gtbl := tb_4 191 rfl rfl
abbrev yX11_digest : Yx := (⟨"WithinWords", "digest", "()J"⟩, prog_1_method_49_code, 5, some .long, 4)
theorem ok_X11_digest : Cond.initialized yX11_digest.1.cls ∈ gtbl ∧ Cond.code yX11_digest.1 yX11_digest.2.1 yX11_digest.2.2.1 yX11_digest.2.2.2.1 ∈ gtbl ∧ (yX11_digest.1.cls ≠ "java/lang/invoke/MethodHandle" ∧ yX11_digest.1.cls ≠ "java/lang/invoke/VarHandle" ∧ (parseMethodDescriptor yX11_digest.1.desc).map (fun d => d.parameters.length) = some 0) ∧ yX11_digest.2.2.1 ≤ 45 := ⟨tb_1 1 rfl rfl, tb_4 196 rfl rfl, by decide +kernel, by decide⟩
theorem im_X11_digest : Cond.instanceMethod yX11_digest.1 ∈ gtbl := tb_4 194 rfl rfl
theorem se_X11_digest : Cond.selects yX11_digest.1.cls yX11_digest.1 yX11_digest.1 ∈ gtbl := tb_4 195 rfl rfl
abbrev yX11_noRow : Yx := (⟨"WithinWords", "noRow", "(I)Z"⟩, prog_1_method_50_code, 1, some .boolean, 1)
theorem ok_X11_noRow : Cond.initialized yX11_noRow.1.cls ∈ gtbl ∧ Cond.code yX11_noRow.1 yX11_noRow.2.1 yX11_noRow.2.2.1 yX11_noRow.2.2.2.1 ∈ gtbl ∧ (yX11_noRow.1.cls ≠ "java/lang/invoke/MethodHandle" ∧ yX11_noRow.1.cls ≠ "java/lang/invoke/VarHandle" ∧ (parseMethodDescriptor yX11_noRow.1.desc).map (fun d => d.parameters.length) = some 1) ∧ yX11_noRow.2.2.1 ≤ 45 := ⟨tb_1 1 rfl rfl, tb_2 110 rfl rfl, by decide +kernel, by decide⟩
theorem st_X11_noRow : Cond.static yX11_noRow.1 ∈ gtbl := tb_2 109 rfl rfl
abbrev yX11_noText : Yx := (⟨"WithinWords", "noText", "(I)Z"⟩, prog_1_method_51_code, 1, some .boolean, 1)
theorem ok_X11_noText : Cond.initialized yX11_noText.1.cls ∈ gtbl ∧ Cond.code yX11_noText.1 yX11_noText.2.1 yX11_noText.2.2.1 yX11_noText.2.2.2.1 ∈ gtbl ∧ (yX11_noText.1.cls ≠ "java/lang/invoke/MethodHandle" ∧ yX11_noText.1.cls ≠ "java/lang/invoke/VarHandle" ∧ (parseMethodDescriptor yX11_noText.1.desc).map (fun d => d.parameters.length) = some 1) ∧ yX11_noText.2.2.1 ≤ 45 := ⟨tb_1 1 rfl rfl, tb_2 168 rfl rfl, by decide +kernel, by decide⟩
theorem st_X11_noText : Cond.static yX11_noText.1 ∈ gtbl := tb_2 167 rfl rfl
abbrev yX11_noWord : Yx := (⟨"WithinWords", "noWord", "(I)Z"⟩, prog_1_method_52_code, 1, some .boolean, 1)
theorem ok_X11_noWord : Cond.initialized yX11_noWord.1.cls ∈ gtbl ∧ Cond.code yX11_noWord.1 yX11_noWord.2.1 yX11_noWord.2.2.1 yX11_noWord.2.2.2.1 ∈ gtbl ∧ (yX11_noWord.1.cls ≠ "java/lang/invoke/MethodHandle" ∧ yX11_noWord.1.cls ≠ "java/lang/invoke/VarHandle" ∧ (parseMethodDescriptor yX11_noWord.1.desc).map (fun d => d.parameters.length) = some 1) ∧ yX11_noWord.2.2.1 ≤ 45 := ⟨tb_1 1 rfl rfl, tb_2 191 rfl rfl, by decide +kernel, by decide⟩
theorem st_X11_noWord : Cond.static yX11_noWord.1 ∈ gtbl := tb_2 190 rfl rfl
abbrev yX11_noLength : Yx := (⟨"WithinWords", "noLength", "(I)Z"⟩, prog_1_method_53_code, 1, some .boolean, 1)
theorem ok_X11_noLength : Cond.initialized yX11_noLength.1.cls ∈ gtbl ∧ Cond.code yX11_noLength.1 yX11_noLength.2.1 yX11_noLength.2.2.1 yX11_noLength.2.2.2.1 ∈ gtbl ∧ (yX11_noLength.1.cls ≠ "java/lang/invoke/MethodHandle" ∧ yX11_noLength.1.cls ≠ "java/lang/invoke/VarHandle" ∧ (parseMethodDescriptor yX11_noLength.1.desc).map (fun d => d.parameters.length) = some 1) ∧ yX11_noLength.2.2.1 ≤ 45 := ⟨tb_1 1 rfl rfl, tb_3 22 rfl rfl, by decide +kernel, by decide⟩
theorem st_X11_noLength : Cond.static yX11_noLength.1 ∈ gtbl := tb_3 21 rfl rfl
abbrev yX11_found : Yx := (⟨"WithinWords", "found", "(I)I"⟩, prog_1_method_54_code, 2, some .int, 1)
theorem ok_X11_found : Cond.initialized yX11_found.1.cls ∈ gtbl ∧ Cond.code yX11_found.1 yX11_found.2.1 yX11_found.2.2.1 yX11_found.2.2.2.1 ∈ gtbl ∧ (yX11_found.1.cls ≠ "java/lang/invoke/MethodHandle" ∧ yX11_found.1.cls ≠ "java/lang/invoke/VarHandle" ∧ (parseMethodDescriptor yX11_found.1.desc).map (fun d => d.parameters.length) = some 1) ∧ yX11_found.2.2.1 ≤ 45 := ⟨tb_1 1 rfl rfl, tb_2 114 rfl rfl, by decide +kernel, by decide⟩
theorem im_X11_found : Cond.instanceMethod yX11_found.1 ∈ gtbl := tb_2 113 rfl rfl
theorem se_X11_found : Cond.selects yX11_found.1.cls yX11_found.1 yX11_found.1 ∈ gtbl := tb_sel (q := (yX11_found.1, 19)) (List.mem_of_getElem? (i := 0) (by decide +kernel))
abbrev yX11_refuseRow : Yx := (⟨"WithinWords", "refuseRow", "(I)I"⟩, prog_1_method_55_code, 2, some .int, 2)
theorem ok_X11_refuseRow : Cond.initialized yX11_refuseRow.1.cls ∈ gtbl ∧ Cond.code yX11_refuseRow.1 yX11_refuseRow.2.1 yX11_refuseRow.2.2.1 yX11_refuseRow.2.2.2.1 ∈ gtbl ∧ (yX11_refuseRow.1.cls ≠ "java/lang/invoke/MethodHandle" ∧ yX11_refuseRow.1.cls ≠ "java/lang/invoke/VarHandle" ∧ (parseMethodDescriptor yX11_refuseRow.1.desc).map (fun d => d.parameters.length) = some 1) ∧ yX11_refuseRow.2.2.1 ≤ 45 := ⟨tb_1 1 rfl rfl, tb_2 130 rfl rfl, by decide +kernel, by decide⟩
theorem im_X11_refuseRow : Cond.instanceMethod yX11_refuseRow.1 ∈ gtbl := tb_2 129 rfl rfl
theorem se_X11_refuseRow : Cond.selects yX11_refuseRow.1.cls yX11_refuseRow.1 yX11_refuseRow.1 ∈ gtbl := tb_sel (q := (yX11_refuseRow.1, 19)) (List.mem_of_getElem? (i := 2) (by decide +kernel))
abbrev yX11_refusePlace : Yx := (⟨"WithinWords", "refusePlace", "(II)I"⟩, prog_1_method_56_code, 4, some .int, 3)
theorem ok_X11_refusePlace : Cond.initialized yX11_refusePlace.1.cls ∈ gtbl ∧ Cond.code yX11_refusePlace.1 yX11_refusePlace.2.1 yX11_refusePlace.2.2.1 yX11_refusePlace.2.2.2.1 ∈ gtbl ∧ (yX11_refusePlace.1.cls ≠ "java/lang/invoke/MethodHandle" ∧ yX11_refusePlace.1.cls ≠ "java/lang/invoke/VarHandle" ∧ (parseMethodDescriptor yX11_refusePlace.1.desc).map (fun d => d.parameters.length) = some 2) ∧ yX11_refusePlace.2.2.1 ≤ 45 := ⟨tb_1 1 rfl rfl, tb_2 126 rfl rfl, by decide +kernel, by decide⟩
theorem im_X11_refusePlace : Cond.instanceMethod yX11_refusePlace.1 ∈ gtbl := tb_2 125 rfl rfl
theorem se_X11_refusePlace : Cond.selects yX11_refusePlace.1.cls yX11_refusePlace.1 yX11_refusePlace.1 ∈ gtbl := tb_sel (q := (yX11_refusePlace.1, 19)) (List.mem_of_getElem? (i := 1) (by decide +kernel))
abbrev yX11_refuseText : Yx := (⟨"WithinWords", "refuseText", "(I)I"⟩, prog_1_method_57_code, 2, some .int, 2)
theorem ok_X11_refuseText : Cond.initialized yX11_refuseText.1.cls ∈ gtbl ∧ Cond.code yX11_refuseText.1 yX11_refuseText.2.1 yX11_refuseText.2.2.1 yX11_refuseText.2.2.2.1 ∈ gtbl ∧ (yX11_refuseText.1.cls ≠ "java/lang/invoke/MethodHandle" ∧ yX11_refuseText.1.cls ≠ "java/lang/invoke/VarHandle" ∧ (parseMethodDescriptor yX11_refuseText.1.desc).map (fun d => d.parameters.length) = some 1) ∧ yX11_refuseText.2.2.1 ≤ 45 := ⟨tb_1 1 rfl rfl, tb_2 176 rfl rfl, by decide +kernel, by decide⟩
theorem im_X11_refuseText : Cond.instanceMethod yX11_refuseText.1 ∈ gtbl := tb_2 175 rfl rfl
theorem se_X11_refuseText : Cond.selects yX11_refuseText.1.cls yX11_refuseText.1 yX11_refuseText.1 ∈ gtbl := tb_sel (q := (yX11_refuseText.1, 19)) (List.mem_of_getElem? (i := 3) (by decide +kernel))
abbrev yX11_refuseWord : Yx := (⟨"WithinWords", "refuseWord", "(I)I"⟩, prog_1_method_58_code, 2, some .int, 3)
theorem ok_X11_refuseWord : Cond.initialized yX11_refuseWord.1.cls ∈ gtbl ∧ Cond.code yX11_refuseWord.1 yX11_refuseWord.2.1 yX11_refuseWord.2.2.1 yX11_refuseWord.2.2.2.1 ∈ gtbl ∧ (yX11_refuseWord.1.cls ≠ "java/lang/invoke/MethodHandle" ∧ yX11_refuseWord.1.cls ≠ "java/lang/invoke/VarHandle" ∧ (parseMethodDescriptor yX11_refuseWord.1.desc).map (fun d => d.parameters.length) = some 1) ∧ yX11_refuseWord.2.2.1 ≤ 45 := ⟨tb_1 1 rfl rfl, tb_3 15 rfl rfl, by decide +kernel, by decide⟩
theorem im_X11_refuseWord : Cond.instanceMethod yX11_refuseWord.1 ∈ gtbl := tb_3 14 rfl rfl
theorem se_X11_refuseWord : Cond.selects yX11_refuseWord.1.cls yX11_refuseWord.1 yX11_refuseWord.1 ∈ gtbl := tb_sel (q := (yX11_refuseWord.1, 19)) (List.mem_of_getElem? (i := 10) (by decide +kernel))
abbrev yX11_refuseWords : Yx := (⟨"WithinWords", "refuseWords", "(II)I"⟩, prog_1_method_59_code, 3, some .int, 2)
theorem ok_X11_refuseWords : Cond.initialized yX11_refuseWords.1.cls ∈ gtbl ∧ Cond.code yX11_refuseWords.1 yX11_refuseWords.2.1 yX11_refuseWords.2.2.1 yX11_refuseWords.2.2.2.1 ∈ gtbl ∧ (yX11_refuseWords.1.cls ≠ "java/lang/invoke/MethodHandle" ∧ yX11_refuseWords.1.cls ≠ "java/lang/invoke/VarHandle" ∧ (parseMethodDescriptor yX11_refuseWords.1.desc).map (fun d => d.parameters.length) = some 2) ∧ yX11_refuseWords.2.2.1 ≤ 45 := ⟨tb_1 1 rfl rfl, tb_3 3 rfl rfl, by decide +kernel, by decide⟩
theorem im_X11_refuseWords : Cond.instanceMethod yX11_refuseWords.1 ∈ gtbl := tb_3 2 rfl rfl
theorem se_X11_refuseWords : Cond.selects yX11_refuseWords.1.cls yX11_refuseWords.1 yX11_refuseWords.1 ∈ gtbl := tb_sel (q := (yX11_refuseWords.1, 19)) (List.mem_of_getElem? (i := 9) (by decide +kernel))
abbrev yX11_refuseSet : Yx := (⟨"WithinWords", "refuseSet", "(II)I"⟩, prog_1_method_60_code, 4, some .int, 2)
theorem ok_X11_refuseSet : Cond.initialized yX11_refuseSet.1.cls ∈ gtbl ∧ Cond.code yX11_refuseSet.1 yX11_refuseSet.2.1 yX11_refuseSet.2.2.1 yX11_refuseSet.2.2.2.1 ∈ gtbl ∧ (yX11_refuseSet.1.cls ≠ "java/lang/invoke/MethodHandle" ∧ yX11_refuseSet.1.cls ≠ "java/lang/invoke/VarHandle" ∧ (parseMethodDescriptor yX11_refuseSet.1.desc).map (fun d => d.parameters.length) = some 2) ∧ yX11_refuseSet.2.2.1 ≤ 45 := ⟨tb_1 1 rfl rfl, tb_4 5 rfl rfl, by decide +kernel, by decide⟩
theorem im_X11_refuseSet : Cond.instanceMethod yX11_refuseSet.1 ∈ gtbl := tb_4 4 rfl rfl
theorem se_X11_refuseSet : Cond.selects yX11_refuseSet.1.cls yX11_refuseSet.1 yX11_refuseSet.1 ∈ gtbl := tb_sel (q := (yX11_refuseSet.1, 19)) (List.mem_of_getElem? (i := 18) (by decide +kernel))
abbrev yX11_countThere : Yx := (⟨"WithinWords", "countThere", "([LWithinWords$Line;)I"⟩, prog_1_method_61_code, 3, some .int, 2)
theorem ok_X11_countThere : Cond.initialized yX11_countThere.1.cls ∈ gtbl ∧ Cond.code yX11_countThere.1 yX11_countThere.2.1 yX11_countThere.2.2.1 yX11_countThere.2.2.2.1 ∈ gtbl ∧ (yX11_countThere.1.cls ≠ "java/lang/invoke/MethodHandle" ∧ yX11_countThere.1.cls ≠ "java/lang/invoke/VarHandle" ∧ (parseMethodDescriptor yX11_countThere.1.desc).map (fun d => d.parameters.length) = some 1) ∧ yX11_countThere.2.2.1 ≤ 45 := ⟨tb_1 1 rfl rfl, tb_4 175 rfl rfl, by decide +kernel, by decide⟩
theorem st_X11_countThere : Cond.static yX11_countThere.1 ∈ gtbl := tb_4 174 rfl rfl
abbrev yX11_countWords : Yx := (⟨"WithinWords", "countWords", "(I)I"⟩, prog_1_method_62_code, 4, some .int, 2)
theorem ok_X11_countWords : Cond.initialized yX11_countWords.1.cls ∈ gtbl ∧ Cond.code yX11_countWords.1 yX11_countWords.2.1 yX11_countWords.2.2.1 yX11_countWords.2.2.2.1 ∈ gtbl ∧ (yX11_countWords.1.cls ≠ "java/lang/invoke/MethodHandle" ∧ yX11_countWords.1.cls ≠ "java/lang/invoke/VarHandle" ∧ (parseMethodDescriptor yX11_countWords.1.desc).map (fun d => d.parameters.length) = some 1) ∧ yX11_countWords.2.2.1 ≤ 45 := ⟨tb_1 1 rfl rfl, tb_4 179 rfl rfl, by decide +kernel, by decide⟩
theorem im_X11_countWords : Cond.instanceMethod yX11_countWords.1 ∈ gtbl := tb_4 178 rfl rfl
theorem se_X11_countWords : Cond.selects yX11_countWords.1.cls yX11_countWords.1 yX11_countWords.1 ∈ gtbl := tb_sel (q := (yX11_countWords.1, 19)) (List.mem_of_getElem? (i := 39) (by decide +kernel))
abbrev yX11_countLetters : Yx := (⟨"WithinWords", "countLetters", "()I"⟩, prog_1_method_63_code, 3, some .int, 2)
theorem ok_X11_countLetters : Cond.initialized yX11_countLetters.1.cls ∈ gtbl ∧ Cond.code yX11_countLetters.1 yX11_countLetters.2.1 yX11_countLetters.2.2.1 yX11_countLetters.2.2.2.1 ∈ gtbl ∧ (yX11_countLetters.1.cls ≠ "java/lang/invoke/MethodHandle" ∧ yX11_countLetters.1.cls ≠ "java/lang/invoke/VarHandle" ∧ (parseMethodDescriptor yX11_countLetters.1.desc).map (fun d => d.parameters.length) = some 0) ∧ yX11_countLetters.2.2.1 ≤ 45 := ⟨tb_1 1 rfl rfl, tb_4 183 rfl rfl, by decide +kernel, by decide⟩
theorem im_X11_countLetters : Cond.instanceMethod yX11_countLetters.1 ∈ gtbl := tb_4 182 rfl rfl
theorem se_X11_countLetters : Cond.selects yX11_countLetters.1.cls yX11_countLetters.1 yX11_countLetters.1 ∈ gtbl := tb_sel (q := (yX11_countLetters.1, 19)) (List.mem_of_getElem? (i := 40) (by decide +kernel))
abbrev yX11_tellFraction : Yx := (⟨"WithinWords", "tellFraction", "(JJ)V"⟩, prog_1_method_64_code, 7, none, 2)
theorem ok_X11_tellFraction : Cond.initialized yX11_tellFraction.1.cls ∈ gtbl ∧ Cond.code yX11_tellFraction.1 yX11_tellFraction.2.1 yX11_tellFraction.2.2.1 yX11_tellFraction.2.2.2.1 ∈ gtbl ∧ (yX11_tellFraction.1.cls ≠ "java/lang/invoke/MethodHandle" ∧ yX11_tellFraction.1.cls ≠ "java/lang/invoke/VarHandle" ∧ (parseMethodDescriptor yX11_tellFraction.1.desc).map (fun d => d.parameters.length) = some 2) ∧ yX11_tellFraction.2.2.1 ≤ 45 := ⟨tb_1 1 rfl rfl, tb_4 142 rfl rfl, by decide +kernel, by decide⟩
theorem im_X11_tellFraction : Cond.instanceMethod yX11_tellFraction.1 ∈ gtbl := tb_4 141 rfl rfl
theorem se_X11_tellFraction : Cond.selects yX11_tellFraction.1.cls yX11_tellFraction.1 yX11_tellFraction.1 ∈ gtbl := tb_sel (q := (yX11_tellFraction.1, 19)) (List.mem_of_getElem? (i := 38) (by decide +kernel))
abbrev yX11_commonDivisor : Yx := (⟨"WithinWords", "commonDivisor", "(JJ)J"⟩, prog_1_method_65_code, 7, some .long, 1)
theorem ok_X11_commonDivisor : Cond.initialized yX11_commonDivisor.1.cls ∈ gtbl ∧ Cond.code yX11_commonDivisor.1 yX11_commonDivisor.2.1 yX11_commonDivisor.2.2.1 yX11_commonDivisor.2.2.2.1 ∈ gtbl ∧ (yX11_commonDivisor.1.cls ≠ "java/lang/invoke/MethodHandle" ∧ yX11_commonDivisor.1.cls ≠ "java/lang/invoke/VarHandle" ∧ (parseMethodDescriptor yX11_commonDivisor.1.desc).map (fun d => d.parameters.length) = some 2) ∧ yX11_commonDivisor.2.2.1 ≤ 45 := ⟨tb_1 1 rfl rfl, tb_4 145 rfl rfl, by decide +kernel, by decide⟩
theorem st_X11_commonDivisor : Cond.static yX11_commonDivisor.1 ∈ gtbl := tb_4 144 rfl rfl
abbrev yX11_choose : Yx := (⟨"WithinWords", "choose", "(II)J"⟩, prog_1_method_66_code, 5, some .long, 1)
theorem ok_X11_choose : Cond.initialized yX11_choose.1.cls ∈ gtbl ∧ Cond.code yX11_choose.1 yX11_choose.2.1 yX11_choose.2.2.1 yX11_choose.2.2.2.1 ∈ gtbl ∧ (yX11_choose.1.cls ≠ "java/lang/invoke/MethodHandle" ∧ yX11_choose.1.cls ≠ "java/lang/invoke/VarHandle" ∧ (parseMethodDescriptor yX11_choose.1.desc).map (fun d => d.parameters.length) = some 2) ∧ yX11_choose.2.2.1 ≤ 45 := ⟨tb_1 1 rfl rfl, tb_4 138 rfl rfl, by decide +kernel, by decide⟩
theorem st_X11_choose : Cond.static yX11_choose.1 ∈ gtbl := tb_4 137 rfl rfl
abbrev yX11_power : Yx := (⟨"WithinWords", "power", "(II)J"⟩, prog_1_method_67_code, 5, some .long, 1)
theorem ok_X11_power : Cond.initialized yX11_power.1.cls ∈ gtbl ∧ Cond.code yX11_power.1 yX11_power.2.1 yX11_power.2.2.1 yX11_power.2.2.2.1 ∈ gtbl ∧ (yX11_power.1.cls ≠ "java/lang/invoke/MethodHandle" ∧ yX11_power.1.cls ≠ "java/lang/invoke/VarHandle" ∧ (parseMethodDescriptor yX11_power.1.desc).map (fun d => d.parameters.length) = some 2) ∧ yX11_power.2.2.1 ≤ 45 := ⟨tb_1 1 rfl rfl, tb_4 152 rfl rfl, by decide +kernel, by decide⟩
theorem st_X11_power : Cond.static yX11_power.1 ∈ gtbl := tb_4 151 rfl rfl
abbrev yX11_isPowerAbove : Yx := (⟨"WithinWords", "isPowerAbove", "(III)Z"⟩, prog_1_method_68_code, 6, some .boolean, 1)
theorem ok_X11_isPowerAbove : Cond.initialized yX11_isPowerAbove.1.cls ∈ gtbl ∧ Cond.code yX11_isPowerAbove.1 yX11_isPowerAbove.2.1 yX11_isPowerAbove.2.2.1 yX11_isPowerAbove.2.2.2.1 ∈ gtbl ∧ (yX11_isPowerAbove.1.cls ≠ "java/lang/invoke/MethodHandle" ∧ yX11_isPowerAbove.1.cls ≠ "java/lang/invoke/VarHandle" ∧ (parseMethodDescriptor yX11_isPowerAbove.1.desc).map (fun d => d.parameters.length) = some 3) ∧ yX11_isPowerAbove.2.2.1 ≤ 45 := ⟨tb_1 1 rfl rfl, tb_4 102 rfl rfl, by decide +kernel, by decide⟩
theorem st_X11_isPowerAbove : Cond.static yX11_isPowerAbove.1 ∈ gtbl := tb_4 101 rfl rfl
abbrev yX12_init : Yx := (⟨"WithinWordsModel", "<init>", "()V"⟩, prog_14_method_1_code, 2, none, 1)
theorem ok_X12_init : Cond.initialized yX12_init.1.cls ∈ gtbl ∧ Cond.code yX12_init.1 yX12_init.2.1 yX12_init.2.2.1 yX12_init.2.2.2.1 ∈ gtbl ∧ (yX12_init.1.cls ≠ "java/lang/invoke/MethodHandle" ∧ yX12_init.1.cls ≠ "java/lang/invoke/VarHandle" ∧ (parseMethodDescriptor yX12_init.1.desc).map (fun d => d.parameters.length) = some 0) ∧ yX12_init.2.2.1 ≤ 45 := ⟨tb_1 13 rfl rfl, tb_4 209 rfl rfl, by decide +kernel, by decide⟩
theorem im_X12_init : Cond.instanceMethod yX12_init.1 ∈ gtbl := tb_4 208 rfl rfl
abbrev yX12_in : Yx := (⟨"WithinWordsModel", "in", "(III)Z"⟩, prog_14_method_2_code, 3, some .boolean, 1)
theorem ok_X12_in : Cond.initialized yX12_in.1.cls ∈ gtbl ∧ Cond.code yX12_in.1 yX12_in.2.1 yX12_in.2.2.1 yX12_in.2.2.2.1 ∈ gtbl ∧ (yX12_in.1.cls ≠ "java/lang/invoke/MethodHandle" ∧ yX12_in.1.cls ≠ "java/lang/invoke/VarHandle" ∧ (parseMethodDescriptor yX12_in.1.desc).map (fun d => d.parameters.length) = some 3) ∧ yX12_in.2.2.1 ≤ 45 := ⟨tb_1 13 rfl rfl, tb_5 116 rfl rfl, by decide +kernel, by decide⟩
theorem st_X12_in : Cond.static yX12_in.1 ∈ gtbl := tb_5 115 rfl rfl
abbrev yX12_has : Yx := (⟨"WithinWordsModel", "has", "(II)Z"⟩, prog_14_method_3_code, 2, some .boolean, 1)
theorem ok_X12_has : Cond.initialized yX12_has.1.cls ∈ gtbl ∧ Cond.code yX12_has.1 yX12_has.2.1 yX12_has.2.2.1 yX12_has.2.2.2.1 ∈ gtbl ∧ (yX12_has.1.cls ≠ "java/lang/invoke/MethodHandle" ∧ yX12_has.1.cls ≠ "java/lang/invoke/VarHandle" ∧ (parseMethodDescriptor yX12_has.1.desc).map (fun d => d.parameters.length) = some 2) ∧ yX12_has.2.2.1 ≤ 45 := ⟨tb_1 13 rfl rfl, tb_6 131 rfl rfl, by decide +kernel, by decide⟩
theorem st_X12_has : Cond.static yX12_has.1 ∈ gtbl := tb_6 130 rfl rfl
abbrev yX12_meets : Yx := (⟨"WithinWordsModel", "meets", "(I)I"⟩, prog_14_method_4_code, 2, some .int, 1)
theorem ok_X12_meets : Cond.initialized yX12_meets.1.cls ∈ gtbl ∧ Cond.code yX12_meets.1 yX12_meets.2.1 yX12_meets.2.2.1 yX12_meets.2.2.2.1 ∈ gtbl ∧ (yX12_meets.1.cls ≠ "java/lang/invoke/MethodHandle" ∧ yX12_meets.1.cls ≠ "java/lang/invoke/VarHandle" ∧ (parseMethodDescriptor yX12_meets.1.desc).map (fun d => d.parameters.length) = some 1) ∧ yX12_meets.2.2.1 ≤ 45 := ⟨tb_1 13 rfl rfl, tb_5 143 rfl rfl, by decide +kernel, by decide⟩
theorem im_X12_meets : Cond.instanceMethod yX12_meets.1 ∈ gtbl := tb_5 142 rfl rfl
theorem se_X12_meets : Cond.selects yX12_meets.1.cls yX12_meets.1 yX12_meets.1 ∈ gtbl := tb_sel (q := (yX12_meets.1, 44)) (List.mem_of_getElem? (i := 41) (by decide +kernel))
abbrev yX12_finding : Yx := (⟨"WithinWordsModel", "finding", "()I"⟩, prog_14_method_5_code, 1, some .int, 1)
theorem ok_X12_finding : Cond.initialized yX12_finding.1.cls ∈ gtbl ∧ Cond.code yX12_finding.1 yX12_finding.2.1 yX12_finding.2.2.1 yX12_finding.2.2.2.1 ∈ gtbl ∧ (yX12_finding.1.cls ≠ "java/lang/invoke/MethodHandle" ∧ yX12_finding.1.cls ≠ "java/lang/invoke/VarHandle" ∧ (parseMethodDescriptor yX12_finding.1.desc).map (fun d => d.parameters.length) = some 0) ∧ yX12_finding.2.2.1 ≤ 45 := ⟨tb_1 13 rfl rfl, tb_5 109 rfl rfl, by decide +kernel, by decide⟩
theorem im_X12_finding : Cond.instanceMethod yX12_finding.1 ∈ gtbl := tb_5 107 rfl rfl
theorem se_X12_finding : Cond.selects yX12_finding.1.cls yX12_finding.1 yX12_finding.1 ∈ gtbl := tb_5 108 rfl rfl
abbrev yX12_findings : Yx := (⟨"WithinWordsModel", "findings", "(I)I"⟩, prog_14_method_6_code, 2, some .int, 2)
theorem ok_X12_findings : Cond.initialized yX12_findings.1.cls ∈ gtbl ∧ Cond.code yX12_findings.1 yX12_findings.2.1 yX12_findings.2.2.1 yX12_findings.2.2.2.1 ∈ gtbl ∧ (yX12_findings.1.cls ≠ "java/lang/invoke/MethodHandle" ∧ yX12_findings.1.cls ≠ "java/lang/invoke/VarHandle" ∧ (parseMethodDescriptor yX12_findings.1.desc).map (fun d => d.parameters.length) = some 1) ∧ yX12_findings.2.2.1 ≤ 45 := ⟨tb_1 13 rfl rfl, tb_5 113 rfl rfl, by decide +kernel, by decide⟩
theorem im_X12_findings : Cond.instanceMethod yX12_findings.1 ∈ gtbl := tb_5 111 rfl rfl
theorem se_X12_findings : Cond.selects yX12_findings.1.cls yX12_findings.1 yX12_findings.1 ∈ gtbl := tb_5 112 rfl rfl
abbrev yX12_tells : Yx := (⟨"WithinWordsModel", "tells", "(II)I"⟩, prog_14_method_7_code, 3, some .int, 1)
theorem ok_X12_tells : Cond.initialized yX12_tells.1.cls ∈ gtbl ∧ Cond.code yX12_tells.1 yX12_tells.2.1 yX12_tells.2.2.1 yX12_tells.2.2.2.1 ∈ gtbl ∧ (yX12_tells.1.cls ≠ "java/lang/invoke/MethodHandle" ∧ yX12_tells.1.cls ≠ "java/lang/invoke/VarHandle" ∧ (parseMethodDescriptor yX12_tells.1.desc).map (fun d => d.parameters.length) = some 2) ∧ yX12_tells.2.2.1 ≤ 45 := ⟨tb_1 13 rfl rfl, tb_5 155 rfl rfl, by decide +kernel, by decide⟩
theorem im_X12_tells : Cond.instanceMethod yX12_tells.1 ∈ gtbl := tb_5 154 rfl rfl
theorem se_X12_tells : Cond.selects yX12_tells.1.cls yX12_tells.1 yX12_tells.1 ∈ gtbl := tb_sel (q := (yX12_tells.1, 44)) (List.mem_of_getElem? (i := 43) (by decide +kernel))
abbrev yX12_tellsMany : Yx := (⟨"WithinWordsModel", "tellsMany", "(JI)I"⟩, prog_14_method_8_code, 4, some .int, 1)
theorem ok_X12_tellsMany : Cond.initialized yX12_tellsMany.1.cls ∈ gtbl ∧ Cond.code yX12_tellsMany.1 yX12_tellsMany.2.1 yX12_tellsMany.2.2.1 yX12_tellsMany.2.2.2.1 ∈ gtbl ∧ (yX12_tellsMany.1.cls ≠ "java/lang/invoke/MethodHandle" ∧ yX12_tellsMany.1.cls ≠ "java/lang/invoke/VarHandle" ∧ (parseMethodDescriptor yX12_tellsMany.1.desc).map (fun d => d.parameters.length) = some 2) ∧ yX12_tellsMany.2.2.1 ≤ 45 := ⟨tb_1 13 rfl rfl, tb_6 53 rfl rfl, by decide +kernel, by decide⟩
theorem im_X12_tellsMany : Cond.instanceMethod yX12_tellsMany.1 ∈ gtbl := tb_6 52 rfl rfl
theorem se_X12_tellsMany : Cond.selects yX12_tellsMany.1.cls yX12_tellsMany.1 yX12_tellsMany.1 ∈ gtbl := tb_sel (q := (yX12_tellsMany.1, 44)) (List.mem_of_getElem? (i := 57) (by decide +kernel))
abbrev yX12_asked : Yx := (⟨"WithinWordsModel", "asked", "()I"⟩, prog_14_method_9_code, 1, some .int, 1)
theorem ok_X12_asked : Cond.initialized yX12_asked.1.cls ∈ gtbl ∧ Cond.code yX12_asked.1 yX12_asked.2.1 yX12_asked.2.2.1 yX12_asked.2.2.2.1 ∈ gtbl ∧ (yX12_asked.1.cls ≠ "java/lang/invoke/MethodHandle" ∧ yX12_asked.1.cls ≠ "java/lang/invoke/VarHandle" ∧ (parseMethodDescriptor yX12_asked.1.desc).map (fun d => d.parameters.length) = some 0) ∧ yX12_asked.2.2.1 ≤ 45 := ⟨tb_1 13 rfl rfl, tb_5 120 rfl rfl, by decide +kernel, by decide⟩
theorem im_X12_asked : Cond.instanceMethod yX12_asked.1 ∈ gtbl := tb_5 118 rfl rfl
theorem se_X12_asked : Cond.selects yX12_asked.1.cls yX12_asked.1 yX12_asked.1 ∈ gtbl := tb_5 119 rfl rfl
abbrev yX12_many : Yx := (⟨"WithinWordsModel", "many", "()J"⟩, prog_14_method_10_code, 1, some .long, 1)
theorem ok_X12_many : Cond.initialized yX12_many.1.cls ∈ gtbl ∧ Cond.code yX12_many.1 yX12_many.2.1 yX12_many.2.2.1 yX12_many.2.2.2.1 ∈ gtbl ∧ (yX12_many.1.cls ≠ "java/lang/invoke/MethodHandle" ∧ yX12_many.1.cls ≠ "java/lang/invoke/VarHandle" ∧ (parseMethodDescriptor yX12_many.1.desc).map (fun d => d.parameters.length) = some 0) ∧ yX12_many.2.2.1 ≤ 45 := ⟨tb_1 13 rfl rfl, tb_5 124 rfl rfl, by decide +kernel, by decide⟩
theorem im_X12_many : Cond.instanceMethod yX12_many.1 ∈ gtbl := tb_5 122 rfl rfl
theorem se_X12_many : Cond.selects yX12_many.1.cls yX12_many.1 yX12_many.1 ∈ gtbl := tb_5 123 rfl rfl
abbrev yX12_fraction : Yx := (⟨"WithinWordsModel", "fraction", "(JJI)I"⟩, prog_14_method_11_code, 12, some .int, 1)
theorem ok_X12_fraction : Cond.initialized yX12_fraction.1.cls ∈ gtbl ∧ Cond.code yX12_fraction.1 yX12_fraction.2.1 yX12_fraction.2.2.1 yX12_fraction.2.2.2.1 ∈ gtbl ∧ (yX12_fraction.1.cls ≠ "java/lang/invoke/MethodHandle" ∧ yX12_fraction.1.cls ≠ "java/lang/invoke/VarHandle" ∧ (parseMethodDescriptor yX12_fraction.1.desc).map (fun d => d.parameters.length) = some 3) ∧ yX12_fraction.2.2.1 ≤ 45 := ⟨tb_1 13 rfl rfl, tb_6 234 rfl rfl, by decide +kernel, by decide⟩
theorem im_X12_fraction : Cond.instanceMethod yX12_fraction.1 ∈ gtbl := tb_6 233 rfl rfl
theorem se_X12_fraction : Cond.selects yX12_fraction.1.cls yX12_fraction.1 yX12_fraction.1 ∈ gtbl := tb_sel (q := (yX12_fraction.1, 44)) (List.mem_of_getElem? (i := 81) (by decide +kernel))
abbrev yX12_upper : Yx := (⟨"WithinWordsModel", "upper", "()J"⟩, prog_14_method_12_code, 1, some .long, 1)
theorem ok_X12_upper : Cond.initialized yX12_upper.1.cls ∈ gtbl ∧ Cond.code yX12_upper.1 yX12_upper.2.1 yX12_upper.2.2.1 yX12_upper.2.2.2.1 ∈ gtbl ∧ (yX12_upper.1.cls ≠ "java/lang/invoke/MethodHandle" ∧ yX12_upper.1.cls ≠ "java/lang/invoke/VarHandle" ∧ (parseMethodDescriptor yX12_upper.1.desc).map (fun d => d.parameters.length) = some 0) ∧ yX12_upper.2.2.1 ≤ 45 := ⟨tb_1 13 rfl rfl, tb_5 128 rfl rfl, by decide +kernel, by decide⟩
theorem im_X12_upper : Cond.instanceMethod yX12_upper.1 ∈ gtbl := tb_5 126 rfl rfl
theorem se_X12_upper : Cond.selects yX12_upper.1.cls yX12_upper.1 yX12_upper.1 ∈ gtbl := tb_5 127 rfl rfl
abbrev yX12_lower : Yx := (⟨"WithinWordsModel", "lower", "()J"⟩, prog_14_method_13_code, 1, some .long, 1)
theorem ok_X12_lower : Cond.initialized yX12_lower.1.cls ∈ gtbl ∧ Cond.code yX12_lower.1 yX12_lower.2.1 yX12_lower.2.2.1 yX12_lower.2.2.2.1 ∈ gtbl ∧ (yX12_lower.1.cls ≠ "java/lang/invoke/MethodHandle" ∧ yX12_lower.1.cls ≠ "java/lang/invoke/VarHandle" ∧ (parseMethodDescriptor yX12_lower.1.desc).map (fun d => d.parameters.length) = some 0) ∧ yX12_lower.2.2.1 ≤ 45 := ⟨tb_1 13 rfl rfl, tb_5 132 rfl rfl, by decide +kernel, by decide⟩
theorem im_X12_lower : Cond.instanceMethod yX12_lower.1 ∈ gtbl := tb_5 130 rfl rfl
theorem se_X12_lower : Cond.selects yX12_lower.1.cls yX12_lower.1 yX12_lower.1 ∈ gtbl := tb_5 131 rfl rfl
abbrev yX12_isRow : Yx := (⟨"WithinWordsModel", "isRow", "(I)Z"⟩, prog_14_method_14_code, 1, some .boolean, 2)
theorem ok_X12_isRow : Cond.initialized yX12_isRow.1.cls ∈ gtbl ∧ Cond.code yX12_isRow.1 yX12_isRow.2.1 yX12_isRow.2.2.1 yX12_isRow.2.2.2.1 ∈ gtbl ∧ (yX12_isRow.1.cls ≠ "java/lang/invoke/MethodHandle" ∧ yX12_isRow.1.cls ≠ "java/lang/invoke/VarHandle" ∧ (parseMethodDescriptor yX12_isRow.1.desc).map (fun d => d.parameters.length) = some 1) ∧ yX12_isRow.2.2.1 ≤ 45 := ⟨tb_1 13 rfl rfl, tb_5 139 rfl rfl, by decide +kernel, by decide⟩
theorem st_X12_isRow : Cond.static yX12_isRow.1 ∈ gtbl := tb_5 138 rfl rfl
abbrev yX12_rowAt : Yx := (⟨"WithinWordsModel", "rowAt", "(II)I"⟩, prog_14_method_15_code, 3, some .int, 1)
theorem ok_X12_rowAt : Cond.initialized yX12_rowAt.1.cls ∈ gtbl ∧ Cond.code yX12_rowAt.1 yX12_rowAt.2.1 yX12_rowAt.2.2.1 yX12_rowAt.2.2.2.1 ∈ gtbl ∧ (yX12_rowAt.1.cls ≠ "java/lang/invoke/MethodHandle" ∧ yX12_rowAt.1.cls ≠ "java/lang/invoke/VarHandle" ∧ (parseMethodDescriptor yX12_rowAt.1.desc).map (fun d => d.parameters.length) = some 2) ∧ yX12_rowAt.2.2.1 ≤ 45 := ⟨tb_1 13 rfl rfl, tb_5 151 rfl rfl, by decide +kernel, by decide⟩
theorem im_X12_rowAt : Cond.instanceMethod yX12_rowAt.1 ∈ gtbl := tb_5 150 rfl rfl
theorem se_X12_rowAt : Cond.selects yX12_rowAt.1.cls yX12_rowAt.1 yX12_rowAt.1 ∈ gtbl := tb_sel (q := (yX12_rowAt.1, 44)) (List.mem_of_getElem? (i := 42) (by decide +kernel))
abbrev yX12_row : Yx := (⟨"WithinWordsModel", "row", "(II)I"⟩, prog_14_method_16_code, 4, some .int, 3)
theorem ok_X12_row : Cond.initialized yX12_row.1.cls ∈ gtbl ∧ Cond.code yX12_row.1 yX12_row.2.1 yX12_row.2.2.1 yX12_row.2.2.2.1 ∈ gtbl ∧ (yX12_row.1.cls ≠ "java/lang/invoke/MethodHandle" ∧ yX12_row.1.cls ≠ "java/lang/invoke/VarHandle" ∧ (parseMethodDescriptor yX12_row.1.desc).map (fun d => d.parameters.length) = some 2) ∧ yX12_row.2.2.1 ≤ 45 := ⟨tb_1 13 rfl rfl, tb_5 136 rfl rfl, by decide +kernel, by decide⟩
theorem im_X12_row : Cond.instanceMethod yX12_row.1 ∈ gtbl := tb_5 134 rfl rfl
theorem se_X12_row : Cond.selects yX12_row.1.cls yX12_row.1 yX12_row.1 ∈ gtbl := tb_5 135 rfl rfl
abbrev yX12_lay : Yx := (⟨"WithinWordsModel", "lay", "(III)I"⟩, prog_14_method_17_code, 5, some .int, 3)
theorem ok_X12_lay : Cond.initialized yX12_lay.1.cls ∈ gtbl ∧ Cond.code yX12_lay.1 yX12_lay.2.1 yX12_lay.2.2.1 yX12_lay.2.2.2.1 ∈ gtbl ∧ (yX12_lay.1.cls ≠ "java/lang/invoke/MethodHandle" ∧ yX12_lay.1.cls ≠ "java/lang/invoke/VarHandle" ∧ (parseMethodDescriptor yX12_lay.1.desc).map (fun d => d.parameters.length) = some 3) ∧ yX12_lay.2.2.1 ≤ 45 := ⟨tb_1 13 rfl rfl, tb_5 147 rfl rfl, by decide +kernel, by decide⟩
theorem im_X12_lay : Cond.instanceMethod yX12_lay.1 ∈ gtbl := tb_5 145 rfl rfl
theorem se_X12_lay : Cond.selects yX12_lay.1.cls yX12_lay.1 yX12_lay.1 ∈ gtbl := tb_5 146 rfl rfl
abbrev yX12_at : Yx := (⟨"WithinWordsModel", "at", "(II)I"⟩, prog_14_method_18_code, 3, some .int, 3)
theorem ok_X12_at : Cond.initialized yX12_at.1.cls ∈ gtbl ∧ Cond.code yX12_at.1 yX12_at.2.1 yX12_at.2.2.1 yX12_at.2.2.2.1 ∈ gtbl ∧ (yX12_at.1.cls ≠ "java/lang/invoke/MethodHandle" ∧ yX12_at.1.cls ≠ "java/lang/invoke/VarHandle" ∧ (parseMethodDescriptor yX12_at.1.desc).map (fun d => d.parameters.length) = some 2) ∧ yX12_at.2.2.1 ≤ 45 := ⟨tb_1 13 rfl rfl, tb_5 159 rfl rfl, by decide +kernel, by decide⟩
theorem im_X12_at : Cond.instanceMethod yX12_at.1 ∈ gtbl := tb_5 157 rfl rfl
theorem se_X12_at : Cond.selects yX12_at.1.cls yX12_at.1 yX12_at.1 ∈ gtbl := tb_5 158 rfl rfl
abbrev yX12_tear : Yx := (⟨"WithinWordsModel", "tear", "(I)I"⟩, prog_14_method_19_code, 2, some .int, 3)
theorem ok_X12_tear : Cond.initialized yX12_tear.1.cls ∈ gtbl ∧ Cond.code yX12_tear.1 yX12_tear.2.1 yX12_tear.2.2.1 yX12_tear.2.2.2.1 ∈ gtbl ∧ (yX12_tear.1.cls ≠ "java/lang/invoke/MethodHandle" ∧ yX12_tear.1.cls ≠ "java/lang/invoke/VarHandle" ∧ (parseMethodDescriptor yX12_tear.1.desc).map (fun d => d.parameters.length) = some 1) ∧ yX12_tear.2.2.1 ≤ 45 := ⟨tb_1 13 rfl rfl, tb_5 163 rfl rfl, by decide +kernel, by decide⟩
theorem im_X12_tear : Cond.instanceMethod yX12_tear.1 ∈ gtbl := tb_5 161 rfl rfl
theorem se_X12_tear : Cond.selects yX12_tear.1.cls yX12_tear.1 yX12_tear.1 ∈ gtbl := tb_5 162 rfl rfl
abbrev yX12_copy : Yx := (⟨"WithinWordsModel", "copy", "(IIIII)I"⟩, prog_14_method_20_code, 7, some .int, 3)
theorem ok_X12_copy : Cond.initialized yX12_copy.1.cls ∈ gtbl ∧ Cond.code yX12_copy.1 yX12_copy.2.1 yX12_copy.2.2.1 yX12_copy.2.2.2.1 ∈ gtbl ∧ (yX12_copy.1.cls ≠ "java/lang/invoke/MethodHandle" ∧ yX12_copy.1.cls ≠ "java/lang/invoke/VarHandle" ∧ (parseMethodDescriptor yX12_copy.1.desc).map (fun d => d.parameters.length) = some 5) ∧ yX12_copy.2.2.1 ≤ 45 := ⟨tb_1 13 rfl rfl, tb_5 167 rfl rfl, by decide +kernel, by decide⟩
theorem im_X12_copy : Cond.instanceMethod yX12_copy.1 ∈ gtbl := tb_5 165 rfl rfl
theorem se_X12_copy : Cond.selects yX12_copy.1.cls yX12_copy.1 yX12_copy.1 ∈ gtbl := tb_5 166 rfl rfl
abbrev yX12_mean : Yx := (⟨"WithinWordsModel", "mean", "(I)I"⟩, prog_14_method_21_code, 5, some .int, 3)
theorem ok_X12_mean : Cond.initialized yX12_mean.1.cls ∈ gtbl ∧ Cond.code yX12_mean.1 yX12_mean.2.1 yX12_mean.2.2.1 yX12_mean.2.2.2.1 ∈ gtbl ∧ (yX12_mean.1.cls ≠ "java/lang/invoke/MethodHandle" ∧ yX12_mean.1.cls ≠ "java/lang/invoke/VarHandle" ∧ (parseMethodDescriptor yX12_mean.1.desc).map (fun d => d.parameters.length) = some 1) ∧ yX12_mean.2.2.1 ≤ 45 := ⟨tb_1 13 rfl rfl, tb_5 171 rfl rfl, by decide +kernel, by decide⟩
theorem im_X12_mean : Cond.instanceMethod yX12_mean.1 ∈ gtbl := tb_5 169 rfl rfl
theorem se_X12_mean : Cond.selects yX12_mean.1.cls yX12_mean.1 yX12_mean.1 ∈ gtbl := tb_5 170 rfl rfl
abbrev yX12_isText : Yx := (⟨"WithinWordsModel", "isText", "(I)Z"⟩, prog_14_method_22_code, 1, some .boolean, 2)
theorem ok_X12_isText : Cond.initialized yX12_isText.1.cls ∈ gtbl ∧ Cond.code yX12_isText.1 yX12_isText.2.1 yX12_isText.2.2.1 yX12_isText.2.2.2.1 ∈ gtbl ∧ (yX12_isText.1.cls ≠ "java/lang/invoke/MethodHandle" ∧ yX12_isText.1.cls ≠ "java/lang/invoke/VarHandle" ∧ (parseMethodDescriptor yX12_isText.1.desc).map (fun d => d.parameters.length) = some 1) ∧ yX12_isText.2.2.1 ≤ 45 := ⟨tb_1 13 rfl rfl, tb_5 178 rfl rfl, by decide +kernel, by decide⟩
theorem st_X12_isText : Cond.static yX12_isText.1 ∈ gtbl := tb_5 177 rfl rfl
abbrev yX12_text : Yx := (⟨"WithinWordsModel", "text", "(II)I"⟩, prog_14_method_23_code, 4, some .int, 3)
theorem ok_X12_text : Cond.initialized yX12_text.1.cls ∈ gtbl ∧ Cond.code yX12_text.1 yX12_text.2.1 yX12_text.2.2.1 yX12_text.2.2.2.1 ∈ gtbl ∧ (yX12_text.1.cls ≠ "java/lang/invoke/MethodHandle" ∧ yX12_text.1.cls ≠ "java/lang/invoke/VarHandle" ∧ (parseMethodDescriptor yX12_text.1.desc).map (fun d => d.parameters.length) = some 2) ∧ yX12_text.2.2.1 ≤ 45 := ⟨tb_1 13 rfl rfl, tb_5 175 rfl rfl, by decide +kernel, by decide⟩
theorem im_X12_text : Cond.instanceMethod yX12_text.1 ∈ gtbl := tb_5 173 rfl rfl
theorem se_X12_text : Cond.selects yX12_text.1.cls yX12_text.1 yX12_text.1 ∈ gtbl := tb_5 174 rfl rfl
abbrev yX12_put : Yx := (⟨"WithinWordsModel", "put", "(III)I"⟩, prog_14_method_24_code, 5, some .int, 3)
theorem ok_X12_put : Cond.initialized yX12_put.1.cls ∈ gtbl ∧ Cond.code yX12_put.1 yX12_put.2.1 yX12_put.2.2.1 yX12_put.2.2.2.1 ∈ gtbl ∧ (yX12_put.1.cls ≠ "java/lang/invoke/MethodHandle" ∧ yX12_put.1.cls ≠ "java/lang/invoke/VarHandle" ∧ (parseMethodDescriptor yX12_put.1.desc).map (fun d => d.parameters.length) = some 3) ∧ yX12_put.2.2.1 ≤ 45 := ⟨tb_1 13 rfl rfl, tb_5 182 rfl rfl, by decide +kernel, by decide⟩
theorem im_X12_put : Cond.instanceMethod yX12_put.1 ∈ gtbl := tb_5 180 rfl rfl
theorem se_X12_put : Cond.selects yX12_put.1.cls yX12_put.1 yX12_put.1 ∈ gtbl := tb_5 181 rfl rfl
abbrev yX12_byteAt : Yx := (⟨"WithinWordsModel", "byteAt", "(II)I"⟩, prog_14_method_25_code, 3, some .int, 1)
theorem ok_X12_byteAt : Cond.initialized yX12_byteAt.1.cls ∈ gtbl ∧ Cond.code yX12_byteAt.1 yX12_byteAt.2.1 yX12_byteAt.2.2.1 yX12_byteAt.2.2.2.1 ∈ gtbl ∧ (yX12_byteAt.1.cls ≠ "java/lang/invoke/MethodHandle" ∧ yX12_byteAt.1.cls ≠ "java/lang/invoke/VarHandle" ∧ (parseMethodDescriptor yX12_byteAt.1.desc).map (fun d => d.parameters.length) = some 2) ∧ yX12_byteAt.2.2.1 ≤ 45 := ⟨tb_1 13 rfl rfl, tb_5 217 rfl rfl, by decide +kernel, by decide⟩
theorem im_X12_byteAt : Cond.instanceMethod yX12_byteAt.1 ∈ gtbl := tb_5 216 rfl rfl
theorem se_X12_byteAt : Cond.selects yX12_byteAt.1.cls yX12_byteAt.1 yX12_byteAt.1 ∈ gtbl := tb_sel (q := (yX12_byteAt.1, 44)) (List.mem_of_getElem? (i := 48) (by decide +kernel))
abbrev yX12_isWord : Yx := (⟨"WithinWordsModel", "isWord", "(I)Z"⟩, prog_14_method_26_code, 1, some .boolean, 2)
theorem ok_X12_isWord : Cond.initialized yX12_isWord.1.cls ∈ gtbl ∧ Cond.code yX12_isWord.1 yX12_isWord.2.1 yX12_isWord.2.2.1 yX12_isWord.2.2.2.1 ∈ gtbl ∧ (yX12_isWord.1.cls ≠ "java/lang/invoke/MethodHandle" ∧ yX12_isWord.1.cls ≠ "java/lang/invoke/VarHandle" ∧ (parseMethodDescriptor yX12_isWord.1.desc).map (fun d => d.parameters.length) = some 1) ∧ yX12_isWord.2.2.1 ≤ 45 := ⟨tb_1 13 rfl rfl, tb_5 197 rfl rfl, by decide +kernel, by decide⟩
theorem st_X12_isWord : Cond.static yX12_isWord.1 ∈ gtbl := tb_5 196 rfl rfl
abbrev yX12_isThere : Yx := (⟨"WithinWordsModel", "isThere", "(I)Z"⟩, prog_14_method_27_code, 2, some .boolean, 1)
theorem ok_X12_isThere : Cond.initialized yX12_isThere.1.cls ∈ gtbl ∧ Cond.code yX12_isThere.1 yX12_isThere.2.1 yX12_isThere.2.2.1 yX12_isThere.2.2.2.1 ∈ gtbl ∧ (yX12_isThere.1.cls ≠ "java/lang/invoke/MethodHandle" ∧ yX12_isThere.1.cls ≠ "java/lang/invoke/VarHandle" ∧ (parseMethodDescriptor yX12_isThere.1.desc).map (fun d => d.parameters.length) = some 1) ∧ yX12_isThere.2.2.1 ≤ 45 := ⟨tb_1 13 rfl rfl, tb_6 5 rfl rfl, by decide +kernel, by decide⟩
theorem im_X12_isThere : Cond.instanceMethod yX12_isThere.1 ∈ gtbl := tb_6 4 rfl rfl
theorem se_X12_isThere : Cond.selects yX12_isThere.1.cls yX12_isThere.1 yX12_isThere.1 ∈ gtbl := tb_sel (q := (yX12_isThere.1, 44)) (List.mem_of_getElem? (i := 53) (by decide +kernel))
abbrev yX12_at0 : Yx := (⟨"WithinWordsModel", "at0", "(II)I"⟩, prog_14_method_28_code, 3, some .int, 1)
theorem ok_X12_at0 : Cond.initialized yX12_at0.1.cls ∈ gtbl ∧ Cond.code yX12_at0.1 yX12_at0.2.1 yX12_at0.2.2.1 yX12_at0.2.2.2.1 ∈ gtbl ∧ (yX12_at0.1.cls ≠ "java/lang/invoke/MethodHandle" ∧ yX12_at0.1.cls ≠ "java/lang/invoke/VarHandle" ∧ (parseMethodDescriptor yX12_at0.1.desc).map (fun d => d.parameters.length) = some 2) ∧ yX12_at0.2.2.1 ≤ 45 := ⟨tb_1 13 rfl rfl, tb_5 190 rfl rfl, by decide +kernel, by decide⟩
theorem im_X12_at0 : Cond.instanceMethod yX12_at0.1 ∈ gtbl := tb_5 189 rfl rfl
theorem se_X12_at0 : Cond.selects yX12_at0.1.cls yX12_at0.1 yX12_at0.1 ∈ gtbl := tb_sel (q := (yX12_at0.1, 44)) (List.mem_of_getElem? (i := 44) (by decide +kernel))
abbrev yX12_isLetter : Yx := (⟨"WithinWordsModel", "isLetter", "(I)Z"⟩, prog_14_method_29_code, 2, some .boolean, 2)
theorem ok_X12_isLetter : Cond.initialized yX12_isLetter.1.cls ∈ gtbl ∧ Cond.code yX12_isLetter.1 yX12_isLetter.2.1 yX12_isLetter.2.2.1 yX12_isLetter.2.2.2.1 ∈ gtbl ∧ (yX12_isLetter.1.cls ≠ "java/lang/invoke/MethodHandle" ∧ yX12_isLetter.1.cls ≠ "java/lang/invoke/VarHandle" ∧ (parseMethodDescriptor yX12_isLetter.1.desc).map (fun d => d.parameters.length) = some 1) ∧ yX12_isLetter.2.2.1 ≤ 45 := ⟨tb_1 13 rfl rfl, tb_5 201 rfl rfl, by decide +kernel, by decide⟩
theorem im_X12_isLetter : Cond.instanceMethod yX12_isLetter.1 ∈ gtbl := tb_5 200 rfl rfl
theorem se_X12_isLetter : Cond.selects yX12_isLetter.1.cls yX12_isLetter.1 yX12_isLetter.1 ∈ gtbl := tb_sel (q := (yX12_isLetter.1, 44)) (List.mem_of_getElem? (i := 45) (by decide +kernel))
abbrev yX12_letters : Yx := (⟨"WithinWordsModel", "letters", "(I)I"⟩, prog_14_method_30_code, 4, some .int, 2)
theorem ok_X12_letters : Cond.initialized yX12_letters.1.cls ∈ gtbl ∧ Cond.code yX12_letters.1 yX12_letters.2.1 yX12_letters.2.2.1 yX12_letters.2.2.2.1 ∈ gtbl ∧ (yX12_letters.1.cls ≠ "java/lang/invoke/MethodHandle" ∧ yX12_letters.1.cls ≠ "java/lang/invoke/VarHandle" ∧ (parseMethodDescriptor yX12_letters.1.desc).map (fun d => d.parameters.length) = some 1) ∧ yX12_letters.2.2.1 ≤ 45 := ⟨tb_1 13 rfl rfl, tb_5 186 rfl rfl, by decide +kernel, by decide⟩
theorem im_X12_letters : Cond.instanceMethod yX12_letters.1 ∈ gtbl := tb_5 184 rfl rfl
theorem se_X12_letters : Cond.selects yX12_letters.1.cls yX12_letters.1 yX12_letters.1 ∈ gtbl := tb_5 185 rfl rfl
abbrev yX12_comes : Yx := (⟨"WithinWordsModel", "comes", "(IIII)I"⟩, prog_14_method_31_code, 6, some .int, 1)
theorem ok_X12_comes : Cond.initialized yX12_comes.1.cls ∈ gtbl ∧ Cond.code yX12_comes.1 yX12_comes.2.1 yX12_comes.2.2.1 yX12_comes.2.2.2.1 ∈ gtbl ∧ (yX12_comes.1.cls ≠ "java/lang/invoke/MethodHandle" ∧ yX12_comes.1.cls ≠ "java/lang/invoke/VarHandle" ∧ (parseMethodDescriptor yX12_comes.1.desc).map (fun d => d.parameters.length) = some 4) ∧ yX12_comes.2.2.1 ≤ 45 := ⟨tb_1 13 rfl rfl, tb_5 205 rfl rfl, by decide +kernel, by decide⟩
theorem im_X12_comes : Cond.instanceMethod yX12_comes.1 ∈ gtbl := tb_5 204 rfl rfl
theorem se_X12_comes : Cond.selects yX12_comes.1.cls yX12_comes.1 yX12_comes.1 ∈ gtbl := tb_sel (q := (yX12_comes.1, 44)) (List.mem_of_getElem? (i := 46) (by decide +kernel))
abbrev yX12_comesToRow : Yx := (⟨"WithinWordsModel", "comesToRow", "(I)V"⟩, prog_14_method_32_code, 3, none, 1)
theorem ok_X12_comesToRow : Cond.initialized yX12_comesToRow.1.cls ∈ gtbl ∧ Cond.code yX12_comesToRow.1 yX12_comesToRow.2.1 yX12_comesToRow.2.2.1 yX12_comesToRow.2.2.2.1 ∈ gtbl ∧ (yX12_comesToRow.1.cls ≠ "java/lang/invoke/MethodHandle" ∧ yX12_comesToRow.1.cls ≠ "java/lang/invoke/VarHandle" ∧ (parseMethodDescriptor yX12_comesToRow.1.desc).map (fun d => d.parameters.length) = some 1) ∧ yX12_comesToRow.2.2.1 ≤ 45 := ⟨tb_1 13 rfl rfl, tb_6 69 rfl rfl, by decide +kernel, by decide⟩
theorem im_X12_comesToRow : Cond.instanceMethod yX12_comesToRow.1 ∈ gtbl := tb_6 68 rfl rfl
theorem se_X12_comesToRow : Cond.selects yX12_comesToRow.1.cls yX12_comesToRow.1 yX12_comesToRow.1 ∈ gtbl := tb_sel (q := (yX12_comesToRow.1, 44)) (List.mem_of_getElem? (i := 60) (by decide +kernel))
abbrev yX12_word : Yx := (⟨"WithinWordsModel", "word", "(II)I"⟩, prog_14_method_33_code, 5, some .int, 3)
theorem ok_X12_word : Cond.initialized yX12_word.1.cls ∈ gtbl ∧ Cond.code yX12_word.1 yX12_word.2.1 yX12_word.2.2.1 yX12_word.2.2.2.1 ∈ gtbl ∧ (yX12_word.1.cls ≠ "java/lang/invoke/MethodHandle" ∧ yX12_word.1.cls ≠ "java/lang/invoke/VarHandle" ∧ (parseMethodDescriptor yX12_word.1.desc).map (fun d => d.parameters.length) = some 2) ∧ yX12_word.2.2.1 ≤ 45 := ⟨tb_1 13 rfl rfl, tb_5 194 rfl rfl, by decide +kernel, by decide⟩
theorem im_X12_word : Cond.instanceMethod yX12_word.1 ∈ gtbl := tb_5 192 rfl rfl
theorem se_X12_word : Cond.selects yX12_word.1.cls yX12_word.1 yX12_word.1 ∈ gtbl := tb_5 193 rfl rfl
abbrev yX12_comesOn : Yx := (⟨"WithinWordsModel", "comesOn", "(I)V"⟩, prog_14_method_34_code, 2, none, 1)
theorem ok_X12_comesOn : Cond.initialized yX12_comesOn.1.cls ∈ gtbl ∧ Cond.code yX12_comesOn.1 yX12_comesOn.2.1 yX12_comesOn.2.2.1 yX12_comesOn.2.2.2.1 ∈ gtbl ∧ (yX12_comesOn.1.cls ≠ "java/lang/invoke/MethodHandle" ∧ yX12_comesOn.1.cls ≠ "java/lang/invoke/VarHandle" ∧ (parseMethodDescriptor yX12_comesOn.1.desc).map (fun d => d.parameters.length) = some 1) ∧ yX12_comesOn.2.2.1 ≤ 45 := ⟨tb_1 13 rfl rfl, tb_5 221 rfl rfl, by decide +kernel, by decide⟩
theorem im_X12_comesOn : Cond.instanceMethod yX12_comesOn.1 ∈ gtbl := tb_5 220 rfl rfl
theorem se_X12_comesOn : Cond.selects yX12_comesOn.1.cls yX12_comesOn.1 yX12_comesOn.1 ∈ gtbl := tb_sel (q := (yX12_comesOn.1, 44)) (List.mem_of_getElem? (i := 49) (by decide +kernel))
abbrev yX12_comesAgain : Yx := (⟨"WithinWordsModel", "comesAgain", "(II)V"⟩, prog_14_method_35_code, 6, none, 2)
theorem ok_X12_comesAgain : Cond.initialized yX12_comesAgain.1.cls ∈ gtbl ∧ Cond.code yX12_comesAgain.1 yX12_comesAgain.2.1 yX12_comesAgain.2.2.1 yX12_comesAgain.2.2.2.1 ∈ gtbl ∧ (yX12_comesAgain.1.cls ≠ "java/lang/invoke/MethodHandle" ∧ yX12_comesAgain.1.cls ≠ "java/lang/invoke/VarHandle" ∧ (parseMethodDescriptor yX12_comesAgain.1.desc).map (fun d => d.parameters.length) = some 2) ∧ yX12_comesAgain.2.2.1 ≤ 45 := ⟨tb_1 13 rfl rfl, tb_5 229 rfl rfl, by decide +kernel, by decide⟩
theorem im_X12_comesAgain : Cond.instanceMethod yX12_comesAgain.1 ∈ gtbl := tb_5 228 rfl rfl
theorem se_X12_comesAgain : Cond.selects yX12_comesAgain.1.cls yX12_comesAgain.1 yX12_comesAgain.1 ∈ gtbl := tb_sel (q := (yX12_comesAgain.1, 44)) (List.mem_of_getElem? (i := 51) (by decide +kernel))
abbrev yX12_figureAt : Yx := (⟨"WithinWordsModel", "figureAt", "(II)I"⟩, prog_14_method_36_code, 3, some .int, 2)
theorem ok_X12_figureAt : Cond.initialized yX12_figureAt.1.cls ∈ gtbl ∧ Cond.code yX12_figureAt.1 yX12_figureAt.2.1 yX12_figureAt.2.2.1 yX12_figureAt.2.2.2.1 ∈ gtbl ∧ (yX12_figureAt.1.cls ≠ "java/lang/invoke/MethodHandle" ∧ yX12_figureAt.1.cls ≠ "java/lang/invoke/VarHandle" ∧ (parseMethodDescriptor yX12_figureAt.1.desc).map (fun d => d.parameters.length) = some 2) ∧ yX12_figureAt.2.2.1 ≤ 45 := ⟨tb_1 13 rfl rfl, tb_5 225 rfl rfl, by decide +kernel, by decide⟩
theorem im_X12_figureAt : Cond.instanceMethod yX12_figureAt.1 ∈ gtbl := tb_5 224 rfl rfl
theorem se_X12_figureAt : Cond.selects yX12_figureAt.1.cls yX12_figureAt.1 yX12_figureAt.1 ∈ gtbl := tb_sel (q := (yX12_figureAt.1, 44)) (List.mem_of_getElem? (i := 50) (by decide +kernel))
abbrev yX12_faultOf : Yx := (⟨"WithinWordsModel", "faultOf", "(I)I"⟩, prog_14_method_37_code, 8, some .int, 3)
theorem ok_X12_faultOf : Cond.initialized yX12_faultOf.1.cls ∈ gtbl ∧ Cond.code yX12_faultOf.1 yX12_faultOf.2.1 yX12_faultOf.2.2.1 yX12_faultOf.2.2.2.1 ∈ gtbl ∧ (yX12_faultOf.1.cls ≠ "java/lang/invoke/MethodHandle" ∧ yX12_faultOf.1.cls ≠ "java/lang/invoke/VarHandle" ∧ (parseMethodDescriptor yX12_faultOf.1.desc).map (fun d => d.parameters.length) = some 1) ∧ yX12_faultOf.2.2.1 ≤ 45 := ⟨tb_1 13 rfl rfl, tb_5 213 rfl rfl, by decide +kernel, by decide⟩
theorem im_X12_faultOf : Cond.instanceMethod yX12_faultOf.1 ∈ gtbl := tb_5 212 rfl rfl
theorem se_X12_faultOf : Cond.selects yX12_faultOf.1.cls yX12_faultOf.1 yX12_faultOf.1 ∈ gtbl := tb_sel (q := (yX12_faultOf.1, 44)) (List.mem_of_getElem? (i := 47) (by decide +kernel))
abbrev yX12_fault : Yx := (⟨"WithinWordsModel", "fault", "(I)I"⟩, prog_14_method_38_code, 2, some .int, 4)
theorem ok_X12_fault : Cond.initialized yX12_fault.1.cls ∈ gtbl ∧ Cond.code yX12_fault.1 yX12_fault.2.1 yX12_fault.2.2.1 yX12_fault.2.2.2.1 ∈ gtbl ∧ (yX12_fault.1.cls ≠ "java/lang/invoke/MethodHandle" ∧ yX12_fault.1.cls ≠ "java/lang/invoke/VarHandle" ∧ (parseMethodDescriptor yX12_fault.1.desc).map (fun d => d.parameters.length) = some 1) ∧ yX12_fault.2.2.1 ≤ 45 := ⟨tb_1 13 rfl rfl, tb_5 209 rfl rfl, by decide +kernel, by decide⟩
theorem im_X12_fault : Cond.instanceMethod yX12_fault.1 ∈ gtbl := tb_5 207 rfl rfl
theorem se_X12_fault : Cond.selects yX12_fault.1.cls yX12_fault.1 yX12_fault.1 ∈ gtbl := tb_5 208 rfl rfl
abbrev yX12_tell : Yx := (⟨"WithinWordsModel", "tell", "(II)I"⟩, prog_14_method_39_code, 3, some .int, 4)
theorem ok_X12_tell : Cond.initialized yX12_tell.1.cls ∈ gtbl ∧ Cond.code yX12_tell.1 yX12_tell.2.1 yX12_tell.2.2.1 yX12_tell.2.2.2.1 ∈ gtbl ∧ (yX12_tell.1.cls ≠ "java/lang/invoke/MethodHandle" ∧ yX12_tell.1.cls ≠ "java/lang/invoke/VarHandle" ∧ (parseMethodDescriptor yX12_tell.1.desc).map (fun d => d.parameters.length) = some 2) ∧ yX12_tell.2.2.1 ≤ 45 := ⟨tb_1 13 rfl rfl, tb_5 233 rfl rfl, by decide +kernel, by decide⟩
theorem im_X12_tell : Cond.instanceMethod yX12_tell.1 ∈ gtbl := tb_5 231 rfl rfl
theorem se_X12_tell : Cond.selects yX12_tell.1.cls yX12_tell.1 yX12_tell.1 ∈ gtbl := tb_5 232 rfl rfl
abbrev yX12_needWord : Yx := (⟨"WithinWordsModel", "needWord", "(ZI)I"⟩, prog_14_method_40_code, 3, some .int, 3)
theorem ok_X12_needWord : Cond.initialized yX12_needWord.1.cls ∈ gtbl ∧ Cond.code yX12_needWord.1 yX12_needWord.2.1 yX12_needWord.2.2.1 yX12_needWord.2.2.2.1 ∈ gtbl ∧ (yX12_needWord.1.cls ≠ "java/lang/invoke/MethodHandle" ∧ yX12_needWord.1.cls ≠ "java/lang/invoke/VarHandle" ∧ (parseMethodDescriptor yX12_needWord.1.desc).map (fun d => d.parameters.length) = some 2) ∧ yX12_needWord.2.2.1 ≤ 45 := ⟨tb_1 13 rfl rfl, tb_6 17 rfl rfl, by decide +kernel, by decide⟩
theorem im_X12_needWord : Cond.instanceMethod yX12_needWord.1 ∈ gtbl := tb_6 16 rfl rfl
theorem se_X12_needWord : Cond.selects yX12_needWord.1.cls yX12_needWord.1 yX12_needWord.1 ∈ gtbl := tb_sel (q := (yX12_needWord.1, 44)) (List.mem_of_getElem? (i := 54) (by decide +kernel))
abbrev yX12_needTwo : Yx := (⟨"WithinWordsModel", "needTwo", "(ZII)I"⟩, prog_14_method_41_code, 4, some .int, 3)
theorem ok_X12_needTwo : Cond.initialized yX12_needTwo.1.cls ∈ gtbl ∧ Cond.code yX12_needTwo.1 yX12_needTwo.2.1 yX12_needTwo.2.2.1 yX12_needTwo.2.2.2.1 ∈ gtbl ∧ (yX12_needTwo.1.cls ≠ "java/lang/invoke/MethodHandle" ∧ yX12_needTwo.1.cls ≠ "java/lang/invoke/VarHandle" ∧ (parseMethodDescriptor yX12_needTwo.1.desc).map (fun d => d.parameters.length) = some 3) ∧ yX12_needTwo.2.2.1 ≤ 45 := ⟨tb_1 13 rfl rfl, tb_6 1 rfl rfl, by decide +kernel, by decide⟩
theorem im_X12_needTwo : Cond.instanceMethod yX12_needTwo.1 ∈ gtbl := tb_6 0 rfl rfl
theorem se_X12_needTwo : Cond.selects yX12_needTwo.1.cls yX12_needTwo.1 yX12_needTwo.1 ∈ gtbl := tb_sel (q := (yX12_needTwo.1, 44)) (List.mem_of_getElem? (i := 52) (by decide +kernel))
abbrev yX12_join : Yx := (⟨"WithinWordsModel", "join", "(III)I"⟩, prog_14_method_42_code, 7, some .int, 4)
theorem ok_X12_join : Cond.initialized yX12_join.1.cls ∈ gtbl ∧ Cond.code yX12_join.1 yX12_join.2.1 yX12_join.2.2.1 yX12_join.2.2.2.1 ∈ gtbl ∧ (yX12_join.1.cls ≠ "java/lang/invoke/MethodHandle" ∧ yX12_join.1.cls ≠ "java/lang/invoke/VarHandle" ∧ (parseMethodDescriptor yX12_join.1.desc).map (fun d => d.parameters.length) = some 3) ∧ yX12_join.2.2.1 ≤ 45 := ⟨tb_1 13 rfl rfl, tb_5 237 rfl rfl, by decide +kernel, by decide⟩
theorem im_X12_join : Cond.instanceMethod yX12_join.1 ∈ gtbl := tb_5 235 rfl rfl
theorem se_X12_join : Cond.selects yX12_join.1.cls yX12_join.1 yX12_join.1 ∈ gtbl := tb_5 236 rfl rfl
abbrev yX12_part : Yx := (⟨"WithinWordsModel", "part", "(IIII)I"⟩, prog_14_method_43_code, 6, some .int, 3)
theorem ok_X12_part : Cond.initialized yX12_part.1.cls ∈ gtbl ∧ Cond.code yX12_part.1 yX12_part.2.1 yX12_part.2.2.1 yX12_part.2.2.2.1 ∈ gtbl ∧ (yX12_part.1.cls ≠ "java/lang/invoke/MethodHandle" ∧ yX12_part.1.cls ≠ "java/lang/invoke/VarHandle" ∧ (parseMethodDescriptor yX12_part.1.desc).map (fun d => d.parameters.length) = some 4) ∧ yX12_part.2.2.1 ≤ 45 := ⟨tb_1 13 rfl rfl, tb_6 9 rfl rfl, by decide +kernel, by decide⟩
theorem im_X12_part : Cond.instanceMethod yX12_part.1 ∈ gtbl := tb_6 7 rfl rfl
theorem se_X12_part : Cond.selects yX12_part.1.cls yX12_part.1 yX12_part.1 ∈ gtbl := tb_6 8 rfl rfl
abbrev yX12_turn : Yx := (⟨"WithinWordsModel", "turn", "(III)I"⟩, prog_14_method_44_code, 6, some .int, 4)
theorem ok_X12_turn : Cond.initialized yX12_turn.1.cls ∈ gtbl ∧ Cond.code yX12_turn.1 yX12_turn.2.1 yX12_turn.2.2.1 yX12_turn.2.2.2.1 ∈ gtbl ∧ (yX12_turn.1.cls ≠ "java/lang/invoke/MethodHandle" ∧ yX12_turn.1.cls ≠ "java/lang/invoke/VarHandle" ∧ (parseMethodDescriptor yX12_turn.1.desc).map (fun d => d.parameters.length) = some 3) ∧ yX12_turn.2.2.1 ≤ 45 := ⟨tb_1 13 rfl rfl, tb_6 13 rfl rfl, by decide +kernel, by decide⟩
theorem im_X12_turn : Cond.instanceMethod yX12_turn.1 ∈ gtbl := tb_6 11 rfl rfl
theorem se_X12_turn : Cond.selects yX12_turn.1.cls yX12_turn.1 yX12_turn.1 ∈ gtbl := tb_6 12 rfl rfl
abbrev yX12_erase : Yx := (⟨"WithinWordsModel", "erase", "(I)I"⟩, prog_14_method_45_code, 3, some .int, 4)
theorem ok_X12_erase : Cond.initialized yX12_erase.1.cls ∈ gtbl ∧ Cond.code yX12_erase.1 yX12_erase.2.1 yX12_erase.2.2.1 yX12_erase.2.2.2.1 ∈ gtbl ∧ (yX12_erase.1.cls ≠ "java/lang/invoke/MethodHandle" ∧ yX12_erase.1.cls ≠ "java/lang/invoke/VarHandle" ∧ (parseMethodDescriptor yX12_erase.1.desc).map (fun d => d.parameters.length) = some 1) ∧ yX12_erase.2.2.1 ≤ 45 := ⟨tb_1 13 rfl rfl, tb_6 21 rfl rfl, by decide +kernel, by decide⟩
theorem im_X12_erase : Cond.instanceMethod yX12_erase.1 ∈ gtbl := tb_6 19 rfl rfl
theorem se_X12_erase : Cond.selects yX12_erase.1.cls yX12_erase.1 yX12_erase.1 ∈ gtbl := tb_6 20 rfl rfl
abbrev yX12_size : Yx := (⟨"WithinWordsModel", "size", "(I)I"⟩, prog_14_method_46_code, 3, some .int, 4)
theorem ok_X12_size : Cond.initialized yX12_size.1.cls ∈ gtbl ∧ Cond.code yX12_size.1 yX12_size.2.1 yX12_size.2.2.1 yX12_size.2.2.2.1 ∈ gtbl ∧ (yX12_size.1.cls ≠ "java/lang/invoke/MethodHandle" ∧ yX12_size.1.cls ≠ "java/lang/invoke/VarHandle" ∧ (parseMethodDescriptor yX12_size.1.desc).map (fun d => d.parameters.length) = some 1) ∧ yX12_size.2.2.1 ≤ 45 := ⟨tb_1 13 rfl rfl, tb_6 25 rfl rfl, by decide +kernel, by decide⟩
theorem im_X12_size : Cond.instanceMethod yX12_size.1 ∈ gtbl := tb_6 23 rfl rfl
theorem se_X12_size : Cond.selects yX12_size.1.cls yX12_size.1 yX12_size.1 ∈ gtbl := tb_6 24 rfl rfl
abbrev yX12_letter : Yx := (⟨"WithinWordsModel", "letter", "(II)I"⟩, prog_14_method_47_code, 4, some .int, 4)
theorem ok_X12_letter : Cond.initialized yX12_letter.1.cls ∈ gtbl ∧ Cond.code yX12_letter.1 yX12_letter.2.1 yX12_letter.2.2.1 yX12_letter.2.2.2.1 ∈ gtbl ∧ (yX12_letter.1.cls ≠ "java/lang/invoke/MethodHandle" ∧ yX12_letter.1.cls ≠ "java/lang/invoke/VarHandle" ∧ (parseMethodDescriptor yX12_letter.1.desc).map (fun d => d.parameters.length) = some 2) ∧ yX12_letter.2.2.1 ≤ 45 := ⟨tb_1 13 rfl rfl, tb_6 29 rfl rfl, by decide +kernel, by decide⟩
theorem im_X12_letter : Cond.instanceMethod yX12_letter.1 ∈ gtbl := tb_6 27 rfl rfl
theorem se_X12_letter : Cond.selects yX12_letter.1.cls yX12_letter.1 yX12_letter.1 ∈ gtbl := tb_6 28 rfl rfl
abbrev yX12_kind : Yx := (⟨"WithinWordsModel", "kind", "(I)I"⟩, prog_14_method_48_code, 3, some .int, 4)
theorem ok_X12_kind : Cond.initialized yX12_kind.1.cls ∈ gtbl ∧ Cond.code yX12_kind.1 yX12_kind.2.1 yX12_kind.2.2.1 yX12_kind.2.2.2.1 ∈ gtbl ∧ (yX12_kind.1.cls ≠ "java/lang/invoke/MethodHandle" ∧ yX12_kind.1.cls ≠ "java/lang/invoke/VarHandle" ∧ (parseMethodDescriptor yX12_kind.1.desc).map (fun d => d.parameters.length) = some 1) ∧ yX12_kind.2.2.1 ≤ 45 := ⟨tb_1 13 rfl rfl, tb_6 33 rfl rfl, by decide +kernel, by decide⟩
theorem im_X12_kind : Cond.instanceMethod yX12_kind.1 ∈ gtbl := tb_6 31 rfl rfl
theorem se_X12_kind : Cond.selects yX12_kind.1.cls yX12_kind.1 yX12_kind.1 ∈ gtbl := tb_6 32 rfl rfl
abbrev yX12_markOf : Yx := (⟨"WithinWordsModel", "markOf", "(II)I"⟩, prog_14_method_49_code, 3, some .int, 1)
theorem ok_X12_markOf : Cond.initialized yX12_markOf.1.cls ∈ gtbl ∧ Cond.code yX12_markOf.1 yX12_markOf.2.1 yX12_markOf.2.2.1 yX12_markOf.2.2.2.1 ∈ gtbl ∧ (yX12_markOf.1.cls ≠ "java/lang/invoke/MethodHandle" ∧ yX12_markOf.1.cls ≠ "java/lang/invoke/VarHandle" ∧ (parseMethodDescriptor yX12_markOf.1.desc).map (fun d => d.parameters.length) = some 2) ∧ yX12_markOf.2.2.1 ≤ 45 := ⟨tb_1 13 rfl rfl, tb_6 41 rfl rfl, by decide +kernel, by decide⟩
theorem im_X12_markOf : Cond.instanceMethod yX12_markOf.1 ∈ gtbl := tb_6 40 rfl rfl
theorem se_X12_markOf : Cond.selects yX12_markOf.1.cls yX12_markOf.1 yX12_markOf.1 ∈ gtbl := tb_sel (q := (yX12_markOf.1, 44)) (List.mem_of_getElem? (i := 55) (by decide +kernel))
abbrev yX12_mark : Yx := (⟨"WithinWordsModel", "mark", "(II)I"⟩, prog_14_method_50_code, 5, some .int, 4)
theorem ok_X12_mark : Cond.initialized yX12_mark.1.cls ∈ gtbl ∧ Cond.code yX12_mark.1 yX12_mark.2.1 yX12_mark.2.2.1 yX12_mark.2.2.2.1 ∈ gtbl ∧ (yX12_mark.1.cls ≠ "java/lang/invoke/MethodHandle" ∧ yX12_mark.1.cls ≠ "java/lang/invoke/VarHandle" ∧ (parseMethodDescriptor yX12_mark.1.desc).map (fun d => d.parameters.length) = some 2) ∧ yX12_mark.2.2.1 ≤ 45 := ⟨tb_1 13 rfl rfl, tb_6 37 rfl rfl, by decide +kernel, by decide⟩
theorem im_X12_mark : Cond.instanceMethod yX12_mark.1 ∈ gtbl := tb_6 35 rfl rfl
theorem se_X12_mark : Cond.selects yX12_mark.1.cls yX12_mark.1 yX12_mark.1 ∈ gtbl := tb_6 36 rfl rfl
abbrev yX12_next : Yx := (⟨"WithinWordsModel", "next", "(III)I"⟩, prog_14_method_51_code, 5, some .int, 2)
theorem ok_X12_next : Cond.initialized yX12_next.1.cls ∈ gtbl ∧ Cond.code yX12_next.1 yX12_next.2.1 yX12_next.2.2.1 yX12_next.2.2.2.1 ∈ gtbl ∧ (yX12_next.1.cls ≠ "java/lang/invoke/MethodHandle" ∧ yX12_next.1.cls ≠ "java/lang/invoke/VarHandle" ∧ (parseMethodDescriptor yX12_next.1.desc).map (fun d => d.parameters.length) = some 3) ∧ yX12_next.2.2.1 ≤ 45 := ⟨tb_1 13 rfl rfl, tb_6 65 rfl rfl, by decide +kernel, by decide⟩
theorem im_X12_next : Cond.instanceMethod yX12_next.1 ∈ gtbl := tb_6 64 rfl rfl
theorem se_X12_next : Cond.selects yX12_next.1.cls yX12_next.1 yX12_next.1 ∈ gtbl := tb_sel (q := (yX12_next.1, 44)) (List.mem_of_getElem? (i := 59) (by decide +kernel))
abbrev yX12_ways : Yx := (⟨"WithinWordsModel", "ways", "(II)I"⟩, prog_14_method_52_code, 6, some .int, 4)
theorem ok_X12_ways : Cond.initialized yX12_ways.1.cls ∈ gtbl ∧ Cond.code yX12_ways.1 yX12_ways.2.1 yX12_ways.2.2.1 yX12_ways.2.2.2.1 ∈ gtbl ∧ (yX12_ways.1.cls ≠ "java/lang/invoke/MethodHandle" ∧ yX12_ways.1.cls ≠ "java/lang/invoke/VarHandle" ∧ (parseMethodDescriptor yX12_ways.1.desc).map (fun d => d.parameters.length) = some 2) ∧ yX12_ways.2.2.1 ≤ 45 := ⟨tb_1 13 rfl rfl, tb_6 45 rfl rfl, by decide +kernel, by decide⟩
theorem im_X12_ways : Cond.instanceMethod yX12_ways.1 ∈ gtbl := tb_6 43 rfl rfl
theorem se_X12_ways : Cond.selects yX12_ways.1.cls yX12_ways.1 yX12_ways.1 ∈ gtbl := tb_6 44 rfl rfl
abbrev yX12_layWays : Yx := (⟨"WithinWordsModel", "layWays", "(II)V"⟩, prog_14_method_53_code, 5, none, 2)
theorem ok_X12_layWays : Cond.initialized yX12_layWays.1.cls ∈ gtbl ∧ Cond.code yX12_layWays.1 yX12_layWays.2.1 yX12_layWays.2.2.1 yX12_layWays.2.2.2.1 ∈ gtbl ∧ (yX12_layWays.1.cls ≠ "java/lang/invoke/MethodHandle" ∧ yX12_layWays.1.cls ≠ "java/lang/invoke/VarHandle" ∧ (parseMethodDescriptor yX12_layWays.1.desc).map (fun d => d.parameters.length) = some 2) ∧ yX12_layWays.2.2.1 ≤ 45 := ⟨tb_1 13 rfl rfl, tb_6 49 rfl rfl, by decide +kernel, by decide⟩
theorem im_X12_layWays : Cond.instanceMethod yX12_layWays.1 ∈ gtbl := tb_6 48 rfl rfl
theorem se_X12_layWays : Cond.selects yX12_layWays.1.cls yX12_layWays.1 yX12_layWays.1 ∈ gtbl := tb_sel (q := (yX12_layWays.1, 44)) (List.mem_of_getElem? (i := 56) (by decide +kernel))
abbrev yX12_layPlaces : Yx := (⟨"WithinWordsModel", "layPlaces", "(II)Z"⟩, prog_14_method_54_code, 7, some .boolean, 3)
theorem ok_X12_layPlaces : Cond.initialized yX12_layPlaces.1.cls ∈ gtbl ∧ Cond.code yX12_layPlaces.1 yX12_layPlaces.2.1 yX12_layPlaces.2.2.1 yX12_layPlaces.2.2.2.1 ∈ gtbl ∧ (yX12_layPlaces.1.cls ≠ "java/lang/invoke/MethodHandle" ∧ yX12_layPlaces.1.cls ≠ "java/lang/invoke/VarHandle" ∧ (parseMethodDescriptor yX12_layPlaces.1.desc).map (fun d => d.parameters.length) = some 2) ∧ yX12_layPlaces.2.2.1 ≤ 45 := ⟨tb_1 13 rfl rfl, tb_6 61 rfl rfl, by decide +kernel, by decide⟩
theorem im_X12_layPlaces : Cond.instanceMethod yX12_layPlaces.1 ∈ gtbl := tb_6 60 rfl rfl
theorem se_X12_layPlaces : Cond.selects yX12_layPlaces.1.cls yX12_layPlaces.1 yX12_layPlaces.1 ∈ gtbl := tb_sel (q := (yX12_layPlaces.1, 44)) (List.mem_of_getElem? (i := 58) (by decide +kernel))
abbrev yX12_way : Yx := (⟨"WithinWordsModel", "way", "(IIIZ)I"⟩, prog_14_method_55_code, 7, some .int, 4)
theorem ok_X12_way : Cond.initialized yX12_way.1.cls ∈ gtbl ∧ Cond.code yX12_way.1 yX12_way.2.1 yX12_way.2.2.1 yX12_way.2.2.2.1 ∈ gtbl ∧ (yX12_way.1.cls ≠ "java/lang/invoke/MethodHandle" ∧ yX12_way.1.cls ≠ "java/lang/invoke/VarHandle" ∧ (parseMethodDescriptor yX12_way.1.desc).map (fun d => d.parameters.length) = some 4) ∧ yX12_way.2.2.1 ≤ 45 := ⟨tb_1 13 rfl rfl, tb_6 57 rfl rfl, by decide +kernel, by decide⟩
theorem im_X12_way : Cond.instanceMethod yX12_way.1 ∈ gtbl := tb_6 55 rfl rfl
theorem se_X12_way : Cond.selects yX12_way.1.cls yX12_way.1 yX12_way.1 ∈ gtbl := tb_6 56 rfl rfl
abbrev yX12_places : Yx := (⟨"WithinWordsModel", "places", "(IIZ)I"⟩, prog_14_method_56_code, 12, some .int, 4)
theorem ok_X12_places : Cond.initialized yX12_places.1.cls ∈ gtbl ∧ Cond.code yX12_places.1 yX12_places.2.1 yX12_places.2.2.1 yX12_places.2.2.2.1 ∈ gtbl ∧ (yX12_places.1.cls ≠ "java/lang/invoke/MethodHandle" ∧ yX12_places.1.cls ≠ "java/lang/invoke/VarHandle" ∧ (parseMethodDescriptor yX12_places.1.desc).map (fun d => d.parameters.length) = some 3) ∧ yX12_places.2.2.1 ≤ 45 := ⟨tb_1 13 rfl rfl, tb_6 73 rfl rfl, by decide +kernel, by decide⟩
theorem im_X12_places : Cond.instanceMethod yX12_places.1 ∈ gtbl := tb_6 71 rfl rfl
theorem se_X12_places : Cond.selects yX12_places.1.cls yX12_places.1 yX12_places.1 ∈ gtbl := tb_6 72 rfl rfl
abbrev yX12_judge : Yx := (⟨"WithinWordsModel", "judge", "(III)I"⟩, prog_14_method_57_code, 8, some .int, 3)
theorem ok_X12_judge : Cond.initialized yX12_judge.1.cls ∈ gtbl ∧ Cond.code yX12_judge.1 yX12_judge.2.1 yX12_judge.2.2.1 yX12_judge.2.2.2.1 ∈ gtbl ∧ (yX12_judge.1.cls ≠ "java/lang/invoke/MethodHandle" ∧ yX12_judge.1.cls ≠ "java/lang/invoke/VarHandle" ∧ (parseMethodDescriptor yX12_judge.1.desc).map (fun d => d.parameters.length) = some 3) ∧ yX12_judge.2.2.1 ≤ 45 := ⟨tb_1 13 rfl rfl, tb_6 77 rfl rfl, by decide +kernel, by decide⟩
theorem im_X12_judge : Cond.instanceMethod yX12_judge.1 ∈ gtbl := tb_6 75 rfl rfl
theorem se_X12_judge : Cond.selects yX12_judge.1.cls yX12_judge.1 yX12_judge.1 ∈ gtbl := tb_6 76 rfl rfl
abbrev yX12_bar : Yx := (⟨"WithinWordsModel", "bar", "(II)I"⟩, prog_14_method_58_code, 7, some .int, 4)
theorem ok_X12_bar : Cond.initialized yX12_bar.1.cls ∈ gtbl ∧ Cond.code yX12_bar.1 yX12_bar.2.1 yX12_bar.2.2.1 yX12_bar.2.2.2.1 ∈ gtbl ∧ (yX12_bar.1.cls ≠ "java/lang/invoke/MethodHandle" ∧ yX12_bar.1.cls ≠ "java/lang/invoke/VarHandle" ∧ (parseMethodDescriptor yX12_bar.1.desc).map (fun d => d.parameters.length) = some 2) ∧ yX12_bar.2.2.1 ≤ 45 := ⟨tb_1 13 rfl rfl, tb_6 81 rfl rfl, by decide +kernel, by decide⟩
theorem im_X12_bar : Cond.instanceMethod yX12_bar.1 ∈ gtbl := tb_6 79 rfl rfl
theorem se_X12_bar : Cond.selects yX12_bar.1.cls yX12_bar.1 yX12_bar.1 ∈ gtbl := tb_6 80 rfl rfl
abbrev yX12_layInner : Yx := (⟨"WithinWordsModel", "layInner", "(I)V"⟩, prog_14_method_59_code, 7, none, 3)
theorem ok_X12_layInner : Cond.initialized yX12_layInner.1.cls ∈ gtbl ∧ Cond.code yX12_layInner.1 yX12_layInner.2.1 yX12_layInner.2.2.1 yX12_layInner.2.2.2.1 ∈ gtbl ∧ (yX12_layInner.1.cls ≠ "java/lang/invoke/MethodHandle" ∧ yX12_layInner.1.cls ≠ "java/lang/invoke/VarHandle" ∧ (parseMethodDescriptor yX12_layInner.1.desc).map (fun d => d.parameters.length) = some 1) ∧ yX12_layInner.2.2.1 ≤ 45 := ⟨tb_1 13 rfl rfl, tb_6 89 rfl rfl, by decide +kernel, by decide⟩
theorem im_X12_layInner : Cond.instanceMethod yX12_layInner.1 ∈ gtbl := tb_6 88 rfl rfl
theorem se_X12_layInner : Cond.selects yX12_layInner.1.cls yX12_layInner.1 yX12_layInner.1 ∈ gtbl := tb_sel (q := (yX12_layInner.1, 44)) (List.mem_of_getElem? (i := 61) (by decide +kernel))
abbrev yX12_inner : Yx := (⟨"WithinWordsModel", "inner", "(II)I"⟩, prog_14_method_60_code, 7, some .int, 4)
theorem ok_X12_inner : Cond.initialized yX12_inner.1.cls ∈ gtbl ∧ Cond.code yX12_inner.1 yX12_inner.2.1 yX12_inner.2.2.1 yX12_inner.2.2.2.1 ∈ gtbl ∧ (yX12_inner.1.cls ≠ "java/lang/invoke/MethodHandle" ∧ yX12_inner.1.cls ≠ "java/lang/invoke/VarHandle" ∧ (parseMethodDescriptor yX12_inner.1.desc).map (fun d => d.parameters.length) = some 2) ∧ yX12_inner.2.2.1 ≤ 45 := ⟨tb_1 13 rfl rfl, tb_6 85 rfl rfl, by decide +kernel, by decide⟩
theorem im_X12_inner : Cond.instanceMethod yX12_inner.1 ∈ gtbl := tb_6 83 rfl rfl
theorem se_X12_inner : Cond.selects yX12_inner.1.cls yX12_inner.1 yX12_inner.1 ∈ gtbl := tb_6 84 rfl rfl
abbrev yX12_rank : Yx := (⟨"WithinWordsModel", "rank", "(II)I"⟩, prog_14_method_61_code, 11, some .int, 4)
theorem ok_X12_rank : Cond.initialized yX12_rank.1.cls ∈ gtbl ∧ Cond.code yX12_rank.1 yX12_rank.2.1 yX12_rank.2.2.1 yX12_rank.2.2.2.1 ∈ gtbl ∧ (yX12_rank.1.cls ≠ "java/lang/invoke/MethodHandle" ∧ yX12_rank.1.cls ≠ "java/lang/invoke/VarHandle" ∧ (parseMethodDescriptor yX12_rank.1.desc).map (fun d => d.parameters.length) = some 2) ∧ yX12_rank.2.2.1 ≤ 45 := ⟨tb_1 13 rfl rfl, tb_6 93 rfl rfl, by decide +kernel, by decide⟩
theorem im_X12_rank : Cond.instanceMethod yX12_rank.1 ∈ gtbl := tb_6 91 rfl rfl
theorem se_X12_rank : Cond.selects yX12_rank.1.cls yX12_rank.1 yX12_rank.1 ∈ gtbl := tb_6 92 rfl rfl
abbrev yX12_byRank : Yx := (⟨"WithinWordsModel", "byRank", "(IIII)I"⟩, prog_14_method_62_code, 12, some .int, 4)
theorem ok_X12_byRank : Cond.initialized yX12_byRank.1.cls ∈ gtbl ∧ Cond.code yX12_byRank.1 yX12_byRank.2.1 yX12_byRank.2.2.1 yX12_byRank.2.2.2.1 ∈ gtbl ∧ (yX12_byRank.1.cls ≠ "java/lang/invoke/MethodHandle" ∧ yX12_byRank.1.cls ≠ "java/lang/invoke/VarHandle" ∧ (parseMethodDescriptor yX12_byRank.1.desc).map (fun d => d.parameters.length) = some 4) ∧ yX12_byRank.2.2.1 ≤ 45 := ⟨tb_1 13 rfl rfl, tb_6 97 rfl rfl, by decide +kernel, by decide⟩
theorem im_X12_byRank : Cond.instanceMethod yX12_byRank.1 ∈ gtbl := tb_6 95 rfl rfl
theorem se_X12_byRank : Cond.selects yX12_byRank.1.cls yX12_byRank.1 yX12_byRank.1 ∈ gtbl := tb_6 96 rfl rfl
abbrev yX12_innersBy : Yx := (⟨"WithinWordsModel", "innersBy", "(IIII)J"⟩, prog_14_method_63_code, 6, some .long, 3)
theorem ok_X12_innersBy : Cond.initialized yX12_innersBy.1.cls ∈ gtbl ∧ Cond.code yX12_innersBy.1 yX12_innersBy.2.1 yX12_innersBy.2.2.1 yX12_innersBy.2.2.2.1 ∈ gtbl ∧ (yX12_innersBy.1.cls ≠ "java/lang/invoke/MethodHandle" ∧ yX12_innersBy.1.cls ≠ "java/lang/invoke/VarHandle" ∧ (parseMethodDescriptor yX12_innersBy.1.desc).map (fun d => d.parameters.length) = some 4) ∧ yX12_innersBy.2.2.1 ≤ 45 := ⟨tb_1 13 rfl rfl, tb_6 101 rfl rfl, by decide +kernel, by decide⟩
theorem im_X12_innersBy : Cond.instanceMethod yX12_innersBy.1 ∈ gtbl := tb_6 100 rfl rfl
theorem se_X12_innersBy : Cond.selects yX12_innersBy.1.cls yX12_innersBy.1 yX12_innersBy.1 ∈ gtbl := tb_sel (q := (yX12_innersBy.1, 44)) (List.mem_of_getElem? (i := 62) (by decide +kernel))
abbrev yX12_archesFrom : Yx := (⟨"WithinWordsModel", "archesFrom", "(II)I"⟩, prog_14_method_64_code, 5, some .int, 2)
theorem ok_X12_archesFrom : Cond.initialized yX12_archesFrom.1.cls ∈ gtbl ∧ Cond.code yX12_archesFrom.1 yX12_archesFrom.2.1 yX12_archesFrom.2.2.1 yX12_archesFrom.2.2.2.1 ∈ gtbl ∧ (yX12_archesFrom.1.cls ≠ "java/lang/invoke/MethodHandle" ∧ yX12_archesFrom.1.cls ≠ "java/lang/invoke/VarHandle" ∧ (parseMethodDescriptor yX12_archesFrom.1.desc).map (fun d => d.parameters.length) = some 2) ∧ yX12_archesFrom.2.2.1 ≤ 45 := ⟨tb_1 13 rfl rfl, tb_6 109 rfl rfl, by decide +kernel, by decide⟩
theorem im_X12_archesFrom : Cond.instanceMethod yX12_archesFrom.1 ∈ gtbl := tb_6 108 rfl rfl
theorem se_X12_archesFrom : Cond.selects yX12_archesFrom.1.cls yX12_archesFrom.1 yX12_archesFrom.1 ∈ gtbl := tb_sel (q := (yX12_archesFrom.1, 44)) (List.mem_of_getElem? (i := 63) (by decide +kernel))
abbrev yX12_arches : Yx := (⟨"WithinWordsModel", "arches", "(I)I"⟩, prog_14_method_65_code, 4, some .int, 4)
theorem ok_X12_arches : Cond.initialized yX12_arches.1.cls ∈ gtbl ∧ Cond.code yX12_arches.1 yX12_arches.2.1 yX12_arches.2.2.1 yX12_arches.2.2.2.1 ∈ gtbl ∧ (yX12_arches.1.cls ≠ "java/lang/invoke/MethodHandle" ∧ yX12_arches.1.cls ≠ "java/lang/invoke/VarHandle" ∧ (parseMethodDescriptor yX12_arches.1.desc).map (fun d => d.parameters.length) = some 1) ∧ yX12_arches.2.2.1 ≤ 45 := ⟨tb_1 13 rfl rfl, tb_6 105 rfl rfl, by decide +kernel, by decide⟩
theorem im_X12_arches : Cond.instanceMethod yX12_arches.1 ∈ gtbl := tb_6 103 rfl rfl
theorem se_X12_arches : Cond.selects yX12_arches.1.cls yX12_arches.1 yX12_arches.1 ∈ gtbl := tb_6 104 rfl rfl
abbrev yX12_powerOf : Yx := (⟨"WithinWordsModel", "powerOf", "(JI)J"⟩, prog_14_method_66_code, 6, some .long, 1)
theorem ok_X12_powerOf : Cond.initialized yX12_powerOf.1.cls ∈ gtbl ∧ Cond.code yX12_powerOf.1 yX12_powerOf.2.1 yX12_powerOf.2.2.1 yX12_powerOf.2.2.2.1 ∈ gtbl ∧ (yX12_powerOf.1.cls ≠ "java/lang/invoke/MethodHandle" ∧ yX12_powerOf.1.cls ≠ "java/lang/invoke/VarHandle" ∧ (parseMethodDescriptor yX12_powerOf.1.desc).map (fun d => d.parameters.length) = some 2) ∧ yX12_powerOf.2.2.1 ≤ 45 := ⟨tb_1 13 rfl rfl, tb_6 124 rfl rfl, by decide +kernel, by decide⟩
theorem st_X12_powerOf : Cond.static yX12_powerOf.1 ∈ gtbl := tb_6 123 rfl rfl
abbrev yX12_hasAll : Yx := (⟨"WithinWordsModel", "hasAll", "(III)Z"⟩, prog_14_method_67_code, 4, some .boolean, 3)
theorem ok_X12_hasAll : Cond.initialized yX12_hasAll.1.cls ∈ gtbl ∧ Cond.code yX12_hasAll.1 yX12_hasAll.2.1 yX12_hasAll.2.2.1 yX12_hasAll.2.2.2.1 ∈ gtbl ∧ (yX12_hasAll.1.cls ≠ "java/lang/invoke/MethodHandle" ∧ yX12_hasAll.1.cls ≠ "java/lang/invoke/VarHandle" ∧ (parseMethodDescriptor yX12_hasAll.1.desc).map (fun d => d.parameters.length) = some 3) ∧ yX12_hasAll.2.2.1 ≤ 45 := ⟨tb_1 13 rfl rfl, tb_6 121 rfl rfl, by decide +kernel, by decide⟩
theorem im_X12_hasAll : Cond.instanceMethod yX12_hasAll.1 ∈ gtbl := tb_6 120 rfl rfl
theorem se_X12_hasAll : Cond.selects yX12_hasAll.1.cls yX12_hasAll.1 yX12_hasAll.1 ∈ gtbl := tb_sel (q := (yX12_hasAll.1, 44)) (List.mem_of_getElem? (i := 65) (by decide +kernel))
abbrev yX12_layAbsent : Yx := (⟨"WithinWordsModel", "layAbsent", "(II)V"⟩, prog_14_method_68_code, 7, none, 4)
theorem ok_X12_layAbsent : Cond.initialized yX12_layAbsent.1.cls ∈ gtbl ∧ Cond.code yX12_layAbsent.1 yX12_layAbsent.2.1 yX12_layAbsent.2.2.1 yX12_layAbsent.2.2.2.1 ∈ gtbl ∧ (yX12_layAbsent.1.cls ≠ "java/lang/invoke/MethodHandle" ∧ yX12_layAbsent.1.cls ≠ "java/lang/invoke/VarHandle" ∧ (parseMethodDescriptor yX12_layAbsent.1.desc).map (fun d => d.parameters.length) = some 2) ∧ yX12_layAbsent.2.2.1 ≤ 45 := ⟨tb_1 13 rfl rfl, tb_6 117 rfl rfl, by decide +kernel, by decide⟩
theorem im_X12_layAbsent : Cond.instanceMethod yX12_layAbsent.1 ∈ gtbl := tb_6 116 rfl rfl
theorem se_X12_layAbsent : Cond.selects yX12_layAbsent.1.cls yX12_layAbsent.1 yX12_layAbsent.1 ∈ gtbl := tb_sel (q := (yX12_layAbsent.1, 44)) (List.mem_of_getElem? (i := 64) (by decide +kernel))
abbrev yX12_absent : Yx := (⟨"WithinWordsModel", "absent", "(II)I"⟩, prog_14_method_69_code, 7, some .int, 5)
theorem ok_X12_absent : Cond.initialized yX12_absent.1.cls ∈ gtbl ∧ Cond.code yX12_absent.1 yX12_absent.2.1 yX12_absent.2.2.1 yX12_absent.2.2.2.1 ∈ gtbl ∧ (yX12_absent.1.cls ≠ "java/lang/invoke/MethodHandle" ∧ yX12_absent.1.cls ≠ "java/lang/invoke/VarHandle" ∧ (parseMethodDescriptor yX12_absent.1.desc).map (fun d => d.parameters.length) = some 2) ∧ yX12_absent.2.2.1 ≤ 45 := ⟨tb_1 13 rfl rfl, tb_6 113 rfl rfl, by decide +kernel, by decide⟩
theorem im_X12_absent : Cond.instanceMethod yX12_absent.1 ∈ gtbl := tb_6 111 rfl rfl
theorem se_X12_absent : Cond.selects yX12_absent.1.cls yX12_absent.1 yX12_absent.1 ∈ gtbl := tb_6 112 rfl rfl
abbrev yX12_added : Yx := (⟨"WithinWordsModel", "added", "(II)I"⟩, prog_14_method_70_code, 7, some .int, 4)
theorem ok_X12_added : Cond.initialized yX12_added.1.cls ∈ gtbl ∧ Cond.code yX12_added.1 yX12_added.2.1 yX12_added.2.2.1 yX12_added.2.2.2.1 ∈ gtbl ∧ (yX12_added.1.cls ≠ "java/lang/invoke/MethodHandle" ∧ yX12_added.1.cls ≠ "java/lang/invoke/VarHandle" ∧ (parseMethodDescriptor yX12_added.1.desc).map (fun d => d.parameters.length) = some 2) ∧ yX12_added.2.2.1 ≤ 45 := ⟨tb_1 13 rfl rfl, tb_6 128 rfl rfl, by decide +kernel, by decide⟩
theorem im_X12_added : Cond.instanceMethod yX12_added.1 ∈ gtbl := tb_6 126 rfl rfl
theorem se_X12_added : Cond.selects yX12_added.1.cls yX12_added.1 yX12_added.1 ∈ gtbl := tb_6 127 rfl rfl
abbrev yX12_nextOther : Yx := (⟨"WithinWordsModel", "nextOther", "(II)I"⟩, prog_14_method_71_code, 4, some .int, 1)
theorem ok_X12_nextOther : Cond.initialized yX12_nextOther.1.cls ∈ gtbl ∧ Cond.code yX12_nextOther.1 yX12_nextOther.2.1 yX12_nextOther.2.2.1 yX12_nextOther.2.2.2.1 ∈ gtbl ∧ (yX12_nextOther.1.cls ≠ "java/lang/invoke/MethodHandle" ∧ yX12_nextOther.1.cls ≠ "java/lang/invoke/VarHandle" ∧ (parseMethodDescriptor yX12_nextOther.1.desc).map (fun d => d.parameters.length) = some 2) ∧ yX12_nextOther.2.2.1 ≤ 45 := ⟨tb_1 13 rfl rfl, tb_6 147 rfl rfl, by decide +kernel, by decide⟩
theorem im_X12_nextOther : Cond.instanceMethod yX12_nextOther.1 ∈ gtbl := tb_6 146 rfl rfl
theorem se_X12_nextOther : Cond.selects yX12_nextOther.1.cls yX12_nextOther.1 yX12_nextOther.1 ∈ gtbl := tb_sel (q := (yX12_nextOther.1, 44)) (List.mem_of_getElem? (i := 68) (by decide +kernel))
abbrev yX12_layOther : Yx := (⟨"WithinWordsModel", "layOther", "(I)V"⟩, prog_14_method_72_code, 3, none, 2)
theorem ok_X12_layOther : Cond.initialized yX12_layOther.1.cls ∈ gtbl ∧ Cond.code yX12_layOther.1 yX12_layOther.2.1 yX12_layOther.2.2.1 yX12_layOther.2.2.2.1 ∈ gtbl ∧ (yX12_layOther.1.cls ≠ "java/lang/invoke/MethodHandle" ∧ yX12_layOther.1.cls ≠ "java/lang/invoke/VarHandle" ∧ (parseMethodDescriptor yX12_layOther.1.desc).map (fun d => d.parameters.length) = some 1) ∧ yX12_layOther.2.2.1 ≤ 45 := ⟨tb_1 13 rfl rfl, tb_6 139 rfl rfl, by decide +kernel, by decide⟩
theorem im_X12_layOther : Cond.instanceMethod yX12_layOther.1 ∈ gtbl := tb_6 138 rfl rfl
theorem se_X12_layOther : Cond.selects yX12_layOther.1.cls yX12_layOther.1 yX12_layOther.1 ∈ gtbl := tb_sel (q := (yX12_layOther.1, 44)) (List.mem_of_getElem? (i := 66) (by decide +kernel))
abbrev yX12_partsFrom : Yx := (⟨"WithinWordsModel", "partsFrom", "(I)I"⟩, prog_14_method_73_code, 10, some .int, 3)
theorem ok_X12_partsFrom : Cond.initialized yX12_partsFrom.1.cls ∈ gtbl ∧ Cond.code yX12_partsFrom.1 yX12_partsFrom.2.1 yX12_partsFrom.2.2.1 yX12_partsFrom.2.2.2.1 ∈ gtbl ∧ (yX12_partsFrom.1.cls ≠ "java/lang/invoke/MethodHandle" ∧ yX12_partsFrom.1.cls ≠ "java/lang/invoke/VarHandle" ∧ (parseMethodDescriptor yX12_partsFrom.1.desc).map (fun d => d.parameters.length) = some 1) ∧ yX12_partsFrom.2.2.1 ≤ 45 := ⟨tb_1 13 rfl rfl, tb_6 143 rfl rfl, by decide +kernel, by decide⟩
theorem im_X12_partsFrom : Cond.instanceMethod yX12_partsFrom.1 ∈ gtbl := tb_6 142 rfl rfl
theorem se_X12_partsFrom : Cond.selects yX12_partsFrom.1.cls yX12_partsFrom.1 yX12_partsFrom.1 ∈ gtbl := tb_sel (q := (yX12_partsFrom.1, 44)) (List.mem_of_getElem? (i := 67) (by decide +kernel))
abbrev yX12_layPart : Yx := (⟨"WithinWordsModel", "layPart", "(II)I"⟩, prog_14_method_74_code, 6, some .int, 1)
theorem ok_X12_layPart : Cond.initialized yX12_layPart.1.cls ∈ gtbl ∧ Cond.code yX12_layPart.1 yX12_layPart.2.1 yX12_layPart.2.2.1 yX12_layPart.2.2.2.1 ∈ gtbl ∧ (yX12_layPart.1.cls ≠ "java/lang/invoke/MethodHandle" ∧ yX12_layPart.1.cls ≠ "java/lang/invoke/VarHandle" ∧ (parseMethodDescriptor yX12_layPart.1.desc).map (fun d => d.parameters.length) = some 2) ∧ yX12_layPart.2.2.1 ≤ 45 := ⟨tb_1 13 rfl rfl, tb_6 151 rfl rfl, by decide +kernel, by decide⟩
theorem im_X12_layPart : Cond.instanceMethod yX12_layPart.1 ∈ gtbl := tb_6 150 rfl rfl
theorem se_X12_layPart : Cond.selects yX12_layPart.1.cls yX12_layPart.1 yX12_layPart.1 ∈ gtbl := tb_sel (q := (yX12_layPart.1, 44)) (List.mem_of_getElem? (i := 69) (by decide +kernel))
abbrev yX12_alike : Yx := (⟨"WithinWordsModel", "alike", "(III)I"⟩, prog_14_method_75_code, 6, some .int, 4)
theorem ok_X12_alike : Cond.initialized yX12_alike.1.cls ∈ gtbl ∧ Cond.code yX12_alike.1 yX12_alike.2.1 yX12_alike.2.2.1 yX12_alike.2.2.2.1 ∈ gtbl ∧ (yX12_alike.1.cls ≠ "java/lang/invoke/MethodHandle" ∧ yX12_alike.1.cls ≠ "java/lang/invoke/VarHandle" ∧ (parseMethodDescriptor yX12_alike.1.desc).map (fun d => d.parameters.length) = some 3) ∧ yX12_alike.2.2.1 ≤ 45 := ⟨tb_1 13 rfl rfl, tb_6 135 rfl rfl, by decide +kernel, by decide⟩
theorem im_X12_alike : Cond.instanceMethod yX12_alike.1 ∈ gtbl := tb_6 133 rfl rfl
theorem se_X12_alike : Cond.selects yX12_alike.1.cls yX12_alike.1 yX12_alike.1 ∈ gtbl := tb_6 134 rfl rfl
abbrev yX12_parting : Yx := (⟨"WithinWordsModel", "parting", "(III)I"⟩, prog_14_method_76_code, 6, some .int, 4)
theorem ok_X12_parting : Cond.initialized yX12_parting.1.cls ∈ gtbl ∧ Cond.code yX12_parting.1 yX12_parting.2.1 yX12_parting.2.2.1 yX12_parting.2.2.2.1 ∈ gtbl ∧ (yX12_parting.1.cls ≠ "java/lang/invoke/MethodHandle" ∧ yX12_parting.1.cls ≠ "java/lang/invoke/VarHandle" ∧ (parseMethodDescriptor yX12_parting.1.desc).map (fun d => d.parameters.length) = some 3) ∧ yX12_parting.2.2.1 ≤ 45 := ⟨tb_1 13 rfl rfl, tb_6 155 rfl rfl, by decide +kernel, by decide⟩
theorem im_X12_parting : Cond.instanceMethod yX12_parting.1 ∈ gtbl := tb_6 153 rfl rfl
theorem se_X12_parting : Cond.selects yX12_parting.1.cls yX12_parting.1 yX12_parting.1 ∈ gtbl := tb_6 154 rfl rfl
abbrev yX12_drop : Yx := (⟨"WithinWordsModel", "drop", "(III)I"⟩, prog_14_method_77_code, 8, some .int, 4)
theorem ok_X12_drop : Cond.initialized yX12_drop.1.cls ∈ gtbl ∧ Cond.code yX12_drop.1 yX12_drop.2.1 yX12_drop.2.2.1 yX12_drop.2.2.2.1 ∈ gtbl ∧ (yX12_drop.1.cls ≠ "java/lang/invoke/MethodHandle" ∧ yX12_drop.1.cls ≠ "java/lang/invoke/VarHandle" ∧ (parseMethodDescriptor yX12_drop.1.desc).map (fun d => d.parameters.length) = some 3) ∧ yX12_drop.2.2.1 ≤ 45 := ⟨tb_1 13 rfl rfl, tb_6 159 rfl rfl, by decide +kernel, by decide⟩
theorem im_X12_drop : Cond.instanceMethod yX12_drop.1 ∈ gtbl := tb_6 157 rfl rfl
theorem se_X12_drop : Cond.selects yX12_drop.1.cls yX12_drop.1 yX12_drop.1 ∈ gtbl := tb_6 158 rfl rfl
abbrev yX12_dropOther : Yx := (⟨"WithinWordsModel", "dropOther", "(I)V"⟩, prog_14_method_78_code, 3, none, 1)
theorem ok_X12_dropOther : Cond.initialized yX12_dropOther.1.cls ∈ gtbl ∧ Cond.code yX12_dropOther.1 yX12_dropOther.2.1 yX12_dropOther.2.2.1 yX12_dropOther.2.2.2.1 ∈ gtbl ∧ (yX12_dropOther.1.cls ≠ "java/lang/invoke/MethodHandle" ∧ yX12_dropOther.1.cls ≠ "java/lang/invoke/VarHandle" ∧ (parseMethodDescriptor yX12_dropOther.1.desc).map (fun d => d.parameters.length) = some 1) ∧ yX12_dropOther.2.2.1 ≤ 45 := ⟨tb_1 13 rfl rfl, tb_6 163 rfl rfl, by decide +kernel, by decide⟩
theorem im_X12_dropOther : Cond.instanceMethod yX12_dropOther.1 ∈ gtbl := tb_6 162 rfl rfl
theorem se_X12_dropOther : Cond.selects yX12_dropOther.1.cls yX12_dropOther.1 yX12_dropOther.1 ∈ gtbl := tb_sel (q := (yX12_dropOther.1, 44)) (List.mem_of_getElem? (i := 70) (by decide +kernel))
abbrev yX12_backOther : Yx := (⟨"WithinWordsModel", "backOther", "(II)V"⟩, prog_14_method_79_code, 4, none, 1)
theorem ok_X12_backOther : Cond.initialized yX12_backOther.1.cls ∈ gtbl ∧ Cond.code yX12_backOther.1 yX12_backOther.2.1 yX12_backOther.2.2.1 yX12_backOther.2.2.2.1 ∈ gtbl ∧ (yX12_backOther.1.cls ≠ "java/lang/invoke/MethodHandle" ∧ yX12_backOther.1.cls ≠ "java/lang/invoke/VarHandle" ∧ (parseMethodDescriptor yX12_backOther.1.desc).map (fun d => d.parameters.length) = some 2) ∧ yX12_backOther.2.2.1 ≤ 45 := ⟨tb_1 13 rfl rfl, tb_6 167 rfl rfl, by decide +kernel, by decide⟩
theorem im_X12_backOther : Cond.instanceMethod yX12_backOther.1 ∈ gtbl := tb_6 166 rfl rfl
theorem se_X12_backOther : Cond.selects yX12_backOther.1.cls yX12_backOther.1 yX12_backOther.1 ∈ gtbl := tb_sel (q := (yX12_backOther.1, 44)) (List.mem_of_getElem? (i := 71) (by decide +kernel))
abbrev yX12_bits : Yx := (⟨"WithinWordsModel", "bits", "(I)I"⟩, prog_14_method_80_code, 3, some .int, 1)
theorem ok_X12_bits : Cond.initialized yX12_bits.1.cls ∈ gtbl ∧ Cond.code yX12_bits.1 yX12_bits.2.1 yX12_bits.2.2.1 yX12_bits.2.2.2.1 ∈ gtbl ∧ (yX12_bits.1.cls ≠ "java/lang/invoke/MethodHandle" ∧ yX12_bits.1.cls ≠ "java/lang/invoke/VarHandle" ∧ (parseMethodDescriptor yX12_bits.1.desc).map (fun d => d.parameters.length) = some 1) ∧ yX12_bits.2.2.1 ≤ 45 := ⟨tb_1 13 rfl rfl, tb_6 178 rfl rfl, by decide +kernel, by decide⟩
theorem st_X12_bits : Cond.static yX12_bits.1 ∈ gtbl := tb_6 177 rfl rfl
abbrev yX12_needSeveral : Yx := (⟨"WithinWordsModel", "needSeveral", "(II)I"⟩, prog_14_method_81_code, 6, some .int, 3)
theorem ok_X12_needSeveral : Cond.initialized yX12_needSeveral.1.cls ∈ gtbl ∧ Cond.code yX12_needSeveral.1 yX12_needSeveral.2.1 yX12_needSeveral.2.2.1 yX12_needSeveral.2.2.2.1 ∈ gtbl ∧ (yX12_needSeveral.1.cls ≠ "java/lang/invoke/MethodHandle" ∧ yX12_needSeveral.1.cls ≠ "java/lang/invoke/VarHandle" ∧ (parseMethodDescriptor yX12_needSeveral.1.desc).map (fun d => d.parameters.length) = some 2) ∧ yX12_needSeveral.2.2.1 ≤ 45 := ⟨tb_1 13 rfl rfl, tb_6 175 rfl rfl, by decide +kernel, by decide⟩
theorem im_X12_needSeveral : Cond.instanceMethod yX12_needSeveral.1 ∈ gtbl := tb_6 174 rfl rfl
theorem se_X12_needSeveral : Cond.selects yX12_needSeveral.1.cls yX12_needSeveral.1 yX12_needSeveral.1 ∈ gtbl := tb_sel (q := (yX12_needSeveral.1, 44)) (List.mem_of_getElem? (i := 72) (by decide +kernel))
abbrev yX12_code : Yx := (⟨"WithinWordsModel", "code", "()I"⟩, prog_14_method_82_code, 3, some .int, 1)
theorem ok_X12_code : Cond.initialized yX12_code.1.cls ∈ gtbl ∧ Cond.code yX12_code.1 yX12_code.2.1 yX12_code.2.2.1 yX12_code.2.2.2.1 ∈ gtbl ∧ (yX12_code.1.cls ≠ "java/lang/invoke/MethodHandle" ∧ yX12_code.1.cls ≠ "java/lang/invoke/VarHandle" ∧ (parseMethodDescriptor yX12_code.1.desc).map (fun d => d.parameters.length) = some 0) ∧ yX12_code.2.2.1 ≤ 45 := ⟨tb_1 13 rfl rfl, tb_6 194 rfl rfl, by decide +kernel, by decide⟩
theorem im_X12_code : Cond.instanceMethod yX12_code.1 ∈ gtbl := tb_6 193 rfl rfl
theorem se_X12_code : Cond.selects yX12_code.1.cls yX12_code.1 yX12_code.1 ∈ gtbl := tb_sel (q := (yX12_code.1, 44)) (List.mem_of_getElem? (i := 76) (by decide +kernel))
abbrev yX12_allCodes : Yx := (⟨"WithinWordsModel", "allCodes", "()I"⟩, prog_14_method_83_code, 3, some .int, 1)
theorem ok_X12_allCodes : Cond.initialized yX12_allCodes.1.cls ∈ gtbl ∧ Cond.code yX12_allCodes.1 yX12_allCodes.2.1 yX12_allCodes.2.2.1 yX12_allCodes.2.2.2.1 ∈ gtbl ∧ (yX12_allCodes.1.cls ≠ "java/lang/invoke/MethodHandle" ∧ yX12_allCodes.1.cls ≠ "java/lang/invoke/VarHandle" ∧ (parseMethodDescriptor yX12_allCodes.1.desc).map (fun d => d.parameters.length) = some 0) ∧ yX12_allCodes.2.2.1 ≤ 45 := ⟨tb_1 13 rfl rfl, tb_6 182 rfl rfl, by decide +kernel, by decide⟩
theorem im_X12_allCodes : Cond.instanceMethod yX12_allCodes.1 ∈ gtbl := tb_6 181 rfl rfl
theorem se_X12_allCodes : Cond.selects yX12_allCodes.1.cls yX12_allCodes.1 yX12_allCodes.1 ∈ gtbl := tb_sel (q := (yX12_allCodes.1, 44)) (List.mem_of_getElem? (i := 73) (by decide +kernel))
abbrev yX12_layAt : Yx := (⟨"WithinWordsModel", "layAt", "(I)V"⟩, prog_14_method_84_code, 4, none, 1)
theorem ok_X12_layAt : Cond.initialized yX12_layAt.1.cls ∈ gtbl ∧ Cond.code yX12_layAt.1 yX12_layAt.2.1 yX12_layAt.2.2.1 yX12_layAt.2.2.2.1 ∈ gtbl ∧ (yX12_layAt.1.cls ≠ "java/lang/invoke/MethodHandle" ∧ yX12_layAt.1.cls ≠ "java/lang/invoke/VarHandle" ∧ (parseMethodDescriptor yX12_layAt.1.desc).map (fun d => d.parameters.length) = some 1) ∧ yX12_layAt.2.2.1 ≤ 45 := ⟨tb_1 13 rfl rfl, tb_6 190 rfl rfl, by decide +kernel, by decide⟩
theorem im_X12_layAt : Cond.instanceMethod yX12_layAt.1 ∈ gtbl := tb_6 189 rfl rfl
theorem se_X12_layAt : Cond.selects yX12_layAt.1.cls yX12_layAt.1 yX12_layAt.1 ∈ gtbl := tb_sel (q := (yX12_layAt.1, 44)) (List.mem_of_getElem? (i := 75) (by decide +kernel))
abbrev yX12_behindNext : Yx := (⟨"WithinWordsModel", "behindNext", "(II)I"⟩, prog_14_method_85_code, 6, some .int, 3)
theorem ok_X12_behindNext : Cond.initialized yX12_behindNext.1.cls ∈ gtbl ∧ Cond.code yX12_behindNext.1 yX12_behindNext.2.1 yX12_behindNext.2.2.1 yX12_behindNext.2.2.2.1 ∈ gtbl ∧ (yX12_behindNext.1.cls ≠ "java/lang/invoke/MethodHandle" ∧ yX12_behindNext.1.cls ≠ "java/lang/invoke/VarHandle" ∧ (parseMethodDescriptor yX12_behindNext.1.desc).map (fun d => d.parameters.length) = some 2) ∧ yX12_behindNext.2.2.1 ≤ 45 := ⟨tb_1 13 rfl rfl, tb_6 186 rfl rfl, by decide +kernel, by decide⟩
theorem im_X12_behindNext : Cond.instanceMethod yX12_behindNext.1 ∈ gtbl := tb_6 185 rfl rfl
theorem se_X12_behindNext : Cond.selects yX12_behindNext.1.cls yX12_behindNext.1 yX12_behindNext.1 ∈ gtbl := tb_sel (q := (yX12_behindNext.1, 44)) (List.mem_of_getElem? (i := 74) (by decide +kernel))
abbrev yX12_behindHere : Yx := (⟨"WithinWordsModel", "behindHere", "(II)I"⟩, prog_14_method_86_code, 6, some .int, 2)
theorem ok_X12_behindHere : Cond.initialized yX12_behindHere.1.cls ∈ gtbl ∧ Cond.code yX12_behindHere.1 yX12_behindHere.2.1 yX12_behindHere.2.2.1 yX12_behindHere.2.2.2.1 ∈ gtbl ∧ (yX12_behindHere.1.cls ≠ "java/lang/invoke/MethodHandle" ∧ yX12_behindHere.1.cls ≠ "java/lang/invoke/VarHandle" ∧ (parseMethodDescriptor yX12_behindHere.1.desc).map (fun d => d.parameters.length) = some 2) ∧ yX12_behindHere.2.2.1 ≤ 45 := ⟨tb_1 13 rfl rfl, tb_6 202 rfl rfl, by decide +kernel, by decide⟩
theorem im_X12_behindHere : Cond.instanceMethod yX12_behindHere.1 ∈ gtbl := tb_6 201 rfl rfl
theorem se_X12_behindHere : Cond.selects yX12_behindHere.1.cls yX12_behindHere.1 yX12_behindHere.1 ∈ gtbl := tb_sel (q := (yX12_behindHere.1, 44)) (List.mem_of_getElem? (i := 77) (by decide +kernel))
abbrev yX12_common : Yx := (⟨"WithinWordsModel", "common", "(II)I"⟩, prog_14_method_87_code, 8, some .int, 4)
theorem ok_X12_common : Cond.initialized yX12_common.1.cls ∈ gtbl ∧ Cond.code yX12_common.1 yX12_common.2.1 yX12_common.2.2.1 yX12_common.2.2.2.1 ∈ gtbl ∧ (yX12_common.1.cls ≠ "java/lang/invoke/MethodHandle" ∧ yX12_common.1.cls ≠ "java/lang/invoke/VarHandle" ∧ (parseMethodDescriptor yX12_common.1.desc).map (fun d => d.parameters.length) = some 2) ∧ yX12_common.2.2.1 ≤ 45 := ⟨tb_1 13 rfl rfl, tb_6 171 rfl rfl, by decide +kernel, by decide⟩
theorem im_X12_common : Cond.instanceMethod yX12_common.1 ∈ gtbl := tb_6 169 rfl rfl
theorem se_X12_common : Cond.selects yX12_common.1.cls yX12_common.1 yX12_common.1 ∈ gtbl := tb_6 170 rfl rfl
abbrev yX12_cover : Yx := (⟨"WithinWordsModel", "cover", "(II)I"⟩, prog_14_method_88_code, 10, some .int, 4)
theorem ok_X12_cover : Cond.initialized yX12_cover.1.cls ∈ gtbl ∧ Cond.code yX12_cover.1 yX12_cover.2.1 yX12_cover.2.2.1 yX12_cover.2.2.2.1 ∈ gtbl ∧ (yX12_cover.1.cls ≠ "java/lang/invoke/MethodHandle" ∧ yX12_cover.1.cls ≠ "java/lang/invoke/VarHandle" ∧ (parseMethodDescriptor yX12_cover.1.desc).map (fun d => d.parameters.length) = some 2) ∧ yX12_cover.2.2.1 ≤ 45 := ⟨tb_1 13 rfl rfl, tb_6 198 rfl rfl, by decide +kernel, by decide⟩
theorem im_X12_cover : Cond.instanceMethod yX12_cover.1 ∈ gtbl := tb_6 196 rfl rfl
theorem se_X12_cover : Cond.selects yX12_cover.1.cls yX12_cover.1 yX12_cover.1 ∈ gtbl := tb_6 197 rfl rfl
abbrev yX12_both : Yx := (⟨"WithinWordsModel", "both", "(II)I"⟩, prog_14_method_89_code, 9, some .int, 4)
theorem ok_X12_both : Cond.initialized yX12_both.1.cls ∈ gtbl ∧ Cond.code yX12_both.1 yX12_both.2.1 yX12_both.2.2.1 yX12_both.2.2.2.1 ∈ gtbl ∧ (yX12_both.1.cls ≠ "java/lang/invoke/MethodHandle" ∧ yX12_both.1.cls ≠ "java/lang/invoke/VarHandle" ∧ (parseMethodDescriptor yX12_both.1.desc).map (fun d => d.parameters.length) = some 2) ∧ yX12_both.2.2.1 ≤ 45 := ⟨tb_1 13 rfl rfl, tb_6 206 rfl rfl, by decide +kernel, by decide⟩
theorem im_X12_both : Cond.instanceMethod yX12_both.1 ∈ gtbl := tb_6 204 rfl rfl
theorem se_X12_both : Cond.selects yX12_both.1.cls yX12_both.1 yX12_both.1 ∈ gtbl := tb_6 205 rfl rfl
abbrev yX12_oftenIn : Yx := (⟨"WithinWordsModel", "oftenIn", "(III)J"⟩, prog_14_method_90_code, 7, some .long, 1)
theorem ok_X12_oftenIn : Cond.initialized yX12_oftenIn.1.cls ∈ gtbl ∧ Cond.code yX12_oftenIn.1 yX12_oftenIn.2.1 yX12_oftenIn.2.2.1 yX12_oftenIn.2.2.2.1 ∈ gtbl ∧ (yX12_oftenIn.1.cls ≠ "java/lang/invoke/MethodHandle" ∧ yX12_oftenIn.1.cls ≠ "java/lang/invoke/VarHandle" ∧ (parseMethodDescriptor yX12_oftenIn.1.desc).map (fun d => d.parameters.length) = some 3) ∧ yX12_oftenIn.2.2.1 ≤ 45 := ⟨tb_1 13 rfl rfl, tb_6 215 rfl rfl, by decide +kernel, by decide⟩
theorem im_X12_oftenIn : Cond.instanceMethod yX12_oftenIn.1 ∈ gtbl := tb_6 214 rfl rfl
theorem se_X12_oftenIn : Cond.selects yX12_oftenIn.1.cls yX12_oftenIn.1 yX12_oftenIn.1 ∈ gtbl := tb_sel (q := (yX12_oftenIn.1, 44)) (List.mem_of_getElem? (i := 78) (by decide +kernel))
abbrev yX12_isTwin : Yx := (⟨"WithinWordsModel", "isTwin", "(III)Z"⟩, prog_14_method_91_code, 6, some .boolean, 2)
theorem ok_X12_isTwin : Cond.initialized yX12_isTwin.1.cls ∈ gtbl ∧ Cond.code yX12_isTwin.1 yX12_isTwin.2.1 yX12_isTwin.2.2.1 yX12_isTwin.2.2.2.1 ∈ gtbl ∧ (yX12_isTwin.1.cls ≠ "java/lang/invoke/MethodHandle" ∧ yX12_isTwin.1.cls ≠ "java/lang/invoke/VarHandle" ∧ (parseMethodDescriptor yX12_isTwin.1.desc).map (fun d => d.parameters.length) = some 3) ∧ yX12_isTwin.2.2.1 ≤ 45 := ⟨tb_1 13 rfl rfl, tb_6 223 rfl rfl, by decide +kernel, by decide⟩
theorem im_X12_isTwin : Cond.instanceMethod yX12_isTwin.1 ∈ gtbl := tb_6 222 rfl rfl
theorem se_X12_isTwin : Cond.selects yX12_isTwin.1.cls yX12_isTwin.1 yX12_isTwin.1 ∈ gtbl := tb_sel (q := (yX12_isTwin.1, 44)) (List.mem_of_getElem? (i := 80) (by decide +kernel))
abbrev yX12_layOtherBy : Yx := (⟨"WithinWordsModel", "layOtherBy", "(II)V"⟩, prog_14_method_92_code, 5, none, 1)
theorem ok_X12_layOtherBy : Cond.initialized yX12_layOtherBy.1.cls ∈ gtbl ∧ Cond.code yX12_layOtherBy.1 yX12_layOtherBy.2.1 yX12_layOtherBy.2.2.1 yX12_layOtherBy.2.2.2.1 ∈ gtbl ∧ (yX12_layOtherBy.1.cls ≠ "java/lang/invoke/MethodHandle" ∧ yX12_layOtherBy.1.cls ≠ "java/lang/invoke/VarHandle" ∧ (parseMethodDescriptor yX12_layOtherBy.1.desc).map (fun d => d.parameters.length) = some 2) ∧ yX12_layOtherBy.2.2.1 ≤ 45 := ⟨tb_1 13 rfl rfl, tb_6 219 rfl rfl, by decide +kernel, by decide⟩
theorem im_X12_layOtherBy : Cond.instanceMethod yX12_layOtherBy.1 ∈ gtbl := tb_6 218 rfl rfl
theorem se_X12_layOtherBy : Cond.selects yX12_layOtherBy.1.cls yX12_layOtherBy.1 yX12_layOtherBy.1 ∈ gtbl := tb_sel (q := (yX12_layOtherBy.1, 44)) (List.mem_of_getElem? (i := 79) (by decide +kernel))
abbrev yX12_twins : Yx := (⟨"WithinWordsModel", "twins", "(III)I"⟩, prog_14_method_93_code, 12, some .int, 4)
theorem ok_X12_twins : Cond.initialized yX12_twins.1.cls ∈ gtbl ∧ Cond.code yX12_twins.1 yX12_twins.2.1 yX12_twins.2.2.1 yX12_twins.2.2.2.1 ∈ gtbl ∧ (yX12_twins.1.cls ≠ "java/lang/invoke/MethodHandle" ∧ yX12_twins.1.cls ≠ "java/lang/invoke/VarHandle" ∧ (parseMethodDescriptor yX12_twins.1.desc).map (fun d => d.parameters.length) = some 3) ∧ yX12_twins.2.2.1 ≤ 45 := ⟨tb_1 13 rfl rfl, tb_6 210 rfl rfl, by decide +kernel, by decide⟩
theorem im_X12_twins : Cond.instanceMethod yX12_twins.1 ∈ gtbl := tb_6 208 rfl rfl
theorem se_X12_twins : Cond.selects yX12_twins.1.cls yX12_twins.1 yX12_twins.1 ∈ gtbl := tb_6 209 rfl rfl
abbrev yX12_chosen : Yx := (⟨"WithinWordsModel", "chosen", "(II)J"⟩, prog_14_method_94_code, 5, some .long, 1)
theorem ok_X12_chosen : Cond.initialized yX12_chosen.1.cls ∈ gtbl ∧ Cond.code yX12_chosen.1 yX12_chosen.2.1 yX12_chosen.2.2.1 yX12_chosen.2.2.2.1 ∈ gtbl ∧ (yX12_chosen.1.cls ≠ "java/lang/invoke/MethodHandle" ∧ yX12_chosen.1.cls ≠ "java/lang/invoke/VarHandle" ∧ (parseMethodDescriptor yX12_chosen.1.desc).map (fun d => d.parameters.length) = some 2) ∧ yX12_chosen.2.2.1 ≤ 45 := ⟨tb_1 13 rfl rfl, tb_6 230 rfl rfl, by decide +kernel, by decide⟩
theorem st_X12_chosen : Cond.static yX12_chosen.1 ∈ gtbl := tb_6 229 rfl rfl
abbrev yX12_odds : Yx := (⟨"WithinWordsModel", "odds", "(II)I"⟩, prog_14_method_95_code, 6, some .int, 4)
theorem ok_X12_odds : Cond.initialized yX12_odds.1.cls ∈ gtbl ∧ Cond.code yX12_odds.1 yX12_odds.2.1 yX12_odds.2.2.1 yX12_odds.2.2.2.1 ∈ gtbl ∧ (yX12_odds.1.cls ≠ "java/lang/invoke/MethodHandle" ∧ yX12_odds.1.cls ≠ "java/lang/invoke/VarHandle" ∧ (parseMethodDescriptor yX12_odds.1.desc).map (fun d => d.parameters.length) = some 2) ∧ yX12_odds.2.2.1 ≤ 45 := ⟨tb_1 13 rfl rfl, tb_6 227 rfl rfl, by decide +kernel, by decide⟩
theorem im_X12_odds : Cond.instanceMethod yX12_odds.1 ∈ gtbl := tb_6 225 rfl rfl
theorem se_X12_odds : Cond.selects yX12_odds.1.cls yX12_odds.1 yX12_odds.1 ∈ gtbl := tb_6 226 rfl rfl
abbrev yX12_byChance : Yx := (⟨"WithinWordsModel", "byChance", "(II)I"⟩, prog_14_method_96_code, 7, some .int, 4)
theorem ok_X12_byChance : Cond.initialized yX12_byChance.1.cls ∈ gtbl ∧ Cond.code yX12_byChance.1 yX12_byChance.2.1 yX12_byChance.2.2.1 yX12_byChance.2.2.2.1 ∈ gtbl ∧ (yX12_byChance.1.cls ≠ "java/lang/invoke/MethodHandle" ∧ yX12_byChance.1.cls ≠ "java/lang/invoke/VarHandle" ∧ (parseMethodDescriptor yX12_byChance.1.desc).map (fun d => d.parameters.length) = some 2) ∧ yX12_byChance.2.2.1 ≤ 45 := ⟨tb_1 13 rfl rfl, tb_6 238 rfl rfl, by decide +kernel, by decide⟩
theorem im_X12_byChance : Cond.instanceMethod yX12_byChance.1 ∈ gtbl := tb_6 236 rfl rfl
theorem se_X12_byChance : Cond.selects yX12_byChance.1.cls yX12_byChance.1 yX12_byChance.1 ∈ gtbl := tb_6 237 rfl rfl
abbrev yX12_counted : Yx := (⟨"WithinWordsModel", "counted", "(I)I"⟩, prog_14_method_97_code, 5, some .int, 2)
theorem ok_X12_counted : Cond.initialized yX12_counted.1.cls ∈ gtbl ∧ Cond.code yX12_counted.1 yX12_counted.2.1 yX12_counted.2.2.1 yX12_counted.2.2.2.1 ∈ gtbl ∧ (yX12_counted.1.cls ≠ "java/lang/invoke/MethodHandle" ∧ yX12_counted.1.cls ≠ "java/lang/invoke/VarHandle" ∧ (parseMethodDescriptor yX12_counted.1.desc).map (fun d => d.parameters.length) = some 1) ∧ yX12_counted.2.2.1 ≤ 45 := ⟨tb_1 13 rfl rfl, tb_7 6 rfl rfl, by decide +kernel, by decide⟩
theorem im_X12_counted : Cond.instanceMethod yX12_counted.1 ∈ gtbl := tb_7 5 rfl rfl
theorem se_X12_counted : Cond.selects yX12_counted.1.cls yX12_counted.1 yX12_counted.1 ∈ gtbl := tb_sel (q := (yX12_counted.1, 44)) (List.mem_of_getElem? (i := 82) (by decide +kernel))
abbrev yX12_count : Yx := (⟨"WithinWordsModel", "count", "(I)I"⟩, prog_14_method_98_code, 2, some .int, 3)
theorem ok_X12_count : Cond.initialized yX12_count.1.cls ∈ gtbl ∧ Cond.code yX12_count.1 yX12_count.2.1 yX12_count.2.2.1 yX12_count.2.2.2.1 ∈ gtbl ∧ (yX12_count.1.cls ≠ "java/lang/invoke/MethodHandle" ∧ yX12_count.1.cls ≠ "java/lang/invoke/VarHandle" ∧ (parseMethodDescriptor yX12_count.1.desc).map (fun d => d.parameters.length) = some 1) ∧ yX12_count.2.2.1 ≤ 45 := ⟨tb_1 13 rfl rfl, tb_7 2 rfl rfl, by decide +kernel, by decide⟩
theorem im_X12_count : Cond.instanceMethod yX12_count.1 ∈ gtbl := tb_7 0 rfl rfl
theorem se_X12_count : Cond.selects yX12_count.1.cls yX12_count.1 yX12_count.1 ∈ gtbl := tb_7 1 rfl rfl
abbrev yX12_mix : Yx := (⟨"WithinWordsModel", "mix", "(J)V"⟩, prog_14_method_99_code, 3, none, 1)
theorem ok_X12_mix : Cond.initialized yX12_mix.1.cls ∈ gtbl ∧ Cond.code yX12_mix.1 yX12_mix.2.1 yX12_mix.2.2.1 yX12_mix.2.2.2.1 ∈ gtbl ∧ (yX12_mix.1.cls ≠ "java/lang/invoke/MethodHandle" ∧ yX12_mix.1.cls ≠ "java/lang/invoke/VarHandle" ∧ (parseMethodDescriptor yX12_mix.1.desc).map (fun d => d.parameters.length) = some 1) ∧ yX12_mix.2.2.1 ≤ 45 := ⟨tb_1 13 rfl rfl, tb_7 15 rfl rfl, by decide +kernel, by decide⟩
theorem im_X12_mix : Cond.instanceMethod yX12_mix.1 ∈ gtbl := tb_7 14 rfl rfl
theorem se_X12_mix : Cond.selects yX12_mix.1.cls yX12_mix.1 yX12_mix.1 ∈ gtbl := tb_sel (q := (yX12_mix.1, 44)) (List.mem_of_getElem? (i := 83) (by decide +kernel))
abbrev yX12_mixWord : Yx := (⟨"WithinWordsModel", "mixWord", "(I)V"⟩, prog_14_method_100_code, 3, none, 2)
theorem ok_X12_mixWord : Cond.initialized yX12_mixWord.1.cls ∈ gtbl ∧ Cond.code yX12_mixWord.1 yX12_mixWord.2.1 yX12_mixWord.2.2.1 yX12_mixWord.2.2.2.1 ∈ gtbl ∧ (yX12_mixWord.1.cls ≠ "java/lang/invoke/MethodHandle" ∧ yX12_mixWord.1.cls ≠ "java/lang/invoke/VarHandle" ∧ (parseMethodDescriptor yX12_mixWord.1.desc).map (fun d => d.parameters.length) = some 1) ∧ yX12_mixWord.2.2.1 ≤ 45 := ⟨tb_1 13 rfl rfl, tb_7 20 rfl rfl, by decide +kernel, by decide⟩
theorem im_X12_mixWord : Cond.instanceMethod yX12_mixWord.1 ∈ gtbl := tb_7 19 rfl rfl
theorem se_X12_mixWord : Cond.selects yX12_mixWord.1.cls yX12_mixWord.1 yX12_mixWord.1 ∈ gtbl := tb_sel (q := (yX12_mixWord.1, 44)) (List.mem_of_getElem? (i := 84) (by decide +kernel))
abbrev yX12_digest : Yx := (⟨"WithinWordsModel", "digest", "()J"⟩, prog_14_method_101_code, 3, some .long, 3)
theorem ok_X12_digest : Cond.initialized yX12_digest.1.cls ∈ gtbl ∧ Cond.code yX12_digest.1 yX12_digest.2.1 yX12_digest.2.2.1 yX12_digest.2.2.2.1 ∈ gtbl ∧ (yX12_digest.1.cls ≠ "java/lang/invoke/MethodHandle" ∧ yX12_digest.1.cls ≠ "java/lang/invoke/VarHandle" ∧ (parseMethodDescriptor yX12_digest.1.desc).map (fun d => d.parameters.length) = some 0) ∧ yX12_digest.2.2.1 ≤ 45 := ⟨tb_1 13 rfl rfl, tb_7 10 rfl rfl, by decide +kernel, by decide⟩
theorem im_X12_digest : Cond.instanceMethod yX12_digest.1 ∈ gtbl := tb_7 8 rfl rfl
theorem se_X12_digest : Cond.selects yX12_digest.1.cls yX12_digest.1 yX12_digest.1 ∈ gtbl := tb_7 9 rfl rfl
abbrev yJ6_bitCount_0f7a4 : Yx := (⟨"java/lang/Integer", "bitCount", "(I)I"⟩, prog_15_method_49_code, 1, some .int, 1)
theorem ok_J6_bitCount_0f7a4 : Cond.initialized yJ6_bitCount_0f7a4.1.cls ∈ gtbl ∧ Cond.code yJ6_bitCount_0f7a4.1 yJ6_bitCount_0f7a4.2.1 yJ6_bitCount_0f7a4.2.2.1 yJ6_bitCount_0f7a4.2.2.2.1 ∈ gtbl ∧ (yJ6_bitCount_0f7a4.1.cls ≠ "java/lang/invoke/MethodHandle" ∧ yJ6_bitCount_0f7a4.1.cls ≠ "java/lang/invoke/VarHandle" ∧ (parseMethodDescriptor yJ6_bitCount_0f7a4.1.desc).map (fun d => d.parameters.length) = some 1) ∧ yJ6_bitCount_0f7a4.2.2.1 ≤ 45 := ⟨tb_1 17 rfl rfl, tb_3 178 rfl rfl, by decide +kernel, by decide⟩
theorem st_J6_bitCount_0f7a4 : Cond.static yJ6_bitCount_0f7a4.1 ∈ gtbl := tb_3 177 rfl rfl
abbrev yJ13_bitCount_95d88 : Yx := (⟨"java/lang/Long", "bitCount", "(J)I"⟩, prog_16_method_50_code, 2, some .int, 1)
theorem ok_J13_bitCount_95d88 : Cond.initialized yJ13_bitCount_95d88.1.cls ∈ gtbl ∧ Cond.code yJ13_bitCount_95d88.1 yJ13_bitCount_95d88.2.1 yJ13_bitCount_95d88.2.2.1 yJ13_bitCount_95d88.2.2.2.1 ∈ gtbl ∧ (yJ13_bitCount_95d88.1.cls ≠ "java/lang/invoke/MethodHandle" ∧ yJ13_bitCount_95d88.1.cls ≠ "java/lang/invoke/VarHandle" ∧ (parseMethodDescriptor yJ13_bitCount_95d88.1.desc).map (fun d => d.parameters.length) = some 1) ∧ yJ13_bitCount_95d88.2.2.1 ≤ 45 := ⟨tb_1 16 rfl rfl, tb_3 97 rfl rfl, by decide +kernel, by decide⟩
theorem st_J13_bitCount_95d88 : Cond.static yJ13_bitCount_95d88.1 ∈ gtbl := tb_3 96 rfl rfl
abbrev yJ9_max_7cf53 : Yx := (⟨"java/lang/Math", "max", "(II)I"⟩, prog_17_method_65_code, 2, some .int, 1)
theorem ok_J9_max_7cf53 : Cond.initialized yJ9_max_7cf53.1.cls ∈ gtbl ∧ Cond.code yJ9_max_7cf53.1 yJ9_max_7cf53.2.1 yJ9_max_7cf53.2.2.1 yJ9_max_7cf53.2.2.2.1 ∈ gtbl ∧ (yJ9_max_7cf53.1.cls ≠ "java/lang/invoke/MethodHandle" ∧ yJ9_max_7cf53.1.cls ≠ "java/lang/invoke/VarHandle" ∧ (parseMethodDescriptor yJ9_max_7cf53.1.desc).map (fun d => d.parameters.length) = some 2) ∧ yJ9_max_7cf53.2.2.1 ≤ 45 := ⟨tb_1 15 rfl rfl, tb_4 33 rfl rfl, by decide +kernel, by decide⟩
theorem st_J9_max_7cf53 : Cond.static yJ9_max_7cf53.1 ∈ gtbl := tb_4 32 rfl rfl
abbrev yJ9_min_7cf53 : Yx := (⟨"java/lang/Math", "min", "(II)I"⟩, prog_17_method_69_code, 2, some .int, 1)
theorem ok_J9_min_7cf53 : Cond.initialized yJ9_min_7cf53.1.cls ∈ gtbl ∧ Cond.code yJ9_min_7cf53.1 yJ9_min_7cf53.2.1 yJ9_min_7cf53.2.2.1 yJ9_min_7cf53.2.2.2.1 ∈ gtbl ∧ (yJ9_min_7cf53.1.cls ≠ "java/lang/invoke/MethodHandle" ∧ yJ9_min_7cf53.1.cls ≠ "java/lang/invoke/VarHandle" ∧ (parseMethodDescriptor yJ9_min_7cf53.1.desc).map (fun d => d.parameters.length) = some 2) ∧ yJ9_min_7cf53.2.2.1 ≤ 45 := ⟨tb_1 15 rfl rfl, tb_3 33 rfl rfl, by decide +kernel, by decide⟩
theorem st_J9_min_7cf53 : Cond.static yJ9_min_7cf53.1 ∈ gtbl := tb_3 32 rfl rfl
abbrev yL_law : Yx := (x, code, 4, ret, 49)
theorem fl_X11_11 {y : Yx} (h : y.1.cls = "WithinWords") : FLk y 11 11 0 := ⟨by decide, by decide, by rw [h]; exact tb_2 46 rfl rfl⟩
theorem fl_X11_15 {y : Yx} (h : y.1.cls = "WithinWords") : FLk y 15 11 1 := ⟨by decide, by decide, by rw [h]; exact tb_2 47 rfl rfl⟩
theorem fl_X11_20 {y : Yx} (h : y.1.cls = "WithinWords") : FLk y 20 11 2 := ⟨by decide, by decide, by rw [h]; exact tb_2 48 rfl rfl⟩
theorem fl_X11_24 {y : Yx} (h : y.1.cls = "WithinWords") : FLk y 24 11 3 := ⟨by decide, by decide, by rw [h]; exact tb_2 49 rfl rfl⟩
theorem fl_X11_28 {y : Yx} (h : y.1.cls = "WithinWords") : FLk y 28 11 4 := ⟨by decide, by decide, by rw [h]; exact tb_2 50 rfl rfl⟩
theorem fl_X11_31 {y : Yx} (h : y.1.cls = "WithinWords") : FLk y 31 11 5 := ⟨by decide, by decide, by rw [h]; exact tb_2 51 rfl rfl⟩
theorem fl_X11_35 {y : Yx} (h : y.1.cls = "WithinWords") : FLk y 35 11 6 := ⟨by decide, by decide, by rw [h]; exact tb_2 52 rfl rfl⟩
theorem fl_X11_38 {y : Yx} (h : y.1.cls = "WithinWords") : FLk y 38 11 7 := ⟨by decide, by decide, by rw [h]; exact tb_2 53 rfl rfl⟩
theorem fl_X11_41 {y : Yx} (h : y.1.cls = "WithinWords") : FLk y 41 11 8 := ⟨by decide, by decide, by rw [h]; exact tb_2 54 rfl rfl⟩
theorem fl_X11_44 {y : Yx} (h : y.1.cls = "WithinWords") : FLk y 44 11 9 := ⟨by decide, by decide, by rw [h]; exact tb_2 55 rfl rfl⟩
theorem fl_X11_48 {y : Yx} (h : y.1.cls = "WithinWords") : FLk y 48 11 10 := ⟨by decide, by decide, by rw [h]; exact tb_2 56 rfl rfl⟩
theorem fl_X11_54 {y : Yx} (h : y.1.cls = "WithinWords") : FLk y 54 11 11 := ⟨by decide, by decide, by rw [h]; exact tb_2 57 rfl rfl⟩
theorem fl_X11_61 {y : Yx} (h : y.1.cls = "WithinWords") : FLk y 61 11 12 := ⟨by decide, by decide, by rw [h]; exact tb_2 58 rfl rfl⟩
theorem fl_X11_68 {y : Yx} (h : y.1.cls = "WithinWords") : FLk y 68 11 14 := ⟨by decide, by decide, by rw [h]; exact tb_2 60 rfl rfl⟩
theorem fl_X11_75 {y : Yx} (h : y.1.cls = "WithinWords") : FLk y 75 11 16 := ⟨by decide, by decide, by rw [h]; exact tb_2 62 rfl rfl⟩
theorem fl_X11_82 {y : Yx} (h : y.1.cls = "WithinWords") : FLk y 82 11 17 := ⟨by decide, by decide, by rw [h]; exact tb_2 63 rfl rfl⟩
theorem fl_X11_89 {y : Yx} (h : y.1.cls = "WithinWords") : FLk y 89 11 18 := ⟨by decide, by decide, by rw [h]; exact tb_2 64 rfl rfl⟩
theorem fl_X11_102 {y : Yx} (h : y.1.cls = "WithinWords") : FLk y 102 11 13 := ⟨by decide, by decide, by rw [h]; exact tb_2 59 rfl rfl⟩
theorem fl_X11_109 {y : Yx} (h : y.1.cls = "WithinWords") : FLk y 109 11 15 := ⟨by decide, by decide, by rw [h]; exact tb_2 61 rfl rfl⟩
theorem fl_X11_129 {y : Yx} (h : y.1.cls = "WithinWords") : FLk y 129 3 0 := ⟨by decide, by decide, by rw [h]; exact tb_1 210 rfl rfl⟩
theorem fl_X11_135 {y : Yx} (h : y.1.cls = "WithinWords") : FLk y 135 3 1 := ⟨by decide, by decide, by rw [h]; exact tb_1 222 rfl rfl⟩
theorem fl_X11_161 {y : Yx} (h : y.1.cls = "WithinWords") : FLk y 161 10 0 := ⟨by decide, by decide, by rw [h]; exact tb_1 236 rfl rfl⟩
theorem fl_X11_179 {y : Yx} (h : y.1.cls = "WithinWords") : FLk y 179 6 1 := ⟨by decide, by decide, by rw [h]; exact tb_1 39 rfl rfl⟩
theorem fl_X11_180 {y : Yx} (h : y.1.cls = "WithinWords") : FLk y 180 6 0 := ⟨by decide, by decide, by rw [h]; exact tb_1 37 rfl rfl⟩
theorem fl_X11_196 {y : Yx} (h : y.1.cls = "WithinWords") : FLk y 196 10 1 := ⟨by decide, by decide, by rw [h]; exact tb_1 238 rfl rfl⟩
theorem fl_X11_213 {y : Yx} (h : y.1.cls = "WithinWords") : FLk y 213 7 1 := ⟨by decide, by decide, by rw [h]; exact tb_1 64 rfl rfl⟩
theorem fl_X11_216 {y : Yx} (h : y.1.cls = "WithinWords") : FLk y 216 7 0 := ⟨by decide, by decide, by rw [h]; exact tb_1 62 rfl rfl⟩
theorem fl_X11_265 {y : Yx} (h : y.1.cls = "WithinWords") : FLk y 265 0 1 := ⟨by decide, by decide, by rw [h]; exact tb_1 96 rfl rfl⟩
theorem fl_X11_268 {y : Yx} (h : y.1.cls = "WithinWords") : FLk y 268 0 0 := ⟨by decide, by decide, by rw [h]; exact tb_1 94 rfl rfl⟩
theorem fl_X11_274 {y : Yx} (h : y.1.cls = "WithinWords") : FLk y 274 0 4 := ⟨by decide, by decide, by rw [h]; exact tb_1 101 rfl rfl⟩
theorem fl_X11_278 {y : Yx} (h : y.1.cls = "WithinWords") : FLk y 278 0 3 := ⟨by decide, by decide, by rw [h]; exact tb_1 99 rfl rfl⟩
theorem fl_X11_321 {y : Yx} (h : y.1.cls = "WithinWords") : FLk y 321 9 0 := ⟨by decide, by decide, by rw [h]; exact tb_1 165 rfl rfl⟩
theorem fl_X0_9 {y : Yx} (h : y.1.cls = "WithinWords$Arches") : FLk y 9 0 3 := ⟨by decide, by decide, by rw [h]; exact tb_1 98 rfl rfl⟩
theorem fl_X0_15 {y : Yx} (h : y.1.cls = "WithinWords$Arches") : FLk y 15 0 4 := ⟨by decide, by decide, by rw [h]; exact tb_1 100 rfl rfl⟩
theorem fl_X0_22 {y : Yx} (h : y.1.cls = "WithinWords$Arches") : FLk y 22 0 5 := ⟨by decide, by decide, by rw [h]; exact tb_1 102 rfl rfl⟩
theorem fl_X0_26 {y : Yx} (h : y.1.cls = "WithinWords$Arches") : FLk y 26 0 0 := ⟨by decide, by decide, by rw [h]; exact tb_1 93 rfl rfl⟩
theorem fl_X0_30 {y : Yx} (h : y.1.cls = "WithinWords$Arches") : FLk y 30 0 1 := ⟨by decide, by decide, by rw [h]; exact tb_1 95 rfl rfl⟩
theorem fl_X0_33 {y : Yx} (h : y.1.cls = "WithinWords$Arches") : FLk y 33 3 1 := ⟨by decide, by decide, by rw [h]; exact tb_1 220 rfl rfl⟩
theorem fl_X0_38 {y : Yx} (h : y.1.cls = "WithinWords$Arches") : FLk y 38 3 0 := ⟨by decide, by decide, by rw [h]; exact tb_1 203 rfl rfl⟩
theorem fl_X0_47 {y : Yx} (h : y.1.cls = "WithinWords$Arches") : FLk y 47 0 2 := ⟨by decide, by decide, by rw [h]; exact tb_1 97 rfl rfl⟩
theorem fl_X1_9 {y : Yx} (h : y.1.cls = "WithinWords$Dropping") : FLk y 9 1 0 := ⟨by decide, by decide, by rw [h]; exact tb_1 122 rfl rfl⟩
theorem fl_X1_15 {y : Yx} (h : y.1.cls = "WithinWords$Dropping") : FLk y 15 1 1 := ⟨by decide, by decide, by rw [h]; exact tb_1 123 rfl rfl⟩
theorem fl_X1_18 {y : Yx} (h : y.1.cls = "WithinWords$Dropping") : FLk y 18 3 1 := ⟨by decide, by decide, by rw [h]; exact tb_1 213 rfl rfl⟩
theorem fl_X1_28 {y : Yx} (h : y.1.cls = "WithinWords$Dropping") : FLk y 28 3 0 := ⟨by decide, by decide, by rw [h]; exact tb_1 206 rfl rfl⟩
theorem fl_X2_12 {y : Yx} (h : y.1.cls = "WithinWords$InnerWords") : FLk y 12 2 0 := ⟨by decide, by decide, by rw [h]; exact tb_2 18 rfl rfl⟩
theorem fl_X2_18 {y : Yx} (h : y.1.cls = "WithinWords$InnerWords") : FLk y 18 2 1 := ⟨by decide, by decide, by rw [h]; exact tb_2 19 rfl rfl⟩
theorem fl_X2_26 {y : Yx} (h : y.1.cls = "WithinWords$InnerWords") : FLk y 26 3 1 := ⟨by decide, by decide, by rw [h]; exact tb_1 216 rfl rfl⟩
theorem fl_X2_32 {y : Yx} (h : y.1.cls = "WithinWords$InnerWords") : FLk y 32 2 2 := ⟨by decide, by decide, by rw [h]; exact tb_2 20 rfl rfl⟩
theorem fl_X2_35 {y : Yx} (h : y.1.cls = "WithinWords$InnerWords") : FLk y 35 3 0 := ⟨by decide, by decide, by rw [h]; exact tb_1 208 rfl rfl⟩
theorem fl_X3_9 {y : Yx} (h : y.1.cls = "WithinWords$Line") : FLk y 9 3 1 := ⟨by decide, by decide, by rw [h]; exact tb_1 212 rfl rfl⟩
theorem fl_X3_15 {y : Yx} (h : y.1.cls = "WithinWords$Line") : FLk y 15 3 0 := ⟨by decide, by decide, by rw [h]; exact tb_1 201 rfl rfl⟩
theorem fl_X4_12 {y : Yx} (h : y.1.cls = "WithinWords$Pair") : FLk y 12 4 0 := ⟨by decide, by decide, by rw [h]; exact tb_2 36 rfl rfl⟩
theorem fl_X4_18 {y : Yx} (h : y.1.cls = "WithinWords$Pair") : FLk y 18 4 1 := ⟨by decide, by decide, by rw [h]; exact tb_2 37 rfl rfl⟩
theorem fl_X4_21 {y : Yx} (h : y.1.cls = "WithinWords$Pair") : FLk y 21 4 2 := ⟨by decide, by decide, by rw [h]; exact tb_2 38 rfl rfl⟩
theorem fl_X4_29 {y : Yx} (h : y.1.cls = "WithinWords$Pair") : FLk y 29 3 1 := ⟨by decide, by decide, by rw [h]; exact tb_1 218 rfl rfl⟩
theorem fl_X4_43 {y : Yx} (h : y.1.cls = "WithinWords$Pair") : FLk y 43 3 0 := ⟨by decide, by decide, by rw [h]; exact tb_1 209 rfl rfl⟩
theorem fl_X5_11 {y : Yx} (h : y.1.cls = "WithinWords$Several") : FLk y 11 5 0 := ⟨by decide, by decide, by rw [h]; exact tb_1 136 rfl rfl⟩
theorem fl_X5_17 {y : Yx} (h : y.1.cls = "WithinWords$Several") : FLk y 17 5 1 := ⟨by decide, by decide, by rw [h]; exact tb_1 137 rfl rfl⟩
theorem fl_X5_21 {y : Yx} (h : y.1.cls = "WithinWords$Several") : FLk y 21 5 2 := ⟨by decide, by decide, by rw [h]; exact tb_1 138 rfl rfl⟩
theorem fl_X5_24 {y : Yx} (h : y.1.cls = "WithinWords$Several") : FLk y 24 5 3 := ⟨by decide, by decide, by rw [h]; exact tb_1 139 rfl rfl⟩
theorem fl_X5_27 {y : Yx} (h : y.1.cls = "WithinWords$Several") : FLk y 27 5 5 := ⟨by decide, by decide, by rw [h]; exact tb_1 141 rfl rfl⟩
theorem fl_X5_31 {y : Yx} (h : y.1.cls = "WithinWords$Several") : FLk y 31 5 6 := ⟨by decide, by decide, by rw [h]; exact tb_1 142 rfl rfl⟩
theorem fl_X5_34 {y : Yx} (h : y.1.cls = "WithinWords$Several") : FLk y 34 3 1 := ⟨by decide, by decide, by rw [h]; exact tb_1 221 rfl rfl⟩
theorem fl_X5_40 {y : Yx} (h : y.1.cls = "WithinWords$Several") : FLk y 40 5 4 := ⟨by decide, by decide, by rw [h]; exact tb_1 140 rfl rfl⟩
theorem fl_X5_72 {y : Yx} (h : y.1.cls = "WithinWords$Several") : FLk y 72 3 0 := ⟨by decide, by decide, by rw [h]; exact tb_1 211 rfl rfl⟩
theorem fl_X6_9 {y : Yx} (h : y.1.cls = "WithinWords$Spelling") : FLk y 9 6 0 := ⟨by decide, by decide, by rw [h]; exact tb_1 36 rfl rfl⟩
theorem fl_X6_15 {y : Yx} (h : y.1.cls = "WithinWords$Spelling") : FLk y 15 6 2 := ⟨by decide, by decide, by rw [h]; exact tb_1 40 rfl rfl⟩
theorem fl_X6_18 {y : Yx} (h : y.1.cls = "WithinWords$Spelling") : FLk y 18 6 1 := ⟨by decide, by decide, by rw [h]; exact tb_1 38 rfl rfl⟩
theorem fl_X6_22 {y : Yx} (h : y.1.cls = "WithinWords$Spelling") : FLk y 22 6 3 := ⟨by decide, by decide, by rw [h]; exact tb_1 41 rfl rfl⟩
theorem fl_X6_25 {y : Yx} (h : y.1.cls = "WithinWords$Spelling") : FLk y 25 6 4 := ⟨by decide, by decide, by rw [h]; exact tb_1 42 rfl rfl⟩
theorem fl_X6_32 {y : Yx} (h : y.1.cls = "WithinWords$Spelling") : FLk y 32 3 1 := ⟨by decide, by decide, by rw [h]; exact tb_1 219 rfl rfl⟩
theorem fl_X6_35 {y : Yx} (h : y.1.cls = "WithinWords$Spelling") : FLk y 35 3 0 := ⟨by decide, by decide, by rw [h]; exact tb_1 202 rfl rfl⟩
theorem fl_X7_9 {y : Yx} (h : y.1.cls = "WithinWords$Standing") : FLk y 9 7 0 := ⟨by decide, by decide, by rw [h]; exact tb_1 61 rfl rfl⟩
theorem fl_X7_15 {y : Yx} (h : y.1.cls = "WithinWords$Standing") : FLk y 15 7 1 := ⟨by decide, by decide, by rw [h]; exact tb_1 63 rfl rfl⟩
theorem fl_X7_18 {y : Yx} (h : y.1.cls = "WithinWords$Standing") : FLk y 18 7 2 := ⟨by decide, by decide, by rw [h]; exact tb_1 65 rfl rfl⟩
theorem fl_X7_22 {y : Yx} (h : y.1.cls = "WithinWords$Standing") : FLk y 22 7 3 := ⟨by decide, by decide, by rw [h]; exact tb_1 66 rfl rfl⟩
theorem fl_X7_25 {y : Yx} (h : y.1.cls = "WithinWords$Standing") : FLk y 25 3 1 := ⟨by decide, by decide, by rw [h]; exact tb_1 217 rfl rfl⟩
theorem fl_X7_31 {y : Yx} (h : y.1.cls = "WithinWords$Standing") : FLk y 31 3 0 := ⟨by decide, by decide, by rw [h]; exact tb_1 205 rfl rfl⟩
theorem fl_X8_9 {y : Yx} (h : y.1.cls = "WithinWords$Steps") : FLk y 9 8 0 := ⟨by decide, by decide, by rw [h]; exact tb_1 89 rfl rfl⟩
theorem fl_X8_15 {y : Yx} (h : y.1.cls = "WithinWords$Steps") : FLk y 15 3 1 := ⟨by decide, by decide, by rw [h]; exact tb_1 214 rfl rfl⟩
theorem fl_X8_27 {y : Yx} (h : y.1.cls = "WithinWords$Steps") : FLk y 27 3 0 := ⟨by decide, by decide, by rw [h]; exact tb_1 207 rfl rfl⟩
theorem fl_X9_9 {y : Yx} (h : y.1.cls = "WithinWords$Twins") : FLk y 9 9 0 := ⟨by decide, by decide, by rw [h]; exact tb_1 164 rfl rfl⟩
theorem fl_X9_15 {y : Yx} (h : y.1.cls = "WithinWords$Twins") : FLk y 15 9 1 := ⟨by decide, by decide, by rw [h]; exact tb_1 166 rfl rfl⟩
theorem fl_X9_18 {y : Yx} (h : y.1.cls = "WithinWords$Twins") : FLk y 18 9 2 := ⟨by decide, by decide, by rw [h]; exact tb_1 167 rfl rfl⟩
theorem fl_X9_21 {y : Yx} (h : y.1.cls = "WithinWords$Twins") : FLk y 21 9 3 := ⟨by decide, by decide, by rw [h]; exact tb_1 168 rfl rfl⟩
theorem fl_X9_24 {y : Yx} (h : y.1.cls = "WithinWords$Twins") : FLk y 24 9 4 := ⟨by decide, by decide, by rw [h]; exact tb_1 169 rfl rfl⟩
theorem fl_X9_27 {y : Yx} (h : y.1.cls = "WithinWords$Twins") : FLk y 27 9 5 := ⟨by decide, by decide, by rw [h]; exact tb_1 170 rfl rfl⟩
theorem fl_X9_30 {y : Yx} (h : y.1.cls = "WithinWords$Twins") : FLk y 30 9 6 := ⟨by decide, by decide, by rw [h]; exact tb_1 171 rfl rfl⟩
theorem fl_X9_34 {y : Yx} (h : y.1.cls = "WithinWords$Twins") : FLk y 34 3 1 := ⟨by decide, by decide, by rw [h]; exact tb_1 215 rfl rfl⟩
theorem fl_X9_39 {y : Yx} (h : y.1.cls = "WithinWords$Twins") : FLk y 39 9 7 := ⟨by decide, by decide, by rw [h]; exact tb_1 172 rfl rfl⟩
theorem fl_X9_42 {y : Yx} (h : y.1.cls = "WithinWords$Twins") : FLk y 42 9 8 := ⟨by decide, by decide, by rw [h]; exact tb_1 173 rfl rfl⟩
theorem fl_X9_45 {y : Yx} (h : y.1.cls = "WithinWords$Twins") : FLk y 45 9 9 := ⟨by decide, by decide, by rw [h]; exact tb_1 174 rfl rfl⟩
theorem fl_X9_48 {y : Yx} (h : y.1.cls = "WithinWords$Twins") : FLk y 48 3 0 := ⟨by decide, by decide, by rw [h]; exact tb_1 204 rfl rfl⟩
theorem fl_X10_14 {y : Yx} (h : y.1.cls = "WithinWords$Word") : FLk y 14 10 0 := ⟨by decide, by decide, by rw [h]; exact tb_1 235 rfl rfl⟩
theorem fl_X10_20 {y : Yx} (h : y.1.cls = "WithinWords$Word") : FLk y 20 10 1 := ⟨by decide, by decide, by rw [h]; exact tb_1 237 rfl rfl⟩
theorem fl_X10_24 {y : Yx} (h : y.1.cls = "WithinWords$Word") : FLk y 24 10 2 := ⟨by decide, by decide, by rw [h]; exact tb_1 239 rfl rfl⟩
theorem fl_X10_27 {y : Yx} (h : y.1.cls = "WithinWords$Word") : FLk y 27 10 3 := ⟨by decide, by decide, by rw [h]; exact tb_2 0 rfl rfl⟩
theorem fl_X12_7 {y : Yx} (h : y.1.cls = "WithinWordsModel") : FLk y 7 12 1 := ⟨by decide, by decide, by rw [h]; exact tb_4 212 rfl rfl⟩
theorem fl_X12_13 {y : Yx} (h : y.1.cls = "WithinWordsModel") : FLk y 13 12 6 := ⟨by decide, by decide, by rw [h]; exact tb_4 217 rfl rfl⟩
theorem fl_X12_16 {y : Yx} (h : y.1.cls = "WithinWordsModel") : FLk y 16 12 7 := ⟨by decide, by decide, by rw [h]; exact tb_4 218 rfl rfl⟩
theorem fl_X12_19 {y : Yx} (h : y.1.cls = "WithinWordsModel") : FLk y 19 12 8 := ⟨by decide, by decide, by rw [h]; exact tb_4 219 rfl rfl⟩
theorem fl_X12_22 {y : Yx} (h : y.1.cls = "WithinWordsModel") : FLk y 22 12 9 := ⟨by decide, by decide, by rw [h]; exact tb_4 220 rfl rfl⟩
theorem fl_X12_25 {y : Yx} (h : y.1.cls = "WithinWordsModel") : FLk y 25 12 10 := ⟨by decide, by decide, by rw [h]; exact tb_4 221 rfl rfl⟩
theorem fl_X12_29 {y : Yx} (h : y.1.cls = "WithinWordsModel") : FLk y 29 12 12 := ⟨by decide, by decide, by rw [h]; exact tb_4 223 rfl rfl⟩
theorem fl_X12_32 {y : Yx} (h : y.1.cls = "WithinWordsModel") : FLk y 32 12 13 := ⟨by decide, by decide, by rw [h]; exact tb_4 224 rfl rfl⟩
theorem fl_X12_35 {y : Yx} (h : y.1.cls = "WithinWordsModel") : FLk y 35 12 14 := ⟨by decide, by decide, by rw [h]; exact tb_4 225 rfl rfl⟩
theorem fl_X12_38 {y : Yx} (h : y.1.cls = "WithinWordsModel") : FLk y 38 12 15 := ⟨by decide, by decide, by rw [h]; exact tb_4 226 rfl rfl⟩
theorem fl_X12_41 {y : Yx} (h : y.1.cls = "WithinWordsModel") : FLk y 41 12 16 := ⟨by decide, by decide, by rw [h]; exact tb_4 227 rfl rfl⟩
theorem fl_X12_44 {y : Yx} (h : y.1.cls = "WithinWordsModel") : FLk y 44 12 18 := ⟨by decide, by decide, by rw [h]; exact tb_4 229 rfl rfl⟩
theorem fl_X12_47 {y : Yx} (h : y.1.cls = "WithinWordsModel") : FLk y 47 12 19 := ⟨by decide, by decide, by rw [h]; exact tb_4 230 rfl rfl⟩
theorem fl_X12_50 {y : Yx} (h : y.1.cls = "WithinWordsModel") : FLk y 50 12 20 := ⟨by decide, by decide, by rw [h]; exact tb_4 231 rfl rfl⟩
theorem fl_X12_53 {y : Yx} (h : y.1.cls = "WithinWordsModel") : FLk y 53 12 22 := ⟨by decide, by decide, by rw [h]; exact tb_4 233 rfl rfl⟩
theorem fl_X12_57 {y : Yx} (h : y.1.cls = "WithinWordsModel") : FLk y 57 12 23 := ⟨by decide, by decide, by rw [h]; exact tb_4 234 rfl rfl⟩
theorem fl_X12_60 {y : Yx} (h : y.1.cls = "WithinWordsModel") : FLk y 60 12 24 := ⟨by decide, by decide, by rw [h]; exact tb_4 235 rfl rfl⟩
theorem fl_X12_63 {y : Yx} (h : y.1.cls = "WithinWordsModel") : FLk y 63 12 25 := ⟨by decide, by decide, by rw [h]; exact tb_4 236 rfl rfl⟩
theorem fl_X12_66 {y : Yx} (h : y.1.cls = "WithinWordsModel") : FLk y 66 12 26 := ⟨by decide, by decide, by rw [h]; exact tb_4 237 rfl rfl⟩
theorem fl_X12_69 {y : Yx} (h : y.1.cls = "WithinWordsModel") : FLk y 69 12 29 := ⟨by decide, by decide, by rw [h]; exact tb_5 0 rfl rfl⟩
theorem fl_X12_72 {y : Yx} (h : y.1.cls = "WithinWordsModel") : FLk y 72 12 30 := ⟨by decide, by decide, by rw [h]; exact tb_5 1 rfl rfl⟩
theorem fl_X12_75 {y : Yx} (h : y.1.cls = "WithinWordsModel") : FLk y 75 12 31 := ⟨by decide, by decide, by rw [h]; exact tb_5 2 rfl rfl⟩
theorem fl_X12_78 {y : Yx} (h : y.1.cls = "WithinWordsModel") : FLk y 78 12 32 := ⟨by decide, by decide, by rw [h]; exact tb_5 3 rfl rfl⟩
theorem fl_X12_82 {y : Yx} (h : y.1.cls = "WithinWordsModel") : FLk y 82 12 34 := ⟨by decide, by decide, by rw [h]; exact tb_5 5 rfl rfl⟩
theorem fl_X12_85 {y : Yx} (h : y.1.cls = "WithinWordsModel") : FLk y 85 12 36 := ⟨by decide, by decide, by rw [h]; exact tb_5 7 rfl rfl⟩
theorem fl_X12_88 {y : Yx} (h : y.1.cls = "WithinWordsModel") : FLk y 88 12 37 := ⟨by decide, by decide, by rw [h]; exact tb_5 8 rfl rfl⟩
theorem fl_X12_91 {y : Yx} (h : y.1.cls = "WithinWordsModel") : FLk y 91 12 38 := ⟨by decide, by decide, by rw [h]; exact tb_5 9 rfl rfl⟩
theorem fl_X12_94 {y : Yx} (h : y.1.cls = "WithinWordsModel") : FLk y 94 12 39 := ⟨by decide, by decide, by rw [h]; exact tb_5 10 rfl rfl⟩
theorem fl_X12_97 {y : Yx} (h : y.1.cls = "WithinWordsModel") : FLk y 97 12 40 := ⟨by decide, by decide, by rw [h]; exact tb_5 11 rfl rfl⟩
theorem fl_X12_100 {y : Yx} (h : y.1.cls = "WithinWordsModel") : FLk y 100 12 41 := ⟨by decide, by decide, by rw [h]; exact tb_5 12 rfl rfl⟩
theorem fl_X12_103 {y : Yx} (h : y.1.cls = "WithinWordsModel") : FLk y 103 12 42 := ⟨by decide, by decide, by rw [h]; exact tb_5 13 rfl rfl⟩
theorem fl_X12_106 {y : Yx} (h : y.1.cls = "WithinWordsModel") : FLk y 106 12 5 := ⟨by decide, by decide, by rw [h]; exact tb_4 216 rfl rfl⟩
theorem fl_X12_110 {y : Yx} (h : y.1.cls = "WithinWordsModel") : FLk y 110 12 11 := ⟨by decide, by decide, by rw [h]; exact tb_4 222 rfl rfl⟩
theorem fl_X12_114 {y : Yx} (h : y.1.cls = "WithinWordsModel") : FLk y 114 12 0 := ⟨by decide, by decide, by rw [h]; exact tb_4 211 rfl rfl⟩
theorem fl_X12_121 {y : Yx} (h : y.1.cls = "WithinWordsModel") : FLk y 121 12 2 := ⟨by decide, by decide, by rw [h]; exact tb_4 213 rfl rfl⟩
theorem fl_X12_124 {y : Yx} (h : y.1.cls = "WithinWordsModel") : FLk y 124 12 3 := ⟨by decide, by decide, by rw [h]; exact tb_4 214 rfl rfl⟩
theorem fl_X12_127 {y : Yx} (h : y.1.cls = "WithinWordsModel") : FLk y 127 12 4 := ⟨by decide, by decide, by rw [h]; exact tb_4 215 rfl rfl⟩
theorem fl_X12_151 {y : Yx} (h : y.1.cls = "WithinWordsModel") : FLk y 151 12 17 := ⟨by decide, by decide, by rw [h]; exact tb_4 228 rfl rfl⟩
theorem fl_X12_164 {y : Yx} (h : y.1.cls = "WithinWordsModel") : FLk y 164 12 21 := ⟨by decide, by decide, by rw [h]; exact tb_4 232 rfl rfl⟩
theorem fl_X12_224 {y : Yx} (h : y.1.cls = "WithinWordsModel") : FLk y 224 12 27 := ⟨by decide, by decide, by rw [h]; exact tb_4 238 rfl rfl⟩
theorem fl_X12_227 {y : Yx} (h : y.1.cls = "WithinWordsModel") : FLk y 227 12 28 := ⟨by decide, by decide, by rw [h]; exact tb_4 239 rfl rfl⟩
theorem fl_X12_246 {y : Yx} (h : y.1.cls = "WithinWordsModel") : FLk y 246 12 33 := ⟨by decide, by decide, by rw [h]; exact tb_5 4 rfl rfl⟩
theorem fl_X12_270 {y : Yx} (h : y.1.cls = "WithinWordsModel") : FLk y 270 12 35 := ⟨by decide, by decide, by rw [h]; exact tb_5 6 rfl rfl⟩
theorem fl_X12_317 {y : Yx} (h : y.1.cls = "WithinWordsModel") : FLk y 317 12 43 := ⟨by decide, by decide, by rw [h]; exact tb_5 14 rfl rfl⟩
theorem ml_X11_3 {y : Yx} (h : y.1.cls = "WithinWords") : Cond.methodLink y.1.cls 3 Lib.objectInit ∈ gtbl := by rw [h]; exact tb_1 23 rfl rfl
theorem cs_X11_53 {y : Yx} (h : y.1.cls = "WithinWords") : CSI y 53 yX6_init 0 := ⟨⟨by rw [h]; exact tb_1 32 rfl rfl, ok_X6_init.1, ok_X6_init.2.1, ok_X6_init.2.2.1, ok_X6_init.2.2.2⟩, rfl, im_X6_init, rfl⟩
theorem cs_X11_60 {y : Yx} (h : y.1.cls = "WithinWords") : CSI y 60 yX7_init 0 := ⟨⟨by rw [h]; exact tb_1 57 rfl rfl, ok_X7_init.1, ok_X7_init.2.1, ok_X7_init.2.2.1, ok_X7_init.2.2.2⟩, rfl, im_X7_init, rfl⟩
theorem cs_X11_67 {y : Yx} (h : y.1.cls = "WithinWords") : CSI y 67 yX0_init 0 := ⟨⟨by rw [h]; exact tb_1 79 rfl rfl, ok_X0_init.1, ok_X0_init.2.1, ok_X0_init.2.2.1, ok_X0_init.2.2.2⟩, rfl, im_X0_init, rfl⟩
theorem cs_X11_74 {y : Yx} (h : y.1.cls = "WithinWords") : CSI y 74 yX1_init 0 := ⟨⟨by rw [h]; exact tb_1 118 rfl rfl, ok_X1_init.1, ok_X1_init.2.1, ok_X1_init.2.2.1, ok_X1_init.2.2.2⟩, rfl, im_X1_init, rfl⟩
theorem cs_X11_81 {y : Yx} (h : y.1.cls = "WithinWords") : CSI y 81 yX5_init 0 := ⟨⟨by rw [h]; exact tb_1 131 rfl rfl, ok_X5_init.1, ok_X5_init.2.1, ok_X5_init.2.2.1, ok_X5_init.2.2.2⟩, rfl, im_X5_init, rfl⟩
theorem cs_X11_88 {y : Yx} (h : y.1.cls = "WithinWords") : CSI y 88 yX9_init 0 := ⟨⟨by rw [h]; exact tb_1 160 rfl rfl, ok_X9_init.1, ok_X9_init.2.1, ok_X9_init.2.2.1, ok_X9_init.2.2.2⟩, rfl, im_X9_init, rfl⟩
theorem cs_X11_93 {y : Yx} (h : y.1.cls = "WithinWords") : CSI y 93 yX3_init 1 := ⟨⟨by rw [h]; exact tb_1 197 rfl rfl, ok_X3_init.1, ok_X3_init.2.1, ok_X3_init.2.2.1, ok_X3_init.2.2.2⟩, rfl, im_X3_init, rfl⟩
theorem cs_X11_96 {y : Yx} (h : y.1.cls = "WithinWords") : CSI y 96 yX10_init 0 := ⟨⟨by rw [h]; exact tb_1 229 rfl rfl, ok_X10_init.1, ok_X10_init.2.1, ok_X10_init.2.2.1, ok_X10_init.2.2.2⟩, rfl, im_X10_init, rfl⟩
theorem cs_X11_99 {y : Yx} (h : y.1.cls = "WithinWords") : CSI y 99 yX2_init 1 := ⟨⟨by rw [h]; exact tb_2 12 rfl rfl, ok_X2_init.1, ok_X2_init.2.1, ok_X2_init.2.2.1, ok_X2_init.2.2.2⟩, rfl, im_X2_init, rfl⟩
theorem cs_X11_108 {y : Yx} (h : y.1.cls = "WithinWords") : CSI y 108 yX4_init 1 := ⟨⟨by rw [h]; exact tb_2 30 rfl rfl, ok_X4_init.1, ok_X4_init.2.1, ok_X4_init.2.2.1, ok_X4_init.2.2.2⟩, rfl, im_X4_init, rfl⟩
theorem ml_X0_3 {y : Yx} (h : y.1.cls = "WithinWords$Arches") : Cond.methodLink y.1.cls 3 Lib.objectInit ∈ gtbl := by rw [h]; exact tb_1 82 rfl rfl
theorem cs_X0_21 {y : Yx} (h : y.1.cls = "WithinWords$Arches") : CSI y 21 yX8_init 0 := ⟨⟨by rw [h]; exact tb_1 85 rfl rfl, ok_X8_init.1, ok_X8_init.2.1, ok_X8_init.2.2.1, ok_X8_init.2.2.2⟩, rfl, im_X8_init, rfl⟩
theorem ml_X1_3 {y : Yx} (h : y.1.cls = "WithinWords$Dropping") : Cond.methodLink y.1.cls 3 Lib.objectInit ∈ gtbl := by rw [h]; exact tb_1 121 rfl rfl
theorem ml_X2_3 {y : Yx} (h : y.1.cls = "WithinWords$InnerWords") : Cond.methodLink y.1.cls 3 Lib.objectInit ∈ gtbl := by rw [h]; exact tb_2 15 rfl rfl
theorem cs_X2_11 {y : Yx} (h : y.1.cls = "WithinWords$InnerWords") : CSI y 11 yX8_init 0 := ⟨⟨by rw [h]; exact tb_2 17 rfl rfl, ok_X8_init.1, ok_X8_init.2.1, ok_X8_init.2.2.1, ok_X8_init.2.2.2⟩, rfl, im_X8_init, rfl⟩
theorem ml_X3_3 {y : Yx} (h : y.1.cls = "WithinWords$Line") : Cond.methodLink y.1.cls 3 Lib.objectInit ∈ gtbl := by rw [h]; exact tb_1 200 rfl rfl
theorem ml_X4_3 {y : Yx} (h : y.1.cls = "WithinWords$Pair") : Cond.methodLink y.1.cls 3 Lib.objectInit ∈ gtbl := by rw [h]; exact tb_2 33 rfl rfl
theorem cs_X4_11 {y : Yx} (h : y.1.cls = "WithinWords$Pair") : CSI y 11 yX8_init 0 := ⟨⟨by rw [h]; exact tb_2 35 rfl rfl, ok_X8_init.1, ok_X8_init.2.1, ok_X8_init.2.2.1, ok_X8_init.2.2.2⟩, rfl, im_X8_init, rfl⟩
theorem ml_X5_3 {y : Yx} (h : y.1.cls = "WithinWords$Several") : Cond.methodLink y.1.cls 3 Lib.objectInit ∈ gtbl := by rw [h]; exact tb_1 134 rfl rfl
theorem ml_X6_3 {y : Yx} (h : y.1.cls = "WithinWords$Spelling") : Cond.methodLink y.1.cls 3 Lib.objectInit ∈ gtbl := by rw [h]; exact tb_1 35 rfl rfl
theorem ml_X7_3 {y : Yx} (h : y.1.cls = "WithinWords$Standing") : Cond.methodLink y.1.cls 3 Lib.objectInit ∈ gtbl := by rw [h]; exact tb_1 60 rfl rfl
theorem ml_X8_3 {y : Yx} (h : y.1.cls = "WithinWords$Steps") : Cond.methodLink y.1.cls 3 Lib.objectInit ∈ gtbl := by rw [h]; exact tb_1 88 rfl rfl
theorem ml_X9_3 {y : Yx} (h : y.1.cls = "WithinWords$Twins") : Cond.methodLink y.1.cls 3 Lib.objectInit ∈ gtbl := by rw [h]; exact tb_1 163 rfl rfl
theorem ml_X10_3 {y : Yx} (h : y.1.cls = "WithinWords$Word") : Cond.methodLink y.1.cls 3 Lib.objectInit ∈ gtbl := by rw [h]; exact tb_1 232 rfl rfl
theorem cs_X10_11 {y : Yx} (h : y.1.cls = "WithinWords$Word") : CSI y 11 yX3_init 1 := ⟨⟨by rw [h]; exact tb_1 234 rfl rfl, ok_X3_init.1, ok_X3_init.2.1, ok_X3_init.2.2.1, ok_X3_init.2.2.2⟩, rfl, im_X3_init, rfl⟩
theorem cs_L_9 {y : Yx} (h : y.1.cls = "WithinWordsLaw") : CSI y 9 yX11_init 0 := ⟨⟨by rw [h]; exact tb_1 20 rfl rfl, ok_X11_init.1, ok_X11_init.2.1, ok_X11_init.2.2.1, ok_X11_init.2.2.2⟩, rfl, im_X11_init, rfl⟩
theorem cs_L_12 {y : Yx} (h : y.1.cls = "WithinWordsLaw") : CSI y 12 yX12_init 0 := ⟨⟨by rw [h]; exact tb_4 207 rfl rfl, ok_X12_init.1, ok_X12_init.2.1, ok_X12_init.2.2.1, ok_X12_init.2.2.2⟩, rfl, im_X12_init, rfl⟩
theorem ml_X12_1 {y : Yx} (h : y.1.cls = "WithinWordsModel") : Cond.methodLink y.1.cls 1 Lib.objectInit ∈ gtbl := by rw [h]; exact tb_4 210 rfl rfl
theorem cs_X11_113 {y : Yx} (h : y.1.cls = "WithinWords") : CSS y 113 yX11_noRow 1 := ⟨⟨by rw [h]; exact tb_2 108 rfl rfl, ok_X11_noRow.1, ok_X11_noRow.2.1, ok_X11_noRow.2.2.1, ok_X11_noRow.2.2.2⟩, st_X11_noRow⟩
theorem ml_X11_146 {y : Yx} (h : y.1.cls = "WithinWords") : Cond.methodLink y.1.cls 146 arraycopyName ∈ gtbl := by rw [h]; exact tb_2 155 rfl rfl
theorem cs_X11_152 {y : Yx} (h : y.1.cls = "WithinWords") : CSS y 152 yX11_noText 1 := ⟨⟨by rw [h]; exact tb_2 166 rfl rfl, ok_X11_noText.1, ok_X11_noText.2.1, ok_X11_noText.2.2.1, ok_X11_noText.2.2.2⟩, st_X11_noText⟩
theorem cs_X11_168 {y : Yx} (h : y.1.cls = "WithinWords") : CSS y 168 yX11_noWord 1 := ⟨⟨by rw [h]; exact tb_2 189 rfl rfl, ok_X11_noWord.1, ok_X11_noWord.2.1, ok_X11_noWord.2.2.1, ok_X11_noWord.2.2.2⟩, st_X11_noWord⟩
theorem cs_X11_189 {y : Yx} (h : y.1.cls = "WithinWords") : CSS y 189 yX11_noLength 1 := ⟨⟨by rw [h]; exact tb_3 20 rfl rfl, ok_X11_noLength.1, ok_X11_noLength.2.1, ok_X11_noLength.2.2.1, ok_X11_noLength.2.2.2⟩, st_X11_noLength⟩
theorem cs_X11_230 {y : Yx} (h : y.1.cls = "WithinWords") : CSS y 230 yJ13_bitCount_95d88 1 := ⟨⟨by rw [h]; exact tb_3 95 rfl rfl, ok_J13_bitCount_95d88.1, ok_J13_bitCount_95d88.2.1, ok_J13_bitCount_95d88.2.2.1, ok_J13_bitCount_95d88.2.2.2⟩, st_J13_bitCount_95d88⟩
theorem cs_X11_236 {y : Yx} (h : y.1.cls = "WithinWords") : CSS y 236 yX7_isWay 3 := ⟨⟨by rw [h]; exact tb_3 105 rfl rfl, ok_X7_isWay.1, ok_X7_isWay.2.1, ok_X7_isWay.2.2.1, ok_X7_isWay.2.2.2⟩, st_X7_isWay⟩
theorem ml_X11_305 {y : Yx} (h : y.1.cls = "WithinWords") : Cond.methodLink y.1.cls 305 Lib.Math.min.name ∈ gtbl := by rw [h]; exact tb_4 83 rfl rfl
theorem cs_X11_313 {y : Yx} (h : y.1.cls = "WithinWords") : CSS y 313 yX11_isPowerAbove 3 := ⟨⟨by rw [h]; exact tb_4 100 rfl rfl, ok_X11_isPowerAbove.1, ok_X11_isPowerAbove.2.1, ok_X11_isPowerAbove.2.2.1, ok_X11_isPowerAbove.2.2.2⟩, st_X11_isPowerAbove⟩
theorem cs_X11_324 {y : Yx} (h : y.1.cls = "WithinWords") : CSS y 324 yX11_choose 2 := ⟨⟨by rw [h]; exact tb_4 136 rfl rfl, ok_X11_choose.1, ok_X11_choose.2.1, ok_X11_choose.2.2.1, ok_X11_choose.2.2.2⟩, st_X11_choose⟩
theorem cs_X11_332 {y : Yx} (h : y.1.cls = "WithinWords") : CSS y 332 yX11_power 2 := ⟨⟨by rw [h]; exact tb_4 150 rfl rfl, ok_X11_power.1, ok_X11_power.2.1, ok_X11_power.2.2.1, ok_X11_power.2.2.2⟩, st_X11_power⟩
theorem cs_X11_335 {y : Yx} (h : y.1.cls = "WithinWords") : CSS y 335 yX11_countThere 1 := ⟨⟨by rw [h]; exact tb_4 173 rfl rfl, ok_X11_countThere.1, ok_X11_countThere.2.1, ok_X11_countThere.2.2.1, ok_X11_countThere.2.2.2⟩, st_X11_countThere⟩
theorem cs_X11_357 {y : Yx} (h : y.1.cls = "WithinWords") : CSS y 357 yJ6_bitCount_0f7a4 1 := ⟨⟨by rw [h]; exact tb_4 6 rfl rfl, ok_J6_bitCount_0f7a4.1, ok_J6_bitCount_0f7a4.2.1, ok_J6_bitCount_0f7a4.2.2.1, ok_J6_bitCount_0f7a4.2.2.2⟩, st_J6_bitCount_0f7a4⟩
theorem ml_X11_368 {y : Yx} (h : y.1.cls = "WithinWords") : Cond.methodLink y.1.cls 368 Lib.Math.max.name ∈ gtbl := by rw [h]; exact tb_4 184 rfl rfl
theorem cs_X11_371 {y : Yx} (h : y.1.cls = "WithinWords") : CSS y 371 yX11_commonDivisor 2 := ⟨⟨by rw [h]; exact tb_4 143 rfl rfl, ok_X11_commonDivisor.1, ok_X11_commonDivisor.2.1, ok_X11_commonDivisor.2.2.1, ok_X11_commonDivisor.2.2.2⟩, st_X11_commonDivisor⟩
theorem cs_X0_41 {y : Yx} (h : y.1.cls = "WithinWords$Arches") : CSS y 41 yJ6_bitCount_0f7a4 1 := ⟨⟨by rw [h]; exact tb_3 176 rfl rfl, ok_J6_bitCount_0f7a4.1, ok_J6_bitCount_0f7a4.2.1, ok_J6_bitCount_0f7a4.2.2.1, ok_J6_bitCount_0f7a4.2.2.2⟩, st_J6_bitCount_0f7a4⟩
theorem ml_X0_61 {y : Yx} (h : y.1.cls = "WithinWords$Arches") : Cond.methodLink y.1.cls 61 Lib.Math.min.name ∈ gtbl := by rw [h]; exact tb_3 200 rfl rfl
theorem ml_X1_35 {y : Yx} (h : y.1.cls = "WithinWords$Dropping") : Cond.methodLink y.1.cls 35 Lib.Math.min.name ∈ gtbl := by rw [h]; exact tb_3 31 rfl rfl
theorem ml_X3_19 {y : Yx} (h : y.1.cls = "WithinWords$Line") : Cond.methodLink y.1.cls 19 arraycopyName ∈ gtbl := by rw [h]; exact tb_2 200 rfl rfl
theorem cs_X4_35 {y : Yx} (h : y.1.cls = "WithinWords$Pair") : CSS y 35 yX4_isReached 4 := ⟨⟨by rw [h]; exact tb_3 218 rfl rfl, ok_X4_isReached.1, ok_X4_isReached.2.1, ok_X4_isReached.2.2.1, ok_X4_isReached.2.2.2⟩, st_X4_isReached⟩
theorem ml_X5_56 {y : Yx} (h : y.1.cls = "WithinWords$Several") : Cond.methodLink y.1.cls 56 Lib.Math.max.name ∈ gtbl := by rw [h]; exact tb_4 31 rfl rfl
theorem ml_X5_88 {y : Yx} (h : y.1.cls = "WithinWords$Several") : Cond.methodLink y.1.cls 88 Lib.Math.min.name ∈ gtbl := by rw [h]; exact tb_4 74 rfl rfl
theorem cs_X6_28 {y : Yx} (h : y.1.cls = "WithinWords$Spelling") : CSS y 28 yX6_behindBlanks 2 := ⟨⟨by rw [h]; exact tb_2 209 rfl rfl, ok_X6_behindBlanks.1, ok_X6_behindBlanks.2.1, ok_X6_behindBlanks.2.2.1, ok_X6_behindBlanks.2.2.2⟩, st_X6_behindBlanks⟩
theorem ml_X7_38 {y : Yx} (h : y.1.cls = "WithinWords$Standing") : Cond.methodLink y.1.cls 38 Lib.Math.min.name ∈ gtbl := by rw [h]; exact tb_3 117 rfl rfl
theorem ml_X8_21 {y : Yx} (h : y.1.cls = "WithinWords$Steps") : Cond.methodLink y.1.cls 21 arraycopyName ∈ gtbl := by rw [h]; exact tb_3 130 rfl rfl
theorem ml_X9_59 {y : Yx} (h : y.1.cls = "WithinWords$Twins") : Cond.methodLink y.1.cls 59 arraycopyName ∈ gtbl := by rw [h]; exact tb_4 115 rfl rfl
theorem cs_X12_117 {y : Yx} (h : y.1.cls = "WithinWordsModel") : CSS y 117 yX12_in 3 := ⟨⟨by rw [h]; exact tb_5 114 rfl rfl, ok_X12_in.1, ok_X12_in.2.1, ok_X12_in.2.2.1, ok_X12_in.2.2.2⟩, st_X12_in⟩
theorem cs_X12_130 {y : Yx} (h : y.1.cls = "WithinWordsModel") : CSS y 130 yX12_isRow 1 := ⟨⟨by rw [h]; exact tb_5 137 rfl rfl, ok_X12_isRow.1, ok_X12_isRow.2.1, ok_X12_isRow.2.2.1, ok_X12_isRow.2.2.2⟩, st_X12_isRow⟩
theorem cs_X12_145 {y : Yx} (h : y.1.cls = "WithinWordsModel") : CSS y 145 yX12_isText 1 := ⟨⟨by rw [h]; exact tb_5 176 rfl rfl, ok_X12_isText.1, ok_X12_isText.2.1, ok_X12_isText.2.2.1, ok_X12_isText.2.2.2⟩, st_X12_isText⟩
theorem cs_X12_154 {y : Yx} (h : y.1.cls = "WithinWordsModel") : CSS y 154 yX12_isWord 1 := ⟨⟨by rw [h]; exact tb_5 195 rfl rfl, ok_X12_isWord.1, ok_X12_isWord.2.1, ok_X12_isWord.2.2.1, ok_X12_isWord.2.2.2⟩, st_X12_isWord⟩
theorem cs_X12_239 {y : Yx} (h : y.1.cls = "WithinWordsModel") : CSS y 239 yX12_powerOf 2 := ⟨⟨by rw [h]; exact tb_6 122 rfl rfl, ok_X12_powerOf.1, ok_X12_powerOf.2.1, ok_X12_powerOf.2.2.1, ok_X12_powerOf.2.2.2⟩, st_X12_powerOf⟩
theorem cs_X12_243 {y : Yx} (h : y.1.cls = "WithinWordsModel") : CSS y 243 yX12_has 2 := ⟨⟨by rw [h]; exact tb_6 129 rfl rfl, ok_X12_has.1, ok_X12_has.2.1, ok_X12_has.2.2.1, ok_X12_has.2.2.2⟩, st_X12_has⟩
theorem cs_X12_267 {y : Yx} (h : y.1.cls = "WithinWordsModel") : CSS y 267 yX12_bits 1 := ⟨⟨by rw [h]; exact tb_6 176 rfl rfl, ok_X12_bits.1, ok_X12_bits.2.1, ok_X12_bits.2.2.1, ok_X12_bits.2.2.2⟩, st_X12_bits⟩
theorem cs_X12_304 {y : Yx} (h : y.1.cls = "WithinWordsModel") : CSS y 304 yX12_chosen 2 := ⟨⟨by rw [h]; exact tb_6 228 rfl rfl, ok_X12_chosen.1, ok_X12_chosen.2.1, ok_X12_chosen.2.2.1, ok_X12_chosen.2.2.2⟩, st_X12_chosen⟩
theorem cs_X11_117 {y : Yx} (h : y.1.cls = "WithinWords") : CSV y 117 yX11_found 1 11 := ⟨⟨by rw [h]; exact tb_2 111 rfl rfl, ok_X11_found.1, ok_X11_found.2.1, ok_X11_found.2.2.1, ok_X11_found.2.2.2⟩, im_X11_found, se_X11_found, by decide, rfl⟩
theorem cs_X11_121 {y : Yx} (h : y.1.cls = "WithinWords") : CSV y 121 yX3_begin 2 3 := ⟨⟨by rw [h]; exact tb_2 115 rfl rfl, ok_X3_begin.1, ok_X3_begin.2.1, ok_X3_begin.2.2.1, ok_X3_begin.2.2.2⟩, im_X3_begin, se_X3_begin, by decide, rfl⟩
theorem cs_X11_125 {y : Yx} (h : y.1.cls = "WithinWords") : CSV y 125 yX11_refusePlace 2 11 := ⟨⟨by rw [h]; exact tb_2 123 rfl rfl, ok_X11_refusePlace.1, ok_X11_refusePlace.2.1, ok_X11_refusePlace.2.2.1, ok_X11_refusePlace.2.2.2⟩, im_X11_refusePlace, se_X11_refusePlace, by decide, rfl⟩
theorem cs_X11_132 {y : Yx} (h : y.1.cls = "WithinWords") : CSV y 132 yX11_refuseRow 1 11 := ⟨⟨by rw [h]; exact tb_2 127 rfl rfl, ok_X11_refuseRow.1, ok_X11_refuseRow.2.1, ok_X11_refuseRow.2.2.1, ok_X11_refuseRow.2.2.2⟩, im_X11_refuseRow, se_X11_refuseRow, by decide, rfl⟩
theorem cs_X11_138 {y : Yx} (h : y.1.cls = "WithinWords") : CSV y 138 yX3_isMissing 0 3 := ⟨⟨by rw [h]; exact tb_2 131 rfl rfl, ok_X3_isMissing.1, ok_X3_isMissing.2.1, ok_X3_isMissing.2.2.1, ok_X3_isMissing.2.2.2⟩, im_X3_isMissing, se_X3_isMissing, by decide, rfl⟩
theorem cs_X11_142 {y : Yx} (h : y.1.cls = "WithinWords") : CSV y 142 yX3_reaches 2 3 := ⟨⟨by rw [h]; exact tb_2 151 rfl rfl, ok_X3_reaches.1, ok_X3_reaches.2.1, ok_X3_reaches.2.2.1, ok_X3_reaches.2.2.2⟩, im_X3_reaches, se_X3_reaches, by decide, rfl⟩
theorem cs_X11_155 {y : Yx} (h : y.1.cls = "WithinWords") : CSV y 155 yX11_refuseText 1 11 := ⟨⟨by rw [h]; exact tb_2 173 rfl rfl, ok_X11_refuseText.1, ok_X11_refuseText.2.1, ok_X11_refuseText.2.2.1, ok_X11_refuseText.2.2.2⟩, im_X11_refuseText, se_X11_refuseText, by decide, rfl⟩
theorem cs_X11_158 {y : Yx} (h : y.1.cls = "WithinWords") : CSV y 158 yX3_has 1 3 := ⟨⟨by rw [h]; exact tb_2 135 rfl rfl, ok_X3_has.1, ok_X3_has.2.1, ok_X3_has.2.2.1, ok_X3_has.2.2.2⟩, im_X3_has, se_X3_has, by decide, rfl⟩
theorem cs_X11_165 {y : Yx} (h : y.1.cls = "WithinWords") : CSV y 165 yX3_isBelow 1 3 := ⟨⟨by rw [h]; exact tb_2 181 rfl rfl, ok_X3_isBelow.1, ok_X3_isBelow.2.1, ok_X3_isBelow.2.2.1, ok_X3_isBelow.2.2.2⟩, im_X3_isBelow, se_X3_isBelow, by decide, rfl⟩
theorem cs_X11_171 {y : Yx} (h : y.1.cls = "WithinWords") : CSV y 171 yX10_become 5 10 := ⟨⟨by rw [h]; exact tb_2 192 rfl rfl, ok_X10_become.1, ok_X10_become.2.1, ok_X10_become.2.2.1, ok_X10_become.2.2.2⟩, im_X10_become, se_X10_become, by decide, rfl⟩
theorem cs_X11_175 {y : Yx} (h : y.1.cls = "WithinWords") : CSV y 175 yX6_read 2 6 := ⟨⟨by rw [h]; exact tb_2 205 rfl rfl, ok_X6_read.1, ok_X6_read.2.1, ok_X6_read.2.2.1, ok_X6_read.2.2.2⟩, im_X6_read, se_X6_read, by decide, rfl⟩
theorem cs_X11_183 {y : Yx} (h : y.1.cls = "WithinWords") : CSV y 183 yX11_refuseWords 2 11 := ⟨⟨by rw [h]; exact tb_3 0 rfl rfl, ok_X11_refuseWords.1, ok_X11_refuseWords.2.1, ok_X11_refuseWords.2.2.1, ok_X11_refuseWords.2.2.2⟩, im_X11_refuseWords, se_X11_refuseWords, by decide, rfl⟩
theorem cs_X11_186 {y : Yx} (h : y.1.cls = "WithinWords") : CSV y 186 yX11_refuseWord 1 11 := ⟨⟨by rw [h]; exact tb_3 12 rfl rfl, ok_X11_refuseWord.1, ok_X11_refuseWord.2.1, ok_X11_refuseWord.2.2.1, ok_X11_refuseWord.2.2.2⟩, im_X11_refuseWord, se_X11_refuseWord, by decide, rfl⟩
theorem cs_X11_192 {y : Yx} (h : y.1.cls = "WithinWords") : CSV y 192 yX1_keep 3 1 := ⟨⟨by rw [h]; exact tb_3 23 rfl rfl, ok_X1_keep.1, ok_X1_keep.2.1, ok_X1_keep.2.2.1, ok_X1_keep.2.2.2⟩, im_X1_keep, se_X1_keep, by decide, rfl⟩
theorem cs_X11_199 {y : Yx} (h : y.1.cls = "WithinWords") : CSV y 199 yX10_is 1 10 := ⟨⟨by rw [h]; exact tb_3 58 rfl rfl, ok_X10_is.1, ok_X10_is.2.1, ok_X10_is.2.2.1, ok_X10_is.2.2.2⟩, im_X10_is, se_X10_is, by decide, rfl⟩
theorem cs_X11_202 {y : Yx} (h : y.1.cls = "WithinWords") : CSV y 202 yX10_markOf 1 10 := ⟨⟨by rw [h]; exact tb_3 62 rfl rfl, ok_X10_markOf.1, ok_X10_markOf.2.1, ok_X10_markOf.2.2.1, ok_X10_markOf.2.2.2⟩, im_X10_markOf, se_X10_markOf, by decide, rfl⟩
theorem cs_X11_205 {y : Yx} (h : y.1.cls = "WithinWords") : CSV y 205 yX7_countWays 2 7 := ⟨⟨by rw [h]; exact tb_3 70 rfl rfl, ok_X7_countWays.1, ok_X7_countWays.2.1, ok_X7_countWays.2.2.1, ok_X7_countWays.2.2.2⟩, im_X7_countWays, se_X7_countWays, by decide, rfl⟩
theorem cs_X11_209 {y : Yx} (h : y.1.cls = "WithinWords") : CSV y 209 yX7_readBounds 2 7 := ⟨⟨by rw [h]; exact tb_3 78 rfl rfl, ok_X7_readBounds.1, ok_X7_readBounds.2.1, ok_X7_readBounds.2.2.1, ok_X7_readBounds.2.2.2⟩, im_X7_readBounds, se_X7_readBounds, by decide, rfl⟩
theorem cs_X11_219 {y : Yx} (h : y.1.cls = "WithinWords") : CSV y 219 yX3_take 2 3 := ⟨⟨by rw [h]; exact tb_3 82 rfl rfl, ok_X3_take.1, ok_X3_take.2.1, ok_X3_take.2.2.1, ok_X3_take.2.2.2⟩, im_X3_take, se_X3_take, by decide, rfl⟩
theorem cs_X11_223 {y : Yx} (h : y.1.cls = "WithinWords") : CSV y 223 yX7_everyWay 1 7 := ⟨⟨by rw [h]; exact tb_3 87 rfl rfl, ok_X7_everyWay.1, ok_X7_everyWay.2.1, ok_X7_everyWay.2.2.1, ok_X7_everyWay.2.2.2⟩, im_X7_everyWay, se_X7_everyWay, by decide, rfl⟩
theorem cs_X11_227 {y : Yx} (h : y.1.cls = "WithinWords") : CSV y 227 yX7_someWay 2 7 := ⟨⟨by rw [h]; exact tb_3 91 rfl rfl, ok_X7_someWay.1, ok_X7_someWay.2.1, ok_X7_someWay.2.2.1, ok_X7_someWay.2.2.2⟩, im_X7_someWay, se_X7_someWay, by decide, rfl⟩
theorem cs_X11_240 {y : Yx} (h : y.1.cls = "WithinWords") : CSV y 240 yX7_fewestToBar 2 7 := ⟨⟨by rw [h]; exact tb_3 113 rfl rfl, ok_X7_fewestToBar.1, ok_X7_fewestToBar.2.1, ok_X7_fewestToBar.2.2.1, ok_X7_fewestToBar.2.2.2⟩, im_X7_fewestToBar, se_X7_fewestToBar, by decide, rfl⟩
theorem cs_X11_244 {y : Yx} (h : y.1.cls = "WithinWords") : CSV y 244 yX2_read 1 2 := ⟨⟨by rw [h]; exact tb_3 122 rfl rfl, ok_X2_read.1, ok_X2_read.2.1, ok_X2_read.2.2.1, ok_X2_read.2.2.2⟩, im_X2_read, se_X2_read, by decide, rfl⟩
theorem cs_X11_247 {y : Yx} (h : y.1.cls = "WithinWords") : CSV y 247 yX2_ofAnyLength 0 2 := ⟨⟨by rw [h]; exact tb_3 139 rfl rfl, ok_X2_ofAnyLength.1, ok_X2_ofAnyLength.2.1, ok_X2_ofAnyLength.2.2.1, ok_X2_ofAnyLength.2.2.2⟩, im_X2_ofAnyLength, se_X2_ofAnyLength, by decide, rfl⟩
theorem cs_X11_251 {y : Yx} (h : y.1.cls = "WithinWords") : CSV y 251 yX2_ofLength 1 2 := ⟨⟨by rw [h]; exact tb_3 143 rfl rfl, ok_X2_ofLength.1, ok_X2_ofLength.2.1, ok_X2_ofLength.2.2.1, ok_X2_ofLength.2.2.2⟩, im_X2_ofLength, se_X2_ofLength, by decide, rfl⟩
theorem cs_X11_254 {y : Yx} (h : y.1.cls = "WithinWords") : CSV y 254 yX2_ahead 1 2 := ⟨⟨by rw [h]; exact tb_3 151 rfl rfl, ok_X2_ahead.1, ok_X2_ahead.2.1, ok_X2_ahead.2.2.1, ok_X2_ahead.2.2.2⟩, im_X2_ahead, se_X2_ahead, by decide, rfl⟩
theorem cs_X11_258 {y : Yx} (h : y.1.cls = "WithinWords") : CSV y 258 yX2_pick 3 2 := ⟨⟨by rw [h]; exact tb_3 164 rfl rfl, ok_X2_pick.1, ok_X2_pick.2.1, ok_X2_pick.2.2.1, ok_X2_pick.2.2.2⟩, im_X2_pick, se_X2_pick, by decide, rfl⟩
theorem cs_X11_262 {y : Yx} (h : y.1.cls = "WithinWords") : CSV y 262 yX0_read 2 0 := ⟨⟨by rw [h]; exact tb_3 172 rfl rfl, ok_X0_read.1, ok_X0_read.2.1, ok_X0_read.2.2.1, ok_X0_read.2.2.2⟩, im_X0_read, se_X0_read, by decide, rfl⟩
theorem cs_X11_271 {y : Yx} (h : y.1.cls = "WithinWords") : CSV y 271 yX0_readAbsent 2 0 := ⟨⟨by rw [h]; exact tb_3 186 rfl rfl, ok_X0_readAbsent.1, ok_X0_readAbsent.2.1, ok_X0_readAbsent.2.2.1, ok_X0_readAbsent.2.2.2⟩, im_X0_readAbsent, se_X0_readAbsent, by decide, rfl⟩
theorem cs_X11_281 {y : Yx} (h : y.1.cls = "WithinWords") : CSV y 281 yX0_firstAbsent 2 0 := ⟨⟨by rw [h]; exact tb_3 196 rfl rfl, ok_X0_firstAbsent.1, ok_X0_firstAbsent.2.1, ok_X0_firstAbsent.2.2.1, ok_X0_firstAbsent.2.2.2⟩, im_X0_firstAbsent, se_X0_firstAbsent, by decide, rfl⟩
theorem cs_X11_285 {y : Yx} (h : y.1.cls = "WithinWords") : CSV y 285 yX0_toClose 2 0 := ⟨⟨by rw [h]; exact tb_3 205 rfl rfl, ok_X0_toClose.1, ok_X0_toClose.2.1, ok_X0_toClose.2.2.1, ok_X0_toClose.2.2.2⟩, im_X0_toClose, se_X0_toClose, by decide, rfl⟩
theorem cs_X11_288 {y : Yx} (h : y.1.cls = "WithinWords") : CSV y 288 yX4_measureParting 2 4 := ⟨⟨by rw [h]; exact tb_3 213 rfl rfl, ok_X4_measureParting.1, ok_X4_measureParting.2.1, ok_X4_measureParting.2.2.1, ok_X4_measureParting.2.2.2⟩, im_X4_measureParting, se_X4_measureParting, by decide, rfl⟩
theorem cs_X11_291 {y : Yx} (h : y.1.cls = "WithinWords") : CSV y 291 yX4_firstParting 2 4 := ⟨⟨by rw [h]; exact tb_3 234 rfl rfl, ok_X4_firstParting.1, ok_X4_firstParting.2.1, ok_X4_firstParting.2.2.1, ok_X4_firstParting.2.2.2⟩, im_X4_firstParting, se_X4_firstParting, by decide, rfl⟩
theorem cs_X11_295 {y : Yx} (h : y.1.cls = "WithinWords") : CSV y 295 yX11_refuseSet 2 11 := ⟨⟨by rw [h]; exact tb_4 2 rfl rfl, ok_X11_refuseSet.1, ok_X11_refuseSet.2.1, ok_X11_refuseSet.2.2.1, ok_X11_refuseSet.2.2.2⟩, im_X11_refuseSet, se_X11_refuseSet, by decide, rfl⟩
theorem cs_X11_298 {y : Yx} (h : y.1.cls = "WithinWords") : CSV y 298 yX5_longestCommon 1 5 := ⟨⟨by rw [h]; exact tb_4 19 rfl rfl, ok_X5_longestCommon.1, ok_X5_longestCommon.2.1, ok_X5_longestCommon.2.2.1, ok_X5_longestCommon.2.2.2⟩, im_X5_longestCommon, se_X5_longestCommon, by decide, rfl⟩
theorem cs_X11_302 {y : Yx} (h : y.1.cls = "WithinWords") : CSV y 302 yX5_shortestCover 1 5 := ⟨⟨by rw [h]; exact tb_4 62 rfl rfl, ok_X5_shortestCover.1, ok_X5_shortestCover.2.1, ok_X5_shortestCover.2.2.1, ok_X5_shortestCover.2.2.2⟩, im_X5_shortestCover, se_X5_shortestCover, by decide, rfl⟩
theorem cs_X11_310 {y : Yx} (h : y.1.cls = "WithinWords") : CSV y 310 yX4_countShared 2 4 := ⟨⟨by rw [h]; exact tb_4 88 rfl rfl, ok_X4_countShared.1, ok_X4_countShared.2.1, ok_X4_countShared.2.2.1, ok_X4_countShared.2.2.2⟩, im_X4_countShared, se_X4_countShared, by decide, rfl⟩
theorem cs_X11_317 {y : Yx} (h : y.1.cls = "WithinWords") : CSV y 317 yX9_search 3 9 := ⟨⟨by rw [h]; exact tb_4 103 rfl rfl, ok_X9_search.1, ok_X9_search.2.1, ok_X9_search.2.2.1, ok_X9_search.2.2.2⟩, im_X9_search, se_X9_search, by decide, rfl⟩
theorem cs_X11_328 {y : Yx} (h : y.1.cls = "WithinWords") : CSV y 328 yX11_tellFraction 2 11 := ⟨⟨by rw [h]; exact tb_4 139 rfl rfl, ok_X11_tellFraction.1, ok_X11_tellFraction.2.1, ok_X11_tellFraction.2.2.1, ok_X11_tellFraction.2.2.2⟩, im_X11_tellFraction, se_X11_tellFraction, by decide, rfl⟩
theorem cs_X11_339 {y : Yx} (h : y.1.cls = "WithinWords") : CSV y 339 yX11_countWords 1 11 := ⟨⟨by rw [h]; exact tb_4 176 rfl rfl, ok_X11_countWords.1, ok_X11_countWords.2.1, ok_X11_countWords.2.2.1, ok_X11_countWords.2.2.2⟩, im_X11_countWords, se_X11_countWords, by decide, rfl⟩
theorem cs_X11_342 {y : Yx} (h : y.1.cls = "WithinWords") : CSV y 342 yX11_countLetters 0 11 := ⟨⟨by rw [h]; exact tb_4 180 rfl rfl, ok_X11_countLetters.1, ok_X11_countLetters.2.1, ok_X11_countLetters.2.2.1, ok_X11_countLetters.2.2.2⟩, im_X11_countLetters, se_X11_countLetters, by decide, rfl⟩
theorem cs_X11_350 {y : Yx} (h : y.1.cls = "WithinWords") : CSV y 350 yX11_count 1 11 := ⟨⟨by rw [h]; exact tb_4 199 rfl rfl, ok_X11_count.1, ok_X11_count.2.1, ok_X11_count.2.2.1, ok_X11_count.2.2.2⟩, im_X11_count, se_X11_count, by decide, rfl⟩
theorem cs_X11_353 {y : Yx} (h : y.1.cls = "WithinWords") : CSV y 353 yX3_mixInto 1 3 := ⟨⟨by rw [h]; exact tb_4 200 rfl rfl, ok_X3_mixInto.1, ok_X3_mixInto.2.1, ok_X3_mixInto.2.2.1, ok_X3_mixInto.2.2.2⟩, im_X3_mixInto, se_X3_mixInto, by decide, rfl⟩
theorem cs_X11_361 {y : Yx} (h : y.1.cls = "WithinWords") : CSV y 361 yX5_begin 0 5 := ⟨⟨by rw [h]; exact tb_4 7 rfl rfl, ok_X5_begin.1, ok_X5_begin.2.1, ok_X5_begin.2.2.1, ok_X5_begin.2.2.2⟩, im_X5_begin, se_X5_begin, by decide, rfl⟩
theorem cs_X11_363 {y : Yx} (h : y.1.cls = "WithinWords") : CSV y 363 yX5_choose 1 5 := ⟨⟨by rw [h]; exact tb_4 11 rfl rfl, ok_X5_choose.1, ok_X5_choose.2.1, ok_X5_choose.2.2.1, ok_X5_choose.2.2.2⟩, im_X5_choose, se_X5_choose, by decide, rfl⟩
theorem cs_X11_365 {y : Yx} (h : y.1.cls = "WithinWords") : CSV y 365 yX5_states 0 5 := ⟨⟨by rw [h]; exact tb_4 15 rfl rfl, ok_X5_states.1, ok_X5_states.2.1, ok_X5_states.2.2.1, ok_X5_states.2.2.2⟩, im_X5_states, se_X5_states, by decide, rfl⟩
theorem cs_X0_50 {y : Yx} (h : y.1.cls = "WithinWords$Arches") : CSV y 50 yX8_read 1 8 := ⟨⟨by rw [h]; exact tb_3 190 rfl rfl, ok_X8_read.1, ok_X8_read.2.1, ok_X8_read.2.2.1, ok_X8_read.2.2.2⟩, im_X8_read, se_X8_read, by decide, rfl⟩
theorem cs_X0_54 {y : Yx} (h : y.1.cls = "WithinWords$Arches") : CSV y 54 yX0_absentFrom 2 0 := ⟨⟨by rw [h]; exact tb_3 191 rfl rfl, ok_X0_absentFrom.1, ok_X0_absentFrom.2.1, ok_X0_absentFrom.2.2.1, ok_X0_absentFrom.2.2.2⟩, im_X0_absentFrom, se_X0_absentFrom, by decide, rfl⟩
theorem cs_X0_58 {y : Yx} (h : y.1.cls = "WithinWords$Arches") : CSV y 58 yX8_behind 2 8 := ⟨⟨by rw [h]; exact tb_3 195 rfl rfl, ok_X8_behind.1, ok_X8_behind.2.1, ok_X8_behind.2.2.1, ok_X8_behind.2.2.2⟩, im_X8_behind, se_X8_behind, by decide, rfl⟩
theorem cs_X1_24 {y : Yx} (h : y.1.cls = "WithinWords$Dropping") : CSV y 24 yX1_lookBehind 2 1 := ⟨⟨by rw [h]; exact tb_3 27 rfl rfl, ok_X1_lookBehind.1, ok_X1_lookBehind.2.1, ok_X1_lookBehind.2.2.1, ok_X1_lookBehind.2.2.2⟩, im_X1_lookBehind, se_X1_lookBehind, by decide, rfl⟩
theorem cs_X1_31 {y : Yx} (h : y.1.cls = "WithinWords$Dropping") : CSV y 31 yX1_lookAhead 3 1 := ⟨⟨by rw [h]; exact tb_3 34 rfl rfl, ok_X1_lookAhead.1, ok_X1_lookAhead.2.1, ok_X1_lookAhead.2.2.1, ok_X1_lookAhead.2.2.2⟩, im_X1_lookAhead, se_X1_lookAhead, by decide, rfl⟩
theorem cs_X2_22 {y : Yx} (h : y.1.cls = "WithinWords$InnerWords") : CSV y 22 yX8_read 1 8 := ⟨⟨by rw [h]; exact tb_3 126 rfl rfl, ok_X8_read.1, ok_X8_read.2.1, ok_X8_read.2.2.1, ok_X8_read.2.2.2⟩, im_X8_read, se_X8_read, by decide, rfl⟩
theorem cs_X2_39 {y : Yx} (h : y.1.cls = "WithinWords$InnerWords") : CSV y 39 yX8_behind 2 8 := ⟨⟨by rw [h]; exact tb_3 131 rfl rfl, ok_X8_behind.1, ok_X8_behind.2.1, ok_X8_behind.2.2.1, ok_X8_behind.2.2.2⟩, im_X8_behind, se_X8_behind, by decide, rfl⟩
theorem cs_X2_43 {y : Yx} (h : y.1.cls = "WithinWords$InnerWords") : CSV y 43 yX2_readPlace 2 2 := ⟨⟨by rw [h]; exact tb_3 135 rfl rfl, ok_X2_readPlace.1, ok_X2_readPlace.2.1, ok_X2_readPlace.2.2.1, ok_X2_readPlace.2.2.2⟩, im_X2_readPlace, se_X2_readPlace, by decide, rfl⟩
theorem cs_X2_47 {y : Yx} (h : y.1.cls = "WithinWords$InnerWords") : CSV y 47 yX2_countBegun 3 2 := ⟨⟨by rw [h]; exact tb_3 155 rfl rfl, ok_X2_countBegun.1, ok_X2_countBegun.2.1, ok_X2_countBegun.2.2.1, ok_X2_countBegun.2.2.2⟩, im_X2_countBegun, se_X2_countBegun, by decide, rfl⟩
theorem cs_X4_25 {y : Yx} (h : y.1.cls = "WithinWords$Pair") : CSV y 25 yX8_read 1 8 := ⟨⟨by rw [h]; exact tb_3 217 rfl rfl, ok_X8_read.1, ok_X8_read.2.1, ok_X8_read.2.2.1, ok_X8_read.2.2.2⟩, im_X8_read, se_X8_read, by decide, rfl⟩
theorem cs_X4_39 {y : Yx} (h : y.1.cls = "WithinWords$Pair") : CSV y 39 yX4_shortestParting 2 4 := ⟨⟨by rw [h]; exact tb_3 221 rfl rfl, ok_X4_shortestParting.1, ok_X4_shortestParting.2.1, ok_X4_shortestParting.2.2.1, ok_X4_shortestParting.2.2.2⟩, im_X4_shortestParting, se_X4_shortestParting, by decide, rfl⟩
theorem cs_X4_47 {y : Yx} (h : y.1.cls = "WithinWords$Pair") : CSV y 47 yX4_partingFrom 3 4 := ⟨⟨by rw [h]; exact tb_3 225 rfl rfl, ok_X4_partingFrom.1, ok_X4_partingFrom.2.1, ok_X4_partingFrom.2.2.1, ok_X4_partingFrom.2.2.2⟩, im_X4_partingFrom, se_X4_partingFrom, by decide, rfl⟩
theorem cs_X4_51 {y : Yx} (h : y.1.cls = "WithinWords$Pair") : CSV y 51 yX8_behind 2 8 := ⟨⟨by rw [h]; exact tb_3 229 rfl rfl, ok_X8_behind.1, ok_X8_behind.2.1, ok_X8_behind.2.2.1, ok_X8_behind.2.2.2⟩, im_X8_behind, se_X8_behind, by decide, rfl⟩
theorem cs_X4_55 {y : Yx} (h : y.1.cls = "WithinWords$Pair") : CSV y 55 yX4_sharedFrom 2 4 := ⟨⟨by rw [h]; exact tb_4 92 rfl rfl, ok_X4_sharedFrom.1, ok_X4_sharedFrom.2.1, ok_X4_sharedFrom.2.2.1, ok_X4_sharedFrom.2.2.2⟩, im_X4_sharedFrom, se_X4_sharedFrom, by decide, rfl⟩
theorem cs_X5_37 {y : Yx} (h : y.1.cls = "WithinWords$Several") : CSV y 37 yX5_goToEnd 0 5 := ⟨⟨by rw [h]; exact tb_4 23 rfl rfl, ok_X5_goToEnd.1, ok_X5_goToEnd.2.1, ok_X5_goToEnd.2.2.1, ok_X5_goToEnd.2.2.2⟩, im_X5_goToEnd, se_X5_goToEnd, by decide, rfl⟩
theorem cs_X5_43 {y : Yx} (h : y.1.cls = "WithinWords$Several") : CSV y 43 yX5_commonFrom 1 5 := ⟨⟨by rw [h]; exact tb_4 27 rfl rfl, ok_X5_commonFrom.1, ok_X5_commonFrom.2.1, ok_X5_commonFrom.2.2.1, ok_X5_commonFrom.2.2.2⟩, im_X5_commonFrom, se_X5_commonFrom, by decide, rfl⟩
theorem cs_X5_47 {y : Yx} (h : y.1.cls = "WithinWords$Several") : CSV y 47 yX5_stepBack 0 5 := ⟨⟨by rw [h]; exact tb_4 38 rfl rfl, ok_X5_stepBack.1, ok_X5_stepBack.2.1, ok_X5_stepBack.2.2.1, ok_X5_stepBack.2.2.2⟩, im_X5_stepBack, se_X5_stepBack, by decide, rfl⟩
theorem cs_X5_50 {y : Yx} (h : y.1.cls = "WithinWords$Several") : CSV y 50 yX5_goToBeginning 0 5 := ⟨⟨by rw [h]; exact tb_4 42 rfl rfl, ok_X5_goToBeginning.1, ok_X5_goToBeginning.2.1, ok_X5_goToBeginning.2.2.1, ok_X5_goToBeginning.2.2.2⟩, im_X5_goToBeginning, se_X5_goToBeginning, by decide, rfl⟩
theorem cs_X5_53 {y : Yx} (h : y.1.cls = "WithinWords$Several") : CSV y 53 yX5_commonLetter 1 5 := ⟨⟨by rw [h]; exact tb_4 46 rfl rfl, ok_X5_commonLetter.1, ok_X5_commonLetter.2.1, ok_X5_commonLetter.2.2.1, ok_X5_commonLetter.2.2.2⟩, im_X5_commonLetter, se_X5_commonLetter, by decide, rfl⟩
theorem cs_X5_62 {y : Yx} (h : y.1.cls = "WithinWords$Several") : CSV y 62 yX5_head 1 5 := ⟨⟨by rw [h]; exact tb_4 34 rfl rfl, ok_X5_head.1, ok_X5_head.2.1, ok_X5_head.2.2.1, ok_X5_head.2.2.2⟩, im_X5_head, se_X5_head, by decide, rfl⟩
theorem cs_X5_65 {y : Yx} (h : y.1.cls = "WithinWords$Several") : CSV y 65 yX5_leads 2 5 := ⟨⟨by rw [h]; exact tb_4 50 rfl rfl, ok_X5_leads.1, ok_X5_leads.2.1, ok_X5_leads.2.2.1, ok_X5_leads.2.2.2⟩, im_X5_leads, se_X5_leads, by decide, rfl⟩
theorem cs_X5_69 {y : Yx} (h : y.1.cls = "WithinWords$Several") : CSV y 69 yX5_behindNext 2 5 := ⟨⟨by rw [h]; exact tb_4 54 rfl rfl, ok_X5_behindNext.1, ok_X5_behindNext.2.1, ok_X5_behindNext.2.2.1, ok_X5_behindNext.2.2.2⟩, im_X5_behindNext, se_X5_behindNext, by decide, rfl⟩
theorem cs_X5_75 {y : Yx} (h : y.1.cls = "WithinWords$Several") : CSV y 75 yX5_coverFrom 1 5 := ⟨⟨by rw [h]; exact tb_4 66 rfl rfl, ok_X5_coverFrom.1, ok_X5_coverFrom.2.1, ok_X5_coverFrom.2.2.1, ok_X5_coverFrom.2.2.2⟩, im_X5_coverFrom, se_X5_coverFrom, by decide, rfl⟩
theorem cs_X5_78 {y : Yx} (h : y.1.cls = "WithinWords$Several") : CSV y 78 yX5_readHeads 0 5 := ⟨⟨by rw [h]; exact tb_4 70 rfl rfl, ok_X5_readHeads.1, ok_X5_readHeads.2.1, ok_X5_readHeads.2.2.1, ok_X5_readHeads.2.2.2⟩, im_X5_readHeads, se_X5_readHeads, by decide, rfl⟩
theorem cs_X5_81 {y : Yx} (h : y.1.cls = "WithinWords$Several") : CSV y 81 yX5_coversBy 2 5 := ⟨⟨by rw [h]; exact tb_4 75 rfl rfl, ok_X5_coversBy.1, ok_X5_coversBy.2.1, ok_X5_coversBy.2.2.1, ok_X5_coversBy.2.2.2⟩, im_X5_coversBy, se_X5_coversBy, by decide, rfl⟩
theorem cs_X5_84 {y : Yx} (h : y.1.cls = "WithinWords$Several") : CSV y 84 yX5_goBehind 1 5 := ⟨⟨by rw [h]; exact tb_4 79 rfl rfl, ok_X5_goBehind.1, ok_X5_goBehind.2.1, ok_X5_goBehind.2.2.1, ok_X5_goBehind.2.2.2⟩, im_X5_goBehind, se_X5_goBehind, by decide, rfl⟩
theorem cs_X6_38 {y : Yx} (h : y.1.cls = "WithinWords$Spelling") : CSV y 38 yX6_goesOn 2 6 := ⟨⟨by rw [h]; exact tb_2 212 rfl rfl, ok_X6_goesOn.1, ok_X6_goesOn.2.1, ok_X6_goesOn.2.2.1, ok_X6_goesOn.2.2.2⟩, im_X6_goesOn, se_X6_goesOn, by decide, rfl⟩
theorem cs_X6_42 {y : Yx} (h : y.1.cls = "WithinWords$Spelling") : CSV y 42 yX6_addLetter 1 6 := ⟨⟨by rw [h]; exact tb_2 216 rfl rfl, ok_X6_addLetter.1, ok_X6_addLetter.2.1, ok_X6_addLetter.2.2.1, ok_X6_addLetter.2.2.2⟩, im_X6_addLetter, se_X6_addLetter, by decide, rfl⟩
theorem cs_X6_46 {y : Yx} (h : y.1.cls = "WithinWords$Spelling") : CSV y 46 yX6_open 0 6 := ⟨⟨by rw [h]; exact tb_2 220 rfl rfl, ok_X6_open.1, ok_X6_open.2.1, ok_X6_open.2.2.1, ok_X6_open.2.2.2⟩, im_X6_open, se_X6_open, by decide, rfl⟩
theorem cs_X6_50 {y : Yx} (h : y.1.cls = "WithinWords$Spelling") : CSV y 50 yX6_close 0 6 := ⟨⟨by rw [h]; exact tb_2 224 rfl rfl, ok_X6_close.1, ok_X6_close.2.1, ok_X6_close.2.2.1, ok_X6_close.2.2.2⟩, im_X6_close, se_X6_close, by decide, rfl⟩
theorem cs_X6_53 {y : Yx} (h : y.1.cls = "WithinWords$Spelling") : CSV y 53 yX6_repeat 1 6 := ⟨⟨by rw [h]; exact tb_2 228 rfl rfl, ok_X6_repeat.1, ok_X6_repeat.2.1, ok_X6_repeat.2.2.1, ok_X6_repeat.2.2.2⟩, im_X6_repeat, se_X6_repeat, by decide, rfl⟩
theorem cs_X7_34 {y : Yx} (h : y.1.cls = "WithinWords$Standing") : CSV y 34 yX3_has 1 3 := ⟨⟨by rw [h]; exact tb_3 108 rfl rfl, ok_X3_has.1, ok_X3_has.2.1, ok_X3_has.2.2.1, ok_X3_has.2.2.2⟩, im_X3_has, se_X3_has, by decide, rfl⟩
theorem cs_X9_51 {y : Yx} (h : y.1.cls = "WithinWords$Twins") : CSV y 51 yX9_addLetter 1 9 := ⟨⟨by rw [h]; exact tb_4 107 rfl rfl, ok_X9_addLetter.1, ok_X9_addLetter.2.1, ok_X9_addLetter.2.2.1, ok_X9_addLetter.2.2.2⟩, im_X9_addLetter, se_X9_addLetter, by decide, rfl⟩
theorem cs_X9_55 {y : Yx} (h : y.1.cls = "WithinWords$Twins") : CSV y 55 yX9_countsOfDepth 0 9 := ⟨⟨by rw [h]; exact tb_4 111 rfl rfl, ok_X9_countsOfDepth.1, ok_X9_countsOfDepth.2.1, ok_X9_countsOfDepth.2.2.1, ok_X9_countsOfDepth.2.2.2⟩, im_X9_countsOfDepth, se_X9_countsOfDepth, by decide, rfl⟩
theorem cs_X9_65 {y : Yx} (h : y.1.cls = "WithinWords$Twins") : CSV y 65 yX9_takeLetter 1 9 := ⟨⟨by rw [h]; exact tb_4 116 rfl rfl, ok_X9_takeLetter.1, ok_X9_takeLetter.2.1, ok_X9_takeLetter.2.2.1, ok_X9_takeLetter.2.2.2⟩, im_X9_takeLetter, se_X9_takeLetter, by decide, rfl⟩
theorem cs_X9_68 {y : Yx} (h : y.1.cls = "WithinWords$Twins") : CSV y 68 yX9_grow 1 9 := ⟨⟨by rw [h]; exact tb_4 120 rfl rfl, ok_X9_grow.1, ok_X9_grow.2.1, ok_X9_grow.2.2.1, ok_X9_grow.2.2.2⟩, im_X9_grow, se_X9_grow, by decide, rfl⟩
theorem cs_X9_71 {y : Yx} (h : y.1.cls = "WithinWords$Twins") : CSV y 71 yX9_keepTwin 0 9 := ⟨⟨by rw [h]; exact tb_4 124 rfl rfl, ok_X9_keepTwin.1, ok_X9_keepTwin.2.1, ok_X9_keepTwin.2.2.1, ok_X9_keepTwin.2.2.2⟩, im_X9_keepTwin, se_X9_keepTwin, by decide, rfl⟩
theorem cs_X9_74 {y : Yx} (h : y.1.cls = "WithinWords$Twins") : CSV y 74 yX9_hasTooMany 1 9 := ⟨⟨by rw [h]; exact tb_4 128 rfl rfl, ok_X9_hasTooMany.1, ok_X9_hasTooMany.2.1, ok_X9_hasTooMany.2.2.1, ok_X9_hasTooMany.2.2.2⟩, im_X9_hasTooMany, se_X9_hasTooMany, by decide, rfl⟩
theorem cs_X10_30 {y : Yx} (h : y.1.cls = "WithinWords$Word") : CSV y 30 yX3_take 2 3 := ⟨⟨by rw [h]; exact tb_2 196 rfl rfl, ok_X3_take.1, ok_X3_take.2.1, ok_X3_take.2.2.1, ok_X3_take.2.2.2⟩, im_X3_take, se_X3_take, by decide, rfl⟩
theorem cs_L_13 {y : Yx} (h : y.1.cls = "WithinWordsLaw") : CSV y 13 yX11_row 2 11 := ⟨⟨by rw [h]; exact tb_2 104 rfl rfl, ok_X11_row.1, ok_X11_row.2.1, ok_X11_row.2.2.1, ok_X11_row.2.2.2⟩, im_X11_row, se_X11_row, by decide, rfl⟩
theorem cs_L_17 {y : Yx} (h : y.1.cls = "WithinWordsLaw") : CSV y 17 yX12_row 2 12 := ⟨⟨by rw [h]; exact tb_5 133 rfl rfl, ok_X12_row.1, ok_X12_row.2.1, ok_X12_row.2.2.1, ok_X12_row.2.2.2⟩, im_X12_row, se_X12_row, by decide, rfl⟩
theorem cs_L_18 {y : Yx} (h : y.1.cls = "WithinWordsLaw") : CSV y 18 yX11_lay 3 11 := ⟨⟨by rw [h]; exact tb_2 119 rfl rfl, ok_X11_lay.1, ok_X11_lay.2.1, ok_X11_lay.2.2.1, ok_X11_lay.2.2.2⟩, im_X11_lay, se_X11_lay, by decide, rfl⟩
theorem cs_L_22 {y : Yx} (h : y.1.cls = "WithinWordsLaw") : CSV y 22 yX12_lay 3 12 := ⟨⟨by rw [h]; exact tb_5 144 rfl rfl, ok_X12_lay.1, ok_X12_lay.2.1, ok_X12_lay.2.2.1, ok_X12_lay.2.2.2⟩, im_X12_lay, se_X12_lay, by decide, rfl⟩
theorem cs_L_23 {y : Yx} (h : y.1.cls = "WithinWordsLaw") : CSV y 23 yX11_at 2 11 := ⟨⟨by rw [h]; exact tb_2 139 rfl rfl, ok_X11_at.1, ok_X11_at.2.1, ok_X11_at.2.2.1, ok_X11_at.2.2.2⟩, im_X11_at, se_X11_at, by decide, rfl⟩
theorem cs_L_26 {y : Yx} (h : y.1.cls = "WithinWordsLaw") : CSV y 26 yX12_at 2 12 := ⟨⟨by rw [h]; exact tb_5 156 rfl rfl, ok_X12_at.1, ok_X12_at.2.1, ok_X12_at.2.2.1, ok_X12_at.2.2.2⟩, im_X12_at, se_X12_at, by decide, rfl⟩
theorem cs_L_27 {y : Yx} (h : y.1.cls = "WithinWordsLaw") : CSV y 27 yX11_tear 1 11 := ⟨⟨by rw [h]; exact tb_2 143 rfl rfl, ok_X11_tear.1, ok_X11_tear.2.1, ok_X11_tear.2.2.1, ok_X11_tear.2.2.2⟩, im_X11_tear, se_X11_tear, by decide, rfl⟩
theorem cs_L_31 {y : Yx} (h : y.1.cls = "WithinWordsLaw") : CSV y 31 yX12_tear 1 12 := ⟨⟨by rw [h]; exact tb_5 160 rfl rfl, ok_X12_tear.1, ok_X12_tear.2.1, ok_X12_tear.2.2.1, ok_X12_tear.2.2.2⟩, im_X12_tear, se_X12_tear, by decide, rfl⟩
theorem cs_L_32 {y : Yx} (h : y.1.cls = "WithinWordsLaw") : CSV y 32 yX11_copy 5 11 := ⟨⟨by rw [h]; exact tb_2 147 rfl rfl, ok_X11_copy.1, ok_X11_copy.2.1, ok_X11_copy.2.2.1, ok_X11_copy.2.2.2⟩, im_X11_copy, se_X11_copy, by decide, rfl⟩
theorem cs_L_36 {y : Yx} (h : y.1.cls = "WithinWordsLaw") : CSV y 36 yX12_copy 5 12 := ⟨⟨by rw [h]; exact tb_5 164 rfl rfl, ok_X12_copy.1, ok_X12_copy.2.1, ok_X12_copy.2.2.1, ok_X12_copy.2.2.2⟩, im_X12_copy, se_X12_copy, by decide, rfl⟩
theorem cs_L_37 {y : Yx} (h : y.1.cls = "WithinWordsLaw") : CSV y 37 yX11_mean 1 11 := ⟨⟨by rw [h]; exact tb_2 158 rfl rfl, ok_X11_mean.1, ok_X11_mean.2.1, ok_X11_mean.2.2.1, ok_X11_mean.2.2.2⟩, im_X11_mean, se_X11_mean, by decide, rfl⟩
theorem cs_L_40 {y : Yx} (h : y.1.cls = "WithinWordsLaw") : CSV y 40 yX12_mean 1 12 := ⟨⟨by rw [h]; exact tb_5 168 rfl rfl, ok_X12_mean.1, ok_X12_mean.2.1, ok_X12_mean.2.2.1, ok_X12_mean.2.2.2⟩, im_X12_mean, se_X12_mean, by decide, rfl⟩
theorem cs_L_41 {y : Yx} (h : y.1.cls = "WithinWordsLaw") : CSV y 41 yX11_text 2 11 := ⟨⟨by rw [h]; exact tb_2 162 rfl rfl, ok_X11_text.1, ok_X11_text.2.1, ok_X11_text.2.2.1, ok_X11_text.2.2.2⟩, im_X11_text, se_X11_text, by decide, rfl⟩
theorem cs_L_44 {y : Yx} (h : y.1.cls = "WithinWordsLaw") : CSV y 44 yX12_text 2 12 := ⟨⟨by rw [h]; exact tb_5 172 rfl rfl, ok_X12_text.1, ok_X12_text.2.1, ok_X12_text.2.2.1, ok_X12_text.2.2.2⟩, im_X12_text, se_X12_text, by decide, rfl⟩
theorem cs_L_45 {y : Yx} (h : y.1.cls = "WithinWordsLaw") : CSV y 45 yX11_put 3 11 := ⟨⟨by rw [h]; exact tb_2 169 rfl rfl, ok_X11_put.1, ok_X11_put.2.1, ok_X11_put.2.2.1, ok_X11_put.2.2.2⟩, im_X11_put, se_X11_put, by decide, rfl⟩
theorem cs_L_48 {y : Yx} (h : y.1.cls = "WithinWordsLaw") : CSV y 48 yX12_put 3 12 := ⟨⟨by rw [h]; exact tb_5 179 rfl rfl, ok_X12_put.1, ok_X12_put.2.1, ok_X12_put.2.2.1, ok_X12_put.2.2.2⟩, im_X12_put, se_X12_put, by decide, rfl⟩
theorem cs_L_49 {y : Yx} (h : y.1.cls = "WithinWordsLaw") : CSV y 49 yX11_letters 1 11 := ⟨⟨by rw [h]; exact tb_2 177 rfl rfl, ok_X11_letters.1, ok_X11_letters.2.1, ok_X11_letters.2.2.1, ok_X11_letters.2.2.2⟩, im_X11_letters, se_X11_letters, by decide, rfl⟩
theorem cs_L_52 {y : Yx} (h : y.1.cls = "WithinWordsLaw") : CSV y 52 yX12_letters 1 12 := ⟨⟨by rw [h]; exact tb_5 183 rfl rfl, ok_X12_letters.1, ok_X12_letters.2.1, ok_X12_letters.2.2.1, ok_X12_letters.2.2.2⟩, im_X12_letters, se_X12_letters, by decide, rfl⟩
theorem cs_L_53 {y : Yx} (h : y.1.cls = "WithinWordsLaw") : CSV y 53 yX11_word 2 11 := ⟨⟨by rw [h]; exact tb_2 185 rfl rfl, ok_X11_word.1, ok_X11_word.2.1, ok_X11_word.2.2.1, ok_X11_word.2.2.2⟩, im_X11_word, se_X11_word, by decide, rfl⟩
theorem cs_L_56 {y : Yx} (h : y.1.cls = "WithinWordsLaw") : CSV y 56 yX12_word 2 12 := ⟨⟨by rw [h]; exact tb_5 191 rfl rfl, ok_X12_word.1, ok_X12_word.2.1, ok_X12_word.2.2.1, ok_X12_word.2.2.2⟩, im_X12_word, se_X12_word, by decide, rfl⟩
theorem cs_L_57 {y : Yx} (h : y.1.cls = "WithinWordsLaw") : CSV y 57 yX11_fault 1 11 := ⟨⟨by rw [h]; exact tb_2 201 rfl rfl, ok_X11_fault.1, ok_X11_fault.2.1, ok_X11_fault.2.2.1, ok_X11_fault.2.2.2⟩, im_X11_fault, se_X11_fault, by decide, rfl⟩
theorem cs_L_60 {y : Yx} (h : y.1.cls = "WithinWordsLaw") : CSV y 60 yX12_fault 1 12 := ⟨⟨by rw [h]; exact tb_5 206 rfl rfl, ok_X12_fault.1, ok_X12_fault.2.1, ok_X12_fault.2.2.1, ok_X12_fault.2.2.2⟩, im_X12_fault, se_X12_fault, by decide, rfl⟩
theorem cs_L_61 {y : Yx} (h : y.1.cls = "WithinWordsLaw") : CSV y 61 yX11_tell 2 11 := ⟨⟨by rw [h]; exact tb_2 232 rfl rfl, ok_X11_tell.1, ok_X11_tell.2.1, ok_X11_tell.2.2.1, ok_X11_tell.2.2.2⟩, im_X11_tell, se_X11_tell, by decide, rfl⟩
theorem cs_L_64 {y : Yx} (h : y.1.cls = "WithinWordsLaw") : CSV y 64 yX12_tell 2 12 := ⟨⟨by rw [h]; exact tb_5 230 rfl rfl, ok_X12_tell.1, ok_X12_tell.2.1, ok_X12_tell.2.2.1, ok_X12_tell.2.2.2⟩, im_X12_tell, se_X12_tell, by decide, rfl⟩
theorem cs_L_65 {y : Yx} (h : y.1.cls = "WithinWordsLaw") : CSV y 65 yX11_join 3 11 := ⟨⟨by rw [h]; exact tb_2 236 rfl rfl, ok_X11_join.1, ok_X11_join.2.1, ok_X11_join.2.2.1, ok_X11_join.2.2.2⟩, im_X11_join, se_X11_join, by decide, rfl⟩
theorem cs_L_68 {y : Yx} (h : y.1.cls = "WithinWordsLaw") : CSV y 68 yX12_join 3 12 := ⟨⟨by rw [h]; exact tb_5 234 rfl rfl, ok_X12_join.1, ok_X12_join.2.1, ok_X12_join.2.2.1, ok_X12_join.2.2.2⟩, im_X12_join, se_X12_join, by decide, rfl⟩
theorem cs_L_69 {y : Yx} (h : y.1.cls = "WithinWordsLaw") : CSV y 69 yX11_part 4 11 := ⟨⟨by rw [h]; exact tb_3 4 rfl rfl, ok_X11_part.1, ok_X11_part.2.1, ok_X11_part.2.2.1, ok_X11_part.2.2.2⟩, im_X11_part, se_X11_part, by decide, rfl⟩
theorem cs_L_73 {y : Yx} (h : y.1.cls = "WithinWordsLaw") : CSV y 73 yX12_part 4 12 := ⟨⟨by rw [h]; exact tb_6 6 rfl rfl, ok_X12_part.1, ok_X12_part.2.1, ok_X12_part.2.2.1, ok_X12_part.2.2.2⟩, im_X12_part, se_X12_part, by decide, rfl⟩
theorem cs_L_74 {y : Yx} (h : y.1.cls = "WithinWordsLaw") : CSV y 74 yX11_turn 3 11 := ⟨⟨by rw [h]; exact tb_3 8 rfl rfl, ok_X11_turn.1, ok_X11_turn.2.1, ok_X11_turn.2.2.1, ok_X11_turn.2.2.2⟩, im_X11_turn, se_X11_turn, by decide, rfl⟩
theorem cs_L_77 {y : Yx} (h : y.1.cls = "WithinWordsLaw") : CSV y 77 yX12_turn 3 12 := ⟨⟨by rw [h]; exact tb_6 10 rfl rfl, ok_X12_turn.1, ok_X12_turn.2.1, ok_X12_turn.2.2.1, ok_X12_turn.2.2.2⟩, im_X12_turn, se_X12_turn, by decide, rfl⟩
theorem cs_L_78 {y : Yx} (h : y.1.cls = "WithinWordsLaw") : CSV y 78 yX11_drop 3 11 := ⟨⟨by rw [h]; exact tb_3 16 rfl rfl, ok_X11_drop.1, ok_X11_drop.2.1, ok_X11_drop.2.2.1, ok_X11_drop.2.2.2⟩, im_X11_drop, se_X11_drop, by decide, rfl⟩
theorem cs_L_81 {y : Yx} (h : y.1.cls = "WithinWordsLaw") : CSV y 81 yX12_drop 3 12 := ⟨⟨by rw [h]; exact tb_6 156 rfl rfl, ok_X12_drop.1, ok_X12_drop.2.1, ok_X12_drop.2.2.1, ok_X12_drop.2.2.2⟩, im_X12_drop, se_X12_drop, by decide, rfl⟩
theorem cs_L_82 {y : Yx} (h : y.1.cls = "WithinWordsLaw") : CSV y 82 yX11_erase 1 11 := ⟨⟨by rw [h]; exact tb_3 38 rfl rfl, ok_X11_erase.1, ok_X11_erase.2.1, ok_X11_erase.2.2.1, ok_X11_erase.2.2.2⟩, im_X11_erase, se_X11_erase, by decide, rfl⟩
theorem cs_L_85 {y : Yx} (h : y.1.cls = "WithinWordsLaw") : CSV y 85 yX12_erase 1 12 := ⟨⟨by rw [h]; exact tb_6 18 rfl rfl, ok_X12_erase.1, ok_X12_erase.2.1, ok_X12_erase.2.2.1, ok_X12_erase.2.2.2⟩, im_X12_erase, se_X12_erase, by decide, rfl⟩
theorem cs_L_86 {y : Yx} (h : y.1.cls = "WithinWordsLaw") : CSV y 86 yX11_size 1 11 := ⟨⟨by rw [h]; exact tb_3 42 rfl rfl, ok_X11_size.1, ok_X11_size.2.1, ok_X11_size.2.2.1, ok_X11_size.2.2.2⟩, im_X11_size, se_X11_size, by decide, rfl⟩
theorem cs_L_89 {y : Yx} (h : y.1.cls = "WithinWordsLaw") : CSV y 89 yX12_size 1 12 := ⟨⟨by rw [h]; exact tb_6 22 rfl rfl, ok_X12_size.1, ok_X12_size.2.1, ok_X12_size.2.2.1, ok_X12_size.2.2.2⟩, im_X12_size, se_X12_size, by decide, rfl⟩
theorem cs_L_90 {y : Yx} (h : y.1.cls = "WithinWordsLaw") : CSV y 90 yX11_letter 2 11 := ⟨⟨by rw [h]; exact tb_3 46 rfl rfl, ok_X11_letter.1, ok_X11_letter.2.1, ok_X11_letter.2.2.1, ok_X11_letter.2.2.2⟩, im_X11_letter, se_X11_letter, by decide, rfl⟩
theorem cs_L_93 {y : Yx} (h : y.1.cls = "WithinWordsLaw") : CSV y 93 yX12_letter 2 12 := ⟨⟨by rw [h]; exact tb_6 26 rfl rfl, ok_X12_letter.1, ok_X12_letter.2.1, ok_X12_letter.2.2.1, ok_X12_letter.2.2.2⟩, im_X12_letter, se_X12_letter, by decide, rfl⟩
theorem cs_L_94 {y : Yx} (h : y.1.cls = "WithinWordsLaw") : CSV y 94 yX11_kind 1 11 := ⟨⟨by rw [h]; exact tb_3 50 rfl rfl, ok_X11_kind.1, ok_X11_kind.2.1, ok_X11_kind.2.2.1, ok_X11_kind.2.2.2⟩, im_X11_kind, se_X11_kind, by decide, rfl⟩
theorem cs_L_97 {y : Yx} (h : y.1.cls = "WithinWordsLaw") : CSV y 97 yX12_kind 1 12 := ⟨⟨by rw [h]; exact tb_6 30 rfl rfl, ok_X12_kind.1, ok_X12_kind.2.1, ok_X12_kind.2.2.1, ok_X12_kind.2.2.2⟩, im_X12_kind, se_X12_kind, by decide, rfl⟩
theorem cs_L_98 {y : Yx} (h : y.1.cls = "WithinWordsLaw") : CSV y 98 yX11_mark 2 11 := ⟨⟨by rw [h]; exact tb_3 54 rfl rfl, ok_X11_mark.1, ok_X11_mark.2.1, ok_X11_mark.2.2.1, ok_X11_mark.2.2.2⟩, im_X11_mark, se_X11_mark, by decide, rfl⟩
theorem cs_L_101 {y : Yx} (h : y.1.cls = "WithinWordsLaw") : CSV y 101 yX12_mark 2 12 := ⟨⟨by rw [h]; exact tb_6 34 rfl rfl, ok_X12_mark.1, ok_X12_mark.2.1, ok_X12_mark.2.2.1, ok_X12_mark.2.2.2⟩, im_X12_mark, se_X12_mark, by decide, rfl⟩
theorem cs_L_102 {y : Yx} (h : y.1.cls = "WithinWordsLaw") : CSV y 102 yX11_ways 2 11 := ⟨⟨by rw [h]; exact tb_3 66 rfl rfl, ok_X11_ways.1, ok_X11_ways.2.1, ok_X11_ways.2.2.1, ok_X11_ways.2.2.2⟩, im_X11_ways, se_X11_ways, by decide, rfl⟩
theorem cs_L_105 {y : Yx} (h : y.1.cls = "WithinWordsLaw") : CSV y 105 yX12_ways 2 12 := ⟨⟨by rw [h]; exact tb_6 42 rfl rfl, ok_X12_ways.1, ok_X12_ways.2.1, ok_X12_ways.2.2.1, ok_X12_ways.2.2.2⟩, im_X12_ways, se_X12_ways, by decide, rfl⟩
theorem cs_L_106 {y : Yx} (h : y.1.cls = "WithinWordsLaw") : CSV y 106 yX11_way 4 11 := ⟨⟨by rw [h]; exact tb_3 74 rfl rfl, ok_X11_way.1, ok_X11_way.2.1, ok_X11_way.2.2.1, ok_X11_way.2.2.2⟩, im_X11_way, se_X11_way, by decide, rfl⟩
theorem cs_L_110 {y : Yx} (h : y.1.cls = "WithinWordsLaw") : CSV y 110 yX12_way 4 12 := ⟨⟨by rw [h]; exact tb_6 54 rfl rfl, ok_X12_way.1, ok_X12_way.2.1, ok_X12_way.2.2.1, ok_X12_way.2.2.2⟩, im_X12_way, se_X12_way, by decide, rfl⟩
theorem cs_L_111 {y : Yx} (h : y.1.cls = "WithinWordsLaw") : CSV y 111 yX11_places 3 11 := ⟨⟨by rw [h]; exact tb_3 83 rfl rfl, ok_X11_places.1, ok_X11_places.2.1, ok_X11_places.2.2.1, ok_X11_places.2.2.2⟩, im_X11_places, se_X11_places, by decide, rfl⟩
theorem cs_L_115 {y : Yx} (h : y.1.cls = "WithinWordsLaw") : CSV y 115 yX12_places 3 12 := ⟨⟨by rw [h]; exact tb_6 70 rfl rfl, ok_X12_places.1, ok_X12_places.2.1, ok_X12_places.2.2.1, ok_X12_places.2.2.2⟩, im_X12_places, se_X12_places, by decide, rfl⟩
theorem cs_L_116 {y : Yx} (h : y.1.cls = "WithinWordsLaw") : CSV y 116 yX11_judge 3 11 := ⟨⟨by rw [h]; exact tb_3 101 rfl rfl, ok_X11_judge.1, ok_X11_judge.2.1, ok_X11_judge.2.2.1, ok_X11_judge.2.2.2⟩, im_X11_judge, se_X11_judge, by decide, rfl⟩
theorem cs_L_119 {y : Yx} (h : y.1.cls = "WithinWordsLaw") : CSV y 119 yX12_judge 3 12 := ⟨⟨by rw [h]; exact tb_6 74 rfl rfl, ok_X12_judge.1, ok_X12_judge.2.1, ok_X12_judge.2.2.1, ok_X12_judge.2.2.2⟩, im_X12_judge, se_X12_judge, by decide, rfl⟩
theorem cs_L_120 {y : Yx} (h : y.1.cls = "WithinWordsLaw") : CSV y 120 yX11_bar 2 11 := ⟨⟨by rw [h]; exact tb_3 109 rfl rfl, ok_X11_bar.1, ok_X11_bar.2.1, ok_X11_bar.2.2.1, ok_X11_bar.2.2.2⟩, im_X11_bar, se_X11_bar, by decide, rfl⟩
theorem cs_L_123 {y : Yx} (h : y.1.cls = "WithinWordsLaw") : CSV y 123 yX12_bar 2 12 := ⟨⟨by rw [h]; exact tb_6 78 rfl rfl, ok_X12_bar.1, ok_X12_bar.2.1, ok_X12_bar.2.2.1, ok_X12_bar.2.2.2⟩, im_X12_bar, se_X12_bar, by decide, rfl⟩
theorem cs_L_124 {y : Yx} (h : y.1.cls = "WithinWordsLaw") : CSV y 124 yX11_inner 2 11 := ⟨⟨by rw [h]; exact tb_3 118 rfl rfl, ok_X11_inner.1, ok_X11_inner.2.1, ok_X11_inner.2.2.1, ok_X11_inner.2.2.2⟩, im_X11_inner, se_X11_inner, by decide, rfl⟩
theorem cs_L_127 {y : Yx} (h : y.1.cls = "WithinWordsLaw") : CSV y 127 yX12_inner 2 12 := ⟨⟨by rw [h]; exact tb_6 82 rfl rfl, ok_X12_inner.1, ok_X12_inner.2.1, ok_X12_inner.2.2.1, ok_X12_inner.2.2.2⟩, im_X12_inner, se_X12_inner, by decide, rfl⟩
theorem cs_L_128 {y : Yx} (h : y.1.cls = "WithinWordsLaw") : CSV y 128 yX11_rank 2 11 := ⟨⟨by rw [h]; exact tb_3 147 rfl rfl, ok_X11_rank.1, ok_X11_rank.2.1, ok_X11_rank.2.2.1, ok_X11_rank.2.2.2⟩, im_X11_rank, se_X11_rank, by decide, rfl⟩
theorem cs_L_131 {y : Yx} (h : y.1.cls = "WithinWordsLaw") : CSV y 131 yX12_rank 2 12 := ⟨⟨by rw [h]; exact tb_6 90 rfl rfl, ok_X12_rank.1, ok_X12_rank.2.1, ok_X12_rank.2.2.1, ok_X12_rank.2.2.2⟩, im_X12_rank, se_X12_rank, by decide, rfl⟩
theorem cs_L_132 {y : Yx} (h : y.1.cls = "WithinWordsLaw") : CSV y 132 yX11_byRank 4 11 := ⟨⟨by rw [h]; exact tb_3 160 rfl rfl, ok_X11_byRank.1, ok_X11_byRank.2.1, ok_X11_byRank.2.2.1, ok_X11_byRank.2.2.2⟩, im_X11_byRank, se_X11_byRank, by decide, rfl⟩
theorem cs_L_135 {y : Yx} (h : y.1.cls = "WithinWordsLaw") : CSV y 135 yX12_byRank 4 12 := ⟨⟨by rw [h]; exact tb_6 94 rfl rfl, ok_X12_byRank.1, ok_X12_byRank.2.1, ok_X12_byRank.2.2.1, ok_X12_byRank.2.2.2⟩, im_X12_byRank, se_X12_byRank, by decide, rfl⟩
theorem cs_L_136 {y : Yx} (h : y.1.cls = "WithinWordsLaw") : CSV y 136 yX11_arches 1 11 := ⟨⟨by rw [h]; exact tb_3 168 rfl rfl, ok_X11_arches.1, ok_X11_arches.2.1, ok_X11_arches.2.2.1, ok_X11_arches.2.2.2⟩, im_X11_arches, se_X11_arches, by decide, rfl⟩
theorem cs_L_139 {y : Yx} (h : y.1.cls = "WithinWordsLaw") : CSV y 139 yX12_arches 1 12 := ⟨⟨by rw [h]; exact tb_6 102 rfl rfl, ok_X12_arches.1, ok_X12_arches.2.1, ok_X12_arches.2.2.1, ok_X12_arches.2.2.2⟩, im_X12_arches, se_X12_arches, by decide, rfl⟩
theorem cs_L_140 {y : Yx} (h : y.1.cls = "WithinWordsLaw") : CSV y 140 yX11_absent 2 11 := ⟨⟨by rw [h]; exact tb_3 182 rfl rfl, ok_X11_absent.1, ok_X11_absent.2.1, ok_X11_absent.2.2.1, ok_X11_absent.2.2.2⟩, im_X11_absent, se_X11_absent, by decide, rfl⟩
theorem cs_L_143 {y : Yx} (h : y.1.cls = "WithinWordsLaw") : CSV y 143 yX12_absent 2 12 := ⟨⟨by rw [h]; exact tb_6 110 rfl rfl, ok_X12_absent.1, ok_X12_absent.2.1, ok_X12_absent.2.2.1, ok_X12_absent.2.2.2⟩, im_X12_absent, se_X12_absent, by decide, rfl⟩
theorem cs_L_144 {y : Yx} (h : y.1.cls = "WithinWordsLaw") : CSV y 144 yX11_added 2 11 := ⟨⟨by rw [h]; exact tb_3 201 rfl rfl, ok_X11_added.1, ok_X11_added.2.1, ok_X11_added.2.2.1, ok_X11_added.2.2.2⟩, im_X11_added, se_X11_added, by decide, rfl⟩
theorem cs_L_147 {y : Yx} (h : y.1.cls = "WithinWordsLaw") : CSV y 147 yX12_added 2 12 := ⟨⟨by rw [h]; exact tb_6 125 rfl rfl, ok_X12_added.1, ok_X12_added.2.1, ok_X12_added.2.2.1, ok_X12_added.2.2.2⟩, im_X12_added, se_X12_added, by decide, rfl⟩
theorem cs_L_148 {y : Yx} (h : y.1.cls = "WithinWordsLaw") : CSV y 148 yX11_alike 3 11 := ⟨⟨by rw [h]; exact tb_3 209 rfl rfl, ok_X11_alike.1, ok_X11_alike.2.1, ok_X11_alike.2.2.1, ok_X11_alike.2.2.2⟩, im_X11_alike, se_X11_alike, by decide, rfl⟩
theorem cs_L_151 {y : Yx} (h : y.1.cls = "WithinWordsLaw") : CSV y 151 yX12_alike 3 12 := ⟨⟨by rw [h]; exact tb_6 132 rfl rfl, ok_X12_alike.1, ok_X12_alike.2.1, ok_X12_alike.2.2.1, ok_X12_alike.2.2.2⟩, im_X12_alike, se_X12_alike, by decide, rfl⟩
theorem cs_L_152 {y : Yx} (h : y.1.cls = "WithinWordsLaw") : CSV y 152 yX11_parting 3 11 := ⟨⟨by rw [h]; exact tb_3 230 rfl rfl, ok_X11_parting.1, ok_X11_parting.2.1, ok_X11_parting.2.2.1, ok_X11_parting.2.2.2⟩, im_X11_parting, se_X11_parting, by decide, rfl⟩
theorem cs_L_155 {y : Yx} (h : y.1.cls = "WithinWordsLaw") : CSV y 155 yX12_parting 3 12 := ⟨⟨by rw [h]; exact tb_6 152 rfl rfl, ok_X12_parting.1, ok_X12_parting.2.1, ok_X12_parting.2.2.1, ok_X12_parting.2.2.2⟩, im_X12_parting, se_X12_parting, by decide, rfl⟩
theorem cs_L_156 {y : Yx} (h : y.1.cls = "WithinWordsLaw") : CSV y 156 yX11_common 2 11 := ⟨⟨by rw [h]; exact tb_3 238 rfl rfl, ok_X11_common.1, ok_X11_common.2.1, ok_X11_common.2.2.1, ok_X11_common.2.2.2⟩, im_X11_common, se_X11_common, by decide, rfl⟩
theorem cs_L_159 {y : Yx} (h : y.1.cls = "WithinWordsLaw") : CSV y 159 yX12_common 2 12 := ⟨⟨by rw [h]; exact tb_6 168 rfl rfl, ok_X12_common.1, ok_X12_common.2.1, ok_X12_common.2.2.1, ok_X12_common.2.2.2⟩, im_X12_common, se_X12_common, by decide, rfl⟩
theorem cs_L_160 {y : Yx} (h : y.1.cls = "WithinWordsLaw") : CSV y 160 yX11_cover 2 11 := ⟨⟨by rw [h]; exact tb_4 58 rfl rfl, ok_X11_cover.1, ok_X11_cover.2.1, ok_X11_cover.2.2.1, ok_X11_cover.2.2.2⟩, im_X11_cover, se_X11_cover, by decide, rfl⟩
theorem cs_L_163 {y : Yx} (h : y.1.cls = "WithinWordsLaw") : CSV y 163 yX12_cover 2 12 := ⟨⟨by rw [h]; exact tb_6 195 rfl rfl, ok_X12_cover.1, ok_X12_cover.2.1, ok_X12_cover.2.2.1, ok_X12_cover.2.2.2⟩, im_X12_cover, se_X12_cover, by decide, rfl⟩
theorem cs_L_164 {y : Yx} (h : y.1.cls = "WithinWordsLaw") : CSV y 164 yX11_both 2 11 := ⟨⟨by rw [h]; exact tb_4 84 rfl rfl, ok_X11_both.1, ok_X11_both.2.1, ok_X11_both.2.2.1, ok_X11_both.2.2.2⟩, im_X11_both, se_X11_both, by decide, rfl⟩
theorem cs_L_167 {y : Yx} (h : y.1.cls = "WithinWordsLaw") : CSV y 167 yX12_both 2 12 := ⟨⟨by rw [h]; exact tb_6 203 rfl rfl, ok_X12_both.1, ok_X12_both.2.1, ok_X12_both.2.2.1, ok_X12_both.2.2.2⟩, im_X12_both, se_X12_both, by decide, rfl⟩
theorem cs_L_168 {y : Yx} (h : y.1.cls = "WithinWordsLaw") : CSV y 168 yX11_twins 3 11 := ⟨⟨by rw [h]; exact tb_4 96 rfl rfl, ok_X11_twins.1, ok_X11_twins.2.1, ok_X11_twins.2.2.1, ok_X11_twins.2.2.2⟩, im_X11_twins, se_X11_twins, by decide, rfl⟩
theorem cs_L_171 {y : Yx} (h : y.1.cls = "WithinWordsLaw") : CSV y 171 yX12_twins 3 12 := ⟨⟨by rw [h]; exact tb_6 207 rfl rfl, ok_X12_twins.1, ok_X12_twins.2.1, ok_X12_twins.2.2.1, ok_X12_twins.2.2.2⟩, im_X12_twins, se_X12_twins, by decide, rfl⟩
theorem cs_L_172 {y : Yx} (h : y.1.cls = "WithinWordsLaw") : CSV y 172 yX11_odds 2 11 := ⟨⟨by rw [h]; exact tb_4 132 rfl rfl, ok_X11_odds.1, ok_X11_odds.2.1, ok_X11_odds.2.2.1, ok_X11_odds.2.2.2⟩, im_X11_odds, se_X11_odds, by decide, rfl⟩
theorem cs_L_175 {y : Yx} (h : y.1.cls = "WithinWordsLaw") : CSV y 175 yX12_odds 2 12 := ⟨⟨by rw [h]; exact tb_6 224 rfl rfl, ok_X12_odds.1, ok_X12_odds.2.1, ok_X12_odds.2.2.1, ok_X12_odds.2.2.2⟩, im_X12_odds, se_X12_odds, by decide, rfl⟩
theorem cs_L_176 {y : Yx} (h : y.1.cls = "WithinWordsLaw") : CSV y 176 yX11_byChance 2 11 := ⟨⟨by rw [h]; exact tb_4 146 rfl rfl, ok_X11_byChance.1, ok_X11_byChance.2.1, ok_X11_byChance.2.2.1, ok_X11_byChance.2.2.2⟩, im_X11_byChance, se_X11_byChance, by decide, rfl⟩
theorem cs_L_179 {y : Yx} (h : y.1.cls = "WithinWordsLaw") : CSV y 179 yX12_byChance 2 12 := ⟨⟨by rw [h]; exact tb_6 235 rfl rfl, ok_X12_byChance.1, ok_X12_byChance.2.1, ok_X12_byChance.2.2.1, ok_X12_byChance.2.2.2⟩, im_X12_byChance, se_X12_byChance, by decide, rfl⟩
theorem cs_L_180 {y : Yx} (h : y.1.cls = "WithinWordsLaw") : CSV y 180 yX11_asked 0 11 := ⟨⟨by rw [h]; exact tb_4 153 rfl rfl, ok_X11_asked.1, ok_X11_asked.2.1, ok_X11_asked.2.2.1, ok_X11_asked.2.2.2⟩, im_X11_asked, se_X11_asked, by decide, rfl⟩
theorem cs_L_184 {y : Yx} (h : y.1.cls = "WithinWordsLaw") : CSV y 184 yX12_asked 0 12 := ⟨⟨by rw [h]; exact tb_5 117 rfl rfl, ok_X12_asked.1, ok_X12_asked.2.1, ok_X12_asked.2.2.1, ok_X12_asked.2.2.2⟩, im_X12_asked, se_X12_asked, by decide, rfl⟩
theorem cs_L_185 {y : Yx} (h : y.1.cls = "WithinWordsLaw") : CSV y 185 yX11_many 0 11 := ⟨⟨by rw [h]; exact tb_4 157 rfl rfl, ok_X11_many.1, ok_X11_many.2.1, ok_X11_many.2.2.1, ok_X11_many.2.2.2⟩, im_X11_many, se_X11_many, by decide, rfl⟩
theorem cs_L_189 {y : Yx} (h : y.1.cls = "WithinWordsLaw") : CSV y 189 yX12_many 0 12 := ⟨⟨by rw [h]; exact tb_5 121 rfl rfl, ok_X12_many.1, ok_X12_many.2.1, ok_X12_many.2.2.1, ok_X12_many.2.2.2⟩, im_X12_many, se_X12_many, by decide, rfl⟩
theorem cs_L_190 {y : Yx} (h : y.1.cls = "WithinWordsLaw") : CSV y 190 yX11_upper 0 11 := ⟨⟨by rw [h]; exact tb_4 161 rfl rfl, ok_X11_upper.1, ok_X11_upper.2.1, ok_X11_upper.2.2.1, ok_X11_upper.2.2.2⟩, im_X11_upper, se_X11_upper, by decide, rfl⟩
theorem cs_L_193 {y : Yx} (h : y.1.cls = "WithinWordsLaw") : CSV y 193 yX12_upper 0 12 := ⟨⟨by rw [h]; exact tb_5 125 rfl rfl, ok_X12_upper.1, ok_X12_upper.2.1, ok_X12_upper.2.2.1, ok_X12_upper.2.2.2⟩, im_X12_upper, se_X12_upper, by decide, rfl⟩
theorem cs_L_194 {y : Yx} (h : y.1.cls = "WithinWordsLaw") : CSV y 194 yX11_lower 0 11 := ⟨⟨by rw [h]; exact tb_4 165 rfl rfl, ok_X11_lower.1, ok_X11_lower.2.1, ok_X11_lower.2.2.1, ok_X11_lower.2.2.2⟩, im_X11_lower, se_X11_lower, by decide, rfl⟩
theorem cs_L_197 {y : Yx} (h : y.1.cls = "WithinWordsLaw") : CSV y 197 yX12_lower 0 12 := ⟨⟨by rw [h]; exact tb_5 129 rfl rfl, ok_X12_lower.1, ok_X12_lower.2.1, ok_X12_lower.2.2.1, ok_X12_lower.2.2.2⟩, im_X12_lower, se_X12_lower, by decide, rfl⟩
theorem cs_L_198 {y : Yx} (h : y.1.cls = "WithinWordsLaw") : CSV y 198 yX11_count 1 11 := ⟨⟨by rw [h]; exact tb_4 169 rfl rfl, ok_X11_count.1, ok_X11_count.2.1, ok_X11_count.2.2.1, ok_X11_count.2.2.2⟩, im_X11_count, se_X11_count, by decide, rfl⟩
theorem cs_L_201 {y : Yx} (h : y.1.cls = "WithinWordsLaw") : CSV y 201 yX12_count 1 12 := ⟨⟨by rw [h]; exact tb_6 239 rfl rfl, ok_X12_count.1, ok_X12_count.2.1, ok_X12_count.2.2.1, ok_X12_count.2.2.2⟩, im_X12_count, se_X12_count, by decide, rfl⟩
theorem cs_L_202 {y : Yx} (h : y.1.cls = "WithinWordsLaw") : CSV y 202 yX11_finding 0 11 := ⟨⟨by rw [h]; exact tb_4 185 rfl rfl, ok_X11_finding.1, ok_X11_finding.2.1, ok_X11_finding.2.2.1, ok_X11_finding.2.2.2⟩, im_X11_finding, se_X11_finding, by decide, rfl⟩
theorem cs_L_205 {y : Yx} (h : y.1.cls = "WithinWordsLaw") : CSV y 205 yX12_finding 0 12 := ⟨⟨by rw [h]; exact tb_5 106 rfl rfl, ok_X12_finding.1, ok_X12_finding.2.1, ok_X12_finding.2.2.1, ok_X12_finding.2.2.2⟩, im_X12_finding, se_X12_finding, by decide, rfl⟩
theorem cs_L_206 {y : Yx} (h : y.1.cls = "WithinWordsLaw") : CSV y 206 yX11_findings 1 11 := ⟨⟨by rw [h]; exact tb_4 189 rfl rfl, ok_X11_findings.1, ok_X11_findings.2.1, ok_X11_findings.2.2.1, ok_X11_findings.2.2.2⟩, im_X11_findings, se_X11_findings, by decide, rfl⟩
theorem cs_L_209 {y : Yx} (h : y.1.cls = "WithinWordsLaw") : CSV y 209 yX12_findings 1 12 := ⟨⟨by rw [h]; exact tb_5 110 rfl rfl, ok_X12_findings.1, ok_X12_findings.2.1, ok_X12_findings.2.2.1, ok_X12_findings.2.2.2⟩, im_X12_findings, se_X12_findings, by decide, rfl⟩
theorem cs_L_210 {y : Yx} (h : y.1.cls = "WithinWordsLaw") : CSV y 210 yX11_digest 0 11 := ⟨⟨by rw [h]; exact tb_4 193 rfl rfl, ok_X11_digest.1, ok_X11_digest.2.1, ok_X11_digest.2.2.1, ok_X11_digest.2.2.2⟩, im_X11_digest, se_X11_digest, by decide, rfl⟩
theorem cs_L_213 {y : Yx} (h : y.1.cls = "WithinWordsLaw") : CSV y 213 yX12_digest 0 12 := ⟨⟨by rw [h]; exact tb_7 7 rfl rfl, ok_X12_digest.1, ok_X12_digest.2.1, ok_X12_digest.2.2.1, ok_X12_digest.2.2.2⟩, im_X12_digest, se_X12_digest, by decide, rfl⟩
theorem cs_X12_134 {y : Yx} (h : y.1.cls = "WithinWordsModel") : CSV y 134 yX12_meets 1 12 := ⟨⟨by rw [h]; exact tb_5 140 rfl rfl, ok_X12_meets.1, ok_X12_meets.2.1, ok_X12_meets.2.2.1, ok_X12_meets.2.2.2⟩, im_X12_meets, se_X12_meets, by decide, rfl⟩
theorem cs_X12_138 {y : Yx} (h : y.1.cls = "WithinWordsModel") : CSV y 138 yX12_rowAt 2 12 := ⟨⟨by rw [h]; exact tb_5 148 rfl rfl, ok_X12_rowAt.1, ok_X12_rowAt.2.1, ok_X12_rowAt.2.2.1, ok_X12_rowAt.2.2.2⟩, im_X12_rowAt, se_X12_rowAt, by decide, rfl⟩
theorem cs_X12_142 {y : Yx} (h : y.1.cls = "WithinWordsModel") : CSV y 142 yX12_tells 2 12 := ⟨⟨by rw [h]; exact tb_5 152 rfl rfl, ok_X12_tells.1, ok_X12_tells.2.1, ok_X12_tells.2.2.1, ok_X12_tells.2.2.2⟩, im_X12_tells, se_X12_tells, by decide, rfl⟩
theorem cs_X12_148 {y : Yx} (h : y.1.cls = "WithinWordsModel") : CSV y 148 yX12_at0 2 12 := ⟨⟨by rw [h]; exact tb_5 187 rfl rfl, ok_X12_at0.1, ok_X12_at0.2.1, ok_X12_at0.2.2.1, ok_X12_at0.2.2.2⟩, im_X12_at0, se_X12_at0, by decide, rfl⟩
theorem cs_X12_157 {y : Yx} (h : y.1.cls = "WithinWordsModel") : CSV y 157 yX12_isLetter 1 12 := ⟨⟨by rw [h]; exact tb_5 198 rfl rfl, ok_X12_isLetter.1, ok_X12_isLetter.2.1, ok_X12_isLetter.2.2.1, ok_X12_isLetter.2.2.2⟩, im_X12_isLetter, se_X12_isLetter, by decide, rfl⟩
theorem cs_X12_160 {y : Yx} (h : y.1.cls = "WithinWordsModel") : CSV y 160 yX12_comes 4 12 := ⟨⟨by rw [h]; exact tb_5 202 rfl rfl, ok_X12_comes.1, ok_X12_comes.2.1, ok_X12_comes.2.2.1, ok_X12_comes.2.2.2⟩, im_X12_comes, se_X12_comes, by decide, rfl⟩
theorem cs_X12_168 {y : Yx} (h : y.1.cls = "WithinWordsModel") : CSV y 168 yX12_comesOn 1 12 := ⟨⟨by rw [h]; exact tb_5 218 rfl rfl, ok_X12_comesOn.1, ok_X12_comesOn.2.1, ok_X12_comesOn.2.2.1, ok_X12_comesOn.2.2.2⟩, im_X12_comesOn, se_X12_comesOn, by decide, rfl⟩
theorem cs_X12_172 {y : Yx} (h : y.1.cls = "WithinWordsModel") : CSV y 172 yX12_byteAt 2 12 := ⟨⟨by rw [h]; exact tb_5 214 rfl rfl, ok_X12_byteAt.1, ok_X12_byteAt.2.1, ok_X12_byteAt.2.2.1, ok_X12_byteAt.2.2.2⟩, im_X12_byteAt, se_X12_byteAt, by decide, rfl⟩
theorem cs_X12_175 {y : Yx} (h : y.1.cls = "WithinWordsModel") : CSV y 175 yX12_figureAt 2 12 := ⟨⟨by rw [h]; exact tb_5 222 rfl rfl, ok_X12_figureAt.1, ok_X12_figureAt.2.1, ok_X12_figureAt.2.2.1, ok_X12_figureAt.2.2.2⟩, im_X12_figureAt, se_X12_figureAt, by decide, rfl⟩
theorem cs_X12_178 {y : Yx} (h : y.1.cls = "WithinWordsModel") : CSV y 178 yX12_comesAgain 2 12 := ⟨⟨by rw [h]; exact tb_5 226 rfl rfl, ok_X12_comesAgain.1, ok_X12_comesAgain.2.1, ok_X12_comesAgain.2.2.1, ok_X12_comesAgain.2.2.2⟩, im_X12_comesAgain, se_X12_comesAgain, by decide, rfl⟩
theorem cs_X12_182 {y : Yx} (h : y.1.cls = "WithinWordsModel") : CSV y 182 yX12_faultOf 1 12 := ⟨⟨by rw [h]; exact tb_5 210 rfl rfl, ok_X12_faultOf.1, ok_X12_faultOf.2.1, ok_X12_faultOf.2.2.1, ok_X12_faultOf.2.2.2⟩, im_X12_faultOf, se_X12_faultOf, by decide, rfl⟩
theorem cs_X12_185 {y : Yx} (h : y.1.cls = "WithinWordsModel") : CSV y 185 yX12_isThere 1 12 := ⟨⟨by rw [h]; exact tb_6 2 rfl rfl, ok_X12_isThere.1, ok_X12_isThere.2.1, ok_X12_isThere.2.2.1, ok_X12_isThere.2.2.2⟩, im_X12_isThere, se_X12_isThere, by decide, rfl⟩
theorem cs_X12_188 {y : Yx} (h : y.1.cls = "WithinWordsModel") : CSV y 188 yX12_needTwo 3 12 := ⟨⟨by rw [h]; exact tb_5 238 rfl rfl, ok_X12_needTwo.1, ok_X12_needTwo.2.1, ok_X12_needTwo.2.2.1, ok_X12_needTwo.2.2.2⟩, im_X12_needTwo, se_X12_needTwo, by decide, rfl⟩
theorem cs_X12_192 {y : Yx} (h : y.1.cls = "WithinWordsModel") : CSV y 192 yX12_needWord 2 12 := ⟨⟨by rw [h]; exact tb_6 14 rfl rfl, ok_X12_needWord.1, ok_X12_needWord.2.1, ok_X12_needWord.2.2.1, ok_X12_needWord.2.2.2⟩, im_X12_needWord, se_X12_needWord, by decide, rfl⟩
theorem cs_X12_196 {y : Yx} (h : y.1.cls = "WithinWordsModel") : CSV y 196 yX12_markOf 2 12 := ⟨⟨by rw [h]; exact tb_6 38 rfl rfl, ok_X12_markOf.1, ok_X12_markOf.2.1, ok_X12_markOf.2.2.1, ok_X12_markOf.2.2.2⟩, im_X12_markOf, se_X12_markOf, by decide, rfl⟩
theorem cs_X12_199 {y : Yx} (h : y.1.cls = "WithinWordsModel") : CSV y 199 yX12_layWays 2 12 := ⟨⟨by rw [h]; exact tb_6 46 rfl rfl, ok_X12_layWays.1, ok_X12_layWays.2.1, ok_X12_layWays.2.2.1, ok_X12_layWays.2.2.2⟩, im_X12_layWays, se_X12_layWays, by decide, rfl⟩
theorem cs_X12_202 {y : Yx} (h : y.1.cls = "WithinWordsModel") : CSV y 202 yX12_tellsMany 2 12 := ⟨⟨by rw [h]; exact tb_6 50 rfl rfl, ok_X12_tellsMany.1, ok_X12_tellsMany.2.1, ok_X12_tellsMany.2.2.1, ok_X12_tellsMany.2.2.2⟩, im_X12_tellsMany, se_X12_tellsMany, by decide, rfl⟩
theorem cs_X12_206 {y : Yx} (h : y.1.cls = "WithinWordsModel") : CSV y 206 yX12_next 3 12 := ⟨⟨by rw [h]; exact tb_6 62 rfl rfl, ok_X12_next.1, ok_X12_next.2.1, ok_X12_next.2.2.1, ok_X12_next.2.2.2⟩, im_X12_next, se_X12_next, by decide, rfl⟩
theorem cs_X12_210 {y : Yx} (h : y.1.cls = "WithinWordsModel") : CSV y 210 yX12_layPlaces 2 12 := ⟨⟨by rw [h]; exact tb_6 58 rfl rfl, ok_X12_layPlaces.1, ok_X12_layPlaces.2.1, ok_X12_layPlaces.2.2.1, ok_X12_layPlaces.2.2.2⟩, im_X12_layPlaces, se_X12_layPlaces, by decide, rfl⟩
theorem cs_X12_214 {y : Yx} (h : y.1.cls = "WithinWordsModel") : CSV y 214 yX12_comesToRow 1 12 := ⟨⟨by rw [h]; exact tb_6 66 rfl rfl, ok_X12_comesToRow.1, ok_X12_comesToRow.2.1, ok_X12_comesToRow.2.2.1, ok_X12_comesToRow.2.2.2⟩, im_X12_comesToRow, se_X12_comesToRow, by decide, rfl⟩
theorem cs_X12_217 {y : Yx} (h : y.1.cls = "WithinWordsModel") : CSV y 217 yX12_layInner 1 12 := ⟨⟨by rw [h]; exact tb_6 86 rfl rfl, ok_X12_layInner.1, ok_X12_layInner.2.1, ok_X12_layInner.2.2.1, ok_X12_layInner.2.2.2⟩, im_X12_layInner, se_X12_layInner, by decide, rfl⟩
theorem cs_X12_220 {y : Yx} (h : y.1.cls = "WithinWordsModel") : CSV y 220 yX12_innersBy 4 12 := ⟨⟨by rw [h]; exact tb_6 98 rfl rfl, ok_X12_innersBy.1, ok_X12_innersBy.2.1, ok_X12_innersBy.2.2.1, ok_X12_innersBy.2.2.2⟩, im_X12_innersBy, se_X12_innersBy, by decide, rfl⟩
theorem cs_X12_230 {y : Yx} (h : y.1.cls = "WithinWordsModel") : CSV y 230 yX12_archesFrom 2 12 := ⟨⟨by rw [h]; exact tb_6 106 rfl rfl, ok_X12_archesFrom.1, ok_X12_archesFrom.2.1, ok_X12_archesFrom.2.2.1, ok_X12_archesFrom.2.2.2⟩, im_X12_archesFrom, se_X12_archesFrom, by decide, rfl⟩
theorem cs_X12_233 {y : Yx} (h : y.1.cls = "WithinWordsModel") : CSV y 233 yX12_hasAll 3 12 := ⟨⟨by rw [h]; exact tb_6 118 rfl rfl, ok_X12_hasAll.1, ok_X12_hasAll.2.1, ok_X12_hasAll.2.2.1, ok_X12_hasAll.2.2.2⟩, im_X12_hasAll, se_X12_hasAll, by decide, rfl⟩
theorem cs_X12_236 {y : Yx} (h : y.1.cls = "WithinWordsModel") : CSV y 236 yX12_layAbsent 2 12 := ⟨⟨by rw [h]; exact tb_6 114 rfl rfl, ok_X12_layAbsent.1, ok_X12_layAbsent.2.1, ok_X12_layAbsent.2.2.1, ok_X12_layAbsent.2.2.2⟩, im_X12_layAbsent, se_X12_layAbsent, by decide, rfl⟩
theorem cs_X12_249 {y : Yx} (h : y.1.cls = "WithinWordsModel") : CSV y 249 yX12_nextOther 2 12 := ⟨⟨by rw [h]; exact tb_6 144 rfl rfl, ok_X12_nextOther.1, ok_X12_nextOther.2.1, ok_X12_nextOther.2.2.1, ok_X12_nextOther.2.2.2⟩, im_X12_nextOther, se_X12_nextOther, by decide, rfl⟩
theorem cs_X12_252 {y : Yx} (h : y.1.cls = "WithinWordsModel") : CSV y 252 yX12_layPart 2 12 := ⟨⟨by rw [h]; exact tb_6 148 rfl rfl, ok_X12_layPart.1, ok_X12_layPart.2.1, ok_X12_layPart.2.2.1, ok_X12_layPart.2.2.2⟩, im_X12_layPart, se_X12_layPart, by decide, rfl⟩
theorem cs_X12_255 {y : Yx} (h : y.1.cls = "WithinWordsModel") : CSV y 255 yX12_layOther 1 12 := ⟨⟨by rw [h]; exact tb_6 136 rfl rfl, ok_X12_layOther.1, ok_X12_layOther.2.1, ok_X12_layOther.2.2.1, ok_X12_layOther.2.2.2⟩, im_X12_layOther, se_X12_layOther, by decide, rfl⟩
theorem cs_X12_258 {y : Yx} (h : y.1.cls = "WithinWordsModel") : CSV y 258 yX12_partsFrom 1 12 := ⟨⟨by rw [h]; exact tb_6 140 rfl rfl, ok_X12_partsFrom.1, ok_X12_partsFrom.2.1, ok_X12_partsFrom.2.2.1, ok_X12_partsFrom.2.2.2⟩, im_X12_partsFrom, se_X12_partsFrom, by decide, rfl⟩
theorem cs_X12_261 {y : Yx} (h : y.1.cls = "WithinWordsModel") : CSV y 261 yX12_dropOther 1 12 := ⟨⟨by rw [h]; exact tb_6 160 rfl rfl, ok_X12_dropOther.1, ok_X12_dropOther.2.1, ok_X12_dropOther.2.2.1, ok_X12_dropOther.2.2.2⟩, im_X12_dropOther, se_X12_dropOther, by decide, rfl⟩
theorem cs_X12_264 {y : Yx} (h : y.1.cls = "WithinWordsModel") : CSV y 264 yX12_backOther 2 12 := ⟨⟨by rw [h]; exact tb_6 164 rfl rfl, ok_X12_backOther.1, ok_X12_backOther.2.1, ok_X12_backOther.2.2.1, ok_X12_backOther.2.2.2⟩, im_X12_backOther, se_X12_backOther, by decide, rfl⟩
theorem cs_X12_273 {y : Yx} (h : y.1.cls = "WithinWordsModel") : CSV y 273 yX12_layAt 1 12 := ⟨⟨by rw [h]; exact tb_6 187 rfl rfl, ok_X12_layAt.1, ok_X12_layAt.2.1, ok_X12_layAt.2.2.1, ok_X12_layAt.2.2.2⟩, im_X12_layAt, se_X12_layAt, by decide, rfl⟩
theorem cs_X12_276 {y : Yx} (h : y.1.cls = "WithinWordsModel") : CSV y 276 yX12_code 0 12 := ⟨⟨by rw [h]; exact tb_6 191 rfl rfl, ok_X12_code.1, ok_X12_code.2.1, ok_X12_code.2.2.1, ok_X12_code.2.2.2⟩, im_X12_code, se_X12_code, by decide, rfl⟩
theorem cs_X12_280 {y : Yx} (h : y.1.cls = "WithinWordsModel") : CSV y 280 yX12_needSeveral 2 12 := ⟨⟨by rw [h]; exact tb_6 172 rfl rfl, ok_X12_needSeveral.1, ok_X12_needSeveral.2.1, ok_X12_needSeveral.2.2.1, ok_X12_needSeveral.2.2.2⟩, im_X12_needSeveral, se_X12_needSeveral, by decide, rfl⟩
theorem cs_X12_283 {y : Yx} (h : y.1.cls = "WithinWordsModel") : CSV y 283 yX12_allCodes 0 12 := ⟨⟨by rw [h]; exact tb_6 179 rfl rfl, ok_X12_allCodes.1, ok_X12_allCodes.2.1, ok_X12_allCodes.2.2.1, ok_X12_allCodes.2.2.2⟩, im_X12_allCodes, se_X12_allCodes, by decide, rfl⟩
theorem cs_X12_286 {y : Yx} (h : y.1.cls = "WithinWordsModel") : CSV y 286 yX12_behindNext 2 12 := ⟨⟨by rw [h]; exact tb_6 183 rfl rfl, ok_X12_behindNext.1, ok_X12_behindNext.2.1, ok_X12_behindNext.2.2.1, ok_X12_behindNext.2.2.2⟩, im_X12_behindNext, se_X12_behindNext, by decide, rfl⟩
theorem cs_X12_289 {y : Yx} (h : y.1.cls = "WithinWordsModel") : CSV y 289 yX12_behindHere 2 12 := ⟨⟨by rw [h]; exact tb_6 199 rfl rfl, ok_X12_behindHere.1, ok_X12_behindHere.2.1, ok_X12_behindHere.2.2.1, ok_X12_behindHere.2.2.2⟩, im_X12_behindHere, se_X12_behindHere, by decide, rfl⟩
theorem cs_X12_292 {y : Yx} (h : y.1.cls = "WithinWordsModel") : CSV y 292 yX12_oftenIn 3 12 := ⟨⟨by rw [h]; exact tb_6 212 rfl rfl, ok_X12_oftenIn.1, ok_X12_oftenIn.2.1, ok_X12_oftenIn.2.2.1, ok_X12_oftenIn.2.2.2⟩, im_X12_oftenIn, se_X12_oftenIn, by decide, rfl⟩
theorem cs_X12_298 {y : Yx} (h : y.1.cls = "WithinWordsModel") : CSV y 298 yX12_layOtherBy 2 12 := ⟨⟨by rw [h]; exact tb_6 216 rfl rfl, ok_X12_layOtherBy.1, ok_X12_layOtherBy.2.1, ok_X12_layOtherBy.2.2.1, ok_X12_layOtherBy.2.2.2⟩, im_X12_layOtherBy, se_X12_layOtherBy, by decide, rfl⟩
theorem cs_X12_301 {y : Yx} (h : y.1.cls = "WithinWordsModel") : CSV y 301 yX12_isTwin 3 12 := ⟨⟨by rw [h]; exact tb_6 220 rfl rfl, ok_X12_isTwin.1, ok_X12_isTwin.2.1, ok_X12_isTwin.2.2.1, ok_X12_isTwin.2.2.2⟩, im_X12_isTwin, se_X12_isTwin, by decide, rfl⟩
theorem cs_X12_308 {y : Yx} (h : y.1.cls = "WithinWordsModel") : CSV y 308 yX12_fraction 3 12 := ⟨⟨by rw [h]; exact tb_6 231 rfl rfl, ok_X12_fraction.1, ok_X12_fraction.2.1, ok_X12_fraction.2.2.1, ok_X12_fraction.2.2.2⟩, im_X12_fraction, se_X12_fraction, by decide, rfl⟩
theorem cs_X12_312 {y : Yx} (h : y.1.cls = "WithinWordsModel") : CSV y 312 yX12_counted 1 12 := ⟨⟨by rw [h]; exact tb_7 3 rfl rfl, ok_X12_counted.1, ok_X12_counted.2.1, ok_X12_counted.2.2.1, ok_X12_counted.2.2.2⟩, im_X12_counted, se_X12_counted, by decide, rfl⟩
theorem cs_X12_320 {y : Yx} (h : y.1.cls = "WithinWordsModel") : CSV y 320 yX12_mix 1 12 := ⟨⟨by rw [h]; exact tb_7 12 rfl rfl, ok_X12_mix.1, ok_X12_mix.2.1, ok_X12_mix.2.2.1, ok_X12_mix.2.2.2⟩, im_X12_mix, se_X12_mix, by decide, rfl⟩
theorem cs_X12_328 {y : Yx} (h : y.1.cls = "WithinWordsModel") : CSV y 328 yX12_mixWord 1 12 := ⟨⟨by rw [h]; exact tb_7 17 rfl rfl, ok_X12_mixWord.1, ok_X12_mixWord.2.1, ok_X12_mixWord.2.2.1, ok_X12_mixWord.2.2.2⟩, im_X12_mixWord, se_X12_mixWord, by decide, rfl⟩
theorem kc_X11_346 {y : Yx} (h : y.1.cls = "WithinWords") : Cond.constantLong y.1.cls 346 (Int64.ofInt (17)) ∈ gtbl := by rw [h]; exact tb_4 197 rfl rfl
theorem kc_X11_348 {y : Yx} (h : y.1.cls = "WithinWords") : Cond.constantLong y.1.cls 348 (Int64.ofInt (31)) ∈ gtbl := by rw [h]; exact tb_4 198 rfl rfl
theorem kc_X2_51 {y : Yx} (h : y.1.cls = "WithinWords$InnerWords") : Cond.constantLong y.1.cls 51 (Int64.ofInt (-1)) ∈ gtbl := by rw [h]; exact tb_3 159 rfl rfl
theorem kc_X3_25 {y : Yx} (h : y.1.cls = "WithinWords$Line") : Cond.constantLong y.1.cls 25 (Int64.ofInt (31)) ∈ gtbl := by rw [h]; exact tb_4 204 rfl rfl
theorem kc_X12_296 {y : Yx} (h : y.1.cls = "WithinWordsModel") : Cond.constantLong y.1.cls 296 (Int64.ofInt (10000)) ∈ gtbl := by rw [h]; exact tb_6 211 rfl rfl
theorem kc_X12_315 {y : Yx} (h : y.1.cls = "WithinWordsModel") : Cond.constantLong y.1.cls 315 (Int64.ofInt (31)) ∈ gtbl := by rw [h]; exact tb_7 16 rfl rfl
theorem kc_X12_324 {y : Yx} (h : y.1.cls = "WithinWordsModel") : Cond.constantLong y.1.cls 324 (Int64.ofInt (-1)) ∈ gtbl := by rw [h]; exact tb_7 21 rfl rfl
theorem kc_X12_326 {y : Yx} (h : y.1.cls = "WithinWordsModel") : Cond.constantLong y.1.cls 326 (Int64.ofInt (17)) ∈ gtbl := by rw [h]; exact tb_7 11 rfl rfl
theorem kc_JL_314 {y : Yx} (h : y.1.cls = "java/lang/Long") : Cond.constantLong y.1.cls 314 (Int64.ofInt (6148914691236517205)) ∈ gtbl := by rw [h]; exact tb_3 98 rfl rfl
theorem kc_JL_316 {y : Yx} (h : y.1.cls = "java/lang/Long") : Cond.constantLong y.1.cls 316 (Int64.ofInt (3689348814741910323)) ∈ gtbl := by rw [h]; exact tb_3 99 rfl rfl
theorem kc_JL_318 {y : Yx} (h : y.1.cls = "java/lang/Long") : Cond.constantLong y.1.cls 318 (Int64.ofInt (1085102592571150095)) ∈ gtbl := by rw [h]; exact tb_3 100 rfl rfl
theorem kc_JI_265 {y : Yx} (h : y.1.cls = "java/lang/Integer") : Cond.constant y.1.cls 265 (Int32.ofInt (1431655765)) ∈ gtbl := by rw [h]; exact tb_3 179 rfl rfl
theorem kc_JI_266 {y : Yx} (h : y.1.cls = "java/lang/Integer") : Cond.constant y.1.cls 266 (Int32.ofInt (858993459)) ∈ gtbl := by rw [h]; exact tb_3 180 rfl rfl
theorem kc_JI_267 {y : Yx} (h : y.1.cls = "java/lang/Integer") : Cond.constant y.1.cls 267 (Int32.ofInt (252645135)) ∈ gtbl := by rw [h]; exact tb_3 181 rfl rfl
theorem kl_X11_9 {y : Yx} (h : y.1.cls = "WithinWords") : Cond.classLink y.1.cls 9 (clT 3).1 ∈ gtbl := by rw [h]; exact tb_1 26 rfl rfl
theorem kl_X11_18 {y : Yx} (h : y.1.cls = "WithinWords") : Cond.classLink y.1.cls 18 (clT 10).1 ∈ gtbl := by rw [h]; exact tb_1 28 rfl rfl
theorem kl_X11_51 {y : Yx} (h : y.1.cls = "WithinWords") : Cond.classLink y.1.cls 51 (clT 6).1 ∈ gtbl := by rw [h]; exact tb_1 30 rfl rfl
theorem kl_X11_58 {y : Yx} (h : y.1.cls = "WithinWords") : Cond.classLink y.1.cls 58 (clT 7).1 ∈ gtbl := by rw [h]; exact tb_1 55 rfl rfl
theorem kl_X11_65 {y : Yx} (h : y.1.cls = "WithinWords") : Cond.classLink y.1.cls 65 (clT 0).1 ∈ gtbl := by rw [h]; exact tb_1 77 rfl rfl
theorem kl_X11_72 {y : Yx} (h : y.1.cls = "WithinWords") : Cond.classLink y.1.cls 72 (clT 1).1 ∈ gtbl := by rw [h]; exact tb_1 116 rfl rfl
theorem kl_X11_79 {y : Yx} (h : y.1.cls = "WithinWords") : Cond.classLink y.1.cls 79 (clT 5).1 ∈ gtbl := by rw [h]; exact tb_1 129 rfl rfl
theorem kl_X11_86 {y : Yx} (h : y.1.cls = "WithinWords") : Cond.classLink y.1.cls 86 (clT 9).1 ∈ gtbl := by rw [h]; exact tb_1 158 rfl rfl
theorem kl_X11_97 {y : Yx} (h : y.1.cls = "WithinWords") : Cond.classLink y.1.cls 97 (clT 2).1 ∈ gtbl := by rw [h]; exact tb_2 10 rfl rfl
theorem kl_X11_106 {y : Yx} (h : y.1.cls = "WithinWords") : Cond.classLink y.1.cls 106 (clT 4).1 ∈ gtbl := by rw [h]; exact tb_2 28 rfl rfl
theorem kl_X0_19 {y : Yx} (h : y.1.cls = "WithinWords$Arches") : Cond.classLink y.1.cls 19 (clT 8).1 ∈ gtbl := by rw [h]; exact tb_1 83 rfl rfl
theorem kl_X2_9 {y : Yx} (h : y.1.cls = "WithinWords$InnerWords") : Cond.classLink y.1.cls 9 (clT 8).1 ∈ gtbl := by rw [h]; exact tb_2 16 rfl rfl
theorem kl_X4_9 {y : Yx} (h : y.1.cls = "WithinWords$Pair") : Cond.classLink y.1.cls 9 (clT 8).1 ∈ gtbl := by rw [h]; exact tb_2 34 rfl rfl
theorem kl_X5_9 {y : Yx} (h : y.1.cls = "WithinWords$Several") : Cond.classLink y.1.cls 9 (clT 3).1 ∈ gtbl := by rw [h]; exact tb_1 135 rfl rfl
theorem kl_X10_9 {y : Yx} (h : y.1.cls = "WithinWords$Word") : Cond.classLink y.1.cls 9 (clT 3).1 ∈ gtbl := by rw [h]; exact tb_1 233 rfl rfl
theorem kl_L_7 {y : Yx} (h : y.1.cls = "WithinWordsLaw") : Cond.classLink y.1.cls 7 (clT 11).1 ∈ gtbl := by rw [h]; exact tb_1 18 rfl rfl
theorem kl_L_10 {y : Yx} (h : y.1.cls = "WithinWordsLaw") : Cond.classLink y.1.cls 10 (clT 12).1 ∈ gtbl := by rw [h]; exact tb_4 205 rfl rfl
theorem in_X0 : Cond.instantiable (clT 0).1 (clT 0).2.2 ∈ gtbl ∧ Cond.initialized (clT 0).1 ∈ gtbl := ⟨tb_1 78 rfl rfl, tb_1 4 rfl rfl⟩
theorem in_X1 : Cond.instantiable (clT 1).1 (clT 1).2.2 ∈ gtbl ∧ Cond.initialized (clT 1).1 ∈ gtbl := ⟨tb_1 117 rfl rfl, tb_1 6 rfl rfl⟩
theorem in_X2 : Cond.instantiable (clT 2).1 (clT 2).2.2 ∈ gtbl ∧ Cond.initialized (clT 2).1 ∈ gtbl := ⟨tb_2 11 rfl rfl, tb_1 11 rfl rfl⟩
theorem in_X3 : Cond.instantiable (clT 3).1 (clT 3).2.2 ∈ gtbl ∧ Cond.initialized (clT 3).1 ∈ gtbl := ⟨tb_1 196 rfl rfl, tb_1 9 rfl rfl⟩
theorem in_X4 : Cond.instantiable (clT 4).1 (clT 4).2.2 ∈ gtbl ∧ Cond.initialized (clT 4).1 ∈ gtbl := ⟨tb_2 29 rfl rfl, tb_1 12 rfl rfl⟩
theorem in_X5 : Cond.instantiable (clT 5).1 (clT 5).2.2 ∈ gtbl ∧ Cond.initialized (clT 5).1 ∈ gtbl := ⟨tb_1 130 rfl rfl, tb_1 7 rfl rfl⟩
theorem in_X6 : Cond.instantiable (clT 6).1 (clT 6).2.2 ∈ gtbl ∧ Cond.initialized (clT 6).1 ∈ gtbl := ⟨tb_1 31 rfl rfl, tb_1 2 rfl rfl⟩
theorem in_X7 : Cond.instantiable (clT 7).1 (clT 7).2.2 ∈ gtbl ∧ Cond.initialized (clT 7).1 ∈ gtbl := ⟨tb_1 56 rfl rfl, tb_1 3 rfl rfl⟩
theorem in_X8 : Cond.instantiable (clT 8).1 (clT 8).2.2 ∈ gtbl ∧ Cond.initialized (clT 8).1 ∈ gtbl := ⟨tb_1 84 rfl rfl, tb_1 5 rfl rfl⟩
theorem in_X9 : Cond.instantiable (clT 9).1 (clT 9).2.2 ∈ gtbl ∧ Cond.initialized (clT 9).1 ∈ gtbl := ⟨tb_1 159 rfl rfl, tb_1 8 rfl rfl⟩
theorem in_X10 : Cond.instantiable (clT 10).1 (clT 10).2.2 ∈ gtbl ∧ Cond.initialized (clT 10).1 ∈ gtbl := ⟨tb_1 228 rfl rfl, tb_1 10 rfl rfl⟩
theorem in_X11 : Cond.instantiable (clT 11).1 (clT 11).2.2 ∈ gtbl ∧ Cond.initialized (clT 11).1 ∈ gtbl := ⟨tb_1 19 rfl rfl, tb_1 1 rfl rfl⟩
theorem in_X12 : Cond.instantiable (clT 12).1 (clT 12).2.2 ∈ gtbl ∧ Cond.initialized (clT 12).1 ∈ gtbl := ⟨tb_4 206 rfl rfl, tb_1 13 rfl rfl⟩
theorem kd_1 {M : Mem} : kd 0 M 1 = 11 := rfl
theorem sz_1 : (sg 1).2 = 19 := rfl
theorem kd_2 {M : Mem} : kd 0 M 2 = 24 := rfl
theorem sz_2 : (sg 2).2 = 6 := rfl
theorem kd_3 {M : Mem} : kd 0 M 3 = 24 := rfl
theorem sz_3 : (sg 3).2 = 4 := rfl
theorem kd_4 {M : Mem} : kd 0 M 4 = 25 := rfl
theorem sz_4 : (sg 4).2 = 8 := rfl
theorem kd_5 {M : Mem} : kd 0 M 5 = 20 := rfl
theorem sz_5 : (sg 5).2 = 6 := rfl
theorem kd_6 {M : Mem} : kd 0 M 6 = 20 := rfl
theorem sz_6 : (sg 6).2 = 80 := rfl
theorem kd_7 {M : Mem} : kd 0 M 7 = 6 := rfl
theorem sz_7 : (sg 7).2 = 5 := rfl
theorem kd_8 {M : Mem} : kd 0 M 8 = 20 := rfl
theorem sz_8 : (sg 8).2 = 40 := rfl
theorem kd_9 {M : Mem} : kd 0 M 9 = 20 := rfl
theorem sz_9 : (sg 9).2 = 4 := rfl
theorem kd_10 {M : Mem} : kd 0 M 10 = 7 := rfl
theorem sz_10 : (sg 10).2 = 4 := rfl
theorem kd_11 {M : Mem} : kd 0 M 11 = 20 := rfl
theorem sz_11 : (sg 11).2 = 40 := rfl
theorem kd_12 {M : Mem} : kd 0 M 12 = 20 := rfl
theorem sz_12 : (sg 12).2 = 40 := rfl
theorem kd_13 {M : Mem} : kd 0 M 13 = 21 := rfl
theorem sz_13 : (sg 13).2 = 41 := rfl
theorem kd_14 {M : Mem} : kd 0 M 14 = 20 := rfl
theorem sz_14 : (sg 14).2 = 41 := rfl
theorem kd_15 {M : Mem} : kd 0 M 15 = 0 := rfl
theorem sz_15 : (sg 15).2 = 6 := rfl
theorem kd_16 {M : Mem} : kd 0 M 16 = 20 := rfl
theorem sz_16 : (sg 16).2 = 41 := rfl
theorem kd_17 {M : Mem} : kd 0 M 17 = 21 := rfl
theorem sz_17 : (sg 17).2 = 41 := rfl
theorem kd_18 {M : Mem} : kd 0 M 18 = 8 := rfl
theorem sz_18 : (sg 18).2 = 1 := rfl
theorem kd_19 {M : Mem} : kd 0 M 19 = 20 := rfl
theorem sz_19 : (sg 19).2 = 246 := rfl
theorem kd_20 {M : Mem} : kd 0 M 20 = 1 := rfl
theorem sz_20 : (sg 20).2 = 2 := rfl
theorem kd_21 {M : Mem} : kd 0 M 21 = 20 := rfl
theorem sz_21 : (sg 21).2 = 40 := rfl
theorem kd_22 {M : Mem} : kd 0 M 22 = 20 := rfl
theorem sz_22 : (sg 22).2 = 40 := rfl
theorem kd_23 {M : Mem} : kd 0 M 23 = 5 := rfl
theorem sz_23 : (sg 23).2 = 7 := rfl
theorem kd_24 {M : Mem} : kd 0 M 24 = 24 := rfl
theorem sz_24 : (sg 24).2 = 4 := rfl
theorem kd_25 {M : Mem} : kd 0 M 25 = 20 := rfl
theorem sz_25 : (sg 25).2 = 4 := rfl
theorem kd_26 {M : Mem} : kd 0 M 26 = 20 := rfl
theorem sz_26 : (sg 26).2 = 4 := rfl
theorem kd_27 {M : Mem} : kd 0 M 27 = 20 := rfl
theorem sz_27 : (sg 27).2 = 6 := rfl
theorem kd_28 {M : Mem} : kd 0 M 28 = 9 := rfl
theorem sz_28 : (sg 28).2 = 10 := rfl
theorem kd_29 {M : Mem} : kd 0 M 29 = 20 := rfl
theorem sz_29 : (sg 29).2 = 40 := rfl
theorem kd_30 {M : Mem} : kd 0 M 30 = 20 := rfl
theorem sz_30 : (sg 30).2 = 40 := rfl
theorem kd_31 {M : Mem} : kd 0 M 31 = 20 := rfl
theorem sz_31 : (sg 31).2 = 6 := rfl
theorem kd_32 {M : Mem} : kd 0 M 32 = 20 := rfl
theorem sz_32 : (sg 32).2 = 36 := rfl
theorem kd_33 {M : Mem} : kd 0 M 33 = 20 := rfl
theorem sz_33 : (sg 33).2 = 216 := rfl
theorem kd_34 {M : Mem} : kd 0 M 34 = 20 := rfl
theorem sz_34 : (sg 34).2 = 216 := rfl
theorem kd_35 {M : Mem} : kd 0 M 35 = 3 := rfl
theorem sz_35 : (sg 35).2 = 2 := rfl
theorem kd_36 {M : Mem} : kd 0 M 36 = 20 := rfl
theorem sz_36 : (sg 36).2 = 40 := rfl
theorem kd_37 {M : Mem} : kd 0 M 37 = 3 := rfl
theorem sz_37 : (sg 37).2 = 2 := rfl
theorem kd_38 {M : Mem} : kd 0 M 38 = 20 := rfl
theorem sz_38 : (sg 38).2 = 40 := rfl
theorem kd_39 {M : Mem} : kd 0 M 39 = 3 := rfl
theorem sz_39 : (sg 39).2 = 2 := rfl
theorem kd_40 {M : Mem} : kd 0 M 40 = 20 := rfl
theorem sz_40 : (sg 40).2 = 40 := rfl
theorem kd_41 {M : Mem} : kd 0 M 41 = 3 := rfl
theorem sz_41 : (sg 41).2 = 2 := rfl
theorem kd_42 {M : Mem} : kd 0 M 42 = 20 := rfl
theorem sz_42 : (sg 42).2 = 40 := rfl
theorem kd_43 {M : Mem} : kd 0 M 43 = 3 := rfl
theorem sz_43 : (sg 43).2 = 2 := rfl
theorem kd_44 {M : Mem} : kd 0 M 44 = 20 := rfl
theorem sz_44 : (sg 44).2 = 40 := rfl
theorem kd_45 {M : Mem} : kd 0 M 45 = 3 := rfl
theorem sz_45 : (sg 45).2 = 2 := rfl
theorem kd_46 {M : Mem} : kd 0 M 46 = 20 := rfl
theorem sz_46 : (sg 46).2 = 40 := rfl
theorem kd_47 {M : Mem} : kd 0 M 47 = 3 := rfl
theorem sz_47 : (sg 47).2 = 2 := rfl
theorem kd_48 {M : Mem} : kd 0 M 48 = 20 := rfl
theorem sz_48 : (sg 48).2 = 60 := rfl
theorem kd_49 {M : Mem} : kd 0 M 49 = 3 := rfl
theorem sz_49 : (sg 49).2 = 2 := rfl
theorem kd_50 {M : Mem} : kd 0 M 50 = 20 := rfl
theorem sz_50 : (sg 50).2 = 60 := rfl
theorem kd_51 {M : Mem} : kd 0 M 51 = 3 := rfl
theorem sz_51 : (sg 51).2 = 2 := rfl
theorem kd_52 {M : Mem} : kd 0 M 52 = 20 := rfl
theorem sz_52 : (sg 52).2 = 60 := rfl
theorem kd_53 {M : Mem} : kd 0 M 53 = 3 := rfl
theorem sz_53 : (sg 53).2 = 2 := rfl
theorem kd_54 {M : Mem} : kd 0 M 54 = 20 := rfl
theorem sz_54 : (sg 54).2 = 60 := rfl
theorem kd_55 {M : Mem} : kd 0 M 55 = 10 := rfl
theorem sz_55 : (sg 55).2 = 4 := rfl
theorem kd_56 {M : Mem} : kd 0 M 56 = 3 := rfl
theorem sz_56 : (sg 56).2 = 2 := rfl
theorem kd_57 {M : Mem} : kd 0 M 57 = 20 := rfl
theorem sz_57 : (sg 57).2 = 40 := rfl
theorem kd_58 {M : Mem} : kd 0 M 58 = 10 := rfl
theorem sz_58 : (sg 58).2 = 4 := rfl
theorem kd_59 {M : Mem} : kd 0 M 59 = 3 := rfl
theorem sz_59 : (sg 59).2 = 2 := rfl
theorem kd_60 {M : Mem} : kd 0 M 60 = 20 := rfl
theorem sz_60 : (sg 60).2 = 40 := rfl
theorem kd_61 {M : Mem} : kd 0 M 61 = 10 := rfl
theorem sz_61 : (sg 61).2 = 4 := rfl
theorem kd_62 {M : Mem} : kd 0 M 62 = 3 := rfl
theorem sz_62 : (sg 62).2 = 2 := rfl
theorem kd_63 {M : Mem} : kd 0 M 63 = 20 := rfl
theorem sz_63 : (sg 63).2 = 40 := rfl
theorem kd_64 {M : Mem} : kd 0 M 64 = 10 := rfl
theorem sz_64 : (sg 64).2 = 4 := rfl
theorem kd_65 {M : Mem} : kd 0 M 65 = 3 := rfl
theorem sz_65 : (sg 65).2 = 2 := rfl
theorem kd_66 {M : Mem} : kd 0 M 66 = 20 := rfl
theorem sz_66 : (sg 66).2 = 40 := rfl
theorem kd_67 {M : Mem} : kd 0 M 67 = 10 := rfl
theorem sz_67 : (sg 67).2 = 4 := rfl
theorem kd_68 {M : Mem} : kd 0 M 68 = 3 := rfl
theorem sz_68 : (sg 68).2 = 2 := rfl
theorem kd_69 {M : Mem} : kd 0 M 69 = 20 := rfl
theorem sz_69 : (sg 69).2 = 40 := rfl
theorem kd_70 {M : Mem} : kd 0 M 70 = 10 := rfl
theorem sz_70 : (sg 70).2 = 4 := rfl
theorem kd_71 {M : Mem} : kd 0 M 71 = 3 := rfl
theorem sz_71 : (sg 71).2 = 2 := rfl
theorem kd_72 {M : Mem} : kd 0 M 72 = 20 := rfl
theorem sz_72 : (sg 72).2 = 40 := rfl
theorem kd_73 {M : Mem} : kd 0 M 73 = 10 := rfl
theorem sz_73 : (sg 73).2 = 4 := rfl
theorem kd_74 {M : Mem} : kd 0 M 74 = 3 := rfl
theorem sz_74 : (sg 74).2 = 2 := rfl
theorem kd_75 {M : Mem} : kd 0 M 75 = 20 := rfl
theorem sz_75 : (sg 75).2 = 40 := rfl
theorem kd_76 {M : Mem} : kd 0 M 76 = 10 := rfl
theorem sz_76 : (sg 76).2 = 4 := rfl
theorem kd_77 {M : Mem} : kd 0 M 77 = 3 := rfl
theorem sz_77 : (sg 77).2 = 2 := rfl
theorem kd_78 {M : Mem} : kd 0 M 78 = 20 := rfl
theorem sz_78 : (sg 78).2 = 40 := rfl
theorem kd_79 {M : Mem} : kd 0 M 79 = 21 := rfl
theorem sz_79 : (sg 79).2 = 1681 := rfl
theorem kd_80 {M : Mem} : kd 0 M 80 = 2 := rfl
theorem sz_80 : (sg 80).2 = 3 := rfl
theorem kd_81 {M : Mem} : kd 0 M 81 = 8 := rfl
theorem sz_81 : (sg 81).2 = 1 := rfl
theorem kd_82 {M : Mem} : kd 0 M 82 = 20 := rfl
theorem sz_82 : (sg 82).2 = 246 := rfl
theorem kd_83 {M : Mem} : kd 0 M 83 = 4 := rfl
theorem sz_83 : (sg 83).2 = 3 := rfl
theorem kd_84 {M : Mem} : kd 0 M 84 = 8 := rfl
theorem sz_84 : (sg 84).2 = 1 := rfl
theorem kd_85 {M : Mem} : kd 0 M 85 = 20 := rfl
theorem sz_85 : (sg 85).2 = 246 := rfl
theorem kd_86 {M : Mem} : kd 0 M 86 = 8 := rfl
theorem sz_86 : (sg 86).2 = 1 := rfl
theorem kd_87 {M : Mem} : kd 0 M 87 = 20 := rfl
theorem sz_87 : (sg 87).2 = 246 := rfl
theorem kd_88 {M : Mem} : kd 0 M 88 = 12 := rfl
theorem sz_88 : (sg 88).2 = 44 := rfl
theorem kd_89 {M : Mem} : kd 0 M 89 = 20 := rfl
theorem sz_89 : (sg 89).2 = 6 := rfl
theorem kd_90 {M : Mem} : kd 0 M 90 = 20 := rfl
theorem sz_90 : (sg 90).2 = 6 := rfl
theorem kd_91 {M : Mem} : kd 0 M 91 = 20 := rfl
theorem sz_91 : (sg 91).2 = 240 := rfl
theorem kd_92 {M : Mem} : kd 0 M 92 = 20 := rfl
theorem sz_92 : (sg 92).2 = 40 := rfl
theorem kd_93 {M : Mem} : kd 0 M 93 = 20 := rfl
theorem sz_93 : (sg 93).2 = 4 := rfl
theorem kd_94 {M : Mem} : kd 0 M 94 = 22 := rfl
theorem sz_94 : (sg 94).2 = 240 := rfl
theorem kd_95 {M : Mem} : kd 0 M 95 = 20 := rfl
theorem sz_95 : (sg 95).2 = 8 := rfl
theorem kd_96 {M : Mem} : kd 0 M 96 = 20 := rfl
theorem sz_96 : (sg 96).2 = 320 := rfl
theorem kd_97 {M : Mem} : kd 0 M 97 = 20 := rfl
theorem sz_97 : (sg 97).2 = 8 := rfl
theorem kd_98 {M : Mem} : kd 0 M 98 = 20 := rfl
theorem sz_98 : (sg 98).2 = 8 := rfl
theorem kd_99 {M : Mem} : kd 0 M 99 = 20 := rfl
theorem sz_99 : (sg 99).2 = 8 := rfl
theorem kd_100 {M : Mem} : kd 0 M 100 = 20 := rfl
theorem sz_100 : (sg 100).2 = 40 := rfl
theorem kd_101 {M : Mem} : kd 0 M 101 = 20 := rfl
theorem sz_101 : (sg 101).2 = 5 := rfl
theorem kd_102 {M : Mem} : kd 0 M 102 = 20 := rfl
theorem sz_102 : (sg 102).2 = 5 := rfl
theorem kd_103 {M : Mem} : kd 0 M 103 = 21 := rfl
theorem sz_103 : (sg 103).2 = 41 := rfl
theorem kd_104 {M : Mem} : kd 0 M 104 = 20 := rfl
theorem sz_104 : (sg 104).2 = 40 := rfl
theorem kd_105 {M : Mem} : kd 0 M 105 = 20 := rfl
theorem sz_105 : (sg 105).2 = 40 := rfl
theorem kd_106 {M : Mem} : kd 0 M 106 = 20 := rfl
theorem sz_106 : (sg 106).2 = 41 := rfl
theorem kd_107 {M : Mem} : kd 0 M 107 = 21 := rfl
theorem sz_107 : (sg 107).2 = 1681 := rfl
theorem kd_108 {M : Mem} : kd 0 M 108 = 20 := rfl
theorem sz_108 : (sg 108).2 = 1700 := rfl
theorem kd_109 {M : Mem} : kd 0 M 109 = 20 := rfl
theorem sz_109 : (sg 109).2 = 1700 := rfl
theorem kd_110 {M : Mem} : kd 0 M 110 = 20 := rfl
theorem sz_110 : (sg 110).2 = 1700 := rfl
theorem kd_111 {M : Mem} : kd 0 M 111 = 23 := rfl
theorem sz_111 : (sg 111).2 = 1700 := rfl
theorem kd_112 {M : Mem} : kd 0 M 112 = 20 := rfl
theorem sz_112 : (sg 112).2 = 40 := rfl
theorem kd_113 {M : Mem} : kd 0 M 113 = 20 := rfl
theorem sz_113 : (sg 113).2 = 4 := rfl
theorem kd_114 {M : Mem} : kd 0 M 114 = 20 := rfl
theorem sz_114 : (sg 114).2 = 20001 := rfl
theorem kd_115 {M : Mem} : kd 0 M 115 = 20 := rfl
theorem sz_115 : (sg 115).2 = 4 := rfl
theorem kd_116 {M : Mem} : kd 0 M 116 = 21 := rfl
theorem sz_116 : (sg 116).2 = 1681 := rfl
theorem kd_117 {M : Mem} : kd 0 M 117 = 21 := rfl
theorem sz_117 : (sg 117).2 = 216 := rfl
theorem kd_118 {M : Mem} : kd 0 M 118 = 21 := rfl
theorem sz_118 : (sg 118).2 = 216 := rfl
theorem kd_119 {M : Mem} : kd 0 M 119 = 21 := rfl
theorem sz_119 : (sg 119).2 = 4 := rfl
theorem kd_120 {M : Mem} (h : M (-1) 0 = 1) : kd 0 M 120 = 20 := by unfold kd; rw [if_pos rfl, if_pos rfl, if_pos h]
theorem sz_120 : (sg 120).2 = 20000 := rfl
