-- ===== PART A: goes FIRST, ahead of the names: the tables' words, and 'selects' of the private methods out of them =====
/-- a private method of a class that the tables say can be made, by its rows of tables_1 -/
def lw_okq (q : MethodName × Nat) : Prop := (q.1.cls ≠ "java/lang/invoke/MethodHandle" ∧ q.1.cls ≠ "java/lang/invoke/VarHandle") ∧ Cond.instantiable q.1.cls q.2 ∈ tables_1 ∧ Cond.privateMethod q.1 ∈ tables_1 ∧ Cond.instanceMethod q.1 ∈ tables_1
theorem lw_p0 : lw_okq (⟨"WithinWords", "found", "(I)I"⟩, 19) := ⟨⟨by decide +kernel, by decide +kernel⟩, List.mem_of_getElem? (i := 19) (by decide +kernel), List.mem_of_getElem? (i := 352) (by decide +kernel), List.mem_of_getElem? (i := 353) (by decide +kernel)⟩
theorem lw_p1 : lw_okq (⟨"WithinWords", "refusePlace", "(II)I"⟩, 19) := ⟨⟨by decide +kernel, by decide +kernel⟩, List.mem_of_getElem? (i := 19) (by decide +kernel), List.mem_of_getElem? (i := 364) (by decide +kernel), List.mem_of_getElem? (i := 365) (by decide +kernel)⟩
theorem lw_p2 : lw_okq (⟨"WithinWords", "refuseRow", "(I)I"⟩, 19) := ⟨⟨by decide +kernel, by decide +kernel⟩, List.mem_of_getElem? (i := 19) (by decide +kernel), List.mem_of_getElem? (i := 368) (by decide +kernel), List.mem_of_getElem? (i := 369) (by decide +kernel)⟩
theorem lw_p3 : lw_okq (⟨"WithinWords", "refuseText", "(I)I"⟩, 19) := ⟨⟨by decide +kernel, by decide +kernel⟩, List.mem_of_getElem? (i := 19) (by decide +kernel), List.mem_of_getElem? (i := 414) (by decide +kernel), List.mem_of_getElem? (i := 415) (by decide +kernel)⟩
theorem lw_p4 : lw_okq (⟨"WithinWords$Spelling", "goesOn", "(II)Z"⟩, 5) := ⟨⟨by decide +kernel, by decide +kernel⟩, List.mem_of_getElem? (i := 31) (by decide +kernel), List.mem_of_getElem? (i := 453) (by decide +kernel), List.mem_of_getElem? (i := 454) (by decide +kernel)⟩
theorem lw_p5 : lw_okq (⟨"WithinWords$Spelling", "addLetter", "(I)Z"⟩, 5) := ⟨⟨by decide +kernel, by decide +kernel⟩, List.mem_of_getElem? (i := 31) (by decide +kernel), List.mem_of_getElem? (i := 457) (by decide +kernel), List.mem_of_getElem? (i := 458) (by decide +kernel)⟩
theorem lw_p6 : lw_okq (⟨"WithinWords$Spelling", "open", "()Z"⟩, 5) := ⟨⟨by decide +kernel, by decide +kernel⟩, List.mem_of_getElem? (i := 31) (by decide +kernel), List.mem_of_getElem? (i := 461) (by decide +kernel), List.mem_of_getElem? (i := 462) (by decide +kernel)⟩
theorem lw_p7 : lw_okq (⟨"WithinWords$Spelling", "close", "()Z"⟩, 5) := ⟨⟨by decide +kernel, by decide +kernel⟩, List.mem_of_getElem? (i := 31) (by decide +kernel), List.mem_of_getElem? (i := 465) (by decide +kernel), List.mem_of_getElem? (i := 466) (by decide +kernel)⟩
theorem lw_p8 : lw_okq (⟨"WithinWords$Spelling", "repeat", "(I)Z"⟩, 5) := ⟨⟨by decide +kernel, by decide +kernel⟩, List.mem_of_getElem? (i := 31) (by decide +kernel), List.mem_of_getElem? (i := 469) (by decide +kernel), List.mem_of_getElem? (i := 470) (by decide +kernel)⟩
theorem lw_p9 : lw_okq (⟨"WithinWords", "refuseWords", "(II)I"⟩, 19) := ⟨⟨by decide +kernel, by decide +kernel⟩, List.mem_of_getElem? (i := 19) (by decide +kernel), List.mem_of_getElem? (i := 481) (by decide +kernel), List.mem_of_getElem? (i := 482) (by decide +kernel)⟩
theorem lw_p10 : lw_okq (⟨"WithinWords", "refuseWord", "(I)I"⟩, 19) := ⟨⟨by decide +kernel, by decide +kernel⟩, List.mem_of_getElem? (i := 19) (by decide +kernel), List.mem_of_getElem? (i := 493) (by decide +kernel), List.mem_of_getElem? (i := 494) (by decide +kernel)⟩
theorem lw_p11 : lw_okq (⟨"WithinWords$Dropping", "lookBehind", "(LWithinWords$Line;I)I"⟩, 2) := ⟨⟨by decide +kernel, by decide +kernel⟩, List.mem_of_getElem? (i := 117) (by decide +kernel), List.mem_of_getElem? (i := 508) (by decide +kernel), List.mem_of_getElem? (i := 509) (by decide +kernel)⟩
theorem lw_p12 : lw_okq (⟨"WithinWords$Dropping", "lookAhead", "([III)I"⟩, 2) := ⟨⟨by decide +kernel, by decide +kernel⟩, List.mem_of_getElem? (i := 117) (by decide +kernel), List.mem_of_getElem? (i := 515) (by decide +kernel), List.mem_of_getElem? (i := 516) (by decide +kernel)⟩
theorem lw_p13 : lw_okq (⟨"WithinWords$InnerWords", "readPlace", "(II)V"⟩, 3) := ⟨⟨by decide +kernel, by decide +kernel⟩, List.mem_of_getElem? (i := 251) (by decide +kernel), List.mem_of_getElem? (i := 616) (by decide +kernel), List.mem_of_getElem? (i := 617) (by decide +kernel)⟩
theorem lw_p14 : lw_okq (⟨"WithinWords$InnerWords", "countBegun", "(III)J"⟩, 3) := ⟨⟨by decide +kernel, by decide +kernel⟩, List.mem_of_getElem? (i := 251) (by decide +kernel), List.mem_of_getElem? (i := 636) (by decide +kernel), List.mem_of_getElem? (i := 637) (by decide +kernel)⟩
theorem lw_p15 : lw_okq (⟨"WithinWords$Arches", "absentFrom", "(II)I"⟩, 6) := ⟨⟨by decide +kernel, by decide +kernel⟩, List.mem_of_getElem? (i := 78) (by decide +kernel), List.mem_of_getElem? (i := 672) (by decide +kernel), List.mem_of_getElem? (i := 673) (by decide +kernel)⟩
def lw_privs_1 : List (MethodName × Nat) := [(⟨"WithinWords", "found", "(I)I"⟩, 19), (⟨"WithinWords", "refusePlace", "(II)I"⟩, 19), (⟨"WithinWords", "refuseRow", "(I)I"⟩, 19), (⟨"WithinWords", "refuseText", "(I)I"⟩, 19), (⟨"WithinWords$Spelling", "goesOn", "(II)Z"⟩, 5), (⟨"WithinWords$Spelling", "addLetter", "(I)Z"⟩, 5), (⟨"WithinWords$Spelling", "open", "()Z"⟩, 5), (⟨"WithinWords$Spelling", "close", "()Z"⟩, 5), (⟨"WithinWords$Spelling", "repeat", "(I)Z"⟩, 5), (⟨"WithinWords", "refuseWords", "(II)I"⟩, 19), (⟨"WithinWords", "refuseWord", "(I)I"⟩, 19), (⟨"WithinWords$Dropping", "lookBehind", "(LWithinWords$Line;I)I"⟩, 2), (⟨"WithinWords$Dropping", "lookAhead", "([III)I"⟩, 2), (⟨"WithinWords$InnerWords", "readPlace", "(II)V"⟩, 3), (⟨"WithinWords$InnerWords", "countBegun", "(III)J"⟩, 3), (⟨"WithinWords$Arches", "absentFrom", "(II)I"⟩, 6)]
theorem lw_r1 : ∀ q ∈ lw_privs_1, lw_okq q := List.forall_mem_cons.mpr ⟨lw_p0, List.forall_mem_cons.mpr ⟨lw_p1, List.forall_mem_cons.mpr ⟨lw_p2, List.forall_mem_cons.mpr ⟨lw_p3, List.forall_mem_cons.mpr ⟨lw_p4, List.forall_mem_cons.mpr ⟨lw_p5, List.forall_mem_cons.mpr ⟨lw_p6, List.forall_mem_cons.mpr ⟨lw_p7, List.forall_mem_cons.mpr ⟨lw_p8, List.forall_mem_cons.mpr ⟨lw_p9, List.forall_mem_cons.mpr ⟨lw_p10, List.forall_mem_cons.mpr ⟨lw_p11, List.forall_mem_cons.mpr ⟨lw_p12, List.forall_mem_cons.mpr ⟨lw_p13, List.forall_mem_cons.mpr ⟨lw_p14, List.forall_mem_cons.mpr ⟨lw_p15, fun _ h => absurd h List.not_mem_nil⟩⟩⟩⟩⟩⟩⟩⟩⟩⟩⟩⟩⟩⟩⟩⟩
theorem lw_p16 : lw_okq (⟨"WithinWords$Pair", "shortestParting", "(II)J"⟩, 3) := ⟨⟨by decide +kernel, by decide +kernel⟩, List.mem_of_getElem? (i := 269) (by decide +kernel), List.mem_of_getElem? (i := 702) (by decide +kernel), List.mem_of_getElem? (i := 703) (by decide +kernel)⟩
theorem lw_p17 : lw_okq (⟨"WithinWords$Pair", "partingFrom", "(III)J"⟩, 3) := ⟨⟨by decide +kernel, by decide +kernel⟩, List.mem_of_getElem? (i := 269) (by decide +kernel), List.mem_of_getElem? (i := 706) (by decide +kernel), List.mem_of_getElem? (i := 707) (by decide +kernel)⟩
theorem lw_p18 : lw_okq (⟨"WithinWords", "refuseSet", "(II)I"⟩, 19) := ⟨⟨by decide +kernel, by decide +kernel⟩, List.mem_of_getElem? (i := 19) (by decide +kernel), List.mem_of_getElem? (i := 723) (by decide +kernel), List.mem_of_getElem? (i := 724) (by decide +kernel)⟩
theorem lw_p19 : lw_okq (⟨"WithinWords$Several", "goToEnd", "()V"⟩, 7) := ⟨⟨by decide +kernel, by decide +kernel⟩, List.mem_of_getElem? (i := 130) (by decide +kernel), List.mem_of_getElem? (i := 744) (by decide +kernel), List.mem_of_getElem? (i := 745) (by decide +kernel)⟩
theorem lw_p20 : lw_okq (⟨"WithinWords$Several", "commonFrom", "(I)I"⟩, 7) := ⟨⟨by decide +kernel, by decide +kernel⟩, List.mem_of_getElem? (i := 130) (by decide +kernel), List.mem_of_getElem? (i := 748) (by decide +kernel), List.mem_of_getElem? (i := 749) (by decide +kernel)⟩
theorem lw_p21 : lw_okq (⟨"WithinWords$Several", "head", "(I)I"⟩, 7) := ⟨⟨by decide +kernel, by decide +kernel⟩, List.mem_of_getElem? (i := 130) (by decide +kernel), List.mem_of_getElem? (i := 755) (by decide +kernel), List.mem_of_getElem? (i := 756) (by decide +kernel)⟩
theorem lw_p22 : lw_okq (⟨"WithinWords$Several", "stepBack", "()V"⟩, 7) := ⟨⟨by decide +kernel, by decide +kernel⟩, List.mem_of_getElem? (i := 130) (by decide +kernel), List.mem_of_getElem? (i := 759) (by decide +kernel), List.mem_of_getElem? (i := 760) (by decide +kernel)⟩
theorem lw_p23 : lw_okq (⟨"WithinWords$Several", "goToBeginning", "()V"⟩, 7) := ⟨⟨by decide +kernel, by decide +kernel⟩, List.mem_of_getElem? (i := 130) (by decide +kernel), List.mem_of_getElem? (i := 763) (by decide +kernel), List.mem_of_getElem? (i := 764) (by decide +kernel)⟩
theorem lw_p24 : lw_okq (⟨"WithinWords$Several", "commonLetter", "(I)I"⟩, 7) := ⟨⟨by decide +kernel, by decide +kernel⟩, List.mem_of_getElem? (i := 130) (by decide +kernel), List.mem_of_getElem? (i := 767) (by decide +kernel), List.mem_of_getElem? (i := 768) (by decide +kernel)⟩
theorem lw_p25 : lw_okq (⟨"WithinWords$Several", "leads", "(II)Z"⟩, 7) := ⟨⟨by decide +kernel, by decide +kernel⟩, List.mem_of_getElem? (i := 130) (by decide +kernel), List.mem_of_getElem? (i := 771) (by decide +kernel), List.mem_of_getElem? (i := 772) (by decide +kernel)⟩
theorem lw_p26 : lw_okq (⟨"WithinWords$Several", "behindNext", "(II)I"⟩, 7) := ⟨⟨by decide +kernel, by decide +kernel⟩, List.mem_of_getElem? (i := 130) (by decide +kernel), List.mem_of_getElem? (i := 775) (by decide +kernel), List.mem_of_getElem? (i := 776) (by decide +kernel)⟩
theorem lw_p27 : lw_okq (⟨"WithinWords$Several", "coverFrom", "(I)I"⟩, 7) := ⟨⟨by decide +kernel, by decide +kernel⟩, List.mem_of_getElem? (i := 130) (by decide +kernel), List.mem_of_getElem? (i := 787) (by decide +kernel), List.mem_of_getElem? (i := 788) (by decide +kernel)⟩
theorem lw_p28 : lw_okq (⟨"WithinWords$Several", "readHeads", "()V"⟩, 7) := ⟨⟨by decide +kernel, by decide +kernel⟩, List.mem_of_getElem? (i := 130) (by decide +kernel), List.mem_of_getElem? (i := 791) (by decide +kernel), List.mem_of_getElem? (i := 792) (by decide +kernel)⟩
theorem lw_p29 : lw_okq (⟨"WithinWords$Several", "coversBy", "(II)Z"⟩, 7) := ⟨⟨by decide +kernel, by decide +kernel⟩, List.mem_of_getElem? (i := 130) (by decide +kernel), List.mem_of_getElem? (i := 796) (by decide +kernel), List.mem_of_getElem? (i := 797) (by decide +kernel)⟩
theorem lw_p30 : lw_okq (⟨"WithinWords$Several", "goBehind", "(I)V"⟩, 7) := ⟨⟨by decide +kernel, by decide +kernel⟩, List.mem_of_getElem? (i := 130) (by decide +kernel), List.mem_of_getElem? (i := 800) (by decide +kernel), List.mem_of_getElem? (i := 801) (by decide +kernel)⟩
theorem lw_p31 : lw_okq (⟨"WithinWords$Pair", "sharedFrom", "(II)J"⟩, 3) := ⟨⟨by decide +kernel, by decide +kernel⟩, List.mem_of_getElem? (i := 269) (by decide +kernel), List.mem_of_getElem? (i := 813) (by decide +kernel), List.mem_of_getElem? (i := 814) (by decide +kernel)⟩
def lw_privs_2 : List (MethodName × Nat) := [(⟨"WithinWords$Pair", "shortestParting", "(II)J"⟩, 3), (⟨"WithinWords$Pair", "partingFrom", "(III)J"⟩, 3), (⟨"WithinWords", "refuseSet", "(II)I"⟩, 19), (⟨"WithinWords$Several", "goToEnd", "()V"⟩, 7), (⟨"WithinWords$Several", "commonFrom", "(I)I"⟩, 7), (⟨"WithinWords$Several", "head", "(I)I"⟩, 7), (⟨"WithinWords$Several", "stepBack", "()V"⟩, 7), (⟨"WithinWords$Several", "goToBeginning", "()V"⟩, 7), (⟨"WithinWords$Several", "commonLetter", "(I)I"⟩, 7), (⟨"WithinWords$Several", "leads", "(II)Z"⟩, 7), (⟨"WithinWords$Several", "behindNext", "(II)I"⟩, 7), (⟨"WithinWords$Several", "coverFrom", "(I)I"⟩, 7), (⟨"WithinWords$Several", "readHeads", "()V"⟩, 7), (⟨"WithinWords$Several", "coversBy", "(II)Z"⟩, 7), (⟨"WithinWords$Several", "goBehind", "(I)V"⟩, 7), (⟨"WithinWords$Pair", "sharedFrom", "(II)J"⟩, 3)]
theorem lw_r2 : ∀ q ∈ lw_privs_2, lw_okq q := List.forall_mem_cons.mpr ⟨lw_p16, List.forall_mem_cons.mpr ⟨lw_p17, List.forall_mem_cons.mpr ⟨lw_p18, List.forall_mem_cons.mpr ⟨lw_p19, List.forall_mem_cons.mpr ⟨lw_p20, List.forall_mem_cons.mpr ⟨lw_p21, List.forall_mem_cons.mpr ⟨lw_p22, List.forall_mem_cons.mpr ⟨lw_p23, List.forall_mem_cons.mpr ⟨lw_p24, List.forall_mem_cons.mpr ⟨lw_p25, List.forall_mem_cons.mpr ⟨lw_p26, List.forall_mem_cons.mpr ⟨lw_p27, List.forall_mem_cons.mpr ⟨lw_p28, List.forall_mem_cons.mpr ⟨lw_p29, List.forall_mem_cons.mpr ⟨lw_p30, List.forall_mem_cons.mpr ⟨lw_p31, fun _ h => absurd h List.not_mem_nil⟩⟩⟩⟩⟩⟩⟩⟩⟩⟩⟩⟩⟩⟩⟩⟩
theorem lw_p32 : lw_okq (⟨"WithinWords$Twins", "addLetter", "(I)V"⟩, 10) := ⟨⟨by decide +kernel, by decide +kernel⟩, List.mem_of_getElem? (i := 159) (by decide +kernel), List.mem_of_getElem? (i := 828) (by decide +kernel), List.mem_of_getElem? (i := 829) (by decide +kernel)⟩
theorem lw_p33 : lw_okq (⟨"WithinWords$Twins", "countsOfDepth", "()[I"⟩, 10) := ⟨⟨by decide +kernel, by decide +kernel⟩, List.mem_of_getElem? (i := 159) (by decide +kernel), List.mem_of_getElem? (i := 832) (by decide +kernel), List.mem_of_getElem? (i := 833) (by decide +kernel)⟩
theorem lw_p34 : lw_okq (⟨"WithinWords$Twins", "takeLetter", "(I)V"⟩, 10) := ⟨⟨by decide +kernel, by decide +kernel⟩, List.mem_of_getElem? (i := 159) (by decide +kernel), List.mem_of_getElem? (i := 837) (by decide +kernel), List.mem_of_getElem? (i := 838) (by decide +kernel)⟩
theorem lw_p35 : lw_okq (⟨"WithinWords$Twins", "grow", "(I)V"⟩, 10) := ⟨⟨by decide +kernel, by decide +kernel⟩, List.mem_of_getElem? (i := 159) (by decide +kernel), List.mem_of_getElem? (i := 841) (by decide +kernel), List.mem_of_getElem? (i := 842) (by decide +kernel)⟩
theorem lw_p36 : lw_okq (⟨"WithinWords$Twins", "keepTwin", "()V"⟩, 10) := ⟨⟨by decide +kernel, by decide +kernel⟩, List.mem_of_getElem? (i := 159) (by decide +kernel), List.mem_of_getElem? (i := 845) (by decide +kernel), List.mem_of_getElem? (i := 846) (by decide +kernel)⟩
theorem lw_p37 : lw_okq (⟨"WithinWords$Twins", "hasTooMany", "(I)Z"⟩, 10) := ⟨⟨by decide +kernel, by decide +kernel⟩, List.mem_of_getElem? (i := 159) (by decide +kernel), List.mem_of_getElem? (i := 849) (by decide +kernel), List.mem_of_getElem? (i := 850) (by decide +kernel)⟩
theorem lw_p38 : lw_okq (⟨"WithinWords", "tellFraction", "(JJ)V"⟩, 19) := ⟨⟨by decide +kernel, by decide +kernel⟩, List.mem_of_getElem? (i := 19) (by decide +kernel), List.mem_of_getElem? (i := 860) (by decide +kernel), List.mem_of_getElem? (i := 861) (by decide +kernel)⟩
theorem lw_p39 : lw_okq (⟨"WithinWords", "countWords", "(I)I"⟩, 19) := ⟨⟨by decide +kernel, by decide +kernel⟩, List.mem_of_getElem? (i := 19) (by decide +kernel), List.mem_of_getElem? (i := 897) (by decide +kernel), List.mem_of_getElem? (i := 898) (by decide +kernel)⟩
theorem lw_p40 : lw_okq (⟨"WithinWords", "countLetters", "()I"⟩, 19) := ⟨⟨by decide +kernel, by decide +kernel⟩, List.mem_of_getElem? (i := 19) (by decide +kernel), List.mem_of_getElem? (i := 901) (by decide +kernel), List.mem_of_getElem? (i := 902) (by decide +kernel)⟩
theorem lw_p41 : lw_okq (⟨"WithinWordsModel", "meets", "(I)I"⟩, 44) := ⟨⟨by decide +kernel, by decide +kernel⟩, List.mem_of_getElem? (i := 926) (by decide +kernel), List.mem_of_getElem? (i := 1101) (by decide +kernel), List.mem_of_getElem? (i := 1102) (by decide +kernel)⟩
theorem lw_p42 : lw_okq (⟨"WithinWordsModel", "rowAt", "(II)I"⟩, 44) := ⟨⟨by decide +kernel, by decide +kernel⟩, List.mem_of_getElem? (i := 926) (by decide +kernel), List.mem_of_getElem? (i := 1109) (by decide +kernel), List.mem_of_getElem? (i := 1110) (by decide +kernel)⟩
theorem lw_p43 : lw_okq (⟨"WithinWordsModel", "tells", "(II)I"⟩, 44) := ⟨⟨by decide +kernel, by decide +kernel⟩, List.mem_of_getElem? (i := 926) (by decide +kernel), List.mem_of_getElem? (i := 1113) (by decide +kernel), List.mem_of_getElem? (i := 1114) (by decide +kernel)⟩
theorem lw_p44 : lw_okq (⟨"WithinWordsModel", "at0", "(II)I"⟩, 44) := ⟨⟨by decide +kernel, by decide +kernel⟩, List.mem_of_getElem? (i := 926) (by decide +kernel), List.mem_of_getElem? (i := 1148) (by decide +kernel), List.mem_of_getElem? (i := 1149) (by decide +kernel)⟩
theorem lw_p45 : lw_okq (⟨"WithinWordsModel", "isLetter", "(I)Z"⟩, 44) := ⟨⟨by decide +kernel, by decide +kernel⟩, List.mem_of_getElem? (i := 926) (by decide +kernel), List.mem_of_getElem? (i := 1159) (by decide +kernel), List.mem_of_getElem? (i := 1160) (by decide +kernel)⟩
theorem lw_p46 : lw_okq (⟨"WithinWordsModel", "comes", "(IIII)I"⟩, 44) := ⟨⟨by decide +kernel, by decide +kernel⟩, List.mem_of_getElem? (i := 926) (by decide +kernel), List.mem_of_getElem? (i := 1163) (by decide +kernel), List.mem_of_getElem? (i := 1164) (by decide +kernel)⟩
theorem lw_p47 : lw_okq (⟨"WithinWordsModel", "faultOf", "(I)I"⟩, 44) := ⟨⟨by decide +kernel, by decide +kernel⟩, List.mem_of_getElem? (i := 926) (by decide +kernel), List.mem_of_getElem? (i := 1171) (by decide +kernel), List.mem_of_getElem? (i := 1172) (by decide +kernel)⟩
def lw_privs_3 : List (MethodName × Nat) := [(⟨"WithinWords$Twins", "addLetter", "(I)V"⟩, 10), (⟨"WithinWords$Twins", "countsOfDepth", "()[I"⟩, 10), (⟨"WithinWords$Twins", "takeLetter", "(I)V"⟩, 10), (⟨"WithinWords$Twins", "grow", "(I)V"⟩, 10), (⟨"WithinWords$Twins", "keepTwin", "()V"⟩, 10), (⟨"WithinWords$Twins", "hasTooMany", "(I)Z"⟩, 10), (⟨"WithinWords", "tellFraction", "(JJ)V"⟩, 19), (⟨"WithinWords", "countWords", "(I)I"⟩, 19), (⟨"WithinWords", "countLetters", "()I"⟩, 19), (⟨"WithinWordsModel", "meets", "(I)I"⟩, 44), (⟨"WithinWordsModel", "rowAt", "(II)I"⟩, 44), (⟨"WithinWordsModel", "tells", "(II)I"⟩, 44), (⟨"WithinWordsModel", "at0", "(II)I"⟩, 44), (⟨"WithinWordsModel", "isLetter", "(I)Z"⟩, 44), (⟨"WithinWordsModel", "comes", "(IIII)I"⟩, 44), (⟨"WithinWordsModel", "faultOf", "(I)I"⟩, 44)]
theorem lw_r3 : ∀ q ∈ lw_privs_3, lw_okq q := List.forall_mem_cons.mpr ⟨lw_p32, List.forall_mem_cons.mpr ⟨lw_p33, List.forall_mem_cons.mpr ⟨lw_p34, List.forall_mem_cons.mpr ⟨lw_p35, List.forall_mem_cons.mpr ⟨lw_p36, List.forall_mem_cons.mpr ⟨lw_p37, List.forall_mem_cons.mpr ⟨lw_p38, List.forall_mem_cons.mpr ⟨lw_p39, List.forall_mem_cons.mpr ⟨lw_p40, List.forall_mem_cons.mpr ⟨lw_p41, List.forall_mem_cons.mpr ⟨lw_p42, List.forall_mem_cons.mpr ⟨lw_p43, List.forall_mem_cons.mpr ⟨lw_p44, List.forall_mem_cons.mpr ⟨lw_p45, List.forall_mem_cons.mpr ⟨lw_p46, List.forall_mem_cons.mpr ⟨lw_p47, fun _ h => absurd h List.not_mem_nil⟩⟩⟩⟩⟩⟩⟩⟩⟩⟩⟩⟩⟩⟩⟩⟩
theorem lw_p48 : lw_okq (⟨"WithinWordsModel", "byteAt", "(II)I"⟩, 44) := ⟨⟨by decide +kernel, by decide +kernel⟩, List.mem_of_getElem? (i := 926) (by decide +kernel), List.mem_of_getElem? (i := 1175) (by decide +kernel), List.mem_of_getElem? (i := 1176) (by decide +kernel)⟩
theorem lw_p49 : lw_okq (⟨"WithinWordsModel", "comesOn", "(I)V"⟩, 44) := ⟨⟨by decide +kernel, by decide +kernel⟩, List.mem_of_getElem? (i := 926) (by decide +kernel), List.mem_of_getElem? (i := 1179) (by decide +kernel), List.mem_of_getElem? (i := 1180) (by decide +kernel)⟩
theorem lw_p50 : lw_okq (⟨"WithinWordsModel", "figureAt", "(II)I"⟩, 44) := ⟨⟨by decide +kernel, by decide +kernel⟩, List.mem_of_getElem? (i := 926) (by decide +kernel), List.mem_of_getElem? (i := 1183) (by decide +kernel), List.mem_of_getElem? (i := 1184) (by decide +kernel)⟩
theorem lw_p51 : lw_okq (⟨"WithinWordsModel", "comesAgain", "(II)V"⟩, 44) := ⟨⟨by decide +kernel, by decide +kernel⟩, List.mem_of_getElem? (i := 926) (by decide +kernel), List.mem_of_getElem? (i := 1187) (by decide +kernel), List.mem_of_getElem? (i := 1188) (by decide +kernel)⟩
theorem lw_p52 : lw_okq (⟨"WithinWordsModel", "needTwo", "(ZII)I"⟩, 44) := ⟨⟨by decide +kernel, by decide +kernel⟩, List.mem_of_getElem? (i := 926) (by decide +kernel), List.mem_of_getElem? (i := 1199) (by decide +kernel), List.mem_of_getElem? (i := 1200) (by decide +kernel)⟩
theorem lw_p53 : lw_okq (⟨"WithinWordsModel", "isThere", "(I)Z"⟩, 44) := ⟨⟨by decide +kernel, by decide +kernel⟩, List.mem_of_getElem? (i := 926) (by decide +kernel), List.mem_of_getElem? (i := 1203) (by decide +kernel), List.mem_of_getElem? (i := 1204) (by decide +kernel)⟩
theorem lw_p54 : lw_okq (⟨"WithinWordsModel", "needWord", "(ZI)I"⟩, 44) := ⟨⟨by decide +kernel, by decide +kernel⟩, List.mem_of_getElem? (i := 926) (by decide +kernel), List.mem_of_getElem? (i := 1215) (by decide +kernel), List.mem_of_getElem? (i := 1216) (by decide +kernel)⟩
theorem lw_p55 : lw_okq (⟨"WithinWordsModel", "markOf", "(II)I"⟩, 44) := ⟨⟨by decide +kernel, by decide +kernel⟩, List.mem_of_getElem? (i := 926) (by decide +kernel), List.mem_of_getElem? (i := 1239) (by decide +kernel), List.mem_of_getElem? (i := 1240) (by decide +kernel)⟩
theorem lw_p56 : lw_okq (⟨"WithinWordsModel", "layWays", "(II)V"⟩, 44) := ⟨⟨by decide +kernel, by decide +kernel⟩, List.mem_of_getElem? (i := 926) (by decide +kernel), List.mem_of_getElem? (i := 1247) (by decide +kernel), List.mem_of_getElem? (i := 1248) (by decide +kernel)⟩
theorem lw_p57 : lw_okq (⟨"WithinWordsModel", "tellsMany", "(JI)I"⟩, 44) := ⟨⟨by decide +kernel, by decide +kernel⟩, List.mem_of_getElem? (i := 926) (by decide +kernel), List.mem_of_getElem? (i := 1251) (by decide +kernel), List.mem_of_getElem? (i := 1252) (by decide +kernel)⟩
theorem lw_p58 : lw_okq (⟨"WithinWordsModel", "layPlaces", "(II)Z"⟩, 44) := ⟨⟨by decide +kernel, by decide +kernel⟩, List.mem_of_getElem? (i := 926) (by decide +kernel), List.mem_of_getElem? (i := 1259) (by decide +kernel), List.mem_of_getElem? (i := 1260) (by decide +kernel)⟩
theorem lw_p59 : lw_okq (⟨"WithinWordsModel", "next", "(III)I"⟩, 44) := ⟨⟨by decide +kernel, by decide +kernel⟩, List.mem_of_getElem? (i := 926) (by decide +kernel), List.mem_of_getElem? (i := 1263) (by decide +kernel), List.mem_of_getElem? (i := 1264) (by decide +kernel)⟩
theorem lw_p60 : lw_okq (⟨"WithinWordsModel", "comesToRow", "(I)V"⟩, 44) := ⟨⟨by decide +kernel, by decide +kernel⟩, List.mem_of_getElem? (i := 926) (by decide +kernel), List.mem_of_getElem? (i := 1267) (by decide +kernel), List.mem_of_getElem? (i := 1268) (by decide +kernel)⟩
theorem lw_p61 : lw_okq (⟨"WithinWordsModel", "layInner", "(I)V"⟩, 44) := ⟨⟨by decide +kernel, by decide +kernel⟩, List.mem_of_getElem? (i := 926) (by decide +kernel), List.mem_of_getElem? (i := 1287) (by decide +kernel), List.mem_of_getElem? (i := 1288) (by decide +kernel)⟩
theorem lw_p62 : lw_okq (⟨"WithinWordsModel", "innersBy", "(IIII)J"⟩, 44) := ⟨⟨by decide +kernel, by decide +kernel⟩, List.mem_of_getElem? (i := 926) (by decide +kernel), List.mem_of_getElem? (i := 1299) (by decide +kernel), List.mem_of_getElem? (i := 1300) (by decide +kernel)⟩
theorem lw_p63 : lw_okq (⟨"WithinWordsModel", "archesFrom", "(II)I"⟩, 44) := ⟨⟨by decide +kernel, by decide +kernel⟩, List.mem_of_getElem? (i := 926) (by decide +kernel), List.mem_of_getElem? (i := 1307) (by decide +kernel), List.mem_of_getElem? (i := 1308) (by decide +kernel)⟩
def lw_privs_4 : List (MethodName × Nat) := [(⟨"WithinWordsModel", "byteAt", "(II)I"⟩, 44), (⟨"WithinWordsModel", "comesOn", "(I)V"⟩, 44), (⟨"WithinWordsModel", "figureAt", "(II)I"⟩, 44), (⟨"WithinWordsModel", "comesAgain", "(II)V"⟩, 44), (⟨"WithinWordsModel", "needTwo", "(ZII)I"⟩, 44), (⟨"WithinWordsModel", "isThere", "(I)Z"⟩, 44), (⟨"WithinWordsModel", "needWord", "(ZI)I"⟩, 44), (⟨"WithinWordsModel", "markOf", "(II)I"⟩, 44), (⟨"WithinWordsModel", "layWays", "(II)V"⟩, 44), (⟨"WithinWordsModel", "tellsMany", "(JI)I"⟩, 44), (⟨"WithinWordsModel", "layPlaces", "(II)Z"⟩, 44), (⟨"WithinWordsModel", "next", "(III)I"⟩, 44), (⟨"WithinWordsModel", "comesToRow", "(I)V"⟩, 44), (⟨"WithinWordsModel", "layInner", "(I)V"⟩, 44), (⟨"WithinWordsModel", "innersBy", "(IIII)J"⟩, 44), (⟨"WithinWordsModel", "archesFrom", "(II)I"⟩, 44)]
theorem lw_r4 : ∀ q ∈ lw_privs_4, lw_okq q := List.forall_mem_cons.mpr ⟨lw_p48, List.forall_mem_cons.mpr ⟨lw_p49, List.forall_mem_cons.mpr ⟨lw_p50, List.forall_mem_cons.mpr ⟨lw_p51, List.forall_mem_cons.mpr ⟨lw_p52, List.forall_mem_cons.mpr ⟨lw_p53, List.forall_mem_cons.mpr ⟨lw_p54, List.forall_mem_cons.mpr ⟨lw_p55, List.forall_mem_cons.mpr ⟨lw_p56, List.forall_mem_cons.mpr ⟨lw_p57, List.forall_mem_cons.mpr ⟨lw_p58, List.forall_mem_cons.mpr ⟨lw_p59, List.forall_mem_cons.mpr ⟨lw_p60, List.forall_mem_cons.mpr ⟨lw_p61, List.forall_mem_cons.mpr ⟨lw_p62, List.forall_mem_cons.mpr ⟨lw_p63, fun _ h => absurd h List.not_mem_nil⟩⟩⟩⟩⟩⟩⟩⟩⟩⟩⟩⟩⟩⟩⟩⟩
theorem lw_p64 : lw_okq (⟨"WithinWordsModel", "layAbsent", "(II)V"⟩, 44) := ⟨⟨by decide +kernel, by decide +kernel⟩, List.mem_of_getElem? (i := 926) (by decide +kernel), List.mem_of_getElem? (i := 1315) (by decide +kernel), List.mem_of_getElem? (i := 1316) (by decide +kernel)⟩
theorem lw_p65 : lw_okq (⟨"WithinWordsModel", "hasAll", "(III)Z"⟩, 44) := ⟨⟨by decide +kernel, by decide +kernel⟩, List.mem_of_getElem? (i := 926) (by decide +kernel), List.mem_of_getElem? (i := 1319) (by decide +kernel), List.mem_of_getElem? (i := 1320) (by decide +kernel)⟩
theorem lw_p66 : lw_okq (⟨"WithinWordsModel", "layOther", "(I)V"⟩, 44) := ⟨⟨by decide +kernel, by decide +kernel⟩, List.mem_of_getElem? (i := 926) (by decide +kernel), List.mem_of_getElem? (i := 1337) (by decide +kernel), List.mem_of_getElem? (i := 1338) (by decide +kernel)⟩
theorem lw_p67 : lw_okq (⟨"WithinWordsModel", "partsFrom", "(I)I"⟩, 44) := ⟨⟨by decide +kernel, by decide +kernel⟩, List.mem_of_getElem? (i := 926) (by decide +kernel), List.mem_of_getElem? (i := 1341) (by decide +kernel), List.mem_of_getElem? (i := 1342) (by decide +kernel)⟩
theorem lw_p68 : lw_okq (⟨"WithinWordsModel", "nextOther", "(II)I"⟩, 44) := ⟨⟨by decide +kernel, by decide +kernel⟩, List.mem_of_getElem? (i := 926) (by decide +kernel), List.mem_of_getElem? (i := 1345) (by decide +kernel), List.mem_of_getElem? (i := 1346) (by decide +kernel)⟩
theorem lw_p69 : lw_okq (⟨"WithinWordsModel", "layPart", "(II)I"⟩, 44) := ⟨⟨by decide +kernel, by decide +kernel⟩, List.mem_of_getElem? (i := 926) (by decide +kernel), List.mem_of_getElem? (i := 1349) (by decide +kernel), List.mem_of_getElem? (i := 1350) (by decide +kernel)⟩
theorem lw_p70 : lw_okq (⟨"WithinWordsModel", "dropOther", "(I)V"⟩, 44) := ⟨⟨by decide +kernel, by decide +kernel⟩, List.mem_of_getElem? (i := 926) (by decide +kernel), List.mem_of_getElem? (i := 1361) (by decide +kernel), List.mem_of_getElem? (i := 1362) (by decide +kernel)⟩
theorem lw_p71 : lw_okq (⟨"WithinWordsModel", "backOther", "(II)V"⟩, 44) := ⟨⟨by decide +kernel, by decide +kernel⟩, List.mem_of_getElem? (i := 926) (by decide +kernel), List.mem_of_getElem? (i := 1365) (by decide +kernel), List.mem_of_getElem? (i := 1366) (by decide +kernel)⟩
theorem lw_p72 : lw_okq (⟨"WithinWordsModel", "needSeveral", "(II)I"⟩, 44) := ⟨⟨by decide +kernel, by decide +kernel⟩, List.mem_of_getElem? (i := 926) (by decide +kernel), List.mem_of_getElem? (i := 1373) (by decide +kernel), List.mem_of_getElem? (i := 1374) (by decide +kernel)⟩
theorem lw_p73 : lw_okq (⟨"WithinWordsModel", "allCodes", "()I"⟩, 44) := ⟨⟨by decide +kernel, by decide +kernel⟩, List.mem_of_getElem? (i := 926) (by decide +kernel), List.mem_of_getElem? (i := 1380) (by decide +kernel), List.mem_of_getElem? (i := 1381) (by decide +kernel)⟩
theorem lw_p74 : lw_okq (⟨"WithinWordsModel", "behindNext", "(II)I"⟩, 44) := ⟨⟨by decide +kernel, by decide +kernel⟩, List.mem_of_getElem? (i := 926) (by decide +kernel), List.mem_of_getElem? (i := 1384) (by decide +kernel), List.mem_of_getElem? (i := 1385) (by decide +kernel)⟩
theorem lw_p75 : lw_okq (⟨"WithinWordsModel", "layAt", "(I)V"⟩, 44) := ⟨⟨by decide +kernel, by decide +kernel⟩, List.mem_of_getElem? (i := 926) (by decide +kernel), List.mem_of_getElem? (i := 1388) (by decide +kernel), List.mem_of_getElem? (i := 1389) (by decide +kernel)⟩
theorem lw_p76 : lw_okq (⟨"WithinWordsModel", "code", "()I"⟩, 44) := ⟨⟨by decide +kernel, by decide +kernel⟩, List.mem_of_getElem? (i := 926) (by decide +kernel), List.mem_of_getElem? (i := 1392) (by decide +kernel), List.mem_of_getElem? (i := 1393) (by decide +kernel)⟩
theorem lw_p77 : lw_okq (⟨"WithinWordsModel", "behindHere", "(II)I"⟩, 44) := ⟨⟨by decide +kernel, by decide +kernel⟩, List.mem_of_getElem? (i := 926) (by decide +kernel), List.mem_of_getElem? (i := 1400) (by decide +kernel), List.mem_of_getElem? (i := 1401) (by decide +kernel)⟩
theorem lw_p78 : lw_okq (⟨"WithinWordsModel", "oftenIn", "(III)J"⟩, 44) := ⟨⟨by decide +kernel, by decide +kernel⟩, List.mem_of_getElem? (i := 926) (by decide +kernel), List.mem_of_getElem? (i := 1413) (by decide +kernel), List.mem_of_getElem? (i := 1414) (by decide +kernel)⟩
theorem lw_p79 : lw_okq (⟨"WithinWordsModel", "layOtherBy", "(II)V"⟩, 44) := ⟨⟨by decide +kernel, by decide +kernel⟩, List.mem_of_getElem? (i := 926) (by decide +kernel), List.mem_of_getElem? (i := 1417) (by decide +kernel), List.mem_of_getElem? (i := 1418) (by decide +kernel)⟩
def lw_privs_5 : List (MethodName × Nat) := [(⟨"WithinWordsModel", "layAbsent", "(II)V"⟩, 44), (⟨"WithinWordsModel", "hasAll", "(III)Z"⟩, 44), (⟨"WithinWordsModel", "layOther", "(I)V"⟩, 44), (⟨"WithinWordsModel", "partsFrom", "(I)I"⟩, 44), (⟨"WithinWordsModel", "nextOther", "(II)I"⟩, 44), (⟨"WithinWordsModel", "layPart", "(II)I"⟩, 44), (⟨"WithinWordsModel", "dropOther", "(I)V"⟩, 44), (⟨"WithinWordsModel", "backOther", "(II)V"⟩, 44), (⟨"WithinWordsModel", "needSeveral", "(II)I"⟩, 44), (⟨"WithinWordsModel", "allCodes", "()I"⟩, 44), (⟨"WithinWordsModel", "behindNext", "(II)I"⟩, 44), (⟨"WithinWordsModel", "layAt", "(I)V"⟩, 44), (⟨"WithinWordsModel", "code", "()I"⟩, 44), (⟨"WithinWordsModel", "behindHere", "(II)I"⟩, 44), (⟨"WithinWordsModel", "oftenIn", "(III)J"⟩, 44), (⟨"WithinWordsModel", "layOtherBy", "(II)V"⟩, 44)]
theorem lw_r5 : ∀ q ∈ lw_privs_5, lw_okq q := List.forall_mem_cons.mpr ⟨lw_p64, List.forall_mem_cons.mpr ⟨lw_p65, List.forall_mem_cons.mpr ⟨lw_p66, List.forall_mem_cons.mpr ⟨lw_p67, List.forall_mem_cons.mpr ⟨lw_p68, List.forall_mem_cons.mpr ⟨lw_p69, List.forall_mem_cons.mpr ⟨lw_p70, List.forall_mem_cons.mpr ⟨lw_p71, List.forall_mem_cons.mpr ⟨lw_p72, List.forall_mem_cons.mpr ⟨lw_p73, List.forall_mem_cons.mpr ⟨lw_p74, List.forall_mem_cons.mpr ⟨lw_p75, List.forall_mem_cons.mpr ⟨lw_p76, List.forall_mem_cons.mpr ⟨lw_p77, List.forall_mem_cons.mpr ⟨lw_p78, List.forall_mem_cons.mpr ⟨lw_p79, fun _ h => absurd h List.not_mem_nil⟩⟩⟩⟩⟩⟩⟩⟩⟩⟩⟩⟩⟩⟩⟩⟩
theorem lw_p80 : lw_okq (⟨"WithinWordsModel", "isTwin", "(III)Z"⟩, 44) := ⟨⟨by decide +kernel, by decide +kernel⟩, List.mem_of_getElem? (i := 926) (by decide +kernel), List.mem_of_getElem? (i := 1421) (by decide +kernel), List.mem_of_getElem? (i := 1422) (by decide +kernel)⟩
theorem lw_p81 : lw_okq (⟨"WithinWordsModel", "fraction", "(JJI)I"⟩, 44) := ⟨⟨by decide +kernel, by decide +kernel⟩, List.mem_of_getElem? (i := 926) (by decide +kernel), List.mem_of_getElem? (i := 1432) (by decide +kernel), List.mem_of_getElem? (i := 1433) (by decide +kernel)⟩
theorem lw_p82 : lw_okq (⟨"WithinWordsModel", "counted", "(I)I"⟩, 44) := ⟨⟨by decide +kernel, by decide +kernel⟩, List.mem_of_getElem? (i := 926) (by decide +kernel), List.mem_of_getElem? (i := 1444) (by decide +kernel), List.mem_of_getElem? (i := 1445) (by decide +kernel)⟩
theorem lw_p83 : lw_okq (⟨"WithinWordsModel", "mix", "(J)V"⟩, 44) := ⟨⟨by decide +kernel, by decide +kernel⟩, List.mem_of_getElem? (i := 926) (by decide +kernel), List.mem_of_getElem? (i := 1453) (by decide +kernel), List.mem_of_getElem? (i := 1454) (by decide +kernel)⟩
theorem lw_p84 : lw_okq (⟨"WithinWordsModel", "mixWord", "(I)V"⟩, 44) := ⟨⟨by decide +kernel, by decide +kernel⟩, List.mem_of_getElem? (i := 926) (by decide +kernel), List.mem_of_getElem? (i := 1458) (by decide +kernel), List.mem_of_getElem? (i := 1459) (by decide +kernel)⟩
def lw_privs_6 : List (MethodName × Nat) := [(⟨"WithinWordsModel", "isTwin", "(III)Z"⟩, 44), (⟨"WithinWordsModel", "fraction", "(JJI)I"⟩, 44), (⟨"WithinWordsModel", "counted", "(I)I"⟩, 44), (⟨"WithinWordsModel", "mix", "(J)V"⟩, 44), (⟨"WithinWordsModel", "mixWord", "(I)V"⟩, 44)]
theorem lw_r6 : ∀ q ∈ lw_privs_6, lw_okq q := List.forall_mem_cons.mpr ⟨lw_p80, List.forall_mem_cons.mpr ⟨lw_p81, List.forall_mem_cons.mpr ⟨lw_p82, List.forall_mem_cons.mpr ⟨lw_p83, List.forall_mem_cons.mpr ⟨lw_p84, fun _ h => absurd h List.not_mem_nil⟩⟩⟩⟩⟩
def lw_privs : List (MethodName × Nat) := lw_privs_1 ++ (lw_privs_2 ++ (lw_privs_3 ++ (lw_privs_4 ++ (lw_privs_5 ++ (lw_privs_6)))))
def lw_tbl : List Cond := k2_sels lw_privs ++ tables_1
theorem lw_privs_ok : ∀ q ∈ lw_privs, lw_okq q := by
  show ∀ q ∈ lw_privs_1 ++ (lw_privs_2 ++ (lw_privs_3 ++ (lw_privs_4 ++ (lw_privs_5 ++ (lw_privs_6))))), lw_okq q
  exact List.forall_mem_append.mpr ⟨lw_r1, List.forall_mem_append.mpr ⟨lw_r2, List.forall_mem_append.mpr ⟨lw_r3, List.forall_mem_append.mpr ⟨lw_r4, List.forall_mem_append.mpr ⟨lw_r5, lw_r6⟩⟩⟩⟩⟩

/-- the tables' words that stay as they are -/
def gtbl : List Cond := lw_tbl.filter goodWord
theorem tb_in (i : Nat) {w : Cond} (h : tables_1[i]? = some w) (hg : goodWord w = true) : w ∈ gtbl := List.mem_filter.mpr ⟨List.mem_append_right _ (List.mem_of_getElem? h), hg⟩
theorem tb_1 (i : Nat) {w : Cond} (h : tables_1_1[i]? = some w) (hg : goodWord w = true) : w ∈ gtbl := List.mem_filter.mpr ⟨List.mem_append_right _ (show w ∈ tables_1 from List.mem_append_left _ (List.mem_of_getElem? h)), hg⟩
theorem tb_2 (i : Nat) {w : Cond} (h : tables_1_2[i]? = some w) (hg : goodWord w = true) : w ∈ gtbl := List.mem_filter.mpr ⟨List.mem_append_right _ (show w ∈ tables_1 from List.mem_append_right _ (List.mem_append_left _ (List.mem_of_getElem? h))), hg⟩
theorem tb_3 (i : Nat) {w : Cond} (h : tables_1_3[i]? = some w) (hg : goodWord w = true) : w ∈ gtbl := List.mem_filter.mpr ⟨List.mem_append_right _ (show w ∈ tables_1 from List.mem_append_right _ (List.mem_append_right _ (List.mem_append_left _ (List.mem_of_getElem? h)))), hg⟩
theorem tb_4 (i : Nat) {w : Cond} (h : tables_1_4[i]? = some w) (hg : goodWord w = true) : w ∈ gtbl := List.mem_filter.mpr ⟨List.mem_append_right _ (show w ∈ tables_1 from List.mem_append_right _ (List.mem_append_right _ (List.mem_append_right _ (List.mem_append_left _ (List.mem_of_getElem? h))))), hg⟩
theorem tb_5 (i : Nat) {w : Cond} (h : tables_1_5[i]? = some w) (hg : goodWord w = true) : w ∈ gtbl := List.mem_filter.mpr ⟨List.mem_append_right _ (show w ∈ tables_1 from List.mem_append_right _ (List.mem_append_right _ (List.mem_append_right _ (List.mem_append_right _ (List.mem_append_left _ (List.mem_of_getElem? h)))))), hg⟩
theorem tb_6 (i : Nat) {w : Cond} (h : tables_1_6[i]? = some w) (hg : goodWord w = true) : w ∈ gtbl := List.mem_filter.mpr ⟨List.mem_append_right _ (show w ∈ tables_1 from List.mem_append_right _ (List.mem_append_right _ (List.mem_append_right _ (List.mem_append_right _ (List.mem_append_right _ (List.mem_append_left _ (List.mem_of_getElem? h))))))), hg⟩
theorem tb_7 (i : Nat) {w : Cond} (h : tables_1_7[i]? = some w) (hg : goodWord w = true) : w ∈ gtbl := List.mem_filter.mpr ⟨List.mem_append_right _ (show w ∈ tables_1 from List.mem_append_right _ (List.mem_append_right _ (List.mem_append_right _ (List.mem_append_right _ (List.mem_append_right _ (List.mem_append_right _ (List.mem_of_getElem? h))))))), hg⟩
theorem tb_sel {q : MethodName × Nat} (h : q ∈ lw_privs) : Cond.selects q.1.cls q.1 q.1 ∈ gtbl := List.mem_filter.mpr ⟨List.mem_append_left _ (List.mem_map.mpr ⟨q, h, rfl⟩), rfl⟩
theorem u_lay_good (C : String) (T : u_T) (k : Nat) : goodWord (u_lay C T k) = true := by
  unfold u_lay
  split <;> rfl
def RX0 : String := "WithinWords$Arches"
def TX0 : u_T := fun k => match k with
  | 0 => ("WithinWords$Arches", "closed", "I", false)
  | 1 => ("WithinWords$Arches", "rest", "I", false)
  | 2 => ("WithinWords$Arches", "restLetters", "I", false)
  | 3 => ("WithinWords$Arches", "shortest", "[I", true)
  | 4 => ("WithinWords$Arches", "howMany", "[J", true)
  | _ => ("WithinWords$Arches", "steps", "LWithinWords$Steps;", true)
def tyX0 : Nat → FieldType := fun k => match k with
  | 0 => .int
  | 1 => .int
  | 2 => .int
  | 3 => .array .int
  | 4 => .array .long
  | _ => .object "WithinWords$Steps"
theorem nmX0 : ∀ a, a < 6 → ∀ b, b < 6 → a ≠ b → (TX0 a).2.1 ≠ (TX0 b).2.1 := by decide +kernel
theorem tyX0_ok : ∀ k, k < 6 → parseFieldDescriptor (TX0 k).2.2.1 = some (tyX0 k) := by decide +kernel
theorem inX0 : ∀ w ∈ u_ws RX0 TX0 6, w ∈ gtbl := by
  intro w hw
  obtain ⟨k, hk, rfl⟩ := List.mem_map.mp hw
  have hk : k < 6 := List.mem_range.mp hk
  have h : ∀ k, k < 6 → tables_1[([103, 105, 107, 109, 111, 113].getD k 0 : Nat)]? = some (u_lay RX0 TX0 k) := by decide +kernel
  exact tb_in _ (h k hk) (u_lay_good _ _ _)
def RX1 : String := "WithinWords$Dropping"
def TX1 : u_T := fun k => match k with
  | 0 => ("WithinWords$Dropping", "depthAhead", "[I", true)
  | _ => ("WithinWords$Dropping", "depthBehind", "[I", true)
def tyX1 : Nat → FieldType := fun k => match k with
  | 0 => .array .int
  | _ => .array .int
theorem nmX1 : ∀ a, a < 2 → ∀ b, b < 2 → a ≠ b → (TX1 a).2.1 ≠ (TX1 b).2.1 := by decide +kernel
theorem tyX1_ok : ∀ k, k < 2 → parseFieldDescriptor (TX1 k).2.2.1 = some (tyX1 k) := by decide +kernel
theorem inX1 : ∀ w ∈ u_ws RX1 TX1 2, w ∈ gtbl := by
  intro w hw
  obtain ⟨k, hk, rfl⟩ := List.mem_map.mp hw
  have hk : k < 2 := List.mem_range.mp hk
  have h : ∀ k, k < 2 → tables_1[([124, 126].getD k 0 : Nat)]? = some (u_lay RX1 TX1 k) := by decide +kernel
  exact tb_in _ (h k hk) (u_lay_good _ _ _)
def RX2 : String := "WithinWords$InnerWords"
def TX2 : u_T := fun k => match k with
  | 0 => ("WithinWords$InnerWords", "steps", "LWithinWords$Steps;", true)
  | 1 => ("WithinWords$InnerWords", "counts", "[J", true)
  | _ => ("WithinWords$InnerWords", "lettersRead", "I", false)
def tyX2 : Nat → FieldType := fun k => match k with
  | 0 => .object "WithinWords$Steps"
  | 1 => .array .long
  | _ => .int
theorem nmX2 : ∀ a, a < 3 → ∀ b, b < 3 → a ≠ b → (TX2 a).2.1 ≠ (TX2 b).2.1 := by decide +kernel
theorem tyX2_ok : ∀ k, k < 3 → parseFieldDescriptor (TX2 k).2.2.1 = some (tyX2 k) := by decide +kernel
theorem inX2 : ∀ w ∈ u_ws RX2 TX2 3, w ∈ gtbl := by
  intro w hw
  obtain ⟨k, hk, rfl⟩ := List.mem_map.mp hw
  have hk : k < 3 := List.mem_range.mp hk
  have h : ∀ k, k < 3 → tables_1[([261, 263, 265].getD k 0 : Nat)]? = some (u_lay RX2 TX2 k) := by decide +kernel
  exact tb_in _ (h k hk) (u_lay_good _ _ _)
def RX3 : String := "WithinWords$Line"
def TX3 : u_T := fun k => match k with
  | 0 => ("WithinWords$Line", "v", "[I", true)
  | _ => ("WithinWords$Line", "len", "I", false)
def tyX3 : Nat → FieldType := fun k => match k with
  | 0 => .array .int
  | _ => .int
theorem nmX3 : ∀ a, a < 2 → ∀ b, b < 2 → a ≠ b → (TX3 a).2.1 ≠ (TX3 b).2.1 := by decide +kernel
theorem tyX3_ok : ∀ k, k < 2 → parseFieldDescriptor (TX3 k).2.2.1 = some (tyX3 k) := by decide +kernel
theorem inX3 : ∀ w ∈ u_ws RX3 TX3 2, w ∈ gtbl := by
  intro w hw
  obtain ⟨k, hk, rfl⟩ := List.mem_map.mp hw
  have hk : k < 2 := List.mem_range.mp hk
  have h : ∀ k, k < 2 → tables_1[([223, 225].getD k 0 : Nat)]? = some (u_lay RX3 TX3 k) := by decide +kernel
  exact tb_in _ (h k hk) (u_lay_good _ _ _)
def RX4 : String := "WithinWords$Pair"
def TX4 : u_T := fun k => match k with
  | 0 => ("WithinWords$Pair", "inFirst", "LWithinWords$Steps;", true)
  | 1 => ("WithinWords$Pair", "inSecond", "LWithinWords$Steps;", true)
  | _ => ("WithinWords$Pair", "table", "[J", true)
def tyX4 : Nat → FieldType := fun k => match k with
  | 0 => .object "WithinWords$Steps"
  | 1 => .object "WithinWords$Steps"
  | _ => .array .long
theorem nmX4 : ∀ a, a < 3 → ∀ b, b < 3 → a ≠ b → (TX4 a).2.1 ≠ (TX4 b).2.1 := by decide +kernel
theorem tyX4_ok : ∀ k, k < 3 → parseFieldDescriptor (TX4 k).2.2.1 = some (tyX4 k) := by decide +kernel
theorem inX4 : ∀ w ∈ u_ws RX4 TX4 3, w ∈ gtbl := by
  intro w hw
  obtain ⟨k, hk, rfl⟩ := List.mem_map.mp hw
  have hk : k < 3 := List.mem_range.mp hk
  have h : ∀ k, k < 3 → tables_1[([279, 281, 283].getD k 0 : Nat)]? = some (u_lay RX4 TX4 k) := by decide +kernel
  exact tb_in _ (h k hk) (u_lay_good _ _ _)
def RX5 : String := "WithinWords$Several"
def TX5 : u_T := fun k => match k with
  | 0 => ("WithinWords$Several", "chosen", "[LWithinWords$Line;", true)
  | 1 => ("WithinWords$Several", "stride", "[I", true)
  | 2 => ("WithinWords$Several", "place", "[I", true)
  | 3 => ("WithinWords$Several", "stepBy", "[I", true)
  | 4 => ("WithinWords$Several", "table", "[I", false)
  | 5 => ("WithinWords$Several", "n", "I", false)
  | _ => ("WithinWords$Several", "states", "I", false)
def tyX5 : Nat → FieldType := fun k => match k with
  | 0 => .array (.object "WithinWords$Line")
  | 1 => .array .int
  | 2 => .array .int
  | 3 => .array .int
  | 4 => .array .int
  | 5 => .int
  | _ => .int
theorem nmX5 : ∀ a, a < 7 → ∀ b, b < 7 → a ≠ b → (TX5 a).2.1 ≠ (TX5 b).2.1 := by decide +kernel
theorem tyX5_ok : ∀ k, k < 7 → parseFieldDescriptor (TX5 k).2.2.1 = some (tyX5 k) := by decide +kernel
theorem inX5 : ∀ w ∈ u_ws RX5 TX5 7, w ∈ gtbl := by
  intro w hw
  obtain ⟨k, hk, rfl⟩ := List.mem_map.mp hw
  have hk : k < 7 := List.mem_range.mp hk
  have h : ∀ k, k < 7 → tables_1[([143, 145, 147, 149, 151, 153, 155].getD k 0 : Nat)]? = some (u_lay RX5 TX5 k) := by decide +kernel
  exact tb_in _ (h k hk) (u_lay_good _ _ _)
def RX6 : String := "WithinWords$Spelling"
def TX6 : u_T := fun k => match k with
  | 0 => ("WithinWords$Spelling", "spelled", "[I", true)
  | 1 => ("WithinWords$Spelling", "len", "I", false)
  | 2 => ("WithinWords$Spelling", "openedAt", "[I", true)
  | 3 => ("WithinWords$Spelling", "depth", "I", false)
  | _ => ("WithinWords$Spelling", "lastItem", "I", false)
def tyX6 : Nat → FieldType := fun k => match k with
  | 0 => .array .int
  | 1 => .int
  | 2 => .array .int
  | 3 => .int
  | _ => .int
theorem nmX6 : ∀ a, a < 5 → ∀ b, b < 5 → a ≠ b → (TX6 a).2.1 ≠ (TX6 b).2.1 := by decide +kernel
theorem tyX6_ok : ∀ k, k < 5 → parseFieldDescriptor (TX6 k).2.2.1 = some (tyX6 k) := by decide +kernel
theorem inX6 : ∀ w ∈ u_ws RX6 TX6 5, w ∈ gtbl := by
  intro w hw
  obtain ⟨k, hk, rfl⟩ := List.mem_map.mp hw
  have hk : k < 5 := List.mem_range.mp hk
  have h : ∀ k, k < 5 → tables_1[([43, 45, 47, 49, 51].getD k 0 : Nat)]? = some (u_lay RX6 TX6 k) := by decide +kernel
  exact tb_in _ (h k hk) (u_lay_good _ _ _)
def RX7 : String := "WithinWords$Standing"
def TX7 : u_T := fun k => match k with
  | 0 => ("WithinWords$Standing", "earliest", "[I", true)
  | 1 => ("WithinWords$Standing", "latest", "[I", true)
  | 2 => ("WithinWords$Standing", "waysOf", "[J", true)
  | _ => ("WithinWords$Standing", "goneFor", "[I", true)
def tyX7 : Nat → FieldType := fun k => match k with
  | 0 => .array .int
  | 1 => .array .int
  | 2 => .array .long
  | _ => .array .int
theorem nmX7 : ∀ a, a < 4 → ∀ b, b < 4 → a ≠ b → (TX7 a).2.1 ≠ (TX7 b).2.1 := by decide +kernel
theorem tyX7_ok : ∀ k, k < 4 → parseFieldDescriptor (TX7 k).2.2.1 = some (tyX7 k) := by decide +kernel
theorem inX7 : ∀ w ∈ u_ws RX7 TX7 4, w ∈ gtbl := by
  intro w hw
  obtain ⟨k, hk, rfl⟩ := List.mem_map.mp hw
  have hk : k < 4 := List.mem_range.mp hk
  have h : ∀ k, k < 4 → tables_1[([67, 69, 71, 73].getD k 0 : Nat)]? = some (u_lay RX7 TX7 k) := by decide +kernel
  exact tb_in _ (h k hk) (u_lay_good _ _ _)
def RX8 : String := "WithinWords$Steps"
def TX8 : u_T := fun k => match k with
  | _ => ("WithinWords$Steps", "next", "[I", true)
def tyX8 : Nat → FieldType := fun k => match k with
  | _ => .array .int
theorem nmX8 : ∀ a, a < 1 → ∀ b, b < 1 → a ≠ b → (TX8 a).2.1 ≠ (TX8 b).2.1 := by decide +kernel
theorem tyX8_ok : ∀ k, k < 1 → parseFieldDescriptor (TX8 k).2.2.1 = some (tyX8 k) := by decide +kernel
theorem inX8 : ∀ w ∈ u_ws RX8 TX8 1, w ∈ gtbl := by
  intro w hw
  obtain ⟨k, hk, rfl⟩ := List.mem_map.mp hw
  have hk : k < 1 := List.mem_range.mp hk
  have h : ∀ k, k < 1 → tables_1[([90].getD k 0 : Nat)]? = some (u_lay RX8 TX8 k) := by decide +kernel
  exact tb_in _ (h k hk) (u_lay_good _ _ _)
def RX9 : String := "WithinWords$Twins"
def TX9 : u_T := fun k => match k with
  | 0 => ("WithinWords$Twins", "first", "[I", true)
  | 1 => ("WithinWords$Twins", "grown", "[I", true)
  | 2 => ("WithinWords$Twins", "ones", "[I", true)
  | 3 => ("WithinWords$Twins", "twos", "[I", true)
  | 4 => ("WithinWords$Twins", "threes", "[I", true)
  | 5 => ("WithinWords$Twins", "due", "[I", true)
  | 6 => ("WithinWords$Twins", "alphabet", "I", false)
  | 7 => ("WithinWords$Twins", "length", "I", false)
  | 8 => ("WithinWords$Twins", "depth", "I", false)
  | _ => ("WithinWords$Twins", "twinsMet", "I", false)
def tyX9 : Nat → FieldType := fun k => match k with
  | 0 => .array .int
  | 1 => .array .int
  | 2 => .array .int
  | 3 => .array .int
  | 4 => .array .int
  | 5 => .array .int
  | 6 => .int
  | 7 => .int
  | 8 => .int
  | _ => .int
theorem nmX9 : ∀ a, a < 10 → ∀ b, b < 10 → a ≠ b → (TX9 a).2.1 ≠ (TX9 b).2.1 := by decide +kernel
theorem tyX9_ok : ∀ k, k < 10 → parseFieldDescriptor (TX9 k).2.2.1 = some (tyX9 k) := by decide +kernel
theorem inX9 : ∀ w ∈ u_ws RX9 TX9 10, w ∈ gtbl := by
  intro w hw
  obtain ⟨k, hk, rfl⟩ := List.mem_map.mp hw
  have hk : k < 10 := List.mem_range.mp hk
  have h : ∀ k, k < 10 → tables_1[([175, 177, 179, 181, 183, 185, 187, 189, 191, 193].getD k 0 : Nat)]? = some (u_lay RX9 TX9 k) := by decide +kernel
  exact tb_in _ (h k hk) (u_lay_good _ _ _)
def RX10 : String := "WithinWords$Word"
def TX10 : u_T := fun k => match k with
  | 0 => ("WithinWords$Word", "line", "LWithinWords$Line;", true)
  | 1 => ("WithinWords$Word", "sort", "I", false)
  | 2 => ("WithinWords$Word", "source", "I", false)
  | _ => ("WithinWords$Word", "told", "I", false)
def tyX10 : Nat → FieldType := fun k => match k with
  | 0 => .object "WithinWords$Line"
  | 1 => .int
  | 2 => .int
  | _ => .int
theorem nmX10 : ∀ a, a < 4 → ∀ b, b < 4 → a ≠ b → (TX10 a).2.1 ≠ (TX10 b).2.1 := by decide +kernel
theorem tyX10_ok : ∀ k, k < 4 → parseFieldDescriptor (TX10 k).2.2.1 = some (tyX10 k) := by decide +kernel
theorem inX10 : ∀ w ∈ u_ws RX10 TX10 4, w ∈ gtbl := by
  intro w hw
  obtain ⟨k, hk, rfl⟩ := List.mem_map.mp hw
  have hk : k < 4 := List.mem_range.mp hk
  have h : ∀ k, k < 4 → tables_1[([241, 243, 245, 247].getD k 0 : Nat)]? = some (u_lay RX10 TX10 k) := by decide +kernel
  exact tb_in _ (h k hk) (u_lay_good _ _ _)
def RX11 : String := "WithinWords"
def TX11 : u_T := fun k => match k with
  | 0 => ("WithinWords", "rows", "[LWithinWords$Line;", true)
  | 1 => ("WithinWords", "texts", "[LWithinWords$Line;", true)
  | 2 => ("WithinWords", "words", "[LWithinWords$Word;", true)
  | 3 => ("WithinWords", "alphabet", "I", false)
  | 4 => ("WithinWords", "lastAsked", "I", false)
  | 5 => ("WithinWords", "lastMany", "J", false)
  | 6 => ("WithinWords", "lastUpper", "J", false)
  | 7 => ("WithinWords", "lastLower", "J", false)
  | 8 => ("WithinWords", "lastFinding", "I", false)
  | 9 => ("WithinWords", "answered", "[I", true)
  | 10 => ("WithinWords", "built", "[I", true)
  | 11 => ("WithinWords", "spelling", "LWithinWords$Spelling;", true)
  | 12 => ("WithinWords", "standing", "LWithinWords$Standing;", true)
  | 13 => ("WithinWords", "innerWords", "LWithinWords$InnerWords;", true)
  | 14 => ("WithinWords", "archReader", "LWithinWords$Arches;", true)
  | 15 => ("WithinWords", "pair", "LWithinWords$Pair;", true)
  | 16 => ("WithinWords", "dropping", "LWithinWords$Dropping;", true)
  | 17 => ("WithinWords", "several", "LWithinWords$Several;", true)
  | _ => ("WithinWords", "twinSearch", "LWithinWords$Twins;", true)
def tyX11 : Nat → FieldType := fun k => match k with
  | 0 => .array (.object "WithinWords$Line")
  | 1 => .array (.object "WithinWords$Line")
  | 2 => .array (.object "WithinWords$Word")
  | 3 => .int
  | 4 => .int
  | 5 => .long
  | 6 => .long
  | 7 => .long
  | 8 => .int
  | 9 => .array .int
  | 10 => .array .int
  | 11 => .object "WithinWords$Spelling"
  | 12 => .object "WithinWords$Standing"
  | 13 => .object "WithinWords$InnerWords"
  | 14 => .object "WithinWords$Arches"
  | 15 => .object "WithinWords$Pair"
  | 16 => .object "WithinWords$Dropping"
  | 17 => .object "WithinWords$Several"
  | _ => .object "WithinWords$Twins"
theorem nmX11 : ∀ a, a < 19 → ∀ b, b < 19 → a ≠ b → (TX11 a).2.1 ≠ (TX11 b).2.1 := by decide +kernel
theorem tyX11_ok : ∀ k, k < 19 → parseFieldDescriptor (TX11 k).2.2.1 = some (tyX11 k) := by decide +kernel
theorem inX11 : ∀ w ∈ u_ws RX11 TX11 19, w ∈ gtbl := by
  intro w hw
  obtain ⟨k, hk, rfl⟩ := List.mem_map.mp hw
  have hk : k < 19 := List.mem_range.mp hk
  have h : ∀ k, k < 19 → tables_1[([305, 307, 309, 311, 313, 315, 317, 319, 321, 323, 325, 327, 329, 331, 333, 335, 337, 339, 341].getD k 0 : Nat)]? = some (u_lay RX11 TX11 k) := by decide +kernel
  exact tb_in _ (h k hk) (u_lay_good _ _ _)
def RX12 : String := "WithinWordsModel"
def TX12 : u_T := fun k => match k with
  | 0 => ("WithinWordsModel", "latest", "I", false)
  | 1 => ("WithinWordsModel", "came", "[I", true)
  | 2 => ("WithinWordsModel", "asked", "I", false)
  | 3 => ("WithinWordsModel", "many", "J", false)
  | 4 => ("WithinWordsModel", "upper", "J", false)
  | 5 => ("WithinWordsModel", "lower", "J", false)
  | 6 => ("WithinWordsModel", "sizes", "[I", true)
  | 7 => ("WithinWordsModel", "rows", "[I", true)
  | 8 => ("WithinWordsModel", "copied", "[I", true)
  | 9 => ("WithinWordsModel", "textSizes", "[I", true)
  | 10 => ("WithinWordsModel", "bytes", "[B", true)
  | 11 => ("WithinWordsModel", "letterMany", "I", false)
  | 12 => ("WithinWordsModel", "wordSizes", "[I", true)
  | 13 => ("WithinWordsModel", "letters", "[I", true)
  | 14 => ("WithinWordsModel", "kinds", "[I", true)
  | 15 => ("WithinWordsModel", "ofs", "[I", true)
  | 16 => ("WithinWordsModel", "tolds", "[I", true)
  | 17 => ("WithinWordsModel", "madeSize", "I", false)
  | 18 => ("WithinWordsModel", "made", "[I", true)
  | 19 => ("WithinWordsModel", "begins", "[I", true)
  | 20 => ("WithinWordsModel", "items", "[I", true)
  | 21 => ("WithinWordsModel", "isOver", "Z", false)
  | 22 => ("WithinWordsModel", "counts", "[J", true)
  | 23 => ("WithinWordsModel", "early", "[I", true)
  | 24 => ("WithinWordsModel", "late", "[I", true)
  | 25 => ("WithinWordsModel", "takes", "[I", true)
  | 26 => ("WithinWordsModel", "inners", "[J", true)
  | 27 => ("WithinWordsModel", "restFrom", "I", false)
  | 28 => ("WithinWordsModel", "restSet", "I", false)
  | 29 => ("WithinWordsModel", "queue", "[I", true)
  | 30 => ("WithinWordsModel", "whence", "[I", true)
  | 31 => ("WithinWordsModel", "byLetter", "[I", true)
  | 32 => ("WithinWordsModel", "isCome", "[Z", true)
  | 33 => ("WithinWordsModel", "otherSize", "I", false)
  | 34 => ("WithinWordsModel", "other", "[I", true)
  | 35 => ("WithinWordsModel", "ofMany", "I", false)
  | 36 => ("WithinWordsModel", "ofWords", "[I", true)
  | 37 => ("WithinWordsModel", "best", "[I", true)
  | 38 => ("WithinWordsModel", "at", "[I", true)
  | 39 => ("WithinWordsModel", "boths", "[J", true)
  | 40 => ("WithinWordsModel", "often", "[J", true)
  | 41 => ("WithinWordsModel", "oftenThen", "[J", true)
  | 42 => ("WithinWordsModel", "short3", "[J", true)
  | _ => ("WithinWordsModel", "h", "J", false)
def tyX12 : Nat → FieldType := fun k => match k with
  | 0 => .int
  | 1 => .array .int
  | 2 => .int
  | 3 => .long
  | 4 => .long
  | 5 => .long
  | 6 => .array .int
  | 7 => .array .int
  | 8 => .array .int
  | 9 => .array .int
  | 10 => .array .byte
  | 11 => .int
  | 12 => .array .int
  | 13 => .array .int
  | 14 => .array .int
  | 15 => .array .int
  | 16 => .array .int
  | 17 => .int
  | 18 => .array .int
  | 19 => .array .int
  | 20 => .array .int
  | 21 => .boolean
  | 22 => .array .long
  | 23 => .array .int
  | 24 => .array .int
  | 25 => .array .int
  | 26 => .array .long
  | 27 => .int
  | 28 => .int
  | 29 => .array .int
  | 30 => .array .int
  | 31 => .array .int
  | 32 => .array .boolean
  | 33 => .int
  | 34 => .array .int
  | 35 => .int
  | 36 => .array .int
  | 37 => .array .int
  | 38 => .array .int
  | 39 => .array .long
  | 40 => .array .long
  | 41 => .array .long
  | 42 => .array .long
  | _ => .long
theorem nmX12 : ∀ a, a < 44 → ∀ b, b < 44 → a ≠ b → (TX12 a).2.1 ≠ (TX12 b).2.1 := by decide +kernel
theorem tyX12_ok : ∀ k, k < 44 → parseFieldDescriptor (TX12 k).2.2.1 = some (tyX12 k) := by decide +kernel
theorem inX12 : ∀ w ∈ u_ws RX12 TX12 44, w ∈ gtbl := by
  intro w hw
  obtain ⟨k, hk, rfl⟩ := List.mem_map.mp hw
  have hk : k < 44 := List.mem_range.mp hk
  have h : ∀ k, k < 44 → tables_1[([975, 977, 979, 981, 983, 985, 987, 989, 991, 993, 995, 997, 999, 1001, 1003, 1005, 1007, 1009, 1011, 1013, 1015, 1017, 1019, 1021, 1023, 1025, 1027, 1029, 1031, 1033, 1035, 1037, 1039, 1041, 1043, 1045, 1047, 1049, 1051, 1053, 1055, 1057, 1059, 1061].getD k 0 : Nat)]? = some (u_lay RX12 TX12 k) := by decide +kernel
  exact tb_in _ (h k hk) (u_lay_good _ _ _)
/-- the classes whose objects there are -/
abbrev clsL : List vw_C := [(RX0, TX0, 6), (RX1, TX1, 2), (RX2, TX2, 3), (RX3, TX3, 2), (RX4, TX4, 3), (RX5, TX5, 7), (RX6, TX6, 5), (RX7, TX7, 4), (RX8, TX8, 1), (RX9, TX9, 10), (RX10, TX10, 4), (RX11, TX11, 19), (RX12, TX12, 44)]
def tyF (c : Nat) : Nat → FieldType := match c with
  | 0 => tyX0
  | 1 => tyX1
  | 2 => tyX2
  | 3 => tyX3
  | 4 => tyX4
  | 5 => tyX5
  | 6 => tyX6
  | 7 => tyX7
  | 8 => tyX8
  | 9 => tyX9
  | 10 => tyX10
  | 11 => tyX11
  | _ => tyX12
/-- the cells in the order in which they are made: kind (0 .. 12 an object, 20 .. an array), size -/
def sgL : List (Nat × Nat) := [(11, 19), (24, 6), (24, 4), (25, 8), (20, 6), (20, 80), (6, 5), (20, 40), (20, 4), (7, 4), (20, 40), (20, 40), (21, 41), (20, 41), (0, 6), (20, 41), (21, 41), (8, 1), (20, 246), (1, 2), (20, 40), (20, 40), (5, 7), (24, 4), (20, 4), (20, 4), (20, 6), (9, 10), (20, 40), (20, 40), (20, 6), (20, 36), (20, 216), (20, 216), (3, 2), (20, 40), (3, 2), (20, 40), (3, 2), (20, 40), (3, 2), (20, 40), (3, 2), (20, 40), (3, 2), (20, 40), (3, 2), (20, 60), (3, 2), (20, 60), (3, 2), (20, 60), (3, 2), (20, 60), (10, 4), (3, 2), (20, 40), (10, 4), (3, 2), (20, 40), (10, 4), (3, 2), (20, 40), (10, 4), (3, 2), (20, 40), (10, 4), (3, 2), (20, 40), (10, 4), (3, 2), (20, 40), (10, 4), (3, 2), (20, 40), (10, 4), (3, 2), (20, 40), (21, 1681), (2, 3), (8, 1), (20, 246), (4, 3), (8, 1), (20, 246), (8, 1), (20, 246), (12, 44), (20, 6), (20, 6), (20, 240), (20, 40), (20, 4), (22, 240), (20, 8), (20, 320), (20, 8), (20, 8), (20, 8), (20, 40), (20, 5), (20, 5), (21, 41), (20, 40), (20, 40), (20, 41), (21, 1681), (20, 1700), (20, 1700), (20, 1700), (23, 1700), (20, 40), (20, 4), (20, 20001), (20, 4), (21, 1681), (21, 216), (21, 216), (21, 4), (20, 20000)]
def sg (a : Int) : Nat × Nat := if a < 1 then (99, 0) else sgL.getD (a.toNat - 1) (99, 0)
/-- what a final place holds for good: by kind, cell and place -/
def fok (c : Nat) (a k : Int) : Option Int := match c with
  | 0 => if k = 3 then some 16 else if k = 4 then some 17 else if k = 5 then some 18 else none
  | 1 => if k = 0 then some 21 else if k = 1 then some 22 else none
  | 2 => if k = 0 then some 81 else if k = 1 then some 79 else none
  | 3 => if k = 0 then some (a + 1) else none
  | 4 => if k = 0 then some 84 else if k = 1 then some 86 else if k = 2 then some 79 else none
  | 5 => if k = 0 then some 24 else if k = 1 then some 25 else if k = 2 then some 26 else if k = 3 then some 27 else none
  | 6 => if k = 0 then some 8 else if k = 2 then some 9 else none
  | 7 => if k = 0 then some 11 else if k = 1 then some 12 else if k = 2 then some 13 else if k = 3 then some 14 else none
  | 8 => if k = 0 then some (a + 1) else none
  | 9 => if k = 0 then some 29 else if k = 1 then some 30 else if k = 2 then some 31 else if k = 3 then some 32 else if k = 4 then some 33 else if k = 5 then some 34 else none
  | 10 => if k = 0 then some (a + 1) else none
  | 11 => if k = 0 then some 2 else if k = 1 then some 3 else if k = 2 then some 4 else if k = 9 then some 5 else if k = 10 then some 6 else if k = 11 then some 7 else if k = 12 then some 10 else if k = 13 then some 80 else if k = 14 then some 15 else if k = 15 then some 83 else if k = 16 then some 20 else if k = 17 then some 23 else if k = 18 then some 28 else none
  | 12 => if k = 1 then some 89 else if k = 6 then some 90 else if k = 7 then some 91 else if k = 8 then some 92 else if k = 9 then some 93 else if k = 10 then some 94 else if k = 12 then some 95 else if k = 13 then some 96 else if k = 14 then some 97 else if k = 15 then some 98 else if k = 16 then some 99 else if k = 18 then some 100 else if k = 19 then some 101 else if k = 20 then some 102 else if k = 22 then some 103 else if k = 23 then some 104 else if k = 24 then some 105 else if k = 25 then some 106 else if k = 26 then some 107 else if k = 29 then some 108 else if k = 30 then some 109 else if k = 31 then some 110 else if k = 32 then some 111 else if k = 34 then some 112 else if k = 36 then some 113 else if k = 37 then some 114 else if k = 38 then some 115 else if k = 39 then some 116 else if k = 40 then some 117 else if k = 41 then some 118 else if k = 42 then some 119 else none
  | 24 => if a = 2 then some (35 + 2 * k) else if a = 3 then some (47 + 2 * k) else none
  | 25 => some (55 + 3 * k)
  | _ => none
