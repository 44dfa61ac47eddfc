def finL0 : List (Int × Int × Int) := [(1, 0, 2), (1, 1, 3), (1, 2, 4), (1, 9, 5), (1, 10, 6), (1, 11, 7), (1, 12, 10), (1, 13, 80), (1, 14, 15), (1, 15, 83), (1, 16, 20), (1, 17, 23), (1, 18, 28), (2, 0, 35), (2, 1, 37), (2, 2, 39), (2, 3, 41), (2, 4, 43), (2, 5, 45), (3, 0, 47)]
def finL1 : List (Int × Int × Int) := [(3, 1, 49), (3, 2, 51), (3, 3, 53), (4, 0, 55), (4, 1, 58), (4, 2, 61), (4, 3, 64), (4, 4, 67), (4, 5, 70), (4, 6, 73), (4, 7, 76), (7, 0, 8), (7, 2, 9), (10, 0, 11), (10, 1, 12), (10, 2, 13), (10, 3, 14), (15, 3, 16), (15, 4, 17), (15, 5, 18)]
def finL2 : List (Int × Int × Int) := [(18, 0, 19), (20, 0, 21), (20, 1, 22), (23, 0, 24), (23, 1, 25), (23, 2, 26), (23, 3, 27), (28, 0, 29), (28, 1, 30), (28, 2, 31), (28, 3, 32), (28, 4, 33), (28, 5, 34), (35, 0, 36), (37, 0, 38), (39, 0, 40), (41, 0, 42), (43, 0, 44), (45, 0, 46), (47, 0, 48)]
def finL3 : List (Int × Int × Int) := [(49, 0, 50), (51, 0, 52), (53, 0, 54), (55, 0, 56), (56, 0, 57), (58, 0, 59), (59, 0, 60), (61, 0, 62), (62, 0, 63), (64, 0, 65), (65, 0, 66), (67, 0, 68), (68, 0, 69), (70, 0, 71), (71, 0, 72), (73, 0, 74), (74, 0, 75), (76, 0, 77), (77, 0, 78), (80, 0, 81)]
def finL4 : List (Int × Int × Int) := [(80, 1, 79), (81, 0, 82), (83, 0, 84), (83, 1, 86), (83, 2, 79), (84, 0, 85), (86, 0, 87), (88, 1, 89), (88, 6, 90), (88, 7, 91), (88, 8, 92), (88, 9, 93), (88, 10, 94), (88, 12, 95), (88, 13, 96), (88, 14, 97), (88, 15, 98), (88, 16, 99), (88, 18, 100), (88, 19, 101)]
def finL5 : List (Int × Int × Int) := [(88, 20, 102), (88, 22, 103), (88, 23, 104), (88, 24, 105), (88, 25, 106), (88, 26, 107), (88, 29, 108), (88, 30, 109), (88, 31, 110), (88, 32, 111), (88, 34, 112), (88, 36, 113), (88, 37, 114), (88, 38, 115), (88, 39, 116), (88, 40, 117), (88, 41, 118), (88, 42, 119)]
def finL : List (Int × Int × Int) := finL0 ++ finL1 ++ finL2 ++ finL3 ++ finL4 ++ finL5
theorem fin_all : ∀ a : Nat, a < 120 → ∀ k : Nat, k < 50 → ∀ v, fok (sg (a : Int)).1 (a : Int) (k : Int) = some v → k < (sg (a : Int)).2 → ((a : Int), (k : Int), v) ∈ finL := by
  have key : ∀ a : Nat, a < 120 → ∀ k : Nat, k < 50 → (match fok (sg (a : Int)).1 (a : Int) (k : Int) with | some v => decide (k < (sg (a : Int)).2 → ((a : Int), (k : Int), v) ∈ finL) | none => true) = true := by decide +kernel
  intro a ha k hk v hv hz
  have h := key a ha k hk
  rw [hv] at h
  exact (of_decide_eq_true h) hz
theorem arr_free : ∀ a : Nat, a < 120 → 20 ≤ (sg (a : Int)).1 → (sg (a : Int)).1 ≤ 23 ∨ (sg (a : Int)).2 < 50 := by decide +kernel
theorem obj_small : ∀ a : Nat, a < 120 → (sg (a : Int)).1 < 13 → nf (sg (a : Int)).1 < 50 ∧ nf (sg (a : Int)).1 = (sg (a : Int)).2 := by decide +kernel
theorem fok_mid {c : Nat} (h1 : 20 ≤ c) (h2 : c ≤ 23) (a k : Int) : fok c a k = none := by
  have h : c = 20 ∨ c = 21 ∨ c = 22 ∨ c = 23 := by omega
  rcases h with rfl | rfl | rfl | rfl <;> rfl
theorem arrV_ext {cI : ClassId} {n : Nat} {f g : Nat → Value} (h : ∀ j, j < n → f j = g j) : arrV cI n f = arrV cI n g := by
  unfold arrV
  congr 1
  apply Array.ext
  · simp
  · intro j h1 h2
    simp at h1
    simp [h j h1]
theorem HR.phase {G : Gx} {M : Mem} {H : Heap} (h : HR G 120 M H) (hf : ∀ q ∈ finL, M q.1 q.2.1 = q.2.2) (h1 : M (-1) 0 ≠ 1) : HR G 0 M H := by
  have e1 : cnt 120 M = 119 := rfl
  have e2 : cnt 0 M = 119 := by unfold cnt; rw [if_pos rfl, if_neg h1]
  refine ⟨by rw [h.1, e1, e2], fun k hk => ?_, h.2.2⟩
  rw [e2] at hk
  obtain ⟨cell, q1, q2⟩ := h.2.1 k hk
  refine ⟨cell, q1, ?_⟩
  have ecast : ((k + 1 : Nat) : Int) = (k : Int) + 1 := rfl
  have hval : ∀ j : Nat, j < 50 → j < (sg ((k : Int) + 1)).2 → eff 120 M ((k : Int) + 1) j = eff 0 M ((k : Int) + 1) j := by
    intro j hj hj2
    unfold eff
    rw [if_neg (by decide), if_pos rfl]
    cases hfo : fok (sg ((k : Int) + 1)).1 ((k : Int) + 1) j with
    | none => rfl
    | some v => exact hf _ (fin_all (k + 1) (by omega) j hj v hfo hj2)
  rcases q2 with ⟨g1, g2, g3, g4, g5⟩ | ⟨g1, g2, g3⟩
  · obtain ⟨s1, s2⟩ := obj_small (k + 1) (by omega) g1
    refine Or.inl ⟨g1, g2, g3, g4, fun j hj => ?_⟩
    rw [g5 j hj, hval j (Nat.lt_trans hj s1) (by rw [← ecast, ← s2]; exact hj)]
  · refine Or.inr ⟨g1, g2, ?_⟩
    rw [g3]
    apply arrV_ext
    intro j hj
    rcases arr_free (k + 1) (by omega) g1 with h5 | h5
    · unfold eff
      rw [if_neg (by decide), if_pos rfl, fok_mid g1 h5]
    · rw [hval j (Nat.lt_trans hj h5) hj]
theorem wp_phase {e0 : Nat} {N2 : Int} {cc ss : Nat} {y : Yx} {pc : Nat} {L : Lx} {S : List Vl} {M : Mem} {Q : Vl → Mem → Prop} (hf : ∀ q ∈ finL, M q.1 q.2.1 = q.2.2) (h1 : M (-1) 0 ≠ 1) (hc : cc ≤ 200) (hs : ss ≤ 60000) (h : WPg e0 0 N2 none 200 60000 y pc L S M Q) : WPg e0 120 N2 none cc ss y pc L S M Q := by
  intro l G d R p e s m args below meth c Z a1 a2 a3 a4 a5 C hret H locs ls hH hS hL
  exact W.widen hc hs (h l G d R p e s m args below meth c Z a1 a2 a3 a4 a5 C hret H locs ls (hH.phase hf h1) hS hL)
/-- the memory once both objects stand -/
def mSt (M : Mem) : Mem := mkX12_init_88 (setA (mkX11_init_1 (setA M 1 (dfl 11))) 88 (dfl 12))
set_option maxRecDepth 20000 in
theorem finM0 (M : Mem) : ∀ q ∈ finL0, mSt M q.1 q.2.1 = q.2.2 := List.forall_mem_cons.mpr ⟨rfl, List.forall_mem_cons.mpr ⟨rfl, List.forall_mem_cons.mpr ⟨rfl, List.forall_mem_cons.mpr ⟨rfl, List.forall_mem_cons.mpr ⟨rfl, List.forall_mem_cons.mpr ⟨rfl, List.forall_mem_cons.mpr ⟨rfl, List.forall_mem_cons.mpr ⟨rfl, List.forall_mem_cons.mpr ⟨rfl, List.forall_mem_cons.mpr ⟨rfl, List.forall_mem_cons.mpr ⟨rfl, List.forall_mem_cons.mpr ⟨rfl, List.forall_mem_cons.mpr ⟨rfl, List.forall_mem_cons.mpr ⟨rfl, List.forall_mem_cons.mpr ⟨rfl, List.forall_mem_cons.mpr ⟨rfl, List.forall_mem_cons.mpr ⟨rfl, List.forall_mem_cons.mpr ⟨rfl, List.forall_mem_cons.mpr ⟨rfl, List.forall_mem_cons.mpr ⟨rfl, fun _ h => absurd h List.not_mem_nil⟩⟩⟩⟩⟩⟩⟩⟩⟩⟩⟩⟩⟩⟩⟩⟩⟩⟩⟩⟩
set_option maxRecDepth 20000 in
theorem finM1 (M : Mem) : ∀ q ∈ finL1, mSt M q.1 q.2.1 = q.2.2 := List.forall_mem_cons.mpr ⟨rfl, List.forall_mem_cons.mpr ⟨rfl, List.forall_mem_cons.mpr ⟨rfl, List.forall_mem_cons.mpr ⟨rfl, List.forall_mem_cons.mpr ⟨rfl, List.forall_mem_cons.mpr ⟨rfl, List.forall_mem_cons.mpr ⟨rfl, List.forall_mem_cons.mpr ⟨rfl, List.forall_mem_cons.mpr ⟨rfl, List.forall_mem_cons.mpr ⟨rfl, List.forall_mem_cons.mpr ⟨rfl, List.forall_mem_cons.mpr ⟨rfl, List.forall_mem_cons.mpr ⟨rfl, List.forall_mem_cons.mpr ⟨rfl, List.forall_mem_cons.mpr ⟨rfl, List.forall_mem_cons.mpr ⟨rfl, List.forall_mem_cons.mpr ⟨rfl, List.forall_mem_cons.mpr ⟨rfl, List.forall_mem_cons.mpr ⟨rfl, List.forall_mem_cons.mpr ⟨rfl, fun _ h => absurd h List.not_mem_nil⟩⟩⟩⟩⟩⟩⟩⟩⟩⟩⟩⟩⟩⟩⟩⟩⟩⟩⟩⟩
set_option maxRecDepth 20000 in
theorem finM2 (M : Mem) : ∀ q ∈ finL2, mSt M q.1 q.2.1 = q.2.2 := List.forall_mem_cons.mpr ⟨rfl, List.forall_mem_cons.mpr ⟨rfl, List.forall_mem_cons.mpr ⟨rfl, List.forall_mem_cons.mpr ⟨rfl, List.forall_mem_cons.mpr ⟨rfl, List.forall_mem_cons.mpr ⟨rfl, List.forall_mem_cons.mpr ⟨rfl, List.forall_mem_cons.mpr ⟨rfl, List.forall_mem_cons.mpr ⟨rfl, List.forall_mem_cons.mpr ⟨rfl, List.forall_mem_cons.mpr ⟨rfl, List.forall_mem_cons.mpr ⟨rfl, List.forall_mem_cons.mpr ⟨rfl, List.forall_mem_cons.mpr ⟨rfl, List.forall_mem_cons.mpr ⟨rfl, List.forall_mem_cons.mpr ⟨rfl, List.forall_mem_cons.mpr ⟨rfl, List.forall_mem_cons.mpr ⟨rfl, List.forall_mem_cons.mpr ⟨rfl, List.forall_mem_cons.mpr ⟨rfl, fun _ h => absurd h List.not_mem_nil⟩⟩⟩⟩⟩⟩⟩⟩⟩⟩⟩⟩⟩⟩⟩⟩⟩⟩⟩⟩
set_option maxRecDepth 20000 in
theorem finM3 (M : Mem) : ∀ q ∈ finL3, mSt M q.1 q.2.1 = q.2.2 := List.forall_mem_cons.mpr ⟨rfl, List.forall_mem_cons.mpr ⟨rfl, List.forall_mem_cons.mpr ⟨rfl, List.forall_mem_cons.mpr ⟨rfl, List.forall_mem_cons.mpr ⟨rfl, List.forall_mem_cons.mpr ⟨rfl, List.forall_mem_cons.mpr ⟨rfl, List.forall_mem_cons.mpr ⟨rfl, List.forall_mem_cons.mpr ⟨rfl, List.forall_mem_cons.mpr ⟨rfl, List.forall_mem_cons.mpr ⟨rfl, List.forall_mem_cons.mpr ⟨rfl, List.forall_mem_cons.mpr ⟨rfl, List.forall_mem_cons.mpr ⟨rfl, List.forall_mem_cons.mpr ⟨rfl, List.forall_mem_cons.mpr ⟨rfl, List.forall_mem_cons.mpr ⟨rfl, List.forall_mem_cons.mpr ⟨rfl, List.forall_mem_cons.mpr ⟨rfl, List.forall_mem_cons.mpr ⟨rfl, fun _ h => absurd h List.not_mem_nil⟩⟩⟩⟩⟩⟩⟩⟩⟩⟩⟩⟩⟩⟩⟩⟩⟩⟩⟩⟩
set_option maxRecDepth 20000 in
theorem finM4 (M : Mem) : ∀ q ∈ finL4, mSt M q.1 q.2.1 = q.2.2 := List.forall_mem_cons.mpr ⟨rfl, List.forall_mem_cons.mpr ⟨rfl, List.forall_mem_cons.mpr ⟨rfl, List.forall_mem_cons.mpr ⟨rfl, List.forall_mem_cons.mpr ⟨rfl, List.forall_mem_cons.mpr ⟨rfl, List.forall_mem_cons.mpr ⟨rfl, List.forall_mem_cons.mpr ⟨rfl, List.forall_mem_cons.mpr ⟨rfl, List.forall_mem_cons.mpr ⟨rfl, List.forall_mem_cons.mpr ⟨rfl, List.forall_mem_cons.mpr ⟨rfl, List.forall_mem_cons.mpr ⟨rfl, List.forall_mem_cons.mpr ⟨rfl, List.forall_mem_cons.mpr ⟨rfl, List.forall_mem_cons.mpr ⟨rfl, List.forall_mem_cons.mpr ⟨rfl, List.forall_mem_cons.mpr ⟨rfl, List.forall_mem_cons.mpr ⟨rfl, List.forall_mem_cons.mpr ⟨rfl, fun _ h => absurd h List.not_mem_nil⟩⟩⟩⟩⟩⟩⟩⟩⟩⟩⟩⟩⟩⟩⟩⟩⟩⟩⟩⟩
set_option maxRecDepth 20000 in
theorem finM5 (M : Mem) : ∀ q ∈ finL5, mSt M q.1 q.2.1 = q.2.2 := List.forall_mem_cons.mpr ⟨rfl, List.forall_mem_cons.mpr ⟨rfl, List.forall_mem_cons.mpr ⟨rfl, List.forall_mem_cons.mpr ⟨rfl, List.forall_mem_cons.mpr ⟨rfl, List.forall_mem_cons.mpr ⟨rfl, List.forall_mem_cons.mpr ⟨rfl, List.forall_mem_cons.mpr ⟨rfl, List.forall_mem_cons.mpr ⟨rfl, List.forall_mem_cons.mpr ⟨rfl, List.forall_mem_cons.mpr ⟨rfl, List.forall_mem_cons.mpr ⟨rfl, List.forall_mem_cons.mpr ⟨rfl, List.forall_mem_cons.mpr ⟨rfl, List.forall_mem_cons.mpr ⟨rfl, List.forall_mem_cons.mpr ⟨rfl, List.forall_mem_cons.mpr ⟨rfl, List.forall_mem_cons.mpr ⟨rfl, fun _ h => absurd h List.not_mem_nil⟩⟩⟩⟩⟩⟩⟩⟩⟩⟩⟩⟩⟩⟩⟩⟩⟩⟩
theorem finM (M : Mem) : ∀ q ∈ finL, mSt M q.1 q.2.1 = q.2.2 := List.forall_mem_append.mpr ⟨List.forall_mem_append.mpr ⟨List.forall_mem_append.mpr ⟨List.forall_mem_append.mpr ⟨List.forall_mem_append.mpr ⟨finM0 M, finM1 M⟩, finM2 M⟩, finM3 M⟩, finM4 M⟩, finM5 M⟩
set_option maxRecDepth 20000 in
theorem law_start {M : Mem} {Q : Vl → Mem → Prop} (hm : M (-1) 0 ≠ 1) (h : wp 0 yL_law 18 [some (Rv 0), some (Rv 1), some (Rv 88), some (Iv 0)] [] (mSt M) Q) : WPg 0 1 0 none 0 0 yL_law 0 [some (Rv 0), none, none, none] [] M Q := by
  refine wp_new (cl := 11) dL_law_0 (by decide) (kl_L_7 rfl) in_X11.1 in_X11.2 (by decide) rfl (okst_c _ (by decide)) ⟨Nat.le_of_ble_eq_true rfl, Nat.le_of_ble_eq_true rfl⟩ ?_
  refine wp_dup dL_law_3 rfl ?_
  refine wp_callI (e1 := 0) (mc := 86) (ms := 4621) (as := []) (S := [Rv 1]) (R2 := fun _ M2 => M2 = mkX11_init_1 _) dL_law_4 (cs_L_9 rfl) (by decide) rfl rfl (Nat.le_of_ble_eq_true rfl) (Nat.le_of_ble_eq_true rfl) ⟨Nat.le_of_ble_eq_true rfl, Nat.le_of_ble_eq_true rfl⟩ (kX11_init_1 rfl) (fun v M2 q => ?_)
  subst q
  refine wp_astore_n (L2 := [some (Rv 0), some (Rv 1), none, none]) dL_law_7 (Nat.le_of_ble_eq_true rfl) (Nat.le_of_ble_eq_true rfl) rfl (by decide) ?_
  refine wp_new (cl := 12) dL_law_8 (by decide) (kl_L_10 rfl) in_X12.1 in_X12.2 (by decide) rfl (okst_c _ (by decide)) ⟨Nat.le_of_ble_eq_true rfl, Nat.le_of_ble_eq_true rfl⟩ ?_
  refine wp_dup dL_law_11 rfl ?_
  refine wp_callI (e1 := 0) (mc := 31) (ms := 31747) (as := []) (S := [Rv 88]) (R2 := fun _ M2 => M2 = mkX12_init_88 _) dL_law_12 (cs_L_12 rfl) (by decide) rfl rfl (Nat.le_of_ble_eq_true rfl) (Nat.le_of_ble_eq_true rfl) ⟨Nat.le_of_ble_eq_true rfl, Nat.le_of_ble_eq_true rfl⟩ (kX12_init_88 rfl) (fun v M2 q => ?_)
  subst q
  refine wp_phase (M := mSt M) (finM M) (show mSt M (-1) 0 ≠ 1 from hm) (Nat.le_of_ble_eq_true rfl) (Nat.le_of_ble_eq_true rfl) ?_
  refine wp_astore_n (L2 := [some (Rv 0), some (Rv 1), some (Rv 88), none]) dL_law_15 (Nat.le_of_ble_eq_true rfl) (Nat.le_of_ble_eq_true rfl) rfl (by decide) ?_
  refine wp_iconst dL_law_16 ?_
  refine wp_istore_n (L2 := [some (Rv 0), some (Rv 1), some (Rv 88), some (Iv 0)]) dL_law_17 (Nat.le_of_ble_eq_true rfl) (Nat.le_of_ble_eq_true rfl) rfl ?_
  exact h
/-! what the tables say at the law's entry -/
theorem cls_known {s : State} {args : Array Value} (hts : ∀ w ∈ gtbl, w.before args s = true) : ∃ D : va_G, ∀ (c : Nat) (q : vw_C), clsL[c]? = some q → u_Kn s q.1 q.2.1 q.2.2 (D.1 c) (D.2 c) := by
  have inst : ∀ c, c < 13 → Cond.instantiable (clT c).1 (clT c).2.2 ∈ gtbl := by
    intro c hc
    have h : c = 0 ∨ c = 1 ∨ c = 2 ∨ c = 3 ∨ c = 4 ∨ c = 5 ∨ c = 6 ∨ c = 7 ∨ c = 8 ∨ c = 9 ∨ c = 10 ∨ c = 11 ∨ c = 12 := by omega
    rcases h with rfl | rfl | rfl | rfl | rfl | rfl | rfl | rfl | rfl | rfl | rfl | rfl | rfl
    · exact in_X0.1
    · exact in_X1.1
    · exact in_X2.1
    · exact in_X3.1
    · exact in_X4.1
    · exact in_X5.1
    · exact in_X6.1
    · exact in_X7.1
    · exact in_X8.1
    · exact in_X9.1
    · exact in_X10.1
    · exact in_X11.1
    · exact in_X12.1
  have h : ∀ c, ∃ q : ClassId × (Nat → Nat), c < 13 → u_Kn s (clT c).1 (clT c).2.1 (clT c).2.2 q.1 q.2 := by
    intro c
    by_cases hc : c < 13
    · obtain ⟨cC, iS, h⟩ := u_known (N := (clT c).2.2) hts (inC c hc) (hts _ (inst c hc))
      exact ⟨(cC, iS), fun _ => h⟩
    · exact ⟨(0, fun _ => 0), fun h => absurd h hc⟩
  refine ⟨(fun c => (Classical.choose (h c)).1, fun c => (Classical.choose (h c)).2), fun c q hq => ?_⟩
  have hc : c < 13 := (List.getElem?_eq_some_iff.mp hq).1
  have e := (clC c hc).symm.trans hq
  cases e
  exact Classical.choose_spec (h c) hc
theorem arr_known {s : State} {args : Array Value} {t : FieldType} (ht : va_RA s = va_RA s) (h : (Cond.arrayClass t).before args s = true) (hp : ∀ C, t ≠ .object C) : ∃ cA, ArrOfT s cA t ∧ va_RA s cA t := by
  obtain ⟨cA, kA, comp, hnameA, hkA, hkindA⟩ := Cond.arrayClass_spec h
  refine ⟨cA, fun n z => ⟨fun k h => (by cases h), kA, hkA, comp, hkindA⟩, ?_⟩
  cases t with
  | object C => exact absurd rfl (hp C)
  | _ => exact hnameA
theorem obj_known {s : State} {C : String} (h : va_AO C s) : ∃ cA, ArrOfT s cA (.object C) ∧ va_RA s cA (.object C) := by
  obtain ⟨comp, cA, kA, hcomp, hidx, hkA, hkindA, hnameA⟩ := Cond.arrayOver_spec h
  exact ⟨cA, fun n z => ⟨fun k h => (by cases h), kA, hkA, comp, hkindA⟩, kA, comp, hkA, hkindA, hcomp, hnameA⟩

theorem K_known {s : State} {args : Array Value} (hts : ∀ w ∈ lw_tbl, w.before args s = true) : ∃ (D : va_G) (ca : Nat → ClassId), (∀ G : Gx, gD G = D → gA G = ca → va_K (gD G) clsL (tyL G) s) ∧ va_AO RX3 s ∧ va_AO RX10 s := by
  have hg : ∀ w ∈ gtbl, w.before args s = true := fun w hw => hts w (List.mem_filter.mp hw).1
  have hA3 : va_AO RX3 s := va_AO.of (hts _ (List.mem_append_right _ (List.mem_of_getElem? (i := 27) (by decide +kernel))))
  have hA10 : va_AO RX10 s := va_AO.of (hts _ (List.mem_append_right _ (List.mem_of_getElem? (i := 29) (by decide +kernel))))
  obtain ⟨D, hD⟩ := cls_known hg
  obtain ⟨c0, h0⟩ := arr_known (t := .int) rfl (hg _ (tb_in 54 (by decide +kernel) rfl)) (fun C h => by cases h)
  obtain ⟨c1, h1⟩ := arr_known (t := .long) rfl (hg _ (tb_in 76 (by decide +kernel) rfl)) (fun C h => by cases h)
  obtain ⟨c2, h2⟩ := arr_known (t := .byte) rfl (hg _ (tb_in 1064 (by decide +kernel) rfl)) (fun C h => by cases h)
  obtain ⟨c3, h3⟩ := arr_known (t := .boolean) rfl (hg _ (tb_in 1065 (by decide +kernel) rfl)) (fun C h => by cases h)
  obtain ⟨c4, h4⟩ := obj_known hA3
  obtain ⟨c5, h5⟩ := obj_known hA10
  refine ⟨D, fun k => match k with | 20 => c0 | 21 => c1 | 22 => c2 | 23 => c3 | 24 => c4 | _ => c5, fun G e1 e2 => ⟨by rw [e1]; exact hD, fun k q hk => ?_⟩, hA3, hA10⟩
  have hlt : k < 6 := (List.getElem?_eq_some_iff.mp hk).1
  have hc : k = 0 ∨ k = 1 ∨ k = 2 ∨ k = 3 ∨ k = 4 ∨ k = 5 := by omega
  rcases hc with rfl | rfl | rfl | rfl | rfl | rfl <;> (cases hk; rw [e2])
  · exact h0
  · exact h1
  · exact h2
  · exact h3
  · exact h4
  · exact h5

def R_law : String := "WithinWordsLaw"
def lw_P (b : Addr) (xs : List Int32) (args : Array Value) (s : State) : Prop := args = #[.ref b] ∧ s.IntsAt b xs ∧ xs.length ≤ 3072 ∧ (Jvm.Cond.and given_1 narrow_1).before args s = true
def lw_Q (_ : Array Value) (s : State) (o : Outcome) (t : State) : Prop := o = .returned (some (.int 1)) ∧ Framed s o t [] 600000 7302250
def lw_Z (below : List Frame) (a : Array Value) (s : State) : State → Prop := fun t => ∃ o, t.status = .running ∧ Ended t below o ∧ lw_Q a s o t
/-- the law's own end, with 1 on the stack, nothing written that was there before, its room as the claim has it -/
theorem lw_ret {p : Program} {l : Launch} {e : Env} {s : State} {m : MethodId} {below : List Frame} {meth : Method} {c : Code} {b : Nat} (hx : p.tables.exec = Jvm.exec) (hb : c.code = code) (hr : meth.sig.returnType = ret) (hlocks : meth.locks = false) {pc : Nat} {H : Heap} {ls : Array Slot} (hdg : decode code pc = .ok (.ireturn, 1)) : W p l e room_1 s m #[Value.ref b] below meth c H [] 600000 7302250 (lw_Z below #[Value.ref b] s) (F0 m pc ls [.int 1]) := by
  intro T hT X
  obtain ⟨fs, hret, hrun, hended, hW, hframe⟩ := X.leave (v := some (.int 1)) (hlocks := hlocks) (fun h => by rw [hr] at h; cases h)
  have hmeth' : T.vm.method? m = some meth := X.method'
  refine ⟨T.setFrames fs, ?_, .returned (some (.int 1)), hrun, hended, rfl, ⟨_, rfl⟩, hW, hframe⟩
  jvm_step X.here [X.here.top, hx, hb, hdg, hmeth', hr, ret, narrow_b1]
  (try refine ⟨rfl, ?_⟩); (try refine ⟨rfl, ?_⟩)
  first | (intro acts; rw [hret _ acts rfl rfl rfl]) | rw [hret _ _ rfl rfl rfl]
  exact Steps.refl _
/-- what holds at the law's entry: the machine, the code, the tables' words (any of lw_tbl by 'hts w (by decide +kernel)'), the script of L ints xs at the cell b, what the Statement gives of the start (any of its parts by flat_of_before) -/
def lw_At (p : Program) (s : State) (m : MethodId) (meth : Method) (c : Code) (b L : Nat) (xs : Nat → Int32) : Prop :=
  p.tables.exec = Jvm.exec ∧ c.code = code ∧ meth.sig.returnType = ret ∧ c.maxLocals = 4 ∧ s.vm.findClass R_law = some m.cls ∧ (∀ w ∈ lw_tbl, w.before #[Value.ref b] s = true) ∧ va_X b L xs s s.heap ∧ b < s.heap.size ∧ meth.locks = false ∧ (Jvm.Cond.and given_1 narrow_1).before #[Value.ref b] s = true

def M0 (L : Nat) (xs : Nat → Int32) : Mem := fun a k => if a = 0 then (xs k.toNat).toInt else if a = -2 then (L : Int) else 0
theorem law_top {p : Program} {e : Env} {s : State} {m : MethodId} {below : List Frame} {meth : Method} {c : Code} (l : Launch) {b L : Nat} {xs : Nat → Int32} (C0 : lw_At p s m meth c b L xs) (hnm0 : meth.name = x.name)
    (hw : wp 0 yL_law 18 [some (Rv 0), some (Rv 1), some (Rv 88), some (Iv 0)] [] (mSt (M0 L xs)) (fun v _ => v = Iv 1)) : W p l e room_1 s m #[Value.ref b] below meth c s.heap [] 0 0 (lw_Z below #[Value.ref b] s) (entryFrame m ([Value.ref b] : List Value).toArray 4) := by
  obtain ⟨hx, hb, hr, hml, hown, hts, hX, hbl, hlocks, hgv⟩ := C0
  obtain ⟨D, ca, hK, hA3, hA10⟩ := K_known hts
  have hst := law_start (M := M0 L xs) (by simp [M0]) hw
  have hts2 : ∀ w ∈ gtbl, w.before #[Value.ref b] s = true := fun w hw => hts w (List.mem_filter.mp hw).1
  obtain ⟨G, hG⟩ : ∃ G : Gx, G = ((s.heap.size, b), (L, xs), D, ca) := ⟨_, rfl⟩
  have g1 : gB G = s.heap.size := by rw [hG]
  have g2 : gb G = b := by rw [hG]
  have hnm : meth.name = yL_law.1.name := hnm0
  have C : Cx G yL_law p s m #[Value.ref b] meth c := ⟨hx, hb, hr, hml, hown, hts2, hlocks, hK G (by rw [hG]) (by rw [hG]), by rw [hG]; exact hX, by rw [hG]; exact hbl, by rw [g1]; exact Nat.le_refl _, hnm, hA3, hA10⟩
  have hH : HR G 1 (M0 L xs) s.heap := by
    refine ⟨by rw [g1]; rfl, fun k hk => absurd hk (Nat.not_lt_zero _), by rw [hG]; rfl, fun j hj => ?_⟩
    rw [hG]
    show Int32.ofInt (xs ((j : Int).toNat)).toInt = xs j
    rw [Int32.ofInt_toInt]
    rfl
  rw [lg_entry_eq]
  have hent : ([Value.ref b] : List Value) = [Rv 0].map (cv G) := by rw [List.map_cons, ← g2]; rfl
  have h9 := padL_LH (G := G) (as := [Rv 0]) (n := 4) (by decide)
  rw [← hent] at h9
  refine hst l G 49 room_1 p e s m #[Value.ref b] below meth c _ (Nat.le_refl _) (by decide) (by decide) (by decide) (by decide) C ?_ s.heap [] _ hH va_S.rf h9
  intro v M2 H locs ls pc' hv hH2 hS2 hri hrv
  subst hv
  refine va_forget (fun q hq => by rw [← g1]; exact hS2.2.2 q hq) ?_
  refine W.widen (k := 600000) (n := 7302250) (by decide) (by decide) ?_
  exact lw_ret hx hb hr hlocks hri
