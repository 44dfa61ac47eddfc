abbrev Yx : Type := MethodName × ByteArray × Nat × Option FieldType × Nat
abbrev Lx : Type := List (Option Vl)
def bcf (b : Option (Nat × Nat)) (d : Nat) : Nat × Nat := match b with
  | none => (d * 200, d * 60000)
  | some q => q
def Cx (G : Gx) (y : Yx) (p : Program) (s : State) (m : MethodId) (args : Array Value) (meth : Method) (c : Code) : Prop :=
  p.tables.exec = Jvm.exec ∧ c.code = y.2.1 ∧ meth.sig.returnType = y.2.2.2.1 ∧ c.maxLocals = y.2.2.1 ∧ s.vm.findClass y.1.cls = some m.cls ∧ (∀ w ∈ gtbl, w.before args s = true) ∧ meth.locks = false ∧ va_K (gD G) clsL (tyL G) s ∧ va_X (gb G) (gL G) (gX G) s s.heap ∧ gb G < gB G ∧ gB G ≤ s.heap.size ∧ meth.name = y.1.name ∧ va_AO RX3 s ∧ va_AO RX10 s
def LH (G : Gx) (ls : Array Slot) (n : Nat) (L : Lx) : Prop := ls.size = n ∧ lv_wf ls ∧ ∀ (i : Nat) (v : Vl), L[i]? = some (some v) → ls[i]? = some (.val (cv G v))
def retI (y : Yx) (pc : Nat) : Prop := match y.2.2.2.1 with
  | none => decode y.2.1 pc = .ok (.return_, 1)
  | some .long => decode y.2.1 pc = .ok (.lreturn, 1)
  | some (.array _) => decode y.2.1 pc = .ok (.areturn, 1)
  | some (.object _) => decode y.2.1 pc = .ok (.areturn, 1)
  | some _ => decode y.2.1 pc = .ok (.ireturn, 1)
def retV (y : Yx) (v : Vl) : Prop := match y.2.2.2.1 with
  | none => True
  | some .long => ∃ x, v = Jv x
  | some (.array _) => ∃ a, v = Rv a ∧ 0 ≤ a
  | some .int => ∃ x, v = Iv x
  | some .boolean => v = Iv 0 ∨ v = Iv 1
  | some _ => False
def rst (G : Gx) (y : Yx) (v : Vl) : List Value := match y.2.2.2.1 with
  | none => []
  | some _ => [cv G v]
/-- from here the method comes to its end with an answer and a memory that Q holds of -/
def WPg (e0 : Nat) (N N' : Int) (b : Option (Nat × Nat)) (cc ss : Nat) (y : Yx) (pc : Nat) (L : Lx) (S : List Vl) (M : Mem) (Q : Vl → Mem → Prop) : Prop :=
  ∀ (l : Launch) (G : Gx) (d : Nat) (R : Room) (p : Program) (e : Env) (s : State) (m : MethodId) (args : Array Value) (below : List Frame) (meth : Method) (c : Code) (Z : State → Prop),
    y.2.2.2.2 + e0 ≤ d → d ≤ R.frames → 64 * d ≤ R.locals → (bcf b d).1 ≤ R.cells → (bcf b d).2 ≤ R.slots → Cx G y p s m args meth c →
    (∀ (v : Vl) (M' : Mem) (H : Heap) (locs : List Loc) (ls : Array Slot) (pc' : Nat), Q v M' → HR G N' M' H → va_S (fun q => gB G ≤ q) s.heap H locs → retI y pc' → retV y v → W p l e R s m args below meth c H locs (bcf b d).1 (bcf b d).2 Z (F0 m pc' ls (rst G y v))) →
    ∀ (H : Heap) (locs : List Loc) (ls : Array Slot), HR G N M H → va_S (fun q => gB G ≤ q) s.heap H locs → LH G ls y.2.2.1 L → W p l e R s m args below meth c H locs cc ss Z (F0 m pc ls (S.map (cv G)))
def lk (L : Lx) (i : Nat) : Lx := match i with
  | 0 => L
  | i + 1 => match L[i]? with
    | some (some (.inr (.inl _))) => L.set i none
    | _ => L
def lset1 (L : Lx) (i : Nat) (v : Vl) : Lx := (lk L i).set i (some v)
def lset2 (L : Lx) (i : Nat) (v : Vl) : Lx := ((lk L i).set i (some v)).set (i + 1) none
def lvl (G : Gx) (L : Lx) (n : Nat) : List (Nat × Value) := (List.range n).filterMap (fun i => match L[i]? with | some (some v) => some (i, cv G v) | _ => none)
theorem LH.lv {G : Gx} {ls : Array Slot} {n : Nat} {L : Lx} (h : LH G ls n L) : lv_has ls n (lvl G L n) := by
  refine ⟨h.1, h.2.1, fun q hq => ?_⟩
  obtain ⟨i, -, hi⟩ := List.mem_filterMap.mp hq
  split at hi
  next v hv => cases hi; exact h.2.2 _ _ hv
  next => cases hi
theorem lk_at {L : Lx} {i j : Nat} {v : Vl} (h : (lk L i)[j]? = some (some v)) : L[j]? = some (some v) ∧ ¬ (j + 1 = i ∧ ∃ x, v = Jv x) := by
  unfold lk at h
  split at h
  next => exact ⟨h, by omega⟩
  next i =>
    split at h
    next x hx =>
      by_cases hj : j = i
      · subst hj
        rw [List.getElem?_set_self (List.getElem?_eq_some_iff.mp hx).1] at h
        cases h
      · rw [List.getElem?_set_ne (Ne.symm hj)] at h
        exact ⟨h, by omega⟩
    next hx =>
      refine ⟨h, ?_⟩
      rintro ⟨e, x, rfl⟩
      have : j = i := by omega
      subst this
      exact hx x h
theorem cat_cv {G : Gx} {v : Vl} (h : (cv G v).category = 2) : ∃ x, v = Jv x := by
  rcases v with x | x | x
  · cases h
  · exact ⟨x, rfl⟩
  · exfalso
    change (rfv G x).category = 2 at h
    unfold rfv at h
    split at h <;> cases h
theorem LH.set1 {G : Gx} {ls : Array Slot} {n : Nat} {L : Lx} {i : Nat} {v : Vl} (hl : L.length ≤ n) (h : lv_has ls n ((i, cv G v) :: (lvl G L n).filter (fun q => !(q.1 == i) && !(q.1 + 1 == i && q.2.category == 2)))) : LH G ls n (lset1 L i v) := by
  refine ⟨h.1, h.2.1, fun j w hw => ?_⟩
  unfold lset1 at hw
  by_cases hj : j = i
  · subst hj
    have hlen : j < (lk L j).length := by
      have := (List.getElem?_eq_some_iff.mp hw).1
      simpa using this
    rw [List.getElem?_set_self hlen] at hw
    cases hw
    exact h.2.2 (j, cv G v) List.mem_cons_self
  · rw [List.getElem?_set_ne (Ne.symm hj)] at hw
    obtain ⟨h1, h2⟩ := lk_at hw
    refine h.2.2 (j, cv G w) (List.mem_cons_of_mem _ (List.mem_filter.mpr ⟨List.mem_filterMap.mpr ⟨j, ?_, by rw [h1]⟩, ?_⟩))
    · exact List.mem_range.mpr (Nat.lt_of_lt_of_le (List.getElem?_eq_some_iff.mp h1).1 hl)
    · simp only [Bool.and_eq_true, Bool.not_eq_true', beq_eq_false_iff_ne, ne_eq, hj, not_false_eq_true, true_and, Bool.and_eq_false_iff]
      by_cases h3 : j + 1 = i
      · right
        intro h4
        exact h2 ⟨h3, cat_cv h4⟩
      · left
        exact h3
theorem LH.set2 {G : Gx} {ls : Array Slot} {n : Nat} {L : Lx} {i : Nat} {v : Vl} (hl : L.length ≤ n) (h : lv_has ls n ((i, cv G v) :: (lvl G L n).filter (fun q => !(q.1 == i) && (!(q.1 == i + 1) && !(q.1 + 1 == i && q.2.category == 2))))) : LH G ls n (lset2 L i v) := by
  refine ⟨h.1, h.2.1, fun j w hw => ?_⟩
  unfold lset2 at hw
  by_cases hj1 : j = i + 1
  · subst hj1
    have hlen : i + 1 < ((lk L i).set i (some v)).length := by
      have := (List.getElem?_eq_some_iff.mp hw).1
      simpa using this
    rw [List.getElem?_set_self hlen] at hw
    cases hw
  · rw [List.getElem?_set_ne (Ne.symm hj1)] at hw
    by_cases hj : j = i
    · subst hj
      have hlen : j < (lk L j).length := by
        have := (List.getElem?_eq_some_iff.mp hw).1
        simpa using this
      rw [List.getElem?_set_self hlen] at hw
      cases hw
      exact h.2.2 (j, cv G v) List.mem_cons_self
    · rw [List.getElem?_set_ne (Ne.symm hj)] at hw
      obtain ⟨h1, h2⟩ := lk_at hw
      refine h.2.2 (j, cv G w) (List.mem_cons_of_mem _ (List.mem_filter.mpr ⟨List.mem_filterMap.mpr ⟨j, ?_, by rw [h1]⟩, ?_⟩))
      · exact List.mem_range.mpr (Nat.lt_of_lt_of_le (List.getElem?_eq_some_iff.mp h1).1 hl)
      · simp only [Bool.and_eq_true, Bool.not_eq_true', beq_eq_false_iff_ne, ne_eq, hj, hj1, not_false_eq_true, true_and, Bool.and_eq_false_iff]
        by_cases h3 : j + 1 = i
        · right
          intro h4
          exact h2 ⟨h3, cat_cv h4⟩
        · left
          exact h3
abbrev inr (x : Int) : Prop := -2147483648 ≤ x ∧ x < 2147483648
abbrev inL (x : Int) : Prop := -9223372036854775808 ≤ x ∧ x < 9223372036854775808
theorem inr_t {x : Int} (h : inr x) : (Int32.ofInt x).toInt = x := Int32.toInt_ofInt_of_le (by omega) (by omega)
theorem inL_t {x : Int} (h : inL x) : (Int64.ofInt x).toInt = x := Int64.toInt_ofInt_of_le (by omega) (by omega)
theorem inr_lt {x y : Int} (h : inr x) (h2 : inr y) : Int32.ofInt x < Int32.ofInt y ↔ x < y := by rw [Int32.lt_iff_toInt_lt, inr_t h, inr_t h2]
theorem inr_le {x y : Int} (h : inr x) (h2 : inr y) : Int32.ofInt x ≤ Int32.ofInt y ↔ x ≤ y := by rw [Int32.le_iff_toInt_le, inr_t h, inr_t h2]
theorem inr_eq {x y : Int} (h : inr x) (h2 : inr y) : Int32.ofInt x = Int32.ofInt y ↔ x = y := by rw [← Int32.toInt_inj, inr_t h, inr_t h2]
theorem inL_lt {x y : Int} (h : inL x) (h2 : inL y) : Int64.ofInt x < Int64.ofInt y ↔ x < y := by rw [Int64.lt_iff_toInt_lt, inL_t h, inL_t h2]
theorem inL_eq {x y : Int} (h : inL x) (h2 : inL y) : Int64.ofInt x = Int64.ofInt y ↔ x = y := by rw [← Int64.toInt_inj, inL_t h, inL_t h2]
theorem inr_cl {x : Int} (h : inr x) : (Int32.ofInt x).toNatClampNeg = x.toNat := Int32.toNatClampNeg_ofInt_of_le (by omega) (by omega)
theorem inr_0 : (0 : Int32) = Int32.ofInt 0 := rfl
theorem inr_i0 : inr 0 := by decide

theorem inr_8 {n : Int} (h1 : -128 ≤ n) (h2 : n ≤ 127) : (Int8.ofInt n).toInt32 = Int32.ofInt n := by
  rw [← Int32.ofInt_int8ToInt, Int8.toInt_ofInt_of_le (by omega) (by omega)]
theorem inr_16 {n : Int} (h1 : -32768 ≤ n) (h2 : n ≤ 32767) : (Int16.ofInt n).toInt32 = Int32.ofInt n := by
  rw [← Int32.ofInt_int16ToInt, Int16.toInt_ofInt_of_le (by omega) (by omega)]
def vcat (v : Vl) : Bool := match v with
  | .inr (.inl _) => false
  | _ => true
theorem vcat_1 {G : Gx} {v : Vl} (h : vcat v = true) : (cv G v).category = 1 := by
  rcases v with x | x | x
  · rfl
  · cases h
  · show (rfv G x).category = 1
    unfold rfv
    split <;> rfl
theorem inr_eqv {x z : Int} (h : x = z ∨ (inr x ∧ inr z)) : Int32.ofInt x = Int32.ofInt z ↔ x = z := by
  rcases h with rfl | ⟨h1, h2⟩
  · simp
  · exact inr_eq h1 h2
theorem lcmp_eq {x z : Int} (h : x = z ∨ (inL x ∧ inL z)) : lg_cmp (Int64.ofInt x) (Int64.ofInt z) = Int32.ofInt (if x = z then 0 else if z < x then 1 else -1) := by
  rcases h with rfl | ⟨h1, h2⟩
  · simp [lg_cmp]
  · unfold lg_cmp
    simp only [inL_lt h2 h1, inL_lt h1 h2, inL_eq h1 h2]
    by_cases e1 : x = z
    · subst e1; simp
    · by_cases e2 : z < x
      · simp [e1, e2]
      · have e3 : x < z := by omega
        simp [e1, e2, e3]
theorem room_ret {b : Option (Nat × Nat)} {cc ss k d : Nat} (hb : cc ≤ (bcf b 0).1 ∧ ss ≤ (bcf b 0).2 ∨ (b = none ∧ cc = 200 ∧ ss = 60000 ∧ 1 ≤ k)) (a1 : k ≤ d) : cc ≤ (bcf b d).1 ∧ ss ≤ (bcf b d).2 := by
  rcases hb with ⟨h1, h2⟩ | ⟨rfl, rfl, rfl, h3⟩
  · cases b with
    | none => simp only [bcf] at h1 h2 ⊢; omega
    | some q => exact ⟨h1, h2⟩
  · simp only [bcf]; omega
section RW0
variable {e0 : Nat} {N N2 : Int} {b : Option (Nat × Nat)} {cc ss : Nat} {y : Yx} {pc : Nat} {L : Lx} {S : List Vl} {M : Mem} {Q : Vl → Mem → Prop}
theorem wp_iconst {n : Int} (hd : decode y.2.1 pc = .ok (.iconst n, 1))  (h : WPg e0 N N2 b cc ss y (pc + 1) L (Iv n :: S) M Q) : WPg e0 N N2 b cc ss y pc L S M Q := by
  intro l G d R p e s m args below meth c Z a1 a2 a3 a4 a5 C hret H locs ls hH hS hL
  exact lv_iconst C.1 C.2.1 hd rfl (h l G d R p e s m args below meth c Z a1 a2 a3 a4 a5 C hret H locs ls hH hS hL)
theorem wp_bipush {n : Int} (hd : decode y.2.1 pc = .ok (.bipush n, 2)) (hn : -128 ≤ n ∧ n ≤ 127) (h : WPg e0 N N2 b cc ss y (pc + 2) L (Iv n :: S) M Q) : WPg e0 N N2 b cc ss y pc L S M Q := by
  intro l G d R p e s m args below meth c Z a1 a2 a3 a4 a5 C hret H locs ls hH hS hL
  exact lv_bipush (v := Int32.ofInt n) C.1 C.2.1 hd (by rw [← inr_8 hn.1 hn.2]) (h l G d R p e s m args below meth c Z a1 a2 a3 a4 a5 C hret H locs ls hH hS hL)
theorem wp_sipush {n : Int} (hd : decode y.2.1 pc = .ok (.sipush n, 3)) (hn : -32768 ≤ n ∧ n ≤ 32767) (h : WPg e0 N N2 b cc ss y (pc + 3) L (Iv n :: S) M Q) : WPg e0 N N2 b cc ss y pc L S M Q := by
  intro l G d R p e s m args below meth c Z a1 a2 a3 a4 a5 C hret H locs ls hH hS hL
  exact lv_sipush (v := Int32.ofInt n) C.1 C.2.1 hd (by rw [← inr_16 hn.1 hn.2]) (h l G d R p e s m args below meth c Z a1 a2 a3 a4 a5 C hret H locs ls hH hS hL)
theorem wp_lconst0  (hd : decode y.2.1 pc = .ok (.lconst 0, 1))  (h : WPg e0 N N2 b cc ss y (pc + 1) L (Jv 0 :: S) M Q) : WPg e0 N N2 b cc ss y pc L S M Q := by
  intro l G d R p e s m args below meth c Z a1 a2 a3 a4 a5 C hret H locs ls hH hS hL
  exact lv_lconst (v := Int64.ofInt 0) C.1 C.2.1 hd rfl (h l G d R p e s m args below meth c Z a1 a2 a3 a4 a5 C hret H locs ls hH hS hL)
theorem wp_lconst1  (hd : decode y.2.1 pc = .ok (.lconst 1, 1))  (h : WPg e0 N N2 b cc ss y (pc + 1) L (Jv 1 :: S) M Q) : WPg e0 N N2 b cc ss y pc L S M Q := by
  intro l G d R p e s m args below meth c Z a1 a2 a3 a4 a5 C hret H locs ls hH hS hL
  exact lv_lconst (v := Int64.ofInt 1) C.1 C.2.1 hd rfl (h l G d R p e s m args below meth c Z a1 a2 a3 a4 a5 C hret H locs ls hH hS hL)
theorem wp_ldcw {i : Nat} (n : Int) (hd : decode y.2.1 pc = .ok (.ldc_w i, 3)) (hc : Cond.constant y.1.cls i (Int32.ofInt n) ∈ gtbl) (h : WPg e0 N N2 b cc ss y (pc + 3) L (Iv n :: S) M Q) : WPg e0 N N2 b cc ss y pc L S M Q := by
  intro l G d R p e s m args below meth c Z a1 a2 a3 a4 a5 C hret H locs ls hH hS hL
  exact lv_ldcw (v := Int32.ofInt n) C.1 C.2.1 C.2.2.2.2.1 (C.2.2.2.2.2.1 _ hc) hd (h l G d R p e s m args below meth c Z a1 a2 a3 a4 a5 C hret H locs ls hH hS hL)
theorem wp_ldc2 {i : Nat} (n : Int) (hd : decode y.2.1 pc = .ok (.ldc2_w i, 3)) (hc : Cond.constantLong y.1.cls i (Int64.ofInt n) ∈ gtbl) (h : WPg e0 N N2 b cc ss y (pc + 3) L (Jv n :: S) M Q) : WPg e0 N N2 b cc ss y pc L S M Q := by
  intro l G d R p e s m args below meth c Z a1 a2 a3 a4 a5 C hret H locs ls hH hS hL
  exact lv_ldc2 (v := Int64.ofInt n) C.1 C.2.1 C.2.2.2.2.1 (C.2.2.2.2.2.1 _ hc) hd (h l G d R p e s m args below meth c Z a1 a2 a3 a4 a5 C hret H locs ls hH hS hL)
theorem wp_iload_n {k : Fin 4} {x : Int} (hd : decode y.2.1 pc = .ok (.iload_n k, 1)) (hl : L[(k : Nat)]? = some (some (Iv x))) (h : WPg e0 N N2 b cc ss y (pc + 1) L (Iv x :: S) M Q) : WPg e0 N N2 b cc ss y pc L S M Q := by
  intro l G d R p e s m args below meth c Z a1 a2 a3 a4 a5 C hret H locs ls hH hS hL
  exact lv_iload_n C.1 C.2.1 hd rfl (hL.2.2 k _ hl) (h l G d R p e s m args below meth c Z a1 a2 a3 a4 a5 C hret H locs ls hH hS hL)
theorem wp_iload {k : Nat} {x : Int} (hd : decode y.2.1 pc = .ok (.iload k, 2)) (hl : L[k]? = some (some (Iv x))) (h : WPg e0 N N2 b cc ss y (pc + 2) L (Iv x :: S) M Q) : WPg e0 N N2 b cc ss y pc L S M Q := by
  intro l G d R p e s m args below meth c Z a1 a2 a3 a4 a5 C hret H locs ls hH hS hL
  exact lv_iload C.1 C.2.1 hd (hL.2.2 k _ hl) (h l G d R p e s m args below meth c Z a1 a2 a3 a4 a5 C hret H locs ls hH hS hL)
theorem wp_lload_n {k : Fin 4} {x : Int} (hd : decode y.2.1 pc = .ok (.lload_n k, 1)) (hl : L[(k : Nat)]? = some (some (Jv x))) (h : WPg e0 N N2 b cc ss y (pc + 1) L (Jv x :: S) M Q) : WPg e0 N N2 b cc ss y pc L S M Q := by
  intro l G d R p e s m args below meth c Z a1 a2 a3 a4 a5 C hret H locs ls hH hS hL
  exact lv_lload_n C.1 C.2.1 hd rfl (hL.2.2 k _ hl) (h l G d R p e s m args below meth c Z a1 a2 a3 a4 a5 C hret H locs ls hH hS hL)
theorem wp_lload {k : Nat} {x : Int} (hd : decode y.2.1 pc = .ok (.lload k, 2)) (hl : L[k]? = some (some (Jv x))) (h : WPg e0 N N2 b cc ss y (pc + 2) L (Jv x :: S) M Q) : WPg e0 N N2 b cc ss y pc L S M Q := by
  intro l G d R p e s m args below meth c Z a1 a2 a3 a4 a5 C hret H locs ls hH hS hL
  exact lv_lload C.1 C.2.1 hd (hL.2.2 k _ hl) (h l G d R p e s m args below meth c Z a1 a2 a3 a4 a5 C hret H locs ls hH hS hL)
theorem wp_aload_n {k : Fin 4} {x : Int} (hd : decode y.2.1 pc = .ok (.aload_n k, 1)) (hl : L[(k : Nat)]? = some (some (Rv x))) (hx : 0 ≤ x) (h : WPg e0 N N2 b cc ss y (pc + 1) L (Rv x :: S) M Q) : WPg e0 N N2 b cc ss y pc L S M Q := by
  intro l G d R p e s m args below meth c Z a1 a2 a3 a4 a5 C hret H locs ls hH hS hL
  have e1 : rfv G x = .ref (ra G x) := if_neg (by omega)
  have h := h l G d R p e s m args below meth c Z a1 a2 a3 a4 a5 C hret H locs ls hH hS hL
  rw [show (Rv x :: S).map (cv G) = .ref (ra G x) :: S.map (cv G) by rw [List.map_cons]; show rfv G x :: _ = _; rw [e1]] at h
  have hl2 := hL.2.2 k _ hl
  rw [show cv G (Rv x) = .ref (ra G x) from e1] at hl2
  exact lv_aload_n C.1 C.2.1 hd rfl hl2 h
theorem wp_aload {k : Nat} {x : Int} (hd : decode y.2.1 pc = .ok (.aload k, 2)) (hl : L[k]? = some (some (Rv x))) (hx : 0 ≤ x) (h : WPg e0 N N2 b cc ss y (pc + 2) L (Rv x :: S) M Q) : WPg e0 N N2 b cc ss y pc L S M Q := by
  intro l G d R p e s m args below meth c Z a1 a2 a3 a4 a5 C hret H locs ls hH hS hL
  have e1 : rfv G x = .ref (ra G x) := if_neg (by omega)
  have h := h l G d R p e s m args below meth c Z a1 a2 a3 a4 a5 C hret H locs ls hH hS hL
  rw [show (Rv x :: S).map (cv G) = .ref (ra G x) :: S.map (cv G) by rw [List.map_cons]; show rfv G x :: _ = _; rw [e1]] at h
  have hl2 := hL.2.2 k _ hl
  rw [show cv G (Rv x) = .ref (ra G x) from e1] at hl2
  exact lv_aload C.1 C.2.1 hd hl2 h
theorem wp_istore_n {k : Fin 4} {x : Int} {L2 : Lx} (hd : decode y.2.1 pc = .ok (.istore_n k, 1)) (hn : (k : Nat) < y.2.2.1) (hlen : L.length ≤ y.2.2.1) (hs : lset1 L k (Iv x) = L2) (h : WPg e0 N N2 b cc ss y (pc + 1) L2 S M Q) : WPg e0 N N2 b cc ss y pc L (Iv x :: S) M Q := by
  intro l G d R p e s m args below meth c Z a1 a2 a3 a4 a5 C hret H locs ls hH hS hL
  subst hs
  refine lv_istore_n C.1 C.2.1 hd rfl hL.lv hn rfl (fun ls2 hl2 => ?_)
  exact h l G d R p e s m args below meth c Z a1 a2 a3 a4 a5 C hret H locs ls2 hH hS (LH.set1 hlen hl2)
theorem wp_istore {k : Nat} {x : Int} {L2 : Lx} (hd : decode y.2.1 pc = .ok (.istore k, 2)) (hn : k < y.2.2.1) (hlen : L.length ≤ y.2.2.1) (hs : lset1 L k (Iv x) = L2) (h : WPg e0 N N2 b cc ss y (pc + 2) L2 S M Q) : WPg e0 N N2 b cc ss y pc L (Iv x :: S) M Q := by
  intro l G d R p e s m args below meth c Z a1 a2 a3 a4 a5 C hret H locs ls hH hS hL
  subst hs
  refine lv_istore C.1 C.2.1 hd hL.lv hn rfl (fun ls2 hl2 => ?_)
  exact h l G d R p e s m args below meth c Z a1 a2 a3 a4 a5 C hret H locs ls2 hH hS (LH.set1 hlen hl2)
theorem wp_lstore_n {k : Fin 4} {x : Int} {L2 : Lx} (hd : decode y.2.1 pc = .ok (.lstore_n k, 1)) (hn : (k : Nat) + 1 < y.2.2.1) (hlen : L.length ≤ y.2.2.1) (hs : lset2 L k (Jv x) = L2) (h : WPg e0 N N2 b cc ss y (pc + 1) L2 S M Q) : WPg e0 N N2 b cc ss y pc L (Jv x :: S) M Q := by
  intro l G d R p e s m args below meth c Z a1 a2 a3 a4 a5 C hret H locs ls hH hS hL
  subst hs
  refine lv_lstore_n C.1 C.2.1 hd rfl hL.lv hn rfl (fun ls2 hl2 => ?_)
  exact h l G d R p e s m args below meth c Z a1 a2 a3 a4 a5 C hret H locs ls2 hH hS (LH.set2 hlen hl2)
theorem wp_lstore {k : Nat} {x : Int} {L2 : Lx} (hd : decode y.2.1 pc = .ok (.lstore k, 2)) (hn : k + 1 < y.2.2.1) (hlen : L.length ≤ y.2.2.1) (hs : lset2 L k (Jv x) = L2) (h : WPg e0 N N2 b cc ss y (pc + 2) L2 S M Q) : WPg e0 N N2 b cc ss y pc L (Jv x :: S) M Q := by
  intro l G d R p e s m args below meth c Z a1 a2 a3 a4 a5 C hret H locs ls hH hS hL
  subst hs
  refine lv_lstore C.1 C.2.1 hd hL.lv hn rfl (fun ls2 hl2 => ?_)
  exact h l G d R p e s m args below meth c Z a1 a2 a3 a4 a5 C hret H locs ls2 hH hS (LH.set2 hlen hl2)
theorem wp_astore_n {k : Fin 4} {x : Int} {L2 : Lx} (hd : decode y.2.1 pc = .ok (.astore_n k, 1)) (hn : (k : Nat) < y.2.2.1) (hlen : L.length ≤ y.2.2.1) (hs : lset1 L k (Rv x) = L2) (hx : 0 ≤ x) (h : WPg e0 N N2 b cc ss y (pc + 1) L2 S M Q) : WPg e0 N N2 b cc ss y pc L (Rv x :: S) M Q := by
  intro l G d R p e s m args below meth c Z a1 a2 a3 a4 a5 C hret H locs ls hH hS hL
  subst hs
  have e1 : rfv G x = .ref (ra G x) := if_neg (by omega)
  show W p l e R s m args below meth c H locs cc ss Z (F0 m pc ls (rfv G x :: S.map (cv G)))
  rw [e1]
  refine lv_astore_n C.1 C.2.1 hd rfl hL.lv hn rfl (fun ls2 hl2 => ?_)
  exact h l G d R p e s m args below meth c Z a1 a2 a3 a4 a5 C hret H locs ls2 hH hS (LH.set1 hlen (v := Rv x) (by rw [show cv G (Rv x) = .ref (ra G x) from e1]; exact hl2))
theorem wp_astore {k : Nat} {x : Int} {L2 : Lx} (hd : decode y.2.1 pc = .ok (.astore k, 2)) (hn : k < y.2.2.1) (hlen : L.length ≤ y.2.2.1) (hs : lset1 L k (Rv x) = L2) (hx : 0 ≤ x) (h : WPg e0 N N2 b cc ss y (pc + 2) L2 S M Q) : WPg e0 N N2 b cc ss y pc L (Rv x :: S) M Q := by
  intro l G d R p e s m args below meth c Z a1 a2 a3 a4 a5 C hret H locs ls hH hS hL
  subst hs
  have e1 : rfv G x = .ref (ra G x) := if_neg (by omega)
  show W p l e R s m args below meth c H locs cc ss Z (F0 m pc ls (rfv G x :: S.map (cv G)))
  rw [e1]
  refine lv_astore C.1 C.2.1 hd hL.lv hn rfl (fun ls2 hl2 => ?_)
  exact h l G d R p e s m args below meth c Z a1 a2 a3 a4 a5 C hret H locs ls2 hH hS (LH.set1 hlen (v := Rv x) (by rw [show cv G (Rv x) = .ref (ra G x) from e1]; exact hl2))
theorem wp_iinc {k : Nat} {n x : Int} {L2 : Lx} (hd : decode y.2.1 pc = .ok (.iinc k n, 3)) (hl : L[k]? = some (some (Iv x))) (hn : k < y.2.2.1) (hlen : L.length ≤ y.2.2.1) (hs : lset1 L k (Iv (x + n)) = L2) (h : WPg e0 N N2 b cc ss y (pc + 3) L2 S M Q) : WPg e0 N N2 b cc ss y pc L S M Q := by
  intro l G d R p e s m args below meth c Z a1 a2 a3 a4 a5 C hret H locs ls hH hS hL
  subst hs
  have hm : (k, Value.int (Int32.ofInt x)) ∈ lvl G L y.2.2.1 := List.mem_filterMap.mpr ⟨k, List.mem_range.mpr hn, by rw [hl]; rfl⟩
  obtain ⟨q, hq⟩ := List.getElem?_of_mem hm
  refine lv_iinc (k := q) (v := Int32.ofInt (x + n)) C.1 C.2.1 hd hL.lv hq (by rw [Int32.ofInt_add]) hn rfl (fun ls2 hl2 => ?_)
  exact h l G d R p e s m args below meth c Z a1 a2 a3 a4 a5 C hret H locs ls2 hH hS (LH.set1 hlen hl2)
theorem wp_iadd {x z : Int} (hd : decode y.2.1 pc = .ok (.iadd, 1))  (h : WPg e0 N N2 b cc ss y (pc + 1) L (Iv (x + z) :: S) M Q) : WPg e0 N N2 b cc ss y pc L (Iv z :: Iv x :: S) M Q := by
  intro l G d R p e s m args below meth c Z a1 a2 a3 a4 a5 C hret H locs ls hH hS hL
  have h := h l G d R p e s m args below meth c Z a1 a2 a3 a4 a5 C hret H locs ls hH hS hL
  refine lv_iadd C.1 C.2.1 hd ?_
  rw [← Int32.ofInt_add]
  exact h
theorem wp_isub {x z : Int} (hd : decode y.2.1 pc = .ok (.isub, 1))  (h : WPg e0 N N2 b cc ss y (pc + 1) L (Iv (x - z) :: S) M Q) : WPg e0 N N2 b cc ss y pc L (Iv z :: Iv x :: S) M Q := by
  intro l G d R p e s m args below meth c Z a1 a2 a3 a4 a5 C hret H locs ls hH hS hL
  have h := h l G d R p e s m args below meth c Z a1 a2 a3 a4 a5 C hret H locs ls hH hS hL
  refine lv_isub C.1 C.2.1 hd ?_
  rw [← Int32.ofInt_sub]
  exact h
theorem wp_imul {x z : Int} (hd : decode y.2.1 pc = .ok (.imul, 1))  (h : WPg e0 N N2 b cc ss y (pc + 1) L (Iv (x * z) :: S) M Q) : WPg e0 N N2 b cc ss y pc L (Iv z :: Iv x :: S) M Q := by
  intro l G d R p e s m args below meth c Z a1 a2 a3 a4 a5 C hret H locs ls hH hS hL
  have h := h l G d R p e s m args below meth c Z a1 a2 a3 a4 a5 C hret H locs ls hH hS hL
  refine lv_imul C.1 C.2.1 hd ?_
  rw [← Int32.ofInt_mul]
  exact h
theorem wp_ladd {x z : Int} (hd : decode y.2.1 pc = .ok (.ladd, 1))  (h : WPg e0 N N2 b cc ss y (pc + 1) L (Jv (x + z) :: S) M Q) : WPg e0 N N2 b cc ss y pc L (Jv z :: Jv x :: S) M Q := by
  intro l G d R p e s m args below meth c Z a1 a2 a3 a4 a5 C hret H locs ls hH hS hL
  have h := h l G d R p e s m args below meth c Z a1 a2 a3 a4 a5 C hret H locs ls hH hS hL
  refine lv_ladd C.1 C.2.1 hd ?_
  rw [← Int64.ofInt_add]
  exact h
theorem wp_lsub {x z : Int} (hd : decode y.2.1 pc = .ok (.lsub, 1))  (h : WPg e0 N N2 b cc ss y (pc + 1) L (Jv (x - z) :: S) M Q) : WPg e0 N N2 b cc ss y pc L (Jv z :: Jv x :: S) M Q := by
  intro l G d R p e s m args below meth c Z a1 a2 a3 a4 a5 C hret H locs ls hH hS hL
  have h := h l G d R p e s m args below meth c Z a1 a2 a3 a4 a5 C hret H locs ls hH hS hL
  refine lv_lsub C.1 C.2.1 hd ?_
  rw [← Int64.ofInt_sub]
  exact h
theorem wp_lmul {x z : Int} (hd : decode y.2.1 pc = .ok (.lmul, 1))  (h : WPg e0 N N2 b cc ss y (pc + 1) L (Jv (x * z) :: S) M Q) : WPg e0 N N2 b cc ss y pc L (Jv z :: Jv x :: S) M Q := by
  intro l G d R p e s m args below meth c Z a1 a2 a3 a4 a5 C hret H locs ls hH hS hL
  have h := h l G d R p e s m args below meth c Z a1 a2 a3 a4 a5 C hret H locs ls hH hS hL
  refine lv_lmul C.1 C.2.1 hd ?_
  rw [← Int64.ofInt_mul]
  exact h
theorem wp_idiv {x z : Int} (hd : decode y.2.1 pc = .ok (.idiv, 1)) (hx1 : inr x) (hz1 : inr z) (hz0 : z ≠ 0) (h : WPg e0 N N2 b cc ss y (pc + 1) L (Iv (x.tdiv z) :: S) M Q) : WPg e0 N N2 b cc ss y pc L (Iv z :: Iv x :: S) M Q := by
  intro l G d R p e s m args below meth c Z a1 a2 a3 a4 a5 C hret H locs ls hH hS hL
  have hz : ¬ Int32.ofInt z = 0 := fun q => hz0 (by have q2 := congrArg Int32.toInt q; rw [inr_t hz1] at q2; exact q2)
  have h := h l G d R p e s m args below meth c Z a1 a2 a3 a4 a5 C hret H locs ls hH hS hL
  refine lv_idiv C.1 C.2.1 hd hz ?_
  rw [← Int32.ofInt_tdiv (by show (-2147483648 : Int) ≤ x; omega) (by show x ≤ (2147483647 : Int); omega) (by show (-2147483648 : Int) ≤ z; omega) (by show z ≤ (2147483647 : Int); omega)]
  exact h
theorem wp_ldiv {x z : Int} (hd : decode y.2.1 pc = .ok (.ldiv, 1)) (hx1 : inL x) (hz1 : inL z) (hz0 : z ≠ 0) (h : WPg e0 N N2 b cc ss y (pc + 1) L (Jv (x.tdiv z) :: S) M Q) : WPg e0 N N2 b cc ss y pc L (Jv z :: Jv x :: S) M Q := by
  intro l G d R p e s m args below meth c Z a1 a2 a3 a4 a5 C hret H locs ls hH hS hL
  have hz : ¬ Int64.ofInt z = 0 := fun q => hz0 (by have q2 := congrArg Int64.toInt q; rw [inL_t hz1] at q2; exact q2)
  have h := h l G d R p e s m args below meth c Z a1 a2 a3 a4 a5 C hret H locs ls hH hS hL
  refine lv_ldiv C.1 C.2.1 hd hz ?_
  rw [← Int64.ofInt_tdiv (by show (-9223372036854775808 : Int) ≤ x; omega) (by show x ≤ (9223372036854775807 : Int); omega) (by show (-9223372036854775808 : Int) ≤ z; omega) (by show z ≤ (9223372036854775807 : Int); omega)]
  exact h
theorem wp_irem {x z : Int} (hd : decode y.2.1 pc = .ok (.irem, 1)) (hx1 : inr x) (hz1 : inr z) (hz0 : z ≠ 0) (h : WPg e0 N N2 b cc ss y (pc + 1) L (Iv (x.tmod z) :: S) M Q) : WPg e0 N N2 b cc ss y pc L (Iv z :: Iv x :: S) M Q := by
  intro l G d R p e s m args below meth c Z a1 a2 a3 a4 a5 C hret H locs ls hH hS hL
  have hz : ¬ Int32.ofInt z = 0 := fun q => hz0 (by have q2 := congrArg Int32.toInt q; rw [inr_t hz1] at q2; exact q2)
  have h := h l G d R p e s m args below meth c Z a1 a2 a3 a4 a5 C hret H locs ls hH hS hL
  refine lv_irem C.1 C.2.1 hd hz ?_
  rw [← Int32.ofInt_tdiv (by show (-2147483648 : Int) ≤ x; omega) (by show x ≤ (2147483647 : Int); omega) (by show (-2147483648 : Int) ≤ z; omega) (by show z ≤ (2147483647 : Int); omega), ← Int32.ofInt_mul, ← Int32.ofInt_sub, show x - x.tdiv z * z = x.tmod z by rw [Int.tmod_def, Int.mul_comm]]
  exact h
theorem wp_lrem {x z : Int} (hd : decode y.2.1 pc = .ok (.lrem, 1)) (hx1 : inL x) (hz1 : inL z) (hz0 : z ≠ 0) (h : WPg e0 N N2 b cc ss y (pc + 1) L (Jv (x.tmod z) :: S) M Q) : WPg e0 N N2 b cc ss y pc L (Jv z :: Jv x :: S) M Q := by
  intro l G d R p e s m args below meth c Z a1 a2 a3 a4 a5 C hret H locs ls hH hS hL
  have hz : ¬ Int64.ofInt z = 0 := fun q => hz0 (by have q2 := congrArg Int64.toInt q; rw [inL_t hz1] at q2; exact q2)
  have h := h l G d R p e s m args below meth c Z a1 a2 a3 a4 a5 C hret H locs ls hH hS hL
  refine lv_lrem C.1 C.2.1 hd hz ?_
  rw [← Int64.ofInt_tdiv (by show (-9223372036854775808 : Int) ≤ x; omega) (by show x ≤ (9223372036854775807 : Int); omega) (by show (-9223372036854775808 : Int) ≤ z; omega) (by show z ≤ (9223372036854775807 : Int); omega), ← Int64.ofInt_mul, ← Int64.ofInt_sub, show x - x.tdiv z * z = x.tmod z by rw [Int.tmod_def, Int.mul_comm]]
  exact h
theorem wp_i2l {x : Int} (hd : decode y.2.1 pc = .ok (.i2l, 1)) (hx1 : inr x) (h : WPg e0 N N2 b cc ss y (pc + 1) L (Jv x :: S) M Q) : WPg e0 N N2 b cc ss y pc L (Iv x :: S) M Q := by
  intro l G d R p e s m args below meth c Z a1 a2 a3 a4 a5 C hret H locs ls hH hS hL
  exact lv_i2l (v := Int64.ofInt x) C.1 C.2.1 hd (by rw [Int32.toInt64_ofInt (by show (-2147483648 : Int) ≤ x; omega) (by show x ≤ (2147483647 : Int); omega)]) (h l G d R p e s m args below meth c Z a1 a2 a3 a4 a5 C hret H locs ls hH hS hL)
theorem wp_l2i {x : Int} (hd : decode y.2.1 pc = .ok (.l2i, 1))  (h : WPg e0 N N2 b cc ss y (pc + 1) L (Iv x :: S) M Q) : WPg e0 N N2 b cc ss y pc L (Jv x :: S) M Q := by
  intro l G d R p e s m args below meth c Z a1 a2 a3 a4 a5 C hret H locs ls hH hS hL
  exact lv_l2i (v := Int32.ofInt x) C.1 C.2.1 hd (by rw [Int64.toInt32_ofInt]) (h l G d R p e s m args below meth c Z a1 a2 a3 a4 a5 C hret H locs ls hH hS hL)
theorem wp_i2b {x : Int} (hd : decode y.2.1 pc = .ok (.i2b, 1))  (h : WPg e0 N N2 b cc ss y (pc + 1) L (Iv (x.bmod 256) :: S) M Q) : WPg e0 N N2 b cc ss y pc L (Iv x :: S) M Q := by
  intro l G d R p e s m args below meth c Z a1 a2 a3 a4 a5 C hret H locs ls hH hS hL
  exact lv_i2b (v := Int32.ofInt (x.bmod 256)) C.1 C.2.1 hd (by rw [Int32.toInt8_ofInt, ← Int32.ofInt_int8ToInt, Int8.toInt_ofInt]) (h l G d R p e s m args below meth c Z a1 a2 a3 a4 a5 C hret H locs ls hH hS hL)
theorem wp_iand {x z : Int} (r : Int) (hd : decode y.2.1 pc = .ok (.iand, 1)) (hr : Int32.ofInt x &&& Int32.ofInt z = Int32.ofInt r) (h : WPg e0 N N2 b cc ss y (pc + 1) L (Iv r :: S) M Q) : WPg e0 N N2 b cc ss y pc L (Iv z :: Iv x :: S) M Q := by
  intro l G d R p e s m args below meth c Z a1 a2 a3 a4 a5 C hret H locs ls hH hS hL
  have h := h l G d R p e s m args below meth c Z a1 a2 a3 a4 a5 C hret H locs ls hH hS hL
  refine lv_iand C.1 C.2.1 hd ?_
  rw [hr]
  exact h
theorem wp_ior {x z : Int} (r : Int) (hd : decode y.2.1 pc = .ok (.ior, 1)) (hr : Int32.ofInt x ||| Int32.ofInt z = Int32.ofInt r) (h : WPg e0 N N2 b cc ss y (pc + 1) L (Iv r :: S) M Q) : WPg e0 N N2 b cc ss y pc L (Iv z :: Iv x :: S) M Q := by
  intro l G d R p e s m args below meth c Z a1 a2 a3 a4 a5 C hret H locs ls hH hS hL
  have h := h l G d R p e s m args below meth c Z a1 a2 a3 a4 a5 C hret H locs ls hH hS hL
  refine lv_ior C.1 C.2.1 hd ?_
  rw [hr]
  exact h
theorem wp_land {x z : Int} (r : Int) (hd : decode y.2.1 pc = .ok (.land, 1)) (hr : Int64.ofInt x &&& Int64.ofInt z = Int64.ofInt r) (h : WPg e0 N N2 b cc ss y (pc + 1) L (Jv r :: S) M Q) : WPg e0 N N2 b cc ss y pc L (Jv z :: Jv x :: S) M Q := by
  intro l G d R p e s m args below meth c Z a1 a2 a3 a4 a5 C hret H locs ls hH hS hL
  have h := h l G d R p e s m args below meth c Z a1 a2 a3 a4 a5 C hret H locs ls hH hS hL
  refine lv_land C.1 C.2.1 hd ?_
  rw [hr]
  exact h
theorem wp_lor {x z : Int} (r : Int) (hd : decode y.2.1 pc = .ok (.lor, 1)) (hr : Int64.ofInt x ||| Int64.ofInt z = Int64.ofInt r) (h : WPg e0 N N2 b cc ss y (pc + 1) L (Jv r :: S) M Q) : WPg e0 N N2 b cc ss y pc L (Jv z :: Jv x :: S) M Q := by
  intro l G d R p e s m args below meth c Z a1 a2 a3 a4 a5 C hret H locs ls hH hS hL
  have h := h l G d R p e s m args below meth c Z a1 a2 a3 a4 a5 C hret H locs ls hH hS hL
  refine lv_lor C.1 C.2.1 hd ?_
  rw [hr]
  exact h
theorem wp_ishl {x z : Int} (r : Int) (hd : decode y.2.1 pc = .ok (.ishl, 1)) (hr : Int32.ofInt x <<< (Int32.ofInt z &&& 31) = Int32.ofInt r) (h : WPg e0 N N2 b cc ss y (pc + 1) L (Iv r :: S) M Q) : WPg e0 N N2 b cc ss y pc L (Iv z :: Iv x :: S) M Q := by
  intro l G d R p e s m args below meth c Z a1 a2 a3 a4 a5 C hret H locs ls hH hS hL
  have h := h l G d R p e s m args below meth c Z a1 a2 a3 a4 a5 C hret H locs ls hH hS hL
  refine lv_ishl C.1 C.2.1 hd ?_
  rw [hr]
  exact h
theorem wp_ishr {x z : Int} (r : Int) (hd : decode y.2.1 pc = .ok (.ishr, 1)) (hr : Int32.ofInt x >>> (Int32.ofInt z &&& 31) = Int32.ofInt r) (h : WPg e0 N N2 b cc ss y (pc + 1) L (Iv r :: S) M Q) : WPg e0 N N2 b cc ss y pc L (Iv z :: Iv x :: S) M Q := by
  intro l G d R p e s m args below meth c Z a1 a2 a3 a4 a5 C hret H locs ls hH hS hL
  have h := h l G d R p e s m args below meth c Z a1 a2 a3 a4 a5 C hret H locs ls hH hS hL
  refine lv_ishr C.1 C.2.1 hd ?_
  rw [hr]
  exact h
theorem wp_iushr {x z : Int} (r : Int) (hd : decode y.2.1 pc = .ok (.iushr, 1)) (hr : ((Int32.ofInt x).toUInt32 >>> ((Int32.ofInt z).toUInt32 &&& Int32.toUInt32 31)).toInt32 = Int32.ofInt r) (h : WPg e0 N N2 b cc ss y (pc + 1) L (Iv r :: S) M Q) : WPg e0 N N2 b cc ss y pc L (Iv z :: Iv x :: S) M Q := by
  intro l G d R p e s m args below meth c Z a1 a2 a3 a4 a5 C hret H locs ls hH hS hL
  exact lv_iushr C.1 C.2.1 hd hr (h l G d R p e s m args below meth c Z a1 a2 a3 a4 a5 C hret H locs ls hH hS hL)
theorem wp_lushr {x z : Int} (r : Int) (hd : decode y.2.1 pc = .ok (.lushr, 1)) (hr : ((Int64.ofInt x).toUInt64 >>> ((Int32.ofInt z).toInt64.toUInt64 &&& Int64.toUInt64 63)).toInt64 = Int64.ofInt r) (h : WPg e0 N N2 b cc ss y (pc + 1) L (Jv r :: S) M Q) : WPg e0 N N2 b cc ss y pc L (Iv z :: Jv x :: S) M Q := by
  intro l G d R p e s m args below meth c Z a1 a2 a3 a4 a5 C hret H locs ls hH hS hL
  exact lv_lushr C.1 C.2.1 hd hr (h l G d R p e s m args below meth c Z a1 a2 a3 a4 a5 C hret H locs ls hH hS hL)
theorem wp_lshl {x z : Int} (r : Int) (hd : decode y.2.1 pc = .ok (.lshl, 1)) (hr : Int64.ofInt x <<< ((Int32.ofInt z).toInt64 &&& 63) = Int64.ofInt r) (h : WPg e0 N N2 b cc ss y (pc + 1) L (Jv r :: S) M Q) : WPg e0 N N2 b cc ss y pc L (Iv z :: Jv x :: S) M Q := by
  intro l G d R p e s m args below meth c Z a1 a2 a3 a4 a5 C hret H locs ls hH hS hL
  exact lv_lshl C.1 C.2.1 hd hr (h l G d R p e s m args below meth c Z a1 a2 a3 a4 a5 C hret H locs ls hH hS hL)
theorem wp_dup {v : Vl} (hd : decode y.2.1 pc = .ok (.dup, 1)) (hv1 : vcat v = true) (h : WPg e0 N N2 b cc ss y (pc + 1) L (v :: v :: S) M Q) : WPg e0 N N2 b cc ss y pc L (v :: S) M Q := by
  intro l G d R p e s m args below meth c Z a1 a2 a3 a4 a5 C hret H locs ls hH hS hL
  have hv := vcat_1 (G := G) hv1
  exact lv_dup C.1 C.2.1 hd hv (h l G d R p e s m args below meth c Z a1 a2 a3 a4 a5 C hret H locs ls hH hS hL)
theorem wp_pop {v : Vl} (hd : decode y.2.1 pc = .ok (.pop, 1)) (hv1 : vcat v = true) (h : WPg e0 N N2 b cc ss y (pc + 1) L S M Q) : WPg e0 N N2 b cc ss y pc L (v :: S) M Q := by
  intro l G d R p e s m args below meth c Z a1 a2 a3 a4 a5 C hret H locs ls hH hS hL
  have hv := vcat_1 (G := G) hv1
  exact lv_pop C.1 C.2.1 hd hv (h l G d R p e s m args below meth c Z a1 a2 a3 a4 a5 C hret H locs ls hH hS hL)
theorem wp_dup2 {v w : Vl} (hd : decode y.2.1 pc = .ok (.dup2, 1)) (hv1 : vcat v = true) (hw1 : vcat w = true) (h : WPg e0 N N2 b cc ss y (pc + 1) L (v :: w :: v :: w :: S) M Q) : WPg e0 N N2 b cc ss y pc L (v :: w :: S) M Q := by
  intro l G d R p e s m args below meth c Z a1 a2 a3 a4 a5 C hret H locs ls hH hS hL
  exact lv_dup2_11 C.1 C.2.1 hd (vcat_1 (G := G) hv1) (vcat_1 (G := G) hw1) (h l G d R p e s m args below meth c Z a1 a2 a3 a4 a5 C hret H locs ls hH hS hL)
theorem wp_lcmp {x z : Int} (hd : decode y.2.1 pc = .ok (.lcmp, 1)) (hxz : x = z ∨ (inL x ∧ inL z)) (h : WPg e0 N N2 b cc ss y (pc + 1) L (Iv (if x = z then 0 else if z < x then 1 else -1) :: S) M Q) : WPg e0 N N2 b cc ss y pc L (Jv z :: Jv x :: S) M Q := by
  intro l G d R p e s m args below meth c Z a1 a2 a3 a4 a5 C hret H locs ls hH hS hL
  have h := h l G d R p e s m args below meth c Z a1 a2 a3 a4 a5 C hret H locs ls hH hS hL
  refine W.lcmp C.1 C.2.1 hd ?_
  rw [lcmp_eq hxz]
  exact h
theorem wp_icmp_lt {x z off : Int} {tgt : Nat} (hd : decode y.2.1 pc = .ok (.if_icmp .lt off, 3)) (ht : (pc : Int) + off = (tgt : Int)) (hx1 : inr x) (hz1 : inr z) (kt : x < z → WPg e0 N N2 b cc ss y tgt L S M Q) (kf : z ≤ x → WPg e0 N N2 b cc ss y (pc + 3) L S M Q) : WPg e0 N N2 b cc ss y pc L (Iv z :: Iv x :: S) M Q := by
  intro l G d R p e s m args below meth c Z a1 a2 a3 a4 a5 C hret H locs ls hH hS hL
  refine lv_icmp_lt C.1 C.2.1 hd ht (fun q => kt ((inr_lt hx1 hz1).mp q) l G d R p e s m args below meth c Z a1 a2 a3 a4 a5 C hret H locs ls hH hS hL) (fun q => kf (Int.not_lt.mp (fun q2 => q ((inr_lt hx1 hz1).mpr q2))) l G d R p e s m args below meth c Z a1 a2 a3 a4 a5 C hret H locs ls hH hS hL)
theorem wp_if_lt {x off : Int} {tgt : Nat} (hd : decode y.2.1 pc = .ok (.ifCond .lt off, 3)) (ht : (pc : Int) + off = (tgt : Int)) (hx1 : inr x) (kt : x < 0 → WPg e0 N N2 b cc ss y tgt L S M Q) (kf : 0 ≤ x → WPg e0 N N2 b cc ss y (pc + 3) L S M Q) : WPg e0 N N2 b cc ss y pc L (Iv x :: S) M Q := by
  intro l G d R p e s m args below meth c Z a1 a2 a3 a4 a5 C hret H locs ls hH hS hL
  refine lv_if_lt C.1 C.2.1 hd ht (fun q => kt ((inr_lt hx1 inr_i0).mp q) l G d R p e s m args below meth c Z a1 a2 a3 a4 a5 C hret H locs ls hH hS hL) (fun q => kf (Int.not_lt.mp (fun q2 => q ((inr_lt hx1 inr_i0).mpr q2))) l G d R p e s m args below meth c Z a1 a2 a3 a4 a5 C hret H locs ls hH hS hL)
theorem wp_icmp_ge {x z off : Int} {tgt : Nat} (hd : decode y.2.1 pc = .ok (.if_icmp .ge off, 3)) (ht : (pc : Int) + off = (tgt : Int)) (hx1 : inr x) (hz1 : inr z) (kt : z ≤ x → WPg e0 N N2 b cc ss y tgt L S M Q) (kf : x < z → WPg e0 N N2 b cc ss y (pc + 3) L S M Q) : WPg e0 N N2 b cc ss y pc L (Iv z :: Iv x :: S) M Q := by
  intro l G d R p e s m args below meth c Z a1 a2 a3 a4 a5 C hret H locs ls hH hS hL
  refine lv_icmp_ge C.1 C.2.1 hd ht (fun q => kt ((inr_le hz1 hx1).mp q) l G d R p e s m args below meth c Z a1 a2 a3 a4 a5 C hret H locs ls hH hS hL) (fun q => kf (Int.not_le.mp (fun q2 => q ((inr_le hz1 hx1).mpr q2))) l G d R p e s m args below meth c Z a1 a2 a3 a4 a5 C hret H locs ls hH hS hL)
theorem wp_if_ge {x off : Int} {tgt : Nat} (hd : decode y.2.1 pc = .ok (.ifCond .ge off, 3)) (ht : (pc : Int) + off = (tgt : Int)) (hx1 : inr x) (kt : 0 ≤ x → WPg e0 N N2 b cc ss y tgt L S M Q) (kf : x < 0 → WPg e0 N N2 b cc ss y (pc + 3) L S M Q) : WPg e0 N N2 b cc ss y pc L (Iv x :: S) M Q := by
  intro l G d R p e s m args below meth c Z a1 a2 a3 a4 a5 C hret H locs ls hH hS hL
  refine lv_if_ge C.1 C.2.1 hd ht (fun q => kt ((inr_le inr_i0 hx1).mp q) l G d R p e s m args below meth c Z a1 a2 a3 a4 a5 C hret H locs ls hH hS hL) (fun q => kf (Int.not_le.mp (fun q2 => q ((inr_le inr_i0 hx1).mpr q2))) l G d R p e s m args below meth c Z a1 a2 a3 a4 a5 C hret H locs ls hH hS hL)
theorem wp_icmp_gt {x z off : Int} {tgt : Nat} (hd : decode y.2.1 pc = .ok (.if_icmp .gt off, 3)) (ht : (pc : Int) + off = (tgt : Int)) (hx1 : inr x) (hz1 : inr z) (kt : z < x → WPg e0 N N2 b cc ss y tgt L S M Q) (kf : x ≤ z → WPg e0 N N2 b cc ss y (pc + 3) L S M Q) : WPg e0 N N2 b cc ss y pc L (Iv z :: Iv x :: S) M Q := by
  intro l G d R p e s m args below meth c Z a1 a2 a3 a4 a5 C hret H locs ls hH hS hL
  refine lv_icmp_gt C.1 C.2.1 hd ht (fun q => kt ((inr_lt hz1 hx1).mp q) l G d R p e s m args below meth c Z a1 a2 a3 a4 a5 C hret H locs ls hH hS hL) (fun q => kf (Int.not_lt.mp (fun q2 => q ((inr_lt hz1 hx1).mpr q2))) l G d R p e s m args below meth c Z a1 a2 a3 a4 a5 C hret H locs ls hH hS hL)
theorem wp_if_gt {x off : Int} {tgt : Nat} (hd : decode y.2.1 pc = .ok (.ifCond .gt off, 3)) (ht : (pc : Int) + off = (tgt : Int)) (hx1 : inr x) (kt : 0 < x → WPg e0 N N2 b cc ss y tgt L S M Q) (kf : x ≤ 0 → WPg e0 N N2 b cc ss y (pc + 3) L S M Q) : WPg e0 N N2 b cc ss y pc L (Iv x :: S) M Q := by
  intro l G d R p e s m args below meth c Z a1 a2 a3 a4 a5 C hret H locs ls hH hS hL
  refine lv_if_gt C.1 C.2.1 hd ht (fun q => kt ((inr_lt inr_i0 hx1).mp q) l G d R p e s m args below meth c Z a1 a2 a3 a4 a5 C hret H locs ls hH hS hL) (fun q => kf (Int.not_lt.mp (fun q2 => q ((inr_lt inr_i0 hx1).mpr q2))) l G d R p e s m args below meth c Z a1 a2 a3 a4 a5 C hret H locs ls hH hS hL)
theorem wp_icmp_le {x z off : Int} {tgt : Nat} (hd : decode y.2.1 pc = .ok (.if_icmp .le off, 3)) (ht : (pc : Int) + off = (tgt : Int)) (hx1 : inr x) (hz1 : inr z) (kt : x ≤ z → WPg e0 N N2 b cc ss y tgt L S M Q) (kf : z < x → WPg e0 N N2 b cc ss y (pc + 3) L S M Q) : WPg e0 N N2 b cc ss y pc L (Iv z :: Iv x :: S) M Q := by
  intro l G d R p e s m args below meth c Z a1 a2 a3 a4 a5 C hret H locs ls hH hS hL
  refine lv_icmp_le C.1 C.2.1 hd ht (fun q => kt ((inr_le hx1 hz1).mp q) l G d R p e s m args below meth c Z a1 a2 a3 a4 a5 C hret H locs ls hH hS hL) (fun q => kf (Int.not_le.mp (fun q2 => q ((inr_le hx1 hz1).mpr q2))) l G d R p e s m args below meth c Z a1 a2 a3 a4 a5 C hret H locs ls hH hS hL)
theorem wp_if_le {x off : Int} {tgt : Nat} (hd : decode y.2.1 pc = .ok (.ifCond .le off, 3)) (ht : (pc : Int) + off = (tgt : Int)) (hx1 : inr x) (kt : x ≤ 0 → WPg e0 N N2 b cc ss y tgt L S M Q) (kf : 0 < x → WPg e0 N N2 b cc ss y (pc + 3) L S M Q) : WPg e0 N N2 b cc ss y pc L (Iv x :: S) M Q := by
  intro l G d R p e s m args below meth c Z a1 a2 a3 a4 a5 C hret H locs ls hH hS hL
  refine lv_if_le C.1 C.2.1 hd ht (fun q => kt ((inr_le hx1 inr_i0).mp q) l G d R p e s m args below meth c Z a1 a2 a3 a4 a5 C hret H locs ls hH hS hL) (fun q => kf (Int.not_le.mp (fun q2 => q ((inr_le hx1 inr_i0).mpr q2))) l G d R p e s m args below meth c Z a1 a2 a3 a4 a5 C hret H locs ls hH hS hL)
theorem wp_icmp_eq {x z off : Int} {tgt : Nat} (hd : decode y.2.1 pc = .ok (.if_icmp .eq off, 3)) (ht : (pc : Int) + off = (tgt : Int)) (hxz : x = z ∨ (inr x ∧ inr z)) (kt : x = z → WPg e0 N N2 b cc ss y tgt L S M Q) (kf : x ≠ z → WPg e0 N N2 b cc ss y (pc + 3) L S M Q) : WPg e0 N N2 b cc ss y pc L (Iv z :: Iv x :: S) M Q := by
  intro l G d R p e s m args below meth c Z a1 a2 a3 a4 a5 C hret H locs ls hH hS hL
  refine lv_icmp_eq C.1 C.2.1 hd ht (fun q => kt ((inr_eqv hxz).mp q) l G d R p e s m args below meth c Z a1 a2 a3 a4 a5 C hret H locs ls hH hS hL) (fun q => kf (fun q2 => q ((inr_eqv hxz).mpr q2)) l G d R p e s m args below meth c Z a1 a2 a3 a4 a5 C hret H locs ls hH hS hL)
theorem wp_icmp_ne {x z off : Int} {tgt : Nat} (hd : decode y.2.1 pc = .ok (.if_icmp .ne off, 3)) (ht : (pc : Int) + off = (tgt : Int)) (hxz : x = z ∨ (inr x ∧ inr z)) (kt : x ≠ z → WPg e0 N N2 b cc ss y tgt L S M Q) (kf : x = z → WPg e0 N N2 b cc ss y (pc + 3) L S M Q) : WPg e0 N N2 b cc ss y pc L (Iv z :: Iv x :: S) M Q := by
  intro l G d R p e s m args below meth c Z a1 a2 a3 a4 a5 C hret H locs ls hH hS hL
  refine lv_icmp_ne C.1 C.2.1 hd ht (fun q => kt (fun q2 => q ((inr_eqv hxz).mpr q2)) l G d R p e s m args below meth c Z a1 a2 a3 a4 a5 C hret H locs ls hH hS hL) (fun q => kf ((inr_eqv hxz).mp q) l G d R p e s m args below meth c Z a1 a2 a3 a4 a5 C hret H locs ls hH hS hL)
theorem wp_if_eq {x off : Int} {tgt : Nat} (hd : decode y.2.1 pc = .ok (.ifCond .eq off, 3)) (ht : (pc : Int) + off = (tgt : Int)) (hx1 : inr x) (kt : x = 0 → WPg e0 N N2 b cc ss y tgt L S M Q) (kf : x ≠ 0 → WPg e0 N N2 b cc ss y (pc + 3) L S M Q) : WPg e0 N N2 b cc ss y pc L (Iv x :: S) M Q := by
  intro l G d R p e s m args below meth c Z a1 a2 a3 a4 a5 C hret H locs ls hH hS hL
  refine lv_if_eq C.1 C.2.1 hd ht (fun q => kt ((inr_eq hx1 inr_i0).mp q) l G d R p e s m args below meth c Z a1 a2 a3 a4 a5 C hret H locs ls hH hS hL) (fun q => kf (fun q2 => q ((inr_eq hx1 inr_i0).mpr q2)) l G d R p e s m args below meth c Z a1 a2 a3 a4 a5 C hret H locs ls hH hS hL)
theorem wp_if_ne {x off : Int} {tgt : Nat} (hd : decode y.2.1 pc = .ok (.ifCond .ne off, 3)) (ht : (pc : Int) + off = (tgt : Int)) (hx1 : inr x) (kt : x ≠ 0 → WPg e0 N N2 b cc ss y tgt L S M Q) (kf : x = 0 → WPg e0 N N2 b cc ss y (pc + 3) L S M Q) : WPg e0 N N2 b cc ss y pc L (Iv x :: S) M Q := by
  intro l G d R p e s m args below meth c Z a1 a2 a3 a4 a5 C hret H locs ls hH hS hL
  refine lv_if_ne C.1 C.2.1 hd ht (fun q => kt (fun q2 => q ((inr_eq hx1 inr_i0).mpr q2)) l G d R p e s m args below meth c Z a1 a2 a3 a4 a5 C hret H locs ls hH hS hL) (fun q => kf ((inr_eq hx1 inr_i0).mp q) l G d R p e s m args below meth c Z a1 a2 a3 a4 a5 C hret H locs ls hH hS hL)
theorem wp_goto {off : Int} {tgt : Nat} (hd : decode y.2.1 pc = .ok (.goto off, 3)) (ht : (pc : Int) + off = (tgt : Int)) (h : WPg e0 N N2 b cc ss y tgt L S M Q) : WPg e0 N N2 b cc ss y pc L S M Q := by
  intro l G d R p e s m args below meth c Z a1 a2 a3 a4 a5 C hret H locs ls hH hS hL
  exact lv_goto C.1 C.2.1 hd ht (h l G d R p e s m args below meth c Z a1 a2 a3 a4 a5 C hret H locs ls hH hS hL)
theorem wp_tableIn {dflt lo hi x off : Int} {offs : Array Int} {len : Nat} {tgt : Nat} (hd : decode y.2.1 pc = .ok (.tableswitch dflt lo hi offs, len)) (hx1 : inr x) (h1 : lo ≤ x) (h2 : x ≤ hi) (ho : offs[(x - lo).toNat]? = some off) (ht : (pc : Int) + off = (tgt : Int)) (h : WPg e0 N N2 b cc ss y tgt L S M Q) : WPg e0 N N2 b cc ss y pc L (Iv x :: S) M Q := by
  intro l G d R p e s m args below meth c Z a1 a2 a3 a4 a5 C hret H locs ls hH hS hL
  exact lv_tableIn C.1 C.2.1 hd (by rw [inr_t hx1]; omega) (by rw [inr_t hx1]; omega) (by rw [inr_t hx1]; exact ho) ht (h l G d R p e s m args below meth c Z a1 a2 a3 a4 a5 C hret H locs ls hH hS hL)
theorem wp_tableOut {dflt lo hi x : Int} {offs : Array Int} {len : Nat} {tgt : Nat} (hd : decode y.2.1 pc = .ok (.tableswitch dflt lo hi offs, len)) (hx1 : inr x) (h1 : x < lo ∨ hi < x) (ht : (pc : Int) + dflt = (tgt : Int)) (h : WPg e0 N N2 b cc ss y tgt L S M Q) : WPg e0 N N2 b cc ss y pc L (Iv x :: S) M Q := by
  intro l G d R p e s m args below meth c Z a1 a2 a3 a4 a5 C hret H locs ls hH hS hL
  exact lv_tableOut C.1 C.2.1 hd (by rw [inr_t hx1]; exact h1) ht (h l G d R p e s m args below meth c Z a1 a2 a3 a4 a5 C hret H locs ls hH hS hL)
theorem wp_iret {x : Int} (hd : decode y.2.1 pc = .ok (.ireturn, 1)) (hy : y.2.2.2.1 = some .int) (hb : cc ≤ (bcf b 0).1 ∧ ss ≤ (bcf b 0).2 ∨ (b = none ∧ cc = 200 ∧ ss = 60000 ∧ 1 ≤ y.2.2.2.2 + e0)) (h : N = N2) (hq : Q (Iv x) M) : WPg e0 N N2 b cc ss y pc L [Iv x] M Q := by
  subst h
  intro l G d R p e s m args below meth c Z a1 a2 a3 a4 a5 C hret H locs ls hH hS hL
  obtain ⟨q1, q2⟩ := room_ret (d := d) hb a1
  refine W.widen q1 q2 ?_
  have h2 := hret (Iv x) M H locs ls pc hq hH hS (by unfold retI; rw [hy]; exact hd) (by unfold retV; rw [hy]; exact ⟨x, rfl⟩)
  unfold rst at h2
  rw [hy] at h2
  exact h2
theorem wp_zret {x : Int} (hd : decode y.2.1 pc = .ok (.ireturn, 1)) (hy : y.2.2.2.1 = some .boolean) (hb : cc ≤ (bcf b 0).1 ∧ ss ≤ (bcf b 0).2 ∨ (b = none ∧ cc = 200 ∧ ss = 60000 ∧ 1 ≤ y.2.2.2.2 + e0)) (h : N = N2) (hx : x = 0 ∨ x = 1) (hq : Q (Iv x) M) : WPg e0 N N2 b cc ss y pc L [Iv x] M Q := by
  subst h
  intro l G d R p e s m args below meth c Z a1 a2 a3 a4 a5 C hret H locs ls hH hS hL
  obtain ⟨q1, q2⟩ := room_ret (d := d) hb a1
  refine W.widen q1 q2 ?_
  have h2 := hret (Iv x) M H locs ls pc hq hH hS (by unfold retI; rw [hy]; exact hd) (by unfold retV; rw [hy]; exact hx.imp (fun q => by rw [q]) (fun q => by rw [q]))
  unfold rst at h2
  rw [hy] at h2
  exact h2
theorem wp_lret {x : Int} (hd : decode y.2.1 pc = .ok (.lreturn, 1)) (hy : y.2.2.2.1 = some .long) (hb : cc ≤ (bcf b 0).1 ∧ ss ≤ (bcf b 0).2 ∨ (b = none ∧ cc = 200 ∧ ss = 60000 ∧ 1 ≤ y.2.2.2.2 + e0)) (h : N = N2) (hq : Q (Jv x) M) : WPg e0 N N2 b cc ss y pc L [Jv x] M Q := by
  subst h
  intro l G d R p e s m args below meth c Z a1 a2 a3 a4 a5 C hret H locs ls hH hS hL
  obtain ⟨q1, q2⟩ := room_ret (d := d) hb a1
  refine W.widen q1 q2 ?_
  have h2 := hret (Jv x) M H locs ls pc hq hH hS (by unfold retI; rw [hy]; exact hd) (by unfold retV; rw [hy]; exact ⟨x, rfl⟩)
  unfold rst at h2
  rw [hy] at h2
  exact h2
theorem wp_vret (hd : decode y.2.1 pc = .ok (.return_, 1)) (hy : y.2.2.2.1 = none) (hb : cc ≤ (bcf b 0).1 ∧ ss ≤ (bcf b 0).2 ∨ (b = none ∧ cc = 200 ∧ ss = 60000 ∧ 1 ≤ y.2.2.2.2 + e0)) (h : N = N2) (hq : Q (Iv 0) M) : WPg e0 N N2 b cc ss y pc L [] M Q := by
  subst h
  intro l G d R p e s m args below meth c Z a1 a2 a3 a4 a5 C hret H locs ls hH hS hL
  obtain ⟨q1, q2⟩ := room_ret (d := d) hb a1
  refine W.widen q1 q2 ?_
  have h2 := hret (Iv 0) M H locs ls pc hq hH hS (by unfold retI; rw [hy]; exact hd) (by unfold retV; rw [hy]; trivial)
  unfold rst at h2
  rw [hy] at h2
  exact h2
theorem wp_aret {x : Int} {t : FieldType} (hd : decode y.2.1 pc = .ok (.areturn, 1)) (hy : y.2.2.2.1 = some (.array t)) (hb : cc ≤ (bcf b 0).1 ∧ ss ≤ (bcf b 0).2 ∨ (b = none ∧ cc = 200 ∧ ss = 60000 ∧ 1 ≤ y.2.2.2.2 + e0)) (h : N = N2) (hx : 0 ≤ x) (hq : Q (Rv x) M) : WPg e0 N N2 b cc ss y pc L [Rv x] M Q := by
  subst h
  intro l G d R p e s m args below meth c Z a1 a2 a3 a4 a5 C hret H locs ls hH hS hL
  obtain ⟨q1, q2⟩ := room_ret (d := d) hb a1
  refine W.widen q1 q2 ?_
  have h2 := hret (Rv x) M H locs ls pc hq hH hS (by unfold retI; rw [hy]; exact hd) (by unfold retV; rw [hy]; exact ⟨x, rfl, hx⟩)
  unfold rst at h2
  rw [hy] at h2
  exact h2
end RW0
