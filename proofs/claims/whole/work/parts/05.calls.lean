theorem bcf_mono {b : Option (Nat × Nat)} {k d : Nat} (h : k ≤ d) : (bcf b k).1 ≤ (bcf b d).1 ∧ (bcf b k).2 ≤ (bcf b d).2 := by
  cases b with
  | none => simp only [bcf]; omega
  | some q => exact ⟨Nat.le_refl _, Nat.le_refl _⟩
theorem good_tbl : ∀ w ∈ gtbl, (w.onTables && w.keeps) = true ∨ ∃ ty, w = .arrayClass ty := by
  exact fun w hw => good_of_word (List.mem_filter.mp hw).2
/-! sizes of the cells, and the room that they take -/
theorem cellOk.sz {G : Gx} {E : Mem} {a : Int} {cell : Cell} (h : cellOk G E a cell) : cell.slots.size = (sg a).2 := by
  rcases h with ⟨h1, -, -, h2, -⟩ | ⟨-, -, rfl⟩
  · rw [h2, sg_nf a h1]
  · exact arrV_size _ _ _
theorem sgL_at {k : Nat} (hk : k < 120) : (sg ((k : Int) + 1)).2 = (sgL.map Prod.snd).getD k 0 := by
  have key : ∀ k : Nat, k < 120 → (sg ((k : Int) + 1)).2 = (sgL.map Prod.snd).getD k 0 := by decide +kernel
  exact key k hk
theorem sum_drop_le (l : List Nat) (n : Nat) : (l.drop n).sum ≤ l.sum := by
  induction l generalizing n with
  | nil => simp
  | cons x l ih =>
    cases n with
    | zero => simp
    | succ n => have := ih n; simp only [List.drop_succ_cons, List.sum_cons]; omega
theorem sum_take_le (l : List Nat) (n : Nat) : (l.take n).sum ≤ l.sum := by
  induction l generalizing n with
  | nil => simp
  | cons x l ih =>
    cases n with
    | zero => simp
    | succ n => have := ih n; simp only [List.take_succ_cons, List.sum_cons]; omega
theorem HR.sizes {G : Gx} {N : Int} {M : Mem} {H : Heap} (h : HR G N M H) (hn : cnt N M ≤ 120) : (H.toList.drop (gB G)).map (fun c => c.slots.size) = (sgL.map Prod.snd).take (cnt N M) := by
  apply List.ext_getElem?
  intro k
  rcases Nat.lt_or_ge k (cnt N M) with hk | hk
  · obtain ⟨cell, q1, q2⟩ := h.2.1 k hk
    have hl : k < (sgL.map Prod.snd).length := Nat.lt_of_lt_of_le hk hn
    rw [List.getElem?_map, List.getElem?_drop, Array.getElem?_toList, q1, List.getElem?_take_of_lt hk, List.getElem?_eq_getElem hl]
    simp only [Option.map_some, Option.some.injEq]
    rw [q2.sz, sgL_at (Nat.lt_of_lt_of_le hk hn)]
    rw [List.getD_eq_getElem?_getD, List.getElem?_eq_getElem hl]
    rfl
  · rw [List.getElem?_map, List.getElem?_drop, Array.getElem?_toList, Array.getElem?_eq_none (by rw [h.1]; omega), List.getElem?_eq_none (by rw [List.length_take]; omega)]
    rfl
theorem HR.sum {G : Gx} {N : Int} {M : Mem} {H : Heap} (h : HR G N M H) (hn : cnt N M ≤ 120) {n : Nat} (hB : gB G ≤ n) : ((H.toList.drop n).map (fun c => c.slots.size)).sum ≤ 60000 := by
  obtain ⟨k, rfl⟩ := Nat.exists_eq_add_of_le hB
  rw [← List.drop_drop, List.map_drop, h.sizes hn]
  refine Nat.le_trans (sum_drop_le _ _) (Nat.le_trans (sum_take_le _ _) ?_)
  decide +kernel
theorem W.tight {p : Program} {l : Launch} {e : Env} {R : Room} {s : State} {m : MethodId} {args : Array Value} {below : List Frame} {meth : Method} {c : Code} {H : Heap} {locs : List Loc} {cells slots k n : Nat} {Q : State → Prop} {g : JFrame} (h1 : H.size ≤ s.heap.size + k) (h2 : ((H.toList.drop s.heap.size).map (fun c => c.slots.size)).sum ≤ n) (kk : W p l e R s m args below meth c H locs k n Q g) : W p l e R s m args below meth c H locs cells slots Q g := by
  intro T hT X
  obtain ⟨q1, q2, q3, q4, q5, q6⟩ := X.same
  refine kk T hT { X with same := ⟨q1, q2, ?_, q4, ?_, q6⟩ }
  · show T.heap.size ≤ _
    rw [hT]; exact h1
  · show ((T.heap.toList.drop s.heap.size).map (fun c => c.slots.size)).sum ≤ n
    rw [hT]; exact h2
theorem cnt0 (M : Mem) : cnt 0 M ≤ 120 := by
  unfold cnt
  rw [if_pos rfl]
  split <;> omega
/-! a method's contract -/
def rvo (G : Gx) (y : Yx) (v : Vl) : Option Value := match y.2.2.2.1 with
  | none => none
  | some _ => some (cv G v)
def rpush (y : Yx) (v : Vl) (S : List Vl) : List Vl := match y.2.2.2.1 with
  | none => S
  | some _ => v :: S
def PcG (G : Gx) (N : Int) (as : List Vl) (M : Mem) : Array Value → State → Prop := fun v U => v = (as.map (cv G)).toArray ∧ HR G N M U.heap ∧ va_K (gD G) clsL (tyL G) U ∧ va_X (gb G) (gL G) (gX G) U U.heap ∧ gb G < gB G ∧ va_AO RX3 U ∧ va_AO RX10 U
def QcG (G : Gx) (N2 : Int) (y : Yx) (Q : Vl → Mem → Prop) : Array Value → State → Outcome → State → Prop := fun _ st o t => (∃ v M2, Q v M2 ∧ retV y v ∧ o = .returned (rvo G y v) ∧ HR G N2 M2 t.heap) ∧ va_F (fun q => gB G ≤ q) st t
abbrev wdY (y : Yx) : List Cond := Cond.code y.1 y.2.1 y.2.2.1 y.2.2.2.1 :: gtbl
def CL (e0 : Nat) (N N2 : Int) (b : Option (Nat × Nat)) (y : Yx) (as : List Vl) (M : Mem) (Q : Vl → Mem → Prop) : Prop :=
  ∀ (l : Launch) (G : Gx) (d : Nat), y.2.2.2.2 + e0 ≤ d → Met l y.1 (wdY y) { frames := d, cells := (bcf b d).1, slots := (bcf b d).2, locals := 64 * d } (PcG G N as M) (QcG G N2 y Q) (bcf b d).1 (bcf b d).2 (fun q => gB G ≤ q)
theorem PcG_blind (G : Gx) (N : Int) (as : List Vl) (M : Mem) : FrameBlind (PcG G N as M) := by
  intro a U g mk q
  obtain ⟨q0, q1, q2, q3, q4, q5, q6⟩ := q
  exact ⟨q0, q1, va_K.moved (u := U) (U := U.calling g mk a) (Vm.Alike.refl U.vm) q2, va_X.moved (u := U) (U := U.calling g mk a) (Vm.Alike.refl U.vm) q3, q4, va_AO.moved (u := U) (U := U.calling g mk a) (Vm.Alike.refl U.vm) q5, va_AO.moved (u := U) (U := U.calling g mk a) (Vm.Alike.refl U.vm) q6⟩
def entL (as : List Vl) : Lx := match as with
  | [] => []
  | v :: vs => if vcat v = true then some v :: entL vs else some v :: none :: entL vs
def padL (n : Nat) (as : List Vl) : Lx := entL as ++ List.replicate (n - (entL as).length) none
theorem vcat_2 {G : Gx} {v : Vl} (h : ¬ vcat v = true) : (cv G v).category = 2 := by
  rcases v with x | x | x
  · exact absurd rfl h
  · rfl
  · exact absurd rfl h
theorem entL_len (G : Gx) (as : List Vl) : (lg_sl (as.map (cv G))).length = (entL as).length := by
  induction as with
  | nil => rfl
  | cons v vs ih =>
    have e1 : lg_sl ((v :: vs).map (cv G)) = (if (cv G v).category = 2 then [.val (cv G v), .second] else [.val (cv G v)]) ++ lg_sl (vs.map (cv G)) := by simp [lg_sl]
    have e2 : entL (v :: vs) = if vcat v = true then some v :: entL vs else some v :: none :: entL vs := by rw [entL]
    rw [e1, e2, List.length_append, ih]
    by_cases hv : vcat v = true
    · have hc := vcat_1 (G := G) hv
      rw [if_pos hv, if_neg (by rw [hc]; decide)]
      simp only [List.length_cons, List.length_nil]; omega
    · have hc := vcat_2 (G := G) hv
      rw [if_neg hv, if_pos hc]
      simp only [List.length_cons, List.length_nil]; omega
theorem entL_at (G : Gx) (as : List Vl) : ∀ (k i : Nat) (v : Vl), (entL as)[i]? = some (some v) → (k + i, cv G v) ∈ lv_args k (as.map (cv G)) := by
  induction as with
  | nil => intro k i v h; simp [entL] at h
  | cons w vs ih =>
    intro k i v h
    rw [List.map_cons]
    unfold lv_args
    unfold entL at h
    by_cases hw : vcat w = true
    · rw [if_pos hw] at h
      rw [if_neg (by rw [vcat_1 (G := G) hw]; decide)]
      cases i with
      | zero => simp at h; subst h; exact List.mem_cons_self
      | succ i =>
        have := ih (k + 1) i v (by simpa using h)
        rw [show k + (i + 1) = k + 1 + i by omega]
        exact List.mem_cons_of_mem _ this
    · rw [if_neg hw] at h
      rw [if_pos (vcat_2 (G := G) hw)]
      cases i with
      | zero => simp at h; subst h; exact List.mem_cons_self
      | succ i =>
        cases i with
        | zero => simp at h
        | succ i =>
          have := ih (k + 2) i v (by simpa using h)
          rw [show k + (i + 1 + 1) = k + 2 + i by omega]
          exact List.mem_cons_of_mem _ this
theorem padL_LH {G : Gx} {n : Nat} {as : List Vl} (hn : (entL as).length ≤ n) : LH G ((lg_sl (as.map (cv G)) ++ List.replicate (n - (lg_sl (as.map (cv G))).length) Slot.unset).toArray) n (padL n as) := by
  have h := lv_entry (as.map (cv G)) (n := n) (by rw [entL_len]; exact hn)
  refine ⟨h.1, h.2.1, fun i v hv => ?_⟩
  unfold padL at hv
  rcases Nat.lt_or_ge i (entL as).length with hi | hi
  · rw [List.getElem?_append_left hi] at hv
    have := h.2.2 _ (entL_at G as 0 i v hv)
    simpa using this
  · rw [List.getElem?_append_right hi] at hv
    have := List.eq_of_mem_replicate (List.mem_of_getElem? hv)
    cases this
set_option maxHeartbeats 4000000 in
theorem enterG {e0 : Nat} {N N2 : Int} {b : Option (Nat × Nat)} {c0 s0 : Nat} {y : Yx} {as : List Vl} {L : Lx} {M : Mem} {Q : Vl → Mem → Prop} (hp : plainName y.1.cls = true) (hy : y.2.2.2.1 = none ∨ y.2.2.2.1 = some .int ∨ y.2.2.2.1 = some .boolean ∨ y.2.2.2.1 = some .long ∨ y.2.2.2.1 = some (.array .int)) (hn : (entL as).length ≤ y.2.2.1) (hl : padL y.2.2.1 as = L) (h : WPg e0 N N2 b c0 s0 y 0 L [] M Q) : CL e0 N N2 b y as M Q := by
  intro l G d hd
  subst hl
  refine Met.ofW (cc := y.2.1) (maxL := y.2.2.1) (ret := y.2.2.2.1) hp rfl ?_
  intro p e s m args below meth c s₁ B hml hv
  obtain ⟨rfl, hH, hK, hX, hb, hA3, hA10⟩ := hv
  have hts := atoms_spec (ws := wdY y) B.pre
  have hnm := (name_of_methodNamed B.named B.method).1
  have hlocks := B.notSynchronized
  have C : Cx G y p s m (as.map (cv G)).toArray meth c := ⟨B.exec, B.bytes, B.returns, hml, findClass_of_methodNamed B.named, fun w hw => hts w (List.mem_cons_of_mem _ hw), hlocks, hK, hX, hb, hH.size, hnm, hA3, hA10⟩
  rw [lg_entry_eq]
  refine W.widen (Nat.zero_le c0) (Nat.zero_le s0) ?_
  refine h l G d _ p e s m _ below meth c _ hd (Nat.le_refl _) (Nat.le_refl _) (Nat.le_refl _) (Nat.le_refl _) C ?_ s.heap [] _ hH va_S.rf (padL_LH hn)
  intro v M2 H locs ls pc' hq hH2 hS2 hri hrv
  have hr := B.returns
  unfold retI at hri
  have hrv2 := hrv
  unfold retV at hrv
  have hQ : ∀ t : State, t.heap = H → QcG G N2 y Q (as.map (cv G)).toArray s (.returned (rvo G y v)) t := fun t ht => ⟨⟨v, M2, hq, hrv2, rfl, by rw [ht]; exact hH2⟩, hS2.F ht⟩
  unfold rvo at hQ
  unfold rst
  rcases hy with h1 | h1 | h1 | h1 | h1 <;> rw [h1] at hri hrv hr hQ ⊢
  · exact W.vret B.exec B.bytes hr (fun t ht _ => hQ t ht) hS2.2.2 hri
  · obtain ⟨x, rfl⟩ := hrv
    exact W.iret (v := Int32.ofInt x) B.exec B.bytes hr (fun t ht _ => hQ t ht) hS2.2.2 hri
  · rcases hrv with rfl | rfl
    · exact W.zret (v := Int32.ofInt 0) B.exec B.bytes hr rfl (fun t ht _ => hQ t ht) hS2.2.2 hri
    · exact W.zret (v := Int32.ofInt 1) B.exec B.bytes hr rfl (fun t ht _ => hQ t ht) hS2.2.2 hri
  · obtain ⟨x, rfl⟩ := hrv
    exact W.lret (v := Int64.ofInt x) B.exec B.bytes hr (fun t ht _ => hQ t ht) hS2.2.2 hri
  · obtain ⟨x, rfl, hx⟩ := hrv
    have e1 : cv G (Rv x) = .ref (ra G x) := if_neg (by omega)
    rw [e1] at hQ ⊢
    exact W.aret B.exec B.bytes hr (Or.inr ⟨_, rfl⟩) (Or.inr ⟨_, rfl⟩) (fun t ht _ => hQ t ht) hS2.2.2 hri

