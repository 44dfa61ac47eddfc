def CSB (y : Yx) (idx : Nat) (y2 : Yx) (n : Nat) : Prop := Cond.methodLink y.1.cls idx y2.1 ∈ gtbl ∧ Cond.initialized y2.1.cls ∈ gtbl ∧ Cond.code y2.1 y2.2.1 y2.2.2.1 y2.2.2.2.1 ∈ gtbl ∧ (y2.1.cls ≠ "java/lang/invoke/MethodHandle" ∧ y2.1.cls ≠ "java/lang/invoke/VarHandle" ∧ (parseMethodDescriptor y2.1.desc).map (fun d => d.parameters.length) = some n) ∧ y2.2.2.1 ≤ 45
def CSV (y : Yx) (idx : Nat) (y2 : Yx) (n cl : Nat) : Prop := CSB y idx y2 n ∧ Cond.instanceMethod y2.1 ∈ gtbl ∧ Cond.selects y2.1.cls y2.1 y2.1 ∈ gtbl ∧ cl < 13 ∧ (clT cl).1 = y2.1.cls
def CSS (y : Yx) (idx : Nat) (y2 : Yx) (n : Nat) : Prop := CSB y idx y2 n ∧ Cond.static y2.1 ∈ gtbl
def CSI (y : Yx) (idx : Nat) (y2 : Yx) (n : Nat) : Prop := CSB y idx y2 n ∧ y2.1.name = "<init>" ∧ Cond.instanceMethod y2.1 ∈ gtbl ∧ y2.2.2.2.1 = none
theorem goodIn_wd {y : Yx} (h : Cond.code y.1 y.2.1 y.2.2.1 y.2.2.2.1 ∈ gtbl) : GoodIn gtbl (wdY y) := by
  intro w hw
  rcases List.mem_cons.mp hw with rfl | hw
  · exact ⟨h, good_tbl _ h⟩
  · exact ⟨hw, good_tbl _ hw⟩
theorem callB_am {y y2 : Yx} {idx n d : Nat} {b : Option (Nat × Nat)} {R : Room} {s : State} {args : Array Value} (hc : CSB y idx y2 n) (hts : ∀ w ∈ gtbl, w.before args s = true) (h1 : d + 1 ≤ R.frames) (h2 : 64 * (d + 1) ≤ R.locals) :
    CallB R s args y.1.cls idx y2.1 y2.2.1 y2.2.2.1 y2.2.2.2.1 (wdY y2) { frames := d, cells := (bcf b d).1, slots := (bcf b d).2, locals := 64 * d } (bcf b d).1 (bcf b d).2 n := by
  obtain ⟨c1, c2, c3, c4, c5⟩ := hc
  exact callB_of n hts (goodIn_wd c3) rfl rfl rfl (hts _ c2) (hts _ c1) c4 ⟨h1, by show 8 + (y2.2.2.1 + 11) + 64 * d ≤ R.locals; omega⟩
def wsum (S : List Vl) : Nat := match S with
  | [] => 0
  | v :: S => (if vcat v = true then 1 else 2) + wsum S
theorem wsum_eq (G : Gx) (S : List Vl) : ((S.map (cv G)).map (fun v => v.category)).sum = wsum S := by
  induction S with
  | nil => rfl
  | cons v S ih =>
    unfold wsum
    rw [List.map_cons, List.map_cons, List.sum_cons, ih]
    by_cases hv : vcat v = true
    · rw [if_pos hv, vcat_1 hv]
    · rw [if_neg hv, vcat_2 hv]
theorem PcG_at {G : Gx} {N : Int} {as : List Vl} {M : Mem} {y : Yx} {p : Program} {s : State} {m : MethodId} {args : Array Value} {meth : Method} {c : Code} {H : Heap} {locs : List Loc} (C : Cx G y p s m args meth c) (hH : HR G N M H) (hS : va_S (fun q => gB G ≤ q) s.heap H locs) (U : State) (hU : U.heap = H) (hW : s.WarmedH U.vm) : PcG G N as M (as.map (cv G)).toArray U := by
  obtain ⟨-, -, -, -, -, -, -, hK, hX, hb, hBs, -, hA3, hA10⟩ := C
  have hal : s.vm.Alike U.vm := hW.alike
  refine ⟨rfl, by rw [hU]; exact hH, va_K.moved hal hK, ?_, hb, va_AO.moved hal hA3, va_AO.moved hal hA10⟩
  refine va_X.moved hal (va_X.kept hX ?_)
  rw [hU]
  exact hS.2.1 _ (Nat.lt_of_lt_of_le hb hBs) (by show ¬ gB G ≤ gb G; omega)

theorem objI1 : Cond.instanceMethod Lib.objectInit ∈ gtbl := tb_in 24 (by decide +kernel) rfl
theorem objI2 : Cond.code Lib.objectInit ⟨#[0xb1]⟩ 1 none ∈ gtbl := tb_in 25 (by decide +kernel) rfl
theorem math_i : Cond.initialized "java/lang/Math" ∈ gtbl := tb_in 15 (by decide +kernel) rfl
theorem mmax_s : Cond.static Lib.Math.max.name ∈ gtbl := tb_in 752 (by decide +kernel) rfl
theorem mmin_s : Cond.static Lib.Math.min.name ∈ gtbl := tb_in 512 (by decide +kernel) rfl
theorem mmax_c : Cond.code Lib.Math.max.name Lib.Math.max.code 2 (some .int) ∈ gtbl := tb_in 753 (by decide +kernel) rfl
theorem mmin_c : Cond.code Lib.Math.min.name Lib.Math.min.code 2 (some .int) ∈ gtbl := tb_in 513 (by decide +kernel) rfl
section RW2
variable {e0 e1 : Nat} {N N1 N2 : Int} {b : Option (Nat × Nat)} {cc ss : Nat} {y y2 : Yx} {pc : Nat} {L : Lx} {S S0 : List Vl} {M : Mem} {Q R2 : Vl → Mem → Prop}
theorem call_end {l : Launch} {G : Gx} {dd : Nat} {R : Room} {p : Program} {e : Env} {s : State} {m : MethodId} {args a : Array Value} {below : List Frame} {meth : Method} {c : Code} {Z : State → Prop} {H : Heap} {locs : List Loc} {ls : Array Slot} {st0 : List Value} {b2 : Option (Nat × Nat)} {cc1 ss1 : Nat}
    (hrun : va_Run p l e R s m args below meth c H locs cc ss (bcf b2 dd).1 (bcf b2 dd).2 (F0 m pc ls st0) (S.map (cv G)) (QcG G N1 y2 R2 a) (fun q => gB G ≤ q)) (hS : va_S (fun q => gB G ≤ q) s.heap H locs) (hBs : gB G ≤ s.heap.size)
    (hroom : ∀ (M2 : Mem) (H1 : Heap), HR G N1 M2 H1 → H1.size ≤ s.heap.size + cc1 ∧ ((H1.toList.drop s.heap.size).map (fun c => c.slots.size)).sum ≤ ss1 ∨ (cc + (bcf b2 dd).1 ≤ cc1 ∧ ss + (bcf b2 dd).2 ≤ ss1))
    (kk : ∀ (v : Vl) (M2 : Mem) (H1 : Heap) (locs1 : List Loc), R2 v M2 → retV y2 v → HR G N1 M2 H1 → va_S (fun q => gB G ≤ q) s.heap H1 locs1 → W p l e R s m args below meth c H1 locs1 cc1 ss1 Z (F0 m (pc + 3) ls ((rpush y2 v S).map (cv G)))) : W p l e R s m args below meth c H locs cc ss Z (F0 m pc ls st0) := by
  intro T hT X
  obtain ⟨v, st₀, t, T', L', h0, X', hL', e1, e2, ⟨⟨u, M2, hq, hrv, hv, hH2⟩, hz, hk⟩, st⟩ := hrun T hT X
  rw [h0] at hz hk
  have hv2 : v = rvo G y2 u := Outcome.returned.inj hv
  have hS2 : va_S (fun q => gB G ≤ q) s.heap T'.heap (locs ++ L') := ⟨Nat.le_trans hS.1 (by rw [e1]; exact hz), fun q h1 h2 => by rw [e1, hk q (Nat.lt_of_lt_of_le h1 hS.1) h2]; exact hS.2.1 q h1 h2, fun q hq => by
      rcases List.mem_append.mp hq with h | h
      · exact hS.2.2 q h
      · exact hL' q h⟩
  have hW := kk u M2 T'.heap (locs ++ L') hq hrv (by rw [e1]; exact hH2) hS2
  have hstk : v.toList ++ S.map (cv G) = (rpush y2 u S).map (cv G) := by
    rw [hv2]
    unfold rvo rpush
    cases y2.2.2.2.1 <;> rfl
  rw [← hstk] at hW
  rcases hroom M2 T'.heap (by rw [e1]; exact hH2) with ⟨r1, r2⟩ | ⟨r1, r2⟩
  · obtain ⟨t2, a1, b1⟩ := W.tight r1 r2 hW T' rfl X'
    exact ⟨t2, st t2 a1, b1⟩
  · obtain ⟨t2, a1, b1⟩ := W.widen r1 r2 hW T' rfl X'
    exact ⟨t2, st t2 a1, b1⟩
theorem am_room0 {G : Gx} {s : State} (hBs : gB G ≤ s.heap.size) (M2 : Mem) (H1 : Heap) (h : HR G 0 M2 H1) : H1.size ≤ s.heap.size + 200 ∧ ((H1.toList.drop s.heap.size).map (fun c => c.slots.size)).sum ≤ 60000 := by
  refine ⟨?_, h.sum (cnt0 M2) hBs⟩
  have := cnt0 M2
  rw [h.1]
  omega
set_option maxHeartbeats 1000000 in
theorem wp_callV {idx n cl : Nat} {as : List Vl} {a : Int} (hd : decode y.2.1 pc = .ok (.invokevirtual idx, 3)) (hc : CSV y idx y2 n cl) (hk : kd 0 M a = cl) (hn : as.length = n) (hst : S0 = as.reverse ++ Rv a :: S) (hw : wsum S ≤ 8) (hr : y2.2.2.2.2 + e1 + 1 ≤ y.2.2.2.2 + e0) (hcall : CL e1 0 0 none y2 (Rv a :: as) M R2)
    (h : ∀ v M2, R2 v M2 → retV y2 v → WPg e0 0 N2 none 200 60000 y (pc + 3) L (rpush y2 v S) M2 Q) : WPg e0 0 N2 none 200 60000 y pc L S0 M Q := by
  intro l G d R p e s m args below meth c Z a1 a2 a3 a4 a5 C hret H locs ls hH hS hL
  subst hst
  obtain ⟨d, rfl⟩ : ∃ k, d = k + 1 := ⟨d - 1, by omega⟩
  have C0 := C
  obtain ⟨hx, hb, -, hml, hown, hts, -, hK, -, -, hBs, -⟩ := C0
  obtain ⟨cb, c2, c3, c4, c5⟩ := hc
  obtain ⟨g1, g2, g3⟩ := kd_spec hk (by omega)
  have hra : rfv G a = .ref (ra G a) := if_neg (by omega)
  obtain ⟨e1, cell, hc1, hc2⟩ := hH.at hk (by omega)
  obtain ⟨q1, q2, q3, q4⟩ := hc2.obj g3 c4
  have hstk : (as.reverse ++ Rv a :: S).map (cv G) = (as.map (cv G)).reverse ++ .ref (ra G a) :: S.map (cv G) := by
    rw [List.map_append, List.map_reverse, List.map_cons]
    show _ ++ rfv G a :: _ = _
    rw [hra]
  rw [hstk]
  have hM := hcall l G d (by omega)
  have hcell : ∃ cellB : Cell, H[ra G a]? = some cellB ∧ cellB.vm.isStatics = false ∧ s.vm.findClass y2.1.cls = some cellB.cls := ⟨cell, hc1, by rw [q2]; rfl, by rw [q1, ← c5]; exact (hK.1 cl _ (clC cl c4)).2.1⟩
  have hrun := va_runV (b := ra G a) (As := as.map (cv G)) (rest := S.map (cv G)) (g := F0 m pc ls ((as.map (cv G)).reverse ++ .ref (ra G a) :: S.map (cv G))) (H := H) (locs := locs) (cells := 200) (slots := 60000) (e := e) (below := below) (meth := meth) (R := R) (n := n) ⟨hx, hb, hml, hown, hts⟩ hM ⟨callB_am cb hts a2 a3, hts _ c2, hts _ c3⟩ ⟨PcG_blind _ _ _ _, hcell, fun U hU hW => by
      have := PcG_at (as := Rv a :: as) C hH hS U hU hW
      rw [List.map_cons, show cv G (Rv a) = .ref (ra G a) from hra] at this
      exact this⟩ rfl (by rw [List.length_map]; exact hn) hL.1 rfl (by show 2 * 0 + _ ≤ 8; rw [wsum_eq]; omega) hd (by simp only [bcf] at a4 a5 ⊢; omega)
  refine call_end (b2 := none) (dd := d) hrun hS hBs (fun M2 H1 h1 => Or.inl (am_room0 hBs M2 H1 h1)) (fun v M2 H1 locs1 q1 q2 q3 q4 => ?_)
  exact h v M2 q1 q2 l G (d + 1) R p e s m args below meth c Z a1 a2 a3 a4 a5 C hret H1 locs1 ls q3 q4 hL
set_option maxHeartbeats 1000000 in
theorem wp_callS {idx n : Nat} {as : List Vl} (hd : decode y.2.1 pc = .ok (.invokestatic idx, 3)) (hc : CSS y idx y2 n) (hn : as.length = n) (hst : S0 = as.reverse ++ S) (hw : wsum S ≤ 8) (hr : y2.2.2.2.2 + e1 + 1 ≤ y.2.2.2.2 + e0) (hcall : CL e1 0 0 none y2 as M R2)
    (h : ∀ v M2, R2 v M2 → retV y2 v → WPg e0 0 N2 none 200 60000 y (pc + 3) L (rpush y2 v S) M2 Q) : WPg e0 0 N2 none 200 60000 y pc L S0 M Q := by
  intro l G d R p e s m args below meth c Z a1 a2 a3 a4 a5 C hret H locs ls hH hS hL
  subst hst
  obtain ⟨d, rfl⟩ : ∃ k, d = k + 1 := ⟨d - 1, by omega⟩
  have C0 := C
  obtain ⟨hx, hb, -, hml, hown, hts, -, hK, -, -, hBs, -⟩ := C0
  obtain ⟨cb, c2⟩ := hc
  rw [show (as.reverse ++ S).map (cv G) = (as.map (cv G)).reverse ++ S.map (cv G) by rw [List.map_append, List.map_reverse]]
  have hM := hcall l G d (by omega)
  have hrun := va_runS (As := as.map (cv G)) (rest := S.map (cv G)) (g := F0 m pc ls ((as.map (cv G)).reverse ++ S.map (cv G))) (H := H) (locs := locs) (cells := 200) (slots := 60000) (e := e) (below := below) (meth := meth) (R := R) (n := n) ⟨hx, hb, hml, hown, hts⟩ hM ⟨callB_am cb hts a2 a3, hts _ c2⟩ ⟨PcG_blind _ _ _ _, fun U hU hW => PcG_at C hH hS U hU hW⟩ rfl (by rw [List.length_map]; exact hn) hL.1 rfl (by show 2 * 0 + _ ≤ 8; rw [wsum_eq]; omega) hd (by simp only [bcf] at a4 a5 ⊢; omega)
  refine call_end (b2 := none) (dd := d) hrun hS hBs (fun M2 H1 h1 => Or.inl (am_room0 hBs M2 H1 h1)) (fun v M2 H1 locs1 q1 q2 q3 q4 => ?_)
  exact h v M2 q1 q2 l G (d + 1) R p e s m args below meth c Z a1 a2 a3 a4 a5 C hret H1 locs1 ls q3 q4 hL
set_option maxHeartbeats 1000000 in
theorem wp_callI {idx n mc ms : Nat} {as : List Vl} {a : Int} (hd : decode y.2.1 pc = .ok (.invokespecial idx, 3)) (hc : CSI y idx y2 n) (ha : 0 ≤ a) (hn : as.length = n) (hst : S0 = as.reverse ++ Rv a :: S) (hw : wsum S ≤ 8) (hr : y2.2.2.2.2 + e1 + 1 ≤ y.2.2.2.2 + e0) (hroom : cc + mc ≤ (bcf b (y.2.2.2.2 + e0)).1 ∧ ss + ms ≤ (bcf b (y.2.2.2.2 + e0)).2) (hcall : CL e1 N N1 (some (mc, ms)) y2 (Rv a :: as) M R2)
    (h : ∀ v M2, R2 v M2 → WPg e0 N1 N2 b (cc + mc) (ss + ms) y (pc + 3) L S M2 Q) : WPg e0 N N2 b cc ss y pc L S0 M Q := by
  intro l G d R p e s m args below meth c Z a1 a2 a3 a4 a5 C hret H locs ls hH hS hL
  subst hst
  obtain ⟨d, rfl⟩ : ∃ k, d = k + 1 := ⟨d - 1, by omega⟩
  have C0 := C
  obtain ⟨hx, hb, -, hml, hown, hts, -, hK, -, -, hBs, -⟩ := C0
  obtain ⟨cb, c2, c3, c4⟩ := hc
  have hra : rfv G a = .ref (ra G a) := if_neg (by omega)
  have hstk : (as.reverse ++ Rv a :: S).map (cv G) = (as.map (cv G)).reverse ++ .ref (ra G a) :: S.map (cv G) := by
    rw [List.map_append, List.map_reverse, List.map_cons]
    show _ ++ rfv G a :: _ = _
    rw [hra]
  rw [hstk]
  have hM := hcall l G d (by omega)
  have hcb := callB_am (b := some (mc, ms)) (d := d) cb hts a2 a3
  rw [c4] at hcb
  obtain ⟨b1, b2⟩ := bcf_mono (b := b) a1
  have hrun := va_runI (b := ra G a) (As := as.map (cv G)) (rest := S.map (cv G)) (g := F0 m pc ls ((as.map (cv G)).reverse ++ .ref (ra G a) :: S.map (cv G))) (H := H) (locs := locs) (cells := cc) (slots := ss) (e := e) (below := below) (meth := meth) (R := R) (n := n) ⟨hx, hb, hml, hown, hts⟩ hM ⟨hcb, c2, hts _ c3⟩ ⟨PcG_blind _ _ _ _, fun U hU hW => by
      have := PcG_at (as := Rv a :: as) C hH hS U hU hW
      rw [List.map_cons, show cv G (Rv a) = .ref (ra G a) from hra] at this
      exact this⟩ rfl (by rw [List.length_map]; exact hn) hL.1 rfl (by show 2 * 0 + _ ≤ 8; rw [wsum_eq]; omega) hd (by show cc + mc ≤ R.cells ∧ ss + ms ≤ R.slots; omega)
  refine call_end (b2 := some (mc, ms)) (dd := d) (cc1 := cc + mc) (ss1 := ss + ms) hrun hS hBs (fun M2 H1 h1 => Or.inr ⟨Nat.le_refl _, Nat.le_refl _⟩) (fun v M2 H1 locs1 q1 q2 q3 q4 => ?_)
  have h2 := h v M2 q1 l G (d + 1) R p e s m args below meth c Z a1 a2 a3 a4 a5 C hret H1 locs1 ls q3 q4 hL
  rw [show rpush y2 v S = S by unfold rpush; rw [c4]]
  exact h2
theorem wp_objInit {idx : Nat} {a : Int} (hd : decode y.2.1 pc = .ok (.invokespecial idx, 3)) (hl : Cond.methodLink y.1.cls idx Lib.objectInit ∈ gtbl) (ha : 0 ≤ a) (hw : wsum S ≤ 8) (hr : 1 ≤ y.2.2.2.2 + e0) (h : WPg e0 N N2 b cc ss y (pc + 3) L S M Q) : WPg e0 N N2 b cc ss y pc L (Rv a :: S) M Q := by
  intro l G d R p e s m args below meth c Z a1 a2 a3 a4 a5 C hret H locs ls hH hS hL
  have C0 := C
  obtain ⟨hx, hb, -, hml, hown, hts, -⟩ := C0
  have hra : rfv G a = .ref (ra G a) := if_neg (by omega)
  show W p l e R s m args below meth c H locs cc ss Z (F0 m pc ls (rfv G a :: S.map (cv G)))
  rw [hra]
  refine W.objInit hx hb hown (hts _ hl) (hts _ objI1) (hts _ objI2) rfl (by rw [hml]; exact hL.1) rfl hd (by omega) (by show 2 * 0 + _ + 12 ≤ _; rw [wsum_eq]; omega) ?_
  exact h l G d R p e s m args below meth c Z a1 a2 a3 a4 a5 C hret H locs ls hH hS hL
theorem wp_mmax {idx : Nat} {x z : Int} (hd : decode y.2.1 pc = .ok (.invokestatic idx, 3)) (hl : Cond.methodLink y.1.cls idx Lib.Math.max.name ∈ gtbl) (hx1 : inr x) (hz1 : inr z) (hw : wsum S ≤ 8) (hr : 1 ≤ y.2.2.2.2 + e0) (hroom : cc ≤ (bcf b (y.2.2.2.2 + e0)).1 ∧ ss ≤ (bcf b (y.2.2.2.2 + e0)).2) (h : WPg e0 N N2 b cc ss y (pc + 3) L (Iv (if x < z then z else x) :: S) M Q) : WPg e0 N N2 b cc ss y pc L (Iv z :: Iv x :: S) M Q := by
  intro l G d R p e s m args below meth c Z a1 a2 a3 a4 a5 C hret H locs ls hH hS hL
  have C0 := C
  obtain ⟨hx, hb, -, hml, hown, hts, -⟩ := C0
  obtain ⟨b1, b2⟩ := bcf_mono (b := b) a1
  have h2 := h l G d R p e s m args below meth c Z a1 a2 a3 a4 a5 C hret H locs ls hH hS hL
  refine va_mmax hx hb (by rw [hml]; exact hL.1.symm) hown (hts _ hl) (hts _ mmax_s) (hts _ math_i) (hts _ mmax_c) (by omega) (by rw [wsum_eq]; omega) (by omega) (by omega) hd ?_
  have e9 : (if Int32.ofInt x < Int32.ofInt z then Int32.ofInt z else Int32.ofInt x) = Int32.ofInt (if x < z then z else x) := by
    by_cases q : x < z
    · rw [if_pos q, if_pos ((inr_lt hx1 hz1).mpr q)]
    · rw [if_neg q, if_neg (fun q2 => q ((inr_lt hx1 hz1).mp q2))]
  rw [e9]
  exact h2
theorem wp_mmin {idx : Nat} {x z : Int} (hd : decode y.2.1 pc = .ok (.invokestatic idx, 3)) (hl : Cond.methodLink y.1.cls idx Lib.Math.min.name ∈ gtbl) (hx1 : inr x) (hz1 : inr z) (hw : wsum S ≤ 8) (hr : 1 ≤ y.2.2.2.2 + e0) (hroom : cc ≤ (bcf b (y.2.2.2.2 + e0)).1 ∧ ss ≤ (bcf b (y.2.2.2.2 + e0)).2) (h : WPg e0 N N2 b cc ss y (pc + 3) L (Iv (if z < x then z else x) :: S) M Q) : WPg e0 N N2 b cc ss y pc L (Iv z :: Iv x :: S) M Q := by
  intro l G d R p e s m args below meth c Z a1 a2 a3 a4 a5 C hret H locs ls hH hS hL
  have C0 := C
  obtain ⟨hx, hb, -, hml, hown, hts, -⟩ := C0
  obtain ⟨b1, b2⟩ := bcf_mono (b := b) a1
  have h2 := h l G d R p e s m args below meth c Z a1 a2 a3 a4 a5 C hret H locs ls hH hS hL
  refine va_mmin hx hb (by rw [hml]; exact hL.1.symm) hown (hts _ hl) (hts _ mmin_s) (hts _ math_i) (hts _ mmin_c) (by omega) (by rw [wsum_eq]; omega) (by omega) (by omega) hd ?_
  have e9 : (if Int32.ofInt z < Int32.ofInt x then Int32.ofInt z else Int32.ofInt x) = Int32.ofInt (if z < x then z else x) := by
    by_cases q : z < x
    · rw [if_pos q, if_pos ((inr_lt hz1 hx1).mpr q)]
    · rw [if_neg q, if_neg (fun q2 => q ((inr_lt hz1 hx1).mp q2))]
  rw [e9]
  exact h2
end RW2
