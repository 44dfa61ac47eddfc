def dfl (c : Nat) (k : Int) : Int := match tyF c k.toNat with
  | .object _ => -1
  | .array _ => -1
  | _ => 0
theorem eff_pos {N : Int} (hN : 1 ≤ N) (M : Mem) : eff N M = M := by
  funext a k
  unfold eff
  rw [if_neg (by omega)]
theorem SC.setA1 {G : Gx} {M : Mem} (h : SC G M) {a : Int} {f : Int → Int} (ha : 1 ≤ a) : SC G (setA M a f) := by
  have e1 : setA M a f (-2) = M (-2) := if_neg (by omega)
  have e2 : setA M a f 0 = M 0 := if_neg (by omega)
  exact ⟨by rw [e1]; exact h.1, fun j hj => by rw [e2]; exact h.2 j hj⟩
theorem HR.push {G : Gx} {N : Int} {M : Mem} {H H1 : Heap} (h : HR G N M H) (hN : 1 ≤ N) (f : Int → Int) {cell : Cell} (hc : cellOk G (setA M N f) N cell) (h1 : H1[H.size]? = some cell) (z : H1.size = H.size + 1) (ho : ∀ q, q < H.size → H1[q]? = H[q]?) : HR G (N + 1) (setA M N f) H1 := by
  have e1 : cnt N M = N.toNat - 1 := by unfold cnt; rw [if_neg (by omega)]
  have e2 : cnt (N + 1) (setA M N f) = N.toNat := by unfold cnt; rw [if_neg (by omega)]; omega
  have e3 := h.1
  rw [e1] at e3
  refine ⟨by rw [z, e3, e2]; omega, fun k hk => ?_, h.2.2.setA1 hN⟩
  rw [e2] at hk
  rw [eff_pos (by omega)]
  by_cases hkN : k = N.toNat - 1
  · subst hkN
    rw [show ((N.toNat - 1 : Nat) : Int) + 1 = N by omega, ← e3]
    exact ⟨cell, h1, hc⟩
  · obtain ⟨cl, q1, q2⟩ := h.2.1 k (by rw [e1]; omega)
    refine ⟨cl, by rw [ho _ (by rw [e3]; omega)]; exact q1, ?_⟩
    rw [eff_pos hN] at q2
    have e4 : setA M N f ((k : Int) + 1) = M ((k : Int) + 1) := if_neg (by omega)
    unfold cellOk
    rw [e4]
    exact q2
theorem vaS_push {A : Nat → Prop} {H0 H H1 : Heap} {locs : List Loc} (hS : va_S A H0 H locs) (z : H1.size = H.size + 1) (ho : ∀ q, q < H.size → H1[q]? = H[q]?) : va_S A H0 H1 locs := ⟨Nat.le_trans hS.1 (by omega), fun q h1 h2 => (ho q (Nat.lt_of_lt_of_le h1 hS.1)).trans (hS.2.1 q h1 h2), hS.2.2⟩
theorem cf_dfl (G : Gx) (c : Nat) (k : Nat) (h : okst (tyF c k) 0 ∨ tyF c k = .boolean) : cf G (tyF c k) (dfl c k) = defaultValue (tyF c k) := by
  unfold dfl
  rw [show ((k : Int)).toNat = k from rfl]
  cases ht : tyF c k with
  | int => rfl
  | long => rfl
  | boolean => rfl
  | array t => rfl
  | object t => rfl
  | _ => rw [ht] at h; rcases h with h | h <;> cases h
theorem cpy_arr {M : Mem} {N a : Int} {c n : Nat} {G : Gx} {f : Int → Int} (hs : sg a = (c, n)) (h1 : 20 ≤ c) (h2 : c ≤ 25) : cellOk G (setA M a f) a (arrV (gA G c) n (fun j => cf G (aty c) (f j))) := by
  refine Or.inr ⟨by rw [hs]; exact h1, by rw [hs]; exact h2, ?_⟩
  rw [hs, show setA M a f a = f from if_pos rfl]
theorem HR.setArr {G : Gx} {N : Int} {M : Mem} {H H1 : Heap} (h : HR G N M H) {a : Int} {n : Nat} {f : Int → Int} (hk : kd N M a = 20) (hn : (sg a).2 = n) (h1 : H1[ra G a]? = some (arrV (gA G 20) n (fun j => cf G .int (f j)))) (hz : H1.size = H.size) (ho : ∀ q, q ≠ ra G a → H1[q]? = H[q]?) : HR G N (setA M a f) H1 := by
  obtain ⟨h3, h4, h5⟩ := kd_spec hk (by omega)
  have e : ra G a = gB G + (a.toNat - 1) := (h.at hk (by omega)).1
  have ec : cnt N (setA M a f) = cnt N M := by unfold cnt; rw [show setA M a f (-1) = M (-1) from if_neg (by omega)]
  refine ⟨by rw [hz, h.1, ec], fun q hq => ?_, h.2.2.setA1 h3⟩
  rw [ec] at hq
  by_cases hqa : q = a.toNat - 1
  · subst hqa
    have e2 : ((a.toNat - 1 : Nat) : Int) + 1 = a := by omega
    rw [e2, ← e]
    refine ⟨_, h1, Or.inr ⟨by rw [h5]; decide, by rw [h5]; decide, ?_⟩⟩
    rw [h5, hn]
    congr 1
    funext j
    show cf G .int _ = cf G .int _
    congr 1
    unfold eff
    rw [h5]
    rw [show setA M a f a = f from if_pos rfl]
    split <;> rfl
  · obtain ⟨cl, q1, q2⟩ := h.2.1 q hq
    refine ⟨cl, by rw [ho _ (by omega)]; exact q1, ?_⟩
    have heq' : eff N (setA M a f) ((q : Int) + 1) = eff N M ((q : Int) + 1) := by
      funext j
      unfold eff
      rw [show setA M a f ((q : Int) + 1) = M ((q : Int) + 1) from if_neg (by omega)]
    unfold cellOk
    rw [heq']
    exact q2
theorem HR.table {G : Gx} {M : Mem} {H H1 : Heap} (h : HR G 0 M H) (hm : M (-1) 0 ≠ 1) (h1 : H1[H.size]? = some (arrV (gA G 20) 20000 (fun _ => .int 0))) (z : H1.size = H.size + 1) (ho : ∀ q, q < H.size → H1[q]? = H[q]?) : HR G 0 (up (setA M 120 (fun _ => 0)) (-1) 0 1) H1 ∧ ra G 120 = H.size := by
  have e1 : cnt 0 M = 119 := by unfold cnt; rw [if_pos rfl, if_neg hm]
  have e2 : cnt 0 (up (setA M 120 (fun _ => 0)) (-1) 0 1) = 120 := rfl
  have e3 := h.1
  rw [e1] at e3
  refine ⟨⟨by rw [z, e3, e2], fun k hk => ?_, ?_⟩, by rw [e3]; rfl⟩
  · rw [e2] at hk
    by_cases hkN : k = 119
    · subst hkN
      rw [← e3]
      exact ⟨_, h1, Or.inr ⟨by decide, by decide, rfl⟩⟩
    · obtain ⟨cl, q1, q2⟩ := h.2.1 k (by rw [e1]; omega)
      refine ⟨cl, by rw [ho _ (by rw [e3]; omega)]; exact q1, ?_⟩
      have e4 : eff 0 (up (setA M 120 (fun _ => 0)) (-1) 0 1) ((k : Int) + 1) = eff 0 M ((k : Int) + 1) := by
        funext j
        unfold eff up setA
        rw [if_neg (show ¬ ((k : Int) + 1 = -1 ∧ j = 0) by omega), if_neg (show ¬ ((k : Int) + 1 = 120) by omega)]
      unfold cellOk
      rw [e4]
      exact q2
  · obtain ⟨s1, s2⟩ := h.2.2
    refine ⟨s1, s2⟩

section RW3
variable {e0 e1 : Nat} {N N1 N2 : Int} {b : Option (Nat × Nat)} {cc ss : Nat} {y y2 : Yx} {pc : Nat} {L : Lx} {S S0 : List Vl} {M : Mem} {Q R2 : Vl → Mem → Prop}
theorem wp_new {idx cl : Nat} (hd : decode y.2.1 pc = .ok (.new idx, 3)) (hcl : cl < 13) (hl : Cond.classLink y.1.cls idx (clT cl).1 ∈ gtbl) (hi : Cond.instantiable (clT cl).1 (clT cl).2.2 ∈ gtbl) (hi2 : Cond.initialized (clT cl).1 ∈ gtbl) (hN : 1 ≤ N) (hs : (sg N).1 = cl) (hty : ∀ k, k < (clT cl).2.2 → okst (tyF cl k) 0) (hroom : cc + 1 ≤ (bcf b (y.2.2.2.2 + e0)).1 ∧ ss + (clT cl).2.2 ≤ (bcf b (y.2.2.2.2 + e0)).2)
    (h : WPg e0 (N + 1) N2 b (cc + 1) (ss + (clT cl).2.2) y (pc + 3) L (Rv N :: S) (setA M N (dfl cl)) Q) : WPg e0 N N2 b cc ss y pc L S M Q := by
  intro l G d R p e s m args below meth c Z a1 a2 a3 a4 a5 C hret H locs ls hH hS hL
  have C0 := C
  obtain ⟨hx, hb, -, hml, hown, hts, -, hK, -⟩ := C0
  obtain ⟨b1, b2⟩ := bcf_mono (b := b) a1
  refine W.newc hx hb hown (hts _ hl) (hts _ hi) (hts _ hi2) rfl hd (by omega) (by omega) (fun cC kC h1 h2 h3 h4 => ?_)
  obtain ⟨hS0, hfc, kC2, hkC2, hkind⟩ := hK.1 cl _ (clC cl hcl)
  cases h1.symm.trans hfc
  cases h2.symm.trans hkC2
  generalize hH1 : H.push { cls := (gD G).1 cl, slots := kC.instanceTypes.map defaultValue, vm := .none } = H1
  have z1 : H1.size = H.size + 1 := by rw [← hH1, Array.size_push]
  have w1 : H1[H.size]? = some { cls := (gD G).1 cl, slots := kC.instanceTypes.map defaultValue, vm := .none } := by rw [← hH1, Array.getElem?_push_size]
  have o1 : ∀ q, q < H.size → H1[q]? = H[q]? := fun q hq => by rw [← hH1, Array.getElem?_push, if_neg (Nat.ne_of_lt hq)]
  have hck : cellOk G (setA M N (dfl cl)) N { cls := (gD G).1 cl, slots := kC.instanceTypes.map defaultValue, vm := .none } := by
    refine Or.inl ⟨by rw [hs]; exact hcl, ?_⟩
    rw [hs]
    refine ⟨rfl, rfl, by show (kC.instanceTypes.map defaultValue).size = _; rw [Array.size_map, h4]; rfl, fun k hk => ?_⟩
    obtain ⟨cf0, kf, fi, f, hi9, hsl⟩ := hS0 k hk
    have h5 := (u_facts hfc h2 (u_lays hts (inC cl hcl) hk) hi9).2.2
    rw [(State.fieldFound?_type hi9 (tyC cl hcl k hk)).2] at h5
    rw [show setA M N (dfl cl) N = dfl cl from if_pos rfl, cf_dfl G cl k (Or.inl (hty k hk)), ← hsl]
    exact k2_blank (cC := (gD G).1 cl) h5
  have hra : rfv G N = .ref H.size := by
    have e3 := hH.1
    unfold cnt at e3
    rw [if_neg (by omega)] at e3
    unfold rfv ra
    rw [if_neg (by omega), if_neg (by omega), e3]
  have h9 := h l G d R p e s m args below meth c Z a1 a2 a3 a4 a5 C hret H1 locs ls (hH.push hN _ hck w1 z1 o1) (vaS_push hS z1 o1) hL
  rw [show (Rv N :: S).map (cv G) = .ref H.size :: S.map (cv G) by rw [List.map_cons]; show rfv G N :: _ = _; rw [hra]] at h9
  exact h9
theorem wp_newI {n : Nat} (hd : decode y.2.1 pc = .ok (.newarray .int, 2)) (hN : 1 ≤ N) (hs : sg N = (20, n)) (hn : n < 100000) (hroom : cc + 1 ≤ (bcf b (y.2.2.2.2 + e0)).1 ∧ ss + n ≤ (bcf b (y.2.2.2.2 + e0)).2)
    (h : WPg e0 (N + 1) N2 b (cc + 1) (ss + n) y (pc + 2) L (Rv N :: S) (setA M N (fun _ => 0)) Q) : WPg e0 N N2 b cc ss y pc L (Iv n :: S) M Q := by
  intro l G d R p e s m args below meth c Z a1 a2 a3 a4 a5 C hret H locs ls hH hS hL
  have C0 := C
  obtain ⟨hx, hb, -, hml, hown, hts, -, hK, -⟩ := C0
  obtain ⟨b1, b2⟩ := bcf_mono (b := b) a1
  have hin : inr (n : Int) := by constructor <;> omega
  refine va_newaK (N := n) hx hb (hts _ (tb_in 54 (by decide +kernel) rfl)) rfl hd rfl (by rw [inr_0, inr_lt hin inr_i0]; omega) (by rw [inr_cl hin]; rfl) (by show n * componentBytes .int ≤ 536870912; simp only [componentBytes]; omega) (by omega) (by omega) rfl fun H1 cA w1 z1 o1 hAr hNm => ?_
  have hcA : cA = gA G 20 := Option.some.inj (hNm.symm.trans (hK.2 0 _ rfl).2)
  subst hcA
  have hck : cellOk G (setA M N (fun _ => 0)) N (arrV (gA G 20) n (fun _ => defaultValue .int)) := cpy_arr (N := N) (f := fun _ => 0) hs (by decide) (by decide)
  have hra : rfv G N = .ref H.size := by
    have e3 := hH.1
    unfold cnt at e3
    rw [if_neg (by omega)] at e3
    unfold rfv ra
    rw [if_neg (by omega), if_neg (by omega), e3]
  have h9 := h l G d R p e s m args below meth c Z a1 a2 a3 a4 a5 C hret H1 locs ls (hH.push hN _ hck w1 z1 o1) (vaS_push hS z1 o1) hL
  rw [show (Rv N :: S).map (cv G) = .ref H.size :: S.map (cv G) by rw [List.map_cons]; show rfv G N :: _ = _; rw [hra]] at h9
  exact h9
theorem wp_newJ {n : Nat} (hd : decode y.2.1 pc = .ok (.newarray .long, 2)) (hN : 1 ≤ N) (hs : sg N = (21, n)) (hn : n < 100000) (hroom : cc + 1 ≤ (bcf b (y.2.2.2.2 + e0)).1 ∧ ss + n ≤ (bcf b (y.2.2.2.2 + e0)).2)
    (h : WPg e0 (N + 1) N2 b (cc + 1) (ss + n) y (pc + 2) L (Rv N :: S) (setA M N (fun _ => 0)) Q) : WPg e0 N N2 b cc ss y pc L (Iv n :: S) M Q := by
  intro l G d R p e s m args below meth c Z a1 a2 a3 a4 a5 C hret H locs ls hH hS hL
  have C0 := C
  obtain ⟨hx, hb, -, hml, hown, hts, -, hK, -⟩ := C0
  obtain ⟨b1, b2⟩ := bcf_mono (b := b) a1
  have hin : inr (n : Int) := by constructor <;> omega
  refine va_newaK (N := n) hx hb (hts _ (tb_in 76 (by decide +kernel) rfl)) rfl hd rfl (by rw [inr_0, inr_lt hin inr_i0]; omega) (by rw [inr_cl hin]; rfl) (by show n * componentBytes .long ≤ 536870912; simp only [componentBytes]; omega) (by omega) (by omega) rfl fun H1 cA w1 z1 o1 hAr hNm => ?_
  have hcA : cA = gA G 21 := Option.some.inj (hNm.symm.trans (hK.2 1 _ rfl).2)
  subst hcA
  have hck : cellOk G (setA M N (fun _ => 0)) N (arrV (gA G 21) n (fun _ => defaultValue .long)) := cpy_arr (N := N) (f := fun _ => 0) hs (by decide) (by decide)
  have hra : rfv G N = .ref H.size := by
    have e3 := hH.1
    unfold cnt at e3
    rw [if_neg (by omega)] at e3
    unfold rfv ra
    rw [if_neg (by omega), if_neg (by omega), e3]
  have h9 := h l G d R p e s m args below meth c Z a1 a2 a3 a4 a5 C hret H1 locs ls (hH.push hN _ hck w1 z1 o1) (vaS_push hS z1 o1) hL
  rw [show (Rv N :: S).map (cv G) = .ref H.size :: S.map (cv G) by rw [List.map_cons]; show rfv G N :: _ = _; rw [hra]] at h9
  exact h9
theorem wp_newB {n : Nat} (hd : decode y.2.1 pc = .ok (.newarray .byte, 2)) (hN : 1 ≤ N) (hs : sg N = (22, n)) (hn : n < 100000) (hroom : cc + 1 ≤ (bcf b (y.2.2.2.2 + e0)).1 ∧ ss + n ≤ (bcf b (y.2.2.2.2 + e0)).2)
    (h : WPg e0 (N + 1) N2 b (cc + 1) (ss + n) y (pc + 2) L (Rv N :: S) (setA M N (fun _ => 0)) Q) : WPg e0 N N2 b cc ss y pc L (Iv n :: S) M Q := by
  intro l G d R p e s m args below meth c Z a1 a2 a3 a4 a5 C hret H locs ls hH hS hL
  have C0 := C
  obtain ⟨hx, hb, -, hml, hown, hts, -, hK, -⟩ := C0
  obtain ⟨b1, b2⟩ := bcf_mono (b := b) a1
  have hin : inr (n : Int) := by constructor <;> omega
  refine va_newaK (N := n) hx hb (hts _ (tb_in 1064 (by decide +kernel) rfl)) rfl hd rfl (by rw [inr_0, inr_lt hin inr_i0]; omega) (by rw [inr_cl hin]; rfl) (by show n * componentBytes .byte ≤ 536870912; simp only [componentBytes]; omega) (by omega) (by omega) rfl fun H1 cA w1 z1 o1 hAr hNm => ?_
  have hcA : cA = gA G 22 := Option.some.inj (hNm.symm.trans (hK.2 2 _ rfl).2)
  subst hcA
  have hck : cellOk G (setA M N (fun _ => 0)) N (arrV (gA G 22) n (fun _ => defaultValue .byte)) := cpy_arr (N := N) (f := fun _ => 0) hs (by decide) (by decide)
  have hra : rfv G N = .ref H.size := by
    have e3 := hH.1
    unfold cnt at e3
    rw [if_neg (by omega)] at e3
    unfold rfv ra
    rw [if_neg (by omega), if_neg (by omega), e3]
  have h9 := h l G d R p e s m args below meth c Z a1 a2 a3 a4 a5 C hret H1 locs ls (hH.push hN _ hck w1 z1 o1) (vaS_push hS z1 o1) hL
  rw [show (Rv N :: S).map (cv G) = .ref H.size :: S.map (cv G) by rw [List.map_cons]; show rfv G N :: _ = _; rw [hra]] at h9
  exact h9
theorem wp_newZ {n : Nat} (hd : decode y.2.1 pc = .ok (.newarray .boolean, 2)) (hN : 1 ≤ N) (hs : sg N = (23, n)) (hn : n < 100000) (hroom : cc + 1 ≤ (bcf b (y.2.2.2.2 + e0)).1 ∧ ss + n ≤ (bcf b (y.2.2.2.2 + e0)).2)
    (h : WPg e0 (N + 1) N2 b (cc + 1) (ss + n) y (pc + 2) L (Rv N :: S) (setA M N (fun _ => 0)) Q) : WPg e0 N N2 b cc ss y pc L (Iv n :: S) M Q := by
  intro l G d R p e s m args below meth c Z a1 a2 a3 a4 a5 C hret H locs ls hH hS hL
  have C0 := C
  obtain ⟨hx, hb, -, hml, hown, hts, -, hK, -⟩ := C0
  obtain ⟨b1, b2⟩ := bcf_mono (b := b) a1
  have hin : inr (n : Int) := by constructor <;> omega
  refine va_newaK (N := n) hx hb (hts _ (tb_in 1065 (by decide +kernel) rfl)) rfl hd rfl (by rw [inr_0, inr_lt hin inr_i0]; omega) (by rw [inr_cl hin]; rfl) (by show n * componentBytes .boolean ≤ 536870912; simp only [componentBytes]; omega) (by omega) (by omega) rfl fun H1 cA w1 z1 o1 hAr hNm => ?_
  have hcA : cA = gA G 23 := Option.some.inj (hNm.symm.trans (hK.2 3 _ rfl).2)
  subst hcA
  have hck : cellOk G (setA M N (fun _ => 0)) N (arrV (gA G 23) n (fun _ => defaultValue .boolean)) := cpy_arr (N := N) (f := fun _ => 0) hs (by decide) (by decide)
  have hra : rfv G N = .ref H.size := by
    have e3 := hH.1
    unfold cnt at e3
    rw [if_neg (by omega)] at e3
    unfold rfv ra
    rw [if_neg (by omega), if_neg (by omega), e3]
  have h9 := h l G d R p e s m args below meth c Z a1 a2 a3 a4 a5 C hret H1 locs ls (hH.push hN _ hck w1 z1 o1) (vaS_push hS z1 o1) hL
  rw [show (Rv N :: S).map (cv G) = .ref H.size :: S.map (cv G) by rw [List.map_cons]; show rfv G N :: _ = _; rw [hra]] at h9
  exact h9
theorem wp_newT (hd : decode y.2.1 pc = .ok (.newarray .int, 2)) (hm : M (-1) 0 ≠ 1) (hr : 2 ≤ y.2.2.2.2 + e0)
    (h : WPg e0 0 N2 none 200 60000 y (pc + 2) L (Rv 120 :: S) (up (setA M 120 (fun _ => 0)) (-1) 0 1) Q) : WPg e0 0 N2 none 200 60000 y pc L (Iv 20000 :: S) M Q := by
  intro l G d R p e s m args below meth c Z a1 a2 a3 a4 a5 C hret H locs ls hH hS hL
  have C0 := C
  obtain ⟨hx, hb, -, hml, hown, hts, -, hK, -, -, hBs, -⟩ := C0
  obtain ⟨b1, b2⟩ := bcf_mono (b := none) a1
  simp only [bcf] at a4 a5
  have hin : inr (20000 : Int) := by decide
  refine va_newaK (N := 20000) hx hb (hts _ (tb_in 54 (by decide +kernel) rfl)) rfl hd rfl (by rw [inr_0]; show ¬ Int32.ofInt 20000 < Int32.ofInt 0; rw [inr_lt hin inr_i0]; omega) rfl (by decide) (by omega) (by omega) rfl fun H1 cA w1 z1 o1 hAr hNm => ?_
  have hcA : cA = gA G 20 := Option.some.inj (hNm.symm.trans (hK.2 0 _ rfl).2)
  subst hcA
  obtain ⟨hH1, hra⟩ := hH.table hm w1 z1 o1
  have h9 := h l G d R p e s m args below meth c Z a1 a2 a3 (by simp only [bcf]; omega) (by simp only [bcf]; omega) C hret H1 locs ls hH1 (vaS_push hS z1 o1) hL
  rw [show (Rv 120 :: S).map (cv G) = .ref H.size :: S.map (cv G) by rw [List.map_cons]; show Value.ref (ra G 120) :: _ = _; rw [hra]] at h9
  obtain ⟨r1, r2⟩ := am_room0 hBs _ _ hH1
  exact W.tight r1 r2 h9
theorem wp_anewL {idx n : Nat} (hd : decode y.2.1 pc = .ok (.anewarray idx, 3)) (hl : Cond.classLink y.1.cls idx RX3 ∈ gtbl) (hN : 1 ≤ N) (hs : sg N = (24, n)) (hn : n < 100000) (hroom : cc + 1 ≤ (bcf b (y.2.2.2.2 + e0)).1 ∧ ss + n ≤ (bcf b (y.2.2.2.2 + e0)).2)
    (h : WPg e0 (N + 1) N2 b (cc + 1) (ss + n) y (pc + 3) L (Rv N :: S) (setA M N (fun _ => -1)) Q) : WPg e0 N N2 b cc ss y pc L (Iv n :: S) M Q := by
  intro l G d R p e s m args below meth c Z a1 a2 a3 a4 a5 C hret H locs ls hH hS hL
  have C0 := C
  obtain ⟨hx, hb, -, hml, hown, hts, -, hK, -, -, -, -, hA3, hA10⟩ := C0
  obtain ⟨b1, b2⟩ := bcf_mono (b := b) a1
  have hin : inr (n : Int) := by constructor <;> omega
  have hcl : (Int32.ofInt n).toNatClampNeg = n := by rw [inr_cl hin]; rfl
  refine W.anew hx hb hown (hts _ hl) (va_AO.use hA3) rfl hd rfl (by rw [inr_0, inr_lt hin inr_i0]; omega) (by rw [hcl]; omega) (by omega) (by rw [hcl]; omega) fun cA kA comp f1 f2 f3 f4 => ?_
  rw [hcl, arrV_new]
  have hcA : cA = gA G 24 := by
    obtain ⟨kA2, comp2, -, -, -, g4⟩ := (hK.2 4 _ rfl).2
    exact Option.some.inj (f1.symm.trans g4)
  subst hcA
  generalize hH1 : H.push (arrV (gA G 24) n (fun _ => .null)) = H1
  have z1 : H1.size = H.size + 1 := by rw [← hH1, Array.size_push]
  have w1 : H1[H.size]? = some (arrV (gA G 24) n (fun _ => .null)) := by rw [← hH1, Array.getElem?_push_size]
  have o1 : ∀ q, q < H.size → H1[q]? = H[q]? := fun q hq => by rw [← hH1, Array.getElem?_push, if_neg (Nat.ne_of_lt hq)]
  have hck : cellOk G (setA M N (fun _ => -1)) N (arrV (gA G 24) n (fun _ => .null)) := cpy_arr (N := N) (f := fun _ => -1) hs (by decide) (by decide)
  have hra : rfv G N = .ref H.size := by
    have e3 := hH.1
    unfold cnt at e3
    rw [if_neg (by omega)] at e3
    unfold rfv ra
    rw [if_neg (by omega), if_neg (by omega), e3]
  have h9 := h l G d R p e s m args below meth c Z a1 a2 a3 a4 a5 C hret H1 locs ls (hH.push hN _ hck w1 z1 o1) (vaS_push hS z1 o1) hL
  rw [show (Rv N :: S).map (cv G) = .ref H.size :: S.map (cv G) by rw [List.map_cons]; show rfv G N :: _ = _; rw [hra]] at h9
  exact h9
theorem wp_anewW {idx n : Nat} (hd : decode y.2.1 pc = .ok (.anewarray idx, 3)) (hl : Cond.classLink y.1.cls idx RX10 ∈ gtbl) (hN : 1 ≤ N) (hs : sg N = (25, n)) (hn : n < 100000) (hroom : cc + 1 ≤ (bcf b (y.2.2.2.2 + e0)).1 ∧ ss + n ≤ (bcf b (y.2.2.2.2 + e0)).2)
    (h : WPg e0 (N + 1) N2 b (cc + 1) (ss + n) y (pc + 3) L (Rv N :: S) (setA M N (fun _ => -1)) Q) : WPg e0 N N2 b cc ss y pc L (Iv n :: S) M Q := by
  intro l G d R p e s m args below meth c Z a1 a2 a3 a4 a5 C hret H locs ls hH hS hL
  have C0 := C
  obtain ⟨hx, hb, -, hml, hown, hts, -, hK, -, -, -, -, hA3, hA10⟩ := C0
  obtain ⟨b1, b2⟩ := bcf_mono (b := b) a1
  have hin : inr (n : Int) := by constructor <;> omega
  have hcl : (Int32.ofInt n).toNatClampNeg = n := by rw [inr_cl hin]; rfl
  refine W.anew hx hb hown (hts _ hl) (va_AO.use hA10) rfl hd rfl (by rw [inr_0, inr_lt hin inr_i0]; omega) (by rw [hcl]; omega) (by omega) (by rw [hcl]; omega) fun cA kA comp f1 f2 f3 f4 => ?_
  rw [hcl, arrV_new]
  have hcA : cA = gA G 25 := by
    obtain ⟨kA2, comp2, -, -, -, g4⟩ := (hK.2 5 _ rfl).2
    exact Option.some.inj (f1.symm.trans g4)
  subst hcA
  generalize hH1 : H.push (arrV (gA G 25) n (fun _ => .null)) = H1
  have z1 : H1.size = H.size + 1 := by rw [← hH1, Array.size_push]
  have w1 : H1[H.size]? = some (arrV (gA G 25) n (fun _ => .null)) := by rw [← hH1, Array.getElem?_push_size]
  have o1 : ∀ q, q < H.size → H1[q]? = H[q]? := fun q hq => by rw [← hH1, Array.getElem?_push, if_neg (Nat.ne_of_lt hq)]
  have hck : cellOk G (setA M N (fun _ => -1)) N (arrV (gA G 25) n (fun _ => .null)) := cpy_arr (N := N) (f := fun _ => -1) hs (by decide) (by decide)
  have hra : rfv G N = .ref H.size := by
    have e3 := hH.1
    unfold cnt at e3
    rw [if_neg (by omega)] at e3
    unfold rfv ra
    rw [if_neg (by omega), if_neg (by omega), e3]
  have h9 := h l G d R p e s m args below meth c Z a1 a2 a3 a4 a5 C hret H1 locs ls (hH.push hN _ hck w1 z1 o1) (vaS_push hS z1 o1) hL
  rw [show (Rv N :: S).map (cv G) = .ref H.size :: S.map (cv G) by rw [List.map_cons]; show rfv G N :: _ = _; rw [hra]] at h9
  exact h9
theorem wp_aastL {a i v : Int} {n : Nat} (hd : decode y.2.1 pc = .ok (.aastore, 1)) (hk : kd N M a = 24) (hv : kd N M v = 3) (hn : (sg a).2 = n) (hi : 0 ≤ i) (hi2 : i < n) (hin : inr i) (hfo : N = 0 → fok 24 a i = none) (h : WPg e0 N N2 b cc ss y (pc + 1) L S (up M a i v) Q) : WPg e0 N N2 b cc ss y pc L (Rv v :: Iv i :: Rv a :: S) M Q := by
  intro l G d R p e s m args below meth c Z a1 a2 a3 a4 a5 C hret H locs ls hH hS hL
  obtain ⟨g1, g2, g3⟩ := kd_spec hk (by omega)
  obtain ⟨v1, v2, v3⟩ := kd_spec hv (by omega)
  have hra : rfv G a = .ref (ra G a) := if_neg (by omega)
  have hrv : rfv G v = .ref (ra G v) := if_neg (by omega)
  obtain ⟨e1, cell, hc1, hc2⟩ := hH.at hk (by omega)
  obtain ⟨e2, cellv, hw1, hw2⟩ := hH.at hv (by omega)
  obtain ⟨u1, u2, u3, u4⟩ := hw2.obj v3 (by omega)
  have q1 := hc2.arr g3 (by omega)
  rw [hn] at q1
  subst q1
  have C0 := C
  obtain ⟨hx, hb, -, -, hown, hts, -, hK, -⟩ := C0
  have hcls := (hK.1 3 _ rfl).2
  obtain ⟨kA, comp, k1, k2, k3, -⟩ := (hK.2 4 _ rfl).2
  have hcomp : comp = (gD G).1 3 := Option.some.inj (k3.symm.trans hcls.1)
  subst hcomp
  obtain ⟨kC, hkC, -⟩ := hcls.2
  show W p l e R s m args below meth c H locs cc ss Z (F0 m pc ls (rfv G v :: .int (Int32.ofInt i) :: rfv G a :: S.map (cv G)))
  rw [hra, hrv]
  have hsg : sg a = (24, n) := by rw [← g3, ← hn]
  refine W.aast hx hb hc1 (fun q h => by cases h) (fun h => by cases h) k1 k2 rfl hkC ⟨by rw [inr_0, inr_lt hin inr_i0]; omega, by rw [arrV_size, inr_cl hin]; omega⟩ hw1 (fun q h => by rw [u2] at h; cases h) (by rw [u1]; exact hkC) (by rw [u1]; exact va_assign hcls) rfl rfl hd fun H1 w1 z oq => ?_
  rw [inr_cl hin, ← hrv] at w1
  exact h l G d R p e s m args below meth c Z a1 a2 a3 a4 a5 C hret H1 _ ls (hH.put hk (by omega) hfo w1 z oq (cellOk_put hsg (by omega) (by omega) hfo hi)) (vaS_put hS z oq (by show gB G ≤ ra G a; rw [(hH.at hk (by omega)).1]; exact Nat.le_add_right _ _)) hL
theorem wp_aastW {a i v : Int} {n : Nat} (hd : decode y.2.1 pc = .ok (.aastore, 1)) (hk : kd N M a = 25) (hv : kd N M v = 10) (hn : (sg a).2 = n) (hi : 0 ≤ i) (hi2 : i < n) (hin : inr i) (hfo : N = 0 → fok 25 a i = none) (h : WPg e0 N N2 b cc ss y (pc + 1) L S (up M a i v) Q) : WPg e0 N N2 b cc ss y pc L (Rv v :: Iv i :: Rv a :: S) M Q := by
  intro l G d R p e s m args below meth c Z a1 a2 a3 a4 a5 C hret H locs ls hH hS hL
  obtain ⟨g1, g2, g3⟩ := kd_spec hk (by omega)
  obtain ⟨v1, v2, v3⟩ := kd_spec hv (by omega)
  have hra : rfv G a = .ref (ra G a) := if_neg (by omega)
  have hrv : rfv G v = .ref (ra G v) := if_neg (by omega)
  obtain ⟨e1, cell, hc1, hc2⟩ := hH.at hk (by omega)
  obtain ⟨e2, cellv, hw1, hw2⟩ := hH.at hv (by omega)
  obtain ⟨u1, u2, u3, u4⟩ := hw2.obj v3 (by omega)
  have q1 := hc2.arr g3 (by omega)
  rw [hn] at q1
  subst q1
  have C0 := C
  obtain ⟨hx, hb, -, -, hown, hts, -, hK, -⟩ := C0
  have hcls := (hK.1 10 _ rfl).2
  obtain ⟨kA, comp, k1, k2, k3, -⟩ := (hK.2 5 _ rfl).2
  have hcomp : comp = (gD G).1 10 := Option.some.inj (k3.symm.trans hcls.1)
  subst hcomp
  obtain ⟨kC, hkC, -⟩ := hcls.2
  show W p l e R s m args below meth c H locs cc ss Z (F0 m pc ls (rfv G v :: .int (Int32.ofInt i) :: rfv G a :: S.map (cv G)))
  rw [hra, hrv]
  have hsg : sg a = (25, n) := by rw [← g3, ← hn]
  refine W.aast hx hb hc1 (fun q h => by cases h) (fun h => by cases h) k1 k2 rfl hkC ⟨by rw [inr_0, inr_lt hin inr_i0]; omega, by rw [arrV_size, inr_cl hin]; omega⟩ hw1 (fun q h => by rw [u2] at h; cases h) (by rw [u1]; exact hkC) (by rw [u1]; exact va_assign hcls) rfl rfl hd fun H1 w1 z oq => ?_
  rw [inr_cl hin, ← hrv] at w1
  exact h l G d R p e s m args below meth c Z a1 a2 a3 a4 a5 C hret H1 _ ls (hH.put hk (by omega) hfo w1 z oq (cellOk_put hsg (by omega) (by omega) hfo hi)) (vaS_put hS z oq (by show gB G ≤ ra G a; rw [(hH.at hk (by omega)).1]; exact Nat.le_add_right _ _)) hL
theorem wp_nonnull {a off : Int} {tgt : Nat} (hd : decode y.2.1 pc = .ok (.ifnonnull off, 3)) (ht : (pc : Int) + off = (tgt : Int)) (ha : 0 ≤ a) (h : WPg e0 N N2 b cc ss y tgt L S M Q) : WPg e0 N N2 b cc ss y pc L (Rv a :: S) M Q := by
  intro l G d R p e s m args below meth c Z a1 a2 a3 a4 a5 C hret H locs ls hH hS hL
  have h9 := h l G d R p e s m args below meth c Z a1 a2 a3 a4 a5 C hret H locs ls hH hS hL
  show W p l e R s m args below meth c H locs cc ss Z (F0 m pc ls (rfv G a :: S.map (cv G)))
  rw [show rfv G a = .ref (ra G a) from if_neg (by omega)]
  exact lv_ifnonnull C.1 C.2.1 hd ht h9
theorem wp_isnull {a off : Int} (hd : decode y.2.1 pc = .ok (.ifnonnull off, 3)) (ha : a < 0) (h : WPg e0 N N2 b cc ss y (pc + 3) L S M Q) : WPg e0 N N2 b cc ss y pc L (Rv a :: S) M Q := by
  intro l G d R p e s m args below meth c Z a1 a2 a3 a4 a5 C hret H locs ls hH hS hL
  have h9 := h l G d R p e s m args below meth c Z a1 a2 a3 a4 a5 C hret H locs ls hH hS hL
  show W p l e R s m args below meth c H locs cc ss Z (F0 m pc ls (rfv G a :: S.map (cv G)))
  rw [show rfv G a = .null from if_pos ha]
  exact lv_ifnonnullN C.1 C.2.1 hd h9
theorem wp_alen {a : Int} {k n : Nat} (hd : decode y.2.1 pc = .ok (.arraylength, 1)) (hk : kd N M a = k) (hk1 : 20 ≤ k) (hk2 : k ≤ 25) (hn : (sg a).2 = n) (h : WPg e0 N N2 b cc ss y (pc + 1) L (Iv n :: S) M Q) : WPg e0 N N2 b cc ss y pc L (Rv a :: S) M Q := by
  intro l G d R p e s m args below meth c Z a1 a2 a3 a4 a5 C hret H locs ls hH hS hL
  obtain ⟨g1, g2, g3⟩ := kd_spec hk (by omega)
  obtain ⟨e1, cell, hc1, hc2⟩ := hH.at hk (by omega)
  have q1 := hc2.arr g3 (by omega)
  rw [hn] at q1
  subst q1
  have C0 := C
  obtain ⟨hx, hb, -, -, hown, hts, -, hK, -⟩ := C0
  have h9 := h l G d R p e s m args below meth c Z a1 a2 a3 a4 a5 C hret H locs ls hH hS hL
  show W p l e R s m args below meth c H locs cc ss Z (F0 m pc ls (rfv G a :: S.map (cv G)))
  rw [show rfv G a = .ref (ra G a) from if_neg (by omega)]
  have hA : s.isArrayOf (arrV (gA G k) n fun j => cf G (aty k) (eff N M a j)) (aty k) := by
    have h : k = 20 ∨ k = 21 ∨ k = 22 ∨ k = 23 ∨ k = 24 ∨ k = 25 := by omega
    rcases h with rfl | rfl | rfl | rfl | rfl | rfl
    · exact (hK.2 0 _ rfl).1 n _
    · exact (hK.2 1 _ rfl).1 n _
    · exact (hK.2 2 _ rfl).1 n _
    · exact (hK.2 3 _ rfl).1 n _
    · exact (hK.2 4 _ rfl).1 n _
    · exact (hK.2 5 _ rfl).1 n _
  exact W.alen (n := Int32.ofInt n) hx hb hc1 hA (by rw [arrV_size]; rfl) rfl rfl hd h9
theorem wp_slen (hd : decode y.2.1 pc = .ok (.arraylength, 1)) (h : WPg e0 N N2 b cc ss y (pc + 1) L (Iv (M (-2) 0) :: S) M Q) : WPg e0 N N2 b cc ss y pc L (Rv 0 :: S) M Q := by
  intro l G d R p e s m args below meth c Z a1 a2 a3 a4 a5 C hret H locs ls hH hS hL
  have C0 := C
  obtain ⟨hx, hb, -, -, hown, hts, -, hK, hX, hbB, hBs, -⟩ := C0
  have h9 := h l G d R p e s m args below meth c Z a1 a2 a3 a4 a5 C hret H locs ls hH hS hL
  show W p l e R s m args below meth c H locs cc ss Z (F0 m pc ls (.ref (gb G) :: S.map (cv G)))
  refine va_slen hx hb hX (Nat.lt_of_lt_of_le hbB hBs) (by show ¬ gB G ≤ gb G; omega) hS hd ?_
  rw [List.map_cons, ← hH.2.2.1] at h9
  exact h9
theorem wp_sld {i : Int} (hd : decode y.2.1 pc = .ok (.iaload, 1)) (hi : 0 ≤ i) (hi2 : i < M (-2) 0) (hin : inr i) (h : WPg e0 N N2 b cc ss y (pc + 1) L (Iv (M 0 i) :: S) M Q) : WPg e0 N N2 b cc ss y pc L (Iv i :: Rv 0 :: S) M Q := by
  intro l G d R p e s m args below meth c Z a1 a2 a3 a4 a5 C hret H locs ls hH hS hL
  have C0 := C
  obtain ⟨hx, hb, -, -, hown, hts, -, hK, hX, hbB, hBs, -⟩ := C0
  have h9 := h l G d R p e s m args below meth c Z a1 a2 a3 a4 a5 C hret H locs ls hH hS hL
  obtain ⟨s1, s2⟩ := hH.2.2
  have hi3 : i.toNat < gL G := by omega
  show W p l e R s m args below meth c H locs cc ss Z (F0 m pc ls (.int (Int32.ofInt i) :: .ref (gb G) :: S.map (cv G)))
  refine va_sld hx hb hX (Nat.lt_of_lt_of_le hbB hBs) (by show ¬ gB G ≤ gb G; omega) hS (by show ¬ _; exact inr_nin hin hi (by omega)) hd ?_
  rw [inr_cl hin, ← s2 _ hi3, Int.toNat_of_nonneg hi]
  exact h9

theorem nfw50 : nativeFrameWords "java/lang/System" "arraycopy" 5 + 11 ≤ 50 := by decide +kernel
def cpyf (M : Mem) (a sp q dp n : Int) : Int → Int := fun j => if dp ≤ j ∧ j < dp + n then M a (sp + (j - dp)) else M q j
set_option maxHeartbeats 1000000 in
theorem wp_copy {idx na nq : Nat} {a q sp dp n : Int} (hd : decode y.2.1 pc = .ok (.invokestatic idx, 3)) (hl : Cond.methodLink y.1.cls idx arraycopyName ∈ gtbl) (hk : kd N M a = 20) (hk2 : kd N M q = 20) (hna : (sg a).2 = na) (hnq : (sg q).2 = nq) (h1 : 0 ≤ sp) (h2 : 0 ≤ dp) (h3 : 0 ≤ n) (h4 : sp + n ≤ na) (h5 : dp + n ≤ nq) (hin1 : inr sp) (hin2 : inr dp) (hin3 : inr n) (hw : wsum S ≤ 8) (hr : 1 ≤ y.2.2.2.2 + e0) (h : WPg e0 N N2 b cc ss y (pc + 3) L S (setA M q (cpyf M a sp q dp n)) Q) : WPg e0 N N2 b cc ss y pc L (Iv n :: Iv dp :: Rv q :: Iv sp :: Rv a :: S) M Q := by
  intro l G d R p e s m args below meth c Z a1 a2 a3 a4 a5 C hret H locs ls hH hS hL
  obtain ⟨g1, g2, g3⟩ := kd_spec hk (by omega)
  obtain ⟨v1, v2, v3⟩ := kd_spec hk2 (by omega)
  have hra : rfv G a = .ref (ra G a) := if_neg (by omega)
  have hrq : rfv G q = .ref (ra G q) := if_neg (by omega)
  obtain ⟨e1, cell, hc1, hc2⟩ := hH.at hk (by omega)
  obtain ⟨e2, cellv, hw1, hw2⟩ := hH.at hk2 (by omega)
  have u1 := hc2.arr g3 (by omega)
  have u2 := hw2.arr v3 (by omega)
  rw [hna] at u1
  rw [hnq] at u2
  subst u1
  subst u2
  have C0 := C
  obtain ⟨hx, hb, -, hml, hown, hts, -, hK, -⟩ := C0
  show W p l e R s m args below meth c H locs cc ss Z (F0 m pc ls (.int (Int32.ofInt n) :: .int (Int32.ofInt dp) :: rfv G q :: .int (Int32.ofInt sp) :: rfv G a :: S.map (cv G)))
  rw [hra, hrq]
  have z1 : ¬ Int32.ofInt sp < 0 := by rw [inr_0, inr_lt hin1 inr_i0]; omega
  have z2 : ¬ Int32.ofInt dp < 0 := by rw [inr_0, inr_lt hin2 inr_i0]; omega
  have z3 : ¬ Int32.ofInt n < 0 := by rw [inr_0, inr_lt hin3 inr_i0]; omega
  intro T hT X
  obtain ⟨-, k0, hk0, cm0, hkk0⟩ := (hK.2 0 _ rfl).1 na (fun j => cf G (aty 20) (eff N M a j))
  obtain ⟨vm', X', step⟩ := X.arraycopy hx hown (hts _ hl) (hts _ (tb_in 397 (by decide +kernel) rfl)) (hts _ (tb_in 396 (by decide +kernel) rfl)) (hts _ (tb_in 14 (by decide +kernel) rfl)) (src := ra G a) (dst := ra G q) (cs := arrV (gA G 20) na fun j => cf G (aty 20) (eff N M a j)) (cd := arrV (gA G 20) nq fun j => cf G (aty 20) (eff N M q j)) (srcPos := Int32.ofInt sp) (destPos := Int32.ofInt dp) (n := Int32.ofInt n) (by rw [hT]; exact hc1) (by rw [hT]; exact hw1)
    (fun _ h => by cases h) (fun _ h => by cases h) (fun h => by cases h) (fun h => by cases h) hk0 hk0 hkk0 hkk0 (by simp [refKind]) z1 z2 z3
    (by rw [inr_t hin1, inr_t hin3, arrV_size]; omega)
    (by rw [inr_t hin2, inr_t hin3, arrV_size]; omega)
    (fun vm₁ _ i hi => by
      have e : (arrV (gA G 20) na fun j => cf G (aty 20) (eff N M a j)).slots.getD ((Int32.ofInt sp).toNatClampNeg + i) .null = cf G (aty 20) (eff N M a ((Int32.ofInt sp).toNatClampNeg + i : Nat)) := by
        rw [Array.getD_eq_getD_getElem?, arrV_read _ _ (by rw [inr_cl hin1]; rw [inr_cl hin3] at hi; omega)]
        rfl
      refine ⟨?_, ?_⟩
      · rw [e]; rfl
      · rw [e]; exact trivial)
    (g := F0 m pc ls (.int (Int32.ofInt n) :: .int (Int32.ofInt dp) :: .ref (ra G q) :: .int (Int32.ofInt sp) :: .ref (ra G a) :: S.map (cv G))) rfl (by rw [hml]; exact hL.1) (rest := S.map (cv G)) rfl (by rw [hb]; exact hd) (by omega) (by show 2 * 0 + _ + _ ≤ _; rw [wsum_eq]; have := nfw50; omega)
  have e1 : copied (arrV (gA G 20) na fun j => cf G (aty 20) (eff N M a j)) (arrV (gA G 20) nq fun j => cf G (aty 20) (eff N M q j)) (Int32.ofInt sp) (Int32.ofInt dp) (Int32.ofInt n) = arrV (gA G 20) nq (fun j => cf G .int (cpyf M a sp q dp n j)) := by
    refine (va_copied (fun z => z) (gA G 20) (gA G 20) (fun j : Nat => cf G (aty 20) (eff N M a j)) (fun j : Nat => cf G (aty 20) (eff N M q j)) (by rw [inr_cl hin1, inr_cl hin3]; omega)).trans ?_
    congr 1
    funext j
    unfold va_cpy cpyf
    rw [inr_cl hin1, inr_cl hin2, inr_cl hin3]
    have ea : ∀ k, eff N M a k = M a k := fun k => by unfold eff; rw [g3]; split <;> rfl
    have eq : ∀ k, eff N M q k = M q k := fun k => by unfold eff; rw [v3]; split <;> rfl
    by_cases hj : dp ≤ j ∧ (j : Int) < dp + n
    · rw [if_pos (by omega), if_pos hj]
      show cf G .int (eff N M a _) = cf G .int _
      rw [ea]
      congr 2
      omega
    · rw [if_neg (by omega), if_neg hj]
      show cf G .int (eff N M q _) = cf G .int _
      rw [eq]
  rw [e1] at X' step
  have hl : ra G q < H.size := (Array.getElem?_eq_some_iff.mp hw1).1
  have hheap : ((T.setVm vm').setCell (ra G q) (arrV (gA G 20) nq (fun j => cf G .int (cpyf M a sp q dp n j)))).heap = H.setIfInBounds (ra G q) (arrV (gA G 20) nq (fun j => cf G .int (cpyf M a sp q dp n j))) := by rw [← hT]; rfl
  have oq : ∀ z : Nat, z ≠ ra G q → (H.setIfInBounds (ra G q) (arrV (gA G 20) nq (fun j => cf G .int (cpyf M a sp q dp n j))))[z]? = H[z]? := fun z hz => by simp [Array.getElem?_setIfInBounds, Ne.symm hz]
  have hBq : gB G ≤ ra G q := by rw [e2]; exact Nat.le_add_right _ _
  obtain ⟨t, b1, b2⟩ := h l G d R p e s m args below meth c Z a1 a2 a3 a4 a5 C hret _ _ ls (hH.setArr hk2 hnq (show (H.setIfInBounds (ra G q) _)[ra G q]? = some _ by simp [Array.getElem?_setIfInBounds, hl]) (by simp) oq) ⟨by simp; exact hS.1, fun z g1 g2 => by
      rw [oq z (fun e => g2 (by rw [e]; exact hBq))]
      exact hS.2.1 z g1 g2, fun z hz => by
      rcases List.mem_append.mp hz with h | h
      · exact hS.2.2 z h
      · obtain ⟨w, -, hw⟩ := List.mem_map.mp h
        rw [← hw]
        exact hBq⟩ hL _ hheap X'
  exact ⟨t, step t b1, b2⟩
end RW3
