abbrev clT (c : Nat) : vw_C := clsL.getD c (RX0, TX0, 0)
theorem clC (c : Nat) (hc : c < 13) : clsL[c]? = some (clT c) := by
  have h : c = 0 ∨ c = 1 ∨ c = 2 ∨ c = 3 ∨ c = 4 ∨ c = 5 ∨ c = 6 ∨ c = 7 ∨ c = 8 ∨ c = 9 ∨ c = 10 ∨ c = 11 ∨ c = 12 := by omega
  rcases h with rfl | rfl | rfl | rfl | rfl | rfl | rfl | rfl | rfl | rfl | rfl | rfl | rfl
  · exact rfl
  · exact rfl
  · exact rfl
  · exact rfl
  · exact rfl
  · exact rfl
  · exact rfl
  · exact rfl
  · exact rfl
  · exact rfl
  · exact rfl
  · exact rfl
  · exact rfl
theorem inC (c : Nat) (hc : c < 13) : ∀ w ∈ u_ws (clT c).1 (clT c).2.1 (clT c).2.2, w ∈ gtbl := by
  have h : c = 0 ∨ c = 1 ∨ c = 2 ∨ c = 3 ∨ c = 4 ∨ c = 5 ∨ c = 6 ∨ c = 7 ∨ c = 8 ∨ c = 9 ∨ c = 10 ∨ c = 11 ∨ c = 12 := by omega
  rcases h with rfl | rfl | rfl | rfl | rfl | rfl | rfl | rfl | rfl | rfl | rfl | rfl | rfl
  · exact inX0
  · exact inX1
  · exact inX2
  · exact inX3
  · exact inX4
  · exact inX5
  · exact inX6
  · exact inX7
  · exact inX8
  · exact inX9
  · exact inX10
  · exact inX11
  · exact inX12
theorem tyC (c : Nat) (hc : c < 13) : ∀ k, k < (clT c).2.2 → parseFieldDescriptor ((clT c).2.1 k).2.2.1 = some (tyF c k) := by
  have h : c = 0 ∨ c = 1 ∨ c = 2 ∨ c = 3 ∨ c = 4 ∨ c = 5 ∨ c = 6 ∨ c = 7 ∨ c = 8 ∨ c = 9 ∨ c = 10 ∨ c = 11 ∨ c = 12 := by omega
  rcases h with rfl | rfl | rfl | rfl | rfl | rfl | rfl | rfl | rfl | rfl | rfl | rfl | rfl
  · exact tyX0_ok
  · exact tyX1_ok
  · exact tyX2_ok
  · exact tyX3_ok
  · exact tyX4_ok
  · exact tyX5_ok
  · exact tyX6_ok
  · exact tyX7_ok
  · exact tyX8_ok
  · exact tyX9_ok
  · exact tyX10_ok
  · exact tyX11_ok
  · exact tyX12_ok
theorem nmC (c : Nat) (hc : c < 13) : ∀ a, a < (clT c).2.2 → ∀ b, b < (clT c).2.2 → a ≠ b → ((clT c).2.1 a).2.1 ≠ ((clT c).2.1 b).2.1 := by
  have h : c = 0 ∨ c = 1 ∨ c = 2 ∨ c = 3 ∨ c = 4 ∨ c = 5 ∨ c = 6 ∨ c = 7 ∨ c = 8 ∨ c = 9 ∨ c = 10 ∨ c = 11 ∨ c = 12 := by omega
  rcases h with rfl | rfl | rfl | rfl | rfl | rfl | rfl | rfl | rfl | rfl | rfl | rfl | rfl
  · exact nmX0
  · exact nmX1
  · exact nmX2
  · exact nmX3
  · exact nmX4
  · exact nmX5
  · exact nmX6
  · exact nmX7
  · exact nmX8
  · exact nmX9
  · exact nmX10
  · exact nmX11
  · exact nmX12
def FLk (y : Yx) (idx cl k : Nat) : Prop := cl < 13 ∧ k < (clT cl).2.2 ∧ Cond.fieldLink y.1.cls idx ((clT cl).2.1 k).1 ((clT cl).2.1 k).2.1 ((clT cl).2.1 k).2.2.1 ∈ gtbl
def okst (t : FieldType) (x : Int) : Prop := match t with
  | .int => True
  | .long => True
  | .boolean => x = 0 ∨ x = 1
  | .array _ => True
  | .object _ => True
  | _ => False
theorem okst_n {G : Gx} {t : FieldType} {x : Int} (h : okst t x) : narrow t (cf G t x) = cf G t x ∧ fits t (cf G t x) = true := by
  cases t with
  | int => exact ⟨rfl, rfl⟩
  | long => exact ⟨rfl, rfl⟩
  | boolean => rcases h with rfl | rfl <;> exact ⟨rfl, rfl⟩
  | array t => constructor <;> (show _ = _; unfold cf rfv; dsimp only; split <;> rfl)
  | object t => constructor <;> (show _ = _; unfold cf rfv; dsimp only; split <;> rfl)
  | _ => exact h.elim
theorem cellOk_put {G : Gx} {N : Int} {M : Mem} {a i v : Int} {c n : Nat} (hs : sg a = (c, n)) (h1 : 20 ≤ c) (h2 : c ≤ 25) (hf : N = 0 → fok c a i = none) (hi : 0 ≤ i) : cellOk G (eff N (up M a i v)) a ((arrV (gA G c) n (fun j => cf G (aty c) (eff N M a j))).setSlot i.toNat (cf G (aty c) v)) := by
  refine Or.inr ⟨by rw [hs]; exact h1, by rw [hs]; exact h2, ?_⟩
  rw [hs, arrV_store]
  show arrV _ n _ = arrV _ n _
  congr 1
  funext j
  unfold updV
  rw [eff_up (c := c) (by rw [hs]) hf]
  by_cases hj : j = i.toNat
  · rw [if_pos hj, if_pos ⟨rfl, by omega⟩]
  · rw [if_neg hj, if_neg (by omega)]
theorem cellOk_putf {G : Gx} {N : Int} {M : Mem} {a v : Int} {k c : Nat} (hs : (sg a).1 = c) (hc : c < 13) (hf : N = 0 → fok c a k = none) {cell : Cell} (h : cellOk G (eff N M) a cell) (hk : k < nf c) (hap : ∀ x y, x < nf c → y < nf c → x ≠ y → (gD G).2 c x ≠ (gD G).2 c y) : cellOk G (eff N (up M a k v)) a (cell.setSlot ((gD G).2 c k) (cf G (tyF c k) v)) := by
  obtain ⟨q1, q2, q3, q4⟩ := h.obj hs hc
  refine Or.inl ⟨by rw [hs]; exact hc, ?_⟩
  rw [hs]
  refine ⟨q1, q2, by rw [k2_slotsz]; exact q3, fun j hj => ?_⟩
  have h5 := t_set (cell := cell) (N := nf c) (iS := (gD G).2 c) (V := fun k => cf G (tyF c k) (eff N M a k)) q4 hap hk (cf G (tyF c k) v) j hj
  rw [h5]
  unfold updV
  rw [eff_up hs hf]
  by_cases hjk : j = k
  · subst hjk
    rw [if_pos rfl, if_pos ⟨rfl, rfl⟩]
  · rw [if_neg hjk, if_neg (by omega)]
theorem vaS_put {A : Nat → Prop} {H0 H H1 : Heap} {locs : List Loc} {a k : Nat} (h : va_S A H0 H locs) (z : H1.size = H.size) (oq : ∀ q : Nat, q ≠ a → H1[q]? = H[q]?) (ha : A a) : va_S A H0 H1 (locs ++ [⟨a, k⟩]) := h.put z oq ha
theorem sg_nf (a : Int) (h : (sg a).1 < 13) : (sg a).2 = nf (sg a).1 := by
  have key : ∀ q ∈ sgL, q.1 < 13 → q.2 = nf q.1 := by decide +kernel
  unfold sg at h ⊢
  split at h
  next => exact absurd h (by decide)
  next ha =>
    rw [if_neg ha]
    rcases Nat.lt_or_ge (a.toNat - 1) sgL.length with hl | hl
    · have e : sgL.getD (a.toNat - 1) (99, 0) = sgL[a.toNat - 1] := by simp [List.getD, hl]
      rw [e] at h ⊢
      exact key _ (List.getElem_mem hl) h
    · have e : sgL.getD (a.toNat - 1) (99, 0) = (99, 0) := by simp [List.getD, hl]
      rw [e] at h
      exact absurd h (by decide)

theorem inr_nin {i : Int} {n : Nat} (hin : inr i) (h0 : 0 ≤ i) (h1 : i < n) : ¬ (Int32.ofInt i < 0 ∨ n ≤ (Int32.ofInt i).toNatClampNeg) := by
  rw [inr_cl hin, inr_0, inr_lt hin inr_i0]
  omega
theorem nar_b {x : Int} : narrow .byte (.int (Int32.ofInt x)) = .int (Int32.ofInt (x.bmod 256)) := by
  rw [narrow_byte, Int32.toInt8_ofInt, ← Int32.ofInt_int8ToInt, Int8.toInt_ofInt]
theorem nar_z {x : Int} (h : x = 0 ∨ x = 1) : narrow .boolean (.int (Int32.ofInt x)) = .int (Int32.ofInt x) := by
  rcases h with rfl | rfl <;> rfl
section RW1
variable {e0 : Nat} {N N2 : Int} {b : Option (Nat × Nat)} {cc ss : Nat} {y : Yx} {pc : Nat} {L : Lx} {S : List Vl} {M : Mem} {Q : Vl → Mem → Prop}
theorem wp_getf {idx cl k : Nat} {a : Int} {t : Vl} (v : Int) (hd : decode y.2.1 pc = .ok (.getfield idx, 3)) (hf : FLk y idx cl k) (hk : kd N M a = cl) (hv : rd N M cl a k = v) (ht : tg (tyF cl k) v = t) (h : WPg e0 N N2 b cc ss y (pc + 3) L (t :: S) M Q) : WPg e0 N N2 b cc ss y pc L (Rv a :: S) M Q := by
  intro l G d R p e s m args below meth c Z a1 a2 a3 a4 a5 C hret H locs ls hH hS hL
  subst ht
  obtain ⟨f1, f2, f3⟩ := hf
  obtain ⟨g1, g2, g3⟩ := kd_spec hk (by omega)
  have hra : rfv G a = .ref (ra G a) := if_neg (by omega)
  obtain ⟨e1, cell, hc1, hc2⟩ := hH.at hk (by omega)
  obtain ⟨q1, q2, q3, q4⟩ := hc2.obj g3 f1
  have C0 := C
  obtain ⟨hx, hb, -, -, hown, hts, -, hK, -⟩ := C0
  obtain ⟨hS0, hfc, kC, hkC, hkind⟩ := hK.1 cl _ (clC cl f1)
  obtain ⟨cf0, kf, fi, f, hi, hsl⟩ := hS0 k f2
  have h2 := h l G d R p e s m args below meth c Z a1 a2 a3 a4 a5 C hret H locs ls hH hS hL
  show W p l e R s m args below meth c H locs cc ss Z (F0 m pc ls (rfv G a :: S.map (cv G)))
  rw [hra]
  refine W.getf hx hb hown (hts _ f3) hi (u_facts hfc hkC (u_lays hts (inC cl f1) f2) hi).1 hc1 (by rw [q2]; exact fun h => by cases h) (v := cf G (tyF cl k) v) ?_ rfl rfl hd ?_
  · rw [hsl, q4 k f2, eff_rd g3, hv]
  · rw [← cv_tg]
    exact h2
theorem wp_putf {idx cl k : Nat} {a x : Int} {t : Vl} (hd : decode y.2.1 pc = .ok (.putfield idx, 3)) (hf : FLk y idx cl k) (hk : kd N M a = cl) (hfo : N = 0 → fok cl a k = none) (hfin : ((clT cl).2.1 k).2.2.2 = false) (ht : tg (tyF cl k) x = t) (hst : okst (tyF cl k) x) (h : WPg e0 N N2 b cc ss y (pc + 3) L S (up M a k x) Q) : WPg e0 N N2 b cc ss y pc L (t :: Rv a :: S) M Q := by
  intro l G d R p e s m args below meth c Z a1 a2 a3 a4 a5 C hret H locs ls hH hS hL
  subst ht
  obtain ⟨f1, f2, f3⟩ := hf
  obtain ⟨g1, g2, g3⟩ := kd_spec hk (by omega)
  have hra : rfv G a = .ref (ra G a) := if_neg (by omega)
  obtain ⟨e1, cell, hc1, hc2⟩ := hH.at hk (by omega)
  obtain ⟨q1, q2, q3, q4⟩ := hc2.obj g3 f1
  have C0 := C
  obtain ⟨hx, hb, -, -, hown, hts, -, hK, -, -, -, hnm, -⟩ := C0
  have hap := va_apart (own := y.1.cls) hts (inC cl f1) (tyF cl) (tyC cl f1) (nmC cl f1) hK (clC cl f1)
  obtain ⟨hS0, hfc, kC, hkC, hkind⟩ := hK.1 cl _ (clC cl f1)
  obtain ⟨cf0, kf, fi, f, hi, hsl⟩ := hS0 k f2
  have hlay := hts _ (inC cl f1 _ (u_in_lay f2))
  unfold u_lay at hlay
  rw [if_neg (by rw [hfin]; decide)] at hlay
  have hsta := (u_facts hfc hkC (u_lays hts (inC cl f1) f2) hi).1
  obtain ⟨n1, n2⟩ := okst_n (G := G) hst
  show W p l e R s m args below meth c H locs cc ss Z (F0 m pc ls (cv G (tg (tyF cl k) x) :: rfv G a :: S.map (cv G)))
  rw [hra, cv_tg]
  have h6 := u_store hfc hkC hkind hlay hi (tyC cl f1 k f2) n1 n2
  refine W.putK hx hb (f := f) ⟨hown, hts _ f3, ⟨_, _, _, hi⟩, hsta⟩ (by rw [q1]; exact h6) hc1 q2 (by rw [hsl]; exact k2_hasslot (q4 k f2)) rfl rfl hd fun H1 w1 z oq => ?_
  rw [hsl] at w1
  exact h l G d R p e s m args below meth c Z a1 a2 a3 a4 a5 C hret H1 _ ls (hH.put hk (by omega) hfo w1 z oq (cellOk_putf g3 f1 hfo hc2 f2 hap)) (vaS_put hS z oq (by show gB G ≤ ra G a; rw [(hH.at hk (by omega)).1]; exact Nat.le_add_right _ _)) hL
theorem wp_putF {idx cl k : Nat} {a x : Int} {t : Vl} (hd : decode y.2.1 pc = .ok (.putfield idx, 3)) (hf : FLk y idx cl k) (hk : kd N M a = cl) (hfo : N = 0 → fok cl a k = none) (hfin : ((clT cl).2.1 k).2.2.2 = true) (hin2 : y.1.name = "<init>") (hdecl : ((clT cl).2.1 k).1 = y.1.cls) (ht : tg (tyF cl k) x = t) (hst : okst (tyF cl k) x) (h : WPg e0 N N2 b cc ss y (pc + 3) L S (up M a k x) Q) : WPg e0 N N2 b cc ss y pc L (t :: Rv a :: S) M Q := by
  intro l G d R p e s m args below meth c Z a1 a2 a3 a4 a5 C hret H locs ls hH hS hL
  subst ht
  obtain ⟨f1, f2, f3⟩ := hf
  obtain ⟨g1, g2, g3⟩ := kd_spec hk (by omega)
  have hra : rfv G a = .ref (ra G a) := if_neg (by omega)
  obtain ⟨e1, cell, hc1, hc2⟩ := hH.at hk (by omega)
  obtain ⟨q1, q2, q3, q4⟩ := hc2.obj g3 f1
  have C0 := C
  obtain ⟨hx, hb, -, -, hown, hts, -, hK, -, -, -, hnm, -⟩ := C0
  have hap := va_apart (own := y.1.cls) hts (inC cl f1) (tyF cl) (tyC cl f1) (nmC cl f1) hK (clC cl f1)
  obtain ⟨hS0, hfc, kC, hkC, hkind⟩ := hK.1 cl _ (clC cl f1)
  obtain ⟨cf0, kf, fi, f, hi, hsl⟩ := hS0 k f2
  have hlay := hts _ (inC cl f1 _ (u_in_lay f2))
  unfold u_lay at hlay
  rw [if_pos hfin] at hlay
  have hsta := (u_facts hfc hkC (u_lays hts (inC cl f1) f2) hi).1
  obtain ⟨n1, n2⟩ := okst_n (G := G) hst
  show W p l e R s m args below meth c H locs cc ss Z (F0 m pc ls (cv G (tg (tyF cl k) x) :: rfv G a :: S.map (cv G)))
  rw [hra, cv_tg]
  have hcf : m.cls = cf0 := by
    obtain ⟨_, _, c', _, _, _, -, -, hf', -, -, -, hown2, -⟩ := Cond.laysFinal_spec hlay
    have e1 : c' = cf0 := by have := hi.symm.trans hf'; simp at this; exact this.1.symm
    rw [hdecl] at hown2
    rw [← e1]; exact Option.some.inj (hown.symm.trans hown2)
  have h6 := u_fits hfc hkC hkind (Or.inr hlay) hi (tyC cl f1 k f2) n1 n2
  refine W.putFinK hx hb hown (hts _ f3) hi hsta hcf (hnm.trans hin2) (by rw [q1]; exact h6) hc1 q2 (by rw [hsl]; exact k2_hasslot (q4 k f2)) rfl rfl hd fun H1 w1 z oq => ?_
  rw [hsl] at w1
  exact h l G d R p e s m args below meth c Z a1 a2 a3 a4 a5 C hret H1 _ ls (hH.put hk (by omega) hfo w1 z oq (cellOk_putf g3 f1 hfo hc2 f2 hap)) (vaS_put hS z oq (by show gB G ≤ ra G a; rw [(hH.at hk (by omega)).1]; exact Nat.le_add_right _ _)) hL
theorem wp_iald {a i : Int} {n : Nat} (v : Int) (hd : decode y.2.1 pc = .ok (.iaload, 1)) (hk : kd N M a = 20) (hn : (sg a).2 = n) (hi : 0 ≤ i) (hi2 : i < n) (hin : inr i) (hv : rd N M 20 a i = v) (h : WPg e0 N N2 b cc ss y (pc + 1) L (Iv v :: S) M Q) : WPg e0 N N2 b cc ss y pc L (Iv i :: Rv a :: S) M Q := by
  intro l G d R p e s m args below meth c Z a1 a2 a3 a4 a5 C hret H locs ls hH hS hL
  obtain ⟨g1, g2, g3⟩ := kd_spec hk (by omega)
  have hra : rfv G a = .ref (ra G a) := if_neg (by omega)
  obtain ⟨e1, cell, hc1, hc2⟩ := hH.at hk (by omega)
  have q1 := hc2.arr g3 (by omega)
  rw [hn] at q1
  subst q1
  have C0 := C
  obtain ⟨hx, hb, -, -, hown, hts, -, hK, -⟩ := C0
  have h2 := h l G d R p e s m args below meth c Z a1 a2 a3 a4 a5 C hret H locs ls hH hS hL
  show W p l e R s m args below meth c H locs cc ss Z (F0 m pc ls (.int (Int32.ofInt i) :: rfv G a :: S.map (cv G)))
  rw [hra]
  have hi3 : i.toNat < n := by omega
  refine W.iald (v := cf G (aty 20) v) hx hb hc1 ((hK.2 0 _ rfl).1 n _) (fun q => by cases q) (by rw [arrV_size]; exact inr_nin hin hi hi2) ?_ rfl rfl hd ?_
  · rw [inr_cl hin, arrV_read _ _ hi3, Int.toNat_of_nonneg hi, eff_rd g3, hv]
  · exact h2
theorem wp_lald {a i : Int} {n : Nat} (v : Int) (hd : decode y.2.1 pc = .ok (.laload, 1)) (hk : kd N M a = 21) (hn : (sg a).2 = n) (hi : 0 ≤ i) (hi2 : i < n) (hin : inr i) (hv : rd N M 21 a i = v) (h : WPg e0 N N2 b cc ss y (pc + 1) L (Jv v :: S) M Q) : WPg e0 N N2 b cc ss y pc L (Iv i :: Rv a :: S) M Q := by
  intro l G d R p e s m args below meth c Z a1 a2 a3 a4 a5 C hret H locs ls hH hS hL
  obtain ⟨g1, g2, g3⟩ := kd_spec hk (by omega)
  have hra : rfv G a = .ref (ra G a) := if_neg (by omega)
  obtain ⟨e1, cell, hc1, hc2⟩ := hH.at hk (by omega)
  have q1 := hc2.arr g3 (by omega)
  rw [hn] at q1
  subst q1
  have C0 := C
  obtain ⟨hx, hb, -, -, hown, hts, -, hK, -⟩ := C0
  have h2 := h l G d R p e s m args below meth c Z a1 a2 a3 a4 a5 C hret H locs ls hH hS hL
  show W p l e R s m args below meth c H locs cc ss Z (F0 m pc ls (.int (Int32.ofInt i) :: rfv G a :: S.map (cv G)))
  rw [hra]
  have hi3 : i.toNat < n := by omega
  refine W.lald (v := cf G (aty 21) v) hx hb hc1 ((hK.2 1 _ rfl).1 n _) (fun q => by cases q) (by rw [arrV_size]; exact inr_nin hin hi hi2) ?_ rfl rfl hd ?_
  · rw [inr_cl hin, arrV_read _ _ hi3, Int.toNat_of_nonneg hi, eff_rd g3, hv]
  · exact h2
theorem wp_bald {a i : Int} {n : Nat} (v : Int) (hd : decode y.2.1 pc = .ok (.baload, 1)) (hk : kd N M a = 22) (hn : (sg a).2 = n) (hi : 0 ≤ i) (hi2 : i < n) (hin : inr i) (hv : rd N M 22 a i = v) (h : WPg e0 N N2 b cc ss y (pc + 1) L (Iv v :: S) M Q) : WPg e0 N N2 b cc ss y pc L (Iv i :: Rv a :: S) M Q := by
  intro l G d R p e s m args below meth c Z a1 a2 a3 a4 a5 C hret H locs ls hH hS hL
  obtain ⟨g1, g2, g3⟩ := kd_spec hk (by omega)
  have hra : rfv G a = .ref (ra G a) := if_neg (by omega)
  obtain ⟨e1, cell, hc1, hc2⟩ := hH.at hk (by omega)
  have q1 := hc2.arr g3 (by omega)
  rw [hn] at q1
  subst q1
  have C0 := C
  obtain ⟨hx, hb, -, -, hown, hts, -, hK, -⟩ := C0
  have h2 := h l G d R p e s m args below meth c Z a1 a2 a3 a4 a5 C hret H locs ls hH hS hL
  show W p l e R s m args below meth c H locs cc ss Z (F0 m pc ls (.int (Int32.ofInt i) :: rfv G a :: S.map (cv G)))
  rw [hra]
  have hi3 : i.toNat < n := by omega
  refine W.bald (v := cf G (aty 22) v) hx hb hc1 ((hK.2 2 _ rfl).1 n _) (fun q => by cases q) (by rw [arrV_size]; exact inr_nin hin hi hi2) ?_ rfl rfl hd ?_
  · rw [inr_cl hin, arrV_read _ _ hi3, Int.toNat_of_nonneg hi, eff_rd g3, hv]
  · exact h2
theorem wp_zald {a i : Int} {n : Nat} (v : Int) (hd : decode y.2.1 pc = .ok (.baload, 1)) (hk : kd N M a = 23) (hn : (sg a).2 = n) (hi : 0 ≤ i) (hi2 : i < n) (hin : inr i) (hv : rd N M 23 a i = v) (h : WPg e0 N N2 b cc ss y (pc + 1) L (Iv v :: S) M Q) : WPg e0 N N2 b cc ss y pc L (Iv i :: Rv a :: S) M Q := by
  intro l G d R p e s m args below meth c Z a1 a2 a3 a4 a5 C hret H locs ls hH hS hL
  obtain ⟨g1, g2, g3⟩ := kd_spec hk (by omega)
  have hra : rfv G a = .ref (ra G a) := if_neg (by omega)
  obtain ⟨e1, cell, hc1, hc2⟩ := hH.at hk (by omega)
  have q1 := hc2.arr g3 (by omega)
  rw [hn] at q1
  subst q1
  have C0 := C
  obtain ⟨hx, hb, -, -, hown, hts, -, hK, -⟩ := C0
  have h2 := h l G d R p e s m args below meth c Z a1 a2 a3 a4 a5 C hret H locs ls hH hS hL
  show W p l e R s m args below meth c H locs cc ss Z (F0 m pc ls (.int (Int32.ofInt i) :: rfv G a :: S.map (cv G)))
  rw [hra]
  have hi3 : i.toNat < n := by omega
  refine W.zald (v := cf G (aty 23) v) hx hb hc1 ((hK.2 3 _ rfl).1 n _) (fun q => by cases q) (by rw [arrV_size]; exact inr_nin hin hi hi2) ?_ rfl rfl hd ?_
  · rw [inr_cl hin, arrV_read _ _ hi3, Int.toNat_of_nonneg hi, eff_rd g3, hv]
  · exact h2
theorem wp_aaldL {a i : Int} {n : Nat} (v : Int) (hd : decode y.2.1 pc = .ok (.aaload, 1)) (hk : kd N M a = 24) (hn : (sg a).2 = n) (hi : 0 ≤ i) (hi2 : i < n) (hin : inr i) (hv : rd N M 24 a i = v) (h : WPg e0 N N2 b cc ss y (pc + 1) L (Rv v :: S) M Q) : WPg e0 N N2 b cc ss y pc L (Iv i :: Rv a :: S) M Q := by
  intro l G d R p e s m args below meth c Z a1 a2 a3 a4 a5 C hret H locs ls hH hS hL
  obtain ⟨g1, g2, g3⟩ := kd_spec hk (by omega)
  have hra : rfv G a = .ref (ra G a) := if_neg (by omega)
  obtain ⟨e1, cell, hc1, hc2⟩ := hH.at hk (by omega)
  have q1 := hc2.arr g3 (by omega)
  rw [hn] at q1
  subst q1
  have C0 := C
  obtain ⟨hx, hb, -, -, hown, hts, -, hK, -⟩ := C0
  have h2 := h l G d R p e s m args below meth c Z a1 a2 a3 a4 a5 C hret H locs ls hH hS hL
  show W p l e R s m args below meth c H locs cc ss Z (F0 m pc ls (.int (Int32.ofInt i) :: rfv G a :: S.map (cv G)))
  rw [hra]
  have hi3 : i.toNat < n := by omega
  refine W.aald (v := cf G (aty 24) v) hx hb hc1 ((hK.2 4 _ rfl).1 n _) rfl (fun q => by cases q) (by rw [arrV_size]; exact inr_nin hin hi hi2) ?_ rfl rfl hd ?_
  · rw [inr_cl hin, arrV_read _ _ hi3, Int.toNat_of_nonneg hi, eff_rd g3, hv]
  · exact h2
theorem wp_aaldW {a i : Int} {n : Nat} (v : Int) (hd : decode y.2.1 pc = .ok (.aaload, 1)) (hk : kd N M a = 25) (hn : (sg a).2 = n) (hi : 0 ≤ i) (hi2 : i < n) (hin : inr i) (hv : rd N M 25 a i = v) (h : WPg e0 N N2 b cc ss y (pc + 1) L (Rv v :: S) M Q) : WPg e0 N N2 b cc ss y pc L (Iv i :: Rv a :: S) M Q := by
  intro l G d R p e s m args below meth c Z a1 a2 a3 a4 a5 C hret H locs ls hH hS hL
  obtain ⟨g1, g2, g3⟩ := kd_spec hk (by omega)
  have hra : rfv G a = .ref (ra G a) := if_neg (by omega)
  obtain ⟨e1, cell, hc1, hc2⟩ := hH.at hk (by omega)
  have q1 := hc2.arr g3 (by omega)
  rw [hn] at q1
  subst q1
  have C0 := C
  obtain ⟨hx, hb, -, -, hown, hts, -, hK, -⟩ := C0
  have h2 := h l G d R p e s m args below meth c Z a1 a2 a3 a4 a5 C hret H locs ls hH hS hL
  show W p l e R s m args below meth c H locs cc ss Z (F0 m pc ls (.int (Int32.ofInt i) :: rfv G a :: S.map (cv G)))
  rw [hra]
  have hi3 : i.toNat < n := by omega
  refine W.aald (v := cf G (aty 25) v) hx hb hc1 ((hK.2 5 _ rfl).1 n _) rfl (fun q => by cases q) (by rw [arrV_size]; exact inr_nin hin hi hi2) ?_ rfl rfl hd ?_
  · rw [inr_cl hin, arrV_read _ _ hi3, Int.toNat_of_nonneg hi, eff_rd g3, hv]
  · exact h2
theorem wp_iast {a i x : Int} {n : Nat} (hd : decode y.2.1 pc = .ok (.iastore, 1)) (hk : kd N M a = 20) (hn : (sg a).2 = n) (hi : 0 ≤ i) (hi2 : i < n) (hin : inr i) (h : WPg e0 N N2 b cc ss y (pc + 1) L S (up M a i x) Q) : WPg e0 N N2 b cc ss y pc L (Iv x :: Iv i :: Rv a :: S) M Q := by
  intro l G d R p e s m args below meth c Z a1 a2 a3 a4 a5 C hret H locs ls hH hS hL
  obtain ⟨g1, g2, g3⟩ := kd_spec hk (by omega)
  have hra : rfv G a = .ref (ra G a) := if_neg (by omega)
  obtain ⟨e1, cell, hc1, hc2⟩ := hH.at hk (by omega)
  have q1 := hc2.arr g3 (by omega)
  rw [hn] at q1
  subst q1
  have C0 := C
  obtain ⟨hx, hb, -, -, hown, hts, -, hK, -⟩ := C0
  show W p l e R s m args below meth c H locs cc ss Z (F0 m pc ls (cv G (Iv x) :: .int (Int32.ofInt i) :: rfv G a :: S.map (cv G)))
  rw [hra]
  have hsg : sg a = (20, n) := by rw [← g3, ← hn]
  refine W.iast hx hb hc1 ((hK.2 0 _ rfl).1 n _) (fun q => by cases q) (by rw [arrV_size]; exact inr_nin hin hi hi2) rfl rfl hd fun H1 w1 z oq => ?_
  rw [inr_cl hin] at w1
  exact h l G d R p e s m args below meth c Z a1 a2 a3 a4 a5 C hret H1 _ ls (hH.put hk (by omega) (fun _ => rfl) w1 z oq (cellOk_put hsg (by omega) (by omega) (fun _ => rfl) hi)) (vaS_put hS z oq (by show gB G ≤ ra G a; rw [(hH.at hk (by omega)).1]; exact Nat.le_add_right _ _)) hL
theorem wp_last {a i x : Int} {n : Nat} (hd : decode y.2.1 pc = .ok (.lastore, 1)) (hk : kd N M a = 21) (hn : (sg a).2 = n) (hi : 0 ≤ i) (hi2 : i < n) (hin : inr i) (h : WPg e0 N N2 b cc ss y (pc + 1) L S (up M a i x) Q) : WPg e0 N N2 b cc ss y pc L (Jv x :: Iv i :: Rv a :: S) M Q := by
  intro l G d R p e s m args below meth c Z a1 a2 a3 a4 a5 C hret H locs ls hH hS hL
  obtain ⟨g1, g2, g3⟩ := kd_spec hk (by omega)
  have hra : rfv G a = .ref (ra G a) := if_neg (by omega)
  obtain ⟨e1, cell, hc1, hc2⟩ := hH.at hk (by omega)
  have q1 := hc2.arr g3 (by omega)
  rw [hn] at q1
  subst q1
  have C0 := C
  obtain ⟨hx, hb, -, -, hown, hts, -, hK, -⟩ := C0
  show W p l e R s m args below meth c H locs cc ss Z (F0 m pc ls (cv G (Jv x) :: .int (Int32.ofInt i) :: rfv G a :: S.map (cv G)))
  rw [hra]
  have hsg : sg a = (21, n) := by rw [← g3, ← hn]
  refine W.last hx hb hc1 ((hK.2 1 _ rfl).1 n _) (fun q => by cases q) (by rw [arrV_size]; exact inr_nin hin hi hi2) rfl rfl hd fun H1 w1 z oq => ?_
  rw [inr_cl hin] at w1
  exact h l G d R p e s m args below meth c Z a1 a2 a3 a4 a5 C hret H1 _ ls (hH.put hk (by omega) (fun _ => rfl) w1 z oq (cellOk_put hsg (by omega) (by omega) (fun _ => rfl) hi)) (vaS_put hS z oq (by show gB G ≤ ra G a; rw [(hH.at hk (by omega)).1]; exact Nat.le_add_right _ _)) hL
theorem wp_bast {a i x : Int} {n : Nat} (hd : decode y.2.1 pc = .ok (.bastore, 1)) (hk : kd N M a = 22) (hn : (sg a).2 = n) (hi : 0 ≤ i) (hi2 : i < n) (hin : inr i) (h : WPg e0 N N2 b cc ss y (pc + 1) L S (up M a i (x.bmod 256)) Q) : WPg e0 N N2 b cc ss y pc L (Iv x :: Iv i :: Rv a :: S) M Q := by
  intro l G d R p e s m args below meth c Z a1 a2 a3 a4 a5 C hret H locs ls hH hS hL
  obtain ⟨g1, g2, g3⟩ := kd_spec hk (by omega)
  have hra : rfv G a = .ref (ra G a) := if_neg (by omega)
  obtain ⟨e1, cell, hc1, hc2⟩ := hH.at hk (by omega)
  have q1 := hc2.arr g3 (by omega)
  rw [hn] at q1
  subst q1
  have C0 := C
  obtain ⟨hx, hb, -, -, hown, hts, -, hK, -⟩ := C0
  show W p l e R s m args below meth c H locs cc ss Z (F0 m pc ls (cv G (Iv x) :: .int (Int32.ofInt i) :: rfv G a :: S.map (cv G)))
  rw [hra]
  have hsg : sg a = (22, n) := by rw [← g3, ← hn]
  refine W.bast hx hb hc1 ((hK.2 2 _ rfl).1 n _) (fun q => by cases q) (by rw [arrV_size]; exact inr_nin hin hi hi2) rfl rfl hd fun H1 w1 z oq => ?_
  rw [inr_cl hin, nar_b] at w1
  exact h l G d R p e s m args below meth c Z a1 a2 a3 a4 a5 C hret H1 _ ls (hH.put hk (by omega) (fun _ => rfl) w1 z oq (cellOk_put hsg (by omega) (by omega) (fun _ => rfl) hi)) (vaS_put hS z oq (by show gB G ≤ ra G a; rw [(hH.at hk (by omega)).1]; exact Nat.le_add_right _ _)) hL
theorem wp_zast {a i x : Int} {n : Nat} (hd : decode y.2.1 pc = .ok (.bastore, 1)) (hk : kd N M a = 23) (hn : (sg a).2 = n) (hi : 0 ≤ i) (hi2 : i < n) (hin : inr i) (hx01 : x = 0 ∨ x = 1) (h : WPg e0 N N2 b cc ss y (pc + 1) L S (up M a i x) Q) : WPg e0 N N2 b cc ss y pc L (Iv x :: Iv i :: Rv a :: S) M Q := by
  intro l G d R p e s m args below meth c Z a1 a2 a3 a4 a5 C hret H locs ls hH hS hL
  obtain ⟨g1, g2, g3⟩ := kd_spec hk (by omega)
  have hra : rfv G a = .ref (ra G a) := if_neg (by omega)
  obtain ⟨e1, cell, hc1, hc2⟩ := hH.at hk (by omega)
  have q1 := hc2.arr g3 (by omega)
  rw [hn] at q1
  subst q1
  have C0 := C
  obtain ⟨hx, hb, -, -, hown, hts, -, hK, -⟩ := C0
  show W p l e R s m args below meth c H locs cc ss Z (F0 m pc ls (cv G (Iv x) :: .int (Int32.ofInt i) :: rfv G a :: S.map (cv G)))
  rw [hra]
  have hsg : sg a = (23, n) := by rw [← g3, ← hn]
  refine W.zast hx hb hc1 ((hK.2 3 _ rfl).1 n _) (fun q => by cases q) (by rw [arrV_size]; exact inr_nin hin hi hi2) rfl rfl hd fun H1 w1 z oq => ?_
  rw [inr_cl hin, nar_z hx01] at w1
  exact h l G d R p e s m args below meth c Z a1 a2 a3 a4 a5 C hret H1 _ ls (hH.put hk (by omega) (fun _ => rfl) w1 z oq (cellOk_put hsg (by omega) (by omega) (fun _ => rfl) hi)) (vaS_put hS z oq (by show gB G ≤ ra G a; rw [(hH.at hk (by omega)).1]; exact Nat.le_add_right _ _)) hL
end RW1
