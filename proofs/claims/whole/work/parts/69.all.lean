/-! THE LAW: every call of the script is answered alike -/
theorem cl_imp {e0 : Nat} {N N2 : Int} {b : Option (Nat × Nat)} {y : Yx} {as : List Vl} {M : Mem} {Q Q2 : Vl → Mem → Prop} (hq : ∀ v M2, Q v M2 → Q2 v M2) (h : CL e0 N N2 b y as M Q) : CL e0 N N2 b y as M Q2 := by
  intro l G d hd p e h1 h2 h3 s m args below h4 h5 h6 h7
  obtain ⟨n, o, w1, w2, w3, w4⟩ := h l G d hd p e h1 h2 h3 s m args below h4 h5 h6 h7
  obtain ⟨⟨⟨v, M2, q, rest⟩, fr⟩, lo⟩ := w4
  exact ⟨n, o, w1, w2, w3, ⟨⟨⟨v, M2, hq v M2 q, rest⟩, fr⟩, lo⟩⟩
def LW (L : Int) (M : Mem) : Prop := (∃ S, WF S ∧ X S M ∧ Y S M) ∧ (∀ j, inr (M 0 j)) ∧ M (-2) 0 = L
theorem frx.yy {S M M1 : Mem} (h : frx M M1) (hY : Y S M) : Y S M1 := hY.same (fun a ka => h.1 a (by unfold kY at ka; omega) (by unfold kY at ka; omega)) (fun q _ => by rw [h.1 88 (by decide) (by decide)])
theorem fry.xx {S M M1 : Mem} (h : fry M M1) (hX : X S M) : X S M1 := hX.same (fun a ka => h a (by unfold kX at ka; omega))
theorem l_int {L x6 : Int} {M : Mem} {yx ym : Yx} {as : List Vl} {Q : Vl → Mem → Prop} {F : Int → Mem → Prop} (h : LW L M) (op : ∀ S, WF S → OpOK S yx ym as Iv) (hn : ∀ M2, LW L M2 → wp 0 yL_law 18 [some (Rv 0), some (Rv 1), some (Rv 88), some (Iv x6)] [] M2 Q) (hF : ∀ z M1, M1 0 = M 0 → M1 (-2) = M (-2) → cl 0 ym (Rv 88 :: as) M1 (QI (fun z2 M2 => (z = z2 ∨ (inr z ∧ inr z2)) ∧ ((z = z2 → wp 0 yL_law 18 [some (Rv 0), some (Rv 1), some (Rv 88), some (Iv x6)] [] M2 Q) ∧ (z ≠ z2 → Q (Iv 0) M2)))) → F z M1) : cl 0 yx (Rv 1 :: as) M (QI F) := by
  obtain ⟨⟨S, hW, hX, hY⟩, hi, hL⟩ := h
  obtain ⟨ans, S2, hW2, hx, hy⟩ := op S hW
  refine cl_imp (fun v M1 q => ?_) (hx M hX)
  obtain ⟨rfl, hX1, f1⟩ := q
  refine hF ans M1 f1.2.1 f1.2.2 (cl_imp (fun v M2 q => ?_) (hy M1 (f1.yy hY)))
  obtain ⟨rfl, hY2, f2⟩ := q
  refine ⟨Or.inl rfl, fun _ => hn M2 ⟨⟨S2, hW2, f2.xx hX1, hY2⟩, fun j => ?_, ?_⟩, fun q => absurd rfl q⟩
  · rw [f2 0 (by decide), f1.2.1]; exact hi j
  · rw [f2 (-2) (by decide), f1.2.2]; exact hL
theorem l_long {L x6 : Int} {M : Mem} {yx ym : Yx} {as : List Vl} {Q : Vl → Mem → Prop} {F : Int → Mem → Prop} (h : LW L M) (op : ∀ S, WF S → OpOK S yx ym as Jv) (hn : ∀ M2, LW L M2 → wp 0 yL_law 18 [some (Rv 0), some (Rv 1), some (Rv 88), some (Iv x6)] [] M2 Q) (hF : ∀ z M1, M1 0 = M 0 → M1 (-2) = M (-2) → cl 0 ym (Rv 88 :: as) M1 (QJ (fun z2 M2 => (z = z2 ∨ (inL z ∧ inL z2)) ∧ ((z = z2 → wp 0 yL_law 18 [some (Rv 0), some (Rv 1), some (Rv 88), some (Iv x6)] [] M2 Q) ∧ (z ≠ z2 → Q (Iv 0) M2)))) → F z M1) : cl 0 yx (Rv 1 :: as) M (QJ F) := by
  obtain ⟨⟨S, hW, hX, hY⟩, hi, hL⟩ := h
  obtain ⟨ans, S2, hW2, hx, hy⟩ := op S hW
  refine cl_imp (fun v M1 q => ?_) (hx M hX)
  obtain ⟨rfl, hX1, f1⟩ := q
  refine hF ans M1 f1.2.1 f1.2.2 (cl_imp (fun v M2 q => ?_) (hy M1 (f1.yy hY)))
  obtain ⟨rfl, hY2, f2⟩ := q
  refine ⟨Or.inl rfl, fun _ => hn M2 ⟨⟨S2, hW2, f2.xx hX1, hY2⟩, fun j => ?_, ?_⟩, fun q => absurd rfl q⟩
  · rw [f2 0 (by decide), f1.2.1]; exact hi j
  · rw [f2 (-2) (by decide), f1.2.2]; exact hL
theorem law_step {L x : Int} {M : Mem} (x0 : 0 ≤ x) (xL : x ≤ L) (L1 : L ≤ 3072) (h : LW L M) (hn : ∀ M2, LW L M2 → x + 6 ≤ L → wp 0 yL_law 18 [some (Rv 0), some (Rv 1), some (Rv 88), some (Iv (x + 6))] [] M2 (fun v _ => v = Iv 1)) : wp 0 yL_law 18 [some (Rv 0), some (Rv 1), some (Rv 88), some (Iv x)] [] M (fun v _ => v = Iv 1) := by
  have hi := h.2.1
  have eL := h.2.2
  have m6 := Int.emod_nonneg (M 0 x) (show (2 : Int) ^ 6 ≠ 0 by decide)
  have m7 := Int.emod_lt_of_pos (M 0 x) (show (0 : Int) < 2 ^ 6 by decide)
  have p6 : (2 : Int) ^ 6 = 64 := by decide
  by_cases c : L - 6 < x
  · exact gL_law_18 ⟨⟨by omega, by omega⟩, by rw [eL]; exact ⟨by omega, by omega⟩, fun _ => rfl, fun q => absurd q (by rw [eL]; omega)⟩
  have xl : x + 6 ≤ L := by omega
  have nx : ∀ M2, LW L M2 → wp 0 yL_law 18 [some (Rv 0), some (Rv 1), some (Rv 88), some (Iv (x + 6))] [] M2 (fun v _ => v = Iv 1) := fun M2 h2 => hn M2 h2 xl
  have b1 : x + 1 < M (-2) 0 := by omega
  have b2 : x + 2 < M (-2) 0 := by omega
  have b3 : x + 3 < M (-2) 0 := by omega
  have b4 : x + 4 < M (-2) 0 := by omega
  have b5 : x + 5 < M (-2) 0 := by omega
  have i1 : inr (x + 1) := ⟨by omega, by omega⟩
  have i2 : inr (x + 2) := ⟨by omega, by omega⟩
  have i3 : inr (x + 3) := ⟨by omega, by omega⟩
  have i4 : inr (x + 4) := ⟨by omega, by omega⟩
  have i5 : inr (x + 5) := ⟨by omega, by omega⟩
  have z1 : 0 ≤ x + 1 := by omega
  have z2 : 0 ≤ x + 2 := by omega
  have z3 : 0 ≤ x + 3 := by omega
  have z4 : 0 ≤ x + 4 := by omega
  have z5 : 0 ≤ x + 5 := by omega
  refine gL_law_18 ⟨⟨by omega, by omega⟩, by rw [eL]; exact ⟨by omega, by omega⟩, fun _ => rfl, fun _ => ⟨x0, by omega, ⟨by omega, by omega⟩, fun _ => nx M h, ?_, ?_, ?_, ?_, ?_, ?_, ?_, ?_, ?_, ?_, ?_, ?_, ?_, ?_, ?_, ?_, ?_, ?_, ?_, ?_, ?_, ?_, ?_, ?_, ?_, ?_, ?_, ?_, ?_, ?_, ?_, ?_, ?_, ?_, ?_, ?_, ?_, ?_, ?_, ?_, ?_, ?_, ?_, ?_, ?_, ?_, ?_, ?_⟩⟩
  · exact fun _ => ⟨z1, b1, i1, z2, b2, i2, l_int h (fun S hW => op_row hW (hi _) (hi _)) nx (fun z M1 e0 e2 hc => ⟨(by rw [e2]; exact b1), (by rw [e2]; exact b2), (by rw [e0]; exact hc)⟩)⟩
  · exact fun _ => ⟨z1, b1, i1, z2, b2, i2, z3, b3, i3, l_int h (fun S hW => op_lay hW (hi _) (hi _) (hi _)) nx (fun z M1 e0 e2 hc => ⟨(by rw [e2]; exact b1), (by rw [e2]; exact b2), (by rw [e2]; exact b3), (by rw [e0]; exact hc)⟩)⟩
  · exact fun _ => ⟨z1, b1, i1, z2, b2, i2, l_int h (fun S hW => op_at hW (hi _) (hi _)) nx (fun z M1 e0 e2 hc => ⟨(by rw [e2]; exact b1), (by rw [e2]; exact b2), (by rw [e0]; exact hc)⟩)⟩
  · exact fun _ => ⟨z1, b1, i1, l_int h (fun S hW => op_tear hW (hi _)) nx (fun z M1 e0 e2 hc => ⟨(by rw [e2]; exact b1), (by rw [e0]; exact hc)⟩)⟩
  · exact fun _ => ⟨z1, b1, i1, z2, b2, i2, z3, b3, i3, z4, b4, i4, z5, b5, i5, l_int h (fun S hW => op_copy hW (hi _) (hi _) (hi _) (hi _) (hi _)) nx (fun z M1 e0 e2 hc => ⟨(by rw [e2]; exact b1), (by rw [e2]; exact b2), (by rw [e2]; exact b3), (by rw [e2]; exact b4), (by rw [e2]; exact b5), (by rw [e0]; exact hc)⟩)⟩
  · exact fun _ => ⟨z1, b1, i1, l_int h (fun S hW => op_mean hW (hi _)) nx (fun z M1 e0 e2 hc => ⟨(by rw [e2]; exact b1), (by rw [e0]; exact hc)⟩)⟩
  · exact fun _ => ⟨z1, b1, i1, z2, b2, i2, l_int h (fun S hW => op_text hW (hi _) (hi _)) nx (fun z M1 e0 e2 hc => ⟨(by rw [e2]; exact b1), (by rw [e2]; exact b2), (by rw [e0]; exact hc)⟩)⟩
  · exact fun _ => ⟨z1, b1, i1, z2, b2, i2, z3, b3, i3, l_int h (fun S hW => op_put hW (hi _) (hi _) (hi _)) nx (fun z M1 e0 e2 hc => ⟨(by rw [e2]; exact b1), (by rw [e2]; exact b2), (by rw [e2]; exact b3), (by rw [e0]; exact hc)⟩)⟩
  · exact fun _ => ⟨z1, b1, i1, l_int h (fun S hW => op_letters hW (hi _)) nx (fun z M1 e0 e2 hc => ⟨(by rw [e2]; exact b1), (by rw [e0]; exact hc)⟩)⟩
  · exact fun _ => ⟨z1, b1, i1, z2, b2, i2, l_int h (fun S hW => op_word hW (hi _) (hi _)) nx (fun z M1 e0 e2 hc => ⟨(by rw [e2]; exact b1), (by rw [e2]; exact b2), (by rw [e0]; exact hc)⟩)⟩
  · exact fun _ => ⟨z1, b1, i1, l_int h (fun S hW => op_fault hW (hi _)) nx (fun z M1 e0 e2 hc => ⟨(by rw [e2]; exact b1), (by rw [e0]; exact hc)⟩)⟩
  · exact fun _ => ⟨z1, b1, i1, z2, b2, i2, l_int h (fun S hW => op_tell hW (hi _) (hi _)) nx (fun z M1 e0 e2 hc => ⟨(by rw [e2]; exact b1), (by rw [e2]; exact b2), (by rw [e0]; exact hc)⟩)⟩
  · exact fun _ => ⟨z1, b1, i1, z2, b2, i2, z3, b3, i3, l_int h (fun S hW => op_join hW (hi _) (hi _) (hi _)) nx (fun z M1 e0 e2 hc => ⟨(by rw [e2]; exact b1), (by rw [e2]; exact b2), (by rw [e2]; exact b3), (by rw [e0]; exact hc)⟩)⟩
  · exact fun _ => ⟨z1, b1, i1, z2, b2, i2, z3, b3, i3, z4, b4, i4, l_int h (fun S hW => op_part hW (hi _) (hi _) (hi _) (hi _)) nx (fun z M1 e0 e2 hc => ⟨(by rw [e2]; exact b1), (by rw [e2]; exact b2), (by rw [e2]; exact b3), (by rw [e2]; exact b4), (by rw [e0]; exact hc)⟩)⟩
  · exact fun _ => ⟨z1, b1, i1, z2, b2, i2, z3, b3, i3, l_int h (fun S hW => op_turn hW (hi _) (hi _) (hi _)) nx (fun z M1 e0 e2 hc => ⟨(by rw [e2]; exact b1), (by rw [e2]; exact b2), (by rw [e2]; exact b3), (by rw [e0]; exact hc)⟩)⟩
  · exact fun _ => ⟨z1, b1, i1, z2, b2, i2, z3, b3, i3, l_int h (fun S hW => op_drop hW (hi _) (hi _) (hi _)) nx (fun z M1 e0 e2 hc => ⟨(by rw [e2]; exact b1), (by rw [e2]; exact b2), (by rw [e2]; exact b3), (by rw [e0]; exact hc)⟩)⟩
  · exact fun _ => ⟨z1, b1, i1, l_int h (fun S hW => op_erase hW (hi _)) nx (fun z M1 e0 e2 hc => ⟨(by rw [e2]; exact b1), (by rw [e0]; exact hc)⟩)⟩
  · exact fun _ => ⟨z1, b1, i1, l_int h (fun S hW => op_size hW (hi _)) nx (fun z M1 e0 e2 hc => ⟨(by rw [e2]; exact b1), (by rw [e0]; exact hc)⟩)⟩
  · exact fun _ => ⟨z1, b1, i1, z2, b2, i2, l_int h (fun S hW => op_letter hW (hi _) (hi _)) nx (fun z M1 e0 e2 hc => ⟨(by rw [e2]; exact b1), (by rw [e2]; exact b2), (by rw [e0]; exact hc)⟩)⟩
  · exact fun _ => ⟨z1, b1, i1, l_int h (fun S hW => op_kind hW (hi _)) nx (fun z M1 e0 e2 hc => ⟨(by rw [e2]; exact b1), (by rw [e0]; exact hc)⟩)⟩
  · exact fun _ => ⟨z1, b1, i1, z2, b2, i2, l_int h (fun S hW => op_mark hW (hi _) (hi _)) nx (fun z M1 e0 e2 hc => ⟨(by rw [e2]; exact b1), (by rw [e2]; exact b2), (by rw [e0]; exact hc)⟩)⟩
  · exact fun _ => ⟨z1, b1, i1, z2, b2, i2, l_int h (fun S hW => op_ways hW (hi _) (hi _)) nx (fun z M1 e0 e2 hc => ⟨(by rw [e2]; exact b1), (by rw [e2]; exact b2), (by rw [e0]; exact hc)⟩)⟩
  · exact fun _ => ⟨z1, b1, i1, z2, b2, i2, z3, b3, i3, z4, b4, i4, hi _, (fun q => l_int h (fun S hW => op_way hW (hi _) (hi _) (hi _) (show inr 0 by decide)) nx (fun z M1 e0 e2 hc => ⟨(by rw [e2]; exact b1), (by rw [e2]; exact b2), (by rw [e2]; exact b3), (by rw [e2]; exact b4), (by rw [e0]; exact hi _), fun _ => (by rw [e0]; exact hc), fun q2 => absurd (by rw [e0]; exact q) q2⟩)), (fun q => l_int h (fun S hW => op_way hW (hi _) (hi _) (hi _) (show inr 1 by decide)) nx (fun z M1 e0 e2 hc => ⟨(by rw [e2]; exact b1), (by rw [e2]; exact b2), (by rw [e2]; exact b3), (by rw [e2]; exact b4), (by rw [e0]; exact hi _), fun q2 => absurd (by rw [e0] at q2; exact q2) q, fun _ => (by rw [e0]; exact hc)⟩))⟩
  · exact fun _ => ⟨z1, b1, i1, z2, b2, i2, z3, b3, i3, hi _, (fun q => l_int h (fun S hW => op_places hW (hi _) (hi _) (show inr 0 by decide)) nx (fun z M1 e0 e2 hc => ⟨(by rw [e2]; exact b1), (by rw [e2]; exact b2), (by rw [e2]; exact b3), (by rw [e0]; exact hi _), fun _ => (by rw [e0]; exact hc), fun q2 => absurd (by rw [e0]; exact q) q2⟩)), (fun q => l_int h (fun S hW => op_places hW (hi _) (hi _) (show inr 1 by decide)) nx (fun z M1 e0 e2 hc => ⟨(by rw [e2]; exact b1), (by rw [e2]; exact b2), (by rw [e2]; exact b3), (by rw [e0]; exact hi _), fun q2 => absurd (by rw [e0] at q2; exact q2) q, fun _ => (by rw [e0]; exact hc)⟩))⟩
  · exact fun _ => ⟨z1, b1, i1, z2, b2, i2, z3, b3, i3, l_int h (fun S hW => op_judge hW (hi _) (hi _) (hi _)) nx (fun z M1 e0 e2 hc => ⟨(by rw [e2]; exact b1), (by rw [e2]; exact b2), (by rw [e2]; exact b3), (by rw [e0]; exact hc)⟩)⟩
  · exact fun _ => ⟨z1, b1, i1, z2, b2, i2, l_int h (fun S hW => op_bar hW (hi _) (hi _)) nx (fun z M1 e0 e2 hc => ⟨(by rw [e2]; exact b1), (by rw [e2]; exact b2), (by rw [e0]; exact hc)⟩)⟩
  · exact fun _ => ⟨z1, b1, i1, z2, b2, i2, l_int h (fun S hW => op_inner hW (hi _) (hi _)) nx (fun z M1 e0 e2 hc => ⟨(by rw [e2]; exact b1), (by rw [e2]; exact b2), (by rw [e0]; exact hc)⟩)⟩
  · exact fun _ => ⟨z1, b1, i1, z2, b2, i2, l_int h (fun S hW => op_rank hW (hi _) (hi _)) nx (fun z M1 e0 e2 hc => ⟨(by rw [e2]; exact b1), (by rw [e2]; exact b2), (by rw [e0]; exact hc)⟩)⟩
  · exact fun _ => ⟨z1, b1, i1, z2, b2, i2, z3, b3, i3, z4, b4, i4, l_int h (fun S hW => op_byRank hW (hi _) (hi _) (hi _) (hi _)) nx (fun z M1 e0 e2 hc => ⟨(by rw [e2]; exact b1), (by rw [e2]; exact b2), (by rw [e2]; exact b3), (by rw [e2]; exact b4), (by rw [e0]; exact hc)⟩)⟩
  · exact fun _ => ⟨z1, b1, i1, l_int h (fun S hW => op_arches hW (hi _)) nx (fun z M1 e0 e2 hc => ⟨(by rw [e2]; exact b1), (by rw [e0]; exact hc)⟩)⟩
  · exact fun _ => ⟨z1, b1, i1, z2, b2, i2, l_int h (fun S hW => op_absent hW (hi _) (hi _)) nx (fun z M1 e0 e2 hc => ⟨(by rw [e2]; exact b1), (by rw [e2]; exact b2), (by rw [e0]; exact hc)⟩)⟩
  · exact fun _ => ⟨z1, b1, i1, z2, b2, i2, l_int h (fun S hW => op_added hW (hi _) (hi _)) nx (fun z M1 e0 e2 hc => ⟨(by rw [e2]; exact b1), (by rw [e2]; exact b2), (by rw [e0]; exact hc)⟩)⟩
  · exact fun _ => ⟨z1, b1, i1, z2, b2, i2, z3, b3, i3, l_int h (fun S hW => op_alike hW (hi _) (hi _) (hi _)) nx (fun z M1 e0 e2 hc => ⟨(by rw [e2]; exact b1), (by rw [e2]; exact b2), (by rw [e2]; exact b3), (by rw [e0]; exact hc)⟩)⟩
  · exact fun _ => ⟨z1, b1, i1, z2, b2, i2, z3, b3, i3, l_int h (fun S hW => op_parting hW (hi _) (hi _) (hi _)) nx (fun z M1 e0 e2 hc => ⟨(by rw [e2]; exact b1), (by rw [e2]; exact b2), (by rw [e2]; exact b3), (by rw [e0]; exact hc)⟩)⟩
  · exact fun _ => ⟨z1, b1, i1, z2, b2, i2, l_int h (fun S hW => op_common hW (hi _) (hi _)) nx (fun z M1 e0 e2 hc => ⟨(by rw [e2]; exact b1), (by rw [e2]; exact b2), (by rw [e0]; exact hc)⟩)⟩
  · exact fun _ => ⟨z1, b1, i1, z2, b2, i2, l_int h (fun S hW => op_cover hW (hi _) (hi _)) nx (fun z M1 e0 e2 hc => ⟨(by rw [e2]; exact b1), (by rw [e2]; exact b2), (by rw [e0]; exact hc)⟩)⟩
  · exact fun _ => ⟨z1, b1, i1, z2, b2, i2, l_int h (fun S hW => op_both hW (hi _) (hi _)) nx (fun z M1 e0 e2 hc => ⟨(by rw [e2]; exact b1), (by rw [e2]; exact b2), (by rw [e0]; exact hc)⟩)⟩
  · exact fun _ => ⟨z1, b1, i1, z2, b2, i2, z3, b3, i3, l_int h (fun S hW => op_twins hW (hi _) (hi _) (hi _)) nx (fun z M1 e0 e2 hc => ⟨(by rw [e2]; exact b1), (by rw [e2]; exact b2), (by rw [e2]; exact b3), (by rw [e0]; exact hc)⟩)⟩
  · exact fun _ => ⟨z1, b1, i1, z2, b2, i2, l_int h (fun S hW => op_odds hW (hi _) (hi _)) nx (fun z M1 e0 e2 hc => ⟨(by rw [e2]; exact b1), (by rw [e2]; exact b2), (by rw [e0]; exact hc)⟩)⟩
  · exact fun _ => ⟨z1, b1, i1, z2, b2, i2, l_int h (fun S hW => op_byChance hW (hi _) (hi _)) nx (fun z M1 e0 e2 hc => ⟨(by rw [e2]; exact b1), (by rw [e2]; exact b2), (by rw [e0]; exact hc)⟩)⟩
  · exact fun _ => l_int h (fun S hW => op_asked hW) nx (fun z M1 e0 e2 hc => hc)
  · exact fun _ => l_long h (fun S hW => op_many hW) nx (fun z M1 e0 e2 hc => hc)
  · exact fun _ => l_long h (fun S hW => op_upper hW) nx (fun z M1 e0 e2 hc => hc)
  · exact fun _ => l_long h (fun S hW => op_lower hW) nx (fun z M1 e0 e2 hc => hc)
  · exact fun _ => ⟨z1, b1, i1, l_int h (fun S hW => op_count hW (hi _)) nx (fun z M1 e0 e2 hc => ⟨(by rw [e2]; exact b1), (by rw [e0]; exact hc)⟩)⟩
  · exact fun _ => l_int h (fun S hW => op_finding hW) nx (fun z M1 e0 e2 hc => hc)
  · exact fun _ => ⟨z1, b1, i1, l_int h (fun S hW => op_findings hW (hi _)) nx (fun z M1 e0 e2 hc => ⟨(by rw [e2]; exact b1), (by rw [e0]; exact hc)⟩)⟩
  · exact fun _ => l_long h (fun S hW => op_digest hW) nx (fun z M1 e0 e2 hc => hc)
theorem law_main {L : Int} {M : Mem} (L1 : L ≤ 3072) (h : LW L M) : ∀ (d : Nat) (x : Int), (L - x).toNat = d → 0 ≤ x → x ≤ L → ∀ M2, LW L M2 → wp 0 yL_law 18 [some (Rv 0), some (Rv 1), some (Rv 88), some (Iv x)] [] M2 (fun v _ => v = Iv 1) := by
  intro d
  induction d using Nat.strongRecOn with
  | _ d ih =>
    intro x hd x0 x1 M2 h2
    exact law_step x0 x1 L1 h2 (fun M3 h3 x6 => ih (L - (x + 6)).toNat (by omega) (x + 6) rfl (by omega) x6 M3 h3)
def S00 : Mem := fun a k => if a = 0 then (if k = 0 then 3 else if k = 4 then 1 else 0) else if 10 ≤ a ∧ k = -1 then -1 else 0
theorem S00_w : WF S00 := by
  have e : ∀ a, 10 ≤ a → S00 a (-1) = -1 := fun a ha => by
    unfold S00
    rw [if_neg (by omega), if_pos ⟨ha, rfl⟩]
  have e2 : ∀ a k, 10 ≤ a → k ≠ -1 → S00 a k = 0 := fun a k ha hk => by
    unfold S00
    rw [if_neg (by omega), if_neg (fun q => hk q.2)]
  refine ⟨fun r r0 r1 => ?_, fun t t0 t1 => ?_, fun w w0 w1 => ?_, by decide, by decide⟩
  · rw [e _ (by omega)]
    exact ⟨by decide, by decide, fun i i0 i1 => absurd i1 (by omega)⟩
  · rw [e _ (by omega)]
    exact ⟨by decide, by decide, fun i i0 i1 => absurd i1 (by omega)⟩
  · rw [e _ (by omega), e2 _ (-2) (by omega) (by decide), e2 _ (-3) (by omega) (by decide), e2 _ (-4) (by omega) (by decide)]
    exact ⟨by decide, by decide, by decide, fun i i0 i1 => absurd i1 (by omega)⟩
set_option maxRecDepth 20000 in
theorem S00_x (M : Mem) (hm : M (-1) 0 = 0) : X S00 (mSt M) := by
  refine ⟨fun r r0 r1 => ?_, fun t t0 t1 => ?_, fun w w0 w1 => ?_, ⟨rfl, rfl, rfl, rfl, rfl, rfl⟩, fun f f0 f1 => ?_, ⟨fun i _ _ => rfl, fun i _ _ => rfl, fun i _ _ => rfl⟩, fun i _ _ => ?_, Or.inl ⟨rfl, hm⟩⟩
  · have c : r = 0 ∨ r = 1 ∨ r = 2 ∨ r = 3 ∨ r = 4 ∨ r = 5 := by omega
    rcases c with rfl | rfl | rfl | rfl | rfl | rfl
    all_goals exact ⟨rfl, fun i i0 i1 => absurd i1 (by show ¬ i < -1; omega)⟩
  · have c : t = 0 ∨ t = 1 ∨ t = 2 ∨ t = 3 := by omega
    rcases c with rfl | rfl | rfl | rfl
    all_goals exact ⟨rfl, fun i i0 i1 => absurd i1 (by show ¬ i < -1; omega)⟩
  · have c : w = 0 ∨ w = 1 ∨ w = 2 ∨ w = 3 ∨ w = 4 ∨ w = 5 ∨ w = 6 ∨ w = 7 := by omega
    rcases c with rfl | rfl | rfl | rfl | rfl | rfl | rfl | rfl
    all_goals exact ⟨⟨rfl, rfl, rfl⟩, rfl, fun i i0 i1 => absurd i1 (by show ¬ i < -1; omega)⟩
  · have c : f = 1 ∨ f = 2 ∨ f = 3 ∨ f = 4 ∨ f = 5 := by omega
    rcases c with rfl | rfl | rfl | rfl | rfl
    all_goals rfl
  · show (0 : Int) ≤ 0 ∧ (0 : Int) ≤ 1000
    decide
set_option maxRecDepth 20000 in
theorem S00_y (M : Mem) : Y S00 (mSt M) := by
  refine ⟨fun r r0 r1 => ?_, fun t t0 t1 => ?_, fun w w0 w1 => ?_, ⟨rfl, rfl, rfl, rfl, rfl, rfl⟩, fun f f0 f1 => ?_⟩
  · have c : r = 0 ∨ r = 1 ∨ r = 2 ∨ r = 3 ∨ r = 4 ∨ r = 5 := by omega
    rcases c with rfl | rfl | rfl | rfl | rfl | rfl
    all_goals exact ⟨rfl, fun i i0 i1 => absurd i1 (by show ¬ i < -1; omega)⟩
  · have c : t = 0 ∨ t = 1 ∨ t = 2 ∨ t = 3 := by omega
    rcases c with rfl | rfl | rfl | rfl
    all_goals exact ⟨rfl, fun i i0 i1 => absurd i1 (by show ¬ i < -1; omega)⟩
  · have c : w = 0 ∨ w = 1 ∨ w = 2 ∨ w = 3 ∨ w = 4 ∨ w = 5 ∨ w = 6 ∨ w = 7 := by omega
    rcases c with rfl | rfl | rfl | rfl | rfl | rfl | rfl | rfl
    all_goals exact ⟨⟨rfl, rfl, rfl⟩, rfl, fun i i0 i1 => absurd i1 (by show ¬ i < -1; omega)⟩
  · have c : f = 1 ∨ f = 2 ∨ f = 3 ∨ f = 4 ∨ f = 5 := by omega
    rcases c with rfl | rfl | rfl | rfl | rfl
    all_goals rfl
set_option maxRecDepth 20000 in
theorem law_all {L : Nat} {xs : Nat → Int32} (hL : L ≤ 3072) : wp 0 yL_law 18 [some (Rv 0), some (Rv 1), some (Rv 88), some (Iv 0)] [] (mSt (M0 L xs)) (fun v _ => v = Iv 1) := by
  have h : LW (L : Int) (mSt (M0 L xs)) := by
    refine ⟨⟨S00, S00_w, S00_x _ rfl, S00_y _⟩, fun j => ?_, rfl⟩
    show inr (xs j.toNat).toInt
    exact ⟨Int32.le_toInt _, Int32.toInt_lt _⟩
  exact law_main (by omega) h _ 0 rfl (Int.le_refl 0) (by omega) _ h
