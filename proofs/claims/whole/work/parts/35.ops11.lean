/-! 26 judge -/
def prv (R : Int → Int) (i : Int) : Int := if i = 0 then -1 else R (i - 1)
def jok (W V R : Int → Int) (nw i : Int) : Prop := prv R i < R i ∧ R i < nw ∧ W (R i) = V i
def jg (W V R : Int → Int) (nw n : Int) : Prop := ∀ i, 0 ≤ i → i < n → jok W V R nw i
theorem jg_s {W V R : Int → Int} {nw n : Int} (h : jg W V R nw n) (h2 : jok W V R nw n) : jg W V R nw (n + 1) := fun i i0 i1 => by
  by_cases c : i = n
  · rw [c]; exact h2
  · exact h i i0 (by omega)
theorem prv_s {R : Int → Int} {x : Int} (h : 0 ≤ x) : prv R (x + 1) = R x := by
  unfold prv
  rw [if_neg (by omega), show x + 1 - 1 = x by omega]
theorem c_isWay {M : Mem} {a0 a1 a2 nw nv nr k : Int} {W V R : Int → Int} {Q : Vl → Mem → Prop} (h0 : isL a0 40) (h1 : isL a1 40) (h2 : isL a2 40) (l0 : lnX M a0 nw W) (l1 : lnX M a1 nv V) (l2 : lnX M a2 nr R) (b0 : wdB nw W k) (b1 : wdB nv V k) (r0 : 0 ≤ nr) (r1 : nr ≤ 40) (hr : ∀ i, 0 ≤ i → i < nr → inr (R i)) (hy : nr = nv ∧ jg W V R nw nv → Q (Iv 1) M) (hn : ¬ (nr = nv ∧ jg W V R nw nv) → Q (Iv 0) M) : cl 0 yX7_isWay [Rv a0, Rv a1, Rv a2] M Q := by
  obtain ⟨n0, n1, k0, k1, hw⟩ := b0
  obtain ⟨m0, m1, -, -, hv⟩ := b1
  obtain ⟨e0, f0⟩ := l0
  obtain ⟨e1, f1⟩ := l1
  obtain ⟨e2, f2⟩ := l2
  refine eX7_isWay h0 h1 h2 ⟨Or.inr ⟨⟨by omega, by omega⟩, ⟨by omega, by omega⟩⟩, fun q => ?_, fun q => hn (fun q2 => q (by omega))⟩
  refine up_ind (P := fun x => jg W V R nw x → -1 ≤ prv R x → inr (prv R x) → wp 0 yX7_isWay 18 [some (Rv a0), some (Rv a1), some (Rv a2), some (Iv (prv R x)), some (Iv x), none] [] M Q) (a := 0) (n := nv) m0 (fun hj p1 p2 => ?_) (fun x x0 x1 ih hj p1 p2 => ?_) (fun i i0 i1 => absurd i1 (by omega)) (by unfold prv; rw [if_pos rfl]; decide) (by unfold prv; rw [if_pos rfl]; decide)
  · exact gX7_isWay_18 h0 h1 h2 ⟨⟨by omega, by omega⟩, ⟨by omega, by omega⟩, fun _ => hy ⟨by omega, hj⟩, fun q => absurd q (by omega)⟩
  · have fr := f2 x x0 (by omega)
    have ir := hr x x0 (by omega)
    have fv := f1 x x0 x1
    have bv := hv x x0 x1
    refine gX7_isWay_18 h0 h1 h2 ⟨⟨by omega, by omega⟩, ⟨by omega, by omega⟩, fun q => absurd q (by omega), fun _ => ⟨x0, by omega, by rw [fr]; exact ir, p2, fun q2 => hn (fun q3 => ?_), fun q2 => c_has h0 (by rw [fr]; exact ir) ⟨by omega, by omega⟩ (fun q3 => ⟨fun _ => hn (fun q4 => ?_), fun q => absurd rfl q⟩) (fun q3 => ⟨fun q => absurd q (by decide), fun _ => ?_⟩)⟩⟩
    · have := (q3.2 x x0 x1).1
      omega
    · have := (q4.2 x x0 x1).2.1
      omega
    · rw [fr] at q2 q3 ⊢
      have fw := f0 (R x) q3.1 (by omega)
      have bw := hw (R x) q3.1 (by omega)
      refine ⟨q3.1, by omega, ir, by omega, Or.inr ⟨⟨by omega, by omega⟩, ⟨by omega, by omega⟩⟩, fun q4 => ?_, fun q4 => hn (fun q5 => ?_)⟩
      · have hx : jok W V R nw x := ⟨q2, by omega, by rw [← fw, ← fv]; exact q4⟩
        have := ih (jg_s hj hx) (by rw [prv_s x0]; omega) (by rw [prv_s x0]; exact ir)
        rw [prv_s x0] at this
        exact this
      · exact q4 (by rw [fw, fv]; exact (q5.2 x x0 x1).2.2)
theorem op_judge {S : Mem} (hW : WF S) {w v r : Int} (hw : inr w) (hv : inr v) (hr : inr r) : OpOK S yX11_judge yX12_judge [Iv w, Iv v, Iv r] Iv := by
  by_cases c1 : (w < 0 ∨ 8 ≤ w) ∨ (v < 0 ∨ 8 ≤ v) ∨ (r < 0 ∨ 6 ≤ r)
  · refine ⟨-1, S, hW, fun M hX => eX11_judge ?_, fun M hY => eX12_judge ?_⟩
    · repeat' first
        | omega
        | exact px_rf hX _
        | exact px_fnd hX _ (by decide) (by decide)
        | refine c_noRow ?_ (fun q => ?_) (fun q => ?_)
        | refine c_noText ?_ (fun q => ?_) (fun q => ?_)
        | refine c_noWord ?_ (fun q => ?_) (fun q => ?_)
        | refine c_noLength ?_ (fun q => ?_) (fun q => ?_)
        | refine c_found (by decide) ?_
        | refine c_refuseRow hW hX ?_ (fun q => ?_) (fun q => ?_) (fun q => ?_)
        | refine c_refusePlace hW hX ?_ ?_ (fun q => ?_) (fun q => ?_) (fun q => ?_) (fun q => ?_)
        | refine c_refuseText hW hX ?_ (fun q => ?_) (fun q => ?_) (fun q => ?_)
        | refine c_refuseWords hW hX ?_ ?_ (fun q => ?_) (fun q => ?_) (fun q => ?_)
        | refine c_refuseWord hW hX ?_ (fun q => ?_) (fun q => ?_) (fun q => ?_)
        | refine c_has hL ?_ ?_ (fun q => ?_) (fun q => ?_)
        | refine c_isMissing hL ?_ (fun q => ?_) (fun q => ?_)
        | refine c_reaches hL ?_ ?_ (fun q => ?_) (fun q => ?_)
        | refine c_has hL2 ?_ ?_ (fun q => ?_) (fun q => ?_)
        | refine c_isMissing hL2 ?_ (fun q => ?_) (fun q => ?_)
        | refine c_reaches hL2 ?_ ?_ (fun q => ?_) (fun q => ?_)
        | refine c_is hWd ?_ ?_ (fun q => ?_) (fun q => ?_)
        | refine c_markOf hWd ?_ (fun q => ?_) (fun q => ?_)
        | with_reducible refine ⟨?_, ?_⟩
        | with_reducible intro q
    · repeat' first
        | omega
        | exact py_rf hY _
        | exact py_fnd hY _ (by decide) (by decide)
        | refine m_isRow ?_ (fun q => ?_) (fun q => ?_)
        | refine m_isText ?_ (fun q => ?_) (fun q => ?_)
        | refine m_isWord ?_ (fun q => ?_) (fun q => ?_)
        | refine m_in ?_ ?_ ?_ (fun q => ?_) (fun q => ?_)
        | refine m_meets (by decide) ?_
        | refine m_needWord hW hY ?_ ?_ (fun q => ?_) (fun q => ?_) (fun q => ?_)
        | refine m_needTwo hW hY ?_ ?_ ?_ (fun q => ?_) (fun q => ?_) (fun q => ?_)
        | refine m_isThere ?_ ?_ ?_ (fun q => ?_) (fun q => ?_)
        | refine m_at0 ?_ ?_ ?_
        | refine m_rowAt ?_ ?_ ?_
        | refine m_markOf ?_ ?_ ?_ (fun q => ?_) (fun q => ?_) (fun q => ?_)
        | with_reducible refine ⟨?_, ?_⟩
        | with_reducible intro q
  have w0 : 0 ≤ w := by omega
  have w8 : w < 8 := by omega
  have v0 : 0 ≤ v := by omega
  have v8 : v < 8 := by omega
  have r0 : 0 ≤ r := by omega
  have r6 : r < 6 := by omega
  obtain ⟨u1, u2, u3⟩ := hW.1 r r0 r6
  obtain ⟨-, x1, x2, -⟩ := hW.2.2.1 w w0 w8
  obtain ⟨-, y1, y2, -⟩ := hW.2.2.1 v v0 v8
  have hL := isL_row r0 r6
  by_cases c3 : S (30 + w) (-1) < 0 ∨ S (30 + v) (-1) < 0 ∨ S (10 + r) (-1) < 0
  · refine ⟨-3, fS S 1, hW.fnd 1, fun M hX => eX11_judge ?_, fun M hY => eX12_judge ?_⟩
    · have e := (hX.1 r r0 r6).1
      repeat' first
        | omega
        | exact px_rf hX _
        | exact px_fnd hX _ (by decide) (by decide)
        | refine c_noRow ?_ (fun q => ?_) (fun q => ?_)
        | refine c_noText ?_ (fun q => ?_) (fun q => ?_)
        | refine c_noWord ?_ (fun q => ?_) (fun q => ?_)
        | refine c_noLength ?_ (fun q => ?_) (fun q => ?_)
        | refine c_found (by decide) ?_
        | refine c_refuseRow hW hX ?_ (fun q => ?_) (fun q => ?_) (fun q => ?_)
        | refine c_refusePlace hW hX ?_ ?_ (fun q => ?_) (fun q => ?_) (fun q => ?_) (fun q => ?_)
        | refine c_refuseText hW hX ?_ (fun q => ?_) (fun q => ?_) (fun q => ?_)
        | refine c_refuseWords hW hX ?_ ?_ (fun q => ?_) (fun q => ?_) (fun q => ?_)
        | refine c_refuseWord hW hX ?_ (fun q => ?_) (fun q => ?_) (fun q => ?_)
        | refine c_has hL ?_ ?_ (fun q => ?_) (fun q => ?_)
        | refine c_isMissing hL ?_ (fun q => ?_) (fun q => ?_)
        | refine c_reaches hL ?_ ?_ (fun q => ?_) (fun q => ?_)
        | refine c_has hL2 ?_ ?_ (fun q => ?_) (fun q => ?_)
        | refine c_isMissing hL2 ?_ (fun q => ?_) (fun q => ?_)
        | refine c_reaches hL2 ?_ ?_ (fun q => ?_) (fun q => ?_)
        | refine c_is hWd ?_ ?_ (fun q => ?_) (fun q => ?_)
        | refine c_markOf hWd ?_ (fun q => ?_) (fun q => ?_)
        | with_reducible refine ⟨?_, ?_⟩
        | with_reducible intro q
    · have e := (hY.1 r r0 r6).1
      have e2 := (hY.ln w0 w8).1
      have e3 := (hY.ln v0 v8).1
      repeat' first
        | omega
        | exact py_rf hY _
        | exact py_fnd hY _ (by decide) (by decide)
        | refine m_isRow ?_ (fun q => ?_) (fun q => ?_)
        | refine m_isText ?_ (fun q => ?_) (fun q => ?_)
        | refine m_isWord ?_ (fun q => ?_) (fun q => ?_)
        | refine m_in ?_ ?_ ?_ (fun q => ?_) (fun q => ?_)
        | refine m_meets (by decide) ?_
        | refine m_needWord hW hY ?_ ?_ (fun q => ?_) (fun q => ?_) (fun q => ?_)
        | refine m_needTwo hW hY ?_ ?_ ?_ (fun q => ?_) (fun q => ?_) (fun q => ?_)
        | refine m_isThere ?_ ?_ ?_ (fun q => ?_) (fun q => ?_)
        | refine m_at0 ?_ ?_ ?_
        | refine m_rowAt ?_ ?_ ?_
        | refine m_markOf ?_ ?_ ?_ (fun q => ?_) (fun q => ?_) (fun q => ?_)
        | with_reducible refine ⟨?_, ?_⟩
        | with_reducible intro q
  have bw := hW.wd w0 w8 (by omega)
  have bv := hW.wd v0 v8 (by omega)
  have yend : ∀ (a : Int), (∀ M, Y S M → a = 0 ∨ a = 1) → (((S (10 + r) (-1) = S (30 + v) (-1) ∧ jg (S (30 + w)) (S (30 + v)) (S (10 + r)) (S (30 + w) (-1)) (S (30 + v) (-1))) → a = 1) ∧ (¬ (S (10 + r) (-1) = S (30 + v) (-1) ∧ jg (S (30 + w)) (S (30 + v)) (S (10 + r)) (S (30 + w) (-1)) (S (30 + v) (-1))) → a = 0)) → OpOK S yX11_judge yX12_judge [Iv w, Iv v, Iv r] Iv := by
    intro a _ ha
    refine ⟨a, S, hW, fun M hX => eX11_judge ?_, fun M hY => eX12_judge ?_⟩
    · have e := (hX.1 r r0 r6).1
      refine c_noRow hr (fun q => absurd q (by omega)) (fun q => ⟨fun _ => c_refuseWords hW hX hw hv (fun q => absurd q (by omega)) (fun q => absurd q (by omega)) (fun q => ⟨by decide, fun _ => ⟨r0, r6, c_isMissing hL ⟨by omega, by omega⟩ (fun q2 => ⟨fun _ => ⟨w0, w8, v0, v8, ?_⟩, fun q => absurd rfl q⟩) (fun q2 => absurd q2 (by omega))⟩, fun q => absurd rfl q⟩), fun q => absurd rfl q⟩)
      refine c_isWay (isW_word w0 w8).l (isW_word v0 v8).l hL (hX.ln w0 w8) (hX.ln v0 v8) (hX.1 r r0 r6) bw bv (by omega) u2 u3 (fun q => ⟨fun q => absurd q (by decide), fun _ => ?_⟩) (fun q => ⟨fun _ => ?_, fun q => absurd rfl q⟩)
      · rw [ha.1 q]; exact px_rf hX _
      · rw [ha.2 q]; exact px_rf hX _
    · obtain ⟨e, f⟩ := hY.1 r r0 r6
      obtain ⟨e2, f2⟩ := hY.ln w0 w8
      obtain ⟨e3, f3⟩ := hY.ln v0 v8
      obtain ⟨n0, n1, k0, k1, hw'⟩ := bw
      obtain ⟨m0, m1, -, -, hv'⟩ := bv
      have bad : ∀ p x : Int, ¬ (S (10 + r) (-1) = S (30 + v) (-1) ∧ jg (S (30 + w)) (S (30 + v)) (S (10 + r)) (S (30 + w) (-1)) (S (30 + v) (-1))) → inr x → wp 0 yX12_judge 82 [some (Rv 88), some (Iv w), some (Iv v), some (Iv r), some (Iv 0), some (Iv p), some (Iv x), none] [] M (PY S (Iv a) M) := by
        intro p x hb hx
        refine gX12_judge_82 ⟨r0, r6, hx, ⟨by omega, by omega⟩, fun _ => ⟨by decide, fun _ => ?_, fun q => absurd rfl q⟩, fun _ => ⟨by decide, fun _ => ⟨fun _ => ?_, fun q => absurd rfl q⟩, fun q => absurd rfl q⟩⟩
        · rw [ha.2 hb]; exact py_rf hY _
        · rw [ha.2 hb]; exact py_rf hY _
      refine m_isWord hw (fun q => absurd q (by omega)) (fun _ => ⟨fun q => absurd q (by decide), fun _ => m_isWord hv (fun q => absurd q (by omega)) (fun _ => ⟨fun q => absurd q (by decide), fun _ => m_isRow hr (fun q => absurd q (by omega)) (fun _ => ⟨fun _ => m_isThere w0 w8 ⟨by omega, by omega⟩ (fun q => absurd q (by omega)) (fun _ => ⟨fun q => absurd q (by decide), fun _ => m_isThere v0 v8 ⟨by omega, by omega⟩ (fun q => absurd q (by omega)) (fun _ => ⟨fun q => absurd q (by decide), fun _ => ⟨r0, r6, ⟨by omega, by omega⟩, fun _ => ⟨v0, v8, Or.inr ⟨⟨by omega, by omega⟩, ⟨by omega, by omega⟩⟩, fun q => bad _ _ (fun q2 => q (by omega)) (by decide), fun q => ?_⟩, fun q => absurd q (by omega)⟩⟩)⟩), fun q => absurd q (by decide)⟩)⟩)⟩)
      refine up_ind (P := fun x => jg (S (30 + w)) (S (30 + v)) (S (10 + r)) (S (30 + w) (-1)) x → -1 ≤ prv (S (10 + r)) x → inr (prv (S (10 + r)) x) → wp 0 yX12_judge 82 [some (Rv 88), some (Iv w), some (Iv v), some (Iv r), some (Iv 1), some (Iv (prv (S (10 + r)) x)), some (Iv x), none] [] M (PY S (Iv a) M)) (a := 0) (n := S (30 + v) (-1)) m0 (fun hj p1 p2 => ?_) (fun x x0 x1 ih hj p1 p2 => ?_) (fun i i0 i1 => absurd i1 (by omega)) (by unfold prv; rw [if_pos rfl]; decide) (by unfold prv; rw [if_pos rfl]; decide)
      · refine gX12_judge_82 ⟨r0, r6, ⟨by omega, by omega⟩, ⟨by omega, by omega⟩, fun _ => ⟨by decide, fun q => absurd q (by decide), fun _ => ?_⟩, fun q => absurd q (by omega)⟩
        rw [ha.1 ⟨by omega, hj⟩]
        exact py_rf hY _
      · have fr := f x x0 (by omega)
        have ir := u3 x x0 (by omega)
        have fv := f3 x x0 x1
        have bv := hv' x x0 x1
        refine gX12_judge_82 ⟨r0, r6, ⟨by omega, by omega⟩, ⟨by omega, by omega⟩, fun q => absurd q (by omega), fun _ => ⟨by decide, fun q => absurd q (by decide), fun _ => m_rowAt (by omega) (by omega) ?_⟩⟩
        rw [fr]
        refine ⟨ir, p2, fun q2 => bad _ _ (fun q3 => ?_) ⟨by omega, by omega⟩, fun q2 => ⟨w0, w8, ⟨by omega, by omega⟩, fun q3 => bad _ _ (fun q4 => ?_) ⟨by omega, by omega⟩, fun q3 => m_at0 (by omega) (by omega) (m_at0 (by omega) (by omega) ?_)⟩⟩
        · have := (q3.2 x x0 x1).1
          omega
        · have := (q4.2 x x0 x1).2.1
          omega
        · have fw := f2 (S (10 + r) x) (by omega) (by omega)
          have bw := hw' (S (10 + r) x) (by omega) (by omega)
          rw [fw, fv]
          refine ⟨Or.inr ⟨⟨by omega, by omega⟩, ⟨by omega, by omega⟩⟩, fun q4 => bad _ _ (fun q5 => q4 (q5.2 x x0 x1).2.2) ⟨by omega, by omega⟩, fun q4 => ?_⟩
          have := ih (jg_s hj ⟨q2, by omega, q4⟩) (by rw [prv_s x0]; omega) (by rw [prv_s x0]; exact ir)
          rw [prv_s x0] at this
          exact this
  by_cases cj : S (10 + r) (-1) = S (30 + v) (-1) ∧ jg (S (30 + w)) (S (30 + v)) (S (10 + r)) (S (30 + w) (-1)) (S (30 + v) (-1))
  · exact yend 1 (fun _ _ => Or.inr rfl) ⟨fun _ => rfl, fun q => absurd cj q⟩
  · exact yend 0 (fun _ _ => Or.inl rfl) ⟨fun q => absurd q cj, fun _ => rfl⟩
/-! the first and the last way -/
theorem nx_sp {W : Int → Int} {n p x : Int} (h0 : 0 ≤ p) : (nx W n p x = -9 ∧ ∀ i, p ≤ i → i < n → W i ≠ x) ∨ (p ≤ nx W n p x ∧ nx W n p x < n ∧ W (nx W n p x) = x ∧ ∀ i, p ≤ i → i < nx W n p x → W i ≠ x) := by
  by_cases c : n ≤ p
  · rw [nx_end c]
    exact Or.inl ⟨rfl, fun i i0 i1 => absurd i1 (by omega)⟩
  · refine up_ind (P := fun p => (nx W n p x = -9 ∧ ∀ i, p ≤ i → i < n → W i ≠ x) ∨ (p ≤ nx W n p x ∧ nx W n p x < n ∧ W (nx W n p x) = x ∧ ∀ i, p ≤ i → i < nx W n p x → W i ≠ x)) (a := p) (n := n) (by omega) ?_ (fun y y0 y1 ih => ?_)
    · rw [nx_end (Int.le_refl _)]
      exact Or.inl ⟨rfl, fun i i0 i1 => absurd i1 (by omega)⟩
    · show (nx W n y x = -9 ∧ ∀ i, y ≤ i → i < n → W i ≠ x) ∨ (y ≤ nx W n y x ∧ nx W n y x < n ∧ W (nx W n y x) = x ∧ ∀ i, y ≤ i → i < nx W n y x → W i ≠ x)
      rw [nx_step y1]
      by_cases c2 : W y = x
      · rw [if_pos c2]
        exact Or.inr ⟨Int.le_refl _, y1, c2, fun i i0 i1 => absurd i1 (by omega)⟩
      · rw [if_neg c2]
        rcases ih with ⟨a1, a2⟩ | ⟨a1, a2, a3, a4⟩
        · refine Or.inl ⟨a1, fun i i0 i1 => ?_⟩
          by_cases c3 : i = y
          · rw [c3]; exact c2
          · exact a2 i (by omega) i1
        · refine Or.inr ⟨by omega, a2, a3, fun i i0 i1 => ?_⟩
          by_cases c3 : i = y
          · rw [c3]; exact c2
          · exact a4 i (by omega) i1
theorem nx_b {W : Int → Int} {n p x : Int} (h0 : 0 ≤ p) : nx W n p x = -9 ∨ (p ≤ nx W n p x ∧ nx W n p x < n ∧ W (nx W n p x) = x) := by
  rcases nx_sp (W := W) (n := n) (x := x) h0 with h | h
  · exact Or.inl h.1
  · exact Or.inr ⟨h.1, h.2.1, h.2.2.1⟩
theorem m_nextW {M : Mem} {w n p x k : Int} {W : Int → Int} {Q : Vl → Mem → Prop} (w0 : 0 ≤ w) (w8 : w < 8) (l : lnY M w n W) (b : wdB n W k) (hp : 0 ≤ p) (hp2 : p ≤ 41) (hx : inr x) (h : Q (Iv (nx W n p x)) M) : cl 0 yX12_next [Rv 88, Iv w, Iv p, Iv x] M Q := by
  obtain ⟨n0, n1, k0, k1, hw⟩ := b
  obtain ⟨e, f⟩ := l
  refine m_next w0 w8 hp hp2 ⟨by omega, by omega⟩ hx (fun i i0 i1 => ?_) ?_
  · rw [f i i0 (by omega)]
    have := hw i i0 (by omega)
    exact ⟨by omega, by omega⟩
  · rw [e, nx_cg (g := W) f _ p hp rfl]
    exact h
def frN (W V : Int → Int) (n : Int) : Nat → Int
  | 0 => 0
  | j + 1 => nx W n (frN W V n j) (V j) + 1
def fr (W V : Int → Int) (n j : Int) : Int := frN W V n j.toNat
def ea (W V : Int → Int) (n j : Int) : Int := nx W n (fr W V n j) (V j)
theorem fr_0 {W V : Int → Int} {n : Int} : fr W V n 0 = 0 := rfl
theorem fr_s {W V : Int → Int} {n j : Int} (h : 0 ≤ j) : fr W V n (j + 1) = ea W V n j + 1 := by
  unfold ea fr
  rw [show (j + 1).toNat = j.toNat + 1 by omega]
  show nx W n _ (V (j.toNat : Int)) + 1 = _
  rw [show ((j.toNat : Nat) : Int) = j by omega]
def stn (W V : Int → Int) (n m : Int) : Prop := ∀ j, 0 ≤ j → j < m → ea W V n j ≠ -9
theorem fr_b {W V : Int → Int} {n : Int} (hn : 0 ≤ n) : ∀ m : Nat, stn W V n m → 0 ≤ fr W V n m ∧ fr W V n m ≤ n := by
  intro m
  induction m with
  | zero => intro _; rw [show ((0 : Nat) : Int) = 0 from rfl, fr_0]; omega
  | succ m ih =>
    intro h
    have h1 := ih (fun j j0 j1 => h j j0 (by omega))
    have h2 := h m (by omega) (by omega)
    rw [show ((m + 1 : Nat) : Int) = (m : Int) + 1 by omega, fr_s (by omega)]
    have h3 := nx_b (W := W) (n := n) (x := V m) h1.1
    unfold ea at h2 ⊢
    omega
theorem ea_b {W V : Int → Int} {n m j : Int} (hn : 0 ≤ n) (h : stn W V n m) (j0 : 0 ≤ j) (j1 : j < m) : fr W V n j ≤ ea W V n j ∧ 0 ≤ fr W V n j ∧ ea W V n j < n ∧ W (ea W V n j) = V j := by
  have h1 := fr_b hn j.toNat (fun i i0 i1 => h i i0 (by omega)) (W := W) (V := V)
  rw [show ((j.toNat : Nat) : Int) = j by omega] at h1
  have h3 := nx_b (W := W) (n := n) (x := V j) h1.1
  have h2 := h j j0 j1
  unfold ea at h2 ⊢
  rcases h3 with h3 | h3
  · exact absurd h3 h2
  · exact ⟨h3.1, h1.1, h3.2.1, h3.2.2⟩
def pvN (W : Int → Int) (x : Int) : Nat → Int
  | 0 => -9
  | t + 1 => if W t = x then t else pvN W x t
def pv (W : Int → Int) (t x : Int) : Int := pvN W x (t + 1).toNat
theorem pv_s {W : Int → Int} {t x : Int} (h : 0 ≤ t) : pv W t x = if W t = x then t else pv W (t - 1) x := by
  unfold pv
  rw [show (t + 1).toNat = t.toNat + 1 by omega, show (t - 1 + 1).toNat = t.toNat by omega]
  show (if W (t.toNat : Int) = x then (t.toNat : Int) else pvN W x t.toNat) = _
  rw [show ((t.toNat : Nat) : Int) = t by omega]
theorem pv_sp {W : Int → Int} {t x e : Int} (h0 : 0 ≤ e) (h1 : e ≤ t) (he : W e = x) : e ≤ pv W t x ∧ pv W t x ≤ t ∧ W (pv W t x) = x := by
  refine dn_ind (P := fun t => e ≤ pv W t x ∧ pv W t x ≤ t ∧ W (pv W t x) = x) (a := e) (n := t) h1 ?_ (fun y y0 y1 ih => ?_)
  · show e ≤ pv W e x ∧ pv W e x ≤ e ∧ W (pv W e x) = x
    rw [pv_s h0, if_pos he]
    exact ⟨Int.le_refl _, Int.le_refl _, he⟩
  · show e ≤ pv W y x ∧ pv W y x ≤ y ∧ W (pv W y x) = x
    rw [pv_s (by omega)]
    by_cases c : W y = x
    · rw [if_pos c]
      exact ⟨by omega, Int.le_refl _, c⟩
    · rw [if_neg c]
      exact ⟨ih.1, by omega, ih.2.2⟩
def bkN (W V : Int → Int) (n m : Int) : Nat → Int
  | 0 => n - 1
  | c + 1 => pv W (bkN W V n m c) (V (m - 1 - c)) - 1
def bk (W V : Int → Int) (n m j : Int) : Int := bkN W V n m (m - j).toNat
def la (W V : Int → Int) (n m j : Int) : Int := pv W (bk W V n m (j + 1)) (V j)
theorem bk_e {W V : Int → Int} {n m : Int} : bk W V n m m = n - 1 := by
  unfold bk
  rw [Int.sub_self]
  rfl
theorem bk_s {W V : Int → Int} {n m j : Int} (h : j < m) : bk W V n m j = la W V n m j - 1 := by
  unfold la bk
  rw [show (m - j).toNat = (m - (j + 1)).toNat + 1 by omega]
  show pv W _ (V (m - 1 - ((m - (j + 1)).toNat : Int))) - 1 = _
  rw [show m - 1 - ((m - (j + 1)).toNat : Int) = j by omega]
theorem la_b {W V : Int → Int} {n m j : Int} (hn : 0 ≤ n) (h : stn W V n m) (j0 : 0 ≤ j) (j1 : j < m) : ea W V n j ≤ bk W V n m (j + 1) ∧ bk W V n m (j + 1) < n ∧ ea W V n j ≤ la W V n m j ∧ la W V n m j ≤ bk W V n m (j + 1) ∧ W (la W V n m j) = V j := by
  have key : ea W V n j ≤ bk W V n m (j + 1) ∧ bk W V n m (j + 1) < n := by
    refine up_ind (P := fun j => 0 ≤ j → ea W V n j ≤ bk W V n m (j + 1) ∧ bk W V n m (j + 1) < n) (a := j) (n := m - 1) (by omega) (fun q0 => ?_) (fun x x0 x1 ih q0 => ?_) j0
    · have := ea_b hn h q0 (by omega)
      rw [show m - 1 + 1 = m by omega, bk_e]
      omega
    · have h1 := ih (by omega)
      have h2 := ea_b hn h q0 (by omega)
      have h3 := ea_b hn h (show 0 ≤ x + 1 by omega) (by omega)
      rw [fr_s q0] at h3
      have h4 := pv_sp (W := W) (t := bk W V n m (x + 1 + 1)) (x := V (x + 1)) (e := ea W V n (x + 1)) (by omega) h1.1 h3.2.2.2
      rw [bk_s (by omega)]
      unfold la
      omega
  have h2 := ea_b hn h j0 j1
  have h4 := pv_sp (W := W) (t := bk W V n m (j + 1)) (x := V j) (e := ea W V n j) (by omega) key.1 h2.2.2.2
  exact ⟨key.1, key.2, h4.1, h4.2.1, h4.2.2⟩
