/-! 49 digest -/
theorem up_up {M : Mem} {a k v w : Int} : up (up M a k v) a k w = up M a k w := by
  funext b j
  unfold up
  by_cases h : b = a ∧ j = k
  · rw [if_pos h, if_pos h]
  · rw [if_neg h, if_neg h, if_neg h]
def foN (f : Int → Int → Int) (h : Int) : Nat → Int
  | 0 => h
  | n + 1 => f (foN f h n) n
def fo (f : Int → Int → Int) (h x : Int) : Int := foN f h x.toNat
theorem fo_0 {f : Int → Int → Int} {h : Int} : fo f h 0 = h := rfl
theorem fo_s {f : Int → Int → Int} {h x : Int} (hx : 0 ≤ x) : fo f h (x + 1) = f (fo f h x) x := by
  unfold fo
  rw [show (x + 1).toNat = x.toNat + 1 by omega]
  show f (foN f h x.toNat) (x.toNat : Int) = _
  rw [show (x.toNat : Int) = x by omega]
def dL (S : Mem) (a h : Int) : Int := mx (S a) (31 * h + S a (-1)) (S a (-1))
def dK (S : Mem) (w : Int) : Int := if S (30 + w) (-2) = 2 then S (30 + w) (-3) else S (30 + w) (-4)
def dW (S : Mem) (h w : Int) : Int := if S (30 + w) (-1) < 0 then dL S (30 + w) h else dL S (30 + w) (31 * (31 * h + S (30 + w) (-2)) + dK S w)
def dR (S : Mem) (h r : Int) : Int := dL S (10 + r) h
def dT (S : Mem) (h r : Int) : Int := dL S (20 + r) h
def dAll (S : Mem) : Int := fo (dT S) (fo (dR S) (fo (dW S) (mx (cN S) 17 6) 8) 6) 4
theorem c_mixInto {a h s : Int} {n : Nat} {S M : Mem} {Q : Vl → Mem → Prop} (hl : isL a n) (e : M a 1 = S s (-1)) (e1 : -1 ≤ S s (-1)) (e2 : S s (-1) ≤ n) (n6 : n ≤ 60) (e3 : ∀ i, 0 ≤ i → i < S s (-1) → M (a + 1) i = S s i ∧ inr (S s i)) (hq : Q (Jv (dL S s h)) M) : cl 0 yX3_mixInto [Rv a, Jv h] M Q := by
  have r1 : inr (M a 1) := by rw [e]; exact ⟨by omega, by omega⟩
  refine eX3_mixInto hl ⟨r1, ?_⟩
  rw [e]
  unfold dL at hq
  by_cases c : S s (-1) < 0
  · rw [mx_n (by omega)] at hq
    refine gX3_mixInto_15 hl ⟨by decide, r1, fun _ => hq, fun q => absurd q (by omega)⟩
  · refine up_ind (P := fun x => wp 0 yX3_mixInto 15 [some (Rv a), some (Jv h), none, some (Jv (mx (S s) (31 * h + S s (-1)) x)), none, some (Iv x)] [] M Q) (a := 0) (n := S s (-1)) (by omega) ?_ (fun x x0 x1 ih => ?_)
    · exact gX3_mixInto_15 hl ⟨⟨by omega, by omega⟩, r1, fun _ => hq, fun q => absurd q (by omega)⟩
    · obtain ⟨e4, e5⟩ := e3 x x0 x1
      rw [mx_s x0] at ih
      refine gX3_mixInto_15 hl ⟨⟨by omega, by omega⟩, r1, fun q => absurd q (by omega), fun q => ⟨x0, by omega, by rw [e4]; exact e5, ?_⟩⟩
      rw [e4]
      exact ih
theorem m_mix {v h : Int} {M : Mem} {Q : Vl → Mem → Prop} (hq : Q (Iv 0) (up M 88 43 (31 * h + v))) : cl 0 yX12_mix [Rv 88, Jv v] (up M 88 43 h) Q := by
  refine eX12_mix ?_
  rw [up_at, if_pos rfl, up_up]
  exact hq
theorem Yh {S M : Mem} (hY : Y S M) {h : Int} : Y S (up M 88 43 h) := hY.up (by unfold kY; omega) (by omega)
theorem m_mixWord {S M : Mem} (hW : WF S) (hY : Y S M) {h w : Int} {Q : Vl → Mem → Prop} (w0 : 0 ≤ w) (w8 : w < 8) (hq : Q (Iv 0) (up M 88 43 (dW S h w))) : cl 0 yX12_mixWord [Rv 88, Iv w] (up M 88 43 h) Q := by
  obtain ⟨⟨k1, k2, k3⟩, e, e2⟩ := hY.2.2.1 w w0 w8
  obtain ⟨⟨v1, v2, v3, v4, v5, v6, v7⟩, u1, u2, u3⟩ := hW.2.2.1 w w0 w8
  have hk := hW.2.2.2
  have s95 : ∀ h : Int, up M 88 43 h 95 w = S (30 + w) (-1) := fun h => by rw [up_ne (by decide)]; exact e
  have s97 : ∀ h : Int, up M 88 43 h 97 w = S (30 + w) (-2) := fun h => by rw [up_ne (by decide)]; exact k1
  have s98 : ∀ h : Int, up M 88 43 h 98 w = S (30 + w) (-3) := fun h => by rw [up_ne (by decide)]; exact k2
  have s99 : ∀ h : Int, up M 88 43 h 99 w = S (30 + w) (-4) := fun h => by rw [up_ne (by decide)]; exact k3
  refine eX12_mixWord (m_isThere w0 w8 (by rw [s95]; exact ⟨by omega, by omega⟩) (fun q => ⟨fun _ => m_mix ?_, fun q => absurd rfl q⟩) (fun q => ⟨fun q => absurd q (by decide), fun _ => ⟨w0, w8, by rw [s97]; exact ⟨by omega, by omega⟩, ?_⟩⟩))
  · rw [s95] at q
    unfold dW dL at hq
    rw [if_pos q, mx_n (by omega), show S (30 + w) (-1) = -1 by omega] at hq
    exact hq
  · rw [s95] at q
    rw [s97]
    refine m_mix ?_
    show cl 0 yX12_markOf _ _ _
    rw [s97]
    have rest : ∀ g, g = 31 * (31 * h + S (30 + w) (-2)) + dK S w → cl 0 yX12_mix [Rv 88, Jv (S (30 + w) (-1))] (up M 88 43 g) (QV (fun M12 => (wp 0 yX12_mixWord 48 [some (Rv 88), some (Iv w), some (Iv 0)] [] M12 Q))) := by
      intro g hg
      refine m_mix ?_
      unfold dW dL at hq
      rw [if_neg (by omega), ← hg] at hq
      refine up_ind (P := fun x => wp 0 yX12_mixWord 48 [some (Rv 88), some (Iv w), some (Iv x)] [] (up M 88 43 (mx (S (30 + w)) (31 * g + S (30 + w) (-1)) x)) Q) (a := 0) (n := S (30 + w) (-1)) q ?_ (fun x x0 x1 ih => ?_)
      · exact gX12_mixWord_48 ⟨w0, w8, ⟨by omega, by omega⟩, by rw [s95]; exact ⟨by omega, by omega⟩, fun _ => hq, fun q => absurd q (by rw [s95]; omega)⟩
      · refine gX12_mixWord_48 ⟨w0, w8, ⟨by omega, by omega⟩, by rw [s95]; exact ⟨by omega, by omega⟩, fun q => absurd q (by rw [s95]; omega), fun q => m_at0 (by omega) (by omega) ?_⟩
        have e3 := u3 x x0 x1
        rw [up_ne (by decide), e2 x x0 x1]
        refine ⟨⟨by omega, by omega⟩, m_mix ?_⟩
        rw [mx_s x0] at ih
        exact ih
    refine m_markOf w0 w8 ⟨by omega, by omega⟩ (fun q1 => ⟨by decide, m_mix ?_⟩) (fun q1 => ?_) (fun q1 => ?_)
    · refine ⟨by rw [s95]; exact ⟨by omega, by omega⟩, ?_⟩
      rw [s95]
      exact rest _ (by unfold dK; rw [if_neg (by omega)]; omega)
    · rw [s98]
      refine ⟨⟨by omega, by omega⟩, m_mix ⟨by rw [s95]; exact ⟨by omega, by omega⟩, ?_⟩⟩
      rw [s95]
      exact rest _ (by unfold dK; rw [if_pos q1])
    · rw [s99]
      refine ⟨⟨by omega, by omega⟩, m_mix ⟨by rw [s95]; exact ⟨by omega, by omega⟩, ?_⟩⟩
      rw [s95]
      exact rest _ (by unfold dK; rw [if_neg q1.2])
theorem op_digest {S : Mem} (hW : WF S) : OpOK S yX11_digest yX12_digest [] Jv := by
  refine ⟨dAll S, S, hW, fun M hX => eX11_digest ?_, fun M hY => eX12_digest ?_⟩
  · have last : ∀ h, h = fo (dT S) (fo (dR S) (fo (dW S) (mx (cN S) 17 6) 8) 6) 0 → wp 0 yX11_digest 131 [some (Rv 1), some (Jv h), none, some (Iv 0), none] [] M (PX S (Jv (dAll S)) M) := by
      intro h hh
      rw [hh]
      refine up_ind (P := fun x => wp 0 yX11_digest 131 [some (Rv 1), some (Jv (fo (dT S) (fo (dR S) (fo (dW S) (mx (cN S) 17 6) 8) 6) x)), none, some (Iv x), none] [] M (PX S (Jv (dAll S)) M)) (a := 0) (n := 4) (by decide) ?_ (fun x x0 x1 ih => ?_)
      · exact gX11_digest_131 ⟨by decide, fun _ => px_rf hX _, fun q => absurd q (by decide)⟩
      · obtain ⟨e, e2⟩ := hX.2.1 x x0 x1
        obtain ⟨v1, v2, v3⟩ := hW.2.1 x x0 x1
        rw [fo_s x0] at ih
        exact gX11_digest_131 ⟨⟨by omega, by omega⟩, fun q => absurd q (by omega), fun q => ⟨x0, c_mixInto (isL_text x0 x1) e v1 v2 (by decide) (fun i i0 i1 => ⟨e2 i i0 i1, by have := v3 i i0 i1; exact ⟨by omega, by omega⟩⟩) ih⟩⟩
    have rws : ∀ h, h = fo (dR S) (fo (dW S) (mx (cN S) 17 6) 8) 0 → wp 0 yX11_digest 106 [some (Rv 1), some (Jv h), none, some (Iv 0), none] [] M (PX S (Jv (dAll S)) M) := by
      intro h hh
      rw [hh]
      refine up_ind (P := fun x => wp 0 yX11_digest 106 [some (Rv 1), some (Jv (fo (dR S) (fo (dW S) (mx (cN S) 17 6) 8) x)), none, some (Iv x), none] [] M (PX S (Jv (dAll S)) M)) (a := 0) (n := 6) (by decide) ?_ (fun x x0 x1 ih => ?_)
      · exact gX11_digest_106 ⟨by decide, fun _ => last _ rfl, fun q => absurd q (by decide)⟩
      · obtain ⟨e, e2⟩ := hX.1 x x0 x1
        obtain ⟨v1, v2, v3⟩ := hW.1 x x0 x1
        rw [fo_s x0] at ih
        exact gX11_digest_106 ⟨⟨by omega, by omega⟩, fun q => absurd q (by omega), fun q => ⟨x0, c_mixInto (isL_row x0 x1) e v1 v2 (by decide) (fun i i0 i1 => ⟨e2 i i0 i1, v3 i i0 i1⟩) ih⟩⟩
    have wds : ∀ h, h = fo (dW S) (mx (cN S) 17 6) 0 → wp 0 yX11_digest 32 [some (Rv 1), some (Jv h), none, some (Iv 0), none] [] M (PX S (Jv (dAll S)) M) := by
      intro h hh
      rw [hh]
      refine up_ind (P := fun x => wp 0 yX11_digest 32 [some (Rv 1), some (Jv (fo (dW S) (mx (cN S) 17 6) x)), none, some (Iv x), none] [] M (PX S (Jv (dAll S)) M)) (a := 0) (n := 8) (by decide) ?_ (fun x x0 x1 ih => ?_)
      · exact gX11_digest_32 ⟨by decide, fun _ => rws _ rfl, fun q => absurd q (by decide)⟩
      · obtain ⟨⟨k1, k2, k3⟩, e, e2⟩ := hX.2.2.1 x x0 x1
        obtain ⟨⟨v1, v2, v3, v4, v5, v6, v7⟩, u1, u2, u3⟩ := hW.2.2.1 x x0 x1
        have hk := hW.2.2.2
        have e3 : ∀ i, 0 ≤ i → i < S (30 + x) (-1) → M (55 + 3 * x + 1 + 1) i = S (30 + x) i ∧ inr (S (30 + x) i) := fun i i0 i1 => ⟨e2 i i0 i1, by have := u3 i i0 i1; exact ⟨by omega, by omega⟩⟩
        rw [fo_s x0] at ih
        refine gX11_digest_32 ⟨⟨by omega, by omega⟩, fun q => absurd q (by omega), fun q => ⟨x0, c_isMissing (isW_word x0 x1).l (by rw [e]; exact ⟨by omega, by omega⟩) (fun q1 => ⟨fun q => absurd rfl q, fun _ => ⟨by rw [k1]; exact ⟨by omega, by omega⟩, c_markOf (isW_word x0 x1) (by rw [k1]; exact ⟨by omega, by omega⟩) (fun q2 => ⟨by rw [k3]; exact ⟨by omega, by omega⟩, ?_⟩) (fun q2 => ⟨by rw [k2]; exact ⟨by omega, by omega⟩, ?_⟩)⟩⟩) (fun q1 => ⟨fun _ => ?_, fun q => absurd q (by decide)⟩)⟩⟩
        · refine c_mixInto (isW_word x0 x1).l e u1 u2 (by decide) e3 ?_
          unfold dW dK at ih
          rw [if_neg (by omega), if_neg (by omega)] at ih
          rw [k1, k3]
          exact ih
        · refine c_mixInto (isW_word x0 x1).l e u1 u2 (by decide) e3 ?_
          unfold dW dK at ih
          rw [if_neg (by omega), if_pos (by omega)] at ih
          rw [k1, k2]
          exact ih
        · refine c_mixInto (isW_word x0 x1).l e u1 u2 (by decide) e3 ?_
          unfold dW at ih
          rw [if_pos (by omega)] at ih
          exact ih
    refine up_ind (P := fun x => wp 0 yX11_digest 6 [some (Rv 1), some (Jv (mx (cN S) 17 x)), none, some (Iv x), none] [] M (PX S (Jv (dAll S)) M)) (a := 0) (n := 6) (by decide) ?_ (fun x x0 x1 ih => ?_)
    · exact gX11_digest_6 ⟨by decide, fun _ => wds _ rfl, fun q => absurd q (by decide)⟩
    · rw [mx_s x0] at ih
      exact gX11_digest_6 ⟨⟨by omega, by omega⟩, fun q => absurd q (by omega), fun q => c_count hW hX x0 (by omega) ⟨cN_b hW, ih⟩⟩
  · have last : ∀ h, h = fo (dT S) (fo (dR S) (fo (dW S) (mx (cN S) 17 6) 8) 6) 0 → wp 0 yX12_digest 106 [some (Rv 88), some (Iv 0), none] [] (up M 88 43 h) (PY S (Jv (dAll S)) M) := by
      intro h hh
      rw [hh]
      refine up_ind (P := fun x => wp 0 yX12_digest 106 [some (Rv 88), some (Iv x), none] [] (up M 88 43 (fo (dT S) (fo (dR S) (fo (dW S) (mx (cN S) 17 6) 8) 6) x)) (PY S (Jv (dAll S)) M)) (a := 0) (n := 4) (by decide) ?_ (fun x x0 x1 ih => ?_)
      · refine gX12_digest_106 ⟨by decide, fun _ => ?_, fun q => absurd q (by decide)⟩
        rw [up_at, if_pos rfl]
        exact ⟨rfl, (Yh hY), (fry.rf M).up (by decide)⟩
      · obtain ⟨e, e2⟩ := hY.2.1 x x0 x1
        obtain ⟨v1, v2, v3⟩ := hW.2.1 x x0 x1
        have s93 : ∀ h : Int, up M 88 43 h 93 x = S (20 + x) (-1) := fun h => by rw [up_ne (by decide)]; exact e
        rw [fo_s x0] at ih
        unfold dT dL at ih
        refine gX12_digest_106 ⟨⟨by omega, by omega⟩, fun q => absurd q (by omega), fun q => ⟨x0, by rw [s93]; exact ⟨by omega, by omega⟩, m_mix ?_⟩⟩
        rw [s93]
        by_cases c : S (20 + x) (-1) < 0
        · rw [mx_n (by omega)] at ih
          exact gX12_digest_124 ⟨x0, x1, by decide, by rw [s93]; exact ⟨by omega, by omega⟩, fun _ => ih, fun q => absurd q (by rw [s93]; omega)⟩
        · refine up_ind (P := fun i => wp 0 yX12_digest 124 [some (Rv 88), some (Iv x), some (Iv i)] [] (up M 88 43 (mx (S (20 + x)) (31 * (fo (dT S) (fo (dR S) (fo (dW S) (mx (cN S) 17 6) 8) 6) x) + S (20 + x) (-1)) i)) (PY S (Jv (dAll S)) M)) (a := 0) (n := S (20 + x) (-1)) (by omega) ?_ (fun i i0 i1 ih2 => ?_)
          · exact gX12_digest_124 ⟨x0, x1, ⟨by omega, by omega⟩, by rw [s93]; exact ⟨by omega, by omega⟩, fun _ => ih, fun q => absurd q (by rw [s93]; omega)⟩
          · have e4 := v3 i i0 i1
            refine gX12_digest_124 ⟨x0, x1, ⟨by omega, by omega⟩, by rw [s93]; exact ⟨by omega, by omega⟩, fun q => absurd q (by rw [s93]; omega), fun q => m_byteAt x0 x1 i0 ⟨by omega, by omega⟩ (by rw [s93]; omega) (by rw [s93]; omega) (fun q => absurd q (by rw [s93]; omega)) (fun _ => ?_)⟩
            rw [up_ne (by decide), e2 i i0 i1]
            refine ⟨⟨by omega, by omega⟩, m_mix ?_⟩
            rw [mx_s i0] at ih2
            exact ih2
    have rws : ∀ h, h = fo (dR S) (fo (dW S) (mx (cN S) 17 6) 8) 0 → wp 0 yX12_digest 52 [some (Rv 88), some (Iv 0), none] [] (up M 88 43 h) (PY S (Jv (dAll S)) M) := by
      intro h hh
      rw [hh]
      refine up_ind (P := fun x => wp 0 yX12_digest 52 [some (Rv 88), some (Iv x), none] [] (up M 88 43 (fo (dR S) (fo (dW S) (mx (cN S) 17 6) 8) x)) (PY S (Jv (dAll S)) M)) (a := 0) (n := 6) (by decide) ?_ (fun x x0 x1 ih => ?_)
      · exact gX12_digest_52 ⟨by decide, fun _ => last _ rfl, fun q => absurd q (by decide)⟩
      · obtain ⟨e, e2⟩ := hY.1 x x0 x1
        obtain ⟨v1, v2, v3⟩ := hW.1 x x0 x1
        have s90 : ∀ h : Int, up M 88 43 h 90 x = S (10 + x) (-1) := fun h => by rw [up_ne (by decide)]; exact e
        rw [fo_s x0] at ih
        unfold dR dL at ih
        refine gX12_digest_52 ⟨⟨by omega, by omega⟩, fun q => absurd q (by omega), fun q => ⟨x0, by rw [s90]; exact ⟨by omega, by omega⟩, m_mix ?_⟩⟩
        rw [s90]
        by_cases c : S (10 + x) (-1) < 0
        · rw [mx_n (by omega)] at ih
          exact gX12_digest_71 ⟨x0, x1, by decide, by rw [s90]; exact ⟨by omega, by omega⟩, fun _ => ih, fun q => absurd q (by rw [s90]; omega)⟩
        · refine up_ind (P := fun i => wp 0 yX12_digest 71 [some (Rv 88), some (Iv x), some (Iv i)] [] (up M 88 43 (mx (S (10 + x)) (31 * (fo (dR S) (fo (dW S) (mx (cN S) 17 6) 8) x) + S (10 + x) (-1)) i)) (PY S (Jv (dAll S)) M)) (a := 0) (n := S (10 + x) (-1)) (by omega) ?_ (fun i i0 i1 ih2 => ?_)
          · exact gX12_digest_71 ⟨x0, x1, ⟨by omega, by omega⟩, by rw [s90]; exact ⟨by omega, by omega⟩, fun _ => ih, fun q => absurd q (by rw [s90]; omega)⟩
          · have e4 := v3 i i0 i1
            refine gX12_digest_71 ⟨x0, x1, ⟨by omega, by omega⟩, by rw [s90]; exact ⟨by omega, by omega⟩, fun q => absurd q (by rw [s90]; omega), fun q => m_rowAt (by omega) (by omega) ?_⟩
            rw [up_ne (by decide), e2 i i0 i1]
            refine ⟨e4, m_mix ?_⟩
            rw [mx_s i0] at ih2
            exact ih2
    have wds : ∀ h, h = fo (dW S) (mx (cN S) 17 6) 0 → wp 0 yX12_digest 33 [some (Rv 88), some (Iv 0), none] [] (up M 88 43 h) (PY S (Jv (dAll S)) M) := by
      intro h hh
      rw [hh]
      refine up_ind (P := fun x => wp 0 yX12_digest 33 [some (Rv 88), some (Iv x), none] [] (up M 88 43 (fo (dW S) (mx (cN S) 17 6) x)) (PY S (Jv (dAll S)) M)) (a := 0) (n := 8) (by decide) ?_ (fun x x0 x1 ih => ?_)
      · exact gX12_digest_33 ⟨by decide, fun _ => rws _ rfl, fun q => absurd q (by decide)⟩
      · rw [fo_s x0] at ih
        exact gX12_digest_33 ⟨⟨by omega, by omega⟩, fun q => absurd q (by omega), fun q => m_mixWord hW hY x0 x1 ih⟩
    refine up_ind (P := fun x => wp 0 yX12_digest 9 [some (Rv 88), some (Iv x), none] [] (up M 88 43 (mx (cN S) 17 x)) (PY S (Jv (dAll S)) M)) (a := 0) (n := 6) (by decide) ?_ (fun x x0 x1 ih => ?_)
    · exact gX12_digest_9 ⟨by decide, fun _ => wds _ rfl, fun q => absurd q (by decide)⟩
    · rw [mx_s x0] at ih
      exact gX12_digest_9 ⟨⟨by omega, by omega⟩, fun q => absurd q (by omega), fun q => m_counted hW (Yh hY) x0 (by omega) ⟨cN_b hW, m_mix ih⟩⟩
