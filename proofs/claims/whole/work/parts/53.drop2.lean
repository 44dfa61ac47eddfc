/-! 17 drop: the reference -/
theorem m_dropOther {M : Mem} {i m : Int} {V : Int → Int} {Q : Vl → Mem → Prop} (o : othr M m V) (i0 : 0 ≤ i) (i1 : i < m) (m1 : m ≤ 40) (hq : ∀ M2, kpO M M2 → othr M2 (m - 1) (fun t => if t < i then V t else V (t + 1)) → Q (Iv 0) M2) : cl 0 yX12_dropOther [Rv 88, Iv i] M Q := by
  obtain ⟨o1, o2⟩ := o
  refine eX12_dropOther ?_
  rw [o1]
  refine up_ind (P := fun x => ∀ M2, kpO M M2 → M2 88 33 = m - 1 → (∀ t, 0 ≤ t → t < m → M2 112 t = if i ≤ t ∧ t < x then V (t + 1) else V t) → wp 0 yX12_dropOther 12 [some (Rv 88), some (Iv i), some (Iv x)] [] M2 Q) (a := i) (n := m - 1) (by omega) (fun M2 p2 e2 c2 => ?_) (fun x x0 x1 ih M2 p2 e2 c2 => ?_) (up M 88 33 (m - 1)) ⟨fun a h1 _ => up_ne h1, fun q h => by rw [up_at, if_neg h]⟩ (by rw [up_at, if_pos rfl]) (fun t t0 t1 => by rw [up_ne (by decide), if_neg (by omega)]; exact o2 t t0 t1)
  · refine gX12_dropOther_12 ⟨⟨by omega, by omega⟩, by rw [e2]; exact ⟨by omega, by omega⟩, fun _ => hq M2 p2 ⟨e2, fun t t0 t1 => ?_⟩, fun q => absurd q (by omega)⟩
    rw [c2 t t0 (by omega)]
    by_cases c : t < i
    · rw [if_neg (by omega)]; exact (if_pos c).symm
    · rw [if_pos (by omega)]; exact (if_neg c).symm
  · refine gX12_dropOther_12 ⟨⟨by omega, by omega⟩, by rw [e2]; exact ⟨by omega, by omega⟩, fun q => absurd q (by omega), fun _ => ⟨by omega, by omega, by omega, by omega, ih _ ⟨fun a h1 h2 => by rw [up_ne h2]; exact p2.1 a h1 h2, fun q h => by rw [up_ne (by decide)]; exact p2.2 q h⟩ (by rw [up_ne (by decide)]; exact e2) (fun t t0 t1 => ?_)⟩⟩
    rw [up_at]
    by_cases c : t = x
    · rw [if_pos c, if_pos (by omega), c2 (x + 1) (by omega) (by omega), if_neg (by omega), c]
    · rw [if_neg c, c2 t t0 t1]
      by_cases c5 : i ≤ t ∧ t < x
      · rw [if_pos c5, if_pos (by omega)]
      · rw [if_neg c5, if_neg (by omega)]
theorem m_backOther {M : Mem} {i m x : Int} {V : Int → Int} {Q : Vl → Mem → Prop} (o : othr M m V) (i0 : 0 ≤ i) (i1 : i ≤ m) (m1 : m ≤ 39) (hq : ∀ M2, kpO M M2 → othr M2 (m + 1) (fun t => if t < i then V t else if t = i then x else V (t - 1)) → Q (Iv 0) M2) : cl 0 yX12_backOther [Rv 88, Iv i, Iv x] M Q := by
  obtain ⟨o1, o2⟩ := o
  refine eX12_backOther ?_
  rw [o1]
  refine dn_ind (P := fun z => ∀ M2, kpO M M2 → M2 88 33 = m → (∀ t, 0 ≤ t → t ≤ m → (t < z ∨ (t = z ∧ t < m)) → M2 112 t = V t) → (∀ t, z < t → t ≤ m → M2 112 t = V (t - 1)) → wp 0 yX12_backOther 5 [some (Rv 88), some (Iv i), some (Iv x), some (Iv z)] [] M2 Q) (a := i) (n := m) i1 (fun M2 p2 e2 c2 d2 => ?_) (fun z z0 z1 ih M2 p2 e2 c2 d2 => ?_) M ⟨fun _ _ _ => rfl, fun _ _ => rfl⟩ o1 (fun t t0 t1 t2 => o2 t t0 (by omega)) (fun t t0 t1 => absurd t1 (by omega))
  · refine gX12_backOther_5 ⟨⟨by omega, by omega⟩, ⟨by omega, by omega⟩, fun _ => ⟨i0, by omega, hq _ ⟨fun a h1 h2 => by rw [up_ne h1, up_ne h2]; exact p2.1 a h1 h2, fun q h => by rw [up_at, if_neg h, up_ne (by decide)]; exact p2.2 q h⟩ ⟨by rw [up_at, if_pos rfl, e2], fun t t0 t1 => ?_⟩⟩, fun q => absurd q (by omega)⟩
    rw [up_ne (by decide), up_at]
    by_cases c : t = i
    · rw [if_pos c]
      show x = if t < i then V t else if t = i then x else V (t - 1)
      rw [if_neg (by omega), if_pos c]
    · rw [if_neg c]
      show M2 112 t = if t < i then V t else if t = i then x else V (t - 1)
      by_cases c5 : t < i
      · rw [if_pos c5]; exact c2 t t0 (by omega) (by omega)
      · rw [if_neg c5, if_neg c]; exact d2 t (by omega) (by omega)
  · refine gX12_backOther_5 ⟨⟨by omega, by omega⟩, ⟨by omega, by omega⟩, fun q => absurd q (by omega), fun _ => ⟨by omega, by omega, by omega, by omega, ih _ ⟨fun a h1 h2 => by rw [up_ne h2]; exact p2.1 a h1 h2, fun q h => by rw [up_ne (by decide)]; exact p2.2 q h⟩ (by rw [up_ne (by decide)]; exact e2) (fun t t0 t1 t2 => ?_) (fun t t0 t1 => ?_)⟩⟩
    · rw [up_at, if_neg (by omega)]
      exact c2 t t0 t1 (by omega)
    · rw [up_at]
      by_cases c : t = z
      · rw [if_pos c, c]
        exact c2 (z - 1) (by omega) (by omega) (by omega)
      · rw [if_neg c]; exact d2 t (by omega) t1
def kp4 (M M2 : Mem) : Prop := (∀ a, a ≠ 88 → a ≠ 100 → (a < 108 ∨ 112 < a) → M2 a = M a) ∧ ∀ q, q ≠ 17 → q ≠ 33 → M2 88 q = M 88 q
theorem kp4.y {S M M2 : Mem} (h : kp4 M M2) (hY : Y S M) : Y S M2 := hY.same (fun a ka => h.1 a (by unfold kY at ka; omega) (by unfold kY at ka; omega) (by unfold kY at ka; omega)) (fun q hq => h.2 q (by omega) (by omega))
theorem kp4.fy {M M2 : Mem} (h : kp4 M M2) : fry M M2 := fun a ha => h.1 a (by omega) (by omega) (by omega)
theorem kp4.ln {M M2 : Mem} (h : kp4 M M2) {w n : Int} {W : Int → Int} (l : lnY M w n W) : lnY M2 w n W := by
  unfold lnY
  rw [h.1 95 (by decide) (by decide) (by decide), h.1 96 (by decide) (by decide) (by decide)]
  exact l
theorem kp4.o {M M2 M3 : Mem} (h : kp4 M M2) (h2 : kpO M2 M3) : kp4 M M3 := ⟨fun a q1 q2 q3 => (h2.1 a q1 (by omega)).trans (h.1 a q1 q2 q3), fun q h1 h3 => (h2.2 q h3).trans (h.2 q h1 h3)⟩
theorem kp4.p {M M2 M3 : Mem} (h : kp4 M M2) (h2 : kp3 M2 M3) : kp4 M M3 := ⟨fun a q1 q2 q3 => (h2.1 a q1 q2 (by omega)).trans (h.1 a q1 q2 q3), fun q h1 h3 => (h2.2 q h1).trans (h.2 q h1 h3)⟩
theorem othr.cg {M : Mem} {m m2 : Int} {V V2 : Int → Int} (o : othr M m V) (hm : m = m2) (h : ∀ t, 0 ≤ t → t < m → V t = V2 t) : othr M m2 V2 := by
  subst hm
  exact ⟨o.1, fun t t0 t1 => (o.2 t t0 t1).trans (h t t0 t1)⟩
theorem op_drop {S : Mem} (hW : WF S) {w a d : Int} (hw : inr w) (ha : inr a) (hd : inr d) : OpOK S yX11_drop yX12_drop [Iv w, Iv a, Iv d] Iv := by
  by_cases c1 : (w < 0 ∨ 8 ≤ w) ∨ (a < 0 ∨ 8 ≤ a) ∨ (d < 0 ∨ 40 < d)
  · refine ⟨-1, S, hW, fun M hX => eX11_drop ?_, fun M hY => eX12_drop ?_⟩
    · repeat' first
        | omega
        | exact px_rf hX _
        | exact px_fnd hX _ (by decide) (by decide)
        | refine c_noRow ?_ (fun q => ?_) (fun q => ?_)
        | refine c_noText ?_ (fun q => ?_) (fun q => ?_)
        | refine c_noWord ?_ (fun q => ?_) (fun q => ?_)
        | refine c_noLength ?_ (fun q => ?_) (fun q => ?_)
        | refine c_found (by decide) ?_
        | refine c_refuseRow hW hX ?_ (fun q => ?_) (fun q => ?_) (fun q => ?_)
        | refine c_refusePlace hW hX ?_ ?_ (fun q => ?_) (fun q => ?_) (fun q => ?_) (fun q => ?_)
        | refine c_refuseText hW hX ?_ (fun q => ?_) (fun q => ?_) (fun q => ?_)
        | refine c_refuseWords hW hX ?_ ?_ (fun q => ?_) (fun q => ?_) (fun q => ?_)
        | refine c_refuseWord hW hX ?_ (fun q => ?_) (fun q => ?_) (fun q => ?_)
        | refine c_has hL ?_ ?_ (fun q => ?_) (fun q => ?_)
        | refine c_isMissing hL ?_ (fun q => ?_) (fun q => ?_)
        | refine c_reaches hL ?_ ?_ (fun q => ?_) (fun q => ?_)
        | refine c_has hL2 ?_ ?_ (fun q => ?_) (fun q => ?_)
        | refine c_isMissing hL2 ?_ (fun q => ?_) (fun q => ?_)
        | refine c_reaches hL2 ?_ ?_ (fun q => ?_) (fun q => ?_)
        | refine c_is hWd ?_ ?_ (fun q => ?_) (fun q => ?_)
        | refine c_markOf hWd ?_ (fun q => ?_) (fun q => ?_)
        | with_reducible refine ⟨?_, ?_⟩
        | with_reducible intro q
    · repeat' first
        | omega
        | exact py_rf hY _
        | exact py_fnd hY _ (by decide) (by decide)
        | refine m_isRow ?_ (fun q => ?_) (fun q => ?_)
        | refine m_isText ?_ (fun q => ?_) (fun q => ?_)
        | refine m_isWord ?_ (fun q => ?_) (fun q => ?_)
        | refine m_in ?_ ?_ ?_ (fun q => ?_) (fun q => ?_)
        | refine m_meets (by decide) ?_
        | refine m_needWord hW hY ?_ ?_ (fun q => ?_) (fun q => ?_) (fun q => ?_)
        | refine m_needTwo hW hY ?_ ?_ ?_ (fun q => ?_) (fun q => ?_) (fun q => ?_)
        | refine m_isThere ?_ ?_ ?_ (fun q => ?_) (fun q => ?_)
        | refine m_at0 ?_ ?_ ?_
        | refine m_rowAt ?_ ?_ ?_
        | refine m_markOf ?_ ?_ ?_ (fun q => ?_) (fun q => ?_) (fun q => ?_)
        | with_reducible refine ⟨?_, ?_⟩
        | with_reducible intro q
  have w0 : 0 ≤ w := by omega
  have w8 : w < 8 := by omega
  have a0 : 0 ≤ a := by omega
  have a8 : a < 8 := by omega
  have d0 : 0 ≤ d := by omega
  have d40 : d ≤ 40 := by omega
  by_cases c3 : S (30 + a) (-1) < 0
  · refine ⟨-3, fS S 1, hW.fnd 1, fun M hX => eX11_drop ?_, fun M hY => eX12_drop ?_⟩
    · repeat' first
        | omega
        | exact px_rf hX _
        | exact px_fnd hX _ (by decide) (by decide)
        | refine c_noRow ?_ (fun q => ?_) (fun q => ?_)
        | refine c_noText ?_ (fun q => ?_) (fun q => ?_)
        | refine c_noWord ?_ (fun q => ?_) (fun q => ?_)
        | refine c_noLength ?_ (fun q => ?_) (fun q => ?_)
        | refine c_found (by decide) ?_
        | refine c_refuseRow hW hX ?_ (fun q => ?_) (fun q => ?_) (fun q => ?_)
        | refine c_refusePlace hW hX ?_ ?_ (fun q => ?_) (fun q => ?_) (fun q => ?_) (fun q => ?_)
        | refine c_refuseText hW hX ?_ (fun q => ?_) (fun q => ?_) (fun q => ?_)
        | refine c_refuseWords hW hX ?_ ?_ (fun q => ?_) (fun q => ?_) (fun q => ?_)
        | refine c_refuseWord hW hX ?_ (fun q => ?_) (fun q => ?_) (fun q => ?_)
        | refine c_has hL ?_ ?_ (fun q => ?_) (fun q => ?_)
        | refine c_isMissing hL ?_ (fun q => ?_) (fun q => ?_)
        | refine c_reaches hL ?_ ?_ (fun q => ?_) (fun q => ?_)
        | refine c_has hL2 ?_ ?_ (fun q => ?_) (fun q => ?_)
        | refine c_isMissing hL2 ?_ (fun q => ?_) (fun q => ?_)
        | refine c_reaches hL2 ?_ ?_ (fun q => ?_) (fun q => ?_)
        | refine c_is hWd ?_ ?_ (fun q => ?_) (fun q => ?_)
        | refine c_markOf hWd ?_ (fun q => ?_) (fun q => ?_)
        | with_reducible refine ⟨?_, ?_⟩
        | with_reducible intro q
    · repeat' first
        | omega
        | exact py_rf hY _
        | exact py_fnd hY _ (by decide) (by decide)
        | refine m_isRow ?_ (fun q => ?_) (fun q => ?_)
        | refine m_isText ?_ (fun q => ?_) (fun q => ?_)
        | refine m_isWord ?_ (fun q => ?_) (fun q => ?_)
        | refine m_in ?_ ?_ ?_ (fun q => ?_) (fun q => ?_)
        | refine m_meets (by decide) ?_
        | refine m_needWord hW hY ?_ ?_ (fun q => ?_) (fun q => ?_) (fun q => ?_)
        | refine m_needTwo hW hY ?_ ?_ ?_ (fun q => ?_) (fun q => ?_) (fun q => ?_)
        | refine m_isThere ?_ ?_ ?_ (fun q => ?_) (fun q => ?_)
        | refine m_at0 ?_ ?_ ?_
        | refine m_rowAt ?_ ?_ ?_
        | refine m_markOf ?_ ?_ ?_ (fun q => ?_) (fun q => ?_) (fun q => ?_)
        | with_reducible refine ⟨?_, ?_⟩
        | with_reducible intro q
  have bw := hW.wd a0 a8 (by omega)
  have hb := bw
  obtain ⟨n0, n1, k0, k1, hv⟩ := hb
  obtain ⟨⟨cc0, cc1⟩, cG, -⟩ := dk_inv (d := d) bw (S (30 + a) (-1)).toNat (by omega)
  rw [show (((S (30 + a) (-1)).toNat : Nat) : Int) = S (30 + a) (-1) by omega] at cc0 cc1 cG
  refine ⟨dkC (S (30 + a)) (S (30 + a) (-1)) d (S (30 + a) (-1)), setWd S w (dkC (S (30 + a)) (S (30 + a) (-1)) d (S (30 + a) (-1))) (dkG (S (30 + a)) (S (30 + a) (-1)) d (S (30 + a) (-1))) 4 a d, hW.word w0 w8 (by omega) (by omega) (by omega) cG, fun M hX => eX11_drop ?_, fun M hY => eX12_drop ?_⟩
  · refine c_noWord hw (fun q => absurd q (by omega)) (fun _ => ⟨fun q => absurd rfl q, fun _ => c_noLength hd (fun q => absurd q (by omega)) (fun _ => ⟨fun _ => c_refuseWord hW hX ha (fun q => absurd q (by omega)) (fun q => absurd q (by omega)) (fun _ => ⟨by decide, fun _ => ⟨a0, a8, c_keep (isW_word a0 a8).l (hX.ln a0 a8) bw d0 d40 (fun M2 o2 c2 => ⟨w0, w8, c_become (isW_word w0 w8) (m := 80) ⟨by decide, by decide, rfl⟩ (by omega) (by omega) (by omega) ?_⟩)⟩, fun q => absurd rfl q⟩), fun q => absurd rfl q⟩)⟩)
    have hX2 : X S M2 := hX.same (fun b kb => o2 b (by unfold kX at kb; omega) (by unfold kX at kb; omega) (by unfold kX at kb; omega))
    have fx2 : frx M M2 := ⟨fun b q1 q2 => o2 b (by omega) (by omega) (by omega), o2 0 (by decide) (by decide) (by decide), o2 (-2) (by decide) (by decide) (by decide)⟩
    exact ⟨rfl, X.bcm hX2 w0 w8 (by decide) c2, fx2.bcm w0 w8⟩
  · have ek := hY.2.2.2.1.1
    refine m_isWord hw (fun q => absurd q (by omega)) (fun _ => ⟨fun q => absurd q (by decide), fun _ => m_in hd (by decide) (by decide) (fun q => absurd q (by omega)) (fun _ => ⟨fun q => absurd q (by decide), fun _ => m_needWord hW hY (Or.inr rfl) ha (fun q => absurd q (by omega)) (fun q => absurd q (by omega)) (fun _ => ⟨by decide, fun _ => m_layOther a0 a8 (hY.ln a0 a8) bw (fun M2 o2 ot => ?_), fun q => absurd q (by decide)⟩)⟩)⟩)
    show wp 0 yX12_drop 45 _ _ _ _
    refine up_ind (P := fun j => ∀ M3, kp4 M M3 → othr M3 (dkC (S (30 + a)) (S (30 + a) (-1)) d j + S (30 + a) (-1) - j) (dkV (dkG (S (30 + a)) (S (30 + a) (-1)) d j) (dkC (S (30 + a)) (S (30 + a) (-1)) d j) (S (30 + a)) j) → wp 0 yX12_drop 45 [some (Rv 88), some (Iv w), some (Iv a), some (Iv d), some (Iv 0), some (Iv (dkC (S (30 + a)) (S (30 + a) (-1)) d j)), none, none] [] M3 (PY (setWd S w (dkC (S (30 + a)) (S (30 + a) (-1)) d (S (30 + a) (-1))) (dkG (S (30 + a)) (S (30 + a) (-1)) d (S (30 + a) (-1))) 4 a d) (Iv (dkC (S (30 + a)) (S (30 + a) (-1)) d (S (30 + a) (-1)))) M)) (a := 0) (n := S (30 + a) (-1)) n0 (fun M3 o3 t3 => ?_) (fun j j0 j1 ih M3 o3 t3 => ?_) M2 ⟨fun b q1 q2 q3 => o2.1 b q1 (by omega), fun q h1 h2 => o2.2 q h2⟩ (ot.cg (by show S (30 + a) (-1) = 0 + S (30 + a) (-1) - 0; omega) (fun t t0 t1 => by
      show S (30 + a) t = if t < 0 then _ else S (30 + a) (t - 0 + 0)
      rw [if_neg (by omega)]
      congr 1
      omega))
    · have e33 : M3 88 33 = dkC (S (30 + a)) (S (30 + a) (-1)) d (S (30 + a) (-1)) := by rw [t3.1]; omega
      refine gX12_drop_45 ⟨⟨by omega, by omega⟩, by rw [e33]; exact ⟨by omega, by omega⟩, fun _ => ?_, fun q => absurd q (by omega)⟩
      rw [e33]
      refine up_ind (P := fun x => ∀ M4, kp4 M M4 → M4 112 = M3 112 → M4 88 33 = dkC (S (30 + a)) (S (30 + a) (-1)) d (S (30 + a) (-1)) → M4 88 17 = dkC (S (30 + a)) (S (30 + a) (-1)) d (S (30 + a) (-1)) → (∀ t, 0 ≤ t → t < x → M4 100 t = dkG (S (30 + a)) (S (30 + a) (-1)) d (S (30 + a) (-1)) t) → wp 0 yX12_drop 114 [some (Rv 88), some (Iv w), some (Iv a), some (Iv d), some (Iv 0), some (Iv (dkC (S (30 + a)) (S (30 + a) (-1)) d (S (30 + a) (-1)))), some (Iv x), none] [] M4 (PY (setWd S w (dkC (S (30 + a)) (S (30 + a) (-1)) d (S (30 + a) (-1))) (dkG (S (30 + a)) (S (30 + a) (-1)) d (S (30 + a) (-1))) 4 a d) (Iv (dkC (S (30 + a)) (S (30 + a) (-1)) d (S (30 + a) (-1)))) M)) (a := 0) (n := dkC (S (30 + a)) (S (30 + a) (-1)) d (S (30 + a) (-1))) cc0 (fun M4 o4 p4 q4 r4 c4 => ?_) (fun x x0 x1 ih2 M4 o4 p4 q4 r4 c4 => ?_) _ ⟨fun b q1 q2 q3 => by rw [up_ne q1]; exact o3.1 b q1 q2 q3, fun q h1 h2 => by rw [up_at, if_neg h1]; exact o3.2 q h1 h2⟩ (up_ne (by decide)) (by rw [up_at, if_neg (by decide)]; exact e33) (by rw [up_at, if_pos rfl]) (fun t t0 t1 => absurd t1 (by omega))
      · exact gX12_drop_114 ⟨⟨by omega, by omega⟩, by rw [q4]; exact ⟨by omega, by omega⟩, fun _ => m_comes w0 w8 r4 cc0 (by omega) ⟨rfl, Y.cms hW (o4.y hY) w0 w8 r4 cc0 (by omega) c4, o4.fy.cms⟩, fun q => absurd q (by omega)⟩
      · refine gX12_drop_114 ⟨⟨by omega, by omega⟩, by rw [q4]; exact ⟨by omega, by omega⟩, fun q => absurd q (by omega), fun _ => ⟨x0, by omega, ih2 _ ⟨fun b q1 q2 q3 => by rw [up_ne q2]; exact o4.1 b q1 q2 q3, fun q h1 h2 => by rw [up_ne (by decide)]; exact o4.2 q h1 h2⟩ (by rw [up_ne (by decide)]; exact p4) (by rw [up_ne (by decide)]; exact q4) (by rw [up_ne (by decide)]; exact r4) (fun t t0 t1 => ?_)⟩⟩
        rw [up_at]
        by_cases e : t = x
        · rw [if_pos e, p4, t3.2 x x0 (by omega), e]
          show (if x < dkC (S (30 + a)) (S (30 + a) (-1)) d (S (30 + a) (-1)) then _ else _) = _
          rw [if_pos x1]
        · rw [if_neg e]; exact c4 t t0 (by omega)
    · obtain ⟨⟨c0, c1⟩, hG, -⟩ := dk_inv (d := d) bw j.toNat (by omega)
      rw [show ((j.toNat : Nat) : Int) = j by omega] at c0 c1 hG
      have bV := dkV_b bw c0 (show dkC (S (30 + a)) (S (30 + a) (-1)) d j ≤ j + 1 by omega) (by omega) (show j + 1 ≤ S (30 + a) (-1) by omega) hG
      have ex : M3 112 (dkC (S (30 + a)) (S (30 + a) (-1)) d j) = S (30 + a) j := by
        rw [t3.2 _ c0 (by omega)]
        show (if dkC (S (30 + a)) (S (30 + a) (-1)) d j < dkC (S (30 + a)) (S (30 + a) (-1)) d j then _ else _) = _
        rw [if_neg (by omega)]
        congr 1
        omega
      refine gX12_drop_45 ⟨⟨by omega, by omega⟩, by rw [t3.1]; exact ⟨by omega, by omega⟩, fun q => absurd q (by rw [t3.1]; omega), fun _ => ⟨c0, by omega, m_dropOther t3 c0 (by omega) (by omega) (fun M4 o4 t4 => ?_)⟩⟩
      have t4' : othr M4 (dkC (S (30 + a)) (S (30 + a) (-1)) d j + S (30 + a) (-1) - (j + 1)) (dkV (dkG (S (30 + a)) (S (30 + a) (-1)) d j) (dkC (S (30 + a)) (S (30 + a) (-1)) d j) (S (30 + a)) (j + 1)) := t4.cg (by omega) (fun t t0 t1 => by
        show (if t < dkC (S (30 + a)) (S (30 + a) (-1)) d j then (if t < dkC (S (30 + a)) (S (30 + a) (-1)) d j then _ else _) else (if t + 1 < dkC (S (30 + a)) (S (30 + a) (-1)) d j then _ else _)) = (if t < dkC (S (30 + a)) (S (30 + a) (-1)) d j then _ else _)
        by_cases e : t < dkC (S (30 + a)) (S (30 + a) (-1)) d j
        · rw [if_pos e, if_pos e, if_pos e]
        · rw [if_neg e, if_neg (by omega), if_neg e]
          congr 1
          omega)
      have k4 : kp4 M M4 := o3.o o4
      have nxt : ∀ M5, kp3 M4 M5 → ¬ (dkT (S (30 + a)) (S (30 + a) (-1)) (dkG (S (30 + a)) (S (30 + a) (-1)) d j) (dkC (S (30 + a)) (S (30 + a) (-1)) d j) j ≠ 0 ∧ dkT (S (30 + a)) (S (30 + a) (-1)) (dkG (S (30 + a)) (S (30 + a) (-1)) d j) (dkC (S (30 + a)) (S (30 + a) (-1)) d j) j ≤ d) → wp 0 yX12_drop 45 [some (Rv 88), some (Iv w), some (Iv a), some (Iv d), some (Iv 0), some (Iv (dkC (S (30 + a)) (S (30 + a) (-1)) d j)), none, none] [] M5 (PY (setWd S w (dkC (S (30 + a)) (S (30 + a) (-1)) d (S (30 + a) (-1))) (dkG (S (30 + a)) (S (30 + a) (-1)) d (S (30 + a) (-1))) 4 a d) (Iv (dkC (S (30 + a)) (S (30 + a) (-1)) d (S (30 + a) (-1)))) M) := by
        intro M5 o5 hn
        obtain ⟨s1, s2⟩ := dk_n j0 hn
        have := ih M5 (k4.p o5) (by rw [s1, s2]; exact o5.ot t4')
        rw [s2] at this
        exact this
      have pb := pt_bd (W := S (30 + a)) (V := dkV (dkG (S (30 + a)) (S (30 + a) (-1)) d j) (dkC (S (30 + a)) (S (30 + a) (-1)) d j) (S (30 + a)) (j + 1)) (i := 0) (j := 0) n1 bV.2.1 (Int.le_refl 0) n0 (Int.le_refl 0) bV.1
      refine m_partsFrom a0 a8 (k4.ln (hY.ln a0 a8)) bw t4' bV (by rw [k4.2 11 (by decide) (by decide)]; exact ek) (fun hN M5 o5 => ⟨by decide, fun _ => nxt M5 o5 (fun q => q.1 hN), fun q => absurd rfl q⟩) (fun hN M5 o5 _ => ⟨⟨by omega, by omega⟩, fun q => absurd q (by omega), fun _ => ⟨hd, fun q => nxt M5 o5 (fun q2 => ?_), fun q => ?_⟩⟩)
      · have := q2.2
        unfold dkT at this
        omega
      · obtain ⟨s1, s2⟩ := dk_y (W := S (30 + a)) (n := S (30 + a) (-1)) (d := d) j0 ⟨hN, q⟩
        rw [ex]
        refine m_backOther (o5.ot t4') c0 (by omega) (by omega) (fun M6 o6 t6 => ?_)
        have := ih M6 ((k4.p o5).o o6) (by
          rw [s1, s2]
          refine t6.cg (by omega) (fun t t0 t1 => ?_)
          show (if t < dkC (S (30 + a)) (S (30 + a) (-1)) d j then (if t < dkC (S (30 + a)) (S (30 + a) (-1)) d j then _ else _) else if t = dkC (S (30 + a)) (S (30 + a) (-1)) d j then S (30 + a) j else (if t - 1 < dkC (S (30 + a)) (S (30 + a) (-1)) d j then _ else _)) = (if t < dkC (S (30 + a)) (S (30 + a) (-1)) d j + 1 then gup (dkG (S (30 + a)) (S (30 + a) (-1)) d j) (dkC (S (30 + a)) (S (30 + a) (-1)) d j) (S (30 + a) j) t else _)
          by_cases e : t < dkC (S (30 + a)) (S (30 + a) (-1)) d j
          · rw [if_pos e, if_pos e, if_pos (by omega), gup_n (by omega)]
          · rw [if_neg e]
            by_cases e2 : t = dkC (S (30 + a)) (S (30 + a) (-1)) d j
            · rw [if_pos e2, if_pos (by omega), gup_e e2]
            · rw [if_neg e2, if_neg (by omega), if_neg (by omega)]
              congr 1
              omega)
        rw [s2] at this
        exact this
