def zf (_ : Int) : Int := 0
theorem zf_v (t : Int) : zf t = 0 := rfl
theorem kp3.tr {M M2 M3 : Mem} (h : kp3 M M2) (h2 : kp3 M2 M3) : kp3 M M3 := ⟨fun a q1 q2 q3 => (h2.1 a q1 q2 q3).trans (h.1 a q1 q2 q3), fun q h1 => (h2.2 q h1).trans (h.2 q h1)⟩
theorem m_partsFrom {M : Mem} {w n m k : Int} {W V : Int → Int} {Q : Vl → Mem → Prop} (w0 : 0 ≤ w) (w8 : w < 8) (l : lnY M w n W) (b1 : wdB n W k) (o : othr M m V) (b2 : wdB m V k) (hk : M 88 11 = k) (hn : pt W V n m 0 0 = 0 → ∀ M2, kp3 M M2 → Q (Iv (-9)) M2) (hy : pt W V n m 0 0 ≠ 0 → ∀ M2, kp3 M M2 → (∀ t, 0 ≤ t → t < pt W V n m 0 0 → M2 100 t = ptX W V n m t) → Q (Iv (pt W V n m 0 0)) M2) : cl 0 yX12_partsFrom [Rv 88, Iv w] M Q := by
  have n0 := b1.1
  have n1 := b1.2.1
  have k0 := b1.2.2.1
  have k1 := b1.2.2.2.1
  have m0 := b2.1
  have m1 := b2.2.1
  have Nb := pt_bd (W := W) (V := V) (i := 0) (j := 0) n1 m1 (Int.le_refl 0) n0 (Int.le_refl 0) m0
  refine eX12_partsFrom ?_
  have done : ∀ kk M3 dep many, kp3 M M3 → qC W V n m M3 dep many kk 0 → many ≤ kk → Q (Iv (-9)) M3 := by
    intro kk M3 dep many o3 c3 hm
    rcases c3 with g | ⟨T, R, g1, g2, g3, g4, g5⟩
    · exact hn g M3 o3
    · have := g2 R g1.1 (Int.le_refl R)
      exact absurd g4 (by omega)
  have main : ∀ M2, kp3 M M2 → (∀ c, 0 ≤ c → c < 1700 → M2 111 c = 0) → wp 0 yX12_partsFrom 48 [some (Rv 88), some (Iv w), some (Iv 1), some (Iv 0), none, none, none, none, none, none] [] (up (up (up M2 108 0 0) 109 0 (-9)) 111 0 1) Q := by
    intro M2 o2 c2
    refine up_ind (P := fun kk => ∀ M3 dep many, kp3 M M3 → qI W V n m k M3 dep many kk 0 → qC W V n m M3 dep many kk 0 → wp 0 yX12_partsFrom 48 [some (Rv 88), some (Iv w), some (Iv many), some (Iv kk), none, none, none, none, none, none] [] M3 Q) (a := 0) (n := 1681) (by decide) (fun M3 dep many o3 i3 c3 => ?_) (fun kk kk0 kk1 ih M3 dep many o3 i3 c3 => ?_) _ zf 1 ⟨fun a q1 q2 q3 => by rw [up_ne (by omega), up_ne (by omega), up_ne (by omega)]; exact o2.1 a q1 q2 q3, fun q h => by rw [up_ne (by decide), up_ne (by decide), up_ne (by decide)]; exact o2.2 q h⟩ ?_ ?_
    · have qm := q_many i3
      exact gX12_partsFrom_48 ⟨by decide, ⟨by omega, by omega⟩, fun q => done _ M3 dep many o3 c3 q, fun q => absurd q (by omega)⟩
    · have qm := q_many i3
      refine gX12_partsFrom_48 ⟨⟨by omega, by omega⟩, ⟨by omega, by omega⟩, fun q => done _ M3 dep many o3 c3 q, fun q => ?_⟩
      obtain ⟨y1, y2, y3, y4⟩ := i3.2.2.1 kk kk0 q
      have y1' := y1
      have y2' := y2
      unfold qA at y1' y2'
      refine ⟨kk0, by omega, ⟨by omega, by omega⟩, ?_⟩
      rw [show Int.tdiv (M3 108 kk) 41 = qA M3 kk from Int.tdiv_eq_ediv_of_nonneg (by omega), show Int.tmod (M3 108 kk) 41 = qB M3 kk from Int.tmod_eq_emod_of_nonneg (by omega)]
      refine up_ind (P := fun x => ∀ M4 dep4 many4, kp3 M M4 → qI W V n m k M4 dep4 many4 kk x → qC W V n m M4 dep4 many4 kk x → kk < many4 → M4 108 kk = M3 108 kk → wp 0 yX12_partsFrom 78 [some (Rv 88), some (Iv w), some (Iv many4), some (Iv kk), some (Iv (qA M3 kk)), some (Iv (qB M3 kk)), some (Iv x), none, none, none] [] M4 Q) (a := 0) (n := k) (by omega) (fun M4 dep4 many4 o4 i4 c4 hk4 e8 => ?_) (fun x x0 x1 ih2 M4 dep4 many4 o4 i4 c4 hk4 e8 => ?_) M3 dep many o3 i3 c3 q rfl
      · have ek : M4 88 11 = k := by rw [o4.2 11 (by decide)]; exact hk
        obtain ⟨u1, u2⟩ := q_next b1 b2 i4 c4
        exact gX12_partsFrom_78 ⟨⟨by omega, by omega⟩, ⟨by omega, by omega⟩, fun _ => ih M4 dep4 many4 o4 u1 u2, fun q => absurd q (by omega)⟩
      · have ek : M4 88 11 = k := by rw [o4.2 11 (by decide)]; exact hk
        have qm4 := q_many i4
        have eA : qA M4 kk = qA M3 kk := by unfold qA; rw [e8]
        have eB : qB M4 kk = qB M3 kk := by unfold qB; rw [e8]
        have nb1 := nx_b (W := W) (n := n) (x := x) y1
        have nb2 := nx_b (W := V) (n := m) (x := x) y3
        have bz1 := bh_z (W := W) (n := n) (c := x) y1
        have bz2 := bh_z (W := V) (n := m) (c := x) y3
        have hb1 : nx W n (qA M3 kk) x ≠ -9 → bh W n (qA M3 kk) x = nx W n (qA M3 kk) x + 1 := fun q => by unfold bh; rw [if_neg q]
        have hb2 : nx V m (qB M3 kk) x ≠ -9 → bh V m (qB M3 kk) x = nx V m (qB M3 kk) x + 1 := fun q => by unfold bh; rw [if_neg q]
        -- one of both has no next place
        have one : ptd W V n m (qA M3 kk) (qB M3 kk) x = 1 → cl 0 yX12_layPart [Rv 88, Iv kk, Iv x] M4 (QI (fun z M5 => Q (Iv z) M5)) := by
          intro hd
          have pl := pt_le (W := W) (V := V) (m := m) (j := qB M3 kk) n1 y1 y2 x0 (show x < 6 by omega) (by omega)
          have pb := pt_bd (W := W) (V := V) (i := qA M3 kk) (j := qB M3 kk) n1 m1 y1 y2 y3 y4
          have qv := q_val b1 b2 i4 _ kk kk0 hk4 rfl (by rw [eA, eB]; exact pl.1)
          rw [eA, eB] at qv
          rcases c4 with g | ⟨T, R, g⟩
          · exact absurd g qv.1
          · have gg := g
            obtain ⟨⟨R0, R1, T0⟩, w2, w3, w4, w5⟩ := g
            obtain ⟨v1, v2, v3, v4⟩ := w2 R R0 (Int.le_refl R)
            have mono := i4.2.2.2.2.1 kk (T R) kk0 (by omega) v2
            obtain ⟨ek2, ex⟩ := q_hit b1 b2 i4 gg kk0 hk4 x0 (show x < 6 by omega) w4 (by omega) (by rw [eA, eB]; omega) (by rw [eA, eB]; omega)
            have eR : R + 1 = pt W V n m 0 0 := by have pl2 := pl.2; omega
            rw [ek2]
            refine m_layPart (f := ptX W V n m) R0 (by omega) T0 (fun r r0 r1 => ⟨(w2 r r0 r1).1, by have := (w2 r r0 r1).2.1; omega⟩) i4.2.1.2.1 w3 ex.symm (fun M5 o5 c5 => ?_)
            show Q (Iv (R + 1)) M5
            rw [eR]
            exact hy qv.1 M5 (o4.tr o5) (fun t t0 t1 => c5 t t0 (by omega))
        have skip : (∀ T R, qT W V n m M4 dep4 T R many4 kk x → ¬ (kk = T R ∧ x = ptX W V n m R)) → wp 0 yX12_partsFrom 78 [some (Rv 88), some (Iv w), some (Iv many4), some (Iv kk), some (Iv (qA M3 kk)), some (Iv (qB M3 kk)), some (Iv (x + 1)), none, none, none] [] M4 Q := by
          intro hs
          obtain ⟨u1, u2⟩ := q_skip i4 c4 hs
          exact ih2 M4 dep4 many4 o4 u1 u2 hk4 e8
        have at_ : ∀ T R, qT W V n m M4 dep4 T R many4 kk x → kk = T R → x = ptX W V n m R → ptd W V n m (qA M3 kk) (qB M3 kk) x = pt W V n m 0 0 - R ∧ 0 < pt W V n m 0 0 - R := by
          intro T R g ek2 ex
          obtain ⟨⟨R0, R1, T0⟩, w2, w3, w4, w5⟩ := g
          obtain ⟨v1, v2, v3, v4⟩ := w2 R R0 (Int.le_refl R)
          obtain ⟨⟨a1, a2, a3, a4⟩, a5, a6, a7, a8, a9⟩ := pt_at b1 b2 R0 R1
          rw [← ek2] at v4
          obtain ⟨d1, d2⟩ := q_dec v4 a3 (by omega)
          rw [← eA, ← eB, d1, d2, ex]
          exact ⟨a8, by omega⟩
        refine gX12_partsFrom_78 ⟨⟨by omega, by omega⟩, ⟨by omega, by omega⟩, fun q => absurd q (by omega), fun _ => m_nextW w0 w8 (o4.ln l) b1 y1 (by omega) ⟨by omega, by omega⟩ (m_nextOther (o4.ot o) b2 y3 (by omega) ⟨by omega, by omega⟩ ⟨⟨by omega, by omega⟩, fun q1 => ⟨⟨by omega, by omega⟩, fun q2 => ⟨fun _ => ⟨fun q3 => absurd q3 q1, fun _ => ?_⟩, fun q3 => absurd q3 q1⟩, fun q2 => ?_⟩, fun q1 => ⟨⟨by omega, by omega⟩, fun q2 => ?_, fun q2 => ⟨fun q3 => absurd q1 q3, fun _ => ⟨fun _ => ?_, fun q3 => absurd q1 q3⟩⟩⟩⟩)⟩
        · have h1 := hb1 q1
          have h2 := hb2 q2
          have ht : 41 * (nx W n (qA M3 kk) x + 1) + nx V m (qB M3 kk) x + 1 = 41 * bh W n (qA M3 kk) x + bh V m (qB M3 kk) x := by omega
          rw [ht]
          have z1 : bh W n (qA M3 kk) x ≠ 0 := by omega
          have z2 : bh V m (qB M3 kk) x ≠ 0 := by omega
          refine ⟨by omega, by omega, ?_⟩
          have h7 := i4.2.2.2.2.2 (41 * bh W n (qA M3 kk) x + bh V m (qB M3 kk) x) (by omega) (by omega)
          refine ⟨?_, fun q3 => skip (fun T R g q4 => ?_), fun q3 => ⟨by omega, by omega, ?_⟩⟩
          · rcases h7 with q3 | q3
            · rw [q3]; decide
            · rw [q3.1]; decide
          · rcases h7 with q5 | ⟨-, t, t0, t1, ht2⟩
            · exact q3 q5
            · obtain ⟨d1, d2⟩ := at_ T R g q4.1 q4.2
              obtain ⟨e1, e2⟩ := q_dec ht2 (by omega) (by omega)
              have pm := ptd_more (W := W) (V := V) (n := n) (m := m) z1 z2
              have pb := pt_bd (W := W) (V := V) (i := bh W n (qA M3 kk) x) (j := bh V m (qB M3 kk) x) n1 m1 (by omega) (by omega) (by omega) (by omega)
              by_cases q6 : pt W V n m (bh W n (qA M3 kk) x) (bh V m (qB M3 kk) x) = 0
              · rw [if_pos q6] at pm; omega
              · rw [if_neg q6] at pm
                exact q_no b1 b2 i4 g q4.1 q4.2 t0 t1 (by omega) (by rw [e1, e2]; omega)
          · obtain ⟨dep5, u1, u2⟩ := q_push b1 b2 i4 c4 kk0 hk4 x0 x1 (by rw [eA]; exact z1) (by rw [eB]; exact z2) (to := 41 * bh W n (qA M3 kk) x + bh V m (qB M3 kk) x) (by rw [eA, eB]) q3
            refine ih2 _ dep5 (many4 + 1) ⟨fun a h1 h2 h3 => by rw [up_ne (by omega), up_ne (by omega), up_ne (by omega), up_ne (by omega)]; exact o4.1 a h1 h2 h3, fun q h => by rw [up_ne (by decide), up_ne (by decide), up_ne (by decide), up_ne (by decide)]; exact o4.2 q h⟩ u1 u2 (by omega) ?_
            rw [up_ne (by decide), up_ne (by decide), up_at, if_neg (by omega), up_ne (by decide)]
            exact e8
        · exact one (ptd_one (Or.inr (bz2.2 q2)) (by have := bz2.2 q2; have := hb1 q1; omega))
        · exact one (ptd_one (Or.inl (bz1.2 q1)) (by have := bz1.2 q1; have := hb2 q2; omega))
        · refine skip (fun T R g q4 => ?_)
          obtain ⟨d1, d2⟩ := at_ T R g q4.1 q4.2
          rw [ptd_zero (bz1.2 q1) (bz2.2 q2)] at d1
          omega
    · refine ⟨⟨by decide, ?_⟩, ⟨?_, ?_, rfl⟩, fun t t0 t1 => ?_, fun t t0 t1 => absurd t1 (by omega), fun s t s0 st t1 => by rw [zf_v, zf_v]; exact Int.le_refl 0, fun c c0 c1 => ?_⟩
      · have := sm_one (f := up (up (up M2 108 0 0) 109 0 (-9)) 111 0 1 111) (g := M2 111) (c := 0) (by decide) (fun c hc => by rw [up_at, if_neg hc, up_ne (by decide), up_ne (by decide)]) 1681
        rw [show ((1681 : Nat) : Int) = 1681 from rfl, if_pos (by decide), up_at, if_pos rfl, c2 0 (by decide) (by decide), sm_cg (f := M2 111) (g := fun _ => 0) (by decide) (fun i i0 i1 => c2 i i0 (by omega))] at this
        have z := sm_zero (f := fun _ => (0 : Int)) (fun _ => rfl) 1681
        rw [show ((1681 : Nat) : Int) = 1681 from rfl] at z
        rw [this, z]
        rfl
      · rw [up_ne (by decide), up_ne (by decide), up_at, if_pos rfl]
      · rw [up_ne (by decide), up_at, if_pos rfl]
      · have e := q_dec (M := up (up (up M2 108 0 0) 109 0 (-9)) 111 0 1) (t := t) (a := 0) (b := 0) (by rw [up_ne (by decide), up_ne (by decide), up_at, if_pos (by omega)]; rfl) (by decide) (by decide)
        rw [e.1, e.2]
        exact ⟨by decide, n0, by decide, m0⟩
      · rw [up_at]
        by_cases e : c = 0
        · rw [if_pos e]
          exact Or.inr ⟨rfl, 0, by decide, by decide, by rw [up_ne (by decide), up_ne (by decide), up_at, if_pos rfl, e]⟩
        · rw [if_neg e, up_ne (by decide), up_ne (by decide)]
          exact Or.inl (c2 c c0 c1)
    · by_cases hN : pt W V n m 0 0 = 0
      · exact Or.inl hN
      · have pa := pt_at b1 b2 (Int.le_refl 0) (show 0 < pt W V n m 0 0 by omega)
        refine Or.inr ⟨zf, 0, ⟨by decide, by omega, rfl⟩, fun r r0 r1 => ⟨by rw [zf_v]; decide, by rw [zf_v]; decide, by rw [zf_v]; omega, ?_⟩, fun r r0 r1 => absurd r1 (by omega), Or.inr ⟨rfl, pa.2.2.1⟩, fun t t0 t1 => absurd t1 (by rw [zf_v]; omega)⟩
        rw [up_ne (by decide), up_ne (by decide), up_at, zf_v, if_pos rfl, show r = 0 by omega]
        rfl
  refine up_ind (P := fun x => ∀ M2, kp3 M M2 → (∀ c, 0 ≤ c → c < x → M2 111 c = 0) → wp 0 yX12_partsFrom 2 [some (Rv 88), some (Iv w), some (Iv x), none, none, none, none, none, none, none] [] M2 Q) (a := 0) (n := 1700) (by decide) (fun M2 o2 c2 => ?_) (fun x x0 x1 ih M2 o2 c2 => ?_) M ⟨fun _ _ _ _ => rfl, fun _ _ => rfl⟩ (fun c c0 c1 => absurd c1 (by omega))
  · exact gX12_partsFrom_2 ⟨by decide, fun _ => main M2 o2 c2, fun q => absurd q (by decide)⟩
  · refine gX12_partsFrom_2 ⟨⟨by omega, by omega⟩, fun q => absurd q (by omega), fun _ => ⟨x0, ih _ ⟨fun a h1 h2 h3 => by rw [up_ne (by omega)]; exact o2.1 a h1 h2 h3, fun q h => by rw [up_ne (by decide)]; exact o2.2 q h⟩ (fun c c0 c1 => ?_)⟩⟩
    rw [up_at]
    by_cases e : c = x
    · rw [if_pos e]
    · rw [if_neg e]; exact c2 c c0 (by omega)
theorem kpO.ln {M M2 : Mem} (h : kpO M M2) {w n : Int} {W : Int → Int} (l : lnY M w n W) : lnY M2 w n W := by
  unfold lnY
  rw [h.1 95 (by decide) (by decide), h.1 96 (by decide) (by decide)]
  exact l
theorem op_alike {S : Mem} (hW : WF S) {w v d : Int} (hw : inr w) (hv : inr v) (hd : inr d) : OpOK S yX11_alike yX12_alike [Iv w, Iv v, Iv d] Iv := by
  by_cases c1 : ((w < 0 ∨ 8 ≤ w) ∨ (v < 0 ∨ 8 ≤ v)) ∨ (d < 0 ∨ 40 < d)
  · refine ⟨-1, S, hW, fun M hX => eX11_alike ?_, fun M hY => eX12_alike ?_⟩
    · repeat' first
        | omega
        | exact px_rf hX _
        | exact px_fnd hX _ (by decide) (by decide)
        | refine c_noRow ?_ (fun q => ?_) (fun q => ?_)
        | refine c_noText ?_ (fun q => ?_) (fun q => ?_)
        | refine c_noWord ?_ (fun q => ?_) (fun q => ?_)
        | refine c_noLength ?_ (fun q => ?_) (fun q => ?_)
        | refine c_found (by decide) ?_
        | refine c_refuseRow hW hX ?_ (fun q => ?_) (fun q => ?_) (fun q => ?_)
        | refine c_refusePlace hW hX ?_ ?_ (fun q => ?_) (fun q => ?_) (fun q => ?_) (fun q => ?_)
        | refine c_refuseText hW hX ?_ (fun q => ?_) (fun q => ?_) (fun q => ?_)
        | refine c_refuseWords hW hX ?_ ?_ (fun q => ?_) (fun q => ?_) (fun q => ?_)
        | refine c_refuseWord hW hX ?_ (fun q => ?_) (fun q => ?_) (fun q => ?_)
        | refine c_has hL ?_ ?_ (fun q => ?_) (fun q => ?_)
        | refine c_isMissing hL ?_ (fun q => ?_) (fun q => ?_)
        | refine c_reaches hL ?_ ?_ (fun q => ?_) (fun q => ?_)
        | refine c_has hL2 ?_ ?_ (fun q => ?_) (fun q => ?_)
        | refine c_isMissing hL2 ?_ (fun q => ?_) (fun q => ?_)
        | refine c_reaches hL2 ?_ ?_ (fun q => ?_) (fun q => ?_)
        | refine c_is hWd ?_ ?_ (fun q => ?_) (fun q => ?_)
        | refine c_markOf hWd ?_ (fun q => ?_) (fun q => ?_)
        | with_reducible refine ⟨?_, ?_⟩
        | with_reducible intro q
    · repeat' first
        | omega
        | exact py_rf hY _
        | exact py_fnd hY _ (by decide) (by decide)
        | refine m_isRow ?_ (fun q => ?_) (fun q => ?_)
        | refine m_isText ?_ (fun q => ?_) (fun q => ?_)
        | refine m_isWord ?_ (fun q => ?_) (fun q => ?_)
        | refine m_in ?_ ?_ ?_ (fun q => ?_) (fun q => ?_)
        | refine m_meets (by decide) ?_
        | refine m_needWord hW hY ?_ ?_ (fun q => ?_) (fun q => ?_) (fun q => ?_)
        | refine m_needTwo hW hY ?_ ?_ ?_ (fun q => ?_) (fun q => ?_) (fun q => ?_)
        | refine m_isThere ?_ ?_ ?_ (fun q => ?_) (fun q => ?_)
        | refine m_at0 ?_ ?_ ?_
        | refine m_rowAt ?_ ?_ ?_
        | refine m_markOf ?_ ?_ ?_ (fun q => ?_) (fun q => ?_) (fun q => ?_)
        | with_reducible refine ⟨?_, ?_⟩
        | with_reducible intro q
  have w0 : 0 ≤ w := by omega
  have w8 : w < 8 := by omega
  have v0 : 0 ≤ v := by omega
  have v8 : v < 8 := by omega
  by_cases c3 : S (30 + w) (-1) < 0 ∨ S (30 + v) (-1) < 0
  · refine ⟨-3, fS S 1, hW.fnd 1, fun M hX => eX11_alike ?_, fun M hY => eX12_alike ?_⟩
    · repeat' first
        | omega
        | exact px_rf hX _
        | exact px_fnd hX _ (by decide) (by decide)
        | refine c_noRow ?_ (fun q => ?_) (fun q => ?_)
        | refine c_noText ?_ (fun q => ?_) (fun q => ?_)
        | refine c_noWord ?_ (fun q => ?_) (fun q => ?_)
        | refine c_noLength ?_ (fun q => ?_) (fun q => ?_)
        | refine c_found (by decide) ?_
        | refine c_refuseRow hW hX ?_ (fun q => ?_) (fun q => ?_) (fun q => ?_)
        | refine c_refusePlace hW hX ?_ ?_ (fun q => ?_) (fun q => ?_) (fun q => ?_) (fun q => ?_)
        | refine c_refuseText hW hX ?_ (fun q => ?_) (fun q => ?_) (fun q => ?_)
        | refine c_refuseWords hW hX ?_ ?_ (fun q => ?_) (fun q => ?_) (fun q => ?_)
        | refine c_refuseWord hW hX ?_ (fun q => ?_) (fun q => ?_) (fun q => ?_)
        | refine c_has hL ?_ ?_ (fun q => ?_) (fun q => ?_)
        | refine c_isMissing hL ?_ (fun q => ?_) (fun q => ?_)
        | refine c_reaches hL ?_ ?_ (fun q => ?_) (fun q => ?_)
        | refine c_has hL2 ?_ ?_ (fun q => ?_) (fun q => ?_)
        | refine c_isMissing hL2 ?_ (fun q => ?_) (fun q => ?_)
        | refine c_reaches hL2 ?_ ?_ (fun q => ?_) (fun q => ?_)
        | refine c_is hWd ?_ ?_ (fun q => ?_) (fun q => ?_)
        | refine c_markOf hWd ?_ (fun q => ?_) (fun q => ?_)
        | with_reducible refine ⟨?_, ?_⟩
        | with_reducible intro q
    · repeat' first
        | omega
        | exact py_rf hY _
        | exact py_fnd hY _ (by decide) (by decide)
        | refine m_isRow ?_ (fun q => ?_) (fun q => ?_)
        | refine m_isText ?_ (fun q => ?_) (fun q => ?_)
        | refine m_isWord ?_ (fun q => ?_) (fun q => ?_)
        | refine m_in ?_ ?_ ?_ (fun q => ?_) (fun q => ?_)
        | refine m_meets (by decide) ?_
        | refine m_needWord hW hY ?_ ?_ (fun q => ?_) (fun q => ?_) (fun q => ?_)
        | refine m_needTwo hW hY ?_ ?_ ?_ (fun q => ?_) (fun q => ?_) (fun q => ?_)
        | refine m_isThere ?_ ?_ ?_ (fun q => ?_) (fun q => ?_)
        | refine m_at0 ?_ ?_ ?_
        | refine m_rowAt ?_ ?_ ?_
        | refine m_markOf ?_ ?_ ?_ (fun q => ?_) (fun q => ?_) (fun q => ?_)
        | with_reducible refine ⟨?_, ?_⟩
        | with_reducible intro q
  have bw := hW.wd w0 w8 (by omega)
  have bv := hW.wd v0 v8 (by omega)
  have Nb := pt_bd (W := S (30 + w)) (V := S (30 + v)) (i := 0) (j := 0) bw.2.1 bv.2.1 (Int.le_refl 0) bw.1 (Int.le_refl 0) bv.1
  refine ⟨if pt (S (30 + w)) (S (30 + v)) (S (30 + w) (-1)) (S (30 + v) (-1)) 0 0 = 0 ∨ d < pt (S (30 + w)) (S (30 + v)) (S (30 + w) (-1)) (S (30 + v) (-1)) 0 0 then 1 else 0, S, hW, fun M hX => eX11_alike ?_, fun M hY => eX12_alike ?_⟩
  · refine c_noLength hd (fun q => absurd q (by omega)) (fun _ => ⟨fun _ => c_refuseWords hW hX hw hv (fun q => absurd q (by omega)) (fun q => absurd q (by omega)) (fun q => ⟨by decide, fun _ => ⟨w0, w8, v0, v8, c_measureParting (isW_word w0 w8).l (isW_word v0 v8).l (hX.ln w0 w8) (hX.ln v0 v8) bw bv (fun M2 o2 _ _ _ => ?_)⟩, fun q => absurd rfl q⟩), fun q => absurd rfl q⟩)
    have px : ∀ a b, a = b → PX S (Iv b) M (Iv a) M2 := fun a b e => by rw [e]; exact ⟨rfl, o2.x hX (fun a a0 a1 => by unfold kX; omega), o2.fx (by decide) (by decide)⟩
    exact ⟨⟨by omega, by omega⟩, fun q => px _ _ (by rw [if_pos (Or.inl q)]), fun q => ⟨hd, fun q2 => px _ _ (by rw [if_neg (by omega)]), fun q2 => px _ _ (by rw [if_pos (Or.inr q2)])⟩⟩
  · refine m_in hd (by decide) (by decide) (fun q => absurd q (by omega)) (fun _ => m_needTwo hW hY (Or.inr rfl) hw hv (fun q => absurd q (by omega)) (fun q => absurd q (by omega)) (fun q => ⟨by decide, fun _ => m_layOther v0 v8 (hY.ln v0 v8) bv (fun M2 o2 ot => ?_), fun q => absurd q (by decide)⟩))
    have hY2 : Y S M2 := o2.y hY
    have py : ∀ M3, kp3 M2 M3 → ∀ a b, a = b → PY S (Iv b) M (Iv a) M3 := fun M3 o3 a b e => by rw [e]; exact ⟨rfl, o3.y hY2, o2.fy.tr o3.fy⟩
    refine m_partsFrom w0 w8 (hY2.ln w0 w8) bw ot bv hY2.2.2.2.1.1 (fun hN M3 o3 => ⟨by decide, fun _ => py M3 o3 _ _ (by rw [if_pos (Or.inl hN)]), fun q => absurd rfl q⟩) (fun hN M3 o3 _ => ⟨⟨by omega, by omega⟩, fun q => absurd q (by omega), fun _ => ⟨hd, fun q2 => py M3 o3 _ _ (by rw [if_neg (by omega)]), fun q2 => py M3 o3 _ _ (by rw [if_pos (Or.inr q2)])⟩⟩)
theorem op_parting {S : Mem} (hW : WF S) {w v r : Int} (hw : inr w) (hv : inr v) (hr : inr r) : OpOK S yX11_parting yX12_parting [Iv w, Iv v, Iv r] Iv := by
  by_cases c1 : ((w < 0 ∨ 8 ≤ w) ∨ (v < 0 ∨ 8 ≤ v)) ∨ (r < 0 ∨ 6 ≤ r)
  · refine ⟨-1, S, hW, fun M hX => eX11_parting ?_, fun M hY => eX12_parting ?_⟩
    · repeat' first
        | omega
        | exact px_rf hX _
        | exact px_fnd hX _ (by decide) (by decide)
        | refine c_noRow ?_ (fun q => ?_) (fun q => ?_)
        | refine c_noText ?_ (fun q => ?_) (fun q => ?_)
        | refine c_noWord ?_ (fun q => ?_) (fun q => ?_)
        | refine c_noLength ?_ (fun q => ?_) (fun q => ?_)
        | refine c_found (by decide) ?_
        | refine c_refuseRow hW hX ?_ (fun q => ?_) (fun q => ?_) (fun q => ?_)
        | refine c_refusePlace hW hX ?_ ?_ (fun q => ?_) (fun q => ?_) (fun q => ?_) (fun q => ?_)
        | refine c_refuseText hW hX ?_ (fun q => ?_) (fun q => ?_) (fun q => ?_)
        | refine c_refuseWords hW hX ?_ ?_ (fun q => ?_) (fun q => ?_) (fun q => ?_)
        | refine c_refuseWord hW hX ?_ (fun q => ?_) (fun q => ?_) (fun q => ?_)
        | refine c_has hL ?_ ?_ (fun q => ?_) (fun q => ?_)
        | refine c_isMissing hL ?_ (fun q => ?_) (fun q => ?_)
        | refine c_reaches hL ?_ ?_ (fun q => ?_) (fun q => ?_)
        | refine c_has hL2 ?_ ?_ (fun q => ?_) (fun q => ?_)
        | refine c_isMissing hL2 ?_ (fun q => ?_) (fun q => ?_)
        | refine c_reaches hL2 ?_ ?_ (fun q => ?_) (fun q => ?_)
        | refine c_is hWd ?_ ?_ (fun q => ?_) (fun q => ?_)
        | refine c_markOf hWd ?_ (fun q => ?_) (fun q => ?_)
        | with_reducible refine ⟨?_, ?_⟩
        | with_reducible intro q
    · repeat' first
        | omega
        | exact py_rf hY _
        | exact py_fnd hY _ (by decide) (by decide)
        | refine m_isRow ?_ (fun q => ?_) (fun q => ?_)
        | refine m_isText ?_ (fun q => ?_) (fun q => ?_)
        | refine m_isWord ?_ (fun q => ?_) (fun q => ?_)
        | refine m_in ?_ ?_ ?_ (fun q => ?_) (fun q => ?_)
        | refine m_meets (by decide) ?_
        | refine m_needWord hW hY ?_ ?_ (fun q => ?_) (fun q => ?_) (fun q => ?_)
        | refine m_needTwo hW hY ?_ ?_ ?_ (fun q => ?_) (fun q => ?_) (fun q => ?_)
        | refine m_isThere ?_ ?_ ?_ (fun q => ?_) (fun q => ?_)
        | refine m_at0 ?_ ?_ ?_
        | refine m_rowAt ?_ ?_ ?_
        | refine m_markOf ?_ ?_ ?_ (fun q => ?_) (fun q => ?_) (fun q => ?_)
        | with_reducible refine ⟨?_, ?_⟩
        | with_reducible intro q
  have w0 : 0 ≤ w := by omega
  have w8 : w < 8 := by omega
  have v0 : 0 ≤ v := by omega
  have v8 : v < 8 := by omega
  have r0 : 0 ≤ r := by omega
  have r6 : r < 6 := by omega
  by_cases c3 : S (30 + w) (-1) < 0 ∨ S (30 + v) (-1) < 0
  · refine ⟨-3, fS S 1, hW.fnd 1, fun M hX => eX11_parting ?_, fun M hY => eX12_parting ?_⟩
    · repeat' first
        | omega
        | exact px_rf hX _
        | exact px_fnd hX _ (by decide) (by decide)
        | refine c_noRow ?_ (fun q => ?_) (fun q => ?_)
        | refine c_noText ?_ (fun q => ?_) (fun q => ?_)
        | refine c_noWord ?_ (fun q => ?_) (fun q => ?_)
        | refine c_noLength ?_ (fun q => ?_) (fun q => ?_)
        | refine c_found (by decide) ?_
        | refine c_refuseRow hW hX ?_ (fun q => ?_) (fun q => ?_) (fun q => ?_)
        | refine c_refusePlace hW hX ?_ ?_ (fun q => ?_) (fun q => ?_) (fun q => ?_) (fun q => ?_)
        | refine c_refuseText hW hX ?_ (fun q => ?_) (fun q => ?_) (fun q => ?_)
        | refine c_refuseWords hW hX ?_ ?_ (fun q => ?_) (fun q => ?_) (fun q => ?_)
        | refine c_refuseWord hW hX ?_ (fun q => ?_) (fun q => ?_) (fun q => ?_)
        | refine c_has hL ?_ ?_ (fun q => ?_) (fun q => ?_)
        | refine c_isMissing hL ?_ (fun q => ?_) (fun q => ?_)
        | refine c_reaches hL ?_ ?_ (fun q => ?_) (fun q => ?_)
        | refine c_has hL2 ?_ ?_ (fun q => ?_) (fun q => ?_)
        | refine c_isMissing hL2 ?_ (fun q => ?_) (fun q => ?_)
        | refine c_reaches hL2 ?_ ?_ (fun q => ?_) (fun q => ?_)
        | refine c_is hWd ?_ ?_ (fun q => ?_) (fun q => ?_)
        | refine c_markOf hWd ?_ (fun q => ?_) (fun q => ?_)
        | with_reducible refine ⟨?_, ?_⟩
        | with_reducible intro q
    · repeat' first
        | omega
        | exact py_rf hY _
        | exact py_fnd hY _ (by decide) (by decide)
        | refine m_isRow ?_ (fun q => ?_) (fun q => ?_)
        | refine m_isText ?_ (fun q => ?_) (fun q => ?_)
        | refine m_isWord ?_ (fun q => ?_) (fun q => ?_)
        | refine m_in ?_ ?_ ?_ (fun q => ?_) (fun q => ?_)
        | refine m_meets (by decide) ?_
        | refine m_needWord hW hY ?_ ?_ (fun q => ?_) (fun q => ?_) (fun q => ?_)
        | refine m_needTwo hW hY ?_ ?_ ?_ (fun q => ?_) (fun q => ?_) (fun q => ?_)
        | refine m_isThere ?_ ?_ ?_ (fun q => ?_) (fun q => ?_)
        | refine m_at0 ?_ ?_ ?_
        | refine m_rowAt ?_ ?_ ?_
        | refine m_markOf ?_ ?_ ?_ (fun q => ?_) (fun q => ?_) (fun q => ?_)
        | with_reducible refine ⟨?_, ?_⟩
        | with_reducible intro q
  have bw := hW.wd w0 w8 (by omega)
  have bv := hW.wd v0 v8 (by omega)
  have k1 := bw.2.2.2.1
  have Nb := pt_bd (W := S (30 + w)) (V := S (30 + v)) (i := 0) (j := 0) bw.2.1 bv.2.1 (Int.le_refl 0) bw.1 (Int.le_refl 0) bv.1
  by_cases hN : pt (S (30 + w)) (S (30 + v)) (S (30 + w) (-1)) (S (30 + v) (-1)) 0 0 = 0
  · refine ⟨-9, S, hW, fun M hX => eX11_parting ?_, fun M hY => eX12_parting ?_⟩
    · exact c_noRow hr (fun q => absurd q (by omega)) (fun _ => ⟨fun _ => c_refuseWords hW hX hw hv (fun q => absurd q (by omega)) (fun q => absurd q (by omega)) (fun q => ⟨by decide, fun _ => ⟨w0, w8, v0, v8, c_measureParting (isW_word w0 w8).l (isW_word v0 v8).l (hX.ln w0 w8) (hX.ln v0 v8) bw bv (fun M2 o2 _ _ _ => ⟨⟨by omega, by omega⟩, fun q => absurd hN q, fun _ => ⟨rfl, o2.x hX (fun a a0 a1 => by unfold kX; omega), o2.fx (by decide) (by decide)⟩⟩)⟩, fun q => absurd rfl q⟩), fun q => absurd rfl q⟩)
    · refine m_isRow hr (fun q => absurd q (by omega)) (fun _ => m_needTwo hW hY (Or.inr rfl) hw hv (fun q => absurd q (by omega)) (fun q => absurd q (by omega)) (fun q => ⟨by decide, fun _ => m_layOther v0 v8 (hY.ln v0 v8) bv (fun M2 o2 ot => ?_), fun q => absurd q (by decide)⟩))
      have hY2 : Y S M2 := o2.y hY
      exact m_partsFrom w0 w8 (hY2.ln w0 w8) bw ot bv hY2.2.2.2.1.1 (fun _ M3 o3 => ⟨by decide, fun q => absurd rfl q, fun _ => ⟨rfl, o3.y hY2, o2.fy.tr o3.fy⟩⟩) (fun q => absurd hN q)
  · have xb : ∀ j, 0 ≤ j → j < pt (S (30 + w)) (S (30 + v)) (S (30 + w) (-1)) (S (30 + v) (-1)) 0 0 → inr (ptX (S (30 + w)) (S (30 + v)) (S (30 + w) (-1)) (S (30 + v) (-1)) j) := fun j j0 j1 => by
      have pa := pt_at bw bv j0 j1
      have h1 := pa.2.2.1
      have h2 := pa.2.2.2.1
      exact ⟨by omega, by omega⟩
    refine ⟨pt (S (30 + w)) (S (30 + v)) (S (30 + w) (-1)) (S (30 + v) (-1)) 0 0, setLn S (10 + r) (pt (S (30 + w)) (S (30 + v)) (S (30 + w) (-1)) (S (30 + v) (-1)) 0 0) (ptX (S (30 + w)) (S (30 + v)) (S (30 + w) (-1)) (S (30 + v) (-1))), hW.row r0 r6 (by omega) (by omega) xb, fun M hX => eX11_parting ?_, fun M hY => eX12_parting ?_⟩
    · refine c_noRow hr (fun q => absurd q (by omega)) (fun _ => ⟨fun _ => c_refuseWords hW hX hw hv (fun q => absurd q (by omega)) (fun q => absurd q (by omega)) (fun q => ⟨by decide, fun _ => ⟨w0, w8, v0, v8, c_measureParting (isW_word w0 w8).l (isW_word v0 v8).l (hX.ln w0 w8) (hX.ln v0 v8) bw bv (fun M2 o2 s1 s2 c2 => ⟨⟨by omega, by omega⟩, fun _ => c_firstParting bw bv s1 s2 c2 hN (fun M3 o3 c3 => ⟨r0, r6, c_take (isL_row r0 r6) (m := 80) ⟨by decide, by decide, rfl⟩ (by omega) (by omega) (by omega) (by decide) ?_⟩), fun q => absurd q hN⟩)⟩, fun q => absurd rfl q⟩), fun q => absurd rfl q⟩)
      exact ⟨rfl, (o3.x (o2.x hX (fun a a0 a1 => by unfold kX; omega)) (fun a a0 a1 => by unfold kX; omega)).tk r0 r6 c3, ((o2.fx (by decide) (by decide)).tr (o3.fx (by decide) (by decide))).tk r0 r6⟩
    · refine m_isRow hr (fun q => absurd q (by omega)) (fun _ => m_needTwo hW hY (Or.inr rfl) hw hv (fun q => absurd q (by omega)) (fun q => absurd q (by omega)) (fun q => ⟨by decide, fun _ => m_layOther v0 v8 (hY.ln v0 v8) bv (fun M2 o2 ot => ?_), fun q => absurd q (by decide)⟩))
      have hY2 : Y S M2 := o2.y hY
      refine m_partsFrom w0 w8 (hY2.ln w0 w8) bw ot bv hY2.2.2.2.1.1 (fun q => absurd q hN) (fun _ M3 o3 c3 => ⟨⟨by omega, by omega⟩, fun _ => ⟨fun _ => m_comesToRow r0 r6 (by rw [up_at, if_pos rfl]; omega) (by rw [up_at, if_pos rfl]; omega) ?_, fun q => absurd q (by omega)⟩, fun q => absurd q (by omega)⟩)
      exact py_ctr hW ((o3.y hY2).up (by unfold kY; omega) (by omega)) ((o2.fy.tr o3.fy).up (by omega)) r0 r6 (by rw [up_at, if_pos rfl]) (by omega) (by omega) (fun j j0 j1 => by rw [up_ne (by decide)]; exact c3 j j0 j1) _
