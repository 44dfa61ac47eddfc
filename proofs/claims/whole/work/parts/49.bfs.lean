/-! the reference: other words, next places there -/
def othr (M : Mem) (m : Int) (V : Int → Int) : Prop := M 88 33 = m ∧ ∀ i, 0 ≤ i → i < m → M 112 i = V i
theorem m_nextOther {M : Mem} {m p x k : Int} {V : Int → Int} {Q : Vl → Mem → Prop} (o : othr M m V) (b : wdB m V k) (hp : 0 ≤ p) (hp2 : p ≤ 41) (hx : inr x) (h : Q (Iv (nx V m p x)) M) : cl 0 yX12_nextOther [Rv 88, Iv p, Iv x] M Q := by
  obtain ⟨m0, m1, k0, k1, hv⟩ := b
  obtain ⟨o1, o2⟩ := o
  refine eX12_nextOther ?_
  refine up_ind (P := fun z => nx V m z x = nx V m p x → wp 0 yX12_nextOther 2 [some (Rv 88), some (Iv p), some (Iv x), some (Iv z)] [] M Q) (a := p) (n := 41) hp2 (fun hz => ?_) (fun z z0 z1 ih hz => ?_) rfl
  · refine gX12_nextOther_2 ⟨by decide, by rw [o1]; exact ⟨by omega, by omega⟩, fun q => ?_, fun q => absurd q (by rw [o1]; omega)⟩
    rw [← hz, nx_end (by omega)] at h
    exact h
  · refine gX12_nextOther_2 ⟨⟨by omega, by omega⟩, by rw [o1]; exact ⟨by omega, by omega⟩, fun q => ?_, fun q => ⟨by omega, by omega, ?_⟩⟩
    · rw [← hz, nx_end (by omega)] at h
      exact h
    · rw [o1] at q
      have hvz := hv z (by omega) q
      rw [o2 z (by omega) q]
      refine ⟨Or.inr ⟨⟨by omega, by omega⟩, hx⟩, fun q2 => ih ?_, fun q2 => ?_⟩
      · rw [← hz, nx_step q, if_neg q2]
      · rw [← hz, nx_step q, if_pos q2] at h
        exact h
def kpO (M M2 : Mem) : Prop := (∀ a, a ≠ 88 → a ≠ 112 → M2 a = M a) ∧ ∀ q, q ≠ 33 → M2 88 q = M 88 q
theorem kpO.y {S M M2 : Mem} (h : kpO M M2) (hY : Y S M) : Y S M2 := hY.same (fun a ka => h.1 a (by unfold kY at ka; omega) (by unfold kY at ka; omega)) (fun q hq => h.2 q (by omega))
theorem kpO.fy {M M2 : Mem} (h : kpO M M2) : fry M M2 := fun a ha => h.1 a (by omega) (by omega)
theorem m_layOther {M : Mem} {w n k : Int} {W : Int → Int} {Q : Vl → Mem → Prop} (w0 : 0 ≤ w) (w8 : w < 8) (l : lnY M w n W) (b : wdB n W k) (hq : ∀ M2, kpO M M2 → othr M2 n W → Q (Iv 0) M2) : cl 0 yX12_layOther [Rv 88, Iv w] M Q := by
  obtain ⟨n0, n1, k0, k1, hw⟩ := b
  refine eX12_layOther ⟨w0, w8, ?_⟩
  rw [l.1]
  refine up_ind (P := fun x => ∀ M2, kpO M M2 → M2 88 33 = n → (∀ i, 0 ≤ i → i < x → M2 112 i = W i) → wp 0 yX12_layOther 12 [some (Rv 88), some (Iv w), some (Iv x)] [] M2 Q) (a := 0) (n := n) n0 (fun M2 o2 e2 c2 => ?_) (fun x x0 x1 ih M2 o2 e2 c2 => ?_) (up M 88 33 n) ⟨fun a h1 _ => up_ne h1, fun q h => by rw [up_at, if_neg h]⟩ (by rw [up_at, if_pos rfl]) (fun i i0 i1 => absurd i1 (by omega))
  · exact gX12_layOther_12 ⟨⟨by omega, by omega⟩, by rw [e2]; exact ⟨by omega, by omega⟩, fun _ => hq M2 o2 ⟨e2, c2⟩, fun q => absurd q (by omega)⟩
  · refine gX12_layOther_12 ⟨⟨by omega, by omega⟩, by rw [e2]; exact ⟨by omega, by omega⟩, fun q => absurd q (by omega), fun _ => m_at0 (by omega) (by omega) ⟨x0, by omega, ih _ ⟨fun a h1 h2 => by rw [up_ne h2]; exact o2.1 a h1 h2, fun q h => by rw [up_ne (by decide)]; exact o2.2 q h⟩ (by rw [up_ne (by decide)]; exact e2) (fun i i0 i1 => ?_)⟩⟩
    rw [up_at, o2.1 96 (by decide) (by decide), l.2 x x0 x1]
    by_cases c : i = x
    · rw [if_pos c, c]
    · rw [if_neg c]; exact c2 i i0 (by omega)
def kp3 (M M2 : Mem) : Prop := (∀ a, a ≠ 88 → a ≠ 100 → (a < 108 ∨ 111 < a) → M2 a = M a) ∧ ∀ q, q ≠ 17 → M2 88 q = M 88 q
theorem kp3.y {S M M2 : Mem} (h : kp3 M M2) (hY : Y S M) : Y S M2 := hY.same (fun a ka => h.1 a (by unfold kY at ka; omega) (by unfold kY at ka; omega) (by unfold kY at ka; omega)) (fun q hq => h.2 q (by omega))
theorem kp3.fy {M M2 : Mem} (h : kp3 M M2) : fry M M2 := fun a ha => h.1 a (by omega) (by omega) (by omega)
theorem kp3.ln {M M2 : Mem} (h : kp3 M M2) {w n : Int} {W : Int → Int} (l : lnY M w n W) : lnY M2 w n W := by
  unfold lnY
  rw [h.1 95 (by decide) (by decide) (by decide), h.1 96 (by decide) (by decide) (by decide)]
  exact l
theorem kp3.ot {M M2 : Mem} (h : kp3 M M2) {m : Int} {V : Int → Int} (o : othr M m V) : othr M2 m V := by
  unfold othr
  rw [h.1 112 (by decide) (by decide) (by decide), h.2 33 (by decide)]
  exact o
theorem m_layPart {M : Mem} {T f : Int → Int} {R x : Int} {Q : Vl → Mem → Prop} (R0 : 0 ≤ R) (R1 : R ≤ 39) (t0 : T 0 = 0) (tb : ∀ r, 0 ≤ r → r ≤ R → 0 ≤ T r ∧ T r < 1700) (h0 : M 109 0 = -9) (hc : ∀ r, 0 ≤ r → r < R → M 109 (T (r + 1)) = T r ∧ M 110 (T (r + 1)) = f r) (hx : f R = x) (hq : ∀ M2, kp3 M M2 → (∀ t, 0 ≤ t → t ≤ R → M2 100 t = f t) → Q (Iv (R + 1)) M2) : cl 0 yX12_layPart [Rv 88, Iv (T R), Iv x] M Q := by
  refine eX12_layPart ?_
  have key := dn_ind (P := fun r => r ≤ R → wp 0 yX12_layPart 5 [some (Rv 88), some (Iv (T R)), some (Iv x), some (Iv (R - r + 1)), some (Iv (T r)), none] [] M Q) (a := 0) (n := R) R0 (fun _ => ?_) (fun r r0 r1 ih rR => ?_) (Int.le_refl R)
  · rw [show R - R + 1 = 1 by omega] at key
    exact key
  · rw [t0, Int.sub_zero]
    refine gX12_layPart_5 ⟨by decide, by decide, by rw [h0]; decide, fun _ => ⟨⟨by omega, by omega⟩, fun q => absurd q (by omega), fun _ => ⟨by omega, by omega, ?_⟩⟩, fun q => absurd h0 q⟩
    rw [show R + 1 - 1 = R by omega]
    refine dn_ind (P := fun r => r ≤ R → ∀ M2, kp3 M M2 → (∀ a, a ≠ 88 → a ≠ 100 → M2 a = M a) → (∀ t, r ≤ t → t ≤ R → M2 100 t = f t) → wp 0 yX12_layPart 60 [some (Rv 88), some (Iv (T R)), some (Iv x), some (Iv (R + 1)), some (Iv r), some (Iv (T r))] [] M2 Q) (a := 0) (n := R) R0 (fun _ M2 o2 p2 c2 => ?_) (fun r r0 r1 ih rR M2 o2 p2 c2 => ?_) (Int.le_refl R) (up (up M 88 17 (R + 1)) 100 R x) ⟨fun a h1 h2 _ => by rw [up_ne h2, up_ne h1], fun q h => by rw [up_ne (by decide), up_at, if_neg h]⟩ (fun a h1 h2 => by rw [up_ne h2, up_ne h1]) (fun t q1 q2 => by rw [up_at, if_pos (by omega), ← hx]; congr 1; omega)
    · have e : M2 109 (T 0) = -9 := by rw [p2 109 (by decide) (by decide), t0]; exact h0
      exact gX12_layPart_60 ⟨by rw [t0]; decide, by rw [t0]; decide, by rw [e]; decide, fun _ => hq M2 o2 c2, fun q => absurd e q⟩
    · have tr := tb r (by omega) rR
      have tr1 := tb (r - 1) (by omega) (by omega)
      obtain ⟨e1, e2⟩ := hc (r - 1) (by omega) (by omega)
      rw [show r - 1 + 1 = r by omega] at e1 e2
      have e1' : M2 109 (T r) = T (r - 1) := by rw [p2 109 (by decide) (by decide)]; exact e1
      have e2' : M2 110 (T r) = f (r - 1) := by rw [p2 110 (by decide) (by decide)]; exact e2
      refine gX12_layPart_60 ⟨tr.1, tr.2, by rw [e1']; exact ⟨by omega, by omega⟩, fun q => absurd q (by rw [e1']; omega), fun _ => ⟨by omega, by omega, ?_⟩⟩
      rw [e1', e2']
      refine ih (by omega) (up M2 100 (r + -1) (f (r - 1))) ⟨fun a h1 h2 h3 => by rw [up_ne h2]; exact o2.1 a h1 h2 h3, fun q h => by rw [up_ne (by decide)]; exact o2.2 q h⟩ (fun a h1 h2 => by rw [up_ne h2]; exact p2 a h1 h2) (fun t q1 q2 => ?_)
      rw [up_at]
      by_cases ct : t = r - 1
      · rw [if_pos (by omega), ct]
      · rw [if_neg (by omega)]; exact c2 t (by omega) q2
  · have tr := tb r (by omega) rR
    have tr1 := tb (r - 1) (by omega) (by omega)
    have e1 := (hc (r - 1) (by omega) (by omega)).1
    rw [show r - 1 + 1 = r by omega] at e1
    refine gX12_layPart_5 ⟨tr.1, tr.2, by rw [e1]; exact ⟨by omega, by omega⟩, fun q => absurd q (by rw [e1]; omega), fun _ => ?_⟩
    rw [e1]
    have := ih (by omega)
    rw [show R - (r - 1) + 1 = R - r + 1 + 1 by omega] at this
    exact this
/-! the queue -/
def qA (M : Mem) (t : Int) : Int := M 108 t / 41
def qB (M : Mem) (t : Int) : Int := M 108 t % 41
theorem q_dec {M : Mem} {t a b : Int} (h : M 108 t = 41 * a + b) (b0 : 0 ≤ b) (b1 : b ≤ 40) : qA M t = a ∧ qB M t = b := by
  unfold qA qB
  rw [h]
  omega
def qE (W V : Int → Int) (n m k : Int) (M : Mem) (dep : Int → Int) (kk x t : Int) : Prop := 0 ≤ M 109 t ∧ M 109 t < t ∧ (M 109 t < kk ∨ (M 109 t = kk ∧ M 110 t < x)) ∧ 0 ≤ M 110 t ∧ M 110 t < k ∧ dep t = dep (M 109 t) + 1 ∧ bh W n (qA M (M 109 t)) (M 110 t) ≠ 0 ∧ bh V m (qB M (M 109 t)) (M 110 t) ≠ 0 ∧ M 108 t = 41 * bh W n (qA M (M 109 t)) (M 110 t) + bh V m (qB M (M 109 t)) (M 110 t)
def qM (M : Mem) (many c : Int) : Prop := ∃ t, 0 ≤ t ∧ t < many ∧ M 108 t = c
def qI (W V : Int → Int) (n m k : Int) (M : Mem) (dep : Int → Int) (many kk x : Int) : Prop := (1 ≤ many ∧ sm (M 111) 1681 = many) ∧ (M 108 0 = 0 ∧ M 109 0 = -9 ∧ dep 0 = 0) ∧ (∀ t, 0 ≤ t → t < many → 0 ≤ qA M t ∧ qA M t ≤ n ∧ 0 ≤ qB M t ∧ qB M t ≤ m) ∧ (∀ t, 1 ≤ t → t < many → qE W V n m k M dep kk x t) ∧ (∀ s t, 0 ≤ s → s ≤ t → t < many → dep s ≤ dep t) ∧ (∀ c, 0 ≤ c → c < 1700 → M 111 c = 0 ∨ (M 111 c = 1 ∧ qM M many c))
theorem q_many {W V : Int → Int} {n m k : Int} {M : Mem} {dep : Int → Int} {many kk x : Int} (h : qI W V n m k M dep many kk x) : 1 ≤ many ∧ many ≤ 1681 := by
  obtain ⟨⟨h1, h2⟩, h3, h4, h5, h6, h7⟩ := h
  have := sm_bd (f := M 111) (lo := 0) (hi := 1) (n := 1681) (fun i i0 i1 => by
    rcases h7 i i0 (by omega) with q | q
    · omega
    · have := q.1; omega)
  rw [show ((1681 : Nat) : Int) = 1681 from rfl] at this
  omega
theorem q_val {W V : Int → Int} {n m k : Int} {M : Mem} {dep : Int → Int} {many kk x : Int} (b1 : wdB n W k) (b2 : wdB m V k) (h : qI W V n m k M dep many kk x) : ∀ (f : Nat) (t : Int), 0 ≤ t → t < many → t.toNat = f → pt W V n m (qA M t) (qB M t) ≠ 0 → pt W V n m 0 0 ≠ 0 ∧ pt W V n m 0 0 ≤ dep t + pt W V n m (qA M t) (qB M t) := by
  obtain ⟨⟨h1, h2⟩, ⟨h3, h3', h3''⟩, h4, h5, h6, h7⟩ := h
  have n1 := b1.2.1
  have m1 := b2.2.1
  have k1 := b1.2.2.2.1
  intro f
  induction f using Nat.strongRecOn with
  | _ f ih =>
    intro t t0 t1 tf hp
    by_cases c : t = 0
    · rw [c] at hp ⊢
      have e := q_dec (M := M) (t := 0) (a := 0) (b := 0) (by rw [h3]; rfl) (by decide) (by decide)
      rw [e.1, e.2] at hp ⊢
      exact ⟨hp, by omega⟩
    · obtain ⟨g1, g2, g3, g4, g5, g6, g7, g8, g9⟩ := h5 t (by omega) t1
      obtain ⟨p1, p2, p3, p4⟩ := h4 (M 109 t) g1 (by omega)
      have bb1 := bh_b (W := W) (n := n) (c := M 110 t) p1
      have bb2 := bh_b (W := V) (n := m) (c := M 110 t) p3
      obtain ⟨e1, e2⟩ := q_dec g9 (by omega) (by omega)
      rw [e1, e2] at hp ⊢
      have pm := ptd_more (W := W) (V := V) (n := n) (m := m) g7 g8
      rw [if_neg hp] at pm
      have pb := pt_bd (W := W) (V := V) (i := bh W n (qA M (M 109 t)) (M 110 t)) (j := bh V m (qB M (M 109 t)) (M 110 t)) n1 m1 (by omega) (by omega) (by omega) (by omega)
      have pl := pt_le (W := W) (V := V) (m := m) (j := qB M (M 109 t)) n1 p1 p2 g4 (show M 110 t < 6 by omega) (by omega)
      have := ih (M 109 t).toNat (by omega) (M 109 t) g1 (by omega) rfl pl.1
      omega
theorem pt_at {W V : Int → Int} {n m k R : Int} (b1 : wdB n W k) (b2 : wdB m V k) (R0 : 0 ≤ R) (R1 : R < pt W V n m 0 0) : (0 ≤ ptI W V n m R ∧ ptI W V n m R ≤ n ∧ 0 ≤ ptJ W V n m R ∧ ptJ W V n m R ≤ m) ∧ pt W V n m (ptI W V n m R) (ptJ W V n m R) = pt W V n m 0 0 - R ∧ 0 ≤ ptX W V n m R ∧ ptX W V n m R < k ∧ ptd W V n m (ptI W V n m R) (ptJ W V n m R) (ptX W V n m R) = pt W V n m 0 0 - R ∧ ∀ x, 0 ≤ x → x < ptX W V n m R → ptd W V n m (ptI W V n m R) (ptJ W V n m R) x ≠ pt W V n m 0 0 - R := by
  obtain ⟨e1, e2, e3, e4, e5, e6⟩ := pt_inv b1 b2 R.toNat (by omega)
  rw [show ((R.toNat : Nat) : Int) = R by omega] at e1 e2 e3 e4 e5 e6
  obtain ⟨x1, x2, x3, x4⟩ := ptC_sp b1 b2 e1 e2 e3 (by omega)
  exact ⟨⟨e1, e2, e3, e4⟩, e5, x1, x2, x3.trans e5, fun x x0 x1 q => x4 x x0 x1 (q.trans e5.symm)⟩
def qT (W V : Int → Int) (n m : Int) (M : Mem) (dep T : Int → Int) (R many kk x : Int) : Prop := (0 ≤ R ∧ R < pt W V n m 0 0 ∧ T 0 = 0) ∧ (∀ r, 0 ≤ r → r ≤ R → 0 ≤ T r ∧ T r < many ∧ dep (T r) = r ∧ M 108 (T r) = 41 * ptI W V n m r + ptJ W V n m r) ∧ (∀ r, 0 ≤ r → r < R → M 109 (T (r + 1)) = T r ∧ M 110 (T (r + 1)) = ptX W V n m r) ∧ (kk < T R ∨ (kk = T R ∧ x ≤ ptX W V n m R)) ∧ (∀ t, 0 ≤ t → t < T R → dep t = R → pt W V n m (qA M t) (qB M t) ≠ pt W V n m 0 0 - R)
def qC (W V : Int → Int) (n m : Int) (M : Mem) (dep : Int → Int) (many kk x : Int) : Prop := pt W V n m 0 0 = 0 ∨ ∃ T R, qT W V n m M dep T R many kk x
/-- a step of least cost, at depth R or deeper, no later than the way's own: it is the way's own -/
theorem q_hit {W V : Int → Int} {n m k : Int} {M : Mem} {dep T : Int → Int} {R many kk x p l : Int} (b1 : wdB n W k) (b2 : wdB m V k) (h : qI W V n m k M dep many kk x) (g : qT W V n m M dep T R many kk x) (p0 : 0 ≤ p) (p1 : p < many) (l0 : 0 ≤ l) (l6 : l < 6) (hle : p < T R ∨ (p = T R ∧ l ≤ ptX W V n m R)) (hd : R ≤ dep p) (hp : 0 < ptd W V n m (qA M p) (qB M p) l) (hs : dep p + ptd W V n m (qA M p) (qB M p) l ≤ pt W V n m 0 0) : p = T R ∧ l = ptX W V n m R := by
  have qv := q_val b1 b2 h _ p p0 p1 rfl
  obtain ⟨⟨h1, h2⟩, ⟨h3, h3', h3''⟩, h4, h5, h6, h7⟩ := h
  obtain ⟨⟨R0, R1, T0⟩, g2, g3, g4, g5⟩ := g
  obtain ⟨y1, y2, y3, y4⟩ := h4 p p0 p1
  have pl := pt_le b1.2.1 y1 y2 l0 l6 hp
  have qv2 := qv pl.1
  obtain ⟨z1, z2, z3, z4⟩ := g2 R R0 (Int.le_refl R)
  have mono := h6 p (T R) p0 (by omega) z2
  have dR : dep p = R := by omega
  have pe : pt W V n m (qA M p) (qB M p) = pt W V n m 0 0 - R := by omega
  have pT : p = T R := by
    rcases hle with q | q
    · exact absurd pe (g5 p p0 q dR)
    · exact q.1
  refine ⟨pT, ?_⟩
  obtain ⟨⟨a1, a2, a3, a4⟩, a5, a6, a7, a8, a9⟩ := pt_at b1 b2 R0 R1
  have m1 := b2.2.1
  obtain ⟨e1, e2⟩ := q_dec z4 a3 (by omega)
  rw [pT, e1, e2] at hs hp
  have hl : l ≤ ptX W V n m R := by omega
  by_cases c : l = ptX W V n m R
  · exact c
  · have hs' := qv2.2
    rw [pT, e1, e2, a5] at hs'
    have pl2 := pl.2
    rw [pT, e1, e2, a5] at pl2
    rw [pT] at dR
    exact absurd (show ptd W V n m (ptI W V n m R) (ptJ W V n m R) l = pt W V n m 0 0 - R by omega) (a9 l l0 (by omega))
theorem q_no {W V : Int → Int} {n m k : Int} {M : Mem} {dep T : Int → Int} {R many kk x t : Int} (b1 : wdB n W k) (b2 : wdB m V k) (h : qI W V n m k M dep many kk x) (g : qT W V n m M dep T R many kk x) (hk : kk = T R) (hx : x = ptX W V n m R) (t0 : 0 ≤ t) (t1 : t < many) (hn : 0 < pt W V n m 0 0 - R - 1) (hp : pt W V n m (qA M t) (qB M t) = pt W V n m 0 0 - R - 1) : False := by
  have qv := q_val b1 b2 h _ t t0 t1 rfl (by omega)
  have hh := h
  obtain ⟨⟨h1, h2⟩, ⟨h3, h3', h3''⟩, h4, h5, h6, h7⟩ := h
  have R0' := g.1.1
  have tz : t ≠ 0 := fun q => by rw [q, h3''] at qv; rw [q] at hp; omega
  obtain ⟨g1, g2, g3, g4, g5, g6, g7, g8, g9⟩ := h5 t (by omega) t1
  obtain ⟨p1, p2, p3, p4⟩ := h4 (M 109 t) g1 (by omega)
  have m1 := b2.2.1
  have k1 := b1.2.2.2.1
  have bb1 := bh_b (W := W) (n := n) (c := M 110 t) p1
  have bb2 := bh_b (W := V) (n := m) (c := M 110 t) p3
  obtain ⟨e1, e2⟩ := q_dec g9 (by omega) (by omega)
  have pm := ptd_more (W := W) (V := V) (n := n) (m := m) g7 g8
  rw [e1, e2] at hp qv
  rw [hp, if_neg (by omega)] at pm
  have gg := g
  obtain ⟨⟨R0, R1, T0⟩, w2, w3, w4, w5⟩ := g
  obtain ⟨z1, z2, z3, z4⟩ := w2 R R0 (Int.le_refl R)
  have mono := h6 (M 109 t) (T R) g1 (by omega) z2
  have := q_hit b1 b2 hh gg g1 (show M 109 t < many by omega) g4 (show M 110 t < 6 by omega) (by omega) (by omega) (by omega) (by omega)
  omega
theorem q_next {W V : Int → Int} {n m k : Int} {M : Mem} {dep : Int → Int} {many kk : Int} (b1 : wdB n W k) (b2 : wdB m V k) (h : qI W V n m k M dep many kk k) (g : qC W V n m M dep many kk k) : qI W V n m k M dep many (kk + 1) 0 ∧ qC W V n m M dep many (kk + 1) 0 := by
  obtain ⟨h1, h3, h4, h5, h6, h7⟩ := h
  refine ⟨⟨h1, h3, h4, fun t t0 t1 => ?_, h6, h7⟩, ?_⟩
  · obtain ⟨g1, g2, g3, g4⟩ := h5 t t0 t1
    exact ⟨g1, g2, Or.inl (by omega), g4⟩
  · rcases g with g | ⟨T, R, g1, g2, g3, g4, g5⟩
    · exact Or.inl g
    · have pa := pt_at b1 b2 g1.1 g1.2.1
      have p6 := pa.2.2.1
      have p7 := pa.2.2.2.1
      exact Or.inr ⟨T, R, g1, g2, g3, by omega, g5⟩
theorem q_skip {W V : Int → Int} {n m k : Int} {M : Mem} {dep : Int → Int} {many kk x : Int} (h : qI W V n m k M dep many kk x) (g : qC W V n m M dep many kk x) (hn : ∀ T R, qT W V n m M dep T R many kk x → ¬ (kk = T R ∧ x = ptX W V n m R)) : qI W V n m k M dep many kk (x + 1) ∧ qC W V n m M dep many kk (x + 1) := by
  obtain ⟨h1, h3, h4, h5, h6, h7⟩ := h
  refine ⟨⟨h1, h3, h4, fun t t0 t1 => ?_, h6, h7⟩, ?_⟩
  · obtain ⟨g1, g2, g3, g4⟩ := h5 t t0 t1
    exact ⟨g1, g2, by omega, g4⟩
  · rcases g with g | ⟨T, R, g⟩
    · exact Or.inl g
    · have := hn T R g
      obtain ⟨g1, g2, g3, g4, g5⟩ := g
      exact Or.inr ⟨T, R, g1, g2, g3, by omega, g5⟩
def gup (f : Int → Int) (a v t : Int) : Int := if t = a then v else f t
theorem gup_e {f : Int → Int} {a v t : Int} (h : t = a) : gup f a v t = v := if_pos h
theorem gup_n {f : Int → Int} {a v t : Int} (h : t ≠ a) : gup f a v t = f t := if_neg h
theorem q_push {W V : Int → Int} {n m k : Int} {M : Mem} {dep : Int → Int} {many kk x : Int} (b1 : wdB n W k) (b2 : wdB m V k) (h : qI W V n m k M dep many kk x) (g : qC W V n m M dep many kk x) (k0 : 0 ≤ kk) (hk : kk < many) (x0 : 0 ≤ x) (xk : x < k) (z1 : bh W n (qA M kk) x ≠ 0) (z2 : bh V m (qB M kk) x ≠ 0) {to : Int} (ht : to = 41 * bh W n (qA M kk) x + bh V m (qB M kk) x) (hc : M 111 to = 0) : ∃ dep2, qI W V n m k (up (up (up (up M 111 to 1) 108 many to) 109 many kk) 110 many x) dep2 (many + 1) kk (x + 1) ∧ qC W V n m (up (up (up (up M 111 to 1) 108 many to) 109 many kk) 110 many x) dep2 (many + 1) kk (x + 1) := by
  have hh := h
  have hg := g
  have qm := q_many h
  obtain ⟨⟨h1, h2⟩, ⟨h3, h3', h3''⟩, h4, h5, h6, h7⟩ := h
  have n1 := b1.2.1
  have m1 := b2.2.1
  have k1 := b1.2.2.2.1
  obtain ⟨y1, y2, y3, y4⟩ := h4 kk k0 hk
  have bb1 := bh_b (W := W) (n := n) (c := x) y1
  have bb2 := bh_b (W := V) (n := m) (c := x) y3
  have f8 : ∀ t, t ≠ many → up (up (up (up M 111 to 1) 108 many to) 109 many kk) 110 many x 108 t = M 108 t := fun t q => by
    rw [up_ne (by decide), up_ne (by decide), up_at, if_neg q, up_ne (by decide)]
  have f9 : ∀ t, t ≠ many → up (up (up (up M 111 to 1) 108 many to) 109 many kk) 110 many x 109 t = M 109 t := fun t q => by
    rw [up_ne (by decide), up_at, if_neg q, up_ne (by decide), up_ne (by decide)]
  have f10 : ∀ t, t ≠ many → up (up (up (up M 111 to 1) 108 many to) 109 many kk) 110 many x 110 t = M 110 t := fun t q => by
    rw [up_at, if_neg q, up_ne (by decide), up_ne (by decide), up_ne (by decide)]
  have f8' : up (up (up (up M 111 to 1) 108 many to) 109 many kk) 110 many x 108 many = to := by
    rw [up_ne (by decide), up_ne (by decide), up_at, if_pos rfl]
  have f9' : up (up (up (up M 111 to 1) 108 many to) 109 many kk) 110 many x 109 many = kk := by
    rw [up_ne (by decide), up_at, if_pos rfl]
  have f10' : up (up (up (up M 111 to 1) 108 many to) 109 many kk) 110 many x 110 many = x := by
    rw [up_at, if_pos rfl]
  have f11 : ∀ c, up (up (up (up M 111 to 1) 108 many to) 109 many kk) 110 many x 111 c = if c = to then 1 else M 111 c := fun c => by
    rw [up_ne (by decide), up_ne (by decide), up_ne (by decide), up_at]
  generalize up (up (up (up M 111 to 1) 108 many to) 109 many kk) 110 many x = M' at f8 f9 f10 f8' f9' f10' f11
  have fA : ∀ t, t ≠ many → qA M' t = qA M t := fun t q => by unfold qA; rw [f8 t q]
  have fB : ∀ t, t ≠ many → qB M' t = qB M t := fun t q => by unfold qB; rw [f8 t q]
  obtain ⟨eA, eB⟩ := q_dec (M := M') (t := many) (f8'.trans ht) (by omega) (by omega)
  refine ⟨gup dep many (dep kk + 1), ⟨⟨by omega, ?_⟩, ⟨by rw [f8 0 (by omega)]; exact h3, by rw [f9 0 (by omega)]; exact h3', by rw [gup_n (by omega)]; exact h3''⟩, fun t t0 t1 => ?_, fun t t0 t1 => ?_, fun s t s0 st t1 => ?_, fun c c0 c1 => ?_⟩, ?_⟩
  · have := sm_one (f := M' 111) (g := M 111) (c := to) (by omega) (fun c hc => by rw [f11 c, if_neg hc]) 1681
    rw [show ((1681 : Nat) : Int) = 1681 from rfl, if_pos (by omega), f11 to, if_pos rfl, hc] at this
    omega
  · by_cases e : t = many
    · rw [e, eA, eB]; omega
    · rw [fA t e, fB t e]; exact h4 t t0 (by omega)
  · by_cases e : t = many
    · unfold qE
      rw [e, f9', f10', f8', fA kk (by omega), fB kk (by omega), gup_e rfl, gup_n (by omega)]
      exact ⟨k0, hk, Or.inr ⟨rfl, by omega⟩, x0, xk, rfl, z1, z2, ht⟩
    · obtain ⟨g1, g2, g3, g4, g5, g6, g7, g8, g9⟩ := h5 t t0 (by omega)
      unfold qE
      rw [f9 t e, f10 t e, f8 t e, fA _ (by omega), fB _ (by omega), gup_n e, gup_n (by omega)]
      exact ⟨g1, g2, by omega, g4, g5, g6, g7, g8, g9⟩
  · by_cases es : s = many
    · rw [gup_e es, gup_e (show t = many by omega)]; exact Int.le_refl _
    · rw [gup_n es]
      by_cases et : t = many
      · rw [gup_e et]
        by_cases s1 : s = 0
        · have := h6 0 kk (by decide) k0 hk
          rw [s1]; omega
        · obtain ⟨g1, g2, g3, g4, g5, g6, -⟩ := h5 s (by omega) (by omega)
          have := h6 (M 109 s) kk g1 (by omega) hk
          omega
      · rw [gup_n et]
        exact h6 s t s0 st (by omega)
  · rw [f11 c]
    by_cases e : c = to
    · rw [if_pos e]
      exact Or.inr ⟨rfl, many, by omega, by omega, f8'.trans e.symm⟩
    · rw [if_neg e]
      rcases h7 c c0 c1 with q | ⟨q, t, t0, t1, ht2⟩
      · exact Or.inl q
      · exact Or.inr ⟨q, t, t0, by omega, by rw [f8 t (by omega)]; exact ht2⟩
  · rcases hg with g | ⟨T, R, g⟩
    · exact Or.inl g
    · refine Or.inr ?_
      have gg := g
      obtain ⟨⟨R0, R1, T0⟩, w2, w3, w4, w5⟩ := g
      have pa := pt_at b1 b2 R0 R1
      obtain ⟨⟨a1, a2, a3, a4⟩, a5, a6, a7, a8, a9⟩ := pa
      obtain ⟨v1, v2, v3, v4⟩ := w2 R R0 (Int.le_refl R)
      by_cases hit : kk = T R ∧ x = ptX W V n m R
      · obtain ⟨ek, ex⟩ := hit
        obtain ⟨e1, e2⟩ := q_dec v4 a3 (by omega)
        rw [ek, e1] at z1 bb1
        rw [ek, e2] at z2 bb2
        rw [ek, e1, e2] at ht
        rw [ex] at z1 z2 ht bb1 bb2
        have is := ptI_s (W := W) (V := V) (n := n) (m := m) R0
        have pm := ptd_more (W := W) (V := V) (n := n) (m := m) z1 z2
        rw [a8] at pm
        have more : pt W V n m (bh W n (ptI W V n m R) (ptX W V n m R)) (bh V m (ptJ W V n m R) (ptX W V n m R)) = pt W V n m 0 0 - R - 1 ∧ 0 < pt W V n m 0 0 - R - 1 := by
          have pb := pt_bd (W := W) (V := V) (i := bh W n (ptI W V n m R) (ptX W V n m R)) (j := bh V m (ptJ W V n m R) (ptX W V n m R)) n1 m1 (by omega) (by omega) (by omega) (by omega)
          by_cases q : pt W V n m (bh W n (ptI W V n m R) (ptX W V n m R)) (bh V m (ptJ W V n m R) (ptX W V n m R)) = 0
          · rw [if_pos q] at pm; omega
          · rw [if_neg q] at pm; omega
        refine ⟨gup T (R + 1) many, R + 1, ⟨by omega, by omega, by rw [gup_n (by omega)]; exact T0⟩, fun r r0 r1 => ?_, fun r r0 r1 => ?_, ?_, fun t t0 t1 td => ?_⟩
        · by_cases e : r = R + 1
          · rw [gup_e e, gup_e rfl, f8', e, is.1, is.2, ek, v3]
            exact ⟨by omega, by omega, rfl, ht⟩
          · obtain ⟨u1, u2, u3, u4⟩ := w2 r r0 (by omega)
            rw [gup_n e, gup_n (by omega), f8 _ (by omega)]
            exact ⟨u1, by omega, u3, u4⟩
        · rw [gup_n (show r ≠ R + 1 by omega)]
          by_cases e : r = R
          · rw [gup_e (by omega), f9', f10', e]
            exact ⟨ek, ex⟩
          · obtain ⟨u1, u2, u3, u4⟩ := w2 (r + 1) (by omega) (by omega)
            rw [gup_n (show r + 1 ≠ R + 1 by omega), f9 _ (by omega), f10 _ (by omega)]
            exact w3 r r0 (by omega)
        · rw [gup_e rfl]
          exact Or.inl hk
        · have t1' : t < many := by
            rw [gup_e rfl] at t1
            exact t1
          rw [fA t (by omega), fB t (by omega)]
          intro q
          exact q_no b1 b2 hh gg ek ex t0 t1' more.2 (by omega)
      · refine ⟨T, R, ⟨R0, R1, T0⟩, fun r r0 r1 => ?_, fun r r0 r1 => ?_, by omega, fun t t0 t1 td => ?_⟩
        · obtain ⟨u1, u2, u3, u4⟩ := w2 r r0 r1
          rw [gup_n (by omega), f8 _ (by omega)]
          exact ⟨u1, by omega, u3, u4⟩
        · obtain ⟨u1, u2, u3, u4⟩ := w2 (r + 1) (by omega) (by omega)
          rw [f9 _ (by omega), f10 _ (by omega)]
          exact w3 r r0 r1
        · rw [fA t (by omega), fB t (by omega)]
          refine w5 t t0 t1 ?_
          rw [gup_n (by omega)] at td
          exact td
