/-! fractions -/
def fb : Nat → Nat
  | 0 => 0
  | 1 => 1
  | n + 2 => fb (n + 1) + fb n
theorem gcd_st (a b : Nat) : Nat.gcd a b = Nat.gcd b (a % b) := by
  rw [Nat.gcd_comm a b, Nat.gcd_rec b a, Nat.gcd_comm]
theorem c_cd {M : Mem} {Q : Vl → Mem → Prop} : ∀ (n a b : Nat) (s : Int), b ≤ a → (b < fb (n + 1) ∨ a < fb (n + 2)) → 0 ≤ s → s + n ≤ 100 → a < 4611686018427387904 → Q (Jv (Nat.gcd a b : Nat)) M → wp 0 yX11_commonDivisor 3 [some (Jv a), none, some (Jv b), none, some (Iv s), none, none] [] M Q := by
  intro n
  induction n with
  | zero =>
    intro a b s hb hf s0 s1 ha hq
    have h1 : fb (0 + 1) = 1 := rfl
    have h2 : fb (0 + 2) = 1 := rfl
    rw [h1, h2] at hf
    have eb : b = 0 := by omega
    subst eb
    rw [Nat.gcd_zero_right] at hq
    exact gX11_commonDivisor_3 ⟨⟨by omega, by omega⟩, fun _ => hq, fun _ => ⟨Or.inl rfl, fun _ => hq, fun q => absurd rfl q⟩⟩
  | succ n ih =>
    intro a b s hb hf s0 s1 ha hq
    by_cases c : b = 0
    · subst c
      rw [Nat.gcd_zero_right] at hq
      exact gX11_commonDivisor_3 ⟨⟨by omega, by omega⟩, fun _ => hq, fun _ => ⟨Or.inl rfl, fun _ => hq, fun q => absurd rfl q⟩⟩
    · have hr : a % b < b := Nat.mod_lt a (by omega)
      have hd : b + a % b ≤ a := by
        have e := Nat.div_add_mod a b
        have q1 : 1 ≤ a / b := (Nat.le_div_iff_mul_le (by omega)).2 (by omega)
        have q2 : b * 1 ≤ b * (a / b) := Nat.mul_le_mul_left b q1
        omega
      have e3 : fb (n + 1 + 2) = fb (n + 2) + fb (n + 1) := rfl
      have e2 : fb (n + 1 + 1) = fb (n + 2) := rfl
      rw [e3, e2] at hf
      refine gX11_commonDivisor_3 ⟨⟨by omega, by omega⟩, fun q => absurd q (by omega), fun _ => ⟨Or.inr ⟨⟨by omega, by omega⟩, by decide⟩, fun q => absurd q (by omega), fun q => ⟨⟨by omega, by omega⟩, ⟨by omega, by omega⟩, q, ?_⟩⟩⟩
      rw [gcd_st] at hq
      exact ih b (a % b) (s + 1) (by omega) (by omega) (by omega) (by omega) (by omega) hq
theorem c_cd2 {M : Mem} {Q : Vl → Mem → Prop} {a b : Nat} (ha : a < 61305790721611591) (hb : b < 61305790721611591) (hq : Q (Jv (Nat.gcd a b : Nat)) M) : cl 0 yX11_commonDivisor [Jv a, Jv b] M Q := by
  have f : fb (80 + 2) = 61305790721611591 := by decide +kernel
  refine eX11_commonDivisor ?_
  by_cases c : b ≤ a
  · exact c_cd 80 a b 0 c (Or.inr (by rw [f]; exact ha)) (by decide) (by decide) (by omega) hq
  · refine gX11_commonDivisor_3 ⟨by decide, fun q => absurd q (by decide), fun _ => ⟨Or.inr ⟨⟨by omega, by omega⟩, by decide⟩, fun q => absurd q (by omega), fun q => ⟨⟨by omega, by omega⟩, ⟨by omega, by omega⟩, q, ?_⟩⟩⟩
    have e : a % b = a := Nat.mod_eq_of_lt (by omega)
    rw [gcd_st, e] at hq
    have := c_cd 80 b a (0 + 1) (by omega) (Or.inr (by rw [f]; exact hb)) (by decide) (by decide) (by omega) hq
    rw [← e] at this
    show wp 0 yX11_commonDivisor 3 [some (Jv b), none, some (Jv ((a % b : Nat) : Int)), none, some (Iv (0 + 1)), none, none] [] M Q
    rw [e]
    rw [e] at this
    exact this
def gd (u l : Int) : Int := (Nat.gcd l.toNat u.toNat : Nat)
theorem gd_b {u l : Int} (h : 1 ≤ l) : 1 ≤ gd u l ∧ gd u l ≤ l := by
  unfold gd
  have h1 : 0 < Nat.gcd l.toNat u.toNat := Nat.gcd_pos_of_pos_left _ (by omega)
  have h2 : Nat.gcd l.toNat u.toNat ≤ l.toNat := Nat.gcd_le_left _ (by omega)
  omega
theorem c_tellFraction {M : Mem} {u l : Int} {Q : Vl → Mem → Prop} (u0 : 0 ≤ u) (u1 : u < 61305790721611591) (l0 : 1 ≤ l) (l1 : l < 61305790721611591) (hq : Q (Iv 0) (up (up M 1 6 (Int.tdiv u (gd u l))) 1 7 (Int.tdiv l (gd u l)))) : cl 0 yX11_tellFraction [Rv 1, Jv u, Jv l] M Q := by
  have hg := gd_b (u := u) l0
  refine eX11_tellFraction ?_
  have key : cl 0 yX11_commonDivisor [Jv (l.toNat : Int), Jv (u.toNat : Int)] M (QJ (fun z1 M1 => (inL z1 ∧ ((1 ≤ z1 → inL u ∧ (z1 ≠ 0 ∧ (inL l ∧ (Q (Iv 0) (up (up M1 1 6 (Int.tdiv u z1)) 1 7 (Int.tdiv l z1)))))) ∧ (z1 < 1 → Q (Iv 0) M1))))) := by
    refine c_cd2 (by omega) (by omega) ?_
    show inL (gd u l) ∧ ((1 ≤ gd u l → inL u ∧ (gd u l ≠ 0 ∧ (inL l ∧ (Q (Iv 0) (up (up M 1 6 (Int.tdiv u (gd u l))) 1 7 (Int.tdiv l (gd u l))))))) ∧ (gd u l < 1 → Q (Iv 0) M))
    exact ⟨⟨by omega, by omega⟩, fun _ => ⟨⟨by omega, by omega⟩, by omega, ⟨by omega, by omega⟩, hq⟩, fun q => absurd q (by omega)⟩
  rw [show ((l.toNat : Nat) : Int) = l by omega, show ((u.toNat : Nat) : Int) = u by omega] at key
  exact key
theorem m_frac {M : Mem} {u l x : Int} {Q : Vl → Mem → Prop} (hu : inL u) (hl : inL l) : ∀ (m a b : Nat), b ≤ m → a < 4611686018427387904 → b < 4611686018427387904 → 0 < Nat.gcd a b → Q (Iv x) (up (up M 88 4 (Int.tdiv u (Nat.gcd a b : Nat))) 88 5 (Int.tdiv l (Nat.gcd a b : Nat))) → wp 0 yX12_fraction 6 [some (Rv 88), some (Jv u), none, some (Jv l), none, some (Iv x), some (Jv a), none, some (Jv b), none, none, none] [] M Q := by
  intro m
  induction m with
  | zero =>
    intro a b hb ha hb2 hg hq
    have eb : b = 0 := by omega
    subst eb
    rw [Nat.gcd_zero_right] at hq hg
    exact gX12_fraction_6 ⟨Or.inl rfl, fun _ => ⟨hu, ⟨by omega, by omega⟩, by omega, hl, hq⟩, fun q => absurd rfl q⟩
  | succ m ih =>
    intro a b hb ha hb2 hg hq
    by_cases c : b = 0
    · subst c
      rw [Nat.gcd_zero_right] at hq hg
      exact gX12_fraction_6 ⟨Or.inl rfl, fun _ => ⟨hu, ⟨by omega, by omega⟩, by omega, hl, hq⟩, fun q => absurd rfl q⟩
    · have hr : a % b < b := Nat.mod_lt a (by omega)
      rw [gcd_st] at hq hg
      exact gX12_fraction_6 ⟨Or.inr ⟨⟨by omega, by omega⟩, by decide⟩, fun q => absurd q (by omega), fun q => ⟨⟨by omega, by omega⟩, ⟨by omega, by omega⟩, q, ih b (a % b) (by omega) hb2 (by omega) hg hq⟩⟩
theorem m_fraction {M : Mem} {u l x : Int} {Q : Vl → Mem → Prop} (u0 : 0 ≤ u) (u1 : u < 61305790721611591) (l0 : 1 ≤ l) (l1 : l < 61305790721611591) (hq : Q (Iv x) (up (up M 88 4 (Int.tdiv u (gd u l))) 88 5 (Int.tdiv l (gd u l)))) : cl 0 yX12_fraction [Rv 88, Jv u, Jv l, Iv x] M Q := by
  have hg := gd_b (u := u) l0
  refine eX12_fraction ?_
  unfold gd at hg hq
  rw [Nat.gcd_comm] at hg hq
  have key := m_frac (M := M) (u := u) (l := l) (x := x) (Q := Q) ⟨by omega, by omega⟩ ⟨by omega, by omega⟩ l.toNat u.toNat l.toNat (Nat.le_refl _) (by omega) (by omega) (by omega) hq
  rw [show ((l.toNat : Nat) : Int) = l by omega, show ((u.toNat : Nat) : Int) = u by omega] at key
  exact key
/-! choosing, powers -/
def chN (n : Int) : Nat → Int
  | 0 => 1
  | i + 1 => Int.tdiv (chN n i * (n - i)) (i + 1)
theorem chN_t : ∀ n : Fin 41, ∀ i : Fin 41, i.val ≤ n.val → 1 ≤ chN (n.val : Int) i.val ∧ chN (n.val : Int) i.val ≤ 137846528820 := by decide +kernel
theorem chN_b {n : Int} {i : Nat} (h0 : (i : Int) ≤ n) (h1 : n ≤ 40) : 1 ≤ chN n i ∧ chN n i ≤ 137846528820 := by
  have := chN_t ⟨n.toNat, by omega⟩ ⟨i, by omega⟩ (by show i ≤ n.toNat; omega)
  rw [show ((n.toNat : Nat) : Int) = n by omega] at this
  exact this
theorem mul_b {a b c d : Int} (h0 : 0 ≤ a) (h1 : a ≤ c) (h2 : 0 ≤ b) (h3 : b ≤ d) : 0 ≤ a * b ∧ a * b ≤ c * d := ⟨Int.mul_nonneg h0 h2, Int.mul_le_mul h1 h3 h2 (by omega)⟩
theorem c_choose {M : Mem} {n t : Int} {Q : Vl → Mem → Prop} (t0 : 0 ≤ t) (tn : t ≤ n) (n1 : n ≤ 40) (hq : Q (Jv (chN n t.toNat)) M) : cl 0 yX11_choose [Iv n, Iv t] M Q := by
  refine eX11_choose ?_
  refine up_ind (P := fun i => wp 0 yX11_choose 5 [some (Iv n), some (Iv t), some (Jv (chN n i.toNat)), none, some (Iv i)] [] M Q) (a := 0) (n := t) t0 ?_ (fun i i0 i1 ih => ?_)
  · exact gX11_choose_5 ⟨⟨by omega, by omega⟩, ⟨by omega, by omega⟩, fun _ => hq, fun q => absurd q (by omega)⟩
  · have b := chN_b (n := n) (i := i.toNat) (by omega) n1
    have b2 := mul_b (a := chN n i.toNat) (b := n - i) (c := 137846528820) (d := 40) (by omega) (by omega) (by omega) (by omega)
    refine gX11_choose_5 ⟨⟨by omega, by omega⟩, ⟨by omega, by omega⟩, fun q => absurd q (by omega), fun _ => ⟨⟨by omega, by omega⟩, ⟨by omega, by omega⟩, ⟨by omega, by omega⟩, ⟨by omega, by omega⟩, by omega, ?_⟩⟩
    rw [show (i + 1).toNat = i.toNat + 1 by omega] at ih
    unfold chN at ih
    rw [show ((i.toNat : Nat) : Int) = i by omega] at ih
    exact ih
theorem m_chosen {M : Mem} {n t : Int} {Q : Vl → Mem → Prop} (t0 : 0 ≤ t) (tn : t ≤ n) (n1 : n ≤ 40) (hq : Q (Jv (chN n t.toNat)) M) : cl 0 yX12_chosen [Iv n, Iv t] M Q := by
  refine eX12_chosen ?_
  refine up_ind (P := fun i => wp 0 yX12_chosen 5 [some (Iv n), some (Iv t), some (Jv (chN n i.toNat)), none, some (Iv (i + 1))] [] M Q) (a := 0) (n := t) t0 ?_ (fun i i0 i1 ih => ?_)
  · exact gX12_chosen_5 ⟨⟨by omega, by omega⟩, ⟨by omega, by omega⟩, fun _ => hq, fun q => absurd q (by omega)⟩
  · have b := chN_b (n := n) (i := i.toNat) (by omega) n1
    have b2 := mul_b (a := chN n i.toNat) (b := n - i) (c := 137846528820) (d := 40) (by omega) (by omega) (by omega) (by omega)
    rw [← show n - (i + 1) + 1 = n - i by omega] at b2
    refine gX12_chosen_5 ⟨⟨by omega, by omega⟩, ⟨by omega, by omega⟩, fun q => absurd q (by omega), fun _ => ⟨⟨by omega, by omega⟩, ⟨by omega, by omega⟩, ⟨by omega, by omega⟩, by omega, ?_⟩⟩
    rw [show (i + 1).toNat = i.toNat + 1 by omega] at ih
    unfold chN at ih
    rw [show ((i.toNat : Nat) : Int) = i by omega] at ih
    rw [show n - (i + 1) + 1 = n - i by omega]
    exact ih
theorem c_power {M : Mem} {b n : Int} {Q : Vl → Mem → Prop} (hb : inr b) (n0 : 0 ≤ n) (n1 : n ≤ 100) (hq : Q (Jv (b ^ n.toNat)) M) : cl 0 yX11_power [Iv b, Iv n] M Q := by
  refine eX11_power ?_
  rw [show (1 : Int) = b ^ (Int.toNat 0) from (Int.pow_zero b).symm]
  refine up_ind (P := fun i => wp 0 yX11_power 5 [some (Iv b), some (Iv n), some (Jv (b ^ i.toNat)), none, some (Iv i)] [] M Q) (a := 0) (n := n) n0 ?_ (fun i i0 i1 ih => ?_)
  · exact gX11_power_5 ⟨⟨by omega, by omega⟩, ⟨by omega, by omega⟩, fun _ => hq, fun q => absurd q (by omega)⟩
  · rw [show (i + 1).toNat = i.toNat + 1 by omega, Int.pow_succ] at ih
    exact gX11_power_5 ⟨⟨by omega, by omega⟩, ⟨by omega, by omega⟩, fun q => absurd q (by omega), fun _ => ⟨hb, ih⟩⟩
theorem m_powerOf {M : Mem} {b n : Int} {Q : Vl → Mem → Prop} (n0 : 0 ≤ n) (n1 : n ≤ 100) (hq : Q (Jv (b ^ n.toNat)) M) : cl 0 yX12_powerOf [Jv b, Iv n] M Q := by
  refine eX12_powerOf ?_
  rw [show (1 : Int) = b ^ (Int.toNat 0) from (Int.pow_zero b).symm]
  refine up_ind (P := fun i => wp 0 yX12_powerOf 5 [some (Jv b), none, some (Iv n), some (Jv (b ^ i.toNat)), none, some (Iv i)] [] M Q) (a := 0) (n := n) n0 ?_ (fun i i0 i1 ih => ?_)
  · exact gX12_powerOf_5 ⟨⟨by omega, by omega⟩, ⟨by omega, by omega⟩, fun _ => hq, fun q => absurd q (by omega)⟩
  · rw [show (i + 1).toNat = i.toNat + 1 by omega, Int.pow_succ] at ih
    exact gX12_powerOf_5 ⟨⟨by omega, by omega⟩, ⟨by omega, by omega⟩, fun q => absurd q (by omega), fun _ => ih⟩
/-! 40 odds -/
theorem op_odds {S : Mem} (hW : WF S) {w v : Int} (hw : inr w) (hv : inr v) : OpOK S yX11_odds yX12_odds [Iv w, Iv v] Iv := by
  by_cases c1 : (w < 0 ∨ 8 ≤ w) ∨ (v < 0 ∨ 8 ≤ v)
  · refine ⟨-1, S, hW, fun M hX => eX11_odds ?_, fun M hY => eX12_odds ?_⟩
    · repeat' first
        | omega
        | exact px_rf hX _
        | exact px_fnd hX _ (by decide) (by decide)
        | refine c_noRow ?_ (fun q => ?_) (fun q => ?_)
        | refine c_noText ?_ (fun q => ?_) (fun q => ?_)
        | refine c_noWord ?_ (fun q => ?_) (fun q => ?_)
        | refine c_noLength ?_ (fun q => ?_) (fun q => ?_)
        | refine c_found (by decide) ?_
        | refine c_refuseRow hW hX ?_ (fun q => ?_) (fun q => ?_) (fun q => ?_)
        | refine c_refusePlace hW hX ?_ ?_ (fun q => ?_) (fun q => ?_) (fun q => ?_) (fun q => ?_)
        | refine c_refuseText hW hX ?_ (fun q => ?_) (fun q => ?_) (fun q => ?_)
        | refine c_refuseWords hW hX ?_ ?_ (fun q => ?_) (fun q => ?_) (fun q => ?_)
        | refine c_refuseWord hW hX ?_ (fun q => ?_) (fun q => ?_) (fun q => ?_)
        | refine c_has hL ?_ ?_ (fun q => ?_) (fun q => ?_)
        | refine c_isMissing hL ?_ (fun q => ?_) (fun q => ?_)
        | refine c_reaches hL ?_ ?_ (fun q => ?_) (fun q => ?_)
        | refine c_has hL2 ?_ ?_ (fun q => ?_) (fun q => ?_)
        | refine c_isMissing hL2 ?_ (fun q => ?_) (fun q => ?_)
        | refine c_reaches hL2 ?_ ?_ (fun q => ?_) (fun q => ?_)
        | refine c_is hWd ?_ ?_ (fun q => ?_) (fun q => ?_)
        | refine c_markOf hWd ?_ (fun q => ?_) (fun q => ?_)
        | with_reducible refine ⟨?_, ?_⟩
        | with_reducible intro q
    · repeat' first
        | omega
        | exact py_rf hY _
        | exact py_fnd hY _ (by decide) (by decide)
        | refine m_isRow ?_ (fun q => ?_) (fun q => ?_)
        | refine m_isText ?_ (fun q => ?_) (fun q => ?_)
        | refine m_isWord ?_ (fun q => ?_) (fun q => ?_)
        | refine m_in ?_ ?_ ?_ (fun q => ?_) (fun q => ?_)
        | refine m_meets (by decide) ?_
        | refine m_needWord hW hY ?_ ?_ (fun q => ?_) (fun q => ?_) (fun q => ?_)
        | refine m_needTwo hW hY ?_ ?_ ?_ (fun q => ?_) (fun q => ?_) (fun q => ?_)
        | refine m_isThere ?_ ?_ ?_ (fun q => ?_) (fun q => ?_)
        | refine m_at0 ?_ ?_ ?_
        | refine m_rowAt ?_ ?_ ?_
        | refine m_markOf ?_ ?_ ?_ (fun q => ?_) (fun q => ?_) (fun q => ?_)
        | with_reducible refine ⟨?_, ?_⟩
        | with_reducible intro q
  have w0 : 0 ≤ w := by omega
  have w8 : w < 8 := by omega
  have v0 : 0 ≤ v := by omega
  have v8 : v < 8 := by omega
  by_cases c3 : S (30 + w) (-1) < 0 ∨ S (30 + v) (-1) < 0
  · refine ⟨-3, fS S 1, hW.fnd 1, fun M hX => eX11_odds ?_, fun M hY => eX12_odds ?_⟩
    · repeat' first
        | omega
        | exact px_rf hX _
        | exact px_fnd hX _ (by decide) (by decide)
        | refine c_noRow ?_ (fun q => ?_) (fun q => ?_)
        | refine c_noText ?_ (fun q => ?_) (fun q => ?_)
        | refine c_noWord ?_ (fun q => ?_) (fun q => ?_)
        | refine c_noLength ?_ (fun q => ?_) (fun q => ?_)
        | refine c_found (by decide) ?_
        | refine c_refuseRow hW hX ?_ (fun q => ?_) (fun q => ?_) (fun q => ?_)
        | refine c_refusePlace hW hX ?_ ?_ (fun q => ?_) (fun q => ?_) (fun q => ?_) (fun q => ?_)
        | refine c_refuseText hW hX ?_ (fun q => ?_) (fun q => ?_) (fun q => ?_)
        | refine c_refuseWords hW hX ?_ ?_ (fun q => ?_) (fun q => ?_) (fun q => ?_)
        | refine c_refuseWord hW hX ?_ (fun q => ?_) (fun q => ?_) (fun q => ?_)
        | refine c_has hL ?_ ?_ (fun q => ?_) (fun q => ?_)
        | refine c_isMissing hL ?_ (fun q => ?_) (fun q => ?_)
        | refine c_reaches hL ?_ ?_ (fun q => ?_) (fun q => ?_)
        | refine c_has hL2 ?_ ?_ (fun q => ?_) (fun q => ?_)
        | refine c_isMissing hL2 ?_ (fun q => ?_) (fun q => ?_)
        | refine c_reaches hL2 ?_ ?_ (fun q => ?_) (fun q => ?_)
        | refine c_is hWd ?_ ?_ (fun q => ?_) (fun q => ?_)
        | refine c_markOf hWd ?_ (fun q => ?_) (fun q => ?_)
        | with_reducible refine ⟨?_, ?_⟩
        | with_reducible intro q
    · repeat' first
        | omega
        | exact py_rf hY _
        | exact py_fnd hY _ (by decide) (by decide)
        | refine m_isRow ?_ (fun q => ?_) (fun q => ?_)
        | refine m_isText ?_ (fun q => ?_) (fun q => ?_)
        | refine m_isWord ?_ (fun q => ?_) (fun q => ?_)
        | refine m_in ?_ ?_ ?_ (fun q => ?_) (fun q => ?_)
        | refine m_meets (by decide) ?_
        | refine m_needWord hW hY ?_ ?_ (fun q => ?_) (fun q => ?_) (fun q => ?_)
        | refine m_needTwo hW hY ?_ ?_ ?_ (fun q => ?_) (fun q => ?_) (fun q => ?_)
        | refine m_isThere ?_ ?_ ?_ (fun q => ?_) (fun q => ?_)
        | refine m_at0 ?_ ?_ ?_
        | refine m_rowAt ?_ ?_ ?_
        | refine m_markOf ?_ ?_ ?_ (fun q => ?_) (fun q => ?_) (fun q => ?_)
        | with_reducible refine ⟨?_, ?_⟩
        | with_reducible intro q
  have bw := hW.wd w0 w8 (by omega)
  have bv := hW.wd v0 v8 (by omega)
  have bw2 := bw.2.1
  have bv2 := bv.2.1
  by_cases c4 : S (30 + w) (-1) < S (30 + v) (-1)
  · refine ⟨-3, fS S 4, hW.fnd 4, fun M hX => eX11_odds ?_, fun M hY => eX12_odds ?_⟩
    · have e := (hX.ln w0 w8).1
      have e2 := (hX.ln v0 v8).1
      repeat' first
        | omega
        | exact px_rf hX _
        | exact px_fnd hX _ (by decide) (by decide)
        | refine c_noRow ?_ (fun q => ?_) (fun q => ?_)
        | refine c_noText ?_ (fun q => ?_) (fun q => ?_)
        | refine c_noWord ?_ (fun q => ?_) (fun q => ?_)
        | refine c_noLength ?_ (fun q => ?_) (fun q => ?_)
        | refine c_found (by decide) ?_
        | refine c_refuseRow hW hX ?_ (fun q => ?_) (fun q => ?_) (fun q => ?_)
        | refine c_refusePlace hW hX ?_ ?_ (fun q => ?_) (fun q => ?_) (fun q => ?_) (fun q => ?_)
        | refine c_refuseText hW hX ?_ (fun q => ?_) (fun q => ?_) (fun q => ?_)
        | refine c_refuseWords hW hX ?_ ?_ (fun q => ?_) (fun q => ?_) (fun q => ?_)
        | refine c_refuseWord hW hX ?_ (fun q => ?_) (fun q => ?_) (fun q => ?_)
        | refine c_has hL ?_ ?_ (fun q => ?_) (fun q => ?_)
        | refine c_isMissing hL ?_ (fun q => ?_) (fun q => ?_)
        | refine c_reaches hL ?_ ?_ (fun q => ?_) (fun q => ?_)
        | refine c_has hL2 ?_ ?_ (fun q => ?_) (fun q => ?_)
        | refine c_isMissing hL2 ?_ (fun q => ?_) (fun q => ?_)
        | refine c_reaches hL2 ?_ ?_ (fun q => ?_) (fun q => ?_)
        | refine c_is hWd ?_ ?_ (fun q => ?_) (fun q => ?_)
        | refine c_markOf hWd ?_ (fun q => ?_) (fun q => ?_)
        | with_reducible refine ⟨?_, ?_⟩
        | with_reducible intro q
    · have e := (hY.ln w0 w8).1
      have e2 := (hY.ln v0 v8).1
      repeat' first
        | omega
        | exact py_rf hY _
        | exact py_fnd hY _ (by decide) (by decide)
        | refine m_isRow ?_ (fun q => ?_) (fun q => ?_)
        | refine m_isText ?_ (fun q => ?_) (fun q => ?_)
        | refine m_isWord ?_ (fun q => ?_) (fun q => ?_)
        | refine m_in ?_ ?_ ?_ (fun q => ?_) (fun q => ?_)
        | refine m_meets (by decide) ?_
        | refine m_needWord hW hY ?_ ?_ (fun q => ?_) (fun q => ?_) (fun q => ?_)
        | refine m_needTwo hW hY ?_ ?_ ?_ (fun q => ?_) (fun q => ?_) (fun q => ?_)
        | refine m_isThere ?_ ?_ ?_ (fun q => ?_) (fun q => ?_)
        | refine m_at0 ?_ ?_ ?_
        | refine m_rowAt ?_ ?_ ?_
        | refine m_markOf ?_ ?_ ?_ (fun q => ?_) (fun q => ?_) (fun q => ?_)
        | with_reducible refine ⟨?_, ?_⟩
        | with_reducible intro q
  have b := wy_b (W := S (30 + w)) (V := S (30 + v)) (i := S (30 + w) (-1)) (j := S (30 + v) (-1)) bw.2.1
  have bc := chN_b (n := S (30 + w) (-1)) (i := (S (30 + v) (-1)).toNat) (by omega) (by omega)
  refine ⟨1, up (up S 0 3 (Int.tdiv (wy (S (30 + w)) (S (30 + v)) (S (30 + w) (-1)) (S (30 + v) (-1))) (gd (wy (S (30 + w)) (S (30 + v)) (S (30 + w) (-1)) (S (30 + v) (-1))) (chN (S (30 + w) (-1)) (S (30 + v) (-1)).toNat)))) 0 4 (Int.tdiv (chN (S (30 + w) (-1)) (S (30 + v) (-1)).toNat) (gd (wy (S (30 + w)) (S (30 + v)) (S (30 + w) (-1)) (S (30 + v) (-1))) (chN (S (30 + w) (-1)) (S (30 + v) (-1)).toNat))), (hW.scal 3 _ (by decide)).scal 4 _ (by decide), fun M hX => eX11_odds ?_, fun M hY => eX12_odds ?_⟩
  · have e := (hX.ln w0 w8).1
    have e2 := (hX.ln v0 v8).1
    refine c_refuseWords hW hX hw hv (fun q => absurd q (by omega)) (fun q => absurd q (by omega)) (fun q => ⟨by decide, fun _ => ⟨w0, w8, v0, v8, ⟨by omega, by omega⟩, ⟨by omega, by omega⟩, fun q2 => c_countWays (isW_word w0 w8).l (isW_word v0 v8).l (hX.ln w0 w8) (hX.ln v0 v8) bw bv (fun M2 o2 => ?_), fun q2 => absurd q2 (by omega)⟩, fun q => absurd rfl q⟩)
    show cl 0 yX11_choose _ _ _
    rw [((hX.ln w0 w8).off o2 (by omega)).1, ((hX.ln v0 v8).off o2 (by omega)).1]
    refine c_choose (by omega) (by omega) (by omega) (c_tellFraction (by omega) (by omega) (by omega) (by omega) ?_)
    exact ⟨rfl, ((o2.x hX (fun a a0 a1 => by unfold kX; omega)).scal 3 _ (by decide) (by decide)).scal 4 _ (by decide) (by decide), ((o2.fx (by decide) (by decide)).up (by omega)).up (by omega)⟩
  · have e := (hY.ln w0 w8).1
    have e2 := (hY.ln v0 v8).1
    refine m_needTwo hW hY (Or.inr rfl) hw hv (fun q => absurd q (by omega)) (fun q => absurd q (by omega)) (fun q => ⟨by decide, fun _ => ⟨w0, w8, v0, v8, ⟨by omega, by omega⟩, ⟨by omega, by omega⟩, fun q2 => m_layWays w0 w8 v0 v8 (hY.ln w0 w8) (hY.ln v0 v8) bw bv (fun M2 o2 c2 => ?_), fun q2 => absurd q2 (by omega)⟩, fun q => absurd q (by decide)⟩)
    have e3 := c2 (S (30 + v) (-1)) (by omega) (by omega)
    refine ⟨by omega, by omega, ?_⟩
    rw [e2, e, e3]
    refine m_chosen (by omega) (by omega) (by omega) (m_fraction (by omega) (by omega) (by omega) (by omega) ?_)
    exact ⟨rfl, ((o2.y hY (by decide)).scal 3 4 _ (by decide)).scal 4 5 _ (by decide), ((o2.fy (by decide)).up (by omega)).up (by omega)⟩
/-! 41 byChance -/
def hT (k m n c : Int) : Int := chN m (n + c).toNat * (k - 1) ^ (m - (n + c)).toNat
theorem hT_t : ∀ k : Fin 6, ∀ m : Fin 21, ∀ n : Fin 21, 0 ≤ sumI (hT ((k.val + 1 : Nat) : Int) m.val n.val) (m.val + 1 - n.val) ∧ sumI (hT ((k.val + 1 : Nat) : Int) m.val n.val) (m.val + 1 - n.val) < 61305790721611591 := by decide +kernel
theorem pw_t : ∀ k : Fin 6, ∀ m : Fin 21, 1 ≤ ((k.val + 1 : Nat) : Int) ^ m.val ∧ ((k.val + 1 : Nat) : Int) ^ m.val < 61305790721611591 := by decide +kernel
theorem hT_b {k m n : Int} (k0 : 1 ≤ k) (k1 : k ≤ 6) (m0 : 0 ≤ m) (m1 : m ≤ 20) (n0 : 0 ≤ n) : 0 ≤ sm (hT k m n) (m + 1 - n) ∧ sm (hT k m n) (m + 1 - n) < 61305790721611591 := by
  by_cases c : m < n
  · unfold sm
    rw [show (m + 1 - n).toNat = 0 by omega]
    show (0 : Int) ≤ 0 ∧ (0 : Int) < _
    decide
  · have := hT_t ⟨(k - 1).toNat, by omega⟩ ⟨m.toNat, by omega⟩ ⟨n.toNat, by omega⟩
    rw [show ((((k - 1).toNat + 1 : Nat)) : Int) = k by omega, show ((m.toNat : Nat) : Int) = m by omega, show ((n.toNat : Nat) : Int) = n by omega] at this
    unfold sm
    rw [show (m + 1 - n).toNat = m.toNat + 1 - n.toNat by omega]
    exact this
theorem pw_b {k m : Int} (k0 : 1 ≤ k) (k1 : k ≤ 6) (m0 : 0 ≤ m) (m1 : m ≤ 20) : 1 ≤ k ^ m.toNat ∧ k ^ m.toNat < 61305790721611591 := by
  have := pw_t ⟨(k - 1).toNat, by omega⟩ ⟨m.toNat, by omega⟩
  rw [show ((((k - 1).toNat + 1 : Nat)) : Int) = k by omega] at this
  exact this
theorem op_byChance {S : Mem} (hW : WF S) {v m : Int} (hv : inr v) (hm : inr m) : OpOK S yX11_byChance yX12_byChance [Iv v, Iv m] Iv := by
  by_cases c1 : (m < 0 ∨ 20 < m) ∨ (v < 0 ∨ 8 ≤ v)
  · refine ⟨-1, S, hW, fun M hX => eX11_byChance ?_, fun M hY => eX12_byChance ?_⟩
    · repeat' first
        | omega
        | exact px_rf hX _
        | exact px_fnd hX _ (by decide) (by decide)
        | refine c_noRow ?_ (fun q => ?_) (fun q => ?_)
        | refine c_noText ?_ (fun q => ?_) (fun q => ?_)
        | refine c_noWord ?_ (fun q => ?_) (fun q => ?_)
        | refine c_noLength ?_ (fun q => ?_) (fun q => ?_)
        | refine c_found (by decide) ?_
        | refine c_refuseRow hW hX ?_ (fun q => ?_) (fun q => ?_) (fun q => ?_)
        | refine c_refusePlace hW hX ?_ ?_ (fun q => ?_) (fun q => ?_) (fun q => ?_) (fun q => ?_)
        | refine c_refuseText hW hX ?_ (fun q => ?_) (fun q => ?_) (fun q => ?_)
        | refine c_refuseWords hW hX ?_ ?_ (fun q => ?_) (fun q => ?_) (fun q => ?_)
        | refine c_refuseWord hW hX ?_ (fun q => ?_) (fun q => ?_) (fun q => ?_)
        | refine c_has hL ?_ ?_ (fun q => ?_) (fun q => ?_)
        | refine c_isMissing hL ?_ (fun q => ?_) (fun q => ?_)
        | refine c_reaches hL ?_ ?_ (fun q => ?_) (fun q => ?_)
        | refine c_has hL2 ?_ ?_ (fun q => ?_) (fun q => ?_)
        | refine c_isMissing hL2 ?_ (fun q => ?_) (fun q => ?_)
        | refine c_reaches hL2 ?_ ?_ (fun q => ?_) (fun q => ?_)
        | refine c_is hWd ?_ ?_ (fun q => ?_) (fun q => ?_)
        | refine c_markOf hWd ?_ (fun q => ?_) (fun q => ?_)
        | with_reducible refine ⟨?_, ?_⟩
        | with_reducible intro q
    · repeat' first
        | omega
        | exact py_rf hY _
        | exact py_fnd hY _ (by decide) (by decide)
        | refine m_isRow ?_ (fun q => ?_) (fun q => ?_)
        | refine m_isText ?_ (fun q => ?_) (fun q => ?_)
        | refine m_isWord ?_ (fun q => ?_) (fun q => ?_)
        | refine m_in ?_ ?_ ?_ (fun q => ?_) (fun q => ?_)
        | refine m_meets (by decide) ?_
        | refine m_needWord hW hY ?_ ?_ (fun q => ?_) (fun q => ?_) (fun q => ?_)
        | refine m_needTwo hW hY ?_ ?_ ?_ (fun q => ?_) (fun q => ?_) (fun q => ?_)
        | refine m_isThere ?_ ?_ ?_ (fun q => ?_) (fun q => ?_)
        | refine m_at0 ?_ ?_ ?_
        | refine m_rowAt ?_ ?_ ?_
        | refine m_markOf ?_ ?_ ?_ (fun q => ?_) (fun q => ?_) (fun q => ?_)
        | with_reducible refine ⟨?_, ?_⟩
        | with_reducible intro q
  have v0 : 0 ≤ v := by omega
  have v8 : v < 8 := by omega
  have m0 : 0 ≤ m := by omega
  have m20 : m ≤ 20 := by omega
  by_cases c3 : S (30 + v) (-1) < 0
  · refine ⟨-3, fS S 1, hW.fnd 1, fun M hX => eX11_byChance ?_, fun M hY => eX12_byChance ?_⟩
    · repeat' first
        | omega
        | exact px_rf hX _
        | exact px_fnd hX _ (by decide) (by decide)
        | refine c_noRow ?_ (fun q => ?_) (fun q => ?_)
        | refine c_noText ?_ (fun q => ?_) (fun q => ?_)
        | refine c_noWord ?_ (fun q => ?_) (fun q => ?_)
        | refine c_noLength ?_ (fun q => ?_) (fun q => ?_)
        | refine c_found (by decide) ?_
        | refine c_refuseRow hW hX ?_ (fun q => ?_) (fun q => ?_) (fun q => ?_)
        | refine c_refusePlace hW hX ?_ ?_ (fun q => ?_) (fun q => ?_) (fun q => ?_) (fun q => ?_)
        | refine c_refuseText hW hX ?_ (fun q => ?_) (fun q => ?_) (fun q => ?_)
        | refine c_refuseWords hW hX ?_ ?_ (fun q => ?_) (fun q => ?_) (fun q => ?_)
        | refine c_refuseWord hW hX ?_ (fun q => ?_) (fun q => ?_) (fun q => ?_)
        | refine c_has hL ?_ ?_ (fun q => ?_) (fun q => ?_)
        | refine c_isMissing hL ?_ (fun q => ?_) (fun q => ?_)
        | refine c_reaches hL ?_ ?_ (fun q => ?_) (fun q => ?_)
        | refine c_has hL2 ?_ ?_ (fun q => ?_) (fun q => ?_)
        | refine c_isMissing hL2 ?_ (fun q => ?_) (fun q => ?_)
        | refine c_reaches hL2 ?_ ?_ (fun q => ?_) (fun q => ?_)
        | refine c_is hWd ?_ ?_ (fun q => ?_) (fun q => ?_)
        | refine c_markOf hWd ?_ (fun q => ?_) (fun q => ?_)
        | with_reducible refine ⟨?_, ?_⟩
        | with_reducible intro q
    · repeat' first
        | omega
        | exact py_rf hY _
        | exact py_fnd hY _ (by decide) (by decide)
        | refine m_isRow ?_ (fun q => ?_) (fun q => ?_)
        | refine m_isText ?_ (fun q => ?_) (fun q => ?_)
        | refine m_isWord ?_ (fun q => ?_) (fun q => ?_)
        | refine m_in ?_ ?_ ?_ (fun q => ?_) (fun q => ?_)
        | refine m_meets (by decide) ?_
        | refine m_needWord hW hY ?_ ?_ (fun q => ?_) (fun q => ?_) (fun q => ?_)
        | refine m_needTwo hW hY ?_ ?_ ?_ (fun q => ?_) (fun q => ?_) (fun q => ?_)
        | refine m_isThere ?_ ?_ ?_ (fun q => ?_) (fun q => ?_)
        | refine m_at0 ?_ ?_ ?_
        | refine m_rowAt ?_ ?_ ?_
        | refine m_markOf ?_ ?_ ?_ (fun q => ?_) (fun q => ?_) (fun q => ?_)
        | with_reducible refine ⟨?_, ?_⟩
        | with_reducible intro q
  have bv := hW.wd v0 v8 (by omega)
  obtain ⟨b1, b2, b3, b4, -⟩ := bv
  have hb := hT_b (k := S 0 0) (m := m) (n := S (30 + v) (-1)) b3 b4 m0 m20 b1
  have pb := pw_b (k := S 0 0) (m := m) b3 b4 m0 m20
  refine ⟨1, up (up S 0 3 (Int.tdiv (sm (hT (S 0 0) m (S (30 + v) (-1))) (m + 1 - S (30 + v) (-1))) (gd (sm (hT (S 0 0) m (S (30 + v) (-1))) (m + 1 - S (30 + v) (-1))) (S 0 0 ^ m.toNat)))) 0 4 (Int.tdiv (S 0 0 ^ m.toNat) (gd (sm (hT (S 0 0) m (S (30 + v) (-1))) (m + 1 - S (30 + v) (-1))) (S 0 0 ^ m.toNat))), (hW.scal 3 _ (by decide)).scal 4 _ (by decide), fun M hX => eX11_byChance ?_, fun M hY => eX12_byChance ?_⟩
  · have e := (hX.ln v0 v8).1
    have e3 := hX.2.2.2.1.1
    refine ⟨hm, fun q => absurd q (by omega), fun _ => ⟨fun _ => c_refuseWord hW hX hv (fun q => absurd q (by omega)) (fun q => absurd q (by omega)) (fun q => ⟨by decide, fun _ => ⟨v0, v8, ?_⟩, fun q => absurd rfl q⟩), fun q => absurd q (by omega)⟩⟩
    rw [e]
    have fin : wp 0 yX11_byChance 41 [some (Rv 1), some (Iv v), some (Iv m), some (Iv 0), some (Jv (sm (hT (S 0 0) m (S (30 + v) (-1))) (m + 1 - S (30 + v) (-1)))), none, some (Iv (if m < S (30 + v) (-1) then S (30 + v) (-1) else m + 1))] [] M (PX (up (up S 0 3 (Int.tdiv (sm (hT (S 0 0) m (S (30 + v) (-1))) (m + 1 - S (30 + v) (-1))) (gd (sm (hT (S 0 0) m (S (30 + v) (-1))) (m + 1 - S (30 + v) (-1))) (S 0 0 ^ m.toNat)))) 0 4 (Int.tdiv (S 0 0 ^ m.toNat) (gd (sm (hT (S 0 0) m (S (30 + v) (-1))) (m + 1 - S (30 + v) (-1))) (S 0 0 ^ m.toNat)))) (Iv 1) M) := by
      have hi : m < (if m < S (30 + v) (-1) then S (30 + v) (-1) else m + 1) ∧ (if m < S (30 + v) (-1) then S (30 + v) (-1) else m + 1) ≤ 41 := by split <;> omega
      refine gX11_byChance_41 ⟨⟨by omega, by omega⟩, hm, fun _ => ?_, fun q => absurd q (by omega)⟩
      rw [e3]
      exact c_power ⟨by omega, by omega⟩ m0 (by omega) (c_tellFraction (by omega) (by omega) (by omega) (by omega) ⟨rfl, (hX.scal 3 _ (by decide) (by decide)).scal 4 _ (by decide) (by decide), ((frx.rf M).up (by omega)).up (by omega)⟩)
    by_cases c : m < S (30 + v) (-1)
    · rw [if_pos c] at fin
      have z : sm (hT (S 0 0) m (S (30 + v) (-1))) (m + 1 - S (30 + v) (-1)) = 0 := by unfold sm; rw [show (m + 1 - S (30 + v) (-1)).toNat = 0 by omega]; rfl
      rw [z] at fin ⊢
      exact fin
    · rw [if_neg c] at fin
      have := up_ind (P := fun c => wp 0 yX11_byChance 41 [some (Rv 1), some (Iv v), some (Iv m), some (Iv 0), some (Jv (sm (hT (S 0 0) m (S (30 + v) (-1))) c)), none, some (Iv (S (30 + v) (-1) + c))] [] M (PX (up (up S 0 3 (Int.tdiv (sm (hT (S 0 0) m (S (30 + v) (-1))) (m + 1 - S (30 + v) (-1))) (gd (sm (hT (S 0 0) m (S (30 + v) (-1))) (m + 1 - S (30 + v) (-1))) (S 0 0 ^ m.toNat)))) 0 4 (Int.tdiv (S 0 0 ^ m.toNat) (gd (sm (hT (S 0 0) m (S (30 + v) (-1))) (m + 1 - S (30 + v) (-1))) (S 0 0 ^ m.toNat)))) (Iv 1) M)) (a := 0) (n := m + 1 - S (30 + v) (-1)) (by omega) (by rw [show S (30 + v) (-1) + (m + 1 - S (30 + v) (-1)) = m + 1 by omega]; exact fin) (fun x x0 x1 ih => ?_)
      · rw [Int.add_zero] at this
        exact this
      · rw [sm_s x0] at ih
        refine gX11_byChance_41 ⟨⟨by omega, by omega⟩, hm, fun q => absurd q (by omega), fun _ => c_choose (by omega) (by omega) (by omega) ?_⟩
        show cl 0 yX11_power _ _ _
        rw [e3]
        refine c_power ⟨by omega, by omega⟩ (by omega) (by omega) ?_
        rw [← Int.add_assoc] at ih
        exact ih
  · have e := (hY.ln v0 v8).1
    have e3 := hY.2.2.2.1.1
    refine m_in hm (by decide) (by decide) (fun q => absurd q (by omega)) (fun _ => m_needWord hW hY (Or.inr rfl) hv (fun q => absurd q (by omega)) (fun q => absurd q (by omega)) (fun q => ⟨by decide, fun _ => ⟨v0, v8, ?_⟩, fun q => absurd q (by decide)⟩))
    rw [e]
    have fin : wp 0 yX12_byChance 30 [some (Rv 88), some (Iv v), some (Iv m), some (Iv 0), some (Jv (sm (hT (S 0 0) m (S (30 + v) (-1))) (m + 1 - S (30 + v) (-1)))), none, some (Iv (if m < S (30 + v) (-1) then S (30 + v) (-1) else m + 1))] [] M (PY (up (up S 0 3 (Int.tdiv (sm (hT (S 0 0) m (S (30 + v) (-1))) (m + 1 - S (30 + v) (-1))) (gd (sm (hT (S 0 0) m (S (30 + v) (-1))) (m + 1 - S (30 + v) (-1))) (S 0 0 ^ m.toNat)))) 0 4 (Int.tdiv (S 0 0 ^ m.toNat) (gd (sm (hT (S 0 0) m (S (30 + v) (-1))) (m + 1 - S (30 + v) (-1))) (S 0 0 ^ m.toNat)))) (Iv 1) M) := by
      have hi : m < (if m < S (30 + v) (-1) then S (30 + v) (-1) else m + 1) ∧ (if m < S (30 + v) (-1) then S (30 + v) (-1) else m + 1) ≤ 41 := by split <;> omega
      refine gX12_byChance_30 ⟨⟨by omega, by omega⟩, hm, fun _ => ⟨⟨by omega, by omega⟩, ?_⟩, fun q => absurd q (by omega)⟩
      rw [e3]
      exact m_powerOf m0 (by omega) (m_fraction (by omega) (by omega) (by omega) (by omega) ⟨rfl, (hY.scal 3 4 _ (by decide)).scal 4 5 _ (by decide), ((fry.rf M).up (by omega)).up (by omega)⟩)
    by_cases c : m < S (30 + v) (-1)
    · rw [if_pos c] at fin
      have z : sm (hT (S 0 0) m (S (30 + v) (-1))) (m + 1 - S (30 + v) (-1)) = 0 := by unfold sm; rw [show (m + 1 - S (30 + v) (-1)).toNat = 0 by omega]; rfl
      rw [z] at fin ⊢
      exact fin
    · rw [if_neg c] at fin
      have := up_ind (P := fun c => wp 0 yX12_byChance 30 [some (Rv 88), some (Iv v), some (Iv m), some (Iv 0), some (Jv (sm (hT (S 0 0) m (S (30 + v) (-1))) c)), none, some (Iv (S (30 + v) (-1) + c))] [] M (PY (up (up S 0 3 (Int.tdiv (sm (hT (S 0 0) m (S (30 + v) (-1))) (m + 1 - S (30 + v) (-1))) (gd (sm (hT (S 0 0) m (S (30 + v) (-1))) (m + 1 - S (30 + v) (-1))) (S 0 0 ^ m.toNat)))) 0 4 (Int.tdiv (S 0 0 ^ m.toNat) (gd (sm (hT (S 0 0) m (S (30 + v) (-1))) (m + 1 - S (30 + v) (-1))) (S 0 0 ^ m.toNat)))) (Iv 1) M)) (a := 0) (n := m + 1 - S (30 + v) (-1)) (by omega) (by rw [show S (30 + v) (-1) + (m + 1 - S (30 + v) (-1)) = m + 1 by omega]; exact fin) (fun x x0 x1 ih => ?_)
      · rw [Int.add_zero] at this
        exact this
      · rw [sm_s x0] at ih
        refine gX12_byChance_30 ⟨⟨by omega, by omega⟩, hm, fun q => absurd q (by omega), fun _ => m_chosen (by omega) (by omega) (by omega) ⟨by rw [e3]; exact ⟨by omega, by omega⟩, ?_⟩⟩
        rw [e3]
        refine m_powerOf (by omega) (by omega) ?_
        rw [← Int.add_assoc] at ih
        exact ih
