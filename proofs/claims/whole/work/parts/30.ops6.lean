/-! loops -/
theorem up_ind {P : Int → Prop} {a n : Int} (h : a ≤ n) (h1 : P n) (hs : ∀ x, a ≤ x → x < n → P (x + 1) → P x) : P a := by
  have key : ∀ (m : Nat) (x : Int), a ≤ x → x ≤ n → (n - x).toNat = m → P x := by
    intro m
    induction m with
    | zero =>
      intro x x0 x1 xm
      have e : x = n := by omega
      rw [e]
      exact h1
    | succ m ih =>
      intro x x0 x1 xm
      exact hs x x0 (by omega) (ih (x + 1) (by omega) (by omega) (by omega))
  exact key _ a (Int.le_refl _) h rfl
theorem dn_ind {P : Int → Prop} {a n : Int} (h : a ≤ n) (h1 : P a) (hs : ∀ x, a < x → x ≤ n → P (x - 1) → P x) : P n := by
  have key : ∀ (m : Nat) (x : Int), a ≤ x → x ≤ n → (x - a).toNat = m → P x := by
    intro m
    induction m with
    | zero =>
      intro x x0 x1 xm
      have e : x = a := by omega
      rw [e]
      exact h1
    | succ m ih =>
      intro x x0 x1 xm
      exact hs x (by omega) x1 (ih (x - 1) (by omega) (by omega) (by omega))
  exact key _ n h (Int.le_refl _) rfl
theorem inr_b {x : Int} (h0 : -1000000 ≤ x) (h1 : x ≤ 1000000) : inr x := ⟨by omega, by omega⟩
/-- sums and mixtures up to x -/
def sm (f : Int → Int) (x : Int) : Int := sumI f x.toNat
theorem sm_0 {f : Int → Int} : sm f 0 = 0 := rfl
theorem sm_s {f : Int → Int} {x : Int} (h : 0 ≤ x) : sm f (x + 1) = sm f x + f x := by
  unfold sm
  rw [show (x + 1).toNat = x.toNat + 1 by omega]
  show sumI f x.toNat + f (x.toNat : Int) = _
  rw [show (x.toNat : Int) = x by omega]
theorem sm_cg {f g : Int → Int} {n : Int} (hn : 0 ≤ n) (h : ∀ i, 0 ≤ i → i < n → f i = g i) : sm f n = sm g n := by
  have key : ∀ k : Nat, (k : Int) ≤ n → sm f k = sm g k := by
    intro k
    induction k with
    | zero => intro _; rfl
    | succ k ih =>
      intro hk
      rw [show ((k + 1 : Nat) : Int) = (k : Int) + 1 by omega, sm_s (by omega), sm_s (by omega), ih (by omega), h k (by omega) (by omega)]
  have := key n.toNat (by omega)
  rw [show ((n.toNat : Nat) : Int) = n by omega] at this
  exact this
theorem sm_bd {f : Int → Int} {lo hi : Int} {n : Nat} (h : ∀ i, 0 ≤ i → i < (n : Int) → lo ≤ f i ∧ f i ≤ hi) : lo * n ≤ sm f n ∧ sm f n ≤ hi * n := by
  have key : ∀ k : Nat, k ≤ n → lo * k ≤ sm f k ∧ sm f k ≤ hi * k := by
    intro k
    induction k with
    | zero => intro _; rw [show ((0 : Nat) : Int) = 0 from rfl, sm_0]; omega
    | succ k ih =>
      intro hk
      have h1 := ih (by omega)
      have h2 := h k (by omega) (by omega)
      rw [show ((k + 1 : Nat) : Int) = (k : Int) + 1 by omega, sm_s (by omega), Int.mul_add, Int.mul_add]
      omega
  exact key n (Nat.le_refl _)
theorem sm_zero {f : Int → Int} (h : ∀ i, f i = 0) (n : Nat) : sm f n = 0 := by
  have := sm_bd (f := f) (lo := 0) (hi := 0) (n := n) (fun i _ _ => by rw [h]; omega)
  omega
def mxN (f : Int → Int) (h : Int) : Nat → Int
  | 0 => h
  | n + 1 => 31 * mxN f h n + f n
def mx (f : Int → Int) (h x : Int) : Int := mxN f h x.toNat
theorem mx_0 {f : Int → Int} {h : Int} : mx f h 0 = h := rfl
theorem mx_s {f : Int → Int} {h x : Int} (hx : 0 ≤ x) : mx f h (x + 1) = 31 * mx f h x + f x := by
  unfold mx
  rw [show (x + 1).toNat = x.toNat + 1 by omega]
  show 31 * mxN f h x.toNat + f (x.toNat : Int) = _
  rw [show (x.toNat : Int) = x by omega]
theorem mx_n {f : Int → Int} {h x : Int} (hx : x ≤ 0) : mx f h x = h := by
  unfold mx
  rw [show x.toNat = 0 by omega]
  rfl
/-! 46 count -/
def cA (S : Mem) (c i : Int) : Int := if c = 1 then (if S (10 + i) (-1) < 0 then 0 else 1) else 0
def cB (S : Mem) (c i : Int) : Int := if c = 2 then (if S (20 + i) (-1) < 0 then 0 else 1) else 0
def cC (S : Mem) (c i : Int) : Int := if S (30 + i) (-1) < 0 then 0 else if c = 3 then 1 else if c = 4 then (if S (30 + i) (-2) < 2 then 0 else 1) else if c = 5 then S (30 + i) (-1) else 0
def cN (S : Mem) (c : Int) : Int := if c = 0 then S 0 0 else sm (cA S c) 6 + sm (cB S c) 4 + sm (cC S c) 8
theorem cA_b (S : Mem) (c i : Int) : 0 ≤ cA S c i ∧ cA S c i ≤ 1 := by unfold cA; split <;> (try split) <;> omega
theorem cB_b (S : Mem) (c i : Int) : 0 ≤ cB S c i ∧ cB S c i ≤ 1 := by unfold cB; split <;> (try split) <;> omega
theorem cN_b {S : Mem} (hW : WF S) {c : Int} : inr (cN S c) := by
  unfold cN
  have k := hW.2.2.2
  split
  · exact ⟨by omega, by omega⟩
  · have a := sm_bd (f := cA S c) (lo := 0) (hi := 1) (n := 6) (fun i _ _ => cA_b S c i)
    have b := sm_bd (f := cB S c) (lo := 0) (hi := 1) (n := 4) (fun i _ _ => cB_b S c i)
    have d := sm_bd (f := cC S c) (lo := 0) (hi := 40) (n := 8) (fun i i0 i1 => by
      have := hW.2.2.1 i i0 (by omega)
      unfold cC
      split
      · omega
      split
      · omega
      split
      · split <;> omega
      split <;> omega)
    rw [show ((6 : Nat) : Int) = 6 from rfl] at a
    rw [show ((4 : Nat) : Int) = 4 from rfl] at b
    rw [show ((8 : Nat) : Int) = 8 from rfl] at d
    exact ⟨by omega, by omega⟩
theorem cA_z {S : Mem} {c : Int} (h : c ≠ 1) : sm (cA S c) 6 = 0 := sm_zero (fun i => by unfold cA; rw [if_neg h]) 6
theorem cB_z {S : Mem} {c : Int} (h : c ≠ 2) : sm (cB S c) 4 = 0 := sm_zero (fun i => by unfold cB; rw [if_neg h]) 4
theorem cC_z {S : Mem} {c : Int} (h : c ≠ 3) (h4 : c ≠ 4) (h5 : c ≠ 5) : sm (cC S c) 8 = 0 := sm_zero (fun i => by unfold cC; rw [if_neg h, if_neg h4, if_neg h5, ite_self]) 8
theorem c_countR {S M : Mem} (hW : WF S) (hX : X S M) {Q : Vl → Mem → Prop} (h : Q (Iv (sm (cA S 1) 6)) M) : cl 0 yX11_countThere [Rv 2] M Q := by
  refine eX11_countThere_r ?_
  refine up_ind (P := fun x => wp 0 yX11_countThere 4 [some (Rv 2), some (Iv (sm (cA S 1) x)), some (Iv x)] [] M Q) (a := 0) (n := 6) (by decide) ?_ (fun x x0 x1 ih => ?_)
  · exact gX11_countThere_r_4 ⟨⟨by omega, by omega⟩, fun _ => h, fun q => absurd q (by decide)⟩
  · have e := (hX.1 x x0 x1).1
    have w := hW.1 x x0 x1
    refine gX11_countThere_r_4 ⟨⟨by omega, by omega⟩, fun q => absurd q (by omega), fun q => ⟨x0, c_isMissing (isL_row x0 x1) (by rw [e]; exact ⟨by omega, by omega⟩) (fun q1 => ⟨fun _ => ?_, fun q => absurd rfl q⟩) (fun q1 => ⟨fun q => absurd q (by decide), fun _ => ?_⟩)⟩⟩
    · rw [sm_s x0] at ih
      unfold cA at ih ⊢
      rw [if_pos rfl, if_neg (by omega)] at ih
      exact ih
    · rw [sm_s x0] at ih
      unfold cA at ih ⊢
      rw [if_pos rfl, if_pos (by omega)] at ih
      exact ih
theorem c_countT {S M : Mem} (hW : WF S) (hX : X S M) {Q : Vl → Mem → Prop} (h : Q (Iv (sm (cB S 2) 4)) M) : cl 0 yX11_countThere [Rv 3] M Q := by
  refine eX11_countThere_t ?_
  refine up_ind (P := fun x => wp 0 yX11_countThere 4 [some (Rv 3), some (Iv (sm (cB S 2) x)), some (Iv x)] [] M Q) (a := 0) (n := 4) (by decide) ?_ (fun x x0 x1 ih => ?_)
  · exact gX11_countThere_t_4 ⟨⟨by omega, by omega⟩, fun _ => h, fun q => absurd q (by decide)⟩
  · have e := (hX.2.1 x x0 x1).1
    have w := hW.2.1 x x0 x1
    refine gX11_countThere_t_4 ⟨⟨by omega, by omega⟩, fun q => absurd q (by omega), fun q => ⟨x0, c_isMissing (isL_text x0 x1) (by rw [e]; exact ⟨by omega, by omega⟩) (fun q1 => ⟨fun _ => ?_, fun q => absurd rfl q⟩) (fun q1 => ⟨fun q => absurd q (by decide), fun _ => ?_⟩)⟩⟩
    · rw [sm_s x0] at ih
      unfold cB at ih ⊢
      rw [if_pos rfl, if_neg (by omega)] at ih
      exact ih
    · rw [sm_s x0] at ih
      unfold cB at ih ⊢
      rw [if_pos rfl, if_pos (by omega)] at ih
      exact ih
theorem c_countW {S M : Mem} (hW : WF S) (hX : X S M) {l c : Int} {Q : Vl → Mem → Prop} (hl : (l = 0 ∧ c = 3) ∨ (l = 2 ∧ c = 4)) (h : Q (Iv (sm (cC S c) 8)) M) : cl 0 yX11_countWords [Rv 1, Iv l] M Q := by
  refine eX11_countWords ?_
  refine up_ind (P := fun x => wp 0 yX11_countWords 4 [some (Rv 1), some (Iv l), some (Iv (sm (cC S c) x)), some (Iv x)] [] M Q) (a := 0) (n := 8) (by decide) ?_ (fun x x0 x1 ih => ?_)
  · exact gX11_countWords_4 ⟨⟨by omega, by omega⟩, fun _ => h, fun q => absurd q (by decide)⟩
  · obtain ⟨e0, e, -⟩ := hX.2.2.1 x x0 x1
    have w := hW.2.2.1 x x0 x1
    rw [sm_s x0] at ih
    refine gX11_countWords_4 ⟨⟨by omega, by omega⟩, fun q => absurd q (by omega), fun q => ⟨x0, c_isMissing (isW_word x0 x1).l (by rw [e]; exact ⟨by omega, by omega⟩) (fun q1 => ⟨fun q => absurd rfl q, fun _ => ⟨⟨by omega, by omega⟩, ⟨by omega, by omega⟩, fun q2 => ?_, fun q2 => ?_⟩⟩) (fun q1 => ⟨fun _ => ?_, fun q => absurd q (by decide)⟩)⟩⟩
    · rw [show cC S c x = 0 by unfold cC; rw [if_neg (by omega), if_neg (by omega), if_pos (by omega), if_pos (by omega)]] at ih
      exact ih
    · rw [show cC S c x = 1 by unfold cC; rw [if_neg (by omega)]; split; rfl; rw [if_pos (by omega), if_neg (by omega)]] at ih
      exact ih
    · rw [show cC S c x = 0 by unfold cC; rw [if_pos (by omega)]] at ih
      exact ih
theorem c_countL {S M : Mem} (hW : WF S) (hX : X S M) {Q : Vl → Mem → Prop} (h : Q (Iv (sm (cC S 5) 8)) M) : cl 0 yX11_countLetters [Rv 1] M Q := by
  refine eX11_countLetters ?_
  refine up_ind (P := fun x => wp 0 yX11_countLetters 4 [some (Rv 1), some (Iv (sm (cC S 5) x)), some (Iv x)] [] M Q) (a := 0) (n := 8) (by decide) ?_ (fun x x0 x1 ih => ?_)
  · exact gX11_countLetters_4 ⟨⟨by omega, by omega⟩, fun _ => h, fun q => absurd q (by decide)⟩
  · obtain ⟨e0, e, -⟩ := hX.2.2.1 x x0 x1
    have w := hW.2.2.1 x x0 x1
    rw [sm_s x0] at ih
    refine gX11_countLetters_4 ⟨⟨by omega, by omega⟩, fun q => absurd q (by omega), fun q => ⟨x0, by rw [e]; exact ⟨by omega, by omega⟩, ?_⟩⟩
    rw [e]
    unfold cC at ih ⊢
    rw [if_neg (show ¬ ((5 : Int) = 3) by decide), if_neg (show ¬ ((5 : Int) = 4) by decide), if_pos rfl] at ih
    exact ih
theorem c_count {S M : Mem} (hW : WF S) (hX : X S M) {c : Int} {Q : Vl → Mem → Prop} (c0 : 0 ≤ c) (c5 : c ≤ 5) (h : Q (Iv (cN S c)) M) : cl 0 yX11_count [Rv 1, Iv c] M Q := by
  refine eX11_count ⟨⟨by omega, by omega⟩, fun q => absurd q (by omega), fun q => ?_, fun q => c_countR hW hX ?_, fun q => c_countT hW hX ?_, fun q => c_countW hW hX (c := 3) (Or.inl ⟨rfl, rfl⟩) ?_, fun q => c_countW hW hX (c := 4) (Or.inr ⟨rfl, rfl⟩) ?_, fun q => c_countL hW hX ?_⟩
  · rw [hX.2.2.2.1.1]
    unfold cN at h
    rw [if_pos q] at h
    exact h
  all_goals
    subst q
    unfold cN at h
    rw [if_neg (by decide)] at h
  · rw [cB_z (by decide), cC_z (by decide) (by decide) (by decide), Int.add_zero, Int.add_zero] at h
    exact h
  · rw [cA_z (by decide), cC_z (by decide) (by decide) (by decide), Int.add_zero, Int.zero_add] at h
    exact h
  · rw [cA_z (by decide), cB_z (by decide), Int.add_zero, Int.zero_add] at h
    exact h
  · rw [cA_z (by decide), cB_z (by decide), Int.add_zero, Int.zero_add] at h
    exact h
  · rw [cA_z (by decide), cB_z (by decide), Int.add_zero, Int.zero_add] at h
    exact h
theorem m_counted {S M : Mem} (hW : WF S) (hY : Y S M) {c : Int} {Q : Vl → Mem → Prop} (c0 : 0 ≤ c) (c5 : c ≤ 5) (h : Q (Iv (cN S c)) M) : cl 0 yX12_counted [Rv 88, Iv c] M Q := by
  refine eX12_counted ?_
  have ic : inr c := ⟨by omega, by omega⟩
  refine up_ind (P := fun x => wp 0 yX12_counted 4 [some (Rv 88), some (Iv c), some (Iv (sm (cA S c) x)), some (Iv x), none] [] M Q) (a := 0) (n := 6) (by decide) ?_ (fun x x0 x1 ih => ?_)
  · refine gX12_counted_4 ⟨⟨by omega, by omega⟩, fun _ => ?_, fun q => absurd q (by decide)⟩
    have k2 : wp 0 yX12_counted 40 [some (Rv 88), some (Iv c), some (Iv (sm (cA S c) 6 + sm (cB S c) 0)), some (Iv 0), none] [] M Q := by
      refine up_ind (P := fun x => wp 0 yX12_counted 40 [some (Rv 88), some (Iv c), some (Iv (sm (cA S c) 6 + sm (cB S c) x)), some (Iv x), none] [] M Q) (a := 0) (n := 4) (by decide) ?_ (fun x x0 x1 ih => ?_)
      · refine gX12_counted_40 ⟨⟨by omega, by omega⟩, fun _ => ?_, fun q => absurd q (by decide)⟩
        have k3 : wp 0 yX12_counted 75 [some (Rv 88), some (Iv c), some (Iv (sm (cA S c) 6 + sm (cB S c) 4 + sm (cC S c) 0)), some (Iv 0), none] [] M Q := by
          refine up_ind (P := fun x => wp 0 yX12_counted 75 [some (Rv 88), some (Iv c), some (Iv (sm (cA S c) 6 + sm (cB S c) 4 + sm (cC S c) x)), some (Iv x), none] [] M Q) (a := 0) (n := 8) (by decide) ?_ (fun x x0 x1 ih => ?_)
          · refine gX12_counted_75 ⟨⟨by omega, by omega⟩, fun _ => ⟨ic, fun q => ?_, fun q => ?_⟩, fun q => absurd q (by decide)⟩
            · unfold cN at h
              rw [if_neg q] at h
              exact h
            · unfold cN at h
              rw [if_pos q] at h
              rw [hY.2.2.2.1.1]
              exact h
          · obtain ⟨⟨e0, -, -⟩, e, -⟩ := hY.2.2.1 x x0 x1
            have w := hW.2.2.1 x x0 x1
            rw [sm_s x0, ← Int.add_assoc] at ih
            have r1 : inr (M 97 x) := ⟨by omega, by omega⟩
            refine gX12_counted_75 ⟨⟨by omega, by omega⟩, fun q => absurd q (by omega), fun q => m_isThere x0 x1 (by rw [e]; exact ⟨by omega, by omega⟩) (fun q0 => ?_) (fun q0 => ?_)⟩
            · rw [show cC S c x = 0 by unfold cC; rw [if_pos (by omega)]] at ih
              refine ⟨ic, fun q1 => ⟨fun q2 => ⟨fun q3 => ih, fun q3 => ⟨fun _ => ih, fun q4 => absurd rfl q4⟩⟩, fun q2 => ⟨fun _ => ⟨fun q3 => ih, fun q3 => absurd q3 (by omega)⟩, fun q4 => absurd rfl q4⟩⟩, fun q1 => ⟨fun q4 => absurd rfl q4, fun _ => ⟨fun _ => ⟨fun _ => ih, fun q3 => absurd q3 (by omega)⟩, fun q3 => absurd q3 (by omega)⟩⟩⟩
            · refine ⟨ic, fun q1 => ⟨fun q2 => ⟨fun q3 => ?_, fun q3 => ⟨fun q4 => absurd q4 (by decide), fun _ => ⟨x0, ?_⟩⟩⟩, fun q2 => ⟨fun q4 => absurd q4 (by decide), fun _ => ⟨x0, r1, fun q5 => ⟨fun q3 => ?_, fun q3 => absurd q3 (by omega)⟩, fun q5 => ?_⟩⟩⟩, fun q1 => ⟨fun _ => ?_, fun q4 => absurd q4 (by decide)⟩⟩
              · rw [show cC S c x = 0 by unfold cC; rw [if_neg (by omega), if_neg q1, if_neg q2, if_neg q3]] at ih
                exact ih
              · rw [show cC S c x = M 95 x by unfold cC; rw [if_neg (by omega), if_neg q1, if_neg q2, if_pos q3, e]] at ih
                exact ih
              · rw [show cC S c x = 0 by unfold cC; rw [if_neg (by omega), if_neg q1, if_pos q2, if_pos (by omega)]] at ih
                exact ih
              · rw [show cC S c x = 1 by unfold cC; rw [if_neg (by omega), if_neg q1, if_pos q2, if_neg (by omega)]] at ih
                exact ih
              · rw [show cC S c x = 1 by unfold cC; rw [if_neg (by omega), if_pos q1]] at ih
                exact ih
        rw [sm_0, Int.add_zero] at k3
        exact k3
      · have e := (hY.2.1 x x0 x1).1
        have w := hW.2.1 x x0 x1
        rw [sm_s x0, ← Int.add_assoc] at ih
        refine gX12_counted_40 ⟨⟨by omega, by omega⟩, fun q => absurd q (by omega), fun q => ⟨ic, fun q1 => ?_, fun q1 => ⟨x0, by rw [e]; exact ⟨by omega, by omega⟩, fun q2 => ?_, fun q2 => ?_⟩⟩⟩
        · rw [show cB S c x = 0 by unfold cB; rw [if_neg q1]] at ih
          exact ih
        · rw [show cB S c x = 0 by unfold cB; rw [if_pos q1, if_pos (by omega)]] at ih
          exact ih
        · rw [show cB S c x = 1 by unfold cB; rw [if_pos q1, if_neg (by omega)]] at ih
          exact ih
    rw [sm_0, Int.add_zero] at k2
    exact k2
  · have e := (hY.1 x x0 x1).1
    have w := hW.1 x x0 x1
    rw [sm_s x0] at ih
    refine gX12_counted_4 ⟨⟨by omega, by omega⟩, fun q => absurd q (by omega), fun q => ⟨ic, fun q1 => ?_, fun q1 => ⟨x0, by rw [e]; exact ⟨by omega, by omega⟩, fun q2 => ?_, fun q2 => ?_⟩⟩⟩
    · rw [show cA S c x = 0 by unfold cA; rw [if_neg q1]] at ih
      exact ih
    · rw [show cA S c x = 0 by unfold cA; rw [if_pos q1, if_pos (by omega)]] at ih
      exact ih
    · rw [show cA S c x = 1 by unfold cA; rw [if_pos q1, if_neg (by omega)]] at ih
      exact ih
theorem op_count {S : Mem} (hW : WF S) {c : Int} (hc : inr c) : OpOK S yX11_count yX12_count [Iv c] Iv := by
  by_cases c1 : c < 0 ∨ 5 < c
  · exact ⟨-1, S, hW, fun M hX => eX11_count ⟨hc, fun _ => px_rf hX _, fun q => absurd q (by omega), fun q => absurd q (by omega), fun q => absurd q (by omega), fun q => absurd q (by omega), fun q => absurd q (by omega), fun q => absurd q (by omega)⟩, fun M hY => eX12_count (m_in hc (by decide) (by decide) (fun _ => ⟨fun _ => py_rf hY _, fun q => absurd rfl q⟩) (fun q => absurd q (by omega)))⟩
  · exact ⟨cN S c, S, hW, fun M hX => c_count hW hX (by omega) (by omega) (px_rf hX _), fun M hY => eX12_count (m_in hc (by decide) (by decide) (fun q => absurd q (by omega)) (fun q => ⟨fun q => absurd q (by decide), fun _ => m_counted hW hY (by omega) (by omega) (py_rf hY _)⟩))⟩
