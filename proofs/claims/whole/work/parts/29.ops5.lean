/-! 14 join, 15 part, 16 turn -/
theorem fil_z {M : Mem} {a n i : Int} {f : Int → Int} (h0 : 0 ≤ i) (h1 : i < n) : fil M a 0 n f a i = f i := by
  have := fil_in (M := M) (a := a) (base := 0) (f := f) h0 h1
  rw [Int.zero_add] at this
  exact this
/-- the reference's word out of made, filled by f -/
theorem py_cms {S M : Mem} (hW : WF S) (hY : Y S M) {w n kd of td : Int} {f : Int → Int} (h0 : 0 ≤ w) (h1 : w < 8) (hn0 : 0 ≤ n) (hn1 : n ≤ 40) : PY (setWd S w n f kd of td) (Iv n) M (Iv n) (cms (up (fil M 100 0 n f) 88 17 n) w kd of td) :=
  ⟨rfl, Y.cms hW ((hY.fil (by unfold kY; omega) (by decide)).up (by unfold kY; omega) (by omega)) h0 h1 (by rw [up_at, if_pos rfl]) hn0 hn1 (fun i i0 i1 => by rw [up_ne (by decide)]; exact fil_z i0 i1), (((fry.rf M).fil (by decide)).up (by decide)).cms⟩
theorem op_part {S : Mem} (hW : WF S) {w a i n : Int} (hw : inr w) (ha : inr a) (hi : inr i) (hn : inr n) : OpOK S yX11_part yX12_part [Iv w, Iv a, Iv i, Iv n] Iv := by
  by_cases c1 : (w < 0 ∨ 8 ≤ w) ∨ (a < 0 ∨ 8 ≤ a)
  · refine ⟨-1, S, hW, fun M hX => eX11_part ?_, fun M hY => eX12_part ?_⟩
    · repeat' first
        | omega
        | exact px_rf hX _
        | exact px_fnd hX _ (by decide) (by decide)
        | refine c_noRow ?_ (fun q => ?_) (fun q => ?_)
        | refine c_noText ?_ (fun q => ?_) (fun q => ?_)
        | refine c_noWord ?_ (fun q => ?_) (fun q => ?_)
        | refine c_noLength ?_ (fun q => ?_) (fun q => ?_)
        | refine c_found (by decide) ?_
        | refine c_refuseRow hW hX ?_ (fun q => ?_) (fun q => ?_) (fun q => ?_)
        | refine c_refusePlace hW hX ?_ ?_ (fun q => ?_) (fun q => ?_) (fun q => ?_) (fun q => ?_)
        | refine c_refuseText hW hX ?_ (fun q => ?_) (fun q => ?_) (fun q => ?_)
        | refine c_refuseWords hW hX ?_ ?_ (fun q => ?_) (fun q => ?_) (fun q => ?_)
        | refine c_refuseWord hW hX ?_ (fun q => ?_) (fun q => ?_) (fun q => ?_)
        | refine c_has hL ?_ ?_ (fun q => ?_) (fun q => ?_)
        | refine c_isMissing hL ?_ (fun q => ?_) (fun q => ?_)
        | refine c_reaches hL ?_ ?_ (fun q => ?_) (fun q => ?_)
        | refine c_has hL2 ?_ ?_ (fun q => ?_) (fun q => ?_)
        | refine c_isMissing hL2 ?_ (fun q => ?_) (fun q => ?_)
        | refine c_reaches hL2 ?_ ?_ (fun q => ?_) (fun q => ?_)
        | refine c_is hWd ?_ ?_ (fun q => ?_) (fun q => ?_)
        | refine c_markOf hWd ?_ (fun q => ?_) (fun q => ?_)
        | with_reducible refine ⟨?_, ?_⟩
        | with_reducible intro q
    · repeat' first
        | omega
        | exact py_rf hY _
        | exact py_fnd hY _ (by decide) (by decide)
        | refine m_isRow ?_ (fun q => ?_) (fun q => ?_)
        | refine m_isText ?_ (fun q => ?_) (fun q => ?_)
        | refine m_isWord ?_ (fun q => ?_) (fun q => ?_)
        | refine m_in ?_ ?_ ?_ (fun q => ?_) (fun q => ?_)
        | refine m_meets (by decide) ?_
        | refine m_needWord hW hY ?_ ?_ (fun q => ?_) (fun q => ?_) (fun q => ?_)
        | refine m_needTwo hW hY ?_ ?_ ?_ (fun q => ?_) (fun q => ?_) (fun q => ?_)
        | refine m_isThere ?_ ?_ ?_ (fun q => ?_) (fun q => ?_)
        | refine m_at0 ?_ ?_ ?_
        | refine m_rowAt ?_ ?_ ?_
        | refine m_markOf ?_ ?_ ?_ (fun q => ?_) (fun q => ?_) (fun q => ?_)
        | with_reducible refine ⟨?_, ?_⟩
        | with_reducible intro q
  have w0 : 0 ≤ w := by omega
  have w8 : w < 8 := by omega
  have a0 : 0 ≤ a := by omega
  have a8 : a < 8 := by omega
  obtain ⟨-, v1, v2, v3⟩ := hW.2.2.1 a a0 a8
  have hL := (isW_word a0 a8).l
  by_cases c2 : n < 0
  · refine ⟨-3, fS S 5, hW.fnd 5, fun M hX => eX11_part ?_, fun M hY => eX12_part ?_⟩
    · repeat' first
        | omega
        | exact px_rf hX _
        | exact px_fnd hX _ (by decide) (by decide)
        | refine c_noRow ?_ (fun q => ?_) (fun q => ?_)
        | refine c_noText ?_ (fun q => ?_) (fun q => ?_)
        | refine c_noWord ?_ (fun q => ?_) (fun q => ?_)
        | refine c_noLength ?_ (fun q => ?_) (fun q => ?_)
        | refine c_found (by decide) ?_
        | refine c_refuseRow hW hX ?_ (fun q => ?_) (fun q => ?_) (fun q => ?_)
        | refine c_refusePlace hW hX ?_ ?_ (fun q => ?_) (fun q => ?_) (fun q => ?_) (fun q => ?_)
        | refine c_refuseText hW hX ?_ (fun q => ?_) (fun q => ?_) (fun q => ?_)
        | refine c_refuseWords hW hX ?_ ?_ (fun q => ?_) (fun q => ?_) (fun q => ?_)
        | refine c_refuseWord hW hX ?_ (fun q => ?_) (fun q => ?_) (fun q => ?_)
        | refine c_has hL ?_ ?_ (fun q => ?_) (fun q => ?_)
        | refine c_isMissing hL ?_ (fun q => ?_) (fun q => ?_)
        | refine c_reaches hL ?_ ?_ (fun q => ?_) (fun q => ?_)
        | refine c_has hL2 ?_ ?_ (fun q => ?_) (fun q => ?_)
        | refine c_isMissing hL2 ?_ (fun q => ?_) (fun q => ?_)
        | refine c_reaches hL2 ?_ ?_ (fun q => ?_) (fun q => ?_)
        | refine c_is hWd ?_ ?_ (fun q => ?_) (fun q => ?_)
        | refine c_markOf hWd ?_ (fun q => ?_) (fun q => ?_)
        | with_reducible refine ⟨?_, ?_⟩
        | with_reducible intro q
    · repeat' first
        | omega
        | exact py_rf hY _
        | exact py_fnd hY _ (by decide) (by decide)
        | refine m_isRow ?_ (fun q => ?_) (fun q => ?_)
        | refine m_isText ?_ (fun q => ?_) (fun q => ?_)
        | refine m_isWord ?_ (fun q => ?_) (fun q => ?_)
        | refine m_in ?_ ?_ ?_ (fun q => ?_) (fun q => ?_)
        | refine m_meets (by decide) ?_
        | refine m_needWord hW hY ?_ ?_ (fun q => ?_) (fun q => ?_) (fun q => ?_)
        | refine m_needTwo hW hY ?_ ?_ ?_ (fun q => ?_) (fun q => ?_) (fun q => ?_)
        | refine m_isThere ?_ ?_ ?_ (fun q => ?_) (fun q => ?_)
        | refine m_at0 ?_ ?_ ?_
        | refine m_rowAt ?_ ?_ ?_
        | refine m_markOf ?_ ?_ ?_ (fun q => ?_) (fun q => ?_) (fun q => ?_)
        | with_reducible refine ⟨?_, ?_⟩
        | with_reducible intro q
  by_cases c3 : S (30 + a) (-1) < 0
  · refine ⟨-3, fS S 1, hW.fnd 1, fun M hX => eX11_part ?_, fun M hY => eX12_part ?_⟩
    · have e := (hX.2.2.1 a a0 a8).2.1
      repeat' first
        | omega
        | exact px_rf hX _
        | exact px_fnd hX _ (by decide) (by decide)
        | refine c_noRow ?_ (fun q => ?_) (fun q => ?_)
        | refine c_noText ?_ (fun q => ?_) (fun q => ?_)
        | refine c_noWord ?_ (fun q => ?_) (fun q => ?_)
        | refine c_noLength ?_ (fun q => ?_) (fun q => ?_)
        | refine c_found (by decide) ?_
        | refine c_refuseRow hW hX ?_ (fun q => ?_) (fun q => ?_) (fun q => ?_)
        | refine c_refusePlace hW hX ?_ ?_ (fun q => ?_) (fun q => ?_) (fun q => ?_) (fun q => ?_)
        | refine c_refuseText hW hX ?_ (fun q => ?_) (fun q => ?_) (fun q => ?_)
        | refine c_refuseWords hW hX ?_ ?_ (fun q => ?_) (fun q => ?_) (fun q => ?_)
        | refine c_refuseWord hW hX ?_ (fun q => ?_) (fun q => ?_) (fun q => ?_)
        | refine c_has hL ?_ ?_ (fun q => ?_) (fun q => ?_)
        | refine c_isMissing hL ?_ (fun q => ?_) (fun q => ?_)
        | refine c_reaches hL ?_ ?_ (fun q => ?_) (fun q => ?_)
        | refine c_has hL2 ?_ ?_ (fun q => ?_) (fun q => ?_)
        | refine c_isMissing hL2 ?_ (fun q => ?_) (fun q => ?_)
        | refine c_reaches hL2 ?_ ?_ (fun q => ?_) (fun q => ?_)
        | refine c_is hWd ?_ ?_ (fun q => ?_) (fun q => ?_)
        | refine c_markOf hWd ?_ (fun q => ?_) (fun q => ?_)
        | with_reducible refine ⟨?_, ?_⟩
        | with_reducible intro q
    · have e := (hY.2.2.1 a a0 a8).2.1
      repeat' first
        | omega
        | exact py_rf hY _
        | exact py_fnd hY _ (by decide) (by decide)
        | refine m_isRow ?_ (fun q => ?_) (fun q => ?_)
        | refine m_isText ?_ (fun q => ?_) (fun q => ?_)
        | refine m_isWord ?_ (fun q => ?_) (fun q => ?_)
        | refine m_in ?_ ?_ ?_ (fun q => ?_) (fun q => ?_)
        | refine m_meets (by decide) ?_
        | refine m_needWord hW hY ?_ ?_ (fun q => ?_) (fun q => ?_) (fun q => ?_)
        | refine m_needTwo hW hY ?_ ?_ ?_ (fun q => ?_) (fun q => ?_) (fun q => ?_)
        | refine m_isThere ?_ ?_ ?_ (fun q => ?_) (fun q => ?_)
        | refine m_at0 ?_ ?_ ?_
        | refine m_rowAt ?_ ?_ ?_
        | refine m_markOf ?_ ?_ ?_ (fun q => ?_) (fun q => ?_) (fun q => ?_)
        | with_reducible refine ⟨?_, ?_⟩
        | with_reducible intro q
  by_cases c4 : i < 0 ∨ S (30 + a) (-1) < i + n
  · refine ⟨-3, fS S 2, hW.fnd 2, fun M hX => eX11_part ?_, fun M hY => eX12_part ?_⟩
    · have e := (hX.2.2.1 a a0 a8).2.1
      repeat' first
        | omega
        | exact px_rf hX _
        | exact px_fnd hX _ (by decide) (by decide)
        | refine c_noRow ?_ (fun q => ?_) (fun q => ?_)
        | refine c_noText ?_ (fun q => ?_) (fun q => ?_)
        | refine c_noWord ?_ (fun q => ?_) (fun q => ?_)
        | refine c_noLength ?_ (fun q => ?_) (fun q => ?_)
        | refine c_found (by decide) ?_
        | refine c_refuseRow hW hX ?_ (fun q => ?_) (fun q => ?_) (fun q => ?_)
        | refine c_refusePlace hW hX ?_ ?_ (fun q => ?_) (fun q => ?_) (fun q => ?_) (fun q => ?_)
        | refine c_refuseText hW hX ?_ (fun q => ?_) (fun q => ?_) (fun q => ?_)
        | refine c_refuseWords hW hX ?_ ?_ (fun q => ?_) (fun q => ?_) (fun q => ?_)
        | refine c_refuseWord hW hX ?_ (fun q => ?_) (fun q => ?_) (fun q => ?_)
        | refine c_has hL ?_ ?_ (fun q => ?_) (fun q => ?_)
        | refine c_isMissing hL ?_ (fun q => ?_) (fun q => ?_)
        | refine c_reaches hL ?_ ?_ (fun q => ?_) (fun q => ?_)
        | refine c_has hL2 ?_ ?_ (fun q => ?_) (fun q => ?_)
        | refine c_isMissing hL2 ?_ (fun q => ?_) (fun q => ?_)
        | refine c_reaches hL2 ?_ ?_ (fun q => ?_) (fun q => ?_)
        | refine c_is hWd ?_ ?_ (fun q => ?_) (fun q => ?_)
        | refine c_markOf hWd ?_ (fun q => ?_) (fun q => ?_)
        | with_reducible refine ⟨?_, ?_⟩
        | with_reducible intro q
    · have e := (hY.2.2.1 a a0 a8).2.1
      repeat' first
        | omega
        | exact py_rf hY _
        | exact py_fnd hY _ (by decide) (by decide)
        | refine m_isRow ?_ (fun q => ?_) (fun q => ?_)
        | refine m_isText ?_ (fun q => ?_) (fun q => ?_)
        | refine m_isWord ?_ (fun q => ?_) (fun q => ?_)
        | refine m_in ?_ ?_ ?_ (fun q => ?_) (fun q => ?_)
        | refine m_meets (by decide) ?_
        | refine m_needWord hW hY ?_ ?_ (fun q => ?_) (fun q => ?_) (fun q => ?_)
        | refine m_needTwo hW hY ?_ ?_ ?_ (fun q => ?_) (fun q => ?_) (fun q => ?_)
        | refine m_isThere ?_ ?_ ?_ (fun q => ?_) (fun q => ?_)
        | refine m_at0 ?_ ?_ ?_
        | refine m_rowAt ?_ ?_ ?_
        | refine m_markOf ?_ ?_ ?_ (fun q => ?_) (fun q => ?_) (fun q => ?_)
        | with_reducible refine ⟨?_, ?_⟩
        | with_reducible intro q
  refine ⟨n, setWd S w n (fun k => S (30 + a) (i + k)) 2 a 0, hW.word w0 w8 (by omega) (by omega) (by omega) (fun k k0 k1 => v3 _ (by omega) (by omega)), fun M hX => eX11_part ?_, fun M hY => eX12_part ?_⟩
  · obtain ⟨-, e, e2⟩ := hX.2.2.1 a a0 a8
    repeat' first
      | omega
      | exact px_rf hX _
      | exact px_fnd hX _ (by decide) (by decide)
      | refine c_noRow ?_ (fun q => ?_) (fun q => ?_)
      | refine c_noText ?_ (fun q => ?_) (fun q => ?_)
      | refine c_noWord ?_ (fun q => ?_) (fun q => ?_)
      | refine c_noLength ?_ (fun q => ?_) (fun q => ?_)
      | refine c_found (by decide) ?_
      | refine c_refuseRow hW hX ?_ (fun q => ?_) (fun q => ?_) (fun q => ?_)
      | refine c_refusePlace hW hX ?_ ?_ (fun q => ?_) (fun q => ?_) (fun q => ?_) (fun q => ?_)
      | refine c_refuseText hW hX ?_ (fun q => ?_) (fun q => ?_) (fun q => ?_)
      | refine c_refuseWords hW hX ?_ ?_ (fun q => ?_) (fun q => ?_) (fun q => ?_)
      | refine c_refuseWord hW hX ?_ (fun q => ?_) (fun q => ?_) (fun q => ?_)
      | refine c_has hL ?_ ?_ (fun q => ?_) (fun q => ?_)
      | refine c_isMissing hL ?_ (fun q => ?_) (fun q => ?_)
      | refine c_reaches hL ?_ ?_ (fun q => ?_) (fun q => ?_)
      | refine c_has hL2 ?_ ?_ (fun q => ?_) (fun q => ?_)
      | refine c_isMissing hL2 ?_ (fun q => ?_) (fun q => ?_)
      | refine c_reaches hL2 ?_ ?_ (fun q => ?_) (fun q => ?_)
      | refine c_is hWd ?_ ?_ (fun q => ?_) (fun q => ?_)
      | refine c_markOf hWd ?_ (fun q => ?_) (fun q => ?_)
      | with_reducible refine ⟨?_, ?_⟩
      | with_reducible intro q
    refine c_become (isW_word w0 w8) (m := 80) ⟨by decide, by decide, rfl⟩ (by omega) (by omega) (by omega) ⟨rfl, (hX.setA (by unfold kX; omega)).bcm w0 w8 (by decide) (fun k k0 k1 => ?_), ((frx.rf M).setA (by omega)).bcm w0 w8⟩
    rw [setA_eq]
    unfold cpyf
    rw [if_pos (by omega), show i + (k - 0) = i + k by omega]
    exact e2 _ (by omega) (by omega)
  · obtain ⟨-, e, e2⟩ := hY.2.2.1 a a0 a8
    repeat' first
      | omega
      | exact py_rf hY _
      | exact py_fnd hY _ (by decide) (by decide)
      | refine m_isRow ?_ (fun q => ?_) (fun q => ?_)
      | refine m_isText ?_ (fun q => ?_) (fun q => ?_)
      | refine m_isWord ?_ (fun q => ?_) (fun q => ?_)
      | refine m_in ?_ ?_ ?_ (fun q => ?_) (fun q => ?_)
      | refine m_meets (by decide) ?_
      | refine m_needWord hW hY ?_ ?_ (fun q => ?_) (fun q => ?_) (fun q => ?_)
      | refine m_needTwo hW hY ?_ ?_ ?_ (fun q => ?_) (fun q => ?_) (fun q => ?_)
      | refine m_isThere ?_ ?_ ?_ (fun q => ?_) (fun q => ?_)
      | refine m_at0 ?_ ?_ ?_
      | refine m_rowAt ?_ ?_ ?_
      | refine m_markOf ?_ ?_ ?_ (fun q => ?_) (fun q => ?_) (fun q => ?_)
      | with_reducible refine ⟨?_, ?_⟩
      | with_reducible intro q
    have key : ∀ (m : Nat) (x : Int), 0 ≤ x → x ≤ n → (n - x).toNat = m → wp 0 yX12_part 71 [some (Rv 88), some (Iv w), some (Iv a), some (Iv i), some (Iv n), some (Iv x)] [] (fil M 100 0 x (fun k => S (30 + a) (i + k))) (PY (setWd S w n (fun k => S (30 + a) (i + k)) 2 a 0) (Iv n) M) := by
      intro m
      induction m with
      | zero =>
        intro x x0 x1 xm
        have ex : x = n := by omega
        subst ex
        refine gX12_part_71 ⟨⟨by omega, by omega⟩, ⟨by omega, by omega⟩, fun _ => m_comes w0 w8 (by rw [up_at, if_pos rfl]) x0 (by omega) (py_cms hW hY w0 w8 x0 (by omega)), fun q => absurd q (by omega)⟩
      | succ m ih =>
        intro x x0 x1 xm
        refine gX12_part_71 ⟨⟨by omega, by omega⟩, ⟨by omega, by omega⟩, fun q => absurd q (by omega), fun q => m_at0 (by omega) (by omega) ⟨x0, by omega, ?_⟩⟩
        rw [fil_ne (b := 96) (by decide), e2 (i + x) (by omega) (by omega), fil_s x0 (by omega) rfl]
        exact ih (x + 1) (by omega) (by omega) (by omega)
    have h2 := key _ 0 (by decide) (by omega) rfl
    rw [fil_0] at h2
    exact h2
theorem op_join {S : Mem} (hW : WF S) {w a b : Int} (hw : inr w) (ha : inr a) (hb : inr b) : OpOK S yX11_join yX12_join [Iv w, Iv a, Iv b] Iv := by
  by_cases c1 : (w < 0 ∨ 8 ≤ w) ∨ (a < 0 ∨ 8 ≤ a) ∨ (b < 0 ∨ 8 ≤ b)
  · refine ⟨-1, S, hW, fun M hX => eX11_join ?_, fun M hY => eX12_join ?_⟩
    · repeat' first
        | omega
        | exact px_rf hX _
        | exact px_fnd hX _ (by decide) (by decide)
        | refine c_noRow ?_ (fun q => ?_) (fun q => ?_)
        | refine c_noText ?_ (fun q => ?_) (fun q => ?_)
        | refine c_noWord ?_ (fun q => ?_) (fun q => ?_)
        | refine c_noLength ?_ (fun q => ?_) (fun q => ?_)
        | refine c_found (by decide) ?_
        | refine c_refuseRow hW hX ?_ (fun q => ?_) (fun q => ?_) (fun q => ?_)
        | refine c_refusePlace hW hX ?_ ?_ (fun q => ?_) (fun q => ?_) (fun q => ?_) (fun q => ?_)
        | refine c_refuseText hW hX ?_ (fun q => ?_) (fun q => ?_) (fun q => ?_)
        | refine c_refuseWords hW hX ?_ ?_ (fun q => ?_) (fun q => ?_) (fun q => ?_)
        | refine c_refuseWord hW hX ?_ (fun q => ?_) (fun q => ?_) (fun q => ?_)
        | refine c_has hL ?_ ?_ (fun q => ?_) (fun q => ?_)
        | refine c_isMissing hL ?_ (fun q => ?_) (fun q => ?_)
        | refine c_reaches hL ?_ ?_ (fun q => ?_) (fun q => ?_)
        | refine c_has hL2 ?_ ?_ (fun q => ?_) (fun q => ?_)
        | refine c_isMissing hL2 ?_ (fun q => ?_) (fun q => ?_)
        | refine c_reaches hL2 ?_ ?_ (fun q => ?_) (fun q => ?_)
        | refine c_is hWd ?_ ?_ (fun q => ?_) (fun q => ?_)
        | refine c_markOf hWd ?_ (fun q => ?_) (fun q => ?_)
        | with_reducible refine ⟨?_, ?_⟩
        | with_reducible intro q
    · repeat' first
        | omega
        | exact py_rf hY _
        | exact py_fnd hY _ (by decide) (by decide)
        | refine m_isRow ?_ (fun q => ?_) (fun q => ?_)
        | refine m_isText ?_ (fun q => ?_) (fun q => ?_)
        | refine m_isWord ?_ (fun q => ?_) (fun q => ?_)
        | refine m_in ?_ ?_ ?_ (fun q => ?_) (fun q => ?_)
        | refine m_meets (by decide) ?_
        | refine m_needWord hW hY ?_ ?_ (fun q => ?_) (fun q => ?_) (fun q => ?_)
        | refine m_needTwo hW hY ?_ ?_ ?_ (fun q => ?_) (fun q => ?_) (fun q => ?_)
        | refine m_isThere ?_ ?_ ?_ (fun q => ?_) (fun q => ?_)
        | refine m_at0 ?_ ?_ ?_
        | refine m_rowAt ?_ ?_ ?_
        | refine m_markOf ?_ ?_ ?_ (fun q => ?_) (fun q => ?_) (fun q => ?_)
        | with_reducible refine ⟨?_, ?_⟩
        | with_reducible intro q
  have w0 : 0 ≤ w := by omega
  have w8 : w < 8 := by omega
  have a0 : 0 ≤ a := by omega
  have a8 : a < 8 := by omega
  have b0 : 0 ≤ b := by omega
  have b8 : b < 8 := by omega
  obtain ⟨-, v1, v2, v3⟩ := hW.2.2.1 a a0 a8
  obtain ⟨-, u1, u2, u3⟩ := hW.2.2.1 b b0 b8
  by_cases c3 : S (30 + a) (-1) < 0 ∨ S (30 + b) (-1) < 0
  · refine ⟨-3, fS S 1, hW.fnd 1, fun M hX => eX11_join ?_, fun M hY => eX12_join ?_⟩
    · repeat' first
        | omega
        | exact px_rf hX _
        | exact px_fnd hX _ (by decide) (by decide)
        | refine c_noRow ?_ (fun q => ?_) (fun q => ?_)
        | refine c_noText ?_ (fun q => ?_) (fun q => ?_)
        | refine c_noWord ?_ (fun q => ?_) (fun q => ?_)
        | refine c_noLength ?_ (fun q => ?_) (fun q => ?_)
        | refine c_found (by decide) ?_
        | refine c_refuseRow hW hX ?_ (fun q => ?_) (fun q => ?_) (fun q => ?_)
        | refine c_refusePlace hW hX ?_ ?_ (fun q => ?_) (fun q => ?_) (fun q => ?_) (fun q => ?_)
        | refine c_refuseText hW hX ?_ (fun q => ?_) (fun q => ?_) (fun q => ?_)
        | refine c_refuseWords hW hX ?_ ?_ (fun q => ?_) (fun q => ?_) (fun q => ?_)
        | refine c_refuseWord hW hX ?_ (fun q => ?_) (fun q => ?_) (fun q => ?_)
        | refine c_has hL ?_ ?_ (fun q => ?_) (fun q => ?_)
        | refine c_isMissing hL ?_ (fun q => ?_) (fun q => ?_)
        | refine c_reaches hL ?_ ?_ (fun q => ?_) (fun q => ?_)
        | refine c_has hL2 ?_ ?_ (fun q => ?_) (fun q => ?_)
        | refine c_isMissing hL2 ?_ (fun q => ?_) (fun q => ?_)
        | refine c_reaches hL2 ?_ ?_ (fun q => ?_) (fun q => ?_)
        | refine c_is hWd ?_ ?_ (fun q => ?_) (fun q => ?_)
        | refine c_markOf hWd ?_ (fun q => ?_) (fun q => ?_)
        | with_reducible refine ⟨?_, ?_⟩
        | with_reducible intro q
    · repeat' first
        | omega
        | exact py_rf hY _
        | exact py_fnd hY _ (by decide) (by decide)
        | refine m_isRow ?_ (fun q => ?_) (fun q => ?_)
        | refine m_isText ?_ (fun q => ?_) (fun q => ?_)
        | refine m_isWord ?_ (fun q => ?_) (fun q => ?_)
        | refine m_in ?_ ?_ ?_ (fun q => ?_) (fun q => ?_)
        | refine m_meets (by decide) ?_
        | refine m_needWord hW hY ?_ ?_ (fun q => ?_) (fun q => ?_) (fun q => ?_)
        | refine m_needTwo hW hY ?_ ?_ ?_ (fun q => ?_) (fun q => ?_) (fun q => ?_)
        | refine m_isThere ?_ ?_ ?_ (fun q => ?_) (fun q => ?_)
        | refine m_at0 ?_ ?_ ?_
        | refine m_rowAt ?_ ?_ ?_
        | refine m_markOf ?_ ?_ ?_ (fun q => ?_) (fun q => ?_) (fun q => ?_)
        | with_reducible refine ⟨?_, ?_⟩
        | with_reducible intro q
  by_cases c4 : 40 < S (30 + a) (-1) + S (30 + b) (-1)
  · refine ⟨-2, S, hW, fun M hX => eX11_join ?_, fun M hY => eX12_join ?_⟩
    · have e := (hX.2.2.1 a a0 a8).2.1
      have e2 := (hX.2.2.1 b b0 b8).2.1
      repeat' first
        | omega
        | exact px_rf hX _
        | exact px_fnd hX _ (by decide) (by decide)
        | refine c_noRow ?_ (fun q => ?_) (fun q => ?_)
        | refine c_noText ?_ (fun q => ?_) (fun q => ?_)
        | refine c_noWord ?_ (fun q => ?_) (fun q => ?_)
        | refine c_noLength ?_ (fun q => ?_) (fun q => ?_)
        | refine c_found (by decide) ?_
        | refine c_refuseRow hW hX ?_ (fun q => ?_) (fun q => ?_) (fun q => ?_)
        | refine c_refusePlace hW hX ?_ ?_ (fun q => ?_) (fun q => ?_) (fun q => ?_) (fun q => ?_)
        | refine c_refuseText hW hX ?_ (fun q => ?_) (fun q => ?_) (fun q => ?_)
        | refine c_refuseWords hW hX ?_ ?_ (fun q => ?_) (fun q => ?_) (fun q => ?_)
        | refine c_refuseWord hW hX ?_ (fun q => ?_) (fun q => ?_) (fun q => ?_)
        | refine c_has hL ?_ ?_ (fun q => ?_) (fun q => ?_)
        | refine c_isMissing hL ?_ (fun q => ?_) (fun q => ?_)
        | refine c_reaches hL ?_ ?_ (fun q => ?_) (fun q => ?_)
        | refine c_has hL2 ?_ ?_ (fun q => ?_) (fun q => ?_)
        | refine c_isMissing hL2 ?_ (fun q => ?_) (fun q => ?_)
        | refine c_reaches hL2 ?_ ?_ (fun q => ?_) (fun q => ?_)
        | refine c_is hWd ?_ ?_ (fun q => ?_) (fun q => ?_)
        | refine c_markOf hWd ?_ (fun q => ?_) (fun q => ?_)
        | with_reducible refine ⟨?_, ?_⟩
        | with_reducible intro q
    · have e := (hY.2.2.1 a a0 a8).2.1
      have e2 := (hY.2.2.1 b b0 b8).2.1
      repeat' first
        | omega
        | exact py_rf hY _
        | exact py_fnd hY _ (by decide) (by decide)
        | refine m_isRow ?_ (fun q => ?_) (fun q => ?_)
        | refine m_isText ?_ (fun q => ?_) (fun q => ?_)
        | refine m_isWord ?_ (fun q => ?_) (fun q => ?_)
        | refine m_in ?_ ?_ ?_ (fun q => ?_) (fun q => ?_)
        | refine m_meets (by decide) ?_
        | refine m_needWord hW hY ?_ ?_ (fun q => ?_) (fun q => ?_) (fun q => ?_)
        | refine m_needTwo hW hY ?_ ?_ ?_ (fun q => ?_) (fun q => ?_) (fun q => ?_)
        | refine m_isThere ?_ ?_ ?_ (fun q => ?_) (fun q => ?_)
        | refine m_at0 ?_ ?_ ?_
        | refine m_rowAt ?_ ?_ ?_
        | refine m_markOf ?_ ?_ ?_ (fun q => ?_) (fun q => ?_) (fun q => ?_)
        | with_reducible refine ⟨?_, ?_⟩
        | with_reducible intro q
  refine ⟨S (30 + a) (-1) + S (30 + b) (-1), setWd S w (S (30 + a) (-1) + S (30 + b) (-1)) (fun k => if k < S (30 + a) (-1) then S (30 + a) k else S (30 + b) (k - S (30 + a) (-1))) 2 a 0, hW.word w0 w8 (by omega) (by omega) (by omega) (fun k k0 k1 => ?_), fun M hX => eX11_join ?_, fun M hY => eX12_join ?_⟩
  · show 0 ≤ (if k < S (30 + a) (-1) then S (30 + a) k else S (30 + b) (k - S (30 + a) (-1))) ∧ (if k < S (30 + a) (-1) then S (30 + a) k else S (30 + b) (k - S (30 + a) (-1))) < S 0 0
    by_cases h : k < S (30 + a) (-1)
    · rw [if_pos h]; exact v3 k k0 h
    · rw [if_neg h]; exact u3 _ (by omega) (by omega)
  · obtain ⟨-, e, e2⟩ := hX.2.2.1 a a0 a8
    obtain ⟨-, e3, e4⟩ := hX.2.2.1 b b0 b8
    have s1 : ∀ f : Int → Int, setA M 6 f (55 + 3 * a + 1) 1 = S (30 + a) (-1) := fun f => by rw [setA_ne (by omega)]; exact e
    have s2 : ∀ f : Int → Int, setA M 6 f (55 + 3 * b + 1) 1 = S (30 + b) (-1) := fun f => by rw [setA_ne (by omega)]; exact e3
    refine c_noWord hw (fun q => ?_) (fun q => ⟨fun _ => c_refuseWords hW hX ha hb (fun q => ?_) (fun q => ?_) (fun q => ⟨by decide, fun _ => ⟨a0, a8, b0, b8, by rw [e, e3]; omega, fun q2 => ⟨by omega, by omega, by omega, by rw [s1]; omega, by rw [s2]; omega, by rw [s2]; omega, by rw [s1, s2]; omega, w0, w8, ?_⟩, fun q2 => ?_⟩, fun q2 => ?_⟩), fun q2 => ?_⟩)
    case refine_1 => omega
    case refine_2 => omega
    case refine_3 => omega
    case refine_5 => omega
    case refine_6 => omega
    case refine_7 => omega
    rw [s1, s2, e, e3]
    refine c_become (isW_word w0 w8) (m := 80) ⟨by decide, by decide, rfl⟩ (by omega) (by omega) (by omega) ⟨rfl, ((hX.setA (by unfold kX; omega)).setA (by unfold kX; omega)).bcm w0 w8 (by decide) (fun k k0 k1 => ?_), (((frx.rf M).setA (by omega)).setA (by omega)).bcm w0 w8⟩
    rw [setA_eq]
    unfold cpyf
    by_cases h : k < S (30 + a) (-1)
    · rw [if_neg (by omega), setA_eq, if_pos (by omega), show (0 : Int) + (k - 0) = k by omega, if_pos h]
      exact e2 k k0 h
    · rw [if_pos (by omega), setA_ne (by omega), show (0 : Int) + (k - S (30 + a) (-1)) = k - S (30 + a) (-1) by omega, if_neg h]
      exact e4 _ (by omega) (by omega)
  · obtain ⟨-, e, e2⟩ := hY.2.2.1 a a0 a8
    obtain ⟨-, e3, e4⟩ := hY.2.2.1 b b0 b8
    repeat' first
      | omega
      | exact py_rf hY _
      | exact py_fnd hY _ (by decide) (by decide)
      | refine m_isRow ?_ (fun q => ?_) (fun q => ?_)
      | refine m_isText ?_ (fun q => ?_) (fun q => ?_)
      | refine m_isWord ?_ (fun q => ?_) (fun q => ?_)
      | refine m_in ?_ ?_ ?_ (fun q => ?_) (fun q => ?_)
      | refine m_meets (by decide) ?_
      | refine m_needWord hW hY ?_ ?_ (fun q => ?_) (fun q => ?_) (fun q => ?_)
      | refine m_needTwo hW hY ?_ ?_ ?_ (fun q => ?_) (fun q => ?_) (fun q => ?_)
      | refine m_isThere ?_ ?_ ?_ (fun q => ?_) (fun q => ?_)
      | refine m_at0 ?_ ?_ ?_
      | refine m_rowAt ?_ ?_ ?_
      | refine m_markOf ?_ ?_ ?_ (fun q => ?_) (fun q => ?_) (fun q => ?_)
      | with_reducible refine ⟨?_, ?_⟩
      | with_reducible intro q
    rw [e, e3]
    have key : ∀ (m : Nat) (x : Int), 0 ≤ x → x ≤ S (30 + a) (-1) + S (30 + b) (-1) → (S (30 + a) (-1) + S (30 + b) (-1) - x).toNat = m → wp 0 yX12_join 48 [some (Rv 88), some (Iv w), some (Iv a), some (Iv b), some (Iv 0), some (Iv (S (30 + a) (-1) + S (30 + b) (-1))), some (Iv x)] [] (fil M 100 0 x (fun k => if k < S (30 + a) (-1) then S (30 + a) k else S (30 + b) (k - S (30 + a) (-1)))) (PY (setWd S w (S (30 + a) (-1) + S (30 + b) (-1)) (fun k => if k < S (30 + a) (-1) then S (30 + a) k else S (30 + b) (k - S (30 + a) (-1))) 2 a 0) (Iv (S (30 + a) (-1) + S (30 + b) (-1))) M) := by
      intro m
      induction m with
      | zero =>
        intro x x0 x1 xm
        have ex : x = S (30 + a) (-1) + S (30 + b) (-1) := by omega
        rw [ex]
        refine gX12_join_48 ⟨⟨by omega, by omega⟩, ⟨by omega, by omega⟩, fun _ => m_comes w0 w8 (by rw [up_at, if_pos rfl]) (by omega) (by omega) (py_cms hW hY w0 w8 (by omega) (by omega)), fun q => absurd q (by omega)⟩
      | succ m ih =>
        intro x x0 x1 xm
        have ea : ∀ f : Int → Int, fil M 100 0 x f 95 a = S (30 + a) (-1) := fun f => by rw [fil_ne (by decide)]; exact e
        refine gX12_join_48 ⟨⟨by omega, by omega⟩, ⟨by omega, by omega⟩, fun q => absurd q (by omega), fun q => ⟨a0, a8, by rw [ea]; omega, fun q2 => ?_, fun q2 => ?_⟩⟩
        · rw [ea] at q2 ⊢
          refine m_at0 (by omega) (by omega) ⟨x0, by omega, ?_⟩
          rw [fil_ne (b := 96) (by decide), e4 (x - S (30 + a) (-1)) (by omega) (by omega), fil_s x0 (by omega) (by rw [if_neg (by omega)])]
          exact ih (x + 1) (by omega) (by omega) (by omega)
        · rw [ea] at q2
          refine m_at0 (by omega) (by omega) ⟨x0, by omega, ?_⟩
          rw [fil_ne (b := 96) (by decide), e2 x x0 q2, fil_s x0 (by omega) (by rw [if_pos q2])]
          exact ih (x + 1) (by omega) (by omega) (by omega)
    have h2 := key _ 0 (by decide) (by omega) rfl
    rw [fil_0] at h2
    exact h2
theorem op_turn {S : Mem} (hW : WF S) {w a h : Int} (hw : inr w) (ha : inr a) (hh : inr h) : OpOK S yX11_turn yX12_turn [Iv w, Iv a, Iv h] Iv := by
  by_cases c1 : (w < 0 ∨ 8 ≤ w) ∨ (a < 0 ∨ 8 ≤ a) ∨ (h < 0 ∨ 1 < h)
  · refine ⟨-1, S, hW, fun M hX => eX11_turn ?_, fun M hY => eX12_turn ?_⟩
    · repeat' first
        | omega
        | exact px_rf hX _
        | exact px_fnd hX _ (by decide) (by decide)
        | refine c_noRow ?_ (fun q => ?_) (fun q => ?_)
        | refine c_noText ?_ (fun q => ?_) (fun q => ?_)
        | refine c_noWord ?_ (fun q => ?_) (fun q => ?_)
        | refine c_noLength ?_ (fun q => ?_) (fun q => ?_)
        | refine c_found (by decide) ?_
        | refine c_refuseRow hW hX ?_ (fun q => ?_) (fun q => ?_) (fun q => ?_)
        | refine c_refusePlace hW hX ?_ ?_ (fun q => ?_) (fun q => ?_) (fun q => ?_) (fun q => ?_)
        | refine c_refuseText hW hX ?_ (fun q => ?_) (fun q => ?_) (fun q => ?_)
        | refine c_refuseWords hW hX ?_ ?_ (fun q => ?_) (fun q => ?_) (fun q => ?_)
        | refine c_refuseWord hW hX ?_ (fun q => ?_) (fun q => ?_) (fun q => ?_)
        | refine c_has hL ?_ ?_ (fun q => ?_) (fun q => ?_)
        | refine c_isMissing hL ?_ (fun q => ?_) (fun q => ?_)
        | refine c_reaches hL ?_ ?_ (fun q => ?_) (fun q => ?_)
        | refine c_has hL2 ?_ ?_ (fun q => ?_) (fun q => ?_)
        | refine c_isMissing hL2 ?_ (fun q => ?_) (fun q => ?_)
        | refine c_reaches hL2 ?_ ?_ (fun q => ?_) (fun q => ?_)
        | refine c_is hWd ?_ ?_ (fun q => ?_) (fun q => ?_)
        | refine c_markOf hWd ?_ (fun q => ?_) (fun q => ?_)
        | with_reducible refine ⟨?_, ?_⟩
        | with_reducible intro q
    · repeat' first
        | omega
        | exact py_rf hY _
        | exact py_fnd hY _ (by decide) (by decide)
        | refine m_isRow ?_ (fun q => ?_) (fun q => ?_)
        | refine m_isText ?_ (fun q => ?_) (fun q => ?_)
        | refine m_isWord ?_ (fun q => ?_) (fun q => ?_)
        | refine m_in ?_ ?_ ?_ (fun q => ?_) (fun q => ?_)
        | refine m_meets (by decide) ?_
        | refine m_needWord hW hY ?_ ?_ (fun q => ?_) (fun q => ?_) (fun q => ?_)
        | refine m_needTwo hW hY ?_ ?_ ?_ (fun q => ?_) (fun q => ?_) (fun q => ?_)
        | refine m_isThere ?_ ?_ ?_ (fun q => ?_) (fun q => ?_)
        | refine m_at0 ?_ ?_ ?_
        | refine m_rowAt ?_ ?_ ?_
        | refine m_markOf ?_ ?_ ?_ (fun q => ?_) (fun q => ?_) (fun q => ?_)
        | with_reducible refine ⟨?_, ?_⟩
        | with_reducible intro q
  have w0 : 0 ≤ w := by omega
  have w8 : w < 8 := by omega
  have a0 : 0 ≤ a := by omega
  have a8 : a < 8 := by omega
  obtain ⟨-, v1, v2, v3⟩ := hW.2.2.1 a a0 a8
  have hk1 := hW.2.2.2.1
  have hk6 := hW.2.2.2.2
  by_cases c3 : S (30 + a) (-1) < 0
  · refine ⟨-3, fS S 1, hW.fnd 1, fun M hX => eX11_turn ?_, fun M hY => eX12_turn ?_⟩
    · repeat' first
        | omega
        | exact px_rf hX _
        | exact px_fnd hX _ (by decide) (by decide)
        | refine c_noRow ?_ (fun q => ?_) (fun q => ?_)
        | refine c_noText ?_ (fun q => ?_) (fun q => ?_)
        | refine c_noWord ?_ (fun q => ?_) (fun q => ?_)
        | refine c_noLength ?_ (fun q => ?_) (fun q => ?_)
        | refine c_found (by decide) ?_
        | refine c_refuseRow hW hX ?_ (fun q => ?_) (fun q => ?_) (fun q => ?_)
        | refine c_refusePlace hW hX ?_ ?_ (fun q => ?_) (fun q => ?_) (fun q => ?_) (fun q => ?_)
        | refine c_refuseText hW hX ?_ (fun q => ?_) (fun q => ?_) (fun q => ?_)
        | refine c_refuseWords hW hX ?_ ?_ (fun q => ?_) (fun q => ?_) (fun q => ?_)
        | refine c_refuseWord hW hX ?_ (fun q => ?_) (fun q => ?_) (fun q => ?_)
        | refine c_has hL ?_ ?_ (fun q => ?_) (fun q => ?_)
        | refine c_isMissing hL ?_ (fun q => ?_) (fun q => ?_)
        | refine c_reaches hL ?_ ?_ (fun q => ?_) (fun q => ?_)
        | refine c_has hL2 ?_ ?_ (fun q => ?_) (fun q => ?_)
        | refine c_isMissing hL2 ?_ (fun q => ?_) (fun q => ?_)
        | refine c_reaches hL2 ?_ ?_ (fun q => ?_) (fun q => ?_)
        | refine c_is hWd ?_ ?_ (fun q => ?_) (fun q => ?_)
        | refine c_markOf hWd ?_ (fun q => ?_) (fun q => ?_)
        | with_reducible refine ⟨?_, ?_⟩
        | with_reducible intro q
    · repeat' first
        | omega
        | exact py_rf hY _
        | exact py_fnd hY _ (by decide) (by decide)
        | refine m_isRow ?_ (fun q => ?_) (fun q => ?_)
        | refine m_isText ?_ (fun q => ?_) (fun q => ?_)
        | refine m_isWord ?_ (fun q => ?_) (fun q => ?_)
        | refine m_in ?_ ?_ ?_ (fun q => ?_) (fun q => ?_)
        | refine m_meets (by decide) ?_
        | refine m_needWord hW hY ?_ ?_ (fun q => ?_) (fun q => ?_) (fun q => ?_)
        | refine m_needTwo hW hY ?_ ?_ ?_ (fun q => ?_) (fun q => ?_) (fun q => ?_)
        | refine m_isThere ?_ ?_ ?_ (fun q => ?_) (fun q => ?_)
        | refine m_at0 ?_ ?_ ?_
        | refine m_rowAt ?_ ?_ ?_
        | refine m_markOf ?_ ?_ ?_ (fun q => ?_) (fun q => ?_) (fun q => ?_)
        | with_reducible refine ⟨?_, ?_⟩
        | with_reducible intro q
  obtain ⟨f, hf⟩ : ∃ f : Int → Int, f = fun k => if h = 0 then S (30 + a) (S (30 + a) (-1) - 1 - k) else S 0 0 - 1 - S (30 + a) k := ⟨_, rfl⟩
  refine ⟨S (30 + a) (-1), setWd S w (S (30 + a) (-1)) f 3 a h, hW.word w0 w8 (by omega) (by omega) (by omega) (fun k k0 k1 => ?_), fun M hX => eX11_turn ?_, fun M hY => eX12_turn ?_⟩
  · rw [hf]
    show 0 ≤ (if h = 0 then S (30 + a) (S (30 + a) (-1) - 1 - k) else S 0 0 - 1 - S (30 + a) k) ∧ (if h = 0 then S (30 + a) (S (30 + a) (-1) - 1 - k) else S 0 0 - 1 - S (30 + a) k) < S 0 0
    by_cases q : h = 0
    · rw [if_pos q]; exact v3 _ (by omega) (by omega)
    · rw [if_neg q]; have := v3 k k0 k1; omega
  · obtain ⟨-, e, e2⟩ := hX.2.2.1 a a0 a8
    repeat' first
      | omega
      | exact px_rf hX _
      | exact px_fnd hX _ (by decide) (by decide)
      | refine c_noRow ?_ (fun q => ?_) (fun q => ?_)
      | refine c_noText ?_ (fun q => ?_) (fun q => ?_)
      | refine c_noWord ?_ (fun q => ?_) (fun q => ?_)
      | refine c_noLength ?_ (fun q => ?_) (fun q => ?_)
      | refine c_found (by decide) ?_
      | refine c_refuseRow hW hX ?_ (fun q => ?_) (fun q => ?_) (fun q => ?_)
      | refine c_refusePlace hW hX ?_ ?_ (fun q => ?_) (fun q => ?_) (fun q => ?_) (fun q => ?_)
      | refine c_refuseText hW hX ?_ (fun q => ?_) (fun q => ?_) (fun q => ?_)
      | refine c_refuseWords hW hX ?_ ?_ (fun q => ?_) (fun q => ?_) (fun q => ?_)
      | refine c_refuseWord hW hX ?_ (fun q => ?_) (fun q => ?_) (fun q => ?_)
      | refine c_has hL ?_ ?_ (fun q => ?_) (fun q => ?_)
      | refine c_isMissing hL ?_ (fun q => ?_) (fun q => ?_)
      | refine c_reaches hL ?_ ?_ (fun q => ?_) (fun q => ?_)
      | refine c_has hL2 ?_ ?_ (fun q => ?_) (fun q => ?_)
      | refine c_isMissing hL2 ?_ (fun q => ?_) (fun q => ?_)
      | refine c_reaches hL2 ?_ ?_ (fun q => ?_) (fun q => ?_)
      | refine c_is hWd ?_ ?_ (fun q => ?_) (fun q => ?_)
      | refine c_markOf hWd ?_ (fun q => ?_) (fun q => ?_)
      | with_reducible refine ⟨?_, ?_⟩
      | with_reducible intro q
    have key : ∀ (m : Nat) (x : Int), 0 ≤ x → x ≤ S (30 + a) (-1) → (S (30 + a) (-1) - x).toNat = m → wp 0 yX11_turn 47 [some (Rv 1), some (Iv w), some (Iv a), some (Iv h), some (Iv 0), some (Rv (55 + 3 * a + 1)), some (Iv x)] [] (fil M 6 0 x f) (PX (setWd S w (S (30 + a) (-1)) f 3 a h) (Iv (S (30 + a) (-1))) M) := by
      intro m
      induction m with
      | zero =>
        intro x x0 x1 xm
        have ex : x = S (30 + a) (-1) := by omega
        rw [ex]
        have ea : fil M 6 0 (S (30 + a) (-1)) f (55 + 3 * a + 1) 1 = S (30 + a) (-1) := by rw [fil_ne (by omega)]; exact e
        refine gX11_turn_47 (isW_word a0 a8).l ⟨⟨by omega, by omega⟩, by rw [ea]; omega, fun _ => ⟨w0, w8, ?_⟩, fun q => absurd q (by omega)⟩
        rw [ea]
        exact c_become (isW_word w0 w8) (m := 80) ⟨by decide, by decide, rfl⟩ (by omega) (by omega) (by omega) ⟨rfl, X.bcm (hX.setA (by unfold kX; omega)) w0 w8 (by decide) (fun k k0 k1 => fil_z k0 k1), ((frx.rf M).setA (by omega)).bcm w0 w8⟩
      | succ m ih =>
        intro x x0 x1 xm
        have ea : fil M 6 0 x f (55 + 3 * a + 1) 1 = S (30 + a) (-1) := by rw [fil_ne (by omega)]; exact e
        refine gX11_turn_47 (isW_word a0 a8).l ⟨⟨by omega, by omega⟩, by rw [ea]; omega, fun q => absurd q (by omega), fun q => ⟨hh, fun q2 => ⟨x0, by omega, by omega, ?_⟩, fun q2 => ⟨by omega, by omega, x0, by omega, ?_⟩⟩⟩
        · rw [fil_ne (b := 1) (by decide), fil_ne (b := 55 + 3 * a + 1 + 1) (by omega), e2 x x0 (by omega), hX.2.2.2.1.1, fil_s x0 (by omega) (by rw [hf]; exact (if_neg q2).symm)]
          exact ih (x + 1) (by omega) (by omega) (by omega)
        · rw [ea, fil_ne (b := 55 + 3 * a + 1 + 1) (by omega), e2 _ (by omega) (by omega), fil_s x0 (by omega) (by rw [hf]; exact (if_pos q2).symm)]
          exact ih (x + 1) (by omega) (by omega) (by omega)
    have h2 := key _ 0 (by decide) (by omega) rfl
    rw [fil_0] at h2
    exact h2
  · obtain ⟨-, e, e2⟩ := hY.2.2.1 a a0 a8
    repeat' first
      | omega
      | exact py_rf hY _
      | exact py_fnd hY _ (by decide) (by decide)
      | refine m_isRow ?_ (fun q => ?_) (fun q => ?_)
      | refine m_isText ?_ (fun q => ?_) (fun q => ?_)
      | refine m_isWord ?_ (fun q => ?_) (fun q => ?_)
      | refine m_in ?_ ?_ ?_ (fun q => ?_) (fun q => ?_)
      | refine m_meets (by decide) ?_
      | refine m_needWord hW hY ?_ ?_ (fun q => ?_) (fun q => ?_) (fun q => ?_)
      | refine m_needTwo hW hY ?_ ?_ ?_ (fun q => ?_) (fun q => ?_) (fun q => ?_)
      | refine m_isThere ?_ ?_ ?_ (fun q => ?_) (fun q => ?_)
      | refine m_at0 ?_ ?_ ?_
      | refine m_rowAt ?_ ?_ ?_
      | refine m_markOf ?_ ?_ ?_ (fun q => ?_) (fun q => ?_) (fun q => ?_)
      | with_reducible refine ⟨?_, ?_⟩
      | with_reducible intro q
    rw [e]
    have key : ∀ (m : Nat) (x : Int), 0 ≤ x → x ≤ S (30 + a) (-1) → (S (30 + a) (-1) - x).toNat = m → wp 0 yX12_turn 49 [some (Rv 88), some (Iv w), some (Iv a), some (Iv h), some (Iv 0), some (Iv x)] [] (fil (up M 88 17 (S (30 + a) (-1))) 100 0 x f) (PY (setWd S w (S (30 + a) (-1)) f 3 a h) (Iv (S (30 + a) (-1))) M) := by
      intro m
      induction m with
      | zero =>
        intro x x0 x1 xm
        have ex : x = S (30 + a) (-1) := by omega
        rw [ex]
        have ea : fil (up M 88 17 (S (30 + a) (-1))) 100 0 (S (30 + a) (-1)) f 88 17 = S (30 + a) (-1) := by rw [fil_ne (by decide), up_at, if_pos rfl]
        refine gX12_turn_49 ⟨⟨by omega, by omega⟩, by rw [ea]; omega, fun _ => m_comes w0 w8 ea (by omega) (by omega) ⟨rfl, Y.cms hW ((hY.up (by unfold kY; omega) (by omega)).fil (by unfold kY; omega) (by decide)) w0 w8 ea (by omega) (by omega) (fun k k0 k1 => fil_z k0 k1), (((fry.rf M).up (by decide)).fil (by decide)).cms⟩, fun q => absurd q (by omega)⟩
      | succ m ih =>
        intro x x0 x1 xm
        have ea : fil (up M 88 17 (S (30 + a) (-1))) 100 0 x f 88 17 = S (30 + a) (-1) := by rw [fil_ne (by decide), up_at, if_pos rfl]
        have eb : fil (up M 88 17 (S (30 + a) (-1))) 100 0 x f 96 = M 96 := by rw [fil_ne (by decide), up_ne (by decide)]
        have ec : fil (up M 88 17 (S (30 + a) (-1))) 100 0 x f 88 11 = S 0 0 := by rw [fil_ne (by decide), up_at, if_neg (by decide)]; exact hY.2.2.2.1.1
        refine gX12_turn_49 ⟨⟨by omega, by omega⟩, by rw [ea]; omega, fun q => absurd q (by omega), fun q => ⟨hh, fun q2 => m_at0 (by omega) (by omega) ⟨x0, by omega, ?_⟩, fun q2 => m_at0 (by rw [ea]; omega) (by rw [ea]; omega) ⟨x0, by omega, ?_⟩⟩⟩
        · rw [ec, eb, e2 x x0 (by omega), fil_s x0 (by omega) (by rw [hf]; exact (if_neg q2).symm)]
          exact ih (x + 1) (by omega) (by omega) (by omega)
        · rw [ea, eb, e2 _ (by omega) (by omega), fil_s x0 (by omega) (by rw [hf]; exact (if_pos q2).symm)]
          exact ih (x + 1) (by omega) (by omega) (by omega)
    have h2 := key _ 0 (by decide) (by omega) rfl
    rw [fil_0] at h2
    exact h2
