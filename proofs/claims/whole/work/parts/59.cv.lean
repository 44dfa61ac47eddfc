/-! 37 cover: how long the shortest word is in which all stand, from places on -/
def hdP (L : Int → Int → Int) (N p : Int → Int) (x s : Int) : Prop := p s < N s ∧ L s (p s) = x
def dvv (L : Int → Int → Int) (N p : Int → Int) (x s : Int) : Int := if p s < N s ∧ L s (p s) = x then 1 else 0
def av (L : Int → Int → Int) (N p : Int → Int) (x s : Int) : Int := p s + dvv L N p x s
def anN (L : Int → Int → Int) (N p : Int → Int) (x : Int) : Nat → Bool
  | 0 => false
  | s + 1 => anN L N p x s || decide (p s < N s ∧ L s (p s) = x)
def an5 (L : Int → Int → Int) (N p : Int → Int) (r x : Int) : Bool := anN L N p x r.toNat
def hdE (L : Int → Int → Int) (N p : Int → Int) (r x : Int) : Prop := ∃ s, 0 ≤ s ∧ s < r ∧ p s < N s ∧ L s (p s) = x
theorem an_s {L : Int → Int → Int} {N p : Int → Int} {x s : Int} (h : 0 ≤ s) : an5 L N p (s + 1) x = (an5 L N p s x || decide (p s < N s ∧ L s (p s) = x)) := by
  unfold an5
  rw [show (s + 1).toNat = s.toNat + 1 by omega]
  show (anN L N p x s.toNat || decide (p (s.toNat : Int) < N (s.toNat : Int) ∧ L (s.toNat : Int) (p (s.toNat : Int)) = x)) = _
  rw [show ((s.toNat : Nat) : Int) = s by omega]
theorem an_iff {L : Int → Int → Int} {N p : Int → Int} {r x : Int} (r0 : 0 ≤ r) : an5 L N p r x = true ↔ hdE L N p r x := by
  refine dn_ind (P := fun r => an5 L N p r x = true ↔ hdE L N p r x) (a := 0) (n := r) r0 ⟨fun h => absurd h (by show ¬ false = true; decide), fun ⟨s, s0, s1, _⟩ => absurd s1 (by omega)⟩ (fun y y0 y1 ih => ?_)
  have e := an_s (L := L) (N := N) (p := p) (x := x) (show 0 ≤ y - 1 by omega)
  rw [show y - 1 + 1 = y by omega] at e
  rw [e, Bool.or_eq_true, ih]
  refine ⟨fun h => ?_, fun ⟨s, s0, s1, h1, h2⟩ => ?_⟩
  · rcases h with ⟨s, s0, s1, h1, h2⟩ | h
    · exact ⟨s, s0, by omega, h1, h2⟩
    · have := of_decide_eq_true h
      exact ⟨y - 1, by omega, by omega, this.1, this.2⟩
  · by_cases c : s = y - 1
    · rw [c] at h1 h2
      exact Or.inr (decide_eq_true ⟨h1, h2⟩)
    · exact Or.inl ⟨s, s0, by omega, h1, h2⟩
theorem av_v {L : Int → Int → Int} {N p : Int → Int} {r x : Int} (v : vld N p r) : vld N (av L N p x) r ∧ (∀ s, p s ≤ av L N p x s) ∧ vld N (dvv L N p x) r := by
  refine ⟨fun s s0 s1 => ?_, fun s => ?_, fun s s0 s1 => ?_⟩
  · have := v s s0 s1
    unfold av dvv
    split <;> omega
  · unfold av dvv
    split <;> omega
  · have := v s s0 s1
    unfold dvv
    split <;> omega
theorem av_cg {L : Int → Int → Int} {N p q : Int → Int} {x s : Int} (h : p s = q s) : av L N p x s = av L N q x s := by
  unfold av dvv
  rw [h]
theorem an_cg {L : Int → Int → Int} {N p q : Int → Int} {r x : Int} (r0 : 0 ≤ r) (h : ∀ s, 0 ≤ s → s < r → p s = q s) : an5 L N p r x = an5 L N q r x := by
  rw [Bool.eq_iff_iff, an_iff r0, an_iff r0]
  exact ⟨fun ⟨s, s0, s1, h1, h2⟩ => ⟨s, s0, s1, by rw [← h s s0 s1]; exact h1, by rw [← h s s0 s1]; exact h2⟩, fun ⟨s, s0, s1, h1, h2⟩ => ⟨s, s0, s1, by rw [h s s0 s1]; exact h1, by rw [h s s0 s1]; exact h2⟩⟩
theorem sm_le {f g : Int → Int} : ∀ n : Nat, (∀ i, 0 ≤ i → i < (n : Int) → f i ≤ g i) → sm f n ≤ sm g n := by
  intro n
  induction n with
  | zero => intro _; exact Int.le_refl _
  | succ n ih =>
    intro h
    rw [show ((n + 1 : Nat) : Int) = (n : Int) + 1 by omega, sm_s (by omega), sm_s (by omega)]
    have a := ih (fun i i0 i1 => h i i0 (by omega))
    have b := h n (by omega) (by omega)
    omega
def rmn (N p : Int → Int) (r : Int) : Int := sm (fun s => N s - p s) r
theorem rmn_b {N p : Int → Int} {r : Int} (h : nnn N r) (v : vld N p r) (r0 : 0 ≤ r) (r4 : r ≤ 4) : 0 ≤ rmn N p r ∧ rmn N p r ≤ 160 := by
  have := sm_bd (f := fun s => N s - p s) (lo := 0) (hi := 40) (n := r.toNat) (fun i i0 i1 => by
    have a := v i i0 (by omega)
    have b := h i i0 (by omega)
    omega)
  rw [show ((r.toNat : Nat) : Int) = r by omega] at this
  unfold rmn
  omega
theorem rmn_lt {L : Int → Int → Int} {N p : Int → Int} {r x : Int} (r0 : 0 ≤ r) (h : an5 L N p r x = true) : rmn N (av L N p x) r < rmn N p r := by
  obtain ⟨s, s0, s1, h1, h2⟩ := (an_iff r0).1 h
  have a := sm_one (f := gup (fun t => N t - av L N p x t) s (N s - p s)) (g := fun t => N t - av L N p x t) (c := s) s0 (fun y hy => gup_n hy) r.toNat
  have b := sm_le (f := gup (fun t => N t - av L N p x t) s (N s - p s)) (g := fun t => N t - p t) r.toNat (fun i i0 i1 => by
    by_cases c : i = s
    · rw [gup_e c, c]; exact Int.le_refl _
    · rw [gup_n c]
      have : p i ≤ av L N p x i := by unfold av dvv; split <;> omega
      omega)
  have e : av L N p x s = p s + 1 := by unfold av dvv; rw [if_pos ⟨h1, h2⟩]
  rw [show ((r.toNat : Nat) : Int) = r by omega] at a b
  rw [if_pos s1, gup_e rfl, e] at a
  unfold rmn
  omega
theorem mnI_cg {a : Int} {g h : Int → Int} {n : Int} (n0 : 0 ≤ n) (e : ∀ c, 0 ≤ c → c < n → g c = h c) : mnI a g n = mnI a h n := mnN_cg (n := n.toNat) (fun p p0 p1 => e p p0 (by omega)) n.toNat (Nat.le_refl _)
theorem mn_sp {a : Int} {g : Int → Int} {n : Int} (n0 : 0 ≤ n) : mnI a g n ≤ a ∧ (mnI a g n = a ∨ lsE g n (mnI a g n)) ∧ ∀ c, 0 ≤ c → c < n → mnI a g n ≤ g c := by
  refine dn_ind (P := fun n => mnI a g n ≤ a ∧ (mnI a g n = a ∨ lsE g n (mnI a g n)) ∧ ∀ c, 0 ≤ c → c < n → mnI a g n ≤ g c) (a := 0) (n := n) n0 ⟨Int.le_refl a, Or.inl rfl, fun c c0 c1 => absurd c1 (by omega)⟩ (fun y y0 y1 ih => ?_)
  have e := mnI_s (a := a) (g := g) (show 0 ≤ y - 1 by omega)
  rw [show y - 1 + 1 = y by omega] at e
  obtain ⟨i0, i1, i2⟩ := ih
  by_cases q : g (y - 1) < mnI a g (y - 1)
  · rw [if_pos q] at e
    rw [e]
    refine ⟨by omega, Or.inr ⟨y - 1, by omega, by omega, rfl⟩, fun c c0 c1 => ?_⟩
    by_cases c5 : c = y - 1
    · rw [c5]; exact Int.le_refl _
    · have := i2 c c0 (by omega)
      omega
  · rw [if_neg q] at e
    rw [e]
    refine ⟨i0, ?_, fun c c0 c1 => ?_⟩
    · rcases i1 with h | ⟨c, c0, c1, hc⟩
      · exact Or.inl h
      · exact Or.inr ⟨c, c0, by omega, hc⟩
    · by_cases c5 : c = y - 1
      · rw [c5]; omega
      · exact i2 c c0 (by omega)
theorem mn_tl {a : Int} {g : Int → Int} {m n : Int} (m0 : 0 ≤ m) (mn : m ≤ n) (h : ∀ c, m ≤ c → c < n → a ≤ g c) : mnI a g n = mnI a g m := by
  refine dn_ind (P := fun n => (∀ c, m ≤ c → c < n → a ≤ g c) → mnI a g n = mnI a g m) (a := m) (n := n) mn (fun _ => rfl) (fun y y0 y1 ih h => ?_) h
  have e := mnI_s (a := a) (g := g) (show 0 ≤ y - 1 by omega)
  rw [show y - 1 + 1 = y by omega] at e
  have := (mn_sp (a := a) (g := g) (n := y - 1) (by omega)).1
  have := h (y - 1) (by omega) (by omega)
  rw [e, if_neg (by omega)]
  exact ih (fun c c0 c1 => h c c0 (by omega))
def cvI (N p : Int → Int) (r : Int) : Int := if cd N p r = st N r - 1 then 0 else 1000
def cvD (L : Int → Int → Int) (N : Int → Int) (r : Int) (f : (Int → Int) → Int) (p : Int → Int) (x : Int) : Int := if an5 L N p r x = true then f (av L N p x) + 1 else 1000
def cvN (L : Int → Int → Int) (N : Int → Int) (r : Int) : Nat → (Int → Int) → Int
  | 0, _ => 0
  | f + 1, p => mnI (cvI N p r) (cvD L N r (cvN L N r f) p) 6
def cvr (L : Int → Int → Int) (N : Int → Int) (r : Int) (p : Int → Int) : Int := cvN L N r 200 p
theorem cvN_cg {L : Int → Int → Int} {N : Int → Int} {r : Int} (r0 : 0 ≤ r) : ∀ (f : Nat) (p q : Int → Int), (∀ s, 0 ≤ s → s < r → p s = q s) → cvN L N r f p = cvN L N r f q := by
  intro f
  induction f with
  | zero => intro p q _; rfl
  | succ f ih =>
    intro p q h
    have ec : cvI N p r = cvI N q r := by unfold cvI; rw [cd_cg r0 h]
    show mnI (cvI N p r) (cvD L N r (cvN L N r f) p) 6 = mnI (cvI N q r) (cvD L N r (cvN L N r f) q) 6
    rw [ec]
    refine mnI_cg (by decide) (fun c _ _ => ?_)
    unfold cvD
    rw [an_cg r0 h, ih (av L N p c) (av L N q c) (fun s s0 s1 => av_cg (h s s0 s1))]
theorem cv_cg {L : Int → Int → Int} {N p q : Int → Int} {r : Int} (r0 : 0 ≤ r) (h : ∀ s, 0 ≤ s → s < r → p s = q s) : cvr L N r p = cvr L N r q := cvN_cg r0 200 p q h
theorem cvN_f {L : Int → Int → Int} {N : Int → Int} {r k : Int} (h : fam L N r k) : ∀ (f : Nat) (p : Int → Int), vld N p r → rmn N p r + 1 ≤ f → cvN L N r (f + 1) p = cvN L N r f p := by
  have r1 := h.1
  intro f
  induction f with
  | zero => intro p v hf; have := rmn_b h.n v (by omega) h.2.1; exact absurd hf (by omega)
  | succ f ih =>
    intro p v hf
    show mnI (cvI N p r) (cvD L N r (cvN L N r (f + 1)) p) 6 = mnI (cvI N p r) (cvD L N r (cvN L N r f) p) 6
    refine mnI_cg (by decide) (fun c _ _ => ?_)
    unfold cvD
    by_cases q : an5 L N p r c = true
    · have lt := rmn_lt (by omega) q
      rw [if_pos q, if_pos q, ih _ (av_v v).1 (by omega)]
    · rw [if_neg q, if_neg q]
theorem cv_s {L : Int → Int → Int} {N p : Int → Int} {r k : Int} (h : fam L N r k) (v : vld N p r) : cvr L N r p = mnI (cvI N p r) (cvD L N r (cvr L N r) p) 6 := by
  have r1 := h.1
  show mnI (cvI N p r) (cvD L N r (cvN L N r 199) p) 6 = _
  refine mnI_cg (by decide) (fun c _ _ => ?_)
  unfold cvD cvr
  by_cases q : an5 L N p r c = true
  · have lt := rmn_lt (by omega) q
    have rb := rmn_b h.n v (by omega) h.2.1
    rw [if_pos q, if_pos q, cvN_f h 199 _ (av_v v).1 (by omega)]
  · rw [if_neg q, if_neg q]
theorem ed_iff {N p : Int → Int} {r : Int} (h : nnn N r) (r0 : 0 ≤ r) (v : vld N p r) : cd N p r = st N r - 1 ↔ ∀ s, 0 ≤ s → s < r → p s = N s := by
  rw [← cd_end r0]
  exact ⟨fun e => cd_inj h v (fun s s0 s1 => ⟨(h s s0 s1).1, Int.le_refl _⟩) r0 (Int.le_refl r) e, fun e => cd_cg r0 e⟩
def acE (N p : Int → Int) (r : Int) : Prop := ∃ s, 0 ≤ s ∧ s < r ∧ p s < N s
theorem ac_ex {N p : Int → Int} {r : Int} (h : nnn N r) (r0 : 0 ≤ r) (v : vld N p r) (e : cd N p r ≠ st N r - 1) : acE N p r := by
  refine Classical.byContradiction (fun q => e ((ed_iff h r0 v).2 (fun s s0 s1 => ?_)))
  have := v s s0 s1
  refine Classical.byContradiction (fun q2 => q ⟨s, s0, s1, by omega⟩)
theorem cv_b {L : Int → Int → Int} {N : Int → Int} {r k : Int} (h : fam L N r k) : ∀ (f : Nat) (p : Int → Int), vld N p r → (rmn N p r).toNat = f → 0 ≤ cvr L N r p ∧ cvr L N r p ≤ rmn N p r := by
  have r1 := h.1
  have k6 := h.k
  intro f
  induction f using Nat.strongRecOn with
  | _ f ih =>
    intro p v hf
    have rb := rmn_b h.n v (by omega) h.2.1
    have sub : ∀ x, an5 L N p r x = true → 0 ≤ cvr L N r (av L N p x) ∧ cvr L N r (av L N p x) ≤ rmn N (av L N p x) r ∧ rmn N (av L N p x) r < rmn N p r := fun x hx => by
      have lt := rmn_lt (by omega) hx
      have rb2 := rmn_b h.n (av_v (L := L) (x := x) v).1 (by omega) h.2.1
      have := ih (rmn N (av L N p x) r).toNat (by omega) (av L N p x) (av_v v).1 rfl
      exact ⟨this.1, this.2, lt⟩
    have sp := mn_sp (a := cvI N p r) (g := cvD L N r (cvr L N r) p) (n := 6) (by decide)
    rw [← cv_s h v] at sp
    have ci : cvI N p r = 0 ∨ cvI N p r = 1000 := by unfold cvI; split <;> omega
    refine ⟨?_, ?_⟩
    · rcases sp.2.1 with q | ⟨x, x0, x1, hx⟩
      · omega
      · by_cases hok : an5 L N p r x = true
        · have d : cvD L N r (cvr L N r) p x = cvr L N r (av L N p x) + 1 := by unfold cvD; rw [if_pos hok]
          have := sub x hok
          omega
        · have d : cvD L N r (cvr L N r) p x = 1000 := by unfold cvD; rw [if_neg hok]
          omega
    · by_cases e : cd N p r = st N r - 1
      · have c0 : cvI N p r = 0 := by unfold cvI; rw [if_pos e]
        have := sp.1
        omega
      · obtain ⟨s, s0, s1, hs⟩ := ac_ex h.n (by omega) v e
        have lb := (h.2.2 s s0 s1).2.2.2.2 (p s) (v s s0 s1).1 hs
        have hok : an5 L N p r (L s (p s)) = true := (an_iff (by omega)).2 ⟨s, s0, s1, hs, rfl⟩
        have d : cvD L N r (cvr L N r) p (L s (p s)) = cvr L N r (av L N p (L s (p s))) + 1 := by unfold cvD; rw [if_pos hok]
        have a := sp.2.2 (L s (p s)) lb.1 (by omega)
        have b := sub _ hok
        omega
theorem cv_bd {L : Int → Int → Int} {N p : Int → Int} {r k : Int} (h : fam L N r k) (v : vld N p r) : 0 ≤ cvr L N r p ∧ cvr L N r p ≤ 160 := by
  have a := cv_b h _ p v rfl
  have b := rmn_b h.n v (by have := h.1; omega) h.2.1
  omega
theorem cv_le {L : Int → Int → Int} {N p : Int → Int} {r k x : Int} (h : fam L N r k) (v : vld N p r) (hx : an5 L N p r x = true) : cvr L N r p ≤ cvr L N r (av L N p x) + 1 ∧ 0 ≤ x ∧ x < k := by
  have r1 := h.1
  have k6 := h.k
  obtain ⟨s, s0, s1, h1, h2⟩ := (an_iff (by omega)).1 hx
  have lb := (h.2.2 s s0 s1).2.2.2.2 (p s) (v s s0 s1).1 h1
  rw [h2] at lb
  have sp := (mn_sp (a := cvI N p r) (g := cvD L N r (cvr L N r) p) (n := 6) (by decide)).2.2 x lb.1 (by omega)
  rw [← cv_s h v] at sp
  have d : cvD L N r (cvr L N r) p x = cvr L N r (av L N p x) + 1 := by unfold cvD; rw [if_pos hx]
  exact ⟨by omega, lb.1, lb.2⟩
theorem cv_ed {L : Int → Int → Int} {N p : Int → Int} {r k : Int} (h : fam L N r k) (v : vld N p r) (e : ∀ s, 0 ≤ s → s < r → p s = N s) : cvr L N r p = 0 := by
  have r1 := h.1
  have sp := (mn_sp (a := cvI N p r) (g := cvD L N r (cvr L N r) p) (n := 6) (by decide)).1
  rw [← cv_s h v] at sp
  have c0 : cvI N p r = 0 := by unfold cvI; rw [if_pos ((ed_iff h.n (by omega) v).2 e)]
  have := cv_bd h v
  omega
def cvE (L : Int → Int → Int) (N : Int → Int) (r : Int) (p : Int → Int) : Prop := ∃ x, 0 ≤ x ∧ x < 6 ∧ an5 L N p r x = true ∧ cvr L N r (av L N p x) + 1 = cvr L N r p
theorem cv_ex {L : Int → Int → Int} {N p : Int → Int} {r k : Int} (h : fam L N r k) (v : vld N p r) (e : ¬ ∀ s, 0 ≤ s → s < r → p s = N s) : cvE L N r p := by
  have r1 := h.1
  have bd := cv_bd h v
  have sp := (mn_sp (a := cvI N p r) (g := cvD L N r (cvr L N r) p) (n := 6) (by decide)).2.1
  rw [← cv_s h v] at sp
  have c0 : cvI N p r = 1000 := by unfold cvI; rw [if_neg (fun q => e ((ed_iff h.n (by omega) v).1 q))]
  rcases sp with q | ⟨x, x0, x1, hx⟩
  · omega
  · by_cases hok : an5 L N p r x = true
    · have d : cvD L N r (cvr L N r) p x = cvr L N r (av L N p x) + 1 := by unfold cvD; rw [if_pos hok]
      exact ⟨x, x0, x1, hok, by omega⟩
    · have d : cvD L N r (cvr L N r) p x = 1000 := by unfold cvD; rw [if_neg hok]
      omega
def cvC (L : Int → Int → Int) (N : Int → Int) (r : Int) (p : Int → Int) : Int := fd (fun c => an5 L N p r c && decide (cvr L N r (av L N p c) + 1 = cvr L N r p)) 0
theorem cvC_sp {L : Int → Int → Int} {N p : Int → Int} {r k : Int} (h : fam L N r k) (v : vld N p r) (hz : cvr L N r p ≠ 0) : 0 ≤ cvC L N r p ∧ cvC L N r p < k ∧ (an5 L N p r (cvC L N r p) = true ∧ cvr L N r (av L N p (cvC L N r p)) + 1 = cvr L N r p) ∧ ∀ x, 0 ≤ x → x < cvC L N r p → ¬ (an5 L N p r x = true ∧ cvr L N r (av L N p x) + 1 = cvr L N r p) := by
  obtain ⟨x, x0, x1, hok, hx⟩ := cv_ex h v (fun e => hz (cv_ed h v e))
  have f := fd_sp (p := fun c => an5 L N p r c && decide (cvr L N r (av L N p c) + 1 = cvr L N r p)) (a := 0) (e := x) x0 x1 (by
    show (an5 L N p r x && decide (cvr L N r (av L N p x) + 1 = cvr L N r p)) = true
    rw [Bool.and_eq_true]
    exact ⟨hok, decide_eq_true hx⟩)
  have g : an5 L N p r (cvC L N r p) = true ∧ cvr L N r (av L N p (cvC L N r p)) + 1 = cvr L N r p := by
    have g0 : (an5 L N p r (cvC L N r p) && decide (cvr L N r (av L N p (cvC L N r p)) + 1 = cvr L N r p)) = true := f.2.2.1
    rw [Bool.and_eq_true] at g0
    exact ⟨g0.1, of_decide_eq_true g0.2⟩
  refine ⟨f.1, (cv_le h v g.1).2.2, g, fun y y0 y1 hy => f.2.2.2 y y0 y1 ?_⟩
  show (an5 L N p r y && decide (cvr L N r (av L N p y) + 1 = cvr L N r p)) = true
  rw [Bool.and_eq_true]
  exact ⟨hy.1, decide_eq_true hy.2⟩
def cvP (L : Int → Int → Int) (N : Int → Int) (r : Int) : Nat → Int → Int
  | 0 => zf
  | t + 1 => av L N (cvP L N r t) (cvC L N r (cvP L N r t))
def cvV (L : Int → Int → Int) (N : Int → Int) (r t : Int) : Int → Int := cvP L N r t.toNat
def cvX (L : Int → Int → Int) (N : Int → Int) (r t : Int) : Int := cvC L N r (cvV L N r t)
theorem cvV_s {L : Int → Int → Int} {N : Int → Int} {r t : Int} (h : 0 ≤ t) : cvV L N r (t + 1) = av L N (cvV L N r t) (cvX L N r t) := by
  unfold cvX cvV
  rw [show (t + 1).toNat = t.toNat + 1 by omega]
  rfl
theorem cv_inv {L : Int → Int → Int} {N : Int → Int} {r k : Int} (h : fam L N r k) : ∀ t : Nat, (t : Int) ≤ cvr L N r zf → vld N (cvV L N r t) r ∧ cvr L N r (cvV L N r t) = cvr L N r zf - t := by
  intro t
  induction t with
  | zero => intro _; exact ⟨zf_vld h, (Int.sub_zero _).symm⟩
  | succ t ih =>
    intro ht
    obtain ⟨v, e⟩ := ih (by omega)
    rw [show ((t + 1 : Nat) : Int) = (t : Int) + 1 by omega, cvV_s (by omega)]
    obtain ⟨s1, s2, s3, s4⟩ := cvC_sp h v (by omega)
    have s3' : an5 L N (cvV L N r t) r (cvX L N r t) = true ∧ cvr L N r (av L N (cvV L N r t) (cvX L N r t)) + 1 = cvr L N r (cvV L N r t) := s3
    exact ⟨(av_v v).1, by omega⟩
theorem en_av {L : Int → Int → Int} {N p : Int → Int} {r x : Int} (r0 : 0 ≤ r) : en N (av L N p x) r = en N p r + en N (dvv L N p x) r := en_add r0 (fun _ _ _ => rfl)
theorem dv_pos {L : Int → Int → Int} {N p : Int → Int} {r k x : Int} (h : fam L N r k) (v : vld N p r) : an5 L N p r x = true ↔ 0 < en N (dvv L N p x) r := by
  have r1 := h.1
  have vd := (av_v (L := L) (x := x) v).2.2
  have eb := en_b h.n vd (show 0 ≤ r by omega) (Int.le_refl r)
  rw [an_iff (by omega)]
  refine ⟨fun ⟨s, s0, s1, h1, h2⟩ => ?_, fun q => ?_⟩
  · by_cases c : 0 < en N (dvv L N p x) r
    · exact c
    · have e0 : en N (dvv L N p x) r = en N zf r := by rw [en_zf (by omega)]; omega
      have := en_inj h.n vd (zf_vld h) (show 0 ≤ r by omega) (Int.le_refl r) e0 s s0 s1
      unfold dvv at this
      rw [if_pos ⟨h1, h2⟩, zf_v] at this
      omega
  · refine Classical.byContradiction (fun q2 => ?_)
    have e0 : en N (dvv L N p x) r = en N zf r := en_cg (by omega) (fun s s0 s1 => by
      unfold dvv
      rw [if_neg (fun q3 => q2 ⟨s, s0, s1, q3.1, q3.2⟩), zf_v])
    rw [en_zf (by omega)] at e0
    omega
