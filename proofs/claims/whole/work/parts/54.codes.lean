/-! 36 common, 37 cover: places in several words, numbered in two ways -/
def stN (N : Int → Int) : Nat → Int
  | 0 => 1
  | s + 1 => stN N s * (N s + 1)
def st (N : Int → Int) (s : Int) : Int := stN N s.toNat
theorem st_0 {N : Int → Int} : st N 0 = 1 := rfl
theorem st_s {N : Int → Int} {s : Int} (h : 0 ≤ s) : st N (s + 1) = st N s * (N s + 1) := by
  unfold st
  rw [show (s + 1).toNat = s.toNat + 1 by omega]
  show stN N s.toNat * (N (s.toNat : Int) + 1) = _
  rw [show (s.toNat : Int) = s by omega]
def vld (N p : Int → Int) (r : Int) : Prop := ∀ s, 0 ≤ s → s < r → 0 ≤ p s ∧ p s ≤ N s
def nnn (N : Int → Int) (r : Int) : Prop := ∀ s, 0 ≤ s → s < r → 0 ≤ N s ∧ N s ≤ 40
theorem st_p {N : Int → Int} {r : Int} (h : nnn N r) {s : Int} (s0 : 0 ≤ s) (s1 : s ≤ r) : 1 ≤ st N s := by
  refine dn_ind (P := fun s => s ≤ r → 1 ≤ st N s) (a := 0) (n := s) s0 (fun _ => Int.le_refl 1) (fun y y0 y1 ih hy => ?_) s1
  have e := st_s (N := N) (show 0 ≤ y - 1 by omega)
  rw [show y - 1 + 1 = y by omega] at e
  have a := ih (by omega)
  have b := h (y - 1) (by omega) (by omega)
  have := mul_b (a := 1) (b := 1) (c := st N (y - 1)) (d := N (y - 1) + 1) (by decide) a (by decide) (by omega)
  omega
theorem st_le {N : Int → Int} {r : Int} (h : nnn N r) {s : Int} (s0 : 0 ≤ s) (s1 : s ≤ r) : st N s ≤ 41 ^ s.toNat := by
  refine dn_ind (P := fun s => s ≤ r → st N s ≤ 41 ^ s.toNat) (a := 0) (n := s) s0 (fun _ => Int.le_refl 1) (fun y y0 y1 ih hy => ?_) s1
  have e := st_s (N := N) (show 0 ≤ y - 1 by omega)
  rw [show y - 1 + 1 = y by omega] at e
  have a := ih (by omega)
  have a1 := st_p h (show 0 ≤ y - 1 by omega) (by omega)
  have b := h (y - 1) (by omega) (by omega)
  have := mul_b (a := st N (y - 1)) (b := N (y - 1) + 1) (c := 41 ^ (y - 1).toNat) (d := 41) (by omega) a (by omega) (by omega)
  rw [e, show y.toNat = (y - 1).toNat + 1 by omega, Int.pow_succ]
  exact this.2
theorem st_b {N : Int → Int} {r : Int} (h : nnn N r) (r4 : r ≤ 4) {s : Int} (s0 : 0 ≤ s) (s1 : s ≤ r) : 1 ≤ st N s ∧ st N s ≤ 2825761 := by
  refine ⟨st_p h s0 s1, Int.le_trans (st_le h s0 s1) ?_⟩
  have e : s = 0 ∨ s = 1 ∨ s = 2 ∨ s = 3 ∨ s = 4 := by omega
  rcases e with rfl | rfl | rfl | rfl | rfl <;> decide
theorem st_mono {N : Int → Int} {r : Int} (h : nnn N r) {s t : Int} (s0 : 0 ≤ s) (st' : s ≤ t) (t1 : t ≤ r) : st N s ≤ st N t := by
  refine dn_ind (P := fun t => t ≤ r → st N s ≤ st N t) (a := s) (n := t) st' (fun _ => Int.le_refl _) (fun y y0 y1 ih hy => ?_) t1
  have e := st_s (N := N) (show 0 ≤ y - 1 by omega)
  rw [show y - 1 + 1 = y by omega] at e
  have a := ih (by omega)
  have a1 := st_p h (show 0 ≤ y - 1 by omega) (by omega)
  have b := h (y - 1) (by omega) (by omega)
  have := mul_b (a := st N (y - 1)) (b := 1) (c := st N (y - 1)) (d := N (y - 1) + 1) (by omega) (Int.le_refl _) (by decide) (by omega)
  rw [Int.mul_one] at this
  omega
/-- the class's number of a vector of places -/
def en (N p : Int → Int) (s : Int) : Int := sm (fun t => p t * st N t) s
theorem en_s {N p : Int → Int} {s : Int} (h : 0 ≤ s) : en N p (s + 1) = en N p s + p s * st N s := sm_s h
theorem en_b {N p : Int → Int} {r : Int} (h : nnn N r) (v : vld N p r) {s : Int} (s0 : 0 ≤ s) (s1 : s ≤ r) : 0 ≤ en N p s ∧ en N p s < st N s := by
  refine dn_ind (P := fun s => s ≤ r → 0 ≤ en N p s ∧ en N p s < st N s) (a := 0) (n := s) s0 (fun _ => ⟨Int.le_refl 0, by show (0 : Int) < 1; decide⟩) (fun y y0 y1 ih hy => ?_) s1
  have e := st_s (N := N) (show 0 ≤ y - 1 by omega)
  have f := en_s (N := N) (p := p) (show 0 ≤ y - 1 by omega)
  rw [show y - 1 + 1 = y by omega] at e f
  have a := ih (by omega)
  have a1 := st_p h (show 0 ≤ y - 1 by omega) (by omega)
  have b := v (y - 1) (by omega) (by omega)
  have m := mul_b (a := p (y - 1)) (b := st N (y - 1)) (c := N (y - 1)) (d := st N (y - 1)) b.1 b.2 (by omega) (Int.le_refl _)
  rw [Int.mul_add, Int.mul_one, Int.mul_comm (st N (y - 1)) (N (y - 1))] at e
  omega
theorem rdx {a b x y R : Int} (a0 : 0 ≤ a) (a1 : a < R) (b0 : 0 ≤ b) (b1 : b < R) (h : a + x * R = b + y * R) : x = y ∧ a = b := by
  have hR : R ≠ 0 := by omega
  have h1 : (a + x * R) / R = x := by rw [Int.add_mul_ediv_right a x hR, Int.ediv_eq_zero_of_lt a0 a1, Int.zero_add]
  have h2 : (b + y * R) / R = y := by rw [Int.add_mul_ediv_right b y hR, Int.ediv_eq_zero_of_lt b0 b1, Int.zero_add]
  have e : x = y := by rw [← h1, ← h2, h]
  subst e
  exact ⟨rfl, by omega⟩
theorem en_inj {N p q : Int → Int} {r : Int} (h : nnn N r) (v : vld N p r) (w : vld N q r) {s : Int} (s0 : 0 ≤ s) (s1 : s ≤ r) (e : en N p s = en N q s) : ∀ t, 0 ≤ t → t < s → p t = q t := by
  refine dn_ind (P := fun s => s ≤ r → en N p s = en N q s → ∀ t, 0 ≤ t → t < s → p t = q t) (a := 0) (n := s) s0 (fun _ _ t t0 t1 => absurd t1 (by omega)) (fun y y0 y1 ih hy e t t0 t1 => ?_) s1 e
  have f := en_s (N := N) (p := p) (show 0 ≤ y - 1 by omega)
  have g := en_s (N := N) (p := q) (show 0 ≤ y - 1 by omega)
  rw [show y - 1 + 1 = y by omega] at f g
  have a := en_b h v (show 0 ≤ y - 1 by omega) (by omega)
  have b := en_b h w (show 0 ≤ y - 1 by omega) (by omega)
  have := rdx a.1 a.2 b.1 b.2 (by rw [← f, ← g]; exact e)
  by_cases c : t = y - 1
  · rw [c]; exact this.1
  · exact ih (by omega) this.2 t t0 (by omega)
theorem en_gup {N p : Int → Int} {r s v : Int} (s0 : 0 ≤ s) (s1 : s < r) : en N (gup p s v) r = en N p r + (v - p s) * st N s := by
  have := sm_one (f := fun t => gup p s v t * st N t) (g := fun t => p t * st N t) (c := s) s0 (fun x hx => by rw [gup_n hx]) r.toNat
  rw [show ((r.toNat : Nat) : Int) = r by omega, if_pos s1, gup_e rfl] at this
  rw [Int.sub_mul]
  exact this
theorem en_add {N p q d : Int → Int} {r : Int} (r0 : 0 ≤ r) (h : ∀ s, 0 ≤ s → s < r → q s = p s + d s) : en N q r = en N p r + en N d r := by
  refine dn_ind (P := fun r => (∀ s, 0 ≤ s → s < r → q s = p s + d s) → en N q r = en N p r + en N d r) (a := 0) (n := r) r0 (fun _ => rfl) (fun y y0 y1 ih h => ?_) h
  have f := en_s (N := N) (p := p) (show 0 ≤ y - 1 by omega)
  have g := en_s (N := N) (p := q) (show 0 ≤ y - 1 by omega)
  have e := en_s (N := N) (p := d) (show 0 ≤ y - 1 by omega)
  rw [show y - 1 + 1 = y by omega] at f g e
  rw [f, g, e, ih (fun s s0 s1 => h s s0 (by omega)), h (y - 1) (by omega) (by omega), Int.add_mul]
  omega
theorem en_cg {N p q : Int → Int} {r : Int} (r0 : 0 ≤ r) (h : ∀ s, 0 ≤ s → s < r → p s = q s) : en N p r = en N q r := sm_cg r0 (fun i i0 i1 => by rw [h i i0 i1])
theorem en_end {N : Int → Int} {r : Int} (r0 : 0 ≤ r) : en N N r = st N r - 1 := by
  refine dn_ind (P := fun r => en N N r = st N r - 1) (a := 0) (n := r) r0 rfl (fun y y0 y1 ih => ?_)
  have e := st_s (N := N) (show 0 ≤ y - 1 by omega)
  have f := en_s (N := N) (p := N) (show 0 ≤ y - 1 by omega)
  rw [show y - 1 + 1 = y by omega] at e f
  rw [Int.mul_add, Int.mul_one, Int.mul_comm (st N (y - 1)) (N (y - 1))] at e
  omega
theorem en_zf {N : Int → Int} {r : Int} (r0 : 0 ≤ r) : en N zf r = 0 := by
  have := sm_zero (f := fun t => zf t * st N t) (fun i => by rw [zf_v, Int.zero_mul]) r.toNat
  rw [show ((r.toNat : Nat) : Int) = r by omega] at this
  exact this
/-- the reference's number -/
def cdN (N p : Int → Int) : Nat → Int
  | 0 => 0
  | s + 1 => cdN N p s * (N s + 1) + p s
def cd (N p : Int → Int) (s : Int) : Int := cdN N p s.toNat
theorem cd_0 {N p : Int → Int} : cd N p 0 = 0 := rfl
theorem cd_s {N p : Int → Int} {s : Int} (h : 0 ≤ s) : cd N p (s + 1) = cd N p s * (N s + 1) + p s := by
  unfold cd
  rw [show (s + 1).toNat = s.toNat + 1 by omega]
  show cdN N p s.toNat * (N (s.toNat : Int) + 1) + p (s.toNat : Int) = _
  rw [show (s.toNat : Int) = s by omega]
theorem cd_b {N p : Int → Int} {r : Int} (h : nnn N r) (v : vld N p r) {s : Int} (s0 : 0 ≤ s) (s1 : s ≤ r) : 0 ≤ cd N p s ∧ cd N p s < st N s := by
  refine dn_ind (P := fun s => s ≤ r → 0 ≤ cd N p s ∧ cd N p s < st N s) (a := 0) (n := s) s0 (fun _ => ⟨Int.le_refl 0, by show (0 : Int) < 1; decide⟩) (fun y y0 y1 ih hy => ?_) s1
  have e := st_s (N := N) (show 0 ≤ y - 1 by omega)
  have f := cd_s (N := N) (p := p) (show 0 ≤ y - 1 by omega)
  rw [show y - 1 + 1 = y by omega] at e f
  have a := ih (by omega)
  have b := v (y - 1) (by omega) (by omega)
  have b2 := h (y - 1) (by omega) (by omega)
  have m := mul_b (a := cd N p (y - 1)) (b := N (y - 1) + 1) (c := st N (y - 1) - 1) (d := N (y - 1) + 1) a.1 (by omega) (by omega) (Int.le_refl _)
  rw [Int.sub_mul, Int.one_mul] at m
  omega
theorem cd_dec {N p : Int → Int} {r : Int} (h : nnn N r) (v : vld N p r) {s : Int} (s0 : 0 ≤ s) (s1 : s < r) : cd N p (s + 1) / (N s + 1) = cd N p s ∧ cd N p (s + 1) % (N s + 1) = p s := by
  have b := v s s0 s1
  have b2 := h s s0 s1
  have hR : N s + 1 ≠ 0 := by omega
  rw [cd_s s0, Int.add_comm (cd N p s * (N s + 1)) (p s)]
  refine ⟨?_, ?_⟩
  · rw [Int.add_mul_ediv_right _ _ hR, Int.ediv_eq_zero_of_lt b.1 (by omega), Int.zero_add]
  · rw [Int.add_mul_emod_self_right, Int.emod_eq_of_lt b.1 (by omega)]
theorem cd_inj {N p q : Int → Int} {r : Int} (h : nnn N r) (v : vld N p r) (w : vld N q r) {s : Int} (s0 : 0 ≤ s) (s1 : s ≤ r) (e : cd N p s = cd N q s) : ∀ t, 0 ≤ t → t < s → p t = q t := by
  refine dn_ind (P := fun s => s ≤ r → cd N p s = cd N q s → ∀ t, 0 ≤ t → t < s → p t = q t) (a := 0) (n := s) s0 (fun _ _ t t0 t1 => absurd t1 (by omega)) (fun y y0 y1 ih hy e t t0 t1 => ?_) s1 e
  have f := cd_dec h v (show 0 ≤ y - 1 by omega) (by omega)
  have g := cd_dec h w (show 0 ≤ y - 1 by omega) (by omega)
  rw [show y - 1 + 1 = y by omega] at f g
  by_cases c : t = y - 1
  · rw [c, ← f.2, ← g.2, e]
  · exact ih (by omega) (by rw [← f.1, ← g.1, e]) t t0 (by omega)
theorem cd_cg {N p q : Int → Int} {s : Int} (s0 : 0 ≤ s) (h : ∀ t, 0 ≤ t → t < s → p t = q t) : cd N p s = cd N q s := by
  refine dn_ind (P := fun s => (∀ t, 0 ≤ t → t < s → p t = q t) → cd N p s = cd N q s) (a := 0) (n := s) s0 (fun _ => rfl) (fun y y0 y1 ih h => ?_) h
  have f := cd_s (N := N) (p := p) (show 0 ≤ y - 1 by omega)
  have g := cd_s (N := N) (p := q) (show 0 ≤ y - 1 by omega)
  rw [show y - 1 + 1 = y by omega] at f g
  rw [f, g, ih (fun t t0 t1 => h t t0 (by omega)), h (y - 1) (by omega) (by omega)]
def cdE (N : Int → Int) (r c : Int) : Prop := ∃ p, vld N p r ∧ cd N p r = c
theorem cd_ex {N : Int → Int} {r : Int} (h : nnn N r) (r0 : 0 ≤ r) {c : Int} (c0 : 0 ≤ c) (c1 : c < st N r) : cdE N r c := by
  refine dn_ind (P := fun s => s ≤ r → ∀ c, 0 ≤ c → c < st N s → cdE N s c) (a := 0) (n := r) r0 (fun _ c c0 c1 => ?_) (fun y y0 y1 ih hy c c0 c1 => ?_) (Int.le_refl r) c c0 c1
  · rw [st_0] at c1
    exact ⟨zf, fun s q1 q2 => absurd q2 (by omega), by rw [cd_0]; omega⟩
  · have e := st_s (N := N) (show 0 ≤ y - 1 by omega)
    rw [show y - 1 + 1 = y by omega] at e
    have b2 := h (y - 1) (by omega) (by omega)
    have hp : 0 < N (y - 1) + 1 := by omega
    obtain ⟨p, v, hc⟩ := ih (by omega) (c / (N (y - 1) + 1)) (Int.ediv_nonneg c0 (by omega)) (Int.ediv_lt_of_lt_mul hp (by rw [← e]; exact c1))
    refine ⟨gup p (y - 1) (c % (N (y - 1) + 1)), fun s q1 q2 => ?_, ?_⟩
    · by_cases cs : s = y - 1
      · rw [gup_e cs, cs]
        have := Int.emod_nonneg c (show N (y - 1) + 1 ≠ 0 by omega)
        have := Int.emod_lt_of_pos c hp
        omega
      · rw [gup_n cs]; exact v s q1 (by omega)
    · have f := cd_s (N := N) (p := gup p (y - 1) (c % (N (y - 1) + 1))) (show 0 ≤ y - 1 by omega)
      rw [show y - 1 + 1 = y by omega] at f
      rw [f, gup_e rfl, cd_cg (q := p) (by omega) (fun t t0 t1 => gup_n (by omega)), hc]
      have := Int.mul_ediv_add_emod c (N (y - 1) + 1)
      rw [Int.mul_comm] at this
      exact this
theorem cd_le {N p q : Int → Int} {r : Int} (h : nnn N r) (v : vld N p r) (r0 : 0 ≤ r) (hl : ∀ s, 0 ≤ s → s < r → p s ≤ q s) : cd N p r ≤ cd N q r := by
  refine dn_ind (P := fun s => s ≤ r → cd N p s ≤ cd N q s) (a := 0) (n := r) r0 (fun _ => Int.le_refl _) (fun y y0 y1 ih hy => ?_) (Int.le_refl r)
  have f := cd_s (N := N) (p := p) (show 0 ≤ y - 1 by omega)
  have g := cd_s (N := N) (p := q) (show 0 ≤ y - 1 by omega)
  rw [show y - 1 + 1 = y by omega] at f g
  have a := ih (by omega)
  have b2 := h (y - 1) (by omega) (by omega)
  have c := cd_b h v (show 0 ≤ y - 1 by omega) (by omega)
  have m := mul_b (a := cd N p (y - 1)) (b := N (y - 1) + 1) (c := cd N q (y - 1)) (d := N (y - 1) + 1) c.1 a (by omega) (Int.le_refl _)
  have := hl (y - 1) (by omega) (by omega)
  omega
theorem cd_lt {N p q : Int → Int} {r s : Int} (h : nnn N r) (v : vld N p r) (w : vld N q r) (r0 : 0 ≤ r) (hl : ∀ s, 0 ≤ s → s < r → p s ≤ q s) (s0 : 0 ≤ s) (s1 : s < r) (hs : p s ≠ q s) : cd N p r < cd N q r := by
  have a := cd_le h v r0 hl
  by_cases c : cd N p r = cd N q r
  · exact absurd (cd_inj h v w r0 (Int.le_refl r) c s s0 s1) hs
  · omega
theorem cd_end {N : Int → Int} {r : Int} (r0 : 0 ≤ r) : cd N N r = st N r - 1 := by
  refine dn_ind (P := fun r => cd N N r = st N r - 1) (a := 0) (n := r) r0 rfl (fun y y0 y1 ih => ?_)
  have e := st_s (N := N) (show 0 ≤ y - 1 by omega)
  have f := cd_s (N := N) (p := N) (show 0 ≤ y - 1 by omega)
  rw [show y - 1 + 1 = y by omega] at e f
  rw [ih, Int.sub_mul, Int.one_mul] at f
  omega
theorem cd_zf {N : Int → Int} {r : Int} (r0 : 0 ≤ r) : cd N zf r = 0 := by
  refine dn_ind (P := fun r => cd N zf r = 0) (a := 0) (n := r) r0 rfl (fun y y0 y1 ih => ?_)
  have f := cd_s (N := N) (p := zf) (show 0 ≤ y - 1 by omega)
  rw [show y - 1 + 1 = y by omega] at f
  rw [f, ih, zf_v, Int.zero_mul]
  rfl
