/-! THE ABSTRACT MEMORY: every cell that the two constructors make has a number (0: the script); a place holds an Int. -/
abbrev Vl : Type := Int ⊕ Int ⊕ Int
abbrev Iv (x : Int) : Vl := Sum.inl x
abbrev Jv (x : Int) : Vl := Sum.inr (Sum.inl x)
abbrev Rv (a : Int) : Vl := Sum.inr (Sum.inr a)
abbrev Mem : Type := Int → Int → Int
/-- base, script's cell, script's length and values, class numbers, array classes -/
abbrev Gx : Type := (Nat × Nat) × (Nat × (Nat → Int32)) × va_G × (Nat → ClassId)
abbrev gB (G : Gx) : Nat := G.1.1
abbrev gb (G : Gx) : Nat := G.1.2
abbrev gL (G : Gx) : Nat := G.2.1.1
abbrev gX (G : Gx) : Nat → Int32 := G.2.1.2
abbrev gD (G : Gx) : va_G := G.2.2.1
abbrev gA (G : Gx) : Nat → ClassId := G.2.2.2
def ra (G : Gx) (a : Int) : Nat := if a = 0 then gb G else gB G + (a.toNat - 1)
def rfv (G : Gx) (a : Int) : Value := if a < 0 then .null else .ref (ra G a)
def cv (G : Gx) (v : Vl) : Value := match v with
  | .inl x => .int (Int32.ofInt x)
  | .inr (.inl x) => .long (Int64.ofInt x)
  | .inr (.inr a) => rfv G a
/-- a place of a type -/
def cf (G : Gx) (t : FieldType) (x : Int) : Value := match t with
  | .long => .long (Int64.ofInt x)
  | .object _ => rfv G x
  | .array _ => rfv G x
  | _ => .int (Int32.ofInt x)
def tg (t : FieldType) (x : Int) : Vl := match t with
  | .long => Jv x
  | .object _ => Rv x
  | .array _ => Rv x
  | _ => Iv x
theorem cv_tg (G : Gx) (t : FieldType) (x : Int) : cv G (tg t x) = cf G t x := by cases t <;> rfl
def aty (c : Nat) : FieldType := match c with
  | 20 => .int
  | 21 => .long
  | 22 => .byte
  | 23 => .boolean
  | 24 => .object RX3
  | _ => .object RX10
abbrev tyL (G : Gx) : List (ClassId × FieldType) := [(gA G 20, .int), (gA G 21, .long), (gA G 22, .byte), (gA G 23, .boolean), (gA G 24, .object RX3), (gA G 25, .object RX10)]
/-- phase 0: both objects stand; phase N > 0: the cells 1 .. N - 1 have been made -/
def cnt (N : Int) (M : Mem) : Nat := if N = 0 then (if M (-1) 0 = 1 then 120 else 119) else N.toNat - 1
def kd (N : Int) (M : Mem) (a : Int) : Nat := if N = 0 then (if a = 120 then (if M (-1) 0 = 1 then 20 else 99) else if 1 ≤ a ∧ a ≤ 119 then (sg a).1 else 99) else (if 1 ≤ a ∧ a < N then (sg a).1 else 99)
def eff (N : Int) (M : Mem) : Mem := fun a k => if N = 0 then (match fok (sg a).1 a k with | some v => v | none => M a k) else M a k
def rd (N : Int) (M : Mem) (c : Nat) (a k : Int) : Int := if N = 0 then (match fok c a k with | some v => v | none => M a k) else M a k
def up (M : Mem) (a k v : Int) : Mem := fun b j => if b = a ∧ j = k then v else M b j
def setA (M : Mem) (a : Int) (f : Int → Int) : Mem := fun b => if b = a then f else M b
def nf (c : Nat) : Nat := (clsL.getD c (RX0, TX0, 0)).2.2
def cellOk (G : Gx) (E : Mem) (a : Int) (cell : Cell) : Prop :=
  ((sg a).1 < 13 ∧ cell.cls = (gD G).1 (sg a).1 ∧ cell.vm = .none ∧ cell.slots.size = nf (sg a).1 ∧ ∀ k : Nat, k < nf (sg a).1 → cell.slots[(gD G).2 (sg a).1 k]? = some (cf G (tyF (sg a).1 k) (E a k))) ∨
  (20 ≤ (sg a).1 ∧ (sg a).1 ≤ 25 ∧ cell = arrV (gA G (sg a).1) (sg a).2 (fun j => cf G (aty (sg a).1) (E a j)))
/-- the script as places of the cell 0; its length at (-2, 0) -/
def SC (G : Gx) (M : Mem) : Prop := (gL G : Int) = M (-2) 0 ∧ ∀ j : Nat, j < gL G → Int32.ofInt (M 0 j) = gX G j
def HR (G : Gx) (N : Int) (M : Mem) (H : Heap) : Prop := H.size = gB G + cnt N M ∧ (∀ k : Nat, k < cnt N M → ∃ cell, H[gB G + k]? = some cell ∧ cellOk G (eff N M) ((k : Int) + 1) cell) ∧ SC G M
theorem kd_spec {N : Int} {M : Mem} {a : Int} {c : Nat} (h : kd N M a = c) (hc : c < 99) : 1 ≤ a ∧ a.toNat - 1 < cnt N M ∧ (sg a).1 = c := by
  unfold kd at h
  unfold cnt
  split at h
  next hN =>
    rw [if_pos hN]
    split at h
    next ha =>
      subst ha
      split at h
      next hm => rw [if_pos hm]; subst h; exact ⟨by decide, by decide, rfl⟩
      next => omega
    next ha =>
      split at h
      next hr => refine ⟨hr.1, ?_, h⟩; split <;> omega
      next => omega
  next hN =>
    rw [if_neg hN]
    split at h
    next hr => exact ⟨hr.1, by omega, h⟩
    next => omega
theorem HR.at {G : Gx} {N : Int} {M : Mem} {H : Heap} (h : HR G N M H) {a : Int} {c : Nat} (hk : kd N M a = c) (hc : c < 99) : ra G a = gB G + (a.toNat - 1) ∧ ∃ cell, H[ra G a]? = some cell ∧ cellOk G (eff N M) a cell := by
  obtain ⟨h1, h2, h3⟩ := kd_spec hk hc
  have e : ra G a = gB G + (a.toNat - 1) := by unfold ra; rw [if_neg (by omega)]
  obtain ⟨cell, q1, q2⟩ := h.2.1 _ h2
  have e2 : ((a.toNat - 1 : Nat) : Int) + 1 = a := by omega
  rw [e2] at q2
  exact ⟨e, cell, by rw [e]; exact q1, q2⟩
theorem cellOk.obj {G : Gx} {E : Mem} {a : Int} {cell : Cell} {c : Nat} (h : cellOk G E a cell) (hs : (sg a).1 = c) (hc : c < 13) : cell.cls = (gD G).1 c ∧ cell.vm = .none ∧ cell.slots.size = nf c ∧ ∀ k : Nat, k < nf c → cell.slots[(gD G).2 c k]? = some (cf G (tyF c k) (E a k)) := by
  subst hs
  rcases h with h | h
  · exact h.2
  · omega
theorem cellOk.arr {G : Gx} {E : Mem} {a : Int} {cell : Cell} {c : Nat} (h : cellOk G E a cell) (hs : (sg a).1 = c) (hc : 20 ≤ c) : cell = arrV (gA G c) (sg a).2 (fun j => cf G (aty c) (E a j)) := by
  subst hs
  rcases h with h | h
  · omega
  · exact h.2.2
theorem eff_rd {N : Int} {M : Mem} {a k : Int} {c : Nat} (hs : (sg a).1 = c) : eff N M a k = rd N M c a k := by
  unfold eff rd
  rw [hs]
theorem eff_up {N : Int} {M : Mem} {a k v : Int} {c : Nat} (hs : (sg a).1 = c) (hf : N = 0 → fok c a k = none) (b j : Int) : eff N (up M a k v) b j = if b = a ∧ j = k then v else eff N M b j := by
  unfold eff up
  by_cases hN : N = 0
  · simp only [hN, if_true]
    by_cases hb : b = a ∧ j = k
    · obtain ⟨rfl, rfl⟩ := hb
      rw [hs, hf hN]
      first | done | simp
    · simp only [hb, if_false]
  · simp only [hN, if_false]
theorem cnt_up {N : Int} {M : Mem} {a k v : Int} (ha : 1 ≤ a) : cnt N (up M a k v) = cnt N M := by
  unfold cnt up
  have : ¬ ((-1 : Int) = a ∧ (0 : Int) = k) := by omega
  rw [if_neg this]
theorem SC.put {G : Gx} {M : Mem} (h : SC G M) {a k v : Int} (ha : 1 ≤ a) : SC G (up M a k v) := by
  have e1 : up M a k v (-2) 0 = M (-2) 0 := if_neg (by omega)
  have e2 : ∀ j, up M a k v 0 j = M 0 j := fun j => if_neg (by omega)
  exact ⟨by rw [e1]; exact h.1, fun j hj => by rw [e2]; exact h.2 j hj⟩
theorem HR.put {G : Gx} {N : Int} {M : Mem} {H H1 : Heap} (h : HR G N M H) {a k v : Int} {c : Nat} (hk : kd N M a = c) (hc : c < 99) (hf : N = 0 → fok c a k = none) {cell : Cell} (h1 : H1[ra G a]? = some cell) (hz : H1.size = H.size) (ho : ∀ q, q ≠ ra G a → H1[q]? = H[q]?) (hcell : cellOk G (eff N (up M a k v)) a cell) : HR G N (up M a k v) H1 := by
  obtain ⟨h3, h4, h5⟩ := kd_spec hk hc
  have e : ra G a = gB G + (a.toNat - 1) := (h.at hk hc).1
  refine ⟨by rw [hz, h.1, cnt_up h3], fun q hq => ?_, h.2.2.put h3⟩
  rw [cnt_up h3] at hq
  by_cases hqa : q = a.toNat - 1
  · subst hqa
    have e2 : ((a.toNat - 1 : Nat) : Int) + 1 = a := by omega
    rw [e2, ← e]
    exact ⟨cell, h1, hcell⟩
  · obtain ⟨cl, q1, q2⟩ := h.2.1 q hq
    refine ⟨cl, by rw [ho _ (by omega)]; exact q1, ?_⟩
    have hne : ¬ ((q : Int) + 1 = a) := by omega
    have heq : ∀ j, eff N (up M a k v) ((q : Int) + 1) j = eff N M ((q : Int) + 1) j := fun j => by
      rw [eff_up h5 hf]
      rw [if_neg (by omega)]
    have heq' : eff N (up M a k v) ((q : Int) + 1) = eff N M ((q : Int) + 1) := funext heq
    unfold cellOk
    rw [heq']
    exact q2
theorem HR.size {G : Gx} {N : Int} {M : Mem} {H : Heap} (h : HR G N M H) : gB G ≤ H.size := by rw [h.1]; exact Nat.le_add_right _ _
