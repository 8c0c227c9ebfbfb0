/-! Words of the functions that a program reads off the bytecode: none where the machine would throw, or where the fuel is out. -/
def gd {α : Type} (b : Bool) (t : Option α) : Option α := if b = true then t else none
theorem gd_at {α : Type} {b : Bool} {t : Option α} {o : α} (h : gd b t = some o) : b = true ∧ t = some o := by
  unfold gd at h
  by_cases hb : b = true
  · rw [if_pos hb] at h; exact ⟨hb, h⟩
  · rw [if_neg hb] at h; cases h
theorem gd_t {α : Type} {b : Bool} {t : Option α} (h : b = true) : gd b t = t := by unfold gd; rw [if_pos h]
def inB (i : Int32) (n : Nat) : Bool := !(decide (i < 0) || decide (n ≤ i.toNatClampNeg))
theorem inB_in {i : Int32} {n : Nat} (h : inB i n = true) : vp_in i n := by
  unfold inB at h
  simp only [Bool.not_eq_true', Bool.or_eq_false_iff, decide_eq_false_iff_not] at h
  exact fun q => q.elim h.1 h.2
theorem inB_of {i : Int32} {n : Nat} (h : vp_in i n) : inB i n = true := by
  unfold inB
  simp only [Bool.not_eq_true', Bool.or_eq_false_iff, decide_eq_false_iff_not]
  exact ⟨fun q => h (Or.inl q), fun q => h (Or.inr q)⟩
def bnd {α β : Type} (a : α) (f : α → Option β) : Option β := f a
theorem bnd_at {α β : Type} {a x : α} {f : α → Option β} {o : β} (h : bnd a f = some o) (e : x = a) : f x = some o := by subst e; exact h
theorem obd_at {α β : Type} {a : Option α} {f : α → Option β} {o : β} (h : Option.bind a f = some o) : ∃ x, a = some x ∧ f x = some o := by
  cases a with
  | none => cases h
  | some x => exact ⟨x, rfl, h⟩
theorem ift_at {α : Type} {c : Prop} [Decidable c] {t f : Option α} {o : α} (h : (if c then t else f) = some o) (hc : c) : t = some o := by rw [if_pos hc] at h; exact h
theorem iff_at {α : Type} {c : Prop} [Decidable c] {t f : Option α} {o : α} (h : (if c then t else f) = some o) (hc : ¬ c) : f = some o := by rw [if_neg hc] at h; exact h
/-- a loop, by its body: .inl goes on, .inr leaves it -/
def lp {V E : Type} (B : V → Option (V ⊕ E)) : Nat → V → Option E
  | 0, _ => none
  | k + 1, v => match B v with
    | none => none
    | some (.inl w) => lp B k w
    | some (.inr e) => some e
def lpk {V E : Type} (B : V → Option (V ⊕ E)) (k : Nat) (o : E) : V ⊕ E → Prop
  | .inl w => lp B k w = some o
  | .inr e => e = o
theorem lp_no {V E : Type} {B : V → Option (V ⊕ E)} {v : V} {o : E} (h : lp B 0 v = some o) : False := by cases h
theorem lp_at {V E : Type} {B : V → Option (V ⊕ E)} {k : Nat} {v : V} {o : E} (h : lp B (k + 1) v = some o) : ∃ b, B v = some b ∧ lpk B k o b := by
  unfold lp at h
  cases hB : B v with
  | none => rw [hB] at h; cases h
  | some b =>
    rw [hB] at h
    cases b with
    | inl w => exact ⟨_, rfl, h⟩
    | inr e => exact ⟨_, rfl, Option.some.inj h⟩
theorem lp_go {V E : Type} {B : V → Option (V ⊕ E)} {k : Nat} {w : V} {o : E} {b : V ⊕ E} (h : some (Sum.inl w) = some b) (hc : lpk B k o b) : lp B k w = some o := by cases h; exact hc
theorem lp_out {V E : Type} {B : V → Option (V ⊕ E)} {k : Nat} {e : E} {o : E} {b : V ⊕ E} (h : some (Sum.inr e) = some b) (hc : lpk B k o b) : e = o := by cases h; exact hc
