/-! Words of the functions that a program reads off the bytecode: none where the machine would throw, or where the fuel is out. -/
def gd {α : Type} (b : Bool) (t : Option α) : Option α := if b = true then t else none
theorem gd_at {α : Type} {b : Bool} {t : Option α} {o : α} (h : gd b t = some o) : b = true ∧ t = some o := by
  unfold gd at h
  by_cases hb : b = true
  · rw [if_pos hb] at h; exact ⟨hb, h⟩
  · rw [if_neg hb] at h; cases h
theorem gd_t {α : Type} {b : Bool} {t : Option α} (h : b = true) : gd b t = t := by unfold gd; rw [if_pos h]
def inB (i : Int32) (n : Nat) : Bool := !(decide (i < 0) || decide (n ≤ i.toNatClampNeg))
theorem inB_in {i : Int32} {n : Nat} (h : inB i n = true) : vp_in i n := by
  unfold inB at h
  simp only [Bool.not_eq_true', Bool.or_eq_false_iff, decide_eq_false_iff_not] at h
  exact fun q => q.elim h.1 h.2
theorem inB_of {i : Int32} {n : Nat} (h : vp_in i n) : inB i n = true := by
  unfold inB
  simp only [Bool.not_eq_true', Bool.or_eq_false_iff, decide_eq_false_iff_not]
  exact ⟨fun q => h (Or.inl q), fun q => h (Or.inr q)⟩
def bnd {α β : Type} (a : α) (f : α → Option β) : Option β := f a
theorem bnd_at {α β : Type} {a x : α} {f : α → Option β} {o : β} (h : bnd a f = some o) (e : x = a) : f x = some o := by subst e; exact h
theorem obd_at {α β : Type} {a : Option α} {f : α → Option β} {o : β} (h : Option.bind a f = some o) : ∃ x, a = some x ∧ f x = some o := by
  cases a with
  | none => cases h
  | some x => exact ⟨x, rfl, h⟩
theorem ift_at {α : Type} {c : Prop} [Decidable c] {t f : Option α} {o : α} (h : (if c then t else f) = some o) (hc : c) : t = some o := by rw [if_pos hc] at h; exact h
theorem iff_at {α : Type} {c : Prop} [Decidable c] {t f : Option α} {o : α} (h : (if c then t else f) = some o) (hc : ¬ c) : f = some o := by rw [if_neg hc] at h; exact h
/-- a loop, by its body: .inl goes on, .inr leaves it -/
def lp {V E : Type} (B : V → Option (V ⊕ E)) : Nat → V → Option E
  | 0, _ => none
  | k + 1, v => match B v with
    | none => none
    | some (.inl w) => lp B k w
    | some (.inr e) => some e
def lpk {V E : Type} (B : V → Option (V ⊕ E)) (k : Nat) (o : E) : V ⊕ E → Prop
  | .inl w => lp B k w = some o
  | .inr e => e = o
theorem lp_no {V E : Type} {B : V → Option (V ⊕ E)} {v : V} {o : E} (h : lp B 0 v = some o) : False := by cases h
theorem lp_at {V E : Type} {B : V → Option (V ⊕ E)} {k : Nat} {v : V} {o : E} (h : lp B (k + 1) v = some o) : ∃ b, B v = some b ∧ lpk B k o b := by
  unfold lp at h
  cases hB : B v with
  | none => rw [hB] at h; cases h
  | some b =>
    rw [hB] at h
    cases b with
    | inl w => exact ⟨_, rfl, h⟩
    | inr e => exact ⟨_, rfl, Option.some.inj h⟩
theorem lp_go {V E : Type} {B : V → Option (V ⊕ E)} {k : Nat} {w : V} {o : E} {b : V ⊕ E} (h : some (Sum.inl w) = some b) (hc : lpk B k o b) : lp B k w = some o := by cases h; exact hc
theorem lp_out {V E : Type} {B : V → Option (V ⊕ E)} {k : Nat} {e : E} {o : E} {b : V ⊕ E} (h : some (Sum.inr e) = some b) (hc : lpk B k o b) : e = o := by cases h; exact hc
def isB (x : Int32) : Bool := decide (x = 0) || decide (x = 1)
theorem isB_c {x : Int32} (h : isB x = true) : x = 0 ∨ x = 1 := by simpa [isB] using h
theorem isB_n {x : Int32} (h : isB x = true) : narrow .boolean (.int x) = .int x := by rcases isB_c h with rfl | rfl <;> rfl
theorem isB_f {x : Int32} (h : isB x = true) : fits .boolean (.int x) = true := by rcases isB_c h with rfl | rfl <;> rfl
def nz (x : Int32) : Bool := !decide (x = 0)
theorem nz_c {x : Int32} (h : nz x = true) : ¬ x = 0 := by simpa [nz] using h
def cpB (f : Nat → Int32) (n0 n1 : Nat) (sp dp n : Int32) : Bool := !decide (sp < 0) && (!decide (dp < 0) && (!decide (n < 0) && (decide (sp.toNatClampNeg + n.toNatClampNeg ≤ n0) && (decide (dp.toNatClampNeg + n.toNatClampNeg ≤ n1) && (List.range n.toNatClampNeg).all (fun i => fits .byte (.int (f (sp.toNatClampNeg + i))))))))
theorem cpB_c {f : Nat → Int32} {n0 n1 : Nat} {sp dp n : Int32} (h : cpB f n0 n1 sp dp n = true) : ¬ sp < 0 ∧ ¬ dp < 0 ∧ ¬ n < 0 ∧ sp.toNatClampNeg + n.toNatClampNeg ≤ n0 ∧ dp.toNatClampNeg + n.toNatClampNeg ≤ n1 ∧ ∀ i, i < n.toNatClampNeg → fits .byte (.int (f (sp.toNatClampNeg + i))) = true := by
  simp only [cpB, Bool.and_eq_true, Bool.not_eq_true', decide_eq_false_iff_not, decide_eq_true_eq, List.all_eq_true, List.mem_range] at h
  exact h
theorem sw_at {α : Type} {P : Prop} [Decidable P] {a b : α} : (if P then a else b) = if P then a else b := rfl
theorem ne_ti {x k : Int32} (h : ¬ x = k) : x.toInt ≠ k.toInt := fun e => h (Int32.toInt_inj.mp e)
theorem sw_out3 {x : Int32} (c0 : ¬ x = 0) (c1 : ¬ x = 1) (c2 : ¬ x = 2) : x.toInt < 0 ∨ 2 < x.toInt := by
  have h0 : x.toInt ≠ 0 := ne_ti c0
  have h1 : x.toInt ≠ 1 := ne_ti c1
  have h2 : x.toInt ≠ 2 := ne_ti c2
  omega
theorem sw_out4 {x : Int32} (c0 : ¬ x = 0) (c1 : ¬ x = 1) (c2 : ¬ x = 2) (c3 : ¬ x = 3) : x.toInt < 0 ∨ 3 < x.toInt := by
  have h0 : x.toInt ≠ 0 := ne_ti c0
  have h1 : x.toInt ≠ 1 := ne_ti c1
  have h2 : x.toInt ≠ 2 := ne_ti c2
  have h3 : x.toInt ≠ 3 := ne_ti c3
  omega
theorem sw_out15 {x : Int32} (c0 : ¬ x = 0) (c1 : ¬ x = 1) (c2 : ¬ x = 2) (c3 : ¬ x = 3) (c4 : ¬ x = 4) (c5 : ¬ x = 5) (c6 : ¬ x = 6) (c7 : ¬ x = 7) (c8 : ¬ x = 8) (c9 : ¬ x = 9) (c10 : ¬ x = 10) (c11 : ¬ x = 11) (c12 : ¬ x = 12) (c13 : ¬ x = 13) (c14 : ¬ x = 14) : x.toInt < 0 ∨ 14 < x.toInt := by
  have h0 : x.toInt ≠ 0 := ne_ti c0
  have h1 : x.toInt ≠ 1 := ne_ti c1
  have h2 : x.toInt ≠ 2 := ne_ti c2
  have h3 : x.toInt ≠ 3 := ne_ti c3
  have h4 : x.toInt ≠ 4 := ne_ti c4
  have h5 : x.toInt ≠ 5 := ne_ti c5
  have h6 : x.toInt ≠ 6 := ne_ti c6
  have h7 : x.toInt ≠ 7 := ne_ti c7
  have h8 : x.toInt ≠ 8 := ne_ti c8
  have h9 : x.toInt ≠ 9 := ne_ti c9
  have h10 : x.toInt ≠ 10 := ne_ti c10
  have h11 : x.toInt ≠ 11 := ne_ti c11
  have h12 : x.toInt ≠ 12 := ne_ti c12
  have h13 : x.toInt ≠ 13 := ne_ti c13
  have h14 : x.toInt ≠ 14 := ne_ti c14
  omega
