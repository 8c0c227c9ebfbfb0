theorem nb0 : narrow .boolean (.int 0) = .int 0 := rfl
theorem nb1 : narrow .boolean (.int 1) = .int 1 := rfl
theorem zif0 {α : Type} {P : α → Prop} {a b : α} {z : Int32} (h : P a) (hz : z = 0) : P (if z = 0 then a else b) := by rw [if_pos hz]; exact h
theorem zif1 {α : Type} {P : α → Prop} {a b : α} {z : Int32} (h : P b) (hz : ¬ z = 0) : P (if z = 0 then a else b) := by rw [if_neg hz]; exact h
theorem one_ne : ¬ (1 : Int32) = 0 := by decide
