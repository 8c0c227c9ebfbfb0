theorem M_put {cap : Nat} {L : List UInt8} {row : Nat → Int32} (v : Int32) (hc : cap < 2147483648) (hL : L.length < cap) (h : QHM L row) :
    ∃ o, f_M_put cap (nI L.length) row v = some o ∧ QPM (L ++ [by8 v]) o := by
  simp only [f_M_put, bnd]
  rw [gd_nI (by omega) hL]
  refine ⟨_, rfl, ?_, ?_⟩
  · show nI L.length + 1 = _
    simp only [List.length_append, List.length_cons, List.length_nil]
    exact qn_add _ 1
  · show QHM _ (upd row (nI L.length).toNatClampNeg (v &&& 255))
    rw [qn_clamp (by omega), um_by8]
    exact HM_app h _
def lv (v : Int64) : Nat := v.toUInt64.toNat
theorem qlv_lt (v : Int64) : lv v < 18446744073709551616 := UInt64.toNat_lt _
theorem lv_inj {a b : Int64} (h : lv a = lv b) : a = b := by
  unfold lv at h
  have := UInt64.toNat_inj.mp h
  exact Int64.toBitVec_inj.mp (congrArg UInt64.toBitVec this)
def ql64 (a : Nat) : Int64 := Int64.ofNat a
theorem lv_l64 {a : Nat} (h : a < 18446744073709551616) : lv (ql64 a) = a := by
  unfold lv ql64
  simp
  omega
theorem l64_lv (v : Int64) : ql64 (lv v) = v := lv_inj (lv_l64 (qlv_lt v))
theorem lv_shr (v : Int64) (k : Int64) : lv ((v.toUInt64 >>> (k.toUInt64 &&& Int64.toUInt64 63)).toInt64) = lv v >>> (lv k % 64) := by
  unfold lv
  have h63 : (Int64.toUInt64 63).toNat = 2 ^ 6 - 1 := rfl
  simp only [UInt64.toUInt64_toInt64, UInt64.toNat_shiftRight, UInt64.toNat_and, h63, Nat.and_two_pow_sub_one_eq_mod]
  simp
theorem lv_and (a b : Int64) : lv (a &&& b) = lv a &&& lv b := by
  unfold lv; simp
theorem lv_or (a b : Int64) : lv (a ||| b) = lv a ||| lv b := by
  unfold lv; simp
theorem lv_xor (a b : Int64) : lv (a ^^^ b) = lv a ^^^ lv b := by
  unfold lv; simp
theorem by8_l64 (v : Int64) : by8 v.toInt32 = UInt8.ofNat (lv v) := by
  apply UInt8.toBitVec_inj.mp
  apply BitVec.eq_of_toNat_eq
  simp [by8, lv, BitVec.signExtend_eq_setWidth_of_le]
theorem lv_nI {a : Nat} (h : a < 2147483648) : lv (nI a).toInt64 = a := by
  have : (nI a).toInt64 = Int64.ofNat a := by
    apply Int64.toInt_inj.mp
    rw [Int32.toInt_toInt64, qn_toInt h, Int64.toInt_ofNat']
    simp [Int.bmod]; omega
  rw [this]; exact lv_l64 (by omega)
theorem by8_or (a b : Int32) : by8 (a ||| b) = by8 a ||| by8 b := by
  unfold by8; simp
theorem by8_add (a b : Int32) : by8 (a + b) = by8 a + by8 b := by
  unfold by8; simp
theorem lv_neg {v : Int64} : (v < 0) = (9223372036854775808 ≤ lv v) := by
  apply propext
  rw [Int64.lt_iff_toInt_lt]
  have h1 : v.toInt = (lv v : Int).bmod (2 ^ 64) := by
    rw [← l64_lv v, lv_l64 (qlv_lt v)]
    unfold ql64
    rw [Int64.toInt_ofNat']
  have := qlv_lt v
  rw [h1]
  show _ < (0 : Int) ↔ _
  rw [Int.bmod]
  omega

/-- VARINT -/
def sVar (v : Nat) : List UInt8 := if v < 128 then [UInt8.ofNat v] else UInt8.ofNat (v % 128 + 128) :: sVar (v / 128)
termination_by v
decreasing_by omega
theorem sVar_lt {v : Nat} (h : v < 128) : sVar v = [UInt8.ofNat v] := by rw [sVar, if_pos h]
theorem sVar_ge {v : Nat} (h : ¬ v < 128) : sVar v = UInt8.ofNat (v % 128 + 128) :: sVar (v / 128) := by rw [sVar, if_neg h]
theorem sVar_len : ∀ (k v : Nat), v < 128 ^ (k + 1) → (sVar v).length ≤ k + 1 := by
  intro k
  induction k with
  | zero => intro v h; rw [sVar_lt (by omega)]; simp
  | succ k ih =>
    intro v h
    by_cases c : v < 128
    · rw [sVar_lt c]; simp
    · rw [sVar_ge c]
      have := ih (v / 128) (by rw [Nat.div_lt_iff_lt_mul (by omega)]; rw [Nat.pow_succ] at h; exact h)
      simp; omega
theorem sVar_ne (v : Nat) : 1 ≤ (sVar v).length := by
  by_cases c : v < 128
  · rw [sVar_lt c]; simp
  · rw [sVar_ge c]; simp
theorem by8_lo {v : Int64} : by8 ((v &&& 127).toInt32 ||| 128) = UInt8.ofNat (lv v % 128 + 128) := by
  rw [by8_or, by8_l64, lv_and]
  have h : lv 127 = 2 ^ 7 - 1 := rfl
  rw [h, Nat.and_two_pow_sub_one_eq_mod]
  have : ∀ j : Fin 128, UInt8.ofNat j.val ||| by8 128 = UInt8.ofNat (j.val + 128) := by decide
  exact this ⟨lv v % 128, by omega⟩
theorem by8_lo' {v : Int64} : by8 ((v &&& 127).toInt32 + 128) = UInt8.ofNat (lv v % 128 + 128) := by
  rw [by8_add, by8_l64, lv_and]
  have h : lv 127 = 2 ^ 7 - 1 := rfl
  rw [h, Nat.and_two_pow_sub_one_eq_mod]
  have : ∀ j : Fin 128, UInt8.ofNat j.val + by8 128 = UInt8.ofNat (j.val + 128) := by decide
  exact this ⟨lv v % 128, by omega⟩
theorem lv_shr7 (v : Int64) : lv ((v.toUInt64 >>> ((7 : Int32).toInt64.toUInt64 &&& Int64.toUInt64 63)).toInt64) = lv v / 128 := by
  rw [lv_shr]
  have : lv (7 : Int32).toInt64 = 7 := rfl
  rw [this, Nat.shiftRight_eq_div_pow]
theorem lv_zero {v : Int64} : (v = 0) = (lv v = 0) := by
  apply propext
  constructor
  · intro h; rw [h]; rfl
  · intro h; exact lv_inj h
theorem B_varint {n cap : Nat} {L : List UInt8} {row : Nat → Int32} (v : Int64) (hn : 100 < n) (hc : cap < 2147483648) (hL : L.length + (sVar (lv v)).length ≤ cap) (h : HC L row) :
    ∃ o, f_B_varint n cap (nI L.length) row v = some o ∧ QPC (L ++ sVar (lv v)) o := by
  unfold f_B_varint
  have main : ∃ e, lp (fun v => f_B_varint_l5 cap v.1 v.2.1 v.2.2.1 v.2.2.2) n (nI L.length, row, v, (0 : Int32)) = some e ∧ ∃ (L' : List UInt8), e.1 = nI L'.length ∧ HC L' e.2.1 ∧ lv e.2.2.1 < 128 ∧ L' ++ sVar (lv e.2.2.1) = L ++ sVar (lv v) := by
    refine lp_inv (fun k w => ∃ (L' : List UInt8) (j : Nat), w.1 = nI L'.length ∧ HC L' w.2.1 ∧ w.2.2.2 = nI j ∧ j + k = 9 ∧ lv w.2.2.1 < 128 ^ (k + 1) ∧ L' ++ sVar (lv w.2.2.1) = L ++ sVar (lv v)) _ ?_ 9 n _ ⟨L, 0, rfl, h, rfl, rfl, by have := qlv_lt v; show lv v < 128 ^ 10; omega, rfl⟩ (by omega)
    rintro k ⟨sz, rw', w, j'⟩ ⟨L', j, g1, g2, g3, g4, g5, g6⟩
    simp only at g1 g2 g3 g5 g6
    subst g1; subst g3
    show (∃ w', f_B_varint_l5 cap (nI L'.length) rw' w (nI j) = _ ∧ _) ∨ (∃ e, f_B_varint_l5 cap (nI L'.length) rw' w (nI j) = _ ∧ _)
    have hlen := congrArg List.length g6
    simp only [List.length_append] at hlen
    unfold f_B_varint_l5
    have e9 : (9 : Int32) = nI 9 := rfl
    by_cases c : 9 ≤ j
    · refine Or.inr ⟨_, by rw [if_pos (by rw [e9, qn_le (by omega) (by omega)]; exact c)], L', rfl, g2, ?_, g6⟩
      have : k = 0 := by omega
      subst this
      simpa using g5
    · rw [if_neg (by rw [e9, qn_le (by omega) (by omega)]; exact c)]
      by_cases c2 : lv w / 128 = 0
      · refine Or.inr ⟨_, by rw [if_pos (by rw [lv_zero, lv_shr7]; exact c2)], L', rfl, g2, ?_, g6⟩
        show lv w < 128
        omega
      · rw [if_neg (by rw [lv_zero, lv_shr7]; exact c2)]
        rw [sVar_ge (by omega)] at g6 hlen
        simp only [List.length_cons] at hlen
        have hlen2 := sVar_ne (lv w / 128)
        obtain ⟨o, p1, p2, p3⟩ := B_put (cap := cap) ((w &&& 127).toInt32 ||| 128) hc (by omega) g2
        rw [p1]
        rw [by8_lo] at p2 p3
        refine Or.inl ⟨_, rfl, k - 1, by omega, L' ++ [UInt8.ofNat (lv w % 128 + 128)], j + 1, p2, p3, qn_add j 1, by omega, ?_, ?_⟩
        · rw [lv_shr7]
          have : k - 1 + 1 = k := by omega
          rw [this]
          rw [Nat.div_lt_iff_lt_mul (by omega)]; rw [Nat.pow_succ] at g5; exact g5
        · rw [lv_shr7, List.append_assoc]; exact g6
  obtain ⟨e, h1, L', g1, g2, g3, g4⟩ := main
  rw [h1]
  show ∃ o, f_B_varint_j46 _ _ _ _ = _ ∧ _
  unfold f_B_varint_j46
  rw [g1]
  have hlen := congrArg List.length g4
  rw [sVar_lt g3] at g4 hlen
  simp only [List.length_append, List.length_cons, List.length_nil] at hlen
  obtain ⟨o, p1, p2⟩ := B_put (cap := cap) e.2.2.1.toInt32 hc (by omega) g2
  rw [p1]
  refine ⟨o, rfl, ?_⟩
  rw [by8_l64, g4] at p2
  exact p2
