theorem lv_toInt (v : Int64) : v.toInt = if lv v < 9223372036854775808 then (lv v : Int) else (lv v : Int) - 18446744073709551616 := by
  have h1 : v.toInt = (lv v : Int).bmod (2 ^ 64) := by
    rw [← l64_lv v, lv_l64 (qlv_lt v)]
    unfold ql64
    rw [Int64.toInt_ofNat']
  have := qlv_lt v
  rw [h1, Int.bmod]
  split <;> omega
theorem lv_le127 {v : Int64} : (v < 0 ∨ ¬ v ≤ 127) ↔ ¬ lv v < 128 := by
  rw [Int64.lt_iff_toInt_lt, Int64.le_iff_toInt_le, lv_toInt v]
  have e0 : (0 : Int64).toInt = 0 := rfl
  have e1 : (127 : Int64).toInt = 127 := rfl
  rw [e0, e1]
  have := qlv_lt v
  split <;> omega
theorem M_putVarint {n cap : Nat} {L : List UInt8} {row : Nat → Int32} (v : Int64) (hn : 100 < n) (hc : cap < 2147483648) (hL : L.length + (sVar (lv v)).length ≤ cap) (h : QHM L row) :
    ∃ o, f_M_putVarint n cap (nI L.length) row v = some o ∧ QPM (L ++ sVar (lv v)) o := by
  unfold f_M_putVarint
  have main : ∃ e, lp (fun v => f_M_putVarint_l2 cap v.1 v.2.1 v.2.2) n (nI L.length, row, v) = some e ∧ ∃ (L' : List UInt8), e.1 = nI L'.length ∧ QHM L' e.2.1 ∧ lv e.2.2 < 128 ∧ L' ++ sVar (lv e.2.2) = L ++ sVar (lv v) := by
    refine lp_inv (fun k w => ∃ (L' : List UInt8), w.1 = nI L'.length ∧ QHM L' w.2.1 ∧ lv w.2.2 < 128 ^ (k + 1) ∧ L' ++ sVar (lv w.2.2) = L ++ sVar (lv v)) _ ?_ 9 n _ ⟨L, rfl, h, by have := qlv_lt v; show lv v < 128 ^ 10; omega, rfl⟩ (by omega)
    rintro k ⟨sz, rw', w⟩ ⟨L', g1, g2, g5, g6⟩
    simp only at g1 g2 g5 g6
    subst g1
    show (∃ w', f_M_putVarint_l2 cap (nI L'.length) rw' w = _ ∧ _) ∨ (∃ e, f_M_putVarint_l2 cap (nI L'.length) rw' w = _ ∧ _)
    have hlen := congrArg List.length g6
    simp only [List.length_append] at hlen
    unfold f_M_putVarint_l2
    by_cases c : lv w < 128
    · have hc' : ¬ (w < 0 ∨ ¬ w ≤ 127) := fun q => (lv_le127.mp q) c
      have h1 : ¬ w < 0 := fun q => hc' (Or.inl q)
      have h2 : w ≤ 127 := Classical.byContradiction fun q => hc' (Or.inr q)
      exact Or.inr ⟨_, by rw [if_neg h1, if_pos h2], L', rfl, g2, c, g6⟩
    · have hj : (if w < 0 then f_M_putVarint_j16 cap (nI L'.length) rw' w else if w ≤ 127 then some (Sum.inr (nI L'.length, rw', w)) else f_M_putVarint_j16 cap (nI L'.length) rw' w) = f_M_putVarint_j16 cap (nI L'.length) rw' w := by
        rcases lv_le127.mpr c with h1 | h1
        · rw [if_pos h1]
        · rw [if_neg h1]; split <;> rfl
      rw [hj]
      unfold f_M_putVarint_j16
      rw [sVar_ge (by omega)] at g6 hlen
      simp only [List.length_cons] at hlen
      have hlen2 := sVar_ne (lv w / 128)
      obtain ⟨o, p1, p2, p3⟩ := M_put (cap := cap) ((w &&& 127).toInt32 + 128) hc (by omega) g2
      rw [p1]
      rw [by8_lo'] at p2 p3
      have hk : k ≠ 0 := by intro e; subst e; simp at g5; omega
      refine Or.inl ⟨_, rfl, k - 1, by omega, L' ++ [UInt8.ofNat (lv w % 128 + 128)], p2, p3, ?_, ?_⟩
      · rw [lv_shr7]
        have : k - 1 + 1 = k := by omega
        rw [this]
        rw [Nat.div_lt_iff_lt_mul (by omega)]; rw [Nat.pow_succ] at g5; exact g5
      · rw [lv_shr7, List.append_assoc]; exact g6
  obtain ⟨e, h1, L', g1, g2, g3, g4⟩ := main
  rw [h1]
  show ∃ o, f_M_putVarint_j38 _ _ _ _ = _ ∧ _
  unfold f_M_putVarint_j38
  rw [g1]
  have hlen := congrArg List.length g4
  rw [sVar_lt g3] at g4 hlen
  simp only [List.length_append, List.length_cons, List.length_nil] at hlen
  obtain ⟨o, p1, p2⟩ := M_put (cap := cap) e.2.2.toInt32 hc (by omega) g2
  rw [p1]
  refine ⟨o, rfl, ?_⟩
  rw [by8_l64, g4] at p2
  exact p2
/-- so many bytes, the lowest first -/
def sFix (v k : Nat) : List UInt8 := (List.range k).map (fun i => UInt8.ofNat (v >>> (8 * i)))
theorem sFix_len (v k : Nat) : (sFix v k).length = k := by simp [sFix]
theorem sFix_succ (v k : Nat) : sFix v (k + 1) = sFix v k ++ [UInt8.ofNat (v >>> (8 * k))] := by
  simp [sFix, List.range_succ]
theorem by8_shr (v : Int64) {k : Nat} (hk : k < 8) : by8 ((v.toUInt64 >>> (((8 : Int32) * nI k).toInt64.toUInt64 &&& Int64.toUInt64 63)).toInt64).toInt32 = UInt8.ofNat (lv v >>> (8 * k)) := by
  rw [by8_l64, lv_shr]
  have : (8 : Int32) * nI k = nI (8 * k) := nI_mul 8 k
  rw [this, lv_nI (by omega)]
  congr 2; omega
theorem B_lowestFirst {n cap : Nat} {L : List UInt8} {row : Nat → Int32} (v : Int64) {q : Nat} (hq : q ≤ 8) (hn : 100 < n) (hc : cap < 2147483648) (hL : L.length + q ≤ cap) (h : HC L row) :
    ∃ o, f_B_lowestFirst n cap (nI L.length) row v (nI q) = some o ∧ QPC (L ++ sFix (lv v) q) o := by
  unfold f_B_lowestFirst
  have main : ∃ e, lp (fun w => f_B_lowestFirst_l3 cap v (nI q) w.1 w.2.1 w.2.2) n (nI L.length, row, (0 : Int32)) = some e ∧ QPC (L ++ sFix (lv v) q) e := by
    refine lp_inv (fun k w => ∃ j, j + k = q ∧ w.2.2 = nI j ∧ QPC (L ++ sFix (lv v) j) (w.1, w.2.1)) _ ?_ q n _ ⟨0, by omega, rfl, by simp [sFix, QPC, h]⟩ (by omega)
    rintro k ⟨sz, rw', j'⟩ ⟨j, g1, g2, g3, g4⟩
    simp only at g1 g2 g3 g4
    subst g2; subst g3
    show (∃ w', f_B_lowestFirst_l3 cap v (nI q) _ rw' (nI j) = _ ∧ _) ∨ (∃ e, f_B_lowestFirst_l3 cap v (nI q) _ rw' (nI j) = _ ∧ _)
    unfold f_B_lowestFirst_l3
    by_cases c : q ≤ j
    · have : j = q := by omega
      subst this
      exact Or.inr ⟨_, by rw [if_pos (by rw [qn_le (by omega) (by omega)]; exact c)], rfl, g4⟩
    · rw [if_neg (by rw [qn_le (by omega) (by omega)]; exact c)]
      obtain ⟨o, p1, p2⟩ := B_put (cap := cap) (((v.toUInt64 >>> (((8 : Int32) * nI j).toInt64.toUInt64 &&& Int64.toUInt64 63)).toInt64).toInt32) hc (by simp [sFix_len]; omega) g4
      rw [p1]
      refine Or.inl ⟨_, rfl, k - 1, by omega, j + 1, by omega, qn_add j 1, ?_⟩
      rw [by8_shr v (by omega), List.append_assoc, ← sFix_succ] at p2
      exact p2
  obtain ⟨e, h1, h2⟩ := main
  rw [h1]
  exact ⟨e, rfl, h2⟩
theorem M_putFixed {n cap : Nat} {L : List UInt8} {row : Nat → Int32} (v : Int64) {q : Nat} (hq : q ≤ 8) (hn : 100 < n) (hc : cap < 2147483648) (hL : L.length + q ≤ cap) (h : QHM L row) :
    ∃ o, f_M_putFixed n cap (nI L.length) row v (nI q) = some o ∧ QPM (L ++ sFix (lv v) q) o := by
  unfold f_M_putFixed
  have main : ∃ e, lp (fun w => f_M_putFixed_l3 cap v (nI q) w.1 w.2.1 w.2.2) n (nI L.length, row, (0 : Int32)) = some e ∧ QPM (L ++ sFix (lv v) q) e := by
    refine lp_inv (fun k w => ∃ j, j + k = q ∧ w.2.2 = nI j ∧ QPM (L ++ sFix (lv v) j) (w.1, w.2.1)) _ ?_ q n _ ⟨0, by omega, rfl, by simp [sFix, QPM, h]⟩ (by omega)
    rintro k ⟨sz, rw', j'⟩ ⟨j, g1, g2, g3, g4⟩
    simp only at g1 g2 g3 g4
    subst g2; subst g3
    show (∃ w', f_M_putFixed_l3 cap v (nI q) _ rw' (nI j) = _ ∧ _) ∨ (∃ e, f_M_putFixed_l3 cap v (nI q) _ rw' (nI j) = _ ∧ _)
    unfold f_M_putFixed_l3
    by_cases c : q ≤ j
    · have : j = q := by omega
      subst this
      exact Or.inr ⟨_, by rw [if_pos (by rw [qn_le (by omega) (by omega)]; exact c)], rfl, g4⟩
    · rw [if_neg (by rw [qn_le (by omega) (by omega)]; exact c)]
      obtain ⟨o, p1, p2⟩ := M_put (cap := cap) (((v.toUInt64 >>> (((8 : Int32) * nI j).toInt64.toUInt64 &&& Int64.toUInt64 63)).toInt64).toInt32) hc (by simp [sFix_len]; omega) g4
      rw [p1]
      refine Or.inl ⟨_, rfl, k - 1, by omega, j + 1, by omega, qn_add j 1, ?_⟩
      rw [by8_shr v (by omega), List.append_assoc, ← sFix_succ] at p2
      exact p2
  obtain ⟨e, h1, h2⟩ := main
  rw [h1]
  exact ⟨e, rfl, h2⟩
