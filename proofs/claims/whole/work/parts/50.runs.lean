/-- how many from k on are the same -/
def runL (f : Nat → Nat) (k m : Nat) : Nat := comm (fun i => f (k + i)) (fun _ => f k) (m - k)
theorem runL_le (f : Nat → Nat) (k m : Nat) : runL f k m ≤ m - k := comm_le _ _ _
theorem runL_eq {f : Nat → Nat} {k m i : Nat} (h : i < runL f k m) : f (k + i) = f k := comm_eq (fun i => f (k + i)) (fun _ => f k) (m - k) i h
theorem runL_pos {f : Nat → Nat} {k m : Nat} (h : k < m) : 1 ≤ runL f k m := by
  apply Classical.byContradiction
  intro hc
  have h0 : runL f k m = 0 := by omega
  have := comm_ne (fun i => f (k + i)) (fun _ => f k) (m - k) (by show runL f k m < m - k; omega)
  have h1 : comm (fun i => f (k + i)) (fun _ => f k) (m - k) = 0 := h0
  rw [h1] at this
  exact this rfl
theorem runL_8 {f : Nat → Nat} {k m q : Nat} : q ≤ runL f k m ↔ k + q ≤ m ∧ (∀ i, i < q → f (k + i) = f k) ∨ q = 0 := by
  constructor
  · intro h
    have := runL_le f k m
    by_cases q0 : q = 0
    · exact Or.inr q0
    · exact Or.inl ⟨by omega, fun i hi => runL_eq (m := m) (by omega)⟩
  · rintro (⟨h1, h2⟩ | h)
    · apply Classical.byContradiction
      intro hc
      have := comm_ne (fun i => f (k + i)) (fun _ => f k) (m - k) (by show runL f k m < m - k; omega)
      exact this (h2 (runL f k m) (by omega))
    · omega
/-- where the groups that begin before e end -/
def gEnd (f : Nat → Nat) (m : Nat) : Nat → Nat → Nat
  | 0, e => e
  | q + 1, e => if m ≤ e ∨ 8 ≤ runL f e m then e else gEnd f m q (e + 8)
theorem gEnd_ge (f : Nat → Nat) (m q e : Nat) : e ≤ gEnd f m q e := by
  induction q generalizing e with
  | zero => simp [gEnd]
  | succ q ih =>
    simp only [gEnd]
    split
    · exact Nat.le_refl _
    · have := ih (e + 8); omega
theorem gEnd_le (f : Nat → Nat) (m q e : Nat) (h : e < m + 8) : gEnd f m q e < m + 8 := by
  induction q generalizing e with
  | zero => simpa [gEnd] using h
  | succ q ih =>
    simp only [gEnd]
    split
    · exact h
    · rename_i c; exact ih (e + 8) (by omega)
theorem gEnd_mod (f : Nat → Nat) (m q e : Nat) : ∃ j, gEnd f m q e = e + 8 * j := by
  induction q generalizing e with
  | zero => exact ⟨0, rfl⟩
  | succ q ih =>
    simp only [gEnd]
    split
    · exact ⟨0, rfl⟩
    · obtain ⟨j, hj⟩ := ih (e + 8); exact ⟨j + 1, by omega⟩
theorem gEnd_fuel (f : Nat → Nat) (m : Nat) : ∀ q q' e, m - e < q → m - e < q' → gEnd f m q e = gEnd f m q' e := by
  intro q
  induction q with
  | zero => intro q' e h; omega
  | succ q ih =>
    intro q' e h h'
    cases q' with
    | zero => omega
    | succ q' =>
      simp only [gEnd]
      split
      · rfl
      · rename_i c; exact ih q' (e + 8) (by omega) (by omega)
theorem gEnd_here {f : Nat → Nat} {m e : Nat} (h : m ≤ e ∨ 8 ≤ runL f e m) : gEnd f m (m + 1) e = e := by
  simp only [gEnd]; rw [if_pos h]
theorem gEnd_next {f : Nat → Nat} {m e : Nat} (h : ¬ (m ≤ e ∨ 8 ≤ runL f e m)) : gEnd f m (m + 1) e = gEnd f m (m + 1) (e + 8) := by
  have : gEnd f m (m + 1) e = gEnd f m m (e + 8) := by
    simp only [gEnd]; rw [if_neg h]
  rw [this]
  exact gEnd_fuel f m m (m + 1) (e + 8) (by omega) (by omega)
/-- RUNS of m numbers, from number k on -/
def sRuns (f : Nat → Nat) (m w k : Nat) : List UInt8 :=
  if h : m ≤ k then [] else
    if h8 : 8 ≤ runL f k m then sVar (2 * runL f k m) ++ sFix (f k) ((w + 7) / 8) ++ sRuns f m w (k + runL f k m)
    else sVar (2 * ((gEnd f m (m + 1) (k + 8) - k) / 8) + 1) ++ sBits (pbit (fun i => f (k + i)) (m - k) w) (w * ((gEnd f m (m + 1) (k + 8) - k) / 8)) ++ sRuns f m w (gEnd f m (m + 1) (k + 8))
termination_by m - k
decreasing_by
  · omega
  · have := gEnd_ge f m (m + 1) (k + 8); omega
theorem sRuns_end {f : Nat → Nat} {m w k : Nat} (h : m ≤ k) : sRuns f m w k = [] := by rw [sRuns, dif_pos h]
theorem sRuns_one {f : Nat → Nat} {m w k : Nat} (h : ¬ m ≤ k) (h8 : 8 ≤ runL f k m) : sRuns f m w k = sVar (2 * runL f k m) ++ sFix (f k) ((w + 7) / 8) ++ sRuns f m w (k + runL f k m) := by rw [sRuns, dif_neg h, dif_pos h8]
theorem sRuns_grp {f : Nat → Nat} {m w k : Nat} (h : ¬ m ≤ k) (h8 : ¬ 8 ≤ runL f k m) : sRuns f m w k = sVar (2 * ((gEnd f m (m + 1) (k + 8) - k) / 8) + 1) ++ sBits (pbit (fun i => f (k + i)) (m - k) w) (w * ((gEnd f m (m + 1) (k + 8) - k) / 8)) ++ sRuns f m w (gEnd f m (m + 1) (k + 8)) := by rw [sRuns, dif_neg h, dif_neg h8]
theorem sVar2 {v : Nat} (h : v < 16384) : (sVar v).length ≤ 2 := sVar_len 1 v (by simpa using h)
theorem sRuns_len {f : Nat → Nat} {m w : Nat} (hm : m ≤ 1000) (hw : w ≤ 16) : ∀ q k, m - k ≤ q → (sRuns f m w k).length ≤ (4 + w) * ((m - k + 7) / 8) := by
  intro q
  induction q using Nat.strongRecOn with
  | ind q ih =>
    intro k hk
    by_cases h : m ≤ k
    · rw [sRuns_end h]; simp
    · by_cases h8 : 8 ≤ runL f k m
      · rw [sRuns_one h h8]
        have h1 := runL_le f k m
        have h2 := ih (m - (k + runL f k m)) (by omega) (k + runL f k m) (Nat.le_refl _)
        have h3 := sVar2 (v := 2 * runL f k m) (by omega)
        simp only [List.length_append, sFix_len]
        have h4 : (m - (k + runL f k m) + 7) / 8 + 1 ≤ (m - k + 7) / 8 := by omega
        have h5 := Nat.mul_le_mul_left (4 + w) h4
        rw [Nat.mul_add, Nat.mul_one] at h5
        omega
      · rw [sRuns_grp h h8]
        have h1 := gEnd_ge f m (m + 1) (k + 8)
        have h2 := gEnd_le f m (m + 1) (k + 8) (by omega)
        obtain ⟨j, hj⟩ := gEnd_mod f m (m + 1) (k + 8)
        have h3 := ih (m - gEnd f m (m + 1) (k + 8)) (by omega) (gEnd f m (m + 1) (k + 8)) (Nat.le_refl _)
        have h4 := sVar2 (v := 2 * ((gEnd f m (m + 1) (k + 8) - k) / 8) + 1) (by omega)
        simp only [List.length_append, sBits_len]
        generalize gEnd f m (m + 1) (k + 8) = e at *
        have h5 : (e - k) / 8 = j + 1 := by omega
        rw [h5]
        rw [h5] at h4
        have h6 : (m - e + 7) / 8 + (j + 1) ≤ (m - k + 7) / 8 := by omega
        have h7 := Nat.mul_le_mul_left (4 + w) h6
        rw [Nat.mul_add, Nat.add_mul 4 w (j + 1)] at h7
        omega
