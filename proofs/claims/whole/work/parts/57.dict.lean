/-- a value as a row of numbers -/
def ky (t : Nat) (num : Nat → Int64) (S : Nat → Nat) (T : Nat → UInt8) (i : Nat) : List Nat :=
  if t = 3 then (List.range (S (i + 1) - S i)).map (fun k => (T (S i + k)).toNat) else [lv (num i)]
theorem ky_text {num : Nat → Int64} {S : Nat → Nat} {T : Nat → UInt8} {i j : Nat} : ky 3 num S T i = ky 3 num S T j ↔ (S (i + 1) - S i = S (j + 1) - S j ∧ ∀ k, k < S (i + 1) - S i → T (S i + k) = T (S j + k)) := by
  unfold ky
  rw [if_pos rfl, if_pos rfl]
  constructor
  · intro h
    have hl := congrArg List.length h
    simp only [List.length_map, List.length_range] at hl
    refine ⟨hl, fun k hk => ?_⟩
    have := List.getElem_of_eq h (i := k) (by simpa using hk)
    simp only [List.getElem_map, List.getElem_range] at this
    exact UInt8.toNat_inj.mp this
  · rintro ⟨h1, h2⟩
    rw [← h1]
    apply List.map_congr_left
    intro k hk
    rw [List.mem_range] at hk
    rw [h2 k hk]
theorem cmpZ_zero {t : Nat} {num : Nat → Int64} {S : Nat → Nat} {T : Nat → UInt8} {i j : Nat} : cmpZ t num num S S T T i j = 0 ↔ ky t num S T i = ky t num S T j := by
  unfold cmpZ
  by_cases c3 : t = 3
  · subst c3
    rw [if_pos rfl, ky_text]
    unfold cmpT
    have hle := comm_le (fun k => T (S i + k)) (fun k => T (S j + k)) (min (S (i + 1) - S i) (S (j + 1) - S j))
    have heq := comm_eq (fun k => T (S i + k)) (fun k => T (S j + k)) (min (S (i + 1) - S i) (S (j + 1) - S j))
    have hne := comm_ne (fun k => T (S i + k)) (fun k => T (S j + k)) (min (S (i + 1) - S i) (S (j + 1) - S j))
    generalize comm (fun k => T (S i + k)) (fun k => T (S j + k)) (min (S (i + 1) - S i) (S (j + 1) - S j)) = K at hle heq hne
    by_cases c : K = min (S (i + 1) - S i) (S (j + 1) - S j)
    · rw [if_pos c]
      constructor
      · intro h
        have : S (i + 1) - S i = S (j + 1) - S j := by omega
        exact ⟨this, fun k hk => heq k (by omega)⟩
      · rintro ⟨h1, _⟩
        omega
    · rw [if_neg c]
      have hne' : T (S i + K) ≠ T (S j + K) := hne (by omega)
      constructor
      · intro h
        have h' : ((T (S i + K)).toNat : Int) - (T (S j + K)).toNat = 0 := h
        exact absurd (UInt8.toNat_inj.mp (show (T (S i + K)).toNat = (T (S j + K)).toNat by omega)) hne'
      · rintro ⟨_, h2⟩
        exact absurd (h2 K (by omega)) hne'
  · rw [if_neg c3]
    unfold ky
    rw [if_neg c3, if_neg c3]
    constructor
    · intro h
      have : num i = num j := Int64.toInt_inj.mp (by omega)
      rw [this]
    · intro h
      have : lv (num i) = lv (num j) := by simpa using h
      rw [lv_inj this]; omega
theorem sg_zero {o : Int32} {z : Int} (h : sg o z) : (o = 0) ↔ z = 0 := by
  obtain ⟨h1, h2⟩ := h
  constructor
  · intro e
    subst e
    have a := h1.mp (by decide)
    have b := h2.mp (by decide)
    omega
  · intro e
    subst e
    have a := h1.mpr (by omega)
    have b := h2.mpr (by omega)
    rw [Int32.le_iff_toInt_le] at a b
    have z0 : (0 : Int32).toInt = 0 := rfl
    exact Int32.toInt_inj.mp (by omega)
/-- the first that is the same; how many differ among the first k -/
def fi (K : Nat → List Nat) (i : Nat) : Nat := comm (fun j => decide (K j = K i)) (fun _ => false) i
def dn (K : Nat → List Nat) : Nat → Nat
  | 0 => 0
  | k + 1 => dn K k + (if fi K k = k then 1 else 0)
theorem fi_le (K : Nat → List Nat) (i : Nat) : fi K i ≤ i := comm_le _ _ _
theorem fi_ne {K : Nat → List Nat} {i j : Nat} (h : j < fi K i) : K j ≠ K i := by
  have := comm_eq (fun j => decide (K j = K i)) (fun _ => false) i j h
  simpa using this
theorem fi_eq (K : Nat → List Nat) (i : Nat) : K (fi K i) = K i := by
  by_cases h : fi K i < i
  · have := comm_ne (fun j => decide (K j = K i)) (fun _ => false) i h
    have h2 : comm (fun j => decide (K j = K i)) (fun _ => false) i = fi K i := rfl
    rw [h2] at this
    simpa using this
  · have := fi_le K i
    rw [show fi K i = i by omega]
theorem fi_uniq {K : Nat → List Nat} {i j : Nat} (hj : j ≤ i) (h1 : ∀ k, k < j → K k ≠ K i) (h2 : K j = K i) : j = fi K i := by
  have a := fi_le K i
  rcases Nat.lt_trichotomy j (fi K i) with h | h | h
  · exact absurd h2 (fi_ne h)
  · exact h
  · exact absurd (fi_eq K i) (h1 _ h)
theorem fi_fi (K : Nat → List Nat) (i : Nat) : fi K (fi K i) = fi K i := by
  apply Eq.symm
  apply fi_uniq (Nat.le_refl _)
  · intro k hk
    rw [fi_eq K i]
    exact fi_ne hk
  · rfl
theorem dn_le (K : Nat → List Nat) (k : Nat) : dn K k ≤ k := by
  induction k with
  | zero => simp [dn]
  | succ k ih => simp only [dn]; split <;> omega
theorem dn_mono (K : Nat → List Nat) {j k : Nat} (h : j ≤ k) : dn K j ≤ dn K k := by
  induction k with
  | zero => have : j = 0 := by omega
            subst this; exact Nat.le_refl _
  | succ k ih =>
    by_cases e : j = k + 1
    · subst e; exact Nat.le_refl _
    · have := ih (by omega); simp only [dn]; omega
theorem dn_lt {K : Nat → List Nat} {j k : Nat} (hj : j < k) (hf : fi K j = j) : dn K j < dn K k := by
  have h1 : dn K (j + 1) = dn K j + 1 := by simp only [dn]; rw [if_pos hf]
  have h2 := dn_mono K (show j + 1 ≤ k by omega)
  omega
/-- a value's number in the dictionary -/
def dk (K : Nat → List Nat) (k : Nat) : Nat := dn K (fi K k)
theorem M_same {n t c : Nat} {num : Nat → Int64} {S : Nat → Nat} {T : Nat → UInt8} {values : Int32} {wholes : Nat → Int64} {frm bytes : Nat → Int32} {m tn i j : Nat}
    (hn : 100000 < n) (ht : t = 3) (hi : i < c) (hj : j < c) (hcm : c < m) (hm : m < 1000000) (hS : (∀ i, i < c → S i ≤ S (i + 1)) ∧ S c ≤ tn ∧ tn ≤ 20000)
    (hM : VsM t c num S T values wholes frm bytes) :
    f_M_same n tn m bytes frm (nI i) (nI j) = some (nI (if ky t num S T i = ky t num S T j then 1 else 0)) := by
  obtain ⟨s1, s2, s3⟩ := hS
  have hM' := hM
  obtain ⟨g4, g5, g6, g7⟩ := hM
  have b1 := S_mono s1 (i := i + 1) (j := c) (by omega) (by omega)
  have b2 := S_mono s1 (i := j + 1) (j := c) (by omega) (by omega)
  have b3 := s1 i hi
  have b4 := s1 j hj
  subst ht
  unfold f_M_same
  rw [M_lengthOf rfl hi hcm (by omega) b3 hM', obs, M_lengthOf rfl hj hcm (by omega) b4 hM', obs, ife (by omega) (by omega)]
  unfold f_M_same_j18
  by_cases cl : S (i + 1) - S i = S (j + 1) - S j
  · rw [if_pos cl]
    have main : ∃ o, lp (fun v => f_M_same_l22 tn m bytes frm (nI i) (nI j) v.1 v.2) n ((1 : Int32), (0 : Int32)) = some o ∧ o = nI (if ky 3 num S T i = ky 3 num S T j then 1 else 0) := by
      refine lp_inv (fun q u => ∃ k, k + q = S (j + 1) - S j + 1 ∧ u.2 = nI k ∧ ((u.1 = 1 ∧ k ≤ S (j + 1) - S j ∧ ∀ x, x < k → T (S i + x) = T (S j + x)) ∨ (u.1 = 0 ∧ ky 3 num S T i ≠ ky 3 num S T j))) _ ?_ (S (j + 1) - S j + 1) n _ ⟨0, by omega, rfl, Or.inl ⟨rfl, by omega, fun x hx => by omega⟩⟩ (by omega)
      rintro q ⟨is, k'⟩ ⟨k, q1, q2, q3⟩
      simp only at q2 q3
      subst q2
      show (∃ w', f_M_same_l22 tn m bytes frm (nI i) (nI j) is (nI k) = _ ∧ _) ∨ (∃ y, f_M_same_l22 tn m bytes frm (nI i) (nI j) is (nI k) = _ ∧ _)
      unfold f_M_same_l22
      rcases q3 with ⟨rfl, hk, heq⟩ | ⟨rfl, hne⟩
      · rw [if_neg (show ¬ (1 : Int32) = 0 by decide), M_lengthOf rfl hj hcm (by omega) b4 hM', obs, ifle (by omega) (by omega)]
        by_cases ck : S (j + 1) - S j ≤ k
        · rw [if_pos ck, gd_t (by decide)]
          refine Or.inr ⟨_, rfl, ?_⟩
          rw [if_pos (ky_text.mpr ⟨cl, fun x hx => heq x (by omega)⟩)]; rfl
        · rw [if_neg ck, gd_nI (by omega) (by omega), qn_clamp (by omega), (g7 rfl).1 i (by omega), qn_add, gd_nI (by omega) (by omega), gd_nI (by omega) (by omega), qn_clamp (show j < 2147483648 by omega), (g7 rfl).1 j (by omega), qn_add, gd_nI (by omega) (by omega), qn_clamp (by omega), qn_clamp (by omega), (g7 rfl).2 _ (by omega), (g7 rfl).2 _ (by omega)]
          by_cases c2 : T (S i + k) = T (S j + k)
          · rw [if_pos (um_inj.mpr c2)]
            refine Or.inl ⟨_, rfl, q - 1, by omega, k + 1, by omega, qn_add k 1, Or.inl ⟨rfl, by omega, ?_⟩⟩
            intro x hx
            by_cases ex : x = k
            · subst ex; exact c2
            · exact heq x (by omega)
          · rw [if_neg (fun h => c2 (um_inj.mp h))]
            exact Or.inl ⟨_, rfl, q - 1, by omega, k + 1, by omega, qn_add k 1, Or.inr ⟨rfl, fun h => c2 ((ky_text.mp h).2 k (by omega))⟩⟩
      · rw [if_pos rfl, gd_t (by decide)]
        exact Or.inr ⟨_, rfl, by rw [if_neg hne]; rfl⟩
    obtain ⟨o, h1, h2⟩ := main
    rw [h1, h2]; rfl
  · rw [if_neg cl]
    have hne : ky 3 num S T i ≠ ky 3 num S T j := fun h => cl (ky_text.mp h).1
    obtain ⟨x, rfl⟩ : ∃ x, n = x + 1 := ⟨n - 1, by omega⟩
    have : f_M_same_l22 tn m bytes frm (nI i) (nI j) 0 0 = some (Sum.inr 0) := by
      unfold f_M_same_l22; rw [if_pos rfl, gd_t (by decide)]
    simp only [lp, this]
    rw [if_neg hne]; rfl
theorem M_firstLike {n t c : Nat} {num : Nat → Int64} {S : Nat → Nat} {T : Nat → UInt8} {values : Int32} {wholes : Nat → Int64} {frm bytes : Nat → Int32} {m tn k : Nat}
    (hn : 100000 < n) (ht : t = 3) (hk : k < c) (hcm : c < m) (hm : m < 90000) (hS : (∀ i, i < c → S i ≤ S (i + 1)) ∧ S c ≤ tn ∧ tn ≤ 20000)
    (hM : VsM t c num S T values wholes frm bytes) :
    f_M_firstLike n tn m bytes frm (nI k) = some (nI (fi (ky t num S T) k)) := by
  unfold f_M_firstLike
  have main : ∃ o, lp (fun v => f_M_firstLike_l2 n tn m bytes frm (nI k) v) n (0 : Int32) = some o ∧ o = nI (fi (ky t num S T) k) := by
    refine lp_inv (fun q u => ∃ j, j + q = k ∧ u = nI j ∧ ∀ x, x < j → ky t num S T x ≠ ky t num S T k) _ ?_ k n _ ⟨0, by omega, rfl, fun x hx => by omega⟩ (by omega)
    rintro q u ⟨j, g1, g2, g3⟩
    subst g2
    unfold f_M_firstLike_l2
    rw [M_same hn ht (show j < c by omega) hk hcm (by omega) hS hM, obs, ife0 (by split <;> omega)]
    by_cases c2 : ky t num S T j = ky t num S T k
    · rw [if_neg (by rw [if_pos c2]; omega)]
      exact Or.inr ⟨_, rfl, by rw [← fi_uniq (by omega) g3 c2]⟩
    · rw [if_pos (by rw [if_neg c2])]
      have hjk : j ≠ k := fun e => c2 (by rw [e])
      refine Or.inl ⟨_, rfl, q - 1, by omega, j + 1, by omega, qn_add j 1, ?_⟩
      intro x hx
      by_cases ex : x = j
      · subst ex; exact c2
      · exact g3 x (by omega)
  obtain ⟨o, h1, h2⟩ := main
  rw [h1, h2]; rfl
theorem M_firstWhole {n t c : Nat} {num : Nat → Int64} {S : Nat → Nat} {T : Nat → UInt8} {values : Int32} {wholes : Nat → Int64} {frm bytes : Nat → Int32} {m k : Nat}
    (hn : 100000 < n) (ht : t ≠ 3) (hk : k < c) (hcm : c ≤ m) (hm : m < 90000)
    (hM : VsM t c num S T values wholes frm bytes) :
    f_M_firstWhole n m wholes (nI k) = some (nI (fi (ky t num S T) k)) := by
  unfold f_M_firstWhole
  have hky : ∀ i, ky t num S T i = [lv (num i)] := fun i => by unfold ky; rw [if_neg ht]
  have main : ∃ o, lp (fun v => f_M_firstWhole_l2 m wholes (nI k) v) n (0 : Int32) = some o ∧ o = nI (fi (ky t num S T) k) := by
    refine lp_inv (fun q u => ∃ j, j + q = k ∧ u = nI j ∧ ∀ x, x < j → ky t num S T x ≠ ky t num S T k) _ ?_ k n _ ⟨0, by omega, rfl, fun x hx => by omega⟩ (by omega)
    rintro q u ⟨j, g1, g2, g3⟩
    subst g2
    unfold f_M_firstWhole_l2
    rw [gd_nI (by omega) (by omega), gd_nI (by omega) (by omega), qn_clamp (by omega), qn_clamp (by omega), hM.2.1 ht j (by omega), hM.2.1 ht k (by omega)]
    by_cases c2 : num j = num k
    · rw [if_pos c2]
      refine Or.inr ⟨_, rfl, by rw [← fi_uniq (by omega) g3 (by rw [hky, hky, c2])]⟩
    · rw [if_neg c2]
      have hjk : j ≠ k := fun e => c2 (by rw [e])
      refine Or.inl ⟨_, rfl, q - 1, by omega, j + 1, by omega, qn_add j 1, ?_⟩
      intro x hx
      by_cases ex : x = j
      · subst ex
        rw [hky, hky]
        intro h
        exact c2 (lv_inj (by simpa using h))
      · exact g3 x (by omega)
  obtain ⟨o, h1, h2⟩ := main
  rw [h1, h2]; rfl
/-- pigeons -/
theorem pigeon : ∀ (D N : Nat) (g : Nat → Nat), (∀ s, s < N → g s < D) → (∀ s s', s < N → s' < N → g s = g s' → s = s') → N ≤ D := by
  intro D
  induction D with
  | zero =>
    intro N g h _
    apply Classical.byContradiction
    intro hc
    have := h 0 (by omega)
    omega
  | succ D ih =>
    intro N g h hi
    by_cases hx : ∃ s0, s0 < N ∧ g s0 = D
    · obtain ⟨s0, hs0, hg0⟩ := hx
      have := ih (N - 1) (fun s => if s = s0 then g (N - 1) else g s) (by
        intro s hs
        by_cases e : s = s0
        · simp only [e, if_true]
          have h1 := h (N - 1) (by omega)
          have h2 : g (N - 1) ≠ D := by
            intro hq
            have := hi (N - 1) s0 (by omega) hs0 (by rw [hq, hg0])
            omega
          omega
        · simp only [if_neg e]
          have h1 := h s (by omega)
          have h2 : g s ≠ D := fun hq => e (hi s s0 (by omega) hs0 (by rw [hq, hg0]))
          omega) (by
        intro s s' hs hs' he
        by_cases e : s = s0
        · by_cases e' : s' = s0
          · rw [e, e']
          · simp only [e, if_true, if_neg e'] at he
            have := hi (N - 1) s' (by omega) (by omega) he
            omega
        · by_cases e' : s' = s0
          · simp only [e', if_true, if_neg e] at he
            have := hi s (N - 1) (by omega) (by omega) he
            omega
          · simp only [if_neg e, if_neg e'] at he
            exact hi s s' (by omega) (by omega) he)
      omega
    · have := ih N g (by
        intro s hs
        have h1 := h s hs
        have h2 : g s ≠ D := fun hq => hx ⟨s, hs, hq⟩
        omega) hi
      omega
