theorem l64_inj {a b : Nat} (ha : a < 18446744073709551616) (hb : b < 18446744073709551616) : (ql64 a = ql64 b) = (a = b) := by
  apply propext
  constructor
  · intro h
    have := congrArg lv h
    rwa [lv_l64 ha, lv_l64 hb] at this
  · intro h; rw [h]
theorem B_beginsOne {n pn m k : Nat} {f : Nat → Nat} {numbers : Nat → Int64} (hn : 100 < n) (hm : m ≤ 2000) (hpn : m ≤ pn) (hk : k ≤ 3000) (hf : ∀ i, i < m → f i < 4294967296) (hN : ∀ i, i < m → numbers i = ql64 (f i)) :
    f_B_beginsOne n pn numbers (nI m) (nI k) = some (nI (if 8 ≤ runL f k m then 1 else 0)) := by
  unfold f_B_beginsOne
  have e8 : nI k + 8 = nI (k + 8) := qn_add k 8
  have e1 : nI k + 1 = nI (k + 1) := qn_add k 1
  simp only [bnd]
  rw [e8, e1, ifle (by omega) (by omega)]
  by_cases c : k + 8 ≤ m
  · rw [if_pos c]
    have main : ∃ o, lp (fun v => f_B_beginsOne_l14 pn numbers (nI k) v) n (nI (k + 1)) = some o ∧ o = nI (if 8 ≤ runL f k m then 1 else 0) := by
      refine lp_inv (fun q w => ∃ j, j + q = 8 ∧ 1 ≤ j ∧ w = nI (k + j) ∧ ∀ i, i < j → f (k + i) = f k) _ ?_ 7 n _ ⟨1, by omega, by omega, rfl, fun i hi => by rw [show i = 0 by omega]; rfl⟩ (by omega)
      rintro q w ⟨j, g1, g2, g3, g4⟩
      subst g3
      unfold f_B_beginsOne_l14
      rw [e8, ifle (by omega) (by omega)]
      by_cases c2 : k + 8 ≤ k + j
      · have : j = 8 := by omega
        subst this
        exact Or.inr ⟨_, by rw [if_pos c2], by rw [if_pos (runL_8.mpr (Or.inl ⟨c, g4⟩))]; rfl⟩
      · rw [if_neg c2, gd_nI (by omega) (by omega), gd_nI (by omega) (by omega), qn_clamp (by omega), qn_clamp (by omega), hN _ (by omega), hN _ (by omega)]
        have h1 := hf (k + j) (by omega)
        have h2 := hf k (by omega)
        by_cases c3 : f (k + j) = f k
        · rw [if_pos (by rw [c3])]
          refine Or.inl ⟨_, rfl, q - 1, by omega, j + 1, by omega, by omega, qn_add _ 1, ?_⟩
          intro i hi
          by_cases ei : i = j
          · subst ei; exact c3
          · exact g4 i (by omega)
        · rw [if_neg (by rw [l64_inj (by omega) (by omega)]; exact c3)]
          refine Or.inr ⟨_, rfl, ?_⟩
          rw [if_neg]; · rfl
          intro h8
          rcases runL_8.mp h8 with ⟨_, h9⟩ | h9
          · exact c3 (h9 j (by omega))
          · omega
    obtain ⟨o, h1, h2⟩ := main
    rw [h1, h2]; rfl
  · rw [if_neg c, if_neg]; · rfl
    intro h8
    rcases runL_8.mp h8 with ⟨h9, _⟩ | h9
    · exact c h9
    · omega
theorem l64_2mul {a : Nat} (h : a < 2147483648) : (2 : Int64) * (nI a).toInt64 = ql64 (2 * a) := by
  rw [lI64 h]; exact l64_mul 2 a
theorem l64_2mul1 {a : Nat} (h : a < 2147483648) : (2 : Int64) * (nI a).toInt64 + 1 = ql64 (2 * a + 1) := by
  rw [l64_2mul h]; exact ql64_add _ 1
theorem w78 {w : Nat} (h : w < 1000000) : (nI w + 7) / 8 = nI ((w + 7) / 8) := by
  have e : nI w + 7 = nI (w + 7) := qn_add w 7
  rw [e]; exact nI_div (b := 8) (by omega) (by omega)
theorem B_putOne {n cap pn m k w : Nat} {f : Nat → Nat} {numbers : Nat → Int64} {L : List UInt8} {row : Nat → Int32} (hn : 100000 < n) (hm : m ≤ 2000) (hpn : m ≤ pn) (hk : k < m) (hw : w ≤ 64) (hf : ∀ i, i < m → f i < 4294967296) (hN : ∀ i, i < m → numbers i = ql64 (f i)) (hc : cap < 100000)
    (hL : L.length + (sVar (2 * runL f k m)).length + (w + 7) / 8 ≤ cap) (h : HC L row) :
    ∃ o, f_B_putOne n cap pn (nI L.length) row numbers (nI m) (nI k) (nI w) = some o ∧ o.1 = nI (k + runL f k m) ∧ QPC (L ++ (sVar (2 * runL f k m) ++ sFix (f k) ((w + 7) / 8))) o.2 := by
  unfold f_B_putOne
  have e1 : nI k + 1 = nI (k + 1) := qn_add k 1
  simp only [bnd]
  rw [e1]
  have hr := runL_le f k m
  have main : ∃ o, lp (fun v => f_B_putOne_l5 pn numbers (nI m) (nI k) v) n (nI (k + 1)) = some o ∧ o = nI (k + runL f k m) := by
    refine lp_inv (fun q w => ∃ j, k + j + q = m ∧ 1 ≤ j ∧ w = nI (k + j) ∧ ∀ i, i < j → f (k + i) = f k) _ ?_ (m - (k + 1)) n _ ⟨1, by omega, by omega, rfl, fun i hi => by rw [show i = 0 by omega]; rfl⟩ (by omega)
    rintro q w ⟨j, g1, g2, g3, g4⟩
    subst g3
    unfold f_B_putOne_l5
    rw [ifle (by omega) (by omega)]
    by_cases c2 : m ≤ k + j
    · refine Or.inr ⟨_, by rw [if_pos c2], ?_⟩
      have : j = runL f k m := comm_uniq (f := fun i => f (k + i)) (g := fun _ => f k) (by omega) g4 (fun h => by omega)
      rw [← this]
    · rw [if_neg c2, gd_nI (by omega) (by omega), gd_nI (by omega) (by omega), qn_clamp (by omega), qn_clamp (by omega), hN _ (by omega), hN _ (by omega)]
      have h1 := hf (k + j) (by omega)
      have h2 := hf k (by omega)
      by_cases c3 : f (k + j) = f k
      · rw [if_pos (by rw [c3])]
        refine Or.inl ⟨_, rfl, q - 1, by omega, j + 1, by omega, by omega, qn_add _ 1, ?_⟩
        intro i hi
        by_cases ei : i = j
        · subst ei; exact c3
        · exact g4 i (by omega)
      · rw [if_neg (by rw [l64_inj (by omega) (by omega)]; exact c3)]
        refine Or.inr ⟨_, rfl, ?_⟩
        have : j = runL f k m := comm_uniq (f := fun i => f (k + i)) (g := fun _ => f k) (by omega) g4 (fun _ => c3)
        rw [← this]
  obtain ⟨o, h1, h2⟩ := main
  rw [h1, obs, h2]
  unfold f_B_putOne_j28
  have e2 : nI (k + runL f k m) - nI k = nI (runL f k m) := by rw [nI_sub (by omega)]; congr 1; omega
  rw [e2, l64_2mul (by omega)]
  have hlv : lv (ql64 (2 * runL f k m)) = 2 * runL f k m := lv_l64 (by omega)
  obtain ⟨o1, p1, p2, p3⟩ := B_varint (n := n) (cap := cap) (L := L) (row := row) (ql64 (2 * runL f k m)) (by omega) (by omega) (by rw [hlv]; omega) h
  rw [hlv] at p2 p3
  rw [p1, obs, gd_nI (by omega) (by omega), qn_clamp (by omega), hN _ hk, w78 (by omega), p2]
  obtain ⟨o2, r1, r2⟩ := B_lowestFirst (n := n) (cap := cap) (L := L ++ sVar (2 * runL f k m)) (row := o1.2) (ql64 (f k)) (q := (w + 7) / 8) (by omega) (by omega) (by omega) (by simp; omega) p3
  rw [r1, obs]
  have hfk := hf k hk
  rw [lv_l64 (by omega), List.append_assoc] at r2
  exact ⟨_, rfl, rfl, r2⟩
theorem B_putGroups {n cap pn m k w : Nat} {f : Nat → Nat} {numbers : Nat → Int64} {L : List UInt8} {row : Nat → Int32} (hn : 100000 < n) (hm : m ≤ 2000) (hpn : m ≤ pn) (hk : k < m) (hw : w ≤ 32) (hf : ∀ i, i < m → f i < 2 ^ w) (hN : ∀ i, i < m → numbers i = ql64 (f i)) (hc : cap < 100000)
    (hL : L.length + (sVar (2 * ((gEnd f m (m + 1) (k + 8) - k) / 8) + 1)).length + w * ((gEnd f m (m + 1) (k + 8) - k) / 8) ≤ cap) (h : HC L row) :
    ∃ o, f_B_putGroups n cap pn (nI L.length) row numbers (nI m) (nI k) (nI w) = some o ∧ o.1 = nI (gEnd f m (m + 1) (k + 8)) ∧ QPC (L ++ (sVar (2 * ((gEnd f m (m + 1) (k + 8) - k) / 8) + 1) ++ sBits (pbit (fun i => f (k + i)) (m - k) w) (w * ((gEnd f m (m + 1) (k + 8) - k) / 8)))) o.2 := by
  have hf' : ∀ i, i < m → f i < 4294967296 := fun i hi => Nat.lt_of_lt_of_le (hf i hi) (Nat.pow_le_pow_right (n := 2) (by omega) hw)
  unfold f_B_putGroups
  have e1 : nI k + 8 = nI (k + 8) := qn_add k 8
  simp only [bnd]
  rw [e1]
  have hge := gEnd_ge f m (m + 1) (k + 8)
  have hle := gEnd_le f m (m + 1) (k + 8) (by omega)
  obtain ⟨jj, hjj⟩ := gEnd_mod f m (m + 1) (k + 8)
  have main : ∃ o, lp (fun v => f_B_putGroups_l6 n pn numbers (nI m) v) n (nI (k + 8)) = some o ∧ o = nI (gEnd f m (m + 1) (k + 8)) := by
    refine lp_inv (fun q w => ∃ e, w = nI e ∧ m - e ≤ q ∧ e < m + 8 ∧ gEnd f m (m + 1) e = gEnd f m (m + 1) (k + 8)) _ ?_ m n _ ⟨k + 8, rfl, by omega, by omega, rfl⟩ (by omega)
    rintro q w ⟨e, g1, g2, g3, g4⟩
    subst g1
    unfold f_B_putGroups_l6
    rw [ifle (by omega) (by omega)]
    by_cases c2 : m ≤ e
    · exact Or.inr ⟨_, by rw [if_pos c2], by rw [← g4, gEnd_here (Or.inl c2)]⟩
    · rw [if_neg c2, B_beginsOne (by omega) hm hpn (by omega) hf' hN, obs, ife0 (by split <;> omega)]
      by_cases c3 : 8 ≤ runL f e m
      · rw [if_neg (by rw [if_pos c3]; omega)]
        exact Or.inr ⟨_, rfl, by rw [← g4, gEnd_here (Or.inr c3)]⟩
      · rw [if_pos (by rw [if_neg c3])]
        refine Or.inl ⟨_, rfl, q - 1, by omega, e + 8, qn_add e 8, by omega, by omega, ?_⟩
        rw [← g4, gEnd_next (e := e)]
        rintro (h | h)
        · exact c2 h
        · exact c3 h
  obtain ⟨o, h1, h2⟩ := main
  rw [h1, obs, h2]
  generalize hE : gEnd f m (m + 1) (k + 8) = E at *
  unfold f_B_putGroups_j28
  simp only [bnd]
  have hG : (E - k) / 8 = jj + 1 := by omega
  have hEk : E - k = 8 * (jj + 1) := by omega
  have ediv : (nI E - nI k) / 8 = nI (jj + 1) := by
    rw [nI_sub (by omega), ← hG]; exact nI_div (b := 8) (by omega) (by omega)
  rw [hG] at hL ⊢
  rw [ediv, l64_2mul1 (by omega)]
  have hlv : lv (ql64 (2 * (jj + 1) + 1)) = 2 * (jj + 1) + 1 := lv_l64 (by omega)
  obtain ⟨o1, p1, p2, p3⟩ := B_varint (n := n) (cap := cap) (L := L) (row := row) (ql64 (2 * (jj + 1) + 1)) (by omega) (by omega) (by rw [hlv]; omega) h
  rw [hlv] at p2 p3
  have hmulc : (jj + 1) * w = w * (jj + 1) := Nat.mul_comm _ _
  rw [p1, obs, p2, nI_mul, hmulc]
  have e8 : (8 : Int32) * nI (L ++ sVar (2 * (jj + 1) + 1)).length = nI (8 * (L ++ sVar (2 * (jj + 1) + 1)).length) := nI_mul 8 _
  rw [e8]
  obtain ⟨o2, r1, r2, r3⟩ := B_zeros (n := n) (cap := cap) (k := w * (jj + 1)) (L := L ++ sVar (2 * (jj + 1) + 1)) (row := o1.2) hn hc (by simp only [List.length_append]; omega) p3
  rw [r1, obs, r2]
  generalize hM : L ++ sVar (2 * (jj + 1) + 1) = M at *
  have hlM : M.length = L.length + (sVar (2 * (jj + 1) + 1)).length := by rw [← hM]; simp
  have hlen : (M ++ List.replicate (w * (jj + 1)) 0).length = M.length + w * (jj + 1) := by simp
  have hlM2 : (M ++ List.replicate (w * (jj + 1)) 0).length = M.length + w * (jj + 1) := by simp
  rw [hlM2]
  have main2 : ∃ o, lp (fun v => f_B_putGroups_l71 n cap pn (nI (M.length + w * (jj + 1))) numbers (nI m) (nI k) (nI w) (nI E) (nI (8 * M.length)) v.1 v.2) n (o2.2, nI k) = some o ∧ o.1 = nI E ∧ QPC (M ++ sBits (pbit (fun i => f (k + i)) (m - k) w) (w * (jj + 1))) o.2 := by
    refine lp_inv (fun q u => ∃ (j : Nat) (L' : List UInt8), u.2 = nI (k + j) ∧ k + j + q = min E m ∧ Pack M (w * (jj + 1)) (fun i => f (k + i)) w j L' ∧ HC L' u.1) _ ?_ (min E m - k) n _ ⟨0, M ++ List.replicate (w * (jj + 1)) 0, rfl, by omega, Pack_0 _ _ _ _, r3⟩ (by omega)
    rintro q ⟨f', i'⟩ ⟨j, L', g1, g2, g3, g4⟩
    simp only at g1 g4
    subst g1
    show (∃ w', f_B_putGroups_l71 n cap pn _ numbers (nI m) (nI k) (nI w) (nI E) (nI (8 * M.length)) f' (nI (k + j)) = _ ∧ _) ∨ (∃ x, f_B_putGroups_l71 n cap pn _ numbers (nI m) (nI k) (nI w) (nI E) (nI (8 * M.length)) f' (nI (k + j)) = _ ∧ _)
    unfold f_B_putGroups_l71
    have fin : j = min E m - k → QPC (M ++ sBits (pbit (fun i => f (k + i)) (m - k) w) (w * (jj + 1))) (nI (M.length + w * (jj + 1)), f') := by
      intro hj
      have hLL := Pack_end (m := m - k) g3 (by
        intro r hr
        constructor
        · intro hx; omega
        · intro hx
          apply Classical.byContradiction
          intro hc
          have h1 : 8 * (jj + 1) ≤ r / w := by omega
          have h2 := Nat.div_mul_le_self r w
          have h3 := Nat.mul_le_mul_right w h1
          have h4 : 8 * (jj + 1) * w = 8 * (w * (jj + 1)) := by rw [Nat.mul_assoc, Nat.mul_comm (jj + 1) w]
          omega)
      rw [← hLL]
      exact ⟨by rw [g3.1], g4⟩
    rw [ifle (by omega) (by omega)]
    by_cases c1 : E ≤ k + j
    · rw [if_pos c1]
      exact Or.inr ⟨_, rfl, rfl, fin (by omega)⟩
    rw [if_neg c1, ifle (by omega) (by omega)]
    by_cases c2 : m ≤ k + j
    · rw [if_pos c2]
      exact Or.inr ⟨_, rfl, rfl, fin (by omega)⟩
    rw [if_neg c2, gd_nI (by omega) (by omega), qn_clamp (by omega), hN _ (by omega), nI_sub (show k ≤ k + j by omega), show k + j - k = j by omega, nI_mul, qn_add]
    have hfj := hf' (k + j) (by omega)
    obtain ⟨o', s1, L'', s2, s3⟩ := B_setPack (n := n) (cap := cap) (nb := w * (jj + 1)) (w := w) (j := j) (M := M) (L' := L') (g := fun i => f (k + i)) (row := f') (ql64 (f (k + j))) (by omega) hc (by omega) (by omega) (by
      have h1 : j + 1 ≤ 8 * (jj + 1) := by omega
      have h3 := Nat.mul_le_mul_right w h1
      have h4 : 8 * (jj + 1) * w = 8 * (w * (jj + 1)) := by rw [Nat.mul_assoc, Nat.mul_comm (jj + 1) w]
      omega) (fun i hi => hf (k + i) (by omega)) (lv_l64 (by omega)) g3 g4
    rw [s1, obs]
    exact Or.inl ⟨_, rfl, q - 1, by omega, j + 1, L'', qn_add _ 1, by omega, s2, s3⟩
  obtain ⟨o', s1, s2, s3⟩ := main2
  rw [s1, obs]
  refine ⟨o', rfl, s2, ?_⟩
  rw [← hM, List.append_assoc] at s3
  exact s3
theorem B_runs {n cap pn m w : Nat} {f : Nat → Nat} {numbers : Nat → Int64} {L : List UInt8} {row : Nat → Int32} (hn : 100000 < n) (hm : m ≤ 1000) (hpn : m ≤ pn) (hw : w ≤ 16) (hf : ∀ i, i < m → f i < 2 ^ w) (hN : ∀ i, i < m → numbers i = ql64 (f i)) (hc : cap < 100000)
    (hL : L.length + (sRuns f m w 0).length ≤ cap) (h : HC L row) :
    ∃ o, f_B_runs n cap pn (nI L.length) row numbers (nI m) (nI w) = some o ∧ QPC (L ++ sRuns f m w 0) o := by
  have hf' : ∀ i, i < m → f i < 4294967296 := fun i hi => Nat.lt_of_lt_of_le (hf i hi) (Nat.pow_le_pow_right (n := 2) (by omega) (show w ≤ 32 by omega))
  unfold f_B_runs
  have main : ∃ o, lp (fun v => f_B_runs_l6 n cap pn numbers (nI m) (nI w) v.1 v.2.1 v.2.2.1 v.2.2.2) n (nI L.length, row, (0 : Int32), (0 : Int32)) = some o ∧ QPC (L ++ sRuns f m w 0) o := by
    refine lp_inv (fun q u => ∃ (k r : Nat) (L' : List UInt8), u.2.2.1 = nI k ∧ u.2.2.2 = nI r ∧ r ≤ k ∧ k < m + 8 ∧ r + q = m + 8 ∧ QPC L' (u.1, u.2.1) ∧ L' ++ sRuns f m w k = L ++ sRuns f m w 0) _ ?_ (m + 8) n _ ⟨0, 0, L, rfl, rfl, by omega, by omega, by omega, ⟨rfl, h⟩, rfl⟩ (by omega)
    rintro q ⟨sz, rw', k', r'⟩ ⟨k, r, L', g1, g2, g3, g4, g5, ⟨g6, g7⟩, g8⟩
    simp only at g1 g2 g6 g7
    subst g1; subst g2; subst g6
    show (∃ w', f_B_runs_l6 n cap pn numbers (nI m) (nI w) (nI L'.length) rw' (nI k) (nI r) = _ ∧ _) ∨ (∃ x, f_B_runs_l6 n cap pn numbers (nI m) (nI w) (nI L'.length) rw' (nI k) (nI r) = _ ∧ _)
    unfold f_B_runs_l6
    have hlen := congrArg List.length g8
    simp only [List.length_append] at hlen
    have fin : m ≤ k → QPC (L ++ sRuns f m w 0) (nI L'.length, rw') := by
      intro hk
      rw [sRuns_end hk, List.append_nil] at g8
      rw [← g8]; exact ⟨rfl, g7⟩
    rw [ifle (by omega) (by omega)]
    by_cases c1 : m ≤ r
    · rw [if_pos c1]
      exact Or.inr ⟨_, rfl, fin (by omega)⟩
    rw [if_neg c1, ifle (by omega) (by omega)]
    by_cases c2 : m ≤ k
    · rw [if_pos c2]
      exact Or.inr ⟨_, rfl, fin c2⟩
    rw [if_neg c2, B_beginsOne (by omega) (by omega) hpn (by omega) hf' hN, obs, ife0 (by split <;> omega)]
    by_cases c3 : 8 ≤ runL f k m
    · have h1 := runL_le f k m
      rw [if_neg (by rw [if_pos c3]; omega)]
      rw [sRuns_one c2 c3] at g8 hlen
      simp only [List.length_append, sFix_len] at hlen
      obtain ⟨o, p1, p2, p3, p4⟩ := B_putOne (n := n) (cap := cap) (pn := pn) (m := m) (k := k) (w := w) (f := f) (numbers := numbers) (L := L') (row := rw') hn (by omega) hpn (by omega) (by omega) hf' hN hc (by omega) g7
      rw [p1, obs]
      refine Or.inl ⟨_, rfl, q - 1, by omega, k + runL f k m, r + 1, _, p2, qn_add r 1, by omega, by omega, by omega, ⟨p3, p4⟩, ?_⟩
      rw [← g8]; simp only [List.append_assoc]
    · have h1 := gEnd_ge f m (m + 1) (k + 8)
      have h2 := gEnd_le f m (m + 1) (k + 8) (by omega)
      rw [if_pos (by rw [if_neg c3])]
      rw [sRuns_grp c2 c3] at g8 hlen
      simp only [List.length_append, sBits_len] at hlen
      obtain ⟨o, p1, p2, p3, p4⟩ := B_putGroups (n := n) (cap := cap) (pn := pn) (m := m) (k := k) (w := w) (f := f) (numbers := numbers) (L := L') (row := rw') hn (by omega) hpn (by omega) (by omega) hf hN hc (by omega) g7
      rw [p1, obs]
      refine Or.inl ⟨_, rfl, q - 1, by omega, gEnd f m (m + 1) (k + 8), r + 1, _, p2, qn_add r 1, by omega, by omega, by omega, ⟨p3, p4⟩, ?_⟩
      rw [← g8]; simp only [List.append_assoc]
  obtain ⟨o, h1, h2⟩ := main
  rw [h1]
  exact ⟨o, rfl, h2⟩
