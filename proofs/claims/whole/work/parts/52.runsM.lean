theorem M_alike {n pn m k : Nat} {f : Nat → Nat} {row : Nat → Int32} (hn : 100000 < n) (hm : m ≤ 2000) (hpn : m ≤ pn) (hk : k < m) (hf : ∀ i, i < m → f i < 2147483648) (hN : ∀ i, i < m → row i = nI (f i)) :
    f_M_alike n pn row (nI k) (nI m) = some (nI (runL f k m)) := by
  unfold f_M_alike
  have main : ∃ o, lp (fun v => f_M_alike_l2 pn row (nI k) (nI m) v) n (nI k) = some o ∧ o = nI (runL f k m) := by
    refine lp_inv (fun q w => ∃ j, k + j + q = m ∧ w = nI (k + j) ∧ ∀ i, i < j → f (k + i) = f k) _ ?_ (m - k) n _ ⟨0, by omega, rfl, fun i hi => by omega⟩ (by omega)
    rintro q w ⟨j, g1, g3, g4⟩
    subst g3
    unfold f_M_alike_l2
    have es : nI (k + j) - nI k = nI j := by rw [nI_sub (by omega)]; congr 1; omega
    rw [ifle (by omega) (by omega), es]
    by_cases c2 : m ≤ k + j
    · refine Or.inr ⟨_, by rw [if_pos c2], ?_⟩
      have : j = runL f k m := comm_uniq (f := fun i => f (k + i)) (g := fun _ => f k) (by omega) g4 (fun h => by omega)
      rw [← this]
    · rw [if_neg c2, gd_nI (by omega) (by omega), gd_nI (by omega) (by omega), qn_clamp (by omega), qn_clamp (by omega), hN _ (by omega), hN _ (by omega)]
      have h1 := hf (k + j) (by omega)
      have h2 := hf k (by omega)
      by_cases c3 : f (k + j) = f k
      · rw [if_pos (by rw [c3])]
        refine Or.inl ⟨_, rfl, q - 1, by omega, j + 1, by omega, qn_add _ 1, ?_⟩
        intro i hi
        by_cases ei : i = j
        · subst ei; exact c3
        · exact g4 i (by omega)
      · rw [if_neg (by rw [nI_inj (by omega) (by omega)]; exact c3)]
        refine Or.inr ⟨_, rfl, ?_⟩
        have : j = runL f k m := comm_uniq (f := fun i => f (k + i)) (g := fun _ => f k) (by omega) g4 (fun _ => c3)
        rw [← this]
  obtain ⟨o, h1, h2⟩ := main
  rw [h1, h2]; rfl
theorem by8_sar {a s : Nat} (ha : a < 2147483648) (hs : s < 32) : by8 (nI a >>> (nI s &&& 31)) = UInt8.ofNat (a >>> s) := by
  rw [nI_shr ha hs, by8_nI, Nat.shiftRight_eq_div_pow]
theorem M_runOne_lp {n cap pn k w : Nat} {f : Nat → Nat} {row : Nat → Int32} {L : List UInt8} {out : Nat → Int32} (hn : 100000 < n) (hk : k < pn) (hk2 : k < 100000) (hw : w ≤ 32) (hf : f k < 2147483648) (hN : row k = nI (f k)) (hc : cap < 100000) (hL : L.length + (w + 7) / 8 ≤ cap) (h : QHM L out) :
    ∃ o, lp (fun v => f_M_writeRuns_l39 cap pn row (nI w) (nI k) v.1 v.2.1 v.2.2) n (nI L.length, out, (0 : Int32)) = some o ∧ QPM (L ++ sFix (f k) ((w + 7) / 8)) (o.1, o.2.1) := by
  refine lp_inv (fun q u => ∃ j, j + q = (w + 7) / 8 ∧ u.2.2 = nI (8 * j) ∧ QPM (L ++ sFix (f k) j) (u.1, u.2.1)) _ ?_ ((w + 7) / 8) n _ ⟨0, by omega, rfl, by simp [sFix, QPM, h]⟩ (by omega)
  rintro q ⟨sz, ou, j'⟩ ⟨j, g1, g2, g3, g4⟩
  simp only at g2 g3 g4
  subst g2; subst g3
  show (∃ w', f_M_writeRuns_l39 cap pn row (nI w) (nI k) (nI _) ou (nI (8 * j)) = _ ∧ _) ∨ (∃ x, f_M_writeRuns_l39 cap pn row (nI w) (nI k) (nI _) ou (nI (8 * j)) = _ ∧ _)
  unfold f_M_writeRuns_l39
  rw [ifle (by omega) (by omega)]
  by_cases c : w ≤ 8 * j
  · have : j = (w + 7) / 8 := by omega
    subst this
    exact Or.inr ⟨_, by rw [if_pos c], rfl, g4⟩
  · rw [if_neg c, gd_nI (by omega) hk, qn_clamp (by omega), hN]
    obtain ⟨o, p1, p2⟩ := M_put (cap := cap) (nI (f k) >>> (nI (8 * j) &&& 31)) (by omega) (by simp [sFix_len]; omega) g4
    rw [p1, obs]
    refine Or.inl ⟨_, rfl, q - 1, by omega, j + 1, by omega, qn_add _ 8, ?_⟩
    rw [by8_sar hf (by omega), List.append_assoc, ← sFix_succ] at p2
    exact p2
theorem M_bits8 {n pn m k w B : Nat} {f : Nat → Nat} {row : Nat → Int32} (hn : 100000 < n) (hm : m ≤ 2000) (hpn : m ≤ pn) (hk : k < m) (hw : 0 < w) (hw2 : w ≤ 32) (hB : B < 1000000) (hf : ∀ i, i < m → f i < 2147483648) (hN : ∀ i, i < m → row i = nI (f i)) :
    ∃ o, lp (fun v => f_M_writeRuns_l145 pn row (nI m) (nI w) (nI k) (nI B) v.1 v.2) n ((0 : Int32), (0 : Int32)) = some o ∧ o.1 = nI (qbN (fun i => pbit (fun i => f (k + i)) (m - k) w (B + i)) 8) := by
  refine lp_inv (fun q u => ∃ i, i + q = 8 ∧ u.2 = nI i ∧ u.1 = nI (qbN (fun i => pbit (fun i => f (k + i)) (m - k) w (B + i)) i)) _ ?_ 8 n _ ⟨0, by omega, rfl, rfl⟩ (by omega)
  rintro q ⟨b', i'⟩ ⟨i, g1, g2, g3⟩
  simp only at g2 g3
  subst g2; subst g3
  show (∃ w', f_M_writeRuns_l145 pn row (nI m) (nI w) (nI k) (nI B) (nI _) (nI i) = _ ∧ _) ∨ (∃ x, f_M_writeRuns_l145 pn row (nI m) (nI w) (nI k) (nI B) (nI _) (nI i) = _ ∧ _)
  unfold f_M_writeRuns_l145
  have e8 : (8 : Int32) = nI 8 := rfl
  rw [e8, ifle (by omega) (by omega)]
  by_cases c : 8 ≤ i
  · have : i = 8 := by omega
    subst this
    exact Or.inr ⟨_, by rw [if_pos c], rfl⟩
  · have hnz : nz (nI w) = true := by
      unfold nz
      have : ¬ nI w = 0 := by rw [QI0, nI_inj (by omega) (by omega)]; omega
      rw [decide_eq_false this]; rfl
    rw [if_neg c, gd_t hnz]
    simp only [bnd]
    have hdl : (B + i) / w ≤ B + i := Nat.div_le_self _ _
    have hml : (B + i) % w < w := Nat.mod_lt _ hw
    rw [qn_add, nI_mod (by omega) (by omega), nI_div (by omega) (by omega), qn_add, ifle (by omega) (by omega)]
    by_cases c2 : m ≤ k + (B + i) / w
    · rw [if_pos c2]
      refine Or.inl ⟨_, rfl, q - 1, by omega, i + 1, by omega, qn_add i 1, ?_⟩
      have hp : pbit (fun i => f (k + i)) (m - k) w (B + i) = false := by
        unfold pbit; rw [decide_eq_false (by omega)]; rfl
      simp only [qbN, hp]; rfl
    · rw [if_neg c2, gd_nI (by omega) (by omega), gd_t hnz, qn_clamp (by omega), hN _ (by omega), nI_ushr (hf _ (by omega)) (by omega), nI_and1, mod2_bit]
      refine Or.inl ⟨_, rfl, q - 1, by omega, i + 1, by omega, qn_add i 1, ?_⟩
      show nI _ ||| nI _ <<< (nI i &&& 31) = _
      rw [nI_shl1 (by split <;> omega) (by omega), nI_or]
      have hp : pbit (fun i => f (k + i)) (m - k) w (B + i) = (f (k + (B + i) / w)).testBit ((B + i) % w) := by
        unfold pbit; rw [decide_eq_true (by omega)]; rfl
      rw [← bN_or, hp]
theorem M_runGrp_lp {n cap pn m k w G : Nat} {f : Nat → Nat} {row : Nat → Int32} {L : List UInt8} {out : Nat → Int32} (hn : 100000 < n) (hm : m ≤ 2000) (hpn : m ≤ pn) (hk : k < m) (hw2 : w ≤ 32) (hG : G ≤ 1000) (hf : ∀ i, i < m → f i < 2147483648) (hN : ∀ i, i < m → row i = nI (f i)) (hc : cap < 100000) (hL : L.length + w * G ≤ cap) (h : QHM L out) :
    ∃ o, lp (fun v => f_M_writeRuns_l127 n cap pn row (nI m) (nI w) (nI k) (nI G) v.1 v.2.1 v.2.2) n (nI L.length, out, (0 : Int32)) = some o ∧ QPM (L ++ sBits (pbit (fun i => f (k + i)) (m - k) w) (w * G)) (o.1, o.2.1) := by
  refine lp_inv (fun q u => ∃ j, j + q = w * G ∧ u.2.2 = nI (8 * j) ∧ QPM (L ++ sBits (pbit (fun i => f (k + i)) (m - k) w) j) (u.1, u.2.1)) _ ?_ (w * G) n _ ⟨0, by omega, rfl, by simp [sBits, QPM, h]⟩ (by omega)
  rintro q ⟨sz, ou, j'⟩ ⟨j, g1, g2, g3, g4⟩
  simp only at g2 g3 g4
  subst g2; subst g3
  show (∃ w', f_M_writeRuns_l127 n cap pn row (nI m) (nI w) (nI k) (nI G) (nI _) ou (nI (8 * j)) = _ ∧ _) ∨ (∃ x, f_M_writeRuns_l127 n cap pn row (nI m) (nI w) (nI k) (nI G) (nI _) ou (nI (8 * j)) = _ ∧ _)
  unfold f_M_writeRuns_l127
  have e8 : (8 : Int32) = nI 8 := rfl
  rw [e8, nI_mul, nI_mul, Nat.mul_assoc, ifle (by omega) (by omega)]
  by_cases c : 8 * (w * G) ≤ 8 * j
  · have : j = w * G := by omega
    subst this
    exact Or.inr ⟨_, by rw [if_pos c], rfl, g4⟩
  · rw [if_neg c]
    have hw0 : 0 < w := by
      apply Classical.byContradiction
      intro h0
      have : w = 0 := by omega
      subst this
      rw [Nat.zero_mul] at c; omega
    obtain ⟨o, p1, p2⟩ := M_bits8 (n := n) (pn := pn) (m := m) (k := k) (w := w) (B := 8 * j) (f := f) (row := row) hn hm hpn hk hw0 hw2 (by omega) hf hN
    rw [p1, obs]
    unfold f_M_writeRuns_j198
    rw [p2]
    obtain ⟨o', r1, r2⟩ := M_put (cap := cap) (nI (qbN (fun i => pbit (fun i => f (k + i)) (m - k) w (8 * j + i)) 8)) (by omega) (by simp [sBits_len]; omega) g4
    rw [r1, obs]
    refine Or.inl ⟨_, rfl, q - 1, by omega, j + 1, by omega, qn_add _ 8, ?_⟩
    rw [by8_nI, List.append_assoc] at r2
    rw [sBits_succ]
    exact r2
theorem M_writeRuns {n cap pn m w : Nat} {f : Nat → Nat} {row : Nat → Int32} {L : List UInt8} {out : Nat → Int32} (hn : 100000 < n) (hm : m ≤ 1000) (hpn : m ≤ pn) (hw : w ≤ 16) (hf : ∀ i, i < m → f i < 2147483648) (hN : ∀ i, i < m → row i = nI (f i)) (hc : cap < 100000)
    (hL : L.length + (sRuns f m w 0).length ≤ cap) (h : QHM L out) :
    ∃ o, f_M_writeRuns n cap pn (nI L.length) out row (nI m) (nI w) = some o ∧ QPM (L ++ sRuns f m w 0) o := by
  unfold f_M_writeRuns
  have main : ∃ o, lp (fun v => f_M_writeRuns_l3 n cap pn row (nI m) (nI w) v.1 v.2.1 v.2.2) n (nI L.length, out, (0 : Int32)) = some o ∧ QPM (L ++ sRuns f m w 0) o := by
    refine lp_inv (fun q u => ∃ (k : Nat) (L' : List UInt8), u.2.2 = nI k ∧ k < m + 8 ∧ m - k ≤ q ∧ QPM L' (u.1, u.2.1) ∧ L' ++ sRuns f m w k = L ++ sRuns f m w 0) _ ?_ m n _ ⟨0, L, rfl, by omega, by omega, ⟨rfl, h⟩, rfl⟩ (by omega)
    rintro q ⟨sz, rw', k'⟩ ⟨k, L', g1, g4, g5, ⟨g6, g7⟩, g8⟩
    simp only at g1 g6 g7
    subst g1; subst g6
    show (∃ w', f_M_writeRuns_l3 n cap pn row (nI m) (nI w) (nI L'.length) rw' (nI k) = _ ∧ _) ∨ (∃ x, f_M_writeRuns_l3 n cap pn row (nI m) (nI w) (nI L'.length) rw' (nI k) = _ ∧ _)
    unfold f_M_writeRuns_l3
    have hlen := congrArg List.length g8
    simp only [List.length_append] at hlen
    rw [ifle (by omega) (by omega)]
    by_cases c2 : m ≤ k
    · rw [if_pos c2]
      rw [sRuns_end c2, List.append_nil] at g8
      exact Or.inr ⟨_, rfl, by rw [← g8]; exact ⟨rfl, g7⟩⟩
    have hr := runL_le f k m
    have e8 : (8 : Int32) = nI 8 := rfl
    rw [if_neg c2, M_alike hn (by omega) hpn (by omega) hf hN, obs, e8, ifl (by omega) (by omega)]
    by_cases c3 : 8 ≤ runL f k m
    · rw [if_neg (show ¬ runL f k m < 8 by omega), l64_2mul (by omega)]
      rw [sRuns_one c2 c3] at g8 hlen
      simp only [List.length_append, sFix_len] at hlen
      have hlv : lv (ql64 (2 * runL f k m)) = 2 * runL f k m := lv_l64 (by omega)
      obtain ⟨o1, p1, p2, p3⟩ := M_putVarint (n := n) (cap := cap) (L := L') (row := rw') (ql64 (2 * runL f k m)) (by omega) (by omega) (by rw [hlv]; omega) g7
      rw [hlv] at p2 p3
      rw [p1, obs, p2]
      obtain ⟨o2, r1, r2⟩ := M_runOne_lp (n := n) (cap := cap) (pn := pn) (k := k) (w := w) (f := f) (row := row) (L := L' ++ sVar (2 * runL f k m)) (out := o1.2) hn (by omega) (by omega) (by omega) (hf k (by omega)) (hN k (by omega)) hc (by simp; omega) p3
      rw [r1, obs]
      unfold f_M_writeRuns_j62
      refine Or.inl ⟨_, rfl, q - 8, by omega, k + runL f k m, _, qn_add _ _, by omega, by omega, r2, ?_⟩
      rw [← g8]; simp only [List.append_assoc]
    · rw [if_pos (show runL f k m < 8 by omega)]
      rw [sRuns_grp c2 c3] at g8 hlen
      have h1 := gEnd_ge f m (m + 1) (k + 8)
      have h2 := gEnd_le f m (m + 1) (k + 8) (by omega)
      obtain ⟨jj, hjj⟩ := gEnd_mod f m (m + 1) (k + 8)
      have hG : (gEnd f m (m + 1) (k + 8) - k) / 8 = jj + 1 := by omega
      rw [hG] at g8 hlen
      simp only [List.length_append, sBits_len] at hlen
      have main3 : ∃ o, lp (fun v => f_M_writeRuns_l75 n pn row (nI m) (nI k) v) n (1 : Int32) = some o ∧ o = nI (jj + 1) := by
        refine lp_inv (fun q w => ∃ e, w = nI e ∧ 1 ≤ e ∧ m - (k + 8 * e) ≤ q ∧ k + 8 * e < m + 8 ∧ gEnd f m (m + 1) (k + 8 * e) = gEnd f m (m + 1) (k + 8)) _ ?_ m n _ ⟨1, rfl, by omega, by omega, by omega, rfl⟩ (by omega)
        rintro q w ⟨e, a1, a5, a2, a3, a4⟩
        subst a1
        unfold f_M_writeRuns_l75
        rw [e8, nI_mul, qn_add, ifle (by omega) (by omega)]
        by_cases c4 : m ≤ k + 8 * e
        · refine Or.inr ⟨_, by rw [if_pos c4], ?_⟩
          rw [gEnd_here (Or.inl c4)] at a4
          congr 1; omega
        · have hre := runL_le f (k + 8 * e) m
          rw [if_neg c4, M_alike hn (by omega) hpn (by omega) hf hN, obs, ifle (by omega) (by omega)]
          by_cases c5 : 8 ≤ runL f (k + 8 * e) m
          · rw [if_pos c5]
            refine Or.inr ⟨_, rfl, ?_⟩
            rw [gEnd_here (Or.inr c5)] at a4
            congr 1; omega
          · rw [if_neg c5]
            refine Or.inl ⟨_, rfl, q - 1, by omega, e + 1, qn_add e 1, by omega, by omega, by omega, ?_⟩
            rw [← a4, gEnd_next (e := k + 8 * e)]
            · congr 1
            · rintro (h | h)
              · exact c4 h
              · exact c5 h
      obtain ⟨o0, s1, s2⟩ := main3
      rw [s1, obs, s2]
      unfold f_M_writeRuns_j111
      rw [l64_2mul1 (by omega)]
      have hlv : lv (ql64 (2 * (jj + 1) + 1)) = 2 * (jj + 1) + 1 := lv_l64 (by omega)
      obtain ⟨o1, p1, p2, p3⟩ := M_putVarint (n := n) (cap := cap) (L := L') (row := rw') (ql64 (2 * (jj + 1) + 1)) (by omega) (by omega) (by rw [hlv]; omega) g7
      rw [hlv] at p2 p3
      rw [p1, obs, p2]
      obtain ⟨o2, r1, r2⟩ := M_runGrp_lp (n := n) (cap := cap) (pn := pn) (m := m) (k := k) (w := w) (G := jj + 1) (f := f) (row := row) (L := L' ++ sVar (2 * (jj + 1) + 1)) (out := o1.2) hn (by omega) hpn (by omega) (by omega) (by omega) hf hN hc (by simp; omega) p3
      rw [r1, obs]
      unfold f_M_writeRuns_j210
      simp only [bnd]
      rw [e8, nI_mul, qn_add, show k + 8 * (jj + 1) = gEnd f m (m + 1) (k + 8) by omega]
      refine Or.inl ⟨_, rfl, q - 1, by omega, gEnd f m (m + 1) (k + 8), _, rfl, by omega, by omega, r2, ?_⟩
      rw [← g8]; simp only [List.append_assoc]
  obtain ⟨o, h1, h2⟩ := main
  rw [h1]
  exact ⟨o, rfl, h2⟩
