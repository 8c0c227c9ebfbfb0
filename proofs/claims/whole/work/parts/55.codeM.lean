theorem M_difference {ln m k : Nat} {a longs : Nat → Int64} (hm : m ≤ 2000) (hln : m ≤ ln) (hN : ∀ k, k < m → longs k = a k) (hk : k + 1 < m) : f_M_difference ln longs (nI k) = some (dif a k) := by
  unfold f_M_difference
  have e1 : nI k + 1 = nI (k + 1) := qn_add k 1
  rw [e1, gd_nI (by omega) (by omega), gd_nI (by omega) (by omega), qn_clamp (by omega), qn_clamp (by omega), hN _ (by omega), hN _ (by omega)]
  rfl
theorem M_wd_lp {n ln m k w : Nat} {a longs : Nat → Int64} (least : Int64) (hn : 100000 < n) (hm : m ≤ 2000) (hln : m ≤ ln) (hN : ∀ k, k < m → longs k = a k) (hk : k + 1 < m) (hw : w ≤ 64) :
    ∃ o, lp (fun v => f_M_widthOf_l21 ln longs least (nI k) v) n (nI w) = some o ∧ o = nI (max w (wd (ab a least k))) := by
  have h64 : wd (ab a least k) ≤ 64 := wd_le (ab_lt a least k)
  refine lp_inv (fun q u => ∃ j, j + q = 64 ∧ u = nI j ∧ w ≤ j ∧ j ≤ max w (wd (ab a least k))) _ ?_ (64 - w) n _ ⟨w, by omega, rfl, by omega, by omega⟩ (by omega)
  rintro q u ⟨j, g1, g2, g4, g3⟩
  subst g2
  unfold f_M_widthOf_l21
  have e : (64 : Int32) = nI 64 := rfl
  rw [e, ifle (by omega) (by omega)]
  by_cases c : 64 ≤ j
  · exact Or.inr ⟨_, by rw [if_pos c], by congr 1; omega⟩
  · rw [if_neg c, M_difference hm hln hN hk, obs]
    have hz : ((((dif a k - least).toUInt64 >>> ((nI j).toInt64.toUInt64 &&& Int64.toUInt64 63)).toInt64) = 0) ↔ wd (ab a least k) ≤ j := by
      rw [lv_zero, lv_shr, lv_nI (by omega), Nat.mod_eq_of_lt (by omega), shr_zero_iff]; rfl
    by_cases c2 : wd (ab a least k) ≤ j
    · rw [if_pos (hz.mpr c2)]
      exact Or.inr ⟨_, rfl, by congr 1; omega⟩
    · rw [if_neg (fun h => c2 (hz.mp h))]
      exact Or.inl ⟨_, rfl, q - 1, by omega, j + 1, by omega, qn_add j 1, by omega, by omega⟩
theorem M_widthOf {n ln m s e q : Nat} {a longs : Nat → Int64} (least : Int64) (hn : 100000 < n) (hm : m ≤ 2000) (hln : m ≤ ln) (hN : ∀ k, k < m → longs k = a k) (he : e + 1 ≤ m) (hq : q ≤ 3) (hs : s ≤ 2000) :
    f_M_widthOf n ln longs (nI (s + 16 * q)) (nI e) least = some (nI (pw a least s e q)) := by
  have hpc16 : pc s e q ≤ 16 := by unfold pc; omega
  unfold f_M_widthOf
  have main : ∃ o, lp (fun v => f_M_widthOf_l6 n ln longs (nI (s + 16 * q)) (nI e) least v.1 v.2) n ((0 : Int32), nI (s + 16 * q)) = some o ∧ o = nI (pw a least s e q) := by
    refine lp_inv (fun x u => ∃ j, j + x = pc s e q ∧ u.2 = nI (s + 16 * q + j) ∧ u.1 = nI (mw (fun i => ab a least (s + 16 * q + i)) j)) _ ?_ (pc s e q) n _ ⟨0, by omega, rfl, rfl⟩ (by omega)
    rintro x ⟨b, k'⟩ ⟨j, g1, g2, g3⟩
    simp only at g2 g3
    subst g2; subst g3
    show (∃ w', f_M_widthOf_l6 n ln longs (nI (s + 16 * q)) (nI e) least (nI _) (nI (s + 16 * q + j)) = _ ∧ _) ∨ (∃ y, f_M_widthOf_l6 n ln longs (nI (s + 16 * q)) (nI e) least (nI _) (nI (s + 16 * q + j)) = _ ∧ _)
    unfold f_M_widthOf_l6
    have e16 : nI (s + 16 * q) + 16 = nI (s + 16 * q + 16) := qn_add _ 16
    have hmw : mw (fun i => ab a least (s + 16 * q + i)) j ≤ 64 := mw_le (fun i _ => ab_lt a least _)
    rw [e16, ifle (by omega) (by omega)]
    by_cases c : s + 16 * q + 16 ≤ s + 16 * q + j
    · rw [if_pos c]
      have : j = pc s e q := by omega
      subst this
      exact Or.inr ⟨_, rfl, rfl⟩
    rw [if_neg c, ifle (by omega) (by omega)]
    by_cases c2 : e ≤ s + 16 * q + j
    · rw [if_pos c2]
      have : j = pc s e q := by unfold pc at g1 ⊢; omega
      subst this
      exact Or.inr ⟨_, rfl, rfl⟩
    · rw [if_neg c2]
      obtain ⟨o, p1, p2⟩ := M_wd_lp (n := n) (ln := ln) (m := m) (k := s + 16 * q + j) (w := mw (fun i => ab a least (s + 16 * q + i)) j) (a := a) (longs := longs) least hn hm hln hN (by omega) hmw
      rw [p1, obs, p2]
      have hj : j < pc s e q := by unfold pc; omega
      exact Or.inl ⟨_, rfl, x - 1, by omega, j + 1, by omega, qn_add _ 1, rfl⟩
  obtain ⟨o, h1, h2⟩ := main
  rw [h1, h2]; rfl
theorem one_bit (v : Int64) {k : Nat} (hk : k < 64) : ((v.toUInt64 >>> ((nI k).toInt64.toUInt64 &&& Int64.toUInt64 63)).toInt64 &&& 1).toInt32 = nI (if (lv v).testBit k then 1 else 0) := by
  have h1 : lv ((v.toUInt64 >>> ((nI k).toInt64.toUInt64 &&& Int64.toUInt64 63)).toInt64 &&& 1) = if (lv v).testBit k then 1 else 0 := by
    rw [lv_and, lv_shr, lv_nI (by omega), Nat.mod_eq_of_lt hk, ← mod2_bit]
    have : lv 1 = 2 ^ 1 - 1 := rfl
    rw [this, Nat.and_two_pow_sub_one_eq_mod]
  generalize (v.toUInt64 >>> ((nI k).toInt64.toUInt64 &&& Int64.toUInt64 63)).toInt64 &&& 1 = z at h1
  rw [← l64_lv z, h1]
  split <;> rfl
theorem M_pbits8 {n ln m s e q w B : Nat} {a longs : Nat → Int64} (least : Int64) (hn : 100000 < n) (hm : m ≤ 2000) (hln : m ≤ ln) (hN : ∀ k, k < m → longs k = a k) (he : e + 1 ≤ m) (hq : q ≤ 3) (hs : s ≤ 2000) (hw : 0 < w) (hw2 : w ≤ 64) (hB : B + 8 ≤ 16 * w) :
    ∃ o, lp (fun v => f_M_writePart_l19 ln longs (nI (s + 16 * q)) (nI e) least (nI w) (nI B) v.1 v.2) n ((0 : Int32), (0 : Int32)) = some o ∧ o.1 = nI (qbN (fun i => pbit (fun i => ab a least (s + 16 * q + i)) (pc s e q) w (B + i)) 8) := by
  refine lp_inv (fun x u => ∃ i, i + x = 8 ∧ u.2 = nI i ∧ u.1 = nI (qbN (fun i => pbit (fun i => ab a least (s + 16 * q + i)) (pc s e q) w (B + i)) i)) _ ?_ 8 n _ ⟨0, by omega, rfl, rfl⟩ (by omega)
  rintro x ⟨b', i'⟩ ⟨i, g1, g2, g3⟩
  simp only at g2 g3
  subst g2; subst g3
  show (∃ w', f_M_writePart_l19 ln longs (nI (s + 16 * q)) (nI e) least (nI w) (nI B) (nI _) (nI i) = _ ∧ _) ∨ (∃ y, f_M_writePart_l19 ln longs (nI (s + 16 * q)) (nI e) least (nI w) (nI B) (nI _) (nI i) = _ ∧ _)
  unfold f_M_writePart_l19
  have e8 : (8 : Int32) = nI 8 := rfl
  rw [e8, ifle (by omega) (by omega)]
  by_cases c : 8 ≤ i
  · have : i = 8 := by omega
    subst this
    exact Or.inr ⟨_, by rw [if_pos c], rfl⟩
  · have hnz : nz (nI w) = true := by
      unfold nz
      have : ¬ nI w = 0 := by rw [QI0, nI_inj (by omega) (by omega)]; omega
      rw [decide_eq_false this]; rfl
    rw [if_neg c, gd_t hnz]
    simp only [bnd]
    have hdl : (B + i) / w < 16 := Nat.div_lt_of_lt_mul (by rw [Nat.mul_comm]; omega)
    have hml : (B + i) % w < w := Nat.mod_lt _ hw
    have hpb : pbit (fun i => ab a least (s + 16 * q + i)) (pc s e q) w (B + i) = (decide ((B + i) / w < pc s e q) && (ab a least (s + 16 * q + (B + i) / w)).testBit ((B + i) % w)) := rfl
    rw [qn_add, nI_mod (by omega) (by omega), nI_div (by omega) (by omega), qn_add]
    generalize (B + i) / w = D at *
    generalize (B + i) % w = R at *
    rw [ifle (by omega) (by omega)]
    by_cases c2 : e ≤ s + 16 * q + D
    · rw [if_pos c2]
      refine Or.inl ⟨_, rfl, x - 1, by omega, i + 1, by omega, qn_add i 1, ?_⟩
      rw [decide_eq_false (show ¬ D < pc s e q by unfold pc; omega)] at hpb
      simp only [qbN, hpb]; rfl
    · rw [if_neg c2, M_difference hm hln hN (by omega), obs, gd_t hnz, one_bit _ (by omega), nI_shl1 (by split <;> omega) (by omega), nI_or]
      refine Or.inl ⟨_, rfl, x - 1, by omega, i + 1, by omega, qn_add i 1, ?_⟩
      rw [decide_eq_true (show D < pc s e q by unfold pc; omega), Bool.true_and] at hpb
      rw [← bN_or, hpb]; rfl
theorem M_writePart {n ln cap m s e q : Nat} {a longs : Nat → Int64} {L : List UInt8} {out : Nat → Int32} (least : Int64) (hn : 100000 < n) (hm : m ≤ 2000) (hln : m ≤ ln) (hN : ∀ k, k < m → longs k = a k) (he : e + 1 ≤ m) (hq : q ≤ 3) (hs : s ≤ 2000) (hc : cap < 100000) (hL : L.length + 2 * pw a least s e q ≤ cap) (h : QHM L out) :
    ∃ o, f_M_writePart n ln cap (nI L.length) longs out (nI (s + 16 * q)) (nI e) least (nI (pw a least s e q)) = some o ∧ QPM (L ++ sPart a least s e q) o := by
  unfold f_M_writePart sPart
  have hw64 := pw_le64 a least s e q
  generalize pw a least s e q = w at hw64 hL ⊢
  have main : ∃ o, lp (fun v => f_M_writePart_l3 n ln cap longs (nI (s + 16 * q)) (nI e) least (nI w) v.1 v.2.1 v.2.2) n (nI L.length, out, (0 : Int32)) = some o ∧ QPM (L ++ sBits (pbit (fun i => ab a least (s + 16 * q + i)) (pc s e q) w) (2 * w)) o := by
    refine lp_inv (fun x u => ∃ j, j + x = 2 * w ∧ u.2.2 = nI (8 * j) ∧ QPM (L ++ sBits (pbit (fun i => ab a least (s + 16 * q + i)) (pc s e q) w) j) (u.1, u.2.1)) _ ?_ (2 * w) n _ ⟨0, by omega, rfl, by simp [sBits, QPM, h]⟩ (by omega)
    rintro x ⟨sz, ou, j'⟩ ⟨j, g1, g2, g3, g4⟩
    simp only at g2 g3 g4
    subst g2; subst g3
    show (∃ w', f_M_writePart_l3 n ln cap longs (nI (s + 16 * q)) (nI e) least (nI w) (nI _) ou (nI (8 * j)) = _ ∧ _) ∨ (∃ y, f_M_writePart_l3 n ln cap longs (nI (s + 16 * q)) (nI e) least (nI w) (nI _) ou (nI (8 * j)) = _ ∧ _)
    unfold f_M_writePart_l3
    have e16 : (16 : Int32) * nI w = nI (16 * w) := nI_mul 16 w
    rw [e16, ifle (by omega) (by omega)]
    by_cases c : 16 * w ≤ 8 * j
    · have : j = 2 * w := by omega
      subst this
      exact Or.inr ⟨_, by rw [if_pos c], rfl, g4⟩
    · rw [if_neg c]
      obtain ⟨o, p1, p2⟩ := M_pbits8 (n := n) (ln := ln) (m := m) (s := s) (e := e) (q := q) (w := w) (B := 8 * j) (a := a) (longs := longs) least hn hm hln hN he hq hs (by omega) hw64 (by omega)
      rw [p1, obs]
      unfold f_M_writePart_j78
      rw [p2]
      obtain ⟨o', r1, r2⟩ := M_put (cap := cap) (nI (qbN (fun i => pbit (fun i => ab a least (s + 16 * q + i)) (pc s e q) w (8 * j + i)) 8)) (by omega) (by simp [sBits_len]; omega) g4
      rw [r1, obs]
      refine Or.inl ⟨_, rfl, x - 1, by omega, j + 1, by omega, qn_add _ 8, ?_⟩
      rw [by8_nI, List.append_assoc] at r2
      rw [sBits_succ]
      exact r2
  obtain ⟨o, h1, h2⟩ := main
  rw [h1]
  exact ⟨o, rfl, h2⟩
def sParts (a : Nat → Int64) (least : Int64) (s e : Nat) : Nat → List UInt8
  | 0 => []
  | q + 1 => sParts a least s e q ++ sPart a least s e q
def sWids (a : Nat → Int64) (least : Int64) (s e : Nat) : Nat → List UInt8
  | 0 => []
  | q + 1 => sWids a least s e q ++ [UInt8.ofNat (pw a least s e q)]
theorem sWids_len (a : Nat → Int64) (least : Int64) (s e q : Nat) : (sWids a least s e q).length = q := by
  induction q with
  | zero => rfl
  | succ q ih => simp [sWids, ih]
theorem sBlk_eq (a : Nat → Int64) (s e : Nat) (least : Int64) : sBlk a s e least = sVar (lv (zz least)) ++ sWids a least s e 4 ++ sParts a least s e 4 := by
  simp [sBlk, sWids, sParts]
theorem sPart_nil {a : Nat → Int64} {least : Int64} {s e q : Nat} (h : e ≤ s + 16 * q) : sPart a least s e q = [] := by
  have h1 : pc s e q = 0 := by unfold pc; omega
  have h2 : pw a least s e q = 0 := by unfold pw; rw [h1]; rfl
  unfold sPart; rw [h2]; rfl
theorem sParts_len_le (a : Nat → Int64) (least : Int64) (s e : Nat) {q q' : Nat} (h : q ≤ q') : (sParts a least s e q).length ≤ (sParts a least s e q').length := by
  induction q' with
  | zero => have : q = 0 := by omega
            subst this; exact Nat.le_refl _
  | succ k ih =>
    by_cases e' : q = k + 1
    · subst e'; exact Nat.le_refl _
    · have := ih (by omega); simp only [sParts, List.length_append]; omega
theorem sParts_stop {a : Nat → Int64} {least : Int64} {s e q q' : Nat} (h : e ≤ s + 16 * q) (hq : q ≤ q') : sParts a least s e q' = sParts a least s e q := by
  induction q' with
  | zero => have : q = 0 := by omega
            subst this; rfl
  | succ k ih =>
    by_cases e' : q = k + 1
    · subst e'; rfl
    · simp only [sParts]; rw [sPart_nil (by omega), List.append_nil, ih (by omega)]
theorem M_writeBlk {n ln cap m s e : Nat} {a longs : Nat → Int64} {L : List UInt8} {out : Nat → Int32} (hn : 100000 < n) (hm : m ≤ 2000) (hln : m ≤ ln) (hN : ∀ k, k < m → longs k = a k) (he : e + 1 ≤ m) (hs : s < e) (he64 : e ≤ s + 64) (hc : cap < 100000)
    (hL : L.length + (sBlk a s e (qlst a s (e - s))).length ≤ cap) (h : QHM L out) :
    ∃ o, f_M_writeLongs_j67 n ln cap (nI L.length) longs out (nI s) (nI e) = some (Sum.inl o) ∧ o.2.2 = nI (s + 64) ∧ QPM (L ++ sBlk a s e (qlst a s (e - s))) (o.1, o.2.1) := by
  unfold f_M_writeLongs_j67
  rw [M_difference hm hln hN (by omega), obs]
  have main : ∃ o, lp (fun v => f_M_writeLongs_l77 ln longs (nI e) v.1 v.2) n (dif a s, nI s) = some o ∧ o.1 = qlst a s (e - s) := by
    refine lp_inv (fun x u => ∃ j, j + x = e - s ∧ u.2 = nI (s + j) ∧ u.1 = qlst a s j) _ ?_ (e - s) n _ ⟨0, by omega, rfl, rfl⟩ (by omega)
    rintro x ⟨b, k'⟩ ⟨j, g1, g2, g3⟩
    simp only at g2 g3
    subst g2; subst g3
    show (∃ w', f_M_writeLongs_l77 ln longs (nI e) (qlst a s j) (nI (s + j)) = _ ∧ _) ∨ (∃ y, f_M_writeLongs_l77 ln longs (nI e) (qlst a s j) (nI (s + j)) = _ ∧ _)
    unfold f_M_writeLongs_l77
    rw [ifle (by omega) (by omega)]
    by_cases c : e ≤ s + j
    · have : j = e - s := by omega
      subst this
      exact Or.inr ⟨_, by rw [if_pos c], rfl⟩
    · rw [if_neg c, M_difference hm hln hN (by omega), obs, obs]
      by_cases c2 : qlst a s j ≤ dif a (s + j)
      · rw [if_pos c2]
        refine Or.inl ⟨_, rfl, x - 1, by omega, j + 1, by omega, qn_add _ 1, ?_⟩
        simp only [qlst]
        rw [if_neg]
        rw [Int64.le_iff_toInt_le] at c2
        rw [Int64.lt_iff_toInt_lt]; omega
      · rw [if_neg c2]
        refine Or.inl ⟨_, rfl, x - 1, by omega, j + 1, by omega, qn_add _ 1, ?_⟩
        simp only [qlst]
        rw [if_pos]
        rw [Int64.le_iff_toInt_le] at c2
        rw [Int64.lt_iff_toInt_lt]; omega
  obtain ⟨o, h1, h2⟩ := main
  rw [h1, obs, h2]
  generalize hlst : qlst a s (e - s) = least at *
  unfold f_M_writeLongs_j111
  rw [M_zigzag, obs]
  rw [sBlk_eq] at hL ⊢
  simp only [List.length_append, sWids_len] at hL
  obtain ⟨o1, p1, p2, p3⟩ := M_putVarint (n := n) (cap := cap) (L := L) (row := out) (zz least) (by omega) (by omega) (by omega) h
  generalize hV : sVar (lv (zz least)) = V at *
  rw [p1, obs, p2]
  have hLV : (L ++ V).length = L.length + V.length := by simp
  have main2 : ∃ o, lp (fun v => f_M_writeLongs_l122 n ln cap longs (nI s) (nI e) least v.1 v.2.1 v.2.2) n (nI (L ++ V).length, o1.2, nI s) = some o ∧ QPM (L ++ V ++ sWids a least s e 4) (o.1, o.2.1) := by
    refine lp_inv (fun x u => ∃ q, q + x = 4 ∧ u.2.2 = nI (s + 16 * q) ∧ QPM (L ++ V ++ sWids a least s e q) (u.1, u.2.1)) _ ?_ 4 n _ ⟨0, by omega, rfl, by simp [sWids, QPM, p3]⟩ (by omega)
    rintro x ⟨sz, ou, j'⟩ ⟨q, g1, g2, g3, g4⟩
    simp only at g2 g3 g4
    subst g2; subst g3
    show (∃ w', f_M_writeLongs_l122 n ln cap longs (nI s) (nI e) least (nI _) ou (nI (s + 16 * q)) = _ ∧ _) ∨ (∃ y, f_M_writeLongs_l122 n ln cap longs (nI s) (nI e) least (nI _) ou (nI (s + 16 * q)) = _ ∧ _)
    unfold f_M_writeLongs_l122
    have e64 : nI s + 64 = nI (s + 64) := qn_add s 64
    rw [e64, ifle (by omega) (by omega)]
    by_cases c : s + 64 ≤ s + 16 * q
    · have : q = 4 := by omega
      subst this
      exact Or.inr ⟨_, by rw [if_pos c], rfl, g4⟩
    · rw [if_neg c, M_widthOf least hn hm hln hN he (by omega) (by omega), obs]
      obtain ⟨o', r1, r2⟩ := M_put (cap := cap) (nI (pw a least s e q)) (by omega) (by simp only [List.length_append, sWids_len]; omega) g4
      rw [r1, obs]
      refine Or.inl ⟨_, rfl, x - 1, by omega, q + 1, by omega, ?_, ?_⟩
      · show nI (s + 16 * q) + 16 = _
        rw [show (16 : Int32) = nI 16 from rfl, qn_add]; congr 1
      · rw [by8_nI, List.append_assoc] at r2
        exact r2
  obtain ⟨o2, r1, r2, r3⟩ := main2
  simp only at r2 r3
  rw [r1, obs, r2]
  unfold f_M_writeLongs_j149
  generalize hX : L ++ V ++ sWids a least s e 4 = X at *
  have hlX : X.length = L.length + V.length + 4 := by rw [← hX]; simp only [List.length_append, sWids_len]
  have main3 : ∃ o, lp (fun v => f_M_writeLongs_l152 n ln cap longs (nI e) least v.1 v.2.1 v.2.2) n (nI X.length, o2.2.1, nI s) = some o ∧ QPM (X ++ sParts a least s e 4) (o.1, o.2.1) := by
    refine lp_inv (fun x u => ∃ q, q + x = 4 ∧ (q = 0 ∨ s + 16 * (q - 1) < e) ∧ u.2.2 = nI (s + 16 * q) ∧ QPM (X ++ sParts a least s e q) (u.1, u.2.1)) _ ?_ 4 n _ ⟨0, by omega, Or.inl rfl, rfl, by simp [sParts, QPM, r3]⟩ (by omega)
    rintro x ⟨sz, ou, j'⟩ ⟨q, g1, g0, g2, g3, g4⟩
    simp only at g2 g3 g4
    subst g2; subst g3
    show (∃ w', f_M_writeLongs_l152 n ln cap longs (nI e) least (nI _) ou (nI (s + 16 * q)) = _ ∧ _) ∨ (∃ y, f_M_writeLongs_l152 n ln cap longs (nI e) least (nI _) ou (nI (s + 16 * q)) = _ ∧ _)
    unfold f_M_writeLongs_l152
    rw [ifle (by omega) (by omega)]
    by_cases c : e ≤ s + 16 * q
    · refine Or.inr ⟨_, by rw [if_pos c], ?_⟩
      rw [sParts_stop c (by omega)]
      exact ⟨rfl, g4⟩
    · have hq4 : q < 4 := by omega
      rw [if_neg c, M_widthOf least hn hm hln hN he (by omega) (by omega), obs]
      have hpl := sParts_len_le a least s e (q := q + 1) (q' := 4) (by omega)
      simp only [sParts, List.length_append, sPart_len] at hpl hL
      obtain ⟨o', t1, t2⟩ := M_writePart (n := n) (ln := ln) (cap := cap) (m := m) (s := s) (e := e) (q := q) (a := a) (longs := longs) (L := X ++ sParts a least s e q) (out := ou) least hn hm hln hN he (by omega) (by omega) hc (by simp only [List.length_append]; omega) g4
      rw [t1, obs]
      refine Or.inl ⟨_, rfl, x - 1, by omega, q + 1, by omega, Or.inr (by omega), ?_, ?_⟩
      · show nI (s + 16 * q) + 16 = _
        rw [show (16 : Int32) = nI 16 from rfl, qn_add]; congr 1
      · rw [List.append_assoc] at t2
        exact t2
  obtain ⟨o3, t1, t2⟩ := main3
  rw [t1, obs]
  unfold f_M_writeLongs_j180
  refine ⟨_, rfl, qn_add s 64, ?_⟩
  rw [← hX] at t2
  simp only [List.append_assoc] at t2 ⊢
  exact t2
theorem M_writeLongs {n ln cap m : Nat} {a longs : Nat → Int64} {L : List UInt8} {out : Nat → Int32} (hn : 100000 < n) (hm : m ≤ 2000) (hln : m ≤ ln) (hN : ∀ k, k < m → longs k = a k) (hc : cap < 100000)
    (hL : L.length + (qsCode a m).length ≤ cap) (h : QHM L out) :
    ∃ o, f_M_writeLongs n ln cap (nI L.length) (nI m) longs out = some o ∧ QPM (L ++ qsCode a m) o := by
  unfold f_M_writeLongs
  have hlv : lv (nI m).toInt64 = m := lv_nI (by omega)
  have hlen : (qsCode a m).length = (sVar m).length + (if m = 0 then [] else sVar (lv (zz (a 0))) ++ sBlks a (m - 1) 0).length := by simp only [qsCode, List.length_append]
  obtain ⟨o1, p1, p2, p3⟩ := M_putVarint (n := n) (cap := cap) (L := L) (row := out) (nI m).toInt64 (by omega) (by omega) (by rw [hlv]; omega) h
  rw [hlv] at p2 p3
  have i0 : (0 : Int32) = nI 0 := rfl
  rw [p1, obs, p2]
  by_cases c : m = 0
  · subst c
    rw [if_pos (by decide)]
    unfold f_M_writeLongs_j29
    obtain ⟨x, rfl⟩ : ∃ x, n = x + 1 := ⟨n - 1, by omega⟩
    have : f_M_writeLongs_l31 (x + 1) ln cap (nI 0) longs (nI (L ++ sVar 0).length) o1.2 0 = some (Sum.inr (nI (L ++ sVar 0).length, o1.2)) := by
      unfold f_M_writeLongs_l31; rw [if_pos (by decide)]
    simp only [lp, this]
    refine ⟨_, rfl, ?_, ?_⟩
    · simp [qsCode]
    · simpa [qsCode] using p3
  · have hm0 : ¬ nI m ≤ 0 := by rw [i0, qn_le (by omega) (by omega)]; omega
    rw [if_neg hm0, gd_t (show inB 0 ln = true by rw [i0, inB_nI (by omega)]; simpa using (show 0 < ln by omega)), M_zigzag, obs]
    rw [if_neg c, List.length_append] at hlen
    have h00 : longs (0 : Int32).toNatClampNeg = a 0 := hN 0 (by omega)
    rw [h00]
    obtain ⟨o2, r1, r2, r3⟩ := M_putVarint (n := n) (cap := cap) (L := L ++ sVar m) (row := o1.2) (zz (a 0)) (by omega) (by omega) (by simp only [List.length_append]; omega) p3
    rw [r1, obs, r2]
    unfold f_M_writeLongs_j29
    generalize hM : L ++ sVar m ++ sVar (lv (zz (a 0))) = M at *
    have hlM : M.length = L.length + (sVar m).length + (sVar (lv (zz (a 0)))).length := by rw [← hM]; simp only [List.length_append]
    have main : ∃ o, lp (fun v => f_M_writeLongs_l31 n ln cap (nI m) longs v.1 v.2.1 v.2.2) n (nI M.length, o2.2, (0 : Int32)) = some o ∧ QPM (M ++ sBlks a (m - 1) 0) o := by
      refine lp_inv (fun q u => ∃ (s : Nat) (L' : List UInt8), u.2.2 = nI s ∧ m - 1 - s ≤ q ∧ s < m + 64 ∧ QPM L' (u.1, u.2.1) ∧ L' ++ sBlks a (m - 1) s = M ++ sBlks a (m - 1) 0) _ ?_ m n _ ⟨0, M, rfl, by omega, by omega, ⟨rfl, r3⟩, rfl⟩ (by omega)
      rintro q ⟨sz, rr, s'⟩ ⟨s, L', g1, g2, g3, ⟨g4, g5⟩, g6⟩
      simp only at g1 g4 g5
      subst g1; subst g4
      show (∃ w', f_M_writeLongs_l31 n ln cap (nI m) longs (nI L'.length) rr (nI s) = _ ∧ _) ∨ (∃ y, f_M_writeLongs_l31 n ln cap (nI m) longs (nI L'.length) rr (nI s) = _ ∧ _)
      unfold f_M_writeLongs_l31
      have em1 : nI m - 1 = nI (m - 1) := nI_sub (show 1 ≤ m by omega)
      rw [em1, ifle (by omega) (by omega)]
      by_cases c2 : m - 1 ≤ s
      · rw [if_pos c2]
        rw [sBlks_end (by omega), List.append_nil] at g6
        exact Or.inr ⟨_, rfl, by rw [← g6]; exact ⟨rfl, g5⟩⟩
      · rw [if_neg c2]
        rw [sBlks_next (by omega)] at g6
        have hl6 := congrArg List.length g6
        simp only [List.length_append] at hl6
        have e64 : nI s + 64 = nI (s + 64) := qn_add _ 64
        have hmn : (if nI (m - 1) ≤ nI s + 64 then f_M_writeLongs_j67 n ln cap (nI L'.length) longs rr (nI s) (nI (m - 1)) else f_M_writeLongs_j67 n ln cap (nI L'.length) longs rr (nI s) (nI s + 64)) = f_M_writeLongs_j67 n ln cap (nI L'.length) longs rr (nI s) (nI (min (s + 64) (m - 1))) := by
          rw [e64, ifle (by omega) (by omega)]
          by_cases cc : m - 1 ≤ s + 64
          · rw [if_pos cc, show min (s + 64) (m - 1) = m - 1 by omega]
          · rw [if_neg cc, show min (s + 64) (m - 1) = s + 64 by omega]
        rw [hmn]
        obtain ⟨o, t1, t2, t3⟩ := M_writeBlk (n := n) (ln := ln) (cap := cap) (m := m) (s := s) (e := min (s + 64) (m - 1)) (a := a) (longs := longs) (L := L') (out := rr) hn hm hln hN (by omega) (by omega) (by omega) hc (by omega) g5
        rw [t1]
        refine Or.inl ⟨_, rfl, q - 1, by omega, s + 64, _, t2, by omega, by omega, t3, ?_⟩
        rw [← g6]; simp only [List.append_assoc]
    obtain ⟨o, s1, s2⟩ := main
    rw [s1, obs]
    refine ⟨o, rfl, ?_⟩
    have : L ++ qsCode a m = M ++ sBlks a (m - 1) 0 := by
      rw [← hM]; simp only [qsCode, if_neg c, List.append_assoc]
    rw [this]; exact s2
/-- QHM of a front part, whatever was written behind it -/
theorem HM_front {L l : List UInt8} {out : Nat → Int32} (h : QHM (L ++ l) out) : QHM L out := by
  intro j hj
  rw [h j (by rw [List.length_append]; omega), List.getElem_append_left hj]
theorem M_writeCode {n ln cap m : Nat} {a longs : Nat → Int64} {L : List UInt8} {out : Nat → Int32} (hn : 100000 < n) (hm : m ≤ 2000) (hln : m ≤ ln) (hN : ∀ k, k < m → longs k = a k) (hc : cap < 100000)
    (hL : L.length + (sVar (qsCode a m).length).length + (qsCode a m).length ≤ cap) (h : QHM L out) :
    ∃ o, f_M_writeCode n ln cap (nI L.length) (nI m) longs out = some o ∧ QPM (L ++ (sVar (qsCode a m).length ++ qsCode a m)) o := by
  unfold f_M_writeCode
  obtain ⟨o1, p1, p2, p3⟩ := M_writeLongs (n := n) (ln := ln) (cap := cap) (m := m) (a := a) (longs := longs) (L := L) (out := out) hn hm hln hN hc (by omega) h
  rw [p1, obs, p2]
  simp only [bnd]
  have e1 : nI (L ++ qsCode a m).length - nI L.length = nI (qsCode a m).length := by
    rw [nI_sub (by simp)]; congr 1; simp
  have hlv : lv (nI (qsCode a m).length).toInt64 = (qsCode a m).length := lv_nI (by omega)
  rw [e1]
  obtain ⟨o2, r1, r2, r3⟩ := M_putVarint (n := n) (cap := cap) (L := L) (row := o1.2) (nI (qsCode a m).length).toInt64 (by omega) (by omega) (by rw [hlv]; omega) (HM_front p3)
  rw [hlv] at r2 r3
  rw [r1, obs, r2]
  obtain ⟨o3, s1, s2⟩ := M_writeLongs (n := n) (ln := ln) (cap := cap) (m := m) (a := a) (longs := longs) (L := L ++ sVar (qsCode a m).length) (out := o2.2) hn hm hln hN hc (by simp only [List.length_append]; omega) r3
  rw [s1, obs]
  rw [List.append_assoc] at s2
  exact ⟨_, rfl, s2⟩
