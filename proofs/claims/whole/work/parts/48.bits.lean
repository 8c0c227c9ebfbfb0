/-- a number by its bits -/
def qbN (b : Nat → Bool) : Nat → Nat
  | 0 => 0
  | k + 1 => qbN b k + (if b k then 2 ^ k else 0)
theorem bN_lt (b : Nat → Bool) (k : Nat) : qbN b k < 2 ^ k := by
  induction k with
  | zero => simp [qbN]
  | succ k ih => simp only [qbN, Nat.pow_succ]; split <;> omega
theorem bN_testBit (b : Nat → Bool) (k i : Nat) : (qbN b k).testBit i = (decide (i < k) && b i) := by
  induction k with
  | zero => simp [qbN]
  | succ k ih =>
    simp only [qbN]
    have hlt := bN_lt b k
    by_cases hb : b k = true
    · rw [if_pos hb, Nat.add_comm]
      by_cases e : i = k
      · subst e
        rw [Nat.testBit_two_pow_add_eq, Nat.testBit_lt_two_pow hlt, hb]; simp
      · by_cases l : i < k
        · rw [Nat.testBit_two_pow_add_gt l, ih]
          simp [l, Nat.lt_succ_of_lt l]
        · have h1 : 2 ^ k + qbN b k < 2 ^ (k + 1) := by rw [Nat.pow_succ]; omega
          rw [Nat.testBit_lt_two_pow (Nat.lt_of_lt_of_le h1 (Nat.pow_le_pow_right (by omega) (show k + 1 ≤ i by omega)))]
          simp; intro; omega
    · rw [if_neg hb, Nat.add_zero, ih]
      by_cases e : i = k
      · subst e; simp [hb]
      · by_cases l : i < k
        · simp [l, Nat.lt_succ_of_lt l]
        · have : ¬ i < k + 1 := by omega
          simp [l, this]
theorem bN_ext {b : Nat → Bool} {k m : Nat} (hm : m < 2 ^ k) (h : ∀ i, i < k → m.testBit i = b i) : m = qbN b k := by
  apply Nat.eq_of_testBit_eq
  intro i
  rw [bN_testBit]
  by_cases hi : i < k
  · rw [h i hi]; simp [hi]
  · rw [Nat.testBit_lt_two_pow (Nat.lt_of_lt_of_le hm (Nat.pow_le_pow_right (by omega) (show k ≤ i by omega)))]; simp [hi]
theorem bN_congr {b b' : Nat → Bool} {k : Nat} (h : ∀ i, i < k → b i = b' i) : qbN b k = qbN b' k := by
  induction k with
  | zero => rfl
  | succ k ih => simp only [qbN]; rw [ih (fun i hi => h i (by omega)), h k (by omega)]
def u8 (b : Nat → Bool) : UInt8 := UInt8.ofNat (qbN b 8)
theorem u8_toNat (b : Nat → Bool) : (u8 b).toNat = qbN b 8 := by
  have := bN_lt b 8
  unfold u8
  rw [UInt8.toNat_ofNat']
  exact Nat.mod_eq_of_lt (by simpa using this)
theorem u8_ext {x : UInt8} {b : Nat → Bool} (h : ∀ i, i < 8 → x.toNat.testBit i = b i) : x = u8 b := by
  apply UInt8.toNat_inj.mp
  rw [u8_toNat]
  exact bN_ext (by have := u8_lt x; omega) h
def sBits (bit : Nat → Bool) (nb : Nat) : List UInt8 := (List.range nb).map (fun j => u8 (fun i => bit (8 * j + i)))
theorem sBits_len (bit : Nat → Bool) (nb : Nat) : (sBits bit nb).length = nb := by simp [sBits]
theorem sBits_succ (bit : Nat → Bool) (nb : Nat) : sBits bit (nb + 1) = sBits bit nb ++ [u8 (fun i => bit (8 * nb + i))] := by simp [sBits, List.range_succ]
def bitOf (L : List UInt8) (p : Nat) : Bool := (L.getD (p / 8) 0).toNat.testBit (p % 8)
theorem bitOf_out {L : List UInt8} {p : Nat} (h : 8 * L.length ≤ p) : bitOf L p = false := by
  unfold bitOf
  have : L.getD (p / 8) 0 = 0 := by
    rw [List.getD_eq_getElem?_getD, List.getElem?_eq_none (by omega)]; rfl
  rw [this]; simp
theorem bitOf_sBits {bit : Nat → Bool} {nb p : Nat} (h : p < 8 * nb) : bitOf (sBits bit nb) p = bit p := by
  unfold bitOf
  have hl : p / 8 < (sBits bit nb).length := by rw [sBits_len]; omega
  rw [List.getD_eq_getElem?_getD, List.getElem?_eq_getElem hl, Option.getD_some]
  simp only [sBits, List.getElem_map, List.getElem_range]
  rw [u8_toNat, bN_testBit]
  have : p % 8 < 8 := by omega
  simp only [this, decide_true, Bool.true_and]
  congr 1; omega
theorem bitOf_left {L M : List UInt8} {p : Nat} (h : p < 8 * L.length) : bitOf (L ++ M) p = bitOf L p := by
  unfold bitOf
  rw [List.getD_eq_getElem?_getD, List.getD_eq_getElem?_getD, List.getElem?_append_left (by omega)]
theorem bitOf_right {L M : List UInt8} {p : Nat} (h : 8 * L.length ≤ p) : bitOf (L ++ M) p = bitOf M (p - 8 * L.length) := by
  unfold bitOf
  rw [List.getD_eq_getElem?_getD, List.getD_eq_getElem?_getD, List.getElem?_append_right (by omega)]
  congr 1
  · congr 2
    have : (p - 8 * L.length) / 8 = p / 8 - L.length := by omega
    rw [this]
  · omega
theorem bitOf_zeros (n p : Nat) : bitOf (List.replicate n 0) p = false := by
  unfold bitOf
  have : (List.replicate n (0 : UInt8)).getD (p / 8) 0 = 0 := by
    rw [List.getD_eq_getElem?_getD]
    by_cases h : p / 8 < n
    · rw [List.getElem?_replicate_of_lt h]; rfl
    · rw [List.getElem?_eq_none (by simpa using h)]; rfl
  rw [this]; simp
theorem bits_ext {L M : List UInt8} (hl : L.length = M.length) (h : ∀ p, p < 8 * L.length → bitOf L p = bitOf M p) : L = M := by
  apply List.ext_getElem hl
  intro j h1 h2
  have h3 := @u8_ext L[j] (fun i => bitOf L (8 * j + i)) (by
    intro i hi
    unfold bitOf
    have e1 : (8 * j + i) / 8 = j := by omega
    have e2 : (8 * j + i) % 8 = i := by omega
    rw [e1, e2, List.getD_eq_getElem?_getD, List.getElem?_eq_getElem h1]; rfl)
  have h4 := @u8_ext M[j] (fun i => bitOf L (8 * j + i)) (by
    intro i hi
    rw [h (8 * j + i) (by omega)]
    unfold bitOf
    have e1 : (8 * j + i) / 8 = j := by omega
    have e2 : (8 * j + i) % 8 = i := by omega
    rw [e1, e2, List.getD_eq_getElem?_getD, List.getElem?_eq_getElem h2]; rfl)
  rw [h3, h4]
theorem lv_shl (v : Int64) {k : Nat} (hk : k < 64) : lv (v <<< ((nI k).toInt64 &&& 63)) = (lv v <<< k) % 18446744073709551616 := by
  have h : ∀ j : Fin 64, ((nI j.val).toInt64 &&& 63).toBitVec.smod 64 = BitVec.ofNat 64 j.val := by decide
  have h2 := h ⟨k, hk⟩
  simp only at h2
  unfold lv
  show (v <<< ((nI k).toInt64 &&& 63)).toBitVec.toNat = (v.toBitVec.toNat <<< k) % _
  rw [Int64.toBitVec_shiftLeft, h2]
  simp
  congr 2; omega
theorem by8_or2 (a : UInt8) (x : Int32) : (qsb a ||| x.toInt8.toInt32).toInt8.toInt32 = qsb (a ||| by8 x) := by
  have : by8 (qsb a ||| x.toInt8.toInt32) = a ||| by8 x := by
    rw [by8_or]; simp [by8, qsb]
  rw [sb_by8, this]
theorem setb_bit (v : Int64) {done skip i : Nat} (hd : done < 64) (hs : skip < 8) (hi : i < 8) :
    (by8 (((v.toUInt64 >>> ((nI done).toInt64.toUInt64 &&& Int64.toUInt64 63)).toInt64 <<< ((nI skip).toInt64 &&& 63)).toInt32)).toNat.testBit i = (decide (skip ≤ i) && (lv v).testBit (done + (i - skip))) := by
  rw [by8_l64, lv_shl _ (by omega), lv_shr, lv_nI (by omega), Nat.mod_eq_of_lt hd, UInt8.toNat_ofNat']
  have e1 : (2 ^ 8) = 2 ^ 8 := rfl
  rw [Nat.testBit_mod_two_pow]
  have e2 : (18446744073709551616 : Nat) = 2 ^ 64 := rfl
  rw [e2, Nat.testBit_mod_two_pow, Nat.testBit_shiftLeft, Nat.testBit_shiftRight]
  have h1 : i < 8 := hi
  have h2 : i < 64 := by omega
  simp only [h1, h2, decide_true, Bool.true_and]
theorem nI_and7 (a : Nat) : nI a &&& 7 = nI (a % 8) := by
  apply Int32.toBitVec_inj.mp
  apply BitVec.eq_of_toNat_eq
  have e : (7 : Int32).toBitVec.toNat = 2 ^ 3 - 1 := rfl
  rw [Int32.toBitVec_and, BitVec.toNat_and, e, Nat.and_two_pow_sub_one_eq_mod]
  show (BitVec.ofNat 32 a).toNat % 2 ^ 3 = (BitVec.ofNat 32 (a % 8)).toNat
  simp only [BitVec.toNat_ofNat]
  omega
theorem nI_shr {a k : Nat} (ha : a < 2147483648) (hk : k < 32) : nI a >>> (nI k &&& 31) = nI (a / 2 ^ k) := by
  apply Int32.toBitVec_inj.mp
  rw [shr_bv _ hk]
  apply BitVec.eq_of_toInt_eq
  rw [BitVec.toInt_sshiftRight]
  show (nI a).toInt >>> k = (nI (a / 2 ^ k)).toInt
  have h1 : a / 2 ^ k ≤ a := Nat.div_le_self _ _
  rw [qn_toInt ha, qn_toInt (by omega), Int.shiftRight_eq_div_pow]
  simp
theorem B_setBits {n cap F w : Nat} {L : List UInt8} {row : Nat → Int32} (v : Int64) (hn : 100 < n) (hc : cap < 100000) (hL : L.length ≤ cap) (hw : w ≤ 64) (hF : F + w ≤ 8 * L.length) (hv : lv v < 2 ^ w) (h : HC L row) :
    ∃ o, f_B_setBits n cap (nI L.length) row (nI F) v (nI w) = some o ∧ ∃ L' : List UInt8, L'.length = L.length ∧ HC L' o ∧ ∀ p, bitOf L' p = (bitOf L p || (decide (F ≤ p) && (lv v).testBit (p - F))) := by
  unfold f_B_setBits
  have e3 : nI F >>> ((3 : Int32) &&& 31) = nI (F / 8) := nI_shr (k := 3) (by omega) (by omega)
  simp only [bnd]
  rw [e3]
  have main : ∃ o, lp (fun u => f_B_setBits_l8 cap (nI L.length) (nI F) v (nI w) u.1 u.2.1 u.2.2) n (row, (0 : Int32), nI (F / 8)) = some o ∧ ∃ L' : List UInt8, L'.length = L.length ∧ HC L' o ∧ ∀ p, bitOf L' p = (bitOf L p || (decide (F ≤ p) && (lv v).testBit (p - F))) := by
    refine lp_inv (fun q u => ∃ (done : Nat) (L' : List UInt8), u.2.1 = nI done ∧ u.2.2 = nI ((F + done) / 8) ∧ (done = 0 ∨ (F + done) % 8 = 0) ∧ w - done ≤ q ∧ done ≤ w + 8 ∧ L'.length = L.length ∧ HC L' u.1 ∧ ∀ p, bitOf L' p = (bitOf L p || (decide (F ≤ p ∧ p < F + done) && (lv v).testBit (p - F)))) _ ?_ w n _ ⟨0, L, rfl, rfl, Or.inl rfl, by omega, by omega, rfl, h, fun p => by
      have : ¬ (F ≤ p ∧ p < F + 0) := by omega
      rw [decide_eq_false this]; simp⟩ (by omega)
    rintro q ⟨f, d', k'⟩ ⟨done, L', g1, g2, g3, g4, g5, g6, g7, g8⟩
    simp only at g1 g2 g7
    subst g1; subst g2
    show (∃ w', f_B_setBits_l8 cap (nI L.length) (nI F) v (nI w) f (nI done) (nI ((F + done) / 8)) = _ ∧ _) ∨ (∃ x, f_B_setBits_l8 cap (nI L.length) (nI F) v (nI w) f (nI done) (nI ((F + done) / 8)) = _ ∧ _)
    unfold f_B_setBits_l8
    rw [ifle (by omega) (by omega)]
    by_cases c1 : w ≤ done
    · refine Or.inr ⟨_, by rw [if_pos c1], L', g6, g7, ?_⟩
      intro p
      rw [g8 p]
      by_cases c2 : F ≤ p
      · by_cases c3 : p < F + done
        · simp [c2, c3]
        · have : (lv v).testBit (p - F) = false := Nat.testBit_lt_two_pow (Nat.lt_of_lt_of_le hv (Nat.pow_le_pow_right (by omega) (by omega)))
          simp [c2, c3, this]
      · simp [c2]
    · rw [if_neg c1, ifle (by omega) (by omega), if_neg (show ¬ L.length ≤ (F + done) / 8 by omega)]
      simp only [bnd]
      have hlt : (F + done) / 8 < L'.length := by omega
      have e8 : (8 : Int32) - nI ((F + done) % 8) = nI (8 - (F + done) % 8) := nI_sub (show (F + done) % 8 ≤ 8 by omega)
      have ek : nI ((F + done) / 8) + 1 = nI ((F + done) / 8 + 1) := qn_add _ 1
      rw [qn_add, nI_and7, gd_nI (by omega) (by omega), gd_nI (by omega) (by omega), qn_clamp (by omega), g7 _ hlt, vp_nar_byte, e8, qn_add, ek]
      generalize hX : (((v.toUInt64 >>> ((nI done).toInt64.toUInt64 &&& Int64.toUInt64 63)).toInt64 <<< ((nI ((F + done) % 8)).toInt64 &&& 63)).toInt32) = X
      have hb : (qsb L'[(F + done) / 8] ||| X.toInt8.toInt32).toInt8.toInt32.toInt8.toInt32 = qsb (L'[(F + done) / 8] ||| by8 X) := by
        rw [by8_or2]; simp [qsb]
      rw [hb]
      refine Or.inl ⟨_, rfl, w - (done + (8 - (F + done) % 8)), by omega, done + (8 - (F + done) % 8), L'.set ((F + done) / 8) (L'[(F + done) / 8] ||| by8 X), rfl, ?_, Or.inr (by omega), by omega, by omega, by simpa using g6, ?_, ?_⟩
      · show nI ((F + done) / 8 + 1) = _
        congr 1; omega
      · intro j hj
        show upd f ((F + done) / 8) _ j = _
        unfold upd
        have hj' : j < L'.length := by simpa using hj
        by_cases ej : j = (F + done) / 8
        · subst ej; rw [if_pos rfl, List.getElem_set_self]
        · rw [if_neg ej, g7 j hj', List.getElem_set_ne (fun q => ej q.symm)]
      · intro p
        unfold bitOf at g8 ⊢
        by_cases ep : p / 8 = (F + done) / 8
        · have hb1 : (L'.set ((F + done) / 8) (L'[(F + done) / 8] ||| by8 X)).getD (p / 8) 0 = L'[(F + done) / 8] ||| by8 X := by
            rw [List.getD_eq_getElem?_getD, ep, List.getElem?_set_self hlt]; rfl
          have hb2 := g8 p
          rw [List.getD_eq_getElem?_getD, ep, List.getElem?_eq_getElem hlt, Option.getD_some] at hb2
          rw [hb1, UInt8.toNat_or, Nat.testBit_or, hb2, ← ep, ← hX, setb_bit v (by omega) (by omega) (by omega), ep]
          rw [Bool.or_assoc]
          congr 1
          by_cases c2 : F ≤ p
          · by_cases c3 : p < F + done
            · have hx : F ≤ p ∧ p < F + done := ⟨c2, c3⟩
              have hy : F ≤ p ∧ p < F + (done + (8 - (F + done) % 8)) := ⟨c2, by omega⟩
              have hz : ¬ (F + done) % 8 ≤ p % 8 := by omega
              rw [decide_eq_true hx, decide_eq_true hy, decide_eq_false hz]; simp
            · have hx : ¬ (F ≤ p ∧ p < F + done) := by omega
              have hy : F ≤ p ∧ p < F + (done + (8 - (F + done) % 8)) := ⟨c2, by omega⟩
              have hz : (F + done) % 8 ≤ p % 8 := by omega
              have hw2 : done + (p % 8 - (F + done) % 8) = p - F := by omega
              rw [decide_eq_false hx, decide_eq_true hy, decide_eq_true hz, hw2]; simp
          · have hx : ¬ (F ≤ p ∧ p < F + done) := by omega
            have hy : ¬ (F ≤ p ∧ p < F + (done + (8 - (F + done) % 8))) := by omega
            have hz : ¬ (F + done) % 8 ≤ p % 8 := by omega
            rw [decide_eq_false hx, decide_eq_false hy, decide_eq_false hz]; simp
        · have hb1 : (L'.set ((F + done) / 8) (L'[(F + done) / 8] ||| by8 X)).getD (p / 8) 0 = L'.getD (p / 8) 0 := by
            rw [List.getD_eq_getElem?_getD, List.getElem?_set_ne (fun q => ep q.symm), List.getD_eq_getElem?_getD]
          rw [hb1, g8 p]
          congr 1
          by_cases hx : F ≤ p ∧ p < F + done
          · have hy : F ≤ p ∧ p < F + (done + (8 - (F + done) % 8)) := by omega
            rw [decide_eq_true hx, decide_eq_true hy]
          · have hy : ¬ (F ≤ p ∧ p < F + (done + (8 - (F + done) % 8))) := by omega
            rw [decide_eq_false hx, decide_eq_false hy]
  obtain ⟨o, h1, h2⟩ := main
  rw [h1]
  exact ⟨o, rfl, h2⟩
