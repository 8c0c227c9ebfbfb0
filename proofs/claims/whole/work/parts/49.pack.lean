theorem rangeCheck_ok {n a b : Nat} (h1 : a ≤ b) (h2 : b ≤ n) (hn : n < 2147483648) : f_JA_rangeCheck (nI n) (nI a) (nI b) = some () := by
  unfold f_JA_rangeCheck
  have h0 : (0 : Int32) ≤ nI a := by rw [QI0, qn_le (by omega) (by omega)]; omega
  rw [ifle (by omega) (by omega), if_pos h1, if_pos h0, ifle (by omega) (by omega), if_pos h2]
theorem B_fill0 {n cap a k : Nat} {row : Nat → Int32} (hn : 100000 < n) (hc : cap < 100000) (h : a + k ≤ cap) :
    ∃ o, f_JA_fill_aBIIB n cap row (nI a) (nI (a + k)) 0 = some o ∧ ∀ j, o j = if a ≤ j ∧ j < a + k then 0 else row j := by
  unfold f_JA_fill_aBIIB
  rw [rangeCheck_ok (by omega) h (by omega), obs]
  have main : ∃ o, lp (fun v => f_JA_fill_aBIIB_l10 cap (nI (a + k)) 0 v.1 v.2) n (row, nI a) = some o ∧ ∀ j, o j = if a ≤ j ∧ j < a + k then 0 else row j := by
    refine lp_inv (fun q w => ∃ i, i + q = k ∧ w.2 = nI (a + i) ∧ ∀ j, w.1 j = if a ≤ j ∧ j < a + i then 0 else row j) _ ?_ k n _ ⟨0, by omega, rfl, fun j => by rw [if_neg (by omega)]⟩ (by omega)
    rintro q ⟨f, i'⟩ ⟨i, g1, g2, g3⟩
    simp only at g2 g3
    subst g2
    show (∃ w', f_JA_fill_aBIIB_l10 cap (nI (a + k)) 0 f (nI (a + i)) = _ ∧ _) ∨ (∃ x, f_JA_fill_aBIIB_l10 cap (nI (a + k)) 0 f (nI (a + i)) = _ ∧ _)
    unfold f_JA_fill_aBIIB_l10
    rw [ifle (by omega) (by omega)]
    by_cases c : a + k ≤ a + i
    · have : i = k := by omega
      subst this
      exact Or.inr ⟨_, by rw [if_pos c], g3⟩
    · rw [if_neg c, gd_nI (by omega) (by omega), qn_clamp (by omega)]
      refine Or.inl ⟨_, rfl, q - 1, by omega, i + 1, by omega, qn_add _ 1, ?_⟩
      intro j
      show upd f (a + i) (vp_nar .byte 0) j = _
      unfold upd
      by_cases e : j = a + i
      · rw [if_pos e, if_pos (by omega)]; rfl
      · rw [if_neg e, g3 j]
        by_cases e2 : a ≤ j ∧ j < a + i
        · rw [if_pos e2, if_pos (by omega)]
        · rw [if_neg e2, if_neg (by omega)]
  obtain ⟨o, h1, h2⟩ := main
  rw [h1]
  exact ⟨o, rfl, h2⟩
theorem B_zeros {n cap k : Nat} {L : List UInt8} {row : Nat → Int32} (hn : 100000 < n) (hc : cap < 100000) (hL : L.length + k ≤ cap) (h : HC L row) :
    ∃ o, f_B_zeros n cap (nI L.length) row (nI k) = some o ∧ QPC (L ++ List.replicate k 0) o := by
  unfold f_B_zeros
  rw [qif0 (by omega), show nI cap - nI L.length = nI (cap - L.length) from nI_sub (by omega), ifle (by omega) (by omega), if_pos (show k ≤ cap - L.length by omega), qn_add]
  obtain ⟨o, h1, h2⟩ := B_fill0 (row := row) (a := L.length) (k := k) hn hc hL
  rw [h1]
  refine ⟨_, rfl, ?_, ?_⟩
  · show nI _ = _
    simp
  · intro j hj
    show o j = _
    rw [h2 j]
    simp only [List.length_append, List.length_replicate] at hj
    by_cases e : j < L.length
    · rw [if_neg (by omega), h j e, List.getElem_append_left e]
    · rw [if_pos (by omega), List.getElem_append_right (by omega), List.getElem_replicate]; rfl
/-- bits of numbers of a width, one behind the other -/
def pbit (g : Nat → Nat) (j w p : Nat) : Bool := decide (p / w < j) && (g (p / w)).testBit (p % w)
theorem pbit_step {g : Nat → Nat} {j w p B : Nat} (hgs : ∀ i, i ≤ j → g i < 2 ^ w) :
    ((decide (B ≤ p) && pbit g j w (p - B)) || (decide (B + j * w ≤ p) && (g j).testBit (p - (B + j * w)))) = (decide (B ≤ p) && pbit g (j + 1) w (p - B)) := by
  unfold pbit
  by_cases hw0 : w = 0
  · subst hw0
    have h1 := hgs j (Nat.le_refl _)
    have h2 := hgs 0 (by omega)
    have h3 : g j = 0 := by omega
    have h4 : g 0 = 0 := by omega
    rw [Nat.div_zero, h3, h4]; simp
  have hw : 0 < w := by omega
  have hg := hgs j (Nat.le_refl _)
  by_cases c : B ≤ p
  · have h1 := Nat.div_add_mod (p - B) w
    have h2 := Nat.mod_lt (p - B) hw
    generalize hr : p - B = r at h1 h2
    rcases Nat.lt_trichotomy (r / w) j with h | h | h
    · have h3 : w * (r / w + 1) ≤ w * j := Nat.mul_le_mul_left w h
      have h4 : w * (r / w + 1) = w * (r / w) + w := by rw [Nat.mul_add, Nat.mul_one]
      have h5 : w * j = j * w := Nat.mul_comm _ _
      have c2 : ¬ B + j * w ≤ p := by omega
      rw [decide_eq_true c, decide_eq_true h, decide_eq_false c2, decide_eq_true (show r / w < j + 1 by omega)]; simp
    · have h5 : w * j = j * w := Nat.mul_comm _ _
      rw [h] at h1
      have c2 : B + j * w ≤ p := by omega
      have h6 : p - (B + j * w) = r % w := by omega
      rw [decide_eq_true c, decide_eq_false (show ¬ r / w < j by omega), decide_eq_true c2, decide_eq_true (show r / w < j + 1 by omega), h6, h]; simp
    · have h3 : w * (j + 1) ≤ w * (r / w) := Nat.mul_le_mul_left w h
      have h4 : w * (j + 1) = w * j + w := by rw [Nat.mul_add, Nat.mul_one]
      have h5 : w * j = j * w := Nat.mul_comm _ _
      have h6 : (g j).testBit (p - (B + j * w)) = false := Nat.testBit_lt_two_pow (Nat.lt_of_lt_of_le hg (Nat.pow_le_pow_right (by omega) (by omega)))
      rw [decide_eq_false (show ¬ r / w < j by omega), decide_eq_false (show ¬ r / w < j + 1 by omega), h6]; simp
  · have c2 : ¬ B + j * w ≤ p := by omega
    rw [decide_eq_false c, decide_eq_false c2]; simp
/-- numbers 0 .. j - 1 are set, in nb bytes behind M -/
def Pack (M : List UInt8) (nb : Nat) (g : Nat → Nat) (w j : Nat) (L' : List UInt8) : Prop :=
  L'.length = M.length + nb ∧ ∀ p, bitOf L' p = (bitOf (M ++ List.replicate nb 0) p || (decide (8 * M.length ≤ p) && pbit g j w (p - 8 * M.length)))
theorem Pack_0 (M : List UInt8) (nb : Nat) (g : Nat → Nat) (w : Nat) : Pack M nb g w 0 (M ++ List.replicate nb 0) := by
  refine ⟨by simp, fun p => ?_⟩
  unfold pbit; simp
theorem Pack_step {M L' L'' : List UInt8} {nb w j : Nat} {g : Nat → Nat} (hg : ∀ i, i ≤ j → g i < 2 ^ w) (h : Pack M nb g w j L') (hl : L''.length = L'.length)
    (hb : ∀ p, bitOf L'' p = (bitOf L' p || (decide (8 * M.length + j * w ≤ p) && (g j).testBit (p - (8 * M.length + j * w))))) : Pack M nb g w (j + 1) L'' := by
  refine ⟨by rw [hl, h.1], fun p => ?_⟩
  rw [hb p, h.2 p, Bool.or_assoc, pbit_step hg]
theorem Pack_end {M L' : List UInt8} {nb w j m : Nat} {g : Nat → Nat} (h : Pack M nb g w j L') (hj : ∀ r, r < 8 * nb → (r / w < j ↔ r / w < m)) : L' = M ++ sBits (pbit g m w) nb := by
  apply bits_ext (by simp [sBits_len, h.1])
  intro p hp
  rw [h.2 p]
  rw [h.1] at hp
  by_cases c : p < 8 * M.length
  · rw [bitOf_left c, bitOf_left c, decide_eq_false (show ¬ 8 * M.length ≤ p by omega)]; simp
  · rw [bitOf_right (by omega), bitOf_right (by omega), bitOf_zeros, bitOf_sBits (by omega), decide_eq_true (show 8 * M.length ≤ p by omega)]
    simp only [Bool.false_or, Bool.true_and]
    unfold pbit
    have := hj (p - 8 * M.length) (by omega)
    by_cases cm : (p - 8 * M.length) / w < j
    · rw [decide_eq_true cm, decide_eq_true (this.mp cm)]
    · rw [decide_eq_false cm, decide_eq_false (fun q => cm (this.mpr q))]
/-- one more number, by PageForm -/
theorem B_setPack {n cap nb w j : Nat} {M L' : List UInt8} {g : Nat → Nat} {row : Nat → Int32} (v : Int64) (hn : 100 < n) (hc : cap < 100000) (hL : M.length + nb ≤ cap) (hw : w ≤ 64) (hfit : (j + 1) * w ≤ 8 * nb) (hg : ∀ i, i ≤ j → g i < 2 ^ w) (hv : lv v = g j) (h : Pack M nb g w j L') (hh : HC L' row) :
    ∃ o, f_B_setBits n cap (nI (M.length + nb)) row (nI (8 * M.length + j * w)) v (nI w) = some o ∧ ∃ L'', Pack M nb g w (j + 1) L'' ∧ HC L'' o := by
  have h1 := h.1
  rw [Nat.add_mul, Nat.one_mul] at hfit
  obtain ⟨o, p1, L'', p2, p3, p4⟩ := B_setBits (n := n) (cap := cap) (F := 8 * M.length + j * w) (w := w) (L := L') (row := row) v hn hc (by omega) hw (by omega) (by rw [hv]; exact hg j (Nat.le_refl _)) hh
  rw [h1] at p1
  refine ⟨o, p1, L'', Pack_step hg h p2 (fun p => by rw [p4 p, hv]), p3⟩
theorem nI_div {a b : Nat} (ha : a < 2147483648) (hb : b < 2147483648) : nI a / nI b = nI (a / b) := by
  apply Int32.toInt_inj.mp
  have h1 : a / b ≤ a := Nat.div_le_self _ _
  rw [Int32.toInt_div, qn_toInt ha, qn_toInt hb, qn_toInt (by omega)]
  rw [← Int.ofNat_tdiv]
  have : ∀ q : Nat, q < 2147483648 → ((q : Int).bmod (2 ^ 32)) = q := by intro q hq; simp [Int.bmod]; omega
  exact this _ (by omega)
theorem nI_mod {a b : Nat} (ha : a < 2147483648) (hb : b < 2147483648) : nI a - nI a / nI b * nI b = nI (a % b) := by
  have h := Nat.div_add_mod a b
  have h2 : b * (a / b) = a / b * b := Nat.mul_comm _ _
  rw [nI_div ha hb, nI_mul, nI_sub (by omega)]
  congr 1; omega
theorem nI_or (a b : Nat) : nI a ||| nI b = nI (a ||| b) := by
  apply Int32.toBitVec_inj.mp
  rw [Int32.toBitVec_or]
  show BitVec.ofNat 32 a ||| BitVec.ofNat 32 b = BitVec.ofNat 32 (a ||| b)
  apply BitVec.eq_of_getLsbD_eq
  intro i hi
  simp only [BitVec.getLsbD_or, BitVec.getLsbD_ofNat, Nat.testBit_or, hi, decide_true, Bool.true_and]
theorem nI_ushr {a k : Nat} (ha : a < 2147483648) (hk : k < 32) : ((nI a).toUInt32 >>> ((nI k).toUInt32 &&& Int32.toUInt32 31)).toInt32 = nI (a >>> k) := by
  apply Int32.toBitVec_inj.mp
  rw [ushr_bv _ hk]
  apply BitVec.eq_of_toNat_eq
  rw [BitVec.toNat_ushiftRight]
  show (BitVec.ofNat 32 a).toNat >>> k = (BitVec.ofNat 32 (a >>> k)).toNat
  have h1 : a >>> k ≤ a := Nat.shiftRight_le _ _
  simp only [BitVec.toNat_ofNat]
  rw [Nat.mod_eq_of_lt (by omega), Nat.mod_eq_of_lt (by omega)]
theorem nI_and1 (a : Nat) : nI a &&& 1 = nI (a % 2) := by
  apply Int32.toBitVec_inj.mp
  apply BitVec.eq_of_toNat_eq
  have e : (1 : Int32).toBitVec.toNat = 2 ^ 1 - 1 := rfl
  rw [Int32.toBitVec_and, BitVec.toNat_and, e, Nat.and_two_pow_sub_one_eq_mod]
  show (BitVec.ofNat 32 a).toNat % 2 ^ 1 = (BitVec.ofNat 32 (a % 2)).toNat
  simp only [BitVec.toNat_ofNat]
  omega
theorem nI_shl1 {a i : Nat} (ha : a < 2) (hi : i < 8) : nI a <<< (nI i &&& 31) = nI (a * 2 ^ i) := by
  have : ∀ (x : Fin 2) (y : Fin 8), nI x.val <<< (nI y.val &&& 31) = nI (x.val * 2 ^ y.val) := by decide
  exact this ⟨a, ha⟩ ⟨i, hi⟩
theorem mod2_bit (x s : Nat) : (x >>> s) % 2 = if x.testBit s then 1 else 0 := by
  rw [Nat.testBit_eq_decide_div_mod_eq, Nat.shiftRight_eq_div_pow]
  by_cases h : x / 2 ^ s % 2 = 1
  · rw [h]; simp
  · have : x / 2 ^ s % 2 = 0 := by omega
    rw [this]; simp
theorem bN_or (b : Nat → Bool) (i : Nat) : qbN b i ||| ((if b i then 1 else 0) * 2 ^ i) = qbN b (i + 1) := by
  simp only [qbN]
  have h := bN_lt b i
  by_cases hb : b i = true
  · rw [if_pos hb, if_pos hb, Nat.one_mul, Nat.or_comm]
    have := Nat.two_pow_add_eq_or_of_lt h 1
    rw [Nat.mul_one] at this
    rw [← this, Nat.add_comm]
  · rw [if_neg hb, if_neg hb]; simp
theorem by8_nI (a : Nat) : by8 (nI a) = UInt8.ofNat a := by
  apply UInt8.toBitVec_inj.mp
  apply BitVec.eq_of_toNat_eq
  show (BitVec.signExtend 8 (BitVec.ofNat 32 a)).toNat = _
  rw [BitVec.signExtend_eq_setWidth_of_le _ (by omega)]
  simp
