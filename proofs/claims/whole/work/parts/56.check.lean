def qst1 (c : BitVec 32) : BitVec 32 := (c >>> 1) ^^^ (if c.getLsbD 0 then 0xEDB88320#32 else 0#32)
theorem st1_xor (a b : BitVec 32) : qst1 (a ^^^ b) = qst1 a ^^^ qst1 b := by
  unfold qst1
  rw [BitVec.ushiftRight_xor_distrib, BitVec.getLsbD_xor]
  cases ha : a.getLsbD 0 <;> cases hb : b.getLsbD 0 <;> simp
  · rw [BitVec.xor_assoc]
  · rw [BitVec.xor_assoc, BitVec.xor_assoc, BitVec.xor_comm (b >>> 1)]
  · rw [BitVec.xor_assoc (a >>> 1), BitVec.xor_comm (0xEDB88320#32), BitVec.xor_assoc (b >>> 1), BitVec.xor_self, BitVec.xor_zero]
theorem st1_even {c : BitVec 32} (h : c.getLsbD 0 = false) : qst1 c = c >>> 1 := by
  unfold qst1; rw [h]; simp
def qst4 (c : BitVec 32) : BitVec 32 := qst1 (qst1 (qst1 (qst1 c)))
theorem st4_xor (a b : BitVec 32) : qst4 (a ^^^ b) = qst4 a ^^^ qst4 b := by
  unfold qst4; simp only [st1_xor]
theorem st4_hi (h : BitVec 32) : qst4 (h >>> 4 <<< 4) = h >>> 4 := by
  unfold qst4
  rw [st1_even (c := h >>> 4 <<< 4) (by simp), st1_even (c := (h >>> 4 <<< 4) >>> 1) (by simp), st1_even (c := (h >>> 4 <<< 4) >>> 1 >>> 1) (by simp), st1_even (c := (h >>> 4 <<< 4) >>> 1 >>> 1 >>> 1) (by simp)]
  apply BitVec.eq_of_getLsbD_eq
  intro i hi
  simp only [BitVec.getLsbD_ushiftRight, BitVec.getLsbD_shiftLeft]
  have e : 1 + (1 + (1 + (1 + i))) = 4 + i := by omega
  rw [e, decide_eq_false (show ¬ 4 + i < 4 by omega)]
  have e2 : 4 + (4 + i - 4) = 4 + i := by omega
  rw [e2]
  by_cases h1 : 4 + i < 32
  · rw [decide_eq_true h1]; simp
  · rw [decide_eq_false h1, BitVec.getLsbD_of_ge _ _ (by omega)]; simp
theorem st4_lo (i : Fin 16) : qst4 (BitVec.ofNat 32 i.val) = (stepV.getD i.val 0).toBitVec := by
  revert i; decide
theorem split4 (x : BitVec 32) : x = (x &&& 15#32) ^^^ (x >>> 4 <<< 4) := by
  apply BitVec.eq_of_getLsbD_eq
  intro i hi
  have h15 : (15#32).getLsbD i = decide (i < 4) := by
    have : ∀ j : Fin 32, (15#32).getLsbD j.val = decide (j.val < 4) := by decide
    exact this ⟨i, hi⟩
  rw [BitVec.getLsbD_xor, BitVec.getLsbD_and, h15, BitVec.getLsbD_shiftLeft, BitVec.getLsbD_ushiftRight, decide_eq_true hi]
  by_cases h : i < 4
  · rw [decide_eq_true h]; simp
  · rw [decide_eq_false h, show 4 + (i - 4) = i by omega]; simp
theorem and15_lt (x : Int32) : ∃ i : Fin 16, x &&& 15 = nI i.val := by
  refine ⟨⟨x.toBitVec.toNat % 16, by omega⟩, ?_⟩
  apply Int32.toBitVec_inj.mp
  apply BitVec.eq_of_toNat_eq
  have e : (15 : Int32).toBitVec.toNat = 2 ^ 4 - 1 := rfl
  rw [Int32.toBitVec_and, BitVec.toNat_and, e, Nat.and_two_pow_sub_one_eq_mod]
  show _ = (BitVec.ofNat 32 (x.toBitVec.toNat % 16)).toNat
  rw [BitVec.toNat_ofNat]
  omega
/-- half a byte, by PageForm's row of steps -/
theorem nib (x : Int32) : inB (x &&& 15) 16 = true ∧ ((x.toUInt32 >>> ((4 : Int32).toUInt32 &&& Int32.toUInt32 31)).toInt32 ^^^ (stepV.getD (x &&& 15).toNatClampNeg 0)).toBitVec = qst4 x.toBitVec := by
  obtain ⟨i, hi⟩ := and15_lt x
  have hlt := i.isLt
  constructor
  · rw [hi, inB_nI (by omega)]; simpa using hlt
  · rw [hi, qn_clamp (by omega), Int32.toBitVec_xor, ← st4_lo i]
    have h4 : ((x.toUInt32 >>> ((4 : Int32).toUInt32 &&& Int32.toUInt32 31)).toInt32).toBitVec = x.toBitVec >>> 4 := ushr_bv x (s := 4) (by omega)
    have hx : x.toBitVec &&& 15#32 = BitVec.ofNat 32 i.val := congrArg Int32.toBitVec hi
    rw [h4, ← hx]
    conv => rhs; rw [split4 x.toBitVec, st4_xor, st4_hi]
    rw [BitVec.xor_comm]
def bz (b : UInt8) : BitVec 32 := b.toBitVec.setWidth 32
def crcB (c : BitVec 32) (b : UInt8) : BitVec 32 := qst4 (qst4 (c ^^^ bz b))
def crcF (c : BitVec 32) (L : List UInt8) : BitVec 32 := L.foldl crcB c
/-- the CHECK -/
def qcrc (L : List UInt8) : Int32 := Int32.ofBitVec (crcF (BitVec.allOnes 32) L) ^^^ (-1)
theorem crcF_app (c : BitVec 32) (L : List UInt8) (b : UInt8) : crcF c (L ++ [b]) = crcB (crcF c L) b := by simp [crcF]
theorem um_bv (b : UInt8) : (um b).toBitVec = bz b := rfl
theorem ofBV (x : Int32) : Int32.ofBitVec x.toBitVec = x := rfl
/-- bytes from a on: as PageForm and the reference hold them -/
def SegC (L : List UInt8) (a : Nat) (row : Nat → Int32) : Prop := ∀ i (h : i < L.length), row (a + i) = qsb L[i]
def SegM (L : List UInt8) (a : Nat) (row : Nat → Int32) : Prop := ∀ i (h : i < L.length), row (a + i) = um L[i]
theorem F_checkOf {n cap a : Nat} {L : List UInt8} {row : Nat → Int32} (hn : 100000 < n) (hc : cap < 100000) (ha : a + L.length ≤ cap) (h : SegC L a row) :
    f_F_checkOf n cap row (nI a) (nI (a + L.length)) = some (qcrc L) := by
  unfold f_F_checkOf
  have main : ∃ o, lp (fun v => f_F_checkOf_l5 cap row (nI (a + L.length)) v.1 v.2) n ((-1 : Int32), nI a) = some o ∧ o = qcrc L := by
    refine lp_inv (fun q u => ∃ j, j + q = L.length ∧ u.2 = nI (a + j) ∧ u.1.toBitVec = crcF (BitVec.allOnes 32) (L.take j)) _ ?_ L.length n _ ⟨0, by omega, rfl, rfl⟩ (by omega)
    rintro q ⟨c, k'⟩ ⟨j, g1, g2, g3⟩
    simp only at g2 g3
    subst g2
    show (∃ w', f_F_checkOf_l5 cap row (nI (a + L.length)) c (nI (a + j)) = _ ∧ _) ∨ (∃ y, f_F_checkOf_l5 cap row (nI (a + L.length)) c (nI (a + j)) = _ ∧ _)
    unfold f_F_checkOf_l5
    rw [ifle (by omega) (by omega)]
    by_cases c1 : a + L.length ≤ a + j
    · have : j = L.length := by omega
      subst this
      refine Or.inr ⟨_, by rw [if_pos c1], ?_⟩
      rw [List.take_length] at g3
      unfold qcrc
      rw [← g3]
      rfl
    · rw [if_neg c1, gd_nI (by omega) (by omega), qn_clamp (by omega), h j (by omega), oct_sb]
      simp only [bnd]
      obtain ⟨b1, b2⟩ := nib (c ^^^ um L[j])
      rw [gd_t b1]
      generalize hX : (((c ^^^ um L[j]).toUInt32 >>> ((4 : Int32).toUInt32 &&& Int32.toUInt32 31)).toInt32 ^^^ stepV.getD ((c ^^^ um L[j]) &&& 15).toNatClampNeg 0) = X at b2 ⊢
      obtain ⟨d1, d2⟩ := nib X
      rw [gd_t d1]
      refine Or.inl ⟨_, rfl, q - 1, by omega, j + 1, by omega, qn_add _ 1, ?_⟩
      show (_ ^^^ _ : Int32).toBitVec = _
      rw [d2, b2, Int32.toBitVec_xor, um_bv, g3, List.take_add_one, List.getElem?_eq_getElem (by omega), Option.toList_some, crcF_app]
      rfl
  obtain ⟨o, h1, h2⟩ := main
  rw [h1, h2]; rfl
def qstN : Nat → BitVec 32 → BitVec 32
  | 0, c => c
  | k + 1, c => qst1 (qstN k c)
theorem bit0_iff (x : Int32) : (x &&& 1 = 1) ↔ x.toBitVec.getLsbD 0 = true := by
  have h1 : (x &&& 1).toBitVec = if x.toBitVec.getLsbD 0 then 1#32 else 0#32 := by
    apply BitVec.eq_of_toNat_eq
    have e : (1 : Int32).toBitVec.toNat = 2 ^ 1 - 1 := rfl
    rw [Int32.toBitVec_and, BitVec.toNat_and, e, Nat.and_two_pow_sub_one_eq_mod]
    have : x.toBitVec.getLsbD 0 = decide (x.toBitVec.toNat % 2 = 1) := by
      rw [BitVec.getLsbD, Nat.testBit_zero]
    rw [this]
    by_cases hh : x.toBitVec.toNat % 2 = 1
    · rw [decide_eq_true hh]; simp; omega
    · rw [decide_eq_false hh]; simp; omega
  constructor
  · intro h
    rw [h] at h1
    cases hb : x.toBitVec.getLsbD 0
    · rw [hb] at h1; revert h1; decide
    · rfl
  · intro h
    rw [h] at h1
    exact Int32.toBitVec_inj.mp h1
theorem bz_shr8 (b : UInt8) : bz b >>> 8 = 0#32 := by
  apply BitVec.eq_of_toNat_eq
  have := u8_lt b
  have h : (bz b).toNat = b.toNat := by
    unfold bz
    rw [BitVec.toNat_setWidth]
    exact Nat.mod_eq_of_lt (by show b.toNat < _; omega)
  rw [BitVec.toNat_ushiftRight, h, Nat.shiftRight_eq_div_pow]
  show b.toNat / 256 = 0
  omega
theorem um_sar (b : UInt8) {i : Nat} (hi : i < 8) : (um b >>> (nI i &&& 31)).toBitVec = bz b >>> i := by
  have hb := u8_lt b
  have h1 : b.toNat / 2 ^ i ≤ b.toNat := Nat.div_le_self _ _
  rw [um_nI, nI_shr (by omega) (by omega)]
  apply BitVec.eq_of_toNat_eq
  have h : (bz b).toNat = b.toNat := by
    unfold bz
    rw [BitVec.toNat_setWidth]
    exact Nat.mod_eq_of_lt (by show b.toNat < _; omega)
  rw [BitVec.toNat_ushiftRight, h, Nat.shiftRight_eq_div_pow]
  show (BitVec.ofNat 32 (b.toNat / 2 ^ i)).toNat = _
  rw [BitVec.toNat_ofNat]
  exact Nat.mod_eq_of_lt (by omega)
theorem st1_shift (c b : BitVec 32) (i : Nat) : (c >>> 1) ^^^ (if (b >>> i ^^^ c).getLsbD 0 then 0xEDB88320#32 else 0#32) ^^^ b >>> (i + 1) = qst1 (c ^^^ b >>> i) := by
  unfold qst1
  rw [BitVec.ushiftRight_xor_distrib, ← BitVec.shiftRight_add, BitVec.xor_comm (b >>> i) c]
  rw [BitVec.xor_assoc, BitVec.xor_comm _ (b >>> (i + 1)), ← BitVec.xor_assoc]
theorem M_check_byte {n cap k : Nat} {row : Nat → Int32} (b : UInt8) (c : Int32) (hn : 100000 < n) (hc : cap < 100000) (hk : k < cap) (h : row k = um b) :
    ∃ o, lp (fun v => f_M_check_l14 cap row (nI k) v.1 v.2) n (c, (0 : Int32)) = some o ∧ o.1.toBitVec = crcB c.toBitVec b := by
  have main : ∃ o, lp (fun v => f_M_check_l14 cap row (nI k) v.1 v.2) n (c, (0 : Int32)) = some o ∧ o.1.toBitVec ^^^ (bz b >>> 8) = qstN 8 (c.toBitVec ^^^ bz b) := by
    refine lp_inv (fun q u => ∃ i, i + q = 8 ∧ u.2 = nI i ∧ u.1.toBitVec ^^^ (bz b >>> i) = qstN i (c.toBitVec ^^^ bz b)) _ ?_ 8 n _ ⟨0, by omega, rfl, by simp [qstN]⟩ (by omega)
    rintro q ⟨c', i'⟩ ⟨i, g1, g2, g3⟩
    simp only at g2 g3
    subst g2
    show (∃ w', f_M_check_l14 cap row (nI k) c' (nI i) = _ ∧ _) ∨ (∃ y, f_M_check_l14 cap row (nI k) c' (nI i) = _ ∧ _)
    unfold f_M_check_l14
    have e8 : (8 : Int32) = nI 8 := rfl
    rw [e8, ifle (by omega) (by omega)]
    by_cases c1 : 8 ≤ i
    · have : i = 8 := by omega
      subst this
      exact Or.inr ⟨_, by rw [if_pos c1], g3⟩
    · rw [if_neg c1, gd_nI (by omega) hk, qn_clamp (by omega), h]
      have hb : ((um b >>> (nI i &&& 31) ^^^ c') &&& 1 = 1) ↔ (bz b >>> i ^^^ c'.toBitVec).getLsbD 0 = true := by
        rw [bit0_iff, Int32.toBitVec_xor, um_sar b (by omega)]
      have h1 : ((c'.toUInt32 >>> ((1 : Int32).toUInt32 &&& Int32.toUInt32 31)).toInt32).toBitVec = c'.toBitVec >>> 1 := ushr_bv c' (s := 1) (by omega)
      by_cases c2 : ((um b >>> (nI i &&& 31) ^^^ c') &&& 1 = 1)
      · rw [if_pos c2]
        unfold f_M_check_j41
        simp only [bnd]
        rw [if_neg (show ¬ (1 : Int32) = 0 by decide)]
        refine Or.inl ⟨_, rfl, q - 1, by omega, i + 1, by omega, qn_add i 1, ?_⟩
        show (_ ^^^ (-306674912 : Int32)).toBitVec ^^^ _ = _
        rw [Int32.toBitVec_xor, h1]
        have := st1_shift c'.toBitVec (bz b) i
        rw [if_pos (hb.mp c2)] at this
        simp only [qstN]
        rw [← g3, ← this]
        rfl
      · rw [if_neg c2]
        unfold f_M_check_j41
        simp only [bnd]
        rw [if_pos trivial]
        refine Or.inl ⟨_, rfl, q - 1, by omega, i + 1, by omega, qn_add i 1, ?_⟩
        show (_ : Int32).toBitVec ^^^ _ = _
        rw [h1]
        have := st1_shift c'.toBitVec (bz b) i
        rw [if_neg (fun q => c2 (hb.mpr q)), BitVec.xor_zero] at this
        simp only [qstN]
        rw [← g3, ← this]
  obtain ⟨o, h1, h2⟩ := main
  rw [bz_shr8, BitVec.xor_zero] at h2
  exact ⟨o, h1, h2⟩
theorem M_check {n cap a : Nat} {L : List UInt8} {row : Nat → Int32} (hn : 100000 < n) (hc : cap < 100000) (ha : a + L.length ≤ cap) (h : SegM L a row) :
    f_M_check n cap row (nI a) (nI (a + L.length)) = some (qcrc L) := by
  unfold f_M_check
  have main : ∃ o, lp (fun v => f_M_check_l5 n cap row (nI (a + L.length)) v.1 v.2) n ((-1 : Int32), nI a) = some o ∧ o = qcrc L := by
    refine lp_inv (fun q u => ∃ j, j + q = L.length ∧ u.2 = nI (a + j) ∧ u.1.toBitVec = crcF (BitVec.allOnes 32) (L.take j)) _ ?_ L.length n _ ⟨0, by omega, rfl, rfl⟩ (by omega)
    rintro q ⟨c, k'⟩ ⟨j, g1, g2, g3⟩
    simp only at g2 g3
    subst g2
    show (∃ w', f_M_check_l5 n cap row (nI (a + L.length)) c (nI (a + j)) = _ ∧ _) ∨ (∃ y, f_M_check_l5 n cap row (nI (a + L.length)) c (nI (a + j)) = _ ∧ _)
    unfold f_M_check_l5
    rw [ifle (by omega) (by omega)]
    by_cases c1 : a + L.length ≤ a + j
    · have : j = L.length := by omega
      subst this
      refine Or.inr ⟨_, by rw [if_pos c1], ?_⟩
      rw [List.take_length] at g3
      unfold qcrc
      rw [← g3]
      rfl
    · rw [if_neg c1]
      obtain ⟨o, p1, p2⟩ := M_check_byte (n := n) (cap := cap) (k := a + j) (row := row) L[j] c hn hc (by omega) (h j (by omega))
      rw [p1, obs]
      unfold f_M_check_j63
      refine Or.inl ⟨_, rfl, q - 1, by omega, j + 1, by omega, qn_add _ 1, ?_⟩
      show o.1.toBitVec = _
      rw [p2, g3, List.take_add_one, List.getElem?_eq_getElem (by omega), Option.toList_some, crcF_app]
  obtain ⟨o, h1, h2⟩ := main
  rw [h1, h2]; rfl
