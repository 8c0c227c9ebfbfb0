/-- ZIGZAG -/
def zz (v : Int64) : Int64 := (v <<< ((1 : Int32).toInt64 &&& 63)) ^^^ (v >>> ((63 : Int32).toInt64 &&& 63))
theorem Int64_sar63 (v : Int64) : v >>> ((63 : Int32).toInt64 &&& 63) = if 0 ≤ v then 0 else -1 := by
  have e : ((63 : Int32).toInt64 &&& 63) = 63 := by decide
  rw [e]
  apply Int64.toInt_inj.mp
  have h1 : (v >>> (63 : Int64)).toInt = v.toInt >>> 63 := by
    show (v >>> (63 : Int64)).toBitVec.toInt = v.toBitVec.toInt >>> 63
    rw [Int64.toBitVec_shiftRight]
    have : (63 : Int64).toBitVec.smod 64 = 63#64 := by decide
    rw [this]
    simp only [BitVec.sshiftRight', BitVec.toInt_sshiftRight]
    rfl
  rw [h1, Int.shiftRight_eq_div_pow]
  have hb1 := Int64.le_toInt v
  have hb2 := Int64.toInt_lt v
  by_cases c : 0 ≤ v
  · rw [if_pos c]
    rw [Int64.le_iff_toInt_le] at c
    have z0 : (0 : Int64).toInt = 0 := rfl
    rw [z0] at c ⊢
    exact Int.ediv_eq_zero_of_lt c (by simpa using hb2)
  · rw [if_neg c]
    rw [Int64.le_iff_toInt_le] at c
    have z0 : (0 : Int64).toInt = 0 := rfl
    have z1 : (-1 : Int64).toInt = -1 := rfl
    rw [z0] at c
    rw [z1]
    have hb1' : (-9223372036854775808 : Int) ≤ v.toInt := hb1
    show v.toInt / 9223372036854775808 = -1
    omega
theorem Int64_shl1 (v : Int64) : v <<< ((1 : Int32).toInt64 &&& 63) = 2 * v := by
  have h := lv_shl v (k := 1) (by omega)
  apply lv_inj
  have e : (1 : Int32) = nI 1 := rfl
  rw [e, h]
  show _ = (2 * v).toBitVec.toNat
  rw [Int64.toBitVec_mul, BitVec.toNat_mul]
  show lv v <<< 1 % 18446744073709551616 = (2 * lv v) % 2 ^ 64
  rw [Nat.shiftLeft_eq]
  congr 1; omega
theorem Int64_xor_m1 (v : Int64) : v ^^^ (-1) = -v - 1 := by
  apply Int64.toBitVec_inj.mp
  have h1 : (v ^^^ (-1)).toBitVec = v.toBitVec ^^^ BitVec.allOnes 64 := by
    rw [Int64.toBitVec_xor]; rfl
  have h2 : (-v - 1).toBitVec = -v.toBitVec - 1#64 := by
    rw [Int64.toBitVec_sub, Int64.toBitVec_neg]; rfl
  rw [h1, h2, BitVec.xor_allOnes, BitVec.not_eq_neg_add]
theorem M_zigzag (v : Int64) : f_M_zigzag v = some (zz v) := by
  unfold f_M_zigzag zz
  rw [Int64_sar63, Int64_shl1]
  by_cases c : 0 ≤ v
  · rw [if_pos c, if_pos c]; simp
  · rw [if_neg c, if_neg c, Int64_xor_m1]
    congr 2
    have : (-2 : Int64) = -(2 : Int64) := by decide
    rw [this, Int64.neg_mul]
theorem F_zigzag (v : Int64) : f_F_zigzag v = some (zz v) := rfl
/-- how many bits a number takes -/
def wd (x : Nat) : Nat := if x = 0 then 0 else x.log2 + 1
theorem wd_lt (x : Nat) : x < 2 ^ wd x := by
  unfold wd
  by_cases h : x = 0
  · rw [if_pos h, h]; decide
  · rw [if_neg h]; exact Nat.lt_log2_self
theorem wd_le {x w : Nat} (h : x < 2 ^ w) : wd x ≤ w := by
  unfold wd
  by_cases h0 : x = 0
  · rw [if_pos h0]; omega
  · rw [if_neg h0]
    have := (Nat.log2_lt h0).mpr h
    omega
theorem wd_iff {x w : Nat} : wd x ≤ w ↔ x < 2 ^ w := ⟨fun h => Nat.lt_of_lt_of_le (wd_lt x) (Nat.pow_le_pow_right (by omega) h), wd_le⟩
theorem wd_or (a b : Nat) : wd (a ||| b) = max (wd a) (wd b) := by
  apply Nat.le_antisymm
  · apply wd_le
    have h1 : a < 2 ^ max (wd a) (wd b) := wd_iff.mp (by omega)
    have h2 : b < 2 ^ max (wd a) (wd b) := wd_iff.mp (by omega)
    exact Nat.or_lt_two_pow h1 h2
  · have h := wd_lt (a ||| b)
    have h1 : wd a ≤ wd (a ||| b) := wd_le (Nat.lt_of_le_of_lt Nat.left_le_or h)
    have h2 : wd b ≤ wd (a ||| b) := wd_le (Nat.lt_of_le_of_lt Nat.right_le_or h)
    omega
theorem shr_zero_iff {x w : Nat} : x >>> w = 0 ↔ wd x ≤ w := by
  rw [wd_iff, Nat.shiftRight_eq_div_pow, Nat.div_eq_zero_iff_lt (Nat.two_pow_pos w)]
theorem F_widthOf {n : Nat} (v : Int64) (hn : 100 < n) : f_F_widthOf n v = some (nI (wd (lv v))) := by
  unfold f_F_widthOf
  have h64 : wd (lv v) ≤ 64 := wd_le (by have := qlv_lt v; simpa using this)
  have main : ∃ o, lp (fun u => f_F_widthOf_l2 v u) n (0 : Int32) = some o ∧ o = nI (wd (lv v)) := by
    refine lp_inv (fun q u => ∃ j, j + q = 64 ∧ u = nI j ∧ j ≤ wd (lv v)) _ ?_ 64 n _ ⟨0, by omega, rfl, by omega⟩ (by omega)
    rintro q u ⟨j, g1, g2, g3⟩
    subst g2
    unfold f_F_widthOf_l2
    have e : (64 : Int32) = nI 64 := rfl
    rw [e, ifle (by omega) (by omega)]
    by_cases c : 64 ≤ j
    · exact Or.inr ⟨_, by rw [if_pos c], by congr 1; omega⟩
    · rw [if_neg c]
      have hz : (((v.toUInt64 >>> ((nI j).toInt64.toUInt64 &&& Int64.toUInt64 63)).toInt64) = 0) ↔ wd (lv v) ≤ j := by
        rw [lv_zero, lv_shr, lv_nI (by omega), Nat.mod_eq_of_lt (by omega), shr_zero_iff]
      by_cases c2 : wd (lv v) ≤ j
      · rw [if_pos (hz.mpr c2)]
        exact Or.inr ⟨_, rfl, by congr 1; omega⟩
      · rw [if_neg (fun h => c2 (hz.mp h))]
        exact Or.inl ⟨_, rfl, q - 1, by omega, j + 1, by omega, qn_add j 1, by omega⟩
  obtain ⟨o, h1, h2⟩ := main
  rw [h1, h2]; rfl
/-- differences; the least of c of them; widths -/
def dif (a : Nat → Int64) (k : Nat) : Int64 := a (k + 1) - a k
def qlst (a : Nat → Int64) (s : Nat) : Nat → Int64
  | 0 => dif a s
  | c + 1 => if dif a (s + c) < qlst a s c then dif a (s + c) else qlst a s c
def ab (a : Nat → Int64) (least : Int64) (k : Nat) : Nat := lv (dif a k - least)
def mw (g : Nat → Nat) : Nat → Nat
  | 0 => 0
  | k + 1 => max (mw g k) (wd (g k))
theorem mw_ge {g : Nat → Nat} {c i : Nat} (h : i < c) : g i < 2 ^ mw g c := by
  apply wd_iff.mp
  induction c with
  | zero => omega
  | succ c ih =>
    simp only [mw]
    by_cases e : i = c
    · subst e; omega
    · have := ih (by omega); omega
theorem mw_le {g : Nat → Nat} {c w : Nat} (h : ∀ i, i < c → g i < 2 ^ w) : mw g c ≤ w := by
  induction c with
  | zero => simp [mw]
  | succ c ih =>
    simp only [mw]
    have h1 := ih (fun i hi => h i (by omega))
    have h2 := wd_le (h c (by omega))
    omega
theorem ab_lt (a : Nat → Int64) (least : Int64) (k : Nat) : ab a least k < 2 ^ 64 := qlv_lt _
/-- how many differences part q of the block from s to e has, and its width -/
def pc (s e q : Nat) : Nat := min (s + 16 * q + 16) e - (s + 16 * q)
def pw (a : Nat → Int64) (least : Int64) (s e q : Nat) : Nat := mw (fun i => ab a least (s + 16 * q + i)) (pc s e q)
def sPart (a : Nat → Int64) (least : Int64) (s e q : Nat) : List UInt8 := sBits (pbit (fun i => ab a least (s + 16 * q + i)) (pc s e q) (pw a least s e q)) (2 * pw a least s e q)
def sBlk (a : Nat → Int64) (s e : Nat) (least : Int64) : List UInt8 :=
  sVar (lv (zz least)) ++ [UInt8.ofNat (pw a least s e 0), UInt8.ofNat (pw a least s e 1), UInt8.ofNat (pw a least s e 2), UInt8.ofNat (pw a least s e 3)] ++ (sPart a least s e 0 ++ sPart a least s e 1 ++ sPart a least s e 2 ++ sPart a least s e 3)
/-- the blocks from difference s on, of d differences -/
def sBlks (a : Nat → Int64) (d s : Nat) : List UInt8 :=
  if h : d ≤ s then [] else sBlk a s (min (s + 64) d) (qlst a s (min (s + 64) d - s)) ++ sBlks a d (s + 64)
termination_by d - s
decreasing_by omega
def qsCode (a : Nat → Int64) (m : Nat) : List UInt8 := sVar m ++ (if m = 0 then [] else sVar (lv (zz (a 0))) ++ sBlks a (m - 1) 0)
theorem pw_le64 (a : Nat → Int64) (least : Int64) (s e q : Nat) : pw a least s e q ≤ 64 := mw_le (fun i _ => ab_lt a least _)
theorem sPart_len (a : Nat → Int64) (least : Int64) (s e q : Nat) : (sPart a least s e q).length = 2 * pw a least s e q := sBits_len _ _
theorem sVar10 (v : Int64) : (sVar (lv v)).length ≤ 10 := sVar_len 9 _ (by have := qlv_lt v; show lv v < 128 ^ 10; omega)
theorem sBlks_end {a : Nat → Int64} {d s : Nat} (h : d ≤ s) : sBlks a d s = [] := by rw [sBlks, dif_pos h]
theorem sBlks_next {a : Nat → Int64} {d s : Nat} (h : ¬ d ≤ s) : sBlks a d s = sBlk a s (min (s + 64) d) (qlst a s (min (s + 64) d - s)) ++ sBlks a d (s + 64) := by rw [sBlks, dif_neg h]
theorem sBlks_len {a : Nat → Int64} {d V W : Nat} (hV : ∀ s, s < d → (sVar (lv (zz (qlst a s (min (s + 64) d - s))))).length ≤ V) (hW : ∀ s q, s < d → pw a (qlst a s (min (s + 64) d - s)) s (min (s + 64) d) q ≤ W) :
    ∀ x s, d - s ≤ x → (sBlks a d s).length ≤ (V + 4 + 8 * W) * ((d - s + 63) / 64) := by
  intro x
  induction x using Nat.strongRecOn with
  | ind x ih =>
    intro s hs
    by_cases h : d ≤ s
    · rw [sBlks_end h]; simp
    · rw [sBlks_next h]
      have h1 := ih (d - (s + 64)) (by omega) (s + 64) (Nat.le_refl _)
      have h2 := hV s (by omega)
      have h3 := hW s 0 (by omega)
      have h4 := hW s 1 (by omega)
      have h5 := hW s 2 (by omega)
      have h6 := hW s 3 (by omega)
      have h7 : (d - (s + 64) + 63) / 64 + 1 ≤ (d - s + 63) / 64 := by omega
      have h8 := Nat.mul_le_mul_left (V + 4 + 8 * W) h7
      rw [Nat.mul_add, Nat.mul_one] at h8
      simp only [sBlk, List.length_append, sPart_len, List.length_cons, List.length_nil]
      omega
