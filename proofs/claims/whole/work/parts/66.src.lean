/-- a number in the bits of the INPUT -/
def bval (I : List UInt8) (first w : Nat) : Nat := qbN (fun i => bitOf I (first + i)) w
theorem bval_lt (I : List UInt8) (first w : Nat) : bval I first w < 2 ^ w := bN_lt _ _
theorem bN_mod (b : Nat → Bool) {w d : Nat} (h : w ≤ d) : qbN b d % 2 ^ w = qbN b w := by
  apply bN_ext (Nat.mod_lt _ (Nat.two_pow_pos w))
  intro i hi
  rw [Nat.testBit_mod_two_pow, bN_testBit, decide_eq_true hi, decide_eq_true (show i < d by omega)]; simp
theorem lv_shl' (v : Int64) {k : Nat} (hk : k < 64) : lv (v <<< ((nI k).toInt64 &&& 63)) = (lv v <<< k) % 2 ^ 64 := lv_shl v hk
theorem and_mask {v : Int64} {w : Nat} (hw : w < 64) : lv (v &&& (((1 : Int64) <<< ((nI w).toInt64 &&& 63)) - 1)) = lv v % 2 ^ w := by
  have h1 : lv (((1 : Int64) <<< ((nI w).toInt64 &&& 63)) - 1) = 2 ^ w - 1 := by
    have h2 : (1 : Int64) <<< ((nI w).toInt64 &&& 63) = ql64 (2 ^ w) := by
      apply lv_inj
      have hp : 2 ^ w < 2 ^ 64 := Nat.pow_lt_pow_right (by omega) hw
      rw [lv_shl' _ hw, lv_l64 (by omega)]
      have : lv 1 = 1 := rfl
      rw [this, Nat.shiftLeft_eq, Nat.one_mul]
      exact Nat.mod_eq_of_lt hp
    have hpos := Nat.two_pow_pos w
    have hp : 2 ^ w < 2 ^ 64 := Nat.pow_lt_pow_right (by omega) hw
    have h3 : ql64 (2 ^ w) - 1 = ql64 (2 ^ w - 1) := by
      have : ql64 (2 ^ w) = ql64 (2 ^ w - 1) + ql64 1 := by rw [ql64_add]; congr 1; omega
      rw [this]
      have e1 : (1 : Int64) = ql64 1 := rfl
      rw [e1]; simp
    rw [h2, h3, lv_l64 (by omega)]
  rw [lv_and, h1, Nat.and_two_pow_sub_one_eq_mod]
theorem octv {I : List UInt8} {row : Nat → Int32} {k : Nat} (h : HC I row) (hk : k < I.length) : row k &&& 255 = nI (I.getD k 0).toNat := by
  rw [h k hk, oct_sb, um_nI, List.getD_eq_getElem?_getD, List.getElem?_eq_getElem hk]; rfl
theorem octm {I : List UInt8} {row : Nat → Int32} {k : Nat} (h : QHM I row) (hk : k < I.length) : row k = nI (I.getD k 0).toNat := by
  rw [h k hk, um_nI, List.getD_eq_getElem?_getD, List.getElem?_eq_getElem hk]; rfl
theorem bitOf_at (I : List UInt8) (p : Nat) : bitOf I p = (I.getD (p / 8) 0).toNat.testBit (p % 8) := rfl
theorem S_bitsAt {n cap e first w : Nat} {I : List UInt8} {row : Nat → Int32} (hn : 100 < n) (hc : cap < 100000) (hI : I.length ≤ cap) (he : e ≤ I.length) (hw : w ≤ 64) (hfit : first + w ≤ 8 * e) (h : HC I row) :
    f_S_bitsAt n cap (nI e) row (nI first) (nI w) = some (ql64 (bval I first w)) := by
  unfold f_S_bitsAt
  have e3 : nI first >>> ((3 : Int32) &&& 31) = nI (first / 8) := nI_shr (k := 3) (by omega) (by omega)
  rw [bnd_eq, e3]
  have main : ∃ o, lp (fun u => f_S_bitsAt_l10 cap (nI e) row (nI first) (nI w) u.1 u.2.1 u.2.2) n ((0 : Int64), (0 : Int32), nI (first / 8)) = some o ∧ ∃ d, w ≤ d ∧ lv o.1 = qbN (fun i => bitOf I (first + i)) (min d 64) := by
    refine lp_inv (fun q u => ∃ done, u.2.1 = nI done ∧ u.2.2 = nI ((first + done) / 8) ∧ (done = 0 ∨ (first + done) % 8 = 0) ∧ w - done ≤ q ∧ done ≤ w + 8 ∧ lv u.1 = qbN (fun i => bitOf I (first + i)) (min done 64)) _ ?_ w n _ ⟨0, rfl, rfl, Or.inl rfl, by omega, by omega, rfl⟩ (by omega)
    rintro q ⟨v, d', k'⟩ ⟨done, g1, g2, g3, g4, g5, g6⟩
    simp only at g1 g2 g6
    subst g1; subst g2
    show (∃ w', f_S_bitsAt_l10 cap (nI e) row (nI first) (nI w) v (nI done) (nI ((first + done) / 8)) = _ ∧ _) ∨ (∃ x, f_S_bitsAt_l10 cap (nI e) row (nI first) (nI w) v (nI done) (nI ((first + done) / 8)) = _ ∧ _)
    unfold f_S_bitsAt_l10
    rw [ifle (by omega) (by omega)]
    by_cases c1 : w ≤ done
    · exact Or.inr ⟨_, by rw [if_pos c1], done, c1, g6⟩
    · have hk : (first + done) / 8 < I.length := by omega
      have hb := u8_lt (I.getD ((first + done) / 8) 0)
      have e8 : (8 : Int32) - nI ((first + done) % 8) = nI (8 - (first + done) % 8) := nI_sub (show (first + done) % 8 ≤ 8 by omega)
      have ek : nI ((first + done) / 8) + 1 = nI ((first + done) / 8 + 1) := qn_add _ 1
      have hdl : (I.getD ((first + done) / 8) 0).toNat / 2 ^ ((first + done) % 8) ≤ (I.getD ((first + done) / 8) 0).toNat := Nat.div_le_self _ _
      rw [if_neg c1, ifle (by omega) (by omega), if_neg (show ¬ e ≤ (first + done) / 8 by omega), bnd_eq, qn_add, nI_and7, gd_nI (by omega) (by omega), qn_clamp (by omega), octv h hk, nI_shr (by omega) (by omega), bnd_eq, bnd_eq, bnd_eq, e8, qn_add, ek]
      refine Or.inl ⟨_, rfl, w - (done + (8 - (first + done) % 8)), by omega, done + (8 - (first + done) % 8), rfl, ?_, Or.inr (by omega), by omega, by omega, ?_⟩
      · show nI ((first + done) / 8 + 1) = _
        congr 1; omega
      · show lv (v ||| _) = _
        rw [lv_or, g6, lv_shl' _ (show done < 64 by omega), lv_nI (by omega)]
        apply bN_ext
        · exact Nat.or_lt_two_pow (Nat.lt_of_lt_of_le (bN_lt _ _) (Nat.pow_le_pow_right (by omega) (by omega))) (by
            rcases Nat.le_total 64 (done + (8 - (first + done) % 8)) with hh | hh
            · rw [show min (done + (8 - (first + done) % 8)) 64 = 64 by omega]
              exact Nat.mod_lt _ (Nat.two_pow_pos 64)
            · rw [show min (done + (8 - (first + done) % 8)) 64 = done + (8 - (first + done) % 8) by omega]
              have hx : (I.getD ((first + done) / 8) 0).toNat / 2 ^ ((first + done) % 8) < 2 ^ (8 - (first + done) % 8) := by
                rw [Nat.div_lt_iff_lt_mul (Nat.two_pow_pos _), ← Nat.pow_add, show 8 - (first + done) % 8 + (first + done) % 8 = 8 by omega]
                exact hb
              have hy : ((I.getD ((first + done) / 8) 0).toNat / 2 ^ ((first + done) % 8)) <<< done < 2 ^ (done + (8 - (first + done) % 8)) := by
                rw [Nat.shiftLeft_eq, Nat.pow_add, Nat.mul_comm]
                exact Nat.mul_lt_mul_of_pos_left hx (Nat.two_pow_pos done)
              exact Nat.lt_of_le_of_lt (Nat.mod_le _ _) hy)
        · intro i hi
          rw [Nat.testBit_or, bN_testBit, Nat.testBit_mod_two_pow, Nat.testBit_shiftLeft, decide_eq_true (show i < 64 by omega), Bool.true_and, ← Nat.shiftRight_eq_div_pow, Nat.testBit_shiftRight]
          by_cases hid : i < done
          · rw [decide_eq_true (show i < min done 64 by omega), decide_eq_false (show ¬ i ≥ done by omega)]; simp
          · rw [decide_eq_false (show ¬ i < min done 64 by omega), decide_eq_true (show i ≥ done by omega), Bool.false_and, Bool.false_or, Bool.true_and, bitOf_at]
            have ep : (first + i) / 8 = (first + done) / 8 := by omega
            have em : (first + i) % 8 = (first + done) % 8 + (i - done) := by omega
            rw [ep, em]
  obtain ⟨o, h1, d, h2, h3⟩ := main
  rw [h1, obs]
  unfold f_S_bitsAt_j71
  have e64 : (64 : Int32) = nI 64 := rfl
  rw [e64, ifle (by omega) (by omega)]
  by_cases c : 64 ≤ w
  · rw [if_pos c]
    congr 1
    apply lv_inj
    have := bval_lt I first w
    have hw64 : w = 64 := by omega
    subst hw64
    rw [h3, lv_l64 this, show min d 64 = 64 by omega]; rfl
  · rw [if_neg c]
    congr 1
    apply lv_inj
    have hb := bval_lt I first w
    have hp : 2 ^ w ≤ 2 ^ 64 := Nat.pow_le_pow_right (by omega) hw
    rw [and_mask (by omega), h3, lv_l64 (by omega), bN_mod _ (by omega)]; rfl
theorem S_there0 {a e : Nat} (v : Int64) (hv : lv v ≤ e - a) (ha : a ≤ e) (he : e < 1000000) : f_S_there (nI a) (nI e) 0 v = some (1, 0) := by
  unfold f_S_there
  have hs := lv_toInt v
  have hl := qlv_lt v
  have z0 : (0 : Int64).toInt = 0 := rfl
  rw [if_pos rfl, nI_sub ha, lI64 (by omega), if_neg, if_pos]
  · rfl
  · rw [Int64.le_iff_toInt_le, l64_toInt (by omega)]; split at hs <;> omega
  · rw [Int64.lt_iff_toInt_lt, z0]; split at hs <;> omega
theorem S_there1 {a e : Nat} (v : Int64) (hv : ¬ lv v ≤ e - a) (ha : a ≤ e) (he : e < 1000000) : f_S_there (nI a) (nI e) 0 v = some (0, 1) := by
  unfold f_S_there
  have hs := lv_toInt v
  have hl := qlv_lt v
  have z0 : (0 : Int64).toInt = 0 := rfl
  rw [if_pos rfl, nI_sub ha, lI64 (by omega)]
  by_cases c : v < 0
  · rw [if_pos c]; rfl
  · rw [if_neg c, if_neg]
    · rfl
    · rw [Int64.lt_iff_toInt_lt, z0] at c
      rw [Int64.le_iff_toInt_le, l64_toInt (by omega)]; split at hs <;> omega
theorem S_thereF {at' to' f : Int32} (v : Int64) (hf : ¬ f = 0) : f_S_there at' to' f v = some (0, f) := by
  unfold f_S_there f_S_there_j33
  rw [if_neg hf, if_neg hf]
theorem S_fail0 (v : Int32) : f_S_fail 0 v = some v := rfl
theorem S_failF {f : Int32} (v : Int32) (hf : ¬ f = 0) : f_S_fail f v = some f := by unfold f_S_fail; rw [if_neg hf]
theorem S_octet0 {cap e a : Nat} {I : List UInt8} {row : Nat → Int32} (hc : cap < 100000) (hI : I.length ≤ cap) (he : e ≤ I.length) (ha : a < e) (h : HC I row) :
    f_S_octet cap (nI a) (nI e) 0 row = some (nI (I.getD a 0).toNat, nI (a + 1), 0) := by
  unfold f_S_octet
  have e1 : nI a + 1 = nI (a + 1) := qn_add a 1
  have e2 : nI (a + 1) - 1 = nI a := by rw [show (1 : Int32) = nI 1 from rfl, nI_sub (by omega)]; congr 1
  rw [S_there0 1 (by rw [show lv 1 = 1 from rfl]; omega) (by omega) (by omega), obs, if_neg (show ¬ (1 : Int32) = 0 by decide), bnd_eq, e1, e2, gd_nI (by omega) (by omega), qn_clamp (by omega), octv h (by omega)]
theorem S_octet1 {cap e a : Nat} {row : Nat → Int32} (ha : a = e) (he : e < 1000000) : f_S_octet cap (nI a) (nI e) 0 row = some (0, nI a, 1) := by
  unfold f_S_octet
  rw [S_there1 1 (by rw [show lv 1 = 1 from rfl]; omega) (by omega) he, obs, if_pos rfl]
theorem S_octetF {cap : Nat} {row : Nat → Int32} {at' to' f : Int32} (hf : ¬ f = 0) : f_S_octet cap at' to' f row = some (0, at', f) := by
  unfold f_S_octet
  rw [S_thereF _ hf, obs, if_pos rfl]
/-- VARINT, read: the fault, or where it ends and the number -/
def pVarG (I : List UInt8) (e : Nat) : Nat → Nat → Nat → Nat → Nat ⊕ (Nat × Nat)
  | 0, _, _, _ => .inl 2
  | q + 1, a, k, acc =>
    if e ≤ a then .inl 1
    else if (k = 9 ∧ 1 < (I.getD a 0).toNat) ∨ (0 < k ∧ (I.getD a 0).toNat = 0) then .inl 2
    else if (I.getD a 0).toNat < 128 then .inr (a + 1, acc ||| (((I.getD a 0).toNat % 128) <<< (7 * k)))
    else pVarG I e q (a + 1) (k + 1) (acc ||| (((I.getD a 0).toNat % 128) <<< (7 * k)))
def pVar (I : List UInt8) (e a : Nat) : Nat ⊕ (Nat × Nat) := pVarG I e 10 a 0 0
def VR (r : Nat ⊕ (Nat × Nat)) (o : Int64 × Int32 × Int32) : Prop :=
  match r with
  | .inl f => o.1 = 0 ∧ o.2.2 = nI f ∧ ¬ nI f = 0
  | .inr (a', v) => o.1 = ql64 v ∧ o.2.1 = nI a' ∧ o.2.2 = 0
theorem nIf {f : Nat} (h1 : f ≠ 0) (h2 : f < 1000) : ¬ nI f = 0 := by rw [QI0, nI_inj (by omega) (by omega)]; exact h1
theorem pVarG_a {I : List UInt8} {e : Nat} : ∀ {q a k acc a' v : Nat}, pVarG I e q a k acc = .inr (a', v) → a < a' ∧ a' ≤ e := by
  intro q
  induction q with
  | zero => intro a k acc a' v h; simp [pVarG] at h
  | succ q ih =>
    intro a k acc a' v h
    simp only [pVarG] at h
    split at h
    · cases h
    · split at h
      · cases h
      · split at h
        · cases h; omega
        · have := ih h; omega
theorem pVarG_v {I : List UInt8} {e : Nat} : ∀ {q a k acc a' v : Nat}, q + k = 10 → acc < 2 ^ (7 * k) → pVarG I e q a k acc = .inr (a', v) → v < 2 ^ 64 := by
  intro q
  induction q with
  | zero => intro a k acc a' v _ _ h; simp [pVarG] at h
  | succ q ih =>
    intro a k acc a' v hq hacc h
    have hm : (I.getD a 0).toNat % 128 < 2 ^ 7 := Nat.mod_lt _ (by omega)
    have hs : ((I.getD a 0).toNat % 128) <<< (7 * k) < 2 ^ (7 * (k + 1)) := by
      rw [Nat.shiftLeft_eq, show 7 * (k + 1) = 7 + 7 * k by omega, Nat.pow_add]
      exact Nat.mul_lt_mul_of_pos_right hm (Nat.two_pow_pos _)
    have hor : acc ||| (((I.getD a 0).toNat % 128) <<< (7 * k)) < 2 ^ (7 * (k + 1)) := Nat.or_lt_two_pow (Nat.lt_of_lt_of_le hacc (Nat.pow_le_pow_right (by omega) (by omega))) hs
    simp only [pVarG] at h
    split at h
    · cases h
    · split at h
      · cases h
      · rename_i hc
        split at h
        · cases h
          by_cases k9 : k = 9
          · subst k9
            have : (I.getD a 0).toNat ≤ 1 := by
              apply Classical.byContradiction
              intro hx
              exact hc (Or.inl ⟨rfl, by omega⟩)
            apply Nat.or_lt_two_pow
            · exact Nat.lt_of_lt_of_le hacc (Nat.pow_le_pow_right (by omega) (by omega))
            · rw [Nat.shiftLeft_eq]
              have h2 : (I.getD a 0).toNat % 128 ≤ 1 := by omega
              have h4 := Nat.mul_le_mul_right (2 ^ (7 * 9)) h2
              exact Nat.lt_of_le_of_lt h4 (by rw [Nat.one_mul]; exact Nat.pow_lt_pow_right (by omega) (by omega))
          · exact Nat.lt_of_lt_of_le hor (Nat.pow_le_pow_right (by omega) (by omega))
        · exact ih (by omega) hor h
theorem pVar_a {I : List UInt8} {e a a' v : Nat} (h : pVar I e a = .inr (a', v)) : a < a' ∧ a' ≤ e ∧ v < 2 ^ 64 := by
  have h1 := pVarG_a h
  have h2 := pVarG_v (q := 10) (k := 0) rfl (by decide) h
  exact ⟨h1.1, h1.2, h2⟩
theorem pVarG_f {I : List UInt8} {e : Nat} : ∀ {q a k acc f : Nat}, pVarG I e q a k acc = .inl f → f = 1 ∨ f = 2 := by
  intro q
  induction q with
  | zero => intro a k acc f h; simp [pVarG] at h; omega
  | succ q ih =>
    intro a k acc f h
    simp only [pVarG] at h
    split at h
    · cases h; exact Or.inl rfl
    · split at h
      · cases h; exact Or.inr rfl
      · split at h
        · cases h
        · exact ih h
