theorem bval_testBit (I : List UInt8) (first w i : Nat) : (bval I first w).testBit i = (decide (i < w) && bitOf I (first + i)) := bN_testBit _ _ _
theorem bval_byte (I : List UInt8) (a w : Nat) : bval I (8 * a) (w + 8) = (bval I (8 * (a + 1)) w) <<< 8 ||| (I.getD a 0).toNat := by
  apply Nat.eq_of_testBit_eq
  intro i
  have hb := u8_lt (I.getD a 0)
  rw [bval_testBit, Nat.testBit_or, Nat.testBit_shiftLeft, bval_testBit]
  by_cases h : i < 8
  · rw [decide_eq_true (show i < w + 8 by omega), decide_eq_false (show ¬ i ≥ 8 by omega), bitOf_at, show (8 * a + i) / 8 = a by omega, show (8 * a + i) % 8 = i by omega]; simp
  · have : (I.getD a 0).toNat.testBit i = false := Nat.testBit_lt_two_pow (Nat.lt_of_lt_of_le (show (I.getD a 0).toNat < 2 ^ 8 by omega) (Nat.pow_le_pow_right (by omega) (by omega)))
    rw [this, decide_eq_true (show i ≥ 8 by omega), show 8 * (a + 1) + (i - 8) = 8 * a + i by omega]
    by_cases hw : i < w + 8
    · rw [decide_eq_true hw, decide_eq_true (show i - 8 < w by omega)]; simp
    · rw [decide_eq_false hw, decide_eq_false (show ¬ i - 8 < w by omega)]; simp
def pFix (I : List UInt8) (e a q : Nat) : Nat ⊕ (Nat × Nat) := if e - a < q then .inl 1 else .inr (a + q, bval I (8 * a) (8 * q))
theorem S_lowestFirst {n cap e a q : Nat} {I : List UInt8} {row : Nat → Int32} (hn : 100 < n) (hc : cap < 100000) (hI : I.length ≤ cap) (he : e ≤ I.length) (ha : a ≤ e) (hq : q ≤ 8) (h : HC I row) :
    ∃ o, f_S_lowestFirst n cap (nI a) (nI e) 0 row (nI q) = some o ∧ VR (pFix I e a q) o := by
  unfold f_S_lowestFirst pFix
  have hlv : lv (nI q).toInt64 = q := lv_nI (by omega)
  by_cases c : e - a < q
  · rw [if_pos c, S_there1 _ (by rw [hlv]; omega) ha (by omega), obs, if_pos rfl]
    exact ⟨_, rfl, rfl, rfl, by decide⟩
  · have e8 : (8 : Int32) * nI a = nI (8 * a) := nI_mul 8 a
    have e8q : (8 : Int32) * nI q = nI (8 * q) := nI_mul 8 q
    rw [if_neg c, S_there0 _ (by rw [hlv]; omega) ha (by omega), obs, if_neg (show ¬ (1 : Int32) = 0 by decide), e8, e8q, S_bitsAt hn hc hI he (by omega) (by omega) h, obs, bnd_eq, qn_add]
    exact ⟨_, rfl, rfl, rfl, rfl⟩
theorem S_lowestFirstF {n cap : Nat} {row : Nat → Int32} {at' to' f q : Int32} (hf : ¬ f = 0) : f_S_lowestFirst n cap at' to' f row q = some (0, at', f) := by
  unfold f_S_lowestFirst
  rw [S_thereF _ hf, obs, if_pos rfl]
theorem M_fixed {n cap e a q : Nat} {I : List UInt8} {inp : Nat → Int32} (hn : 100 < n) (hc : cap < 100000) (hI : I.length ≤ cap) (he : e ≤ I.length) (ha : a ≤ e) (hq : q ≤ 8) (h : QHM I inp) :
    ∃ o, f_M_fixed n cap (nI a) 0 inp (nI q) (nI e) = some o ∧ VR (pFix I e a q) o := by
  unfold f_M_fixed pFix
  rw [if_pos rfl, nI_sub ha, ifle (by omega) (by omega)]
  by_cases c : e - a < q
  · rw [if_pos c, if_neg (show ¬ q ≤ e - a by omega)]
    unfold f_M_fixed_j22
    rw [if_neg (show ¬ (1 : Int32) = 0 by decide)]
    exact ⟨_, rfl, rfl, rfl, by decide⟩
  · rw [if_neg c, if_pos (show q ≤ e - a by omega)]
    unfold f_M_fixed_j22
    rw [if_pos rfl, bnd_eq]
    have main : ∃ o, lp (fun v => f_M_fixed_l38 cap (nI a) inp v.1 v.2) n ((0 : Int64), nI q - 1) = some o ∧ o.1 = ql64 (bval I (8 * a) (8 * q)) := by
      refine lp_inv (fun x u => x ≤ q ∧ u.1 = ql64 (bval I (8 * (a + x)) (8 * (q - x))) ∧ u.2 = nI x - 1) _ ?_ q n _ ⟨Nat.le_refl _, by rw [Nat.sub_self]; rfl, rfl⟩ (by omega)
      rintro x ⟨v, k'⟩ ⟨g1, g2, g3⟩
      simp only at g2 g3
      subst g2; subst g3
      show (∃ w', f_M_fixed_l38 cap (nI a) inp _ (nI x - 1) = _ ∧ _) ∨ (∃ y, f_M_fixed_l38 cap (nI a) inp _ (nI x - 1) = _ ∧ _)
      unfold f_M_fixed_l38
      by_cases x0 : x = 0
      · subst x0
        rw [if_pos (show nI 0 - 1 < 0 by decide)]
        exact Or.inr ⟨_, rfl, rfl⟩
      · have e1 : nI x - 1 = nI (x - 1) := nI_sub (show 1 ≤ x by omega)
        have hB := u8_lt (I.getD (a + (x - 1)) 0)
        have e8 : (8 : Int32) = nI 8 := rfl
        rw [e1, qif0 (by omega), qn_add, gd_nI (by omega) (by omega), bnd_eq, bnd_eq, qn_clamp (by omega), octm h (by omega)]
        refine Or.inl ⟨_, rfl, x - 1, by omega, by omega, ?_, ?_⟩
        · apply lv_inj
          have hb1 := bval_lt I (8 * (a + x)) (8 * (q - x))
          have hb2 := bval_lt I (8 * (a + (x - 1))) (8 * (q - (x - 1)))
          have hp1 : 2 ^ (8 * (q - x)) ≤ 2 ^ 56 := Nat.pow_le_pow_right (by omega) (by omega)
          have hp2 : 2 ^ (8 * (q - (x - 1))) ≤ 2 ^ 64 := Nat.pow_le_pow_right (by omega) (by omega)
          have hs : bval I (8 * (a + x)) (8 * (q - x)) <<< 8 < 2 ^ 64 := by
            rw [Nat.shiftLeft_eq]
            have : bval I (8 * (a + x)) (8 * (q - x)) * 2 ^ 8 < 2 ^ 56 * 2 ^ 8 := Nat.mul_lt_mul_of_pos_right (by omega) (by decide)
            omega
          show lv ((ql64 _ <<< _) ||| _) = _
          rw [lv_or, e8, lv_shl' _ (by omega), lv_nI (by omega), lv_l64 (by omega), lv_l64 (by omega), Nat.mod_eq_of_lt hs]
          have := bval_byte I (a + (x - 1)) (8 * (q - x))
          rw [show 8 * (q - x) + 8 = 8 * (q - (x - 1)) by omega, show a + (x - 1) + 1 = a + x by omega] at this
          rw [this]
        · show nI (x - 1) + -1 = nI (x - 1) - 1
          rw [Int32.sub_eq_add_neg]
    obtain ⟨o, h1, h2⟩ := main
    rw [h1, obs, h2]
    unfold f_M_fixed_j68
    rw [bnd_eq, qn_add]
    exact ⟨_, rfl, rfl, rfl, rfl⟩
theorem M_fixedF {n cap : Nat} {inp : Nat → Int32} {at' to' f q : Int32} (hf : ¬ f = 0) : f_M_fixed n cap at' f inp q to' = some (0, at', f) := by
  unfold f_M_fixed f_M_fixed_j22
  rw [if_neg hf, if_neg hf]
theorem S_end0 {a e : Nat} (ha : a < 1000000) (he : e < 1000000) : f_S_mustBeAtEnd (nI a) (nI e) 0 = some (if e ≤ a then 0 else 6) := by
  unfold f_S_mustBeAtEnd
  rw [ifle (by omega) (by omega)]
  split <;> rfl
theorem S_endF {at' to' f : Int32} (hf : ¬ f = 0) : f_S_mustBeAtEnd at' to' f = some f := by
  unfold f_S_mustBeAtEnd
  rw [S_failF _ hf]
  split <;> rfl
