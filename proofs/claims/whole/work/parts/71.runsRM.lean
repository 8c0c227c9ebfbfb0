theorem nI_shl1' {a i : Nat} (ha : a < 2) (hi : i < 32) : nI a <<< (nI i &&& 31) = nI (a * 2 ^ i) := by
  have : ∀ (x : Fin 2) (y : Fin 32), nI x.val <<< (nI y.val &&& 31) = nI (x.val * 2 ^ y.val) := by decide +kernel
  exact this ⟨a, ha⟩ ⟨i, hi⟩
theorem bval_succ (I : List UInt8) (f i : Nat) : bval I f i ||| ((if bitOf I (f + i) then 1 else 0) * 2 ^ i) = bval I f (i + 1) := bN_or (fun i => bitOf I (f + i)) i
/-- a bit of the INPUT as the reference reads it -/
theorem M_bit {I : List UInt8} {inp : Nat → Int32} {p : Nat} (h : QHM I inp) (hp : p / 8 < I.length) (hl : I.length < 100000) : (inp (p / 8) >>> (nI (p % 8) &&& 31)) &&& 1 = nI (if bitOf I p then 1 else 0) := by
  have hb := u8_lt (I.getD (p / 8) 0)
  rw [octm h hp, nI_shr (by omega) (by omega), nI_and1, ← Nat.shiftRight_eq_div_pow, mod2_bit]; rfl
theorem M_bitsAt {n cap e a bit w : Nat} {I : List UInt8} {inp : Nat → Int32} (hn : 100 < n) (hc : cap < 100000) (hI : I.length ≤ cap) (he : e ≤ I.length) (hw : w ≤ 32) (hfit : 8 * a + bit + w ≤ 8 * e) (h : QHM I inp) :
    f_M_bitsAt n cap inp (nI a) (nI bit) (nI w) = some (nI (bval I (8 * a + bit) w)) := by
  unfold f_M_bitsAt
  have main : ∃ o, lp (fun v => f_M_bitsAt_l6 cap inp (nI a) (nI bit) (nI w) v.1 v.2) n ((0 : Int32), (0 : Int32)) = some o ∧ o = nI (bval I (8 * a + bit) w) := by
    refine lp_inv (fun q u => ∃ i, i + q = w ∧ u.2 = nI i ∧ u.1 = nI (bval I (8 * a + bit) i)) _ ?_ w n _ ⟨0, by omega, rfl, rfl⟩ (by omega)
    rintro q ⟨v, i'⟩ ⟨i, g1, g2, g3⟩
    simp only at g2 g3
    subst g2; subst g3
    show (∃ w', f_M_bitsAt_l6 cap inp (nI a) (nI bit) (nI w) _ (nI i) = _ ∧ _) ∨ (∃ x, f_M_bitsAt_l6 cap inp (nI a) (nI bit) (nI w) _ (nI i) = _ ∧ _)
    unfold f_M_bitsAt_l6
    rw [ifle (by omega) (by omega)]
    by_cases c : w ≤ i
    · have : i = w := by omega
      subst this
      exact Or.inr ⟨_, by rw [if_pos c], rfl⟩
    · have e8 : (8 : Int32) = nI 8 := rfl
      have e1 : nI i + 1 = nI (i + 1) := qn_add i 1
      have ep : a + (bit + i) / 8 = (8 * a + (bit + i)) / 8 := by omega
      have em : (bit + i) % 8 = (8 * a + (bit + i)) % 8 := by omega
      have hlt : (if bitOf I (8 * a + (bit + i)) = true then 1 else 0) < 2 := by split <;> omega
      rw [if_neg c, qn_add, e8, nI_mod (by omega) (by omega), nI_div (by omega) (by omega), qn_add, ep, em, gd_nI (by omega) (by omega), bnd_eq, bnd_eq, bnd_eq, qn_clamp (by omega), M_bit h (by omega) (by omega), nI_shl1' hlt (by omega), nI_or, e1]
      refine Or.inl ⟨_, rfl, q - 1, by omega, i + 1, by omega, rfl, ?_⟩
      show nI _ = nI _
      rw [← bval_succ, Nat.add_assoc]
  obtain ⟨o, h1, h2⟩ := main
  rw [h1, h2]; rfl
theorem bval_lt_succ {I : List UInt8} {f i w : Nat} (hi : w ≤ i) : bval I f (i + 1) < 2 ^ w ↔ bval I f i < 2 ^ w ∧ bitOf I (f + i) = false := by
  rw [← bval_succ]
  have hp : 2 ^ w ≤ 2 ^ i := Nat.pow_le_pow_right (by omega) hi
  cases hb : bitOf I (f + i) with
  | false =>
    have : (if false = true then 1 else 0) * 2 ^ i = 0 := by simp
    rw [this, Nat.or_zero]; simp
  | true =>
    have : (if true = true then 1 else 0) * 2 ^ i = 2 ^ i := by simp
    rw [this]
    have hr : 2 ^ i ≤ bval I f i ||| 2 ^ i := Nat.right_le_or
    constructor
    · intro hx; omega
    · rintro ⟨_, hx⟩; cases hx
theorem M_readOne {n cap pn e a k m w c : Nat} {I : List UInt8} {inp p1 : Nat → Int32} (hn : 100000 < n) (hc : cap < 100000) (hI : I.length ≤ cap) (he : e ≤ I.length) (ha : a ≤ e) (hw : w ≤ 32) (hk : k ≤ m) (hm : m ≤ pn) (hm2 : m ≤ 1000) (hc2 : c < 9223372036854775808) (h : QHM I inp) :
    ∃ o, f_M_readOne n cap pn (nI a) 0 inp p1 (nI k) (nI m) (nI w) (nI e) (ql64 c) = some o ∧
      ((∃ f, (if m - k < c then .inl 4 else pOne I e w a) = (Sum.inl f : Nat ⊕ (Nat × Nat)) ∧ o.2.2.1 = nI f ∧ ¬ nI f = 0) ∨ (∃ a' v, (if m - k < c then .inl 4 else pOne I e w a) = (Sum.inr (a', v) : Nat ⊕ (Nat × Nat)) ∧ o.1 = nI (k + c) ∧ o.2.1 = nI a' ∧ o.2.2.1 = 0 ∧ a' ≤ e ∧ v < 2 ^ w ∧ ∀ j, o.2.2.2 j = if k ≤ j ∧ j < k + c then nI v else p1 j)) := by
  unfold f_M_readOne
  rw [bnd_eq, w78 (by omega), nI_sub hk, nI_sub ha, lI64 (by omega), qifc (show (ql64 c ≤ ql64 (m - k)) ↔ c ≤ m - k from by rw [l64_le hc2 (by omega)])]
  unfold f_M_readOne_j45
  have z4 : ¬ (4 : Int32) = 0 := by decide
  have z1 : ¬ (1 : Int32) = 0 := by decide
  by_cases c4 : m - k < c
  · rw [if_neg (show ¬ c ≤ m - k by omega), if_neg z4, if_pos c4]
    exact ⟨_, rfl, Or.inl ⟨4, rfl, rfl, by decide⟩⟩
  · rw [if_pos (show c ≤ m - k by omega), if_neg c4, ifle (by omega) (by omega)]
    unfold pOne
    by_cases c1 : e - a < (w + 7) / 8
    · rw [if_neg (show ¬ (w + 7) / 8 ≤ e - a by omega), if_neg z1, if_pos c1]
      exact ⟨_, rfl, Or.inl ⟨1, rfl, rfl, by decide⟩⟩
    · have hb0 : f_M_bitsAt n cap inp (nI a) (nI 0) (nI w) = some (nI (bval I (8 * a + 0) w)) := M_bitsAt (by omega) hc hI he hw (by omega) h
      have hb : f_M_bitsAt n cap inp (nI a) 0 (nI w) = some (nI (bval I (8 * a) w)) := hb0
      rw [if_pos (show (w + 7) / 8 ≤ e - a by omega), if_neg c1, if_pos rfl, hb, obs]
      have l1 : ∃ o, lp (fun v => f_M_readOne_l71 cap (nI a) inp (nI ((w + 7) / 8)) v.1 v.2) n ((0 : Int32), nI w) = some o ∧ o.1 = if bval I (8 * a) (8 * ((w + 7) / 8)) < 2 ^ w then 0 else 5 := by
        refine lp_inv (fun q u => ∃ i, i + q = 8 * ((w + 7) / 8) ∧ w ≤ i ∧ u.2 = nI i ∧ u.1 = if bval I (8 * a) i < 2 ^ w then 0 else 5) _ ?_ (8 * ((w + 7) / 8) - w) n _ ⟨w, by omega, by omega, rfl, by rw [if_pos (bval_lt _ _ _)]⟩ (by omega)
        rintro q ⟨fa, i'⟩ ⟨i, g1, g2, g3, g4⟩
        simp only at g3 g4
        subst g3; subst g4
        show (∃ w', f_M_readOne_l71 cap (nI a) inp (nI ((w + 7) / 8)) _ (nI i) = _ ∧ _) ∨ (∃ x, f_M_readOne_l71 cap (nI a) inp (nI ((w + 7) / 8)) _ (nI i) = _ ∧ _)
        unfold f_M_readOne_l71
        have e8 : (8 : Int32) = nI 8 := rfl
        rw [e8, nI_mul, ifle (by omega) (by omega)]
        by_cases ci : 8 * ((w + 7) / 8) ≤ i
        · have : i = 8 * ((w + 7) / 8) := by omega
          rw [if_pos ci]
          exact Or.inr ⟨_, rfl, by rw [← this]⟩
        · have e1 : nI i + 1 = nI (i + 1) := qn_add i 1
          have ep : a + i / 8 = (8 * a + i) / 8 := by omega
          have em : i % 8 = (8 * a + i) % 8 := by omega
          have hs := bval_lt_succ (I := I) (f := 8 * a) g2
          rw [if_neg ci, nI_mod (by omega) (by omega), nI_div (by omega) (by omega), qn_add, ep, em, gd_nI (by omega) (by omega), bnd_eq, bnd_eq, qn_clamp (by omega), M_bit h (by omega) (by omega), e1]
          cases hbit : bitOf I (8 * a + i) with
          | false =>
            rw [if_neg (show ¬ nI (if false = true then 1 else 0) = 1 by decide)]
            refine Or.inl ⟨_, rfl, q - 1, by omega, i + 1, by omega, by omega, rfl, ?_⟩
            exact qifc ⟨fun hx => hs.mpr ⟨hx, hbit⟩, fun hx => (hs.mp hx).1⟩
          | true =>
            rw [if_pos (show nI (if true = true then 1 else 0) = 1 by decide)]
            refine Or.inl ⟨_, rfl, q - 1, by omega, i + 1, by omega, by omega, rfl, ?_⟩
            show (5 : Int32) = _
            rw [if_neg]
            intro hx
            have := (hs.mp hx).2
            rw [hbit] at this
            cases this
      obtain ⟨ol, l2, l3⟩ := l1
      rw [l2, obs, l3]
      unfold f_M_readOne_j119
      have l4 : ∃ o, lp (fun v => f_M_readOne_l133 pn (nI k) (ql64 c) (nI (bval I (8 * a) w)) v.1 v.2) n (p1, (0 : Int32)) = some o ∧ ∀ j, o.1 j = if k ≤ j ∧ j < k + c then nI (bval I (8 * a) w) else p1 j := by
        refine lp_inv (fun q u => ∃ i, i + q = c ∧ u.2 = nI i ∧ ∀ j, u.1 j = if k ≤ j ∧ j < k + i then nI (bval I (8 * a) w) else p1 j) _ ?_ c n _ ⟨0, by omega, rfl, fun j => by rw [if_neg (by omega)]⟩ (by omega)
        rintro q ⟨f, i'⟩ ⟨i, g1, g2, g3⟩
        simp only at g2 g3
        subst g2
        show (∃ w', f_M_readOne_l133 pn (nI k) (ql64 c) (nI (bval I (8 * a) w)) f (nI i) = _ ∧ _) ∨ (∃ x, f_M_readOne_l133 pn (nI k) (ql64 c) (nI (bval I (8 * a) w)) f (nI i) = _ ∧ _)
        unfold f_M_readOne_l133
        rw [lI64 (show i < 2147483648 by omega), qifc (show (ql64 c ≤ ql64 i) ↔ c ≤ i from by rw [l64_le hc2 (by omega)])]
        by_cases ci : c ≤ i
        · have : i = c := by omega
          subst this
          rw [if_pos ci]
          exact Or.inr ⟨_, rfl, g3⟩
        · have e1 : nI i + 1 = nI (i + 1) := qn_add i 1
          rw [if_neg ci, qn_add, gd_nI (by omega) (by omega), bnd_eq, qn_clamp (by omega), e1]
          refine Or.inl ⟨_, rfl, q - 1, by omega, i + 1, by omega, rfl, ?_⟩
          intro j
          show upd f (k + i) _ j = _
          unfold upd
          by_cases ej : j = k + i
          · rw [if_pos ej, if_pos (by omega)]
          · rw [if_neg ej, g3 j]
            by_cases e2 : k ≤ j ∧ j < k + i
            · rw [if_pos e2, if_pos (by omega)]
            · rw [if_neg e2, if_neg (by omega)]
      obtain ⟨o4, l5, l6⟩ := l4
      rw [bnd_eq, qn_add, l5, obs]
      unfold f_M_readOne_j156
      have ec : (ql64 c).toInt32 = nI c := l64_i32 (by omega)
      rw [ec, qn_add]
      by_cases cv : bval I (8 * a) (8 * ((w + 7) / 8)) < 2 ^ w
      · rw [if_pos cv, if_pos cv]
        have hv : bval I (8 * a) w = bval I (8 * a) (8 * ((w + 7) / 8)) := by
          have hm := bN_mod (fun i => bitOf I (8 * a + i)) (w := w) (d := 8 * ((w + 7) / 8)) (by omega)
          exact hm.symm.trans (Nat.mod_eq_of_lt cv)
        refine ⟨_, rfl, Or.inr ⟨_, _, rfl, rfl, rfl, rfl, by omega, cv, ?_⟩⟩
        rw [← hv]
        exact l6
      · rw [if_neg cv, if_neg cv]
        exact ⟨_, rfl, Or.inl ⟨5, rfl, rfl, by decide⟩⟩
theorem nI0_32 {x : Nat} (h : x < 4294967296) : (nI x = 0) ↔ x = 0 := by
  constructor
  · intro hx
    have h1 : (nI x).toBitVec.toNat = (0 : Int32).toBitVec.toNat := by rw [hx]
    rw [nI_bv, BitVec.toNat_ofNat, Nat.mod_eq_of_lt (by omega)] at h1
    exact h1
  · intro hx; subst hx; rfl
theorem M_readGroups {n cap pn e a k m w c : Nat} {I : List UInt8} {inp p1 : Nat → Int32} (hn : 100000 < n) (hc : cap < 100000) (hI : I.length ≤ cap) (he : e ≤ I.length) (ha : a ≤ e) (hw : w ≤ 32) (hk : k ≤ m) (hm : m ≤ pn) (hm2 : m ≤ 1000) (hc2 : c < 9223372036854775808) (h : QHM I inp) :
    ∃ o, f_M_readGroups n cap pn (nI a) 0 inp p1 (nI k) (nI m) (nI w) (nI e) (ql64 c) = some o ∧
      ((∃ f, (if (m - k + 7) / 8 < c then .inl 4 else pGrp I e w a (m - k) c) = (Sum.inl f : Nat ⊕ Nat) ∧ o.2.2.1 = nI f ∧ ¬ nI f = 0) ∨ (∃ a', (if (m - k + 7) / 8 < c then .inl 4 else pGrp I e w a (m - k) c) = (Sum.inr a' : Nat ⊕ Nat) ∧ o.1 = nI (k + 8 * c) ∧ o.2.1 = nI a' ∧ o.2.2.1 = 0 ∧ a' ≤ e ∧ ∀ j, o.2.2.2 j = if k ≤ j ∧ j < k + 8 * c ∧ j < m then nI (gval I w a (j - k)) else p1 j)) := by
  unfold f_M_readGroups
  rw [nI_sub hk, nI_sub ha, w78 (by omega), lI64 (by omega), lI64 (by omega), lI64 (by omega), l64_mul, qifc (show (ql64 c ≤ ql64 ((m - k + 7) / 8)) ↔ c ≤ (m - k + 7) / 8 from by rw [l64_le hc2 (by omega)])]
  unfold f_M_readGroups_j47
  have z4 : ¬ (4 : Int32) = 0 := by decide
  have z1 : ¬ (1 : Int32) = 0 := by decide
  by_cases c4 : (m - k + 7) / 8 < c
  · rw [if_neg (show ¬ c ≤ (m - k + 7) / 8 by omega), if_neg z4, if_pos c4]
    exact ⟨_, rfl, Or.inl ⟨4, rfl, rfl, by decide⟩⟩
  · have hcw : c * w ≤ 1000 * 32 := Nat.mul_le_mul (by omega) hw
    rw [if_pos (show c ≤ (m - k + 7) / 8 by omega), if_neg c4, qifc (show (ql64 (c * w) ≤ ql64 (e - a)) ↔ c * w ≤ e - a from by rw [l64_le (by omega) (by omega)])]
    unfold pGrp
    by_cases c1 : e - a < c * w
    · rw [if_neg (show ¬ c * w ≤ e - a by omega), if_neg z1, if_pos c1]
      exact ⟨_, rfl, Or.inl ⟨1, rfl, rfl, by decide⟩⟩
    · rw [if_pos (show c * w ≤ e - a by omega), if_neg c1, if_pos rfl]
      have main : ∃ o, lp (fun u => f_M_readGroups_l59 n cap pn (nI a) inp (nI k) (nI m) (nI w) (ql64 c) u.1 u.2.1 u.2.2) n ((0 : Int32), p1, (0 : Int32)) = some o ∧ o.1 = (if tz (gval I w a) (m - k) (8 * c) then 0 else 5) ∧ ∀ j, o.2.1 j = if k ≤ j ∧ j < k + 8 * c ∧ j < m then nI (gval I w a (j - k)) else p1 j := by
        refine lp_inv (fun q u => ∃ i, i + q = 8 * c ∧ u.2.2 = nI i ∧ u.1 = (if tz (gval I w a) (m - k) i then 0 else 5) ∧ ∀ j, u.2.1 j = if k ≤ j ∧ j < k + i ∧ j < m then nI (gval I w a (j - k)) else p1 j) _ ?_ (8 * c) n _ ⟨0, by omega, rfl, rfl, fun j => by rw [if_neg (by omega)]⟩ (by omega)
        rintro q ⟨fa, g, i'⟩ ⟨i, g1, g2, g3, g4⟩
        simp only at g2 g3 g4
        subst g2; subst g3
        show (∃ w', f_M_readGroups_l59 n cap pn (nI a) inp (nI k) (nI m) (nI w) (ql64 c) _ g (nI i) = _ ∧ _) ∨ (∃ y, f_M_readGroups_l59 n cap pn (nI a) inp (nI k) (nI m) (nI w) (ql64 c) _ g (nI i) = _ ∧ _)
        unfold f_M_readGroups_l59
        have e8c : (8 : Int64) * ql64 c = ql64 (8 * c) := l64_mul 8 c
        rw [e8c, lI64 (show i < 2147483648 by omega), qifc (show (ql64 (8 * c) ≤ ql64 i) ↔ 8 * c ≤ i from by rw [l64_le (by omega) (by omega)])]
        by_cases ci : 8 * c ≤ i
        · have : i = 8 * c := by omega
          subst this
          exact Or.inr ⟨_, by rw [if_pos ci], rfl, g4⟩
        · have hwi : w * (i + 1) ≤ w * (8 * c) := Nat.mul_le_mul_left w (by omega)
          have hw8 : w * (8 * c) = 8 * (c * w) := by rw [Nat.mul_left_comm, Nat.mul_comm w c]
          have hwi1 : w * (i + 1) = w * i + w := by rw [Nat.mul_add, Nat.mul_one]
          have hgl : gval I w a i < 2 ^ w := bval_lt I (8 * a + w * i) w
          have hp : 2 ^ w ≤ 2 ^ 32 := Nat.pow_le_pow_right (by omega) hw
          have e1 : nI i + 1 = nI (i + 1) := qn_add i 1
          have hbits : f_M_bitsAt n cap inp (nI a) (nI (w * i)) (nI w) = some (nI (gval I w a i)) := M_bitsAt (by omega) hc hI he hw (by omega) h
          rw [if_neg ci, nI_mul, hbits, obs, qn_add, ifle (by omega) (by omega)]
          have hgz : (nI (gval I w a i) = 0) ↔ gval I w a i = 0 := nI0_32 (by omega)
          by_cases cm : m ≤ k + i
          · rw [if_pos cm]
            have hg4 : ∀ j, g j = if k ≤ j ∧ j < k + (i + 1) ∧ j < m then nI (gval I w a (j - k)) else p1 j := by
              intro j
              rw [g4 j]
              by_cases cj : k ≤ j ∧ j < k + i ∧ j < m
              · rw [if_pos cj, if_pos (by omega)]
              · rw [if_neg cj, if_neg (by omega)]
            by_cases cz : gval I w a i = 0
            · rw [if_pos (hgz.mpr cz), bnd_eq]
              refine Or.inl ⟨_, rfl, q - 1, by omega, i + 1, by omega, e1, ?_, hg4⟩
              have ht : tz (gval I w a) (m - k) (i + 1) = tz (gval I w a) (m - k) i := by
                show (tz (gval I w a) (m - k) i && decide (i < m - k ∨ gval I w a i = 0)) = _
                rw [decide_eq_true (show i < m - k ∨ gval I w a i = 0 from Or.inr cz), Bool.and_true]
              show (if tz (gval I w a) (m - k) i = true then (0 : Int32) else 5) = _
              rw [ht]
            · rw [if_neg (fun q => cz (hgz.mp q)), bnd_eq]
              refine Or.inl ⟨_, rfl, q - 1, by omega, i + 1, by omega, e1, ?_, hg4⟩
              have ht : tz (gval I w a) (m - k) (i + 1) = false := by
                show (tz (gval I w a) (m - k) i && decide (i < m - k ∨ gval I w a i = 0)) = _
                rw [decide_eq_false (show ¬ (i < m - k ∨ gval I w a i = 0) by omega), Bool.and_false]
              show (5 : Int32) = _
              rw [ht]; rfl
          · rw [if_neg cm, gd_nI (by omega) (by omega), qn_clamp (by omega), bnd_eq]
            refine Or.inl ⟨_, rfl, q - 1, by omega, i + 1, by omega, e1, ?_, ?_⟩
            · have ht : tz (gval I w a) (m - k) (i + 1) = tz (gval I w a) (m - k) i := by
                show (tz (gval I w a) (m - k) i && decide (i < m - k ∨ gval I w a i = 0)) = _
                rw [decide_eq_true (show i < m - k ∨ gval I w a i = 0 by omega), Bool.and_true]
              show (if tz (gval I w a) (m - k) i = true then (0 : Int32) else 5) = _
              rw [ht]
            · intro j
              show upd g (k + i) (nI (gval I w a i)) j = _
              unfold upd
              by_cases ej : j = k + i
              · rw [if_pos ej, if_pos (by omega), ej, show k + i - k = i by omega]
              · rw [if_neg ej, g4 j]
                by_cases cj : k ≤ j ∧ j < k + i ∧ j < m
                · rw [if_pos cj, if_pos (by omega)]
                · rw [if_neg cj, if_neg (by omega)]
      obtain ⟨o, h1, h2, h3⟩ := main
      rw [h1, obs]
      unfold f_M_readGroups_j124
      have ec : (ql64 c).toInt32 = nI c := l64_i32 (by omega)
      have e8 : (8 : Int32) * nI c = nI (8 * c) := nI_mul 8 c
      rw [bnd_eq, ec, nI_mul, e8, qn_add, qn_add, h2]
      by_cases ct : tz (gval I w a) (m - k) (8 * c) = true
      · rw [if_pos ct, if_pos ct]
        exact ⟨_, rfl, Or.inr ⟨_, rfl, rfl, rfl, rfl, by omega, h3⟩⟩
      · rw [if_neg ct, if_neg ct]
        exact ⟨_, rfl, Or.inl ⟨5, rfl, rfl, by decide⟩⟩
theorem M_readRuns {n cap pn e a m w : Nat} {I : List UInt8} {inp p1 : Nat → Int32} (hn : 100000 < n) (hc : cap < 100000) (hI : I.length ≤ cap) (he : e ≤ I.length) (ha : a ≤ e) (hw : w ≤ 32) (hm : m ≤ 1000) (hpn : m ≤ pn) (h : QHM I inp) :
    ∃ o, f_M_readRuns n cap pn (nI a) 0 inp p1 (nI m) (nI w) (nI e) = some o ∧
      ((∃ f, pRuns I e m w a = .inl f ∧ o.2.1 = nI f ∧ ¬ nI f = 0) ∨ (∃ b g, pRuns I e m w a = .inr (b, g) ∧ b ≤ e ∧ o.1 = nI b ∧ o.2.1 = 0 ∧ ∀ j, j < m → o.2.2 j = nI (g j) ∧ g j < 2 ^ w)) := by
  unfold f_M_readRuns
  have main : ∃ o, lp (fun v => f_M_readRuns_l3 n cap pn inp (nI m) (nI w) (nI e) v.1 v.2.1 v.2.2.1 v.2.2.2) n (nI a, (0 : Int32), p1, (0 : Int32)) = some o ∧
      ((∃ f, pRuns I e m w a = .inl f ∧ o.2.1 = nI f ∧ ¬ nI f = 0) ∨ (∃ b g, pRuns I e m w a = .inr (b, g) ∧ b ≤ e ∧ o.1 = nI b ∧ o.2.1 = 0 ∧ ∀ j, j < m → o.2.2 j = nI (g j) ∧ g j < 2 ^ w)) := by
    refine lp_inv (fun q u => (∃ b k r g, r + q = m + 2 ∧ r ≤ m ∧ r ≤ k ∧ k ≤ m + 7 ∧ b ≤ e ∧ u.1 = nI b ∧ u.2.1 = 0 ∧ u.2.2.2 = nI k ∧ pRunsG I e m w (m + 1 - r) b k g = pRuns I e m w a ∧ ∀ j, j < m → j < k → u.2.2.1 j = nI (g j) ∧ g j < 2 ^ w) ∨ (0 < q ∧ ∃ f, pRuns I e m w a = .inl f ∧ u.2.1 = nI f ∧ ¬ nI f = 0)) _ ?_ (m + 2) n _ (Or.inl ⟨a, 0, 0, fun _ => 0, by omega, by omega, by omega, by omega, ha, rfl, rfl, rfl, rfl, fun j _ hj => absurd hj (by omega)⟩) (by omega)
    rintro q ⟨at', fa, nu, k'⟩ (⟨b, k, r, g, g1, g2, g3, g4, g5, g6, g7, g8, g10, g11⟩ | ⟨q0, f, g1, g2, g3⟩)
    · simp only at g6 g7 g8 g11
      subst g6; subst g7; subst g8
      show (∃ w', f_M_readRuns_l3 n cap pn inp (nI m) (nI w) (nI e) (nI b) 0 nu (nI k) = _ ∧ _) ∨ (∃ x, f_M_readRuns_l3 n cap pn inp (nI m) (nI w) (nI e) (nI b) 0 nu (nI k) = _ ∧ _)
      unfold f_M_readRuns_l3
      have hun : ∀ x y, pRunsG I e m w (m + 1 - r) b k g = x → (pRunsG I e m w (m - r + 1) b k g = y) → x = y := by
        intro x y h1 h2
        rw [show m + 1 - r = m - r + 1 by omega] at h1
        rw [← h1, h2]
      rw [ifle (by omega) (by omega)]
      by_cases cend : m ≤ k
      · rw [if_pos cend]
        refine Or.inr ⟨_, rfl, Or.inr ⟨b, g, ?_, g5, rfl, rfl, fun j hj => g11 j hj (by omega)⟩⟩
        apply hun _ _ g10
        show (if m ≤ k then _ else _) = _
        rw [if_pos cend]
      · rw [if_neg cend, if_pos rfl]
        obtain ⟨o, p1', p2⟩ := M_varint (n := n) (cap := cap) (e := e) (a := b) (I := I) (inp := inp) (by omega) hc hI he g5 h
        rw [p1', obs]
        have hG : pRuns I e m w a = match pVar I e b with
            | .inl x => .inl x
            | .inr (a1, h) =>
              if h / 2 = 0 then .inl 3
              else if h % 2 = 0 then
                (if m - k < h / 2 then .inl 4 else
                  match pOne I e w a1 with
                  | .inl x => .inl x
                  | .inr (a2, v) => pRunsG I e m w (m - r) a2 (k + h / 2) (fun j => if j < k then g j else v))
              else
                (if (m - k + 7) / 8 < h / 2 then .inl 4 else
                  match pGrp I e w a1 (m - k) (h / 2) with
                  | .inl x => .inl x
                  | .inr a2 => pRunsG I e m w (m - r) a2 (k + 8 * (h / 2)) (fun j => if j < k then g j else gval I w a1 (j - k))) := by
          apply hun _ _ g10
          show (if m ≤ k then _ else _) = _
          rw [if_neg cend]
          rfl
        cases hp : pVar I e b with
        | inl f =>
          rw [hp] at p2 hG
          obtain ⟨q1, q2, q3⟩ := p2
          rw [q2, if_neg q3]
          exact Or.inr ⟨_, rfl, Or.inl ⟨f, hG, rfl, q3⟩⟩
        | inr ah =>
          obtain ⟨a1, hh⟩ := ah
          rw [hp] at p2 hG
          obtain ⟨q1, q2, q3⟩ := p2
          obtain ⟨v1, v2, v3⟩ := pVar_a hp
          simp only at hG
          rw [q1, q2, q3, if_pos rfl, shr1 v3, bnd_eq, qifc (and1z v3), qifc (show (ql64 (hh / 2) = 0) ↔ hh / 2 = 0 from by rw [show (0 : Int64) = ql64 0 from rfl, l64_inj (by omega) (by omega)])]
          by_cases c0 : hh / 2 = 0
          · rw [if_pos c0] at hG
            rw [if_pos c0]
            exact Or.inl ⟨_, rfl, q - 1, by omega, Or.inr ⟨by omega, 3, hG, rfl, by decide⟩⟩
          · rw [if_neg c0] at hG
            rw [if_neg c0]
            by_cases c2 : hh % 2 = 0
            · rw [if_pos c2] at hG
              obtain ⟨ot, t1, t2⟩ := M_readOne (n := n) (cap := cap) (pn := pn) (e := e) (a := a1) (k := k) (m := m) (c := hh / 2) (w := w) (I := I) (inp := inp) (p1 := nu) hn hc hI he v2 hw (by omega) (by omega) (by omega) (by omega) h
              rw [if_pos c2, t1, obs]
              rcases t2 with ⟨f, t3, t4, t5⟩ | ⟨a2, v, t3, t3', t4, t5, t6, t7, t8⟩
              · refine Or.inl ⟨_, rfl, q - 1, by omega, Or.inr ⟨by omega, f, ?_, t4, t5⟩⟩
                by_cases c4 : m - k < hh / 2
                · rw [if_pos c4] at hG t3; cases t3; exact hG
                · rw [if_neg c4] at hG t3; rw [t3] at hG; exact hG
              · by_cases c4 : m - k < hh / 2
                · rw [if_pos c4] at t3; cases t3
                · rw [if_neg c4] at hG t3
                  rw [t3] at hG
                  refine Or.inl ⟨_, rfl, q - 1, by omega, Or.inl ⟨a2, k + hh / 2, r + 1, (fun j => if j < k then g j else v), by omega, by omega, by omega, by omega, t6, t4, t5, t3', ?_, ?_⟩⟩
                  · rw [show m + 1 - (r + 1) = m - r by omega]; exact hG.symm
                  · intro j hj hj2
                    show ot.2.2.2 j = nI (if j < k then g j else v) ∧ (if j < k then g j else v) < 2 ^ w
                    rw [t8 j]
                    by_cases cj : j < k
                    · rw [if_neg (by omega), if_pos cj]; exact g11 j hj cj
                    · rw [if_pos (by omega), if_neg cj]; exact ⟨rfl, t7⟩
            · rw [if_neg c2] at hG
              obtain ⟨ot, t1, t2⟩ := M_readGroups (n := n) (cap := cap) (pn := pn) (e := e) (a := a1) (k := k) (m := m) (c := hh / 2) (w := w) (I := I) (inp := inp) (p1 := nu) hn hc hI he v2 hw (by omega) (by omega) (by omega) (by omega) h
              rw [if_neg c2, t1, obs]
              rcases t2 with ⟨f, t3, t4, t5⟩ | ⟨a2, t3, t3', t4, t5, t6, t8⟩
              · refine Or.inl ⟨_, rfl, q - 1, by omega, Or.inr ⟨by omega, f, ?_, t4, t5⟩⟩
                by_cases c4 : (m - k + 7) / 8 < hh / 2
                · rw [if_pos c4] at hG t3; cases t3; exact hG
                · rw [if_neg c4] at hG t3; rw [t3] at hG; exact hG
              · by_cases c4 : (m - k + 7) / 8 < hh / 2
                · rw [if_pos c4] at t3; cases t3
                · rw [if_neg c4] at hG t3
                  rw [t3] at hG
                  refine Or.inl ⟨_, rfl, q - 1, by omega, Or.inl ⟨a2, k + 8 * (hh / 2), r + 1, (fun j => if j < k then g j else gval I w a1 (j - k)), by omega, by omega, by omega, by omega, t6, t4, t5, t3', ?_, ?_⟩⟩
                  · rw [show m + 1 - (r + 1) = m - r by omega]; exact hG.symm
                  · intro j hj hj2
                    show ot.2.2.2 j = nI (if j < k then g j else gval I w a1 (j - k)) ∧ (if j < k then g j else gval I w a1 (j - k)) < 2 ^ w
                    rw [t8 j]
                    by_cases cj : j < k
                    · rw [if_neg (by omega), if_pos cj]; exact g11 j hj cj
                    · rw [if_pos (by omega), if_neg cj]; exact ⟨rfl, bval_lt _ _ _⟩
    · simp only at g2
      subst g2
      show (∃ w', f_M_readRuns_l3 n cap pn inp (nI m) (nI w) (nI e) at' (nI f) nu k' = _ ∧ _) ∨ (∃ x, f_M_readRuns_l3 n cap pn inp (nI m) (nI w) (nI e) at' (nI f) nu k' = _ ∧ _)
      unfold f_M_readRuns_l3
      rw [if_neg g3, ite_self]
      exact Or.inr ⟨_, rfl, Or.inl ⟨f, g1, rfl, g3⟩⟩
  obtain ⟨o, h1, h2⟩ := main
  rw [h1, obs]
  exact ⟨_, rfl, h2⟩
