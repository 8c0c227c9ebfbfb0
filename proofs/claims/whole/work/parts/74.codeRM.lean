theorem M_bits64 {n cap e a w k : Nat} {I : List UInt8} {inp : Nat → Int32} (hn : 100000 < n) (hc : cap < 100000) (hI : I.length ≤ cap) (he : e ≤ I.length) (hw : w ≤ 64) (hk : k < 16) (hfit : 8 * a + w * k + w ≤ 8 * e) (h : QHM I inp) :
    ∃ o, lp (fun v => f_M_readBlock_l187 cap (nI a) inp (nI w) (nI k) v.1 v.2) n ((0 : Int64), (0 : Int32)) = some o ∧ o.1 = ql64 (gval I w a k) := by
  refine lp_inv (fun q u => ∃ i, i + q = w ∧ u.2 = nI i ∧ u.1 = ql64 (bval I (8 * a + w * k) i)) _ ?_ w n _ ⟨0, by omega, rfl, rfl⟩ (by omega)
  rintro q ⟨v, i'⟩ ⟨i, g1, g2, g3⟩
  simp only at g2 g3
  subst g2; subst g3
  show (∃ w', f_M_readBlock_l187 cap (nI a) inp (nI w) (nI k) _ (nI i) = _ ∧ _) ∨ (∃ x, f_M_readBlock_l187 cap (nI a) inp (nI w) (nI k) _ (nI i) = _ ∧ _)
  unfold f_M_readBlock_l187
  have hwk : w * k ≤ 64 * 16 := Nat.mul_le_mul hw (by omega)
  rw [ifle (by omega) (by omega)]
  by_cases c : w ≤ i
  · have : i = w := by omega
    subst this
    exact Or.inr ⟨_, by rw [if_pos c], rfl⟩
  · have e8 : (8 : Int32) = nI 8 := rfl
    have e1 : nI i + 1 = nI (i + 1) := qn_add i 1
    have ep : a + (w * k + i) / 8 = (8 * a + (w * k + i)) / 8 := by omega
    have em : (w * k + i) % 8 = (8 * a + (w * k + i)) % 8 := by omega
    have hlt : (if bitOf I (8 * a + (w * k + i)) = true then 1 else 0) < 2 := by split <;> omega
    rw [if_neg c, nI_mul, qn_add, e8, nI_mod (by omega) (by omega), nI_div (by omega) (by omega), qn_add, ep, em, gd_nI (by omega) (by omega), bnd_eq, bnd_eq, bnd_eq, qn_clamp (by omega), M_bit h (by omega) (by omega), e1]
    refine Or.inl ⟨_, rfl, q - 1, by omega, i + 1, by omega, rfl, ?_⟩
    show ql64 _ ||| _ = ql64 _
    apply lv_inj
    have hb1 := bval_lt I (8 * a + w * k) i
    have hb2 := bval_lt I (8 * a + w * k) (i + 1)
    have hp1 : 2 ^ i ≤ 2 ^ 63 := Nat.pow_le_pow_right (by omega) (by omega)
    have hp2 : 2 ^ (i + 1) ≤ 2 ^ 64 := Nat.pow_le_pow_right (by omega) (by omega)
    have hsl : (if bitOf I (8 * a + (w * k + i)) = true then 1 else 0) <<< i < 2 ^ 64 := by
      rw [Nat.shiftLeft_eq]
      have : (if bitOf I (8 * a + (w * k + i)) = true then 1 else 0) * 2 ^ i ≤ 1 * 2 ^ i := Nat.mul_le_mul_right _ (by omega)
      omega
    rw [lv_or, lv_shl' _ (by omega), lv_nI (by omega), lv_l64 (by omega), lv_l64 (by omega), Nat.mod_eq_of_lt hsl, Nat.shiftLeft_eq, ← bval_succ, Nat.add_assoc]
theorem M_part {n cap ln e a s l p w : Nat} {I : List UInt8} {inp : Nat → Int32} {lg f : Nat → Int64} (least : Int64) (hn : 100000 < n) (hc : cap < 100000) (hI : I.length ≤ cap) (he : e ≤ I.length) (ha : a ≤ e) (hw : w ≤ 64) (hp4 : p < 4) (hsl : s + 16 * p < l) (hln : l < ln) (hln2 : ln ≤ 2000) (hN : ∀ j, j < s + 1 + 16 * p → lg j = f j) (h : QHM I inp) :
    ∃ at' fa' lg', (if (2 : Int32) * nI w ≤ nI e - nI a then f_M_readBlock_j163 n cap ln (nI a) 0 inp lg (nI s) (nI l) least (nI p) (nI w) else f_M_readBlock_j163 n cap ln (nI a) 1 inp lg (nI s) (nI l) least (nI p) (nI w)) = some (Sum.inl (at', fa', lg', nI (p + 1))) ∧
      ((∃ x, pPart I e a (s + 1 + 16 * p) (l + 1) least w f = .inl x ∧ fa' = nI x ∧ ¬ nI x = 0) ∨ (∃ a2 f2, pPart I e a (s + 1 + 16 * p) (l + 1) least w f = .inr (a2, f2) ∧ a2 ≤ e ∧ at' = nI a2 ∧ fa' = 0 ∧ ∀ j, j < s + 1 + 16 * p + 16 → j < l + 1 → lg' j = f2 j)) := by
  have e2w : (2 : Int32) * nI w = nI (2 * w) := nI_mul 2 w
  have e1p : nI p + 1 = nI (p + 1) := qn_add p 1
  have e16p : (16 : Int32) * nI p = nI (16 * p) := nI_mul 16 p
  rw [e2w, nI_sub ha, ifle (by omega) (by omega)]
  unfold f_M_readBlock_j163 pPart
  by_cases c : e - a < 2 * w
  · rw [if_pos c, if_neg (show ¬ 2 * w ≤ e - a by omega)]
    obtain ⟨y, rfl⟩ : ∃ y, n = y + 1 := ⟨n - 1, by omega⟩
    have : f_M_readBlock_l166 (y + 1) cap ln (nI a) inp (nI s) (nI l) least (nI p) (nI w) 1 lg 0 = some (Sum.inr (1, lg, 0)) := by
      unfold f_M_readBlock_l166
      rw [if_pos rfl, ite_self]
    simp only [lp, this, obs]
    unfold f_M_readBlock_j305
    rw [bnd_eq, bnd_eq, e1p]
    exact ⟨_, _, _, rfl, Or.inl ⟨1, rfl, rfl, by decide⟩⟩
  · rw [if_neg c, if_pos (show 2 * w ≤ e - a by omega)]
    have main : ∃ o, lp (fun u => f_M_readBlock_l166 n cap ln (nI a) inp (nI s) (nI l) least (nI p) (nI w) u.1 u.2.1 u.2.2) n ((0 : Int32), lg, (0 : Int32)) = some o ∧ o.1 = (if tz (gval I w a) (l + 1 - (s + 1 + 16 * p)) 16 then 0 else 5) ∧ ∀ j, j < s + 1 + 16 * p + 16 → j < l + 1 → o.2.1 j = pNum f (s + 1 + 16 * p) (l + 1) least (gval I w a) 16 j := by
      refine lp_inv (fun q u => ∃ i, i + q = 16 ∧ u.2.2 = nI i ∧ u.1 = (if tz (gval I w a) (l + 1 - (s + 1 + 16 * p)) i then 0 else 5) ∧ ∀ j, j < s + 1 + 16 * p + i → j < l + 1 → u.2.1 j = pNum f (s + 1 + 16 * p) (l + 1) least (gval I w a) i j) _ ?_ 16 n _ ⟨0, by omega, rfl, rfl, fun j hj _ => hN j hj⟩ (by omega)
      rintro q ⟨fa, g, i'⟩ ⟨i, g1, g2, g3, g4⟩
      simp only at g2 g3 g4
      subst g2; subst g3
      show (∃ w', f_M_readBlock_l166 n cap ln (nI a) inp (nI s) (nI l) least (nI p) (nI w) _ g (nI i) = _ ∧ _) ∨ (∃ y, f_M_readBlock_l166 n cap ln (nI a) inp (nI s) (nI l) least (nI p) (nI w) _ g (nI i) = _ ∧ _)
      unfold f_M_readBlock_l166
      have e16 : (16 : Int32) = nI 16 := rfl
      rw [e16, ifle (by omega) (by omega)]
      by_cases ci : 16 ≤ i
      · have : i = 16 := by omega
        subst this
        exact Or.inr ⟨_, by rw [if_pos ci], rfl, g4⟩
      · have hwi : w * (i + 1) ≤ w * 16 := Nat.mul_le_mul_left w (by omega)
        have hwi1 : w * (i + 1) = w * i + w := by rw [Nat.mul_add, Nat.mul_one]
        have hgl : gval I w a i < 2 ^ w := bval_lt I (8 * a + w * i) w
        have hp : 2 ^ w ≤ 2 ^ 64 := Nat.pow_le_pow_right (by omega) hw
        have e1 : nI i + 1 = nI (i + 1) := qn_add i 1
        have hf1 : ¬ (if tz (gval I w a) (l + 1 - (s + 1 + 16 * p)) i = true then (0 : Int32) else 5) = 1 := by split <;> decide
        obtain ⟨ob, b1, b2⟩ := M_bits64 (n := n) (cap := cap) (e := e) (a := a) (w := w) (k := i) (I := I) (inp := inp) hn hc hI he hw (by omega) (by omega) h
        rw [if_neg ci, if_neg hf1, b1, obs, b2]
        unfold f_M_readBlock_j244
        rw [bnd_eq, e16p, qn_add, qn_add, ifle (by omega) (by omega)]
        have hgz : (ql64 (gval I w a i) = 0) ↔ gval I w a i = 0 := by
          have e0 : (0 : Int64) = ql64 0 := rfl
          rw [e0, l64_inj (by omega) (by omega)]
        by_cases cm : l ≤ s + 16 * p + i
        · rw [if_pos cm]
          have hg4 : ∀ j, j < s + 1 + 16 * p + (i + 1) → j < l + 1 → g j = pNum f (s + 1 + 16 * p) (l + 1) least (gval I w a) (i + 1) j := by
            intro j h1 h2
            rw [g4 j (by omega) h2]
            show _ = if j = s + 1 + 16 * p + i ∧ j < l + 1 then _ else _
            rw [if_neg (by omega)]
          by_cases cz : gval I w a i = 0
          · rw [if_pos (hgz.mpr cz), bnd_eq]
            refine Or.inl ⟨_, rfl, q - 1, by omega, i + 1, by omega, e1, ?_, hg4⟩
            have ht : tz (gval I w a) (l + 1 - (s + 1 + 16 * p)) (i + 1) = tz (gval I w a) (l + 1 - (s + 1 + 16 * p)) i := by
              show (tz (gval I w a) (l + 1 - (s + 1 + 16 * p)) i && decide (i < l + 1 - (s + 1 + 16 * p) ∨ gval I w a i = 0)) = _
              rw [decide_eq_true (show i < l + 1 - (s + 1 + 16 * p) ∨ gval I w a i = 0 from Or.inr cz), Bool.and_true]
            show (if tz (gval I w a) (l + 1 - (s + 1 + 16 * p)) i = true then (0 : Int32) else 5) = _
            rw [ht]
          · rw [if_neg (fun q => cz (hgz.mp q)), bnd_eq]
            refine Or.inl ⟨_, rfl, q - 1, by omega, i + 1, by omega, e1, ?_, hg4⟩
            have ht : tz (gval I w a) (l + 1 - (s + 1 + 16 * p)) (i + 1) = false := by
              show (tz (gval I w a) (l + 1 - (s + 1 + 16 * p)) i && decide (i < l + 1 - (s + 1 + 16 * p) ∨ gval I w a i = 0)) = _
              rw [decide_eq_false (show ¬ (i < l + 1 - (s + 1 + 16 * p) ∨ gval I w a i = 0) by omega), Bool.and_false]
            show (5 : Int32) = _
            rw [ht]; rfl
        · have em1 : nI (s + 16 * p + i) + 1 = nI (s + 16 * p + i + 1) := qn_add _ 1
          rw [if_neg cm, em1, gd_nI (by omega) (by omega), bnd_eq, gd_nI (by omega) (by omega), bnd_eq, qn_clamp (by omega), qn_clamp (by omega)]
          refine Or.inl ⟨_, rfl, q - 1, by omega, i + 1, by omega, e1, ?_, ?_⟩
          · have ht : tz (gval I w a) (l + 1 - (s + 1 + 16 * p)) (i + 1) = tz (gval I w a) (l + 1 - (s + 1 + 16 * p)) i := by
              show (tz (gval I w a) (l + 1 - (s + 1 + 16 * p)) i && decide (i < l + 1 - (s + 1 + 16 * p) ∨ gval I w a i = 0)) = _
              rw [decide_eq_true (show i < l + 1 - (s + 1 + 16 * p) ∨ gval I w a i = 0 by omega), Bool.and_true]
            show (if tz (gval I w a) (l + 1 - (s + 1 + 16 * p)) i = true then (0 : Int32) else 5) = _
            rw [ht]
          · intro j h1 h2
            show vp_updL g (s + 16 * p + i + 1) (g (s + 16 * p + i) + least + ql64 (gval I w a i)) j = if j = s + 1 + 16 * p + i ∧ j < l + 1 then pNum f (s + 1 + 16 * p) (l + 1) least (gval I w a) i (s + 1 + 16 * p + i - 1) + least + ql64 (gval I w a i) else _
            unfold vp_updL
            by_cases ej : j = s + 16 * p + i + 1
            · rw [if_pos ej, if_pos ⟨by omega, h2⟩, show s + 1 + 16 * p + i - 1 = s + 16 * p + i by omega, g4 (s + 16 * p + i) (by omega) (by omega)]
            · rw [if_neg ej, if_neg (fun q => ej (by omega)), g4 j (by omega) h2]
    obtain ⟨o, h1, h2, h3⟩ := main
    rw [h1, obs]
    unfold f_M_readBlock_j305
    rw [bnd_eq, bnd_eq, e2w, qn_add, h2, e1p]
    by_cases ct : tz (gval I w a) (l + 1 - (s + 1 + 16 * p)) 16 = true
    · rw [if_pos ct, if_pos ct]
      exact ⟨_, _, _, rfl, Or.inr ⟨_, _, rfl, by omega, rfl, rfl, h3⟩⟩
    · rw [if_neg ct, if_neg ct]
      exact ⟨_, _, _, rfl, Or.inl ⟨5, rfl, rfl, by decide⟩⟩
theorem M_widths {n cap e a1 s l : Nat} {I : List UInt8} {inp : Nat → Int32} (hn : 100000 < n) (hc : cap < 100000) (hI : I.length ≤ cap) (he : e ≤ I.length) (ha : a1 ≤ e) (hl : l ≤ 2000) (hs : s ≤ 2000) (h : QHM I inp) :
    ∃ o, lp (fun v => f_M_readBlock_l19 cap inp (nI s) (nI l) (nI e) v.1 v.2.1 v.2.2) n (nI a1, (0 : Int32), (0 : Int32)) = some o ∧
      o.2.1 = nI (pWid I e a1 (s + 1) (l + 1) 4 0) ∧ (pWid I e a1 (s + 1) (l + 1) 4 0 = 0 → o.1 = nI (a1 + 4) ∧ a1 + 4 ≤ e ∧ ∀ j, j < 4 → (I.getD (a1 + j) 0).toNat ≤ 64) := by
  refine lp_inv (fun q u => ∃ p, p + q = 5 ∧ p ≤ 4 ∧ ((u.2.2 = nI p ∧ u.1 = nI (a1 + p) ∧ u.2.1 = 0 ∧ a1 + p ≤ e ∧ pWid I e a1 (s + 1) (l + 1) (4 - p) p = pWid I e a1 (s + 1) (l + 1) 4 0 ∧ ∀ j, j < p → (I.getD (a1 + j) 0).toNat ≤ 64) ∨ (u.2.1 = nI (pWid I e a1 (s + 1) (l + 1) 4 0) ∧ pWid I e a1 (s + 1) (l + 1) 4 0 ≠ 0))) _ ?_ 5 n _ ⟨0, by omega, by omega, Or.inl ⟨rfl, rfl, rfl, by omega, rfl, fun j hj => absurd hj (by omega)⟩⟩ (by omega)
  rintro q ⟨at', fa, p'⟩ ⟨p, g1, g1', g3⟩
  simp only at g3
  show (∃ w', f_M_readBlock_l19 cap inp (nI s) (nI l) (nI e) at' fa p' = _ ∧ _) ∨ (∃ y, f_M_readBlock_l19 cap inp (nI s) (nI l) (nI e) at' fa p' = _ ∧ _)
  unfold f_M_readBlock_l19
  rcases g3 with ⟨k0, k1, k2, k3, k4, k5⟩ | ⟨k1, k2⟩
  · subst k0; subst k1; subst k2
    have e4 : (4 : Int32) = nI 4 := rfl
    have e16p : (16 : Int32) * nI p = nI (16 * p) := nI_mul 16 p
    have e1 : nI p + 1 = nI (p + 1) := qn_add p 1
    have e1a : nI (a1 + p) + 1 = nI (a1 + p + 1) := qn_add _ 1
    rw [e4, ifle (by omega) (by omega)]
    by_cases c4 : 4 ≤ p
    · have hp4 : p = 4 := by omega
      rw [if_pos c4]
      subst hp4
      have k6 : pWid I e a1 (s + 1) (l + 1) 4 0 = 0 := k4.symm
      exact Or.inr ⟨_, rfl, by rw [k6]; rfl, fun _ => ⟨rfl, k3, k5⟩⟩
    · have hun' : pWid I e a1 (s + 1) (l + 1) (4 - p) p = if e ≤ a1 + p then 1 else if 64 < (I.getD (a1 + p) 0).toNat ∨ (l + 1 ≤ s + 1 + 16 * p ∧ 0 < (I.getD (a1 + p) 0).toNat) then 5 else pWid I e a1 (s + 1) (l + 1) (4 - (p + 1)) (p + 1) := by
        rw [show 4 - p = (4 - (p + 1)) + 1 by omega]; rfl
      rw [hun'] at k4
      rw [if_neg c4, if_pos rfl, ifl (by omega) (by omega)]
      have hj90 : ∀ x : Int32, f_M_readBlock_j90 (nI (a1 + p)) x (nI p) = some (Sum.inl (nI (a1 + p + 1), x, nI (p + 1))) := by
        intro x
        unfold f_M_readBlock_j90
        rw [bnd_eq, bnd_eq, e1, e1a]
      unfold f_M_readBlock_j85
      by_cases ce : a1 + p < e
      · rw [if_neg (by omega)] at k4
        have hB := u8_lt (I.getD (a1 + p) 0)
        have h64 : (64 : Int32) = nI 64 := rfl
        have hle0 : (nI (I.getD (a1 + p) 0).toNat ≤ 0) ↔ ¬ 0 < (I.getD (a1 + p) 0).toNat := by
          rw [QI0, qn_le (by omega) (by omega)]; omega
        have g0 : ∀ {α : Type} {t : Option α}, gd (inB (nI (a1 + p)) cap) t = t := fun {α t} => gd_nI (by omega) (by omega)
        rw [if_pos ce, g0, g0, qn_clamp (by omega), octm h (by omega), h64, ifl (by omega) (by omega), e16p, qn_add, ifl (by omega) (by omega), qifc hle0, hj90, hj90]
        have hsel : (if 64 < (I.getD (a1 + p) 0).toNat then some (Sum.inl (nI (a1 + p + 1), (5 : Int32), nI (p + 1))) else if ¬ 0 < (I.getD (a1 + p) 0).toNat then some (Sum.inl (nI (a1 + p + 1), (0 : Int32), nI (p + 1))) else if s + 16 * p < l then some (Sum.inl (nI (a1 + p + 1), (0 : Int32), nI (p + 1))) else some (Sum.inl (nI (a1 + p + 1), (5 : Int32), nI (p + 1)))) = (some (Sum.inl (nI (a1 + p + 1), (if 64 < (I.getD (a1 + p) 0).toNat ∨ (l + 1 ≤ s + 1 + 16 * p ∧ 0 < (I.getD (a1 + p) 0).toNat) then (5 : Int32) else 0), nI (p + 1))) : Option ((Int32 × Int32 × Int32) ⊕ (Int32 × Int32 × Int32))) := by
          by_cases c1 : 64 < (I.getD (a1 + p) 0).toNat
          · rw [if_pos c1, if_pos (Or.inl c1)]
          · rw [if_neg c1]
            by_cases c2 : 0 < (I.getD (a1 + p) 0).toNat
            · rw [if_neg (fun hq => hq c2)]
              by_cases c3 : s + 16 * p < l
              · rw [if_pos c3, if_neg (by omega)]
              · rw [if_neg c3, if_pos (Or.inr ⟨by omega, c2⟩)]
            · rw [if_pos c2, if_neg (by omega)]
        rw [hsel]
        by_cases bad : 64 < (I.getD (a1 + p) 0).toNat ∨ (l + 1 ≤ s + 1 + 16 * p ∧ 0 < (I.getD (a1 + p) 0).toNat)
        · rw [if_pos bad] at k4
          rw [if_pos bad]
          exact Or.inl ⟨_, rfl, q - 1, by omega, p + 1, by omega, by omega, Or.inr ⟨by rw [← k4]; rfl, by rw [← k4]; omega⟩⟩
        · rw [if_neg bad] at k4
          rw [if_neg bad]
          refine Or.inl ⟨_, rfl, q - 1, by omega, p + 1, by omega, by omega, Or.inl ⟨rfl, rfl, rfl, by omega, k4, ?_⟩⟩
          intro j hj
          by_cases ej : j = p
          · subst ej; omega
          · exact k5 j (by omega)
      · rw [if_pos (by omega)] at k4
        rw [if_neg ce, hj90]
        exact Or.inl ⟨_, rfl, q - 1, by omega, p + 1, by omega, by omega, Or.inr ⟨by rw [← k4]; rfl, by rw [← k4]; omega⟩⟩
  · have hf : ¬ fa = 0 := by
      rw [k1]; exact nIf k2 (by have := pWid_05 I e a1 (s + 1) (l + 1) 4 0; omega)
    rw [if_neg hf, ite_self]
    exact Or.inr ⟨_, rfl, k1, fun hz => absurd hz k2⟩
theorem M_parts {n cap ln e a a1 s l : Nat} {I : List UInt8} {inp : Nat → Int32} {lg f : Nat → Int64} (least : Int64) (hn : 100000 < n) (hc : cap < 100000) (hI : I.length ≤ cap) (he : e ≤ I.length) (ha : a ≤ e) (hsl : s < l) (hl64 : l ≤ s + 64) (hln : l < ln) (hln2 : ln ≤ 2000) (hN : ∀ j, j < s + 1 → lg j = f j) (ha1 : a1 + 4 ≤ e) (hW : ∀ j, j < 4 → (I.getD (a1 + j) 0).toNat ≤ 64) (h : QHM I inp) :
    ∃ o, lp (fun v => f_M_readBlock_l109 n cap ln inp (nI s) (nI l) (nI e) least (nI a1) v.1 v.2.1 v.2.2.1 v.2.2.2) n (nI a, (0 : Int32), lg, (0 : Int32)) = some o ∧
      ((∃ x, pParts I e a1 (s + 1) (l + 1) least 4 0 a f = .inl x ∧ o.2.1 = nI x ∧ ¬ nI x = 0) ∨ (∃ a' f', pParts I e a1 (s + 1) (l + 1) least 4 0 a f = .inr (a', f') ∧ a' ≤ e ∧ o.1 = nI a' ∧ o.2.1 = 0 ∧ ∀ j, j < l + 1 → o.2.2 j = f' j)) := by
  refine lp_inv (fun q u => ∃ p, p + q = 4 ∧ u.2.2.2 = nI p ∧ ((∃ b g, u.1 = nI b ∧ b ≤ e ∧ u.2.1 = 0 ∧ pParts I e a1 (s + 1) (l + 1) least (4 - p) p b g = pParts I e a1 (s + 1) (l + 1) least 4 0 a f ∧ ∀ j, j < s + 1 + 16 * p → j < l + 1 → u.2.2.1 j = g j) ∨ (∃ x, pParts I e a1 (s + 1) (l + 1) least 4 0 a f = .inl x ∧ u.2.1 = nI x ∧ ¬ nI x = 0))) _ ?_ 4 n _ ⟨0, by omega, rfl, Or.inl ⟨a, f, rfl, ha, rfl, rfl, fun j hj _ => hN j (by omega)⟩⟩ (by omega)
  rintro q ⟨at', fa, nu, p'⟩ ⟨p, g1, g2, g3⟩
  simp only at g2 g3
  subst g2
  show (∃ w', f_M_readBlock_l109 n cap ln inp (nI s) (nI l) (nI e) least (nI a1) at' fa nu (nI p) = _ ∧ _) ∨ (∃ y, f_M_readBlock_l109 n cap ln inp (nI s) (nI l) (nI e) least (nI a1) at' fa nu (nI p) = _ ∧ _)
  unfold f_M_readBlock_l109
  have e4 : (4 : Int32) = nI 4 := rfl
  have e16p : (16 : Int32) * nI p = nI (16 * p) := nI_mul 16 p
  rcases g3 with ⟨b, g, k1, k2, k3, k4, k5⟩ | ⟨x, k1, k2, k3⟩
  · subst k1; subst k3
    rw [e4, ifle (by omega) (by omega)]
    by_cases c4 : 4 ≤ p
    · rw [if_pos c4]
      have k6 : pParts I e a1 (s + 1) (l + 1) least 4 0 a f = .inr (b, g) := by rw [← k4]; exact pParts_stop (by omega)
      exact Or.inr ⟨_, rfl, Or.inr ⟨b, g, k6, k2, rfl, rfl, fun j hj => k5 j (by omega) hj⟩⟩
    · rw [if_neg c4, if_pos rfl, e16p, qn_add, ifle (by omega) (by omega)]
      by_cases cu : l ≤ s + 16 * p
      · rw [if_pos cu]
        have k6 : pParts I e a1 (s + 1) (l + 1) least 4 0 a f = .inr (b, g) := by rw [← k4]; exact pParts_stop (by omega)
        exact Or.inr ⟨_, rfl, Or.inr ⟨b, g, k6, k2, rfl, rfl, fun j hj => k5 j (by omega) hj⟩⟩
      · obtain ⟨at2, fa2, lg2, t1, t2⟩ := M_part (n := n) (cap := cap) (ln := ln) (e := e) (a := b) (s := s) (l := l) (p := p) (w := (I.getD (a1 + p) 0).toNat) (I := I) (inp := inp) (lg := nu) (f := g) least hn hc hI he k2 (hW p (by omega)) (by omega) (by omega) hln hln2 (fun j hj => k5 j hj (by omega)) h
        rw [if_neg cu, qn_add, gd_nI (by omega) (by omega), bnd_eq, qn_clamp (by omega), octm h (by omega), t1]
        have hS : pParts I e a1 (s + 1) (l + 1) least 4 0 a f = match pPart I e b (s + 1 + 16 * p) (l + 1) least (I.getD (a1 + p) 0).toNat g with
            | .inl x => .inl x
            | .inr (a', f') => pParts I e a1 (s + 1) (l + 1) least (4 - (p + 1)) (p + 1) a' f' := by
          rw [← k4, show 4 - p = (4 - (p + 1)) + 1 by omega]
          show (if l + 1 ≤ s + 1 + 16 * p then _ else _) = _
          rw [if_neg (by omega)]
          rfl
        rcases t2 with ⟨x, t3, t4, t5⟩ | ⟨a', f', t3, t4, t5, t6, t7⟩
        · rw [t3] at hS
          exact Or.inl ⟨_, rfl, q - 1, by omega, p + 1, by omega, rfl, Or.inr ⟨x, hS, t4, t5⟩⟩
        · rw [t3] at hS
          exact Or.inl ⟨_, rfl, q - 1, by omega, p + 1, by omega, rfl, Or.inl ⟨a', f', t5, t4, t6, hS.symm, fun j hj hj2 => t7 j (by omega) hj2⟩⟩
  · subst k2
    rw [if_neg k3, ite_self]
    exact Or.inr ⟨_, rfl, Or.inl ⟨x, k1, rfl, k3⟩⟩
theorem M_readBlock {n cap ln e a s l : Nat} {I : List UInt8} {inp : Nat → Int32} {lg f : Nat → Int64} (hn : 100000 < n) (hc : cap < 100000) (hI : I.length ≤ cap) (he : e ≤ I.length) (ha : a ≤ e) (hsl : s < l) (hl64 : l ≤ s + 64) (hln : l < ln) (hln2 : ln ≤ 2000) (hN : ∀ j, j < s + 1 → lg j = f j) (h : QHM I inp) :
    ∃ o, f_M_readBlock n cap ln (nI a) 0 inp lg (nI s) (nI l) (nI e) = some o ∧
      ((∃ x, pBlock I e a (s + 1) (l + 1) f = .inl x ∧ o.2.1 = nI x ∧ ¬ nI x = 0) ∨ (∃ a' f', pBlock I e a (s + 1) (l + 1) f = .inr (a', f') ∧ a' ≤ e ∧ o.1 = nI a' ∧ o.2.1 = 0 ∧ ∀ j, j < l + 1 → o.2.2 j = f' j)) := by
  unfold f_M_readBlock f_M_readBlock_j106 pBlock
  have hlF : ∀ (at' x y : Int32) (least : Int64), ¬ x = 0 → lp (fun v => f_M_readBlock_l109 n cap ln inp (nI s) (nI l) (nI e) least y v.1 v.2.1 v.2.2.1 v.2.2.2) n (at', x, lg, (0 : Int32)) = some (at', x, lg) := by
    intro at' x y least hx
    obtain ⟨z, rfl⟩ : ∃ z, n = z + 1 := ⟨n - 1, by omega⟩
    have : f_M_readBlock_l109 (z + 1) cap ln inp (nI s) (nI l) (nI e) least y at' x lg 0 = some (Sum.inr (at', x, lg)) := by
      unfold f_M_readBlock_l109
      rw [if_neg hx, ite_self]
    simp only [lp, this]
  obtain ⟨o, p1', p2⟩ := M_varint (n := n) (cap := cap) (e := e) (a := a) (I := I) (inp := inp) (by omega) hc hI he ha h
  rw [p1', obs, M_unzigzag, obs]
  cases hp : pVar I e a with
  | inl x =>
    rw [hp] at p2
    obtain ⟨q1, q2, q3⟩ := p2
    have hF : ¬ o.2.2 = 0 := by rw [q2]; exact q3
    have hw : lp (fun v => f_M_readBlock_l19 cap inp (nI s) (nI l) (nI e) v.1 v.2.1 v.2.2) n (o.2.1, o.2.2, (0 : Int32)) = some (o.2.1, o.2.2, 0) := by
      obtain ⟨z, rfl⟩ : ∃ z, n = z + 1 := ⟨n - 1, by omega⟩
      have : f_M_readBlock_l19 cap inp (nI s) (nI l) (nI e) o.2.1 o.2.2 0 = some (Sum.inr (o.2.1, o.2.2, 0)) := by
        unfold f_M_readBlock_l19
        rw [if_neg hF, ite_self]
      simp only [lp, this]
    rw [hw, obs, hlF _ _ _ _ hF, obs]
    exact ⟨_, rfl, Or.inl ⟨x, rfl, q2, q3⟩⟩
  | inr az =>
    obtain ⟨a1, z⟩ := az
    rw [hp] at p2
    obtain ⟨q1, q2, q3⟩ := p2
    obtain ⟨v1, v2, v3⟩ := pVar_a hp
    obtain ⟨ow, w1, w2, w3⟩ := M_widths (n := n) (cap := cap) (e := e) (a1 := a1) (s := s) (l := l) (I := I) (inp := inp) hn hc hI he v2 (by omega) (by omega) h
    rw [q1, q2, q3, w1, obs, w2]
    simp only
    by_cases c0 : pWid I e a1 (s + 1) (l + 1) 4 0 = 0
    · obtain ⟨x1, x2, x3⟩ := w3 c0
      obtain ⟨op, t1, t2⟩ := M_parts (n := n) (cap := cap) (ln := ln) (e := e) (a := a1 + 4) (a1 := a1) (s := s) (l := l) (I := I) (inp := inp) (lg := lg) (f := f) (uz (ql64 z)) hn hc hI he x2 hsl hl64 hln hln2 hN x2 x3 h
      have hz : nI 0 = 0 := rfl
      rw [c0, if_pos rfl, x1, hz, t1, obs]
      exact ⟨_, rfl, t2⟩
    · have hne : ¬ nI (pWid I e a1 (s + 1) (l + 1) 4 0) = 0 := nIf c0 (by have := pWid_05 I e a1 (s + 1) (l + 1) 4 0; omega)
      rw [if_neg c0, hlF _ _ _ _ hne, obs]
      exact ⟨_, rfl, Or.inl ⟨_, rfl, rfl, hne⟩⟩
