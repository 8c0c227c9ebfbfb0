theorem acc_step {acc b k : Nat} (hacc : acc < 2 ^ (7 * k)) (hb : b < 256) (hk : k ≤ 8 ∨ (k = 9 ∧ b ≤ 1)) : (ql64 acc ||| ((nI b &&& 127).toInt64 <<< (((7 : Int32) * nI k).toInt64 &&& 63))) = ql64 (acc ||| ((b % 128) <<< (7 * k))) ∧ acc ||| ((b % 128) <<< (7 * k)) < 2 ^ 64 := by
  have hk9 : k ≤ 9 := by omega
  have h127 : nI b &&& 127 = nI (b % 128) := by
    apply Int32.toBitVec_inj.mp
    apply BitVec.eq_of_toNat_eq
    have e : (127 : Int32).toBitVec.toNat = 2 ^ 7 - 1 := rfl
    rw [Int32.toBitVec_and, BitVec.toNat_and, e, Nat.and_two_pow_sub_one_eq_mod]
    show (BitVec.ofNat 32 b).toNat % 2 ^ 7 = (BitVec.ofNat 32 (b % 128)).toNat
    rw [BitVec.toNat_ofNat, BitVec.toNat_ofNat]
    omega
  have e7 : (7 : Int32) * nI k = nI (7 * k) := nI_mul 7 k
  have hm : b % 128 < 2 ^ 7 := Nat.mod_lt _ (by omega)
  have hlt : acc ||| ((b % 128) <<< (7 * k)) < 2 ^ 64 := by
    apply Nat.or_lt_two_pow
    · exact Nat.lt_of_lt_of_le hacc (Nat.pow_le_pow_right (by omega) (by omega))
    · rw [Nat.shiftLeft_eq]
      rcases hk with h8 | ⟨h9, hb1⟩
      · have h1 : b % 128 * 2 ^ (7 * k) < 2 ^ 7 * 2 ^ (7 * k) := Nat.mul_lt_mul_of_pos_right hm (Nat.two_pow_pos _)
        rw [← Nat.pow_add] at h1
        exact Nat.lt_of_lt_of_le h1 (Nat.pow_le_pow_right (by omega) (by omega))
      · subst h9
        have h2 : b % 128 ≤ 1 := by omega
        have h4 := Nat.mul_le_mul_right (2 ^ (7 * 9)) h2
        exact Nat.lt_of_le_of_lt h4 (by rw [Nat.one_mul]; exact Nat.pow_lt_pow_right (by omega) (by omega))
  refine ⟨?_, hlt⟩
  apply lv_inj
  have hp : 2 ^ (7 * k) ≤ 2 ^ 63 := Nat.pow_le_pow_right (by omega) (by omega)
  have hp63 : 2 ^ 63 < 2 ^ 64 := Nat.pow_lt_pow_right (by omega) (by omega)
  have hsl : (b % 128) <<< (7 * k) ≤ acc ||| ((b % 128) <<< (7 * k)) := Nat.right_le_or
  rw [lv_or, e7, h127, lv_shl' _ (by omega), lv_nI (by omega), lv_l64 (by omega), lv_l64 (by omega), Nat.mod_eq_of_lt (by omega)]
theorem S_j40 {at' f : Int32} {v : Int64} {k b : Nat} (hk : k < 100) (hb : b < 256) : f_S_varint_j40 at' f v (nI k) (nI b) (nI (if k = 9 ∧ 1 < b then 1 else 0)) = f_S_varint_j73 at' (if (k = 9 ∧ 1 < b) ∨ (0 < k ∧ b = 0) then (if f = 0 then 2 else f) else f) v (nI k) (nI b) := by
  unfold f_S_varint_j40 f_S_varint_j55 f_S_varint_j56 f_S_varint_j68 f_S_fail
  have hk0 : (nI k ≤ 0) ↔ ¬ 0 < k := by rw [QI0, qn_le (by omega) (by omega)]; omega
  have hb0 : (nI b = 0) ↔ b = 0 := by rw [QI0, nI_inj (by omega) (by omega)]
  have n1 : ¬ nI 1 = 0 := by decide
  have n0 : nI 0 = 0 := rfl
  have fe : (Option.bind (if f = 0 then some (2 : Int32) else some f) fun o17 => f_S_varint_j73 at' o17 v (nI k) (nI b)) = f_S_varint_j73 at' (if f = 0 then 2 else f) v (nI k) (nI b) := by split <;> rfl
  by_cases c1 : k = 9 ∧ 1 < b
  · rw [if_pos c1, if_neg n1, if_neg n1, if_pos (Or.inl c1), fe]
    split
    · rfl
    · split <;> rfl
  · rw [if_neg c1, if_pos n0]
    by_cases c2 : 0 < k
    · rw [if_neg (fun h => hk0.mp h c2)]
      by_cases c3 : b = 0
      · rw [if_pos (hb0.mpr c3), if_neg (show ¬ (1 : Int32) = 0 by decide), if_pos (Or.inr ⟨c2, c3⟩), fe, if_pos n0]
      · rw [if_neg (fun h => c3 (hb0.mp h)), if_pos rfl, if_neg (fun h => by rcases h with h | h; exact c1 h; exact c3 h.2)]
    · rw [if_pos (hk0.mpr c2), if_pos rfl, if_neg (fun h => by rcases h with h | h; exact c1 h; exact c2 h.1)]
theorem S_varint {n cap e a : Nat} {I : List UInt8} {row : Nat → Int32} (hn : 100 < n) (hc : cap < 100000) (hI : I.length ≤ cap) (he : e ≤ I.length) (ha : a ≤ e) (h : HC I row) :
    ∃ o, f_S_varint n cap (nI a) (nI e) 0 row = some o ∧ VR (pVar I e a) o := by
  unfold f_S_varint
  have main : ∃ o, lp (fun v => f_S_varint_l4 cap (nI e) row v.1 v.2.1 v.2.2.1 v.2.2.2) n (nI a, (0 : Int32), (0 : Int64), (0 : Int32)) = some o ∧ ∃ w : Int32 × Int32 × Int64 × Int32, (o = Sum.inl w ∨ o = Sum.inr w) ∧ ((∃ f, pVar I e a = .inl f ∧ w.2.1 = nI f ∧ ¬ nI f = 0) ∨ (∃ a' v, pVar I e a = .inr (a', v) ∧ w.1 = nI a' ∧ w.2.1 = 0 ∧ w.2.2.1 = ql64 v)) := by
    refine lp_inv (fun q u => (∃ b k acc, k + q = 11 ∧ k ≤ 10 ∧ u.1 = nI b ∧ b ≤ e ∧ u.2.1 = 0 ∧ u.2.2.1 = ql64 acc ∧ acc < 2 ^ (7 * k) ∧ u.2.2.2 = nI k ∧ pVarG I e (10 - k) b k acc = pVar I e a ∧ k < 10) ∨ (∃ f, pVar I e a = .inl f ∧ u.2.1 = nI f ∧ ¬ nI f = 0)) _ ?_ 11 n _ (Or.inl ⟨a, 0, 0, by omega, by omega, rfl, ha, rfl, rfl, by decide, rfl, rfl, by omega⟩) (by omega)
    rintro q ⟨at', fa, v, k'⟩ (⟨b, k, acc, g1, g2, g3, g4, g5, g6, g7, g8, g9, g10⟩ | ⟨f, g1, g2, g3⟩)
    · simp only at g3 g5 g6 g8
      subst g3; subst g5; subst g6; subst g8
      show (∃ w', f_S_varint_l4 cap (nI e) row (nI b) 0 (ql64 acc) (nI k) = _ ∧ _) ∨ (∃ x, f_S_varint_l4 cap (nI e) row (nI b) 0 (ql64 acc) (nI k) = _ ∧ _)
      unfold f_S_varint_l4
      have i10 : (10 : Int32) = nI 10 := rfl
      rw [i10, ifle (by omega) (by omega), if_neg (show ¬ 10 ≤ k by omega), if_pos rfl]
      have i9 : ∀ {α : Type} {x y : α}, (if nI k = 9 then x else y) = if k = 9 then x else y := fun {α x y} => ife (by omega) (by decide)
      have hun : pVarG I e (10 - k) b k acc = (if e ≤ b then .inl 1 else if (k = 9 ∧ 1 < (I.getD b 0).toNat) ∨ (0 < k ∧ (I.getD b 0).toNat = 0) then .inl 2 else if (I.getD b 0).toNat < 128 then .inr (b + 1, acc ||| (((I.getD b 0).toNat % 128) <<< (7 * k))) else pVarG I e (10 - (k + 1)) (b + 1) (k + 1) (acc ||| (((I.getD b 0).toNat % 128) <<< (7 * k)))) := by
        rw [show 10 - k = (10 - (k + 1)) + 1 by omega]; rfl
      by_cases cb : b < e
      · have hB := u8_lt (I.getD b 0)
        rw [S_octet0 hc hI he cb h, obs]
        rw [hun, if_neg (show ¬ e ≤ b by omega)] at g9
        generalize (I.getD b 0).toNat = B at *
        have hsel : (if nI k = 9 then if nI B ≤ 1 then f_S_varint_j39 (nI (b + 1)) 0 (ql64 acc) (nI k) (nI B) else f_S_varint_j40 (nI (b + 1)) 0 (ql64 acc) (nI k) (nI B) 1 else f_S_varint_j39 (nI (b + 1)) 0 (ql64 acc) (nI k) (nI B)) = f_S_varint_j40 (nI (b + 1)) 0 (ql64 acc) (nI k) (nI B) (nI (if k = 9 ∧ 1 < B then 1 else 0)) := by
          have hB1 : (nI B ≤ 1) ↔ ¬ 1 < B := by
            have : (1 : Int32) = nI 1 := rfl
            rw [this, qn_le (by omega) (by omega)]; omega
          unfold f_S_varint_j39
          rw [i9]
          by_cases c9 : k = 9
          · rw [if_pos c9]
            by_cases cB : 1 < B
            · rw [if_neg (fun q => hB1.mp q cB), if_pos ⟨c9, cB⟩]; rfl
            · rw [if_pos (hB1.mpr cB), if_neg (fun q => cB q.2)]; rfl
          · rw [if_neg c9, if_neg (fun q => c9 q.1)]; rfl
        rw [hsel, S_j40 (by omega) hB, if_pos rfl]
        unfold f_S_varint_j73
        have i128 : (128 : Int32) = nI 128 := rfl
        rw [bnd_eq, i128, ifle (by omega) (by omega)]
        by_cases bad : (k = 9 ∧ 1 < B) ∨ (0 < k ∧ B = 0)
        · rw [if_pos bad] at g9
          rw [if_pos bad]
          by_cases c128 : 128 ≤ B
          · rw [if_pos c128]
            exact Or.inl ⟨_, rfl, q - 1, by omega, Or.inr ⟨2, g9.symm, rfl, by decide⟩⟩
          · rw [if_neg c128]
            exact Or.inr ⟨_, rfl, _, Or.inl rfl, Or.inl ⟨2, g9.symm, rfl, by decide⟩⟩
        · rw [if_neg bad] at g9
          obtain ⟨h1, h2⟩ := acc_step g7 hB (by
            by_cases c9 : k = 9
            · refine Or.inr ⟨c9, ?_⟩
              apply Classical.byContradiction
              intro hq
              exact bad (Or.inl ⟨c9, by omega⟩)
            · exact Or.inl (by omega))
          rw [if_neg bad, h1]
          by_cases c128 : 128 ≤ B
          · rw [if_neg (show ¬ B < 128 by omega)] at g9
            have hk9 : k < 9 := by
              apply Classical.byContradiction
              intro hq
              exact bad (Or.inl ⟨by omega, by omega⟩)
            rw [if_pos c128]
            refine Or.inl ⟨_, rfl, q - 1, by omega, Or.inl ⟨b + 1, k + 1, _, by omega, by omega, rfl, by omega, rfl, rfl, ?_, qn_add k 1, g9, by omega⟩⟩
            have hm : B % 128 < 2 ^ 7 := Nat.mod_lt _ (by omega)
            apply Nat.or_lt_two_pow
            · exact Nat.lt_of_lt_of_le g7 (Nat.pow_le_pow_right (by omega) (by omega))
            · rw [Nat.shiftLeft_eq, show 7 * (k + 1) = 7 + 7 * k by omega, Nat.pow_add]
              exact Nat.mul_lt_mul_of_pos_right hm (Nat.two_pow_pos _)
          · rw [if_pos (show B < 128 by omega)] at g9
            rw [if_neg c128]
            exact Or.inr ⟨_, rfl, _, Or.inl rfl, Or.inr ⟨_, _, g9.symm, rfl, rfl, rfl⟩⟩
      · have hbe : b = e := by omega
        rw [hun, if_pos (show e ≤ b by omega)] at g9
        rw [S_octet1 hbe (by omega), obs]
        have hsel : (if nI k = 9 then if (0 : Int32) ≤ 1 then f_S_varint_j39 (nI b) 1 (ql64 acc) (nI k) 0 else f_S_varint_j40 (nI b) 1 (ql64 acc) (nI k) 0 1 else f_S_varint_j39 (nI b) 1 (ql64 acc) (nI k) 0) = f_S_varint_j40 (nI b) 1 (ql64 acc) (nI k) (nI 0) (nI (if k = 9 ∧ 1 < 0 then 1 else 0)) := by
          rw [if_neg (show ¬ (k = 9 ∧ 1 < 0) by omega), if_pos (show (0 : Int32) ≤ 1 by decide)]
          unfold f_S_varint_j39
          split <;> rfl
        rw [hsel, S_j40 (by omega) (by omega), if_neg (show ¬ (1 : Int32) = 0 by decide)]
        have : (if (k = 9 ∧ 1 < 0) ∨ (0 < k ∧ 0 = 0) then (1 : Int32) else 1) = 1 := by split <;> rfl
        rw [this]
        unfold f_S_varint_j73
        rw [bnd_eq, if_neg (show ¬ (128 : Int32) ≤ nI 0 by decide)]
        exact Or.inr ⟨_, rfl, _, Or.inl rfl, Or.inl ⟨1, g9.symm, rfl, by decide⟩⟩
    · simp only at g2
      subst g2
      show (∃ w', f_S_varint_l4 cap (nI e) row at' (nI f) v k' = _ ∧ _) ∨ (∃ x, f_S_varint_l4 cap (nI e) row at' (nI f) v k' = _ ∧ _)
      unfold f_S_varint_l4
      rw [if_neg g3]
      refine Or.inr ⟨Sum.inr (at', nI f, v, k'), by split <;> rfl, _, Or.inr rfl, Or.inl ⟨f, g1, rfl, g3⟩⟩
  obtain ⟨o, h1, w, h2, h3⟩ := main
  rw [h1, obs]
  have hj : Sum.elim (fun o => f_S_varint_j95 o.1 o.2.1 o.2.2.1) (fun o => f_S_varint_j104 o.1 o.2.1 o.2.2.1) o = f_S_varint_j104 w.1 w.2.1 w.2.2.1 := by
    rcases h2 with rfl | rfl <;> rfl
  rw [hj]
  unfold f_S_varint_j104
  rcases h3 with ⟨f, p1, p2, p3⟩ | ⟨a', v, p1, p2, p3, p4⟩
  · rw [p2, if_neg p3, p1]
    exact ⟨_, rfl, rfl, rfl, p3⟩
  · rw [p3, if_pos rfl, p1]
    exact ⟨_, rfl, p4, p2, rfl⟩
theorem S_varintF {n cap : Nat} {row : Nat → Int32} {at' to' f : Int32} (hn : 100 < n) (hf : ¬ f = 0) : f_S_varint n cap at' to' f row = some (0, at', f) := by
  unfold f_S_varint
  obtain ⟨x, rfl⟩ : ∃ x, n = x + 1 := ⟨n - 1, by omega⟩
  have : f_S_varint_l4 cap to' row at' f 0 0 = some (Sum.inr (Sum.inr (at', f, 0, 0))) := by
    unfold f_S_varint_l4
    rw [if_neg (by decide), if_neg hf]
  simp only [lp, this]
  show f_S_varint_j104 at' f 0 = _
  unfold f_S_varint_j104
  rw [if_neg hf]
theorem M_varint {n cap e a : Nat} {I : List UInt8} {inp : Nat → Int32} (hn : 100 < n) (hc : cap < 100000) (hI : I.length ≤ cap) (he : e ≤ I.length) (ha : a ≤ e) (h : QHM I inp) :
    ∃ o, f_M_varint n cap (nI a) 0 inp (nI e) = some o ∧ VR (pVar I e a) o := by
  unfold f_M_varint
  have main : ∃ o, lp (fun v => f_M_varint_l5 cap inp (nI e) v.1 v.2.1 v.2.2.1 v.2.2.2) n (nI a, (0 : Int32), (0 : Int64), (0 : Int32)) = some o ∧ VR (pVar I e a) o := by
    refine lp_inv (fun q u => (∃ b k acc, k + q = 12 ∧ k < 10 ∧ u.1 = nI b ∧ b ≤ e ∧ u.2.1 = 0 ∧ u.2.2.1 = ql64 acc ∧ acc < 2 ^ (7 * k) ∧ u.2.2.2 = nI k ∧ pVarG I e (10 - k) b k acc = pVar I e a) ∨ (∃ f, pVar I e a = .inl f ∧ u.2.1 = nI f ∧ ¬ nI f = 0)) _ ?_ 12 n _ (Or.inl ⟨a, 0, 0, by omega, by omega, rfl, ha, rfl, rfl, by decide, rfl, rfl⟩) (by omega)
    rintro q ⟨at', fa, v, k'⟩ (⟨b, k, acc, g1, g2, g3, g4, g5, g6, g7, g8, g9⟩ | ⟨f, g1, g2, g3⟩)
    · simp only at g3 g5 g6 g8
      subst g3; subst g5; subst g6; subst g8
      show (∃ w', f_M_varint_l5 cap inp (nI e) (nI b) 0 (ql64 acc) (nI k) = _ ∧ _) ∨ (∃ x, f_M_varint_l5 cap inp (nI e) (nI b) 0 (ql64 acc) (nI k) = _ ∧ _)
      unfold f_M_varint_l5
      rw [if_pos rfl, ifl (by omega) (by omega)]
      have i9 : ∀ {α : Type} {x y : α}, (if nI k = 9 then x else y) = if k = 9 then x else y := fun {α x y} => ife (by omega) (by decide)
      have hun : pVarG I e (10 - k) b k acc = (if e ≤ b then .inl 1 else if (k = 9 ∧ 1 < (I.getD b 0).toNat) ∨ (0 < k ∧ (I.getD b 0).toNat = 0) then .inl 2 else if (I.getD b 0).toNat < 128 then .inr (b + 1, acc ||| (((I.getD b 0).toNat % 128) <<< (7 * k))) else pVarG I e (10 - (k + 1)) (b + 1) (k + 1) (acc ||| (((I.getD b 0).toNat % 128) <<< (7 * k)))) := by
        rw [show 10 - k = (10 - (k + 1)) + 1 by omega]; rfl
      rw [hun] at g9
      by_cases cb : b < e
      · have hB := u8_lt (I.getD b 0)
        have e1 : nI b + 1 = nI (b + 1) := qn_add b 1
        rw [if_neg (show ¬ e ≤ b by omega)] at g9
        rw [if_pos cb, gd_nI (by omega) (by omega), bnd_eq, bnd_eq, qn_clamp (by omega), octm h (by omega), e1]
        generalize (I.getD b 0).toNat = B at *
        have hsel : (if nI k = 9 then if 1 < nI B then f_M_varint_j72 (nI (b + 1)) (ql64 acc) (nI k) else f_M_varint_j62 (nI (b + 1)) 0 (ql64 acc) (nI k) (nI B) else f_M_varint_j62 (nI (b + 1)) 0 (ql64 acc) (nI k) (nI B)) = if (k = 9 ∧ 1 < B) ∨ (0 < k ∧ B = 0) then f_M_varint_j72 (nI (b + 1)) (ql64 acc) (nI k) else f_M_varint_j80 (nI (b + 1)) 0 (ql64 acc) (nI k) (nI B) := by
          have hB1 : (1 < nI B) ↔ 1 < B := by
            have : (1 : Int32) = nI 1 := rfl
            rw [this, qn_lt (by omega) (by omega)]
          have hk0 : (nI k ≤ 0) ↔ ¬ 0 < k := by rw [QI0, qn_le (by omega) (by omega)]; omega
          have hb0 : (nI B = 0) ↔ B = 0 := by rw [QI0, nI_inj (by omega) (by omega)]
          have hj62 : f_M_varint_j62 (nI (b + 1)) 0 (ql64 acc) (nI k) (nI B) = if 0 < k ∧ B = 0 then f_M_varint_j72 (nI (b + 1)) (ql64 acc) (nI k) else f_M_varint_j80 (nI (b + 1)) 0 (ql64 acc) (nI k) (nI B) := by
            unfold f_M_varint_j62
            by_cases c2 : 0 < k
            · rw [if_neg (fun q => hk0.mp q c2)]
              by_cases c3 : B = 0
              · rw [if_pos (hb0.mpr c3), if_pos ⟨c2, c3⟩]
              · rw [if_neg (fun q => c3 (hb0.mp q)), if_neg (fun q => c3 q.2)]
            · rw [if_pos (hk0.mpr c2), if_neg (fun q => c2 q.1)]
          rw [hj62, i9]
          by_cases c9 : k = 9
          · rw [if_pos c9]
            by_cases cB : 1 < B
            · rw [if_pos (hB1.mpr cB), if_pos (Or.inl ⟨c9, cB⟩)]
            · rw [if_neg (fun q => cB (hB1.mp q))]
              by_cases c4 : 0 < k ∧ B = 0
              · rw [if_pos c4, if_pos (Or.inr c4)]
              · rw [if_neg c4, if_neg (fun q => by rcases q with q | q; exact cB q.2; exact c4 q)]
          · rw [if_neg c9]
            by_cases c4 : 0 < k ∧ B = 0
            · rw [if_pos c4, if_pos (Or.inr c4)]
            · rw [if_neg c4, if_neg (fun q => by rcases q with q | q; exact c9 q.1; exact c4 q)]
        rw [hsel]
        by_cases bad : (k = 9 ∧ 1 < B) ∨ (0 < k ∧ B = 0)
        · rw [if_pos bad] at g9
          rw [if_pos bad]
          unfold f_M_varint_j72
          exact Or.inl ⟨_, rfl, q - 1, by omega, Or.inr ⟨2, g9.symm, rfl, by decide⟩⟩
        · rw [if_neg bad] at g9
          obtain ⟨h1, h2⟩ := acc_step g7 hB (by
            by_cases c9 : k = 9
            · refine Or.inr ⟨c9, ?_⟩
              apply Classical.byContradiction
              intro hq
              exact bad (Or.inl ⟨c9, by omega⟩)
            · exact Or.inl (by omega))
          rw [if_neg bad]
          unfold f_M_varint_j80
          have i128 : (128 : Int32) = nI 128 := rfl
          rw [bnd_eq, h1, i128, ifle (by omega) (by omega)]
          by_cases c128 : 128 ≤ B
          · rw [if_neg (show ¬ B < 128 by omega)] at g9
            have hk9 : k < 9 := by
              apply Classical.byContradiction
              intro hq
              exact bad (Or.inl ⟨by omega, by omega⟩)
            rw [if_pos c128]
            refine Or.inl ⟨_, rfl, q - 1, by omega, Or.inl ⟨b + 1, k + 1, _, by omega, by omega, rfl, by omega, rfl, rfl, ?_, qn_add k 1, g9⟩⟩
            have hm : B % 128 < 2 ^ 7 := Nat.mod_lt _ (by omega)
            apply Nat.or_lt_two_pow
            · exact Nat.lt_of_lt_of_le g7 (Nat.pow_le_pow_right (by omega) (by omega))
            · rw [Nat.shiftLeft_eq, show 7 * (k + 1) = 7 + 7 * k by omega, Nat.pow_add]
              exact Nat.mul_lt_mul_of_pos_right hm (Nat.two_pow_pos _)
          · rw [if_pos (show B < 128 by omega)] at g9
            rw [if_neg c128]
            refine Or.inr ⟨_, rfl, ?_⟩
            rw [← g9]
            exact ⟨rfl, rfl, rfl⟩
      · rw [if_pos (show e ≤ b by omega)] at g9
        rw [if_neg cb]
        exact Or.inl ⟨_, rfl, q - 1, by omega, Or.inr ⟨1, g9.symm, rfl, by decide⟩⟩
    · simp only at g2
      subst g2
      show (∃ w', f_M_varint_l5 cap inp (nI e) at' (nI f) v k' = _ ∧ _) ∨ (∃ x, f_M_varint_l5 cap inp (nI e) at' (nI f) v k' = _ ∧ _)
      unfold f_M_varint_l5
      rw [if_neg g3]
      refine Or.inr ⟨_, rfl, ?_⟩
      rw [g1]
      exact ⟨rfl, rfl, g3⟩
  obtain ⟨o, h1, h2⟩ := main
  rw [h1]
  exact ⟨o, rfl, h2⟩
theorem M_varintF {n cap : Nat} {inp : Nat → Int32} {at' to' f : Int32} (hn : 100 < n) (hf : ¬ f = 0) : f_M_varint n cap at' f inp to' = some (0, at', f) := by
  unfold f_M_varint
  obtain ⟨x, rfl⟩ : ∃ x, n = x + 1 := ⟨n - 1, by omega⟩
  have : f_M_varint_l5 cap inp to' at' f 0 0 = some (Sum.inr (0, at', f)) := by
    unfold f_M_varint_l5
    rw [if_neg hf]
  simp only [lp, this]; rfl
