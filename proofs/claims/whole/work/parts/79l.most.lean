def MT (t i : Nat) (tn : Nat → Int64) (S : Nat → Nat) (T : Nat → UInt8) (told2 : Nat → Int64) (toldBytes toldSize : Nat → Int32) : Prop :=
  (t ≠ 3 → ∀ j, j < i → told2 j = tn j) ∧ (t = 3 → ∀ j, j < i → toldSize j = nI (S (j + 1) - S j) ∧ ∀ k, k < S (j + 1) - S j → toldBytes (256 * j + k) = um (T (S j + k)))
theorem M_against {n t c k i : Nat} {num tn : Nat → Int64} {S tS' : Nat → Nat} {T tT' : Nat → UInt8} {cnt : Int32} {nw : Nat → Int64} {nf nb : Nat → Int32} {told2 : Nat → Int64} {toldBytes toldSize : Nat → Int32}
    (hn : 100000 < n) (ht3 : t ≤ 3) (hk : k < c) (hc : c ≤ 1000) (hi : i < 2) (hS : t = 3 → TxI c S 20000) (htS : t = 3 → TxI 2 tS' 510) (hM : VsM t c num S T cnt nw nf nb) (hT : MT t 2 tn tS' tT' told2 toldBytes toldSize) :
    ∃ o, f_M_against n 20000 1001 1000 2 512 2 (nI t) nb nf nw told2 toldBytes toldSize (nI k) (nI i) = some o ∧ sg o (cmpZ t num tn S tS' T tT' k i) := by
  unfold f_M_against cmpZ
  obtain ⟨g4, g5, g6, g7⟩ := hM
  rw [ife3 (by omega)]
  by_cases c3 : t = 3
  · obtain ⟨s1, s2, s3⟩ := hS c3
    obtain ⟨u1, u2, u3⟩ := htS c3
    have b1 := S_mono (fun i hi => (s2 i hi).1) (i := k + 1) (j := c) (by omega) (by omega)
    have b2 := S_mono (fun i hi => (u2 i hi).1) (i := i + 1) (j := 2) (by omega) (by omega)
    have b3 := s2 k hk
    have b4 := u2 i hi
    obtain ⟨t1, t2⟩ := hT.2 c3 i hi
    have e1 : nI k + 1 = nI (k + 1) := qn_add k 1
    have e256 : (256 : Int32) * nI i = nI (256 * i) := nI_mul 256 i
    rw [if_pos c3, if_pos c3, e1, gd_nI (by omega) (by omega), gd_nI (by omega) (by omega), bnd_eq, qn_clamp (by omega), qn_clamp (by omega), (g7 c3).1 (k + 1) (by omega), (g7 c3).1 k (by omega), nI_sub b3.1]
    unfold cmpT
    have hle1 : min (S (k + 1) - S k) (tS' (i + 1) - tS' i) ≤ S (k + 1) - S k := Nat.min_le_left _ _
    have hle2 : min (S (k + 1) - S k) (tS' (i + 1) - tS' i) ≤ tS' (i + 1) - tS' i := Nat.min_le_right _ _
    have hmin : min (S (k + 1) - S k) (tS' (i + 1) - tS' i) = S (k + 1) - S k ∨ min (S (k + 1) - S k) (tS' (i + 1) - tS' i) = tS' (i + 1) - tS' i := by omega
    generalize hMM : min (S (k + 1) - S k) (tS' (i + 1) - tS' i) = M at hle1 hle2 hmin
    have main : ∃ e, lp (fun v => f_M_against_l69 20000 1001 512 2 nb nf toldBytes toldSize (nI k) (nI i) (nI (S (k + 1) - S k)) v) n (0 : Int32) = some e ∧ ((comm (fun x => T (S k + x)) (fun x => tT' (tS' i + x)) M = M ∧ ∃ x, e = Sum.inr x) ∨ (comm (fun x => T (S k + x)) (fun x => tT' (tS' i + x)) M < M ∧ e = Sum.inl (nI (comm (fun x => T (S k + x)) (fun x => tT' (tS' i + x)) M)))) := by
      refine lp_inv (fun q w => ∃ p, p + q = M ∧ w = nI p ∧ ∀ x, x < p → T (S k + x) = tT' (tS' i + x)) _ ?_ M n _ ⟨0, by omega, rfl, fun x h => by omega⟩ (by omega)
      rintro q w ⟨p, q1, q2, q3⟩
      subst q2
      unfold f_M_against_l69
      rw [ifle (by omega) (by omega)]
      by_cases k1 : S (k + 1) - S k ≤ p
      · rw [if_pos k1]
        have : p = M := by omega
        subst this
        exact Or.inr ⟨_, rfl, Or.inl ⟨(comm_uniq (Nat.le_refl p) q3 (fun h => by omega)).symm, _, rfl⟩⟩
      rw [if_neg k1, gd_nI (by omega) (by omega), qn_clamp (by omega), t1, ifle (by omega) (by omega)]
      by_cases k2 : tS' (i + 1) - tS' i ≤ p
      · rw [if_pos k2]
        have : p = M := by omega
        subst this
        exact Or.inr ⟨_, rfl, Or.inl ⟨(comm_uniq (Nat.le_refl p) q3 (fun h => by omega)).symm, _, rfl⟩⟩
      rw [if_neg k2, gd_nI (by omega) (by omega), qn_clamp (show k < 2147483648 by omega), (g7 c3).1 k (by omega), qn_add, gd_nI (by omega) (by omega), e256, qn_add, gd_nI (by omega) (by omega), qn_clamp (by omega), qn_clamp (by omega), (g7 c3).2 _ (by omega), t2 p (by omega)]
      by_cases c2 : T (S k + p) = tT' (tS' i + p)
      · rw [if_pos (um_inj.mpr c2)]
        refine Or.inl ⟨_, rfl, q - 1, by omega, p + 1, by omega, qn_add p 1, ?_⟩
        intro x hx
        by_cases ex : x = p
        · subst ex; exact c2
        · exact q3 x (by omega)
      · rw [if_neg (fun h => c2 (um_inj.mp h))]
        have hk' := comm_uniq (f := fun x => T (S k + x)) (g := fun x => tT' (tS' i + x)) (show p ≤ M by omega) q3 (fun _ => c2)
        exact Or.inr ⟨_, rfl, Or.inr ⟨by omega, by rw [← hk']⟩⟩
    obtain ⟨e, h1, h2⟩ := main
    rw [h1, obs]
    rcases h2 with ⟨h2, x, rfl⟩ | ⟨h2, rfl⟩
    · rw [if_pos h2]
      show ∃ o, f_M_against_j151 2 toldSize (nI i) (nI (S (k + 1) - S k)) = some o ∧ _
      unfold f_M_against_j151
      rw [gd_nI (by omega) (by omega), qn_clamp (by omega), t1]
      exact ⟨_, rfl, sg_sub (by omega) (by omega)⟩
    · rw [if_neg (by omega)]
      generalize comm (fun x => T (S k + x)) (fun x => tT' (tS' i + x)) M = K at h2
      show ∃ o, f_M_against_j116 20000 1001 512 nb nf toldBytes (nI k) (nI i) (nI K) = some o ∧ _
      unfold f_M_against_j116
      rw [gd_nI (by omega) (by omega), qn_clamp (show k < 2147483648 by omega), (g7 c3).1 k (by omega), qn_add, gd_nI (by omega) (by omega), e256, qn_add, gd_nI (by omega) (by omega), qn_clamp (by omega), qn_clamp (by omega), (g7 c3).2 _ (by omega), t2 K (by omega), um_nI, um_nI]
      exact ⟨_, rfl, sg_sub (by have := u8_lt (T (S k + K)); omega) (by have := u8_lt (tT' (tS' i + K)); omega)⟩
  · have t1 := hT.1 c3 i hi
    have g0 : ∀ {α : Type} {t : Option α}, gd (inB (nI k) 1000) t = t := fun {α t} => gd_nI (by omega) (by omega)
    have g1 : ∀ {α : Type} {t : Option α}, gd (inB (nI i) 2) t = t := fun {α t} => gd_nI (by omega) (by omega)
    rw [if_neg c3, if_neg c3, g0, g1, g0, g1, qn_clamp (by omega), qn_clamp (by omega), g5 c3 k hk, t1]
    by_cases a1 : tn i ≤ num k
    · rw [if_pos a1]
      rw [Int64.le_iff_toInt_le] at a1
      by_cases a2 : num k ≤ tn i
      · rw [if_pos a2]
        rw [Int64.le_iff_toInt_le] at a2
        exact ⟨0, rfl, ⟨fun _ => by omega, fun _ => by decide⟩, ⟨fun _ => by omega, fun _ => by decide⟩⟩
      · rw [if_neg a2]
        rw [Int64.le_iff_toInt_le] at a2
        exact ⟨1, rfl, ⟨fun _ => by omega, fun _ => by decide⟩, ⟨fun h => absurd h (by decide), fun h => absurd h (by omega)⟩⟩
    · rw [if_neg a1]
      rw [Int64.le_iff_toInt_le] at a1
      exact ⟨-1, rfl, ⟨fun h => absurd h (by decide), fun h => absurd h (by omega)⟩, ⟨fun _ => by omega, fun _ => by decide⟩⟩
/-- the reference's view of least and greatest -/
def beyond (i : Nat) (z : Int) : Bool := if i = 0 then decide (z < 0) else decide (0 < z)
def hasB (Z : Nat → Int) : Nat → Bool
  | 0 => false
  | k + 1 => hasB Z k || decide (Z k = 0)
def beyB (i : Nat) (Z : Nat → Int) : Nat → Bool
  | 0 => false
  | k + 1 => beyB i Z k || beyond i (Z k)
theorem hasB_iff (Z : Nat → Int) (c : Nat) : hasB Z c = true ↔ ∃ k, k < c ∧ Z k = 0 := by
  induction c with
  | zero => simp [hasB]
  | succ c ih =>
    simp only [hasB, Bool.or_eq_true, ih, decide_eq_true_eq]
    constructor
    · rintro (⟨k, h1, h2⟩ | h)
      · exact ⟨k, by omega, h2⟩
      · exact ⟨c, by omega, h⟩
    · rintro ⟨k, h1, h2⟩
      by_cases e : k = c
      · subst e; exact Or.inr h2
      · exact Or.inl ⟨k, by omega, h2⟩
theorem beyB_iff (i : Nat) (Z : Nat → Int) (c : Nat) : beyB i Z c = true ↔ ∃ k, k < c ∧ beyond i (Z k) = true := by
  induction c with
  | zero => simp [beyB]
  | succ c ih =>
    simp only [beyB, Bool.or_eq_true, ih]
    constructor
    · rintro (⟨k, h1, h2⟩ | h)
      · exact ⟨k, by omega, h2⟩
      · exact ⟨c, by omega, h⟩
    · rintro ⟨k, h1, h2⟩
      by_cases e : k = c
      · subst e; exact Or.inr h2
      · exact Or.inl ⟨k, by omega, h2⟩
theorem M_isMost {n t c i : Nat} {num tn : Nat → Int64} {S tS' : Nat → Nat} {T tT' : Nat → UInt8} {cnt : Int32} {nw : Nat → Int64} {nf nb : Nat → Int32} {told2 : Nat → Int64} {toldBytes toldSize : Nat → Int32}
    (hn : 100000 < n) (ht3 : t ≤ 3) (hc : c ≤ 1000) (hc0 : 0 < c) (hi : i < 2) (hS : t = 3 → TxI c S 20000) (htS : t = 3 → TxI 2 tS' 510) (hM : VsM t c num S T cnt nw nf nb) (hT : MT t 2 tn tS' tT' told2 toldBytes toldSize) :
    ∃ o, f_M_isMost n 20000 1001 1000 2 512 2 (nI t) nb nf nw told2 toldBytes toldSize (nI c) (nI i) = some o ∧ ((o = 0) ↔ ¬ ToldIs t c num tn S tS' T tT' (decide (i = 1)) i) := by
  unfold f_M_isMost
  have main : ∃ o, lp (fun v => f_M_isMost_l8 n 20000 1001 1000 2 512 2 (nI t) nb nf nw told2 toldBytes toldSize (nI c) (nI i) v.1 v.2.1 v.2.2) n ((0 : Int32), (0 : Int32), (0 : Int32)) = some o ∧ o.1 = nI (hasB (fun k => cmpZ t num tn S tS' T tT' k i) c).toNat ∧ o.2.1 = nI (beyB i (fun k => cmpZ t num tn S tS' T tT' k i) c).toNat := by
    refine lp_inv (fun q u => ∃ k, k + q = c ∧ u.1 = nI (hasB (fun k => cmpZ t num tn S tS' T tT' k i) k).toNat ∧ u.2.1 = nI (beyB i (fun k => cmpZ t num tn S tS' T tT' k i) k).toNat ∧ u.2.2 = nI k) _ ?_ c n _ ⟨0, by omega, rfl, rfl, rfl⟩ (by omega)
    rintro q ⟨ha, be, k'⟩ ⟨k, g1, g2, g3, g4⟩
    simp only at g2 g3 g4
    subst g2; subst g3; subst g4
    show (∃ w', f_M_isMost_l8 n 20000 1001 1000 2 512 2 (nI t) nb nf nw told2 toldBytes toldSize (nI c) (nI i) _ _ (nI k) = _ ∧ _) ∨ (∃ y, f_M_isMost_l8 n 20000 1001 1000 2 512 2 (nI t) nb nf nw told2 toldBytes toldSize (nI c) (nI i) _ _ (nI k) = _ ∧ _)
    unfold f_M_isMost_l8
    rw [ifle (by omega) (by omega)]
    by_cases ck : c ≤ k
    · have : k = c := by omega
      subst this
      rw [if_pos ck]
      exact Or.inr ⟨_, rfl, rfl, rfl⟩
    · obtain ⟨oa, a1, a2⟩ := M_against (n := n) (t := t) (c := c) (k := k) (i := i) (num := num) (tn := tn) (S := S) (tS' := tS') (T := T) (tT' := tT') (cnt := cnt) (nw := nw) (nf := nf) (nb := nb) (told2 := told2) (toldBytes := toldBytes) (toldSize := toldSize) hn ht3 (by omega) hc hi hS htS hM hT
      have e1 : nI k + 1 = nI (k + 1) := qn_add k 1
      have hz := sg_zero a2
      obtain ⟨z1, z2⟩ := a2
      have hb : ∀ b : Bool, (nI b.toNat = 0) ↔ b = false := by intro b; cases b <;> decide
      rw [if_neg ck, a1, obs]
      have h37 : ∀ (k0 : Int32), f_M_isMost_j37 (nI i) (nI (beyB i (fun k => cmpZ t num tn S tS' T tT' k i) k).toNat) (nI k) oa k0 = some (Sum.inl (k0, nI (beyB i (fun k => cmpZ t num tn S tS' T tT' k i) (k + 1)).toNat, nI (k + 1))) := by
        intro k0
        unfold f_M_isMost_j37 f_M_isMost_j60
        rw [qifc (hb _), ife0 (by omega), bnd_eq, bnd_eq, e1]
        have hB : beyB i (fun k => cmpZ t num tn S tS' T tT' k i) (k + 1) = (beyB i (fun k => cmpZ t num tn S tS' T tT' k i) k || beyond i (cmpZ t num tn S tS' T tT' k i)) := rfl
        rw [hB]
        unfold beyond
        cases hbk : beyB i (fun k => cmpZ t num tn S tS' T tT' k i) k with
        | true => rw [if_neg (by decide), Bool.true_or]; rfl
        | false =>
          rw [if_pos rfl, Bool.false_or]
          by_cases i0 : i = 0
          · rw [if_pos i0, if_pos i0]
            by_cases hx : 0 ≤ oa
            · rw [if_pos hx, decide_eq_false (by have := z1.mp hx; omega)]; rfl
            · rw [if_neg hx, decide_eq_true (by apply Classical.byContradiction; intro hq; exact hx (z1.mpr (by omega)))]; rfl
          · rw [if_neg i0, if_neg i0]
            by_cases hx : oa ≤ 0
            · rw [if_pos hx, decide_eq_false (by have := z2.mp hx; omega)]; rfl
            · rw [if_neg hx, decide_eq_true (by apply Classical.byContradiction; intro hq; exact hx (z2.mpr (by omega)))]; rfl
      unfold f_M_isMost_j32
      rw [h37, h37, qifc (hb _), qifc hz]
      have hH : hasB (fun k => cmpZ t num tn S tS' T tT' k i) (k + 1) = (hasB (fun k => cmpZ t num tn S tS' T tT' k i) k || decide (cmpZ t num tn S tS' T tT' k i = 0)) := rfl
      have hsel : (if hasB (fun k => cmpZ t num tn S tS' T tT' k i) k = false then if cmpZ t num tn S tS' T tT' k i = 0 then some (Sum.inl ((1 : Int32), nI (beyB i (fun k => cmpZ t num tn S tS' T tT' k i) (k + 1)).toNat, nI (k + 1))) else some (Sum.inl ((0 : Int32), nI (beyB i (fun k => cmpZ t num tn S tS' T tT' k i) (k + 1)).toNat, nI (k + 1))) else some (Sum.inl ((1 : Int32), nI (beyB i (fun k => cmpZ t num tn S tS' T tT' k i) (k + 1)).toNat, nI (k + 1)))) = (some (Sum.inl (nI (hasB (fun k => cmpZ t num tn S tS' T tT' k i) (k + 1)).toNat, nI (beyB i (fun k => cmpZ t num tn S tS' T tT' k i) (k + 1)).toNat, nI (k + 1))) : Option ((Int32 × Int32 × Int32) ⊕ (Int32 × Int32 × Int32))) := by
        rw [hH]
        cases hasB (fun k => cmpZ t num tn S tS' T tT' k i) k with
        | true => rw [if_neg (by decide), Bool.true_or]; rfl
        | false =>
          rw [if_pos rfl, Bool.false_or]
          by_cases hx : cmpZ t num tn S tS' T tT' k i = 0
          · rw [if_pos hx, decide_eq_true hx]; rfl
          · rw [if_neg hx, decide_eq_false hx]; rfl
      rw [hsel]
      exact Or.inl ⟨_, rfl, q - 1, by omega, k + 1, by omega, rfl, rfl, rfl⟩
  obtain ⟨o, h1, h2, h3⟩ := main
  rw [h1, obs, h2, h3]
  unfold f_M_isMost_j73
  have hb : ∀ b : Bool, (nI b.toNat = 0) ↔ b = false := by intro b; cases b <;> decide
  rw [qifc (hb _), qifc (hb _)]
  have hkey : ToldIs t c num tn S tS' T tT' (decide (i = 1)) i ↔ (hasB (fun k => cmpZ t num tn S tS' T tT' k i) c = true ∧ ¬ beyB i (fun k => cmpZ t num tn S tS' T tT' k i) c = true) := by
    rw [hasB_iff, beyB_iff]
    by_cases i0 : i = 0
    · subst i0
      rw [show decide (0 = 1) = false from rfl, told_least hc0]
      refine and_congr_right (fun _ => ?_)
      constructor
      · rintro ha ⟨k, h4, h5⟩
        unfold beyond at h5
        rw [if_pos rfl, decide_eq_true_eq] at h5
        exact ha k h4 h5
      · intro ha k hk hx
        exact ha ⟨k, hk, by unfold beyond; rw [if_pos rfl, decide_eq_true_eq]; exact hx⟩
    · have i1 : i = 1 := by omega
      subst i1
      rw [show decide (1 = 1) = true from rfl, told_great hc0]
      refine and_congr_right (fun _ => ?_)
      constructor
      · rintro ha ⟨k, h4, h5⟩
        unfold beyond at h5
        rw [if_neg (by omega), decide_eq_true_eq] at h5
        exact ha k h4 h5
      · intro ha k hk hx
        exact ha ⟨k, hk, by unfold beyond; rw [if_neg (by omega), decide_eq_true_eq]; exact hx⟩
  rw [hkey]
  cases hasB (fun k => cmpZ t num tn S tS' T tT' k i) c with
  | false => exact ⟨_, if_pos rfl, ⟨fun _ hx => absurd hx.1 (by decide), fun _ => rfl⟩⟩
  | true =>
    cases beyB i (fun k => cmpZ t num tn S tS' T tT' k i) c with
    | false => exact ⟨1, rfl, ⟨fun hx => absurd hx (by decide), fun hx => absurd ⟨rfl, by decide⟩ hx⟩⟩
    | true => exact ⟨0, rfl, ⟨fun _ hx => hx.2 rfl, fun _ => rfl⟩⟩
theorem R_compareTold {n t c : Nat} {num tn : Nat → Int64} {S tS' : Nat → Nat} {T tT' : Nat → UInt8} {ofTexts cnt tOf tCnt : Int32} {numbers tNum : Nat → Int64} {starts texts tSt tTx : Nat → Int32}
    (hn : 100000 < n) (hc : c ≤ 1000) (hS : t = 3 → TxI c S 20000) (htS : 0 < c → t = 3 → TxI 2 tS' 510) (hC : VsC t c num S T ofTexts cnt numbers starts texts) (hT : 0 < c → VsC t 2 tn tS' tT' tOf tCnt tNum tSt tTx) :
    ∃ o, f_R_compareTold n 2 3 510 1000 1001 20000 0 tOf tNum tSt tTx ofTexts cnt numbers starts texts = some o ∧ ((0 < c ∧ ¬ ToldIs t c num tn S tS' T tT' false 0 ∧ o = 11) ∨ (0 < c ∧ ToldIs t c num tn S tS' T tT' false 0 ∧ ¬ ToldIs t c num tn S tS' T tT' true 1 ∧ o = 12) ∨ ((c = 0 ∨ (ToldIs t c num tn S tS' T tT' false 0 ∧ ToldIs t c num tn S tS' T tT' true 1)) ∧ o = 0)) := by
  unfold f_R_compareTold
  have hcnt := hC.2.1
  rw [if_pos rfl, hcnt, ife0 (by omega)]
  by_cases c0 : c = 0
  · rw [if_pos c0]
    exact ⟨_, rfl, Or.inr (Or.inr ⟨Or.inl c0, rfl⟩)⟩
  · have hT2 := hT (by omega)
    have hS1 : t = 3 → (∀ i, i < c → S i ≤ S (i + 1)) ∧ S c ≤ 20000 ∧ 20000 ≤ 20000 := fun h3 => ⟨fun i hi => ((hS h3).2.1 i hi).1, (hS h3).2.2, by omega⟩
    have hS2 : t = 3 → (∀ i, i < 2 → tS' i ≤ tS' (i + 1)) ∧ tS' 2 ≤ 510 ∧ 510 ≤ 20000 := fun h3 => ⟨fun i hi => ((htS (by omega) h3).2.1 i hi).1, (htS (by omega) h3).2.2, by omega⟩
    have f0 := V_firstMost (n := n) (t := t) (c := c) (num := num) (S := S) (T := T) (ofTexts := ofTexts) (count := cnt) (numbers := numbers) (starts := starts) (texts := texts) (nm := 1000) (m := 1001) (tn := 20000) 0 hn (by omega) (by omega) (by omega) hc hS1 hC
    have f1 := V_firstMost (n := n) (t := t) (c := c) (num := num) (S := S) (T := T) (ofTexts := ofTexts) (count := cnt) (numbers := numbers) (starts := starts) (texts := texts) (nm := 1000) (m := 1001) (tn := 20000) 1 hn (by omega) (by omega) (by omega) hc hS1 hC
    rw [if_neg c0, hcnt, show gB 0 = false from rfl] at f0
    rw [if_neg c0, hcnt, show gB 1 = true from rfl] at f1
    have m0 := mostA_lt (cmpZ t num num S S T T) false c (by omega)
    have m1 := mostA_lt (cmpZ t num num S S T T) true c (by omega)
    obtain ⟨o0, x0, y0⟩ := V_compare (n := n) (t := t) (c := 2) (c' := c) (num := tn) (num' := num) (S := tS') (S' := S) (T := tT') (T' := T) (ofTexts := tOf) (count := tCnt) (ofTexts' := ofTexts) (count' := cnt) (numbers := tNum) (numbers' := numbers) (starts := tSt) (texts := tTx) (starts' := starts) (texts' := texts) (nm := 2) (nm' := 1000) (m := 3) (tn := 510) (m' := 1001) (tn' := 20000) (i := 0) (j := mostA (cmpZ t num num S S T T) false c) hn (by omega) (by omega) (by omega) (by omega) m0 (by omega) (by omega) (by omega) hS2 hS1 hT2 hC
    obtain ⟨o1, x1, y1⟩ := V_compare (n := n) (t := t) (c := 2) (c' := c) (num := tn) (num' := num) (S := tS') (S' := S) (T := tT') (T' := T) (ofTexts := tOf) (count := tCnt) (ofTexts' := ofTexts) (count' := cnt) (numbers := tNum) (numbers' := numbers) (starts := tSt) (texts := tTx) (starts' := starts) (texts' := texts) (nm := 2) (nm' := 1000) (m := 3) (tn := 510) (m' := 1001) (tn' := 20000) (i := 1) (j := mostA (cmpZ t num num S S T T) true c) hn (by omega) (by omega) (by omega) (by omega) m1 (by omega) (by omega) (by omega) hS2 hS1 hT2 hC
    have x0' : f_V_compare n 2 3 510 1000 1001 20000 tOf tNum tSt tTx numbers starts texts 0 (nI (mostA (cmpZ t num num S S T T) false c)) = some o0 := x0
    have x1' : f_V_compare n 2 3 510 1000 1001 20000 tOf tNum tSt tTx numbers starts texts 1 (nI (mostA (cmpZ t num num S S T T) true c)) = some o1 := x1
    have z0 : (o0 = 0) ↔ ToldIs t c num tn S tS' T tT' false 0 := sg_zero y0
    have z1 : (o1 = 0) ↔ ToldIs t c num tn S tS' T tT' true 1 := sg_zero y1
    rw [if_neg c0, f0, obs, x0', obs, S_fail0, obs]
    unfold f_R_compareTold_j44
    rw [f1, obs, x1', obs]
    by_cases h0 : o0 = 0
    · rw [if_pos h0, S_fail0, obs]
      by_cases h1 : o1 = 0
      · rw [if_pos h1]
        exact ⟨_, rfl, Or.inr (Or.inr ⟨Or.inr ⟨z0.mp h0, z1.mp h1⟩, rfl⟩)⟩
      · rw [if_neg h1]
        exact ⟨_, rfl, Or.inr (Or.inl ⟨by omega, z0.mp h0, fun hx => h1 (z1.mpr hx), rfl⟩)⟩
    · rw [if_neg h0]
      have : (if o1 = 0 then some (11 : Int32) else Option.bind (f_S_fail 11 12) (fun o9 => some o9)) = some 11 := by
        split <;> rfl
      rw [obs, x1', obs, this]
      exact ⟨_, rfl, Or.inl ⟨by omega, fun hx => h0 (z0.mpr hx), rfl⟩⟩
theorem R_compareToldF {n : Nat} {f tOf ofTexts cnt : Int32} {numbers tNum : Nat → Int64} {starts texts tSt tTx : Nat → Int32} (hf : ¬ f = 0) : f_R_compareTold n 2 3 510 1000 1001 20000 f tOf tNum tSt tTx ofTexts cnt numbers starts texts = some f := by
  unfold f_R_compareTold
  rw [if_neg hf]
