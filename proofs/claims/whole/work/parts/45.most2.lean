def cmpZ (t : Nat) (num num' : Nat → Int64) (S S' : Nat → Nat) (T T' : Nat → UInt8) (i j : Nat) : Int :=
  if t = 3 then cmpT (fun k => T (S i + k)) (fun k => T' (S' j + k)) (S (i + 1) - S i) (S' (j + 1) - S' j) else (num i).toInt - (num' j).toInt
theorem V_compare {n t c c' : Nat} {num num' : Nat → Int64} {S S' : Nat → Nat} {T T' : Nat → UInt8} {ofTexts count ofTexts' count' : Int32} {numbers numbers' : Nat → Int64} {starts texts starts' texts' : Nat → Int32} {nm nm' m tn m' tn' i j : Nat}
    (hn : 100000 < n) (hi : i < c) (hcm : c < m) (hm : m < 1000000) (hnm : c ≤ nm) (hj : j < c') (hcm' : c' < m') (hm' : m' < 1000000) (hnm' : c' ≤ nm')
    (hS : t = 3 → (∀ i, i < c → S i ≤ S (i + 1)) ∧ S c ≤ tn ∧ tn ≤ 20000) (hS' : t = 3 → (∀ i, i < c' → S' i ≤ S' (i + 1)) ∧ S' c' ≤ tn' ∧ tn' ≤ 20000)
    (hC : VsC t c num S T ofTexts count numbers starts texts) (hC' : VsC t c' num' S' T' ofTexts' count' numbers' starts' texts') :
    ∃ o, f_V_compare n nm m tn nm' m' tn' ofTexts numbers starts texts numbers' starts' texts' (nI i) (nI j) = some o ∧ sg o (cmpZ t num num' S S' T T' i j) := by
  unfold f_V_compare cmpZ
  rw [hC.1, ife0 (by split <;> omega)]
  by_cases c3 : t = 3
  · obtain ⟨s1, s2, s3⟩ := hS c3
    obtain ⟨s1', s2', s3'⟩ := hS' c3
    have b1 := S_mono s1 (i := i + 1) (j := c) (by omega) (by omega)
    have b2 := S_mono s1' (i := j + 1) (j := c') (by omega) (by omega)
    have b3 := s1 i hi
    have b4 := s1' j hj
    rw [if_neg (by rw [if_pos c3]; omega), V_inCommon hn c3 hi hcm hm s2 s3 s1 hj hcm' hm' s2' s3' s1' hC hC', obs, V_sizeOf c3 hi hcm (by omega) b3 hC, obs, V_sizeOf c3 hj hcm' (by omega) b4 hC', obs, if_pos c3]
    unfold cmpT
    have hle := comm_le (fun k => T (S i + k)) (fun k => T' (S' j + k)) (min (S (i + 1) - S i) (S' (j + 1) - S' j))
    have hle1 : min (S (i + 1) - S i) (S' (j + 1) - S' j) ≤ S (i + 1) - S i := Nat.min_le_left _ _
    have hle2 : min (S (i + 1) - S i) (S' (j + 1) - S' j) ≤ S' (j + 1) - S' j := Nat.min_le_right _ _
    have hj52 : ∃ o, f_V_compare_j52 m m' starts starts' (nI i) (nI j) = some o ∧ sg o (((S (i + 1) - S i : Nat) : Int) - ((S' (j + 1) - S' j : Nat) : Int)) := by
      unfold f_V_compare_j52
      rw [V_sizeOf c3 hi hcm (by omega) b3 hC, obs, V_sizeOf c3 hj hcm' (by omega) b4 hC', obs]
      obtain ⟨o, h1, h2⟩ := sg_JI (a := S (i + 1) - S i) (b := S' (j + 1) - S' j) (by omega) (by omega)
      rw [h1]; exact ⟨o, rfl, h2⟩
    have hmin : min (S (i + 1) - S i) (S' (j + 1) - S' j) = S (i + 1) - S i ∨ min (S (i + 1) - S i) (S' (j + 1) - S' j) = S' (j + 1) - S' j := by omega
    generalize comm (fun k => T (S i + k)) (fun k => T' (S' j + k)) (min (S (i + 1) - S i) (S' (j + 1) - S' j)) = K at hle
    rw [ife (by omega) (by omega), ife (by omega) (by omega)]
    by_cases k1 : K = S (i + 1) - S i
    · rw [if_pos k1, if_pos (by omega)]; exact hj52
    rw [if_neg k1]
    by_cases k2 : K = S' (j + 1) - S' j
    · rw [if_pos k2, if_pos (by omega)]; exact hj52
    rw [if_neg k2, if_neg (by omega), V_octetOf c3 hi hcm (by omega) s2 (by omega) (by omega) hC, obs, V_octetOf c3 hj hcm' (by omega) s2' (by omega) (by omega) hC', obs]
    obtain ⟨o, h1, h2⟩ := sg_JI (a := (T (S i + K)).toNat) (b := (T' (S' j + K)).toNat) (by have := u8_lt (T (S i + K)); omega) (by have := u8_lt (T' (S' j + K)); omega)
    rw [h1]; exact ⟨o, rfl, h2⟩
  · rw [if_pos (by rw [if_neg c3]), if_neg c3, gd_nI (by omega) (by omega), gd_nI (by omega) (by omega), qn_clamp (by omega), qn_clamp (by omega), hC.2.2.1 c3 i hi, hC'.2.2.1 c3 j hj]
    obtain ⟨o, h1, h2⟩ := sg_JL (num i) (num' j)
    rw [h1]; exact ⟨o, rfl, h2⟩
theorem V_compare_00_eq (n a b c : Nat) (ot : Int32) (nu : Nat → Int64) (st tx : Nat → Int32) (i j : Int32) : f_V_compare_00 n a b c ot nu st tx i j = f_V_compare n a b c a b c ot nu st tx nu st tx i j := rfl
/-- the first of the least or greatest among the first m -/
def mostA (z : Nat → Nat → Int) (g : Bool) : Nat → Nat
  | 0 => 0
  | k + 1 => if k = 0 then 0 else if g then (if z k (mostA z g k) ≤ 0 then mostA z g k else k) else (if 0 ≤ z k (mostA z g k) then mostA z g k else k)
theorem mostA_lt (z : Nat → Nat → Int) (g : Bool) (m : Nat) (h : 0 < m) : mostA z g m < m := by
  induction m with
  | zero => omega
  | succ m ih =>
    simp only [mostA]
    by_cases e : m = 0
    · rw [if_pos e]; omega
    · rw [if_neg e]
      have := ih (by omega)
      split <;> split <;> omega
def gB (v : Int32) : Bool := !decide (v = 0)
theorem V_firstMost {n t c : Nat} {num : Nat → Int64} {S : Nat → Nat} {T : Nat → UInt8} {ofTexts count : Int32} {numbers : Nat → Int64} {starts texts : Nat → Int32} {nm m tn : Nat} (v1 : Int32)
    (hn : 100000 < n) (hcm : c < m) (hm : m < 1000000) (hnm : c ≤ nm) (hc1 : c ≤ 1000)
    (hS : t = 3 → (∀ i, i < c → S i ≤ S (i + 1)) ∧ S c ≤ tn ∧ tn ≤ 20000)
    (hC : VsC t c num S T ofTexts count numbers starts texts) :
    f_V_firstMost n nm m tn ofTexts count numbers starts texts v1 = some (if c = 0 then -1 else nI (mostA (cmpZ t num num S S T T) (gB v1) c)) := by
  unfold f_V_firstMost
  rw [hC.2.1, ife0 (by omega)]
  by_cases c0 : c = 0
  · rw [if_pos c0, if_pos c0]
  rw [if_neg c0, if_neg c0]
  have main : ∃ e, lp (fun v => f_V_firstMost_l13 n nm m tn ofTexts (nI c) numbers starts texts v1 v.1 v.2) n ((0 : Int32), (1 : Int32)) = some e ∧ e = nI (mostA (cmpZ t num num S S T T) (gB v1) c) := by
    refine lp_inv (fun q w => ∃ k, k + q = c ∧ 0 < k ∧ w.2 = nI k ∧ w.1 = nI (mostA (cmpZ t num num S S T T) (gB v1) k)) _ ?_ (c - 1) n _ ⟨1, by omega, by omega, rfl, rfl⟩ (by omega)
    rintro q ⟨w1, w2⟩ ⟨k, g1, g2, g3, g4⟩
    simp only at g3 g4
    subst g3; subst g4
    show (∃ w', f_V_firstMost_l13 n nm m tn ofTexts (nI c) numbers starts texts v1 (nI _) (nI k) = _ ∧ _) ∨ (∃ x, f_V_firstMost_l13 n nm m tn ofTexts (nI c) numbers starts texts v1 (nI _) (nI k) = _ ∧ _)
    unfold f_V_firstMost_l13
    rw [ifle (by omega) (by omega)]
    by_cases ck : c ≤ k
    · have : k = c := by omega
      subst this
      exact Or.inr ⟨_, by rw [if_pos ck], rfl⟩
    · have hlt := mostA_lt (cmpZ t num num S S T T) (gB v1) k g2
      rw [if_neg ck, V_compare_00_eq]
      obtain ⟨o, h1, h2, h3⟩ := V_compare (i := k) (j := mostA (cmpZ t num num S S T T) (gB v1) k) hn (by omega) hcm hm hnm (by omega) hcm hm hnm hS hS hC hC
      rw [h1, obs]
      have hk0 : ¬ k = 0 := by omega
      by_cases cv : v1 = 0
      · have hg : gB v1 = false := by simp [gB, cv]
        rw [if_pos cv]
        by_cases co : 0 ≤ o
        · rw [if_pos co]
          refine Or.inl ⟨_, rfl, q - 1, by omega, k + 1, by omega, by omega, qn_add k 1, ?_⟩
          simp only [mostA]
          rw [if_neg hk0, hg, if_neg (by decide), if_pos (by rw [hg] at h2; exact h2.mp co)]
        · rw [if_neg co]
          refine Or.inl ⟨_, rfl, q - 1, by omega, k + 1, by omega, by omega, qn_add k 1, ?_⟩
          simp only [mostA]
          rw [if_neg hk0, hg, if_neg (by decide), if_neg (by rw [hg] at h2; exact fun x => co (h2.mpr x))]
      · have hg : gB v1 = true := by simp [gB, cv]
        rw [if_neg cv]
        by_cases co : o ≤ 0
        · rw [if_pos co]
          refine Or.inl ⟨_, rfl, q - 1, by omega, k + 1, by omega, by omega, qn_add k 1, ?_⟩
          simp only [mostA]
          rw [if_neg hk0, hg, if_pos rfl, if_pos (by rw [hg] at h3; exact h3.mp co)]
        · rw [if_neg co]
          refine Or.inl ⟨_, rfl, q - 1, by omega, k + 1, by omega, by omega, qn_add k 1, ?_⟩
          simp only [mostA]
          rw [if_neg hk0, hg, if_pos rfl, if_neg (by rw [hg] at h3; exact fun x => co (h3.mpr x))]
  obtain ⟨e, h1, h2⟩ := main
  rw [h1, obs, h2]
theorem sg_sub {a b : Nat} (ha : a < 1000000) (hb : b < 1000000) : sg (nI a - nI b) ((a : Int) - b) := by
  have h : (nI a - nI b).toInt = (a : Int) - b := by
    rw [Int32.toInt_sub, qn_toInt (by omega), qn_toInt (by omega), Int.bmod]
    omega
  have z0 : (0 : Int32).toInt = 0 := rfl
  constructor
  · rw [Int32.le_iff_toInt_le, h, z0]
  · rw [Int32.le_iff_toInt_le, h, z0]
theorem M_compare {n t c : Nat} {num : Nat → Int64} {S : Nat → Nat} {T : Nat → UInt8} {ty values : Int32} {wholes : Nat → Int64} {frm bytes : Nat → Int32} {nm m tn i j : Nat}
    (hn : 100000 < n) (hty : ty = nI t) (ht3 : t ≤ 3) (hi : i < c) (hcm : c < m) (hm : m < 1000000) (hnm : c ≤ nm) (hj : j < c)
    (hS : t = 3 → (∀ i, i < c → S i ≤ S (i + 1)) ∧ S c ≤ tn ∧ tn ≤ 20000)
    (hM : VsM t c num S T values wholes frm bytes) :
    ∃ o, f_M_compare n tn m nm ty bytes frm wholes (nI i) (nI j) = some o ∧ sg o (cmpZ t num num S S T T i j) := by
  unfold f_M_compare cmpZ
  have I3 : (3 : Int32) = nI 3 := rfl
  rw [hty, I3, ife (by omega) (by omega)]
  have hM' := hM
  obtain ⟨g4, g5, g6, g7⟩ := hM
  by_cases c3 : t = 3
  · obtain ⟨s1, s2, s3⟩ := hS c3
    have b1 := S_mono s1 (i := i + 1) (j := c) (by omega) (by omega)
    have b2 := S_mono s1 (i := j + 1) (j := c) (by omega) (by omega)
    have b3 := s1 i hi
    have b4 := s1 j hj
    rw [if_pos c3, if_pos c3]
    unfold cmpT
    have hle1 : min (S (i + 1) - S i) (S (j + 1) - S j) ≤ S (i + 1) - S i := Nat.min_le_left _ _
    have hle2 : min (S (i + 1) - S i) (S (j + 1) - S j) ≤ S (j + 1) - S j := Nat.min_le_right _ _
    have hmin : min (S (i + 1) - S i) (S (j + 1) - S j) = S (i + 1) - S i ∨ min (S (i + 1) - S i) (S (j + 1) - S j) = S (j + 1) - S j := by omega
    generalize hMM : min (S (i + 1) - S i) (S (j + 1) - S j) = M at hle1 hle2 hmin
    have main : ∃ e, lp (fun v => f_M_compare_l52 tn m bytes frm (nI i) (nI j) v) n (0 : Int32) = some e ∧ ((comm (fun k => T (S i + k)) (fun k => T (S j + k)) M = M ∧ ∃ x, e = Sum.inr x) ∨ (comm (fun k => T (S i + k)) (fun k => T (S j + k)) M < M ∧ e = Sum.inl (nI (comm (fun k => T (S i + k)) (fun k => T (S j + k)) M)))) := by
      refine lp_inv (fun q w => ∃ k, k + q = M ∧ w = nI k ∧ ∀ x, x < k → T (S i + x) = T (S j + x)) _ ?_ M n _ ⟨0, by omega, rfl, fun x h => by omega⟩ (by omega)
      rintro q w ⟨k, q1, q2, q3⟩
      subst q2
      unfold f_M_compare_l52
      rw [M_lengthOf c3 hi hcm (by omega) b3 hM', obs, M_lengthOf c3 hj hcm (by omega) b4 hM', ifle (by omega) (by omega)]
      by_cases k1 : S (i + 1) - S i ≤ k
      · rw [if_pos k1]
        have : k = M := by omega
        subst this
        exact Or.inr ⟨_, rfl, Or.inl ⟨(comm_uniq (Nat.le_refl k) q3 (fun h => by omega)).symm, _, rfl⟩⟩
      rw [if_neg k1, obs, ifle (by omega) (by omega)]
      by_cases k2 : S (j + 1) - S j ≤ k
      · rw [if_pos k2]
        have : k = M := by omega
        subst this
        exact Or.inr ⟨_, rfl, Or.inl ⟨(comm_uniq (Nat.le_refl k) q3 (fun h => by omega)).symm, _, rfl⟩⟩
      rw [if_neg k2, gd_nI (by omega) (by omega), qn_clamp (by omega), (g7 c3).1 i (by omega), qn_add, gd_nI (by omega) (by omega), gd_nI (by omega) (by omega), qn_clamp (show j < 2147483648 by omega), (g7 c3).1 j (by omega), qn_add, gd_nI (by omega) (by omega), qn_clamp (by omega), qn_clamp (by omega), (g7 c3).2 _ (by omega), (g7 c3).2 _ (by omega)]
      by_cases c2 : T (S i + k) = T (S j + k)
      · rw [if_pos (um_inj.mpr c2)]
        refine Or.inl ⟨_, rfl, q - 1, by omega, k + 1, by omega, qn_add k 1, ?_⟩
        intro x hx
        by_cases ex : x = k
        · subst ex; exact c2
        · exact q3 x (by omega)
      · rw [if_neg (fun h => c2 (um_inj.mp h))]
        have hk := comm_uniq (f := fun k => T (S i + k)) (g := fun k => T (S j + k)) (show k ≤ M by omega) q3 (fun _ => c2)
        exact Or.inr ⟨_, rfl, Or.inr ⟨by omega, by rw [← hk]⟩⟩
    obtain ⟨e, h1, h2⟩ := main
    rw [h1, obs]
    rcases h2 with ⟨h2, x, rfl⟩ | ⟨h2, rfl⟩
    · rw [if_pos h2]
      show ∃ o, f_M_compare_j133 m frm (nI i) (nI j) = some o ∧ _
      unfold f_M_compare_j133
      rw [M_lengthOf c3 hi hcm (by omega) b3 hM', obs, M_lengthOf c3 hj hcm (by omega) b4 hM', obs]
      exact ⟨_, rfl, sg_sub (by omega) (by omega)⟩
    · rw [if_neg (by omega)]
      generalize comm (fun k => T (S i + k)) (fun k => T (S j + k)) M = K at h2
      show ∃ o, f_M_compare_j99 tn m bytes frm (nI i) (nI j) (nI K) = some o ∧ _
      unfold f_M_compare_j99
      rw [gd_nI (by omega) (by omega), qn_clamp (by omega), (g7 c3).1 i (by omega), qn_add, gd_nI (by omega) (by omega), gd_nI (by omega) (by omega), qn_clamp (show j < 2147483648 by omega), (g7 c3).1 j (by omega), qn_add, gd_nI (by omega) (by omega), qn_clamp (by omega), qn_clamp (by omega), (g7 c3).2 _ (by omega), (g7 c3).2 _ (by omega), um_nI, um_nI]
      exact ⟨_, rfl, sg_sub (by have := u8_lt (T (S i + K)); omega) (by have := u8_lt (T (S j + K)); omega)⟩
  · rw [if_neg c3, if_neg c3, gd_nI (by omega) (by omega), gd_nI (by omega) (by omega), gd_nI (by omega) (by omega), gd_nI (by omega) (by omega), qn_clamp (by omega), qn_clamp (by omega), g5 c3 i hi, g5 c3 j hj]
    by_cases a1 : num j ≤ num i
    · rw [if_pos a1]
      rw [Int64.le_iff_toInt_le] at a1
      by_cases a2 : num i ≤ num j
      · rw [if_pos a2]
        rw [Int64.le_iff_toInt_le] at a2
        exact ⟨0, rfl, ⟨fun _ => by omega, fun _ => by decide⟩, ⟨fun _ => by omega, fun _ => by decide⟩⟩
      · rw [if_neg a2]
        rw [Int64.le_iff_toInt_le] at a2
        exact ⟨1, rfl, ⟨fun _ => by omega, fun _ => by decide⟩, ⟨fun h => absurd h (by decide), fun h => by omega⟩⟩
    · rw [if_neg a1]
      rw [Int64.le_iff_toInt_le] at a1
      exact ⟨-1, rfl, ⟨fun h => absurd h (by decide), fun h => by omega⟩, ⟨fun _ => by omega, fun _ => by decide⟩⟩
theorem M_mostOf {n t c : Nat} {num : Nat → Int64} {S : Nat → Nat} {T : Nat → UInt8} {ty values : Int32} {wholes : Nat → Int64} {frm bytes : Nat → Int32} {nm m tn : Nat} (v1 : Int32)
    (hn : 100000 < n) (hty : ty = nI t) (ht3 : t ≤ 3) (hcm : c < m) (hm : m < 1000000) (hnm : c ≤ nm) (hc1 : c ≤ 1000)
    (hS : t = 3 → (∀ i, i < c → S i ≤ S (i + 1)) ∧ S c ≤ tn ∧ tn ≤ 20000)
    (hM : VsM t c num S T values wholes frm bytes) :
    f_M_mostOf n tn m nm ty values bytes frm wholes v1 = some (if c = 0 then -1 else nI (mostA (cmpZ t num num S S T T) (gB v1) c)) := by
  unfold f_M_mostOf
  rw [hM.1, ife0 (by omega)]
  by_cases c0 : c = 0
  · rw [if_pos c0, if_pos c0]
    unfold f_M_mostOf_j12
    obtain ⟨q, rfl⟩ : ∃ q, n = q + 1 := ⟨n - 1, by omega⟩
    subst c0
    simp only [lp]
    have : f_M_mostOf_l15 (q + 1) tn m nm ty (nI 0) bytes frm wholes v1 (-1) 1 = some (Sum.inr (-1)) := by
      unfold f_M_mostOf_l15; rw [if_pos (by decide)]
    rw [this]; rfl
  rw [if_neg c0, if_neg c0]
  unfold f_M_mostOf_j12
  have main : ∃ e, lp (fun v => f_M_mostOf_l15 n tn m nm ty (nI c) bytes frm wholes v1 v.1 v.2) n ((0 : Int32), (1 : Int32)) = some e ∧ e = nI (mostA (cmpZ t num num S S T T) (gB v1) c) := by
    refine lp_inv (fun q w => ∃ k, k + q = c ∧ 0 < k ∧ w.2 = nI k ∧ w.1 = nI (mostA (cmpZ t num num S S T T) (gB v1) k)) _ ?_ (c - 1) n _ ⟨1, by omega, by omega, rfl, rfl⟩ (by omega)
    rintro q ⟨w1, w2⟩ ⟨k, g1, g2, g3, g4⟩
    simp only at g3 g4
    subst g3; subst g4
    show (∃ w', f_M_mostOf_l15 n tn m nm ty (nI c) bytes frm wholes v1 (nI _) (nI k) = _ ∧ _) ∨ (∃ x, f_M_mostOf_l15 n tn m nm ty (nI c) bytes frm wholes v1 (nI _) (nI k) = _ ∧ _)
    unfold f_M_mostOf_l15
    rw [ifle (by omega) (by omega)]
    by_cases ck : c ≤ k
    · have : k = c := by omega
      subst this
      exact Or.inr ⟨_, by rw [if_pos ck], rfl⟩
    · have hlt := mostA_lt (cmpZ t num num S S T T) (gB v1) k g2
      rw [if_neg ck]
      obtain ⟨o, h1, h2, h3⟩ := M_compare (i := k) (j := mostA (cmpZ t num num S S T T) (gB v1) k) hn hty ht3 (by omega) hcm hm hnm (by omega) hS hM
      rw [h1, obs]
      have hk0 : ¬ k = 0 := by omega
      by_cases cv : v1 = 0
      · have hg : gB v1 = false := by simp [gB, cv]
        rw [if_pos cv]
        by_cases co : 0 ≤ o
        · rw [if_pos co]
          refine Or.inl ⟨_, rfl, q - 1, by omega, k + 1, by omega, by omega, qn_add k 1, ?_⟩
          simp only [mostA]
          rw [if_neg hk0, hg, if_neg (by decide), if_pos (by rw [hg] at h2; exact h2.mp co)]
        · rw [if_neg co]
          refine Or.inl ⟨_, rfl, q - 1, by omega, k + 1, by omega, by omega, qn_add k 1, ?_⟩
          simp only [mostA]
          rw [if_neg hk0, hg, if_neg (by decide), if_neg (by rw [hg] at h2; exact fun x => co (h2.mpr x))]
      · have hg : gB v1 = true := by simp [gB, cv]
        rw [if_neg cv]
        by_cases co : o ≤ 0
        · rw [if_pos co]
          refine Or.inl ⟨_, rfl, q - 1, by omega, k + 1, by omega, by omega, qn_add k 1, ?_⟩
          simp only [mostA]
          rw [if_neg hk0, hg, if_pos rfl, if_pos (by rw [hg] at h3; exact h3.mp co)]
        · rw [if_neg co]
          refine Or.inl ⟨_, rfl, q - 1, by omega, k + 1, by omega, by omega, qn_add k 1, ?_⟩
          simp only [mostA]
          rw [if_neg hk0, hg, if_pos rfl, if_neg (by rw [hg] at h3; exact fun x => co (h3.mpr x))]
  obtain ⟨e, h1, h2⟩ := main
  rw [h1, obs, h2]
theorem s_most (n : Nat) (hn : 100000 < n) : H_most QSim n := by
  intro x_lastCoding x_lastBody x_column_type x_column_mostR x_column_mostD x_input_size x_input_row x_output_size x_output_row x_page_entries x_page_valued x_page_definitions x_page_repetitions x_page_valueNumbers x_page_values_ofTexts x_page_values_count x_page_values_numbers x_page_values_starts x_page_values_texts x_reader_entries x_reader_count x_reader_bodyTold x_reader_check x_reader_coding x_reader_bodySize x_reader_commons x_reader_dictionary_ofTexts x_reader_dictionary_count x_reader_dictionary_numbers x_reader_dictionary_starts x_reader_dictionary_texts x_reader_numbers x_reader_source_at x_reader_source_to x_reader_source_fault x_reader_source_widths x_reader_told_ofTexts x_reader_told_count x_reader_told_numbers x_reader_told_starts x_reader_told_texts x_spare_entries x_spare_valued x_spare_definitions x_spare_repetitions x_spare_valueNumbers x_spare_values_ofTexts x_spare_values_count x_spare_values_numbers x_spare_values_starts x_spare_values_texts x_tape_size x_tape_row x_writer_entries x_writer_levelBytes x_writer_body_size x_writer_body_row x_writer_commons x_writer_dictionary_count x_writer_dictionary_firsts x_writer_dictionary_slots x_writer_numbers x_writer_piece_size x_writer_piece_row m_code m_type m_mostR m_mostD m_entries m_values m_coding m_bodySize m_newCount m_words m_taped m_inputSize m_outSize m_at m_stop m_fault m_longCount m_body m_bytes m_common m_definitions m_from m_input m_longs m_more m_newBytes m_newDefinitions m_newFrom m_newRepetitions m_newWholes m_numbers m_out m_repetitions m_tape m_told2 m_toldBytes m_toldSize m_wholes m_wordBytes m_wordFrom m_words8 v1 hs
  have hs' := hs
  obtain ⟨t, r, d, nn, c, rp, df, num, S, T, ⟨ht3, hrd, hd16⟩, hV, hCx, hCm, hPC, hPM, hTp, hIn, hOu, hlc, hlb, hz⟩ := hs
  have hc := PgV_c hV
  have hS := PgV_S hV
  have h1 := V_firstMost (nm := 1000) (m := 1001) (tn := 20000) v1 hn (by omega) (by omega) (by omega) (by omega) (fun h => ⟨(hS h).1, (hS h).2, by omega⟩) hPC.2.2.2
  have h2 := M_mostOf (nm := 1000) (m := 1001) (tn := 20000) v1 hn hCm.1 ht3 (by omega) (by omega) (by omega) (by omega) (fun h => ⟨(hS h).1, (hS h).2, by omega⟩) hPM.2.2
  refine ⟨if c = 0 then -1 else nI (mostA (cmpZ t num num S S T T) (gB v1) c), (if c = 0 then -1 else nI (mostA (cmpZ t num num S S T T) (gB v1) c), 0), ?_, ?_, rfl, hs'⟩
  · unfold f_F_most; rw [h1]; rfl
  · unfold f_M_most; rw [h2]; rfl
