def pOct (I : List UInt8) (e a : Nat) : Nat ⊕ (Nat × Nat) := if e ≤ a then .inl 1 else .inr (a + 1, (I.getD a 0).toNat)
theorem pFix_oct (I : List UInt8) (e a : Nat) : pFix I e a 1 = pOct I e a := by
  unfold pFix pOct
  have h := bval_byte I a 0
  have h0 : bval I (8 * (a + 1)) 0 = 0 := rfl
  rw [h0, Nat.zero_shiftLeft, Nat.zero_or] at h
  by_cases c : e ≤ a
  · rw [if_pos c, if_pos (by omega)]
  · rw [if_neg c, if_neg (by omega)]
    exact congrArg (fun z => Sum.inr (a + 1, z)) h
def pDictG {δ ρ : Type} (I : List UInt8) (e a c : Nat) (pl : Nat → Nat → Nat ⊕ (Nat × δ)) (pick : Nat → δ → (Nat → Nat) → Nat ⊕ ρ) : Nat ⊕ ρ :=
  match pVar I e a with
  | .inl x => .inl x
  | .inr (a1, d) => if c < d then .inl 4 else
    match pl d a1 with
    | .inl x => .inl x
    | .inr (a2, D) =>
      match pOct I e a2 with
      | .inl x => .inl x
      | .inr (a3, w) => if 32 < w then .inl 5 else
        match pRunsE I e c w a3 with
        | .inl x => .inl x
        | .inr g => pick d D g
theorem R_dict_gen {δ ρ : Type} {n cap e a c t : Nat} {I : List UInt8} {row : Nat → Int32} {pl : Nat → Nat → Nat ⊕ (Nat × δ)} {pick : Nat → δ → (Nat → Nat) → Nat ⊕ ρ}
    {dOf dCnt ofTexts count : Int32} {dNum nums numbers : Nat → Int64} {dSt dTx starts texts : Nat → Int32} (QD : Nat → δ → Int32 × Int32 × Int32 × (Nat → Int64) × (Nat → Int32) × (Nat → Int32) → Prop) (QR : ρ → Int32 → (Nat → Int64) → (Nat → Int32) → (Nat → Int32) → Prop)
    (hn : 100000 < n) (hcap : cap < 100000) (hI : I.length ≤ cap) (he : e ≤ I.length) (ha : a ≤ e) (hc : c ≤ 1000) (ht : t ≤ 3) (h : HC I row) (hd0 : dSt 0 = nI 0) (hs0 : starts 0 = nI 0)
    (hPl : ∀ d a1, d ≤ c → a1 ≤ e → ∃ o, f_R_takePlain n cap 1000 1001 20000 (nI t) (nI a1) (nI e) 0 row 0 dNum dSt dTx (nI d) = some o ∧ o.2.2.2.2.1 0 = nI 0 ∧ ((∃ x, pl d a1 = .inl x ∧ o.2.1 = nI x ∧ ¬ nI x = 0) ∨ (∃ a' D, pl d a1 = .inr (a', D) ∧ a' ≤ e ∧ o.1 = nI a' ∧ o.2.1 = 0 ∧ QD d D o)))
    (hPick : ∀ d D g o61 nums' at' of', d ≤ c → QD d D o61 → (∀ j, j < c → nums' j = ql64 (g j) ∧ g j < 4294967296) → ∃ ol, lp (fun v => f_R_takeByDictionary_l131 1000 1001 20000 2000 1000 1001 20000 (nI c) of' o61.2.2.1 o61.2.2.2.1 o61.2.2.2.2.1 o61.2.2.2.2.2 nums' at' ofTexts (ql64 d) v.1 v.2.1 v.2.2.1 v.2.2.2.1 v.2.2.2.2.1 v.2.2.2.2.2) n ((0 : Int32), count, numbers, starts, texts, (0 : Int32)) = some ol ∧ ol.2.2.2.1 = o61.2.2.2.2.1 ∧ ol.2.2.2.2.2.2.1 = at' ∧ ol.2.2.2.2.2.2.2.2.2.2.1 0 = nI 0 ∧ ((∃ x, pick d D g = .inl x ∧ ol.2.2.2.2.2.2.2.1 = nI x ∧ ¬ nI x = 0) ∨ (∃ r, pick d D g = .inr r ∧ ol.2.2.2.2.2.2.2.1 = 0 ∧ QR r ol.2.2.2.2.2.2.2.2.1 ol.2.2.2.2.2.2.2.2.2.1 ol.2.2.2.2.2.2.2.2.2.2.1 ol.2.2.2.2.2.2.2.2.2.2.2))) :
    ∃ o, f_R_takeByDictionary n 1000 1001 20000 2000 cap 1000 1001 20000 (nI c) (nI t) dOf dCnt dNum dSt dTx nums (nI a) (nI e) 0 row ofTexts count numbers starts texts = some o ∧ o.2.2.2.1 0 = nI 0 ∧ o.2.2.2.2.2.2.2.2.2.2.1 0 = nI 0 ∧
      ((∃ x, pDictG I e a c pl pick = .inl x ∧ o.2.2.2.2.2.2.2.1 = nI x ∧ ¬ nI x = 0) ∨ (∃ r, pDictG I e a c pl pick = .inr r ∧ o.2.2.2.2.2.2.1 = nI e ∧ o.2.2.2.2.2.2.2.1 = 0 ∧ QR r o.2.2.2.2.2.2.2.2.1 o.2.2.2.2.2.2.2.2.2.1 o.2.2.2.2.2.2.2.2.2.2.1 o.2.2.2.2.2.2.2.2.2.2.2)) := by
  unfold f_R_takeByDictionary f_R_takeByDictionary_j24 pDictG
  obtain ⟨o, p1, p2⟩ := S_varint (n := n) (cap := cap) (e := e) (a := a) (I := I) (row := row) (by omega) hcap hI he ha h
  rw [p1, obs]
  cases hp : pVar I e a with
  | inl x =>
    rw [hp] at p2
    obtain ⟨q1, q2, q3⟩ := p2
    have hF : ¬ o.2.2 = 0 := by rw [q2]; exact q3
    rw [S_failF _ hF, obs, ite_self, ite_self]
    unfold f_R_takeByDictionary_j32
    rw [if_neg hF]
    exact ⟨_, rfl, hd0, hs0, Or.inl ⟨x, rfl, q2, q3⟩⟩
  | inr ad =>
    obtain ⟨a1, d⟩ := ad
    rw [hp] at p2
    obtain ⟨q1, q2, q3⟩ := p2
    obtain ⟨v1, v2, v3⟩ := pVar_a hp
    rw [q1, q2, q3, S_fail0, obs, lI64 (by omega), lrange v3 (by omega)]
    simp only
    unfold f_R_takeByDictionary_j32
    by_cases c4 : c < d
    · rw [if_pos c4, if_pos c4, if_neg (show ¬ (4 : Int32) = 0 by decide)]
      exact ⟨_, rfl, hd0, hs0, Or.inl ⟨4, rfl, rfl, by decide⟩⟩
    · have i3 : (3 : Int32) = nI 3 := rfl
      have hsel : ∀ {α : Type} (F : Int32 → Option α), (if nI t = (3 : Int32) then F 1 else F 0) = F (nI (if t = 3 then 1 else 0)) := by
        intro α F
        rw [i3, ife (by omega) (by omega)]
        split <;> rfl
      rw [if_neg c4, if_neg c4, if_pos rfl, hsel (fun z => f_R_takeByDictionary_j63 n 1000 1001 20000 2000 cap 1000 1001 20000 (nI c) (nI t) dNum dSt dTx nums (nI a1) (nI e) 0 row ofTexts count numbers starts texts (ql64 d) z)]
      unfold f_R_takeByDictionary_j63
      have hmk : f_V_makeEmpty (nI (if t = 3 then 1 else 0)) = some (nI (if t = 3 then 1 else 0), 0) := by
        split <;> rfl
      have ed : (ql64 d).toInt32 = nI d := l64_i32 (by omega)
      obtain ⟨op, y1, y2, y3⟩ := hPl d a1 (by omega) v2
      rw [hmk, obs, ed, y1, obs]
      rcases y3 with ⟨x, z1, z2, z3⟩ | ⟨a2, D, z1, z2, z3, z4, z5⟩
      · have hF : ¬ op.2.1 = 0 := by rw [z2]; exact z3
        rw [S_octetF hF, obs, if_pos (show (0 : Int32) ≤ 32 by decide)]
        unfold f_R_takeByDictionary_j100
        rw [if_neg hF, z1]
        exact ⟨_, rfl, y2, hs0, Or.inl ⟨x, rfl, z2, z3⟩⟩
      · rw [z3, z4, z1]
        simp only
        unfold pOct
        by_cases ce : e ≤ a2
        · rw [if_pos ce, S_octet1 (by omega) (by omega), obs, if_pos (show (0 : Int32) ≤ 32 by decide)]
          unfold f_R_takeByDictionary_j100
          rw [if_neg (show ¬ (1 : Int32) = 0 by decide)]
          exact ⟨_, rfl, y2, hs0, Or.inl ⟨1, rfl, rfl, by decide⟩⟩
        · have hB := u8_lt (I.getD a2 0)
          have i32 : (32 : Int32) = nI 32 := rfl
          rw [if_neg ce, S_octet0 hcap hI he (by omega) h, obs, i32, ifle (by omega) (by omega), S_fail0, obs]
          simp only
          unfold f_R_takeByDictionary_j100
          by_cases cw : 32 < (I.getD a2 0).toNat
          · rw [if_pos cw, if_neg (by omega), if_neg (show ¬ (5 : Int32) = 0 by decide)]
            exact ⟨_, rfl, y2, hs0, Or.inl ⟨5, rfl, rfl, by decide⟩⟩
          · rw [if_neg cw, if_pos (by omega), if_pos rfl]
            obtain ⟨orn, r1, r2⟩ := S_runs (n := n) (cap := cap) (pn := 2000) (e := e) (a := a2 + 1) (m := c) (w := (I.getD a2 0).toNat) (I := I) (row := row) (p1 := nums) hn hcap hI he (by omega) (by omega) hc rfl h
            rw [r1, obs]
            rcases r2 with ⟨x, s1, s2, s3⟩ | ⟨g, s1, s2, s3, s4⟩
            · have hF : ¬ orn.2.1 = 0 := by rw [s2]; exact s3
              obtain ⟨y, rfl⟩ : ∃ y, n = y + 1 := ⟨n - 1, by omega⟩
              have hl : f_R_takeByDictionary_l131 1000 1001 20000 2000 1000 1001 20000 (nI c) (nI (if t = 3 then 1 else 0)) op.2.2.1 op.2.2.2.1 op.2.2.2.2.1 op.2.2.2.2.2 orn.2.2 orn.1 ofTexts (ql64 d) orn.2.1 count numbers starts texts 0 = some (Sum.inr (nI (if t = 3 then 1 else 0), op.2.2.1, op.2.2.2.1, op.2.2.2.2.1, op.2.2.2.2.2, orn.2.2, orn.1, orn.2.1, count, numbers, starts, texts)) := by
                unfold f_R_takeByDictionary_l131
                rw [if_neg hF, ite_self]
              simp only [lp, hl, obs]
              rw [s1]
              exact ⟨_, rfl, y2, hs0, Or.inl ⟨x, rfl, s2, s3⟩⟩
            · have hp32 : 2 ^ (I.getD a2 0).toNat ≤ 2 ^ 32 := Nat.pow_le_pow_right (by omega) (by omega)
              obtain ⟨ol, u1, u2, u3, u4, u5⟩ := hPick d D g op orn.2.2 (nI e) (nI (if t = 3 then 1 else 0)) (by omega) z5 (fun j hj => ⟨(s4 j hj).1, by have := (s4 j hj).2; omega⟩)
              rw [s2, s3, u1, obs, s1]
              refine ⟨_, rfl, by rw [u2]; exact y2, u4, ?_⟩
              rcases u5 with ⟨x, w1, w2, w3⟩ | ⟨r, w1, w2, w3⟩
              · exact Or.inl ⟨x, w1, w2, w3⟩
              · exact Or.inr ⟨r, w1, u3, w2, w3⟩
/-- the numbers of a page by dictionary -/
def pkN (c : Nat) : Nat → (Nat → Int64) → (Nat → Nat) → Nat ⊕ (Nat → Int64) := fun d f g => if (∀ i, i < c → g i < d) then .inr (fun i => f (g i)) else .inl 7
theorem R_pickN {n c d t : Nat} {g : Nat → Nat} {f : Nat → Int64} {of' dc at' ofTexts count : Int32} {dNum nums numbers : Nat → Int64} {dSt dTx starts texts : Nat → Int32} {S : Nat → Nat} {T : Nat → UInt8} {num : Nat → Int64}
    (hn : 100000 < n) (hc : c ≤ 1000) (hd : d ≤ c) (ht : t ≠ 3) (hD : ∀ i, i < d → dNum i = f i) (hg : ∀ j, j < c → nums j = ql64 (g j) ∧ g j < 4294967296) (hC : VsC t 0 num S T ofTexts count numbers starts texts) :
    ∃ ol, lp (fun v => f_R_takeByDictionary_l131 1000 1001 20000 2000 1000 1001 20000 (nI c) of' dc dNum dSt dTx nums at' ofTexts (ql64 d) v.1 v.2.1 v.2.2.1 v.2.2.2.1 v.2.2.2.2.1 v.2.2.2.2.2) n ((0 : Int32), count, numbers, starts, texts, (0 : Int32)) = some ol ∧ ol.2.2.2.1 = dSt ∧ ol.2.2.2.2.2.2.1 = at' ∧ ol.2.2.2.2.2.2.2.2.2.2.1 0 = nI 0 ∧ ((∃ x, pkN c d f g = .inl x ∧ ol.2.2.2.2.2.2.2.1 = nI x ∧ ¬ nI x = 0) ∨ (∃ r, pkN c d f g = .inr r ∧ ol.2.2.2.2.2.2.2.1 = 0 ∧ VsC t c r S T ofTexts ol.2.2.2.2.2.2.2.2.1 ol.2.2.2.2.2.2.2.2.2.1 ol.2.2.2.2.2.2.2.2.2.2.1 ol.2.2.2.2.2.2.2.2.2.2.2)) := by
  refine lp_inv (fun q u => u.2.2.2.1 = starts ∧ u.2.2.2.2.1 = texts ∧ ∃ i, i + q = c + 1 ∧ ((i ≤ c ∧ u.1 = 0 ∧ u.2.2.2.2.2 = nI i ∧ (∀ j, j < i → g j < d) ∧ VsC t i (fun i => f (g i)) S T ofTexts u.2.1 u.2.2.1 u.2.2.2.1 u.2.2.2.2.1) ∨ (u.1 = 7 ∧ ¬ ∀ i, i < c → g i < d))) _ ?_ (c + 1) n _ ⟨rfl, rfl, 0, by omega, Or.inl ⟨by omega, rfl, rfl, fun j hj => absurd hj (by omega), hC.1, hC.2.1, fun _ j hj => absurd hj (by omega), hC.2.2.2.1, fun h3 => absurd h3 ht⟩⟩ (by omega)
  rintro q ⟨fa, cnt, nu, st', tx', i'⟩ ⟨gs, gt, i, g1, (⟨g2, g3, g4, g5, g6⟩ | ⟨g2, g3⟩)⟩
  · simp only at gs gt g3 g4 g6
    subst g3; subst g4; subst gs; subst gt
    show (∃ w', f_R_takeByDictionary_l131 1000 1001 20000 2000 1000 1001 20000 (nI c) of' dc dNum dSt dTx nums at' ofTexts (ql64 d) 0 cnt nu st' tx' (nI i) = _ ∧ _) ∨ (∃ y, f_R_takeByDictionary_l131 1000 1001 20000 2000 1000 1001 20000 (nI c) of' dc dNum dSt dTx nums at' ofTexts (ql64 d) 0 cnt nu st' tx' (nI i) = _ ∧ _)
    unfold f_R_takeByDictionary_l131
    rw [ifle (by omega) (by omega)]
    by_cases ci : c ≤ i
    · have : i = c := by omega
      subst this
      rw [if_pos ci]
      refine Or.inr ⟨_, rfl, rfl, rfl, g6.2.2.2.1, Or.inr ⟨_, ?_, rfl, g6⟩⟩
      unfold pkN
      rw [if_pos g5]
    · have e1 : nI i + 1 = nI (i + 1) := qn_add i 1
      have g0 : ∀ {α : Type} {t : Option α}, gd (inB (nI i) 2000) t = t := fun {α t} => gd_nI (by omega) (by omega)
      obtain ⟨n1, n2⟩ := hg i (by omega)
      unfold f_R_takeByDictionary_j181
      rw [if_neg ci, if_pos rfl, g0, g0, qn_clamp (by omega), n1, qifc (show (ql64 d ≤ ql64 (g i)) ↔ d ≤ g i from by rw [l64_le (by omega) (by omega)]), S_fail0, obs, bnd_eq, e1]
      by_cases cd : d ≤ g i
      · rw [if_pos cd]
        exact Or.inl ⟨_, rfl, q - 1, by omega, rfl, rfl, i + 1, by omega, Or.inr ⟨rfl, fun hx => by have := hx i (by omega); omega⟩⟩
      · obtain ⟨c1, c2, c3, c4, c5⟩ := g6
        have eg : (ql64 (g i)).toInt32 = nI (g i) := l64_i32 (by omega)
        have hadd : f_V_addFrom 1000 1001 20000 1000 1001 20000 ofTexts cnt nu st' tx' dNum dSt dTx (nI (g i)) = some (1, nI (i + 1), vp_updL nu i (f (g i)), st', tx') := by
          unfold f_V_addFrom
          rw [c1, if_neg ht, if_pos (show nI 0 = 0 from rfl), gd_nI (by omega) (by omega), qn_clamp (by omega), hD _ (by omega), c2, V_addNumber _ (by omega) (by omega), obs]
          rfl
        rw [if_neg cd, eg, hadd, obs, if_neg (show ¬ (1 : Int32) = 0 by decide), bnd_eq]
        refine Or.inl ⟨_, rfl, q - 1, by omega, rfl, rfl, i + 1, by omega, Or.inl ⟨by omega, rfl, rfl, ?_, c1, rfl, ?_, c4, fun h3 => absurd h3 ht⟩⟩
        · intro j hj
          by_cases ej : j = i
          · subst ej; omega
          · exact g5 j (by omega)
        · intro h3 j hj
          show vp_updL nu i (f (g i)) j = f (g j)
          unfold vp_updL
          by_cases ej : j = i
          · rw [if_pos ej, ej]
          · rw [if_neg ej]; exact c3 h3 j (by omega)
  · simp only at gs gt g2
    subst g2; subst gs; subst gt
    show (∃ w', f_R_takeByDictionary_l131 1000 1001 20000 2000 1000 1001 20000 (nI c) of' dc dNum dSt dTx nums at' ofTexts (ql64 d) 7 cnt nu st' tx' i' = _ ∧ _) ∨ (∃ y, f_R_takeByDictionary_l131 1000 1001 20000 2000 1000 1001 20000 (nI c) of' dc dNum dSt dTx nums at' ofTexts (ql64 d) 7 cnt nu st' tx' i' = _ ∧ _)
    unfold f_R_takeByDictionary_l131
    rw [if_neg (show ¬ (7 : Int32) = 0 by decide), ite_self]
    refine Or.inr ⟨_, rfl, rfl, rfl, hC.2.2.2.1, Or.inl ⟨7, ?_, rfl, by decide⟩⟩
    unfold pkN
    rw [if_neg g3]
def pWords (I : List UInt8) (e a c t : Nat) : Nat ⊕ (Nat → Int64) := pDictG I e a c (fun d a1 => pNumsG I e t d 0 a1 (fun _ => 0)) (pkN c)
theorem R_dictN {n cap e a c t : Nat} {I : List UInt8} {row : Nat → Int32} {dOf dCnt ofTexts count : Int32} {dNum nums numbers num : Nat → Int64} {dSt dTx starts texts : Nat → Int32} {S : Nat → Nat} {T : Nat → UInt8}
    (hn : 100000 < n) (hcap : cap < 100000) (hI : I.length ≤ cap) (he : e ≤ I.length) (ha : a ≤ e) (hc : c ≤ 1000) (ht : t = 1 ∨ t = 2) (h : HC I row) (hd0 : dSt 0 = nI 0) (hC : VsC t 0 num S T ofTexts count numbers starts texts) :
    ∃ o, f_R_takeByDictionary n 1000 1001 20000 2000 cap 1000 1001 20000 (nI c) (nI t) dOf dCnt dNum dSt dTx nums (nI a) (nI e) 0 row ofTexts count numbers starts texts = some o ∧ o.2.2.2.1 0 = nI 0 ∧ o.2.2.2.2.2.2.2.2.2.2.1 0 = nI 0 ∧
      ((∃ x, pWords I e a c t = .inl x ∧ o.2.2.2.2.2.2.2.1 = nI x ∧ ¬ nI x = 0) ∨ (∃ r, pWords I e a c t = .inr r ∧ o.2.2.2.2.2.2.1 = nI e ∧ o.2.2.2.2.2.2.2.1 = 0 ∧ VsC t c r S T ofTexts o.2.2.2.2.2.2.2.2.1 o.2.2.2.2.2.2.2.2.2.1 o.2.2.2.2.2.2.2.2.2.2.1 o.2.2.2.2.2.2.2.2.2.2.2)) := by
  refine R_dict_gen (fun d f o => VsC t d f S T (nI 0) o.2.2.1 o.2.2.2.1 o.2.2.2.2.1 o.2.2.2.2.2) (fun r cnt nu st tx => VsC t c r S T ofTexts cnt nu st tx) hn hcap hI he ha hc (by omega) h hd0 hC.2.2.2.1 ?_ ?_
  · intro d a1 hd ha1
    exact R_plainN (num := fun _ => 0) (ofTexts := nI 0) hn hcap hI he ha1 (by omega) ht ⟨by rw [if_neg (by omega)], rfl, fun _ j hj => absurd hj (by omega), hd0, fun h3 => absurd h3 (by omega)⟩ h
  · intro d f g o61 nums' at' of' hd hQ hg
    exact R_pickN (num := num) hn hc hd (by omega) (fun i hi => hQ.2.2.1 (by omega) i hi) hg hC
