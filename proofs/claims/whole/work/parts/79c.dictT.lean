/-- the texts of a page by dictionary -/
def pkT (d : Nat) (S : Nat → Nat) (T : Nat → UInt8) (g : Nat → Nat) : Nat → Nat → (Nat → Nat) → (Nat → UInt8) → Nat ⊕ ((Nat → Nat) × (Nat → UInt8))
  | 0, _, S1, T1 => .inr (S1, T1)
  | q + 1, i, S1, T1 => if d ≤ g i ∨ 20000 < S1 i + (S (g i + 1) - S (g i)) then .inl 7
    else pkT d S T g q (i + 1) (tS S1 i (S (g i + 1) - S (g i))) (fun j => if j < S1 i then T1 j else T (S (g i) + (j - S1 i)))
theorem pkT_step {d m i : Nat} {S S1 : Nat → Nat} {T T1 : Nat → UInt8} {g : Nat → Nat} (hi : i < m) : pkT d S T g (m - i) i S1 T1 = if d ≤ g i ∨ 20000 < S1 i + (S (g i + 1) - S (g i)) then .inl 7
    else pkT d S T g (m - (i + 1)) (i + 1) (tS S1 i (S (g i + 1) - S (g i))) (fun j => if j < S1 i then T1 j else T (S (g i) + (j - S1 i))) := by
  rw [show m - i = (m - (i + 1)) + 1 by omega]; rfl
theorem R_pickT {n c d : Nat} {g : Nat → Nat} {of' dc at' ofTexts count dOf : Int32} {dNum nums numbers : Nat → Int64} {dSt dTx starts texts : Nat → Int32} {S S0 : Nat → Nat} {T T0 : Nat → UInt8} {num dn : Nat → Int64}
    (hn : 100000 < n) (hc : c ≤ 1000) (hd : d ≤ c) (hD : VsC 3 d dn S T dOf dc dNum dSt dTx) (hDS : TxI d S 20000) (hg : ∀ j, j < c → nums j = ql64 (g j) ∧ g j < 4294967296) (hC : VsC 3 0 num S0 T0 ofTexts count numbers starts texts) (hS0 : TxI 0 S0 20000) :
    ∃ ol, lp (fun v => f_R_takeByDictionary_l131 1000 1001 20000 2000 1000 1001 20000 (nI c) of' dc dNum dSt dTx nums at' ofTexts (ql64 d) v.1 v.2.1 v.2.2.1 v.2.2.2.1 v.2.2.2.2.1 v.2.2.2.2.2) n ((0 : Int32), count, numbers, starts, texts, (0 : Int32)) = some ol ∧ ol.2.2.2.1 = dSt ∧ ol.2.2.2.2.2.2.1 = at' ∧ ol.2.2.2.2.2.2.2.2.2.2.1 0 = nI 0 ∧ ((∃ x, pkT d S T g c 0 S0 T0 = .inl x ∧ ol.2.2.2.2.2.2.2.1 = nI x ∧ ¬ nI x = 0) ∨ (∃ r, pkT d S T g c 0 S0 T0 = .inr r ∧ ol.2.2.2.2.2.2.2.1 = 0 ∧ TxI c r.1 20000 ∧ VsC 3 c num r.1 r.2 ofTexts ol.2.2.2.2.2.2.2.2.1 ol.2.2.2.2.2.2.2.2.2.1 ol.2.2.2.2.2.2.2.2.2.2.1 ol.2.2.2.2.2.2.2.2.2.2.2)) := by
  refine lp_inv (fun q u => u.2.2.2.1 0 = nI 0 ∧ u.2.2.1 = numbers ∧ ∃ i, i + q = c + 1 ∧ ((i ≤ c ∧ u.1 = 0 ∧ u.2.2.2.2.2 = nI i ∧ ∃ S1 T1, TxI i S1 20000 ∧ VsC 3 i num S1 T1 ofTexts u.2.1 u.2.2.1 u.2.2.2.1 u.2.2.2.2.1 ∧ pkT d S T g (c - i) i S1 T1 = pkT d S T g c 0 S0 T0) ∨ (u.1 = 7 ∧ pkT d S T g c 0 S0 T0 = .inl 7))) _ ?_ (c + 1) n _ ⟨hC.2.2.2.1, rfl, 0, by omega, Or.inl ⟨by omega, rfl, rfl, S0, T0, hS0, hC, rfl⟩⟩ (by omega)
  rintro q ⟨fa, cnt, nu, st', tx', i'⟩ ⟨gs, gn, i, g1, (⟨g2, g3, g4, S1, T1, g5, g6, g7⟩ | ⟨g2, g3⟩)⟩
  · simp only at gs gn g3 g4 g6
    subst g3; subst g4; subst gn
    show (∃ w', f_R_takeByDictionary_l131 1000 1001 20000 2000 1000 1001 20000 (nI c) of' dc dNum dSt dTx nums at' ofTexts (ql64 d) 0 cnt nu st' tx' (nI i) = _ ∧ _) ∨ (∃ y, f_R_takeByDictionary_l131 1000 1001 20000 2000 1000 1001 20000 (nI c) of' dc dNum dSt dTx nums at' ofTexts (ql64 d) 0 cnt nu st' tx' (nI i) = _ ∧ _)
    unfold f_R_takeByDictionary_l131
    rw [ifle (by omega) (by omega)]
    by_cases ci : c ≤ i
    · have : i = c := by omega
      subst this
      rw [if_pos ci]
      rw [Nat.sub_self] at g7
      exact Or.inr ⟨_, rfl, rfl, rfl, gs, Or.inr ⟨(S1, T1), g7.symm, rfl, g5, g6⟩⟩
    · have e1 : nI i + 1 = nI (i + 1) := qn_add i 1
      have g0 : ∀ {α : Type} {t : Option α}, gd (inB (nI i) 2000) t = t := fun {α t} => gd_nI (by omega) (by omega)
      obtain ⟨n1, n2⟩ := hg i (by omega)
      rw [pkT_step (by omega)] at g7
      unfold f_R_takeByDictionary_j181
      rw [if_neg ci, if_pos rfl, g0, g0, qn_clamp (by omega), n1, qifc (show (ql64 d ≤ ql64 (g i)) ↔ d ≤ g i from by rw [l64_le (by omega) (by omega)]), S_fail0, obs, bnd_eq, e1]
      by_cases cd : d ≤ g i
      · rw [if_pos (Or.inl cd)] at g7
        rw [if_pos cd]
        exact Or.inl ⟨_, rfl, q - 1, by omega, gs, rfl, i + 1, by omega, Or.inr ⟨rfl, g7.symm⟩⟩
      · have eg : (ql64 (g i)).toInt32 = nI (g i) := l64_i32 (by omega)
        obtain ⟨l1, l2⟩ := hDS.2.1 (g i) (by omega)
        obtain ⟨d1, d2, d3, d4, d5⟩ := id hD
        obtain ⟨d6, d7⟩ := d5 rfl
        have hmono : S (g i + 1) ≤ S d := S_mono (fun j hj => (hDS.2.1 j hj).1) (by omega) (by omega)
        have hSd := hDS.2.2
        have hS1 := g5.2.2
        have hof : ¬ ofTexts = 0 := by rw [g6.1]; decide
        have hsz : f_V_sizeOf 1001 dSt (nI (g i)) = some (nI (S (g i + 1) - S (g i))) := V_sizeOf (t := 3) (c := d) rfl (by omega) (by omega) (by omega) l1 hD
        have hcnt : cnt = nI i := g6.2.1
        have hst := (g6.2.2.2.2 rfl).1
        have z0 : nI 0 = 0 := rfl
        rw [if_neg cd, eg]
        by_cases c7 : 20000 < S1 i + (S (g i + 1) - S (g i))
        · rw [if_pos (Or.inr c7)] at g7
          have hadd : f_V_addText 1000 1001 20000 20000 (nI i) st' tx' dTx (nI 0) (nI (S (g i))) (nI (S (g i + 1) - S (g i))) = some (0, nI i, st', tx') := V_addText0 (S := S1) hst (fun j hj => (g5.2.1 j hj).1) hS1 (by omega) (by omega) (by omega) (by omega) (by omega) (by omega) (by omega) (by omega) (by omega) (by omega)
          have hfrom : f_V_addFrom 1000 1001 20000 1000 1001 20000 ofTexts cnt nu st' tx' dNum dSt dTx (nI (g i)) = some (0, nI i, nu, st', tx') := by
            unfold f_V_addFrom
            rw [if_neg hof, gd_nI (by omega) (by omega), hsz, obs, qn_clamp (by omega), d6 (g i) (by omega), hcnt, ← z0, hadd, obs]
            rfl
          rw [hfrom, obs, if_pos rfl]
          exact Or.inl ⟨_, rfl, q - 1, by omega, gs, rfl, i + 1, by omega, Or.inr ⟨rfl, g7.symm⟩⟩
        · rw [if_neg (fun hx => by rcases hx with hx | hx; exact cd hx; exact c7 hx)] at g7
          obtain ⟨oa, x1, x2, x3⟩ := V_addText (t := 3) (c := i) (nm := 1000) (sn := 1001) (tn := 20000) (pn := 20000) (m := 0) (a := S (g i)) (k := S (g i + 1) - S (g i)) (num := num) (S := S1) (S' := tS S1 i (S (g i + 1) - S (g i))) (T := T1) (T' := fun j => if j < S1 i then T1 j else T (S (g i) + (j - S1 i))) (ofTexts := ofTexts) (count := cnt) (numbers := nu) (starts := st') (texts := tx') (p2 := dTx)
            rfl g6 (fun j hj => (g5.2.1 j hj).1) (by omega) (by omega) (by omega) (by omega) (by omega) (by omega) (by omega) (by omega)
            (fun j hj => by unfold tS; rw [if_pos hj]) (fun j hj => by show (if j < S1 i then T1 j else _) = _; rw [if_pos hj]) (by unfold tS; rw [if_neg (by omega)]; omega)
            (fun j hj => absurd hj (by omega))
            (fun j hj => by
              show dTx (S (g i) + j) = qsb (if S1 i + 0 + j < S1 i then _ else _)
              rw [if_neg (by omega), d7 _ (by omega), show S1 i + 0 + j - S1 i = j by omega])
          have hfrom : f_V_addFrom 1000 1001 20000 1000 1001 20000 ofTexts cnt nu st' tx' dNum dSt dTx (nI (g i)) = some (oa.1, oa.2.1, nu, oa.2.2.1, oa.2.2.2) := by
            unfold f_V_addFrom
            rw [if_neg hof, gd_nI (by omega) (by omega), hsz, obs, qn_clamp (by omega), d6 (g i) (by omega), ← z0, x1, obs, gd_t (by rw [x2]; rfl)]
          rw [hfrom, obs]
          simp only
          rw [x2, if_neg (show ¬ (1 : Int32) = 0 by decide), bnd_eq]
          exact Or.inl ⟨_, rfl, q - 1, by omega, x3.2.2.2.1, rfl, i + 1, by omega, Or.inl ⟨by omega, rfl, rfl, _, _, TxI_step g5 (by omega) (by omega), x3, g7⟩⟩
  · simp only at gs gn g2
    subst g2; subst gn
    show (∃ w', f_R_takeByDictionary_l131 1000 1001 20000 2000 1000 1001 20000 (nI c) of' dc dNum dSt dTx nums at' ofTexts (ql64 d) 7 cnt nu st' tx' i' = _ ∧ _) ∨ (∃ y, f_R_takeByDictionary_l131 1000 1001 20000 2000 1000 1001 20000 (nI c) of' dc dNum dSt dTx nums at' ofTexts (ql64 d) 7 cnt nu st' tx' i' = _ ∧ _)
    unfold f_R_takeByDictionary_l131
    rw [if_neg (show ¬ (7 : Int32) = 0 by decide), ite_self]
    exact Or.inr ⟨_, rfl, rfl, rfl, gs, Or.inl ⟨7, g3, rfl, by decide⟩⟩
def pDictT (I : List UInt8) (e a c : Nat) : Nat ⊕ ((Nat → Nat) × (Nat → UInt8)) := pDictG I e a c (fun d a1 => match pTxt I e 20000 (stPlain I e) d 0 a1 (fun _ => 0) (fun _ => 0) with | .inl x => .inl x | .inr (a', S, T) => .inr (a', (S, T))) (fun d D g => pkT d D.1 D.2 g c 0 (fun _ => 0) (fun _ => 0))
theorem TxI_0 (K : Nat) : TxI 0 (fun _ => 0) K := ⟨rfl, fun i hi => absurd hi (by omega), Nat.zero_le _⟩
theorem R_dictT {n cap e a c : Nat} {I : List UInt8} {row : Nat → Int32} {dOf dCnt ofTexts count : Int32} {dNum nums numbers num : Nat → Int64} {dSt dTx starts texts : Nat → Int32}
    (hn : 100000 < n) (hcap : cap < 100000) (hI : I.length ≤ cap) (he : e ≤ I.length) (ha : a ≤ e) (hc : c ≤ 1000) (h : HC I row) (hd0 : dSt 0 = nI 0) (hC : VsC 3 0 num (fun _ => 0) (fun _ => 0) ofTexts count numbers starts texts) :
    ∃ o, f_R_takeByDictionary n 1000 1001 20000 2000 cap 1000 1001 20000 (nI c) (nI 3) dOf dCnt dNum dSt dTx nums (nI a) (nI e) 0 row ofTexts count numbers starts texts = some o ∧ o.2.2.2.1 0 = nI 0 ∧ o.2.2.2.2.2.2.2.2.2.2.1 0 = nI 0 ∧
      ((∃ x, pDictT I e a c = .inl x ∧ o.2.2.2.2.2.2.2.1 = nI x ∧ ¬ nI x = 0) ∨ (∃ r, pDictT I e a c = .inr r ∧ o.2.2.2.2.2.2.1 = nI e ∧ o.2.2.2.2.2.2.2.1 = 0 ∧ TxI c r.1 20000 ∧ VsC 3 c num r.1 r.2 ofTexts o.2.2.2.2.2.2.2.2.1 o.2.2.2.2.2.2.2.2.2.1 o.2.2.2.2.2.2.2.2.2.2.1 o.2.2.2.2.2.2.2.2.2.2.2)) := by
  refine R_dict_gen (δ := (Nat → Nat) × (Nat → UInt8)) (ρ := (Nat → Nat) × (Nat → UInt8)) (t := 3) (fun d D o => TxI d D.1 20000 ∧ VsC 3 d (fun _ => 0) D.1 D.2 (nI 1) o.2.2.1 o.2.2.2.1 o.2.2.2.2.1 o.2.2.2.2.2) (fun r cnt nu st tx => TxI c r.1 20000 ∧ VsC 3 c num r.1 r.2 ofTexts cnt nu st tx) hn hcap hI he ha hc (by omega) h hd0 hC.2.2.2.1 ?_ ?_
  · intro d a1 hd ha1
    obtain ⟨o, y1, y2, y3, y4⟩ := R_plainT (n := n) (cap := cap) (e := e) (a := a1) (m := d) (I := I) (row := row) (S := fun _ => 0) (T := fun _ => 0) (num := fun _ => 0) (ofTexts := nI 1) (count := 0) (numbers := dNum) (starts := dSt) (texts := dTx) hn hcap hI he ha1 (by omega) ⟨by rw [if_pos rfl], rfl, fun h0 => absurd rfl h0, hd0, fun _ => ⟨fun i hi => by rw [show i = 0 by omega]; exact hd0, fun j hj => absurd hj (Nat.not_lt_zero j)⟩⟩ (TxI_0 _) h
    refine ⟨o, y1, y2, ?_⟩
    rcases y4 with ⟨x, z1, z2, z3⟩ | ⟨a', S', T', z1, z2, z3, z4, z5, z6⟩
    · rw [z1]
      exact Or.inl ⟨x, rfl, z2, z3⟩
    · rw [z1]
      exact Or.inr ⟨a', (S', T'), rfl, z2, z3, z4, z5, z6⟩
  · intro d D g o61 nums' at' of' hd hQ hg
    exact R_pickT hn hc hd hQ.2 hQ.1 hg hC (TxI_0 _)
