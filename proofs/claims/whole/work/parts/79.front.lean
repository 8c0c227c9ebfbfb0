theorem M_front_lp {n cap e a m : Nat} {I : List UInt8} {inp com more : Nat → Int32} {num lg f g : Nat → Int64} {S : Nat → Nat} {T : Nat → UInt8} {wholes : Nat → Int64} {frm bytes : Nat → Int32} {lc : Int32}
    (hn : 100000 < n) (hc : cap < 100000) (hI : I.length ≤ cap) (he : e ≤ I.length) (ha : a ≤ e) (hm : m ≤ 1000) (hf : ∀ j, j < m → com j = tld (f j)) (hg : ∀ j, j < m → more j = tld (g j))
    (hC : VsM 3 0 num S T 0 wholes frm bytes) (hS : TxI 0 S 20000) (h : QHM I inp) :
    ∃ o, lp (fun v => f_M_readFront_l89 n 1000 cap 1000 20000 1001 (nI e) lc com inp lg more (nI m) v.1 v.2.1 v.2.2.1 v.2.2.2.1 v.2.2.2.2.1 v.2.2.2.2.2) n ((0 : Int32), nI a, (0 : Int32), bytes, frm, (0 : Int32)) = some o ∧ o.2.2.2.2.2.2.2.2 0 = nI 0 ∧
      ((∃ x, pTxt I e 20000 (stCode (fun i => lv (f i)) (fun i => lv (g i))) m 0 a S T = .inl x ∧ o.2.2.1 = nI x ∧ ¬ nI x = 0) ∨ (∃ a' S' T', pTxt I e 20000 (stCode (fun i => lv (f i)) (fun i => lv (g i))) m 0 a S T = .inr (a', S', T') ∧ a' ≤ e ∧ o.2.1 = nI a' ∧ o.2.2.1 = 0 ∧ TxI m S' 20000 ∧ VsM 3 m num S' T' o.1 wholes o.2.2.2.2.2.2.2.2 o.2.2.2.2.2.2.2.1)) := by
  refine lp_inv (fun q u => u.2.2.2.2.1 0 = nI 0 ∧ ∃ i, i + q = m + 1 ∧ ((i ≤ m ∧ ∃ b S1 T1, u.2.1 = nI b ∧ b ≤ e ∧ u.2.2.1 = 0 ∧ u.2.2.2.2.2 = nI i ∧ TxI i S1 20000 ∧ VsM 3 i num S1 T1 u.1 wholes u.2.2.2.2.1 u.2.2.2.1 ∧ pTxt I e 20000 (stCode (fun i => lv (f i)) (fun i => lv (g i))) (m - i) i b S1 T1 = pTxt I e 20000 (stCode (fun i => lv (f i)) (fun i => lv (g i))) m 0 a S T) ∨ (∃ x, pTxt I e 20000 (stCode (fun i => lv (f i)) (fun i => lv (g i))) m 0 a S T = .inl x ∧ u.2.2.1 = nI x ∧ ¬ nI x = 0))) _ ?_ (m + 1) n _ ⟨hC.2.2.1, 0, by omega, Or.inl ⟨by omega, a, S, T, rfl, ha, rfl, rfl, hS, hC, rfl⟩⟩ (by omega)
  rintro q ⟨cnt, at', fa, by', fr', i'⟩ ⟨g0, i, g1, (⟨g2, b, S1, T1, k1, k2, k3, k4, k5, k6, k7⟩ | ⟨x, k1, k2, k3⟩)⟩
  · simp only at g0 k1 k3 k4 k6
    subst k1; subst k3; subst k4
    show (∃ w', f_M_readFront_l89 n 1000 cap 1000 20000 1001 (nI e) lc com inp lg more (nI m) cnt (nI b) 0 by' fr' (nI i) = _ ∧ _) ∨ (∃ y, f_M_readFront_l89 n 1000 cap 1000 20000 1001 (nI e) lc com inp lg more (nI m) cnt (nI b) 0 by' fr' (nI i) = _ ∧ _)
    unfold f_M_readFront_l89
    rw [ifle (by omega) (by omega)]
    by_cases ci : m ≤ i
    · have : i = m := by omega
      subst this
      rw [if_pos ci]
      rw [Nat.sub_self] at k7
      exact Or.inr ⟨_, rfl, g0, Or.inr ⟨b, S1, T1, k7.symm, k2, rfl, rfl, k5, k6⟩⟩
    · rw [pTxt_step (by omega)] at k7
      have e1 : nI i + 1 = nI (i + 1) := qn_add i 1
      unfold stCode at k7
      simp only at k7
      have hl := qlast_le k5
      have hfr := (k6.2.2.2 rfl).1
      have hsel : (if nI i = 0 then f_M_readFront_j124 n 1000 cap 1000 20000 1001 cnt (nI b) (nI e) 0 com inp more by' fr' (nI i) (0 : Int32) else gd (inB (nI i) 1001) (gd (inB (nI i - (1 : Int32)) 1001) (f_M_readFront_j124 n 1000 cap 1000 20000 1001 cnt (nI b) (nI e) 0 com inp more by' fr' (nI i) ((fr' (nI i).toNatClampNeg) - (fr' (nI i - (1 : Int32)).toNatClampNeg))))) = f_M_readFront_j124 n 1000 cap 1000 20000 1001 cnt (nI b) (nI e) 0 com inp more by' fr' (nI i) (nI (qlast S1 i)) := by
        rw [ife0 (by omega)]
        unfold qlast
        by_cases c0 : i = 0
        · rw [if_pos c0, if_pos c0]; rfl
        · have em1 : nI i - 1 = nI (i - 1) := nI_sub (show 1 ≤ i by omega)
          have hmon := (k5.2.1 (i - 1) (by omega)).1
          rw [show i - 1 + 1 = i by omega] at hmon
          rw [if_neg c0, if_neg c0, em1, gd_nI (by omega) (by omega), gd_nI (by omega) (by omega), qn_clamp (by omega), qn_clamp (by omega), hfr i (by omega), hfr (i - 1) (by omega), nI_sub hmon]
      rw [if_neg ci, if_pos rfl, hsel]
      unfold pText at k7
      by_cases good : lv (f i) ≤ qlast S1 i ∧ lv (f i) + lv (g i) ≤ 255
      · rw [if_pos good] at k7
        obtain ⟨ot, t1, t2, t3⟩ := M_take (n := n) (cap := cap) (e := e) (a := b) (c := i) (bf := lv (f i)) (mo := lv (g i)) (I := I) (inp := inp) (num := num) (S := S1) (T := T1) (count := cnt) (wholes := wholes) (frm := fr') (bytes := by') hn hc hI he k2 (by omega) good.1 good.2 k6 k5 h
        rw [M_front1 (c := m) (cv := f i) (mv := g i) (by omega) hm (by omega) (hf i (by omega)) (hg i (by omega)) (fun _ => by rw [t1, obs, bnd_eq, e1]), if_pos good]
        rcases t3 with ⟨x, t3, t4, t5⟩ | ⟨a', S', T', t3, t4, t5, t6, t7, t8⟩
        · rw [t3] at k7
          exact Or.inl ⟨_, rfl, q - 1, by omega, t2, i + 1, by omega, Or.inr ⟨x, k7.symm, t4, t5⟩⟩
        · rw [t3] at k7
          exact Or.inl ⟨_, rfl, q - 1, by omega, t2, i + 1, by omega, Or.inl ⟨by omega, a', S', T', t5, t4, t6, rfl, t7, t8, k7⟩⟩
      · rw [if_neg good] at k7
        rw [M_front1 (c := m) (cv := f i) (mv := g i) (by omega) hm (by omega) (hf i (by omega)) (hg i (by omega)) (fun _ => rfl), if_neg good]
        exact Or.inl ⟨_, rfl, q - 1, by omega, g0, i + 1, by omega, Or.inr ⟨7, k7.symm, rfl, by decide⟩⟩
  · simp only at g0 k2
    subst k2
    show (∃ w', f_M_readFront_l89 n 1000 cap 1000 20000 1001 (nI e) lc com inp lg more (nI m) cnt at' (nI x) by' fr' i' = _ ∧ _) ∨ (∃ y, f_M_readFront_l89 n 1000 cap 1000 20000 1001 (nI e) lc com inp lg more (nI m) cnt at' (nI x) by' fr' i' = _ ∧ _)
    unfold f_M_readFront_l89
    rw [if_neg k3, ite_self]
    exact Or.inr ⟨_, rfl, g0, Or.inl ⟨x, k1, rfl, k3⟩⟩
theorem tld_congr {f g : Nat → Int64} {r : Nat → Int32} {m : Nat} (h : ∀ j, j < m → f j = g j) (h2 : ∀ j, j < m → r j = tld (f j)) : ∀ j, j < m → r j = tld (g j) := fun j hj => by rw [h2 j hj, h j hj]
theorem M_readFront {n cap e a c : Nat} {I : List UInt8} {inp com more : Nat → Int32} {num lg : Nat → Int64} {S : Nat → Nat} {T : Nat → UInt8} {wholes : Nat → Int64} {frm bytes : Nat → Int32} {lc : Int32}
    (hn : 100000 < n) (hcap : cap < 100000) (hI : I.length ≤ cap) (he : e ≤ I.length) (ha : a ≤ e) (hc : c ≤ 1000)
    (hC : VsM 3 0 num S T 0 wholes frm bytes) (hS : TxI 0 S 20000) (h : QHM I inp) :
    ∃ o, f_M_readFront n 1000 cap 2000 1000 20000 1001 0 (nI a) (nI e) 0 lc com inp lg more bytes frm (nI c) = some o ∧ o.2.2.2.2.2.2.2.2 0 = nI 0 ∧
      ((∃ x, pFront I e a c S T = .inl x ∧ o.2.2.1 = nI x ∧ ¬ nI x = 0) ∨ (∃ a' S' T', pFront I e a c S T = .inr (a', S', T') ∧ a' ≤ e ∧ o.2.1 = nI a' ∧ o.2.2.1 = 0 ∧ TxI c S' 20000 ∧ VsM 3 c num S' T' o.1 wholes o.2.2.2.2.2.2.2.2 o.2.2.2.2.2.2.2.1)) := by
  unfold f_M_readFront pFront
  obtain ⟨oc, p1, p2⟩ := M_readCode (n := n) (cap := cap) (ln := 2000) (e := e) (a := a) (c := c) (I := I) (inp := inp) (lg := lg) (lc := lc) hn hcap hI he ha (by omega) rfl h
  rw [p1, obs]
  unfold f_M_readFront_j40 f_M_readFront_j52 f_M_readFront_j87
  have hlF : ∀ (x at' lc' : Int32) (com' more' : Nat → Int32) (lg' : Nat → Int64), ¬ x = 0 → lp (fun v => f_M_readFront_l89 n 1000 cap 1000 20000 1001 (nI e) lc' com' inp lg' more' (nI c) v.1 v.2.1 v.2.2.1 v.2.2.2.1 v.2.2.2.2.1 v.2.2.2.2.2) n ((0 : Int32), at', x, bytes, frm, (0 : Int32)) = some (0, at', x, lc', com', lg', more', bytes, frm) := by
    intro x at' lc' com' more' lg' hx
    obtain ⟨y, rfl⟩ : ∃ y, n = y + 1 := ⟨n - 1, by omega⟩
    have : f_M_readFront_l89 (y + 1) 1000 cap 1000 20000 1001 (nI e) lc' com' inp lg' more' (nI c) 0 at' x bytes frm 0 = some (Sum.inr (0, at', x, lc', com', lg', more', bytes, frm)) := by
      unfold f_M_readFront_l89
      rw [if_neg hx, ite_self]
    simp only [lp, this]
  have hl7F : ∀ (x : Int32) (com' : Nat → Int32) (lg' : Nat → Int64), ¬ x = 0 → lp (fun v => f_M_readFront_l7 1000 2000 x lg' (nI c) v.1 v.2) n (com', (0 : Int32)) = some (com', 0) := by
    intro x com' lg' hx
    obtain ⟨y, rfl⟩ : ∃ y, n = y + 1 := ⟨n - 1, by omega⟩
    have : f_M_readFront_l7 1000 2000 x lg' (nI c) com' 0 = some (Sum.inr (com', 0)) := by
      unfold f_M_readFront_l7
      rw [if_neg hx, ite_self]
    simp only [lp, this]
  have hl54F : ∀ (x : Int32) (com' : Nat → Int32) (lg' : Nat → Int64), ¬ x = 0 → lp (fun v => f_M_readFront_l54 2000 1000 x lg' (nI c) v.1 v.2) n (com', (0 : Int32)) = some (com', 0) := by
    intro x com' lg' hx
    obtain ⟨y, rfl⟩ : ∃ y, n = y + 1 := ⟨n - 1, by omega⟩
    have : f_M_readFront_l54 2000 1000 x lg' (nI c) com' 0 = some (Sum.inr (com', 0)) := by
      unfold f_M_readFront_l54
      rw [if_neg hx, ite_self]
    simp only [lp, this]
  rcases p2 with ⟨x, y1, y2, y3⟩ | ⟨a1, f, y1, y2, y3, y4, y5⟩
  · have hF : ¬ oc.2.1 = 0 := by rw [y2]; exact y3
    rw [hl7F _ _ _ hF, obs, if_neg hF, hl54F _ _ _ hF, obs, hlF _ _ _ _ _ _ hF, obs, y1]
    exact ⟨_, rfl, hC.2.2.1, Or.inl ⟨x, rfl, y2, y3⟩⟩
  · obtain ⟨ol, l1, l2⟩ := M_tolds (n := n) (m := c) (ln := 2000) (rn := 1000) (g := fun r i => f_M_readFront_l7 1000 2000 0 oc.2.2.2 (nI c) r i) (r0 := com) (lg := oc.2.2.2) hn hc rfl rfl (fun r i _ => rfl)
    obtain ⟨oc2, p3, p4⟩ := M_readCode (n := n) (cap := cap) (ln := 2000) (e := e) (a := a1) (c := c) (I := I) (inp := inp) (lg := oc.2.2.2) (lc := oc.2.2.1) hn hcap hI he y2 (by omega) rfl h
    rw [y4, l1, obs, if_pos rfl, y3, p3, obs, y1]
    simp only
    rcases p4 with ⟨x, z1, z2, z3⟩ | ⟨a2, g, z1, z2, z3, z4, z5⟩
    · have hF : ¬ oc2.2.1 = 0 := by rw [z2]; exact z3
      rw [hl54F _ _ _ hF, obs, hlF _ _ _ _ _ _ hF, obs, z1]
      exact ⟨_, rfl, hC.2.2.1, Or.inl ⟨x, rfl, z2, z3⟩⟩
    · obtain ⟨om, m1, m2⟩ := M_tolds (n := n) (m := c) (ln := 2000) (rn := 1000) (g := fun r i => f_M_readFront_l54 2000 1000 0 oc2.2.2.2 (nI c) r i) (r0 := more) (lg := oc2.2.2.2) hn hc rfl rfl (fun r i _ => rfl)
      obtain ⟨ot, t1, t2, t3⟩ := M_front_lp (n := n) (cap := cap) (e := e) (a := a2) (m := c) (I := I) (inp := inp) (com := ol.1) (more := om.1) (num := num) (lg := oc2.2.2.2) (f := f) (g := g) (S := S) (T := T) (wholes := wholes) (frm := frm) (bytes := bytes) (lc := oc2.2.2.1) hn hcap hI he z2 hc (tld_congr y5 l2) (tld_congr z5 m2) hC hS h
      rw [z4, m1, obs, z3, t1, obs, z1]
      exact ⟨_, rfl, t2, t3⟩
/-- texts by lengths -/
theorem R_lens {n c : Nat} {nu f : Nat → Int64} (hn : 100000 < n) (hc : c ≤ 1000) (hf : ∀ j, j < c → nu j = f j) :
    f_R_lookAtLengths n 2000 (nI c) nu 0 = some (if LOk f c then 0 else 7) := by
  unfold f_R_lookAtLengths
  have main : ∃ o, lp (fun v => f_R_lookAtLengths_l2 2000 (nI c) nu v.1 v.2) n ((0 : Int32), (0 : Int32)) = some o ∧ o = if LOk f c then 0 else 7 := by
    refine lp_inv (fun q u => ∃ i, i + q = c + 1 ∧ ((i ≤ c ∧ u.1 = 0 ∧ u.2 = nI i ∧ LOk f i) ∨ (u.1 = 7 ∧ ¬ LOk f c))) _ ?_ (c + 1) n _ ⟨0, by omega, Or.inl ⟨by omega, rfl, rfl, fun i hi => absurd hi (by omega)⟩⟩ (by omega)
    rintro q ⟨fa, i'⟩ ⟨i, g1, (⟨g2, g3, g4, g5⟩ | ⟨g2, g3⟩)⟩
    · simp only at g3 g4
      subst g3; subst g4
      show (∃ w', f_R_lookAtLengths_l2 2000 (nI c) nu 0 (nI i) = _ ∧ _) ∨ (∃ y, f_R_lookAtLengths_l2 2000 (nI c) nu 0 (nI i) = _ ∧ _)
      unfold f_R_lookAtLengths_l2
      rw [ifle (by omega) (by omega)]
      by_cases ci : c ≤ i
      · have : i = c := by omega
        subst this
        rw [if_pos ci]
        exact Or.inr ⟨_, rfl, by rw [if_pos g5]⟩
      · have e255 : (255 : Int64) = ql64 255 := rfl
        have e1 : nI i + 1 = nI (i + 1) := qn_add i 1
        have g0 : ∀ {α : Type} {t : Option α}, gd (inB (nI i) 2000) t = t := fun {α t} => gd_nI (by omega) (by omega)
        unfold f_R_lookAtLengths_j44
        rw [if_neg ci, if_pos rfl, g0, g0, qn_clamp (by omega), hf i (by omega), e255, S_fail0, obs, bnd_eq, bnd_eq, e1, lrange' (by omega)]
        by_cases c7 : 255 < lv (f i)
        · rw [if_pos c7]
          exact Or.inl ⟨_, rfl, q - 1, by omega, i + 1, by omega, Or.inr ⟨rfl, fun hx => by have := hx i (by omega); omega⟩⟩
        · rw [if_neg c7]
          refine Or.inl ⟨_, rfl, q - 1, by omega, i + 1, by omega, Or.inl ⟨by omega, rfl, rfl, ?_⟩⟩
          intro j hj
          by_cases ej : j = i
          · subst ej; omega
          · exact g5 j (by omega)
    · simp only at g2
      subst g2
      show (∃ w', f_R_lookAtLengths_l2 2000 (nI c) nu 7 i' = _ ∧ _) ∨ (∃ y, f_R_lookAtLengths_l2 2000 (nI c) nu 7 i' = _ ∧ _)
      unfold f_R_lookAtLengths_l2
      rw [if_neg (show ¬ (7 : Int32) = 0 by decide), ite_self]
      exact Or.inr ⟨_, rfl, by rw [if_neg g3]⟩
  obtain ⟨o, h1, h2⟩ := main
  rw [h1, h2]; rfl
theorem R_lensF {n : Nat} {nu : Nat → Int64} {c f : Int32} (hn : 100 < n) (hf : ¬ f = 0) : f_R_lookAtLengths n 2000 c nu f = some f := by
  unfold f_R_lookAtLengths
  obtain ⟨x, rfl⟩ : ∃ x, n = x + 1 := ⟨n - 1, by omega⟩
  have : f_R_lookAtLengths_l2 2000 c nu f 0 = some (Sum.inr f) := by
    unfold f_R_lookAtLengths_l2
    rw [if_neg hf, ite_self]
  simp only [lp, this]; rfl
theorem R_takeTexts {n cap e a m : Nat} {I : List UInt8} {row : Nat → Int32} {num cs nu f g : Nat → Int64} {S : Nat → Nat} {T : Nat → UInt8} {ofTexts count : Int32} {numbers : Nat → Int64} {starts texts : Nat → Int32}
    (hn : 100000 < n) (hc : cap < 100000) (hI : I.length ≤ cap) (he : e ≤ I.length) (ha : a ≤ e) (hm : m ≤ 1000) (hf : ∀ j, j < m → cs j = f j) (hg : ∀ j, j < m → nu j = g j)
    (hC : VsC 3 0 num S T ofTexts count numbers starts texts) (hS : TxI 0 S 20000) (h : HC I row) :
    ∃ o, f_R_takeTexts n 2000 2000 cap 1000 1001 20000 (nI m) cs nu (nI a) (nI e) 0 row count starts texts = some o ∧ o.2.2.2.1 0 = nI 0 ∧
      ((∃ x, pTxt I e 20000 (stCode (fun i => lv (f i)) (fun i => lv (g i))) m 0 a S T = .inl x ∧ o.2.1 = nI x ∧ ¬ nI x = 0) ∨ (∃ a' S' T', pTxt I e 20000 (stCode (fun i => lv (f i)) (fun i => lv (g i))) m 0 a S T = .inr (a', S', T') ∧ a' ≤ e ∧ o.1 = nI a' ∧ o.2.1 = 0 ∧ TxI m S' 20000 ∧ VsC 3 m num S' T' ofTexts o.2.2.1 numbers o.2.2.2.1 o.2.2.2.2)) := by
  unfold f_R_takeTexts
  have main : ∃ o, lp (fun v => f_R_takeTexts_l2 2000 2000 cap 1000 1001 20000 (nI m) cs nu (nI e) row v.1 v.2.1 v.2.2.1 v.2.2.2.1 v.2.2.2.2.1 v.2.2.2.2.2) n (nI a, (0 : Int32), count, starts, texts, (0 : Int32)) = some o ∧ o.2.2.2.1 0 = nI 0 ∧
      ((∃ x, pTxt I e 20000 (stCode (fun i => lv (f i)) (fun i => lv (g i))) m 0 a S T = .inl x ∧ o.2.1 = nI x ∧ ¬ nI x = 0) ∨ (∃ a' S' T', pTxt I e 20000 (stCode (fun i => lv (f i)) (fun i => lv (g i))) m 0 a S T = .inr (a', S', T') ∧ a' ≤ e ∧ o.1 = nI a' ∧ o.2.1 = 0 ∧ TxI m S' 20000 ∧ VsC 3 m num S' T' ofTexts o.2.2.1 numbers o.2.2.2.1 o.2.2.2.2)) := by
    refine lp_inv (fun q u => u.2.2.2.1 0 = nI 0 ∧ ∃ i, i + q = m + 1 ∧ ((i ≤ m ∧ ∃ b S1 T1, u.1 = nI b ∧ b ≤ e ∧ u.2.1 = 0 ∧ u.2.2.2.2.2 = nI i ∧ TxI i S1 20000 ∧ VsC 3 i num S1 T1 ofTexts u.2.2.1 numbers u.2.2.2.1 u.2.2.2.2.1 ∧ pTxt I e 20000 (stCode (fun i => lv (f i)) (fun i => lv (g i))) (m - i) i b S1 T1 = pTxt I e 20000 (stCode (fun i => lv (f i)) (fun i => lv (g i))) m 0 a S T) ∨ (∃ x, pTxt I e 20000 (stCode (fun i => lv (f i)) (fun i => lv (g i))) m 0 a S T = .inl x ∧ u.2.1 = nI x ∧ ¬ nI x = 0))) _ ?_ (m + 1) n _ ⟨hC.2.2.2.1, 0, by omega, Or.inl ⟨by omega, a, S, T, rfl, ha, rfl, rfl, hS, hC, rfl⟩⟩ (by omega)
    rintro q ⟨at', fa, cnt, st', tx', i'⟩ ⟨g0, i, g1, (⟨g2, b, S1, T1, k1, k2, k3, k4, k5, k6, k7⟩ | ⟨x, k1, k2, k3⟩)⟩
    · simp only at g0 k1 k3 k4 k6
      subst k1; subst k3; subst k4
      show (∃ w', f_R_takeTexts_l2 2000 2000 cap 1000 1001 20000 (nI m) cs nu (nI e) row (nI b) 0 cnt st' tx' (nI i) = _ ∧ _) ∨ (∃ y, f_R_takeTexts_l2 2000 2000 cap 1000 1001 20000 (nI m) cs nu (nI e) row (nI b) 0 cnt st' tx' (nI i) = _ ∧ _)
      unfold f_R_takeTexts_l2
      rw [ifle (by omega) (by omega)]
      by_cases ci : m ≤ i
      · have : i = m := by omega
        subst this
        rw [if_pos ci]
        rw [Nat.sub_self] at k7
        exact Or.inr ⟨_, rfl, g0, Or.inr ⟨b, S1, T1, k7.symm, k2, rfl, rfl, k5, k6⟩⟩
      · rw [pTxt_step (by omega)] at k7
        have e1 : nI i + 1 = nI (i + 1) := qn_add i 1
        unfold stCode at k7
        simp only at k7
        obtain ⟨ot, t1, t2, _, t3⟩ := R_takeText (cap := cap) (nm := 1000) (sn := 1001) (tn := 20000) (e := e) (a := b) (c := i) (cm := lv (f i)) (mo := lv (g i)) (I := I) (row := row) (num := num) (S := S1) (T := T1) (ofTexts := ofTexts) (count := cnt) (numbers := numbers) (starts := st') (texts := tx') hc hI he k2 (by omega) (by omega) (by omega) (by omega) (qlv_lt _) (qlv_lt _) k6 k5 h
        rw [l64_lv, l64_lv] at t1
        rw [if_neg ci, if_pos rfl, gd_nI (by omega) (by omega), gd_nI (by omega) (by omega), qn_clamp (by omega), hf i (by omega), hg i (by omega), t1, obs, bnd_eq, e1]
        rcases t3 with ⟨x, t3, t4, t5⟩ | ⟨a', S', T', t3, t4, t5, t6, t7, t8⟩
        · rw [t3] at k7
          exact Or.inl ⟨_, rfl, q - 1, by omega, t2, i + 1, by omega, Or.inr ⟨x, k7.symm, t4, t5⟩⟩
        · rw [t3] at k7
          exact Or.inl ⟨_, rfl, q - 1, by omega, t2, i + 1, by omega, Or.inl ⟨by omega, a', S', T', t5, t4, t6, rfl, t7, t8, k7⟩⟩
    · simp only at g0 k2
      subst k2
      show (∃ w', f_R_takeTexts_l2 2000 2000 cap 1000 1001 20000 (nI m) cs nu (nI e) row at' (nI x) cnt st' tx' i' = _ ∧ _) ∨ (∃ y, f_R_takeTexts_l2 2000 2000 cap 1000 1001 20000 (nI m) cs nu (nI e) row at' (nI x) cnt st' tx' i' = _ ∧ _)
      unfold f_R_takeTexts_l2
      rw [if_neg k3, ite_self]
      exact Or.inr ⟨_, rfl, g0, Or.inl ⟨x, k1, rfl, k3⟩⟩
  obtain ⟨o, h1, h2⟩ := main
  rw [h1, obs]
  exact ⟨_, rfl, h2⟩
theorem R_takeTextsF {n cap : Nat} {row : Nat → Int32} {cs nu : Nat → Int64} {m at' to' f count : Int32} {starts texts : Nat → Int32} (hn : 100 < n) (hf : ¬ f = 0) : f_R_takeTexts n 2000 2000 cap 1000 1001 20000 m cs nu at' to' f row count starts texts = some (at', f, count, starts, texts) := by
  unfold f_R_takeTexts
  obtain ⟨x, rfl⟩ : ∃ x, n = x + 1 := ⟨n - 1, by omega⟩
  have : f_R_takeTexts_l2 2000 2000 cap 1000 1001 20000 m cs nu to' row at' f count starts texts 0 = some (Sum.inr (at', f, count, starts, texts)) := by
    unfold f_R_takeTexts_l2
    rw [if_neg hf, ite_self]
  simp only [lp, this]; rfl
