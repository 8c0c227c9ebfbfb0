theorem M_take {n cap e a c bf mo : Nat} {I : List UInt8} {inp : Nat → Int32} {num : Nat → Int64} {S : Nat → Nat} {T : Nat → UInt8} {count : Int32} {wholes : Nat → Int64} {frm bytes : Nat → Int32}
    (hn : 100000 < n) (hc : cap < 100000) (hI : I.length ≤ cap) (he : e ≤ I.length) (ha : a ≤ e) (hc1 : c < 1000) (hbf : bf ≤ qlast S c) (hbm : bf + mo ≤ 255)
    (hC : VsM 3 c num S T count wholes frm bytes) (hS : TxI c S 20000) (h : QHM I inp) :
    ∃ o, f_M_take n cap 20000 1001 count (nI a) (nI e) 0 inp bytes frm (nI mo) (nI bf) = some o ∧ o.2.2.2.2 0 = nI 0 ∧
      ((∃ x, pTake I e 20000 a c S T bf mo = .inl x ∧ o.2.2.1 = nI x ∧ ¬ nI x = 0) ∨ (∃ a' S' T', pTake I e 20000 a c S T bf mo = .inr (a', S', T') ∧ a' ≤ e ∧ o.2.1 = nI a' ∧ o.2.2.1 = 0 ∧ TxI (c + 1) S' 20000 ∧ VsM 3 (c + 1) num S' T' o.1 wholes o.2.2.2.2 o.2.2.2.1)) := by
  obtain ⟨e5, e6, e7, e8⟩ := hC
  obtain ⟨e9, e10⟩ := e8 rfl
  obtain ⟨s1, s2, s3⟩ := hS
  have hl := qlast_le ⟨s1, s2, s3⟩
  have e20 : (20000 : Int32) = nI 20000 := rfl
  unfold f_M_take f_M_take_j46 pTake
  subst e5
  have g0 : ∀ {α : Type} {t : Option α}, gd (inB (nI c) 1001) t = t := fun {α t} => gd_nI (by omega) (by omega)
  rw [nI_sub ha, ifle (by omega) (by omega), g0, g0, qn_clamp (by omega), e9 c (by omega), qn_add, qn_add, e20, ifle (by omega) (by omega)]
  by_cases c1 : e - a < mo
  · rw [if_pos c1, if_neg (show ¬ mo ≤ e - a by omega), if_neg (show ¬ (1 : Int32) = 0 by decide)]
    exact ⟨_, rfl, e7, Or.inl ⟨1, rfl, rfl, by decide⟩⟩
  · rw [if_neg c1, if_pos (show mo ≤ e - a by omega)]
    by_cases c7 : 20000 < S c + bf + mo
    · rw [if_pos c7, if_neg (show ¬ S c + bf + mo ≤ 20000 by omega), if_neg (show ¬ (7 : Int32) = 0 by decide)]
      exact ⟨_, rfl, e7, Or.inl ⟨7, rfl, rfl, by decide⟩⟩
    · rw [if_neg c7, if_pos (show S c + bf + mo ≤ 20000 by omega), if_pos rfl, bnd_eq]
      have l1 : ∃ o, lp (fun v => f_M_take_l67 20000 1001 (nI c) frm (nI bf) (nI (S c)) v.1 v.2) n (bytes, (0 : Int32)) = some o ∧ ∀ j, j < S c + bf → o.1 j = um (tT I S T c a bf j) := by
        refine lp_inv (fun q u => ∃ i, i + q = bf ∧ u.2 = nI i ∧ ∀ j, j < S c + i → u.1 j = um (tT I S T c a bf j)) _ ?_ bf n _ ⟨0, by omega, rfl, fun j hj => by show bytes j = _; rw [e10 j hj]; unfold tT; rw [if_pos (by omega)]⟩ (by omega)
        rintro q ⟨g, i'⟩ ⟨i, g1, g2, g3⟩
        simp only at g2 g3
        subst g2
        show (∃ w', f_M_take_l67 20000 1001 (nI c) frm (nI bf) (nI (S c)) g (nI i) = _ ∧ _) ∨ (∃ x, f_M_take_l67 20000 1001 (nI c) frm (nI bf) (nI (S c)) g (nI i) = _ ∧ _)
        unfold f_M_take_l67
        rw [ifle (by omega) (by omega)]
        by_cases ci : bf ≤ i
        · have : i = bf := by omega
          subst this
          rw [if_pos ci]
          exact Or.inr ⟨_, rfl, g3⟩
        · have hc0 : ¬ c = 0 := by
            intro h0
            unfold qlast at hbf
            rw [if_pos h0] at hbf
            omega
          have hbf' : bf ≤ S c - S (c - 1) := by
            unfold qlast at hbf
            rw [if_neg hc0] at hbf
            exact hbf
          have ec1 : nI c - 1 = nI (c - 1) := nI_sub (show 1 ≤ c by omega)
          have e1 : nI i + 1 = nI (i + 1) := qn_add i 1
          rw [if_neg ci, ec1, gd_nI (by omega) (by omega), qn_clamp (by omega), e9 (c - 1) (by omega), qn_add, gd_nI (by omega) (by omega), bnd_eq, qn_add, gd_nI (by omega) (by omega), bnd_eq, qn_clamp (by omega), qn_clamp (by omega), e1]
          refine Or.inl ⟨_, rfl, q - 1, by omega, i + 1, by omega, rfl, ?_⟩
          intro j hj
          show upd g (S c + i) (g (S (c - 1) + i)) j = _
          unfold upd
          by_cases ej : j = S c + i
          · rw [if_pos ej, g3 _ (by omega), ej]
            congr 1
            unfold tT
            rw [if_pos (by omega), if_neg (by omega), if_pos (by omega), show S c + i - S c = i by omega]
          · rw [if_neg ej, g3 j (by omega)]
      obtain ⟨o1, l2, l3⟩ := l1
      rw [l2, obs]
      unfold f_M_take_j107
      have l4 : ∃ o, lp (fun v => f_M_take_l110 cap 20000 (nI a) inp (nI mo) (nI bf) (nI (S c)) v.1 v.2) n (o1.1, (0 : Int32)) = some o ∧ ∀ j, j < S c + bf + mo → o.1 j = um (tT I S T c a bf j) := by
        refine lp_inv (fun q u => ∃ i, i + q = mo ∧ u.2 = nI i ∧ ∀ j, j < S c + bf + i → u.1 j = um (tT I S T c a bf j)) _ ?_ mo n _ ⟨0, by omega, rfl, l3⟩ (by omega)
        rintro q ⟨g, i'⟩ ⟨i, g1, g2, g3⟩
        simp only at g2 g3
        subst g2
        show (∃ w', f_M_take_l110 cap 20000 (nI a) inp (nI mo) (nI bf) (nI (S c)) g (nI i) = _ ∧ _) ∨ (∃ x, f_M_take_l110 cap 20000 (nI a) inp (nI mo) (nI bf) (nI (S c)) g (nI i) = _ ∧ _)
        unfold f_M_take_l110
        rw [ifle (by omega) (by omega)]
        by_cases ci : mo ≤ i
        · have : i = mo := by omega
          subst this
          rw [if_pos ci]
          exact Or.inr ⟨_, rfl, g3⟩
        · have e1 : nI i + 1 = nI (i + 1) := qn_add i 1
          rw [if_neg ci, qn_add, gd_nI (by omega) (by omega), bnd_eq, qn_add, qn_add, gd_nI (by omega) (by omega), bnd_eq, qn_clamp (by omega), qn_clamp (by omega), e1]
          refine Or.inl ⟨_, rfl, q - 1, by omega, i + 1, by omega, rfl, ?_⟩
          intro j hj
          show upd g (S c + bf + i) (inp (a + i)) j = _
          unfold upd
          by_cases ej : j = S c + bf + i
          · rw [if_pos ej, h (a + i) (by omega), ej]
            congr 1
            unfold tT
            rw [if_neg (by omega), if_neg (by omega), show a + (S c + bf + i - S c - bf) = a + i by omega, List.getD_eq_getElem?_getD, List.getElem?_eq_getElem (show a + i < I.length by omega)]; rfl
          · rw [if_neg ej, g3 j (by omega)]
      obtain ⟨o4, l5, l6⟩ := l4
      rw [l5, obs]
      unfold f_M_take_j145
      have ec1 : nI c + 1 = nI (c + 1) := qn_add c 1
      rw [bnd_eq, bnd_eq, bnd_eq, ec1, gd_nI (by omega) (by omega), qn_add, qn_add, qn_add, qn_clamp (by omega)]
      refine ⟨_, rfl, ?_, Or.inr ⟨_, _, _, rfl, by omega, rfl, rfl, TxI_step ⟨s1, s2, s3⟩ hbm (by omega), rfl, fun h0 => absurd rfl h0, ?_, fun _ => ⟨?_, ?_⟩⟩⟩
      · show upd frm (c + 1) (nI (S c + bf + mo)) 0 = _
        unfold upd; rw [if_neg (by omega)]; exact e7
      · show upd frm (c + 1) (nI (S c + bf + mo)) 0 = _
        unfold upd; rw [if_neg (by omega)]; exact e7
      · intro i hi
        show upd frm (c + 1) (nI (S c + bf + mo)) i = _
        unfold upd tS
        by_cases ei : i = c + 1
        · rw [if_pos ei, if_neg (by omega), Nat.add_assoc]
        · rw [if_neg ei, if_pos (by omega)]; exact e9 i (by omega)
      · intro j hj
        apply l6 j
        unfold tS at hj
        rw [if_neg (by omega)] at hj
        omega
theorem pText_plain {I : List UInt8} {e K a c : Nat} {S : Nat → Nat} {T : Nat → UInt8} {mo : Nat} : pText I e K a c S T 0 mo = if 255 < mo then .inl 7 else pTake I e K a c S T 0 mo := by
  unfold pText
  by_cases h : 255 < mo
  · rw [if_pos h, if_neg (by omega)]
  · rw [if_neg h, if_pos (by omega)]
/-- plain texts: the reference -/
theorem M_readPlain {n cap e a m : Nat} {I : List UInt8} {inp : Nat → Int32} {num : Nat → Int64} {S : Nat → Nat} {T : Nat → UInt8} {wholes : Nat → Int64} {frm bytes : Nat → Int32}
    (hn : 100000 < n) (hc : cap < 100000) (hI : I.length ≤ cap) (he : e ≤ I.length) (ha : a ≤ e) (hm : m ≤ 1000)
    (hC : VsM 3 0 num S T 0 wholes frm bytes) (hS : TxI 0 S 20000) (h : QHM I inp) :
    ∃ o, f_M_readPlain n cap 20000 1001 0 (nI a) (nI e) 0 inp bytes frm (nI m) = some o ∧ o.2.2.2.2 0 = nI 0 ∧
      ((∃ x, pTxt I e 20000 (stPlain I e) m 0 a S T = .inl x ∧ o.2.2.1 = nI x ∧ ¬ nI x = 0) ∨ (∃ a' S' T', pTxt I e 20000 (stPlain I e) m 0 a S T = .inr (a', S', T') ∧ a' ≤ e ∧ o.2.1 = nI a' ∧ o.2.2.1 = 0 ∧ TxI m S' 20000 ∧ VsM 3 m num S' T' o.1 wholes o.2.2.2.2 o.2.2.2.1)) := by
  unfold f_M_readPlain
  have main : ∃ o, lp (fun v => f_M_readPlain_l2 n cap 20000 1001 (nI e) inp (nI m) v.1 v.2.1 v.2.2.1 v.2.2.2.1 v.2.2.2.2.1 v.2.2.2.2.2) n ((0 : Int32), nI a, (0 : Int32), bytes, frm, (0 : Int32)) = some o ∧ o.2.2.2.2 0 = nI 0 ∧
      ((∃ x, pTxt I e 20000 (stPlain I e) m 0 a S T = .inl x ∧ o.2.2.1 = nI x ∧ ¬ nI x = 0) ∨ (∃ a' S' T', pTxt I e 20000 (stPlain I e) m 0 a S T = .inr (a', S', T') ∧ a' ≤ e ∧ o.2.1 = nI a' ∧ o.2.2.1 = 0 ∧ TxI m S' 20000 ∧ VsM 3 m num S' T' o.1 wholes o.2.2.2.2 o.2.2.2.1)) := by
    refine lp_inv (fun q u => u.2.2.2.2.1 0 = nI 0 ∧ ∃ i, i + q = m + 1 ∧ ((i ≤ m ∧ ∃ b S1 T1, u.2.1 = nI b ∧ b ≤ e ∧ u.2.2.1 = 0 ∧ u.2.2.2.2.2 = nI i ∧ TxI i S1 20000 ∧ VsM 3 i num S1 T1 u.1 wholes u.2.2.2.2.1 u.2.2.2.1 ∧ pTxt I e 20000 (stPlain I e) (m - i) i b S1 T1 = pTxt I e 20000 (stPlain I e) m 0 a S T) ∨ (∃ x, pTxt I e 20000 (stPlain I e) m 0 a S T = .inl x ∧ u.2.2.1 = nI x ∧ ¬ nI x = 0))) _ ?_ (m + 1) n _ ⟨hC.2.2.1, 0, by omega, Or.inl ⟨by omega, a, S, T, rfl, ha, rfl, rfl, hS, hC, rfl⟩⟩ (by omega)
    rintro q ⟨cnt, at', fa, by', fr', i'⟩ ⟨g0, i, g1, (⟨g2, b, S1, T1, k1, k2, k3, k4, k5, k6, k7⟩ | ⟨x, k1, k2, k3⟩)⟩
    · simp only at g0 k1 k3 k4 k6
      subst k1; subst k3; subst k4
      show (∃ w', f_M_readPlain_l2 n cap 20000 1001 (nI e) inp (nI m) cnt (nI b) 0 by' fr' (nI i) = _ ∧ _) ∨ (∃ y, f_M_readPlain_l2 n cap 20000 1001 (nI e) inp (nI m) cnt (nI b) 0 by' fr' (nI i) = _ ∧ _)
      unfold f_M_readPlain_l2
      rw [ifle (by omega) (by omega)]
      by_cases ci : m ≤ i
      · have : i = m := by omega
        subst this
        rw [if_pos ci]
        rw [Nat.sub_self] at k7
        exact Or.inr ⟨_, rfl, g0, Or.inr ⟨b, S1, T1, k7.symm, k2, rfl, rfl, k5, k6⟩⟩
      · have hun : pTxt I e 20000 (stPlain I e) m 0 a S T = match stPlain I e i b with
            | .inl x => .inl x
            | .inr (a1, cm, mo) =>
              match pText I e 20000 a1 i S1 T1 cm mo with
              | .inl x => .inl x
              | .inr (a', S', T') => pTxt I e 20000 (stPlain I e) (m - (i + 1)) (i + 1) a' S' T' := by
          rw [← k7, show m - i = (m - (i + 1)) + 1 by omega]; rfl
        have e1 : nI i + 1 = nI (i + 1) := qn_add i 1
        unfold stPlain at hun
        obtain ⟨o, p1', p2⟩ := M_varint (n := n) (cap := cap) (e := e) (a := b) (I := I) (inp := inp) (by omega) hc hI he k2 h
        rw [if_neg ci, if_pos rfl, p1', obs]
        unfold f_M_readPlain_j44 f_M_readPlain_j50
        have e255 : (255 : Int64) = ql64 255 := rfl
        cases hp : pVar I e b with
        | inl x =>
          rw [hp] at p2 hun
          obtain ⟨q1, q2, q3⟩ := p2
          have hF : ¬ o.2.2 = 0 := by rw [q2]; exact q3
          rw [if_neg hF, if_neg hF, bnd_eq]
          exact Or.inl ⟨_, rfl, q - 1, by omega, g0, i + 1, by omega, Or.inr ⟨x, hun, q2, q3⟩⟩
        | inr av =>
          obtain ⟨a1, v⟩ := av
          rw [hp] at p2 hun
          obtain ⟨q1, q2, q3⟩ := p2
          obtain ⟨v1, v2, v3⟩ := pVar_a hp
          simp only at hun
          rw [pText_plain] at hun
          rw [q1, q2, q3, if_pos rfl, e255, lrange v3 (by omega), if_neg (show ¬ (7 : Int32) = 0 by decide), if_pos rfl]
          by_cases c7 : 255 < v
          · rw [if_pos c7] at hun
            rw [if_pos c7, bnd_eq]
            exact Or.inl ⟨_, rfl, q - 1, by omega, g0, i + 1, by omega, Or.inr ⟨7, hun, rfl, by decide⟩⟩
          · rw [if_neg c7] at hun
            have ev : (ql64 v).toInt32 = nI v := l64_i32 (by omega)
            obtain ⟨ot, t1, t2, t3⟩ := M_take (n := n) (cap := cap) (e := e) (a := a1) (c := i) (bf := 0) (mo := v) (I := I) (inp := inp) (num := num) (S := S1) (T := T1) (count := cnt) (wholes := wholes) (frm := fr') (bytes := by') hn hc hI he v2 (by omega) (by omega) (by omega) k6 k5 h
            have t1' : f_M_take n cap 20000 1001 cnt (nI a1) (nI e) 0 inp by' fr' (nI v) 0 = some ot := t1
            rw [if_neg c7, ev, t1', obs, bnd_eq, e1]
            rcases t3 with ⟨x, t3, t4, t5⟩ | ⟨a', S', T', t3, t4, t5, t6, t7, t8⟩
            · rw [t3] at hun
              exact Or.inl ⟨_, rfl, q - 1, by omega, t2, i + 1, by omega, Or.inr ⟨x, hun, t4, t5⟩⟩
            · rw [t3] at hun
              exact Or.inl ⟨_, rfl, q - 1, by omega, t2, i + 1, by omega, Or.inl ⟨by omega, a', S', T', t5, t4, t6, rfl, t7, t8, hun.symm⟩⟩
    · simp only at g0 k2
      subst k2
      show (∃ w', f_M_readPlain_l2 n cap 20000 1001 (nI e) inp (nI m) cnt at' (nI x) by' fr' i' = _ ∧ _) ∨ (∃ y, f_M_readPlain_l2 n cap 20000 1001 (nI e) inp (nI m) cnt at' (nI x) by' fr' i' = _ ∧ _)
      unfold f_M_readPlain_l2
      rw [if_neg k3, ite_self]
      exact Or.inr ⟨_, rfl, g0, Or.inl ⟨x, k1, rfl, k3⟩⟩
  obtain ⟨o, h1, h2⟩ := main
  rw [h1, obs]
  exact ⟨_, rfl, h2⟩
