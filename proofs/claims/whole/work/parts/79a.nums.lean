def wv (t v : Nat) : Int64 := if t = 1 then (ql64 v).toInt32.toInt64 else ql64 v
theorem wv_holds {t : Nat} (v : Nat) (h : t = 1 ∨ t = 2) : holdsT t (wv t v) := by
  unfold holdsT wv
  rcases h with h | h
  · subst h
    refine ⟨fun h0 => absurd h0 (by omega), fun _ => ?_⟩
    rw [if_pos rfl]
    simp
  · subst h
    exact ⟨fun h0 => absurd h0 (by omega), fun h1 => absurd h1 (by omega)⟩
def pNumsG (I : List UInt8) (e t : Nat) : Nat → Nat → Nat → (Nat → Int64) → Nat ⊕ (Nat × (Nat → Int64))
  | 0, _, a, f => .inr (a, f)
  | q + 1, i, a, f =>
    match pFix I e a (qwide t) with
    | .inl x => .inl x
    | .inr (a', v) => pNumsG I e t q (i + 1) a' (fun j => if j = i then wv t v else f j)
theorem pNumsG_step {I : List UInt8} {e t m i b : Nat} {f : Nat → Int64} (hi : i < m) : pNumsG I e t (m - i) i b f = match pFix I e b (qwide t) with
    | .inl x => .inl x
    | .inr (a', v) => pNumsG I e t (m - (i + 1)) (i + 1) a' (fun j => if j = i then wv t v else f j) := by
  rw [show m - i = (m - (i + 1)) + 1 by omega]; rfl
theorem pNumsG_holds {I : List UInt8} {e t : Nat} (ht : t = 1 ∨ t = 2) : ∀ {q i a a' : Nat} {f f' : Nat → Int64}, (∀ j, j < i → holdsT t (f j)) → pNumsG I e t q i a f = .inr (a', f') → ∀ j, j < i + q → holdsT t (f' j) := by
  intro q
  induction q with
  | zero => intro i a a' f f' h hp j hj; simp only [pNumsG] at hp; cases hp; exact h j hj
  | succ q ih =>
    intro i a a' f f' h hp j hj
    simp only [pNumsG] at hp
    split at hp
    · cases hp
    · refine ih ?_ hp j (by omega)
      intro k hk
      by_cases ek : k = i
      · rw [if_pos ek]; exact wv_holds _ ht
      · rw [if_neg ek]; exact h k (by omega)
theorem pFix_a {I : List UInt8} {e a q a' v : Nat} (ha : a ≤ e) (h : pFix I e a q = .inr (a', v)) : a' ≤ e := by
  unfold pFix at h
  split at h
  · cases h
  · cases h; omega
theorem qwide8 (t : Nat) : qwide t ≤ 8 := by unfold qwide; split <;> omega
theorem R_plainN {n cap e a m t : Nat} {I : List UInt8} {row : Nat → Int32} {S : Nat → Nat} {T : Nat → UInt8} {num : Nat → Int64} {ofTexts count : Int32} {numbers : Nat → Int64} {starts texts : Nat → Int32}
    (hn : 100000 < n) (hc : cap < 100000) (hI : I.length ≤ cap) (he : e ≤ I.length) (ha : a ≤ e) (hm : m ≤ 1000) (ht : t = 1 ∨ t = 2)
    (hC : VsC t 0 num S T ofTexts count numbers starts texts) (h : HC I row) :
    ∃ o, f_R_takePlain n cap 1000 1001 20000 (nI t) (nI a) (nI e) 0 row count numbers starts texts (nI m) = some o ∧ o.2.2.2.2.1 0 = nI 0 ∧
      ((∃ x, pNumsG I e t m 0 a num = .inl x ∧ o.2.1 = nI x ∧ ¬ nI x = 0) ∨ (∃ a' f, pNumsG I e t m 0 a num = .inr (a', f) ∧ a' ≤ e ∧ o.1 = nI a' ∧ o.2.1 = 0 ∧ VsC t m f S T ofTexts o.2.2.1 o.2.2.2.1 o.2.2.2.2.1 o.2.2.2.2.2)) := by
  unfold f_R_takePlain
  have main : ∃ o, lp (fun v => f_R_takePlain_l2 n cap 1000 1001 20000 (nI t) (nI e) row (nI m) v.1 v.2.1 v.2.2.1 v.2.2.2.1 v.2.2.2.2.1 v.2.2.2.2.2.1 v.2.2.2.2.2.2) n (nI a, (0 : Int32), count, numbers, starts, texts, (0 : Int32)) = some o ∧ o.2.2.2.2.1 0 = nI 0 ∧
      ((∃ x, pNumsG I e t m 0 a num = .inl x ∧ o.2.1 = nI x ∧ ¬ nI x = 0) ∨ (∃ a' f, pNumsG I e t m 0 a num = .inr (a', f) ∧ a' ≤ e ∧ o.1 = nI a' ∧ o.2.1 = 0 ∧ VsC t m f S T ofTexts o.2.2.1 o.2.2.2.1 o.2.2.2.2.1 o.2.2.2.2.2)) := by
    refine lp_inv (fun q u => u.2.2.2.2.1 0 = nI 0 ∧ ∃ i, i + q = m + 1 ∧ ((i ≤ m ∧ ∃ b f, u.1 = nI b ∧ b ≤ e ∧ u.2.1 = 0 ∧ u.2.2.2.2.2.2 = nI i ∧ VsC t i f S T ofTexts u.2.2.1 u.2.2.2.1 u.2.2.2.2.1 u.2.2.2.2.2.1 ∧ pNumsG I e t (m - i) i b f = pNumsG I e t m 0 a num) ∨ (∃ x, pNumsG I e t m 0 a num = .inl x ∧ u.2.1 = nI x ∧ ¬ nI x = 0))) _ ?_ (m + 1) n _ ⟨hC.2.2.2.1, 0, by omega, Or.inl ⟨by omega, a, num, rfl, ha, rfl, rfl, hC, rfl⟩⟩ (by omega)
    rintro q ⟨at', fa, cnt, nu, st', tx', i'⟩ ⟨g0, i, g1, (⟨g2, b, f, k1, k2, k3, k4, k6, k7⟩ | ⟨x, k1, k2, k3⟩)⟩
    · simp only at g0 k1 k3 k4 k6
      subst k1; subst k3; subst k4
      show (∃ w', f_R_takePlain_l2 n cap 1000 1001 20000 (nI t) (nI e) row (nI m) (nI b) 0 cnt nu st' tx' (nI i) = _ ∧ _) ∨ (∃ y, f_R_takePlain_l2 n cap 1000 1001 20000 (nI t) (nI e) row (nI m) (nI b) 0 cnt nu st' tx' (nI i) = _ ∧ _)
      unfold f_R_takePlain_l2
      rw [ifle (by omega) (by omega)]
      by_cases ci : m ≤ i
      · have : i = m := by omega
        subst this
        rw [if_pos ci]
        rw [Nat.sub_self] at k7
        exact Or.inr ⟨_, rfl, g0, Or.inr ⟨b, f, k7.symm, k2, rfl, rfl, k6⟩⟩
      · rw [pNumsG_step (by omega)] at k7
        have e1 : nI i + 1 = nI (i + 1) := qn_add i 1
        have i3 : (3 : Int32) = nI 3 := rfl
        have i1 : (1 : Int32) = nI 1 := rfl
        obtain ⟨c1, c2, c3, c4, c5⟩ := k6
        have hnum : ∀ v : Int64, VsC t (i + 1) (fun j => if j = i then v else f j) S T ofTexts (nI (i + 1)) (vp_updL nu i v) st' tx' := by
          intro v
          refine ⟨c1, rfl, fun h3 j hj => ?_, c4, fun h3 => absurd h3 (by omega)⟩
          show vp_updL nu i v j = if j = i then v else f j
          unfold vp_updL
          by_cases ej : j = i
          · rw [if_pos ej, if_pos ej]
          · rw [if_neg ej, if_neg ej]; exact c3 h3 j (by omega)
        have hstep : ∃ o, f_S_lowestFirst n cap (nI b) (nI e) 0 row (nI (qwide t)) = some o ∧ VR (pFix I e b (qwide t)) o := S_lowestFirst (by omega) hc hI he k2 (qwide8 t) h
        obtain ⟨o, p1, p2⟩ := hstep
        have hsel : (if nI t = (3 : Int32) then Option.bind (f_S_varint n cap (nI b) (nI e) 0 row) (fun o31 => Option.bind (f_R_takeText cap 1000 1001 20000 o31.2.1 (nI e) o31.2.2 row cnt st' tx' (0 : Int64) o31.1) (fun o32 => bnd (nI i + (1 : Int32)) (fun x33 => some (Sum.inl (o32.1, o32.2.1, o32.2.2.1, nu, o32.2.2.2.1, o32.2.2.2.2, x33))))) else (if nI t = (1 : Int32) then Option.bind (f_S_lowestFirst n cap (nI b) (nI e) 0 row (4 : Int32)) (fun o22 => Option.bind (f_V_addNumber 1000 cnt nu o22.1.toInt32.toInt64) (fun o23 => bnd (nI i + (1 : Int32)) (fun x24 => some (Sum.inl (o22.2.1, o22.2.2, o23.2.1, o23.2.2, st', tx', x24))))) else Option.bind (f_S_lowestFirst n cap (nI b) (nI e) 0 row (8 : Int32)) (fun o13 => Option.bind (f_V_addNumber 1000 cnt nu o13.1) (fun o14 => bnd (nI i + (1 : Int32)) (fun x15 => some (Sum.inl (o13.2.1, o13.2.2, o14.2.1, o14.2.2, st', tx', x15))))))) = (some (Sum.inl (o.2.1, o.2.2, nI (i + 1), vp_updL nu i (if t = 1 then o.1.toInt32.toInt64 else o.1), st', tx', nI (i + 1))) : Option ((Int32 × Int32 × Int32 × (Nat → Int64) × (Nat → Int32) × (Nat → Int32) × Int32) ⊕ (Int32 × Int32 × Int32 × (Nat → Int64) × (Nat → Int32) × (Nat → Int32)))) := by
          rw [i3, i1, ife (by omega) (by omega), ife (by omega) (by omega), if_neg (show ¬ t = 3 by omega), c2]
          rcases ht with h1 | h2
          · have p1' : f_S_lowestFirst n cap (nI b) (nI e) 0 row 4 = some o := by
              have := p1; unfold qwide at this; rw [if_pos h1] at this; exact this
            rw [if_pos h1, if_pos h1, p1', obs, V_addNumber _ (by omega) (by omega), obs, bnd_eq]
            exact congrArg (fun z => some (Sum.inl (o.2.1, o.2.2, nI (i + 1), vp_updL nu i o.1.toInt32.toInt64, st', tx', z))) e1
          · have p1' : f_S_lowestFirst n cap (nI b) (nI e) 0 row 8 = some o := by
              have := p1; unfold qwide at this; rw [if_neg (show ¬ t = 1 by omega)] at this; exact this
            rw [if_neg (show ¬ t = 1 by omega), if_neg (show ¬ t = 1 by omega), p1', obs, V_addNumber _ (by omega) (by omega), obs, bnd_eq]
            exact congrArg (fun z => some (Sum.inl (o.2.1, o.2.2, nI (i + 1), vp_updL nu i o.1, st', tx', z))) e1
        rw [if_neg ci, if_pos rfl, hsel]
        cases hp : pFix I e b (qwide t) with
        | inl x =>
          rw [hp] at p2 k7
          obtain ⟨q1, q2, q3⟩ := p2
          exact Or.inl ⟨_, rfl, q - 1, by omega, g0, i + 1, by omega, Or.inr ⟨x, k7.symm, q2, q3⟩⟩
        | inr av =>
          obtain ⟨a', v⟩ := av
          have hle := pFix_a k2 hp
          rw [hp] at p2 k7
          obtain ⟨q1, q2, q3⟩ := p2
          refine Or.inl ⟨_, rfl, q - 1, by omega, g0, i + 1, by omega, Or.inl ⟨by omega, a', _, q2, hle, q3, rfl, ?_, k7⟩⟩
          have := hnum (wv t v)
          unfold wv at this ⊢
          rw [q1]
          exact this
    · simp only at g0 k2
      subst k2
      show (∃ w', f_R_takePlain_l2 n cap 1000 1001 20000 (nI t) (nI e) row (nI m) at' (nI x) cnt nu st' tx' i' = _ ∧ _) ∨ (∃ y, f_R_takePlain_l2 n cap 1000 1001 20000 (nI t) (nI e) row (nI m) at' (nI x) cnt nu st' tx' i' = _ ∧ _)
      unfold f_R_takePlain_l2
      rw [if_neg k3, ite_self]
      exact Or.inr ⟨_, rfl, g0, Or.inl ⟨x, k1, rfl, k3⟩⟩
  obtain ⟨o, h1, h2⟩ := main
  rw [h1, obs]
  exact ⟨_, rfl, h2⟩
theorem R_plainT {n cap e a m : Nat} {I : List UInt8} {row : Nat → Int32} {S : Nat → Nat} {T : Nat → UInt8} {num : Nat → Int64} {ofTexts count : Int32} {numbers : Nat → Int64} {starts texts : Nat → Int32}
    (hn : 100000 < n) (hc : cap < 100000) (hI : I.length ≤ cap) (he : e ≤ I.length) (ha : a ≤ e) (hm : m ≤ 1000)
    (hC : VsC 3 0 num S T ofTexts count numbers starts texts) (hS : TxI 0 S 20000) (h : HC I row) :
    ∃ o, f_R_takePlain n cap 1000 1001 20000 (nI 3) (nI a) (nI e) 0 row count numbers starts texts (nI m) = some o ∧ o.2.2.2.2.1 0 = nI 0 ∧ o.2.2.2.1 = numbers ∧
      ((∃ x, pTxt I e 20000 (stPlain I e) m 0 a S T = .inl x ∧ o.2.1 = nI x ∧ ¬ nI x = 0) ∨ (∃ a' S' T', pTxt I e 20000 (stPlain I e) m 0 a S T = .inr (a', S', T') ∧ a' ≤ e ∧ o.1 = nI a' ∧ o.2.1 = 0 ∧ TxI m S' 20000 ∧ VsC 3 m num S' T' ofTexts o.2.2.1 o.2.2.2.1 o.2.2.2.2.1 o.2.2.2.2.2)) := by
  unfold f_R_takePlain
  have main : ∃ o, lp (fun v => f_R_takePlain_l2 n cap 1000 1001 20000 (nI 3) (nI e) row (nI m) v.1 v.2.1 v.2.2.1 v.2.2.2.1 v.2.2.2.2.1 v.2.2.2.2.2.1 v.2.2.2.2.2.2) n (nI a, (0 : Int32), count, numbers, starts, texts, (0 : Int32)) = some o ∧ o.2.2.2.2.1 0 = nI 0 ∧ o.2.2.2.1 = numbers ∧
      ((∃ x, pTxt I e 20000 (stPlain I e) m 0 a S T = .inl x ∧ o.2.1 = nI x ∧ ¬ nI x = 0) ∨ (∃ a' S' T', pTxt I e 20000 (stPlain I e) m 0 a S T = .inr (a', S', T') ∧ a' ≤ e ∧ o.1 = nI a' ∧ o.2.1 = 0 ∧ TxI m S' 20000 ∧ VsC 3 m num S' T' ofTexts o.2.2.1 o.2.2.2.1 o.2.2.2.2.1 o.2.2.2.2.2)) := by
    refine lp_inv (fun q u => u.2.2.2.2.1 0 = nI 0 ∧ u.2.2.2.1 = numbers ∧ ∃ i, i + q = m + 1 ∧ ((i ≤ m ∧ ∃ b S1 T1, u.1 = nI b ∧ b ≤ e ∧ u.2.1 = 0 ∧ u.2.2.2.2.2.2 = nI i ∧ TxI i S1 20000 ∧ VsC 3 i num S1 T1 ofTexts u.2.2.1 u.2.2.2.1 u.2.2.2.2.1 u.2.2.2.2.2.1 ∧ pTxt I e 20000 (stPlain I e) (m - i) i b S1 T1 = pTxt I e 20000 (stPlain I e) m 0 a S T) ∨ (∃ x, pTxt I e 20000 (stPlain I e) m 0 a S T = .inl x ∧ u.2.1 = nI x ∧ ¬ nI x = 0))) _ ?_ (m + 1) n _ ⟨hC.2.2.2.1, rfl, 0, by omega, Or.inl ⟨by omega, a, S, T, rfl, ha, rfl, rfl, hS, hC, rfl⟩⟩ (by omega)
    rintro q ⟨at', fa, cnt, nu, st', tx', i'⟩ ⟨g0, gn, i, g1, (⟨g2, b, S1, T1, k1, k2, k3, k4, k5, k6, k7⟩ | ⟨x, k1, k2, k3⟩)⟩
    · simp only at g0 gn k1 k3 k4 k6
      subst k1; subst k3; subst k4
      show (∃ w', f_R_takePlain_l2 n cap 1000 1001 20000 (nI 3) (nI e) row (nI m) (nI b) 0 cnt nu st' tx' (nI i) = _ ∧ _) ∨ (∃ y, f_R_takePlain_l2 n cap 1000 1001 20000 (nI 3) (nI e) row (nI m) (nI b) 0 cnt nu st' tx' (nI i) = _ ∧ _)
      unfold f_R_takePlain_l2
      rw [ifle (by omega) (by omega)]
      by_cases ci : m ≤ i
      · have : i = m := by omega
        subst this
        rw [if_pos ci]
        rw [Nat.sub_self] at k7
        exact Or.inr ⟨_, rfl, g0, gn, Or.inr ⟨b, S1, T1, k7.symm, k2, rfl, rfl, k5, k6⟩⟩
      · rw [pTxt_step (by omega)] at k7
        have e1 : nI i + 1 = nI (i + 1) := qn_add i 1
        unfold stPlain at k7
        obtain ⟨o, p1', p2⟩ := S_varint (n := n) (cap := cap) (e := e) (a := b) (I := I) (row := row) (by omega) hc hI he k2 h
        rw [if_neg ci, if_pos rfl, if_pos (show nI 3 = 3 from rfl), p1', obs]
        cases hp : pVar I e b with
        | inl x =>
          rw [hp] at p2 k7
          obtain ⟨q1, q2, q3⟩ := p2
          have hF : ¬ o.2.2 = 0 := by rw [q2]; exact q3
          rw [q1, R_takeTextF (c := i) hF (by omega) (by omega) (by omega) k6 k5, obs, bnd_eq]
          exact Or.inl ⟨_, rfl, q - 1, by omega, g0, gn, i + 1, by omega, Or.inr ⟨x, k7.symm, q2, q3⟩⟩
        | inr av =>
          obtain ⟨a1, v⟩ := av
          rw [hp] at p2 k7
          obtain ⟨q1, q2, q3⟩ := p2
          obtain ⟨v1, v2, v3⟩ := pVar_a hp
          simp only at k7
          obtain ⟨ot, t1, t2, _, t3⟩ := R_takeText (cap := cap) (nm := 1000) (sn := 1001) (tn := 20000) (e := e) (a := a1) (c := i) (cm := 0) (mo := v) (I := I) (row := row) (num := num) (S := S1) (T := T1) (ofTexts := ofTexts) (count := cnt) (numbers := nu) (starts := st') (texts := tx') hc hI he v2 (by omega) (by omega) (by omega) (by omega) (by omega) v3 k6 k5 h
          have t1' : f_R_takeText cap 1000 1001 20000 (nI a1) (nI e) 0 row cnt st' tx' 0 (ql64 v) = some ot := t1
          rw [q1, q2, q3, t1', obs, bnd_eq, e1]
          rcases t3 with ⟨x, t3, t4, t5⟩ | ⟨a', S', T', t3, t4, t5, t6, t7, t8⟩
          · rw [t3] at k7
            exact Or.inl ⟨_, rfl, q - 1, by omega, t2, gn, i + 1, by omega, Or.inr ⟨x, k7.symm, t4, t5⟩⟩
          · rw [t3] at k7
            exact Or.inl ⟨_, rfl, q - 1, by omega, t2, gn, i + 1, by omega, Or.inl ⟨by omega, a', S', T', t5, t4, t6, rfl, t7, t8, k7⟩⟩
    · simp only at g0 gn k2
      subst k2
      show (∃ w', f_R_takePlain_l2 n cap 1000 1001 20000 (nI 3) (nI e) row (nI m) at' (nI x) cnt nu st' tx' i' = _ ∧ _) ∨ (∃ y, f_R_takePlain_l2 n cap 1000 1001 20000 (nI 3) (nI e) row (nI m) at' (nI x) cnt nu st' tx' i' = _ ∧ _)
      unfold f_R_takePlain_l2
      rw [if_neg k3, ite_self]
      exact Or.inr ⟨_, rfl, g0, gn, Or.inl ⟨x, k1, rfl, k3⟩⟩
  obtain ⟨o, h1, h2⟩ := main
  rw [h1, obs]
  exact ⟨_, rfl, h2⟩
theorem M_whole {n cap e a t : Nat} {I : List UInt8} {inp : Nat → Int32} (hn : 100 < n) (hc : cap < 100000) (hI : I.length ≤ cap) (he : e ≤ I.length) (ha : a ≤ e) (ht : t = 1 ∨ t = 2) (h : QHM I inp) :
    ∃ o, f_M_whole n cap (nI t) (nI a) (nI e) 0 inp = some o ∧ ((∃ x, pFix I e a (qwide t) = .inl x ∧ o.2.2 = nI x ∧ ¬ nI x = 0) ∨ (∃ a' v, pFix I e a (qwide t) = .inr (a', v) ∧ a' ≤ e ∧ o.1 = wv t v ∧ o.2.1 = nI a' ∧ o.2.2 = 0)) := by
  unfold f_M_whole
  obtain ⟨o, p1, p2⟩ := M_fixed (n := n) (cap := cap) (e := e) (a := a) (q := qwide t) (I := I) (inp := inp) hn hc hI he ha (qwide8 t) h
  have i1 : (1 : Int32) = nI 1 := rfl
  rw [M_wide (by omega), obs, p1, obs, i1, ife (by omega) (by omega)]
  have hsel : (if t = 1 then some (o.1.toInt32.toInt64, o.2.1, o.2.2) else some (o.1, o.2.1, o.2.2)) = some ((if t = 1 then o.1.toInt32.toInt64 else o.1), o.2.1, o.2.2) := by split <;> rfl
  rw [hsel]
  refine ⟨_, rfl, ?_⟩
  cases hp : pFix I e a (qwide t) with
  | inl x =>
    rw [hp] at p2
    obtain ⟨q1, q2, q3⟩ := p2
    exact Or.inl ⟨x, rfl, q2, q3⟩
  | inr av =>
    obtain ⟨a', v⟩ := av
    have hle := pFix_a ha hp
    rw [hp] at p2
    obtain ⟨q1, q2, q3⟩ := p2
    refine Or.inr ⟨a', v, rfl, hle, ?_, q2, q3⟩
    show (if t = 1 then o.1.toInt32.toInt64 else o.1) = wv t v
    unfold wv
    rw [q1]
theorem M_plainN {n cap e a m t : Nat} {I : List UInt8} {inp : Nat → Int32} {g : Int32 → Int32 → (Nat → Int64) → Int32 → Option ((Int32 × Int32 × (Nat → Int64) × Int32) ⊕ (Int32 × Int32 × (Nat → Int64) × Int32))} {num w0 : Nat → Int64}
    (hn : 100000 < n) (hc : cap < 100000) (hI : I.length ≤ cap) (he : e ≤ I.length) (ha : a ≤ e) (hm : m ≤ 1000) (ht : t = 1 ∨ t = 2) (h : QHM I inp)
    (hg : ∀ at' fa w i, i ≤ m → g at' fa w (nI i) = if m ≤ i then some (Sum.inr (at', fa, w, nI i)) else if fa = 0 then Option.bind (f_M_whole n cap (nI t) at' (nI e) fa inp) (fun o => gd (inB (nI i) 1000) (bnd (nI i + 1) (fun x => some (Sum.inl (o.2.1, o.2.2, vp_updL w (nI i).toNatClampNeg o.1, x))))) else some (Sum.inr (at', fa, w, nI i))) :
    ∃ o, lp (fun v => g v.1 v.2.1 v.2.2.1 v.2.2.2) n (nI a, (0 : Int32), w0, (0 : Int32)) = some o ∧
      ((∃ x, pNumsG I e t m 0 a num = .inl x ∧ o.2.1 = nI x ∧ ¬ nI x = 0) ∨ (∃ a' f, pNumsG I e t m 0 a num = .inr (a', f) ∧ a' ≤ e ∧ o.1 = nI a' ∧ o.2.1 = 0 ∧ ∀ j, j < m → o.2.2.1 j = f j)) := by
  refine lp_inv (fun q u => ∃ i, i + q = m + 1 ∧ i ≤ m ∧ u.2.2.2 = nI i ∧ ((∃ b f, u.1 = nI b ∧ b ≤ e ∧ u.2.1 = 0 ∧ (∀ j, j < i → u.2.2.1 j = f j) ∧ pNumsG I e t (m - i) i b f = pNumsG I e t m 0 a num) ∨ (∃ x, pNumsG I e t m 0 a num = .inl x ∧ u.2.1 = nI x ∧ ¬ nI x = 0))) _ ?_ (m + 1) n _ ⟨0, by omega, by omega, rfl, Or.inl ⟨a, num, rfl, ha, rfl, fun j hj => absurd hj (by omega), rfl⟩⟩ (by omega)
  rintro q ⟨at', fa, w, i'⟩ ⟨i, g1, g2, g3, g4⟩
  simp only at g3 g4
  subst g3
  show (∃ w', g at' fa w (nI i) = _ ∧ _) ∨ (∃ y, g at' fa w (nI i) = _ ∧ _)
  rw [hg at' fa w i g2]
  rcases g4 with ⟨b, f, k1, k2, k3, k6, k7⟩ | ⟨x, k1, k2, k3⟩
  · subst k1; subst k3
    by_cases ci : m ≤ i
    · have : i = m := by omega
      subst this
      rw [if_pos ci]
      rw [Nat.sub_self] at k7
      exact Or.inr ⟨_, rfl, Or.inr ⟨b, f, k7.symm, k2, rfl, rfl, k6⟩⟩
    · rw [pNumsG_step (by omega)] at k7
      have e1 : nI i + 1 = nI (i + 1) := qn_add i 1
      obtain ⟨o, p1, p2⟩ := M_whole (n := n) (cap := cap) (e := e) (a := b) (t := t) (I := I) (inp := inp) (by omega) hc hI he k2 ht h
      rw [if_neg ci, if_pos rfl, p1, obs, gd_nI (by omega) (by omega), bnd_eq, qn_clamp (by omega), e1]
      rcases p2 with ⟨x, q1, q2, q3⟩ | ⟨a', v, q1, q2, q3, q4, q5⟩
      · rw [q1] at k7
        exact Or.inl ⟨_, rfl, q - 1, by omega, i + 1, by omega, by omega, rfl, Or.inr ⟨x, k7.symm, q2, q3⟩⟩
      · rw [q1] at k7
        refine Or.inl ⟨_, rfl, q - 1, by omega, i + 1, by omega, by omega, rfl, Or.inl ⟨a', (fun j => if j = i then wv t v else f j), q4, q2, q5, ?_, k7⟩⟩
        intro j hj
        show vp_updL w i o.1 j = if j = i then wv t v else f j
        unfold vp_updL
        by_cases ej : j = i
        · rw [if_pos ej, if_pos ej, q3]
        · rw [if_neg ej, if_neg ej]; exact k6 j (by omega)
  · subst k2
    rw [if_neg k3, ite_self]
    exact Or.inr ⟨_, rfl, Or.inl ⟨x, k1, rfl, k3⟩⟩
