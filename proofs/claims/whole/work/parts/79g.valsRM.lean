theorem ife1 {α : Type} {a : Nat} {x y : α} (ha : a < 2147483648) : (if nI a = 1 then x else y) = if a = 1 then x else y := ife ha (by decide)
theorem ife2 {α : Type} {a : Nat} {x y : α} (ha : a < 2147483648) : (if nI a = 2 then x else y) = if a = 2 then x else y := ife ha (by decide)
theorem ife3 {α : Type} {a : Nat} {x y : α} (ha : a < 2147483648) : (if nI a = 3 then x else y) = if a = 3 then x else y := ife ha (by decide)
theorem M_readBools {n cap e a c how : Nat} {I : List UInt8} {inp : Nat → Int32} {nw : Nat → Int64} {nums : Nat → Int32}
    (hn : 100000 < n) (hcap : cap < 100000) (hI : I.length ≤ cap) (he : e ≤ I.length) (ha : a ≤ e) (hc : c ≤ 1000) (hh : how ≤ 1) (h : QHM I inp) :
    ∃ o, f_M_readBools n cap 1000 1008 (nI a) (nI e) 0 inp nw nums (nI how) (nI c) = some o ∧ ((∃ x, pBools I e a c how = .inl x ∧ o.2.1 = nI x ∧ ¬ nI x = 0) ∨ (∃ a' f, pBools I e a c how = .inr (a', f) ∧ a' ≤ e ∧ o.1 = nI a' ∧ o.2.1 = 0 ∧ ∀ j, j < c → o.2.2.1 j = f j)) := by
  unfold f_M_readBools pBools
  have i1 : (1 : Int32) = nI 1 := rfl
  rw [ife1 (by omega)]
  by_cases ch : how = 0
  · rw [if_pos ch, if_neg (by omega), w78 (by omega), nI_sub ha, ifle (by omega) (by omega)]
    unfold pBits f_M_readBools_j101
    by_cases c1 : e - a < (c + 7) / 8
    · rw [if_pos c1, if_neg (by omega)]
      obtain ⟨y, rfl⟩ : ∃ y, n = y + 1 := ⟨n - 1, by omega⟩
      have : f_M_readBools_l103 cap 1000 (nI a) inp (nI c) 1 nw 0 = some (Sum.inr (1, nw, 0)) := by
        unfold f_M_readBools_l103
        rw [if_neg (show ¬ (1 : Int32) = 0 by decide), ite_self]
      simp only [lp, this, obs]
      exact ⟨_, rfl, Or.inl ⟨1, rfl, rfl, by decide⟩⟩
    · rw [if_neg c1, if_pos (by omega)]
      have main : ∃ o, lp (fun v => f_M_readBools_l103 cap 1000 (nI a) inp (nI c) v.1 v.2.1 v.2.2) n ((0 : Int32), nw, (0 : Int32)) = some o ∧ o.1 = (if tz (gval I 1 a) c (8 * ((c + 7) / 8)) then 0 else 5) ∧ ∀ j, j < c → o.2.1 j = ql64 (gval I 1 a j) := by
        refine lp_inv (fun q u => ∃ i, i + q = 8 * ((c + 7) / 8) + 1 ∧ ((i ≤ 8 * ((c + 7) / 8) ∧ u.2.2 = nI i ∧ u.1 = 0 ∧ tz (gval I 1 a) c i = true ∧ ∀ j, j < i → j < c → u.2.1 j = ql64 (gval I 1 a j)) ∨ (u.1 = 5 ∧ tz (gval I 1 a) c (8 * ((c + 7) / 8)) = false ∧ ∀ j, j < c → u.2.1 j = ql64 (gval I 1 a j)))) _ ?_ (8 * ((c + 7) / 8) + 1) n _ ⟨0, by omega, Or.inl ⟨by omega, rfl, rfl, rfl, fun j hj => absurd hj (by omega)⟩⟩ (by omega)
        rintro q ⟨fa, w, i'⟩ ⟨i, g1, (⟨g2, g3, g4, g5, g6⟩ | ⟨g2, g3, g4⟩)⟩
        · simp only at g3 g4 g6
          subst g3; subst g4
          show (∃ w', f_M_readBools_l103 cap 1000 (nI a) inp (nI c) 0 w (nI i) = _ ∧ _) ∨ (∃ y, f_M_readBools_l103 cap 1000 (nI a) inp (nI c) 0 w (nI i) = _ ∧ _)
          unfold f_M_readBools_l103
          have e8 : nI ((c + 7) / 8) * 8 = nI ((c + 7) / 8 * 8) := nI_mul _ 8
          have e8' : (8 : Int32) = nI 8 := rfl
          have e1 : nI i + 1 = nI (i + 1) := qn_add i 1
          rw [w78 (by omega), e8, ifle (by omega) (by omega)]
          by_cases ci : (c + 7) / 8 * 8 ≤ i
          · rw [if_pos ci]
            have hi : i = 8 * ((c + 7) / 8) := by omega
            refine Or.inr ⟨_, rfl, ?_, fun j hj => g6 j (by omega) hj⟩
            rw [← hi, g5]; rfl
          · have ep : a + i / 8 = (8 * a + i) / 8 := by omega
            have em : i % 8 = (8 * a + i) % 8 := by omega
            rw [if_neg ci, if_pos rfl, e8', nI_mod (by omega) (by omega), nI_div (by omega) (by omega), qn_add, ep, em, gd_nI (by omega) (by omega), bnd_eq, qn_clamp (by omega), M_bit h (by omega) (by omega), ifle (by omega) (by omega), ← gval1]
            have hg2 : gval I 1 a i < 2 := by rw [gval1]; split <;> omega
            by_cases cm : c ≤ i
            · rw [if_pos cm]
              by_cases cz : gval I 1 a i = 0
              · have hne : ¬ nI (gval I 1 a i) = 1 := by rw [cz]; decide
                rw [if_neg hne, bnd_eq, e1]
                refine Or.inl ⟨_, rfl, q - 1, by omega, i + 1, by omega, Or.inl ⟨by omega, rfl, rfl, ?_, fun j hj hj2 => g6 j (by omega) hj2⟩⟩
                show (tz (gval I 1 a) c i && decide (i < c ∨ gval I 1 a i = 0)) = _
                rw [decide_eq_true (show i < c ∨ gval I 1 a i = 0 from Or.inr cz), Bool.and_true, g5]
              · have h1 : gval I 1 a i = 1 := by omega
                rw [if_pos (show nI (gval I 1 a i) = 1 by rw [h1]; rfl), bnd_eq, e1]
                refine Or.inl ⟨_, rfl, q - 1, by omega, i + 1, by omega, Or.inr ⟨rfl, ?_, fun j hj => g6 j (by omega) hj⟩⟩
                have hmon : ∀ k, i < k → tz (gval I 1 a) c k = false := by
                  intro k hk
                  induction k with
                  | zero => omega
                  | succ k ih =>
                    show (tz (gval I 1 a) c k && decide (k < c ∨ gval I 1 a k = 0)) = false
                    by_cases ek : k = i
                    · subst ek
                      rw [decide_eq_false (show ¬ (k < c ∨ gval I 1 a k = 0) by omega), Bool.and_false]
                    · rw [ih (by omega), Bool.false_and]
                exact hmon _ (by omega)
            · rw [if_neg cm, gd_nI (by omega) (by omega), bnd_eq, e1, qn_clamp (by omega), lI64 (by omega)]
              refine Or.inl ⟨_, rfl, q - 1, by omega, i + 1, by omega, Or.inl ⟨by omega, rfl, rfl, ?_, ?_⟩⟩
              · show (tz (gval I 1 a) c i && decide (i < c ∨ gval I 1 a i = 0)) = _
                rw [decide_eq_true (show i < c ∨ gval I 1 a i = 0 by omega), Bool.and_true, g5]
              · intro j hj hj2
                show vp_updL w i (ql64 (gval I 1 a i)) j = _
                unfold vp_updL
                by_cases ej : j = i
                · rw [if_pos ej, ej]
                · rw [if_neg ej]; exact g6 j (by omega) hj2
        · simp only at g2 g4
          subst g2
          show (∃ w', f_M_readBools_l103 cap 1000 (nI a) inp (nI c) 5 w i' = _ ∧ _) ∨ (∃ y, f_M_readBools_l103 cap 1000 (nI a) inp (nI c) 5 w i' = _ ∧ _)
          unfold f_M_readBools_l103
          rw [if_neg (show ¬ (5 : Int32) = 0 by decide), ite_self]
          exact Or.inr ⟨_, rfl, by rw [g3]; rfl, g4⟩
      obtain ⟨o, h1, h2, h3⟩ := main
      rw [h1, obs]
      unfold f_M_readBools_j181
      rw [bnd_eq, w78 (by omega), qn_add, h2]
      by_cases ct : tz (gval I 1 a) c (8 * ((c + 7) / 8)) = true
      · rw [if_pos ct, if_pos ct]
        exact ⟨_, rfl, Or.inr ⟨_, _, rfl, by omega, rfl, rfl, h3⟩⟩
      · rw [if_neg ct, if_neg ct]
        exact ⟨_, rfl, Or.inl ⟨5, rfl, rfl, by decide⟩⟩
  · rw [if_neg ch, if_pos (show how = 1 by omega)]
    obtain ⟨orn, r1, r2⟩ := M_readRuns (n := n) (cap := cap) (pn := 1008) (e := e) (a := a) (m := c) (w := 1) (I := I) (inp := inp) (p1 := nums) hn hcap hI he ha (by omega) hc (by omega) h
    have r1' : f_M_readRuns n cap 1008 (nI a) 0 inp nums (nI c) 1 (nI e) = some orn := r1
    rw [r1', obs]
    have h43F : ∀ (at' f : Int32) (nm : Nat → Int32), ¬ f = 0 → f_M_readBools_j43 n 1000 1008 at' f nw nm (nI c) = some (at', f, nw, nm) := by
      intro at' f nm hf
      unfold f_M_readBools_j43
      obtain ⟨y, rfl⟩ : ∃ y, n = y + 1 := ⟨n - 1, by omega⟩
      have : f_M_readBools_l45 1000 1008 at' f nm (nI c) nw 0 = some (Sum.inr (at', f, nw, nm)) := by
        unfold f_M_readBools_l45
        rw [if_neg hf, ite_self]
      simp only [lp, this]; rfl
    rcases r2 with ⟨x, t1, t2, t3⟩ | ⟨b, g, t1, t2, t3, t4, t5⟩
    · have hF : ¬ orn.2.1 = 0 := by rw [t2]; exact t3
      have hE : pRunsE I e c 1 a = .inl x := by unfold pRunsE; rw [t1]
      rw [if_neg hF, h43F _ _ _ hF, hE]
      exact ⟨_, rfl, Or.inl ⟨x, rfl, t2, t3⟩⟩
    · rw [t3, t4, if_pos rfl, ifle (by omega) (by omega)]
      by_cases cb : b < e
      · have hE : pRunsE I e c 1 a = .inl 6 := by
          unfold pRunsE; rw [t1]
          show (if b < e then _ else _) = _
          rw [if_pos cb]
        rw [if_neg (by omega), h43F _ _ _ (show ¬ (6 : Int32) = 0 by decide), hE]
        exact ⟨_, rfl, Or.inl ⟨6, rfl, rfl, by decide⟩⟩
      · have hE : pRunsE I e c 1 a = .inr g := by
          unfold pRunsE; rw [t1]
          show (if b < e then _ else _) = _
          rw [if_neg cb]
        rw [if_pos (by omega), hE]
        unfold f_M_readBools_j43
        have main : ∃ o, lp (fun v => f_M_readBools_l45 1000 1008 (nI b) 0 orn.2.2 (nI c) v.1 v.2) n (nw, (0 : Int32)) = some o ∧ o.1 = nI b ∧ o.2.1 = 0 ∧ ∀ j, j < c → o.2.2.1 j = ql64 (g j) := by
          refine lp_inv (fun q u => ∃ i, i + q = c ∧ u.2 = nI i ∧ ∀ j, j < i → u.1 j = ql64 (g j)) _ ?_ c n _ ⟨0, by omega, rfl, fun j hj => absurd hj (by omega)⟩ (by omega)
          rintro q ⟨w, i'⟩ ⟨i, g1, g2, g3⟩
          simp only at g2 g3
          subst g2
          show (∃ w', f_M_readBools_l45 1000 1008 (nI b) 0 orn.2.2 (nI c) w (nI i) = _ ∧ _) ∨ (∃ y, f_M_readBools_l45 1000 1008 (nI b) 0 orn.2.2 (nI c) w (nI i) = _ ∧ _)
          unfold f_M_readBools_l45
          rw [ifle (by omega) (by omega)]
          by_cases ci : c ≤ i
          · have : i = c := by omega
            subst this
            rw [if_pos ci]
            exact Or.inr ⟨_, rfl, rfl, rfl, g3⟩
          · have e1 : nI i + 1 = nI (i + 1) := qn_add i 1
            obtain ⟨n1, n2⟩ := t5 i (by omega)
            rw [if_neg ci, if_pos rfl, gd_nI (by omega) (by omega), bnd_eq, gd_nI (by omega) (by omega), bnd_eq, qn_clamp (by omega), n1, lI64 (by omega), e1]
            refine Or.inl ⟨_, rfl, q - 1, by omega, i + 1, by omega, rfl, ?_⟩
            intro j hj
            show vp_updL w i (ql64 (g i)) j = _
            unfold vp_updL
            by_cases ej : j = i
            · rw [if_pos ej, ej]
            · rw [if_neg ej]; exact g3 j (by omega)
        obtain ⟨o, h1, h2, h3, h4⟩ := main
        rw [h1, obs]
        exact ⟨_, rfl, Or.inr ⟨e, _, rfl, Nat.le_refl _, by rw [h2, show b = e by omega], h3, h4⟩⟩
def pWholes (I : List UInt8) (e a c t how : Nat) : Nat ⊕ (Nat × (Nat → Int64)) :=
  if how = 0 then pNumsG I e t c 0 a (fun _ => 0) else if how = 1 then (match pCodeV I e a c t with | .inl x => .inl x | .inr f => .inr (e, f)) else (match pWords I e a c t with | .inl x => .inl x | .inr f => .inr (e, f))
theorem M_hold {n c t : Nat} {lg f nw : Nat → Int64} (hn : 100000 < n) (hc : c ≤ 1000) (ht : t ≤ 3) (hf : ∀ j, j < c → lg j = f j) :
    ∃ o, lp (fun v => f_M_readWholes_l53 2000 1000 (nI t) lg (nI c) v.1 v.2.1 v.2.2) n ((0 : Int32), nw, (0 : Int32)) = some o ∧ ((∃ x, pHold t c f = .inl x ∧ o.1 = nI x ∧ ¬ nI x = 0) ∨ (pHold t c f = .inr f ∧ o.1 = 0 ∧ ∀ j, j < c → o.2.1 j = f j)) := by
  refine lp_inv (fun q u => ∃ i, i + q = c + 1 ∧ ((i ≤ c ∧ u.1 = 0 ∧ u.2.2 = nI i ∧ HAll t f i ∧ ∀ j, j < i → u.2.1 j = f j) ∨ (u.1 = 7 ∧ ¬ HAll t f c))) _ ?_ (c + 1) n _ ⟨0, by omega, Or.inl ⟨by omega, rfl, rfl, fun i hi => absurd hi (by omega), fun i hi => absurd hi (by omega)⟩⟩ (by omega)
  rintro q ⟨fa, w, i'⟩ ⟨i, g1, (⟨g2, g3, g4, g5, g6⟩ | ⟨g2, g3⟩)⟩
  · simp only at g3 g4 g6
    subst g3; subst g4
    show (∃ w', f_M_readWholes_l53 2000 1000 (nI t) lg (nI c) 0 w (nI i) = _ ∧ _) ∨ (∃ y, f_M_readWholes_l53 2000 1000 (nI t) lg (nI c) 0 w (nI i) = _ ∧ _)
    unfold f_M_readWholes_l53
    rw [ifle (by omega) (by omega)]
    by_cases ci : c ≤ i
    · have : i = c := by omega
      subst this
      rw [if_pos ci]
      exact Or.inr ⟨_, rfl, Or.inr ⟨by unfold pHold; rw [if_pos g5], rfl, g6⟩⟩
    · have e1 : nI i + 1 = nI (i + 1) := qn_add i 1
      have g0 : ∀ {α : Type} {t : Option α}, gd (inB (nI i) 2000) t = t := fun {α t} => gd_nI (by omega) (by omega)
      obtain ⟨b, b1, b2, b3⟩ := C_holds t ht (f i)
      have hnew : ∀ j, j < i + 1 → vp_updL w i (f i) j = f j := by
        intro j hj
        unfold vp_updL
        by_cases ej : j = i
        · rw [if_pos ej, ej]
        · rw [if_neg ej]; exact g6 j (by omega)
      rw [if_neg ci, if_pos rfl, g0, bnd_eq, gd_nI (by omega) (by omega), g0, qn_clamp (by omega), hf i (by omega), b2, obs, bnd_eq, bnd_eq, e1]
      cases b with
      | false =>
        have hn' : ¬ holdsT t (f i) := fun hh => by have := b3.mpr hh; cases this
        rw [if_pos (show nI (false.toNat) = 0 from rfl)]
        exact Or.inl ⟨_, rfl, q - 1, by omega, i + 1, by omega, Or.inr ⟨rfl, fun hx => hn' (hx i (by omega))⟩⟩
      | true =>
        rw [if_neg (show ¬ nI (true.toNat) = 0 by decide)]
        refine Or.inl ⟨_, rfl, q - 1, by omega, i + 1, by omega, Or.inl ⟨by omega, rfl, rfl, ?_, hnew⟩⟩
        intro j hj
        by_cases ej : j = i
        · subst ej; exact b3.mp rfl
        · exact g5 j (by omega)
  · simp only at g2
    subst g2
    show (∃ w', f_M_readWholes_l53 2000 1000 (nI t) lg (nI c) 7 w i' = _ ∧ _) ∨ (∃ y, f_M_readWholes_l53 2000 1000 (nI t) lg (nI c) 7 w i' = _ ∧ _)
    unfold f_M_readWholes_l53
    rw [if_neg (show ¬ (7 : Int32) = 0 by decide), ite_self]
    exact Or.inr ⟨_, rfl, Or.inl ⟨7, by unfold pHold; rw [if_neg g3], rfl, by decide⟩⟩
theorem M_readWholes {n cap e a c t how : Nat} {I : List UInt8} {inp : Nat → Int32} {lg nw w8 : Nat → Int64} {nums : Nat → Int32} {lc : Int32}
    (hn : 100000 < n) (hcap : cap < 100000) (hI : I.length ≤ cap) (he : e ≤ I.length) (ha : a ≤ e) (hc : c ≤ 1000) (ht : t = 1 ∨ t = 2) (hh : how ≤ 2) (h : QHM I inp) :
    ∃ o, f_M_readWholes n cap 2000 1000 1008 1000 (nI t) (nI a) (nI e) 0 lc inp lg nw nums w8 (nI how) (nI c) = some o ∧ ((∃ x, pWholes I e a c t how = .inl x ∧ o.2.1 = nI x ∧ ¬ nI x = 0) ∨ (∃ a' f, pWholes I e a c t how = .inr (a', f) ∧ a' ≤ e ∧ o.1 = nI a' ∧ o.2.1 = 0 ∧ ∀ j, j < c → o.2.2.2.2.1 j = f j)) := by
  unfold f_M_readWholes pWholes
  have i1 : (1 : Int32) = nI 1 := rfl
  rw [ife0 (by omega), ife1 (by omega)]
  by_cases h0 : how = 0
  · rw [if_pos h0, if_pos h0]
    obtain ⟨op, y1, y2⟩ := M_plainN (n := n) (cap := cap) (e := e) (a := a) (m := c) (t := t) (I := I) (inp := inp) (g := fun at' fa w i => f_M_readWholes_l6 n cap 1000 (nI t) (nI e) inp (nI c) at' fa w i) (num := fun _ => 0) (w0 := nw) hn hcap hI he ha hc ht h (fun at' fa w i hi => by
      show f_M_readWholes_l6 n cap 1000 (nI t) (nI e) inp (nI c) at' fa w (nI i) = _
      unfold f_M_readWholes_l6
      rw [ifle (by omega) (by omega)])
    rw [y1, obs]
    exact ⟨_, rfl, y2⟩
  · rw [if_neg h0, if_neg h0]
    by_cases h1 : how = 1
    · rw [if_pos h1, if_pos h1]
      obtain ⟨ol, l1, l2⟩ := M_readLongs (n := n) (cap := cap) (ln := 2000) (e := e) (a := a) (c := c) (I := I) (inp := inp) (lg := lg) (lc := lc) hn hcap hI he ha (by omega) rfl h
      rw [l1, obs]
      unfold pCodeV
      rcases l2 with ⟨x, t1, t2, t3⟩ | ⟨f, t1, t2, t3, t4⟩
      · have hF : ¬ ol.2.1 = 0 := by rw [t2]; exact t3
        obtain ⟨y, rfl⟩ : ∃ y, n = y + 1 := ⟨n - 1, by omega⟩
        have hl : f_M_readWholes_l53 2000 1000 (nI t) ol.2.2.2 (nI c) ol.2.1 nw 0 = some (Sum.inr (ol.2.1, nw, 0)) := by
          unfold f_M_readWholes_l53
          rw [if_neg hF, ite_self]
        simp only [lp, hl, obs]
        rw [t1]
        exact ⟨_, rfl, Or.inl ⟨x, rfl, t2, t3⟩⟩
      · obtain ⟨oh, y1, y2⟩ := M_hold (n := n) (c := c) (t := t) (lg := ol.2.2.2) (f := f) (nw := nw) hn hc (by omega) t4
        rw [t3, y1, obs, t1]
        simp only
        rcases y2 with ⟨x, z1, z2, z3⟩ | ⟨z1, z2, z3⟩
        · rw [z1]
          exact ⟨_, rfl, Or.inl ⟨x, rfl, z2, z3⟩⟩
        · rw [z1]
          exact ⟨_, rfl, Or.inr ⟨e, f, rfl, Nat.le_refl _, t2, z2, z3⟩⟩
    · rw [if_neg h1, if_neg h1]
      obtain ⟨ow, y1, y2⟩ := M_readWords (n := n) (cap := cap) (e := e) (a := a) (c := c) (t := t) (I := I) (inp := inp) (nw := nw) (w8 := w8) (nums := nums) hn hcap hI he ha hc ht h
      rw [y1, obs]
      rcases y2 with ⟨x, z1, z2, z3⟩ | ⟨f, z1, z2, z3, z4⟩
      · rw [z1]
        exact ⟨_, rfl, Or.inl ⟨x, rfl, z2, z3⟩⟩
      · rw [z1]
        exact ⟨_, rfl, Or.inr ⟨e, f, rfl, Nat.le_refl _, z2, z3, z4⟩⟩
def pTexts (I : List UInt8) (e a c how : Nat) : Nat ⊕ (Nat × (Nat → Nat) × (Nat → UInt8)) :=
  if how = 0 then pTxt I e 20000 (stPlain I e) c 0 a (fun _ => 0) (fun _ => 0) else if how = 1 then pLens I e a c (fun _ => 0) (fun _ => 0) else if how = 2 then pFront I e a c (fun _ => 0) (fun _ => 0) else
  (match pDictT I e a c with | .inl x => .inl x | .inr r => .inr (e, r.1, r.2))
theorem VsM_0 {num wholes : Nat → Int64} {nf nb : Nat → Int32} (hnf : nf 0 = nI 0) : VsM 3 0 num (fun _ => 0) (fun _ => 0) 0 wholes nf nb := ⟨rfl, fun h0 => absurd rfl h0, hnf, fun _ => ⟨fun i hi => by rw [show i = 0 by omega]; exact hnf, fun j hj => absurd hj (Nat.not_lt_zero j)⟩⟩
theorem M_readTexts {n cap e a c how : Nat} {I : List UInt8} {inp com more : Nat → Int32} {num lg wholes : Nat → Int64} {nb nf nums wb wf : Nat → Int32} {ws lc : Int32}
    (hn : 100000 < n) (hcap : cap < 100000) (hI : I.length ≤ cap) (he : e ≤ I.length) (ha : a ≤ e) (hc : c ≤ 1000) (hh : how ≤ 3) (h : QHM I inp) (hnf : nf 0 = nI 0) :
    ∃ o, f_M_readTexts n 1000 cap 2000 1000 20000 1001 1008 20000 1001 ws (nI a) (nI e) 0 lc com inp lg more nb nf nums wb wf (nI how) (nI c) = some o ∧ o.2.2.2.2.2.2.2.2.2.1 0 = nI 0 ∧
      ((∃ x, pTexts I e a c how = .inl x ∧ o.2.2.2.1 = nI x ∧ ¬ nI x = 0) ∨ (∃ a' S T, pTexts I e a c how = .inr (a', S, T) ∧ a' ≤ e ∧ o.2.2.1 = nI a' ∧ o.2.2.2.1 = 0 ∧ TxI c S 20000 ∧ VsM 3 c num S T o.1 wholes o.2.2.2.2.2.2.2.2.2.1 o.2.2.2.2.2.2.2.2.1)) := by
  unfold f_M_readTexts pTexts
  rw [ife0 (by omega), ife1 (by omega), ife2 (by omega)]
  by_cases h0 : how = 0
  · rw [if_pos h0, if_pos h0]
    obtain ⟨o, y1, y2, y3⟩ := M_readPlain (n := n) (cap := cap) (e := e) (a := a) (m := c) (I := I) (inp := inp) (num := num) (S := fun _ => 0) (T := fun _ => 0) (wholes := wholes) (frm := nf) (bytes := nb) hn hcap hI he ha hc (VsM_0 hnf) (TxI_0 _) h
    rw [y1, obs]
    exact ⟨_, rfl, y2, y3⟩
  · rw [if_neg h0, if_neg h0]
    by_cases h1 : how = 1
    · rw [if_pos h1, if_pos h1]
      obtain ⟨o, y1, y2, y3⟩ := M_readLengths (n := n) (cap := cap) (e := e) (a := a) (c := c) (I := I) (inp := inp) (num := num) (lg := lg) (S := fun _ => 0) (T := fun _ => 0) (wholes := wholes) (frm := nf) (bytes := nb) (lc := lc) hn hcap hI he ha hc (VsM_0 hnf) (TxI_0 _) h
      rw [y1, obs]
      exact ⟨_, rfl, y2, y3⟩
    · rw [if_neg h1, if_neg h1]
      by_cases h2 : how = 2
      · rw [if_pos h2, if_pos h2]
        obtain ⟨o, y1, y2, y3⟩ := M_readFront (n := n) (cap := cap) (e := e) (a := a) (c := c) (I := I) (inp := inp) (com := com) (more := more) (num := num) (lg := lg) (S := fun _ => 0) (T := fun _ => 0) (wholes := wholes) (frm := nf) (bytes := nb) (lc := lc) hn hcap hI he ha hc (VsM_0 hnf) (TxI_0 _) h
        rw [y1, obs]
        exact ⟨_, rfl, y2, y3⟩
      · rw [if_neg h2, if_neg h2]
        obtain ⟨o, y1, y2, y3⟩ := M_readDictionary (n := n) (cap := cap) (e := e) (a := a) (c := c) (I := I) (inp := inp) (num := num) (wholes := wholes) (nb := nb) (nf := nf) (nums := nums) (wb := wb) (wf := wf) (ws := ws) hn hcap hI he ha hc h hnf
        rw [y1, obs]
        rcases y3 with ⟨x, z1, z2, z3⟩ | ⟨r, z1, z2, z3, z4, z5⟩
        · rw [z1]
          exact ⟨_, rfl, y2, Or.inl ⟨x, rfl, z2, z3⟩⟩
        · rw [z1]
          exact ⟨_, rfl, y2, Or.inr ⟨e, r.1, r.2, rfl, Nat.le_refl _, z2, z3, z4, z5⟩⟩
