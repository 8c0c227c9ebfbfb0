theorem nI_neg32 {x : Nat} (h : x < 4294967296) : (nI x < 0) ↔ 2147483648 ≤ x := by
  by_cases c : x < 2147483648
  · exact ⟨fun hx => absurd hx (nI_nn c), fun hx => absurd hx (by omega)⟩
  · refine ⟨fun _ => by omega, fun _ => ?_⟩
    rw [Int32.lt_iff_toInt_lt]
    have e0 : (0 : Int32).toInt = 0 := rfl
    have e1 : (nI x).toInt = (BitVec.ofNat 32 x).toInt := rfl
    rw [e0, e1, BitVec.toInt_eq_toNat_cond, BitVec.toNat_ofNat, Nat.mod_eq_of_lt (by omega), if_neg (by omega)]
    omega
theorem pRunsE_of {I : List UInt8} {e m w a : Nat} {P Q : Prop} (h1 : ∀ x, pRuns I e m w a = .inl x → pRunsE I e m w a = .inl x → P) (h2 : ∀ b g, pRuns I e m w a = .inr (b, g) → b < e → pRunsE I e m w a = .inl 6 → P) (h3 : ∀ b g, pRuns I e m w a = .inr (b, g) → ¬ b < e → pRunsE I e m w a = .inr g → P) : P := by
  cases hp : pRuns I e m w a with
  | inl x => exact h1 x hp (by unfold pRunsE; rw [hp])
  | inr bg =>
    obtain ⟨b, g⟩ := bg
    by_cases c : b < e
    · refine h2 b g hp c ?_
      unfold pRunsE; rw [hp]
      show (if b < e then _ else _) = _
      rw [if_pos c]
    · refine h3 b g hp c ?_
      unfold pRunsE; rw [hp]
      show (if b < e then _ else _) = _
      rw [if_neg c]
theorem M_w146F {n : Nat} {at' f c : Int32} {nw w8 : Nat → Int64} {nums : Nat → Int32} {v2 : Int64} (hn : 100 < n) (hf : ¬ f = 0) : f_M_readWords_j146 n 1000 1008 1000 at' f nw nums w8 c v2 = some (at', f, nw, nums, w8) := by
  unfold f_M_readWords_j146
  obtain ⟨y, rfl⟩ : ∃ y, n = y + 1 := ⟨n - 1, by omega⟩
  have : f_M_readWords_l149 1000 1008 1000 at' nums w8 c v2 f nw 0 = some (Sum.inr (at', f, nw, nums, w8)) := by
    unfold f_M_readWords_l149
    rw [if_neg hf, ite_self]
  simp only [lp, this]; rfl
theorem M_w69F {n cap : Nat} {at' st f c : Int32} {inp : Nat → Int32} {nw w8 : Nat → Int64} {nums : Nat → Int32} {v2 : Int64} (hn : 100 < n) (hf : ¬ f = 0) : f_M_readWords_j69 n cap 1000 1008 1000 at' st f inp nw nums w8 c v2 = some (at', f, nw, nums, w8) := by
  unfold f_M_readWords_j69 f_M_readWords_j100 f_M_readWords_j122
  rw [M_fixedF hf, obs, if_neg hf, if_neg hf, if_neg hf, M_w146F hn hf]
theorem M_pickN {n c d : Nat} {g : Nat → Nat} {f : Nat → Int64} {at' : Int32} {nw w8 : Nat → Int64} {nums : Nat → Int32}
    (hn : 100000 < n) (hc : c ≤ 1000) (hd : d ≤ c) (hD : ∀ i, i < d → w8 i = f i) (hg : ∀ j, j < c → nums j = nI (g j) ∧ g j < 4294967296) :
    ∃ o, f_M_readWords_j146 n 1000 1008 1000 at' 0 nw nums w8 (nI c) (ql64 d) = some o ∧ o.1 = at' ∧ ((∃ x, pkN c d f g = .inl x ∧ o.2.1 = nI x ∧ ¬ nI x = 0) ∨ (∃ r, pkN c d f g = .inr r ∧ o.2.1 = 0 ∧ ∀ j, j < c → o.2.2.1 j = r j)) := by
  unfold f_M_readWords_j146
  have main : ∃ o, lp (fun v => f_M_readWords_l149 1000 1008 1000 at' nums w8 (nI c) (ql64 d) v.1 v.2.1 v.2.2) n ((0 : Int32), nw, (0 : Int32)) = some o ∧ o.1 = at' ∧ ((∃ x, pkN c d f g = .inl x ∧ o.2.1 = nI x ∧ ¬ nI x = 0) ∨ (∃ r, pkN c d f g = .inr r ∧ o.2.1 = 0 ∧ ∀ j, j < c → o.2.2.1 j = r j)) := by
    refine lp_inv (fun q u => ∃ i, i + q = c + 1 ∧ ((i ≤ c ∧ u.1 = 0 ∧ u.2.2 = nI i ∧ (∀ j, j < i → g j < d) ∧ ∀ j, j < i → u.2.1 j = f (g j)) ∨ (u.1 = 7 ∧ ¬ ∀ i, i < c → g i < d))) _ ?_ (c + 1) n _ ⟨0, by omega, Or.inl ⟨by omega, rfl, rfl, fun j hj => absurd hj (by omega), fun j hj => absurd hj (by omega)⟩⟩ (by omega)
    rintro q ⟨fa, w, i'⟩ ⟨i, g1, (⟨g2, g3, g4, g5, g6⟩ | ⟨g2, g3⟩)⟩
    · simp only at g3 g4 g6
      subst g3; subst g4
      show (∃ w', f_M_readWords_l149 1000 1008 1000 at' nums w8 (nI c) (ql64 d) 0 w (nI i) = _ ∧ _) ∨ (∃ y, f_M_readWords_l149 1000 1008 1000 at' nums w8 (nI c) (ql64 d) 0 w (nI i) = _ ∧ _)
      unfold f_M_readWords_l149
      rw [ifle (by omega) (by omega)]
      by_cases ci : c ≤ i
      · have : i = c := by omega
        subst this
        rw [if_pos ci]
        refine Or.inr ⟨_, rfl, rfl, Or.inr ⟨_, ?_, rfl, g6⟩⟩
        unfold pkN
        rw [if_pos g5]
      · have e1 : nI i + 1 = nI (i + 1) := qn_add i 1
        have g0 : ∀ {α : Type} {t : Option α}, gd (inB (nI i) 1008) t = t := fun {α t} => gd_nI (by omega) (by omega)
        obtain ⟨n1, n2⟩ := hg i (by omega)
        unfold f_M_readWords_j185
        rw [if_neg ci, if_pos rfl, g0, g0, g0, qn_clamp (by omega), n1, qifc (nI_neg32 n2), bnd_eq, e1]
        by_cases cd : d ≤ g i
        · have hsel : (if 2147483648 ≤ g i then some (Sum.inl ((7 : Int32), w, nI (i + 1))) else if (nI (g i)).toInt64 < ql64 d then gd (inB (nI (g i)) 1000) (bnd (w8 (nI (g i)).toNatClampNeg) (fun x41 => gd (inB (nI i) 1000) (bnd (nI (i + 1)) (fun x43 => some (Sum.inl ((0 : Int32), vp_updL w i x41, x43)))))) else some (Sum.inl ((7 : Int32), w, nI (i + 1)))) = (some (Sum.inl ((7 : Int32), w, nI (i + 1))) : Option ((Int32 × (Nat → Int64) × Int32) ⊕ (Int32 × Int32 × (Nat → Int64) × (Nat → Int32) × (Nat → Int64)))) := by
            by_cases k : 2147483648 ≤ g i
            · rw [if_pos k]
            · rw [if_neg k, lI64 (by omega), qifc (show (ql64 (g i) < ql64 d) ↔ g i < d from by rw [ql64_lt (by omega) (by omega)]), if_neg (by omega)]
          rw [hsel]
          exact Or.inl ⟨_, rfl, q - 1, by omega, i + 1, by omega, Or.inr ⟨rfl, fun hx => by have := hx i (by omega); omega⟩⟩
        · rw [if_neg (show ¬ 2147483648 ≤ g i by omega), lI64 (by omega), qifc (show (ql64 (g i) < ql64 d) ↔ g i < d from by rw [ql64_lt (by omega) (by omega)]), if_pos (show g i < d by omega), gd_nI (by omega) (by omega), bnd_eq, gd_nI (by omega) (by omega), bnd_eq, qn_clamp (by omega), hD _ (by omega)]
          refine Or.inl ⟨_, rfl, q - 1, by omega, i + 1, by omega, Or.inl ⟨by omega, rfl, rfl, ?_, ?_⟩⟩
          · intro j hj
            by_cases ej : j = i
            · subst ej; omega
            · exact g5 j (by omega)
          · intro j hj
            show vp_updL w i (f (g i)) j = f (g j)
            unfold vp_updL
            by_cases ej : j = i
            · rw [if_pos ej, ej]
            · rw [if_neg ej]; exact g6 j (by omega)
    · simp only at g2
      subst g2
      show (∃ w', f_M_readWords_l149 1000 1008 1000 at' nums w8 (nI c) (ql64 d) 7 w i' = _ ∧ _) ∨ (∃ y, f_M_readWords_l149 1000 1008 1000 at' nums w8 (nI c) (ql64 d) 7 w i' = _ ∧ _)
      unfold f_M_readWords_l149
      rw [if_neg (show ¬ (7 : Int32) = 0 by decide), ite_self]
      refine Or.inr ⟨_, rfl, rfl, Or.inl ⟨7, ?_, rfl, by decide⟩⟩
      unfold pkN
      rw [if_neg g3]
  obtain ⟨o, h1, h2⟩ := main
  rw [h1, obs]
  exact ⟨_, rfl, h2⟩
theorem M_readWords {n cap e a c t : Nat} {I : List UInt8} {inp : Nat → Int32} {nw w8 : Nat → Int64} {nums : Nat → Int32}
    (hn : 100000 < n) (hcap : cap < 100000) (hI : I.length ≤ cap) (he : e ≤ I.length) (ha : a ≤ e) (hc : c ≤ 1000) (ht : t = 1 ∨ t = 2) (h : QHM I inp) :
    ∃ o, f_M_readWords n cap 1000 1008 1000 (nI t) (nI a) (nI e) 0 inp nw nums w8 (nI c) = some o ∧
      ((∃ x, pWords I e a c t = .inl x ∧ o.2.1 = nI x ∧ ¬ nI x = 0) ∨ (∃ r, pWords I e a c t = .inr r ∧ o.1 = nI e ∧ o.2.1 = 0 ∧ ∀ j, j < c → o.2.2.1 j = r j)) := by
  unfold f_M_readWords f_M_readWords_j29 pWords pDictG
  have hlF : ∀ (at' f : Int32) (v2 : Int64), ¬ f = 0 → f_M_readWords_j34 n cap 1000 1008 1000 (nI t) at' (nI e) f inp nw nums w8 (nI c) v2 = some (at', f, nw, nums, w8) := by
    intro at' f v2 hf
    unfold f_M_readWords_j34
    obtain ⟨y, rfl⟩ : ∃ y, n = y + 1 := ⟨n - 1, by omega⟩
    have : f_M_readWords_l37 (y + 1) cap 1000 (nI t) (nI e) inp v2 at' f w8 0 = some (Sum.inr (at', f, w8, 0)) := by
      unfold f_M_readWords_l37
      rw [if_neg hf, ite_self]
    simp only [lp, this, obs]
    exact M_w69F (by omega) hf
  obtain ⟨o, p1, p2⟩ := M_varint (n := n) (cap := cap) (e := e) (a := a) (I := I) (inp := inp) (by omega) hcap hI he ha h
  rw [p1, obs]
  cases hp : pVar I e a with
  | inl x =>
    rw [hp] at p2
    obtain ⟨q1, q2, q3⟩ := p2
    have hF : ¬ o.2.2 = 0 := by rw [q2]; exact q3
    rw [if_neg hF, hlF _ _ _ hF]
    exact ⟨_, rfl, Or.inl ⟨x, rfl, q2, q3⟩⟩
  | inr ad =>
    obtain ⟨a1, d⟩ := ad
    rw [hp] at p2
    obtain ⟨q1, q2, q3⟩ := p2
    obtain ⟨v1, v2, v3⟩ := pVar_a hp
    rw [q1, q2, q3, if_pos rfl, lI64 (by omega), lrange v3 (by omega)]
    simp only
    by_cases c4 : c < d
    · rw [if_pos c4, if_pos c4, hlF _ _ _ (show ¬ (4 : Int32) = 0 by decide)]
      exact ⟨_, rfl, Or.inl ⟨4, rfl, rfl, by decide⟩⟩
    · rw [if_neg c4, if_neg c4]
      unfold f_M_readWords_j34
      obtain ⟨op, y1, y2⟩ := M_plainN (n := n) (cap := cap) (e := e) (a := a1) (m := d) (t := t) (I := I) (inp := inp) (g := fun at' fa w i => f_M_readWords_l37 n cap 1000 (nI t) (nI e) inp (ql64 d) at' fa w i) (num := fun _ => 0) (w0 := w8) hn hcap hI he v2 (by omega) ht h (fun at' fa w i hi => by
        show f_M_readWords_l37 n cap 1000 (nI t) (nI e) inp (ql64 d) at' fa w (nI i) = _
        unfold f_M_readWords_l37
        rw [lI64 (by omega), qifc (show (ql64 d ≤ ql64 i) ↔ d ≤ i from by rw [l64_le (by omega) (by omega)])])
      rw [y1, obs]
      rcases y2 with ⟨x, z1, z2, z3⟩ | ⟨a2, f, z1, z2, z3, z4, z5⟩
      · rw [M_w69F (by omega) (by rw [z2]; exact z3), z1]
        exact ⟨_, rfl, Or.inl ⟨x, rfl, z2, z3⟩⟩
      · rw [z3, z4, z1]
        simp only
        unfold f_M_readWords_j69
        obtain ⟨of, f1, f2⟩ := M_fixed (n := n) (cap := cap) (e := e) (a := a2) (q := 1) (I := I) (inp := inp) (by omega) hcap hI he z2 (by omega) h
        have f1' : f_M_fixed n cap (nI a2) 0 inp 1 (nI e) = some of := f1
        rw [pFix_oct] at f2
        rw [f1', obs]
        unfold f_M_readWords_j100 f_M_readWords_j122
        unfold pOct at f2 ⊢
        by_cases ce : e ≤ a2
        · rw [if_pos ce] at f2 ⊢
          obtain ⟨s1, s2, s3⟩ := f2
          have hF : ¬ of.2.2 = 0 := by rw [s2]; exact s3
          rw [if_neg hF, if_neg hF, if_neg hF, M_w146F (by omega) hF]
          exact ⟨_, rfl, Or.inl ⟨1, rfl, s2, s3⟩⟩
        · rw [if_neg ce] at f2 ⊢
          obtain ⟨s1, s2, s3⟩ := f2
          have hB := u8_lt (I.getD a2 0)
          have i32 : (32 : Int32) = nI 32 := rfl
          have eB : (ql64 (I.getD a2 0).toNat).toInt32 = nI (I.getD a2 0).toNat := l64_i32 (by omega)
          rw [s1, s2, s3, if_pos rfl, eB, i32, ifle (by omega) (by omega)]
          simp only
          by_cases cw : 32 < (I.getD a2 0).toNat
          · have z5' : ¬ (5 : Int32) = 0 := by decide
            rw [if_pos cw, if_neg (by omega), if_neg z5', if_neg z5', M_w146F (by omega) z5']
            exact ⟨_, rfl, Or.inl ⟨5, rfl, rfl, by decide⟩⟩
          · rw [if_neg cw, if_pos (by omega), if_pos trivial]
            obtain ⟨orn, r1, r2⟩ := M_readRuns (n := n) (cap := cap) (pn := 1008) (e := e) (a := a2 + 1) (m := c) (w := (I.getD a2 0).toNat) (I := I) (inp := inp) (p1 := nums) hn hcap hI he (by omega) (by omega) hc (by omega) h
            rw [r1, obs]
            have z6' : ¬ (6 : Int32) = 0 := by decide
            rcases r2 with ⟨x, t1, t2, t3⟩ | ⟨b, g, t1, t2, t3, t4, t5⟩
            · have hF : ¬ orn.2.1 = 0 := by rw [t2]; exact t3
              have hE : pRunsE I e c (I.getD a2 0).toNat (a2 + 1) = .inl x := by unfold pRunsE; rw [t1]
              rw [if_neg hF, M_w146F (by omega) hF, hE]
              exact ⟨_, rfl, Or.inl ⟨x, rfl, t2, t3⟩⟩
            · rw [t3, t4, if_pos rfl, ifle (by omega) (by omega)]
              by_cases cb : b < e
              · have hE : pRunsE I e c (I.getD a2 0).toNat (a2 + 1) = .inl 6 := by
                  unfold pRunsE; rw [t1]
                  show (if b < e then _ else _) = _
                  rw [if_pos cb]
                rw [if_neg (by omega), M_w146F (by omega) z6', hE]
                exact ⟨_, rfl, Or.inl ⟨6, rfl, rfl, by decide⟩⟩
              · have hE : pRunsE I e c (I.getD a2 0).toNat (a2 + 1) = .inr g := by
                  unfold pRunsE; rw [t1]
                  show (if b < e then _ else _) = _
                  rw [if_neg cb]
                have hp32 : 2 ^ (I.getD a2 0).toNat ≤ 2 ^ 32 := Nat.pow_le_pow_right (by omega) (by omega)
                obtain ⟨ok, k1, k2, k3⟩ := M_pickN (n := n) (c := c) (d := d) (g := g) (f := f) (at' := nI b) (nw := nw) (w8 := op.2.2.1) (nums := orn.2.2) hn hc (by omega) z5 (fun j hj => ⟨(t5 j hj).1, by have := (t5 j hj).2; omega⟩)
                rw [if_pos (by omega), k1, hE]
                refine ⟨_, rfl, ?_⟩
                rcases k3 with ⟨x, w1, w2, w3⟩ | ⟨r, w1, w2, w3⟩
                · exact Or.inl ⟨x, w1, w2, w3⟩
                · exact Or.inr ⟨r, w1, by rw [k2, show b = e by omega], w2, w3⟩
