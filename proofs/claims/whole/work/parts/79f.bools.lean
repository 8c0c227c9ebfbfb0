abbrev holdsD (t : Nat) (v : Int64) : Prop := (t = 0 → lv v ≤ 1) ∧ (t = 1 → v = v.toInt32.toInt64)
abbrev HAll (t : Nat) (f : Nat → Int64) (c : Nat) : Prop := ∀ i, i < c → holdsD t (f i)
def pHold (t c : Nat) (f : Nat → Int64) : Nat ⊕ (Nat → Int64) := if HAll t f c then .inr f else .inl 7
def pCodeV (I : List UInt8) (e a c t : Nat) : Nat ⊕ (Nat → Int64) :=
  match pCodeN I e a c with
  | .inl x => .inl x
  | .inr f => pHold t c f
def pBits (I : List UInt8) (e a c : Nat) : Nat ⊕ (Nat × (Nat → Int64)) :=
  if e - a < (c + 7) / 8 then .inl 1 else if tz (gval I 1 a) c (8 * ((c + 7) / 8)) then .inr (a + (c + 7) / 8, fun i => ql64 (gval I 1 a i)) else .inl 5
theorem gval1 (I : List UInt8) (a i : Nat) : gval I 1 a i = if bitOf I (8 * a + i) then 1 else 0 := by
  unfold gval
  rw [Nat.one_mul]
  have := bval_succ I (8 * a + i) 0
  rw [Nat.add_zero] at this
  rw [← this]
  show 0 ||| _ = _
  rw [Nat.zero_or, Nat.pow_zero, Nat.mul_one]
theorem R_number {t c : Nat} {ofTexts cnt : Int32} {numbers f : Nat → Int64} {starts texts : Nat → Int32} {S : Nat → Nat} {T : Nat → UInt8} (v : Int64) (ht : t ≤ 2) (hc : c < 1000) (hv : f c = v) (hC : VsC t c f S T ofTexts cnt numbers starts texts) :
    f_R_takeNumber 1000 (nI t) 0 cnt numbers v = some ((if holdsD t v then 0 else 7), nI (c + 1), vp_updL numbers c v) ∧ VsC t (c + 1) f S T ofTexts (nI (c + 1)) (vp_updL numbers c v) starts texts := by
  obtain ⟨c1, c2, c3, c4, c5⟩ := hC
  constructor
  · obtain ⟨b, b1, b2, b3⟩ := C_holds t (by omega) v
    unfold f_R_takeNumber f_R_takeNumber_j20
    rw [b1, obs, c2, V_addNumber _ hc (by omega), obs, S_fail0, obs, obs]
    cases b with
    | false =>
      have hn : ¬ holdsD t v := fun hh => by have := b3.mpr hh; cases this
      rw [if_neg hn, if_pos (show nI (false.toNat) = 0 from rfl)]
    | true =>
      rw [if_pos (show holdsD t v from b3.mp rfl), if_neg (show ¬ nI (true.toNat) = 0 by decide)]
  · refine ⟨c1, rfl, fun h3 i hi => ?_, c4, fun h3 => absurd h3 (by omega)⟩
    unfold vp_updL
    by_cases ei : i = c
    · rw [if_pos ei, ei, hv]
    · rw [if_neg ei]; exact c3 h3 i (by omega)
theorem R_takeNumbers {n c t : Nat} {nums f num : Nat → Int64} {ofTexts count : Int32} {numbers : Nat → Int64} {starts texts : Nat → Int32} {S : Nat → Nat} {T : Nat → UInt8} (hn : 100000 < n) (hc : c ≤ 1000) (ht : t ≤ 2) (hf : ∀ j, j < c → nums j = f j) (hC : VsC t 0 num S T ofTexts count numbers starts texts) :
    ∃ o, f_R_takeNumbers n 2000 1000 (nI c) (nI t) nums 0 count numbers = some o ∧ ((∃ x, pHold t c f = .inl x ∧ o.1 = nI x ∧ ¬ nI x = 0) ∨ (pHold t c f = .inr f ∧ HAll t f c ∧ o.1 = 0 ∧ VsC t c f S T ofTexts o.2.1 o.2.2 starts texts)) := by
  unfold f_R_takeNumbers
  have main : ∃ o, lp (fun v => f_R_takeNumbers_l2 2000 1000 (nI c) (nI t) nums v.1 v.2.1 v.2.2.1 v.2.2.2) n ((0 : Int32), count, numbers, (0 : Int32)) = some o ∧ ((∃ x, pHold t c f = .inl x ∧ o.1 = nI x ∧ ¬ nI x = 0) ∨ (pHold t c f = .inr f ∧ HAll t f c ∧ o.1 = 0 ∧ VsC t c f S T ofTexts o.2.1 o.2.2 starts texts)) := by
    refine lp_inv (fun q u => ∃ i, i + q = c + 1 ∧ ((i ≤ c ∧ u.1 = 0 ∧ u.2.2.2 = nI i ∧ HAll t f i ∧ VsC t i f S T ofTexts u.2.1 u.2.2.1 starts texts) ∨ (u.1 = 7 ∧ ¬ HAll t f c))) _ ?_ (c + 1) n _ ⟨0, by omega, Or.inl ⟨by omega, rfl, rfl, fun i hi => absurd hi (by omega), hC.1, hC.2.1, fun _ i hi => absurd hi (by omega), hC.2.2.2.1, fun h3 => absurd h3 (by omega)⟩⟩ (by omega)
    rintro q ⟨fa, cnt, nu, i'⟩ ⟨i, g1, (⟨g2, g3, g4, g5, g6⟩ | ⟨g2, g3⟩)⟩
    · simp only at g3 g4 g6
      subst g3; subst g4
      show (∃ w', f_R_takeNumbers_l2 2000 1000 (nI c) (nI t) nums 0 cnt nu (nI i) = _ ∧ _) ∨ (∃ y, f_R_takeNumbers_l2 2000 1000 (nI c) (nI t) nums 0 cnt nu (nI i) = _ ∧ _)
      unfold f_R_takeNumbers_l2
      rw [ifle (by omega) (by omega)]
      by_cases ci : c ≤ i
      · have : i = c := by omega
        subst this
        rw [if_pos ci]
        exact Or.inr ⟨_, rfl, Or.inr ⟨by unfold pHold; rw [if_pos g5], g5, rfl, g6⟩⟩
      · have e1 : nI i + 1 = nI (i + 1) := qn_add i 1
        obtain ⟨r1, r2⟩ := R_number (f i) ht (by omega) rfl g6
        rw [if_neg ci, if_pos rfl, gd_nI (by omega) (by omega), qn_clamp (by omega), hf i (by omega), r1, obs, bnd_eq, e1]
        by_cases ch : holdsD t (f i)
        · rw [if_pos ch]
          refine Or.inl ⟨_, rfl, q - 1, by omega, i + 1, by omega, Or.inl ⟨by omega, rfl, rfl, ?_, r2⟩⟩
          intro j hj
          by_cases ej : j = i
          · subst ej; exact ch
          · exact g5 j (by omega)
        · rw [if_neg ch]
          exact Or.inl ⟨_, rfl, q - 1, by omega, i + 1, by omega, Or.inr ⟨rfl, fun hx => ch (hx i (by omega))⟩⟩
    · simp only at g2
      subst g2
      show (∃ w', f_R_takeNumbers_l2 2000 1000 (nI c) (nI t) nums 7 cnt nu i' = _ ∧ _) ∨ (∃ y, f_R_takeNumbers_l2 2000 1000 (nI c) (nI t) nums 7 cnt nu i' = _ ∧ _)
      unfold f_R_takeNumbers_l2
      rw [if_neg (show ¬ (7 : Int32) = 0 by decide), ite_self]
      exact Or.inr ⟨_, rfl, Or.inl ⟨7, by unfold pHold; rw [if_neg g3], rfl, by decide⟩⟩
  obtain ⟨o, h1, h2⟩ := main
  rw [h1, obs]
  exact ⟨_, rfl, h2⟩
theorem R_takeNumbersF {n : Nat} {c t f count : Int32} {nums numbers : Nat → Int64} (hn : 100 < n) (hf : ¬ f = 0) : f_R_takeNumbers n 2000 1000 c t nums f count numbers = some (f, count, numbers) := by
  unfold f_R_takeNumbers
  obtain ⟨y, rfl⟩ : ∃ y, n = y + 1 := ⟨n - 1, by omega⟩
  have : f_R_takeNumbers_l2 2000 1000 c t nums f count numbers 0 = some (Sum.inr (f, count, numbers)) := by
    unfold f_R_takeNumbers_l2
    rw [if_neg hf, ite_self]
  simp only [lp, this]; rfl
def pBools (I : List UInt8) (e a c how : Nat) : Nat ⊕ (Nat × (Nat → Int64)) :=
  if how = 0 then pBits I e a c else
  match pRunsE I e c 1 a with
  | .inl x => .inl x
  | .inr g => .inr (e, fun i => ql64 (g i))
theorem holds01 {x : Nat} (h : x < 2) : holdsT 0 (ql64 x) := by
  refine ⟨fun _ => ?_, fun h1 => absurd h1 (by omega)⟩
  rw [lv_l64 (by omega)]; omega
theorem R_takeBools {n cap e a c how : Nat} {I : List UInt8} {row : Nat → Int32} {nums num : Nat → Int64} {ofTexts count : Int32} {numbers : Nat → Int64} {starts texts : Nat → Int32} {S : Nat → Nat} {T : Nat → UInt8}
    (hn : 100000 < n) (hcap : cap < 100000) (hI : I.length ≤ cap) (he : e ≤ I.length) (ha : a ≤ e) (hc : c ≤ 1000) (hh : how < 256) (h : HC I row) (hC : VsC 0 0 num S T ofTexts count numbers starts texts) :
    ∃ o, f_R_takeBools n 2000 cap 1000 (nI c) (nI how) (nI 0) nums (nI a) (nI e) 0 row count numbers = some o ∧ ((∃ x, pBools I e a c how = .inl x ∧ o.2.2.1 = nI x ∧ ¬ nI x = 0) ∨ (∃ a' f, pBools I e a c how = .inr (a', f) ∧ a' ≤ e ∧ HAll 0 f c ∧ o.2.1 = nI a' ∧ o.2.2.1 = 0 ∧ VsC 0 c f S T ofTexts o.2.2.2.1 o.2.2.2.2 starts texts)) := by
  unfold f_R_takeBools pBools
  rw [ife0 (by omega)]
  by_cases ch : how = 0
  · rw [if_pos ch, if_pos ch, bnd_eq, w78 (by omega)]
    unfold pBits
    have hlv : lv (nI ((c + 7) / 8)).toInt64 = (c + 7) / 8 := lv_nI (by omega)
    by_cases c1 : e - a < (c + 7) / 8
    · rw [if_pos c1, S_there1 _ (by rw [hlv]; omega) ha (by omega), obs, if_pos rfl]
      exact ⟨_, rfl, Or.inl ⟨1, rfl, rfl, by decide⟩⟩
    · rw [if_neg c1, S_there0 _ (by rw [hlv]; omega) ha (by omega), obs, if_neg (show ¬ (1 : Int32) = 0 by decide)]
      have main : ∃ o, lp (fun v => f_R_takeBools_l55 n cap 1000 (nI c) (nI a) (nI e) row (nI ((c + 7) / 8)) v.1 v.2.1 v.2.2.1 v.2.2.2) n ((0 : Int32), count, numbers, (0 : Int32)) = some o ∧ o.1 = (if tz (gval I 1 a) c (8 * ((c + 7) / 8)) then 0 else 5) ∧ VsC 0 c (fun i => ql64 (gval I 1 a i)) S T ofTexts o.2.1 o.2.2.1 starts texts := by
        refine lp_inv (fun q u => ∃ i, i + q = 8 * ((c + 7) / 8) ∧ u.2.2.2 = nI i ∧ u.1 = (if tz (gval I 1 a) c i then 0 else 5) ∧ VsC 0 (min i c) (fun i => ql64 (gval I 1 a i)) S T ofTexts u.2.1 u.2.2.1 starts texts) _ ?_ (8 * ((c + 7) / 8)) n _ ⟨0, by omega, rfl, rfl, hC.1, by rw [Nat.zero_min]; exact hC.2.1, fun _ i hi => absurd hi (by omega), hC.2.2.2.1, fun h3 => absurd h3 (by omega)⟩ (by omega)
        rintro q ⟨fa, cnt, nu, i'⟩ ⟨i, g1, g2, g3, g4⟩
        simp only at g2 g3 g4
        subst g2; subst g3
        show (∃ w', f_R_takeBools_l55 n cap 1000 (nI c) (nI a) (nI e) row (nI ((c + 7) / 8)) _ cnt nu (nI i) = _ ∧ _) ∨ (∃ y, f_R_takeBools_l55 n cap 1000 (nI c) (nI a) (nI e) row (nI ((c + 7) / 8)) _ cnt nu (nI i) = _ ∧ _)
        unfold f_R_takeBools_l55
        have e8 : (8 : Int32) * nI ((c + 7) / 8) = nI (8 * ((c + 7) / 8)) := nI_mul 8 _
        have e8a : (8 : Int32) * nI a = nI (8 * a) := nI_mul 8 a
        have e1 : nI i + 1 = nI (i + 1) := qn_add i 1
        rw [e8, ifle (by omega) (by omega)]
        by_cases ci : 8 * ((c + 7) / 8) ≤ i
        · rw [if_pos ci]
          have hi : i = 8 * ((c + 7) / 8) := by omega
          rw [Nat.min_eq_right (by omega)] at g4
          exact Or.inr ⟨_, rfl, by rw [← hi], g4⟩
        · have hbits : f_S_bitsAt n cap (nI e) row (nI (8 * a + i)) 1 = some (ql64 (gval I 1 a i)) := by
            have := S_bitsAt (n := n) (cap := cap) (e := e) (first := 8 * a + i) (w := 1) (I := I) (row := row) (by omega) hcap hI he (by omega) (by omega) h
            unfold gval
            rw [Nat.one_mul]
            exact this
          have hg2 : gval I 1 a i < 2 := by rw [gval1]; split <;> omega
          rw [if_neg ci, e8a, qn_add, hbits, obs, ifle (by omega) (by omega), e1]
          have hgz : (ql64 (gval I 1 a i) = 0) ↔ gval I 1 a i = 0 := by
            have e0 : (0 : Int64) = ql64 0 := rfl
            rw [e0, l64_inj (by omega) (by omega)]
          by_cases cm : c ≤ i
          · rw [if_pos cm, Nat.min_eq_right cm] at *
            have hm : min (i + 1) c = c := by omega
            by_cases cz : gval I 1 a i = 0
            · rw [if_pos (hgz.mpr cz), bnd_eq]
              refine Or.inl ⟨_, rfl, q - 1, by omega, i + 1, by omega, rfl, ?_, by rw [hm]; exact g4⟩
              have ht : tz (gval I 1 a) c (i + 1) = tz (gval I 1 a) c i := by
                show (tz (gval I 1 a) c i && decide (i < c ∨ gval I 1 a i = 0)) = _
                rw [decide_eq_true (show i < c ∨ gval I 1 a i = 0 from Or.inr cz), Bool.and_true]
              show (if tz (gval I 1 a) c i = true then (0 : Int32) else 5) = _
              rw [ht]
            · rw [if_neg (fun q => cz (hgz.mp q))]
              have hf : f_S_fail (if tz (gval I 1 a) c i = true then 0 else 5) 5 = some 5 := by split <;> rfl
              rw [hf, obs, bnd_eq]
              refine Or.inl ⟨_, rfl, q - 1, by omega, i + 1, by omega, rfl, ?_, by rw [hm]; exact g4⟩
              have ht : tz (gval I 1 a) c (i + 1) = false := by
                show (tz (gval I 1 a) c i && decide (i < c ∨ gval I 1 a i = 0)) = _
                rw [decide_eq_false (show ¬ (i < c ∨ gval I 1 a i = 0) by omega), Bool.and_false]
              show (5 : Int32) = _
              rw [ht]; rfl
          · rw [Nat.min_eq_left (by omega)] at g4
            obtain ⟨c1', c2, c3, c4, c5⟩ := g4
            rw [if_neg cm, c2, V_addNumber _ (by omega) (by omega), obs, bnd_eq]
            have hm : min (i + 1) c = i + 1 := by omega
            refine Or.inl ⟨_, rfl, q - 1, by omega, i + 1, by omega, rfl, ?_, c1', by rw [hm], fun h3 j hj => ?_, c4, fun h3 => absurd h3 (by omega)⟩
            · have ht : tz (gval I 1 a) c (i + 1) = tz (gval I 1 a) c i := by
                show (tz (gval I 1 a) c i && decide (i < c ∨ gval I 1 a i = 0)) = _
                rw [decide_eq_true (show i < c ∨ gval I 1 a i = 0 by omega), Bool.and_true]
              show (if tz (gval I 1 a) c i = true then (0 : Int32) else 5) = _
              rw [ht]
            · rw [hm] at hj
              show vp_updL nu i (ql64 (gval I 1 a i)) j = ql64 (gval I 1 a j)
              unfold vp_updL
              by_cases ej : j = i
              · rw [if_pos ej, ej]
              · rw [if_neg ej]; exact c3 h3 j (by omega)
      obtain ⟨o, h1, h2, h3⟩ := main
      rw [h1, obs]
      unfold f_R_takeBools_j124
      rw [bnd_eq, qn_add, h2]
      by_cases ct : tz (gval I 1 a) c (8 * ((c + 7) / 8)) = true
      · rw [if_pos ct, if_pos ct]
        refine ⟨_, rfl, Or.inr ⟨_, _, rfl, by omega, ?_, rfl, rfl, h3⟩⟩
        intro i hi
        exact holds01 (by rw [gval1]; split <;> omega)
      · rw [if_neg ct, if_neg ct]
        exact ⟨_, rfl, Or.inl ⟨5, rfl, rfl, by decide⟩⟩
  · rw [if_neg ch, if_neg ch]
    obtain ⟨orn, r1, r2⟩ := S_runs (n := n) (cap := cap) (pn := 2000) (e := e) (a := a) (m := c) (w := 1) (I := I) (row := row) (p1 := nums) hn hcap hI he ha (by omega) hc rfl h
    have r1' : f_S_runs n cap 2000 (nI a) (nI e) 0 row nums (nI c) 1 = some orn := r1
    rw [r1', obs]
    rcases r2 with ⟨x, s1, s2, s3⟩ | ⟨g, s1, s2, s3, s4⟩
    · have hF : ¬ orn.2.1 = 0 := by rw [s2]; exact s3
      rw [R_takeNumbersF (by omega) hF, obs, s1]
      exact ⟨_, rfl, Or.inl ⟨x, rfl, s2, s3⟩⟩
    · obtain ⟨on, t1, t2⟩ := R_takeNumbers (n := n) (c := c) (t := 0) (nums := orn.2.2) (f := fun i => ql64 (g i)) (num := num) (ofTexts := ofTexts) (count := count) (numbers := numbers) (starts := starts) (texts := texts) (S := S) (T := T) hn hc (by omega) (fun j hj => (s4 j hj).1) hC
      rw [s3, t1, obs, s1]
      have hall : HAll 0 (fun i => ql64 (g i)) c := fun i hi => holds01 (by have := (s4 i hi).2; omega)
      rcases t2 with ⟨x, u1, u2, u3⟩ | ⟨u1, u2, u3, u4⟩
      · unfold pHold at u1
        rw [if_pos hall] at u1
        cases u1
      · exact ⟨_, rfl, Or.inr ⟨e, _, rfl, Nat.le_refl _, hall, s2, u3, u4⟩⟩
