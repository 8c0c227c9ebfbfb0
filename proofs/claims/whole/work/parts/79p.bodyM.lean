theorem pRunsE_lt {I : List UInt8} {e c w a : Nat} {g : Nat → Nat} (h : pRunsE I e c w a = .inr g) (hc : c ≤ 1000) (hw : w ≤ 32) (he : e ≤ I.length) (ha : a ≤ e) (hI : I.length ≤ 30000) : ∀ j, j < c → g j < 2 ^ w := by
  obtain ⟨o, h1, h2⟩ := S_runs (n := 1000000) (cap := 30000) (pn := 2000) (e := e) (a := a) (m := c) (w := w) (I := I) (row := fun j => qsb (I.getD j 0)) (p1 := fun _ => 0) (by omega) (by omega) hI he ha hw hc rfl (fun j hj => by show qsb (I.getD j 0) = _; rw [List.getD_eq_getElem?_getD, List.getElem?_eq_getElem hj]; rfl)
  rcases h2 with ⟨f, h3, _⟩ | ⟨g', h3, _, _, h4⟩
  · rw [h] at h3; cases h3
  · rw [h] at h3
    cases h3
    exact fun j hj => (h4 j hj).2
theorem pBools_holds {I : List UInt8} {e a c t how b : Nat} {f : Nat → Int64} (t0 : t = 0) (hc : c ≤ 1000) (he : e ≤ I.length) (ha : a ≤ e) (hI : I.length ≤ 30000) (h : pBools I e a c how = .inr (b, f)) : HAll t f c := by
  subst t0
  unfold pBools at h
  split at h
  · unfold pBits at h
    split at h
    · cases h
    · split at h
      · cases h
        intro i hi
        exact holds01 (by rw [gval1]; split <;> omega)
      · cases h
  · split at h
    · cases h
    · rename_i g hg
      cases h
      intro i hi
      have := pRunsE_lt hg hc (by omega) he ha hI i hi
      exact holds01 (by omega)
theorem pWholes_holds {I : List UInt8} {e a c t how b : Nat} {f : Nat → Int64} (ht : t = 1 ∨ t = 2) (h : pWholes I e a c t how = .inr (b, f)) : HAll t f c := by
  unfold pWholes at h
  split at h
  · intro i hi
    exact pNumsG_holds ht (fun j hj => absurd hj (by omega)) h i (by omega)
  · split at h
    · unfold pCodeV pHold at h
      split at h
      · cases h
      · rename_i f' hf
        split at hf
        · cases hf
        · split at hf
          · rename_i hall
            cases hf; cases h
            exact hall
          · cases hf
    · split at h
      · cases h
      · rename_i f' hf
        cases h
        exact pWords_holds ht hf
theorem mb_184F {n : Nat} {ty nc ws at1 fa lc : Int32} {cm mo nb nd nf nr nu tb tz1 wb wf : Nat → Int32} {lg nw t2 w8 : Nat → Int64} {v2 : Int32} (hf : ¬ fa = 0) : f_M_readBody_j184 n 20000 1001 1000 2 512 2 ty nc ws at1 fa lc cm lg mo nb nd nf nr nw nu t2 tb tz1 wb wf w8 v2 = some (nc, ws, at1, fa, lc, cm, lg, mo, nb, nd, nf, nr, nw, nu, wb, wf, w8) := by
  unfold f_M_readBody_j184
  rw [if_neg hf]
theorem mb_134F {n : Nat} {ty nc ws at1 st fa lc : Int32} {cm mo nb nd nf nr nu tb tz1 wb wf : Nat → Int32} {lg nw t2 w8 : Nat → Int64} {v2 : Int32} (hf : ¬ fa = 0) : f_M_readBody_j134 n 20000 1001 1000 2 512 2 ty nc ws at1 st fa lc cm lg mo nb nd nf nr nw nu t2 tb tz1 wb wf w8 v2 = some (nc, ws, at1, fa, lc, cm, lg, mo, nb, nd, nf, nr, nw, nu, wb, wf, w8) := by
  unfold f_M_readBody_j134 f_M_readBody_j158
  rw [if_neg hf, if_neg hf, mb_184F hf]
def pMost (t c : Nat) (tl v : ((Nat → Int64) × (Nat → Nat) × (Nat → UInt8))) : Nat := if 0 < c ∧ ¬ cmpZ t tl.1 v.1 tl.2.1 v.2.1 tl.2.2 v.2.2 0 (mostA (cmpZ t v.1 v.1 v.2.1 v.2.1 v.2.2 v.2.2) false c) = 0 then 11 else if 0 < c ∧ ¬ cmpZ t tl.1 v.1 tl.2.1 v.2.1 tl.2.2 v.2.2 1 (mostA (cmpZ t v.1 v.1 v.2.1 v.2.1 v.2.2 v.2.2) true c) = 0 then 12 else 0
theorem mb_158 {n t c : Nat} {tl v : ((Nat → Int64) × (Nat → Nat) × (Nat → UInt8))} {nc ws at1 lc : Int32} {cm mo nb nd nf nr nu tb tz1 wb wf : Nat → Int32} {lg nw t2 w8 : Nat → Int64} (hn : 100000 < n) (ht : t ≤ 3) (hc : c ≤ 1000) (hV : VOk t c v) (htS : 0 < c → t = 3 → TxI 2 tl.2.1 510) (hM : VsM t c v.1 v.2.1 v.2.2 (nI c) nw nf nb) (hT : 0 < c → MT t 2 tl.1 tl.2.1 tl.2.2 t2 tb tz1) :
    f_M_readBody_j158 n 20000 1001 1000 2 512 2 (nI t) nc ws at1 0 lc cm lg mo nb nd nf nr nw nu t2 tb tz1 wb wf w8 (nI c) = some (nc, ws, at1, (nI (pMost t c tl v)), lc, cm, lg, mo, nb, nd, nf, nr, nw, nu, wb, wf, w8) := by
  unfold f_M_readBody_j158 pMost
  have hle0 : (nI c ≤ 0) ↔ c = 0 := by rw [QI0, qn_le (by omega) (by omega)]; omega
  have z11 : ¬ (11 : Int32) = 0 := by decide
  rw [if_pos rfl, qifc hle0]
  by_cases c0 : c = 0
  · have k1 : ¬ (0 < c ∧ ¬ cmpZ t tl.1 v.1 tl.2.1 v.2.1 tl.2.2 v.2.2 0 (mostA (cmpZ t v.1 v.1 v.2.1 v.2.1 v.2.2 v.2.2) false c) = 0) := fun hh => by omega
    have k2 : ¬ (0 < c ∧ ¬ cmpZ t tl.1 v.1 tl.2.1 v.2.1 tl.2.2 v.2.2 1 (mostA (cmpZ t v.1 v.1 v.2.1 v.2.1 v.2.2 v.2.2) true c) = 0) := fun hh => by omega
    unfold f_M_readBody_j184
    rw [if_pos c0, if_pos rfl, qifc hle0, if_pos c0, if_neg k1, if_neg k2]; rfl
  · obtain ⟨o0, a1, a2⟩ := M_isMost (n := n) (t := t) (c := c) (i := 0) (num := v.1) (tn := tl.1) (S := v.2.1) (tS' := tl.2.1) (T := v.2.2) (tT' := tl.2.2) (cnt := nI c) (nw := nw) (nf := nf) (nb := nb) (told2 := t2) (toldBytes := tb) (toldSize := tz1) hn ht hc (by omega) (by omega) (fun h3 => hV.2 h3) (htS (by omega)) hM (hT (by omega))
    obtain ⟨o1, b1, b2⟩ := M_isMost (n := n) (t := t) (c := c) (i := 1) (num := v.1) (tn := tl.1) (S := v.2.1) (tS' := tl.2.1) (T := v.2.2) (tT' := tl.2.2) (cnt := nI c) (nw := nw) (nf := nf) (nb := nb) (told2 := t2) (toldBytes := tb) (toldSize := tz1) hn ht hc (by omega) (by omega) (fun h3 => hV.2 h3) (htS (by omega)) hM (hT (by omega))
    have a1' : f_M_isMost n 20000 1001 1000 2 512 2 (nI t) nb nf nw t2 tb tz1 (nI c) 0 = some o0 := a1
    have b1' : f_M_isMost n 20000 1001 1000 2 512 2 (nI t) nb nf nw t2 tb tz1 (nI c) 1 = some o1 := b1
    have a3 : (o0 = 0) ↔ (0 < c ∧ ¬ cmpZ t tl.1 v.1 tl.2.1 v.2.1 tl.2.2 v.2.2 0 (mostA (cmpZ t v.1 v.1 v.2.1 v.2.1 v.2.2 v.2.2) false c) = 0) := a2.trans ⟨fun hh => ⟨by omega, hh⟩, fun hh => hh.2⟩
    have b3 : (o1 = 0) ↔ (0 < c ∧ ¬ cmpZ t tl.1 v.1 tl.2.1 v.2.1 tl.2.2 v.2.2 1 (mostA (cmpZ t v.1 v.1 v.2.1 v.2.1 v.2.2 v.2.2) true c) = 0) := b2.trans ⟨fun hh => ⟨by omega, hh⟩, fun hh => hh.2⟩
    rw [if_neg c0, a1', obs]
    by_cases k1 : 0 < c ∧ ¬ cmpZ t tl.1 v.1 tl.2.1 v.2.1 tl.2.2 v.2.2 0 (mostA (cmpZ t v.1 v.1 v.2.1 v.2.1 v.2.2 v.2.2) false c) = 0
    · rw [if_pos (a3.mpr k1), mb_184F z11, if_pos k1]; rfl
    · rw [if_neg (fun hh => k1 (a3.mp hh)), if_neg k1]
      unfold f_M_readBody_j184
      rw [if_pos rfl, qifc hle0, if_neg c0, b1', obs]
      by_cases k2 : 0 < c ∧ ¬ cmpZ t tl.1 v.1 tl.2.1 v.2.1 tl.2.2 v.2.2 1 (mostA (cmpZ t v.1 v.1 v.2.1 v.2.1 v.2.2 v.2.2) true c) = 0
      · rw [if_pos (b3.mpr k2), if_pos k2]; rfl
      · rw [if_neg (fun hh => k2 (b3.mp hh)), if_neg k2]; rfl
def pBody2 (I : List UInt8) (t r d m c how size a7 : Nat) (tl : ((Nat → Int64) × (Nat → Nat) × (Nat → UInt8))) : Nat ⊕ ((Nat → Nat) × (Nat → Nat) × ((Nat → Int64) × (Nat → Nat) × (Nat → UInt8))) :=
  match pLevels I (a7 + size) a7 m r d c with
  | .inl x => .inl x
  | .inr (a', rp, df) =>
    match pVals I (a7 + size) a' c t how with
    | .inl x => .inl x
    | .inr v => if pMost t c tl v = 0 then .inr (rp, df, v) else .inl (pMost t c tl v)
theorem pMost_3 (t c : Nat) (tl v : ((Nat → Int64) × (Nat → Nat) × (Nat → UInt8))) : pMost t c tl v = 0 ∨ pMost t c tl v = 11 ∨ pMost t c tl v = 12 := by
  unfold pMost
  split
  · exact Or.inr (Or.inl rfl)
  · split
    · exact Or.inr (Or.inr rfl)
    · exact Or.inl rfl
theorem mb_134 {n t r d m c how size a7 a' e : Nat} {I : List UInt8} {rp df : Nat → Nat} {tl : ((Nat → Int64) × (Nat → Nat) × (Nat → UInt8))} {nc ws at1 fa lc : Int32} {cm mo nb nd nf nr nu tb tz1 wb wf : Nat → Int32} {lg nw t2 w8 : Nat → Int64} (he : e = a7 + size) (he2 : e ≤ 30000) (hn : 100000 < n) (ht : t ≤ 3) (hc : c ≤ 1000) (htS : 0 < c → t = 3 → TxI 2 tl.2.1 510) (hT : 0 < c → MT t 2 tl.1 tl.2.1 tl.2.2 t2 tb tz1)
    (hL : pLevels I (a7 + size) a7 m r d c = .inr (a', rp, df)) (hlev : ∀ k, k < m → nd k = nI (df k) ∧ nr k = nI (rp k)) (hnf : nf 0 = nI 0)
    (hV : (∃ x, pValsG I e a' c t how = .inl x ∧ fa = nI x ∧ ¬ nI x = 0) ∨ (∃ b v, pValsG I e a' c t how = .inr (b, v) ∧ b ≤ e ∧ at1 = nI b ∧ fa = 0 ∧ VOk t c v ∧ VsM t c v.1 v.2.1 v.2.2 (nI c) nw nf nb)) :
    ∃ o, f_M_readBody_j134 n 20000 1001 1000 2 512 2 (nI t) nc ws at1 (nI e) fa lc cm lg mo nb nd nf nr nw nu t2 tb tz1 wb wf w8 (nI c) = some o ∧ o.2.2.2.2.2.2.2.2.2.2.1 0 = nI 0 ∧ ((∃ x, pBody2 I t r d m c how size a7 tl = .inl x ∧ o.2.2.2.1 = nI x ∧ ¬ nI x = 0) ∨ (∃ v, pBody2 I t r d m c how size a7 tl = .inr (rp, df, v) ∧ o.2.2.2.1 = 0 ∧ (∀ k, k < m → o.2.2.2.2.2.2.2.2.2.1 k = nI (df k) ∧ o.2.2.2.2.2.2.2.2.2.2.2.1 k = nI (rp k)) ∧ VsM t c v.1 v.2.1 v.2.2 (nI c) o.2.2.2.2.2.2.2.2.2.2.2.2.1 o.2.2.2.2.2.2.2.2.2.2.1 o.2.2.2.2.2.2.2.2.1)) := by
  unfold pBody2
  rw [hL]
  simp only
  subst he
  unfold pVals
  rcases hV with ⟨x, h1, h2, h3⟩ | ⟨b, v, h1, h2, h3, h4, h5, h6⟩
  · rw [mb_134F (by rw [h2]; exact h3), h1]
    exact ⟨_, rfl, hnf, Or.inl ⟨x, rfl, h2, h3⟩⟩
  · rw [h1, h3, h4]
    simp only
    unfold f_M_readBody_j134
    rw [if_pos rfl, ifle (by omega) (by omega)]
    by_cases ce : b < a7 + size
    · rw [if_neg (by omega), if_pos ce]
      have z6 : ¬ (6 : Int32) = 0 := by decide
      unfold f_M_readBody_j158
      rw [if_neg z6, mb_184F z6]
      exact ⟨_, rfl, hnf, Or.inl ⟨6, rfl, rfl, by decide⟩⟩
    · rw [if_pos (by omega), if_neg ce, mb_158 hn ht hc h5 htS h6 hT]
      simp only
      by_cases cm0 : pMost t c tl v = 0
      · rw [if_pos cm0, cm0]
        exact ⟨_, rfl, hnf, Or.inr ⟨v, rfl, rfl, hlev, h6⟩⟩
      · rw [if_neg cm0]
        exact ⟨_, rfl, hnf, Or.inl ⟨_, rfl, rfl, nIf cm0 (by have := pMost_3 t c tl v; omega)⟩⟩
theorem VsM_vals {t c : Nat} {num num' : Nat → Int64} {S : Nat → Nat} {T : Nat → UInt8} {x : Int32} {w w' : Nat → Int64} {nf nb : Nat → Int32} (ht : t = 3) (h : VsM t c num S T x w nf nb) : VsM t c num' S T (nI c) w' nf nb := ⟨rfl, fun h3 => absurd ht h3, h.2.2.1, h.2.2.2⟩
theorem M_readBody {n t r d m c how size a7 : Nat} {I : List UInt8} {tl : ((Nat → Int64) × (Nat → Nat) × (Nat → UInt8))} {nc ws lc : Int32} {cm inp mo nb nd nf nr nu tb tz1 wb wf : Nat → Int32} {lg nw t2 w8 : Nat → Int64}
    (hn : 100000 < n) (hI : I.length ≤ 30000) (hfit : a7 + size ≤ I.length) (ht : t ≤ 3) (hr : r ≤ 16) (hd : d ≤ 16) (hm : m ≤ 1000) (hc : c ≤ 1000) (hh : how ≤ lastC t) (h : QHM I inp) (hnf : nf 0 = nI 0) (htS : 0 < c → t = 3 → TxI 2 tl.2.1 510) (hT : 0 < c → MT t 2 tl.1 tl.2.1 tl.2.2 t2 tb tz1) :
    ∃ o, f_M_readBody n 1000 30000 2000 1000 20000 1008 1001 1008 1000 1008 2 512 2 20000 1001 1000 (nI t) (nI r) (nI d) nc ws (nI a7) (nI (a7 + size)) 0 lc cm inp lg mo nb nd nf nr nw nu t2 tb tz1 wb wf w8 (nI m) (nI c) (nI how) = some o ∧ o.2.2.2.2.2.2.2.2.2.2.1 0 = nI 0 ∧ ((∃ x, pBody2 I t r d m c how size a7 tl = .inl x ∧ o.2.2.2.1 = nI x ∧ ¬ nI x = 0) ∨ (∃ rp df v, pBody2 I t r d m c how size a7 tl = .inr (rp, df, v) ∧ o.2.2.2.1 = 0 ∧ (∀ k, k < m → o.2.2.2.2.2.2.2.2.2.1 k = nI (df k) ∧ o.2.2.2.2.2.2.2.2.2.2.2.1 k = nI (rp k)) ∧ VsM t c v.1 v.2.1 v.2.2 (nI c) o.2.2.2.2.2.2.2.2.2.2.2.2.1 o.2.2.2.2.2.2.2.2.2.2.1 o.2.2.2.2.2.2.2.2.1)) := by
  unfold f_M_readBody
  have hbF : ∀ (x : Nat) (at2 fa2 y : Int32) (nd2 nr2 : Nat → Int32), fa2 = nI x → ¬ nI x = 0 → pBody2 I t r d m c how size a7 tl = .inl x → ∃ o, f_M_readBody_j68 n 1000 30000 2000 1000 20000 1001 1000 1008 2 512 2 20000 1001 1000 (nI t) nc ws at2 (nI (a7 + size)) fa2 lc cm inp lg mo nb nd2 nf nr2 nw nu t2 tb tz1 wb wf w8 (nI c) (nI how) y = some o ∧ o.2.2.2.2.2.2.2.2.2.2.1 0 = nI 0 ∧ ((∃ x, pBody2 I t r d m c how size a7 tl = .inl x ∧ o.2.2.2.1 = nI x ∧ ¬ nI x = 0) ∨ (∃ rp df v, pBody2 I t r d m c how size a7 tl = .inr (rp, df, v) ∧ o.2.2.2.1 = 0 ∧ (∀ k, k < m → o.2.2.2.2.2.2.2.2.2.1 k = nI (df k) ∧ o.2.2.2.2.2.2.2.2.2.2.2.1 k = nI (rp k)) ∧ VsM t c v.1 v.2.1 v.2.2 (nI c) o.2.2.2.2.2.2.2.2.2.2.2.2.1 o.2.2.2.2.2.2.2.2.2.2.1 o.2.2.2.2.2.2.2.2.1)) := by
    intro x at2 fa2 y nd2 nr2 e1 e2 e3
    have hF : ¬ fa2 = 0 := by rw [e1]; exact e2
    unfold f_M_readBody_j68 f_M_readBody_j87
    rw [if_neg hF, if_neg hF]
    exact ⟨_, rfl, hnf, Or.inl ⟨x, e3, e1, e2⟩⟩
  obtain ⟨o1, y1, y2⟩ := M_readLevels (n := n) (cap := 30000) (e := a7 + size) (a := a7) (m := m) (most := r) (pn := 1008) (I := I) (inp := inp) (p1 := nr) hn (by omega) hI hfit (by omega) hm (by omega) hr h
  rw [y1, obs]
  rcases y2 with ⟨x, z1, z2, z3⟩ | ⟨a1, rp, z1, z2, z3, z4, z5⟩
  · obtain ⟨o2, w1, w2⟩ := M_readLevelsF (n := n) (cap := 30000) (m := m) (most := d) (pn := 1008) (inp := inp) (p1 := nd) (at' := o1.1) (st := nI (a7 + size)) (f := o1.2.1) hn hm (by omega) hd (by rw [z2]; exact z3)
    obtain ⟨oh, v1, v2⟩ := M_has (n := n) (m := m) (D := nI d) (nd := o2.2.2) hn hm
    rw [w1, obs, v1, obs]
    exact hbF x _ _ _ _ _ (w2.trans z2) z3 (by unfold pBody2 pLevels; rw [z1])
  · obtain ⟨o2, w1, w2⟩ := M_readLevels (n := n) (cap := 30000) (e := a7 + size) (a := a1) (m := m) (most := d) (pn := 1008) (I := I) (inp := inp) (p1 := nd) hn (by omega) hI hfit z2 hm (by omega) hd h
    obtain ⟨oh, v1, v2⟩ := M_has (n := n) (m := m) (D := nI d) (nd := o2.2.2) hn hm
    rw [z3, z4, w1, obs, v1, obs]
    rcases w2 with ⟨x, u1, u2, u3⟩ | ⟨a2, df, u1, u2, u3, u4, u5⟩
    · exact hbF x _ _ _ _ _ u2 u3 (by unfold pBody2 pLevels; rw [z1]; simp only; rw [u1])
    · have hg2 := pLev_le u1
      have hcnt := v2 d df rfl hd (fun k hk => ⟨u5 k hk, by have := hg2 k hk; omega⟩)
      have hcm := cntD_le df d m
      unfold f_M_readBody_j68
      rw [u3, u4, hcnt, if_pos rfl, ife (by omega) (by omega)]
      by_cases cc : cntD df d m = c
      · rw [if_pos cc]
        have hL : pLevels I (a7 + size) a7 m r d c = .inr (a2, rp, df) := by
          unfold pLevels
          rw [z1]
          simp only
          rw [u1]
          simp only
          rw [if_pos cc]
        have hlev : ∀ k, k < m → o2.2.2 k = nI (df k) ∧ o1.2.2 k = nI (rp k) := fun k hk => ⟨u5 k hk, z5 k hk⟩
        unfold f_M_readBody_j87
        rw [if_pos rfl, ife0 (by omega), ife3 (by omega)]
        have hG : pValsG I (a7 + size) a2 c t how = if t = 0 then (match pBools I (a7 + size) a2 c how with | .inl x => .inl x | .inr (a', f) => .inr (a', f, (fun _ => 0), (fun _ => 0))) else if t = 3 then (match pTexts I (a7 + size) a2 c how with | .inl x => .inl x | .inr (a', S, T) => .inr (a', (fun _ => 0), S, T)) else (match pWholes I (a7 + size) a2 c t how with | .inl x => .inl x | .inr (a', f) => .inr (a', f, (fun _ => 0), (fun _ => 0))) := rfl
        have hfinal : ∀ {o : Int32 × Int32 × Int32 × Int32 × Int32 × (Nat → Int32) × (Nat → Int64) × (Nat → Int32) × (Nat → Int32) × (Nat → Int32) × (Nat → Int32) × (Nat → Int32) × (Nat → Int64) × (Nat → Int32) × (Nat → Int32) × (Nat → Int32) × (Nat → Int64)}, ((∃ x, pBody2 I t r d m c how size a7 tl = .inl x ∧ o.2.2.2.1 = nI x ∧ ¬ nI x = 0) ∨ (∃ v, pBody2 I t r d m c how size a7 tl = .inr (rp, df, v) ∧ o.2.2.2.1 = 0 ∧ (∀ k, k < m → o.2.2.2.2.2.2.2.2.2.1 k = nI (df k) ∧ o.2.2.2.2.2.2.2.2.2.2.2.1 k = nI (rp k)) ∧ VsM t c v.1 v.2.1 v.2.2 (nI c) o.2.2.2.2.2.2.2.2.2.2.2.2.1 o.2.2.2.2.2.2.2.2.2.2.1 o.2.2.2.2.2.2.2.2.1)) → ((∃ x, pBody2 I t r d m c how size a7 tl = .inl x ∧ o.2.2.2.1 = nI x ∧ ¬ nI x = 0) ∨ (∃ rp df v, pBody2 I t r d m c how size a7 tl = .inr (rp, df, v) ∧ o.2.2.2.1 = 0 ∧ (∀ k, k < m → o.2.2.2.2.2.2.2.2.2.1 k = nI (df k) ∧ o.2.2.2.2.2.2.2.2.2.2.2.1 k = nI (rp k)) ∧ VsM t c v.1 v.2.1 v.2.2 (nI c) o.2.2.2.2.2.2.2.2.2.2.2.2.1 o.2.2.2.2.2.2.2.2.2.2.1 o.2.2.2.2.2.2.2.2.1)) := by
          intro o hx
          rcases hx with hx | ⟨v, hx⟩
          · exact Or.inl hx
          · exact Or.inr ⟨rp, df, v, hx⟩
        by_cases t0 : t = 0
        · have hh1 : how ≤ 1 := by
            rw [t0] at hh; exact hh
          obtain ⟨ob, b1, b2⟩ := M_readBools (n := n) (cap := 30000) (e := a7 + size) (a := a2) (c := c) (how := how) (I := I) (inp := inp) (nw := nw) (nums := nu) hn (by omega) hI hfit u2 hc hh1 h
          rw [if_pos t0, b1, obs]
          rw [if_pos t0] at hG
          obtain ⟨o, q1, q2, q3⟩ := mb_134 (n := n) (t := t) (r := r) (d := d) (m := m) (c := c) (how := how) (size := size) (a7 := a7) (a' := a2) (e := a7 + size) (I := I) (rp := rp) (df := df) (tl := tl) (nc := nc) (ws := ws) (at1 := ob.1) (fa := ob.2.1) (lc := lc) (cm := cm) (mo := mo) (nb := nb) (nd := o2.2.2) (nf := nf) (nr := o1.2.2) (nu := ob.2.2.2) (tb := tb) (tz1 := tz1) (wb := wb) (wf := wf) (lg := lg) (nw := ob.2.2.1) (t2 := t2) (w8 := w8) rfl (by omega) hn ht hc htS hT hL hlev hnf (by
            rw [hG]
            rcases b2 with ⟨x, s1, s2, s3⟩ | ⟨b, f, s1, s2, s3, s4, s5⟩
            · rw [s1]; exact Or.inl ⟨x, rfl, s2, s3⟩
            · rw [s1]; exact Or.inr ⟨b, _, rfl, s2, s3, s4, ⟨fun h3 => ⟨pBools_holds t0 hc hfit u2 hI s1, rfl⟩, fun h3 => absurd h3 (by omega)⟩, rfl, fun _ j hj => s5 j hj, hnf, fun h3 => absurd h3 (by omega)⟩)
          exact ⟨o, q1, q2, hfinal q3⟩
        · rw [if_neg t0]
          rw [if_neg t0] at hG
          by_cases t3 : t = 3
          · have hh3 : how ≤ 3 := by
              rw [t3] at hh; exact hh
            obtain ⟨ob, b1, b0, b2⟩ := M_readTexts (n := n) (cap := 30000) (e := a7 + size) (a := a2) (c := c) (how := how) (I := I) (inp := inp) (com := cm) (more := mo) (num := fun _ => 0) (lg := lg) (wholes := nw) (nb := nb) (nf := nf) (nums := nu) (wb := wb) (wf := wf) (ws := ws) (lc := lc) hn (by omega) hI hfit u2 hc hh3 h hnf
            rw [if_pos t3, b1, obs]
            rw [if_pos t3] at hG
            obtain ⟨o, q1, q2, q3⟩ := mb_134 (n := n) (t := t) (r := r) (d := d) (m := m) (c := c) (how := how) (size := size) (a7 := a7) (a' := a2) (e := a7 + size) (I := I) (rp := rp) (df := df) (tl := tl) (nc := ob.1) (ws := ob.2.1) (at1 := ob.2.2.1) (fa := ob.2.2.2.1) (lc := ob.2.2.2.2.1) (cm := ob.2.2.2.2.2.1) (mo := ob.2.2.2.2.2.2.2.1) (nb := ob.2.2.2.2.2.2.2.2.1) (nd := o2.2.2) (nf := ob.2.2.2.2.2.2.2.2.2.1) (nr := o1.2.2) (nu := ob.2.2.2.2.2.2.2.2.2.2.1) (tb := tb) (tz1 := tz1) (wb := ob.2.2.2.2.2.2.2.2.2.2.2.1) (wf := ob.2.2.2.2.2.2.2.2.2.2.2.2) (lg := ob.2.2.2.2.2.2.1) (nw := nw) (t2 := t2) (w8 := w8) rfl (by omega) hn ht hc htS hT hL hlev b0 (by
              rw [hG]
              rcases b2 with ⟨x, s1, s2, s3⟩ | ⟨b, S, T, s1, s2, s3, s4, s5, s6⟩
              · rw [s1]; exact Or.inl ⟨x, rfl, s2, s3⟩
              · rw [s1]
                have s7 : VsM t c (fun _ => 0) S T ob.1 nw ob.2.2.2.2.2.2.2.2.2.1 ob.2.2.2.2.2.2.2.2.1 := by rw [t3]; exact s6
                exact Or.inr ⟨b, _, rfl, s2, s3, s4, ⟨fun h3 => absurd t3 h3, fun _ => s5⟩, VsM_vals t3 s7⟩)
            exact ⟨o, q1, q2, hfinal q3⟩
          · have ht12 : t = 1 ∨ t = 2 := by omega
            have hh2 : how ≤ 2 := by rw [lastC_1 ht12] at hh; exact hh
            obtain ⟨ob, b1, b2⟩ := M_readWholes (n := n) (cap := 30000) (e := a7 + size) (a := a2) (c := c) (t := t) (how := how) (I := I) (inp := inp) (lg := lg) (nw := nw) (w8 := w8) (nums := nu) (lc := lc) hn (by omega) hI hfit u2 hc ht12 hh2 h
            rw [if_neg t3, b1, obs]
            rw [if_neg t3] at hG
            obtain ⟨o, q1, q2, q3⟩ := mb_134 (n := n) (t := t) (r := r) (d := d) (m := m) (c := c) (how := how) (size := size) (a7 := a7) (a' := a2) (e := a7 + size) (I := I) (rp := rp) (df := df) (tl := tl) (nc := nc) (ws := ws) (at1 := ob.1) (fa := ob.2.1) (lc := ob.2.2.1) (cm := cm) (mo := mo) (nb := nb) (nd := o2.2.2) (nf := nf) (nr := o1.2.2) (nu := ob.2.2.2.2.2.1) (tb := tb) (tz1 := tz1) (wb := wb) (wf := wf) (lg := ob.2.2.2.1) (nw := ob.2.2.2.2.1) (t2 := t2) (w8 := ob.2.2.2.2.2.2) rfl (by omega) hn ht hc htS hT hL hlev hnf (by
              rw [hG]
              rcases b2 with ⟨x, s1, s2, s3⟩ | ⟨b, f, s1, s2, s3, s4, s5⟩
              · rw [s1]; exact Or.inl ⟨x, rfl, s2, s3⟩
              · rw [s1]; exact Or.inr ⟨b, _, rfl, s2, s3, s4, ⟨fun h3 => ⟨pWholes_holds ht12 s1, rfl⟩, fun h3 => absurd h3 t3⟩, rfl, fun _ j hj => s5 j hj, hnf, fun h3 => absurd h3 t3⟩)
            exact ⟨o, q1, q2, hfinal q3⟩
      · rw [if_neg cc]
        unfold f_M_readBody_j87
        rw [if_neg (show ¬ (10 : Int32) = 0 by decide)]
        refine ⟨_, rfl, hnf, Or.inl ⟨10, ?_, rfl, by decide⟩⟩
        unfold pBody2 pLevels
        rw [z1]
        simp only
        rw [u1]
        simp only
        rw [if_neg cc]
