theorem mF_227 {n : Nat} {code ty mR mD en va cd bz nc ws isz at1 st fa lc : Int32} {by1 cm de fr inp mo nb nd nf nr nu re tb tz1 wb wf : Nat → Int32} {lg nw t2 wh w8 : Nat → Int64} {v1 : Int64} {v3 : Int64} {v5 : Int32} {v6 : Int64} {v8 : Int32} (hn : 100000 < n) (hf : ¬ fa = 0) : f_M_read_j227 n 20000 1000 1000 1001 30000 2000 1000 20000 1008 1001 1008 1000 1008 1000 2 512 2 1000 20000 1001 1000 code ty mR mD en va cd bz nc ws isz at1 st fa lc by1 cm de fr inp lg mo nb nd nf nr nw nu re t2 tb tz1 wh wb wf w8 v1 v3 v5 v6 v8 = some (fa, code, en, va, cd, bz, nc, ws, at1, st, fa, lc, by1, cm, de, fr, lg, mo, nb, nd, nf, nr, nw, nu, re, t2, tb, tz1, wh, wb, wf, w8) := by
  unfold f_M_read_j227
  rw [if_neg hf]
theorem mF_170 {n : Nat} {code ty mR mD en va cd bz nc ws isz at1 st fa lc : Int32} {by1 cm de fr inp mo nb nd nf nr nu re tb tz1 wb wf : Nat → Int32} {lg nw t2 wh w8 : Nat → Int64} {v1 : Int64} {v3 : Int64} {v5 : Int32} (hn : 100000 < n) (hf : ¬ fa = 0) : f_M_read_j170 n 20000 1000 1000 1001 30000 2000 1000 20000 1008 1001 1008 1000 1008 1000 2 512 2 1000 20000 1001 1000 code ty mR mD en va cd bz nc ws isz at1 st fa lc by1 cm de fr inp lg mo nb nd nf nr nw nu re t2 tb tz1 wh wb wf w8 v1 v3 v5 = some (fa, code, en, va, cd, bz, nc, ws, at1, st, fa, lc, by1, cm, de, fr, lg, mo, nb, nd, nf, nr, nw, nu, re, t2, tb, tz1, wh, wb, wf, w8) := by
  unfold f_M_read_j170
  rw [M_varintF (by omega) hf, obs, M_fixedF hf, obs, if_neg hf, mF_227 hn hf]
theorem mF_136 {n : Nat} {code ty mR mD en va cd bz nc ws isz at1 st fa lc : Int32} {by1 cm de fr inp mo nb nd nf nr nu re tb tz1 wb wf : Nat → Int32} {lg nw t2 wh w8 : Nat → Int64} {v1 : Int64} {v3 : Int64} {v5 : Int32} (hn : 100000 < n) (hf : ¬ fa = 0) : f_M_read_j136 n 20000 1000 1000 1001 30000 2000 1000 20000 1008 1001 1008 1000 1008 1000 2 512 2 1000 20000 1001 1000 code ty mR mD en va cd bz nc ws isz at1 st fa lc by1 cm de fr inp lg mo nb nd nf nr nw nu re t2 tb tz1 wh wb wf w8 v1 v3 v5 = some (fa, code, en, va, cd, bz, nc, ws, at1, st, fa, lc, by1, cm, de, fr, lg, mo, nb, nd, nf, nr, nw, nu, re, t2, tb, tz1, wh, wb, wf, w8) := by
  unfold f_M_read_j136
  obtain ⟨y, rfl⟩ : ∃ y, n = y + 1 := ⟨n - 1, by omega⟩
  have hl : f_M_read_l139 (y + 1) 30000 2 512 2 ty st inp v1 v3 at1 fa t2 tb tz1 0 = some (Sum.inr (at1, fa, t2, tb, tz1, 0)) := by
    unfold f_M_read_l139
    rw [if_neg hf, ite_self]
  simp only [lp, hl, obs]
  exact mF_170 hn hf
theorem mF_102 {n : Nat} {code ty mR mD en va cd bz nc ws isz at1 st fa lc : Int32} {by1 cm de fr inp mo nb nd nf nr nu re tb tz1 wb wf : Nat → Int32} {lg nw t2 wh w8 : Nat → Int64} {v1 : Int64} {v3 : Int64} (hn : 100000 < n) (hf : ¬ fa = 0) : f_M_read_j102 n 20000 1000 1000 1001 30000 2000 1000 20000 1008 1001 1008 1000 1008 1000 2 512 2 1000 20000 1001 1000 code ty mR mD en va cd bz nc ws isz at1 st fa lc by1 cm de fr inp lg mo nb nd nf nr nw nu re t2 tb tz1 wh wb wf w8 v1 v3 = some (fa, code, en, va, cd, bz, nc, ws, at1, st, fa, lc, by1, cm, de, fr, lg, mo, nb, nd, nf, nr, nw, nu, re, t2, tb, tz1, wh, wb, wf, w8) := by
  unfold f_M_read_j102
  rw [M_fixedF hf, obs, if_neg hf, mF_136 hn hf]
theorem mF_68 {n : Nat} {code ty mR mD en va cd bz nc ws isz at1 st fa lc : Int32} {by1 cm de fr inp mo nb nd nf nr nu re tb tz1 wb wf : Nat → Int32} {lg nw t2 wh w8 : Nat → Int64} {v1 : Int64} (hn : 100000 < n) (hf : ¬ fa = 0) : f_M_read_j68 n 20000 1000 1000 1001 30000 2000 1000 20000 1008 1001 1008 1000 1008 1000 2 512 2 1000 20000 1001 1000 code ty mR mD en va cd bz nc ws isz at1 st fa lc by1 cm de fr inp lg mo nb nd nf nr nw nu re t2 tb tz1 wh wb wf w8 v1 = some (fa, code, en, va, cd, bz, nc, ws, at1, st, fa, lc, by1, cm, de, fr, lg, mo, nb, nd, nf, nr, nw, nu, re, t2, tb, tz1, wh, wb, wf, w8) := by
  unfold f_M_read_j68
  rw [M_varintF (by omega) hf, obs, if_neg hf, mF_102 hn hf]
theorem lp_step1 {V E : Type} {Bf : V → Option (V ⊕ E)} {k : Nat} {v w : V} (h : Bf v = some (Sum.inl w)) : lp Bf (k + 1) v = lp Bf k w := by simp only [lp, h]
theorem lp_exit1 {V E : Type} {Bf : V → Option (V ⊕ E)} {k : Nat} {v : V} {e : E} (h : Bf v = some (Sum.inr e)) : lp Bf (k + 1) v = some e := by simp only [lp, h]
theorem M_cpLev {n m : Nat} {nd nr de re : Nat → Int32} (hn : 100000 < n) (hm : m ≤ 1000) :
    ∃ o, lp (fun v => f_M_read_l358 1000 1008 1008 1000 (nI m) nd nr v.1 v.2.1 v.2.2) n (de, re, (0 : Int32)) = some o ∧ ∀ k, k < m → o.1 k = nd k ∧ o.2.1 k = nr k := by
  refine lp_inv (fun q u => ∃ i, i + q = m ∧ u.2.2 = nI i ∧ ∀ k, k < i → u.1 k = nd k ∧ u.2.1 k = nr k) _ ?_ m n _ ⟨0, by omega, rfl, fun k hk => absurd hk (by omega)⟩ (by omega)
  rintro q ⟨d1, r1, i'⟩ ⟨i, g1, g2, g3⟩
  simp only at g2 g3
  subst g2
  show (∃ w', f_M_read_l358 1000 1008 1008 1000 (nI m) nd nr d1 r1 (nI i) = _ ∧ _) ∨ (∃ y, f_M_read_l358 1000 1008 1008 1000 (nI m) nd nr d1 r1 (nI i) = _ ∧ _)
  unfold f_M_read_l358
  rw [ifle (by omega) (by omega)]
  by_cases ci : m ≤ i
  · have : i = m := by omega
    subst this
    rw [if_pos ci]
    exact Or.inr ⟨_, rfl, g3⟩
  · have e1 : nI i + 1 = nI (i + 1) := qn_add i 1
    rw [if_neg ci, gd_nI (by omega) (by omega), bnd_eq, gd_nI (by omega) (by omega), gd_nI (by omega) (by omega), bnd_eq, gd_nI (by omega) (by omega), bnd_eq, qn_clamp (by omega), e1]
    refine Or.inl ⟨_, rfl, q - 1, by omega, i + 1, by omega, rfl, ?_⟩
    intro k hk
    show upd d1 i (nd i) k = _ ∧ upd r1 i (nr i) k = _
    unfold upd
    by_cases ek : k = i
    · rw [if_pos ek, if_pos ek, ek]; exact ⟨rfl, rfl⟩
    · rw [if_neg ek, if_neg ek]; exact g3 k (by omega)
theorem M_cpWh {n t c : Nat} {nw wh : Nat → Int64} (hn : 100000 < n) (ht : t ≤ 3) (hc : c ≤ 1000) :
    ∃ o, lp (fun v => f_M_read_l404 1000 1000 (nI t) (nI c) nw v.1 v.2) n (wh, (0 : Int32)) = some o ∧ (t ≠ 3 → ∀ k, k < c → o.1 k = nw k) := by
  refine lp_inv (fun q u => ∃ i, i + q = c ∧ u.2 = nI i ∧ (t ≠ 3 → ∀ k, k < i → u.1 k = nw k)) _ ?_ c n _ ⟨0, by omega, rfl, fun _ k hk => absurd hk (by omega)⟩ (by omega)
  rintro q ⟨w, i'⟩ ⟨i, g1, g2, g3⟩
  simp only at g2 g3
  subst g2
  show (∃ w', f_M_read_l404 1000 1000 (nI t) (nI c) nw w (nI i) = _ ∧ _) ∨ (∃ y, f_M_read_l404 1000 1000 (nI t) (nI c) nw w (nI i) = _ ∧ _)
  unfold f_M_read_l404
  rw [ifle (by omega) (by omega), ife3 (by omega)]
  by_cases ci : c ≤ i
  · have : i = c := by omega
    subst this
    rw [if_pos ci]
    exact Or.inr ⟨_, rfl, g3⟩
  · rw [if_neg ci]
    by_cases t3 : t = 3
    · rw [if_pos t3]
      exact Or.inr ⟨_, rfl, fun h3 => absurd t3 h3⟩
    · have e1 : nI i + 1 = nI (i + 1) := qn_add i 1
      rw [if_neg t3, gd_nI (by omega) (by omega), bnd_eq, gd_nI (by omega) (by omega), bnd_eq, qn_clamp (by omega), e1]
      refine Or.inl ⟨_, rfl, q - 1, by omega, i + 1, by omega, rfl, ?_⟩
      intro h3 k hk
      show vp_updL w i (nw i) k = _
      unfold vp_updL
      by_cases ek : k = i
      · rw [if_pos ek, ek]
      · rw [if_neg ek]; exact g3 h3 k (by omega)
theorem M_cpFr {n t c : Nat} {nf fr : Nat → Int32} (hn : 100000 < n) (ht : t ≤ 3) (hc : c ≤ 1000) :
    ∃ o, lp (fun v => f_M_read_l444 1001 1001 (nI t) (nI c) nf v.1 v.2) n (fr, (0 : Int32)) = some o ∧ (t = 3 → ∀ k, k ≤ c → o.1 k = nf k) ∧ (t ≠ 3 → o.1 = fr) := by
  refine lp_inv (fun q u => ∃ i, i + q = c + 1 ∧ u.2 = nI i ∧ (t = 3 → ∀ k, k < i → u.1 k = nf k) ∧ (t ≠ 3 → u.1 = fr)) _ ?_ (c + 1) n _ ⟨0, by omega, rfl, fun _ k hk => absurd hk (by omega), fun _ => rfl⟩ (by omega)
  rintro q ⟨w, i'⟩ ⟨i, g1, g2, g3, g4⟩
  simp only at g2 g3 g4
  subst g2
  show (∃ w', f_M_read_l444 1001 1001 (nI t) (nI c) nf w (nI i) = _ ∧ _) ∨ (∃ y, f_M_read_l444 1001 1001 (nI t) (nI c) nf w (nI i) = _ ∧ _)
  unfold f_M_read_l444
  rw [ifl (by omega) (by omega), ife3 (by omega)]
  by_cases ci : c < i
  · rw [if_pos ci]
    exact Or.inr ⟨_, rfl, fun h3 k hk => g3 h3 k (by omega), g4⟩
  · rw [if_neg ci]
    by_cases t3 : t = 3
    · have e1 : nI i + 1 = nI (i + 1) := qn_add i 1
      rw [if_pos t3, gd_nI (by omega) (by omega), bnd_eq, gd_nI (by omega) (by omega), bnd_eq, qn_clamp (by omega), e1]
      refine Or.inl ⟨_, rfl, q - 1, by omega, i + 1, by omega, rfl, ?_, fun h3 => absurd t3 h3⟩
      intro h3 k hk
      show upd w i (nf i) k = _
      unfold upd
      by_cases ek : k = i
      · rw [if_pos ek, ek]
      · rw [if_neg ek]; exact g3 h3 k (by omega)
    · rw [if_neg t3]
      exact Or.inr ⟨_, rfl, fun h3 => absurd h3 t3, g4⟩
theorem M_cpBy {n t c s : Nat} {code en cd bz nc ws at1 st fa lc : Int32} {by1 cm de fr mo nb nd nf nr nu re tb tz1 wb wf : Nat → Int32} {lg nw t2 wh w8 : Nat → Int64} (hn : 100000 < n) (ht : t ≤ 3) (hc : c ≤ 1000) (hs : t = 3 → fr c = nI s ∧ s ≤ 20000) :
    ∃ by2, f_M_read_j481 n 20000 1001 20000 code (nI t) en (nI c) cd bz nc ws at1 st fa lc by1 cm de fr lg mo nb nd nf nr nw nu re t2 tb tz1 wh wb wf w8 = some (0, code, en, (nI c), cd, bz, nc, ws, at1, st, fa, lc, by2, cm, de, fr, lg, mo, nb, nd, nf, nr, nw, nu, re, t2, tb, tz1, wh, wb, wf, w8) ∧ (t = 3 → ∀ j, j < s → by2 j = nb j) := by
  unfold f_M_read_j481
  have main : ∃ o, lp (fun v => f_M_read_l484 20000 1001 20000 code (nI t) en (nI c) cd bz nc ws at1 st fa lc cm de fr lg mo nb nd nf nr nw nu re t2 tb tz1 wh wb wf w8 v.1 v.2) n (by1, (0 : Int32)) = some o ∧ ∃ by2, o = ((0 : Int32), code, en, (nI c), cd, bz, nc, ws, at1, st, fa, lc, by2, cm, de, fr, lg, mo, nb, nd, nf, nr, nw, nu, re, t2, tb, tz1, wh, wb, wf, w8) ∧ (t = 3 → ∀ j, j < s → by2 j = nb j) := by
    by_cases t3 : t = 3
    · obtain ⟨hs1, hs2⟩ := hs t3
      refine lp_inv (fun q u => ∃ i, i + q = s ∧ u.2 = nI i ∧ ∀ k, k < i → u.1 k = nb k) _ ?_ s n _ ⟨0, by omega, rfl, fun k hk => absurd hk (by omega)⟩ (by omega)
      rintro q ⟨w, i'⟩ ⟨i, g1, g2, g3⟩
      simp only at g2 g3
      subst g2
      show (∃ w', f_M_read_l484 20000 1001 20000 code (nI t) en (nI c) cd bz nc ws at1 st fa lc cm de fr lg mo nb nd nf nr nw nu re t2 tb tz1 wh wb wf w8 w (nI i) = _ ∧ _) ∨ (∃ y, f_M_read_l484 20000 1001 20000 code (nI t) en (nI c) cd bz nc ws at1 st fa lc cm de fr lg mo nb nd nf nr nw nu re t2 tb tz1 wh wb wf w8 w (nI i) = _ ∧ _)
      unfold f_M_read_l484
      rw [ife3 (by omega), if_pos t3, gd_nI (by omega) (by omega), qn_clamp (show c < 2147483648 by omega), hs1, ifle (by omega) (by omega)]
      by_cases ci : s ≤ i
      · rw [if_pos ci]
        exact Or.inr ⟨_, rfl, w, rfl, fun _ k hk => g3 k (by omega)⟩
      · have e1 : nI i + 1 = nI (i + 1) := qn_add i 1
        rw [if_neg ci, gd_nI (by omega) (by omega), bnd_eq, gd_nI (by omega) (by omega), bnd_eq, qn_clamp (by omega), e1]
        refine Or.inl ⟨_, rfl, q - 1, by omega, i + 1, by omega, rfl, ?_⟩
        intro k hk
        show upd w i (nb i) k = _
        unfold upd
        by_cases ek : k = i
        · rw [if_pos ek, ek]
        · rw [if_neg ek]; exact g3 k (by omega)
    · obtain ⟨y, rfl⟩ : ∃ y, n = y + 1 := ⟨n - 1, by omega⟩
      refine ⟨_, lp_exit1 (by
        show f_M_read_l484 20000 1001 20000 code (nI t) en (nI c) cd bz nc ws at1 st fa lc cm de fr lg mo nb nd nf nr nw nu re t2 tb tz1 wh wb wf w8 by1 0 = _
        unfold f_M_read_l484
        rw [ife3 (by omega), if_neg t3]), by1, rfl, fun h3 => absurd h3 t3⟩
  obtain ⟨o, h1, by2, h2, h3⟩ := main
  rw [h1, h2, obs]
  exact ⟨by2, rfl, h3⟩
theorem l64_sub {m z : Nat} (h : z ≤ m) : ql64 m - ql64 z = ql64 (m - z) := by
  have h1 : ql64 m = ql64 (m - z) + ql64 z := by rw [ql64_add, show m - z + z = m by omega]
  rw [h1]; simp
theorem M_316 {n t m z size : Nat} {v : ((Nat → Int64) × (Nat → Nat) × (Nat → UInt8))} {rp df : Nat → Nat} {code en va cd bz nc ws at1 st lc : Int32} {by1 cm de fr mo nb nd nf nr nu re tb tz1 wb wf : Nat → Int32} {lg nw t2 wh w8 : Nat → Int64} {v5 : Int32} (hn : 100000 < n) (ht : t ≤ 3) (hm : m ≤ 1000) (hz : z ≤ m) (hsz : size ≤ 30000) (hfr : fr 0 = nI 0) (hV : t = 3 → TxI (m - z) v.2.1 20000)
    (hlev : ∀ k, k < m → nd k = nI (df k) ∧ nr k = nI (rp k)) (hM : VsM t (m - z) v.1 v.2.1 v.2.2 (nI (m - z)) nw nf nb) :
    ∃ o, f_M_read_j316 n 20000 1000 1001 20000 1008 1001 1008 1000 1000 1000 code (nI t) en va cd bz nc ws at1 st 0 lc by1 cm de fr lg mo nb nd nf nr nw nu re t2 tb tz1 wh wb wf w8 (ql64 m) (ql64 z) v5 (ql64 size) = some o ∧ o.2.2.2.2.2.2.2.2.2.2.2.2.2.2.2.2.2.2.2.2.1 = nf ∧ o.1 = 0 ∧ o.2.2.1 = nI m ∧ o.2.2.2.1 = nI (m - z) ∧ o.2.2.2.2.1 = v5 ∧ o.2.2.2.2.2.1 = nI size ∧ (∀ k, k < m → o.2.2.2.2.2.2.2.2.2.2.2.2.2.2.1 k = nI (df k) ∧ o.2.2.2.2.2.2.2.2.2.2.2.2.2.2.2.2.2.2.2.2.2.2.2.2.1 k = nI (rp k)) ∧ VsM t (m - z) v.1 v.2.1 v.2.2 o.2.2.2.1 o.2.2.2.2.2.2.2.2.2.2.2.2.2.2.2.2.2.2.2.2.2.2.2.2.2.2.2.2.1 o.2.2.2.2.2.2.2.2.2.2.2.2.2.2.2.1 o.2.2.2.2.2.2.2.2.2.2.2.2.1 := by
  unfold f_M_read_j316 f_M_read_j401 f_M_read_j441
  have em : (ql64 m).toInt32 = nI m := l64_i32 (by omega)
  have ec : (ql64 (m - z)).toInt32 = nI (m - z) := l64_i32 (by omega)
  have es : (ql64 size).toInt32 = nI size := l64_i32 (by omega)
  obtain ⟨g4, g5, g6, g7⟩ := hM
  obtain ⟨ol, l1, l2⟩ := M_cpLev (n := n) (m := m) (nd := nd) (nr := nr) (de := de) (re := re) hn hm
  obtain ⟨ow, w1, w2⟩ := M_cpWh (n := n) (t := t) (c := m - z) (nw := nw) (wh := wh) hn ht (by omega)
  obtain ⟨of, f1, f2, f3⟩ := M_cpFr (n := n) (t := t) (c := m - z) (nf := nf) (fr := fr) hn ht (by omega)
  rw [if_pos rfl, bnd_eq, l64_sub hz, em, ec, es, l1, obs, w1, obs, f1, obs]
  obtain ⟨by2, b1, b2⟩ := M_cpBy (n := n) (t := t) (c := m - z) (s := v.2.1 (m - z)) (code := code) (en := nI m) (cd := v5) (bz := nI size) (nc := nc) (ws := ws) (at1 := at1) (st := st) (fa := 0) (lc := lc) (by1 := by1) (cm := cm) (de := ol.1) (fr := of.1) (mo := mo) (nb := nb) (nd := nd) (nf := nf) (nr := nr) (nu := nu) (re := ol.2.1) (tb := tb) (tz1 := tz1) (wb := wb) (wf := wf) (lg := lg) (nw := nw) (t2 := t2) (wh := ow.1) (w8 := w8) hn ht (by omega) (fun h3 => ⟨by rw [f2 h3 _ (Nat.le_refl _)]; exact (g7 h3).1 _ (Nat.le_refl _), (hV h3).2.2⟩)
  rw [b1]
  refine ⟨_, rfl, rfl, rfl, rfl, rfl, rfl, rfl, fun k hk => ?_, rfl, fun h3 j hj => ?_, ?_, fun h3 => ⟨fun k hk => ?_, fun j hj => ?_⟩⟩
  · exact ⟨(l2 k hk).1.trans (hlev k hk).1, (l2 k hk).2.trans (hlev k hk).2⟩
  · exact (w2 h3 j hj).trans (g5 h3 j hj)
  · by_cases h3 : t = 3
    · exact (f2 h3 0 (by omega)).trans g6
    · show of.1 0 = _
      rw [f3 h3]; exact hfr
  · exact (f2 h3 k hk).trans ((g7 h3).1 k hk)
  · exact (b2 h3 j hj).trans ((g7 h3).2 j hj)
theorem pRest_body {I : List UInt8} {t r d m z how size a7 chk : Nat} {tl : ((Nat → Int64) × (Nat → Nat) × (Nat → UInt8))} (c1 : ¬ I.length - a7 < size) (c8 : qcrc (qseg I a7 size) = (ql64 chk).toInt32) (c6 : ¬ a7 + size < I.length) : pRest I t r d m z how tl size a7 chk = match pBody2 I t r d m (m - z) how size a7 tl with
    | .inl x => .inl x
    | .inr (rp, df, v) => .inr (m, m - z, how, size, rp, df, v) := by
  unfold pRest pBody1 pBody2 pMost
  rw [if_neg c1, if_neg (show ¬ ¬ qcrc (qseg I a7 size) = (ql64 chk).toInt32 from fun hh => hh c8), if_neg c6]
  cases pLevels I (a7 + size) a7 m r d (m - z) with
  | inl x => rfl
  | inr ar =>
    obtain ⟨a', rp, df⟩ := ar
    simp only
    cases pVals I (a7 + size) a' (m - z) t how with
    | inl x => rfl
    | inr v =>
      simp only
      by_cases k1 : 0 < (m - z) ∧ ¬ cmpZ t tl.1 v.1 tl.2.1 v.2.1 tl.2.2 v.2.2 0 (mostA (cmpZ t v.1 v.1 v.2.1 v.2.1 v.2.2 v.2.2) false (m - z)) = 0
      · rw [if_pos k1, if_pos k1, if_neg (by omega)]
      · rw [if_neg k1, if_neg k1]
        by_cases k2 : 0 < (m - z) ∧ ¬ cmpZ t tl.1 v.1 tl.2.1 v.2.1 tl.2.2 v.2.2 1 (mostA (cmpZ t v.1 v.1 v.2.1 v.2.1 v.2.2 v.2.2) true (m - z)) = 0
        · rw [if_pos k2, if_pos k2, if_neg (by omega)]
        · rw [if_neg k2, if_neg k2, if_pos rfl]
theorem pBody2_ok {I : List UInt8} {t r d m c how size a7 : Nat} {tl v : ((Nat → Int64) × (Nat → Nat) × (Nat → UInt8))} {rp df : Nat → Nat} (hfit : a7 + size ≤ I.length) (hI : I.length ≤ 30000) (ht : t ≤ 3) (hr : r ≤ 16) (hd : d ≤ 16) (hm : m ≤ 1000) (hc : c ≤ 1000) (hh : how ≤ lastC t) (h : pBody2 I t r d m c how size a7 tl = .inr (rp, df, v)) : VOk t c v := by
  unfold pBody2 at h
  obtain ⟨o8, u1, u2, u3, u4, u5⟩ := R_takeLevels (n := 1000000) (cap := 30000) (e := a7 + size) (a := a7) (m := m) (r := r) (d := d) (c := c) (t := t) (I := I) (row := fun j => qsb (I.getD j 0)) (defs := fun _ => 0) (reps := fun _ => 0) (vns := fun _ => 0) (nums := fun _ => 0) (by omega) (by omega) hI hfit (by omega) hm hr hd hc ht (fun j hj => by show qsb (I.getD j 0) = _; rw [List.getD_eq_getElem?_getD, List.getElem?_eq_getElem hj]; rfl)
  rcases u5 with ⟨x, w1, w2, w3⟩ | ⟨a', rp', df', w1, w2, w3⟩
  · rw [w1] at h; cases h
  · rw [w1] at h
    simp only at h
    have hC0 : VsC t 0 (fun _ => 0) (fun _ => 0) (fun _ => 0) (nI (if t = 3 then 1 else 0)) 0 (fun _ => 0) (fun _ => 0) (fun _ => 0) := ⟨rfl, rfl, fun _ i hi => absurd hi (by omega), rfl, fun _ => ⟨fun i hi => rfl, fun j hj => absurd hj (Nat.not_lt_zero j)⟩⟩
    obtain ⟨o9, g1, g2, g3, g4⟩ := R_takeValues (n := 1000000) (cap := 30000) (e := a7 + size) (a := a') (c := c) (t := t) (how := how) (I := I) (row := fun j => qsb (I.getD j 0)) (commons := fun _ => 0) (dNum := fun _ => 0) (nums := fun _ => 0) (numbers := fun _ => 0) (dOf := 0) (dCnt := 0) (ofTexts := nI (if t = 3 then 1 else 0)) (count := 0) (dSt := fun _ => 0) (dTx := fun _ => 0) (wds := fun _ => 0) (starts := fun _ => 0) (texts := fun _ => 0) (by omega) (by omega) hI hfit w2 hc ht hh (fun j hj => by show qsb (I.getD j 0) = _; rw [List.getD_eq_getElem?_getD, List.getElem?_eq_getElem hj]; rfl) rfl hC0
    rcases g4 with ⟨x, k1, k2, k3⟩ | ⟨v', k1, k2, k3, k4⟩
    · rw [k1] at h; cases h
    · rw [k1] at h
      simp only at h
      split at h
      · cases h; exact k3
      · cases h
theorem M_227 {n t r d m z how size a7 chk : Nat} {I : List UInt8} {tl : ((Nat → Int64) × (Nat → Nat) × (Nat → UInt8))} {code en va cd bz nc ws lc : Int32} {by1 cm de fr inp mo nb nd nf nr nu re tb tz1 wb wf : Nat → Int32} {lg nw t2 wh w8 : Nat → Int64}
    (hn : 100000 < n) (hI : I.length ≤ 30000) (hfit : a7 + size ≤ I.length) (ht : t ≤ 3) (hr : r ≤ 16) (hd : d ≤ 16) (hm : m ≤ 1000) (hz : z ≤ m) (hh : how ≤ lastC t) (h : QHM I inp) (hnf : nf 0 = nI 0) (hfr : fr 0 = nI 0) (htS : 0 < m - z → t = 3 → TxI 2 tl.2.1 510) (hT : 0 < m - z → MT t 2 tl.1 tl.2.1 tl.2.2 t2 tb tz1) :
    ∃ o, f_M_read_j227 n 20000 1000 1000 1001 30000 2000 1000 20000 1008 1001 1008 1000 1008 1000 2 512 2 1000 20000 1001 1000 code (nI t) (nI r) (nI d) en va cd bz nc ws (nI I.length) (nI a7) (nI I.length) 0 lc by1 cm de fr inp lg mo nb nd nf nr nw nu re t2 tb tz1 wh wb wf w8 (ql64 m) (ql64 z) (nI how) (ql64 size) (ql64 chk).toInt32 = some o ∧ o.2.2.2.2.2.2.2.2.2.2.2.2.2.2.2.2.2.2.2.2.1 0 = nI 0 ∧ ((∃ x, pRest I t r d m z how tl size a7 chk = .inl x ∧ ¬ nI x = 0 ∧ o.1 = nI x ∧ o.2.2.1 = en ∧ o.2.2.2.1 = va ∧ o.2.2.2.2.1 = cd ∧ o.2.2.2.2.2.1 = bz ∧ o.2.2.2.2.2.2.2.2.2.2.2.2.1 = by1 ∧ o.2.2.2.2.2.2.2.2.2.2.2.2.2.2.1 = de ∧ o.2.2.2.2.2.2.2.2.2.2.2.2.2.2.2.1 = fr ∧ o.2.2.2.2.2.2.2.2.2.2.2.2.2.2.2.2.2.2.2.2.2.2.2.2.1 = re ∧ o.2.2.2.2.2.2.2.2.2.2.2.2.2.2.2.2.2.2.2.2.2.2.2.2.2.2.2.2.1 = wh) ∨ (∃ m' c' how' size' rp df v, pRest I t r d m z how tl size a7 chk = .inr (m', c', how', size', rp, df, v) ∧ o.1 = 0 ∧ o.2.2.1 = nI m' ∧ o.2.2.2.1 = nI c' ∧ o.2.2.2.2.1 = nI how' ∧ o.2.2.2.2.2.1 = nI size' ∧ (∀ k, k < m' → o.2.2.2.2.2.2.2.2.2.2.2.2.2.2.1 k = nI (df k) ∧ o.2.2.2.2.2.2.2.2.2.2.2.2.2.2.2.2.2.2.2.2.2.2.2.2.1 k = nI (rp k)) ∧ VsM t c' v.1 v.2.1 v.2.2 o.2.2.2.1 o.2.2.2.2.2.2.2.2.2.2.2.2.2.2.2.2.2.2.2.2.2.2.2.2.2.2.2.2.1 o.2.2.2.2.2.2.2.2.2.2.2.2.2.2.2.1 o.2.2.2.2.2.2.2.2.2.2.2.2.1)) := by
  unfold f_M_read_j227
  have es : (ql64 size).toInt32 = nI size := l64_i32 (by omega)
  have em : (ql64 m).toInt32 = nI m := l64_i32 (by omega)
  have ec : (ql64 (m - z)).toInt32 = nI (m - z) := l64_i32 (by omega)
  have hck : f_M_check n 30000 inp (nI a7) (nI (a7 + (qseg I a7 size).length)) = some (qcrc (qseg I a7 size)) := M_check hn (by omega) (by rw [qseg_len hfit]; omega) (fun i hi => by rw [qseg_get hfit hi]; exact h (a7 + i) (by rw [qseg_len hfit] at hi; omega))
  rw [qseg_len hfit] at hck
  have c1 : ¬ I.length - a7 < size := by omega
  rw [if_pos rfl, bnd_eq, es, qn_add, hck, obs, ifle (by omega) (by omega)]
  unfold f_M_read_j297
  have z8 : ¬ (8 : Int32) = 0 := by decide
  have z6 : ¬ (6 : Int32) = 0 := by decide
  by_cases c8 : qcrc (qseg I a7 size) = (ql64 chk).toInt32
  · rw [if_pos c8]
    by_cases c6 : a7 + size < I.length
    · rw [if_neg (by omega), if_neg z6]
      unfold f_M_read_j316
      rw [if_neg z6]
      refine ⟨_, rfl, hnf, Or.inl ⟨6, ?_, by decide, rfl, rfl, rfl, rfl, rfl, rfl, rfl, rfl, rfl, rfl⟩⟩
      unfold pRest
      rw [if_neg c1, if_neg (show ¬ ¬ qcrc (qseg I a7 size) = (ql64 chk).toInt32 from fun hh => hh c8), if_pos c6]
    · rw [if_pos (by omega), if_pos rfl, l64_sub hz, em, ec]
      obtain ⟨ob, b1, b2, b3⟩ := M_readBody (n := n) (t := t) (r := r) (d := d) (m := m) (c := m - z) (how := how) (size := size) (a7 := a7) (I := I) (tl := tl) (nc := nc) (ws := ws) (lc := lc) (cm := cm) (inp := inp) (mo := mo) (nb := nb) (nd := nd) (nf := nf) (nr := nr) (nu := nu) (tb := tb) (tz1 := tz1) (wb := wb) (wf := wf) (lg := lg) (nw := nw) (t2 := t2) (w8 := w8) hn hI hfit ht hr hd hm (by omega) hh h hnf htS hT
      rw [b1, obs, pRest_body c1 c8 c6]
      rcases b3 with ⟨x, y1, y2, y3⟩ | ⟨rp, df, v, y1, y2, y3, y4⟩
      · unfold f_M_read_j316
        rw [if_neg (by rw [y2]; exact y3), y1]
        exact ⟨_, rfl, b2, Or.inl ⟨x, rfl, y3, y2, rfl, rfl, rfl, rfl, rfl, rfl, rfl, rfl, rfl⟩⟩
      · have hok := pBody2_ok hfit hI ht hr hd hm (by omega) hh y1
        rw [y2, y1]
        obtain ⟨o, q1, q2, q3, q4, q5, q6, q7, q8, q9⟩ := M_316 (n := n) (t := t) (m := m) (z := z) (size := size) (v := v) (rp := rp) (df := df) (code := code) (en := en) (va := va) (cd := cd) (bz := bz) (nc := ob.1) (ws := ob.2.1) (at1 := ob.2.2.1) (st := nI (a7 + size)) (lc := ob.2.2.2.2.1) (by1 := by1) (cm := ob.2.2.2.2.2.1) (de := de) (fr := fr) (mo := ob.2.2.2.2.2.2.2.1) (nb := ob.2.2.2.2.2.2.2.2.1) (nd := ob.2.2.2.2.2.2.2.2.2.1) (nf := ob.2.2.2.2.2.2.2.2.2.2.1) (nr := ob.2.2.2.2.2.2.2.2.2.2.2.1) (nu := ob.2.2.2.2.2.2.2.2.2.2.2.2.2.1) (re := re) (tb := tb) (tz1 := tz1) (wb := ob.2.2.2.2.2.2.2.2.2.2.2.2.2.2.1) (wf := ob.2.2.2.2.2.2.2.2.2.2.2.2.2.2.2.1) (lg := ob.2.2.2.2.2.2.1) (nw := ob.2.2.2.2.2.2.2.2.2.2.2.2.1) (t2 := t2) (wh := wh) (w8 := ob.2.2.2.2.2.2.2.2.2.2.2.2.2.2.2.2) (v5 := nI how) hn ht hm hz (by omega) hfr (fun h3 => hok.2 h3) y3 y4
        refine ⟨o, q1, by rw [q2]; exact b2, Or.inr ⟨m, m - z, how, size, rp, df, v, rfl, q3, q4, q5, q6, q7, q8, q9⟩⟩
  · rw [if_neg c8, if_neg z8]
    unfold f_M_read_j316
    rw [if_neg z8]
    refine ⟨_, rfl, hnf, Or.inl ⟨8, ?_, by decide, rfl, rfl, rfl, rfl, rfl, rfl, rfl, rfl, rfl, rfl⟩⟩
    unfold pRest
    rw [if_neg c1, if_pos c8]
