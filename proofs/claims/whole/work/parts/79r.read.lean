def pS170 (I : List UInt8) (t r d m z how a5 : Nat) (tl : ((Nat → Int64) × (Nat → Nat) × (Nat → UInt8))) : Nat ⊕ (Nat × Nat × Nat × Nat × (Nat → Nat) × (Nat → Nat) × ((Nat → Int64) × (Nat → Nat) × (Nat → UInt8))) :=
  match pTail I I.length a5 with
  | .inl x => .inl x
  | .inr (size, a7, chk) => pRest I t r d m z how tl size a7 chk
theorem M_170 {n t r d m z how a5 : Nat} {I : List UInt8} {tl : ((Nat → Int64) × (Nat → Nat) × (Nat → UInt8))} {code en va cd bz nc ws lc : Int32} {by1 cm de fr inp mo nb nd nf nr nu re tb tz1 wb wf : Nat → Int32} {lg nw t2 wh w8 : Nat → Int64}
    (hn : 100000 < n) (hI : I.length ≤ 30000) (ht : t ≤ 3) (hr : r ≤ 16) (hd : d ≤ 16) (h : QHM I inp) (hnf : nf 0 = nI 0) (hfr : fr 0 = nI 0) (ha : a5 ≤ I.length) (hm : m ≤ 1000) (hz : z ≤ m) (hh : how ≤ lastC t) (htS : 0 < m - z → t = 3 → TxI 2 tl.2.1 510) (hT : 0 < m - z → MT t 2 tl.1 tl.2.1 tl.2.2 t2 tb tz1) :
    ∃ o, f_M_read_j170 n 20000 1000 1000 1001 30000 2000 1000 20000 1008 1001 1008 1000 1008 1000 2 512 2 1000 20000 1001 1000 code (nI t) (nI r) (nI d) en va cd bz nc ws (nI I.length) (nI a5) (nI I.length) 0 lc by1 cm de fr inp lg mo nb nd nf nr nw nu re t2 tb tz1 wh wb wf w8 (ql64 m) (ql64 z) (nI how) = some o ∧ o.2.2.2.2.2.2.2.2.2.2.2.2.2.2.2.2.2.2.2.2.1 0 = nI 0 ∧ ((∃ x, pS170 I t r d m z how a5 tl = .inl x ∧ ¬ nI x = 0 ∧ o.1 = nI x ∧ o.2.2.1 = en ∧ o.2.2.2.1 = va ∧ o.2.2.2.2.1 = cd ∧ o.2.2.2.2.2.1 = bz ∧ o.2.2.2.2.2.2.2.2.2.2.2.2.1 = by1 ∧ o.2.2.2.2.2.2.2.2.2.2.2.2.2.2.1 = de ∧ o.2.2.2.2.2.2.2.2.2.2.2.2.2.2.2.1 = fr ∧ o.2.2.2.2.2.2.2.2.2.2.2.2.2.2.2.2.2.2.2.2.2.2.2.2.1 = re ∧ o.2.2.2.2.2.2.2.2.2.2.2.2.2.2.2.2.2.2.2.2.2.2.2.2.2.2.2.2.1 = wh) ∨ (∃ m' c' how' size' rp df v, pS170 I t r d m z how a5 tl = .inr (m', c', how', size', rp, df, v) ∧ o.1 = 0 ∧ o.2.2.1 = nI m' ∧ o.2.2.2.1 = nI c' ∧ o.2.2.2.2.1 = nI how' ∧ o.2.2.2.2.2.1 = nI size' ∧ (∀ k, k < m' → o.2.2.2.2.2.2.2.2.2.2.2.2.2.2.1 k = nI (df k) ∧ o.2.2.2.2.2.2.2.2.2.2.2.2.2.2.2.2.2.2.2.2.2.2.2.2.1 k = nI (rp k)) ∧ VsM t c' v.1 v.2.1 v.2.2 o.2.2.2.1 o.2.2.2.2.2.2.2.2.2.2.2.2.2.2.2.2.2.2.2.2.2.2.2.2.2.2.2.2.1 o.2.2.2.2.2.2.2.2.2.2.2.2.2.2.2.1 o.2.2.2.2.2.2.2.2.2.2.2.2.1)) := by
  unfold f_M_read_j170 f_M_read_j222 pS170 pTail
  have z1 : ¬ (1 : Int32) = 0 := by decide
  obtain ⟨o, p1, p2⟩ := M_varint (n := n) (cap := 30000) (e := I.length) (a := a5) (I := I) (inp := inp) (by omega) (by omega) hI (Nat.le_refl _) ha h
  rw [p1, obs]
  cases hp : pVar I I.length a5 with
  | inl x =>
    rw [hp] at p2
    obtain ⟨q1, q2, q3⟩ := p2
    have hF : ¬ o.2.2 = 0 := by rw [q2]; exact q3
    rw [M_fixedF hF, obs, if_neg hF, mF_227 hn hF]
    exact ⟨_, rfl, hnf, Or.inl ⟨x, rfl, q3, q2, rfl, rfl, rfl, rfl, rfl, rfl, rfl, rfl, rfl⟩⟩
  | inr az =>
    obtain ⟨a6, size⟩ := az
    rw [hp] at p2
    obtain ⟨q1, q2, q3⟩ := p2
    obtain ⟨v1, v2, v3⟩ := pVar_a hp
    obtain ⟨of, f1, f2⟩ := M_fixed (n := n) (cap := 30000) (e := I.length) (a := a6) (q := 4) (I := I) (inp := inp) (by omega) (by omega) hI (Nat.le_refl _) v2 (by omega) h
    have f1' : f_M_fixed n 30000 (nI a6) 0 inp 4 (nI I.length) = some of := f1
    rw [q1, q2, q3, f1', obs]
    simp only
    cases hq : pFix I I.length a6 4 with
    | inl x =>
      rw [hq] at f2
      obtain ⟨s1, s2, s3⟩ := f2
      have hF : ¬ of.2.2 = 0 := by rw [s2]; exact s3
      rw [if_neg hF, mF_227 hn hF]
      exact ⟨_, rfl, hnf, Or.inl ⟨x, rfl, s3, s2, rfl, rfl, rfl, rfl, rfl, rfl, rfl, rfl, rfl⟩⟩
    | inr ac =>
      obtain ⟨a7, chk⟩ := ac
      have hle := pFix_a v2 hq
      rw [hq] at f2
      obtain ⟨s1, s2, s3⟩ := f2
      rw [s1, s2, s3, if_pos rfl, nI_sub hle, lI64 (by omega), lrange v3 (by omega)]
      simp only
      by_cases c1 : I.length - a7 < size
      · rw [if_pos c1, mF_227 hn z1]
        refine ⟨_, rfl, hnf, Or.inl ⟨1, ?_, by decide, rfl, rfl, rfl, rfl, rfl, rfl, rfl, rfl, rfl, rfl⟩⟩
        unfold pRest
        rw [if_pos c1]
      · rw [if_neg c1]
        exact M_227 hn hI (by omega) ht hr hd hm hz hh h hnf hfr htS hT
theorem M_toldLp {n t m z a3 : Nat} {I : List UInt8} {inp tb tz1 : Nat → Int32} {t2 : Nat → Int64} (hn : 100000 < n) (hI : I.length ≤ 30000) (ht : t ≤ 3) (h : QHM I inp) (ha : a3 ≤ I.length) (hm : m ≤ 1000) (hz : z ≤ m) :
    ∃ o, lp (fun v => f_M_read_l139 n 30000 2 512 2 (nI t) (nI I.length) inp (ql64 m) (ql64 z) v.1 v.2.1 v.2.2.1 v.2.2.2.1 v.2.2.2.2.1 v.2.2.2.2.2) n (nI a3, (0 : Int32), t2, tb, tz1, (0 : Int32)) = some o ∧ ((∃ x, pTolds I I.length a3 t (m - z) = .inl x ∧ o.2.1 = nI x ∧ ¬ nI x = 0) ∨ (∃ a' r, pTolds I I.length a3 t (m - z) = .inr (a', r) ∧ a' ≤ I.length ∧ o.1 = nI a' ∧ o.2.1 = 0 ∧ (0 < m - z → (t = 3 → TxI 2 r.2.1 510) ∧ MT t 2 r.1 r.2.1 r.2.2 o.2.2.1 o.2.2.2.1 o.2.2.2.2.1))) := by
  have hle : ∀ {α : Type} {x y : α}, (if ql64 m ≤ ql64 z then x else y) = if m ≤ z then x else y := fun {α x y} => qifc (by rw [l64_le (by omega) (by omega)])
  have i2 : (2 : Int32) = nI 2 := rfl
  have e01 : (0 : Int32) + 1 = nI 1 := rfl
  have e12 : nI 1 + 1 = nI 2 := rfl
  obtain ⟨y, rfl⟩ : ∃ y, n = y + 1 + 1 + 1 := ⟨n - 3, by omega⟩
  unfold pTolds
  by_cases c0 : m - z = 0
  · rw [if_pos c0]
    refine ⟨_, lp_exit1 (by
      show f_M_read_l139 (y + 1 + 1 + 1) 30000 2 512 2 (nI t) (nI I.length) inp (ql64 m) (ql64 z) (nI a3) 0 t2 tb tz1 0 = _
      unfold f_M_read_l139
      rw [if_neg (show ¬ (2 : Int32) ≤ 0 by decide), if_pos rfl, hle, if_pos (show m ≤ z by omega)]), Or.inr ⟨a3, r00, rfl, ha, rfl, rfl, fun hx => absurd hx (by omega)⟩⟩
  · rw [if_neg c0]
    have hmz : ¬ m ≤ z := by omega
    obtain ⟨o1, y1, y2⟩ := M_readTold (n := y + 1 + 1 + 1) (cap := 30000) (e := I.length) (a := a3) (t := t) (i := 0) (I := I) (inp := inp) (r := r00) (told2 := t2) (toldBytes := tb) (toldSize := tz1) hn (by omega) hI (Nat.le_refl _) ha ht (by omega) h (fun _ => TxI_0 _) ⟨fun _ j hj => absurd hj (by omega), fun _ j hj => absurd hj (by omega)⟩
    have y1' : f_M_readTold (y + 1 + 1 + 1) 30000 2 512 2 (nI t) (nI a3) (nI I.length) 0 inp t2 tb tz1 0 = some o1 := y1
    have hst : lp (fun v => f_M_read_l139 (y + 1 + 1 + 1) 30000 2 512 2 (nI t) (nI I.length) inp (ql64 m) (ql64 z) v.1 v.2.1 v.2.2.1 v.2.2.2.1 v.2.2.2.2.1 v.2.2.2.2.2) (y + 1 + 1 + 1) (nI a3, (0 : Int32), t2, tb, tz1, (0 : Int32)) = lp (fun v => f_M_read_l139 (y + 1 + 1 + 1) 30000 2 512 2 (nI t) (nI I.length) inp (ql64 m) (ql64 z) v.1 v.2.1 v.2.2.1 v.2.2.2.1 v.2.2.2.2.1 v.2.2.2.2.2) (y + 1 + 1) (o1.1, o1.2.1, o1.2.2.1, o1.2.2.2.1, o1.2.2.2.2, nI 1) := lp_step1 (by
      show f_M_read_l139 (y + 1 + 1 + 1) 30000 2 512 2 (nI t) (nI I.length) inp (ql64 m) (ql64 z) (nI a3) 0 t2 tb tz1 0 = _
      unfold f_M_read_l139
      rw [if_neg (show ¬ (2 : Int32) ≤ 0 by decide), if_pos rfl, hle, if_neg hmz, y1', obs, bnd_eq, e01])
    rw [hst]
    rcases y2 with ⟨x, z1, z2, z3⟩ | ⟨a4, r1, z1, z2, z3, z4, z5, z6⟩
    · rw [z1]
      refine ⟨_, lp_exit1 (by
        show f_M_read_l139 (y + 1 + 1 + 1) 30000 2 512 2 (nI t) (nI I.length) inp (ql64 m) (ql64 z) o1.1 o1.2.1 o1.2.2.1 o1.2.2.2.1 o1.2.2.2.2 (nI 1) = _
        unfold f_M_read_l139
        rw [if_neg (show ¬ o1.2.1 = 0 by rw [z2]; exact z3), ite_self]), Or.inl ⟨x, rfl, z2, z3⟩⟩
    · rw [z1, z3, z4]
      simp only
      obtain ⟨o2, w1, w2⟩ := M_readTold (n := y + 1 + 1 + 1) (cap := 30000) (e := I.length) (a := a4) (t := t) (i := 1) (I := I) (inp := inp) (r := r1) (told2 := o1.2.2.1) (toldBytes := o1.2.2.2.1) (toldSize := o1.2.2.2.2) hn (by omega) hI (Nat.le_refl _) z2 ht (by omega) h z5 z6
      have hst2 : lp (fun v => f_M_read_l139 (y + 1 + 1 + 1) 30000 2 512 2 (nI t) (nI I.length) inp (ql64 m) (ql64 z) v.1 v.2.1 v.2.2.1 v.2.2.2.1 v.2.2.2.2.1 v.2.2.2.2.2) (y + 1 + 1) (nI a4, (0 : Int32), o1.2.2.1, o1.2.2.2.1, o1.2.2.2.2, nI 1) = lp (fun v => f_M_read_l139 (y + 1 + 1 + 1) 30000 2 512 2 (nI t) (nI I.length) inp (ql64 m) (ql64 z) v.1 v.2.1 v.2.2.1 v.2.2.2.1 v.2.2.2.2.1 v.2.2.2.2.2) (y + 1) (o2.1, o2.2.1, o2.2.2.1, o2.2.2.2.1, o2.2.2.2.2, nI 2) := lp_step1 (by
        show f_M_read_l139 (y + 1 + 1 + 1) 30000 2 512 2 (nI t) (nI I.length) inp (ql64 m) (ql64 z) (nI a4) 0 o1.2.2.1 o1.2.2.2.1 o1.2.2.2.2 (nI 1) = _
        unfold f_M_read_l139
        rw [if_neg (show ¬ (2 : Int32) ≤ nI 1 by decide), if_pos rfl, hle, if_neg hmz, w1, obs, bnd_eq, e12])
      rw [hst2]
      refine ⟨_, lp_exit1 (by
        show f_M_read_l139 (y + 1 + 1 + 1) 30000 2 512 2 (nI t) (nI I.length) inp (ql64 m) (ql64 z) o2.1 o2.2.1 o2.2.2.1 o2.2.2.2.1 o2.2.2.2.2 (nI 2) = _
        unfold f_M_read_l139
        rw [if_pos (show (2 : Int32) ≤ nI 2 by decide)]), ?_⟩
      rcases w2 with ⟨x, u1, u2, u3⟩ | ⟨a5, r2, u1, u2, u3, u4, u5, u6⟩
      · rw [u1]; exact Or.inl ⟨x, rfl, u2, u3⟩
      · rw [u1]; exact Or.inr ⟨a5, r2, rfl, u2, u3, u4, fun _ => ⟨u5, u6⟩⟩
def pS136 (I : List UInt8) (t r d m z how a3 : Nat) : Nat ⊕ (Nat × Nat × Nat × Nat × (Nat → Nat) × (Nat → Nat) × ((Nat → Int64) × (Nat → Nat) × (Nat → UInt8))) :=
  match pHead2 I I.length a3 t (m - z) with
  | .inl x => .inl x
  | .inr (tl, size, a7, chk) => pRest I t r d m z how tl size a7 chk
theorem M_136 {n t r d m z how a3 : Nat} {I : List UInt8} {code en va cd bz nc ws lc : Int32} {by1 cm de fr inp mo nb nd nf nr nu re tb tz1 wb wf : Nat → Int32} {lg nw t2 wh w8 : Nat → Int64}
    (hn : 100000 < n) (hI : I.length ≤ 30000) (ht : t ≤ 3) (hr : r ≤ 16) (hd : d ≤ 16) (h : QHM I inp) (hnf : nf 0 = nI 0) (hfr : fr 0 = nI 0) (ha : a3 ≤ I.length) (hm : m ≤ 1000) (hz : z ≤ m) (hh : how ≤ lastC t) :
    ∃ o, f_M_read_j136 n 20000 1000 1000 1001 30000 2000 1000 20000 1008 1001 1008 1000 1008 1000 2 512 2 1000 20000 1001 1000 code (nI t) (nI r) (nI d) en va cd bz nc ws (nI I.length) (nI a3) (nI I.length) 0 lc by1 cm de fr inp lg mo nb nd nf nr nw nu re t2 tb tz1 wh wb wf w8 (ql64 m) (ql64 z) (nI how) = some o ∧ o.2.2.2.2.2.2.2.2.2.2.2.2.2.2.2.2.2.2.2.2.1 0 = nI 0 ∧ ((∃ x, pS136 I t r d m z how a3 = .inl x ∧ ¬ nI x = 0 ∧ o.1 = nI x ∧ o.2.2.1 = en ∧ o.2.2.2.1 = va ∧ o.2.2.2.2.1 = cd ∧ o.2.2.2.2.2.1 = bz ∧ o.2.2.2.2.2.2.2.2.2.2.2.2.1 = by1 ∧ o.2.2.2.2.2.2.2.2.2.2.2.2.2.2.1 = de ∧ o.2.2.2.2.2.2.2.2.2.2.2.2.2.2.2.1 = fr ∧ o.2.2.2.2.2.2.2.2.2.2.2.2.2.2.2.2.2.2.2.2.2.2.2.2.1 = re ∧ o.2.2.2.2.2.2.2.2.2.2.2.2.2.2.2.2.2.2.2.2.2.2.2.2.2.2.2.2.1 = wh) ∨ (∃ m' c' how' size' rp df v, pS136 I t r d m z how a3 = .inr (m', c', how', size', rp, df, v) ∧ o.1 = 0 ∧ o.2.2.1 = nI m' ∧ o.2.2.2.1 = nI c' ∧ o.2.2.2.2.1 = nI how' ∧ o.2.2.2.2.2.1 = nI size' ∧ (∀ k, k < m' → o.2.2.2.2.2.2.2.2.2.2.2.2.2.2.1 k = nI (df k) ∧ o.2.2.2.2.2.2.2.2.2.2.2.2.2.2.2.2.2.2.2.2.2.2.2.2.1 k = nI (rp k)) ∧ VsM t c' v.1 v.2.1 v.2.2 o.2.2.2.1 o.2.2.2.2.2.2.2.2.2.2.2.2.2.2.2.2.2.2.2.2.2.2.2.2.2.2.2.2.1 o.2.2.2.2.2.2.2.2.2.2.2.2.2.2.2.1 o.2.2.2.2.2.2.2.2.2.2.2.2.1)) := by
  unfold f_M_read_j136
  obtain ⟨ot, y1, y2⟩ := M_toldLp (n := n) (t := t) (m := m) (z := z) (a3 := a3) (I := I) (inp := inp) (tb := tb) (tz1 := tz1) (t2 := t2) hn hI ht h ha hm hz
  rw [y1, obs]
  rcases y2 with ⟨x, z1, z2, z3⟩ | ⟨a5, tl, z1, z2, z3, z4, z5⟩
  · have hF : ¬ ot.2.1 = 0 := by rw [z2]; exact z3
    have hS : pS136 I t r d m z how a3 = .inl x := by
      unfold pS136 pHead2
      rw [z1]
    rw [mF_170 hn hF, hS]
    exact ⟨_, rfl, hnf, Or.inl ⟨x, rfl, z3, z2, rfl, rfl, rfl, rfl, rfl, rfl, rfl, rfl, rfl⟩⟩
  · have hS : pS136 I t r d m z how a3 = pS170 I t r d m z how a5 tl := by
      unfold pS136 pHead2 pS170
      rw [z1]
      simp only
      cases pTail I I.length a5 with
      | inl x => rfl
      | inr s => rfl
    rw [z3, z4, hS]
    exact M_170 hn hI ht hr hd h hnf hfr z2 hm hz hh (fun hx => (z5 hx).1) (fun hx => (z5 hx).2)
def pS102 (I : List UInt8) (t r d m z a2 : Nat) : Nat ⊕ (Nat × Nat × Nat × Nat × (Nat → Nat) × (Nat → Nat) × ((Nat → Int64) × (Nat → Nat) × (Nat → UInt8))) :=
  match pOct I I.length a2 with
  | .inl x => .inl x
  | .inr (a3, how) => if lastC t < how then .inl 7 else pS136 I t r d m z how a3
theorem M_102 {n t r d m z a2 : Nat} {I : List UInt8} {code en va cd bz nc ws lc : Int32} {by1 cm de fr inp mo nb nd nf nr nu re tb tz1 wb wf : Nat → Int32} {lg nw t2 wh w8 : Nat → Int64}
    (hn : 100000 < n) (hI : I.length ≤ 30000) (ht : t ≤ 3) (hr : r ≤ 16) (hd : d ≤ 16) (h : QHM I inp) (hnf : nf 0 = nI 0) (hfr : fr 0 = nI 0) (ha : a2 ≤ I.length) (hm : m ≤ 1000) (hz : z ≤ m) :
    ∃ o, f_M_read_j102 n 20000 1000 1000 1001 30000 2000 1000 20000 1008 1001 1008 1000 1008 1000 2 512 2 1000 20000 1001 1000 code (nI t) (nI r) (nI d) en va cd bz nc ws (nI I.length) (nI a2) (nI I.length) 0 lc by1 cm de fr inp lg mo nb nd nf nr nw nu re t2 tb tz1 wh wb wf w8 (ql64 m) (ql64 z) = some o ∧ o.2.2.2.2.2.2.2.2.2.2.2.2.2.2.2.2.2.2.2.2.1 0 = nI 0 ∧ ((∃ x, pS102 I t r d m z a2 = .inl x ∧ ¬ nI x = 0 ∧ o.1 = nI x ∧ o.2.2.1 = en ∧ o.2.2.2.1 = va ∧ o.2.2.2.2.1 = cd ∧ o.2.2.2.2.2.1 = bz ∧ o.2.2.2.2.2.2.2.2.2.2.2.2.1 = by1 ∧ o.2.2.2.2.2.2.2.2.2.2.2.2.2.2.1 = de ∧ o.2.2.2.2.2.2.2.2.2.2.2.2.2.2.2.1 = fr ∧ o.2.2.2.2.2.2.2.2.2.2.2.2.2.2.2.2.2.2.2.2.2.2.2.2.1 = re ∧ o.2.2.2.2.2.2.2.2.2.2.2.2.2.2.2.2.2.2.2.2.2.2.2.2.2.2.2.2.1 = wh) ∨ (∃ m' c' how' size' rp df v, pS102 I t r d m z a2 = .inr (m', c', how', size', rp, df, v) ∧ o.1 = 0 ∧ o.2.2.1 = nI m' ∧ o.2.2.2.1 = nI c' ∧ o.2.2.2.2.1 = nI how' ∧ o.2.2.2.2.2.1 = nI size' ∧ (∀ k, k < m' → o.2.2.2.2.2.2.2.2.2.2.2.2.2.2.1 k = nI (df k) ∧ o.2.2.2.2.2.2.2.2.2.2.2.2.2.2.2.2.2.2.2.2.2.2.2.2.1 k = nI (rp k)) ∧ VsM t c' v.1 v.2.1 v.2.2 o.2.2.2.1 o.2.2.2.2.2.2.2.2.2.2.2.2.2.2.2.2.2.2.2.2.2.2.2.2.2.2.2.2.1 o.2.2.2.2.2.2.2.2.2.2.2.2.2.2.2.1 o.2.2.2.2.2.2.2.2.2.2.2.2.1)) := by
  unfold f_M_read_j102 pS102
  have z7 : ¬ (7 : Int32) = 0 := by decide
  have hlc : lastC t ≤ 3 := by unfold lastC; split; omega; split <;> omega
  obtain ⟨of, f1, f2⟩ := M_fixed (n := n) (cap := 30000) (e := I.length) (a := a2) (q := 1) (I := I) (inp := inp) (by omega) (by omega) hI (Nat.le_refl _) ha (by omega) h
  have f1' : f_M_fixed n 30000 (nI a2) 0 inp 1 (nI I.length) = some of := f1
  rw [pFix_oct] at f2
  rw [f1', obs]
  cases hq : pOct I I.length a2 with
  | inl x =>
    rw [hq] at f2
    obtain ⟨s1, s2, s3⟩ := f2
    have hF : ¬ of.2.2 = 0 := by rw [s2]; exact s3
    rw [if_neg hF, mF_136 hn hF]
    exact ⟨_, rfl, hnf, Or.inl ⟨x, rfl, s3, s2, rfl, rfl, rfl, rfl, rfl, rfl, rfl, rfl, rfl⟩⟩
  | inr ac =>
    obtain ⟨a3, how⟩ := ac
    rw [hq] at f2
    obtain ⟨s1, s2, s3⟩ := f2
    have hb : a3 ≤ I.length ∧ how < 256 := by
      unfold pOct at hq
      split at hq
      · cases hq
      · cases hq
        exact ⟨by omega, u8_lt _⟩
    have eh : (ql64 how).toInt32 = nI how := l64_i32 (by omega)
    rw [s1, s2, s3, if_pos rfl, M_codings ht, obs, eh, ifl (by omega) (by omega)]
    simp only
    by_cases c7 : lastC t < how
    · rw [if_neg (by omega), if_pos c7, mF_136 hn z7]
      exact ⟨_, rfl, hnf, Or.inl ⟨7, rfl, by decide, rfl, rfl, rfl, rfl, rfl, rfl, rfl, rfl, rfl, rfl⟩⟩
    · rw [if_pos (by omega), if_neg c7]
      exact M_136 hn hI ht hr hd h hnf hfr hb.1 hm hz (by omega)
def pS68 (I : List UInt8) (t r d m a1 : Nat) : Nat ⊕ (Nat × Nat × Nat × Nat × (Nat → Nat) × (Nat → Nat) × ((Nat → Int64) × (Nat → Nat) × (Nat → UInt8))) :=
  match pVar I I.length a1 with
  | .inl x => .inl x
  | .inr (a2, z) => if m < z then .inl 7 else pS102 I t r d m z a2
theorem M_68 {n t r d m a1 : Nat} {I : List UInt8} {code en va cd bz nc ws lc : Int32} {by1 cm de fr inp mo nb nd nf nr nu re tb tz1 wb wf : Nat → Int32} {lg nw t2 wh w8 : Nat → Int64}
    (hn : 100000 < n) (hI : I.length ≤ 30000) (ht : t ≤ 3) (hr : r ≤ 16) (hd : d ≤ 16) (h : QHM I inp) (hnf : nf 0 = nI 0) (hfr : fr 0 = nI 0) (ha : a1 ≤ I.length) (hm : m ≤ 1000) :
    ∃ o, f_M_read_j68 n 20000 1000 1000 1001 30000 2000 1000 20000 1008 1001 1008 1000 1008 1000 2 512 2 1000 20000 1001 1000 code (nI t) (nI r) (nI d) en va cd bz nc ws (nI I.length) (nI a1) (nI I.length) 0 lc by1 cm de fr inp lg mo nb nd nf nr nw nu re t2 tb tz1 wh wb wf w8 (ql64 m) = some o ∧ o.2.2.2.2.2.2.2.2.2.2.2.2.2.2.2.2.2.2.2.2.1 0 = nI 0 ∧ ((∃ x, pS68 I t r d m a1 = .inl x ∧ ¬ nI x = 0 ∧ o.1 = nI x ∧ o.2.2.1 = en ∧ o.2.2.2.1 = va ∧ o.2.2.2.2.1 = cd ∧ o.2.2.2.2.2.1 = bz ∧ o.2.2.2.2.2.2.2.2.2.2.2.2.1 = by1 ∧ o.2.2.2.2.2.2.2.2.2.2.2.2.2.2.1 = de ∧ o.2.2.2.2.2.2.2.2.2.2.2.2.2.2.2.1 = fr ∧ o.2.2.2.2.2.2.2.2.2.2.2.2.2.2.2.2.2.2.2.2.2.2.2.2.1 = re ∧ o.2.2.2.2.2.2.2.2.2.2.2.2.2.2.2.2.2.2.2.2.2.2.2.2.2.2.2.2.1 = wh) ∨ (∃ m' c' how' size' rp df v, pS68 I t r d m a1 = .inr (m', c', how', size', rp, df, v) ∧ o.1 = 0 ∧ o.2.2.1 = nI m' ∧ o.2.2.2.1 = nI c' ∧ o.2.2.2.2.1 = nI how' ∧ o.2.2.2.2.2.1 = nI size' ∧ (∀ k, k < m' → o.2.2.2.2.2.2.2.2.2.2.2.2.2.2.1 k = nI (df k) ∧ o.2.2.2.2.2.2.2.2.2.2.2.2.2.2.2.2.2.2.2.2.2.2.2.2.1 k = nI (rp k)) ∧ VsM t c' v.1 v.2.1 v.2.2 o.2.2.2.1 o.2.2.2.2.2.2.2.2.2.2.2.2.2.2.2.2.2.2.2.2.2.2.2.2.2.2.2.2.1 o.2.2.2.2.2.2.2.2.2.2.2.2.2.2.2.1 o.2.2.2.2.2.2.2.2.2.2.2.2.1)) := by
  unfold f_M_read_j68 f_M_read_j96 pS68
  have z7 : ¬ (7 : Int32) = 0 := by decide
  obtain ⟨o, p1, p2⟩ := M_varint (n := n) (cap := 30000) (e := I.length) (a := a1) (I := I) (inp := inp) (by omega) (by omega) hI (Nat.le_refl _) ha h
  rw [p1, obs]
  cases hp : pVar I I.length a1 with
  | inl x =>
    rw [hp] at p2
    obtain ⟨q1, q2, q3⟩ := p2
    have hF : ¬ o.2.2 = 0 := by rw [q2]; exact q3
    rw [if_neg hF, mF_102 hn hF]
    exact ⟨_, rfl, hnf, Or.inl ⟨x, rfl, q3, q2, rfl, rfl, rfl, rfl, rfl, rfl, rfl, rfl, rfl⟩⟩
  | inr az =>
    obtain ⟨a2, z⟩ := az
    rw [hp] at p2
    obtain ⟨q1, q2, q3⟩ := p2
    obtain ⟨v1, v2, v3⟩ := pVar_a hp
    rw [q1, q2, q3, if_pos rfl, lrange v3 (by omega)]
    simp only
    by_cases c7 : m < z
    · rw [if_pos c7, if_pos c7, mF_102 hn z7]
      exact ⟨_, rfl, hnf, Or.inl ⟨7, rfl, by decide, rfl, rfl, rfl, rfl, rfl, rfl, rfl, rfl, rfl, rfl⟩⟩
    · rw [if_neg c7, if_neg c7]
      exact M_102 hn hI ht hr hd h hnf hfr v2 hm (by omega)
theorem pRead_eq (I : List UInt8) (t r d : Nat) : pRead I t r d = match pVar I I.length 0 with
    | .inl x => .inl x
    | .inr (a1, m) => if m = 0 then .inl 3 else if 1000 < m then .inl 4 else pS68 I t r d m a1 := by
  unfold pRead pHead pS68 pS102 pS136
  cases pVar I I.length 0 with
  | inl x => rfl
  | inr am =>
    obtain ⟨a1, m⟩ := am
    simp only
    by_cases m0 : m = 0
    · rw [if_pos m0, if_pos m0]
    · rw [if_neg m0, if_neg m0]
      by_cases m4 : 1000 < m
      · rw [if_pos m4, if_pos m4]
      · rw [if_neg m4, if_neg m4]
        cases pVar I I.length a1 with
        | inl x => rfl
        | inr az =>
          obtain ⟨a2, z⟩ := az
          simp only
          by_cases z7 : m < z
          · rw [if_pos z7, if_pos z7]
          · rw [if_neg z7, if_neg z7]
            cases pOct I I.length a2 with
            | inl x => rfl
            | inr ah =>
              obtain ⟨a3, how⟩ := ah
              simp only
              by_cases c7 : lastC t < how
              · rw [if_pos c7, if_pos c7]
              · rw [if_neg c7, if_neg c7]
                cases pHead2 I I.length a3 t (m - z) with
                | inl x => rfl
                | inr s => rfl
theorem M_read {n t r d : Nat} {I : List UInt8} {en va cd bz nc ws lc : Int32} {by1 cm de fr inp mo nb nd nf nr nu re tb tz1 wb wf : Nat → Int32} {lg nw t2 wh w8 : Nat → Int64}
    (hn : 100000 < n) (hI : I.length ≤ 30000) (ht : t ≤ 3) (hr : r ≤ 16) (hd : d ≤ 16) (h : QHM I inp) (hnf : nf 0 = nI 0) (hfr : fr 0 = nI 0) :
    ∃ o, f_M_read n 20000 1000 1000 1001 30000 2000 1000 20000 1008 1001 1008 1000 1008 1000 2 512 2 1000 20000 1001 1000 (nI t) (nI r) (nI d) en va cd bz nc ws (nI I.length) lc by1 cm de fr inp lg mo nb nd nf nr nw nu re t2 tb tz1 wh wb wf w8 = some o ∧ o.2.2.2.2.2.2.2.2.2.2.2.2.2.2.2.2.2.2.2.2.1 0 = nI 0 ∧ ((∃ x, pRead I t r d = .inl x ∧ ¬ nI x = 0 ∧ o.1 = nI x ∧ o.2.2.1 = en ∧ o.2.2.2.1 = va ∧ o.2.2.2.2.1 = cd ∧ o.2.2.2.2.2.1 = bz ∧ o.2.2.2.2.2.2.2.2.2.2.2.2.1 = by1 ∧ o.2.2.2.2.2.2.2.2.2.2.2.2.2.2.1 = de ∧ o.2.2.2.2.2.2.2.2.2.2.2.2.2.2.2.1 = fr ∧ o.2.2.2.2.2.2.2.2.2.2.2.2.2.2.2.2.2.2.2.2.2.2.2.2.1 = re ∧ o.2.2.2.2.2.2.2.2.2.2.2.2.2.2.2.2.2.2.2.2.2.2.2.2.2.2.2.2.1 = wh) ∨ (∃ m' c' how' size' rp df v, pRead I t r d = .inr (m', c', how', size', rp, df, v) ∧ o.1 = 0 ∧ o.2.2.1 = nI m' ∧ o.2.2.2.1 = nI c' ∧ o.2.2.2.2.1 = nI how' ∧ o.2.2.2.2.2.1 = nI size' ∧ (∀ k, k < m' → o.2.2.2.2.2.2.2.2.2.2.2.2.2.2.1 k = nI (df k) ∧ o.2.2.2.2.2.2.2.2.2.2.2.2.2.2.2.2.2.2.2.2.2.2.2.2.1 k = nI (rp k)) ∧ VsM t c' v.1 v.2.1 v.2.2 o.2.2.2.1 o.2.2.2.2.2.2.2.2.2.2.2.2.2.2.2.2.2.2.2.2.2.2.2.2.2.2.2.2.1 o.2.2.2.2.2.2.2.2.2.2.2.2.2.2.2.1 o.2.2.2.2.2.2.2.2.2.2.2.2.1)) := by
  unfold f_M_read f_M_read_j53 f_M_read_j65
  rw [pRead_eq]
  have z3 : ¬ (3 : Int32) = 0 := by decide
  have z4 : ¬ (4 : Int32) = 0 := by decide
  obtain ⟨o, p1, p2⟩ := M_varint (n := n) (cap := 30000) (e := I.length) (a := 0) (I := I) (inp := inp) (by omega) (by omega) hI (Nat.le_refl _) (by omega) h
  have p1' : f_M_varint n 30000 0 0 inp (nI I.length) = some o := p1
  rw [p1', obs]
  cases hp : pVar I I.length 0 with
  | inl x =>
    rw [hp] at p2
    obtain ⟨q1, q2, q3⟩ := p2
    have hF : ¬ o.2.2 = 0 := by rw [q2]; exact q3
    rw [if_neg hF, mF_68 hn hF]
    exact ⟨_, rfl, hnf, Or.inl ⟨x, rfl, q3, q2, rfl, rfl, rfl, rfl, rfl, rfl, rfl, rfl, rfl⟩⟩
  | inr am =>
    obtain ⟨a1, m⟩ := am
    rw [hp] at p2
    obtain ⟨q1, q2, q3⟩ := p2
    obtain ⟨v1, v2, v3⟩ := pVar_a hp
    have i1 : (1 : Int64) = ql64 1 := rfl
    have i1000 : (1000 : Int64) = ql64 1000 := rfl
    rw [q1, q2, q3, if_pos rfl, qifc (show (ql64 m = 0) ↔ m = 0 from by rw [show (0 : Int64) = ql64 0 from rfl, l64_inj (by omega) (by omega)])]
    simp only
    by_cases m0 : m = 0
    · subst m0
      rw [if_pos (show ql64 0 < 1 by decide), if_pos rfl, if_pos rfl, mF_68 hn z3]
      exact ⟨_, rfl, hnf, Or.inl ⟨3, rfl, by decide, rfl, rfl, rfl, rfl, rfl, rfl, rfl, rfl, rfl, rfl⟩⟩
    · rw [if_neg m0, if_neg m0]
      by_cases m4 : 1000 < m
      · have hsel : ∀ {α : Type} {x y : α}, (if ql64 m < 1 then x else if ql64 m ≤ 1000 then y else x) = x := by
          intro α x y
          by_cases hneg : 9223372036854775808 ≤ m
          · rw [if_pos]
            rw [Int64.lt_iff_toInt_lt]
            have hl := lv_toInt (ql64 m)
            rw [lv_l64 v3, if_neg (by omega)] at hl
            have e1 : (1 : Int64).toInt = 1 := rfl
            rw [e1]; omega
          · rw [if_neg, if_neg]
            · rw [i1000, l64_le (by omega) (by omega)]; omega
            · rw [i1, ql64_lt (by omega) (by omega)]; omega
        rw [hsel, if_pos m4, mF_68 hn z4]
        exact ⟨_, rfl, hnf, Or.inl ⟨4, rfl, by decide, rfl, rfl, rfl, rfl, rfl, rfl, rfl, rfl, rfl, rfl⟩⟩
      · rw [if_neg (show ¬ ql64 m < 1 by rw [i1, ql64_lt (by omega) (by omega)]; omega), if_pos (show ql64 m ≤ 1000 by rw [i1000, l64_le (by omega) (by omega)]; omega), if_neg m4]
        exact M_68 hn hI ht hr hd h hnf hfr v2 (by omega)
theorem s_read (n : Nat) (hn : 100000 < n) : H_read QSim n := by
  intro x_lastCoding x_lastBody x_column_type x_column_mostR x_column_mostD x_input_size x_input_row x_output_size x_output_row x_page_entries x_page_valued x_page_definitions x_page_repetitions x_page_valueNumbers x_page_values_ofTexts x_page_values_count x_page_values_numbers x_page_values_starts x_page_values_texts x_reader_entries x_reader_count x_reader_bodyTold x_reader_check x_reader_coding x_reader_bodySize x_reader_commons x_reader_dictionary_ofTexts x_reader_dictionary_count x_reader_dictionary_numbers x_reader_dictionary_starts x_reader_dictionary_texts x_reader_numbers x_reader_source_at x_reader_source_to x_reader_source_fault x_reader_source_widths x_reader_told_ofTexts x_reader_told_count x_reader_told_numbers x_reader_told_starts x_reader_told_texts x_spare_entries x_spare_valued x_spare_definitions x_spare_repetitions x_spare_valueNumbers x_spare_values_ofTexts x_spare_values_count x_spare_values_numbers x_spare_values_starts x_spare_values_texts x_tape_size x_tape_row x_writer_entries x_writer_levelBytes x_writer_body_size x_writer_body_row x_writer_commons x_writer_dictionary_count x_writer_dictionary_firsts x_writer_dictionary_slots x_writer_numbers x_writer_piece_size x_writer_piece_row m_code m_type m_mostR m_mostD m_entries m_values m_coding m_bodySize m_newCount m_words m_taped m_inputSize m_outSize m_at m_stop m_fault m_longCount m_body m_bytes m_common m_definitions m_from m_input m_longs m_more m_newBytes m_newDefinitions m_newFrom m_newRepetitions m_newWholes m_numbers m_out m_repetitions m_tape m_told2 m_toldBytes m_toldSize m_wholes m_wordBytes m_wordFrom m_words8 hs
  obtain ⟨t, r, d, nn, c, rp, df, num, S, T, ⟨ht3, hrd, hd16⟩, hV, hCx, hCm, hPC, hPM, hTp, hIn, hOu, hlc, hlb, hz⟩ := hs
  obtain ⟨rfl, rfl, rfl⟩ := hCx
  obtain ⟨rfl, rfl, rfl⟩ := hCm
  have hIn' := hIn
  obtain ⟨I, i1, i2, i3, i4, i5⟩ := hIn
  subst i2; subst i4
  obtain ⟨z1, z2, z3, z4⟩ := hz
  have hfr0 := hPM.2.2.2.2.1
  obtain ⟨o1, y1, y2, y3, y4⟩ := C_read (n := n) (t := t) (r := r) (d := d) (I := I) (row := x_input_row) (lc := x_lastCoding) (lb := x_lastBody) (bs := x_reader_bodySize) (dOf := x_reader_dictionary_ofTexts) (dCnt := x_reader_dictionary_count) (commons := x_reader_commons) (dNum := x_reader_dictionary_numbers) (nums := x_reader_numbers) (tn := x_reader_told_numbers) (snum := x_spare_values_numbers) (dSt := x_reader_dictionary_starts) (dTx := x_reader_dictionary_texts) (wds := x_reader_source_widths) (ts := x_reader_told_starts) (tt := x_reader_told_texts) (defs := x_spare_definitions) (reps := x_spare_repetitions) (vns := x_spare_valueNumbers) (sst := x_spare_values_starts) (stx := x_spare_values_texts) hn i1 ht3 hrd hd16 i3 z3 z2 z1
  obtain ⟨o2, w1, w2, w3⟩ := M_read (n := n) (t := t) (r := r) (d := d) (I := I) (en := m_entries) (va := m_values) (cd := m_coding) (bz := m_bodySize) (nc := m_newCount) (ws := m_words) (lc := m_longCount) (by1 := m_bytes) (cm := m_common) (de := m_definitions) (fr := m_from) (inp := m_input) (lg := m_longs) (mo := m_more) (nb := m_newBytes) (nd := m_newDefinitions) (nf := m_newFrom) (nr := m_newRepetitions) (nw := m_newWholes) (nu := m_numbers) (re := m_repetitions) (t2 := m_told2) (tb := m_toldBytes) (tz1 := m_toldSize) (wh := m_wholes) (wb := m_wordBytes) (wf := m_wordFrom) (w8 := m_words8) hn i1 ht3 (by omega) hd16 i5 z4 hfr0
  refine ⟨o1, o2, y1, w1, ?_⟩
  rcases y4 with ⟨x, a1, a2, a3, a4, a5, a6, a7⟩ | ⟨m, c', how, size, rp', df', v, a1, a2, a3, a4, a5, a6, a7⟩
  · rcases w3 with ⟨x', b1, b2, b3, b4, b5, b6, b7, b8, b9, b10, b11, b12⟩ | ⟨m', c'', how', size', rp'', df'', v', b1, _⟩
    · rw [a1] at b1
      cases b1
      refine ⟨a3.trans b3.symm, fun _ => ?_, fun hx => absurd a7 hx⟩
      refine ⟨t, r, d, nn, c, rp, df, num, S, T, ⟨ht3, hrd, hd16⟩, hV, ⟨rfl, rfl, rfl⟩, ⟨rfl, rfl, rfl⟩, hPC, ?_, hTp, hIn', hOu, ?_, ?_, a6, y3, y2, w2⟩
      · rw [b4, b5, b8, b9, b10, b11, b12]; exact hPM
      · rw [a4, b6]; exact hlc
      · rw [a5, b7]; exact hlb
    · rw [a1] at b1; cases b1
  · rcases w3 with ⟨x', b1, _⟩ | ⟨m', c'', how', size', rp'', df'', v', b1, b2, b3, b4, b5, b6, b7, b8⟩
    · rw [a1] at b1; cases b1
    · rw [a1] at b1
      cases b1
      refine ⟨a2.trans b2.symm, fun hx => absurd (a5.symm.trans hx) (by decide), fun _ => ?_⟩
      refine ⟨t, r, d, m, c', rp', df', v.1, v.2.1, v.2.2, ⟨ht3, hrd, hd16⟩, a6, ⟨rfl, rfl, rfl⟩, ⟨rfl, rfl, rfl⟩, a7, ⟨b3, b7, b8⟩, hTp, hIn', hOu, a3.trans b5.symm, a4.trans b6.symm, hPC.2.2.2.2.2.2.1, y3, y2, w2⟩
