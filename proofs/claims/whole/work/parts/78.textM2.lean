abbrev LOk (f : Nat → Int64) (c : Nat) : Prop := ∀ i, i < c → lv (f i) ≤ 255
def pLens (I : List UInt8) (e a c : Nat) (S : Nat → Nat) (T : Nat → UInt8) : Nat ⊕ (Nat × (Nat → Nat) × (Nat → UInt8)) :=
  match pSized I e a c with
  | .inl x => .inl x
  | .inr (a', f) => if LOk f c then pTxt I e 20000 (stCode (fun _ => 0) (fun i => lv (f i))) c 0 a' S T else .inl 7
def pFront (I : List UInt8) (e a c : Nat) (S : Nat → Nat) (T : Nat → UInt8) : Nat ⊕ (Nat × (Nat → Nat) × (Nat → UInt8)) :=
  match pSized I e a c with
  | .inl x => .inl x
  | .inr (a1, f) =>
    match pSized I e a1 c with
    | .inl x => .inl x
    | .inr (a2, g) => pTxt I e 20000 (stCode (fun i => lv (f i)) (fun i => lv (g i))) c 0 a2 S T
theorem lrange' {α : Type} {v : Int64} {b : Nat} {A B : α} (hb : b < 4611686018427387904) : (if v < 0 then A else if v ≤ ql64 b then B else A) = if b < lv v then A else B := by
  have := lrange (α := α) (v := lv v) (b := b) (A := A) (B := B) (qlv_lt v) hb
  rw [l64_lv] at this
  exact this
theorem pTxt_step {I : List UInt8} {e K : Nat} {st : Nat → Nat → Nat ⊕ (Nat × Nat × Nat)} {m i b : Nat} {S1 : Nat → Nat} {T1 : Nat → UInt8} (hi : i < m) : pTxt I e K st (m - i) i b S1 T1 = match st i b with
    | .inl x => .inl x
    | .inr (a1, cm, mo) =>
      match pText I e K a1 i S1 T1 cm mo with
      | .inl x => .inl x
      | .inr (a', S', T') => pTxt I e K st (m - (i + 1)) (i + 1) a' S' T' := by
  rw [show m - i = (m - (i + 1)) + 1 by omega]; rfl
theorem M_lensOk {n m : Nat} {lg f : Nat → Int64} (hn : 100000 < n) (hm : m ≤ 1000) (hf : ∀ j, j < m → lg j = f j) :
    ∃ o, lp (fun v => f_M_readLengths_l7 2000 lg (nI m) v.1 v.2) n ((0 : Int32), (0 : Int32)) = some o ∧ o.1 = if LOk f m then 0 else 7 := by
  refine lp_inv (fun q u => ∃ i, i + q = m + 1 ∧ ((i ≤ m ∧ u.1 = 0 ∧ u.2 = nI i ∧ LOk f i) ∨ (u.1 = 7 ∧ ¬ LOk f m))) _ ?_ (m + 1) n _ ⟨0, by omega, Or.inl ⟨by omega, rfl, rfl, fun i hi => absurd hi (by omega)⟩⟩ (by omega)
  rintro q ⟨fa, i'⟩ ⟨i, g1, (⟨g2, g3, g4, g5⟩ | ⟨g2, g3⟩)⟩
  · simp only at g3 g4
    subst g3; subst g4
    show (∃ w', f_M_readLengths_l7 2000 lg (nI m) 0 (nI i) = _ ∧ _) ∨ (∃ y, f_M_readLengths_l7 2000 lg (nI m) 0 (nI i) = _ ∧ _)
    unfold f_M_readLengths_l7
    rw [ifle (by omega) (by omega)]
    by_cases ci : m ≤ i
    · have : i = m := by omega
      subst this
      rw [if_pos ci]
      exact Or.inr ⟨_, rfl, by rw [if_pos g5]⟩
    · have e255 : (255 : Int64) = ql64 255 := rfl
      have e1 : nI i + 1 = nI (i + 1) := qn_add i 1
      have g0 : ∀ {α : Type} {t : Option α}, gd (inB (nI i) 2000) t = t := fun {α t} => gd_nI (by omega) (by omega)
      unfold f_M_readLengths_j43
      rw [if_neg ci, if_pos rfl, g0, g0, qn_clamp (by omega), hf i (by omega), e255, bnd_eq, bnd_eq, e1, lrange' (by omega)]
      by_cases c7 : 255 < lv (f i)
      · rw [if_pos c7]
        exact Or.inl ⟨_, rfl, q - 1, by omega, i + 1, by omega, Or.inr ⟨rfl, fun hx => by have := hx i (by omega); omega⟩⟩
      · rw [if_neg c7]
        refine Or.inl ⟨_, rfl, q - 1, by omega, i + 1, by omega, Or.inl ⟨by omega, rfl, rfl, ?_⟩⟩
        intro j hj
        by_cases ej : j = i
        · subst ej; omega
        · exact g5 j (by omega)
  · simp only at g2
    subst g2
    show (∃ w', f_M_readLengths_l7 2000 lg (nI m) 7 i' = _ ∧ _) ∨ (∃ y, f_M_readLengths_l7 2000 lg (nI m) 7 i' = _ ∧ _)
    unfold f_M_readLengths_l7
    rw [if_neg (show ¬ (7 : Int32) = 0 by decide), ite_self]
    exact Or.inr ⟨_, rfl, by rw [if_neg g3]⟩
theorem M_lens_lp {n cap e a m : Nat} {I : List UInt8} {inp : Nat → Int32} {num lg f : Nat → Int64} {S : Nat → Nat} {T : Nat → UInt8} {wholes : Nat → Int64} {frm bytes : Nat → Int32} {lc : Int32}
    (hn : 100000 < n) (hc : cap < 100000) (hI : I.length ≤ cap) (he : e ≤ I.length) (ha : a ≤ e) (hm : m ≤ 1000) (hf : ∀ j, j < m → lg j = f j) (hok : LOk f m)
    (hC : VsM 3 0 num S T 0 wholes frm bytes) (hS : TxI 0 S 20000) (h : QHM I inp) :
    ∃ o, lp (fun v => f_M_readLengths_l57 n cap 2000 20000 1001 (nI e) lc inp lg (nI m) v.1 v.2.1 v.2.2.1 v.2.2.2.1 v.2.2.2.2.1 v.2.2.2.2.2) n ((0 : Int32), nI a, (0 : Int32), bytes, frm, (0 : Int32)) = some o ∧ o.2.2.2.2.2.2 0 = nI 0 ∧
      ((∃ x, pTxt I e 20000 (stCode (fun _ => 0) (fun i => lv (f i))) m 0 a S T = .inl x ∧ o.2.2.1 = nI x ∧ ¬ nI x = 0) ∨ (∃ a' S' T', pTxt I e 20000 (stCode (fun _ => 0) (fun i => lv (f i))) m 0 a S T = .inr (a', S', T') ∧ a' ≤ e ∧ o.2.1 = nI a' ∧ o.2.2.1 = 0 ∧ TxI m S' 20000 ∧ VsM 3 m num S' T' o.1 wholes o.2.2.2.2.2.2 o.2.2.2.2.2.1)) := by
  refine lp_inv (fun q u => u.2.2.2.2.1 0 = nI 0 ∧ ∃ i, i + q = m + 1 ∧ ((i ≤ m ∧ ∃ b S1 T1, u.2.1 = nI b ∧ b ≤ e ∧ u.2.2.1 = 0 ∧ u.2.2.2.2.2 = nI i ∧ TxI i S1 20000 ∧ VsM 3 i num S1 T1 u.1 wholes u.2.2.2.2.1 u.2.2.2.1 ∧ pTxt I e 20000 (stCode (fun _ => 0) (fun i => lv (f i))) (m - i) i b S1 T1 = pTxt I e 20000 (stCode (fun _ => 0) (fun i => lv (f i))) m 0 a S T) ∨ (∃ x, pTxt I e 20000 (stCode (fun _ => 0) (fun i => lv (f i))) m 0 a S T = .inl x ∧ u.2.2.1 = nI x ∧ ¬ nI x = 0))) _ ?_ (m + 1) n _ ⟨hC.2.2.1, 0, by omega, Or.inl ⟨by omega, a, S, T, rfl, ha, rfl, rfl, hS, hC, rfl⟩⟩ (by omega)
  rintro q ⟨cnt, at', fa, by', fr', i'⟩ ⟨g0, i, g1, (⟨g2, b, S1, T1, k1, k2, k3, k4, k5, k6, k7⟩ | ⟨x, k1, k2, k3⟩)⟩
  · simp only at g0 k1 k3 k4 k6
    subst k1; subst k3; subst k4
    show (∃ w', f_M_readLengths_l57 n cap 2000 20000 1001 (nI e) lc inp lg (nI m) cnt (nI b) 0 by' fr' (nI i) = _ ∧ _) ∨ (∃ y, f_M_readLengths_l57 n cap 2000 20000 1001 (nI e) lc inp lg (nI m) cnt (nI b) 0 by' fr' (nI i) = _ ∧ _)
    unfold f_M_readLengths_l57
    rw [ifle (by omega) (by omega)]
    by_cases ci : m ≤ i
    · have : i = m := by omega
      subst this
      rw [if_pos ci]
      rw [Nat.sub_self] at k7
      exact Or.inr ⟨_, rfl, g0, Or.inr ⟨b, S1, T1, k7.symm, k2, rfl, rfl, k5, k6⟩⟩
    · rw [pTxt_step (by omega)] at k7
      have e1 : nI i + 1 = nI (i + 1) := qn_add i 1
      unfold stCode at k7
      simp only at k7
      have hle := hok i (by omega)
      rw [pText_plain, if_neg (show ¬ 255 < lv (f i) by omega)] at k7
      have ev : (f i).toInt32 = nI (lv (f i)) := by
        have := l64_i32 (a := lv (f i)) (by omega)
        rw [l64_lv] at this; exact this
      obtain ⟨ot, t1, t2, t3⟩ := M_take (n := n) (cap := cap) (e := e) (a := b) (c := i) (bf := 0) (mo := lv (f i)) (I := I) (inp := inp) (num := num) (S := S1) (T := T1) (count := cnt) (wholes := wholes) (frm := fr') (bytes := by') hn hc hI he k2 (by omega) (by omega) (by omega) k6 k5 h
      have t1' : f_M_take n cap 20000 1001 cnt (nI b) (nI e) 0 inp by' fr' (nI (lv (f i))) 0 = some ot := t1
      rw [if_neg ci, if_pos rfl, gd_nI (by omega) (by omega), qn_clamp (by omega), hf i (by omega), ev, t1', obs, bnd_eq, e1]
      rcases t3 with ⟨x, t3, t4, t5⟩ | ⟨a', S', T', t3, t4, t5, t6, t7, t8⟩
      · rw [t3] at k7
        exact Or.inl ⟨_, rfl, q - 1, by omega, t2, i + 1, by omega, Or.inr ⟨x, k7.symm, t4, t5⟩⟩
      · rw [t3] at k7
        exact Or.inl ⟨_, rfl, q - 1, by omega, t2, i + 1, by omega, Or.inl ⟨by omega, a', S', T', t5, t4, t6, rfl, t7, t8, k7⟩⟩
  · simp only at g0 k2
    subst k2
    show (∃ w', f_M_readLengths_l57 n cap 2000 20000 1001 (nI e) lc inp lg (nI m) cnt at' (nI x) by' fr' i' = _ ∧ _) ∨ (∃ y, f_M_readLengths_l57 n cap 2000 20000 1001 (nI e) lc inp lg (nI m) cnt at' (nI x) by' fr' i' = _ ∧ _)
    unfold f_M_readLengths_l57
    rw [if_neg k3, ite_self]
    exact Or.inr ⟨_, rfl, g0, Or.inl ⟨x, k1, rfl, k3⟩⟩
theorem M_readLengths {n cap e a c : Nat} {I : List UInt8} {inp : Nat → Int32} {num lg : Nat → Int64} {S : Nat → Nat} {T : Nat → UInt8} {wholes : Nat → Int64} {frm bytes : Nat → Int32} {lc : Int32}
    (hn : 100000 < n) (hcap : cap < 100000) (hI : I.length ≤ cap) (he : e ≤ I.length) (ha : a ≤ e) (hc : c ≤ 1000)
    (hC : VsM 3 0 num S T 0 wholes frm bytes) (hS : TxI 0 S 20000) (h : QHM I inp) :
    ∃ o, f_M_readLengths n cap 2000 20000 1001 0 (nI a) (nI e) 0 lc inp lg bytes frm (nI c) = some o ∧ o.2.2.2.2.2.2 0 = nI 0 ∧
      ((∃ x, pLens I e a c S T = .inl x ∧ o.2.2.1 = nI x ∧ ¬ nI x = 0) ∨ (∃ a' S' T', pLens I e a c S T = .inr (a', S', T') ∧ a' ≤ e ∧ o.2.1 = nI a' ∧ o.2.2.1 = 0 ∧ TxI c S' 20000 ∧ VsM 3 c num S' T' o.1 wholes o.2.2.2.2.2.2 o.2.2.2.2.2.1)) := by
  unfold f_M_readLengths pLens
  obtain ⟨oc, p1, p2⟩ := M_readCode (n := n) (cap := cap) (ln := 2000) (e := e) (a := a) (c := c) (I := I) (inp := inp) (lg := lg) (lc := lc) hn hcap hI he ha (by omega) rfl h
  rw [p1, obs]
  unfold f_M_readLengths_j55
  have hlF : ∀ (x at' : Int32) (lg' : Nat → Int64) (lc' : Int32), ¬ x = 0 → lp (fun v => f_M_readLengths_l57 n cap 2000 20000 1001 (nI e) lc' inp lg' (nI c) v.1 v.2.1 v.2.2.1 v.2.2.2.1 v.2.2.2.2.1 v.2.2.2.2.2) n ((0 : Int32), at', x, bytes, frm, (0 : Int32)) = some (0, at', x, lc', lg', bytes, frm) := by
    intro x at' lg' lc' hx
    obtain ⟨y, rfl⟩ : ∃ y, n = y + 1 := ⟨n - 1, by omega⟩
    have : f_M_readLengths_l57 (y + 1) cap 2000 20000 1001 (nI e) lc' inp lg' (nI c) 0 at' x bytes frm 0 = some (Sum.inr (0, at', x, lc', lg', bytes, frm)) := by
      unfold f_M_readLengths_l57
      rw [if_neg hx, ite_self]
    simp only [lp, this]
  rcases p2 with ⟨x, y1, y2, y3⟩ | ⟨a', f, y1, y2, y3, y4, y5⟩
  · have hF : ¬ oc.2.1 = 0 := by rw [y2]; exact y3
    have hl : lp (fun v => f_M_readLengths_l7 2000 oc.2.2.2 (nI c) v.1 v.2) n (oc.2.1, (0 : Int32)) = some (oc.2.1, 0) := by
      obtain ⟨y, rfl⟩ : ∃ y, n = y + 1 := ⟨n - 1, by omega⟩
      have : f_M_readLengths_l7 2000 oc.2.2.2 (nI c) oc.2.1 0 = some (Sum.inr (oc.2.1, 0)) := by
        unfold f_M_readLengths_l7
        rw [if_neg hF, ite_self]
      simp only [lp, this]
    rw [hl, obs, hlF _ _ _ _ hF, obs, y1]
    exact ⟨_, rfl, hC.2.2.1, Or.inl ⟨x, rfl, y2, y3⟩⟩
  · obtain ⟨ol, l1, l2⟩ := M_lensOk (n := n) (m := c) (lg := oc.2.2.2) (f := f) hn hc y5
    rw [y4, l1, obs, l2, y1, y3]
    simp only
    by_cases ok : LOk f c
    · rw [if_pos ok, if_pos ok]
      obtain ⟨ot, t1, t2, t3⟩ := M_lens_lp (n := n) (cap := cap) (e := e) (a := a') (m := c) (I := I) (inp := inp) (num := num) (lg := oc.2.2.2) (f := f) (S := S) (T := T) (wholes := wholes) (frm := frm) (bytes := bytes) (lc := oc.2.2.1) hn hcap hI he y2 hc y5 ok hC hS h
      rw [t1, obs]
      exact ⟨_, rfl, t2, t3⟩
    · rw [if_neg ok, if_neg ok, hlF _ _ _ _ (show ¬ (7 : Int32) = 0 by decide), obs]
      exact ⟨_, rfl, hC.2.2.1, Or.inl ⟨7, rfl, rfl, by decide⟩⟩
/-- a number clamped to what matters of it -/
def tld (v : Int64) : Int32 := if 9223372036854775808 ≤ lv v then -1 else if lv v ≤ 255 then nI (lv v) else nI 256
theorem M_told (v : Int64) : f_M_told v = some (tld v) := by
  unfold f_M_told tld
  have h0 : (0 ≤ v) ↔ ¬ 9223372036854775808 ≤ lv v := by
    have := @lv_neg v
    rw [← this]
    exact ⟨fun h1 h2 => by rw [Int64.le_iff_toInt_le] at h1; rw [Int64.lt_iff_toInt_lt] at h2; omega, fun h1 => by rw [Int64.le_iff_toInt_le]; rw [Int64.lt_iff_toInt_lt] at h1; omega⟩
  rw [qifc h0]
  by_cases c1 : 9223372036854775808 ≤ lv v
  · rw [if_neg (fun hh => hh c1), if_pos c1]
  · have e255 : (255 : Int64) = ql64 255 := rfl
    have hle : (v ≤ 255) ↔ lv v ≤ 255 := by
      have h2 : (ql64 (lv v) ≤ ql64 255) = (lv v ≤ 255) := l64_le (by omega) (by omega)
      rw [l64_lv] at h2
      rw [e255, h2]
    rw [if_pos c1, if_neg c1, qifc hle]
    by_cases c2 : lv v ≤ 255
    · rw [if_pos c2, if_pos c2]
      have := l64_i32 (a := lv v) (by omega)
      rw [l64_lv] at this
      rw [this]
    · rw [if_neg c2, if_neg c2]; rfl
theorem M_tolds {n m ln rn : Nat} {g : (Nat → Int32) → Int32 → Option (((Nat → Int32) × Int32) ⊕ ((Nat → Int32) × Int32))} {r0 : Nat → Int32} {lg : Nat → Int64} (hn : 100000 < n) (hm : m ≤ 1000) (hln : ln = 2000) (hrn : rn = 1000)
    (hg : ∀ r i, i ≤ m → g r (nI i) = (if nI m ≤ nI i then some (Sum.inr (r, nI i)) else if (0 : Int32) = 0 then gd (inB (nI i) ln) (Option.bind (f_M_told (lg (nI i).toNatClampNeg)) (fun o => gd (inB (nI i) rn) (bnd (nI i + 1) (fun x => some (Sum.inl (upd r (nI i).toNatClampNeg o, x)))))) else some (Sum.inr (r, nI i)))) :
    ∃ o, lp (fun v => g v.1 v.2) n (r0, (0 : Int32)) = some o ∧ ∀ j, j < m → o.1 j = tld (lg j) := by
  refine lp_inv (fun q u => ∃ i, i + q = m ∧ u.2 = nI i ∧ ∀ j, j < i → u.1 j = tld (lg j)) _ ?_ m n _ ⟨0, by omega, rfl, fun j hj => absurd hj (by omega)⟩ (by omega)
  rintro q ⟨r, i'⟩ ⟨i, g1, g2, g3⟩
  simp only at g2 g3
  subst g2
  show (∃ w', g r (nI i) = _ ∧ _) ∨ (∃ y, g r (nI i) = _ ∧ _)
  rw [hg r i (by omega), ifle (by omega) (by omega)]
  by_cases ci : m ≤ i
  · have : i = m := by omega
    subst this
    rw [if_pos ci]
    exact Or.inr ⟨_, rfl, g3⟩
  · have e1 : nI i + 1 = nI (i + 1) := qn_add i 1
    rw [if_neg ci, if_pos rfl, gd_nI (by omega) (by omega), M_told, obs, gd_nI (by omega) (by omega), bnd_eq, qn_clamp (by omega), e1]
    refine Or.inl ⟨_, rfl, q - 1, by omega, i + 1, by omega, rfl, ?_⟩
    intro j hj
    show upd r i (tld (lg i)) j = _
    unfold upd
    by_cases ej : j = i
    · rw [if_pos ej, ej]
    · rw [if_neg ej]; exact g3 j (by omega)
theorem M_front1 {n cap c i qb : Nat} {A : Option ((Int32 × Int32 × Int32 × (Nat → Int32) × (Nat → Int32) × Int32) ⊕ (Int32 × Int32 × Int32 × Int32 × (Nat → Int32) × (Nat → Int64) × (Nat → Int32) × (Nat → Int32) × (Nat → Int32)))} {cnt at' st : Int32} {com more inp by' fr' : Nat → Int32} {cv mv : Int64} (hi : i < c) (hc : c ≤ 1000) (hq : qb ≤ 255) (hcv : com i = tld cv) (hmv : more i = tld mv)
    (hA : lv cv + lv mv ≤ 255 → Option.bind (f_M_take n cap 20000 1001 cnt at' st 0 inp by' fr' (nI (lv mv)) (nI (lv cv))) (fun o77 => bnd (nI i + (1 : Int32)) (fun x78 => some (Sum.inl (o77.1, o77.2.1, o77.2.2.1, o77.2.2.2.1, o77.2.2.2.2, x78)))) = A) :
    f_M_readFront_j124 n 1000 cap 1000 20000 1001 cnt at' st 0 com inp more by' fr' (nI i) (nI qb) = if lv cv ≤ qb ∧ lv cv + lv mv ≤ 255 then A else some (Sum.inl (cnt, at', 7, by', fr', nI (i + 1))) := by
  unfold f_M_readFront_j124 f_M_readFront_j172
  have e1 : nI i + 1 = nI (i + 1) := qn_add i 1
  have g0 : ∀ {α : Type} {t : Option α}, gd (inB (nI i) 1000) t = t := fun {α t} => gd_nI (by omega) (by omega)
  simp only [g0, qn_clamp (show i < 2147483648 by omega), hcv, hmv, bnd_eq]
  have e255 : (255 : Int32) = nI 255 := rfl
  have hm1 : ((-1 : Int32) < 0) := by decide
  have t1 : ∀ v : Int64, (tld v < 0) ↔ 9223372036854775808 ≤ lv v := by
    intro v
    unfold tld
    by_cases h : 9223372036854775808 ≤ lv v
    · rw [if_pos h]; exact ⟨fun _ => h, fun _ => hm1⟩
    · rw [if_neg h]
      refine ⟨fun hx => ?_, fun hx => absurd hx h⟩
      split at hx
      · exact absurd hx (nI_nn (by omega))
      · exact absurd hx (nI_nn (by omega))
  rw [qifc (t1 cv), qifc (t1 mv), e1]
  by_cases k1 : 9223372036854775808 ≤ lv cv
  · rw [if_pos k1, if_neg (by omega)]
  · rw [if_neg k1]
    by_cases k2 : 9223372036854775808 ≤ lv mv
    · rw [if_pos k2, if_neg (by omega)]
    · rw [if_neg k2]
      have tc : ∀ v : Int64, ¬ 9223372036854775808 ≤ lv v → tld v = nI (min (lv v) 256) := by
        intro v hv
        unfold tld
        rw [if_neg hv]
        by_cases h : lv v ≤ 255
        · rw [if_pos h, Nat.min_eq_left (by omega)]
        · rw [if_neg h, Nat.min_eq_right (by omega)]
      rw [tc cv k1, tc mv k2, qn_add, e255, ifl (by omega) (by omega), ifle (by omega) (by omega)]
      by_cases k3 : 255 < min (lv cv) 256 + min (lv mv) 256
      · rw [if_pos k3, if_neg (by omega)]
      · rw [if_neg k3, Nat.min_eq_left (show lv cv ≤ 256 by omega), Nat.min_eq_left (show lv mv ≤ 256 by omega)]
        by_cases k4 : lv cv ≤ qb
        · rw [if_pos k4, if_pos (by omega), ← hA (by omega), e1]
          rfl
        · rw [if_neg k4, if_neg (by omega)]
