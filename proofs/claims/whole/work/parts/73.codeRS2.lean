theorem lrange {α : Type} {v b : Nat} {A B : α} (hv : v < 18446744073709551616) (hb : b < 4611686018427387904) : (if ql64 v < 0 then A else if ql64 v ≤ ql64 b then B else A) = if b < v then A else B := by
  by_cases c : ql64 v < 0
  · rw [if_pos c]
    rw [lv_neg, lv_l64 hv] at c
    rw [if_pos (by omega)]
  · rw [if_neg c]
    rw [lv_neg, lv_l64 hv] at c
    rw [qifc (show (ql64 v ≤ ql64 b) ↔ v ≤ b from by rw [l64_le (by omega) (by omega)])]
    by_cases c2 : b < v
    · rw [if_pos c2, if_neg (by omega)]
    · rw [if_neg c2, if_pos (by omega)]
theorem S_widthsF {n cap fr un : Nat} {row wds : Nat → Int32} {at' to' f : Int32} (hn : 100000 < n) (hun : un ≤ 2000) (hfr : fr ≤ 2000) (hf : ¬ f = 0) :
    ∃ o, lp (fun v => f_S_takeBlock_l12 cap 4 to' row (nI fr) (nI un) v.1 v.2.1 v.2.2.1 v.2.2.2) n (at', f, wds, (0 : Int32)) = some o ∧ o.2.1 = f := by
  refine lp_inv (fun q u => ∃ p, p + q = 4 ∧ u.2.2.2 = nI p ∧ u.2.1 = f) _ ?_ 4 n _ ⟨0, by omega, rfl, rfl⟩ (by omega)
  rintro q ⟨at', fa, wd', p'⟩ ⟨p, g1, g2, g3⟩
  simp only at g2 g3
  subst g2; subst g3
  show (∃ w', f_S_takeBlock_l12 cap 4 to' row (nI fr) (nI un) at' fa wd' (nI p) = _ ∧ _) ∨ (∃ y, f_S_takeBlock_l12 cap 4 to' row (nI fr) (nI un) at' fa wd' (nI p) = _ ∧ _)
  unfold f_S_takeBlock_l12
  have e4 : (4 : Int32) = nI 4 := rfl
  have e16p : (16 : Int32) * nI p = nI (16 * p) := nI_mul 16 p
  rw [e4, ifle (by omega) (by omega)]
  by_cases c4 : 4 ≤ p
  · rw [if_pos c4]
    exact Or.inr ⟨_, rfl, rfl⟩
  · have hw : upd wd' p 0 p = nI 0 := by unfold upd; rw [if_pos rfl]; rfl
    rw [if_neg c4, S_octetF hf, obs, gd_nI (by omega) (by omega), e16p, qn_add, ifl (by omega) (by omega), qn_clamp (by omega), S_j45 0 (by omega) (by omega) hw, S_j45 1 (by omega) (by omega) hw, if_neg (show ¬ (64 < 0 ∨ (¬ (0 : Int32) = 0 ∧ 0 < 0)) by omega), if_neg (show ¬ (64 < 0 ∨ (¬ (1 : Int32) = 0 ∧ 0 < 0)) by omega), ite_self]
    exact Or.inl ⟨_, rfl, q - 1, by omega, p + 1, by omega, rfl, rfl⟩
theorem pParts_stop {I : List UInt8} {e a1 fr un : Nat} {least : Int64} {q p a : Nat} {f : Nat → Int64} (h : un ≤ fr + 16 * p) : pParts I e a1 fr un least q p a f = .inr (a, f) := by
  cases q with
  | zero => rfl
  | succ q => simp only [pParts]; rw [if_pos h]
theorem S_parts {n cap pn e a a1 fr un : Nat} {I : List UInt8} {row wds : Nat → Int32} {p1 f : Nat → Int64} (least : Int64) (hn : 100000 < n) (hc : cap < 100000) (hI : I.length ≤ cap) (he : e ≤ I.length) (ha : a ≤ e) (hfr : 1 ≤ fr) (hfu : fr < un) (hu64 : un ≤ fr + 64) (hun : un ≤ pn) (hpn : pn ≤ 2000) (hN : ∀ j, j < fr → p1 j = f j) (hW : ∀ j, j < 4 → wds j = nI (I.getD (a1 + j) 0).toNat ∧ (I.getD (a1 + j) 0).toNat ≤ 64) (h : HC I row) :
    ∃ o, lp (fun v => f_S_takeBlock_l88 n cap 4 pn (nI e) row wds (nI fr) (nI un) least v.1 v.2.1 v.2.2.1 v.2.2.2) n (nI a, (0 : Int32), p1, (0 : Int32)) = some o ∧
      ((∃ x, pParts I e a1 fr un least 4 0 a f = .inl x ∧ o.2.1 = nI x ∧ ¬ nI x = 0) ∨ (∃ a' f', pParts I e a1 fr un least 4 0 a f = .inr (a', f') ∧ a' ≤ e ∧ o.1 = nI a' ∧ o.2.1 = 0 ∧ ∀ j, j < un → o.2.2.2 j = f' j)) := by
  refine lp_inv (fun q u => ∃ p, p + q = 4 ∧ u.2.2.2 = nI p ∧ ((∃ b g, u.1 = nI b ∧ b ≤ e ∧ u.2.1 = 0 ∧ pParts I e a1 fr un least (4 - p) p b g = pParts I e a1 fr un least 4 0 a f ∧ ∀ j, j < fr + 16 * p → j < un → u.2.2.1 j = g j) ∨ (∃ x, pParts I e a1 fr un least 4 0 a f = .inl x ∧ u.2.1 = nI x ∧ ¬ nI x = 0))) _ ?_ 4 n _ ⟨0, by omega, rfl, Or.inl ⟨a, f, rfl, ha, rfl, rfl, fun j hj _ => hN j (by omega)⟩⟩ (by omega)
  rintro q ⟨at', fa, nu, p'⟩ ⟨p, g1, g2, g3⟩
  simp only at g2 g3
  subst g2
  show (∃ w', f_S_takeBlock_l88 n cap 4 pn (nI e) row wds (nI fr) (nI un) least at' fa nu (nI p) = _ ∧ _) ∨ (∃ y, f_S_takeBlock_l88 n cap 4 pn (nI e) row wds (nI fr) (nI un) least at' fa nu (nI p) = _ ∧ _)
  unfold f_S_takeBlock_l88
  have e4 : (4 : Int32) = nI 4 := rfl
  have e16p : (16 : Int32) * nI p = nI (16 * p) := nI_mul 16 p
  have e1 : nI p + 1 = nI (p + 1) := qn_add p 1
  rcases g3 with ⟨b, g, k1, k2, k3, k4, k5⟩ | ⟨x, k1, k2, k3⟩
  · subst k1; subst k3
    rw [e4, ifle (by omega) (by omega)]
    by_cases c4 : 4 ≤ p
    · rw [if_pos c4]
      have k6 : pParts I e a1 fr un least 4 0 a f = .inr (b, g) := by rw [← k4]; exact pParts_stop (by omega)
      exact Or.inr ⟨_, rfl, Or.inr ⟨b, g, k6, k2, rfl, rfl, fun j hj => k5 j (by omega) hj⟩⟩
    · rw [if_neg c4, if_pos rfl, bnd_eq, e16p, qn_add, ifle (by omega) (by omega), bnd_eq, e1]
      by_cases cu : un ≤ fr + 16 * p
      · rw [if_pos cu]
        refine Or.inl ⟨_, rfl, q - 1, by omega, p + 1, by omega, rfl, Or.inl ⟨b, g, rfl, k2, rfl, ?_, fun j _ hj2 => k5 j (by omega) hj2⟩⟩
        rw [← k4, pParts_stop cu, pParts_stop (by omega)]
      · obtain ⟨w1, w2⟩ := hW p (by omega)
        obtain ⟨o, t1, t2⟩ := S_takePart (n := n) (cap := cap) (pn := pn) (e := e) (a := b) (fr := fr + 16 * p) (un := un) (w := (I.getD (a1 + p) 0).toNat) (I := I) (row := row) (p1 := nu) (f := g) least hn hc hI he k2 w2 (by omega) (by omega) hun hpn (fun j hj => k5 j hj (by omega)) h
        rw [if_neg cu, gd_nI (by omega) (by omega), qn_clamp (by omega), w1, t1, obs, bnd_eq]
        have hS : pParts I e a1 fr un least 4 0 a f = match pPart I e b (fr + 16 * p) un least (I.getD (a1 + p) 0).toNat g with
            | .inl x => .inl x
            | .inr (a', f') => pParts I e a1 fr un least (4 - (p + 1)) (p + 1) a' f' := by
          rw [← k4, show 4 - p = (4 - (p + 1)) + 1 by omega]
          show (if un ≤ fr + 16 * p then _ else _) = _
          rw [if_neg cu]
          rfl
        rcases t2 with ⟨x, t3, t4, t5⟩ | ⟨a', f', t3, t4, t5, t6, t7⟩
        · rw [t3] at hS
          exact Or.inl ⟨_, rfl, q - 1, by omega, p + 1, by omega, rfl, Or.inr ⟨x, hS, t4, t5⟩⟩
        · rw [t3] at hS
          exact Or.inl ⟨_, rfl, q - 1, by omega, p + 1, by omega, rfl, Or.inl ⟨a', f', t5, t4, t6, hS.symm, fun j hj hj2 => t7 j (by omega) hj2⟩⟩
  · subst k2
    rw [if_neg k3, ite_self]
    exact Or.inr ⟨_, rfl, Or.inl ⟨x, k1, rfl, k3⟩⟩
theorem S_takeBlock {n cap pn e a fr un : Nat} {I : List UInt8} {row wds : Nat → Int32} {p1 f : Nat → Int64} (hn : 100000 < n) (hc : cap < 100000) (hI : I.length ≤ cap) (he : e ≤ I.length) (ha : a ≤ e) (hfr : 1 ≤ fr) (hfu : fr < un) (hu64 : un ≤ fr + 64) (hun : un ≤ pn) (hpn : pn ≤ 2000) (hN : ∀ j, j < fr → p1 j = f j) (h : HC I row) :
    ∃ o, f_S_takeBlock n cap 4 pn (nI a) (nI e) 0 row wds p1 (nI fr) (nI un) = some o ∧
      ((∃ x, pBlock I e a fr un f = .inl x ∧ o.2.1 = nI x ∧ ¬ nI x = 0) ∨ (∃ a' f', pBlock I e a fr un f = .inr (a', f') ∧ a' ≤ e ∧ o.1 = nI a' ∧ o.2.1 = 0 ∧ ∀ j, j < un → o.2.2.2 j = f' j)) := by
  unfold f_S_takeBlock f_S_takeBlock_j85 pBlock
  have hlF : ∀ (at' x : Int32) (wd' : Nat → Int32) (least : Int64), ¬ x = 0 → lp (fun v => f_S_takeBlock_l88 n cap 4 pn (nI e) row wd' (nI fr) (nI un) least v.1 v.2.1 v.2.2.1 v.2.2.2) n (at', x, p1, (0 : Int32)) = some (at', x, wd', p1) := by
    intro at' x wd' least hx
    obtain ⟨y, rfl⟩ : ∃ y, n = y + 1 := ⟨n - 1, by omega⟩
    have : f_S_takeBlock_l88 (y + 1) cap 4 pn (nI e) row wd' (nI fr) (nI un) least at' x p1 0 = some (Sum.inr (at', x, wd', p1)) := by
      unfold f_S_takeBlock_l88
      rw [if_neg hx, ite_self]
    simp only [lp, this]
  obtain ⟨o, p1', p2⟩ := S_varint (n := n) (cap := cap) (e := e) (a := a) (I := I) (row := row) (by omega) hc hI he ha h
  rw [p1', obs, F_unzigzag, obs]
  cases hp : pVar I e a with
  | inl x =>
    rw [hp] at p2
    obtain ⟨q1, q2, q3⟩ := p2
    obtain ⟨ow, w1, w2⟩ := S_widthsF (n := n) (cap := cap) (fr := fr) (un := un) (row := row) (wds := wds) (at' := o.2.1) (to' := nI e) (f := o.2.2) hn (by omega) (by omega) (by rw [q2]; exact q3)
    rw [w1, obs, hlF _ _ _ _ (by rw [w2, q2]; exact q3), obs]
    exact ⟨_, rfl, Or.inl ⟨x, rfl, w2.trans q2, q3⟩⟩
  | inr az =>
    obtain ⟨a1, z⟩ := az
    rw [hp] at p2
    obtain ⟨q1, q2, q3⟩ := p2
    obtain ⟨v1, v2, v3⟩ := pVar_a hp
    obtain ⟨ow, w1, w2, w3⟩ := S_widths (n := n) (cap := cap) (e := e) (a1 := a1) (fr := fr) (un := un) (I := I) (row := row) (wds := wds) hn hc hI he v2 (by omega) (by omega) h
    rw [q1, q2, q3, w1, obs, w2]
    simp only
    by_cases c0 : pWid I e a1 fr un 4 0 = 0
    · obtain ⟨x1, x2, x3⟩ := w3 c0
      obtain ⟨op, t1, t2⟩ := S_parts (n := n) (cap := cap) (pn := pn) (e := e) (a := a1 + 4) (a1 := a1) (fr := fr) (un := un) (I := I) (row := row) (wds := ow.2.2.1) (p1 := p1) (f := f) (uz (ql64 z)) hn hc hI he x2 hfr hfu hu64 hun hpn hN x3 h
      have hz : nI 0 = 0 := rfl
      rw [c0, if_pos rfl, x1, hz, t1, obs]
      exact ⟨_, rfl, t2⟩
    · have hne : ¬ nI (pWid I e a1 fr un 4 0) = 0 := nIf c0 (by have := pWid_05 I e a1 fr un 4 0; omega)
      rw [if_neg c0, hlF _ _ _ _ hne, obs]
      exact ⟨_, rfl, Or.inl ⟨_, rfl, rfl, hne⟩⟩
theorem pBlks_stop {I : List UInt8} {e m : Nat} {q fr a : Nat} {f : Nat → Int64} (h : m ≤ fr) : pBlks I e m q fr a f = .inr (a, f) := by
  cases q with
  | zero => rfl
  | succ q => simp only [pBlks]; rw [if_pos h]
theorem S_blks {n cap pn e a m : Nat} {I : List UInt8} {row wds : Nat → Int32} {p1 f : Nat → Int64} (hn : 100000 < n) (hc : cap < 100000) (hI : I.length ≤ cap) (he : e ≤ I.length) (ha : a ≤ e) (hm : m ≤ pn) (hpn : pn ≤ 2000) (hN : ∀ j, j < 1 → j < m → p1 j = f j) (h : HC I row) :
    ∃ o, lp (fun v => f_S_code_l55 n cap 4 pn (nI e) row (nI m) v.1 v.2.1 v.2.2.1 v.2.2.2.1 v.2.2.2.2) n (nI a, (0 : Int32), wds, p1, (1 : Int32)) = some o ∧
      ((∃ x, pBlks I e m m 1 a f = .inl x ∧ o.2.1 = nI x ∧ ¬ nI x = 0) ∨ (∃ a' f', pBlks I e m m 1 a f = .inr (a', f') ∧ a' ≤ e ∧ o.1 = nI a' ∧ o.2.1 = 0 ∧ ∀ j, j < m → o.2.2.2.1 j = f' j)) := by
  refine lp_inv (fun q u => (∃ r b g, r + q = m + 2 ∧ 64 * r ≤ m + 64 ∧ u.2.2.2.2 = nI (1 + 64 * r) ∧ u.1 = nI b ∧ b ≤ e ∧ u.2.1 = 0 ∧ pBlks I e m (m - r) (1 + 64 * r) b g = pBlks I e m m 1 a f ∧ ∀ j, j < 1 + 64 * r → j < m → u.2.2.2.1 j = g j) ∨ (0 < q ∧ ∃ x, pBlks I e m m 1 a f = .inl x ∧ u.2.1 = nI x ∧ ¬ nI x = 0)) _ ?_ (m + 2) n _ (Or.inl ⟨0, a, f, by omega, by omega, rfl, rfl, ha, rfl, rfl, hN⟩) (by omega)
  rintro q ⟨at', fa, wd', nu, v'⟩ (⟨r, b, g, g1, g2, g3, g4, g5, g6, g7, g8⟩ | ⟨g0, x, g1, g2, g3⟩)
  · simp only at g3 g4 g6 g8
    subst g3; subst g4; subst g6
    show (∃ w', f_S_code_l55 n cap 4 pn (nI e) row (nI m) (nI b) 0 wd' nu (nI (1 + 64 * r)) = _ ∧ _) ∨ (∃ y, f_S_code_l55 n cap 4 pn (nI e) row (nI m) (nI b) 0 wd' nu (nI (1 + 64 * r)) = _ ∧ _)
    unfold f_S_code_l55
    rw [ifle (by omega) (by omega)]
    by_cases c : m ≤ 1 + 64 * r
    · rw [if_pos c]
      refine Or.inr ⟨_, rfl, Or.inr ⟨b, g, ?_, g5, rfl, rfl, fun j hj => g8 j (by omega) hj⟩⟩
      rw [← g7]; exact pBlks_stop c
    · have e64 : nI (1 + 64 * r) + 64 = nI (1 + 64 * r + 64) := qn_add _ 64
      have hmin : (if m < 1 + 64 * r + 64 then nI m else nI (1 + 64 * r + 64)) = nI (min (1 + 64 * r + 64) m) := by
        by_cases c2 : m < 1 + 64 * r + 64
        · rw [if_pos c2, Nat.min_eq_right (by omega)]
        · rw [if_neg c2, Nat.min_eq_left (by omega)]
      obtain ⟨o, t1, t2⟩ := S_takeBlock (n := n) (cap := cap) (pn := pn) (e := e) (a := b) (fr := 1 + 64 * r) (un := min (1 + 64 * r + 64) m) (I := I) (row := row) (wds := wd') (p1 := nu) (f := g) hn hc hI he g5 (by omega) (by omega) (by omega) (by omega) hpn (fun j hj => g8 j hj (by omega)) h
      rw [if_neg c, if_pos rfl, e64, ifl (by omega) (by omega), hmin, t1, obs, bnd_eq]
      have hS : pBlks I e m m 1 a f = match pBlock I e b (1 + 64 * r) (min (1 + 64 * r + 64) m) g with
          | .inl x => .inl x
          | .inr (a', f') => pBlks I e m (m - (r + 1)) (1 + 64 * (r + 1)) a' f' := by
        rw [← g7, show m - r = (m - (r + 1)) + 1 by omega]
        show (if m ≤ 1 + 64 * r then _ else _) = _
        rw [if_neg c]
        rfl
      rcases t2 with ⟨x, t3, t4, t5⟩ | ⟨a', f', t3, t4, t5, t6, t7⟩
      · rw [t3] at hS
        exact Or.inl ⟨_, rfl, q - 1, by omega, Or.inr ⟨by omega, x, hS, t4, t5⟩⟩
      · rw [t3] at hS
        exact Or.inl ⟨_, rfl, q - 1, by omega, Or.inl ⟨r + 1, a', f', by omega, by omega, rfl, t5, t4, t6, hS.symm, fun j hj hj2 => t7 j (by omega)⟩⟩
  · simp only at g2
    subst g2
    show (∃ w', f_S_code_l55 n cap 4 pn (nI e) row (nI m) at' (nI x) wd' nu v' = _ ∧ _) ∨ (∃ y, f_S_code_l55 n cap 4 pn (nI e) row (nI m) at' (nI x) wd' nu v' = _ ∧ _)
    unfold f_S_code_l55
    rw [if_neg g3, ite_self]
    exact Or.inr ⟨_, rfl, Or.inl ⟨x, g1, rfl, g3⟩⟩
theorem S_code {n cap pn e a : Nat} {I : List UInt8} {row wds : Nat → Int32} {p1 : Nat → Int64} (hn : 100000 < n) (hc : cap < 100000) (hI : I.length ≤ cap) (he : e ≤ I.length) (ha : a ≤ e) (hpn : pn = 2000) (h : HC I row) :
    ∃ o, f_S_code n cap 4 pn (nI a) (nI e) 0 row wds p1 = some o ∧
      ((∃ x, pCode I e a = .inl x ∧ o.2.2.1 = nI x ∧ ¬ nI x = 0) ∨ (∃ m f, pCode I e a = .inr (m, f) ∧ m ≤ 2000 ∧ o.1 = nI m ∧ o.2.1 = nI e ∧ o.2.2.1 = 0 ∧ ∀ j, j < m → o.2.2.2.2 j = f j)) := by
  unfold f_S_code f_S_code_j19 pCode
  obtain ⟨o, p1', p2⟩ := S_varint (n := n) (cap := cap) (e := e) (a := a) (I := I) (row := row) (by omega) hc hI he ha h
  rw [p1', obs]
  have hz : nI 0 = 0 := rfl
  have e2000 : (2000 : Int64) = ql64 2000 := rfl
  cases hp : pVar I e a with
  | inl x =>
    rw [hp] at p2
    obtain ⟨q1, q2, q3⟩ := p2
    have hF : ¬ o.2.2 = 0 := by rw [q2]; exact q3
    rw [S_failF _ hF, obs, ite_self, ite_self]
    unfold f_S_code_j24
    rw [if_neg hF]
    exact ⟨_, rfl, Or.inl ⟨x, rfl, q2, q3⟩⟩
  | inr am =>
    obtain ⟨a1, m⟩ := am
    rw [hp] at p2
    obtain ⟨q1, q2, q3⟩ := p2
    obtain ⟨v1, v2, v3⟩ := pVar_a hp
    rw [q1, q2, q3, S_fail0, obs, e2000, lrange v3 (by omega)]
    simp only
    unfold f_S_code_j24
    by_cases c4 : 2000 < m
    · rw [if_pos c4, if_pos c4, if_neg (show ¬ (4 : Int32) = 0 by decide)]
      exact ⟨_, rfl, Or.inl ⟨4, rfl, rfl, by decide⟩⟩
    · have em : (ql64 m).toInt32 = nI m := l64_i32 (by omega)
      have hle0 : (nI m ≤ 0) ↔ m = 0 := by rw [QI0, qn_le (by omega) (by omega)]; omega
      rw [if_neg c4, if_neg c4, if_pos rfl, em, qifc hle0]
      have hend : ∀ (a2 : Nat) (f nu : Nat → Int64) (wd' : Nat → Int32), a2 ≤ e → (∀ j, j < 1 → j < m → nu j = f j) → ∃ o, f_S_code_j52 n cap 4 pn (nI a2) (nI e) 0 row wd' nu (nI m) = some o ∧ ((∃ x, (match pBlks I e m m 1 a2 f with | .inl x => .inl x | .inr (a', f) => if a' < e then .inl 6 else .inr (m, f)) = (Sum.inl x : Nat ⊕ (Nat × (Nat → Int64))) ∧ o.2.2.1 = nI x ∧ ¬ nI x = 0) ∨ (∃ m' f', (match pBlks I e m m 1 a2 f with | .inl x => .inl x | .inr (a', f) => if a' < e then .inl 6 else .inr (m, f)) = (Sum.inr (m', f') : Nat ⊕ (Nat × (Nat → Int64))) ∧ m' ≤ 2000 ∧ o.1 = nI m' ∧ o.2.1 = nI e ∧ o.2.2.1 = 0 ∧ ∀ j, j < m' → o.2.2.2.2 j = f' j)) := by
        intro a2 f nu wd' ha2 hN
        unfold f_S_code_j52
        obtain ⟨ob, t1, t2⟩ := S_blks (n := n) (cap := cap) (pn := pn) (e := e) (a := a2) (m := m) (I := I) (row := row) (wds := wd') (p1 := nu) (f := f) hn hc hI he ha2 (by omega) (by omega) hN h
        rw [t1, obs]
        unfold f_S_code_j92
        rcases t2 with ⟨x, t3, t4, t5⟩ | ⟨a', f', t3, t4, t5, t6, t7⟩
        · rw [t4, S_endF t5, obs, t3]
          exact ⟨_, rfl, Or.inl ⟨x, rfl, rfl, t5⟩⟩
        · rw [t5, t6, S_end0 (by omega) (by omega), obs, t3]
          simp only
          by_cases ce : a' < e
          · rw [if_pos ce, if_neg (by omega)]
            exact ⟨_, rfl, Or.inl ⟨6, rfl, rfl, by decide⟩⟩
          · have : a' = e := by omega
            rw [if_neg ce, if_pos (by omega), this]
            exact ⟨_, rfl, Or.inr ⟨m, f', rfl, by omega, rfl, rfl, rfl, t7⟩⟩
      unfold pCode1
      by_cases c0 : m = 0
      · rw [if_pos c0, if_pos c0]
        obtain ⟨oe, y1, y2⟩ := hend a1 (fun _ => 0) p1 wds v2 (fun j _ hj => absurd hj (by omega))
        rw [pBlks_stop (by omega)] at y2
        exact ⟨oe, y1, y2⟩
      · rw [if_neg c0, if_neg c0]
        obtain ⟨o2, p3, p4⟩ := S_varint (n := n) (cap := cap) (e := e) (a := a1) (I := I) (row := row) (by omega) hc hI he v2 h
        have g0 : ∀ {α : Type} {t : Option α}, gd (inB (0 : Int32) pn) t = t := fun {α t} => gd_nI (i := 0) (by omega) (by omega)
        have hc0 : (0 : Int32).toNatClampNeg = 0 := rfl
        rw [p3, obs, F_unzigzag, obs, g0, hc0]
        cases hp2 : pVar I e a1 with
        | inl x =>
          rw [hp2] at p4
          obtain ⟨r1, r2, r3⟩ := p4
          have hF : ¬ o2.2.2 = 0 := by rw [r2]; exact r3
          unfold f_S_code_j52
          obtain ⟨y, rfl⟩ : ∃ y, n = y + 1 := ⟨n - 1, by omega⟩
          have hl : ∀ nu, f_S_code_l55 (y + 1) cap 4 pn (nI e) row (nI m) o2.2.1 o2.2.2 wds nu 1 = some (Sum.inr (o2.2.1, o2.2.2, wds, nu, 1)) := by
            intro nu
            unfold f_S_code_l55
            rw [if_neg hF, ite_self]
          simp only [lp, hl, obs]
          unfold f_S_code_j92
          rw [S_endF hF, obs]
          exact ⟨_, rfl, Or.inl ⟨x, rfl, r2, r3⟩⟩
        | inr az =>
          obtain ⟨a2, z⟩ := az
          rw [hp2] at p4
          obtain ⟨r1, r2, r3⟩ := p4
          obtain ⟨v4, v5, v6⟩ := pVar_a hp2
          rw [r1, r2, r3]
          refine hend a2 (fun _ => uz (ql64 z)) _ wds v5 ?_
          intro j hj _
          unfold vp_updL
          rw [if_pos (by omega)]
theorem S_codeF {n cap pn : Nat} {row wds : Nat → Int32} {p1 : Nat → Int64} {at' to' f : Int32} (hn : 100 < n) (hf : ¬ f = 0) : f_S_code n cap 4 pn at' to' f row wds p1 = some (0, at', f, wds, p1) := by
  unfold f_S_code f_S_code_j19 f_S_code_j24
  rw [S_varintF hn hf, obs]
  simp only [S_failF _ hf, obs, if_neg hf, ite_self]
