def pCodeN (I : List UInt8) (e a c : Nat) : Nat ⊕ (Nat → Int64) :=
  match pCode I e a with
  | .inl x => .inl x
  | .inr (m, f) => if m = c then .inr f else .inl 4
def pSized (I : List UInt8) (e a c : Nat) : Nat ⊕ (Nat × (Nat → Int64)) :=
  match pVar I e a with
  | .inl x => .inl x
  | .inr (a1, z) => if e - a1 < z then .inl 1 else
    match pCodeN I (a1 + z) a1 c with
    | .inl x => .inl x
    | .inr f => .inr (a1 + z, f)
theorem M_blks {n cap ln e a m : Nat} {I : List UInt8} {inp : Nat → Int32} {lg f : Nat → Int64} (hn : 100000 < n) (hc : cap < 100000) (hI : I.length ≤ cap) (he : e ≤ I.length) (ha : a ≤ e) (hm : m ≤ ln) (hm1 : 1 ≤ m) (hln : ln ≤ 2000) (hN : ∀ j, j < 1 → j < m → lg j = f j) (h : QHM I inp) :
    ∃ o, lp (fun v => f_M_readLongs_l70 n cap ln (nI m) inp (nI e) v.1 v.2.1 v.2.2.1 v.2.2.2) n (nI a, (0 : Int32), lg, (0 : Int32)) = some o ∧
      ((∃ x, pBlks I e m m 1 a f = .inl x ∧ o.2.1 = nI x ∧ ¬ nI x = 0) ∨ (∃ a' f', pBlks I e m m 1 a f = .inr (a', f') ∧ a' ≤ e ∧ o.1 = nI a' ∧ o.2.1 = 0 ∧ ∀ j, j < m → o.2.2.1 j = f' j)) := by
  refine lp_inv (fun q u => (∃ r b g, r + q = m + 2 ∧ 64 * r ≤ m + 64 ∧ u.2.2.2 = nI (64 * r) ∧ u.1 = nI b ∧ b ≤ e ∧ u.2.1 = 0 ∧ pBlks I e m (m - r) (1 + 64 * r) b g = pBlks I e m m 1 a f ∧ ∀ j, j < 1 + 64 * r → j < m → u.2.2.1 j = g j) ∨ (0 < q ∧ ∃ x, pBlks I e m m 1 a f = .inl x ∧ u.2.1 = nI x ∧ ¬ nI x = 0)) _ ?_ (m + 2) n _ (Or.inl ⟨0, a, f, by omega, by omega, rfl, rfl, ha, rfl, rfl, hN⟩) (by omega)
  rintro q ⟨at', fa, nu, v'⟩ (⟨r, b, g, g1, g2, g3, g4, g5, g6, g7, g8⟩ | ⟨g0, x, g1, g2, g3⟩)
  · simp only at g3 g4 g6 g8
    subst g3; subst g4; subst g6
    show (∃ w', f_M_readLongs_l70 n cap ln (nI m) inp (nI e) (nI b) 0 nu (nI (64 * r)) = _ ∧ _) ∨ (∃ y, f_M_readLongs_l70 n cap ln (nI m) inp (nI e) (nI b) 0 nu (nI (64 * r)) = _ ∧ _)
    unfold f_M_readLongs_l70
    have em1 : nI m - 1 = nI (m - 1) := nI_sub (show 1 ≤ m by omega)
    have e64 : nI (64 * r) + 64 = nI (64 * r + 64) := qn_add _ 64
    rw [em1, e64, ifle (by omega) (by omega), ifle (by omega) (by omega)]
    by_cases c : m - 1 ≤ 64 * r
    · rw [if_pos c]
      refine Or.inr ⟨_, rfl, Or.inr ⟨b, g, ?_, g5, rfl, rfl, fun j hj => g8 j (by omega) hj⟩⟩
      rw [← g7]; exact pBlks_stop (by omega)
    · have hsel : (if m - 1 ≤ 64 * r + 64 then f_M_readLongs_j119 n cap ln (nI b) 0 inp nu (nI e) (nI (64 * r)) (nI (m - 1)) (nI (64 * r)) else f_M_readLongs_j119 n cap ln (nI b) 0 inp nu (nI e) (nI (64 * r)) (nI (64 * r + 64)) (nI (64 * r))) = f_M_readLongs_j119 n cap ln (nI b) 0 inp nu (nI e) (nI (64 * r)) (nI (min (64 * r + 64) (m - 1))) (nI (64 * r)) := by
        by_cases c2 : m - 1 ≤ 64 * r + 64
        · rw [if_pos c2, Nat.min_eq_right (by omega)]
        · rw [if_neg c2, Nat.min_eq_left (by omega)]
      obtain ⟨o, t1, t2⟩ := M_readBlock (n := n) (cap := cap) (ln := ln) (e := e) (a := b) (s := 64 * r) (l := min (64 * r + 64) (m - 1)) (I := I) (inp := inp) (lg := nu) (f := g) hn hc hI he g5 (by omega) (by omega) (by omega) hln (fun j hj => g8 j (by omega) (by omega)) h
      rw [if_neg c, if_pos rfl, hsel]
      unfold f_M_readLongs_j119
      rw [t1, obs, bnd_eq, e64]
      have hmin : min (64 * r + 64) (m - 1) + 1 = min (1 + 64 * r + 64) m := by omega
      rw [show 64 * r + 1 = 1 + 64 * r by omega, hmin] at t2
      have hS : pBlks I e m m 1 a f = match pBlock I e b (1 + 64 * r) (min (1 + 64 * r + 64) m) g with
          | .inl x => .inl x
          | .inr (a', f') => pBlks I e m (m - (r + 1)) (1 + 64 * (r + 1)) a' f' := by
        rw [← g7, show m - r = (m - (r + 1)) + 1 by omega]
        show (if m ≤ 1 + 64 * r then _ else _) = _
        rw [if_neg (by omega)]
        rfl
      rcases t2 with ⟨x, t3, t4, t5⟩ | ⟨a', f', t3, t4, t5, t6, t7⟩
      · rw [t3] at hS
        exact Or.inl ⟨_, rfl, q - 1, by omega, Or.inr ⟨by omega, x, hS, t4, t5⟩⟩
      · rw [t3] at hS
        exact Or.inl ⟨_, rfl, q - 1, by omega, Or.inl ⟨r + 1, a', f', by omega, by omega, rfl, t5, t4, t6, hS.symm, fun j hj hj2 => t7 j (by omega)⟩⟩
  · simp only at g2
    subst g2
    show (∃ w', f_M_readLongs_l70 n cap ln (nI m) inp (nI e) at' (nI x) nu v' = _ ∧ _) ∨ (∃ y, f_M_readLongs_l70 n cap ln (nI m) inp (nI e) at' (nI x) nu v' = _ ∧ _)
    unfold f_M_readLongs_l70
    rw [if_neg g3, ite_self]
    exact Or.inr ⟨_, rfl, Or.inl ⟨x, g1, rfl, g3⟩⟩
theorem M_longsEnd {a e m c : Nat} {lg : Nat → Int64} (ha : a ≤ e) (he : e < 100000) (hm : m ≤ 2000) (hc : c ≤ 2000) : f_M_readLongs_j129 (nI a) 0 (nI m) lg (nI c) (nI e) = some (nI a, (if a < e then 6 else if m = c then 0 else 4), nI m, lg) := by
  unfold f_M_readLongs_j129 f_M_readLongs_j150
  rw [if_pos rfl, if_pos rfl, ifle (by omega) (by omega), if_neg (show ¬ (6 : Int32) = 0 by decide), ife (by omega) (by omega)]
  by_cases c1 : a < e
  · rw [if_pos c1, if_neg (by omega)]
  · rw [if_neg c1, if_pos (by omega)]
    split <;> rfl
theorem M_longsEndF {at' f m c e : Int32} {lg : Nat → Int64} (hf : ¬ f = 0) : f_M_readLongs_j129 at' f m lg c e = some (at', f, m, lg) := by
  unfold f_M_readLongs_j129 f_M_readLongs_j150
  rw [if_neg hf, if_neg hf]
theorem M_readLongs {n cap ln e a c : Nat} {I : List UInt8} {inp : Nat → Int32} {lg : Nat → Int64} {lc : Int32} (hn : 100000 < n) (hcap : cap < 100000) (hI : I.length ≤ cap) (he : e ≤ I.length) (ha : a ≤ e) (hc : c ≤ 2000) (hln : ln = 2000) (h : QHM I inp) :
    ∃ o, f_M_readLongs n cap ln (nI a) 0 lc inp lg (nI c) (nI e) = some o ∧
      ((∃ x, pCodeN I e a c = .inl x ∧ o.2.1 = nI x ∧ ¬ nI x = 0) ∨ (∃ f, pCodeN I e a c = .inr f ∧ o.1 = nI e ∧ o.2.1 = 0 ∧ ∀ j, j < c → o.2.2.2 j = f j)) := by
  unfold f_M_readLongs f_M_readLongs_j27 pCodeN pCode
  obtain ⟨o, p1', p2⟩ := M_varint (n := n) (cap := cap) (e := e) (a := a) (I := I) (inp := inp) (by omega) hcap hI he ha h
  rw [p1', obs]
  have e2000 : (2000 : Int64) = ql64 2000 := rfl
  cases hp : pVar I e a with
  | inl x =>
    rw [hp] at p2
    obtain ⟨q1, q2, q3⟩ := p2
    have hF : ¬ o.2.2 = 0 := by rw [q2]; exact q3
    rw [if_neg hF]
    unfold f_M_readLongs_j32
    rw [if_neg hF]
    exact ⟨_, rfl, Or.inl ⟨x, rfl, q2, q3⟩⟩
  | inr am =>
    obtain ⟨a1, m⟩ := am
    rw [hp] at p2
    obtain ⟨q1, q2, q3⟩ := p2
    obtain ⟨v1, v2, v3⟩ := pVar_a hp
    rw [q1, q2, q3, if_pos rfl, e2000, lrange v3 (by omega)]
    simp only
    unfold f_M_readLongs_j32
    by_cases c4 : 2000 < m
    · rw [if_pos c4, if_pos c4, if_neg (show ¬ (4 : Int32) = 0 by decide)]
      exact ⟨_, rfl, Or.inl ⟨4, rfl, rfl, by decide⟩⟩
    · have em : (ql64 m).toInt32 = nI m := l64_i32 (by omega)
      have hle0 : (nI m ≤ 0) ↔ m = 0 := by rw [QI0, qn_le (by omega) (by omega)]; omega
      rw [if_neg c4, if_neg c4, if_pos rfl, em, qifc hle0]
      unfold pCode1 f_M_readLongs_j67
      by_cases c0 : m = 0
      · rw [if_pos c0, if_pos c0]
        have hl : lp (fun v => f_M_readLongs_l70 n cap ln (nI m) inp (nI e) v.1 v.2.1 v.2.2.1 v.2.2.2) n (nI a1, (0 : Int32), lg, (0 : Int32)) = some (nI a1, 0, lg, 0) := by
          obtain ⟨y, rfl⟩ : ∃ y, n = y + 1 := ⟨n - 1, by omega⟩
          have : f_M_readLongs_l70 (y + 1) cap ln (nI m) inp (nI e) (nI a1) 0 lg 0 = some (Sum.inr (nI a1, 0, lg, 0)) := by
            unfold f_M_readLongs_l70
            subst c0
            rw [if_pos (show nI 0 - 1 ≤ 0 by decide)]
          simp only [lp, this]
        rw [hl, obs]
        simp only
        rw [M_longsEnd v2 (by omega) (by omega) (by omega)]
        by_cases ce : a1 < e
        · rw [if_pos ce, if_pos ce]
          exact ⟨_, rfl, Or.inl ⟨6, rfl, rfl, by decide⟩⟩
        · rw [if_neg ce, if_neg ce]
          simp only
          by_cases cc : m = c
          · rw [if_pos cc, if_pos cc]
            exact ⟨_, rfl, Or.inr ⟨_, rfl, by rw [show a1 = e by omega], rfl, fun j hj => absurd hj (by omega)⟩⟩
          · rw [if_neg cc, if_neg cc]
            exact ⟨_, rfl, Or.inl ⟨4, rfl, rfl, by decide⟩⟩
      · rw [if_neg c0, if_neg c0]
        obtain ⟨o2, p3, p4⟩ := M_varint (n := n) (cap := cap) (e := e) (a := a1) (I := I) (inp := inp) (by omega) hcap hI he v2 h
        have g0 : ∀ {α : Type} {t : Option α}, gd (inB (0 : Int32) ln) t = t := fun {α t} => gd_nI (i := 0) (by omega) (by omega)
        have hc0 : (0 : Int32).toNatClampNeg = 0 := rfl
        rw [p3, obs, M_unzigzag, obs, g0, hc0]
        cases hp2 : pVar I e a1 with
        | inl x =>
          rw [hp2] at p4
          obtain ⟨r1, r2, r3⟩ := p4
          have hF : ¬ o2.2.2 = 0 := by rw [r2]; exact r3
          obtain ⟨y, rfl⟩ : ∃ y, n = y + 1 := ⟨n - 1, by omega⟩
          have hl : ∀ nu, f_M_readLongs_l70 (y + 1) cap ln (nI m) inp (nI e) o2.2.1 o2.2.2 nu 0 = some (Sum.inr (o2.2.1, o2.2.2, nu, 0)) := by
            intro nu
            unfold f_M_readLongs_l70
            rw [if_neg hF, ite_self]
          simp only [lp, hl, obs]
          rw [M_longsEndF hF]
          exact ⟨_, rfl, Or.inl ⟨x, rfl, r2, r3⟩⟩
        | inr az =>
          obtain ⟨a2, z⟩ := az
          rw [hp2] at p4
          obtain ⟨r1, r2, r3⟩ := p4
          obtain ⟨v4, v5, v6⟩ := pVar_a hp2
          rw [r1, r2, r3]
          obtain ⟨ob, t1, t2⟩ := M_blks (n := n) (cap := cap) (ln := ln) (e := e) (a := a2) (m := m) (I := I) (inp := inp) (lg := vp_updL lg 0 (uz (ql64 z))) (f := fun _ => uz (ql64 z)) hn hcap hI he v5 (by omega) (by omega) (by omega) (fun j hj _ => by unfold vp_updL; rw [if_pos (by omega)]) h
          rw [t1, obs]
          simp only
          rcases t2 with ⟨x, t3, t4, t5⟩ | ⟨a', f', t3, t4, t5, t6, t7⟩
          · rw [t4, M_longsEndF t5, t3]
            exact ⟨_, rfl, Or.inl ⟨x, rfl, rfl, t5⟩⟩
          · rw [t5, t6, M_longsEnd t4 (by omega) (by omega) (by omega), t3]
            simp only
            by_cases ce : a' < e
            · rw [if_pos ce, if_pos ce]
              exact ⟨_, rfl, Or.inl ⟨6, rfl, rfl, by decide⟩⟩
            · rw [if_neg ce, if_neg ce]
              simp only
              by_cases cc : m = c
              · rw [if_pos cc, if_pos cc]
                exact ⟨_, rfl, Or.inr ⟨_, rfl, by rw [show a' = e by omega], rfl, fun j hj => t7 j (by omega)⟩⟩
              · rw [if_neg cc, if_neg cc]
                exact ⟨_, rfl, Or.inl ⟨4, rfl, rfl, by decide⟩⟩
theorem M_readCode {n cap ln e a c : Nat} {I : List UInt8} {inp : Nat → Int32} {lg : Nat → Int64} {lc : Int32} (hn : 100000 < n) (hcap : cap < 100000) (hI : I.length ≤ cap) (he : e ≤ I.length) (ha : a ≤ e) (hc : c ≤ 2000) (hln : ln = 2000) (h : QHM I inp) :
    ∃ o, f_M_readCode n cap ln (nI a) (nI e) 0 lc inp lg (nI c) = some o ∧
      ((∃ x, pSized I e a c = .inl x ∧ o.2.1 = nI x ∧ ¬ nI x = 0) ∨ (∃ a' f, pSized I e a c = .inr (a', f) ∧ a' ≤ e ∧ o.1 = nI a' ∧ o.2.1 = 0 ∧ ∀ j, j < c → o.2.2.2 j = f j)) := by
  unfold f_M_readCode f_M_readCode_j37 pSized
  obtain ⟨o, p1', p2⟩ := M_varint (n := n) (cap := cap) (e := e) (a := a) (I := I) (inp := inp) (by omega) hcap hI he ha h
  rw [p1', obs]
  cases hp : pVar I e a with
  | inl x =>
    rw [hp] at p2
    obtain ⟨q1, q2, q3⟩ := p2
    have hF : ¬ o.2.2 = 0 := by rw [q2]; exact q3
    rw [if_neg hF]
    unfold f_M_readCode_j42
    rw [if_neg hF]
    exact ⟨_, rfl, Or.inl ⟨x, rfl, q2, q3⟩⟩
  | inr am =>
    obtain ⟨a1, z⟩ := am
    rw [hp] at p2
    obtain ⟨q1, q2, q3⟩ := p2
    obtain ⟨v1, v2, v3⟩ := pVar_a hp
    rw [q1, q2, q3, if_pos rfl, nI_sub v2, lI64 (by omega), lrange v3 (by omega)]
    simp only
    unfold f_M_readCode_j42
    by_cases c1 : e - a1 < z
    · rw [if_pos c1, if_pos c1, if_neg (show ¬ (1 : Int32) = 0 by decide)]
      exact ⟨_, rfl, Or.inl ⟨1, rfl, rfl, by decide⟩⟩
    · have ez : (ql64 z).toInt32 = nI z := l64_i32 (by omega)
      obtain ⟨ol, t1, t2⟩ := M_readLongs (n := n) (cap := cap) (ln := ln) (e := a1 + z) (a := a1) (c := c) (I := I) (inp := inp) (lg := lg) (lc := lc) hn hcap hI (by omega) (by omega) hc hln h
      rw [if_neg c1, if_neg c1, if_pos rfl, ez, qn_add, t1, obs]
      rcases t2 with ⟨x, t3, t4, t5⟩ | ⟨f, t3, t4, t5, t6⟩
      · rw [t3]
        exact ⟨_, rfl, Or.inl ⟨x, rfl, t4, t5⟩⟩
      · rw [t3]
        exact ⟨_, rfl, Or.inr ⟨a1 + z, f, rfl, by omega, t4, t5, t6⟩⟩
theorem R_count0 {m c : Nat} (hm : m ≤ 2000) (hc : c ≤ 2000) : f_R_mustBeCount (nI c) 0 (nI m) = some (if m = c then 0 else 4) := by
  unfold f_R_mustBeCount
  rw [ife (by omega) (by omega), S_fail0, obs]
  split <;> rfl
theorem R_countF {m c f : Int32} (hf : ¬ f = 0) : f_R_mustBeCount c f m = some f := by
  unfold f_R_mustBeCount
  rw [S_failF _ hf, obs, ite_self]
theorem S_narrow {n cap e a : Nat} {I : List UInt8} {row : Nat → Int32} (hn : 100000 < n) (hc : cap < 100000) (hI : I.length ≤ cap) (he : e ≤ I.length) (ha : a ≤ e) (h : HC I row) :
    ∃ o, f_S_narrow n cap (nI a) (nI e) 0 row = some o ∧ o.1 = nI e ∧
      ((∃ x, (match pVar I e a with | .inl x => .inl x | .inr (a1, z) => if e - a1 < z then .inl 1 else .inr (a1, z)) = (Sum.inl x : Nat ⊕ (Nat × Nat)) ∧ o.2.2.2 = nI x ∧ ¬ nI x = 0) ∨
       (∃ a1 z, (match pVar I e a with | .inl x => .inl x | .inr (a1, z) => if e - a1 < z then .inl 1 else .inr (a1, z)) = (Sum.inr (a1, z) : Nat ⊕ (Nat × Nat)) ∧ a1 + z ≤ e ∧ o.2.1 = nI a1 ∧ o.2.2.1 = nI (a1 + z) ∧ o.2.2.2 = 0)) := by
  unfold f_S_narrow
  obtain ⟨o, p1', p2⟩ := S_varint (n := n) (cap := cap) (e := e) (a := a) (I := I) (row := row) (by omega) hc hI he ha h
  rw [p1', obs]
  cases hp : pVar I e a with
  | inl x =>
    rw [hp] at p2
    obtain ⟨q1, q2, q3⟩ := p2
    have hF : ¬ o.2.2 = 0 := by rw [q2]; exact q3
    rw [S_thereF _ hF, obs, if_pos rfl]
    exact ⟨_, rfl, rfl, Or.inl ⟨x, rfl, q2, q3⟩⟩
  | inr am =>
    obtain ⟨a1, z⟩ := am
    rw [hp] at p2
    obtain ⟨q1, q2, q3⟩ := p2
    obtain ⟨v1, v2, v3⟩ := pVar_a hp
    rw [q1, q2, q3]
    simp only
    by_cases c1 : e - a1 < z
    · rw [if_pos c1, S_there1 _ (by rw [lv_l64 v3]; omega) v2 (by omega), obs, if_pos rfl]
      exact ⟨_, rfl, rfl, Or.inl ⟨1, rfl, rfl, by decide⟩⟩
    · have ez : (ql64 z).toInt32 = nI z := l64_i32 (by omega)
      rw [if_neg c1, S_there0 _ (by rw [lv_l64 v3]; omega) v2 (by omega), obs, if_neg (show ¬ (1 : Int32) = 0 by decide), bnd_eq, ez, qn_add]
      exact ⟨_, rfl, rfl, Or.inr ⟨a1, z, rfl, by omega, rfl, rfl, rfl⟩⟩
theorem S_narrowF {n cap : Nat} {row : Nat → Int32} {at' to' f : Int32} (hn : 100 < n) (hf : ¬ f = 0) : f_S_narrow n cap at' to' f row = some (to', at', to', f) := by
  unfold f_S_narrow
  rw [S_varintF hn hf, obs, S_thereF _ hf, obs, if_pos rfl]
theorem R_sized {n cap pn e a c : Nat} {I : List UInt8} {row wds : Nat → Int32} {p1 : Nat → Int64} (hn : 100000 < n) (hcap : cap < 100000) (hI : I.length ≤ cap) (he : e ≤ I.length) (ha : a ≤ e) (hc : c ≤ 2000) (hpn : pn = 2000) (h : HC I row) :
    ∃ o, f_R_takeSizedCode n cap 4 pn (nI c) (nI a) (nI e) 0 row wds p1 = some o ∧ o.2.1 = nI e ∧
      ((∃ x, pSized I e a c = .inl x ∧ o.2.2.1 = nI x ∧ ¬ nI x = 0) ∨ (∃ a' f, pSized I e a c = .inr (a', f) ∧ a' ≤ e ∧ o.1 = nI a' ∧ o.2.2.1 = 0 ∧ ∀ j, j < c → o.2.2.2.2 j = f j)) := by
  unfold f_R_takeSizedCode
  obtain ⟨o, p1', p2, p3⟩ := S_narrow (n := n) (cap := cap) (e := e) (a := a) (I := I) (row := row) hn hcap hI he ha h
  rw [p1', obs]
  rcases p3 with ⟨x, y1, y2, y3⟩ | ⟨a1, z, y1, y2, y3, y4, y5⟩
  · have hF : ¬ o.2.2.2 = 0 := by rw [y2]; exact y3
    rw [S_codeF (by omega) hF, obs, R_countF hF, obs]
    refine ⟨_, rfl, p2, Or.inl ⟨x, ?_, y2, y3⟩⟩
    unfold pSized
    cases hp : pVar I e a with
    | inl x2 => rw [hp] at y1; cases y1; rfl
    | inr az =>
      obtain ⟨a1, z⟩ := az
      rw [hp] at y1
      simp only at y1 ⊢
      by_cases c1 : e - a1 < z
      · rw [if_pos c1] at y1 ⊢; cases y1; rfl
      · rw [if_neg c1] at y1; cases y1
  · have hS : pSized I e a c = match pCodeN I (a1 + z) a1 c with
        | .inl x => .inl x
        | .inr f => .inr (a1 + z, f) := by
      unfold pSized
      cases hp : pVar I e a with
      | inl x2 => rw [hp] at y1; cases y1
      | inr az =>
        obtain ⟨a1, z⟩ := az
        rw [hp] at y1
        simp only at y1 ⊢
        by_cases c1 : e - a1 < z
        · rw [if_pos c1] at y1; cases y1
        · rw [if_neg c1] at y1 ⊢; cases y1; rfl
    obtain ⟨oc, t1, t2⟩ := S_code (n := n) (cap := cap) (pn := pn) (e := a1 + z) (a := a1) (I := I) (row := row) (wds := wds) (p1 := p1) hn hcap hI (by omega) (by omega) hpn h
    rw [y3, y4, y5, t1, obs]
    unfold pCodeN at hS
    rcases t2 with ⟨x, t3, t4, t5⟩ | ⟨m, f, t3, t4, t5, t6, t7, t8⟩
    · rw [t3] at hS
      rw [t4, R_countF t5, obs]
      exact ⟨_, rfl, p2, Or.inl ⟨x, hS, rfl, t5⟩⟩
    · rw [t3] at hS
      rw [t5, t7, R_count0 t4 hc, obs]
      simp only at hS
      by_cases cc : m = c
      · rw [if_pos cc] at hS
        rw [if_pos cc]
        exact ⟨_, rfl, p2, Or.inr ⟨a1 + z, f, hS, y2, t6, rfl, fun j hj => t8 j (by omega)⟩⟩
      · rw [if_neg cc] at hS
        rw [if_neg cc]
        exact ⟨_, rfl, p2, Or.inl ⟨4, hS, rfl, by decide⟩⟩
theorem R_sizedF {n cap pn : Nat} {row wds : Nat → Int32} {p1 : Nat → Int64} {at' to' f c : Int32} (hn : 100 < n) (hf : ¬ f = 0) : f_R_takeSizedCode n cap 4 pn c at' to' f row wds p1 = some (at', to', f, wds, p1) := by
  unfold f_R_takeSizedCode
  rw [S_narrowF hn hf, obs, S_codeF hn hf, obs, R_countF hf, obs]
