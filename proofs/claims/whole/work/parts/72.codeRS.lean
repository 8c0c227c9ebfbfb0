def uz (v : Int64) : Int64 := (v.toUInt64 >>> ((1 : Int32).toInt64.toUInt64 &&& Int64.toUInt64 63)).toInt64 ^^^ (-(v &&& (1 : Int64)))
theorem F_unzigzag (v : Int64) : f_F_unzigzag v = some (uz v) := rfl
theorem M_unzigzag (v : Int64) : f_M_unzigzag v = some (uz v) := by
  unfold f_M_unzigzag uz
  have h01 : v &&& 1 = 0 ∨ v &&& 1 = 1 := by
    have h1 : lv (v &&& 1) = lv v % 2 := by rw [lv_and]; exact Nat.and_one_is_mod _
    have : lv (v &&& 1) = 0 ∨ lv (v &&& 1) = 1 := by omega
    rcases this with h | h
    · exact Or.inl (lv_inj h)
    · exact Or.inr (lv_inj h)
  rcases h01 with h | h
  · rw [if_pos h, h]; simp
  · rw [if_neg (by rw [h]; decide), h, Int64_xor_m1]
/-- the numbers of a part -/
def pNum (f : Nat → Int64) (fr un : Nat) (least : Int64) (g : Nat → Nat) : Nat → Nat → Int64
  | 0 => f
  | k + 1 => fun j => if j = fr + k ∧ j < un then pNum f fr un least g k (fr + k - 1) + least + ql64 (g k) else pNum f fr un least g k j
def pPart (I : List UInt8) (e a fr un : Nat) (least : Int64) (w : Nat) (f : Nat → Int64) : Nat ⊕ (Nat × (Nat → Int64)) :=
  if e - a < 2 * w then .inl 1 else if tz (gval I w a) (un - fr) 16 then .inr (a + 2 * w, pNum f fr un least (gval I w a) 16) else .inl 5
def pWid (I : List UInt8) (e a1 fr un : Nat) : Nat → Nat → Nat
  | 0, _ => 0
  | q + 1, p => if e ≤ a1 + p then 1 else if 64 < (I.getD (a1 + p) 0).toNat ∨ (un ≤ fr + 16 * p ∧ 0 < (I.getD (a1 + p) 0).toNat) then 5 else pWid I e a1 fr un q (p + 1)
def pParts (I : List UInt8) (e a1 fr un : Nat) (least : Int64) : Nat → Nat → Nat → (Nat → Int64) → Nat ⊕ (Nat × (Nat → Int64))
  | 0, _, a, f => .inr (a, f)
  | q + 1, p, a, f => if un ≤ fr + 16 * p then .inr (a, f) else
    match pPart I e a (fr + 16 * p) un least (I.getD (a1 + p) 0).toNat f with
    | .inl x => .inl x
    | .inr (a', f') => pParts I e a1 fr un least q (p + 1) a' f'
def pBlock (I : List UInt8) (e a fr un : Nat) (f : Nat → Int64) : Nat ⊕ (Nat × (Nat → Int64)) :=
  match pVar I e a with
  | .inl x => .inl x
  | .inr (a1, z) => if pWid I e a1 fr un 4 0 = 0 then pParts I e a1 fr un (uz (ql64 z)) 4 0 (a1 + 4) f else .inl (pWid I e a1 fr un 4 0)
def pBlks (I : List UInt8) (e m : Nat) : Nat → Nat → Nat → (Nat → Int64) → Nat ⊕ (Nat × (Nat → Int64))
  | 0, _, a, f => .inr (a, f)
  | q + 1, fr, a, f => if m ≤ fr then .inr (a, f) else
    match pBlock I e a fr (min (fr + 64) m) f with
    | .inl x => .inl x
    | .inr (a', f') => pBlks I e m q (fr + 64) a' f'
def pCode1 (I : List UInt8) (e m a : Nat) : Nat ⊕ (Nat × (Nat → Int64)) :=
  if m = 0 then .inr (a, fun _ => 0) else
  match pVar I e a with
  | .inl x => .inl x
  | .inr (a2, z) => pBlks I e m m 1 a2 (fun _ => uz (ql64 z))
def pCode (I : List UInt8) (e a : Nat) : Nat ⊕ (Nat × (Nat → Int64)) :=
  match pVar I e a with
  | .inl x => .inl x
  | .inr (a1, m) => if 2000 < m then .inl 4 else
    match pCode1 I e m a1 with
    | .inl x => .inl x
    | .inr (a', f) => if a' < e then .inl 6 else .inr (m, f)
theorem S_takePart {n cap pn e a fr un w : Nat} {I : List UInt8} {row : Nat → Int32} {p1 f : Nat → Int64} (least : Int64) (hn : 100000 < n) (hc : cap < 100000) (hI : I.length ≤ cap) (he : e ≤ I.length) (ha : a ≤ e) (hw : w ≤ 64) (hfr : 1 ≤ fr) (hfu : fr < un) (hun : un ≤ pn) (hpn : pn ≤ 2000) (hN : ∀ j, j < fr → p1 j = f j) (h : HC I row) :
    ∃ o, f_S_takePart n cap pn (nI a) (nI e) 0 row p1 (nI fr) (nI un) least (nI w) = some o ∧
      ((∃ x, pPart I e a fr un least w f = .inl x ∧ o.2.1 = nI x ∧ ¬ nI x = 0) ∨ (∃ a' f', pPart I e a fr un least w f = .inr (a', f') ∧ a' ≤ e ∧ o.1 = nI a' ∧ o.2.1 = 0 ∧ ∀ j, j < fr + 16 → j < un → o.2.2 j = f' j)) := by
  unfold f_S_takePart pPart
  have e2w : (2 : Int32) * nI w = nI (2 * w) := nI_mul 2 w
  have hlv : lv (nI (2 * w)).toInt64 = 2 * w := lv_nI (by omega)
  rw [e2w]
  by_cases c : e - a < 2 * w
  · rw [if_pos c, S_there1 _ (by rw [hlv]; omega) ha (by omega), obs, if_pos rfl]
    exact ⟨_, rfl, Or.inl ⟨1, rfl, rfl, by decide⟩⟩
  · rw [if_neg c, S_there0 _ (by rw [hlv]; omega) ha (by omega), obs, if_neg (show ¬ (1 : Int32) = 0 by decide)]
    have main : ∃ o, lp (fun u => f_S_takePart_l16 n cap pn (nI a) (nI e) row (nI fr) (nI un) least (nI w) u.1 u.2.1 u.2.2) n ((0 : Int32), p1, (0 : Int32)) = some o ∧ o.1 = (if tz (gval I w a) (un - fr) 16 then 0 else 5) ∧ ∀ j, j < fr + 16 → j < un → o.2.1 j = pNum f fr un least (gval I w a) 16 j := by
      refine lp_inv (fun q u => ∃ i, i + q = 16 ∧ u.2.2 = nI i ∧ u.1 = (if tz (gval I w a) (un - fr) i then 0 else 5) ∧ ∀ j, j < fr + i → j < un → u.2.1 j = pNum f fr un least (gval I w a) i j) _ ?_ 16 n _ ⟨0, by omega, rfl, rfl, fun j hj _ => hN j hj⟩ (by omega)
      rintro q ⟨fa, g, i'⟩ ⟨i, g1, g2, g3, g4⟩
      simp only at g2 g3 g4
      subst g2; subst g3
      show (∃ w', f_S_takePart_l16 n cap pn (nI a) (nI e) row (nI fr) (nI un) least (nI w) _ g (nI i) = _ ∧ _) ∨ (∃ y, f_S_takePart_l16 n cap pn (nI a) (nI e) row (nI fr) (nI un) least (nI w) _ g (nI i) = _ ∧ _)
      unfold f_S_takePart_l16
      have e8a : (8 : Int32) * nI a = nI (8 * a) := nI_mul 8 a
      have e16 : (16 : Int32) = nI 16 := rfl
      rw [e16, ifle (by omega) (by omega)]
      by_cases ci : 16 ≤ i
      · have : i = 16 := by omega
        subst this
        exact Or.inr ⟨_, by rw [if_pos ci], rfl, g4⟩
      · have hwi : w * (i + 1) ≤ w * 16 := Nat.mul_le_mul_left w (by omega)
        have hwi1 : w * (i + 1) = w * i + w := by rw [Nat.mul_add, Nat.mul_one]
        have hgl : gval I w a i < 2 ^ w := bval_lt I (8 * a + w * i) w
        have hp : 2 ^ w ≤ 2 ^ 64 := Nat.pow_le_pow_right (by omega) hw
        have e1 : nI i + 1 = nI (i + 1) := qn_add i 1
        have hbits : f_S_bitsAt n cap (nI e) row (nI (8 * a + w * i)) (nI w) = some (ql64 (gval I w a i)) := S_bitsAt (by omega) hc hI he hw (by omega) h
        rw [if_neg ci, e8a, nI_mul, qn_add, hbits, obs, qn_add, ifle (by omega) (by omega)]
        have hgz : (ql64 (gval I w a i) = 0) ↔ gval I w a i = 0 := by
          have e0 : (0 : Int64) = ql64 0 := rfl
          rw [e0, l64_inj (by omega) (by omega)]
        by_cases cm : un ≤ fr + i
        · rw [if_pos cm]
          have hg4 : ∀ j, j < fr + (i + 1) → j < un → g j = pNum f fr un least (gval I w a) (i + 1) j := by
            intro j h1 h2
            rw [g4 j (by omega) h2]
            show _ = if j = fr + i ∧ j < un then _ else _
            rw [if_neg (by omega)]
          by_cases cz : gval I w a i = 0
          · rw [if_pos (hgz.mpr cz), bnd_eq]
            refine Or.inl ⟨_, rfl, q - 1, by omega, i + 1, by omega, e1, ?_, hg4⟩
            have ht : tz (gval I w a) (un - fr) (i + 1) = tz (gval I w a) (un - fr) i := by
              show (tz (gval I w a) (un - fr) i && decide (i < un - fr ∨ gval I w a i = 0)) = _
              rw [decide_eq_true (show i < un - fr ∨ gval I w a i = 0 from Or.inr cz), Bool.and_true]
            show (if tz (gval I w a) (un - fr) i = true then (0 : Int32) else 5) = _
            rw [ht]
          · rw [if_neg (fun q => cz (hgz.mp q))]
            have hf : f_S_fail (if tz (gval I w a) (un - fr) i = true then 0 else 5) 5 = some 5 := by split <;> rfl
            rw [hf, obs, bnd_eq]
            refine Or.inl ⟨_, rfl, q - 1, by omega, i + 1, by omega, e1, ?_, hg4⟩
            have ht : tz (gval I w a) (un - fr) (i + 1) = false := by
              show (tz (gval I w a) (un - fr) i && decide (i < un - fr ∨ gval I w a i = 0)) = _
              rw [decide_eq_false (show ¬ (i < un - fr ∨ gval I w a i = 0) by omega), Bool.and_false]
            show (5 : Int32) = _
            rw [ht]; rfl
        · have em1 : nI (fr + i) - 1 = nI (fr + i - 1) := nI_sub (show 1 ≤ fr + i by omega)
          rw [if_neg cm, em1, gd_nI (by omega) (by omega), bnd_eq, gd_nI (by omega) (by omega), bnd_eq, qn_clamp (by omega), qn_clamp (by omega)]
          refine Or.inl ⟨_, rfl, q - 1, by omega, i + 1, by omega, e1, ?_, ?_⟩
          · have ht : tz (gval I w a) (un - fr) (i + 1) = tz (gval I w a) (un - fr) i := by
              show (tz (gval I w a) (un - fr) i && decide (i < un - fr ∨ gval I w a i = 0)) = _
              rw [decide_eq_true (show i < un - fr ∨ gval I w a i = 0 by omega), Bool.and_true]
            show (if tz (gval I w a) (un - fr) i = true then (0 : Int32) else 5) = _
            rw [ht]
          · intro j h1 h2
            show vp_updL g (fr + i) (g (fr + i - 1) + least + ql64 (gval I w a i)) j = if j = fr + i ∧ j < un then _ else _
            unfold vp_updL
            by_cases ej : j = fr + i
            · rw [if_pos ej, if_pos ⟨ej, h2⟩, g4 (fr + i - 1) (by omega) (by omega)]
            · rw [if_neg ej, if_neg (fun q => ej q.1), g4 j (by omega) h2]
    obtain ⟨o, h1, h2, h3⟩ := main
    rw [h1, obs]
    unfold f_S_takePart_j93
    rw [bnd_eq, e2w, qn_add, h2]
    by_cases ct : tz (gval I w a) (un - fr) 16 = true
    · rw [if_pos ct, if_pos ct]
      exact ⟨_, rfl, Or.inr ⟨_, _, rfl, by omega, rfl, rfl, h3⟩⟩
    · rw [if_neg ct, if_neg ct]
      exact ⟨_, rfl, Or.inl ⟨5, rfl, rfl, by decide⟩⟩
theorem pWid_05 (I : List UInt8) (e a1 fr un : Nat) : ∀ q p, pWid I e a1 fr un q p = 0 ∨ pWid I e a1 fr un q p = 1 ∨ pWid I e a1 fr un q p = 5 := by
  intro q
  induction q with
  | zero => intro p; exact Or.inl rfl
  | succ q ih =>
    intro p
    simp only [pWid]
    split
    · exact Or.inr (Or.inl rfl)
    · split
      · exact Or.inr (Or.inr rfl)
      · exact ih _
theorem S_j45 {p B : Nat} {at' f : Int32} {wd' : Nat → Int32} (k0 : Int32) (hp : p < 4) (hB : B < 256) (hw : wd' p = nI B) : f_S_takeBlock_j45 4 at' f wd' (nI p) k0 = some (Sum.inl (at', (if 64 < B ∨ (¬ k0 = 0 ∧ 0 < B) then (if f = 0 then 5 else f) else f), wd', nI (p + 1))) := by
  unfold f_S_takeBlock_j45 f_S_takeBlock_j74
  have h64 : (64 : Int32) = nI 64 := rfl
  have e1 : nI p + 1 = nI (p + 1) := qn_add p 1
  have hle0 : (nI B ≤ 0) ↔ ¬ 0 < B := by
    rw [QI0, qn_le (by omega) (by omega)]; omega
  have fe : f_S_fail f 5 = some (if f = 0 then 5 else f) := by unfold f_S_fail; split <;> rfl
  simp only [gd_nI (show p < 2147483648 by omega) hp, qn_clamp (show p < 2147483648 by omega), hw, h64, e1, fe, obs, bnd_eq]
  rw [ifl (by omega) (by omega), qifc hle0]
  by_cases c1 : 64 < B
  · rw [if_pos c1, if_pos (Or.inl c1)]
  · rw [if_neg c1]
    by_cases c2 : k0 = 0
    · rw [if_pos c2, if_neg (fun h => by rcases h with h | h; exact c1 h; exact h.1 c2)]
    · rw [if_neg c2]
      by_cases c3 : 0 < B
      · rw [if_neg (fun h => h c3), if_pos (Or.inr ⟨c2, c3⟩)]
      · rw [if_pos c3, if_neg (fun h => by rcases h with h | h; exact c1 h; exact c3 h.2)]
theorem S_widths {n cap e a1 fr un : Nat} {I : List UInt8} {row wds : Nat → Int32} (hn : 100000 < n) (hc : cap < 100000) (hI : I.length ≤ cap) (he : e ≤ I.length) (ha : a1 ≤ e) (hun : un ≤ 2000) (hfr : fr ≤ 2000) (h : HC I row) :
    ∃ o, lp (fun v => f_S_takeBlock_l12 cap 4 (nI e) row (nI fr) (nI un) v.1 v.2.1 v.2.2.1 v.2.2.2) n (nI a1, (0 : Int32), wds, (0 : Int32)) = some o ∧
      o.2.1 = nI (pWid I e a1 fr un 4 0) ∧ (pWid I e a1 fr un 4 0 = 0 → o.1 = nI (a1 + 4) ∧ a1 + 4 ≤ e ∧ ∀ j, j < 4 → o.2.2.1 j = nI (I.getD (a1 + j) 0).toNat ∧ (I.getD (a1 + j) 0).toNat ≤ 64) := by
  refine lp_inv (fun q u => ∃ p, p + q = 4 ∧ u.2.2.2 = nI p ∧ ((u.1 = nI (a1 + p) ∧ u.2.1 = 0 ∧ a1 + p ≤ e ∧ pWid I e a1 fr un (4 - p) p = pWid I e a1 fr un 4 0 ∧ ∀ j, j < p → u.2.2.1 j = nI (I.getD (a1 + j) 0).toNat ∧ (I.getD (a1 + j) 0).toNat ≤ 64) ∨ (u.2.1 = nI (pWid I e a1 fr un 4 0) ∧ pWid I e a1 fr un 4 0 ≠ 0))) _ ?_ 4 n _ ⟨0, by omega, rfl, Or.inl ⟨rfl, rfl, by omega, rfl, fun j hj => absurd hj (by omega)⟩⟩ (by omega)
  rintro q ⟨at', fa, wd', p'⟩ ⟨p, g1, g2, g3⟩
  simp only at g2 g3
  subst g2
  show (∃ w', f_S_takeBlock_l12 cap 4 (nI e) row (nI fr) (nI un) at' fa wd' (nI p) = _ ∧ _) ∨ (∃ y, f_S_takeBlock_l12 cap 4 (nI e) row (nI fr) (nI un) at' fa wd' (nI p) = _ ∧ _)
  unfold f_S_takeBlock_l12
  have e4 : (4 : Int32) = nI 4 := rfl
  have e16p : (16 : Int32) * nI p = nI (16 * p) := nI_mul 16 p
  have e1 : nI p + 1 = nI (p + 1) := qn_add p 1
  rw [e4, ifle (by omega) (by omega)]
  by_cases c4 : 4 ≤ p
  · have hp4 : p = 4 := by omega
    rw [if_pos c4]
    refine Or.inr ⟨_, rfl, ?_⟩
    rcases g3 with ⟨k1, k2, k3, k4, k5⟩ | ⟨k1, k2⟩
    · subst hp4
      have k6 : pWid I e a1 fr un 4 0 = 0 := k4.symm
      refine ⟨by rw [k6]; exact k2, fun _ => ⟨k1, k3, k5⟩⟩
    · exact ⟨k1, fun hz => absurd hz k2⟩
  · rw [if_neg c4]
    rcases g3 with ⟨k1, k2, k3, k4, k5⟩ | ⟨k1, k2⟩
    · subst k1; subst k2
      have hun' : pWid I e a1 fr un (4 - p) p = if e ≤ a1 + p then 1 else if 64 < (I.getD (a1 + p) 0).toNat ∨ (un ≤ fr + 16 * p ∧ 0 < (I.getD (a1 + p) 0).toNat) then 5 else pWid I e a1 fr un (4 - (p + 1)) (p + 1) := by
        rw [show 4 - p = (4 - (p + 1)) + 1 by omega]; rfl
      rw [hun'] at k4
      by_cases ce : a1 + p < e
      · rw [if_neg (by omega)] at k4
        have hB := u8_lt (I.getD (a1 + p) 0)
        rw [S_octet0 hc hI he ce h, obs, gd_nI (by omega) (by omega), e16p, qn_add, ifl (by omega) (by omega), qn_clamp (by omega)]
        have hw : upd wd' p (nI (I.getD (a1 + p) 0).toNat) p = nI (I.getD (a1 + p) 0).toNat := by unfold upd; rw [if_pos rfl]
        rw [S_j45 0 (by omega) hB hw, S_j45 1 (by omega) hB hw]
        have hsel : (if fr + 16 * p < un then (some (Sum.inl (nI (a1 + p + 1), (if 64 < (I.getD (a1 + p) 0).toNat ∨ (¬ (0 : Int32) = 0 ∧ 0 < (I.getD (a1 + p) 0).toNat) then (if (0 : Int32) = 0 then (5 : Int32) else 0) else 0), upd wd' p (nI (I.getD (a1 + p) 0).toNat), nI (p + 1))) : Option ((Int32 × Int32 × (Nat → Int32) × Int32) ⊕ ((Int32 × Int32 × (Nat → Int32) × Int32)))) else some (Sum.inl (nI (a1 + p + 1), (if 64 < (I.getD (a1 + p) 0).toNat ∨ (¬ (1 : Int32) = 0 ∧ 0 < (I.getD (a1 + p) 0).toNat) then (if (0 : Int32) = 0 then (5 : Int32) else 0) else 0), upd wd' p (nI (I.getD (a1 + p) 0).toNat), nI (p + 1)))) = some (Sum.inl (nI (a1 + p + 1), (if 64 < (I.getD (a1 + p) 0).toNat ∨ (un ≤ fr + 16 * p ∧ 0 < (I.getD (a1 + p) 0).toNat) then (5 : Int32) else 0), upd wd' p (nI (I.getD (a1 + p) 0).toNat), nI (p + 1))) := by
          rw [if_pos rfl]
          have n10 : ¬ (1 : Int32) = 0 := by decide
          by_cases cu : fr + 16 * p < un
          · rw [if_pos cu, qifc (show (64 < (I.getD (a1 + p) 0).toNat ∨ (¬ (0 : Int32) = 0 ∧ 0 < (I.getD (a1 + p) 0).toNat)) ↔ (64 < (I.getD (a1 + p) 0).toNat ∨ (un ≤ fr + 16 * p ∧ 0 < (I.getD (a1 + p) 0).toNat)) from ⟨fun h => by rcases h with h | h; exact Or.inl h; exact absurd rfl h.1, fun h => by rcases h with h | h; exact Or.inl h; exact absurd h.1 (by omega)⟩)]
          · rw [if_neg cu, qifc (show (64 < (I.getD (a1 + p) 0).toNat ∨ (¬ (1 : Int32) = 0 ∧ 0 < (I.getD (a1 + p) 0).toNat)) ↔ (64 < (I.getD (a1 + p) 0).toNat ∨ (un ≤ fr + 16 * p ∧ 0 < (I.getD (a1 + p) 0).toNat)) from ⟨fun h => by rcases h with h | h; exact Or.inl h; exact Or.inr ⟨by omega, h.2⟩, fun h => by rcases h with h | h; exact Or.inl h; exact Or.inr ⟨n10, h.2⟩⟩)]
        rw [hsel]
        by_cases bad : 64 < (I.getD (a1 + p) 0).toNat ∨ (un ≤ fr + 16 * p ∧ 0 < (I.getD (a1 + p) 0).toNat)
        · rw [if_pos bad] at k4
          rw [if_pos bad]
          exact Or.inl ⟨_, rfl, q - 1, by omega, p + 1, by omega, rfl, Or.inr ⟨by rw [← k4]; rfl, by rw [← k4]; omega⟩⟩
        · rw [if_neg bad] at k4
          have hc64 : ¬ 64 < (I.getD (a1 + p) 0).toNat := fun hq => bad (Or.inl hq)
          rw [if_neg bad]
          refine Or.inl ⟨_, rfl, q - 1, by omega, p + 1, by omega, rfl, Or.inl ⟨rfl, rfl, by omega, k4, ?_⟩⟩
          intro j hj
          show upd wd' p (nI (I.getD (a1 + p) 0).toNat) j = _ ∧ _
          unfold upd
          by_cases ej : j = p
          · subst ej; rw [if_pos rfl]; exact ⟨rfl, by omega⟩
          · rw [if_neg ej]; exact k5 j (by omega)
      · rw [if_pos (by omega)] at k4
        have hw : upd wd' p 0 p = nI 0 := by unfold upd; rw [if_pos rfl]; rfl
        rw [S_octet1 (by omega) (by omega), obs, gd_nI (by omega) (by omega), e16p, qn_add, ifl (by omega) (by omega), qn_clamp (by omega), S_j45 0 (by omega) (by omega) hw, S_j45 1 (by omega) (by omega) hw, if_neg (show ¬ (64 < 0 ∨ (¬ (0 : Int32) = 0 ∧ 0 < 0)) by omega), if_neg (show ¬ (64 < 0 ∨ (¬ (1 : Int32) = 0 ∧ 0 < 0)) by omega), ite_self]
        exact Or.inl ⟨_, rfl, q - 1, by omega, p + 1, by omega, rfl, Or.inr ⟨by rw [← k4]; rfl, by rw [← k4]; omega⟩⟩
    · have hf : ¬ fa = 0 := by
        rw [k1]; exact nIf k2 (by have := pWid_05 I e a1 fr un 4 0; omega)
      have hw : upd wd' p 0 p = nI 0 := by unfold upd; rw [if_pos rfl]; rfl
      rw [S_octetF hf, obs, gd_nI (by omega) (by omega), e16p, qn_add, ifl (by omega) (by omega), qn_clamp (by omega), S_j45 0 (by omega) (by omega) hw, S_j45 1 (by omega) (by omega) hw, if_neg (show ¬ (64 < 0 ∨ (¬ (0 : Int32) = 0 ∧ 0 < 0)) by omega), if_neg (show ¬ (64 < 0 ∨ (¬ (1 : Int32) = 0 ∧ 0 < 0)) by omega), ite_self]
      exact Or.inl ⟨_, rfl, q - 1, by omega, p + 1, by omega, rfl, Or.inr ⟨k1, k2⟩⟩
