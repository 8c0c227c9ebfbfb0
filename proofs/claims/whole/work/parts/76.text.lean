/-- texts, read one behind the other -/
def TxI (c : Nat) (S : Nat → Nat) (K : Nat) : Prop := S 0 = 0 ∧ (∀ i, i < c → S i ≤ S (i + 1) ∧ S (i + 1) ≤ S i + 255) ∧ S c ≤ K
def tS (S : Nat → Nat) (c len : Nat) : Nat → Nat := fun i => if i ≤ c then S i else S c + len
def tT (I : List UInt8) (S : Nat → Nat) (T : Nat → UInt8) (c a bf : Nat) : Nat → UInt8 := fun j => if j < S c then T j else if j < S c + bf then T (S (c - 1) + (j - S c)) else I.getD (a + (j - S c - bf)) 0
def qlast (S : Nat → Nat) (c : Nat) : Nat := if c = 0 then 0 else S c - S (c - 1)
def pTake (I : List UInt8) (e K a c : Nat) (S : Nat → Nat) (T : Nat → UInt8) (bf mo : Nat) : Nat ⊕ (Nat × (Nat → Nat) × (Nat → UInt8)) :=
  if e - a < mo then .inl 1 else if K < S c + bf + mo then .inl 7 else .inr (a + mo, tS S c (bf + mo), tT I S T c a bf)
def pText (I : List UInt8) (e K a c : Nat) (S : Nat → Nat) (T : Nat → UInt8) (cm mo : Nat) : Nat ⊕ (Nat × (Nat → Nat) × (Nat → UInt8)) :=
  if cm ≤ qlast S c ∧ cm + mo ≤ 255 then pTake I e K a c S T cm mo else .inl 7
def pTxt (I : List UInt8) (e K : Nat) (st : Nat → Nat → Nat ⊕ (Nat × Nat × Nat)) : Nat → Nat → Nat → (Nat → Nat) → (Nat → UInt8) → Nat ⊕ (Nat × (Nat → Nat) × (Nat → UInt8))
  | 0, _, a, S, T => .inr (a, S, T)
  | q + 1, i, a, S, T =>
    match st i a with
    | .inl x => .inl x
    | .inr (a1, cm, mo) =>
      match pText I e K a1 i S T cm mo with
      | .inl x => .inl x
      | .inr (a', S', T') => pTxt I e K st q (i + 1) a' S' T'
def stPlain (I : List UInt8) (e : Nat) : Nat → Nat → Nat ⊕ (Nat × Nat × Nat) := fun _ a =>
  match pVar I e a with
  | .inl x => .inl x
  | .inr (a1, v) => .inr (a1, 0, v)
def stCode (cm mo : Nat → Nat) : Nat → Nat → Nat ⊕ (Nat × Nat × Nat) := fun i a => .inr (a, cm i, mo i)
theorem TxI_step {c : Nat} {S : Nat → Nat} {K len : Nat} (h : TxI c S K) (hl : len ≤ 255) (hK : S c + len ≤ K) : TxI (c + 1) (tS S c len) K := by
  obtain ⟨h1, h2, h3⟩ := h
  refine ⟨?_, ?_, ?_⟩
  · show (if 0 ≤ c then S 0 else _) = 0
    rw [if_pos (by omega), h1]
  · intro i hi
    unfold tS
    by_cases e : i = c
    · subst e
      rw [if_pos (Nat.le_refl _), if_neg (by omega)]; omega
    · rw [if_pos (by omega), if_pos (by omega)]
      exact h2 i (by omega)
  · unfold tS
    rw [if_neg (by omega)]; omega
theorem qlast_le {c : Nat} {S : Nat → Nat} {K : Nat} (h : TxI c S K) : qlast S c ≤ 255 ∧ qlast S c ≤ S c := by
  unfold qlast
  by_cases c0 : c = 0
  · rw [if_pos c0]; omega
  · rw [if_neg c0]
    have := h.2.1 (c - 1) (by omega)
    rw [show c - 1 + 1 = c by omega] at this
    omega
theorem pTake_I {I : List UInt8} {e K a c : Nat} {S S' : Nat → Nat} {T T' : Nat → UInt8} {bf mo a' : Nat} (h : TxI c S K) (hl : bf + mo ≤ 255) (hp : pTake I e K a c S T bf mo = .inr (a', S', T')) : TxI (c + 1) S' K := by
  unfold pTake at hp
  split at hp
  · cases hp
  · split at hp
    · cases hp
    · cases hp
      exact TxI_step h hl (by omega)
theorem V_addText0 {c nm sn tn pn m a k : Nat} {S : Nat → Nat} {starts texts p2 : Nat → Int32}
    (hst : ∀ i, i ≤ c → starts i = nI (S i)) (hS : ∀ i, i < c → S i ≤ S (i + 1)) (hSt : S c ≤ tn) (hnm : c < nm) (hsn : nm < sn) (hsn2 : sn < 2147483648) (htn : tn < 1000000) (hpn : pn < 1000000)
    (hm : m ≤ qlast S c) (hm2 : m < 1000) (hk : k < 1000) (hfit : tn < S c + m + k) (ha : a + k ≤ pn) :
    f_V_addText nm sn tn pn (nI c) starts texts p2 (nI m) (nI a) (nI k) = some (0, nI c, starts, texts) := by
  unfold f_V_addText
  unfold qlast at hm
  have hlast : (if c = 0 then 0 else S c - S (c - 1)) ≤ S c := by split <;> omega
  rw [qif0 (by omega), V_lastSize (by omega) hsn2 hst hS, obs, ifl (by omega) (by omega), if_neg (show ¬ (if c = 0 then 0 else S c - S (c - 1)) < m by omega), qif0 (by omega), qif0 (by omega), show nI pn - nI a = nI (pn - a) from nI_sub (by omega), ifle (by omega) (by omega), if_pos (show k ≤ pn - a by omega), gd_nI (by omega) (by omega), qn_clamp (by omega), hst c (by omega), bnd_eq, ifle (by omega) (by omega), if_neg (show ¬ nm ≤ c by omega), qn_add, show nI tn - nI (S c) = nI (tn - S c) from nI_sub (by omega), ifle (by omega) (by omega), if_neg (show ¬ m + k ≤ tn - S c by omega)]
theorem R_takeText {cap nm sn tn e a c cm mo : Nat} {I : List UInt8} {row : Nat → Int32} {num : Nat → Int64} {S : Nat → Nat} {T : Nat → UInt8} {ofTexts count : Int32} {numbers : Nat → Int64} {starts texts : Nat → Int32}
    (hc : cap < 100000) (hI : I.length ≤ cap) (he : e ≤ I.length) (ha : a ≤ e) (hnm : c < nm) (hsn : nm < sn) (hsn2 : sn < 10000) (htn : tn ≤ 20000) (hcm : cm < 18446744073709551616) (hmo : mo < 18446744073709551616)
    (hC : VsC 3 c num S T ofTexts count numbers starts texts) (hS : TxI c S tn) (h : HC I row) :
    ∃ o, f_R_takeText cap nm sn tn (nI a) (nI e) 0 row count starts texts (ql64 cm) (ql64 mo) = some o ∧ o.2.2.2.1 0 = nI 0 ∧ (∃ k', k' ≤ c + 1 ∧ o.2.2.1 = nI k') ∧
      ((∃ x, pText I e tn a c S T cm mo = .inl x ∧ o.2.1 = nI x ∧ ¬ nI x = 0) ∨ (∃ a' S' T', pText I e tn a c S T cm mo = .inr (a', S', T') ∧ a' ≤ e ∧ o.1 = nI a' ∧ o.2.1 = 0 ∧ TxI (c + 1) S' tn ∧ VsC 3 (c + 1) num S' T' ofTexts o.2.2.1 numbers o.2.2.2.1 o.2.2.2.2)) := by
  have hC' := hC
  obtain ⟨e4, e5, e6, e7, e8⟩ := hC
  obtain ⟨e9, e10⟩ := e8 rfl
  obtain ⟨s1, s2, s3⟩ := hS
  have hl := qlast_le ⟨s1, s2, s3⟩
  have hlast : f_V_lastSize sn count starts = some (nI (qlast S c)) := by rw [e5]; exact V_lastSize (by omega) (by omega) e9 (fun i hi => (s2 i hi).1)
  have n10 : ¬ (1 : Int32) = 0 := by decide
  have h38 : f_R_takeText_j38 cap nm sn tn (nI a) (nI e) 0 row count starts texts (ql64 cm) (ql64 mo) = some (nI a, 7, count, starts, texts) := by
    unfold f_R_takeText_j38 f_R_takeText_j39
    rw [if_pos rfl, S_fail0, obs]
  have hneg : ∀ {v : Nat}, v < 18446744073709551616 → ((ql64 v < 0) ↔ 9223372036854775808 ≤ v) := fun {v} hv => by rw [lv_neg, lv_l64 hv]
  unfold f_R_takeText pText
  rw [h38, qifc (hneg hcm), hlast, obs, qifc (hneg hmo)]
  by_cases good : cm ≤ qlast S c ∧ cm + mo ≤ 255
  · have e255 : (255 : Int64) - ql64 cm = ql64 (255 - cm) := by
      have h1 : (255 : Int64) = ql64 (255 - cm) + ql64 cm := by rw [ql64_add, show 255 - cm + cm = 255 by omega]; rfl
      rw [h1]; simp
    rw [if_pos good, if_neg (show ¬ 9223372036854775808 ≤ cm by omega), lI64 (by omega), qifc (show (ql64 (qlast S c) < ql64 cm) ↔ qlast S c < cm from by rw [ql64_lt (by omega) (by omega)]), if_neg (show ¬ qlast S c < cm by omega), if_neg (show ¬ 9223372036854775808 ≤ mo by omega), e255, qifc (show (ql64 (255 - cm) < ql64 mo) ↔ 255 - cm < mo from by rw [ql64_lt (by omega) (by omega)]), if_neg (show ¬ 255 - cm < mo by omega)]
    unfold f_R_takeText_j39 pTake
    rw [if_neg n10]
    by_cases c1 : e - a < mo
    · rw [if_pos c1, S_there1 _ (by rw [lv_l64 hmo]; omega) ha (by omega), obs, if_pos rfl]
      exact ⟨_, rfl, e7, ⟨c, by omega, e5⟩, Or.inl ⟨1, rfl, rfl, by decide⟩⟩
    · have ecm : (ql64 cm).toInt32 = nI cm := l64_i32 (by omega)
      have emo : (ql64 mo).toInt32 = nI mo := l64_i32 (by omega)
      rw [if_neg c1, S_there0 _ (by rw [lv_l64 hmo]; omega) ha (by omega), obs, if_neg n10, ecm, emo]
      unfold f_R_takeText_j104
      by_cases c7 : tn < S c + cm + mo
      · have hadd := V_addText0 (c := c) (nm := nm) (sn := sn) (tn := tn) (pn := cap) (m := cm) (a := a) (k := mo) (S := S) (starts := starts) (texts := texts) (p2 := row) e9 (fun i hi => (s2 i hi).1) s3 hnm hsn (by omega) (by omega) (by omega) good.1 (by omega) (by omega) c7 (by omega)
        rw [if_pos c7, e5, hadd, obs, if_pos rfl, S_fail0, obs, bnd_eq]
        exact ⟨_, rfl, e7, ⟨c, by omega, rfl⟩, Or.inl ⟨7, rfl, rfl, by decide⟩⟩
      · obtain ⟨oa, x1, x2, x3⟩ := V_addText (t := 3) (c := c) (nm := nm) (sn := sn) (tn := tn) (pn := cap) (m := cm) (a := a) (k := mo) (num := num) (S := S) (S' := tS S c (cm + mo)) (T := T) (T' := tT I S T c a cm) (ofTexts := ofTexts) (count := count) (numbers := numbers) (starts := starts) (texts := texts) (p2 := row)
          rfl hC' (fun i hi => (s2 i hi).1) hnm hsn (by omega) (by omega) (by omega) good.1 (by omega) (by omega)
          (fun i hi => by unfold tS; rw [if_pos hi]) (fun j hj => by unfold tT; rw [if_pos hj]) (by unfold tS; rw [if_neg (by omega)]; omega)
          (fun i hi => by unfold tT; rw [if_neg (by omega), if_pos (by omega), show S c + i - S c = i by omega])
          (fun i hi => by
            unfold tT
            rw [if_neg (by omega), if_neg (by omega), show a + (S c + cm + i - S c - cm) = a + i by omega, h (a + i) (by omega), List.getD_eq_getElem?_getD, List.getElem?_eq_getElem (show a + i < I.length by omega)]; rfl)
        rw [if_neg c7, x1, obs, x2, if_neg n10, bnd_eq, emo, qn_add]
        refine ⟨_, rfl, x3.2.2.2.1, ⟨c + 1, by omega, x3.2.1⟩, Or.inr ⟨_, _, _, rfl, by omega, rfl, rfl, TxI_step ⟨s1, s2, s3⟩ good.2 (by omega), x3⟩⟩
  · rw [if_neg good]
    have hsel : (if 9223372036854775808 ≤ cm then some (nI a, (7 : Int32), count, starts, texts) else if (nI (qlast S c)).toInt64 < ql64 cm then some (nI a, (7 : Int32), count, starts, texts) else if 9223372036854775808 ≤ mo then some (nI a, (7 : Int32), count, starts, texts) else if (255 : Int64) - ql64 cm < ql64 mo then some (nI a, (7 : Int32), count, starts, texts) else f_R_takeText_j39 cap nm sn tn (nI a) (nI e) 0 row count starts texts (ql64 cm) (ql64 mo) 1) = some (nI a, (7 : Int32), count, starts, texts) := by
      by_cases k1 : 9223372036854775808 ≤ cm
      · rw [if_pos k1]
      · rw [if_neg k1, lI64 (by omega), qifc (show (ql64 (qlast S c) < ql64 cm) ↔ qlast S c < cm from by rw [ql64_lt (by omega) (by omega)])]
        by_cases k2 : qlast S c < cm
        · rw [if_pos k2]
        · rw [if_neg k2]
          by_cases k3 : 9223372036854775808 ≤ mo
          · rw [if_pos k3]
          · have e255 : (255 : Int64) - ql64 cm = ql64 (255 - cm) := by
              have h1 : (255 : Int64) = ql64 (255 - cm) + ql64 cm := by rw [ql64_add, show 255 - cm + cm = 255 by omega]; rfl
              rw [h1]; simp
            rw [if_neg k3, e255, qifc (show (ql64 (255 - cm) < ql64 mo) ↔ 255 - cm < mo from by rw [ql64_lt (by omega) (by omega)]), if_pos (show 255 - cm < mo by omega)]
    rw [hsel]
    exact ⟨_, rfl, e7, ⟨c, by omega, e5⟩, Or.inl ⟨7, rfl, rfl, by decide⟩⟩
theorem R_takeTextF {cap nm sn tn c : Nat} {row : Nat → Int32} {num : Nat → Int64} {S : Nat → Nat} {T : Nat → UInt8} {ofTexts count : Int32} {numbers : Nat → Int64} {starts texts : Nat → Int32} {at' to' f : Int32}
    (hf : ¬ f = 0) (hnm : c < nm) (hsn : nm < sn) (hsn2 : sn < 10000) (hC : VsC 3 c num S T ofTexts count numbers starts texts) (hS : TxI c S tn) :
    f_R_takeText cap nm sn tn at' to' f row count starts texts 0 0 = some (at', f, count, starts, texts) := by
  obtain ⟨e4, e5, e6, e7, e8⟩ := hC
  obtain ⟨e9, e10⟩ := e8 rfl
  have hlast : f_V_lastSize sn count starts = some (nI (qlast S c)) := by rw [e5]; exact V_lastSize (by omega) (by omega) e9 (fun i hi => (hS.2.1 i hi).1)
  have hl := qlast_le hS
  unfold f_R_takeText f_R_takeText_j38 f_R_takeText_j39
  have z : ql64 0 = 0 := rfl
  rw [hlast, obs, lI64 (by omega), S_failF _ hf, obs, S_thereF _ hf, obs, if_neg (show ¬ (1 : Int32) = 0 by decide), if_pos rfl, if_pos rfl, ite_self, ite_self, ite_self, ite_self]
