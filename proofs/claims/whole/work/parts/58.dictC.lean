theorem bnd_eq {α β : Type} {a : α} {f : α → Option β} : bnd a f = f a := rfl
theorem nI_inj' {a b : Nat} (ha : a < 2147483648) (hb : b < 2147483648 := by decide) : (nI a ≠ nI b) = (a ≠ b) := by
  rw [Ne, nI_inj ha hb]
theorem nI_and2047 (x : Int32) : ∃ i, i < 2048 ∧ x &&& 2047 = nI i := by
  refine ⟨x.toBitVec.toNat % 2048, by omega, ?_⟩
  apply Int32.toBitVec_inj.mp
  apply BitVec.eq_of_toNat_eq
  have e : (2047 : Int32).toBitVec.toNat = 2 ^ 11 - 1 := rfl
  rw [Int32.toBitVec_and, BitVec.toNat_and, e, Nat.and_two_pow_sub_one_eq_mod]
  show _ = (BitVec.ofNat 32 (x.toBitVec.toNat % 2048)).toNat
  rw [BitVec.toNat_ofNat]
  omega
theorem nI_and2047' (a : Nat) (h : a < 2147483648) : nI a &&& 2047 = nI (a % 2048) := by
  apply Int32.toBitVec_inj.mp
  apply BitVec.eq_of_toNat_eq
  have e : (2047 : Int32).toBitVec.toNat = 2 ^ 11 - 1 := rfl
  rw [Int32.toBitVec_and, BitVec.toNat_and, e, Nat.and_two_pow_sub_one_eq_mod]
  show (BitVec.ofNat 32 a).toNat % 2 ^ 11 = (BitVec.ofNat 32 (a % 2048)).toNat
  rw [BitVec.toNat_ofNat, BitVec.toNat_ofNat]
  omega
def hFin (v : Int32) : Int32 := ((v * (-1640531535 : Int32)).toUInt32 >>> ((21 : Int32).toUInt32 &&& Int32.toUInt32 31)).toInt32 &&& (2047 : Int32)
def hTx (K : List Nat) : Int32 := K.foldl (fun h b => (31 : Int32) * h + qsb (UInt8.ofNat b)) 0
def hNm (v : Int64) : Int32 := (v ^^^ (v.toUInt64 >>> ((32 : Int32).toInt64.toUInt64 &&& Int64.toUInt64 63)).toInt64).toInt32
def hsh (t : Nat) (K : List Nat) : Nat := (hFin (if t = 3 then hTx K else hNm (ql64 (K.headD 0)))).toNatClampNeg
theorem hFin_nI (v : Int32) : hFin v = nI (hFin v).toNatClampNeg ∧ (hFin v).toNatClampNeg < 2048 := by
  obtain ⟨i, h1, h2⟩ := nI_and2047 (((v * (-1640531535 : Int32)).toUInt32 >>> ((21 : Int32).toUInt32 &&& Int32.toUInt32 31)).toInt32)
  unfold hFin
  rw [h2, qn_clamp (by omega)]
  exact ⟨rfl, h1⟩
theorem hsh_lt (t : Nat) (K : List Nat) : hsh t K < 2048 := (hFin_nI _).2
theorem V_slotOf {n t c : Nat} {num : Nat → Int64} {S : Nat → Nat} {T : Nat → UInt8} {ofTexts count : Int32} {numbers : Nat → Int64} {starts texts : Nat → Int32} {nm m tn i : Nat}
    (hn : 100000 < n) (hi : i < c) (hcm : c < m) (hm : m < 1000000) (hnm : c ≤ nm)
    (hS : t = 3 → (∀ i, i < c → S i ≤ S (i + 1)) ∧ S c ≤ tn ∧ tn ≤ 20000)
    (hC : VsC t c num S T ofTexts count numbers starts texts) :
    f_V_slotOf n nm m tn ofTexts numbers starts texts (nI i) = some (nI (hsh t (ky t num S T i))) := by
  unfold f_V_slotOf
  rw [hC.1, ife0 (by split <;> omega)]
  by_cases c3 : t = 3
  · obtain ⟨s1, s2, s3⟩ := hS c3
    have b1 := S_mono s1 (i := i + 1) (j := c) (by omega) (by omega)
    have b3 := s1 i hi
    obtain ⟨e4, e5, e6, e7, e8⟩ := hC
    have ei : nI i + 1 = nI (i + 1) := qn_add i 1
    rw [if_neg (by rw [if_pos c3]; omega), gd_nI (by omega) (by omega)]
    simp only [bnd]
    rw [qn_clamp (by omega), (e8 c3).1 i (by omega)]
    have main : ∃ o, lp (fun v => f_V_slotOf_l16 m tn starts texts (nI i) v.1 v.2) n ((0 : Int32), nI (S i)) = some o ∧ o.1 = hTx (ky t num S T i) := by
      have hky : ky t num S T i = (List.range (S (i + 1) - S i)).map (fun k => (T (S i + k)).toNat) := by unfold ky; rw [if_pos c3]
      refine lp_inv (fun q u => ∃ k, k + q = S (i + 1) - S i ∧ u.2 = nI (S i + k) ∧ u.1 = hTx ((List.range k).map (fun k => (T (S i + k)).toNat))) _ ?_ (S (i + 1) - S i) n _ ⟨0, by omega, rfl, rfl⟩ (by omega)
      rintro q ⟨h, k'⟩ ⟨k, g1, g2, g3⟩
      simp only at g2 g3
      subst g2; subst g3
      show (∃ w', f_V_slotOf_l16 m tn starts texts (nI i) (hTx _) (nI (S i + k)) = _ ∧ _) ∨ (∃ y, f_V_slotOf_l16 m tn starts texts (nI i) (hTx _) (nI (S i + k)) = _ ∧ _)
      unfold f_V_slotOf_l16
      rw [ei, gd_nI (by omega) (by omega), qn_clamp (by omega), (e8 c3).1 (i + 1) (by omega), ifle (by omega) (by omega)]
      by_cases ck : S (i + 1) ≤ S i + k
      · rw [if_pos ck]
        refine Or.inr ⟨_, rfl, ?_⟩
        rw [hky, show S (i + 1) - S i = k by omega]
      · rw [if_neg ck, gd_nI (by omega) (by omega), qn_clamp (by omega), (e8 c3).2 _ (by omega)]
        refine Or.inl ⟨_, rfl, q - 1, by omega, k + 1, by omega, qn_add _ 1, ?_⟩
        rw [List.range_succ, List.map_append]
        simp only [hTx, List.foldl_append, List.map_cons, List.map_nil, List.foldl_cons, List.foldl_nil, UInt8.ofNat_toNat]
    obtain ⟨o, h1, h2⟩ := main
    rw [h1, obs, h2]
    unfold f_V_slotOf_j46 f_V_slotOf_j67 hsh
    rw [if_pos c3]
    exact congrArg some (hFin_nI (hTx (ky t num S T i))).1
  · rw [if_pos (by rw [if_neg c3]), gd_nI (by omega) (by omega), gd_nI (by omega) (by omega), qn_clamp (by omega), hC.2.2.1 c3 i hi]
    simp only [bnd]
    unfold f_V_slotOf_j67 hsh
    rw [if_neg c3]
    have : ql64 ((ky t num S T i).headD 0) = num i := by
      unfold ky; rw [if_neg c3]; exact l64_lv _
    rw [this]
    exact congrArg some (hFin_nI (hNm (num i))).1
def DInv (t : Nat) (K : Nat → List Nat) (i : Nat) (count : Int32) (firsts slots : Nat → Int32) : Prop :=
  count = nI (dn K i) ∧ ∃ fo pos : Nat → Nat,
    (∀ x, x < dn K i → fo x < i ∧ fi K (fo x) = fo x ∧ dn K (fo x) = x ∧ firsts x = nI (fo x)) ∧
    (∀ x, x < dn K i → pos x < 2048 ∧ slots (pos x) = nI (x + 1)) ∧
    (∀ s, s < 2048 → slots s = nI 0 ∨ ∃ x, x < dn K i ∧ s = pos x) ∧
    (∀ x, x < dn K i → ∃ e, pos x = (hsh t (K (fo x)) + e) % 2048 ∧ ∀ e', e' < e → slots ((hsh t (K (fo x)) + e') % 2048) ≠ nI 0)
theorem D_numberOf {n t c : Nat} {num : Nat → Int64} {S : Nat → Nat} {T : Nat → UInt8} {ofTexts count : Int32} {numbers : Nat → Int64} {starts texts : Nat → Int32} {nm m tn i : Nat} {cnt : Int32} {firsts slots : Nat → Int32}
    (hn : 100000 < n) (hi : i < c) (hc1 : c ≤ 1000) (hcm : c < m) (hm : m < 1000000) (hnm : c ≤ nm)
    (hS : t = 3 → (∀ i, i < c → S i ≤ S (i + 1)) ∧ S c ≤ tn ∧ tn ≤ 20000)
    (hC : VsC t c num S T ofTexts count numbers starts texts) (hD : DInv t (ky t num S T) i cnt firsts slots) :
    ∃ o, f_D_numberOf n 1000 2048 nm m tn cnt firsts slots ofTexts numbers starts texts (nI i) = some o ∧ o.1 = nI (dk (ky t num S T) i) ∧ DInv t (ky t num S T) (i + 1) o.2.1 o.2.2.1 o.2.2.2 := by
  obtain ⟨d1, fo, pos, d2, d3, d4, d5⟩ := hD
  subst d1
  unfold f_D_numberOf
  rw [V_slotOf hn hi hcm hm hnm hS hC, obs]
  generalize hK : ky t num S T = K at *
  have hcmp : ∀ j, j < c → ∃ o, f_V_compare_00 n nm m tn ofTexts numbers starts texts (nI i) (nI j) = some o ∧ (o = 0 ↔ K i = K j) := by
    intro j hj
    rw [V_compare_00_eq]
    obtain ⟨o, h1, h2⟩ := V_compare (i := i) (j := j) hn hi hcm hm hnm hj hcm hm hnm hS hS hC hC
    refine ⟨o, h1, ?_⟩
    rw [sg_zero h2, cmpZ_zero, hK]
  have hdn := dn_le K i
  have hh := hsh_lt t (K i)
  have main : ∃ o, lp (fun v => f_D_numberOf_l9 n 1000 2048 nm m tn ofTexts numbers starts texts (nI i) (nI (hsh t (K i))) v.1 v.2.1 v.2.2.1 v.2.2.2) n (nI (dn K i), firsts, slots, (0 : Int32)) = some o ∧ o.1 = nI (dk K i) ∧ DInv t K (i + 1) o.2.1 o.2.2.1 o.2.2.2 := by
    refine lp_inv (fun q u => ∃ e, e + q = 2048 ∧ u = (nI (dn K i), firsts, slots, nI e) ∧ ∀ e', e' < e → ∃ x, x < dn K i ∧ (hsh t (K i) + e') % 2048 = pos x ∧ K (fo x) ≠ K i) _ ?_ 2048 n _ ⟨0, by omega, rfl, fun e' h => by omega⟩ (by omega)
    rintro q ⟨u1, u2, u3, u4⟩ ⟨e, g1, g2, g3⟩
    simp only [Prod.mk.injEq] at g2
    obtain ⟨rfl, rfl, rfl, rfl⟩ := g2
    show (∃ w', f_D_numberOf_l9 n 1000 2048 nm m tn ofTexts numbers starts texts (nI i) (nI (hsh t (K i))) (nI (dn K i)) u2 u3 (nI e) = _ ∧ _) ∨ (∃ y, f_D_numberOf_l9 n 1000 2048 nm m tn ofTexts numbers starts texts (nI i) (nI (hsh t (K i))) (nI (dn K i)) u2 u3 (nI e) = _ ∧ _)
    unfold f_D_numberOf_l9
    have e2048 : (2048 : Int32) = nI 2048 := rfl
    rw [e2048, ifle (by omega) (by omega)]
    by_cases ce : 2048 ≤ e
    · -- all places are taken: too many pigeons
      exfalso
      have hall : ∀ s, s < 2048 → ∃ x, x < dn K i ∧ s = pos x := by
        intro s hs
        obtain ⟨x, hx1, hx2, _⟩ := g3 ((s + 2048 - hsh t (K i)) % 2048) (by omega)
        refine ⟨x, hx1, ?_⟩
        rw [← hx2]; omega
      let g : Nat → Nat := fun s => if h : s < 2048 then Classical.choose (hall s h) else 0
      have hg : ∀ s, s < 2048 → g s < dn K i ∧ s = pos (g s) := by
        intro s hs
        have : g s = Classical.choose (hall s hs) := by simp only [g, dif_pos hs]
        rw [this]
        exact Classical.choose_spec (hall s hs)
      have := pigeon (dn K i) 2048 g (fun s hs => (hg s hs).1) (fun s s' hs hs' he => by rw [(hg s hs).2, (hg s' hs').2, he])
      omega
    · rw [if_neg ce]
      rw [bnd_eq, bnd_eq]
      rw [qn_add, nI_and2047' _ (by omega)]
      generalize hpl : (hsh t (K i) + e) % 2048 = pl at *
      have hpl2 : pl < 2048 := by omega
      rw [gd_nI (by omega) (by omega), qn_clamp (by omega)]
      rcases d4 pl hpl2 with h0 | ⟨x, hx, hxp⟩
      · -- nothing there: a new one
        have hneg : ¬ (0 : Int32) ≤ nI 0 - 1 := by decide
        rw [h0, if_neg hneg, gd_nI (by omega) (by omega), bnd_eq, gd_nI (by omega) (by omega)]
        have e1 : nI (dn K i) + 1 = nI (dn K i + 1) := qn_add _ 1
        have e2 : nI (dn K i + 1) - 1 = nI (dn K i) := by
          rw [show (1 : Int32) = nI 1 from rfl, nI_sub (by omega)]; congr 1
        rw [e1, e2, qn_clamp (by omega)]
        have hnew : ∀ x, x < dn K i → K (fo x) ≠ K i := by
          intro x hx hk
          obtain ⟨ex, hp1, hp2⟩ := d5 x hx
          rw [hk] at hp1 hp2
          rcases Nat.lt_trichotomy (ex % 2048) e with hl | hl | hl
          · obtain ⟨x', hx', hp', hne⟩ := g3 (ex % 2048) hl
            have : pos x = pos x' := by rw [← hp', hp1]; omega
            have h1 := (d3 x hx).2
            have h2 := (d3 x' hx').2
            rw [this, h2, nI_inj (by omega) (by omega)] at h1
            have : x' = x := by omega
            subst this
            exact hne hk
          · have h1 := (d3 x hx).2
            have : pos x = pl := by rw [hp1, ← hpl]; omega
            rw [this, h0, nI_inj (by omega) (by omega)] at h1
            omega
          · have := hp2 e (by omega)
            rw [hpl] at this
            exact this h0
        have hfi : fi K i = i := by
          have hle := fi_le K i
          apply Classical.byContradiction
          intro hne
          have hlt : fi K i < i := by omega
          have h1 := dn_lt hlt (fi_fi K i)
          obtain ⟨y1, y2, y3, y4⟩ := d2 (dn K (fi K i)) h1
          -- fo of its number is itself
          have : fo (dn K (fi K i)) = fi K i := by
            rcases Nat.lt_trichotomy (fo (dn K (fi K i))) (fi K i) with hl | hl | hl
            · have := dn_lt hl y2; omega
            · exact hl
            · have := dn_lt hl (fi_fi K i); omega
          exact hnew _ h1 (by rw [this]; exact fi_eq K i)
        have hdn1 : dn K (i + 1) = dn K i + 1 := by simp only [dn]; rw [if_pos hfi]
        refine Or.inr ⟨_, rfl, by unfold dk; rw [hfi], by rw [hdn1], fun x => if x = dn K i then i else fo x, fun x => if x = dn K i then pl else pos x, ?_, ?_, ?_, ?_⟩
        · intro x hx
          show _ ∧ _ ∧ _ ∧ upd u2 (dn K i) (nI i) x = _
          unfold upd
          by_cases ex : x = dn K i
          · simp only [ex, if_true]
            exact ⟨by omega, hfi, trivial, trivial⟩
          · simp only [if_neg ex]
            obtain ⟨y1, y2, y3, y4⟩ := d2 x (by omega)
            exact ⟨by omega, y2, y3, y4⟩
        · intro x hx
          show _ ∧ upd u3 pl (nI (dn K i + 1)) _ = _
          unfold upd
          by_cases ex : x = dn K i
          · simp only [ex, if_true]
            exact ⟨hpl2, trivial⟩
          · simp only [if_neg ex]
            obtain ⟨y1, y2⟩ := d3 x (by omega)
            refine ⟨y1, ?_⟩
            rw [if_neg]
            · exact y2
            · intro hq
              rw [hq, h0, nI_inj (by omega) (by omega)] at y2
              omega
        · intro s hs
          show upd u3 pl (nI (dn K i + 1)) s = _ ∨ _
          unfold upd
          by_cases es : s = pl
          · exact Or.inr ⟨dn K i, by omega, by simp only [if_true]; exact es⟩
          · rw [if_neg es]
            rcases d4 s hs with h | ⟨x, hx, hp⟩
            · exact Or.inl h
            · refine Or.inr ⟨x, by omega, ?_⟩
              simp only [if_neg (show ¬ x = dn K i by omega)]
              exact hp
        · intro x hx
          have hmon : ∀ s, u3 s ≠ nI 0 → upd u3 pl (nI (dn K i + 1)) s ≠ nI 0 := by
            intro s hs
            unfold upd
            by_cases es : s = pl
            · rw [if_pos es, nI_inj' (by omega)]; omega
            · rw [if_neg es]; exact hs
          by_cases ex : x = dn K i
          · simp only [ex, if_true]
            refine ⟨e, hpl.symm, ?_⟩
            intro e' he'
            obtain ⟨x', hx', hp', _⟩ := g3 e' he'
            apply hmon
            rw [hp', (d3 x' hx').2, nI_inj' (by omega)]; omega
          · simp only [if_neg ex]
            obtain ⟨ex', hp1, hp2⟩ := d5 x (by omega)
            exact ⟨ex', hp1, fun e' he' => hmon _ (hp2 e' he')⟩
      · -- one is there
        obtain ⟨y1, y2, y3, y4⟩ := d2 x hx
        have hsl := (d3 x hx).2
        rw [← hxp] at hsl
        have e1 : nI (x + 1) - 1 = nI x := by
          rw [show (1 : Int32) = nI 1 from rfl, nI_sub (by omega)]; congr 1
        have hge : (0 : Int32) ≤ nI x := by rw [QI0, qn_le (by omega) (by omega)]; omega
        obtain ⟨o, o1, o2⟩ := hcmp (fo x) (by omega)
        rw [hsl, e1, if_pos hge, gd_nI (by omega) (by omega), qn_clamp (by omega), y4, o1, obs]
        by_cases ck : K i = K (fo x)
        · rw [if_pos (o2.mpr ck)]
          have hfi : fo x = fi K i := by
            apply fi_uniq (by omega) _ ck.symm
            intro k hk
            rw [ck]
            rw [← y2] at hk
            exact fi_ne hk
          have hdn1 : dn K (i + 1) = dn K i := by
            simp only [dn]; rw [if_neg (show ¬ fi K i = i by omega)]; rfl
          refine Or.inr ⟨_, rfl, by unfold dk; rw [← hfi, y3], by rw [hdn1], fo, pos, ?_⟩
          rw [hdn1]
          exact ⟨fun x hx => ⟨by have := (d2 x hx).1; omega, (d2 x hx).2⟩, d3, d4, d5⟩
        · rw [if_neg (fun h => ck (o2.mp h))]
          refine Or.inl ⟨_, rfl, q - 1, by omega, e + 1, by omega, ?_, ?_⟩
          · have : nI e + 1 = nI (e + 1) := qn_add e 1
            rw [this]
          · intro e' he'
            by_cases ee : e' = e
            · subst ee
              exact ⟨x, hx, by rw [hpl, hxp], fun h => ck h.symm⟩
            · exact g3 e' (by omega)
  obtain ⟨o, h1, h2, h3⟩ := main
  rw [h1]
  exact ⟨o, rfl, h2, h3⟩
