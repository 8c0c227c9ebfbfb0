theorem HC_front {L l : List UInt8} {out : Nat → Int32} (h : HC (L ++ l) out) : HC L out := by
  intro j hj
  rw [h j (by rw [List.length_append]; omega), List.getElem_append_left hj]
theorem fill_slots {n : Nat} {slots : Nat → Int32} (hn : 100000 < n) : ∃ o, f_JA_fill_aII n 2048 slots 0 = some o ∧ ∀ j, j < 2048 → o j = nI 0 := by
  unfold f_JA_fill_aII
  rw [bnd_eq]
  have main : ∃ o, lp (fun v => f_JA_fill_aII_l5 2048 0 (nI 2048) v.1 v.2) n (slots, (0 : Int32)) = some o ∧ ∀ j, j < 2048 → o j = nI 0 := by
    refine lp_inv (fun q w => ∃ i, i + q = 2048 ∧ w.2 = nI i ∧ ∀ j, j < i → w.1 j = nI 0) _ ?_ 2048 n _ ⟨0, by omega, rfl, fun j hj => by omega⟩ (by omega)
    rintro q ⟨f, i'⟩ ⟨i, g1, g2, g3⟩
    simp only at g2 g3
    subst g2
    show (∃ w', f_JA_fill_aII_l5 2048 0 (nI 2048) f (nI i) = _ ∧ _) ∨ (∃ x, f_JA_fill_aII_l5 2048 0 (nI 2048) f (nI i) = _ ∧ _)
    unfold f_JA_fill_aII_l5
    rw [ifle (by omega) (by omega)]
    by_cases c : 2048 ≤ i
    · have : i = 2048 := by omega
      subst this
      exact Or.inr ⟨_, by rw [if_pos c], g3⟩
    · rw [if_neg c, gd_nI (by omega) (by omega), qn_clamp (by omega), bnd_eq]
      refine Or.inl ⟨_, rfl, q - 1, by omega, i + 1, by omega, qn_add _ 1, ?_⟩
      intro j hj
      show upd f i 0 j = _
      unfold upd
      by_cases e : j = i
      · rw [if_pos e]; rfl
      · rw [if_neg e]; exact g3 j (by omega)
  obtain ⟨o, h1, h2⟩ := main
  rw [h1]
  exact ⟨o, rfl, h2⟩
theorem D_gather {n t c : Nat} {num : Nat → Int64} {S : Nat → Nat} {T : Nat → UInt8} {ofTexts count : Int32} {numbers nums : Nat → Int64} {starts texts firsts slots : Nat → Int32}
    (hn : 100000 < n) (hc1 : c ≤ 1000) (hS : t = 3 → (∀ i, i < c → S i ≤ S (i + 1)) ∧ S c ≤ 20000) (hC : VsC t c num S T ofTexts count numbers starts texts) :
    ∃ o, f_D_gather n 1000 2048 1000 1001 20000 1000 firsts slots ofTexts count numbers starts texts nums = some o ∧ DInv t (ky t num S T) c o.1 o.2.1 o.2.2.1 ∧ ∀ i, i < c → o.2.2.2 i = ql64 (dk (ky t num S T) i) := by
  unfold f_D_gather
  obtain ⟨sl, f1, f2⟩ := fill_slots (n := n) (slots := slots) hn
  rw [f1, obs, hC.2.1]
  have main : ∃ o, lp (fun v => f_D_gather_l15 n 1000 2048 1000 1001 20000 1000 ofTexts (nI c) numbers starts texts v.1 v.2.1 v.2.2.1 v.2.2.2.1 v.2.2.2.2) n ((0 : Int32), firsts, sl, nums, (0 : Int32)) = some o ∧ DInv t (ky t num S T) c o.1 o.2.1 o.2.2.1 ∧ ∀ i, i < c → o.2.2.2 i = ql64 (dk (ky t num S T) i) := by
    refine lp_inv (fun q u => ∃ i, i + q = c ∧ u.2.2.2.2 = nI i ∧ DInv t (ky t num S T) i u.1 u.2.1 u.2.2.1 ∧ ∀ j, j < i → u.2.2.2.1 j = ql64 (dk (ky t num S T) j)) _ ?_ c n _ ⟨0, by omega, rfl, ⟨rfl, fun _ => 0, fun _ => 0, fun x hx => by simp [dn] at hx, fun x hx => by simp [dn] at hx, fun s hs => Or.inl (f2 s hs), fun x hx => by simp [dn] at hx⟩, fun j hj => by omega⟩ (by omega)
    rintro q ⟨u1, u2, u3, u4, u5⟩ ⟨i, g1, g2, g3, g4⟩
    simp only at g2 g3 g4
    subst g2
    show (∃ w', f_D_gather_l15 n 1000 2048 1000 1001 20000 1000 ofTexts (nI c) numbers starts texts u1 u2 u3 u4 (nI i) = _ ∧ _) ∨ (∃ x, f_D_gather_l15 n 1000 2048 1000 1001 20000 1000 ofTexts (nI c) numbers starts texts u1 u2 u3 u4 (nI i) = _ ∧ _)
    unfold f_D_gather_l15
    rw [ifle (by omega) (by omega)]
    by_cases ci : c ≤ i
    · have : i = c := by omega
      subst this
      exact Or.inr ⟨_, by rw [if_pos ci], g3, g4⟩
    · obtain ⟨o, p1, p2, p3⟩ := D_numberOf (n := n) (t := t) (c := c) (nm := 1000) (m := 1001) (tn := 20000) (i := i) hn (by omega) hc1 (by omega) (by omega) (by omega) (fun h => ⟨(hS h).1, (hS h).2, by omega⟩) hC g3
      have hdk : dk (ky t num S T) i < 2147483648 := by
        have h1 := dk_lt (K := ky t num S T) (show i < c by omega)
        have h2 := dn_le (ky t num S T) c
        omega
      rw [if_neg ci, p1, obs, gd_nI (by omega) (by omega), bnd_eq, qn_clamp (by omega), p2, lI64 hdk]
      refine Or.inl ⟨_, rfl, q - 1, by omega, i + 1, by omega, qn_add i 1, p3, ?_⟩
      intro j hj
      show vp_updL u4 i (ql64 (dk (ky t num S T) i)) j = _
      unfold vp_updL
      by_cases e : j = i
      · subst e; rw [if_pos rfl]
      · rw [if_neg e]; exact g4 j (by omega)
  obtain ⟨o, h1, h2⟩ := main
  rw [h1]
  exact ⟨o, rfl, h2⟩
theorem W_putByDictionary {n t c : Nat} {num : Nat → Int64} {S : Nat → Nat} {T : Nat → UInt8} {ty ofTexts count dcnt : Int32} {numbers nums : Nat → Int64} {starts texts firsts slots : Nat → Int32} {L : List UInt8} {row : Nat → Int32}
    (hn : 100000 < n) (hty : ty = nI t) (ht3 : t ≤ 3) (hc1 : c ≤ 1000) (hS : t = 3 → (∀ i, i < c → S i ≤ S (i + 1)) ∧ S c ≤ 20000) (hC : VsC t c num S T ofTexts count numbers starts texts)
    (hD : DInv t (ky t num S T) c dcnt firsts slots) (hN : ∀ i, i < c → nums i = ql64 (dk (ky t num S T) i)) (hL : L.length + (sDic t c num S T).length ≤ 32000) (h : HC L row) :
    ∃ o, f_W_putByDictionary n 32000 1000 1000 1000 1001 20000 (nI L.length) row ty dcnt firsts nums count numbers starts texts = some o ∧ QPC (L ++ sDic t c num S T) o := by
  obtain ⟨d1, fo, pos, d2, -, -, -⟩ := hD
  subst d1
  have hdc := dn_le (ky t num S T) c
  unfold sDic at hL ⊢
  unfold f_W_putByDictionary
  generalize hK : ky t num S T = K at *
  simp only [List.length_append, List.length_cons, List.length_nil] at hL
  have hlv : lv (nI (dn K c)).toInt64 = dn K c := lv_nI (by omega)
  obtain ⟨o1, p1, p2, p3⟩ := B_varint (n := n) (cap := 32000) (L := L) (row := row) (nI (dn K c)).toInt64 (by omega) (by omega) (by rw [hlv]; omega) h
  rw [hlv] at p2 p3
  rw [p1, obs, p2]
  generalize hM : L ++ sVar (dn K c) = M at *
  have hlM : M.length = L.length + (sVar (dn K c)).length := by rw [← hM]; simp
  have main : ∃ o, lp (fun v => f_W_putByDictionary_l19 n 32000 1000 1000 1001 20000 ty firsts numbers starts texts (nI (dn K c)) v.1 v.2.1 v.2.2) n (nI M.length, o1.2, (0 : Int32)) = some o ∧ QPC (M ++ sDict (sItem t num S T) K c) (o.1, o.2.1) := by
    refine lp_inv (fun q u => ∃ x j, x + q = dn K c ∧ u.2.2 = nI x ∧ j ≤ c ∧ dn K j = x ∧ QPC (M ++ sDict (sItem t num S T) K j) (u.1, u.2.1)) _ ?_ (dn K c) n _ ⟨0, 0, by omega, rfl, by omega, rfl, by simp [sDict, QPC, p3]⟩ (by omega)
    rintro q ⟨sz, rr, x'⟩ ⟨x, j, g1, g2, g3, g4, g5, g6⟩
    simp only at g2 g5 g6
    subst g2; subst g5
    show (∃ w', f_W_putByDictionary_l19 n 32000 1000 1000 1001 20000 ty firsts numbers starts texts (nI (dn K c)) (nI _) rr (nI x) = _ ∧ _) ∨ (∃ y, f_W_putByDictionary_l19 n 32000 1000 1000 1001 20000 ty firsts numbers starts texts (nI (dn K c)) (nI _) rr (nI x) = _ ∧ _)
    unfold f_W_putByDictionary_l19
    rw [ifle (by omega) (by omega)]
    by_cases cx : dn K c ≤ x
    · have : dn K j = dn K c := by omega
      rw [if_pos cx]
      refine Or.inr ⟨_, rfl, ?_⟩
      rw [← sDict_const g3 this]
      exact ⟨rfl, g6⟩
    · obtain ⟨y1, y2, y3, y4⟩ := d2 x (by omega)
      have hjfo : j ≤ fo x := by
        apply Classical.byContradiction
        intro hq
        have := dn_lt (show fo x < j by omega) y2
        omega
      have hconst : sDict (sItem t num S T) K j = sDict (sItem t num S T) K (fo x) := sDict_const hjfo (by omega)
      have hstep : sDict (sItem t num S T) K (fo x + 1) = sDict (sItem t num S T) K j ++ sItem t num S T (fo x) := by
        simp only [sDict]; rw [if_pos y2, hconst]
      have hmono := sDict_len_mono (sItem t num S T) K (show fo x + 1 ≤ c by omega)
      rw [hstep, List.length_append] at hmono
      rw [if_neg cx, gd_nI (by omega) (by omega), qn_clamp (by omega), y4]
      obtain ⟨o, r1, r2⟩ := C_item (n := n) (cap := 32000) (nm := 1000) (sn := 1001) (tn := 20000) (i := fo x) (L := M ++ sDict (sItem t num S T) K j) (row := rr) hn hty ht3 (by omega) (by omega) (by omega) (by omega) (fun h => (hS h).2) (by omega) (fun h => (hS h).1) hC (by omega) (by simp only [List.length_append]; omega) g6
      rw [r1, obs]
      refine Or.inl ⟨_, rfl, q - 1, by omega, x + 1, fo x + 1, by omega, qn_add x 1, by omega, ?_, ?_⟩
      · simp only [dn]; rw [if_pos y2, y3]
      · rw [hstep, ← List.append_assoc]; exact r2
  obtain ⟨o2, r1, r2, r3⟩ := main
  simp only at r2 r3
  rw [r1, obs, r2]
  unfold f_W_putByDictionary_j43
  generalize hX : M ++ sDict (sItem t num S T) K c = X at *
  have hlX : X.length = M.length + (sDict (sItem t num S T) K c).length := by rw [← hX]; simp
  have hw := wd_dn (K := K) hc1
  have key : ∃ o, f_W_putByDictionary_j58 n 32000 1000 (nI X.length) o2.2.1 nums count (nI (wd (dn K c - 1))) = some o ∧ QPC (X ++ [UInt8.ofNat (wd (dn K c - 1))] ++ sRuns (dk K) c (wd (dn K c - 1)) 0) o := by
    unfold f_W_putByDictionary_j58
    obtain ⟨o3, s1, s2, s3⟩ := B_put (cap := 32000) (nI (wd (dn K c - 1))) (by omega) (show X.length < 32000 by omega) r3
    rw [by8_nI] at s2 s3
    rw [s1, obs, s2, hC.2.1]
    have hdk : ∀ i, i < c → dk K i < 2 ^ wd (dn K c - 1) := by
      intro i hi
      have h1 := dk_lt (K := K) hi
      exact Nat.lt_of_le_of_lt (show dk K i ≤ dn K c - 1 by omega) (wd_lt _)
    obtain ⟨o4, t1, t2⟩ := B_runs (n := n) (cap := 32000) (pn := 1000) (m := c) (w := wd (dn K c - 1)) (f := dk K) (numbers := nums) (L := X ++ [UInt8.ofNat (wd (dn K c - 1))]) (row := o3.2) hn hc1 (by omega) (by omega) hdk hN (by omega) (by simp only [List.length_append, List.length_cons, List.length_nil]; omega) s3
    rw [t1, obs]
    exact ⟨_, rfl, t2⟩
  have hres : L ++ (sVar (dn K c) ++ sDict (sItem t num S T) K c ++ [UInt8.ofNat (wd (dn K c - 1))] ++ sRuns (dk K) c (wd (dn K c - 1)) 0) = X ++ [UInt8.ofNat (wd (dn K c - 1))] ++ sRuns (dk K) c (wd (dn K c - 1)) 0 := by
    rw [← hX, ← hM]; simp only [List.append_assoc]
  rw [hres, ife0 (by omega)]
  by_cases c0 : dn K c = 0
  · rw [if_pos c0]
    rw [c0] at key ⊢
    exact key
  · rw [if_neg c0]
    have e1 : nI (dn K c) - 1 = nI (dn K c - 1) := nI_sub (show 1 ≤ dn K c by omega)
    rw [e1, F_widthOf _ (by omega), obs, lv_nI (by omega)]
    exact key
theorem W_measure {n t c : Nat} {num : Nat → Int64} {S : Nat → Nat} {T : Nat → UInt8} {ofTexts count : Int32} {numbers coms nums : Nat → Int64} {starts texts : Nat → Int32} (two : Bool)
    (hn : 100000 < n) (ht : t = 3) (hc1 : c ≤ 1000) (hS : (∀ i, i < c → S i ≤ S (i + 1)) ∧ S c ≤ 20000) (hC : VsC t c num S T ofTexts count numbers starts texts) :
    ∃ o, f_W_measureTexts n 1000 1000 1001 20000 coms nums count starts texts (nI two.toNat) = some o ∧ (∀ i, i < c → o.1 i = aCom S T two i ∧ o.2 i = aMor S T two i) := by
  unfold f_W_measureTexts
  rw [hC.2.1]
  have main : ∃ o, lp (fun v => f_W_measureTexts_l2 n 1000 1000 1001 20000 (nI c) starts texts (nI two.toNat) v.1 v.2.1 v.2.2) n (coms, nums, (0 : Int32)) = some o ∧ (∀ i, i < c → o.1 i = aCom S T two i ∧ o.2 i = aMor S T two i) := by
    refine lp_inv (fun q u => ∃ i, i + q = c ∧ u.2.2 = nI i ∧ ∀ j, j < i → u.1 j = aCom S T two j ∧ u.2.1 j = aMor S T two j) _ ?_ c n _ ⟨0, by omega, rfl, fun j hj => by omega⟩ (by omega)
    rintro q ⟨u1, u2, u3⟩ ⟨i, g1, g2, g3⟩
    simp only at g2 g3
    subst g2
    show (∃ w', f_W_measureTexts_l2 n 1000 1000 1001 20000 (nI c) starts texts (nI two.toNat) u1 u2 (nI i) = _ ∧ _) ∨ (∃ x, f_W_measureTexts_l2 n 1000 1000 1001 20000 (nI c) starts texts (nI two.toNat) u1 u2 (nI i) = _ ∧ _)
    unfold f_W_measureTexts_l2
    rw [ifle (by omega) (by omega)]
    by_cases ci : c ≤ i
    · have : i = c := by omega
      subst this
      exact Or.inr ⟨_, by rw [if_pos ci], g3⟩
    · rw [if_neg ci]
      have b3 := hS.1 i (by omega)
      have b1 := S_mono hS.1 (i := i + 1) (j := c) (by omega) (by omega)
      have hcl := cmf_le S T two i
      have key : f_W_measureTexts_j40 1000 1000 1001 u1 u2 starts (nI i) (nI (cmf S T two i)) = some (Sum.inl (vp_updL u1 i (aCom S T two i), vp_updL u2 i (aMor S T two i), nI (i + 1))) := by
        unfold f_W_measureTexts_j40
        have e1 : nI i + 1 = nI (i + 1) := qn_add i 1
        rw [gd_nI (by omega) (by omega), V_sizeOf ht (show i < c by omega) (by omega) (by omega) b3 hC, obs, bnd_eq, gd_nI (by omega) (by omega), bnd_eq, qn_clamp (by omega), nI_sub hcl, lI64 (by omega), lI64 (by omega), e1]
        rfl
      have hsel : (if nI two.toNat = 0 then f_W_measureTexts_j39 1000 1000 1001 u1 u2 starts (nI i) else if nI i ≤ 0 then f_W_measureTexts_j39 1000 1000 1001 u1 u2 starts (nI i) else Option.bind (f_V_inCommon_00 n 1001 20000 starts texts (nI i) (nI i - 1)) (fun o42 => f_W_measureTexts_j40 1000 1000 1001 u1 u2 starts (nI i) o42)) = f_W_measureTexts_j40 1000 1000 1001 u1 u2 starts (nI i) (nI (cmf S T two i)) := by
        cases two with
        | false => rw [if_pos (by decide)]; rfl
        | true =>
          rw [if_neg (by decide)]
          by_cases i0 : i = 0
          · subst i0
            rw [if_pos (by decide)]; rfl
          · have hi0 : ¬ nI i ≤ 0 := by rw [QI0, qn_le (by omega) (by omega)]; omega
            have e1 : nI i - 1 = nI (i - 1) := nI_sub (show 1 ≤ i by omega)
            have heq : f_V_inCommon_00 n 1001 20000 starts texts (nI i) (nI (i - 1)) = f_V_inCommon n 1001 20000 1001 20000 starts texts starts texts (nI i) (nI (i - 1)) := rfl
            rw [if_neg hi0, e1, heq, V_inCommon hn ht (show i < c by omega) (by omega) (by omega) hS.2 (by omega) hS.1 (show i - 1 < c by omega) (by omega) (by omega) hS.2 (by omega) hS.1 hC hC, obs]
            have : cmf S T true i = comm (fun k => T (S i + k)) (fun k => T (S (i - 1) + k)) (min (S (i + 1) - S i) (S (i - 1 + 1) - S (i - 1))) := by
              unfold cmf cm; rw [if_pos rfl, if_neg i0]
            rw [this]
      rw [hsel, key]
      refine Or.inl ⟨_, rfl, q - 1, by omega, i + 1, by omega, rfl, ?_⟩
      intro j hj
      show vp_updL u1 i (aCom S T two i) j = _ ∧ vp_updL u2 i (aMor S T two i) j = _
      unfold vp_updL
      by_cases e : j = i
      · subst e; rw [if_pos rfl, if_pos rfl]; exact ⟨rfl, rfl⟩
      · rw [if_neg e, if_neg e]; exact g3 j (by omega)
  obtain ⟨o, h1, h2⟩ := main
  rw [h1]
  exact ⟨o, rfl, h2⟩
theorem W_putSizedCode {n c : Nat} {a nums : Nat → Int64} {L : List UInt8} {row prow : Nat → Int32} (hn : 100000 < n) (hc1 : c ≤ 1000) (hN : ∀ i, i < c → nums i = a i) (hsm : (qsCode a c).length ≤ 1252) (hL : L.length + (sSz a c).length ≤ 32000) (h : HC L row) :
    ∃ o, f_W_putSizedCode n 32000 4000 1000 (nI L.length) row prow (nI c) nums = some o ∧ QPC (L ++ sSz a c) (o.1, o.2.1) := by
  unfold f_W_putSizedCode
  unfold sSz at hL ⊢
  rw [List.length_append] at hL
  obtain ⟨o1, p1, p2, p3⟩ := B_code (n := n) (cap := 4000) (pn := 1000) (m := c) (a := a) (numbers := nums) (L := []) (row := prow) hn (by omega) (by omega) hN (by omega) (by simp only [List.length_nil]; omega) (fun j hj => by simp at hj)
  have p1' : f_B_code n 4000 1000 0 prow nums (nI c) = some o1 := p1
  rw [List.nil_append] at p2 p3
  rw [show f_B_cut 0 = some (0 : Int32) from rfl, obs, p1', obs, p2]
  obtain ⟨o2, r1, r2⟩ := B_sized (n := n) (cap := 32000) (pcap := 4000) (L := L) (P := qsCode a c) (row := row) (prow := o1.2) hn (by omega) (by omega) (by omega) (by omega) h p3
  rw [r1, obs]
  exact ⟨_, rfl, r2⟩
theorem l64_i32 {a : Nat} (h : a < 2147483648) : (ql64 a).toInt32 = nI a := by
  rw [← lI64 h]; simp
theorem W_putTexts {n t c : Nat} {num : Nat → Int64} {S : Nat → Nat} {T : Nat → UInt8} {ofTexts count : Int32} {numbers coms nums : Nat → Int64} {starts texts : Nat → Int32} {L : List UInt8} {row : Nat → Int32} (two : Bool)
    (hn : 100000 < n) (ht : t = 3) (hc1 : c ≤ 1000) (hS : (∀ i, i < c → S i ≤ S (i + 1)) ∧ S c ≤ 20000) (hC : VsC t c num S T ofTexts count numbers starts texts) (hN : ∀ i, i < c → coms i = aCom S T two i ∧ nums i = aMor S T two i)
    (hL : L.length + (sTxs S T two c).length ≤ 32000) (h : HC L row) :
    ∃ o, f_W_putTexts n 32000 1000 1000 1001 20000 (nI L.length) row coms nums count starts texts = some o ∧ QPC (L ++ sTxs S T two c) o := by
  unfold f_W_putTexts
  rw [hC.2.1]
  have main : ∃ o, lp (fun v => f_W_putTexts_l2 32000 1000 1000 1001 20000 coms nums (nI c) starts texts v.1 v.2.1 v.2.2) n (nI L.length, row, (0 : Int32)) = some o ∧ QPC (L ++ sTxs S T two c) o := by
    refine lp_inv (fun q u => ∃ i, i + q = c ∧ u.2.2 = nI i ∧ QPC (L ++ cat (fun i => (tx S T i).drop (cmf S T two i)) i) (u.1, u.2.1)) _ ?_ c n _ ⟨0, by omega, rfl, by simp [cat, QPC, h]⟩ (by omega)
    rintro q ⟨sz, rr, i'⟩ ⟨i, g1, g2, g3, g4⟩
    simp only at g2 g3 g4
    subst g2; subst g3
    show (∃ w', f_W_putTexts_l2 32000 1000 1000 1001 20000 coms nums (nI c) starts texts (nI _) rr (nI i) = _ ∧ _) ∨ (∃ x, f_W_putTexts_l2 32000 1000 1000 1001 20000 coms nums (nI c) starts texts (nI _) rr (nI i) = _ ∧ _)
    unfold f_W_putTexts_l2
    rw [ifle (by omega) (by omega)]
    by_cases ci : c ≤ i
    · have : i = c := by omega
      subst this
      refine Or.inr ⟨_, by rw [if_pos ci], ?_⟩
      exact ⟨rfl, g4⟩
    · have b3 := hS.1 i (by omega)
      have b1 := S_mono hS.1 (i := i + 1) (j := c) (by omega) (by omega)
      have b2 := hS.2
      have hcl := cmf_le S T two i
      obtain ⟨e4, e5, e6, e7, e8⟩ := hC
      obtain ⟨n1, n2⟩ := hN i (by omega)
      have hat := cat_len_at (fun i => (tx S T i).drop (cmf S T two i)) (show i < c by omega)
      unfold sTxs at hL
      simp only [List.length_drop, tx_len] at hat
      rw [if_neg ci, gd_nI (by omega) (by omega), gd_nI (by omega) (by omega), gd_nI (by omega) (by omega), qn_clamp (by omega), n1, n2, (e8 ht).1 i (by omega)]
      unfold aCom aMor
      rw [l64_i32 (by omega), l64_i32 (by omega), qn_add]
      have hdl : ((tx S T i).drop (cmf S T two i)).length = S (i + 1) - S i - cmf S T two i := by simp [tx_len]
      obtain ⟨o, r1, r2⟩ := B_append (cap := 32000) (pn := 20000) (a := S i + cmf S T two i) (L := L ++ cat (fun i => (tx S T i).drop (cmf S T two i)) i) (l := (tx S T i).drop (cmf S T two i)) (row := rr) (p1 := texts) (by omega) (by omega) g4 (fun k hk => by
        rw [List.getElem_drop, tx_get]
        rw [hdl] at hk
        rw [Nat.add_assoc]
        exact (e8 ht).2 _ (by omega)) (by rw [List.length_append, hdl]; omega) (by rw [hdl]; omega)
      rw [hdl] at r1
      rw [r1, obs]
      refine Or.inl ⟨_, rfl, q - 1, by omega, i + 1, by omega, qn_add i 1, ?_⟩
      rw [List.append_assoc] at r2
      exact r2
  obtain ⟨o, h1, h2⟩ := main
  rw [h1]
  exact ⟨o, rfl, h2⟩
theorem W_putBools {n c how : Nat} {num : Nat → Int64} {S : Nat → Nat} {T : Nat → UInt8} {ofTexts count : Int32} {numbers : Nat → Int64} {starts texts : Nat → Int32} {L : List UInt8} {row : Nat → Int32}
    (hn : 100000 < n) (hc1 : c ≤ 1000) (hh : how ≤ 1) (hC : VsC 0 c num S T ofTexts count numbers starts texts) (hb : ∀ i, i < c → lv (num i) ≤ 1) (hL : L.length + (sVals 0 c num S T how).length ≤ 32000) (h : HC L row) :
    ∃ o, f_W_putBools n 32000 1000 (nI L.length) row count numbers (nI how) = some o ∧ QPC (L ++ sVals 0 c num S T how) o := by
  have hN : ∀ i, i < c → numbers i = num i := fun i hi => hC.2.2.1 (by omega) i hi
  unfold f_W_putBools
  unfold sVals at hL ⊢
  rw [if_pos rfl] at hL
  rw [if_pos rfl, hC.2.1, ife0 (by omega)]
  by_cases c0 : how = 0
  · rw [if_pos c0, sBits_len] at hL
    rw [if_pos c0, if_pos c0, bnd_eq, w78 (by omega)]
    have e8 : (8 : Int32) * nI L.length = nI (8 * L.length) := nI_mul 8 _
    obtain ⟨o2, r1, r2, r3⟩ := B_zeros (n := n) (cap := 32000) (k := (c + 7) / 8) (L := L) (row := row) hn (by omega) hL h
    have hl2 : (L ++ List.replicate ((c + 7) / 8) 0).length = L.length + (c + 7) / 8 := by simp
    rw [hl2] at r2
    rw [r1, obs, r2, e8]
    have main2 : ∃ o, lp (fun v => f_W_putBools_l60 n 32000 1000 (nI (L.length + (c + 7) / 8)) (nI c) numbers (nI (8 * L.length)) v.1 v.2) n (o2.2, (0 : Int32)) = some o ∧ QPC (L ++ sBits (pbit (fun i => lv (num i)) c 1) ((c + 7) / 8)) o := by
      refine lp_inv (fun x u => ∃ (j : Nat) (L' : List UInt8), u.2 = nI j ∧ j + x = c ∧ Pack L ((c + 7) / 8) (fun i => lv (num i)) 1 j L' ∧ HC L' u.1) _ ?_ c n _ ⟨0, L ++ List.replicate ((c + 7) / 8) 0, rfl, by omega, Pack_0 _ _ _ _, r3⟩ (by omega)
      rintro x ⟨f', i'⟩ ⟨j, L', g1, g2, g3, g4⟩
      simp only at g1 g4
      subst g1
      show (∃ w', f_W_putBools_l60 n 32000 1000 _ (nI c) numbers (nI (8 * L.length)) f' (nI j) = _ ∧ _) ∨ (∃ y, f_W_putBools_l60 n 32000 1000 _ (nI c) numbers (nI (8 * L.length)) f' (nI j) = _ ∧ _)
      unfold f_W_putBools_l60
      rw [ifle (by omega) (by omega)]
      by_cases c2 : c ≤ j
      · have : j = c := by omega
        subst this
        rw [if_pos c2]
        refine Or.inr ⟨_, rfl, ?_⟩
        have hLL := Pack_end (m := j) g3 (fun r _ => Iff.rfl)
        rw [← hLL]
        exact ⟨by rw [g3.1], g4⟩
      · rw [if_neg c2, gd_nI (by omega) (by omega), qn_clamp (by omega), hN _ (by omega), qn_add]
        have hfit : 8 * L.length + j = 8 * L.length + j * 1 := by omega
        rw [hfit]
        obtain ⟨o', s1, L'', s2, s3⟩ := B_setPack (n := n) (cap := 32000) (nb := (c + 7) / 8) (w := 1) (j := j) (M := L) (L' := L') (g := fun i => lv (num i)) (row := f') (num j) (by omega) (by omega) hL (by omega) (by omega) (fun i hi => by have := hb i (by omega); show lv (num i) < 2; omega) rfl g3 g4
        have s1' : f_B_setBits n 32000 (nI (L.length + (c + 7) / 8)) f' (nI (8 * L.length + j * 1)) (num j) 1 = some o' := s1
        rw [s1', obs]
        exact Or.inl ⟨_, rfl, x - 1, by omega, j + 1, L'', qn_add _ 1, by omega, s2, s3⟩
    obtain ⟨o', s1, s2⟩ := main2
    rw [s1]
    exact ⟨o', rfl, s2⟩
  · rw [if_neg c0] at hL
    rw [if_neg c0, if_neg c0]
    obtain ⟨o, p1, p2⟩ := B_runs (n := n) (cap := 32000) (pn := 1000) (m := c) (w := 1) (f := fun i => lv (num i)) (numbers := numbers) (L := L) (row := row) hn hc1 (by omega) (by omega) (fun i hi => by have := hb i hi; show lv (num i) < 2; omega) (fun i hi => by rw [hN i hi, l64_lv]) (by omega) hL h
    have p1' : f_B_runs n 32000 1000 (nI L.length) row numbers (nI c) 1 = some o := p1
    rw [p1', obs]
    exact ⟨_, rfl, p2⟩
theorem C_lastCoding {t : Nat} (h : t ≤ 3) : f_C_lastCoding (nI t) = some (nI (lastC t)) := by
  have : ∀ j : Fin 4, f_C_lastCoding (nI j.val) = some (nI (lastC j.val)) := by decide
  exact this ⟨t, by omega⟩
theorem W_putValues {n t c how : Nat} {num : Nat → Int64} {S : Nat → Nat} {T : Nat → UInt8} {ty ofTexts count dcnt psz : Int32} {numbers coms nums : Nat → Int64} {starts texts firsts slots prow : Nat → Int32} {L : List UInt8} {row : Nat → Int32}
    (hn : 100000 < n) (hty : ty = nI t) (ht3 : t ≤ 3) (hc1 : c ≤ 1000) (hhow : how ≤ lastC t) (hh : t ≠ 3 → ∀ i, i < c → holdsT t (num i)) (hS : t = 3 → (∀ i, i < c → S i ≤ S (i + 1) ∧ S (i + 1) ≤ S i + 255) ∧ S c ≤ 20000)
    (hC : VsC t c num S T ofTexts count numbers starts texts) (hL : L.length ≤ 3000) (h : HC L row) :
    ∃ o, f_W_putValues n 32000 1000 1000 2048 1000 4000 1000 1001 20000 (nI L.length) row ty coms dcnt firsts slots nums psz prow ofTexts count numbers starts texts (nI how) = some o ∧ o.1 = nI (L ++ sVals t c num S T how).length ∧ QPC (L ++ sVals t c num S T how) (o.2.1, o.2.2.1) := by
  have hlen := sVals_len (t := t) (c := c) (how := how) (num := num) (S := S) (T := T) hc1 hS
  have hS1 : t = 3 → (∀ i, i < c → S i ≤ S (i + 1)) ∧ S c ≤ 20000 := fun h => ⟨fun i hi => ((hS h).1 i hi).1, (hS h).2⟩
  unfold f_W_putValues
  rw [show f_B_cut (nI L.length) = some (nI L.length) from rfl, obs, hty, ife0 (by omega)]
  by_cases c0 : t = 0
  · subst c0
    rw [if_pos rfl]
    obtain ⟨o, p1, p2, p3⟩ := W_putBools (n := n) (c := c) (how := how) (row := row) (L := L) hn hc1 (show how ≤ 1 from hhow) hC (fun i hi => (hh (by omega) i hi).1 rfl) (by omega) h
    rw [p1, obs]
    exact ⟨_, rfl, p2, p2, p3⟩
  have hlc : lastC t ≤ 3 := by unfold lastC; split <;> (try split) <;> omega
  rw [if_neg c0, ife0 (by omega)]
  by_cases h0 : how = 0
  · rw [if_pos h0]
    have hv : sVals t c num S T how = cat (sItem t num S T) c := by unfold sVals; rw [if_neg c0, if_pos h0]
    rw [hv] at hlen ⊢
    rw [hC.2.1]
    have main : ∃ o, lp (fun v => f_W_putValues_l44 n 32000 1000 1001 20000 (nI t) (nI c) numbers starts texts v.1 v.2.1 v.2.2) n (nI L.length, row, (0 : Int32)) = some o ∧ QPC (L ++ cat (sItem t num S T) c) (o.1, o.2.1) := by
      refine lp_inv (fun q u => ∃ i, i + q = c ∧ u.2.2 = nI i ∧ QPC (L ++ cat (sItem t num S T) i) (u.1, u.2.1)) _ ?_ c n _ ⟨0, by omega, rfl, by simp [cat, QPC, h]⟩ (by omega)
      rintro q ⟨sz, rr, i'⟩ ⟨i, g1, g2, g3, g4⟩
      simp only at g2 g3 g4
      subst g2; subst g3
      show (∃ w', f_W_putValues_l44 n 32000 1000 1001 20000 (nI t) (nI c) numbers starts texts (nI _) rr (nI i) = _ ∧ _) ∨ (∃ x, f_W_putValues_l44 n 32000 1000 1001 20000 (nI t) (nI c) numbers starts texts (nI _) rr (nI i) = _ ∧ _)
      unfold f_W_putValues_l44
      rw [ifle (by omega) (by omega)]
      by_cases ci : c ≤ i
      · have : i = c := by omega
        subst this
        exact Or.inr ⟨_, by rw [if_pos ci], rfl, g4⟩
      · have hat := cat_len_at (sItem t num S T) (show i < c by omega)
        obtain ⟨o, r1, r2⟩ := C_item (n := n) (cap := 32000) (nm := 1000) (sn := 1001) (tn := 20000) (i := i) (L := L ++ cat (sItem t num S T) i) (row := rr) hn rfl ht3 (show i < c by omega) (by omega) (by omega) (by omega) (fun h => (hS h).2) (by omega) (fun h => (hS1 h).1) hC (by omega) (by rw [List.length_append]; omega) g4
        rw [if_neg ci, r1, obs]
        refine Or.inl ⟨_, rfl, q - 1, by omega, i + 1, by omega, qn_add i 1, ?_⟩
        rw [List.append_assoc] at r2
        exact r2
    obtain ⟨o, p1, p2, p3⟩ := main
    rw [p1, obs]
    exact ⟨_, rfl, p2, p2, p3⟩
  rw [if_neg h0, C_lastCoding ht3, obs]
  rw [ife (by omega) (by omega)]
  by_cases hl : how = lastC t
  · rw [if_pos hl]
    have hv : sVals t c num S T how = sDic t c num S T := by unfold sVals; rw [if_neg c0, if_neg h0, if_pos hl]
    rw [hv] at hlen ⊢
    obtain ⟨o1, p1, p2, p3⟩ := D_gather (n := n) (t := t) (c := c) (nums := nums) (firsts := firsts) (slots := slots) hn hc1 hS1 hC
    rw [p1, obs]
    obtain ⟨o2, r1, r2, r3⟩ := W_putByDictionary (n := n) (t := t) (c := c) (L := L) (row := row) (nums := o1.2.2.2) hn rfl ht3 hc1 hS1 hC p2 p3 (by omega) h
    rw [r1, obs]
    exact ⟨_, rfl, r2, r2, r3⟩
  rw [if_neg hl]
  have I3 : (3 : Int32) = nI 3 := rfl
  rw [I3, ife (by omega) (by omega)]
  by_cases c3 : t = 3
  · rw [if_pos c3]
    have hlc3 : lastC t = 3 := by rw [c3]; rfl
    have i2 : ∀ {α : Type} {x y : α}, (if nI how = 2 then x else y) = if how = 2 then x else y := fun {α x y} => ife (by omega) (by decide)
    obtain ⟨s1, s2⟩ := hS c3
    have hv : sVals t c num S T how = (if how = 2 then sSz (aCom S T true) c else []) ++ sSz (aMor S T (decide (how = 2))) c ++ sTxs S T (decide (how = 2)) c := by unfold sVals; rw [if_neg c0, if_neg h0, if_neg hl, if_pos c3]
    rw [hv] at hlen ⊢
    simp only [List.length_append] at hlen
    have am := aMor_small (T := T) (two := decide (how = 2)) hc1 s1
    have ac := aCom_small (T := T) (two := true) hc1 s1
    have key : ∀ (M : List UInt8) (row' : Nat → Int32) (co nu : Nat → Int64) (pr : Nat → Int32), (∀ i, i < c → co i = aCom S T (decide (how = 2)) i ∧ nu i = aMor S T (decide (how = 2)) i) → M.length + (sSz (aMor S T (decide (how = 2))) c).length + (sTxs S T (decide (how = 2)) c).length ≤ 32000 → HC M row' →
        ∃ o, f_W_putValues_j140 n 32000 1000 1000 4000 1001 20000 (nI M.length) row' co dcnt firsts slots nu pr count starts texts = some o ∧ o.1 = nI (M ++ sSz (aMor S T (decide (how = 2))) c ++ sTxs S T (decide (how = 2)) c).length ∧ QPC (M ++ sSz (aMor S T (decide (how = 2))) c ++ sTxs S T (decide (how = 2)) c) (o.2.1, o.2.2.1) := by
      intro M row' co nu pr hN hfit hM
      unfold f_W_putValues_j140
      obtain ⟨o1, p1, p2, p3⟩ := W_putSizedCode (n := n) (c := c) (a := aMor S T (decide (how = 2))) (nums := nu) (L := M) (row := row') (prow := pr) hn hc1 (fun i hi => (hN i hi).2) am (by omega) hM
      simp only at p2 p3
      rw [hC.2.1, p1, obs, p2]
      obtain ⟨o2, r1, r2, r3⟩ := W_putTexts (n := n) (t := t) (c := c) (coms := co) (nums := nu) (L := M ++ sSz (aMor S T (decide (how = 2))) c) (row := o1.2.1) (decide (how = 2)) hn c3 hc1 (hS1 c3) hC hN (by rw [List.length_append]; omega) p3
      rw [hC.2.1] at r1
      rw [r1, obs]
      exact ⟨_, rfl, r2, r2, r3⟩
    rw [i2]
    by_cases h2 : how = 2
    · rw [if_pos h2] at hlen
      rw [if_pos h2, if_pos h2]
      unfold f_W_putValues_j124
      obtain ⟨o1, p1, p2⟩ := W_measure (n := n) (t := t) (c := c) (coms := coms) (nums := nums) true hn c3 hc1 (hS1 c3) hC
      have p1' : f_W_measureTexts n 1000 1000 1001 20000 coms nums count starts texts 1 = some o1 := p1
      rw [p1', obs, i2, if_pos h2, hC.2.1]
      obtain ⟨o2, r1, r2, r3⟩ := W_putSizedCode (n := n) (c := c) (a := aCom S T true) (nums := o1.1) (L := L) (row := row) (prow := prow) hn hc1 (fun i hi => (p2 i hi).1) ac (by omega) h
      simp only at r2 r3
      rw [r1, obs, r2]
      obtain ⟨o3, q1, q2, q3⟩ := key (L ++ sSz (aCom S T true) c) o2.2.1 o1.1 o1.2 o2.2.2.2 (by rw [decide_eq_true h2]; exact p2) (by rw [List.length_append]; omega) r3
      rw [hC.2.1] at q1
      rw [q1]
      simp only [List.append_assoc] at q2 q3 ⊢
      exact ⟨_, rfl, q2, q3⟩
    · rw [if_neg h2] at hlen
      rw [if_neg h2, if_neg h2, List.nil_append]
      unfold f_W_putValues_j124
      obtain ⟨o1, p1, p2⟩ := W_measure (n := n) (t := t) (c := c) (coms := coms) (nums := nums) false hn c3 hc1 (hS1 c3) hC
      have p1' : f_W_measureTexts n 1000 1000 1001 20000 coms nums count starts texts 0 = some o1 := p1
      rw [p1', obs, i2, if_neg h2]
      obtain ⟨o3, q1, q2, q3⟩ := key L row o1.1 o1.2 prow (by rw [decide_eq_false h2]; exact p2) (by simp only [List.length_nil] at hlen; omega) h
      rw [q1]
      simp only [List.append_assoc] at q2 q3 ⊢
      exact ⟨_, rfl, q2, q3⟩
  · rw [if_neg c3]
    have hv : sVals t c num S T how = qsCode num c := by unfold sVals; rw [if_neg c0, if_neg h0, if_neg hl, if_neg c3]
    rw [hv] at hlen ⊢
    obtain ⟨o, p1, p2, p3⟩ := B_code (n := n) (cap := 32000) (pn := 1000) (m := c) (a := num) (numbers := numbers) (L := L) (row := row) hn (by omega) (by omega) (fun i hi => hC.2.2.1 c3 i hi) (by omega) (by omega) h
    rw [hC.2.1, p1, obs]
    exact ⟨_, rfl, p2, p2, p3⟩
