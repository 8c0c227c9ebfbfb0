theorem M_writeValues {n t c how : Nat} {num : Nat → Int64} {S : Nat → Nat} {T : Nat → UInt8} {values ty lc : Int32} {wholes longs : Nat → Int64} {frm bytes nums : Nat → Int32} {L : List UInt8} {out : Nat → Int32}
    (hn : 100000 < n) (hty : ty = nI t) (ht3 : t ≤ 3) (hhow : how ≤ lastC t) (hc1 : c ≤ 1000) (h0 : S 0 = 0) (hh : t ≠ 3 → ∀ i, i < c → holdsT t (num i)) (hS : t = 3 → (∀ i, i < c → S i ≤ S (i + 1) ∧ S (i + 1) ≤ S i + 255) ∧ S c ≤ 20000) (hM : VsM t c num S T values wholes frm bytes)
    (hL : L.length ≤ 3000) (h : QHM L out) :
    ∃ o, f_M_writeValues n 20000 1001 2000 1008 90000 1000 ty values (nI L.length) lc bytes frm longs nums out wholes (nI how) = some o ∧ QPM (L ++ sVals t c num S T how) (o.1, o.2.2.2.2) := by
  have hlen := sVals_len (t := t) (c := c) (how := how) (num := num) (S := S) (T := T) hc1 hS
  have hS1 : t = 3 → (∀ i, i < c → S i ≤ S (i + 1)) ∧ S c ≤ 20000 := fun h => ⟨fun i hi => ((hS h).1 i hi).1, (hS h).2⟩
  have hlc : lastC t ≤ 3 := by unfold lastC; split <;> (try split) <;> omega
  subst hty
  unfold f_M_writeValues
  have I3 : (3 : Int32) = nI 3 := rfl
  -- nothing more behind: texts that are not plain, or no texts
  have rest : ∀ (sz : Int32) (lc' : Int32) (lo : Nat → Int64) (nu ou : Nat → Int32), ¬ (t = 3 ∧ how = 0) → f_M_writeValues_j64 n 20000 1001 90000 (nI t) values sz lc' bytes frm lo nu ou (nI how) = some (sz, lc', lo, nu, ou) := by
    intro sz lc' lo nu ou hne
    unfold f_M_writeValues_j64
    obtain ⟨x, rfl⟩ : ∃ x, n = x + 1 := ⟨n - 1, by omega⟩
    have hst : f_M_writeValues_l66 (x + 1) 20000 1001 90000 (nI t) values lc' bytes frm lo nu (nI how) sz ou 0 = some (Sum.inr (sz, lc', lo, nu, ou)) := by
      unfold f_M_writeValues_l66
      rw [I3, ife (by omega) (by omega), ife0 (by omega)]
      by_cases c3 : t = 3
      · rw [if_pos c3, if_neg (fun q => hne ⟨c3, q⟩)]; split <;> rfl
      · rw [if_neg c3]; split <;> rfl
    simp only [lp, hst]; rfl
  rw [ife0 (by omega)]
  by_cases c0 : t = 0
  · subst c0
    rw [if_pos rfl]
    obtain ⟨o, p1, p2⟩ := M_writeBools (n := n) (c := c) (how := how) (nums := nums) (L := L) (out := out) hn (show how ≤ 1 from hhow) hc1 hM (fun i hi => (hh (by omega) i hi).1 rfl) (by omega) h
    rw [p1, obs, rest _ _ _ _ _ (by omega)]
    exact ⟨_, rfl, p2⟩
  rw [if_neg c0, I3, ife (by omega) (by omega)]
  by_cases c3 : t = 3
  · have hlc3 : lastC t = 3 := by rw [c3]; rfl
    have i1 : ∀ {α : Type} {x y : α}, (if nI how = 1 then x else y) = if how = 1 then x else y := fun {α x y} => ife (by omega) (by decide)
    have i2 : ∀ {α : Type} {x y : α}, (if nI how = 2 then x else y) = if how = 2 then x else y := fun {α x y} => ife (by omega) (by decide)
    rw [if_pos c3, i1]
    by_cases h1 : how = 1
    · rw [if_pos h1]
      have hv : sVals t c num S T how = sSz (aMor S T false) c ++ sTxs S T false c := by
        unfold sVals; rw [if_neg c0, if_neg (by omega), if_neg (by omega), if_pos c3, if_neg (by omega), List.nil_append, decide_eq_false (show ¬ how = 2 by omega)]
      rw [hv] at hlen ⊢
      rw [List.length_append] at hlen
      obtain ⟨o, p1, p2⟩ := M_writeLengths (n := n) (t := t) (c := c) (longs := longs) (L := L) (out := out) hn c3 hc1 h0 (hS1 c3) hM (by omega) h
      rw [p1, obs, rest _ _ _ _ _ (by omega)]
      exact ⟨_, rfl, p2⟩
    rw [if_neg h1, i2]
    by_cases h2 : how = 2
    · rw [if_pos h2]
      have hv : sVals t c num S T how = sSz (aCom S T true) c ++ sSz (aMor S T true) c ++ sTxs S T true c := by
        unfold sVals; rw [if_neg c0, if_neg (by omega), if_neg (by omega), if_pos c3, if_pos h2, decide_eq_true h2]
      rw [hv] at hlen ⊢
      simp only [List.length_append] at hlen
      obtain ⟨o, p1, p2⟩ := M_writeFront (n := n) (t := t) (c := c) (longs := longs) (L := L) (out := out) hn c3 hc1 (hS1 c3) hM (by omega) h
      rw [p1, obs, rest _ _ _ _ _ (by omega)]
      exact ⟨_, rfl, p2⟩
    rw [if_neg h2, ife (by omega) (by omega)]
    by_cases h3 : how = 3
    · rw [if_pos h3]
      have hv : sVals t c num S T how = sDic t c num S T := by
        unfold sVals; rw [if_neg c0, if_neg (by omega), if_pos (by omega)]
      rw [hv] at hlen ⊢
      obtain ⟨o, p1, p2⟩ := M_writeDictionary (n := n) (t := t) (c := c) (nums := nums) (L := L) (out := out) hn c3 hc1 (hS1 c3) hM (by omega) h
      rw [p1, obs, rest _ _ _ _ _ (by omega)]
      exact ⟨_, rfl, p2⟩
    · rw [if_neg h3]
      have hh0 : how = 0 := by omega
      have hv : sVals t c num S T how = cat (sItem t num S T) c := by unfold sVals; rw [if_neg c0, if_pos hh0]
      have hitem : ∀ i, sItem t num S T i = sText S T i := fun i => by unfold sItem; rw [if_pos c3]
      rw [hv] at hlen ⊢
      unfold f_M_writeValues_j64
      have hM' := hM
      obtain ⟨g4, g5, g6, g7⟩ := hM
      subst g4
      have main : ∃ o', lp (fun v => f_M_writeValues_l66 n 20000 1001 90000 (nI t) (nI c) lc bytes frm longs nums (nI how) v.1 v.2.1 v.2.2) n (nI L.length, out, (0 : Int32)) = some o' ∧ QPM (L ++ cat (sItem t num S T) c) (o'.1, o'.2.2.2.2) := by
        refine lp_inv (fun q u => ∃ k, k + q = c ∧ u.2.2 = nI k ∧ QPM (L ++ cat (sItem t num S T) k) (u.1, u.2.1)) _ ?_ c n _ ⟨0, by omega, rfl, by simp [cat, QPM, h]⟩ (by omega)
        rintro q ⟨sz, ou, k'⟩ ⟨k, q1, q2, q3, q4⟩
        simp only at q2 q3 q4
        subst q2; subst q3
        show (∃ w', f_M_writeValues_l66 n 20000 1001 90000 (nI t) (nI c) lc bytes frm longs nums (nI how) (nI _) ou (nI k) = _ ∧ _) ∨ (∃ x, f_M_writeValues_l66 n 20000 1001 90000 (nI t) (nI c) lc bytes frm longs nums (nI how) (nI _) ou (nI k) = _ ∧ _)
        unfold f_M_writeValues_l66
        rw [ifle (by omega) (by omega)]
        by_cases ck : c ≤ k
        · have : k = c := by omega
          subst this
          exact Or.inr ⟨_, by rw [if_pos ck], rfl, q4⟩
        · have hat := cat_len_at (sItem t num S T) (show k < c by omega)
          rw [hitem] at hat
          obtain ⟨o', r1, r2⟩ := M_putText (n := n) (cap := 90000) (t := t) (c := c) (i := k) (L := L ++ cat (sItem t num S T) k) (out := ou) hn c3 (by omega) hc1 (hS1 c3) hM' (by omega) (by rw [List.length_append]; omega) q4
          rw [if_neg ck, I3, ife (by omega) (by omega), if_pos c3, ife0 (by omega), if_pos hh0, r1, obs]
          refine Or.inl ⟨_, rfl, q - 1, by omega, k + 1, by omega, qn_add k 1, ?_⟩
          rw [List.append_assoc, ← hitem] at r2
          exact r2
      obtain ⟨o', r1, r2⟩ := main
      rw [r1]
      exact ⟨_, rfl, r2⟩
  · rw [if_neg c3]
    have hlc2 : lastC t = 2 := by unfold lastC; rw [if_neg c0, if_neg c3]
    obtain ⟨o, p1, p2⟩ := M_writeWholes (n := n) (t := t) (c := c) (how := how) (longs := longs) (nums := nums) (lc := lc) (L := L) (out := out) hn rfl c0 c3 ht3 (by omega) hc1 hM (by omega) h
    rw [p1, obs, rest _ _ _ _ _ (by omega)]
    exact ⟨_, rfl, p2⟩
theorem M_putLevels {n pn nn most : Nat} {f : Nat → Nat} {L : List UInt8} {out row : Nat → Int32} (hn : 100000 < n) (hpn : nn ≤ pn) (hnn : nn ≤ 1000) (hm : most ≤ 16) (hf : ∀ k, k < nn → f k ≤ most ∧ row k = nI (f k)) (hL : L.length ≤ 10000) (h : QHM L out) :
    ∃ o, f_M_putLevels n 90000 pn (nI nn) (nI L.length) out row (nI most) = some o ∧ QPM (L ++ sLev f nn most) o := by
  unfold f_M_putLevels
  rw [ife0 (by omega)]
  unfold sLev
  by_cases c0 : most = 0
  · rw [if_pos c0, if_pos c0, List.append_nil]
    exact ⟨_, rfl, rfl, h⟩
  rw [if_neg c0, if_neg c0]
  have hw := wd5 hm
  have main : ∃ o, lp (fun v => f_M_putLevels_l7 (nI most) v) n (0 : Int32) = some o ∧ o = nI (wd most) := by
    refine lp_inv (fun q u => ∃ j, j + q = 5 ∧ u = nI j ∧ j ≤ wd most) _ ?_ 5 n _ ⟨0, by omega, rfl, by omega⟩ (by omega)
    rintro q u ⟨j, g1, g2, g3⟩
    subst g2
    unfold f_M_putLevels_l7
    have hle : most / 2 ^ j ≤ most := Nat.div_le_self _ _
    have hc : (nI most >>> (nI j &&& 31) ≤ 0) ↔ wd most ≤ j := by
      rw [nI_shr (by omega) (by omega), QI0, qn_le (by omega) (by omega), ← shr_zero_iff, Nat.shiftRight_eq_div_pow]
      generalize most / 2 ^ j = z
      omega
    by_cases c : wd most ≤ j
    · rw [if_pos (hc.mpr c)]
      exact Or.inr ⟨_, rfl, by congr 1; omega⟩
    · rw [if_neg (fun h => c (hc.mp h))]
      exact Or.inl ⟨_, rfl, q - 1, by omega, j + 1, by omega, qn_add j 1, by omega⟩
  obtain ⟨o, h1, h2⟩ := main
  rw [h1, obs, h2]
  unfold f_M_putLevels_j19
  have hrl := sRuns_lev (f := f) (n := nn) hnn hm
  obtain ⟨o1, p1, p2, p3⟩ := M_writeRuns (n := n) (cap := 90000) (pn := pn) (m := nn) (w := wd most) (f := f) (row := row) (L := L) (out := out) hn hnn hpn (by omega) (fun i hi => by have := (hf i hi).1; omega) (fun i hi => (hf i hi).2) (by omega) (by omega) h
  rw [p1, obs, p2, bnd_eq]
  have e1 : nI (L ++ sRuns f nn (wd most) 0).length - nI L.length = nI (sRuns f nn (wd most) 0).length := by
    rw [nI_sub (by simp)]; congr 1; simp
  have hlv : lv (nI (sRuns f nn (wd most) 0).length).toInt64 = (sRuns f nn (wd most) 0).length := lv_nI (by omega)
  have h2' := sVar2 (v := (sRuns f nn (wd most) 0).length) (by omega)
  rw [e1]
  obtain ⟨o2, r1, r2, r3⟩ := M_putVarint (n := n) (cap := 90000) (L := L) (row := o1.2) (nI (sRuns f nn (wd most) 0).length).toInt64 (by omega) (by omega) (by rw [hlv]; omega) (HM_front p3)
  rw [hlv] at r2 r3
  rw [r1, obs, r2]
  obtain ⟨o3, s1, s2⟩ := M_writeRuns (n := n) (cap := 90000) (pn := pn) (m := nn) (w := wd most) (f := f) (row := row) (L := L ++ sVar (sRuns f nn (wd most) 0).length) (out := o2.2) hn hnn hpn (by omega) (fun i hi => by have := (hf i hi).1; omega) (fun i hi => (hf i hi).2) (by omega) (by rw [List.length_append]; omega) r3
  rw [s1, obs]
  rw [List.append_assoc] at s2
  exact ⟨_, rfl, s2⟩
def sTell (t : Nat) (num : Nat → Int64) (S : Nat → Nat) (T : Nat → UInt8) (i : Nat) : List UInt8 :=
  if t = 3 then sText S T i else if t = 0 then [UInt8.ofNat (lv (num i))] else sVar (lv (zz (num i)))
theorem sTell_len {t c i : Nat} {num : Nat → Int64} {S : Nat → Nat} {T : Nat → UInt8} (hi : i < c) (hS : t = 3 → (∀ i, i < c → S i ≤ S (i + 1) ∧ S (i + 1) ≤ S i + 255) ∧ S c ≤ 20000) : (sTell t num S T i).length ≤ 257 := by
  unfold sTell
  split
  · rename_i c3
    have h1 := (hS c3).1 i hi
    have := sText_len (T := T) h1.2
    omega
  · split
    · simp
    · have := sVar10 (zz (num i)); omega
theorem W_tell {n cap t c i : Nat} {num : Nat → Int64} {S : Nat → Nat} {T : Nat → UInt8} {ty ofTexts count : Int32} {numbers : Nat → Int64} {starts texts : Nat → Int32} {L : List UInt8} {row : Nat → Int32}
    (hn : 100000 < n) (hty : ty = nI t) (ht3 : t ≤ 3) (hi : i < c) (hc1 : c ≤ 1000) (hS : t = 3 → (∀ i, i < c → S i ≤ S (i + 1)) ∧ S c ≤ 20000) (hC : VsC t c num S T ofTexts count numbers starts texts)
    (hc : cap < 100000) (hL : L.length + (sTell t num S T i).length ≤ cap) (h : HC L row) :
    ∃ o, f_W_tell n 1000 1001 20000 cap ty numbers starts texts (nI L.length) row (nI i) = some o ∧ QPC (L ++ sTell t num S T i) o := by
  unfold f_W_tell
  have I3 : (3 : Int32) = nI 3 := rfl
  rw [hty, I3, ife (by omega) (by omega), ife0 (by omega)]
  unfold sTell at hL ⊢
  by_cases c3 : t = 3
  · rw [if_pos c3] at hL
    obtain ⟨o, p1, p2⟩ := C_text (n := n) (cap := cap) (sn := 1001) (tn := 20000) (i := i) hn c3 hi (by omega) (by omega) (hS c3).2 (by omega) (hS c3).1 hC hc hL h
    rw [if_pos c3, if_pos c3, p1, obs]
    exact ⟨_, rfl, p2⟩
  · rw [if_neg c3] at hL
    rw [if_neg c3, if_neg c3]
    by_cases c0 : t = 0
    · rw [if_pos c0] at hL
      simp only [List.length_cons, List.length_nil] at hL
      rw [if_pos c0, if_pos c0, gd_nI (by omega) (by omega), qn_clamp (by omega), hC.2.2.1 c3 i hi]
      obtain ⟨o, p1, p2⟩ := B_put (cap := cap) ((num i).toInt32) (by omega) (by omega) h
      rw [p1, obs]
      rw [by8_l64] at p2
      exact ⟨_, rfl, p2⟩
    · rw [if_neg c0] at hL
      rw [if_neg c0, if_neg c0, gd_nI (by omega) (by omega), qn_clamp (by omega), hC.2.2.1 c3 i hi, F_zigzag, obs]
      obtain ⟨o, p1, p2⟩ := B_varint (n := n) (cap := cap) (L := L) (row := row) (zz (num i)) (by omega) (by omega) hL h
      rw [p1, obs]
      exact ⟨_, rfl, p2⟩
theorem M_putOne {n t c i : Nat} {num : Nat → Int64} {S : Nat → Nat} {T : Nat → UInt8} {ty values : Int32} {wholes : Nat → Int64} {frm bytes : Nat → Int32} {L : List UInt8} {out : Nat → Int32}
    (hn : 100000 < n) (hty : ty = nI t) (ht3 : t ≤ 3) (hi : i < c) (hc1 : c ≤ 1000) (hS : t = 3 → (∀ i, i < c → S i ≤ S (i + 1)) ∧ S c ≤ 20000) (hM : VsM t c num S T values wholes frm bytes)
    (hL : L.length + (sTell t num S T i).length ≤ 90000) (h : QHM L out) :
    ∃ o, f_M_putOne n 20000 1001 90000 1000 ty (nI L.length) bytes frm out wholes (nI i) = some o ∧ QPM (L ++ sTell t num S T i) o := by
  unfold f_M_putOne
  have I3 : (3 : Int32) = nI 3 := rfl
  rw [hty, I3, ife (by omega) (by omega), ife0 (by omega)]
  unfold sTell at hL ⊢
  by_cases c3 : t = 3
  · rw [if_pos c3] at hL
    obtain ⟨o, p1, p2⟩ := M_putText (n := n) (cap := 90000) (t := t) (c := c) (i := i) (L := L) (out := out) hn c3 hi hc1 (hS c3) hM (by omega) hL h
    rw [if_neg (show ¬ t = 0 by omega), if_pos c3, if_pos c3, p1, obs]
    exact ⟨_, rfl, p2⟩
  · rw [if_neg c3] at hL
    by_cases c0 : t = 0
    · rw [if_pos c0] at hL
      simp only [List.length_cons, List.length_nil] at hL
      rw [if_pos c0, gd_nI (by omega) (by omega), qn_clamp (by omega), hM.2.1 c3 i hi, if_neg c3, if_pos c0]
      obtain ⟨o, p1, p2⟩ := M_put (cap := 90000) ((num i).toInt32) (by omega) (by omega) h
      rw [p1, obs]
      rw [by8_l64] at p2
      exact ⟨_, rfl, p2⟩
    · rw [if_neg c0] at hL
      rw [if_neg c0, if_neg c3, gd_nI (by omega) (by omega), qn_clamp (by omega), hM.2.1 c3 i hi, M_zigzag, obs, if_neg c3, if_neg c0]
      obtain ⟨o, p1, p2⟩ := M_putVarint (n := n) (cap := 90000) (L := L) (row := out) (zz (num i)) (by omega) (by omega) hL h
      rw [p1, obs]
      exact ⟨_, rfl, p2⟩
/-- the BYTES of a page -/
def sHead (t nn c how : Nat) (num : Nat → Int64) (S : Nat → Nat) (T : Nat → UInt8) : List UInt8 :=
  sVar nn ++ sVar (nn - c) ++ [UInt8.ofNat how] ++ (if c = 0 then [] else sTell t num S T (mostA (cmpZ t num num S S T T) false c) ++ sTell t num S T (mostA (cmpZ t num num S S T T) true c))
def sPage (t nn c how : Nat) (num : Nat → Int64) (S : Nat → Nat) (T : Nat → UInt8) (body : List UInt8) : List UInt8 :=
  sHead t nn c how num S T ++ (sVar body.length ++ sFix (lv (qcrc body).toInt64) 4 ++ body)
theorem sHead_len {t nn c how : Nat} {num : Nat → Int64} {S : Nat → Nat} {T : Nat → UInt8} (hc1 : c ≤ nn) (hnn : nn ≤ 1000) (hS : t = 3 → (∀ i, i < c → S i ≤ S (i + 1) ∧ S (i + 1) ≤ S i + 255) ∧ S c ≤ 20000) : (sHead t nn c how num S T).length ≤ 519 := by
  unfold sHead
  have h1 := sVar2 (v := nn) (by omega)
  have h2 := sVar2 (v := nn - c) (by omega)
  simp only [List.length_append, List.length_cons, List.length_nil]
  split
  · simp only [List.length_nil]; omega
  · rename_i c0
    have a1 := mostA_lt (cmpZ t num num S S T T) false c (by omega)
    have a2 := mostA_lt (cmpZ t num num S S T T) true c (by omega)
    have b1 := sTell_len (t := t) (num := num) (S := S) (T := T) a1 hS
    have b2 := sTell_len (t := t) (num := num) (S := S) (T := T) a2 hS
    rw [List.length_append]; omega
theorem W_finish {n t nn c how : Nat} {num : Nat → Int64} {S : Nat → Nat} {T : Nat → UInt8} {ty ofTexts count : Int32} {numbers : Nat → Int64} {starts texts : Nat → Int32} {body : List UInt8} {brow orow : Nat → Int32}
    (hn : 100000 < n) (hty : ty = nI t) (ht3 : t ≤ 3) (hhow : how ≤ 3) (hc1 : c ≤ nn) (hnn : nn ≤ 1000) (hS : t = 3 → (∀ i, i < c → S i ≤ S (i + 1) ∧ S (i + 1) ≤ S i + 255) ∧ S c ≤ 20000) (hC : VsC t c num S T ofTexts count numbers starts texts)
    (hb : body.length ≤ 27000) (h : HC body brow) :
    ∃ o, f_W_finish n 32000 1000 1001 20000 32000 (nI nn) (nI body.length) brow ty ofTexts count numbers starts texts 0 orow (nI how) = some o ∧ QPC (sPage t nn c how num S T body) o := by
  have hS1 : t = 3 → (∀ i, i < c → S i ≤ S (i + 1)) ∧ S c ≤ 20000 := fun h => ⟨fun i hi => ((hS h).1 i hi).1, (hS h).2⟩
  unfold f_W_finish
  have s1 := sVar2 (v := nn) (by omega)
  have s2 := sVar2 (v := nn - c) (by omega)
  have s3 : (sVar body.length).length ≤ 3 := sVar_len 2 _ (by omega)
  have l1 : lv (nI nn).toInt64 = nn := lv_nI (by omega)
  have l2 : lv (nI (nn - c)).toInt64 = nn - c := lv_nI (by omega)
  have l3 : lv (nI body.length).toInt64 = body.length := lv_nI (by omega)
  obtain ⟨o1, p1, p2, p3⟩ := B_varint (n := n) (cap := 32000) (L := []) (row := orow) (nI nn).toInt64 (by omega) (by omega) (by rw [l1]; simp only [List.length_nil]; omega) (fun j hj => by simp at hj)
  rw [l1, List.nil_append] at p2 p3
  have p1' : f_B_varint n 32000 0 orow (nI nn).toInt64 = some o1 := p1
  rw [p1', obs, p2, hC.2.1, nI_sub hc1]
  obtain ⟨o2, q1, q2, q3⟩ := B_varint (n := n) (cap := 32000) (L := sVar nn) (row := o1.2) (nI (nn - c)).toInt64 (by omega) (by omega) (by rw [l2]; omega) p3
  rw [l2] at q2 q3
  rw [q1, obs, q2]
  obtain ⟨o3, r1, r2, r3⟩ := B_put (cap := 32000) (L := sVar nn ++ sVar (nn - c)) (nI how) (by omega) (by rw [List.length_append]; omega) q3
  rw [by8_nI] at r2 r3
  rw [r1, obs]
  -- the end of it
  have fin : ∀ (H : List UInt8) (ro : Nat → Int32), H.length ≤ 519 → HC H ro → ∃ o, f_W_finish_j75 n 32000 32000 (nI body.length) brow (nI H.length) ro = some o ∧ QPC (H ++ (sVar body.length ++ sFix (lv (qcrc body).toInt64) 4 ++ body)) o := by
    intro H ro hH hr
    unfold f_W_finish_j75
    obtain ⟨a1, b1, b2, b3⟩ := B_varint (n := n) (cap := 32000) (L := H) (row := ro) (nI body.length).toInt64 (by omega) (by omega) (by rw [l3]; omega) hr
    rw [l3] at b2 b3
    have hchk : f_F_checkOf n 32000 brow 0 (nI body.length) = some (qcrc body) := by
      have := F_checkOf (n := n) (cap := 32000) (a := 0) (L := body) (row := brow) hn (by omega) (by omega) (fun i hi => by rw [Nat.zero_add]; exact h i hi)
      rw [Nat.zero_add] at this
      exact this
    rw [b1, obs, hchk, obs, b2]
    obtain ⟨a2, c1, c2, c3⟩ := B_lowestFirst (n := n) (cap := 32000) (L := H ++ sVar body.length) (row := a1.2) (qcrc body).toInt64 (q := 4) (by omega) (by omega) (by omega) (by rw [List.length_append]; omega) b3
    have c1' : f_B_lowestFirst n 32000 (nI (H ++ sVar body.length).length) a1.2 (qcrc body).toInt64 4 = some a2 := c1
    rw [c1', obs, c2]
    obtain ⟨a3, d1, d2⟩ := B_append (cap := 32000) (pn := 32000) (a := 0) (L := H ++ sVar body.length ++ sFix (lv (qcrc body).toInt64) 4) (l := body) (row := a2.2) (p1 := brow) (by omega) (by omega) c3 (fun k hk => by rw [Nat.zero_add]; exact h k hk) (by simp only [List.length_append, sFix_len]; omega) (by omega)
    have d1' : f_B_append 32000 32000 (nI (H ++ sVar body.length ++ sFix (lv (qcrc body).toInt64) 4).length) a2.2 brow 0 (nI body.length) = some a3 := d1
    rw [d1', obs]
    simp only [List.append_assoc] at d2 ⊢
    exact ⟨_, rfl, d2⟩
  have hH := sHead_len (t := t) (how := how) (num := num) (T := T) hc1 hnn hS
  unfold sPage
  by_cases c0 : c = 0
  · have hm0 : nI c ≤ 0 := by rw [c0]; decide
    rw [if_pos hm0, r2]
    have hd : sHead t nn c how num S T = sVar nn ++ sVar (nn - c) ++ [UInt8.ofNat how] := by unfold sHead; rw [if_pos c0, List.append_nil]
    rw [hd] at hH ⊢
    exact fin _ o3.2 hH r3
  · have hm0 : ¬ nI c ≤ 0 := by rw [QI0, qn_le (by omega) (by omega)]; omega
    have a1 := mostA_lt (cmpZ t num num S S T T) false c (by omega)
    have a2 := mostA_lt (cmpZ t num num S S T T) true c (by omega)
    have hd : sHead t nn c how num S T = sVar nn ++ sVar (nn - c) ++ [UInt8.ofNat how] ++ sTell t num S T (mostA (cmpZ t num num S S T T) false c) ++ sTell t num S T (mostA (cmpZ t num num S S T T) true c) := by
      unfold sHead; rw [if_neg c0]; simp only [List.append_assoc]
    have f0 := V_firstMost (nm := 1000) (m := 1001) (tn := 20000) 0 hn (show c < 1001 by omega) (by omega) (by omega) (by omega) (fun h => ⟨(hS1 h).1, (hS1 h).2, by omega⟩) hC
    have f1 := V_firstMost (nm := 1000) (m := 1001) (tn := 20000) 1 hn (show c < 1001 by omega) (by omega) (by omega) (by omega) (fun h => ⟨(hS1 h).1, (hS1 h).2, by omega⟩) hC
    rw [if_neg c0] at f0 f1
    have g0 : gB 0 = false := rfl
    have g1 : gB 1 = true := rfl
    rw [g0] at f0
    rw [g1] at f1
    rw [hC.2.1] at f0 f1
    rw [if_neg hm0, f0, obs, r2]
    have hH' := hH
    rw [hd] at hH'
    simp only [List.length_append, List.length_cons, List.length_nil] at hH'
    obtain ⟨o4, t1, t2, t3⟩ := W_tell (n := n) (cap := 32000) (i := mostA (cmpZ t num num S S T T) false c) (L := sVar nn ++ sVar (nn - c) ++ [UInt8.ofNat how]) (row := o3.2) hn hty ht3 a1 (by omega) hS1 hC (by omega) (by simp only [List.length_append, List.length_cons, List.length_nil]; omega) r3
    rw [t1, obs, f1, obs, t2]
    obtain ⟨o5, u1, u2, u3⟩ := W_tell (n := n) (cap := 32000) (i := mostA (cmpZ t num num S S T T) true c) (L := sVar nn ++ sVar (nn - c) ++ [UInt8.ofNat how] ++ sTell t num S T (mostA (cmpZ t num num S S T T) false c)) (row := o4.2) hn hty ht3 a2 (by omega) hS1 hC (by omega) (by simp only [List.length_append, List.length_cons, List.length_nil]; omega) t3
    rw [u1, obs, u2]
    rw [hd] at hH ⊢
    exact fin _ o5.2 hH u3
