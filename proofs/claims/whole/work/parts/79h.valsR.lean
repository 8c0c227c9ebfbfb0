def pValsG (I : List UInt8) (e a c t how : Nat) : Nat ⊕ (Nat × (Nat → Int64) × (Nat → Nat) × (Nat → UInt8)) :=
  if t = 0 then (match pBools I e a c how with | .inl x => .inl x | .inr (a', f) => .inr (a', f, (fun _ => 0), (fun _ => 0)))
  else if t = 3 then (match pTexts I e a c how with | .inl x => .inl x | .inr (a', S, T) => .inr (a', (fun _ => 0), S, T))
  else (match pWholes I e a c t how with | .inl x => .inl x | .inr (a', f) => .inr (a', f, (fun _ => 0), (fun _ => 0)))
def pVals (I : List UInt8) (e a c t how : Nat) : Nat ⊕ ((Nat → Int64) × (Nat → Nat) × (Nat → UInt8)) :=
  match pValsG I e a c t how with
  | .inl x => .inl x
  | .inr (a', r) => if a' < e then .inl 6 else .inr r
def VOk (t c : Nat) (r : (Nat → Int64) × (Nat → Nat) × (Nat → UInt8)) : Prop := (t ≠ 3 → HAll t r.1 c ∧ r.2.1 0 = 0) ∧ (t = 3 → TxI c r.2.1 20000)
theorem R_158F {commons dNum nums numbers : Nat → Int64} {dOf dCnt at' to' f cnt : Int32} {dSt dTx wds starts texts : Nat → Int32} (hf : ¬ f = 0) : f_R_takeValues_j158 commons dOf dCnt dNum dSt dTx nums at' to' f wds cnt numbers starts texts = some (commons, dOf, dCnt, dNum, dSt, dTx, nums, at', to', f, wds, cnt, numbers, starts, texts) := by
  unfold f_R_takeValues_j158
  rw [S_endF hf, obs]
theorem R_158 {commons dNum nums numbers : Nat → Int64} {dOf dCnt cnt : Int32} {a e : Nat} {dSt dTx wds starts texts : Nat → Int32} (ha : a < 1000000) (he : e < 1000000) : f_R_takeValues_j158 commons dOf dCnt dNum dSt dTx nums (nI a) (nI e) 0 wds cnt numbers starts texts = some (commons, dOf, dCnt, dNum, dSt, dTx, nums, nI a, nI e, (if e ≤ a then 0 else 6), wds, cnt, numbers, starts, texts) := by
  unfold f_R_takeValues_j158
  rw [S_end0 ha he, obs]
theorem R_valEnd {I : List UInt8} {e a c t how : Nat} {r : Nat ⊕ (Nat × (Nat → Int64) × (Nat → Nat) × (Nat → UInt8))} {ofTexts : Int32} {commons dNum nums numbers : Nat → Int64} {dOf dCnt at' f cnt : Int32} {dSt dTx wds starts texts : Nat → Int32}
    (he : e < 1000000) (hr : pValsG I e a c t how = r) (hd : dSt 0 = nI 0) (hs : starts 0 = nI 0)
    (h : (∃ x, r = .inl x ∧ f = nI x ∧ ¬ nI x = 0) ∨ (∃ a' v, r = .inr (a', v) ∧ a' ≤ e ∧ at' = nI a' ∧ f = 0 ∧ VOk t c v ∧ VsC t c v.1 v.2.1 v.2.2 ofTexts cnt numbers starts texts)) :
    ∃ o, f_R_takeValues_j158 commons dOf dCnt dNum dSt dTx nums at' (nI e) f wds cnt numbers starts texts = some o ∧ o.2.2.2.2.1 0 = nI 0 ∧ o.2.2.2.2.2.2.2.2.2.2.2.2.2.1 0 = nI 0 ∧
      ((∃ x, pVals I e a c t how = .inl x ∧ o.2.2.2.2.2.2.2.2.2.1 = nI x ∧ ¬ nI x = 0) ∨ (∃ v, pVals I e a c t how = .inr v ∧ o.2.2.2.2.2.2.2.2.2.1 = 0 ∧ VOk t c v ∧ VsC t c v.1 v.2.1 v.2.2 ofTexts o.2.2.2.2.2.2.2.2.2.2.2.1 o.2.2.2.2.2.2.2.2.2.2.2.2.1 o.2.2.2.2.2.2.2.2.2.2.2.2.2.1 o.2.2.2.2.2.2.2.2.2.2.2.2.2.2)) := by
  unfold pVals
  rcases h with ⟨x, h1, h2, h3⟩ | ⟨a', v, h1, h2, h3, h4, h5, h6⟩
  · rw [hr, h1, R_158F (by rw [h2]; exact h3)]
    exact ⟨_, rfl, hd, hs, Or.inl ⟨x, rfl, h2, h3⟩⟩
  · rw [hr, h1, h3, h4, R_158 (by omega) he]
    simp only
    by_cases ce : a' < e
    · rw [if_pos ce, if_neg (by omega)]
      exact ⟨_, rfl, hd, hs, Or.inl ⟨6, rfl, rfl, by decide⟩⟩
    · rw [if_neg ce, if_pos (by omega)]
      exact ⟨_, rfl, hd, hs, Or.inr ⟨v, rfl, rfl, h5, h6⟩⟩
theorem pWords_holds {I : List UInt8} {e a c t : Nat} {r : Nat → Int64} (ht : t = 1 ∨ t = 2) (h : pWords I e a c t = .inr r) : HAll t r c := by
  unfold pWords pDictG at h
  split at h
  · cases h
  · split at h
    · cases h
    · split at h
      · cases h
      · rename_i a2 D hD
        split at h
        · cases h
        · split at h
          · cases h
          · split at h
            · cases h
            · unfold pkN at h
              split at h
              · rename_i hg
                cases h
                intro i hi
                exact pNumsG_holds ht (fun j hj => absurd hj (by omega)) hD _ (by have := hg i hi; omega)
              · cases h
theorem lastC_1 {t : Nat} (h : t = 1 ∨ t = 2) : lastC t = 2 := by unfold lastC; rw [if_neg (by omega), if_neg (by omega)]
theorem R_takeValues {n cap e a c t how : Nat} {I : List UInt8} {row : Nat → Int32} {commons dNum nums numbers : Nat → Int64} {dOf dCnt ofTexts count : Int32} {dSt dTx wds starts texts : Nat → Int32}
    (hn : 100000 < n) (hcap : cap < 100000) (hI : I.length ≤ cap) (he : e ≤ I.length) (ha : a ≤ e) (hc : c ≤ 1000) (ht : t ≤ 3) (hh : how ≤ lastC t) (h : HC I row) (hd0 : dSt 0 = nI 0) (hC : VsC t 0 (fun _ => 0) (fun _ => 0) (fun _ => 0) ofTexts count numbers starts texts) :
    ∃ o, f_R_takeValues n 2000 1000 1001 20000 2000 cap 4 1000 1001 20000 (nI c) (nI how) (nI t) commons dOf dCnt dNum dSt dTx nums (nI a) (nI e) 0 row wds ofTexts count numbers starts texts = some o ∧ o.2.2.2.2.1 0 = nI 0 ∧ o.2.2.2.2.2.2.2.2.2.2.2.2.2.1 0 = nI 0 ∧
      ((∃ x, pVals I e a c t how = .inl x ∧ o.2.2.2.2.2.2.2.2.2.1 = nI x ∧ ¬ nI x = 0) ∨ (∃ v, pVals I e a c t how = .inr v ∧ o.2.2.2.2.2.2.2.2.2.1 = 0 ∧ VOk t c v ∧ VsC t c v.1 v.2.1 v.2.2 ofTexts o.2.2.2.2.2.2.2.2.2.2.2.1 o.2.2.2.2.2.2.2.2.2.2.2.2.1 o.2.2.2.2.2.2.2.2.2.2.2.2.2.1 o.2.2.2.2.2.2.2.2.2.2.2.2.2.2)) := by
  have hlc : lastC t ≤ 3 := by unfold lastC; split; omega; split <;> omega
  have hs0 := hC.2.2.2.1
  unfold f_R_takeValues
  rw [if_pos rfl, ife0 (by omega), ife0 (by omega), C_lastCoding ht, obs, ife (by omega) (by omega), ife3 (by omega)]
  by_cases t0 : t = 0
  · subst t0
    obtain ⟨o, y1, y2⟩ := R_takeBools (n := n) (cap := cap) (e := e) (a := a) (c := c) (how := how) (I := I) (row := row) (nums := nums) (num := fun _ => 0) (ofTexts := ofTexts) (count := count) (numbers := numbers) (starts := starts) (texts := texts) (S := fun _ => 0) (T := fun _ => 0) hn hcap hI he ha hc (by omega) h hC
    rw [if_pos rfl, y1, obs]
    refine R_valEnd (by omega) rfl hd0 hs0 ?_
    unfold pValsG
    rw [if_pos rfl]
    rcases y2 with ⟨x, z1, z2, z3⟩ | ⟨a', f, z1, z2, z3, z4, z5, z6⟩
    · rw [z1]; exact Or.inl ⟨x, rfl, z2, z3⟩
    · rw [z1]; exact Or.inr ⟨a', _, rfl, z2, z4, z5, ⟨fun _ => ⟨z3, rfl⟩, fun h3 => absurd h3 (by omega)⟩, z6⟩
  · rw [if_neg t0]
    have hV : pValsG I e a c t how = if t = 3 then (match pTexts I e a c how with | .inl x => .inl x | .inr (a', S, T) => .inr (a', (fun _ => 0), S, T)) else (match pWholes I e a c t how with | .inl x => .inl x | .inr (a', f) => .inr (a', f, (fun _ => 0), (fun _ => 0))) := by
      unfold pValsG
      rw [if_neg t0]
    by_cases t3 : t = 3
    · subst t3
      rw [if_pos rfl] at hV
      rw [if_pos rfl]
      unfold pTexts at hV
      by_cases h0 : how = 0
      · obtain ⟨o, y1, y2, y3, y4⟩ := R_plainT (n := n) (cap := cap) (e := e) (a := a) (m := c) (I := I) (row := row) (S := fun _ => 0) (T := fun _ => 0) (num := fun _ => 0) (ofTexts := ofTexts) (count := count) (numbers := numbers) (starts := starts) (texts := texts) hn hcap hI he ha hc hC (TxI_0 _) h
        rw [if_pos h0] at hV
        rw [if_pos h0, y1, obs]
        refine R_valEnd (by omega) hV hd0 y2 ?_
        rcases y4 with ⟨x, z1, z2, z3⟩ | ⟨a', S, T, z1, z2, z3, z4, z5, z6⟩
        · rw [z1]; exact Or.inl ⟨x, rfl, z2, z3⟩
        · rw [z1]; exact Or.inr ⟨a', _, rfl, z2, z3, z4, ⟨fun h3 => absurd rfl h3, fun _ => z5⟩, z6⟩
      · rw [if_neg h0] at hV
        rw [if_neg h0]
        have hl3 : lastC 3 = 3 := rfl
        rw [hl3] at hh ⊢
        by_cases h3 : how = 3
        · obtain ⟨o, y1, y2, y3, y4⟩ := R_dictT (n := n) (cap := cap) (e := e) (a := a) (c := c) (I := I) (row := row) (dOf := dOf) (dCnt := dCnt) (ofTexts := ofTexts) (count := count) (dNum := dNum) (nums := nums) (numbers := numbers) (num := fun _ => 0) (dSt := dSt) (dTx := dTx) (starts := starts) (texts := texts) hn hcap hI he ha hc h hd0 hC
          rw [if_neg (by omega), if_neg (by omega)] at hV
          rw [if_pos h3, y1, obs]
          refine R_valEnd (by omega) hV y2 y3 ?_
          rcases y4 with ⟨x, z1, z2, z3⟩ | ⟨r, z1, z2, z3, z4, z5⟩
          · rw [z1]; exact Or.inl ⟨x, rfl, z2, z3⟩
          · rw [z1]; exact Or.inr ⟨e, _, rfl, Nat.le_refl _, z2, z3, ⟨fun h3 => absurd rfl h3, fun _ => z4⟩, z5⟩
        · obtain ⟨of, f1, f2⟩ := J_fill (n := n) (cap := 2000) (a := 0) (k := c) (p1 := commons) 0 hn (by omega) (by omega)
          have f1' : f_JA_fill_aJIIJ n 2000 commons 0 (nI c) 0 = some of := by
            rw [Nat.zero_add] at f1; exact f1
          rw [if_neg h3, f1', obs, ife2 (by omega)]
          unfold f_R_takeValues_j110 f_R_takeValues_j130
          by_cases h2 : how = 2
          · rw [if_neg (show ¬ how = 1 by omega), if_pos h2] at hV
            unfold pFront at hV
            rw [if_pos h2]
            obtain ⟨oc, y1, y2, y3⟩ := R_sized (n := n) (cap := cap) (pn := 2000) (e := e) (a := a) (c := c) (I := I) (row := row) (wds := wds) (p1 := of) hn hcap hI he ha (by omega) rfl h
            rw [y1, obs]
            rcases y3 with ⟨x, z1, z2, z3⟩ | ⟨a1, f, z1, z2, z3, z4, z5⟩
            · have hF : ¬ oc.2.2.1 = 0 := by rw [z2]; exact z3
              rw [R_sizedF (by omega) hF, obs, ife2 (by omega), if_pos h2, R_takeTextsF (by omega) hF, obs, y2]
              refine R_valEnd (by omega) hV hd0 hs0 ?_
              rw [z1]; exact Or.inl ⟨x, rfl, z2, z3⟩
            · rw [z1] at hV
              obtain ⟨oc2, w1, w2, w3⟩ := R_sized (n := n) (cap := cap) (pn := 2000) (e := e) (a := a1) (c := c) (I := I) (row := row) (wds := oc.2.2.2.1) (p1 := nums) hn hcap hI he z2 (by omega) rfl h
              rw [z3, y2, z4, w1, obs, ife2 (by omega), if_pos h2]
              rcases w3 with ⟨x, u1, u2, u3⟩ | ⟨a2, g, u1, u2, u3, u4, u5⟩
              · have hF : ¬ oc2.2.2.1 = 0 := by rw [u2]; exact u3
                rw [R_takeTextsF (by omega) hF, obs, w2]
                refine R_valEnd (by omega) hV hd0 hs0 ?_
                simp only
                rw [u1]; exact Or.inl ⟨x, rfl, u2, u3⟩
              · obtain ⟨ot, t1, t2, t3⟩ := R_takeTexts (n := n) (cap := cap) (e := e) (a := a2) (m := c) (I := I) (row := row) (num := fun _ => 0) (cs := oc.2.2.2.2) (nu := oc2.2.2.2.2) (f := f) (g := g) (S := fun _ => 0) (T := fun _ => 0) (ofTexts := ofTexts) (count := count) (numbers := numbers) (starts := starts) (texts := texts) hn hcap hI he u2 hc z5 u5 hC (TxI_0 _) h
                rw [u3, w2, u4, t1, obs]
                refine R_valEnd (by omega) hV hd0 t2 ?_
                simp only
                rw [u1]
                simp only
                rcases t3 with ⟨x, v1, v2, v3⟩ | ⟨a', S, T, v1, v2, v3, v4, v5, v6⟩
                · rw [v1]; exact Or.inl ⟨x, rfl, v2, v3⟩
                · rw [v1]; exact Or.inr ⟨a', _, rfl, v2, v3, v4, ⟨fun h3 => absurd rfl h3, fun _ => v5⟩, v6⟩
          · have h1 : how = 1 := by omega
            rw [if_pos h1] at hV
            unfold pLens at hV
            rw [if_neg h2]
            obtain ⟨oc, y1, y2, y3⟩ := R_sized (n := n) (cap := cap) (pn := 2000) (e := e) (a := a) (c := c) (I := I) (row := row) (wds := wds) (p1 := nums) hn hcap hI he ha (by omega) rfl h
            rw [y1, obs, ife2 (by omega), if_neg h2]
            rcases y3 with ⟨x, z1, z2, z3⟩ | ⟨a1, f, z1, z2, z3, z4, z5⟩
            · have hF : ¬ oc.2.2.1 = 0 := by rw [z2]; exact z3
              rw [R_lensF (by omega) hF, obs, R_takeTextsF (by omega) hF, obs, y2]
              refine R_valEnd (by omega) hV hd0 hs0 ?_
              rw [z1]; exact Or.inl ⟨x, rfl, z2, z3⟩
            · rw [z1] at hV
              simp only at hV
              rw [z4, R_lens hn hc z5, obs, z3, y2]
              by_cases ok : LOk f c
              · rw [if_pos ok] at hV
                obtain ⟨ot, t1, t2, t3⟩ := R_takeTexts (n := n) (cap := cap) (e := e) (a := a1) (m := c) (I := I) (row := row) (num := fun _ => 0) (cs := of) (nu := oc.2.2.2.2) (f := fun _ => 0) (g := f) (S := fun _ => 0) (T := fun _ => 0) (ofTexts := ofTexts) (count := count) (numbers := numbers) (starts := starts) (texts := texts) hn hcap hI he z2 hc (fun j hj => by rw [f2 j, if_pos (by omega)]) z5 hC (TxI_0 _) h
                have hz : (fun i => lv ((fun _ : Nat => (0 : Int64)) i)) = (fun _ : Nat => 0) := rfl
                rw [hz] at t3
                rw [if_pos ok, t1, obs]
                refine R_valEnd (by omega) hV hd0 t2 ?_
                rcases t3 with ⟨x, v1, v2, v3⟩ | ⟨a', S, T, v1, v2, v3, v4, v5, v6⟩
                · rw [v1]; exact Or.inl ⟨x, rfl, v2, v3⟩
                · rw [v1]; exact Or.inr ⟨a', _, rfl, v2, v3, v4, ⟨fun h3 => absurd rfl h3, fun _ => v5⟩, v6⟩
              · rw [if_neg ok] at hV
                rw [if_neg ok, R_takeTextsF (by omega) (show ¬ (7 : Int32) = 0 by decide), obs]
                refine R_valEnd (by omega) hV hd0 hs0 ?_
                exact Or.inl ⟨7, rfl, rfl, by decide⟩
    · have ht12 : t = 1 ∨ t = 2 := by omega
      rw [if_neg t3] at hV
      rw [if_neg t3, lastC_1 ht12]
      rw [lastC_1 ht12] at hh
      unfold pWholes at hV
      by_cases h0 : how = 0
      · obtain ⟨o, y1, y2, y4⟩ := R_plainN (n := n) (cap := cap) (e := e) (a := a) (m := c) (t := t) (I := I) (row := row) (S := fun _ => 0) (T := fun _ => 0) (num := fun _ => 0) (ofTexts := ofTexts) (count := count) (numbers := numbers) (starts := starts) (texts := texts) hn hcap hI he ha hc ht12 hC h
        rw [if_pos h0] at hV
        rw [if_pos h0, y1, obs]
        refine R_valEnd (by omega) hV hd0 y2 ?_
        rcases y4 with ⟨x, z1, z2, z3⟩ | ⟨a', f, z1, z2, z3, z4, z5⟩
        · rw [z1]; exact Or.inl ⟨x, rfl, z2, z3⟩
        · rw [z1]
          exact Or.inr ⟨a', _, rfl, z2, z3, z4, ⟨fun _ => ⟨fun i hi => pNumsG_holds ht12 (fun j hj => absurd hj (by omega)) z1 i (by omega), rfl⟩, fun h3 => absurd h3 t3⟩, z5⟩
      · rw [if_neg h0] at hV
        rw [if_neg h0]
        by_cases h2 : how = 2
        · obtain ⟨o, y1, y2, y3, y4⟩ := R_dictN (n := n) (cap := cap) (e := e) (a := a) (c := c) (t := t) (I := I) (row := row) (dOf := dOf) (dCnt := dCnt) (ofTexts := ofTexts) (count := count) (dNum := dNum) (nums := nums) (numbers := numbers) (num := fun _ => 0) (dSt := dSt) (dTx := dTx) (starts := starts) (texts := texts) (S := fun _ => 0) (T := fun _ => 0) hn hcap hI he ha hc ht12 h hd0 hC
          rw [if_neg (by omega)] at hV
          rw [if_pos h2, y1, obs]
          refine R_valEnd (by omega) hV y2 y3 ?_
          rcases y4 with ⟨x, z1, z2, z3⟩ | ⟨r, z1, z2, z3, z4⟩
          · rw [z1]; exact Or.inl ⟨x, rfl, z2, z3⟩
          · rw [z1]; exact Or.inr ⟨e, _, rfl, Nat.le_refl _, z2, z3, ⟨fun _ => ⟨pWords_holds ht12 z1, rfl⟩, fun h3 => absurd h3 t3⟩, z4⟩
        · rw [if_pos (show how = 1 by omega)] at hV
          rw [if_neg h2]
          obtain ⟨oc, y1, y3⟩ := S_code (n := n) (cap := cap) (pn := 2000) (e := e) (a := a) (I := I) (row := row) (wds := wds) (p1 := nums) hn hcap hI he ha rfl h
          rw [y1, obs]
          unfold pCodeV pCodeN at hV
          rcases y3 with ⟨x, z1, z2, z3⟩ | ⟨m, f, z1, z2, z3, z4, z5, z6⟩
          · have hF : ¬ oc.2.2.1 = 0 := by rw [z2]; exact z3
            rw [R_countF hF, obs, R_takeNumbersF (by omega) hF, obs]
            refine R_valEnd (by omega) hV hd0 hs0 ?_
            rw [z1]; exact Or.inl ⟨x, rfl, z2, z3⟩
          · rw [z1] at hV
            simp only at hV
            rw [z3, z5, R_count0 z2 (by omega), obs]
            by_cases cc : m = c
            · rw [if_pos cc] at hV
              obtain ⟨on, t1, t2⟩ := R_takeNumbers (n := n) (c := c) (t := t) (nums := oc.2.2.2.2) (f := f) (num := fun _ => 0) (ofTexts := ofTexts) (count := count) (numbers := numbers) (starts := starts) (texts := texts) (S := fun _ => 0) (T := fun _ => 0) hn hc (by omega) (fun j hj => z6 j (by omega)) hC
              rw [if_pos cc, t1, obs, z4]
              refine R_valEnd (by omega) hV hd0 hs0 ?_
              simp only
              rcases t2 with ⟨x, v1, v2, v3⟩ | ⟨v1, v2, v3, v4⟩
              · rw [v1]; exact Or.inl ⟨x, rfl, v2, v3⟩
              · rw [v1]; exact Or.inr ⟨e, _, rfl, Nat.le_refl _, rfl, v3, ⟨fun _ => ⟨v2, rfl⟩, fun h3 => absurd h3 t3⟩, v4⟩
            · rw [if_neg cc] at hV
              rw [if_neg cc, R_takeNumbersF (by omega) (show ¬ (4 : Int32) = 0 by decide), obs]
              refine R_valEnd (by omega) hV hd0 hs0 ?_
              exact Or.inl ⟨4, rfl, rfl, by decide⟩
