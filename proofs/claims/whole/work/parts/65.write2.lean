theorem M_finish {n t nn c how : Nat} {num : Nat → Int64} {S : Nat → Nat} {T : Nat → UInt8} {ty values code lc : Int32} {wholes longs : Nat → Int64} {frm bytes nums : Nat → Int32} {body : List UInt8} {mbody out : Nat → Int32}
    (hn : 100000 < n) (hty : ty = nI t) (ht3 : t ≤ 3) (hhow : how ≤ 3) (hc1 : c ≤ nn) (hnn : nn ≤ 1000) (hS : t = 3 → (∀ i, i < c → S i ≤ S (i + 1) ∧ S (i + 1) ≤ S i + 255) ∧ S c ≤ 20000) (hM : VsM t c num S T values wholes frm bytes)
    (hb : body.length ≤ 27000) (h : QHM body mbody) :
    ∃ o, f_M_write_j161 n 90000 20000 1001 90000 1000 code ty (nI nn) values (nI how) (nI body.length) lc mbody bytes frm longs nums out wholes = some o ∧ o.1 = nI (sPage t nn c how num S T body).length ∧ o.2.2.1 = nI how ∧ o.2.2.2.1 = nI body.length ∧ o.2.2.2.2.1 = nI (sPage t nn c how num S T body).length ∧ QHM (sPage t nn c how num S T body) o.2.2.2.2.2.2.2.2.2 := by
  have hS1 : t = 3 → (∀ i, i < c → S i ≤ S (i + 1)) ∧ S c ≤ 20000 := fun h => ⟨fun i hi => ((hS h).1 i hi).1, (hS h).2⟩
  unfold f_M_write_j161
  have s1 := sVar2 (v := nn) (by omega)
  have s2 := sVar2 (v := nn - c) (by omega)
  have s3 : (sVar body.length).length ≤ 3 := sVar_len 2 _ (by omega)
  have l1 : lv (nI nn).toInt64 = nn := lv_nI (by omega)
  have l2 : lv (nI (nn - c)).toInt64 = nn - c := lv_nI (by omega)
  have l3 : lv (nI body.length).toInt64 = body.length := lv_nI (by omega)
  obtain ⟨o1, p1, p2, p3⟩ := M_putVarint (n := n) (cap := 90000) (L := []) (row := out) (nI nn).toInt64 (by omega) (by omega) (by rw [l1]; simp only [List.length_nil]; omega) (fun j hj => by simp at hj)
  rw [l1, List.nil_append] at p2 p3
  have p1' : f_M_putVarint n 90000 0 out (nI nn).toInt64 = some o1 := p1
  rw [p1', obs, p2, hM.1, nI_sub hc1]
  obtain ⟨o2, q1, q2, q3⟩ := M_putVarint (n := n) (cap := 90000) (L := sVar nn) (row := o1.2) (nI (nn - c)).toInt64 (by omega) (by omega) (by rw [l2]; omega) p3
  rw [l2] at q2 q3
  rw [q1, obs, q2]
  obtain ⟨o3, r1, r2, r3⟩ := M_put (cap := 90000) (L := sVar nn ++ sVar (nn - c)) (nI how) (by omega) (by rw [List.length_append]; omega) q3
  rw [by8_nI] at r2 r3
  rw [r1, obs]
  have fin : ∀ (H : List UInt8) (ro : Nat → Int32), H.length ≤ 519 → QHM H ro → ∃ o, f_M_write_j222 n 90000 90000 code (nI how) (nI body.length) (nI H.length) lc mbody longs nums ro = some o ∧ o.1 = nI (H ++ (sVar body.length ++ sFix (lv (qcrc body).toInt64) 4 ++ body)).length ∧ o.2.2.1 = nI how ∧ o.2.2.2.1 = nI body.length ∧ o.2.2.2.2.1 = nI (H ++ (sVar body.length ++ sFix (lv (qcrc body).toInt64) 4 ++ body)).length ∧ QHM (H ++ (sVar body.length ++ sFix (lv (qcrc body).toInt64) 4 ++ body)) o.2.2.2.2.2.2.2.2.2 := by
    intro H ro hH hr
    unfold f_M_write_j222
    obtain ⟨a1, b1, b2, b3⟩ := M_putVarint (n := n) (cap := 90000) (L := H) (row := ro) (nI body.length).toInt64 (by omega) (by omega) (by rw [l3]; omega) hr
    rw [l3] at b2 b3
    have hchk : f_M_check n 90000 mbody 0 (nI body.length) = some (qcrc body) := by
      have := M_check (n := n) (cap := 90000) (a := 0) (L := body) (row := mbody) hn (by omega) (by omega) (fun i hi => by rw [Nat.zero_add]; exact h i hi)
      rw [Nat.zero_add] at this
      exact this
    rw [b1, obs, hchk, obs, b2]
    obtain ⟨a2, c1, c2, c3⟩ := M_putFixed (n := n) (cap := 90000) (L := H ++ sVar body.length) (row := a1.2) (qcrc body).toInt64 (q := 4) (by omega) (by omega) (by omega) (by rw [List.length_append]; omega) b3
    have c1' : f_M_putFixed n 90000 (nI (H ++ sVar body.length).length) a1.2 (qcrc body).toInt64 4 = some a2 := c1
    rw [c1', obs, c2]
    generalize hX : H ++ sVar body.length ++ sFix (lv (qcrc body).toInt64) 4 = X at *
    have hlX : X.length = H.length + (sVar body.length).length + 4 := by rw [← hX]; simp only [List.length_append, sFix_len]
    have main : ∃ o, lp (fun v => f_M_write_l251 90000 90000 (nI body.length) mbody v.1 v.2.1 v.2.2) n (nI X.length, a2.2, (0 : Int32)) = some o ∧ QPM (X ++ body) (o.1, o.2.1) := by
      have main' : ∃ o, lp (fun v => f_M_write_l251 90000 90000 (nI body.length) mbody v.1 v.2.1 v.2.2) n (nI X.length, a2.2, (0 : Int32)) = some o ∧ QPM (X ++ body.take body.length) (o.1, o.2.1) := by
        refine lp_inv (fun q u => ∃ k, k + q = body.length ∧ u.2.2 = nI k ∧ QPM (X ++ body.take k) (u.1, u.2.1)) _ ?_ body.length n _ ⟨0, by omega, rfl, by simp [QPM, c3]⟩ (by omega)
        rintro q ⟨sz, ou, k'⟩ ⟨k, y1, y2, y3, y4⟩
        simp only at y2 y3 y4
        subst y2; subst y3
        show (∃ w', f_M_write_l251 90000 90000 (nI body.length) mbody (nI _) ou (nI k) = _ ∧ _) ∨ (∃ x, f_M_write_l251 90000 90000 (nI body.length) mbody (nI _) ou (nI k) = _ ∧ _)
        unfold f_M_write_l251
        rw [ifle (by omega) (by omega)]
        by_cases ck : body.length ≤ k
        · have : k = body.length := by omega
          subst this
          exact Or.inr ⟨_, by rw [if_pos ck], rfl, y4⟩
        · obtain ⟨o', d1, d2⟩ := M_put (cap := 90000) (mbody k) (by omega) (by rw [List.length_append, List.length_take]; omega) y4
          rw [if_neg ck, gd_nI (by omega) (by omega), qn_clamp (by omega), d1, obs]
          refine Or.inl ⟨_, rfl, q - 1, by omega, k + 1, by omega, qn_add k 1, ?_⟩
          rw [h k (by omega), by8_um, List.append_assoc] at d2
          rw [List.take_add_one, List.getElem?_eq_getElem (show k < body.length by omega), Option.toList_some]
          exact d2
      rwa [List.take_length] at main'
    obtain ⟨o, d1, d2, d3⟩ := main
    simp only at d2 d3
    rw [d1, obs]
    have hXe : H ++ (sVar body.length ++ sFix (lv (qcrc body).toInt64) 4 ++ body) = X ++ body := by rw [← hX]; simp only [List.append_assoc]
    rw [hXe]
    exact ⟨_, rfl, d2, rfl, rfl, d2, d3⟩
  have hH := sHead_len (t := t) (how := how) (num := num) (T := T) hc1 hnn hS
  unfold sPage
  by_cases c0 : c = 0
  · have hm0 : nI c ≤ 0 := by rw [c0]; decide
    rw [if_pos hm0, r2]
    have hd : sHead t nn c how num S T = sVar nn ++ sVar (nn - c) ++ [UInt8.ofNat how] := by unfold sHead; rw [if_pos c0, List.append_nil]
    rw [hd] at hH ⊢
    exact fin _ o3.2 hH r3
  · have hm0 : ¬ nI c ≤ 0 := by rw [QI0, qn_le (by omega) (by omega)]; omega
    have a1 := mostA_lt (cmpZ t num num S S T T) false c (by omega)
    have a2 := mostA_lt (cmpZ t num num S S T T) true c (by omega)
    have hd : sHead t nn c how num S T = sVar nn ++ sVar (nn - c) ++ [UInt8.ofNat how] ++ sTell t num S T (mostA (cmpZ t num num S S T T) false c) ++ sTell t num S T (mostA (cmpZ t num num S S T T) true c) := by
      unfold sHead; rw [if_neg c0]; simp only [List.append_assoc]
    have f0 := M_mostOf (nm := 1000) (m := 1001) (tn := 20000) 0 hn hty ht3 (show c < 1001 by omega) (by omega) (by omega) (by omega) (fun h => ⟨(hS1 h).1, (hS1 h).2, by omega⟩) hM
    have f1 := M_mostOf (nm := 1000) (m := 1001) (tn := 20000) 1 hn hty ht3 (show c < 1001 by omega) (by omega) (by omega) (by omega) (fun h => ⟨(hS1 h).1, (hS1 h).2, by omega⟩) hM
    rw [if_neg c0] at f0 f1
    have g0 : gB 0 = false := rfl
    have g1 : gB 1 = true := rfl
    rw [g0, hM.1] at f0
    rw [g1, hM.1] at f1
    rw [if_neg hm0, f0, obs, r2]
    have hH' := hH
    rw [hd] at hH'
    simp only [List.length_append, List.length_cons, List.length_nil] at hH'
    obtain ⟨o4, t1, t2, t3⟩ := M_putOne (n := n) (i := mostA (cmpZ t num num S S T T) false c) (L := sVar nn ++ sVar (nn - c) ++ [UInt8.ofNat how]) (out := o3.2) hn hty ht3 a1 (by omega) hS1 hM (by simp only [List.length_append, List.length_cons, List.length_nil]; omega) r3
    rw [t1, obs, f1, obs, t2]
    obtain ⟨o5, u1, u2, u3⟩ := M_putOne (n := n) (i := mostA (cmpZ t num num S S T T) true c) (L := sVar nn ++ sVar (nn - c) ++ [UInt8.ofNat how] ++ sTell t num S T (mostA (cmpZ t num num S S T T) false c)) (out := o4.2) hn hty ht3 a2 (by omega) hS1 hM (by simp only [List.length_append, List.length_cons, List.length_nil]; omega) t3
    rw [u1, obs, u2]
    rw [hd] at hH ⊢
    exact fin _ o5.2 hH u3
/-- the first of the shortest -/
def best (len : Nat → Nat) : Nat → Nat
  | 0 => 0
  | k + 1 => if len (k + 1) < len (best len k) then k + 1 else best len k
theorem best_le (len : Nat → Nat) (k : Nat) : best len k ≤ k := by
  induction k with
  | zero => exact Nat.le_refl _
  | succ k ih => simp only [best]; split <;> omega
theorem M_writeEnd {n t r d nn c how : Nat} {rp df : Nat → Nat} {num : Nat → Int64} {S : Nat → Nat} {T : Nat → UInt8} {ty R D entries values code lc : Int32} {wholes longs : Nat → Int64} {definitions repetitions frm bytes nums mbody out : Nat → Int32}
    (hn : 100000 < n) (ht3 : t ≤ 3) (hrd : r ≤ d) (hd16 : d ≤ 16) (hhow : how ≤ lastC t) (hV : PgV t r d nn c rp df num S) (hCm : Col t r d ty R D) (hM : PgM t nn c rp df num S T entries values definitions repetitions wholes frm bytes) :
    ∃ o, f_M_write_j93 n 90000 20000 1000 1001 2000 1008 90000 1000 1000 code ty R D entries values (nI how) 0 lc mbody bytes definitions frm longs nums out repetitions wholes = some o ∧ o.1 = nI (sPage t nn c how num S T (sLev rp nn r ++ sLev df nn d ++ sVals t c num S T how)).length ∧ o.2.2.1 = nI how ∧ o.2.2.2.1 = nI (sLev rp nn r ++ sLev df nn d ++ sVals t c num S T how).length ∧ o.2.2.2.2.1 = nI (sPage t nn c how num S T (sLev rp nn r ++ sLev df nn d ++ sVals t c num S T how)).length ∧ QHM (sPage t nn c how num S T (sLev rp nn r ++ sLev df nn d ++ sVals t c num S T how)) o.2.2.2.2.2.2.2.2.2 := by
  have hcn := PgV_c hV
  obtain ⟨w1, w2, w3, w4, w5, w6⟩ := hV
  obtain ⟨b1, b2, b3⟩ := hCm
  obtain ⟨g1, g2, gM⟩ := hM
  have hlc : lastC t ≤ 3 := by unfold lastC; split <;> (try split) <;> omega
  subst b2; subst b3; subst g1
  unfold f_M_write_j93
  have e1 := sLev_len (f := rp) (n := nn) (most := r) w1 (by omega)
  have e2 := sLev_len (f := df) (n := nn) (most := d) w1 hd16
  have e3 := sVals_len (t := t) (c := c) (how := how) (num := num) (S := S) (T := T) (by omega) w6
  obtain ⟨o1, p1, p2, p3⟩ := M_putLevels (n := n) (pn := 1000) (nn := nn) (most := r) (f := rp) (L := []) (out := out) (row := repetitions) hn (by omega) w1 (by omega) (fun k hk => ⟨(w3 k hk).1, (g2 k hk).2⟩) (by simp) (fun j hj => by simp at hj)
  have p1' : f_M_putLevels n 90000 1000 (nI nn) 0 out repetitions (nI r) = some o1 := p1
  rw [List.nil_append] at p2 p3
  rw [p1', obs, p2]
  obtain ⟨o2, q1, q2, q3⟩ := M_putLevels (n := n) (pn := 1000) (nn := nn) (most := d) (f := df) (L := sLev rp nn r) (out := o1.2) (row := definitions) hn (by omega) w1 hd16 (fun k hk => ⟨(w3 k hk).2, (g2 k hk).1⟩) (by omega) p3
  rw [q1, obs, q2]
  obtain ⟨o3, r1, r2, r3⟩ := M_writeValues (n := n) (t := t) (c := c) (how := how) (lc := lc) (longs := longs) (nums := nums) (L := sLev rp nn r ++ sLev df nn d) (out := o2.2) hn b1 ht3 hhow (by omega) w5 w4 w6 gM (by rw [List.length_append]; omega) q3
  simp only at r2 r3
  rw [r1, obs, r2]
  generalize hB : sLev rp nn r ++ sLev df nn d ++ sVals t c num S T how = B at *
  have hlB : B.length ≤ 27000 := by rw [← hB]; simp only [List.length_append]; omega
  have main : ∃ o, lp (fun v => f_M_write_l135 90000 90000 (nI B.length) o3.2.2.2.2 v.1 v.2) n (mbody, (0 : Int32)) = some o ∧ QHM B o.1 := by
    have main' : ∃ o, lp (fun v => f_M_write_l135 90000 90000 (nI B.length) o3.2.2.2.2 v.1 v.2) n (mbody, (0 : Int32)) = some o ∧ QHM (B.take B.length) o.1 := by
      refine lp_inv (fun q w => ∃ j, j + q = B.length ∧ w.2 = nI j ∧ QHM (B.take j) w.1) _ ?_ B.length n _ ⟨0, by omega, rfl, fun j hj => by simp at hj⟩ (by omega)
      rintro q ⟨f, j'⟩ ⟨j, y1, y2, y3⟩
      simp only at y2 y3
      subst y2
      show (∃ w', f_M_write_l135 90000 90000 (nI B.length) o3.2.2.2.2 f (nI j) = _ ∧ _) ∨ (∃ e, f_M_write_l135 90000 90000 (nI B.length) o3.2.2.2.2 f (nI j) = _ ∧ _)
      unfold f_M_write_l135
      rw [ifle (by omega) (by omega)]
      by_cases ck : B.length ≤ j
      · have : j = B.length := by omega
        subst this
        exact Or.inr ⟨_, by rw [if_pos ck], y3⟩
      · rw [if_neg ck, gd_nI (by omega) (by omega), bnd_eq, gd_nI (by omega) (by omega), qn_clamp (by omega), r3 j (by omega)]
        exact Or.inl ⟨_, rfl, q - 1, by omega, j + 1, by omega, qn_add j 1, HM_step (by omega) y3⟩
    rwa [List.take_length] at main'
  obtain ⟨o4, s1, s2⟩ := main
  rw [s1, obs]
  exact M_finish (n := n) (t := t) (nn := nn) (c := c) (how := how) hn b1 ht3 (by omega) (by omega) w1 w6 gM hlB s2
theorem M_codings {t : Nat} (h : t ≤ 3) : f_M_codings (nI t) = some (nI (lastC t + 1)) := by
  have : ∀ j : Fin 4, f_M_codings (nI j.val) = some (nI (lastC j.val + 1)) := by decide
  exact this ⟨t, by omega⟩
theorem p_write {n t r d nn c : Nat} {rp df : Nat → Nat} {num : Nat → Int64} {S : Nat → Nat} {T : Nat → UInt8} {ty R D mty mR mD : Int32} {entries valued : Int32} {definitions repetitions valueNumbers : Nat → Int32} {ofTexts count : Int32} {numbers : Nat → Int64} {starts texts : Nat → Int32} {mentries values : Int32} {mdef mrep : Nat → Int32} {wholes : Nat → Int64} {frm bytes : Nat → Int32}
    {lastCoding lastBody mcoding mbodySize we wl wbs wdc wps mlc : Int32} {orow wbr wpr wdf wds mbody mnums mout : Nat → Int32} {wcom wnum mlongs : Nat → Int64}
    (v1 : Int32) (hn : 100000 < n) (ht3 : t ≤ 3) (hrd : r ≤ d) (hd16 : d ≤ 16) (hV : PgV t r d nn c rp df num S) (hCx : Col t r d ty R D) (hCm : Col t r d mty mR mD)
    (hC : PgC t d nn c rp df num S T entries valued definitions repetitions valueNumbers ofTexts count numbers starts texts) (hM : PgM t nn c rp df num S T mentries values mdef mrep wholes frm bytes) (hlc : lastCoding = mcoding) (hlb : lastBody = mbodySize) :
    ∃ o1 o2, f_F_write n 32000 1000 1000 1000 1001 20000 32000 1000 1000 2048 1000 4000 lastCoding lastBody ty R D orow entries definitions repetitions ofTexts count numbers starts texts we wl wbs wbr wcom wdc wdf wds wnum wps wpr v1 = some o1 ∧
      f_M_write n 90000 20000 1000 1001 2000 1008 90000 1000 1000 mty mR mD mentries values mcoding mbodySize mlc mbody bytes mdef frm mlongs mnums mout mrep wholes v1 = some o2 ∧ o1.1 = o2.1 ∧
      o1.2.1 = o2.2.2.1 ∧ o1.2.2.1 = o2.2.2.2.1 ∧ QBy 32000 o1.2.2.2.1 o1.2.2.2.2.1 o2.2.2.2.2.1 o2.2.2.2.2.2.2.2.2.2 := by
  have hcn := PgV_c hV
  have hV' := hV
  have hM' := hM
  have hCm' := hCm
  have hlcb : lastC t ≤ 3 := by unfold lastC; split <;> (try split) <;> omega
  obtain ⟨w1, w2, w3, w4, w5, w6⟩ := hV
  obtain ⟨a1, a2, a3⟩ := hCx
  obtain ⟨b1, b2, b3⟩ := hCm
  obtain ⟨e1, e2, e3, eC⟩ := hC
  obtain ⟨g1, g2, gM⟩ := hM
  subst a2; subst a3; subst e1
  have hno : ∀ (x : Nat → Int32) (y : Nat → Int32), QBy 32000 0 x 0 y := fun x y => ⟨[], by simp, rfl, fun j hj => by simp at hj, rfl, fun j hj => by simp at hj⟩
  unfold f_F_write f_M_write
  rw [show f_B_cut 0 = some (0 : Int32) from rfl, obs, g1, ife0 (by omega), ife0 (by omega)]
  by_cases c0 : nn = 0
  · rw [if_pos c0, if_pos c0]
    exact ⟨_, _, rfl, rfl, rfl, hlc, hlb, hno _ _⟩
  rw [if_neg c0, if_neg c0]
  by_cases cv : v1 < -1
  · rw [if_pos cv, if_pos cv]
    exact ⟨_, _, rfl, rfl, rfl, hlc, hlb, hno _ _⟩
  rw [if_neg cv, if_neg cv, a1, b1, C_lastCoding ht3, M_codings ht3, obs, obs]
  have z0 : (-1 : Int32).toInt = -1 := rfl
  have hvl : (v1 ≤ nI (lastC t)) ↔ (v1 < nI (lastC t + 1)) := by
    rw [Int32.le_iff_toInt_le, Int32.lt_iff_toInt_lt, qn_toInt (by omega), qn_toInt (by omega)]; omega
  by_cases cl : v1 ≤ nI (lastC t)
  · rw [if_pos cl, if_pos (hvl.mp cl)]
    -- the levels
    obtain ⟨oL, l1, l2, l3, l4, l5⟩ := W_putLevels (n := n) (nn := nn) (r := r) (d := d) (rp := rp) (df := df) (brow := wbr) (prow := wpr) (defs := definitions) (reps := repetitions) (nums := wnum) wps hn w1 (by omega) hd16 (fun k hk => ⟨(w3 k hk).1, (w3 k hk).2, (e3 k hk).2.1, (e3 k hk).1⟩)
    rw [l1, obs, l2, l3]
    have hs1 := sLev_len (f := rp) (n := nn) (most := r) w1 (by omega)
    have hs2 := sLev_len (f := df) (n := nn) (most := d) w1 hd16
    generalize hLv : sLev rp nn r ++ sLev df nn d = Lv at *
    have hlL : Lv.length ≤ 3000 := by rw [← hLv, List.length_append]; omega
    -- with a coding chosen
    have hend : ∀ (how : Nat) (br : Nat → Int32) (co nu : Nat → Int64) (dc ps : Int32) (fi' sl pr : Nat → Int32), how ≤ lastC t → HC Lv br →
        ∃ o, f_F_write_j109 n 32000 1000 1001 20000 32000 1000 1000 2048 1000 4000 (nI t) 0 orow ofTexts count numbers starts texts (nI nn) (nI Lv.length) br co dc fi' sl nu ps pr (nI how) = some o ∧ o.1 = nI (sPage t nn c how num S T (Lv ++ sVals t c num S T how)).length ∧ o.2.1 = nI how ∧ o.2.2.1 = nI (Lv ++ sVals t c num S T how).length ∧ o.2.2.2.1 = nI (sPage t nn c how num S T (Lv ++ sVals t c num S T how)).length ∧ HC (sPage t nn c how num S T (Lv ++ sVals t c num S T how)) o.2.2.2.2.1 := by
      intro how br co nu dc ps fi' sl pr hhow hbr
      unfold f_F_write_j109
      have hsl := sVals_len (t := t) (c := c) (how := how) (num := num) (S := S) (T := T) (by omega) w6
      obtain ⟨o3, r1, r2, r3, r4⟩ := W_putValues (n := n) (t := t) (c := c) (how := how) (ty := nI t) (dcnt := dc) (psz := ps) (coms := co) (nums := nu) (firsts := fi') (slots := sl) (prow := pr) (L := Lv) (row := br) hn rfl ht3 (by omega) hhow w4 w6 eC hlL hbr
      simp only at r3 r4
      rw [r1, obs, r2, r3]
      obtain ⟨o4, s1, s2, s3⟩ := W_finish (n := n) (t := t) (nn := nn) (c := c) (how := how) (orow := orow) hn rfl ht3 (by omega) (by omega) w1 w6 eC (show (Lv ++ sVals t c num S T how).length ≤ 27000 by rw [List.length_append]; omega) r4
      rw [s1, obs]
      exact ⟨_, rfl, s2, rfl, rfl, s2, s3⟩
    have hpl : ∀ how, how ≤ lastC t → (sPage t nn c how num S T (Lv ++ sVals t c num S T how)).length ≤ 32000 := by
      intro how hhow
      have h1 := sHead_len (t := t) (how := how) (num := num) (T := T) (show c ≤ nn by omega) w1 w6
      have h2 := sVals_len (t := t) (c := c) (how := how) (num := num) (S := S) (T := T) (by omega) w6
      have h3 : (sVar (Lv ++ sVals t c num S T how).length).length ≤ 3 := sVar_len 2 _ (by rw [List.length_append]; omega)
      unfold sPage
      simp only [List.length_append, sFix_len] at h3 ⊢
      omega
    have goend : ∀ (how : Nat) (o1 : _) (o2 : _), how ≤ lastC t →
        (o1.1 = nI (sPage t nn c how num S T (Lv ++ sVals t c num S T how)).length ∧ o1.2.1 = nI how ∧ o1.2.2.1 = nI (Lv ++ sVals t c num S T how).length ∧ o1.2.2.2.1 = nI (sPage t nn c how num S T (Lv ++ sVals t c num S T how)).length ∧ HC (sPage t nn c how num S T (Lv ++ sVals t c num S T how)) o1.2.2.2.2.1) →
        (o2.1 = nI (sPage t nn c how num S T (Lv ++ sVals t c num S T how)).length ∧ o2.2.2.1 = nI how ∧ o2.2.2.2.1 = nI (Lv ++ sVals t c num S T how).length ∧ o2.2.2.2.2.1 = nI (sPage t nn c how num S T (Lv ++ sVals t c num S T how)).length ∧ QHM (sPage t nn c how num S T (Lv ++ sVals t c num S T how)) o2.2.2.2.2.2.2.2.2.2) →
        (o1 : Int32 × Int32 × Int32 × Int32 × (Nat → Int32) × Int32 × Int32 × Int32 × (Nat → Int32) × (Nat → Int64) × Int32 × (Nat → Int32) × (Nat → Int32) × (Nat → Int64) × Int32 × (Nat → Int32) × Int32).1 = (o2 : Int32 × Int32 × Int32 × Int32 × Int32 × Int32 × (Nat → Int32) × (Nat → Int64) × (Nat → Int32) × (Nat → Int32)).1 ∧ o1.2.1 = o2.2.2.1 ∧ o1.2.2.1 = o2.2.2.2.1 ∧ QBy 32000 o1.2.2.2.1 o1.2.2.2.2.1 o2.2.2.2.2.1 o2.2.2.2.2.2.2.2.2.2 := by
      rintro how o1 o2 hhow ⟨x1, x2, x3, x4, x5⟩ ⟨y1, y2, y3, y4, y5⟩
      exact ⟨by rw [x1, y1], by rw [x2, y2], by rw [x3, y3], _, hpl how hhow, x4, x5, y4, y5⟩
    by_cases cm : v1 = -1
    · -- the shortest
      subst cm
      rw [if_pos rfl]
      obtain ⟨oV, v1', v2, v3, v4⟩ := W_putValues (n := n) (t := t) (c := c) (how := 0) (ty := nI t) (dcnt := wdc) (psz := oL.2.2.2.2.2.1) (coms := wcom) (nums := oL.2.2.2.2.1) (firsts := wdf) (slots := wds) (prow := oL.2.2.2.2.2.2) (L := Lv) (row := oL.2.2.2.1) hn rfl ht3 (by omega) (by omega) w4 w6 eC hlL l5
      have v1'' : f_W_putValues n 32000 1000 1000 2048 1000 4000 1000 1001 20000 (nI Lv.length) oL.2.2.2.1 (nI t) wcom wdc wdf wds oL.2.2.2.2.1 oL.2.2.2.2.2.1 oL.2.2.2.2.2.2 ofTexts count numbers starts texts 0 = some oV := v1'
      rw [v1'', obs, v2]
      have mainC : ∃ o, lp (fun v => f_F_write_l68 n 1000 1001 20000 32000 1000 1000 2048 1000 4000 (nI t) ofTexts count numbers starts texts (nI Lv.length) v.1 v.2.1 v.2.2.1 v.2.2.2.1 v.2.2.2.2.1 v.2.2.2.2.2.1 v.2.2.2.2.2.2.1 v.2.2.2.2.2.2.2.1 v.2.2.2.2.2.2.2.2.1 v.2.2.2.2.2.2.2.2.2.1 v.2.2.2.2.2.2.2.2.2.2.1 v.2.2.2.2.2.2.2.2.2.2.2) n (oV.2.1, oV.2.2.1, oV.2.2.2.1, oV.2.2.2.2.1, oV.2.2.2.2.2.1, oV.2.2.2.2.2.2.1, oV.2.2.2.2.2.2.2.1, oV.2.2.2.2.2.2.2.2.1, oV.2.2.2.2.2.2.2.2.2, (0 : Int32), nI (Lv ++ sVals t c num S T 0).length, (1 : Int32)) = some o ∧ o.2.2.2.2.2.2.2.2.2.1 = nI (best (fun h => (sVals t c num S T h).length) (lastC t)) ∧ HC Lv o.2.1 := by
        refine lp_inv (fun q u => ∃ k, k + q = lastC t ∧ u.2.2.2.2.2.2.2.2.2.2.2 = nI (k + 1) ∧ u.2.2.2.2.2.2.2.2.2.1 = nI (best (fun h => (sVals t c num S T h).length) k) ∧ u.2.2.2.2.2.2.2.2.2.2.1 = nI (Lv ++ sVals t c num S T (best (fun h => (sVals t c num S T h).length) k)).length ∧ HC Lv u.2.1) _ ?_ (lastC t) n _ ⟨0, by omega, rfl, rfl, rfl, HC_front v4⟩ (by omega)
        rintro q ⟨u1, u2, u3, u4, u5, u6, u7, u8, u9, u10, u11, u12⟩ ⟨k, y1, y2, y3, y4, y5⟩
        simp only at y2 y3 y4 y5
        subst y2; subst y3; subst y4
        show (∃ w', f_F_write_l68 n 1000 1001 20000 32000 1000 1000 2048 1000 4000 (nI t) ofTexts count numbers starts texts (nI Lv.length) u1 u2 u3 u4 u5 u6 u7 u8 u9 (nI _) (nI _) (nI (k + 1)) = _ ∧ _) ∨ (∃ y, f_F_write_l68 n 1000 1001 20000 32000 1000 1000 2048 1000 4000 (nI t) ofTexts count numbers starts texts (nI Lv.length) u1 u2 u3 u4 u5 u6 u7 u8 u9 (nI _) (nI _) (nI (k + 1)) = _ ∧ _)
        unfold f_F_write_l68
        have hb := best_le (fun h => (sVals t c num S T h).length) k
        rw [C_lastCoding ht3, obs, ifl (by omega) (by omega)]
        by_cases ck : lastC t < k + 1
        · rw [if_pos ck]
          have : k = lastC t := by omega
          subst this
          exact Or.inr ⟨_, rfl, rfl, y5⟩
        · rw [if_neg ck]
          obtain ⟨o3, r1, r2, r3, r4⟩ := W_putValues (n := n) (t := t) (c := c) (how := k + 1) (ty := nI t) (dcnt := u4) (psz := u8) (coms := u3) (nums := u7) (firsts := u5) (slots := u6) (prow := u9) (L := Lv) (row := u2) hn rfl ht3 (by omega) (by omega) w4 w6 eC hlL y5
          have sa := sVals_len (t := t) (c := c) (how := k + 1) (num := num) (S := S) (T := T) (by omega) w6
          have sb' := sVals_len (t := t) (c := c) (how := best (fun h => (sVals t c num S T h).length) k) (num := num) (S := S) (T := T) (by omega) w6
          rw [r1, obs, r2, ifle (by rw [List.length_append]; omega) (by rw [List.length_append]; omega), List.length_append, List.length_append]
          by_cases cs : Lv.length + (sVals t c num S T (best (fun h => (sVals t c num S T h).length) k)).length ≤ Lv.length + (sVals t c num S T (k + 1)).length
          · rw [if_pos cs]
            have hbe : best (fun h => (sVals t c num S T h).length) (k + 1) = best (fun h => (sVals t c num S T h).length) k := by
              simp only [best]; rw [if_neg (by omega)]
            refine Or.inl ⟨_, rfl, q - 1, by omega, k + 1, by omega, qn_add _ 1, by rw [hbe], ?_, HC_front r4⟩
            rw [hbe, List.length_append]
          · rw [if_neg cs]
            have hbe : best (fun h => (sVals t c num S T h).length) (k + 1) = k + 1 := by
              simp only [best]; rw [if_pos (by omega)]
            refine Or.inl ⟨_, rfl, q - 1, by omega, k + 1, by omega, qn_add _ 1, by rw [hbe], ?_, HC_front r4⟩
            rw [hbe, List.length_append]
      obtain ⟨oc, c1, c2, c3⟩ := mainC
      rw [c1, obs, c2]
      have mainM : ∃ o, lp (fun v => f_M_write_l41 n 20000 1001 2000 1008 90000 1000 (nI t) values bytes frm wholes (-1) v.1 v.2.1 v.2.2.1 v.2.2.2.1 v.2.2.2.2.1 v.2.2.2.2.2.1 v.2.2.2.2.2.2.1 v.2.2.2.2.2.2.2) n ((-1 : Int32), (0 : Int32), mlc, mlongs, mnums, mout, (-1 : Int32), (0 : Int32)) = some o ∧ o.1 = nI (best (fun h => (sVals t c num S T h).length) (lastC t)) ∧ o.2.1 = 0 := by
        refine lp_inv (fun q u => ∃ k, k + q = lastC t + 1 ∧ u.2.2.2.2.2.2.2 = nI k ∧ u.2.1 = 0 ∧ ((k = 0 ∧ u.2.2.2.2.2.2.1 = -1) ∨ ∃ k', k = k' + 1 ∧ u.1 = nI (best (fun h => (sVals t c num S T h).length) k') ∧ u.2.2.2.2.2.2.1 = nI (sVals t c num S T (best (fun h => (sVals t c num S T h).length) k')).length)) _ ?_ (lastC t + 1) n _ ⟨0, by omega, rfl, rfl, Or.inl ⟨rfl, rfl⟩⟩ (by omega)
        rintro q ⟨u1, u2, u3, u4, u5, u6, u7, u8⟩ ⟨k, y1, y2, y3, y4⟩
        simp only at y2 y3 y4
        subst y2; subst y3
        show (∃ w', f_M_write_l41 n 20000 1001 2000 1008 90000 1000 (nI t) values bytes frm wholes (-1) u1 0 u3 u4 u5 u6 u7 (nI k) = _ ∧ _) ∨ (∃ y, f_M_write_l41 n 20000 1001 2000 1008 90000 1000 (nI t) values bytes frm wholes (-1) u1 0 u3 u4 u5 u6 u7 (nI k) = _ ∧ _)
        unfold f_M_write_l41
        rw [M_codings ht3, obs, ifle (by omega) (by omega)]
        by_cases ck : lastC t + 1 ≤ k
        · rw [if_pos ck]
          rcases y4 with ⟨hk0, _⟩ | ⟨k', hk', h1, h2⟩
          · omega
          · have : k' = lastC t := by omega
            subst this
            exact Or.inr ⟨_, rfl, h1, rfl⟩
        · rw [if_neg ck, if_pos rfl]
          have sa := sVals_len (t := t) (c := c) (how := k) (num := num) (S := S) (T := T) (by omega) w6
          obtain ⟨o3, r1, r2, r3⟩ := M_writeValues (n := n) (t := t) (c := c) (how := k) (ty := nI t) (lc := u3) (longs := u4) (nums := u5) (L := []) (out := u6) hn rfl ht3 (by omega) (by omega) w5 w4 w6 gM (by simp) (fun j hj => by simp at hj)
          have r1' : f_M_writeValues n 20000 1001 2000 1008 90000 1000 (nI t) values 0 u3 bytes frm u4 u5 u6 wholes (nI k) = some o3 := r1
          rw [List.nil_append] at r2
          simp only at r2
          rw [r1', obs, r2]
          rcases y4 with ⟨hk0, h7⟩ | ⟨k', hk', h1, h2⟩
          · subst hk0; subst h7
            rw [if_pos rfl]
            unfold f_M_write_j72 f_M_write_j82
            exact Or.inl ⟨_, rfl, q - 1, by omega, 1, by omega, qn_add 0 1, rfl, Or.inr ⟨0, rfl, rfl, rfl⟩⟩
          · subst hk'; subst h1; subst h2
            have hb := best_le (fun h => (sVals t c num S T h).length) k'
            have sb' := sVals_len (t := t) (c := c) (how := best (fun h => (sVals t c num S T h).length) k') (num := num) (S := S) (T := T) (by omega) w6
            have hne : ¬ nI (sVals t c num S T (best (fun h => (sVals t c num S T h).length) k')).length = -1 := by
              intro hq
              have := congrArg Int32.toInt hq
              rw [qn_toInt (by omega), z0] at this
              omega
            rw [if_neg hne, ifle (by omega) (by omega)]
            by_cases cs : (sVals t c num S T (best (fun h => (sVals t c num S T h).length) k')).length ≤ (sVals t c num S T (k' + 1)).length
            · rw [if_pos cs]
              have hbe : best (fun h => (sVals t c num S T h).length) (k' + 1) = best (fun h => (sVals t c num S T h).length) k' := by
                simp only [best]; rw [if_neg (by omega)]
              unfold f_M_write_j82
              exact Or.inl ⟨_, rfl, q - 1, by omega, k' + 1 + 1, by omega, qn_add _ 1, rfl, Or.inr ⟨k' + 1, rfl, by rw [hbe], by rw [hbe]⟩⟩
            · rw [if_neg cs]
              have hbe : best (fun h => (sVals t c num S T h).length) (k' + 1) = k' + 1 := by
                simp only [best]; rw [if_pos (by omega)]
              unfold f_M_write_j72 f_M_write_j82
              exact Or.inl ⟨_, rfl, q - 1, by omega, k' + 1 + 1, by omega, qn_add _ 1, rfl, Or.inr ⟨k' + 1, rfl, by rw [hbe], by rw [hbe]⟩⟩
      obtain ⟨om, m1, m2, m3⟩ := mainM
      rw [m1, obs, m2, m3]
      have hbl := best_le (fun h => (sVals t c num S T h).length) (lastC t)
      obtain ⟨o1, x1, x2⟩ := hend (best (fun h => (sVals t c num S T h).length) (lastC t)) oc.2.1 oc.2.2.1 oc.2.2.2.2.2.2.1 oc.2.2.2.1 oc.2.2.2.2.2.2.2.1 oc.2.2.2.2.1 oc.2.2.2.2.2.1 oc.2.2.2.2.2.2.2.2.1 hbl c3
      obtain ⟨o2, y1, y2⟩ := M_writeEnd (n := n) (t := t) (r := r) (d := d) (nn := nn) (c := c) (how := best (fun h => (sVals t c num S T h).length) (lastC t)) (code := 0) (lc := om.2.2.1) (longs := om.2.2.2.1) (nums := om.2.2.2.2.1) (mbody := mbody) (out := om.2.2.2.2.2.1) hn ht3 hrd hd16 hbl hV' hCm' hM'
      rw [hLv] at y2
      rw [g1, b1] at y1
      rw [x1, y1]
      exact ⟨o1, o2, rfl, rfl, goend _ o1 o2 hbl x2 y2⟩
    · -- one that is told
      rw [if_neg cm]
      have hv0 : ∃ k, k < 2147483648 ∧ v1 = nI k := by
        rcases I_cases v1 with h | h
        · exfalso
          rw [Int32.lt_iff_toInt_lt] at cv h
          have zz0 : (0 : Int32).toInt = 0 := rfl
          have : v1.toInt = -1 := by omega
          exact cm (Int32.toInt_inj.mp (by rw [this, z0]))
        · exact h
      obtain ⟨how, hk, rfl⟩ := hv0
      have hhow : how ≤ lastC t := by rw [qn_le hk (by omega)] at cl; exact cl
      obtain ⟨x, hx⟩ : ∃ x, n = x + 1 := ⟨n - 1, by omega⟩
      have hst : f_M_write_l41 n 20000 1001 2000 1008 90000 1000 (nI t) values bytes frm wholes (nI how) (nI how) 0 mlc mlongs mnums mout (-1) 0 = some (Sum.inr (nI how, 0, mlc, mlongs, mnums, mout, -1, 0)) := by
        unfold f_M_write_l41
        rw [M_codings ht3, obs, if_neg cm]
        split <;> rfl
      have hlp : lp (fun v => f_M_write_l41 n 20000 1001 2000 1008 90000 1000 (nI t) values bytes frm wholes (nI how) v.1 v.2.1 v.2.2.1 v.2.2.2.1 v.2.2.2.2.1 v.2.2.2.2.2.1 v.2.2.2.2.2.2.1 v.2.2.2.2.2.2.2) n (nI how, (0 : Int32), mlc, mlongs, mnums, mout, (-1 : Int32), (0 : Int32)) = some (nI how, 0, mlc, mlongs, mnums, mout, -1, 0) := by
        conv => lhs; arg 2; rw [hx]
        simp only [lp, hst]
      rw [hlp, obs]
      obtain ⟨o1, x1, x2⟩ := hend how oL.2.2.2.1 wcom oL.2.2.2.2.1 wdc oL.2.2.2.2.2.1 wdf wds oL.2.2.2.2.2.2 hhow l5
      obtain ⟨o2, y1, y2⟩ := M_writeEnd (n := n) (t := t) (r := r) (d := d) (nn := nn) (c := c) (how := how) (code := 0) (lc := mlc) (longs := mlongs) (nums := mnums) (mbody := mbody) (out := mout) hn ht3 hrd hd16 hhow hV' hCm' hM'
      rw [hLv] at y2
      rw [g1, b1] at y1
      rw [x1, y1]
      exact ⟨o1, o2, rfl, rfl, goend how o1 o2 hhow x2 y2⟩
  · rw [if_neg cl, if_neg (fun h => cl (hvl.mpr h))]
    exact ⟨_, _, rfl, rfl, rfl, hlc, hlb, hno _ _⟩
theorem s_write (n : Nat) (hn : 100000 < n) : H_write QSim n := by
  intro x_lastCoding x_lastBody x_column_type x_column_mostR x_column_mostD x_input_size x_input_row x_output_size x_output_row x_page_entries x_page_valued x_page_definitions x_page_repetitions x_page_valueNumbers x_page_values_ofTexts x_page_values_count x_page_values_numbers x_page_values_starts x_page_values_texts x_reader_entries x_reader_count x_reader_bodyTold x_reader_check x_reader_coding x_reader_bodySize x_reader_commons x_reader_dictionary_ofTexts x_reader_dictionary_count x_reader_dictionary_numbers x_reader_dictionary_starts x_reader_dictionary_texts x_reader_numbers x_reader_source_at x_reader_source_to x_reader_source_fault x_reader_source_widths x_reader_told_ofTexts x_reader_told_count x_reader_told_numbers x_reader_told_starts x_reader_told_texts x_spare_entries x_spare_valued x_spare_definitions x_spare_repetitions x_spare_valueNumbers x_spare_values_ofTexts x_spare_values_count x_spare_values_numbers x_spare_values_starts x_spare_values_texts x_tape_size x_tape_row x_writer_entries x_writer_levelBytes x_writer_body_size x_writer_body_row x_writer_commons x_writer_dictionary_count x_writer_dictionary_firsts x_writer_dictionary_slots x_writer_numbers x_writer_piece_size x_writer_piece_row m_code m_type m_mostR m_mostD m_entries m_values m_coding m_bodySize m_newCount m_words m_taped m_inputSize m_outSize m_at m_stop m_fault m_longCount m_body m_bytes m_common m_definitions m_from m_input m_longs m_more m_newBytes m_newDefinitions m_newFrom m_newRepetitions m_newWholes m_numbers m_out m_repetitions m_tape m_told2 m_toldBytes m_toldSize m_wholes m_wordBytes m_wordFrom m_words8 v1 hs
  obtain ⟨t, r, d, nn, c, rp, df, num, S, T, ⟨ht3, hrd, hd16⟩, hV, hCx, hCm, hPC, hPM, hTp, hIn, hOu, hlc, hlb, hz⟩ := hs
  obtain ⟨o1, o2, h1, h2, h3, h4, h5, h6⟩ := p_write v1 hn ht3 hrd hd16 hV hCx hCm hPC hPM hlc hlb
  exact ⟨o1, o2, h1, h2, h3, t, r, d, nn, c, rp, df, num, S, T, ⟨ht3, hrd, hd16⟩, hV, hCx, hCm, hPC, hPM, hTp, hIn, h6, h4, h5, hz⟩
