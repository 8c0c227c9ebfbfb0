def qoN (g : Nat → Nat) : Nat → Nat
  | 0 => 0
  | k + 1 => qoN g k ||| g k
theorem wd_oN (g : Nat → Nat) (c : Nat) : wd (qoN g c) = mw g c := by
  induction c with
  | zero => rfl
  | succ c ih => simp only [qoN, mw]; rw [wd_or, ih]
theorem B_putPart {n cap pn m s e q : Nat} {a numbers : Nat → Int64} {L : List UInt8} {row : Nat → Int32} (least : Int64) (hn : 100000 < n) (hm : m ≤ 2000) (hpn : m ≤ pn) (hN : ∀ k, k < m → numbers k = a k) (he : e + 1 ≤ m) (hs : s ≤ e) (hq : q ≤ 3) (hc : cap < 100000)
    (hL : L.length + 2 * pw a least s e q ≤ cap) (h : HC L row) :
    ∃ o, f_B_putPart n cap pn (nI L.length) row numbers (nI (s + 16 * q + 1)) (nI (min (s + 16 * q + 17) (e + 1))) least = some o ∧ o.1 = nI (pw a least s e q) ∧ QPC (L ++ sPart a least s e q) o.2 := by
  have hpc : pc s e q = min (s + 16 * q + 17) (e + 1) - (s + 16 * q + 1) := by unfold pc; omega
  have hpc16 : pc s e q ≤ 16 := by unfold pc; omega
  have hw64 := pw_le64 a least s e q
  unfold f_B_putPart
  have main : ∃ o, lp (fun v => f_B_putPart_l6 pn numbers (nI (min (s + 16 * q + 17) (e + 1))) least v.1 v.2) n ((0 : Int64), nI (s + 16 * q + 1)) = some o ∧ lv o.1 = qoN (fun i => ab a least (s + 16 * q + i)) (pc s e q) := by
    refine lp_inv (fun x u => ∃ j, j + x = pc s e q ∧ u.2 = nI (s + 16 * q + 1 + j) ∧ lv u.1 = qoN (fun i => ab a least (s + 16 * q + i)) j) _ ?_ (pc s e q) n _ ⟨0, by omega, rfl, rfl⟩ (by omega)
    rintro x ⟨b, k'⟩ ⟨j, g1, g2, g3⟩
    simp only at g2 g3
    subst g2
    show (∃ w', f_B_putPart_l6 pn numbers _ least b (nI (s + 16 * q + 1 + j)) = _ ∧ _) ∨ (∃ y, f_B_putPart_l6 pn numbers _ least b (nI (s + 16 * q + 1 + j)) = _ ∧ _)
    unfold f_B_putPart_l6
    rw [ifle (by omega) (by omega)]
    by_cases c : min (s + 16 * q + 17) (e + 1) ≤ s + 16 * q + 1 + j
    · have : j = pc s e q := by omega
      subst this
      exact Or.inr ⟨_, by rw [if_pos c], g3⟩
    · have e1 : nI (s + 16 * q + 1 + j) - 1 = nI (s + 16 * q + j) := by
        rw [show (1 : Int32) = nI 1 from rfl, nI_sub (by omega)]; congr 1; omega
      rw [if_neg c, e1, gd_nI (by omega) (by omega), gd_nI (by omega) (by omega), qn_clamp (by omega), qn_clamp (by omega), hN _ (by omega), hN _ (by omega)]
      refine Or.inl ⟨_, rfl, x - 1, by omega, j + 1, by omega, qn_add _ 1, ?_⟩
      show lv (b ||| _) = _
      rw [lv_or, g3]
      simp only [qoN, ab, dif]
      congr 5; omega
  obtain ⟨o, h1, h2⟩ := main
  rw [h1, obs]
  unfold f_B_putPart_j37
  have hwd : wd (lv o.1) = pw a least s e q := by rw [h2, wd_oN]; rfl
  have e8 : (8 : Int32) * nI L.length = nI (8 * L.length) := nI_mul 8 _
  have e2 : (2 : Int32) * nI (pw a least s e q) = nI (2 * pw a least s e q) := nI_mul 2 _
  rw [F_widthOf _ (by omega), obs, hwd]
  simp only [bnd]
  rw [e8, e2]
  obtain ⟨o2, r1, r2, r3⟩ := B_zeros (n := n) (cap := cap) (k := 2 * pw a least s e q) (L := L) (row := row) hn hc hL h
  have hl2 : (L ++ List.replicate (2 * pw a least s e q) 0).length = L.length + 2 * pw a least s e q := by simp
  rw [hl2] at r2
  rw [r1, obs, r2]
  have main2 : ∃ o, lp (fun v => f_B_putPart_l64 n cap pn (nI (L.length + 2 * pw a least s e q)) numbers (nI (s + 16 * q + 1)) (nI (min (s + 16 * q + 17) (e + 1))) least (nI (pw a least s e q)) (nI (8 * L.length)) v.1 v.2) n (o2.2, nI (s + 16 * q + 1)) = some o ∧ o.1 = nI (pw a least s e q) ∧ QPC (L ++ sPart a least s e q) o.2 := by
    refine lp_inv (fun x u => ∃ (j : Nat) (L' : List UInt8), u.2 = nI (s + 16 * q + 1 + j) ∧ j + x = pc s e q ∧ Pack L (2 * pw a least s e q) (fun i => ab a least (s + 16 * q + i)) (pw a least s e q) j L' ∧ HC L' u.1) _ ?_ (pc s e q) n _ ⟨0, L ++ List.replicate (2 * pw a least s e q) 0, rfl, by omega, Pack_0 _ _ _ _, r3⟩ (by omega)
    rintro x ⟨f', i'⟩ ⟨j, L', g1, g2, g3, g4⟩
    simp only at g1 g4
    subst g1
    show (∃ w', f_B_putPart_l64 n cap pn _ numbers _ _ least _ (nI (8 * L.length)) f' (nI (s + 16 * q + 1 + j)) = _ ∧ _) ∨ (∃ y, f_B_putPart_l64 n cap pn _ numbers _ _ least _ (nI (8 * L.length)) f' (nI (s + 16 * q + 1 + j)) = _ ∧ _)
    unfold f_B_putPart_l64
    rw [ifle (by omega) (by omega)]
    by_cases c : min (s + 16 * q + 17) (e + 1) ≤ s + 16 * q + 1 + j
    · have : j = pc s e q := by omega
      subst this
      rw [if_pos c]
      refine Or.inr ⟨_, rfl, rfl, ?_⟩
      have hLL := Pack_end (m := pc s e q) g3 (fun r _ => Iff.rfl)
      have hsp : L ++ sPart a least s e q = L' := by rw [hLL]; rfl
      rw [hsp]
      exact ⟨by rw [g3.1], g4⟩
    · have e1 : nI (s + 16 * q + 1 + j) - 1 = nI (s + 16 * q + j) := by
        rw [show (1 : Int32) = nI 1 from rfl, nI_sub (by omega)]; congr 1; omega
      have e3 : nI (s + 16 * q + 1 + j) - nI (s + 16 * q + 1) = nI j := by rw [nI_sub (by omega)]; congr 1; omega
      rw [if_neg c, e1, gd_nI (by omega) (by omega), gd_nI (by omega) (by omega), qn_clamp (by omega), qn_clamp (by omega), hN _ (by omega), hN _ (by omega), e3, nI_mul, qn_add]
      obtain ⟨o', s1, L'', s2, s3⟩ := B_setPack (n := n) (cap := cap) (nb := 2 * pw a least s e q) (w := pw a least s e q) (j := j) (M := L) (L' := L') (g := fun i => ab a least (s + 16 * q + i)) (row := f') (a (s + 16 * q + 1 + j) - a (s + 16 * q + j) - least) (by omega) hc hL hw64 (by
        have h3 := Nat.mul_le_mul_right (pw a least s e q) (show j + 1 ≤ 16 by omega)
        omega) (fun i hi => mw_ge (g := fun i => ab a least (s + 16 * q + i)) (show i < pc s e q by omega)) (by simp only [ab, dif]; congr 4; omega) g3 g4
      rw [s1, obs]
      exact Or.inl ⟨_, rfl, x - 1, by omega, j + 1, L'', qn_add _ 1, by omega, s2, s3⟩
  obtain ⟨o', s1, s2, s3⟩ := main2
  rw [s1]
  exact ⟨o', rfl, s2, s3⟩
/-- one byte set, where 0 was -/
theorem B_setByte {n cap w : Nat} {A C : List UInt8} {row : Nat → Int32} (hn : 100 < n) (hc : cap < 100000) (hL : A.length + 1 + C.length ≤ cap) (hw : w < 256) (h : HC (A ++ [0] ++ C) row) :
    ∃ o, f_B_setBits n cap (nI (A.length + 1 + C.length)) row (nI (8 * A.length)) (nI w).toInt64 (8 : Int32) = some o ∧ HC (A ++ [UInt8.ofNat w] ++ C) o := by
  have hlen : (A ++ [0] ++ C).length = A.length + 1 + C.length := by simp only [List.length_append, List.length_cons, List.length_nil]
  have hlv : lv (nI w).toInt64 = w := lv_nI (by omega)
  obtain ⟨o, p1, L'', p2, p3, p4⟩ := B_setBits (n := n) (cap := cap) (F := 8 * A.length) (w := 8) (L := A ++ [0] ++ C) (row := row) (nI w).toInt64 hn hc (by rw [hlen]; exact hL) (by omega) (by rw [hlen]; omega) (by rw [hlv]; simpa using hw) h
  rw [hlen] at p1
  refine ⟨o, p1, ?_⟩
  have : L'' = A ++ [UInt8.ofNat w] ++ C := by
    apply bits_ext (by rw [p2, hlen]; simp only [List.length_append, List.length_cons, List.length_nil])
    intro p hp
    rw [p4 p, hlv]
    have hA1 : (A ++ [(0 : UInt8)]).length = A.length + 1 := by simp
    have hA2 : (A ++ [UInt8.ofNat w]).length = A.length + 1 := by simp
    by_cases c1 : p < 8 * A.length
    · rw [bitOf_left (L := A ++ [0]) (M := C) (by rw [hA1]; omega), bitOf_left (L := A ++ [UInt8.ofNat w]) (M := C) (by rw [hA2]; omega), bitOf_left (L := A) (M := [0]) c1, bitOf_left (L := A) (M := [UInt8.ofNat w]) c1, decide_eq_false (show ¬ 8 * A.length ≤ p by omega)]; simp
    · by_cases c2 : p < 8 * (A.length + 1)
      · rw [bitOf_left (L := A ++ [0]) (M := C) (by rw [hA1]; omega), bitOf_left (L := A ++ [UInt8.ofNat w]) (M := C) (by rw [hA2]; omega), bitOf_right (L := A) (M := [0]) (by omega), bitOf_right (L := A) (M := [UInt8.ofNat w]) (by omega), decide_eq_true (show 8 * A.length ≤ p by omega)]
        have e1 : bitOf [(0 : UInt8)] (p - 8 * A.length) = false := bitOf_zeros 1 _
        rw [e1]
        unfold bitOf
        have e2 : (p - 8 * A.length) / 8 = 0 := by omega
        have e3 : (p - 8 * A.length) % 8 = p - 8 * A.length := by omega
        rw [e2, e3]
        have e4 : (UInt8.ofNat w).toNat = w := by rw [UInt8.toNat_ofNat']; exact Nat.mod_eq_of_lt (by simpa using hw)
        simp [e4]
      · rw [bitOf_right (L := A ++ [0]) (M := C) (by rw [hA1]; omega), bitOf_right (L := A ++ [UInt8.ofNat w]) (M := C) (by rw [hA2]; omega), hA1, hA2]
        have : w.testBit (p - 8 * A.length) = false := Nat.testBit_lt_two_pow (Nat.lt_of_lt_of_le (show w < 2 ^ 8 by simpa using hw) (Nat.pow_le_pow_right (by omega) (by omega)))
        rw [this]; simp
  rw [← this]; exact p3
theorem B_putBlock {n cap pn m s e : Nat} {a numbers : Nat → Int64} {L : List UInt8} {row : Nat → Int32} (hn : 100000 < n) (hm : m ≤ 2000) (hpn : m ≤ pn) (hN : ∀ k, k < m → numbers k = a k) (he : e + 1 ≤ m) (hs : s < e) (he64 : e ≤ s + 64) (hc : cap < 100000)
    (hL : L.length + (sBlk a s e (qlst a s (e - s))).length ≤ cap) (h : HC L row) :
    ∃ o, f_B_putBlock n cap pn (nI L.length) row numbers (nI (s + 1)) (nI (e + 1)) = some o ∧ QPC (L ++ sBlk a s e (qlst a s (e - s))) o := by
  unfold f_B_putBlock
  have e1 : nI (s + 1) - 1 = nI s := by rw [show (1 : Int32) = nI 1 from rfl, nI_sub (by omega)]; congr 1
  have e2 : nI (s + 1) + 1 = nI (s + 2) := qn_add _ 1
  rw [e1, gd_nI (by omega) (by omega), gd_nI (by omega) (by omega)]
  simp only [bnd]
  rw [qn_clamp (by omega), qn_clamp (by omega), hN _ (by omega), hN _ (by omega), e2]
  have main : ∃ o, lp (fun v => f_B_putBlock_l16 pn numbers (nI (e + 1)) v.1 v.2) n (a (s + 1) - a s, nI (s + 2)) = some o ∧ o.1 = qlst a s (e - s) := by
    refine lp_inv (fun x u => ∃ j, 1 ≤ j ∧ j + x = e - s ∧ u.2 = nI (s + 1 + j) ∧ u.1 = qlst a s j) _ ?_ (e - s - 1) n _ ⟨1, by omega, by omega, rfl, by simp [qlst, dif]⟩ (by omega)
    rintro x ⟨b, k'⟩ ⟨j, g0, g1, g2, g3⟩
    simp only at g2 g3
    subst g2; subst g3
    show (∃ w', f_B_putBlock_l16 pn numbers (nI (e + 1)) (qlst a s j) (nI (s + 1 + j)) = _ ∧ _) ∨ (∃ y, f_B_putBlock_l16 pn numbers (nI (e + 1)) (qlst a s j) (nI (s + 1 + j)) = _ ∧ _)
    unfold f_B_putBlock_l16
    rw [ifle (by omega) (by omega)]
    by_cases c : e + 1 ≤ s + 1 + j
    · have : j = e - s := by omega
      subst this
      exact Or.inr ⟨_, by rw [if_pos c], rfl⟩
    · have e3 : nI (s + 1 + j) - 1 = nI (s + j) := by
        rw [show (1 : Int32) = nI 1 from rfl, nI_sub (by omega)]; congr 1; omega
      rw [if_neg c, e3, gd_nI (by omega) (by omega), gd_nI (by omega) (by omega), qn_clamp (by omega), qn_clamp (by omega), hN _ (by omega), hN _ (by omega)]
      refine Or.inl ⟨_, rfl, x - 1, by omega, j + 1, by omega, by omega, qn_add _ 1, ?_⟩
      simp only [qlst, dif]
      have : s + 1 + j = s + j + 1 := by omega
      rw [this]
      rfl
  obtain ⟨o, h1, h2⟩ := main
  rw [h1, obs, h2]
  generalize hlst : qlst a s (e - s) = least at *
  unfold f_B_putBlock_j46
  rw [F_zigzag, obs]
  have hlb : (sBlk a s e least).length = (sVar (lv (zz least))).length + 4 + (2 * pw a least s e 0 + 2 * pw a least s e 1 + 2 * pw a least s e 2 + 2 * pw a least s e 3) := by
    simp only [sBlk, List.length_append, sPart_len, List.length_cons, List.length_nil]
  rw [hlb] at hL
  obtain ⟨o1, p1, p2, p3⟩ := B_varint (n := n) (cap := cap) (L := L) (row := row) (zz least) (by omega) (by omega) (by omega) h
  generalize hV : sVar (lv (zz least)) = V at *
  rw [p1, obs, p2]
  obtain ⟨o2, r1, r2, r3⟩ := B_zeros (n := n) (cap := cap) (k := 4) (L := L ++ V) (row := o1.2) hn hc (by simp only [List.length_append]; omega) p3
  have r1' : f_B_zeros n cap (nI (L ++ V).length) o1.2 4 = some o2 := r1
  rw [r1', obs, r2]
  have w0 := pw_le64 a least s e 0
  have w1 := pw_le64 a least s e 1
  have w2 := pw_le64 a least s e 2
  have w3 := pw_le64 a least s e 3
  -- one turn of the loop: part q, then its width
  have turn : ∀ (q : Nat) (A C : List UInt8) (Z : List UInt8) (row' : Nat → Int32), q ≤ 3 → A.length = L.length + V.length + q → HC (A ++ [0] ++ C) row' → A.length + 1 + C.length + 2 * pw a least s e q ≤ cap →
      ∃ row'', f_B_putBlock_l69 n cap pn numbers (nI (s + 1)) (nI (e + 1)) least (nI (L ++ V).length) (nI (A.length + 1 + C.length)) row' (nI q) = some (Sum.inl (nI (A.length + 1 + (C ++ sPart a least s e q).length), row'', nI (q + 1))) ∧ HC (A ++ [UInt8.ofNat (pw a least s e q)] ++ (C ++ sPart a least s e q)) row'' := by
    intro q A C Z row' hq hA hh hfit
    unfold f_B_putBlock_l69
    have i4 : (4 : Int32) = nI 4 := rfl
    have i16 : (16 : Int32) = nI 16 := rfl
    have i8 : (8 : Int32) = nI 8 := rfl
    rw [i4, ifle (by omega) (by omega), if_neg (by omega)]
    simp only [bnd]
    have hx : nI (s + 1) + 16 * nI q = nI (s + 16 * q + 1) := by rw [i16, nI_mul, qn_add]; congr 1; omega
    have hx2 : nI (s + 16 * q + 1) + 16 = nI (s + 16 * q + 17) := qn_add _ 16
    have hmn : (if nI (e + 1) < nI (s + 16 * q + 17) then nI (e + 1) else nI (s + 16 * q + 17)) = nI (min (s + 16 * q + 17) (e + 1)) := by
      rw [ifl (by omega) (by omega)]
      split <;> congr 1 <;> omega
    rw [hx, hx2, hmn]
    have hl0 : (A ++ [0] ++ C).length = A.length + 1 + C.length := by simp only [List.length_append, List.length_cons, List.length_nil]
    obtain ⟨o, t1, t2, t3, t4⟩ := B_putPart (n := n) (cap := cap) (pn := pn) (m := m) (s := s) (e := e) (q := q) (a := a) (numbers := numbers) (L := A ++ [0] ++ C) (row := row') least hn hm hpn hN he (by omega) hq hc (by rw [hl0]; exact hfit) hh
    rw [hl0] at t1
    rw [t1, obs, t2]
    have hpwq := pw_le64 a least s e q
    have hCC : (A ++ [0] ++ C ++ sPart a least s e q) = A ++ [0] ++ (C ++ sPart a least s e q) := by simp only [List.append_assoc]
    rw [hCC] at t3 t4
    have hl1 : (A ++ [0] ++ (C ++ sPart a least s e q)).length = A.length + 1 + (C ++ sPart a least s e q).length := by simp only [List.length_append, List.length_cons, List.length_nil]
    have hl2 : (C ++ sPart a least s e q).length = C.length + 2 * pw a least s e q := by simp [sPart_len]
    rw [hl1] at t3
    obtain ⟨o', u1, u2⟩ := B_setByte (n := n) (cap := cap) (w := pw a least s e q) (A := A) (C := C ++ sPart a least s e q) (row := o.2.2) (by omega) hc (by rw [hl2]; omega) (by omega) t4
    have hf : (8 : Int32) * (nI (L ++ V).length + nI q) = nI (8 * A.length) := by
      rw [qn_add, i8, nI_mul]; congr 2; rw [List.length_append]; omega
    rw [hf, t3, u1, obs]
    refine ⟨o', ?_, u2⟩
    have : nI q + 1 = nI (q + 1) := qn_add q 1
    rw [this]
  have hLV : (L ++ V).length = L.length + V.length := by simp
  obtain ⟨ra, ta1, ta2⟩ := turn 0 (L ++ V) [0, 0, 0] [] o2.2 (by omega) (by rw [hLV]; omega) (by have := r3; simp only [List.append_assoc] at this ⊢; exact this) (by rw [hLV]; simp only [List.length_cons, List.length_nil]; omega)
  obtain ⟨rb, tb1, tb2⟩ := turn 1 (L ++ V ++ [UInt8.ofNat (pw a least s e 0)]) ([0, 0] ++ sPart a least s e 0) [] ra (by omega) (by simp only [List.length_append, List.length_cons, List.length_nil] <;> omega) (by have := ta2; simp only [List.append_assoc, List.cons_append, List.nil_append] at this ⊢; exact this) (by simp only [List.length_append, sPart_len, List.length_cons, List.length_nil]; omega)
  obtain ⟨rc, tc1, tc2⟩ := turn 2 (L ++ V ++ [UInt8.ofNat (pw a least s e 0), UInt8.ofNat (pw a least s e 1)]) ([0] ++ sPart a least s e 0 ++ sPart a least s e 1) [] rb (by omega) (by simp only [List.length_append, List.length_cons, List.length_nil] <;> omega) (by have := tb2; simp only [List.append_assoc, List.cons_append, List.nil_append] at this ⊢; exact this) (by simp only [List.length_append, sPart_len, List.length_cons, List.length_nil]; omega)
  obtain ⟨rd, td1, td2⟩ := turn 3 (L ++ V ++ [UInt8.ofNat (pw a least s e 0), UInt8.ofNat (pw a least s e 1), UInt8.ofNat (pw a least s e 2)]) (sPart a least s e 0 ++ sPart a least s e 1 ++ sPart a least s e 2) [] rc (by omega) (by simp only [List.length_append, List.length_cons, List.length_nil] <;> omega) (by have := tc2; simp only [List.append_assoc, List.cons_append, List.nil_append] at this ⊢; exact this) (by simp only [List.length_append, sPart_len, List.length_cons, List.length_nil]; omega)
  obtain ⟨x, rfl⟩ : ∃ x, n = x + 5 := ⟨n - 5, by omega⟩
  have z1 : nI (L ++ V ++ List.replicate 4 0).length = nI ((L ++ V).length + 1 + ([0, 0, 0] : List UInt8).length) := by congr 1; simp only [List.length_append, List.length_replicate, List.length_cons, List.length_nil] <;> omega
  have z2 : (L ++ V).length + 1 + ([0, 0, 0] ++ sPart a least s e 0).length = (L ++ V ++ [UInt8.ofNat (pw a least s e 0)]).length + 1 + ([0, 0] ++ sPart a least s e 0).length := by simp only [List.length_append, List.length_cons, List.length_nil]; omega
  have z3 : (L ++ V ++ [UInt8.ofNat (pw a least s e 0)]).length + 1 + ([0, 0] ++ sPart a least s e 0 ++ sPart a least s e 1).length = (L ++ V ++ [UInt8.ofNat (pw a least s e 0), UInt8.ofNat (pw a least s e 1)]).length + 1 + ([0] ++ sPart a least s e 0 ++ sPart a least s e 1).length := by simp only [List.length_append, List.length_cons, List.length_nil]; omega
  have z4 : (L ++ V ++ [UInt8.ofNat (pw a least s e 0), UInt8.ofNat (pw a least s e 1)]).length + 1 + ([0] ++ sPart a least s e 0 ++ sPart a least s e 1 ++ sPart a least s e 2).length = (L ++ V ++ [UInt8.ofNat (pw a least s e 0), UInt8.ofNat (pw a least s e 1), UInt8.ofNat (pw a least s e 2)]).length + 1 + (sPart a least s e 0 ++ sPart a least s e 1 ++ sPart a least s e 2).length := by simp only [List.length_append, List.length_cons, List.length_nil]; omega
  rw [z2] at ta1
  rw [z3] at tb1
  rw [z4] at tc1
  rw [z1]
  have te : ∀ sz rr, f_B_putBlock_l69 (x + 5) cap pn numbers (nI (s + 1)) (nI (e + 1)) least (nI (L ++ V).length) sz rr (nI (3 + 1)) = some (Sum.inr (sz, rr)) := by
    intro sz rr
    unfold f_B_putBlock_l69
    rw [if_pos (by decide)]
  have ta1' : f_B_putBlock_l69 (x + 5) cap pn numbers (nI (s + 1)) (nI (e + 1)) least (nI (L ++ V).length) (nI ((L ++ V).length + 1 + ([0, 0, 0] : List UInt8).length)) o2.2 0 = _ := ta1
  refine ⟨(nI ((L ++ V ++ [UInt8.ofNat (pw a least s e 0), UInt8.ofNat (pw a least s e 1), UInt8.ofNat (pw a least s e 2)]).length + 1 + (sPart a least s e 0 ++ sPart a least s e 1 ++ sPart a least s e 2 ++ sPart a least s e 3).length), rd), ?_, ?_, ?_⟩
  · have hl : lp (fun v => f_B_putBlock_l69 (x + 5) cap pn numbers (nI (s + 1)) (nI (e + 1)) least (nI (L ++ V).length) v.1 v.2.1 v.2.2) (x + 5) (nI ((L ++ V).length + 1 + ([0, 0, 0] : List UInt8).length), o2.2, (0 : Int32)) = some (nI ((L ++ V ++ [UInt8.ofNat (pw a least s e 0), UInt8.ofNat (pw a least s e 1), UInt8.ofNat (pw a least s e 2)]).length + 1 + (sPart a least s e 0 ++ sPart a least s e 1 ++ sPart a least s e 2 ++ sPart a least s e 3).length), rd) := by
      simp only [lp, ta1', tb1, tc1, td1, te]
    rw [hl]; rfl
  · show nI _ = nI _
    congr 1
    simp only [sBlk, hV, List.length_append, List.length_cons, List.length_nil]; omega
  · have := td2
    simp only [sBlk, hV, List.append_assoc, List.cons_append, List.nil_append] at this ⊢
    exact this
theorem B_code {n cap pn m : Nat} {a numbers : Nat → Int64} {L : List UInt8} {row : Nat → Int32} (hn : 100000 < n) (hm : m ≤ 2000) (hpn : m ≤ pn) (hN : ∀ k, k < m → numbers k = a k) (hc : cap < 100000)
    (hL : L.length + (qsCode a m).length ≤ cap) (h : HC L row) :
    ∃ o, f_B_code n cap pn (nI L.length) row numbers (nI m) = some o ∧ QPC (L ++ qsCode a m) o := by
  unfold f_B_code
  have hlv : lv (nI m).toInt64 = m := lv_nI (by omega)
  have hlen : (qsCode a m).length = (sVar m).length + (if m = 0 then [] else sVar (lv (zz (a 0))) ++ sBlks a (m - 1) 0).length := by simp only [qsCode, List.length_append]
  obtain ⟨o1, p1, p2, p3⟩ := B_varint (n := n) (cap := cap) (L := L) (row := row) (nI m).toInt64 (by omega) (by omega) (by rw [hlv]; omega) h
  rw [hlv] at p2 p3
  have i0 : (0 : Int32) = nI 0 := rfl
  rw [p1, obs, p2]
  by_cases c : m = 0
  · subst c
    rw [if_pos (by decide)]
    unfold f_B_code_j20
    obtain ⟨x, rfl⟩ : ∃ x, n = x + 1 := ⟨n - 1, by omega⟩
    have : f_B_code_l22 (x + 1) cap pn numbers (nI 0) (nI (L ++ sVar 0).length) o1.2 1 = some (Sum.inr (nI (L ++ sVar 0).length, o1.2)) := by
      unfold f_B_code_l22; rw [if_pos (by decide)]
    simp only [lp, this]
    refine ⟨_, rfl, ?_, ?_⟩
    · simp [qsCode]
    · simpa [qsCode] using p3
  · have hm0 : ¬ nI m ≤ 0 := by rw [i0, qn_le (by omega) (by omega)]; omega
    rw [if_neg hm0, gd_t (show inB 0 pn = true by rw [i0, inB_nI (by omega)]; simpa using (show 0 < pn by omega)), F_zigzag, obs]
    rw [if_neg c, List.length_append] at hlen
    have h00 : numbers (0 : Int32).toNatClampNeg = a 0 := hN 0 (by omega)
    rw [h00]
    obtain ⟨o2, r1, r2, r3⟩ := B_varint (n := n) (cap := cap) (L := L ++ sVar m) (row := o1.2) (zz (a 0)) (by omega) (by omega) (by simp only [List.length_append]; omega) p3
    rw [r1, obs, r2]
    unfold f_B_code_j20
    generalize hM : L ++ sVar m ++ sVar (lv (zz (a 0))) = M at *
    have hlM : M.length = L.length + (sVar m).length + (sVar (lv (zz (a 0)))).length := by rw [← hM]; simp only [List.length_append]
    have main : ∃ o, lp (fun v => f_B_code_l22 n cap pn numbers (nI m) v.1 v.2.1 v.2.2) n (nI M.length, o2.2, (1 : Int32)) = some o ∧ QPC (M ++ sBlks a (m - 1) 0) o := by
      refine lp_inv (fun q u => ∃ (s : Nat) (L' : List UInt8), u.2.2 = nI (s + 1) ∧ m - 1 - s ≤ q ∧ s < m + 64 ∧ QPC L' (u.1, u.2.1) ∧ L' ++ sBlks a (m - 1) s = M ++ sBlks a (m - 1) 0) _ ?_ m n _ ⟨0, M, rfl, by omega, by omega, ⟨rfl, r3⟩, rfl⟩ (by omega)
      rintro q ⟨sz, rr, s'⟩ ⟨s, L', g1, g2, g3, ⟨g4, g5⟩, g6⟩
      simp only at g1 g4 g5
      subst g1; subst g4
      show (∃ w', f_B_code_l22 n cap pn numbers (nI m) (nI L'.length) rr (nI (s + 1)) = _ ∧ _) ∨ (∃ y, f_B_code_l22 n cap pn numbers (nI m) (nI L'.length) rr (nI (s + 1)) = _ ∧ _)
      unfold f_B_code_l22
      rw [ifle (by omega) (by omega)]
      by_cases c2 : m ≤ s + 1
      · rw [if_pos c2]
        rw [sBlks_end (by omega), List.append_nil] at g6
        exact Or.inr ⟨_, rfl, by rw [← g6]; exact ⟨rfl, g5⟩⟩
      · rw [if_neg c2]
        rw [sBlks_next (by omega)] at g6
        have hl6 := congrArg List.length g6
        simp only [List.length_append] at hl6
        have e64 : nI (s + 1) + 64 = nI (s + 65) := qn_add _ 64
        have hmn : (if nI m < nI (s + 65) then nI m else nI (s + 65)) = nI (min (s + 64) (m - 1) + 1) := by
          rw [ifl (by omega) (by omega)]
          split <;> congr 1 <;> omega
        rw [e64, hmn]
        obtain ⟨o, t1, t2⟩ := B_putBlock (n := n) (cap := cap) (pn := pn) (m := m) (s := s) (e := min (s + 64) (m - 1)) (a := a) (numbers := numbers) (L := L') (row := rr) hn hm hpn hN (by omega) (by omega) (by omega) hc (by omega) g5
        rw [t1, obs]
        refine Or.inl ⟨_, rfl, q - 1, by omega, s + 64, _, rfl, by omega, by omega, t2, ?_⟩
        rw [← g6]; simp only [List.append_assoc]
    obtain ⟨o, s1, s2⟩ := main
    rw [s1, obs]
    refine ⟨o, rfl, ?_⟩
    have : L ++ qsCode a m = M ++ sBlks a (m - 1) 0 := by
      rw [← hM]; simp only [qsCode, if_neg c, List.append_assoc]
    rw [this]; exact s2
