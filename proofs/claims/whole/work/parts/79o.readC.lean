def qseg (I : List UInt8) (a k : Nat) : List UInt8 := (I.drop a).take k
theorem qseg_len {I : List UInt8} {a k : Nat} (h : a + k ≤ I.length) : (qseg I a k).length = k := by
  unfold qseg
  rw [List.length_take, List.length_drop]; omega
theorem qseg_get {I : List UInt8} {a k i : Nat} (h : a + k ≤ I.length) (hi : i < (qseg I a k).length) : (qseg I a k)[i] = I[a + i]'(by rw [qseg_len h] at hi; omega) := by
  simp only [qseg, List.getElem_take, List.getElem_drop]
def pBody1 (I : List UInt8) (t r d m z how size a7 : Nat) : Nat ⊕ ((Nat → Nat) × (Nat → Nat) × ((Nat → Int64) × (Nat → Nat) × (Nat → UInt8))) :=
  match pLevels I (a7 + size) a7 m r d (m - z) with
  | .inl x => .inl x
  | .inr (a', rp, df) =>
    match pVals I (a7 + size) a' (m - z) t how with
    | .inl x => .inl x
    | .inr v => .inr (rp, df, v)
def pRest (I : List UInt8) (t r d m z how : Nat) (tl : (Nat → Int64) × (Nat → Nat) × (Nat → UInt8)) (size a7 chk : Nat) : Nat ⊕ (Nat × Nat × Nat × Nat × (Nat → Nat) × (Nat → Nat) × ((Nat → Int64) × (Nat → Nat) × (Nat → UInt8))) :=
  if I.length - a7 < size then .inl 1
  else if ¬ qcrc (qseg I a7 size) = (ql64 chk).toInt32 then .inl 8
  else if a7 + size < I.length then .inl 6
  else match pBody1 I t r d m z how size a7 with
  | .inl x => .inl x
  | .inr (rp, df, v) =>
    if 0 < m - z ∧ ¬ cmpZ t tl.1 v.1 tl.2.1 v.2.1 tl.2.2 v.2.2 0 (mostA (cmpZ t v.1 v.1 v.2.1 v.2.1 v.2.2 v.2.2) false (m - z)) = 0 then .inl 11
    else if 0 < m - z ∧ ¬ cmpZ t tl.1 v.1 tl.2.1 v.2.1 tl.2.2 v.2.2 1 (mostA (cmpZ t v.1 v.1 v.2.1 v.2.1 v.2.2 v.2.2) true (m - z)) = 0 then .inl 12
    else .inr (m, m - z, how, size, rp, df, v)
def pRead (I : List UInt8) (t r d : Nat) : Nat ⊕ (Nat × Nat × Nat × Nat × (Nat → Nat) × (Nat → Nat) × ((Nat → Int64) × (Nat → Nat) × (Nat → UInt8))) :=
  match pHead I t with
  | .inl x => .inl x
  | .inr (m, z, how, tl, size, a7, chk) => pRest I t r d m z how tl size a7 chk
theorem R_openF {n cap : Nat} {row : Nat → Int32} {bt : Int64} {ck bs at' to' f : Int32} (hf : ¬ f = 0) : f_R_openBody n cap bt ck bs at' to' f row = some (bs, to', f) := by
  unfold f_R_openBody
  rw [S_thereF _ hf, obs, if_pos rfl]
theorem R_open {n cap a7 size : Nat} {I : List UInt8} {row : Nat → Int32} {ck bs : Int32} (hn : 100000 < n) (hcap : cap < 100000) (hI : I.length ≤ cap) (ha : a7 ≤ I.length) (hs : size < 18446744073709551616) (h : HC I row) :
    (∃ x bs' to', f_R_openBody n cap (ql64 size) ck bs (nI a7) (nI I.length) 0 row = some (bs', to', nI x) ∧ ¬ nI x = 0 ∧ ((I.length - a7 < size ∧ x = 1) ∨ (¬ I.length - a7 < size ∧ ¬ qcrc (qseg I a7 size) = ck ∧ x = 8) ∨ (¬ I.length - a7 < size ∧ qcrc (qseg I a7 size) = ck ∧ a7 + size < I.length ∧ x = 6))) ∨
    (¬ I.length - a7 < size ∧ qcrc (qseg I a7 size) = ck ∧ ¬ a7 + size < I.length ∧ f_R_openBody n cap (ql64 size) ck bs (nI a7) (nI I.length) 0 row = some (nI size, nI (a7 + size), 0)) := by
  unfold f_R_openBody
  by_cases c1 : I.length - a7 < size
  · rw [S_there1 _ (by rw [lv_l64 hs]; omega) ha (by omega), obs, if_pos rfl]
    exact Or.inl ⟨1, _, _, rfl, by decide, Or.inl ⟨c1, rfl⟩⟩
  · have ez : (ql64 size).toInt32 = nI size := l64_i32 (by omega)
    have hfit : a7 + size ≤ I.length := by omega
    have hck : f_F_checkOf n cap row (nI a7) (nI (a7 + (qseg I a7 size).length)) = some (qcrc (qseg I a7 size)) := F_checkOf hn hcap (by rw [qseg_len hfit]; omega) (fun i hi => by rw [qseg_get hfit hi]; exact h (a7 + i) (by rw [qseg_len hfit] at hi; omega))
    rw [qseg_len hfit] at hck
    rw [S_there0 _ (by rw [lv_l64 hs]; omega) ha (by omega), obs, if_neg (show ¬ (1 : Int32) = 0 by decide), bnd_eq, ez, qn_add, hck, obs]
    unfold f_R_openBody_j71 f_R_openBody_j91
    by_cases c8 : qcrc (qseg I a7 size) = ck
    · rw [if_pos c8, ifle (by omega) (by omega), S_fail0, obs]
      by_cases c6 : a7 + size < I.length
      · rw [if_neg (by omega)]
        exact Or.inl ⟨6, _, _, rfl, by decide, Or.inr (Or.inr ⟨c1, c8, c6, rfl⟩)⟩
      · rw [if_pos (by omega)]
        exact Or.inr ⟨c1, c8, c6, rfl⟩
    · rw [if_neg c8, S_fail0, obs, S_failF _ (show ¬ (8 : Int32) = 0 by decide), obs, ite_self]
      exact Or.inl ⟨8, _, _, rfl, by decide, Or.inr (Or.inl ⟨c1, c8, rfl⟩)⟩
theorem R_valsF {n cap : Nat} {row : Nat → Int32} {commons dNum nums numbers : Nat → Int64} {c how t dOf dCnt at' to' f ofTexts count : Int32} {dSt dTx wds starts texts : Nat → Int32} (hf : ¬ f = 0) :
    f_R_takeValues n 2000 1000 1001 20000 2000 cap 4 1000 1001 20000 c how t commons dOf dCnt dNum dSt dTx nums at' to' f row wds ofTexts count numbers starts texts = some (commons, dOf, dCnt, dNum, dSt, dTx, nums, at', to', f, wds, count, numbers, starts, texts) := by
  unfold f_R_takeValues
  rw [if_neg hf]
def rdTail (n : Nat) (t_input_row_n : Nat) (t_reader_commons_n : Nat) (t_reader_dictionary_numbers_n : Nat) (t_reader_dictionary_starts_n : Nat) (t_reader_dictionary_texts_n : Nat) (t_reader_numbers_n : Nat) (t_reader_source_widths_n : Nat) (t_reader_told_numbers_n : Nat) (t_reader_told_starts_n : Nat) (t_reader_told_texts_n : Nat) (t_spare_definitions_n : Nat) (t_spare_repetitions_n : Nat) (t_spare_valueNumbers_n : Nat) (t_spare_values_numbers_n : Nat) (t_spare_values_starts_n : Nat) (t_spare_values_texts_n : Nat) (t_lastCoding : Int32) (t_lastBody : Int32) (t_column_type : Int32) (t_column_mostR : Int32) (t_column_mostD : Int32) (t_input_size : Int32) (t_input_row : Nat → Int32) (t_reader_bodySize : Int32) (t_reader_commons : Nat → Int64) (t_reader_dictionary_ofTexts : Int32) (t_reader_dictionary_count : Int32) (t_reader_dictionary_numbers : Nat → Int64) (t_reader_dictionary_starts : Nat → Int32) (t_reader_dictionary_texts : Nat → Int32) (t_reader_numbers : Nat → Int64) (t_reader_source_widths : Nat → Int32) (t_reader_told_numbers : Nat → Int64) (t_reader_told_starts : Nat → Int32) (t_reader_told_texts : Nat → Int32) (t_spare_definitions : Nat → Int32) (t_spare_repetitions : Nat → Int32) (t_spare_valueNumbers : Nat → Int32) (t_spare_values_numbers : Nat → Int64) (t_spare_values_starts : Nat → Int32) (t_spare_values_texts : Nat → Int32) (o6 : Int32 × Int32 × Int64 × Int32 × Int32 × Int32 × Int32 × Int32 × Int32 × Int32 × (Nat → Int64) × (Nat → Int32) × (Nat → Int32)) (o7 : Int32 × Int32 × Int32) : Option (Int32 × Int32 × Int32 × Int32 × Int32 × Int64 × Int32 × Int32 × Int32 × (Nat → Int64) × Int32 × Int32 × (Nat → Int64) × (Nat → Int32) × (Nat → Int32) × (Nat → Int64) × Int32 × Int32 × Int32 × (Nat → Int32) × Int32 × Int32 × (Nat → Int64) × (Nat → Int32) × (Nat → Int32) × Int32 × Int32 × (Nat → Int32) × (Nat → Int32) × (Nat → Int32) × Int32 × Int32 × (Nat → Int64) × (Nat → Int32) × (Nat → Int32) × Int32) :=
  Option.bind (f_R_takeLevels n t_reader_numbers_n t_input_row_n t_spare_definitions_n t_spare_repetitions_n t_spare_valueNumbers_n o6.1 o6.2.1 t_column_type t_column_mostR t_column_mostD t_reader_numbers o6.2.2.2.2.2.1 o7.2.1 o7.2.2 t_input_row t_spare_definitions t_spare_repetitions t_spare_valueNumbers) (fun o8 => Option.bind (f_R_takeValues n t_reader_commons_n t_reader_dictionary_numbers_n t_reader_dictionary_starts_n t_reader_dictionary_texts_n t_reader_numbers_n t_input_row_n t_reader_source_widths_n t_spare_values_numbers_n t_spare_values_starts_n t_spare_values_texts_n o6.2.1 o6.2.2.2.2.1 t_column_type t_reader_commons t_reader_dictionary_ofTexts t_reader_dictionary_count t_reader_dictionary_numbers t_reader_dictionary_starts t_reader_dictionary_texts o8.1 o8.2.1 o8.2.2.1 o8.2.2.2.1 t_input_row t_reader_source_widths o8.2.2.2.2.2.2.2.2.2.1 o8.2.2.2.2.2.2.2.2.2.2 t_spare_values_numbers t_spare_values_starts t_spare_values_texts) (fun o9 => Option.bind (f_R_compareTold n t_reader_told_numbers_n t_reader_told_starts_n t_reader_told_texts_n t_spare_values_numbers_n t_spare_values_starts_n t_spare_values_texts_n o9.2.2.2.2.2.2.2.2.2.1 o6.2.2.2.2.2.2.2.2.1 o6.2.2.2.2.2.2.2.2.2.2.1 o6.2.2.2.2.2.2.2.2.2.2.2.1 o6.2.2.2.2.2.2.2.2.2.2.2.2 o8.2.2.2.2.2.2.2.2.2.1 o9.2.2.2.2.2.2.2.2.2.2.2.1 o9.2.2.2.2.2.2.2.2.2.2.2.2.1 o9.2.2.2.2.2.2.2.2.2.2.2.2.2.1 o9.2.2.2.2.2.2.2.2.2.2.2.2.2.2) (fun o10 => (if o10 = 0 then some ((0 : Int32), o6.2.2.2.2.1, o7.1, o6.1, o6.2.1, o6.2.2.1, o6.2.2.2.1, o6.2.2.2.2.1, o7.1, o9.1, o9.2.1, o9.2.2.1, o9.2.2.2.1, o9.2.2.2.2.1, o9.2.2.2.2.2.1, o9.2.2.2.2.2.2.1, o9.2.2.2.2.2.2.2.1, o9.2.2.2.2.2.2.2.2.1, o10, o9.2.2.2.2.2.2.2.2.2.2.1, o6.2.2.2.2.2.2.2.2.1, o6.2.2.2.2.2.2.2.2.2.1, o6.2.2.2.2.2.2.2.2.2.2.1, o6.2.2.2.2.2.2.2.2.2.2.2.1, o6.2.2.2.2.2.2.2.2.2.2.2.2, o8.2.2.2.2.1, o8.2.2.2.2.2.1, o8.2.2.2.2.2.2.1, o8.2.2.2.2.2.2.2.1, o8.2.2.2.2.2.2.2.2.1, o8.2.2.2.2.2.2.2.2.2.1, o9.2.2.2.2.2.2.2.2.2.2.2.1, o9.2.2.2.2.2.2.2.2.2.2.2.2.1, o9.2.2.2.2.2.2.2.2.2.2.2.2.2.1, o9.2.2.2.2.2.2.2.2.2.2.2.2.2.2, (1 : Int32)) else some (o10, t_lastCoding, t_lastBody, o6.1, o6.2.1, o6.2.2.1, o6.2.2.2.1, o6.2.2.2.2.1, o7.1, o9.1, o9.2.1, o9.2.2.1, o9.2.2.2.1, o9.2.2.2.2.1, o9.2.2.2.2.2.1, o9.2.2.2.2.2.2.1, o9.2.2.2.2.2.2.2.1, o9.2.2.2.2.2.2.2.2.1, o10, o9.2.2.2.2.2.2.2.2.2.2.1, o6.2.2.2.2.2.2.2.2.1, o6.2.2.2.2.2.2.2.2.2.1, o6.2.2.2.2.2.2.2.2.2.2.1, o6.2.2.2.2.2.2.2.2.2.2.2.1, o6.2.2.2.2.2.2.2.2.2.2.2.2, o8.2.2.2.2.1, o8.2.2.2.2.2.1, o8.2.2.2.2.2.2.1, o8.2.2.2.2.2.2.2.1, o8.2.2.2.2.2.2.2.2.1, o8.2.2.2.2.2.2.2.2.2.1, o9.2.2.2.2.2.2.2.2.2.2.2.1, o9.2.2.2.2.2.2.2.2.2.2.2.2.1, o9.2.2.2.2.2.2.2.2.2.2.2.2.2.1, o9.2.2.2.2.2.2.2.2.2.2.2.2.2.2, (0 : Int32))))))
theorem rdTail_eq (n : Nat) (t_input_row_n : Nat) (t_reader_commons_n : Nat) (t_reader_dictionary_numbers_n : Nat) (t_reader_dictionary_starts_n : Nat) (t_reader_dictionary_texts_n : Nat) (t_reader_numbers_n : Nat) (t_reader_source_widths_n : Nat) (t_reader_told_numbers_n : Nat) (t_reader_told_starts_n : Nat) (t_reader_told_texts_n : Nat) (t_spare_definitions_n : Nat) (t_spare_repetitions_n : Nat) (t_spare_valueNumbers_n : Nat) (t_spare_values_numbers_n : Nat) (t_spare_values_starts_n : Nat) (t_spare_values_texts_n : Nat) (t_lastCoding : Int32) (t_lastBody : Int32) (t_column_type : Int32) (t_column_mostR : Int32) (t_column_mostD : Int32) (t_input_size : Int32) (t_input_row : Nat → Int32) (t_reader_bodySize : Int32) (t_reader_commons : Nat → Int64) (t_reader_dictionary_ofTexts : Int32) (t_reader_dictionary_count : Int32) (t_reader_dictionary_numbers : Nat → Int64) (t_reader_dictionary_starts : Nat → Int32) (t_reader_dictionary_texts : Nat → Int32) (t_reader_numbers : Nat → Int64) (t_reader_source_widths : Nat → Int32) (t_reader_told_numbers : Nat → Int64) (t_reader_told_starts : Nat → Int32) (t_reader_told_texts : Nat → Int32) (t_spare_definitions : Nat → Int32) (t_spare_repetitions : Nat → Int32) (t_spare_valueNumbers : Nat → Int32) (t_spare_values_numbers : Nat → Int64) (t_spare_values_starts : Nat → Int32) (t_spare_values_texts : Nat → Int32) : f_F_read n t_input_row_n t_reader_commons_n t_reader_dictionary_numbers_n t_reader_dictionary_starts_n t_reader_dictionary_texts_n t_reader_numbers_n t_reader_source_widths_n t_reader_told_numbers_n t_reader_told_starts_n t_reader_told_texts_n t_spare_definitions_n t_spare_repetitions_n t_spare_valueNumbers_n t_spare_values_numbers_n t_spare_values_starts_n t_spare_values_texts_n t_lastCoding t_lastBody t_column_type t_column_mostR t_column_mostD t_input_size t_input_row t_reader_bodySize t_reader_commons t_reader_dictionary_ofTexts t_reader_dictionary_count t_reader_dictionary_numbers t_reader_dictionary_starts t_reader_dictionary_texts t_reader_numbers t_reader_source_widths t_reader_told_numbers t_reader_told_starts t_reader_told_texts t_spare_definitions t_spare_repetitions t_spare_valueNumbers t_spare_values_numbers t_spare_values_starts t_spare_values_texts = Option.bind (f_R_takeHead n t_input_row_n t_reader_told_numbers_n t_reader_told_starts_n t_reader_told_texts_n t_column_type t_input_size t_input_row t_reader_told_numbers t_reader_told_starts t_reader_told_texts) (fun o6 => Option.bind (f_R_openBody n t_input_row_n o6.2.2.1 o6.2.2.2.1 t_reader_bodySize o6.2.2.2.2.2.1 o6.2.2.2.2.2.2.1 o6.2.2.2.2.2.2.2.1 t_input_row) (fun o7 => rdTail n t_input_row_n t_reader_commons_n t_reader_dictionary_numbers_n t_reader_dictionary_starts_n t_reader_dictionary_texts_n t_reader_numbers_n t_reader_source_widths_n t_reader_told_numbers_n t_reader_told_starts_n t_reader_told_texts_n t_spare_definitions_n t_spare_repetitions_n t_spare_valueNumbers_n t_spare_values_numbers_n t_spare_values_starts_n t_spare_values_texts_n t_lastCoding t_lastBody t_column_type t_column_mostR t_column_mostD t_input_size t_input_row t_reader_bodySize t_reader_commons t_reader_dictionary_ofTexts t_reader_dictionary_count t_reader_dictionary_numbers t_reader_dictionary_starts t_reader_dictionary_texts t_reader_numbers t_reader_source_widths t_reader_told_numbers t_reader_told_starts t_reader_told_texts t_spare_definitions t_spare_repetitions t_spare_valueNumbers t_spare_values_numbers t_spare_values_starts t_spare_values_texts o6 o7)) := rfl
theorem rdTailF {n t r d x : Nat} {I : List UInt8} {row : Nat → Int32} {lc lb bs dOf dCnt : Int32} {commons dNum nums tn snum : Nat → Int64} {dSt dTx wds ts tt defs reps vns sst stx : Nat → Int32} (o6 : Int32 × Int32 × Int64 × Int32 × Int32 × Int32 × Int32 × Int32 × Int32 × Int32 × (Nat → Int64) × (Nat → Int32) × (Nat → Int32)) (o7 : Int32 × Int32 × Int32)
    (hn : 100000 < n) (ht : t ≤ 3) (hr : r ≤ d) (hd : d ≤ 16) (hx : ¬ nI x = 0) (h7 : o7.2.2 = nI x) (hk : ∃ k, k ≤ 1000 ∧ o6.1 = nI k) (hd0 : dSt 0 = nI 0) (hts : o6.2.2.2.2.2.2.2.2.2.2.2.1 0 = nI 0) (hs0 : sst 0 = nI 0) :
    ∃ o, rdTail n 30000 2000 1000 1001 20000 2000 4 2 3 510 1000 1000 1000 1000 1001 20000 lc lb (nI t) (nI r) (nI d) (nI I.length) row bs commons dOf dCnt dNum dSt dTx nums wds tn ts tt defs reps vns snum sst stx o6 o7 = some o ∧ o.2.2.2.2.2.2.2.2.2.2.2.2.2.1 0 = nI 0 ∧ o.2.2.2.2.2.2.2.2.2.2.2.2.2.2.2.2.2.2.2.2.2.2.2.1 0 = nI 0 ∧ o.1 = nI x ∧ o.2.1 = lc ∧ o.2.2.1 = lb ∧ o.2.2.2.2.2.2.2.2.2.2.2.2.2.2.2.2.2.2.2.2.2.2.2.2.2.2.2.2.2.2.2.2.2.1 0 = nI 0 ∧ o.2.2.2.2.2.2.2.2.2.2.2.2.2.2.2.2.2.2.2.2.2.2.2.2.2.2.2.2.2.2.2.2.2.2.2 = 0 := by
  unfold rdTail
  obtain ⟨k, hk1, hk2⟩ := hk
  have hF : ¬ o7.2.2 = 0 := by rw [h7]; exact hx
  obtain ⟨o8, y1, y2⟩ := R_takeLevelsF (n := n) (cap := 30000) (m := k) (r := r) (d := d) (t := t) (row := row) (defs := defs) (reps := reps) (vns := vns) (nums := nums) (c := o6.2.1) (at' := o6.2.2.2.2.2.1) (to' := o7.2.1) (f := o7.2.2) hn hk1 (by omega) hd ht hF
  have hF8 : ¬ o8.2.2.2.1 = 0 := by rw [y2]; exact hF
  rw [hk2, y1, obs, R_valsF hF8, obs]
  simp only
  rw [R_compareToldF hF8, obs, if_neg hF8]
  exact ⟨_, rfl, hd0, hts, y2.trans h7, rfl, rfl, hs0, rfl⟩
theorem C_read {n t r d : Nat} {I : List UInt8} {row : Nat → Int32} {lc lb bs dOf dCnt : Int32} {commons dNum nums tn snum : Nat → Int64} {dSt dTx wds ts tt defs reps vns sst stx : Nat → Int32}
    (hn : 100000 < n) (hI : I.length ≤ 30000) (ht : t ≤ 3) (hr : r ≤ d) (hd : d ≤ 16) (h : HC I row) (hd0 : dSt 0 = nI 0) (ht0 : ts 0 = nI 0) (hs0 : sst 0 = nI 0) :
    ∃ o, f_F_read n 30000 2000 1000 1001 20000 2000 4 2 3 510 1000 1000 1000 1000 1001 20000 lc lb (nI t) (nI r) (nI d) (nI I.length) row bs commons dOf dCnt dNum dSt dTx nums wds tn ts tt defs reps vns snum sst stx = some o ∧ o.2.2.2.2.2.2.2.2.2.2.2.2.2.1 0 = nI 0 ∧ o.2.2.2.2.2.2.2.2.2.2.2.2.2.2.2.2.2.2.2.2.2.2.2.1 0 = nI 0 ∧
      ((∃ x, pRead I t r d = .inl x ∧ ¬ nI x = 0 ∧ o.1 = nI x ∧ o.2.1 = lc ∧ o.2.2.1 = lb ∧ o.2.2.2.2.2.2.2.2.2.2.2.2.2.2.2.2.2.2.2.2.2.2.2.2.2.2.2.2.2.2.2.2.2.1 0 = nI 0 ∧ o.2.2.2.2.2.2.2.2.2.2.2.2.2.2.2.2.2.2.2.2.2.2.2.2.2.2.2.2.2.2.2.2.2.2.2 = 0) ∨
       (∃ m c how size rp df v, pRead I t r d = .inr (m, c, how, size, rp, df, v) ∧ o.1 = 0 ∧ o.2.1 = nI how ∧ o.2.2.1 = nI size ∧ o.2.2.2.2.2.2.2.2.2.2.2.2.2.2.2.2.2.2.2.2.2.2.2.2.2.2.2.2.2.2.2.2.2.2.2 = 1 ∧ PgV t r d m c rp df v.1 v.2.1 ∧ PgC t d m c rp df v.1 v.2.1 v.2.2 o.2.2.2.2.2.2.2.2.2.2.2.2.2.2.2.2.2.2.2.2.2.2.2.2.2.1 o.2.2.2.2.2.2.2.2.2.2.2.2.2.2.2.2.2.2.2.2.2.2.2.2.2.2.1 o.2.2.2.2.2.2.2.2.2.2.2.2.2.2.2.2.2.2.2.2.2.2.2.2.2.2.2.1 o.2.2.2.2.2.2.2.2.2.2.2.2.2.2.2.2.2.2.2.2.2.2.2.2.2.2.2.2.1 o.2.2.2.2.2.2.2.2.2.2.2.2.2.2.2.2.2.2.2.2.2.2.2.2.2.2.2.2.2.1 o.2.2.2.2.2.2.2.2.2.2.2.2.2.2.2.2.2.2.2.2.2.2.2.2.2.2.2.2.2.2.1 o.2.2.2.2.2.2.2.2.2.2.2.2.2.2.2.2.2.2.2.2.2.2.2.2.2.2.2.2.2.2.2.1 o.2.2.2.2.2.2.2.2.2.2.2.2.2.2.2.2.2.2.2.2.2.2.2.2.2.2.2.2.2.2.2.2.1 o.2.2.2.2.2.2.2.2.2.2.2.2.2.2.2.2.2.2.2.2.2.2.2.2.2.2.2.2.2.2.2.2.2.1 o.2.2.2.2.2.2.2.2.2.2.2.2.2.2.2.2.2.2.2.2.2.2.2.2.2.2.2.2.2.2.2.2.2.2.1)) := by
  rw [rdTail_eq]
  unfold pRead
  rcases R_takeHead (n := n) (cap := 30000) (t := t) (I := I) (row := row) (tn := tn) (ts := ts) (tt := tt) hn (by omega) hI ht h ht0 with ⟨x, k, ct, bt, ck, cod, at2, tOf, tc, tn', ts', tt', h1, h2, h3, h4, h5⟩ | ⟨m, z, how, tl, size, a7, chk, tc, tn', ts', tt', h1, h2, h3, h4, h5, h6, h7, h8, h9, h10⟩
  · rw [h1, obs, R_openF h3, obs, h2]
    obtain ⟨o, z1, z2, z3, z4, z5, z6, z7, z8⟩ := rdTailF (n := n) (t := t) (r := r) (d := d) (x := x) (I := I) (row := row) (lc := lc) (lb := lb) (bs := bs) (dOf := dOf) (dCnt := dCnt) (commons := commons) (dNum := dNum) (nums := nums) (tn := tn) (snum := snum) (dSt := dSt) (dTx := dTx) (wds := wds) (ts := ts) (tt := tt) (defs := defs) (reps := reps) (vns := vns) (sst := sst) (stx := stx) (nI k, ct, bt, ck, cod, at2, nI I.length, nI x, tOf, tc, tn', ts', tt') (bs, nI I.length, nI x) hn ht hr hd h3 rfl ⟨k, h4, rfl⟩ hd0 h5 hs0
    exact ⟨o, z1, z2, z3, Or.inl ⟨x, rfl, h3, z4, z5, z6, z7, z8⟩⟩
  · rw [h1, obs, h2]
    simp only
    unfold pRest
    rcases R_open (n := n) (cap := 30000) (a7 := a7) (size := size) (I := I) (row := row) (ck := (ql64 chk).toInt32) (bs := bs) hn (by omega) hI h7 h8 h with ⟨x, bs', to', y1, y2, y3⟩ | ⟨y1, y2, y3, y4⟩
    · rw [y1, obs]
      obtain ⟨o, z1, z2, z3, z4, z5, z6, z7, z8⟩ := rdTailF (n := n) (t := t) (r := r) (d := d) (x := x) (I := I) (row := row) (lc := lc) (lb := lb) (bs := bs) (dOf := dOf) (dCnt := dCnt) (commons := commons) (dNum := dNum) (nums := nums) (tn := tn) (snum := snum) (dSt := dSt) (dTx := dTx) (wds := wds) (ts := ts) (tt := tt) (defs := defs) (reps := reps) (vns := vns) (sst := sst) (stx := stx) (nI m, nI (m - z), ql64 size, (ql64 chk).toInt32, nI how, nI a7, nI I.length, 0, nI (if t = 3 then 1 else 0), tc, tn', ts', tt') (bs', to', nI x) hn ht hr hd y2 rfl ⟨m, h4, rfl⟩ hd0 h9 hs0
      refine ⟨o, z1, z2, z3, Or.inl ⟨x, ?_, y2, z4, z5, z6, z7, z8⟩⟩
      rcases y3 with ⟨c1, hx⟩ | ⟨c1, c8, hx⟩ | ⟨c1, c8, c6, hx⟩
      · rw [if_pos c1, hx]
      · rw [if_neg c1, if_pos c8, hx]
      · rw [if_neg c1, if_neg (show ¬ ¬ qcrc (qseg I a7 size) = (ql64 chk).toInt32 from fun hh => hh c8), if_pos c6, hx]
    · rw [y4, obs, if_neg y1, if_neg (show ¬ ¬ qcrc (qseg I a7 size) = (ql64 chk).toInt32 from fun hh => hh y2), if_neg y3]
      unfold rdTail pBody1
      obtain ⟨o8, u1, u2, u3, u4, u5⟩ := R_takeLevels (n := n) (cap := 30000) (e := a7 + size) (a := a7) (m := m) (r := r) (d := d) (c := m - z) (t := t) (I := I) (row := row) (defs := defs) (reps := reps) (vns := vns) (nums := nums) hn (by omega) hI (by omega) (by omega) h4 (by omega) hd (by omega) ht h
      rw [u1, obs]
      rcases u5 with ⟨x, w1, w2, w3⟩ | ⟨a', rp, df, w1, w2, w3, w4, w5, w6, w7, w8, w9, w10⟩
      · have hF8 : ¬ o8.2.2.2.1 = 0 := by rw [w2]; exact w3
        rw [R_valsF hF8, obs]
        simp only
        rw [R_compareToldF hF8, obs, if_neg hF8, w1]
        exact ⟨_, rfl, hd0, h9, Or.inl ⟨x, rfl, w3, w2, rfl, rfl, hs0, rfl⟩⟩
      · have hC0 : VsC t 0 (fun _ => 0) (fun _ => 0) (fun _ => 0) o8.2.2.2.2.2.2.2.2.2.1 o8.2.2.2.2.2.2.2.2.2.2 snum sst stx := ⟨u3, u4, fun _ i hi => absurd hi (by omega), hs0, fun _ => ⟨fun i hi => by rw [show i = 0 by omega]; exact hs0, fun j hj => absurd hj (Nat.not_lt_zero j)⟩⟩
        obtain ⟨o9, g1, g2, g3, g4⟩ := R_takeValues (n := n) (cap := 30000) (e := a7 + size) (a := a') (c := m - z) (t := t) (how := how) (I := I) (row := row) (commons := commons) (dNum := dNum) (nums := o8.1) (numbers := snum) (dOf := dOf) (dCnt := dCnt) (ofTexts := o8.2.2.2.2.2.2.2.2.2.1) (count := o8.2.2.2.2.2.2.2.2.2.2) (dSt := dSt) (dTx := dTx) (wds := wds) (starts := sst) (texts := stx) hn (by omega) hI (by omega) w2 (by omega) ht h6 h hd0 hC0
        rw [w6, u2, w7, g1, obs, w1]
        simp only
        rcases g4 with ⟨x, k1, k2, k3⟩ | ⟨v, k1, k2, k3, k4⟩
        · have hF9 : ¬ o9.2.2.2.2.2.2.2.2.2.1 = 0 := by rw [k2]; exact k3
          rw [R_compareToldF hF9, obs, if_neg hF9, k1]
          exact ⟨_, rfl, g2, h9, Or.inl ⟨x, rfl, k3, k2, rfl, rfl, g3, rfl⟩⟩
        · obtain ⟨oc, c1, c2⟩ := R_compareTold (n := n) (t := t) (c := m - z) (num := v.1) (tn := tl.1) (S := v.2.1) (tS' := tl.2.1) (T := v.2.2) (tT' := tl.2.2) (ofTexts := o8.2.2.2.2.2.2.2.2.2.1) (cnt := o9.2.2.2.2.2.2.2.2.2.2.2.1) (tOf := nI (if t = 3 then 1 else 0)) (tCnt := tc) (numbers := o9.2.2.2.2.2.2.2.2.2.2.2.2.1) (tNum := tn') (starts := o9.2.2.2.2.2.2.2.2.2.2.2.2.2.1) (texts := o9.2.2.2.2.2.2.2.2.2.2.2.2.2.2) (tSt := ts') (tTx := tt') hn (by omega) (fun h3 => k3.2 h3) (fun hc0 h3 => (h10 hc0).1 h3) k4 (fun hc0 => (h10 hc0).2)
          rw [k2, c1, obs, k1]
          simp only
          rcases c2 with ⟨e1, e2, e3⟩ | ⟨e1, e2, e3, e4⟩ | ⟨e1, e2⟩
          · have K1 : 0 < m - z ∧ ¬ cmpZ t tl.1 v.1 tl.2.1 v.2.1 tl.2.2 v.2.2 0 (mostA (cmpZ t v.1 v.1 v.2.1 v.2.1 v.2.2 v.2.2) false (m - z)) = 0 := ⟨e1, e2⟩
            rw [e3, if_neg (show ¬ (11 : Int32) = 0 by decide), if_pos K1]
            exact ⟨_, rfl, g2, h9, Or.inl ⟨11, rfl, by decide, rfl, rfl, rfl, g3, rfl⟩⟩
          · have K1 : ¬ (0 < m - z ∧ ¬ cmpZ t tl.1 v.1 tl.2.1 v.2.1 tl.2.2 v.2.2 0 (mostA (cmpZ t v.1 v.1 v.2.1 v.2.1 v.2.2 v.2.2) false (m - z)) = 0) := fun hh => hh.2 e2
            have K2 : 0 < m - z ∧ ¬ cmpZ t tl.1 v.1 tl.2.1 v.2.1 tl.2.2 v.2.2 1 (mostA (cmpZ t v.1 v.1 v.2.1 v.2.1 v.2.2 v.2.2) true (m - z)) = 0 := ⟨e1, e3⟩
            rw [e4, if_neg (show ¬ (12 : Int32) = 0 by decide), if_neg K1, if_pos K2]
            exact ⟨_, rfl, g2, h9, Or.inl ⟨12, rfl, by decide, rfl, rfl, rfl, g3, rfl⟩⟩
          · have K1 : ¬ (0 < m - z ∧ ¬ cmpZ t tl.1 v.1 tl.2.1 v.2.1 tl.2.2 v.2.2 0 (mostA (cmpZ t v.1 v.1 v.2.1 v.2.1 v.2.2 v.2.2) false (m - z)) = 0) := fun hh => by
              rcases e1 with e1 | e1
              · omega
              · exact hh.2 e1.1
            have K2 : ¬ (0 < m - z ∧ ¬ cmpZ t tl.1 v.1 tl.2.1 v.2.1 tl.2.2 v.2.2 1 (mostA (cmpZ t v.1 v.1 v.2.1 v.2.1 v.2.2 v.2.2) true (m - z)) = 0) := fun hh => by
              rcases e1 with e1 | e1
              · omega
              · exact hh.2 e1.2
            rw [e2, if_pos rfl, if_neg K1, if_neg K2]
            refine ⟨_, rfl, g2, h9, Or.inr ⟨m, m - z, how, size, rp, df, v, rfl, rfl, rfl, rfl, rfl, ?_, w8, w9, w10, k4⟩⟩
            refine ⟨h4, w5.symm, fun k hk => ⟨w3 k hk, w4 k hk⟩, fun h3 i hi => (k3.1 h3).1 i hi, ?_, fun h3 => ⟨fun i hi => (k3.2 h3).2.1 i hi, (k3.2 h3).2.2⟩⟩
            by_cases h3 : t = 3
            · exact (k3.2 h3).1
            · exact (k3.1 h3).2
