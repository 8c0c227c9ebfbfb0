theorem I_cases (v : Int32) : v < 0 ∨ ∃ k, k < 2147483648 ∧ v = nI k := by
  by_cases h : v < 0
  · exact Or.inl h
  · refine Or.inr ⟨v.toInt.toNat, ?_, ?_⟩
    · have := Int32.toInt_lt v
      have h0 : ¬ v.toInt < 0 := by rw [Int32.lt_iff_toInt_lt] at h; exact h
      omega
    · have := Int32.toInt_lt v
      have h0 : ¬ v.toInt < 0 := by rw [Int32.lt_iff_toInt_lt] at h; exact h
      apply Int32.toInt_inj.mp
      rw [qn_toInt (by omega)]; omega
theorem nI_nn {k : Nat} (h : k < 2147483648) : ¬ nI k < 0 := by rw [QI0, qn_lt h (by omega)]; omega
theorem cntD_le (df : Nat → Nat) (d k : Nat) : cntD df d k ≤ k := by
  induction k with
  | zero => simp [cntD]
  | succ k ih => simp only [cntD]; split <;> omega
theorem cntD_mono (df : Nat → Nat) (d : Nat) {j k : Nat} (h : j ≤ k) : cntD df d j ≤ cntD df d k := by
  induction k with
  | zero => have : j = 0 := by omega
            subst this; exact Nat.le_refl _
  | succ k ih =>
    by_cases e : j = k + 1
    · subst e; exact Nat.le_refl _
    · have := ih (by omega); simp only [cntD]; omega
theorem s_about (n : Nat) : H_about QSim n := by
  intro x_lastCoding x_lastBody x_column_type x_column_mostR x_column_mostD x_input_size x_input_row x_output_size x_output_row x_page_entries x_page_valued x_page_definitions x_page_repetitions x_page_valueNumbers x_page_values_ofTexts x_page_values_count x_page_values_numbers x_page_values_starts x_page_values_texts x_reader_entries x_reader_count x_reader_bodyTold x_reader_check x_reader_coding x_reader_bodySize x_reader_commons x_reader_dictionary_ofTexts x_reader_dictionary_count x_reader_dictionary_numbers x_reader_dictionary_starts x_reader_dictionary_texts x_reader_numbers x_reader_source_at x_reader_source_to x_reader_source_fault x_reader_source_widths x_reader_told_ofTexts x_reader_told_count x_reader_told_numbers x_reader_told_starts x_reader_told_texts x_spare_entries x_spare_valued x_spare_definitions x_spare_repetitions x_spare_valueNumbers x_spare_values_ofTexts x_spare_values_count x_spare_values_numbers x_spare_values_starts x_spare_values_texts x_tape_size x_tape_row x_writer_entries x_writer_levelBytes x_writer_body_size x_writer_body_row x_writer_commons x_writer_dictionary_count x_writer_dictionary_firsts x_writer_dictionary_slots x_writer_numbers x_writer_piece_size x_writer_piece_row m_code m_type m_mostR m_mostD m_entries m_values m_coding m_bodySize m_newCount m_words m_taped m_inputSize m_outSize m_at m_stop m_fault m_longCount m_body m_bytes m_common m_definitions m_from m_input m_longs m_more m_newBytes m_newDefinitions m_newFrom m_newRepetitions m_newWholes m_numbers m_out m_repetitions m_tape m_told2 m_toldBytes m_toldSize m_wholes m_wordBytes m_wordFrom m_words8 v1 hs
  have hs' := hs
  obtain ⟨t, r, d, nn, c, rp, df, num, S, T, ⟨ht3, hrd, hd16⟩, hV, hCx, hCm, hPC, hPM, hTp, hIn, hOu, hlc, hlb, hz⟩ := hs
  obtain ⟨e1, e2, e3, e4, e5, e6, e7, e8⟩ := hPC
  obtain ⟨g1, g2, g4, g5, g6, g7⟩ := hPM
  unfold f_F_about f_M_about
  by_cases c0 : v1 = 0
  · exact ⟨_, _, if_pos c0, if_pos c0, by rw [e1, g1], hs'⟩
  rw [if_neg c0, if_neg c0]
  by_cases c1 : v1 = 1
  · exact ⟨_, _, if_pos c1, if_pos c1, by rw [e1, g1, e5, g4], hs'⟩
  rw [if_neg c1, if_neg c1]
  by_cases c2 : v1 = 2
  · exact ⟨_, _, if_pos c2, if_pos c2, hlc, hs'⟩
  rw [if_neg c2, if_neg c2]
  by_cases c3 : v1 = 3
  · exact ⟨_, _, if_pos c3, if_pos c3, hlb, hs'⟩
  rw [if_neg c3, if_neg c3]
  exact ⟨_, _, rfl, rfl, rfl, hs'⟩
theorem ifl {α : Type} {a b : Nat} {x y : α} (ha : a < 2147483648) (hb : b < 2147483648) : (if nI a < nI b then x else y) = if a < b then x else y := by
  by_cases h : a < b
  · rw [if_pos h, if_pos (by rw [qn_lt ha hb]; exact h)]
  · rw [if_neg h, if_neg (by rw [qn_lt ha hb]; exact h)]
theorem ifle {α : Type} {a b : Nat} {x y : α} (ha : a < 2147483648) (hb : b < 2147483648) : (if nI a ≤ nI b then x else y) = if a ≤ b then x else y := by
  by_cases h : a ≤ b
  · rw [if_pos h, if_pos (by rw [qn_le ha hb]; exact h)]
  · rw [if_neg h, if_neg (by rw [qn_le ha hb]; exact h)]
theorem ife {α : Type} {a b : Nat} {x y : α} (ha : a < 2147483648) (hb : b < 2147483648) : (if nI a = nI b then x else y) = if a = b then x else y := by
  by_cases h : a = b
  · rw [if_pos h, if_pos (by rw [nI_inj ha hb]; exact h)]
  · rw [if_neg h, if_neg (by rw [nI_inj ha hb]; exact h)]
theorem obs {α β : Type} {a : α} {f : α → Option β} : Option.bind (some a) f = f a := rfl
theorem qif0 {α : Type} {a : Nat} {x y : α} (ha : a < 2147483648) : (if nI a < 0 then x else y) = y := if_neg (nI_nn ha)
theorem ife0 {α : Type} {a : Nat} {x y : α} (ha : a < 2147483648) : (if nI a = 0 then x else y) = if a = 0 then x else y := ife ha (by decide)
theorem p_output {size msize : Int32} {row mrow : Nat → Int32} (v1 : Int32) (h : QBy 32000 size row msize mrow) :
    ∃ o1 o2, f_F_output 32000 size row v1 = some o1 ∧ f_M_output 90000 msize mrow v1 = some o2 ∧ o1 = o2.1 := by
  obtain ⟨L, q0, q1, q2, q3, q4⟩ := h
  unfold f_F_output f_M_output
  rcases I_cases v1 with h | ⟨k, hk, rfl⟩
  · exact ⟨-1, (-1, 0), by rw [if_pos h]; rfl, by rw [if_pos h]; rfl, rfl⟩
  · rw [qif0 hk, qif0 hk, q1, q3, ifl hk (by omega), ifl hk (by omega)]
    by_cases cl : k < L.length
    · rw [if_pos cl, if_pos cl, gd_nI hk (by omega), gd_nI hk (by omega), qn_clamp hk]
      refine ⟨_, _, rfl, rfl, ?_⟩
      show row k &&& 255 = mrow k
      rw [q2 k cl, q4 k cl, oct_sb]
    · rw [if_neg cl, if_neg cl]
      exact ⟨_, _, rfl, rfl, rfl⟩
theorem s_output (n : Nat) : H_output QSim n := by
  intro x_lastCoding x_lastBody x_column_type x_column_mostR x_column_mostD x_input_size x_input_row x_output_size x_output_row x_page_entries x_page_valued x_page_definitions x_page_repetitions x_page_valueNumbers x_page_values_ofTexts x_page_values_count x_page_values_numbers x_page_values_starts x_page_values_texts x_reader_entries x_reader_count x_reader_bodyTold x_reader_check x_reader_coding x_reader_bodySize x_reader_commons x_reader_dictionary_ofTexts x_reader_dictionary_count x_reader_dictionary_numbers x_reader_dictionary_starts x_reader_dictionary_texts x_reader_numbers x_reader_source_at x_reader_source_to x_reader_source_fault x_reader_source_widths x_reader_told_ofTexts x_reader_told_count x_reader_told_numbers x_reader_told_starts x_reader_told_texts x_spare_entries x_spare_valued x_spare_definitions x_spare_repetitions x_spare_valueNumbers x_spare_values_ofTexts x_spare_values_count x_spare_values_numbers x_spare_values_starts x_spare_values_texts x_tape_size x_tape_row x_writer_entries x_writer_levelBytes x_writer_body_size x_writer_body_row x_writer_commons x_writer_dictionary_count x_writer_dictionary_firsts x_writer_dictionary_slots x_writer_numbers x_writer_piece_size x_writer_piece_row m_code m_type m_mostR m_mostD m_entries m_values m_coding m_bodySize m_newCount m_words m_taped m_inputSize m_outSize m_at m_stop m_fault m_longCount m_body m_bytes m_common m_definitions m_from m_input m_longs m_more m_newBytes m_newDefinitions m_newFrom m_newRepetitions m_newWholes m_numbers m_out m_repetitions m_tape m_told2 m_toldBytes m_toldSize m_wholes m_wordBytes m_wordFrom m_words8 v1 hs
  have hs' := hs
  obtain ⟨t, r, d, nn, c, rp, df, num, S, T, ⟨ht3, hrd, hd16⟩, hV, hCx, hCm, hPC, hPM, hTp, hIn, hOu, hlc, hlb, hz⟩ := hs
  obtain ⟨o1, o2, h1, h2, h3⟩ := p_output v1 hOu
  exact ⟨o1, o2, h1, h2, h3, hs'⟩
theorem p_value {t r d n c : Nat} {rp df : Nat → Nat} {num : Nat → Int64} {S : Nat → Nat} {T : Nat → UInt8} {ofTexts count values ty : Int32} {numbers wholes : Nat → Int64} {starts texts frm bytes : Nat → Int32}
    (v1 : Int32) (hc : c ≤ 1000) (ht3 : t ≤ 3) (ht : ty = nI t) (hC : VsC t c num S T ofTexts count numbers starts texts) (hM : VsM t c num S T values wholes frm bytes) :
    ∃ o1 o2, f_F_value 1000 ofTexts count numbers v1 = some o1 ∧ f_M_value 1000 ty values wholes v1 = some o2 ∧ o1 = o2.1 := by
  obtain ⟨e4, e5, e6, e7, e8⟩ := hC
  obtain ⟨g4, g5, g6, g7⟩ := hM
  unfold f_F_value f_M_value f_M_isValue
  have I3 : (3 : Int32) = nI 3 := rfl
  rw [g4, e4, e5, ht, I3]
  rcases I_cases v1 with h | ⟨k, hk, rfl⟩
  · refine ⟨0, (0, 0), ?_, ?_, rfl⟩
    · rw [if_pos h]; split <;> rfl
    · rw [if_pos h]; rfl
  · rw [qif0 hk, qif0 hk, ifl hk (by omega), ifle (by omega) hk]
    rw [ife0 (by split <;> omega)]
    by_cases cl : k < c
    · rw [if_pos cl, if_neg (show ¬ c ≤ k by omega), gd_nI hk (by omega), gd_nI hk (by omega), qn_clamp hk]
      by_cases c3 : t = 3
      · subst c3
        exact ⟨0, (0, 0), rfl, rfl, rfl⟩
      · rw [if_neg c3, if_pos rfl]
        refine ⟨numbers k, (wholes k, 0), rfl, ?_, ?_⟩
        · rw [obs, if_neg (by decide), ife (by omega) (by omega), if_neg c3]
        · show numbers k = wholes k
          rw [e6 c3 k cl, g5 c3 k cl]
    · rw [if_neg cl, if_pos (show c ≤ k by omega)]
      refine ⟨0, (0, 0), ?_, rfl, rfl⟩
      split <;> rfl
theorem PgV_c {t r d n c : Nat} {rp df : Nat → Nat} {num : Nat → Int64} {S : Nat → Nat} (h : PgV t r d n c rp df num S) : c ≤ n ∧ n ≤ 1000 := by
  obtain ⟨w1, w2, w3, w4, w5, w6⟩ := h
  have := cntD_le df d n
  omega
theorem s_value (n : Nat) : H_value QSim n := by
  intro x_lastCoding x_lastBody x_column_type x_column_mostR x_column_mostD x_input_size x_input_row x_output_size x_output_row x_page_entries x_page_valued x_page_definitions x_page_repetitions x_page_valueNumbers x_page_values_ofTexts x_page_values_count x_page_values_numbers x_page_values_starts x_page_values_texts x_reader_entries x_reader_count x_reader_bodyTold x_reader_check x_reader_coding x_reader_bodySize x_reader_commons x_reader_dictionary_ofTexts x_reader_dictionary_count x_reader_dictionary_numbers x_reader_dictionary_starts x_reader_dictionary_texts x_reader_numbers x_reader_source_at x_reader_source_to x_reader_source_fault x_reader_source_widths x_reader_told_ofTexts x_reader_told_count x_reader_told_numbers x_reader_told_starts x_reader_told_texts x_spare_entries x_spare_valued x_spare_definitions x_spare_repetitions x_spare_valueNumbers x_spare_values_ofTexts x_spare_values_count x_spare_values_numbers x_spare_values_starts x_spare_values_texts x_tape_size x_tape_row x_writer_entries x_writer_levelBytes x_writer_body_size x_writer_body_row x_writer_commons x_writer_dictionary_count x_writer_dictionary_firsts x_writer_dictionary_slots x_writer_numbers x_writer_piece_size x_writer_piece_row m_code m_type m_mostR m_mostD m_entries m_values m_coding m_bodySize m_newCount m_words m_taped m_inputSize m_outSize m_at m_stop m_fault m_longCount m_body m_bytes m_common m_definitions m_from m_input m_longs m_more m_newBytes m_newDefinitions m_newFrom m_newRepetitions m_newWholes m_numbers m_out m_repetitions m_tape m_told2 m_toldBytes m_toldSize m_wholes m_wordBytes m_wordFrom m_words8 v1 hs
  have hs' := hs
  obtain ⟨t, r, d, nn, c, rp, df, num, S, T, ⟨ht3, hrd, hd16⟩, hV, hCx, hCm, hPC, hPM, hTp, hIn, hOu, hlc, hlb, hz⟩ := hs
  have hc := PgV_c hV
  obtain ⟨o1, o2, h1, h2, h3⟩ := p_value (r := r) (d := d) (n := nn) (rp := rp) (df := df) v1 (by omega) ht3 hCm.1 hPC.2.2.2 hPM.2.2
  exact ⟨o1, o2, h1, h2, h3, hs'⟩

theorem V_sizeOf {t c : Nat} {num : Nat → Int64} {S : Nat → Nat} {T : Nat → UInt8} {ofTexts count : Int32} {numbers : Nat → Int64} {starts texts : Nat → Int32} {m i : Nat}
    (ht : t = 3) (hi : i < c) (hcm : c < m) (hm : m < 2147483648) (hS : S i ≤ S (i + 1)) (hC : VsC t c num S T ofTexts count numbers starts texts) :
    f_V_sizeOf m starts (nI i) = some (nI (S (i + 1) - S i)) := by
  obtain ⟨e4, e5, e6, e7, e8⟩ := hC
  unfold f_V_sizeOf
  have e1 : nI i + (1 : Int32) = nI (i + 1) := qn_add i 1
  rw [e1, gd_nI (by omega) (by omega), gd_nI (by omega) (by omega), qn_clamp (by omega), qn_clamp (by omega), (e8 ht).1 i (by omega), (e8 ht).1 (i + 1) (by omega), nI_sub hS]
theorem M_lengthOf {t c : Nat} {num : Nat → Int64} {S : Nat → Nat} {T : Nat → UInt8} {values : Int32} {wholes : Nat → Int64} {frm bytes : Nat → Int32} {m i : Nat}
    (ht : t = 3) (hi : i < c) (hcm : c < m) (hm : m < 2147483648) (hS : S i ≤ S (i + 1)) (hM : VsM t c num S T values wholes frm bytes) :
    f_M_lengthOf m frm (nI i) = some (nI (S (i + 1) - S i)) := by
  obtain ⟨g4, g5, g6, g7⟩ := hM
  unfold f_M_lengthOf
  have e1 : nI i + (1 : Int32) = nI (i + 1) := qn_add i 1
  rw [e1, gd_nI (by omega) (by omega), gd_nI (by omega) (by omega), qn_clamp (by omega), qn_clamp (by omega), (g7 ht).1 i (by omega), (g7 ht).1 (i + 1) (by omega), nI_sub hS]
theorem S_mono {c : Nat} {S : Nat → Nat} (h : ∀ i, i < c → S i ≤ S (i + 1)) {i j : Nat} (hij : i ≤ j) (hj : j ≤ c) : S i ≤ S j := by
  induction j with
  | zero => have : i = 0 := by omega
            subst this; exact Nat.le_refl _
  | succ j ih =>
    by_cases e : i = j + 1
    · subst e; exact Nat.le_refl _
    · have := ih (by omega) (by omega)
      have := h j (by omega)
      omega
theorem p_length {t c : Nat} {num : Nat → Int64} {S : Nat → Nat} {T : Nat → UInt8} {ofTexts count values ty : Int32} {numbers wholes : Nat → Int64} {starts texts frm bytes : Nat → Int32}
    (v1 : Int32) (hc : c ≤ 1000) (ht3 : t ≤ 3) (ht : ty = nI t) (hS : t = 3 → (∀ i, i < c → S i ≤ S (i + 1)) ∧ S c ≤ 20000) (hC : VsC t c num S T ofTexts count numbers starts texts) (hM : VsM t c num S T values wholes frm bytes) :
    ∃ o1 o2, f_F_length 1001 ofTexts count starts v1 = some o1 ∧ f_M_length 1001 ty values frm v1 = some o2 ∧ o1 = o2.1 := by
  have hC' := hC
  have hM' := hM
  obtain ⟨e4, e5, e6, e7, e8⟩ := hC
  obtain ⟨g4, g5, g6, g7⟩ := hM
  unfold f_F_length f_M_length f_M_isValue
  have I3 : (3 : Int32) = nI 3 := rfl
  rw [g4, e4, e5, ht, I3]
  rcases I_cases v1 with h | ⟨k, hk, rfl⟩
  · refine ⟨-1, (-1, 0), ?_, ?_, rfl⟩
    · rw [if_pos h]; split <;> rfl
    · rw [if_pos h]; rfl
  · rw [qif0 hk, qif0 hk, ifl hk (by omega), ifle (by omega) hk]
    rw [ife0 (by split <;> omega)]
    by_cases cl : k < c
    · rw [if_pos cl, if_neg (show ¬ c ≤ k by omega)]
      by_cases c3 : t = 3
      · rw [V_sizeOf c3 cl (by omega) (by omega) ((hS c3).1 k cl) hC', M_lengthOf c3 cl (by omega) (by omega) ((hS c3).1 k cl) hM']
        refine ⟨nI (S (k + 1) - S k), (nI (S (k + 1) - S k), 0), ?_, ?_, rfl⟩
        · rw [if_neg (by rw [if_pos c3]; omega)]; rfl
        · rw [obs, if_neg (by decide), ife (by omega) (by omega), if_pos c3]; rfl
      · refine ⟨-1, (-1, 0), ?_, ?_, rfl⟩
        · rw [if_pos (by rw [if_neg c3])]; rfl
        · rw [obs, if_neg (by decide), ife (by omega) (by omega), if_neg c3]
    · rw [if_neg cl, if_pos (show c ≤ k by omega)]
      refine ⟨-1, (-1, 0), ?_, rfl, rfl⟩
      split <;> rfl
theorem PgV_S {t r d n c : Nat} {rp df : Nat → Nat} {num : Nat → Int64} {S : Nat → Nat} (h : PgV t r d n c rp df num S) (ht : t = 3) : (∀ i, i < c → S i ≤ S (i + 1)) ∧ S c ≤ 20000 := by
  obtain ⟨w1, w2, w3, w4, w5, w6⟩ := h
  exact ⟨fun i hi => ((w6 ht).1 i hi).1, (w6 ht).2⟩
theorem s_length (n : Nat) : H_length QSim n := by
  intro x_lastCoding x_lastBody x_column_type x_column_mostR x_column_mostD x_input_size x_input_row x_output_size x_output_row x_page_entries x_page_valued x_page_definitions x_page_repetitions x_page_valueNumbers x_page_values_ofTexts x_page_values_count x_page_values_numbers x_page_values_starts x_page_values_texts x_reader_entries x_reader_count x_reader_bodyTold x_reader_check x_reader_coding x_reader_bodySize x_reader_commons x_reader_dictionary_ofTexts x_reader_dictionary_count x_reader_dictionary_numbers x_reader_dictionary_starts x_reader_dictionary_texts x_reader_numbers x_reader_source_at x_reader_source_to x_reader_source_fault x_reader_source_widths x_reader_told_ofTexts x_reader_told_count x_reader_told_numbers x_reader_told_starts x_reader_told_texts x_spare_entries x_spare_valued x_spare_definitions x_spare_repetitions x_spare_valueNumbers x_spare_values_ofTexts x_spare_values_count x_spare_values_numbers x_spare_values_starts x_spare_values_texts x_tape_size x_tape_row x_writer_entries x_writer_levelBytes x_writer_body_size x_writer_body_row x_writer_commons x_writer_dictionary_count x_writer_dictionary_firsts x_writer_dictionary_slots x_writer_numbers x_writer_piece_size x_writer_piece_row m_code m_type m_mostR m_mostD m_entries m_values m_coding m_bodySize m_newCount m_words m_taped m_inputSize m_outSize m_at m_stop m_fault m_longCount m_body m_bytes m_common m_definitions m_from m_input m_longs m_more m_newBytes m_newDefinitions m_newFrom m_newRepetitions m_newWholes m_numbers m_out m_repetitions m_tape m_told2 m_toldBytes m_toldSize m_wholes m_wordBytes m_wordFrom m_words8 v1 hs
  have hs' := hs
  obtain ⟨t, r, d, nn, c, rp, df, num, S, T, ⟨ht3, hrd, hd16⟩, hV, hCx, hCm, hPC, hPM, hTp, hIn, hOu, hlc, hlb, hz⟩ := hs
  have hc := PgV_c hV
  obtain ⟨o1, o2, h1, h2, h3⟩ := p_length v1 (by omega) ht3 hCm.1 (PgV_S hV) hPC.2.2.2 hPM.2.2
  exact ⟨o1, o2, h1, h2, h3, hs'⟩
theorem p_byteOf {t c : Nat} {num : Nat → Int64} {S : Nat → Nat} {T : Nat → UInt8} {ofTexts count values ty : Int32} {numbers wholes : Nat → Int64} {starts texts frm bytes : Nat → Int32}
    (v1 v2 : Int32) (hc : c ≤ 1000) (ht3 : t ≤ 3) (ht : ty = nI t) (hS : t = 3 → (∀ i, i < c → S i ≤ S (i + 1)) ∧ S c ≤ 20000) (hC : VsC t c num S T ofTexts count numbers starts texts) (hM : VsM t c num S T values wholes frm bytes) :
    ∃ o1 o2, f_F_byteOf 1001 20000 ofTexts count starts texts v1 v2 = some o1 ∧ f_M_byteOf 20000 1001 ty values bytes frm v1 v2 = some o2 ∧ o1 = o2.1 := by
  have hC' := hC
  have hM' := hM
  obtain ⟨e4, e5, e6, e7, e8⟩ := hC
  obtain ⟨g4, g5, g6, g7⟩ := hM
  unfold f_F_byteOf f_M_byteOf f_M_isValue
  have I3 : (3 : Int32) = nI 3 := rfl
  rw [g4, e4, e5, ht, I3]
  rcases I_cases v1 with h | ⟨k, hk, rfl⟩
  · refine ⟨-1, (-1, 0), ?_, ?_, rfl⟩
    · rw [if_pos h]; split <;> rfl
    · rw [if_pos h]; rfl
  · rw [qif0 hk, qif0 hk, ifle (by omega) hk, ifle (by omega) hk]
    rw [ife0 (by split <;> omega)]
    by_cases cl : k < c
    · rw [if_neg (show ¬ c ≤ k by omega), if_neg (show ¬ c ≤ k by omega)]
      by_cases c3 : t = 3
      · rw [V_sizeOf c3 cl (by omega) (by omega) ((hS c3).1 k cl) hC', M_lengthOf c3 cl (by omega) (by omega) ((hS c3).1 k cl) hM']
        rw [if_neg (by rw [if_pos c3]; omega)]
        rw [obs, obs, if_neg (show ¬ (1 : Int32) = 0 by decide), ife (by omega) (by omega), if_pos c3]
        rcases I_cases v2 with h | ⟨j, hj, rfl⟩
        · exact ⟨-1, (-1, 0), by rw [if_pos h], by rw [if_pos h]; rfl, rfl⟩
        · have hm1 := S_mono (hS c3).1 (i := k) (j := k + 1) (by omega) (by omega)
          have hm2 := S_mono (hS c3).1 (i := k + 1) (j := c) (by omega) (by omega)
          have hm3 := (hS c3).2
          rw [qif0 hj, qif0 hj]
          rw [obs, ifl hj (by omega), ifl hj (by omega)]
          by_cases cj : j < S (k + 1) - S k
          · rw [if_pos cj, if_pos cj]
            unfold f_V_octetOf
            rw [gd_nI hk (by omega), gd_nI hk (by omega), qn_clamp hk, (e8 c3).1 k (by omega), (g7 c3).1 k (by omega), qn_add, gd_nI (by omega) (by omega), gd_nI (by omega) (by omega), qn_clamp (by omega)]
            refine ⟨_, _, rfl, rfl, ?_⟩
            show texts (S k + j) &&& 255 = bytes (S k + j)
            rw [(e8 c3).2 _ (by omega), (g7 c3).2 _ (by omega), oct_sb]
          · rw [if_neg cj, if_neg cj]
            exact ⟨-1, (-1, 0), rfl, rfl, rfl⟩
      · refine ⟨-1, (-1, 0), ?_, ?_, rfl⟩
        · rw [if_pos (by rw [if_neg c3])]
        · rw [obs, if_neg (by decide), ife (by omega) (by omega), if_neg c3]; rfl
    · rw [if_pos (show c ≤ k by omega), if_pos (show c ≤ k by omega)]
      refine ⟨-1, (-1, 0), ?_, rfl, rfl⟩
      split <;> rfl
theorem s_byteOf (n : Nat) : H_byteOf QSim n := by
  intro x_lastCoding x_lastBody x_column_type x_column_mostR x_column_mostD x_input_size x_input_row x_output_size x_output_row x_page_entries x_page_valued x_page_definitions x_page_repetitions x_page_valueNumbers x_page_values_ofTexts x_page_values_count x_page_values_numbers x_page_values_starts x_page_values_texts x_reader_entries x_reader_count x_reader_bodyTold x_reader_check x_reader_coding x_reader_bodySize x_reader_commons x_reader_dictionary_ofTexts x_reader_dictionary_count x_reader_dictionary_numbers x_reader_dictionary_starts x_reader_dictionary_texts x_reader_numbers x_reader_source_at x_reader_source_to x_reader_source_fault x_reader_source_widths x_reader_told_ofTexts x_reader_told_count x_reader_told_numbers x_reader_told_starts x_reader_told_texts x_spare_entries x_spare_valued x_spare_definitions x_spare_repetitions x_spare_valueNumbers x_spare_values_ofTexts x_spare_values_count x_spare_values_numbers x_spare_values_starts x_spare_values_texts x_tape_size x_tape_row x_writer_entries x_writer_levelBytes x_writer_body_size x_writer_body_row x_writer_commons x_writer_dictionary_count x_writer_dictionary_firsts x_writer_dictionary_slots x_writer_numbers x_writer_piece_size x_writer_piece_row m_code m_type m_mostR m_mostD m_entries m_values m_coding m_bodySize m_newCount m_words m_taped m_inputSize m_outSize m_at m_stop m_fault m_longCount m_body m_bytes m_common m_definitions m_from m_input m_longs m_more m_newBytes m_newDefinitions m_newFrom m_newRepetitions m_newWholes m_numbers m_out m_repetitions m_tape m_told2 m_toldBytes m_toldSize m_wholes m_wordBytes m_wordFrom m_words8 v1 v2 hs
  have hs' := hs
  obtain ⟨t, r, d, nn, c, rp, df, num, S, T, ⟨ht3, hrd, hd16⟩, hV, hCx, hCm, hPC, hPM, hTp, hIn, hOu, hlc, hlb, hz⟩ := hs
  have hc := PgV_c hV
  obtain ⟨o1, o2, h1, h2, h3⟩ := p_byteOf v1 v2 (by omega) ht3 hCm.1 (PgV_S hV) hPC.2.2.2 hPM.2.2
  exact ⟨o1, o2, h1, h2, h3, hs'⟩
