theorem s_clear (n : Nat) : H_clear QSim n := by
  intro x_lastCoding x_lastBody x_column_type x_column_mostR x_column_mostD x_input_size x_input_row x_output_size x_output_row x_page_entries x_page_valued x_page_definitions x_page_repetitions x_page_valueNumbers x_page_values_ofTexts x_page_values_count x_page_values_numbers x_page_values_starts x_page_values_texts x_reader_entries x_reader_count x_reader_bodyTold x_reader_check x_reader_coding x_reader_bodySize x_reader_commons x_reader_dictionary_ofTexts x_reader_dictionary_count x_reader_dictionary_numbers x_reader_dictionary_starts x_reader_dictionary_texts x_reader_numbers x_reader_source_at x_reader_source_to x_reader_source_fault x_reader_source_widths x_reader_told_ofTexts x_reader_told_count x_reader_told_numbers x_reader_told_starts x_reader_told_texts x_spare_entries x_spare_valued x_spare_definitions x_spare_repetitions x_spare_valueNumbers x_spare_values_ofTexts x_spare_values_count x_spare_values_numbers x_spare_values_starts x_spare_values_texts x_tape_size x_tape_row x_writer_entries x_writer_levelBytes x_writer_body_size x_writer_body_row x_writer_commons x_writer_dictionary_count x_writer_dictionary_firsts x_writer_dictionary_slots x_writer_numbers x_writer_piece_size x_writer_piece_row m_code m_type m_mostR m_mostD m_entries m_values m_coding m_bodySize m_newCount m_words m_taped m_inputSize m_outSize m_at m_stop m_fault m_longCount m_body m_bytes m_common m_definitions m_from m_input m_longs m_more m_newBytes m_newDefinitions m_newFrom m_newRepetitions m_newWholes m_numbers m_out m_repetitions m_tape m_told2 m_toldBytes m_toldSize m_wholes m_wordBytes m_wordFrom m_words8 hs
  obtain ⟨t, r, d, nn, c, rp, df, num, S, T, ⟨ht3, hrd, hd16⟩, hV, hCx, hCm, hPC, hPM, hTp, hIn, hOu, hlc, hlb, hz⟩ := hs
  obtain ⟨e1, e2, e3, e4, e5, e6, e7, e8⟩ := hPC
  obtain ⟨g1, g2, g4, g5, g6, g7⟩ := hPM
  have hV' := hV
  obtain ⟨w1, w2, w3, w4, w5, w6⟩ := hV
  have hk : f_P_makeEmpty x_column_type = some (0, 0, nI (if t = 3 then 1 else 0), 0) := by
    have I3 : (3 : Int32) = nI 3 := rfl
    unfold f_P_makeEmpty
    rw [hCx.1, I3, ife (by omega) (by omega)]
    by_cases c3 : t = 3
    · rw [if_pos c3, if_pos c3]; rfl
    · rw [if_neg c3, if_neg c3]; rfl
  refine ⟨(0, 0, nI (if t = 3 then 1 else 0), 0), (0, 0, 0), ?_, rfl, ?_⟩
  · unfold f_F_clear; rw [hk]; rfl
  · refine ⟨t, r, d, 0, 0, rp, df, num, S, T, ⟨ht3, hrd, hd16⟩, ⟨by omega, rfl, fun k h => by omega, fun _ i h => by omega, w5, fun _ => ⟨fun i h => by omega, by omega⟩⟩, hCx, hCm, ⟨rfl, rfl, fun k h => by omega, rfl, rfl, fun _ i h => by omega, e7, fun _ => ⟨fun i h => ?_, fun j h => by omega⟩⟩, ⟨rfl, fun k h => by omega, rfl, fun _ i h => by omega, g6, fun _ => ⟨fun i h => ?_, fun j h => by omega⟩⟩, hTp, hIn, hOu, hlc, hlb, hz⟩
    · have : i = 0 := by omega
      subst this; rw [e7, w5]
    · have : i = 0 := by omega
      subst this; rw [g6, w5]
theorem s_column (n : Nat) : H_column QSim n := by
  intro x_lastCoding x_lastBody x_column_type x_column_mostR x_column_mostD x_input_size x_input_row x_output_size x_output_row x_page_entries x_page_valued x_page_definitions x_page_repetitions x_page_valueNumbers x_page_values_ofTexts x_page_values_count x_page_values_numbers x_page_values_starts x_page_values_texts x_reader_entries x_reader_count x_reader_bodyTold x_reader_check x_reader_coding x_reader_bodySize x_reader_commons x_reader_dictionary_ofTexts x_reader_dictionary_count x_reader_dictionary_numbers x_reader_dictionary_starts x_reader_dictionary_texts x_reader_numbers x_reader_source_at x_reader_source_to x_reader_source_fault x_reader_source_widths x_reader_told_ofTexts x_reader_told_count x_reader_told_numbers x_reader_told_starts x_reader_told_texts x_spare_entries x_spare_valued x_spare_definitions x_spare_repetitions x_spare_valueNumbers x_spare_values_ofTexts x_spare_values_count x_spare_values_numbers x_spare_values_starts x_spare_values_texts x_tape_size x_tape_row x_writer_entries x_writer_levelBytes x_writer_body_size x_writer_body_row x_writer_commons x_writer_dictionary_count x_writer_dictionary_firsts x_writer_dictionary_slots x_writer_numbers x_writer_piece_size x_writer_piece_row m_code m_type m_mostR m_mostD m_entries m_values m_coding m_bodySize m_newCount m_words m_taped m_inputSize m_outSize m_at m_stop m_fault m_longCount m_body m_bytes m_common m_definitions m_from m_input m_longs m_more m_newBytes m_newDefinitions m_newFrom m_newRepetitions m_newWholes m_numbers m_out m_repetitions m_tape m_told2 m_toldBytes m_toldSize m_wholes m_wordBytes m_wordFrom m_words8 v1 v2 v3 hs
  have hs' := hs
  obtain ⟨t, r, d, nn, c, rp, df, num, S, T, ⟨ht3, hrd, hd16⟩, hV, hCx, hCm, hPC, hPM, hTp, hIn, hOu, hlc, hlb, hz⟩ := hs
  obtain ⟨e1, e2, e3, e4, e5, e6, e7, e8⟩ := hPC
  obtain ⟨g1, g2, g4, g5, g6, g7⟩ := hPM
  have w5 := hV.2.2.2.2.1
  unfold f_F_column f_M_column
  by_cases a1 : v1 < 0
  · exact ⟨_, _, by rw [if_pos a1], by rw [if_pos a1], rfl, hs'⟩
  rw [if_neg a1, if_neg a1]
  by_cases a2 : 3 < v1
  · exact ⟨_, _, by rw [if_pos a2], by rw [if_pos a2], rfl, hs'⟩
  rw [if_neg a2, if_neg a2]
  by_cases a3 : v2 < 0
  · exact ⟨_, _, by rw [if_pos a3], by rw [if_pos a3], rfl, hs'⟩
  rw [if_neg a3, if_neg a3]
  by_cases a4 : 16 < v3
  · exact ⟨_, _, by rw [if_pos a4], by rw [if_pos a4], rfl, hs'⟩
  rw [if_neg a4, if_neg a4]
  by_cases a5 : v2 ≤ v3
  · rw [if_pos a5, if_pos a5]
    rcases I_cases v1 with h | ⟨t', ht', rfl⟩
    · exact absurd h a1
    rcases I_cases v2 with h | ⟨r', hr', rfl⟩
    · exact absurd h a3
    rcases I_cases v3 with h | ⟨d', hd', rfl⟩
    · rw [Int32.lt_iff_toInt_lt] at h
      rw [Int32.le_iff_toInt_le, qn_toInt hr'] at a5
      have : (0 : Int32).toInt = 0 := rfl
      omega
    have I3 : (3 : Int32) = nI 3 := rfl
    have I16 : (16 : Int32) = nI 16 := rfl
    rw [I3, qn_lt (by omega) ht'] at a2
    rw [I16, qn_lt (by omega) hd'] at a4
    rw [qn_le hr' hd'] at a5
    have hk : f_P_makeEmpty (nI t') = some (0, 0, nI (if t' = 3 then 1 else 0), 0) := by
      unfold f_P_makeEmpty
      rw [I3, ife (by omega) (by omega)]
      by_cases c3 : t' = 3
      · rw [if_pos c3, if_pos c3]; rfl
      · rw [if_neg c3, if_neg c3]; rfl
    rw [hk]
    refine ⟨(1, nI t', nI r', nI d', 0, 0, nI (if t' = 3 then 1 else 0), 0), (1, 0, nI t', nI r', nI d', 0, 0), rfl, rfl, rfl, ?_⟩
    refine ⟨t', r', d', 0, 0, rp, df, num, S, T, ⟨by omega, a5, by omega⟩, ⟨by omega, rfl, fun k h => by omega, fun _ i h => by omega, w5, fun _ => ⟨fun i h => by omega, by omega⟩⟩, ⟨rfl, rfl, rfl⟩, ⟨rfl, rfl, rfl⟩, ⟨rfl, rfl, fun k h => by omega, rfl, rfl, fun _ i h => by omega, e7, fun _ => ⟨fun i h => ?_, fun j h => by omega⟩⟩, ⟨rfl, fun k h => by omega, rfl, fun _ i h => by omega, g6, fun _ => ⟨fun i h => ?_, fun j h => by omega⟩⟩, hTp, hIn, hOu, hlc, hlb, hz⟩
    · have : i = 0 := by omega
      subst this; rw [e7, w5]
    · have : i = 0 := by omega
      subst this; rw [g6, w5]
  · rw [if_neg a5, if_neg a5]
    exact ⟨_, _, rfl, rfl, rfl, hs'⟩
theorem cpB_of {f : Nat → Int32} {n0 n1 a b k : Nat} (ha : a + k ≤ n0) (hb : b + k ≤ n1) (h0 : n0 < 2147483648) (h1 : n1 < 2147483648) (hf : ∀ i, i < k → fits .byte (.int (f (a + i))) = true) : cpB f n0 n1 (nI a) (nI b) (nI k) = true := by
  unfold cpB
  rw [qn_clamp (by omega), qn_clamp (by omega), qn_clamp (by omega)]
  simp only [Bool.and_eq_true, Bool.not_eq_true', decide_eq_false_iff_not, decide_eq_true_eq, List.all_eq_true, List.mem_range]
  exact ⟨nI_nn (by omega), nI_nn (by omega), nI_nn (by omega), ha, hb, hf⟩
theorem HC_cpy {L l : List UInt8} {row p1 : Nat → Int32} {a : Nat} (h : HC L row) (hs : ∀ i (h : i < l.length), p1 (a + i) = qsb l[i]) : HC (L ++ l) (va_cpy p1 row a L.length l.length) := by
  intro j hj
  unfold va_cpy
  rw [List.length_append] at hj
  by_cases e : j < L.length
  · rw [if_neg (by omega), h j e, List.getElem_append_left e]
  · rw [if_pos (by omega), hs (j - L.length) (by omega), List.getElem_append_right (by omega)]
theorem B_append {cap pn a : Nat} {L l : List UInt8} {row p1 : Nat → Int32} (hc : cap < 2147483648) (hp : pn < 2147483648) (h : HC L row) (hs : ∀ i (h : i < l.length), p1 (a + i) = qsb l[i]) (hL : L.length + l.length ≤ cap) (ha : a + l.length ≤ pn) :
    ∃ o, f_B_append cap pn (nI L.length) row p1 (nI a) (nI l.length) = some o ∧ QPC (L ++ l) o := by
  unfold f_B_append
  rw [qif0 (by omega), qif0 (by omega), show nI pn - nI a = nI (pn - a) from nI_sub (by omega), ifl (by omega) (by omega), if_neg (show ¬ pn - a < l.length by omega), show nI cap - nI L.length = nI (cap - L.length) from nI_sub (by omega), ifle (by omega) (by omega), if_pos (show l.length ≤ cap - L.length by omega)]
  rw [gd_t (cpB_of ha (by omega) hp hc (fun i hi => by rw [hs i hi]; exact fits_sb _)), qn_clamp (by omega), qn_clamp (by omega), qn_clamp (by omega)]
  refine ⟨_, rfl, ?_, HC_cpy h hs⟩
  show nI L.length + nI l.length = _
  rw [qn_add, List.length_append]
theorem HC_take {L : List UInt8} {row : Nat → Int32} (h : HC L row) (k : Nat) : HC (L.take k) row := by
  intro j hj
  rw [List.length_take] at hj
  rw [h j (by omega), List.getElem_take]
theorem HM_take {L : List UInt8} {row : Nat → Int32} (h : QHM L row) (k : Nat) : QHM (L.take k) row := by
  intro j hj
  rw [List.length_take] at hj
  rw [h j (by omega), List.getElem_take]
theorem HM_step {L : List UInt8} {row : Nat → Int32} {j : Nat} (hj : j < L.length) (h : QHM (L.take j) row) : QHM (L.take (j + 1)) (upd row j (um L[j])) := by
  intro i hi
  rw [List.length_take] at hi
  unfold upd
  by_cases e : i = j
  · subst e; rw [if_pos rfl, List.getElem_take]
  · rw [if_neg e, h i (by rw [List.length_take]; omega), List.getElem_take, List.getElem_take]
theorem M_end_lp {n cap tcap k : Nat} {L : List UInt8} {inp tp : Nat → Int32} (hn : 100000 < n) (hk : k ≤ L.length) (hc : k ≤ cap) (htc : k ≤ tcap) (hcc : cap ≤ 90000) (h : QHM L tp) :
    ∃ e, lp (fun v => f_M_end_l21 cap tcap tp (nI k) v.1 v.2) n (inp, (0 : Int32)) = some e ∧ QHM (L.take k) e.1 := by
  refine lp_inv (fun q w => ∃ j, j + q = k ∧ w.2 = nI j ∧ QHM (L.take j) w.1) _ ?_ k n _ ⟨0, by omega, rfl, fun j hj => by simp at hj⟩ (by omega)
  rintro q ⟨f, j'⟩ ⟨j, g1, g2, g3⟩
  simp only at g2 g3
  subst g2
  show (∃ w', f_M_end_l21 cap tcap tp (nI k) f (nI j) = _ ∧ _) ∨ (∃ e, f_M_end_l21 cap tcap tp (nI k) f (nI j) = _ ∧ _)
  unfold f_M_end_l21
  rw [ifle (by omega) (by omega)]
  by_cases c : k ≤ j
  · have : j = k := by omega
    subst this
    exact Or.inr ⟨_, by rw [if_pos c], g3⟩
  · rw [if_neg c, gd_nI (by omega) (by omega)]
    simp only [bnd]
    rw [gd_nI (by omega) (by omega), qn_clamp (by omega), h j (by omega)]
    exact Or.inl ⟨_, rfl, q - 1, by omega, j + 1, by omega, qn_add j 1, HM_step (by omega) g3⟩
theorem M_turn_lp {n cap tcap : Nat} {L : List UInt8} {inp tp : Nat → Int32} (hn : 100000 < n) (hc : L.length ≤ cap) (htc : L.length ≤ tcap) (hcc : cap ≤ 90000) (h : QHM L tp) :
    ∃ e, lp (fun v => f_M_turn_l19 cap tcap (nI L.length) tp v.1 v.2) n (inp, (0 : Int32)) = some e ∧ QHM L e.1 := by
  have main : ∃ e, lp (fun v => f_M_turn_l19 cap tcap (nI L.length) tp v.1 v.2) n (inp, (0 : Int32)) = some e ∧ QHM (L.take L.length) e.1 := by
    refine lp_inv (fun q w => ∃ j, j + q = L.length ∧ w.2 = nI j ∧ QHM (L.take j) w.1) _ ?_ L.length n _ ⟨0, by omega, rfl, fun j hj => by simp at hj⟩ (by omega)
    rintro q ⟨f, j'⟩ ⟨j, g1, g2, g3⟩
    simp only at g2 g3
    subst g2
    show (∃ w', f_M_turn_l19 cap tcap (nI L.length) tp f (nI j) = _ ∧ _) ∨ (∃ e, f_M_turn_l19 cap tcap (nI L.length) tp f (nI j) = _ ∧ _)
    unfold f_M_turn_l19
    rw [ifle (by omega) (by omega)]
    by_cases c : L.length ≤ j
    · have : j = L.length := by omega
      subst this
      exact Or.inr ⟨_, by rw [if_pos c], g3⟩
    · rw [if_neg c, gd_nI (by omega) (by omega)]
      simp only [bnd]
      rw [gd_nI (by omega) (by omega), qn_clamp (by omega), h j (by omega)]
      exact Or.inl ⟨_, rfl, q - 1, by omega, j + 1, by omega, qn_add j 1, HM_step (by omega) g3⟩
  rwa [List.take_length] at main
theorem p_end {n : Nat} {isz ts misz mts : Int32} {irow trow mi mt : Nat → Int32} (v1 : Int32) (hn : 100000 < n) (hT : QBy 30000 ts trow mts mt) (hI : QBy 30000 isz irow misz mi) :
    ∃ o1 o2, f_F_end 30000 30000 isz irow ts trow v1 = some o1 ∧ f_M_end n 30000 30000 mts misz mi mt v1 = some o2 ∧ o1.1 = o2.1 ∧ QBy 30000 o1.2.2.2 trow o2.2.2.1 mt ∧ QBy 30000 o1.2.1 o1.2.2.1 o2.2.2.2.1 o2.2.2.2.2 := by
  have hT' := hT
  obtain ⟨L, q0, q1, q2, q3, q4⟩ := hT
  subst q1; subst q3
  unfold f_F_end f_M_end
  rcases I_cases v1 with h | ⟨k, hk, rfl⟩
  · exact ⟨_, _, by rw [if_pos h], by rw [if_pos h], rfl, hT', hI⟩
  rw [qif0 hk, qif0 hk, ifle hk (by omega), ifle hk (by omega)]
  by_cases c : k ≤ L.length
  · rw [if_pos c, if_pos c]
    obtain ⟨e, h1, h2⟩ := M_end_lp (cap := 30000) (tcap := 30000) (inp := mi) hn c (by omega) (by omega) (by omega) q4
    rw [h1]
    have hlen : (L.take k).length = k := by rw [List.length_take]; omega
    obtain ⟨o, p1, p2, p3⟩ := B_append (cap := 30000) (pn := 30000) (a := 0) (L := []) (l := L.take k) (row := irow) (p1 := trow) (by omega) (by omega) (fun j hj => by simp at hj) (fun i hi => by rw [Nat.zero_add]; exact HC_take q2 k i hi) (by rw [hlen]; simp; omega) (by rw [hlen]; omega)
    rw [hlen] at p1
    have p1' : f_B_append 30000 30000 0 irow trow 0 (nI k) = some o := p1
    simp only [f_B_cut, obs]
    rw [p1']
    refine ⟨(1, o.1, o.2, 0), (1, 0, 0, nI k, e.1), rfl, rfl, rfl, ⟨[], by simp, rfl, fun j hj => by simp at hj, rfl, fun j hj => by simp at hj⟩, L.take k, by rw [hlen]; omega, ?_, ?_, ?_, h2⟩
    · rw [p2]; simp
    · simpa using p3
    · show nI k = _
      rw [hlen]
  · rw [if_neg c, if_neg c]
    exact ⟨_, _, rfl, rfl, rfl, hT', hI⟩
theorem s_end (n : Nat) (hn : 100000 < n) : H_end QSim n := by
  intro x_lastCoding x_lastBody x_column_type x_column_mostR x_column_mostD x_input_size x_input_row x_output_size x_output_row x_page_entries x_page_valued x_page_definitions x_page_repetitions x_page_valueNumbers x_page_values_ofTexts x_page_values_count x_page_values_numbers x_page_values_starts x_page_values_texts x_reader_entries x_reader_count x_reader_bodyTold x_reader_check x_reader_coding x_reader_bodySize x_reader_commons x_reader_dictionary_ofTexts x_reader_dictionary_count x_reader_dictionary_numbers x_reader_dictionary_starts x_reader_dictionary_texts x_reader_numbers x_reader_source_at x_reader_source_to x_reader_source_fault x_reader_source_widths x_reader_told_ofTexts x_reader_told_count x_reader_told_numbers x_reader_told_starts x_reader_told_texts x_spare_entries x_spare_valued x_spare_definitions x_spare_repetitions x_spare_valueNumbers x_spare_values_ofTexts x_spare_values_count x_spare_values_numbers x_spare_values_starts x_spare_values_texts x_tape_size x_tape_row x_writer_entries x_writer_levelBytes x_writer_body_size x_writer_body_row x_writer_commons x_writer_dictionary_count x_writer_dictionary_firsts x_writer_dictionary_slots x_writer_numbers x_writer_piece_size x_writer_piece_row m_code m_type m_mostR m_mostD m_entries m_values m_coding m_bodySize m_newCount m_words m_taped m_inputSize m_outSize m_at m_stop m_fault m_longCount m_body m_bytes m_common m_definitions m_from m_input m_longs m_more m_newBytes m_newDefinitions m_newFrom m_newRepetitions m_newWholes m_numbers m_out m_repetitions m_tape m_told2 m_toldBytes m_toldSize m_wholes m_wordBytes m_wordFrom m_words8 v1 hs
  obtain ⟨t, r, d, nn, c, rp, df, num, S, T, ⟨ht3, hrd, hd16⟩, hV, hCx, hCm, hPC, hPM, hTp, hIn, hOu, hlc, hlb, hz⟩ := hs
  obtain ⟨o1, o2, h1, h2, h3, h4, h5⟩ := p_end v1 hn hTp hIn
  exact ⟨o1, o2, h1, h2, h3, t, r, d, nn, c, rp, df, num, S, T, ⟨ht3, hrd, hd16⟩, hV, hCx, hCm, hPC, hPM, h4, h5, hOu, hlc, hlb, hz⟩
theorem p_turn {n : Nat} {isz os misz mos : Int32} {irow orow mi mo : Nat → Int32} (hn : 100000 < n) (hO : QBy 32000 os orow mos mo) (hI : QBy 30000 isz irow misz mi) :
    ∃ o1 o2, f_F_turn 30000 32000 isz irow os orow = some o1 ∧ f_M_turn n 30000 90000 misz mos mi mo = some o2 ∧ o1.1 = o2.1 ∧ QBy 30000 o1.2.1 o1.2.2 o2.2.2.1 o2.2.2.2 := by
  obtain ⟨L, q0, q1, q2, q3, q4⟩ := hO
  unfold f_F_turn f_M_turn
  have I3 : (30000 : Int32) = nI 30000 := rfl
  rw [q1, q3, I3, ifle (by omega) (by omega), ifle (by omega) (by omega)]
  by_cases c : L.length ≤ 30000
  · rw [if_pos c, if_pos c]
    obtain ⟨e, h1, h2⟩ := M_turn_lp (cap := 30000) (tcap := 90000) (inp := mi) hn c (by omega) (by omega) q4
    rw [h1]
    obtain ⟨o, p1, p2, p3⟩ := B_append (cap := 30000) (pn := 32000) (a := 0) (L := []) (l := L) (row := irow) (p1 := orow) (by omega) (by omega) (fun j hj => by simp at hj) (fun i hi => by rw [Nat.zero_add]; exact q2 i hi) (by simp; omega) (by omega)
    have p1' : f_B_append 30000 32000 0 irow orow 0 (nI L.length) = some o := p1
    simp only [f_B_cut, obs]
    rw [p1']
    refine ⟨(1, o.1, o.2), (1, 0, nI L.length, e.1), rfl, rfl, rfl, L, c, ?_, ?_, rfl, h2⟩
    · rw [p2]; simp
    · simpa using p3
  · rw [if_neg c, if_neg c]
    exact ⟨_, _, rfl, rfl, rfl, hI⟩
theorem s_turn (n : Nat) (hn : 100000 < n) : H_turn QSim n := by
  intro x_lastCoding x_lastBody x_column_type x_column_mostR x_column_mostD x_input_size x_input_row x_output_size x_output_row x_page_entries x_page_valued x_page_definitions x_page_repetitions x_page_valueNumbers x_page_values_ofTexts x_page_values_count x_page_values_numbers x_page_values_starts x_page_values_texts x_reader_entries x_reader_count x_reader_bodyTold x_reader_check x_reader_coding x_reader_bodySize x_reader_commons x_reader_dictionary_ofTexts x_reader_dictionary_count x_reader_dictionary_numbers x_reader_dictionary_starts x_reader_dictionary_texts x_reader_numbers x_reader_source_at x_reader_source_to x_reader_source_fault x_reader_source_widths x_reader_told_ofTexts x_reader_told_count x_reader_told_numbers x_reader_told_starts x_reader_told_texts x_spare_entries x_spare_valued x_spare_definitions x_spare_repetitions x_spare_valueNumbers x_spare_values_ofTexts x_spare_values_count x_spare_values_numbers x_spare_values_starts x_spare_values_texts x_tape_size x_tape_row x_writer_entries x_writer_levelBytes x_writer_body_size x_writer_body_row x_writer_commons x_writer_dictionary_count x_writer_dictionary_firsts x_writer_dictionary_slots x_writer_numbers x_writer_piece_size x_writer_piece_row m_code m_type m_mostR m_mostD m_entries m_values m_coding m_bodySize m_newCount m_words m_taped m_inputSize m_outSize m_at m_stop m_fault m_longCount m_body m_bytes m_common m_definitions m_from m_input m_longs m_more m_newBytes m_newDefinitions m_newFrom m_newRepetitions m_newWholes m_numbers m_out m_repetitions m_tape m_told2 m_toldBytes m_toldSize m_wholes m_wordBytes m_wordFrom m_words8 hs
  obtain ⟨t, r, d, nn, c, rp, df, num, S, T, ⟨ht3, hrd, hd16⟩, hV, hCx, hCm, hPC, hPM, hTp, hIn, hOu, hlc, hlb, hz⟩ := hs
  obtain ⟨o1, o2, h1, h2, h3, h4⟩ := p_turn hn hOu hIn
  exact ⟨o1, o2, h1, h2, h3, t, r, d, nn, c, rp, df, num, S, T, ⟨ht3, hrd, hd16⟩, hV, hCx, hCm, hPC, hPM, hTp, h4, hOu, hlc, hlb, hz⟩

theorem nI_bv {s : Nat} : (nI s).toBitVec = BitVec.ofNat 32 s := rfl
theorem nI_and31 {s : Nat} (h : s < 32) : nI s &&& 31 = nI s := by
  have : ∀ j : Fin 32, nI j.val &&& 31 = nI j.val := by decide
  exact this ⟨s, h⟩
theorem shr_bv (v : Int32) {s : Nat} (h : s < 32) : (v >>> (nI s &&& 31)).toBitVec = v.toBitVec.sshiftRight s := by
  rw [nI_and31 h, Int32.toBitVec_shiftRight]
  have : ∀ j : Fin 32, (nI j.val).toBitVec.smod 32 = BitVec.ofNat 32 j.val := by decide
  have h2 := this ⟨s, h⟩
  simp only at h2
  rw [h2]
  simp only [BitVec.sshiftRight', BitVec.toNat_ofNat]
  rw [Nat.mod_eq_of_lt (by omega)]
theorem ushr_bv (v : Int32) {s : Nat} (h : s < 32) : ((v.toUInt32 >>> ((nI s).toUInt32 &&& Int32.toUInt32 31)).toInt32).toBitVec = v.toBitVec >>> s := by
  apply BitVec.eq_of_toNat_eq
  have : ∀ j : Fin 32, ((nI j.val).toUInt32 &&& Int32.toUInt32 31).toNat % 32 = j.val := by decide
  have h2 := this ⟨s, h⟩
  show (v.toUInt32 >>> ((nI s).toUInt32 &&& Int32.toUInt32 31)).toNat = _
  rw [UInt32.toNat_shiftRight, h2]
  rfl
theorem by8_ushr (v : Int32) {s : Nat} (hs : s ≤ 24) : by8 ((v.toUInt32 >>> ((nI s).toUInt32 &&& Int32.toUInt32 31)).toInt32) = by8 (v >>> (nI s &&& 31)) := by
  apply UInt8.toBitVec_inj.mp
  apply BitVec.eq_of_getLsbD_eq
  intro i hi
  unfold by8
  simp only [Int8.toBitVec_toUInt8, Int32.toBitVec_toInt8]
  rw [shr_bv v (by omega), ushr_bv v (by omega), BitVec.signExtend_eq_setWidth_of_le _ (by omega), BitVec.signExtend_eq_setWidth_of_le _ (by omega)]
  have h1 : s + i < 32 := by omega
  simp [BitVec.getLsbD_sshiftRight, hi, h1]
  omega
def hi4 (v : Int32) : List UInt8 := [by8 (v >>> (24 &&& 31)), by8 (v >>> (16 &&& 31)), by8 (v >>> (8 &&& 31)), by8 (v >>> (0 &&& 31))]
theorem B_highestFirst {n cap : Nat} {L : List UInt8} {row : Nat → Int32} (v : Int32) (hn : 100 < n) (hc : cap < 2147483648) (hL : L.length + 4 ≤ cap) (h : HC L row) :
    ∃ o, f_B_highestFirst n cap (nI L.length) row v = some o ∧ QPC (L ++ hi4 v) o := by
  unfold f_B_highestFirst
  obtain ⟨m, rfl⟩ : ∃ m, n = m + 5 := ⟨n - 5, by omega⟩
  obtain ⟨o1, p1, q1, r1⟩ := B_put (cap := cap) ((v.toUInt32 >>> ((24 : Int32).toUInt32 &&& Int32.toUInt32 31)).toInt32) hc (by omega) h
  obtain ⟨o2, p2, q2, r2⟩ := B_put (cap := cap) ((v.toUInt32 >>> ((16 : Int32).toUInt32 &&& Int32.toUInt32 31)).toInt32) hc (by simp; omega) r1
  obtain ⟨o3, p3, q3, r3⟩ := B_put (cap := cap) ((v.toUInt32 >>> ((8 : Int32).toUInt32 &&& Int32.toUInt32 31)).toInt32) hc (by simp; omega) r2
  obtain ⟨o4, p4, q4, r4⟩ := B_put (cap := cap) ((v.toUInt32 >>> ((0 : Int32).toUInt32 &&& Int32.toUInt32 31)).toInt32) hc (by simp; omega) r3
  rw [← q1] at p2
  rw [← q2] at p3
  rw [← q3] at p4
  have e1 : (24 : Int32) + -8 = 16 := by decide
  have e2 : (16 : Int32) + -8 = 8 := by decide
  have e3 : (8 : Int32) + -8 = 0 := by decide
  have e4 : (0 : Int32) + -8 = -8 := by decide
  have m1 : f_B_highestFirst_l3 cap v (nI L.length) row 24 = some (Sum.inl (o1.1, o1.2, 16)) := by
    unfold f_B_highestFirst_l3; rw [if_neg (by decide), p1]; rfl
  have m2 : f_B_highestFirst_l3 cap v o1.1 o1.2 16 = some (Sum.inl (o2.1, o2.2, 8)) := by
    unfold f_B_highestFirst_l3; rw [if_neg (by decide), p2]; rfl
  have m3 : f_B_highestFirst_l3 cap v o2.1 o2.2 8 = some (Sum.inl (o3.1, o3.2, 0)) := by
    unfold f_B_highestFirst_l3; rw [if_neg (by decide), p3]; rfl
  have m4 : f_B_highestFirst_l3 cap v o3.1 o3.2 0 = some (Sum.inl (o4.1, o4.2, -8)) := by
    unfold f_B_highestFirst_l3; rw [if_neg (by decide), p4]; rfl
  have m5 : f_B_highestFirst_l3 cap v o4.1 o4.2 (-8) = some (Sum.inr (o4.1, o4.2)) := by
    unfold f_B_highestFirst_l3; rw [if_pos (by decide)]
  refine ⟨o4, ?_, ?_⟩
  · simp only [lp, m1, m2, m3, m4, m5]; rfl
  · have : L ++ hi4 v = L ++ [by8 ((v.toUInt32 >>> ((24 : Int32).toUInt32 &&& Int32.toUInt32 31)).toInt32)] ++ [by8 ((v.toUInt32 >>> ((16 : Int32).toUInt32 &&& Int32.toUInt32 31)).toInt32)] ++ [by8 ((v.toUInt32 >>> ((8 : Int32).toUInt32 &&& Int32.toUInt32 31)).toInt32)] ++ [by8 ((v.toUInt32 >>> ((0 : Int32).toUInt32 &&& Int32.toUInt32 31)).toInt32)] := by
      have a1 := by8_ushr v (s := 24) (by omega)
      have a2 := by8_ushr v (s := 16) (by omega)
      have a3 := by8_ushr v (s := 8) (by omega)
      have a4 := by8_ushr v (s := 0) (by omega)
      simp only [hi4, List.append_assoc, List.cons_append, List.nil_append]
      congr 1
      exact congr (congrArg _ a1.symm) (congr (congrArg _ a2.symm) (congr (congrArg _ a3.symm) (congrArg (fun x => [x]) a4.symm)))
    rw [this]
    exact ⟨q4, r4⟩

def qfd (a b c d e : Int32) (k : Nat) : UInt8 := by8 ((if k < 4 then a else if k < 8 then b else if k < 12 then c else if k < 16 then d else e) >>> (nI (24 - 8 * (k % 4)) &&& 31))
theorem fd_eq (a b c d e : Int32) : (List.range 20).map (qfd a b c d e) = hi4 a ++ hi4 b ++ hi4 c ++ hi4 d ++ hi4 e := rfl
theorem M_feed_lp {n : Nat} {L : List UInt8} {tp : Nat → Int32} (a b c d e : Int32) (hn : 100 < n) (hL : L.length + 20 ≤ 30000) (h : QHM L tp) :
    ∃ x, lp (fun v => f_M_feed_l23 30000 (nI L.length) a b c d e v.1 v.2) n (tp, (0 : Int32)) = some x ∧ QHM (L ++ (List.range 20).map (qfd a b c d e)) x.1 := by
  refine lp_inv (fun q w => ∃ j, j + q = 20 ∧ w.2 = nI j ∧ QHM (L ++ (List.range j).map (qfd a b c d e)) w.1) _ ?_ 20 n _ ⟨0, by omega, rfl, by simpa using h⟩ (by omega)
  rintro q ⟨f, j'⟩ ⟨j, g1, g2, g3⟩
  simp only at g2 g3
  subst g2
  show (∃ w', f_M_feed_l23 30000 (nI L.length) a b c d e f (nI j) = _ ∧ _) ∨ (∃ x, f_M_feed_l23 30000 (nI L.length) a b c d e f (nI j) = _ ∧ _)
  unfold f_M_feed_l23
  have i20 : (20 : Int32) = nI 20 := rfl
  have i4 : (4 : Int32) = nI 4 := rfl
  have i8 : (8 : Int32) = nI 8 := rfl
  have i12 : (12 : Int32) = nI 12 := rfl
  have i16 : (16 : Int32) = nI 16 := rfl
  rw [i20, i4, i8, i12, i16, ifle (by omega) (by omega), ifle (by omega) (by omega), ifle (by omega) (by omega), ifle (by omega) (by omega), ifle (by omega) (by omega)]
  by_cases c20 : 20 ≤ j
  · have : j = 20 := by omega
    subst this
    exact Or.inr ⟨_, by rw [if_pos c20], g3⟩
  · rw [if_neg c20]
    have key : ∀ k0, f_M_feed_j76 30000 (nI L.length) f (nI j) k0 = some (Sum.inl (upd f (L.length + j) (um (by8 (k0 >>> (nI (24 - 8 * (j % 4)) &&& 31)))), nI (j + 1))) := by
      intro k0
      unfold f_M_feed_j76
      simp only [bnd]
      have hs : ∀ x : Fin 20, ((24 : Int32) - 8 * (nI x.val - nI x.val / 4 * 4)) &&& 31 = nI (24 - 8 * (x.val % 4)) &&& 31 := by decide
      have hs2 := hs ⟨j, by omega⟩
      simp only at hs2
      rw [hs2, um_by8, qn_add, gd_nI (by omega) (by omega), qn_clamp (by omega)]
      have : nI j + 1 = nI (j + 1) := qn_add j 1
      rw [this]
    have sel : (if 4 ≤ j then if 8 ≤ j then if 12 ≤ j then if 16 ≤ j then f_M_feed_j76 30000 (nI L.length) f (nI j) e else f_M_feed_j76 30000 (nI L.length) f (nI j) d else f_M_feed_j76 30000 (nI L.length) f (nI j) c else f_M_feed_j76 30000 (nI L.length) f (nI j) b else f_M_feed_j76 30000 (nI L.length) f (nI j) a) = some (Sum.inl (upd f (L.length + j) (um (qfd a b c d e j)), nI (j + 1))) := by
      unfold qfd
      by_cases c4 : 4 ≤ j
      · rw [if_pos c4, if_neg (show ¬ j < 4 by omega)]
        by_cases c8 : 8 ≤ j
        · rw [if_pos c8, if_neg (show ¬ j < 8 by omega)]
          by_cases c12 : 12 ≤ j
          · rw [if_pos c12, if_neg (show ¬ j < 12 by omega)]
            by_cases c16 : 16 ≤ j
            · rw [if_pos c16, if_neg (show ¬ j < 16 by omega)]; exact key e
            · rw [if_neg c16, if_pos (show j < 16 by omega)]; exact key d
          · rw [if_neg c12, if_pos (show j < 12 by omega)]; exact key c
        · rw [if_neg c8, if_pos (show j < 8 by omega)]; exact key b
      · rw [if_neg c4, if_pos (show j < 4 by omega)]; exact key a
    rw [sel]
    refine Or.inl ⟨_, rfl, q - 1, by omega, j + 1, by omega, rfl, ?_⟩
    rw [List.range_succ, List.map_append, ← List.append_assoc]
    have := HM_app g3 (qfd a b c d e j)
    simpa using this
theorem p_feed {n : Nat} {ts mts : Int32} {trow mt : Nat → Int32} (a b c d e : Int32) (hn : 100000 < n) (hT : QBy 30000 ts trow mts mt) :
    ∃ o1 o2, f_F_feed n 30000 ts trow a b c d e = some o1 ∧ f_M_feed n 30000 mts mt a b c d e = some o2 ∧ o1.1 = o2.1 ∧ QBy 30000 o1.2.1 o1.2.2 o2.2.2.1 o2.2.2.2 := by
  have hT' := hT
  obtain ⟨L, q0, q1, q2, q3, q4⟩ := hT
  subst q1; subst q3
  unfold f_F_feed f_M_feed
  have i20 : (20 : Int32) = nI 20 := rfl
  have i4 : (29980 : Int32) = nI 29980 := rfl
  have i8 : (30000 : Int32) = nI 30000 := rfl
  rw [i20, i4, i8, qn_add, ifle (by omega) (by omega), ifle (by omega) (by omega)]
  by_cases hc : L.length ≤ 29980
  · rw [if_pos hc, if_pos (show L.length + 20 ≤ 30000 by omega)]
    obtain ⟨x, x1, x2⟩ := M_feed_lp (tp := mt) (n := n) a b c d e (by omega) (by omega) q4
    rw [x1]
    have l4 : ∀ v, (hi4 v).length = 4 := fun v => rfl
    obtain ⟨o1, p1, s1, r1⟩ := B_highestFirst (n := n) (cap := 30000) a (by omega) (by omega) (by omega) q2
    obtain ⟨o2, p2, s2, r2⟩ := B_highestFirst (n := n) (cap := 30000) b (by omega) (by omega) (by simp [l4]; omega) r1
    obtain ⟨o3, p3, s3, r3⟩ := B_highestFirst (n := n) (cap := 30000) c (by omega) (by omega) (by simp [l4]; omega) r2
    obtain ⟨o4, p4, s4, r4⟩ := B_highestFirst (n := n) (cap := 30000) d (by omega) (by omega) (by simp [l4]; omega) r3
    obtain ⟨o5, p5, s5, r5⟩ := B_highestFirst (n := n) (cap := 30000) e (by omega) (by omega) (by simp [l4]; omega) r4
    rw [← s1] at p2
    rw [← s2] at p3
    rw [← s3] at p4
    rw [← s4] at p5
    simp only [p1, p2, p3, p4, p5, obs]
    refine ⟨_, _, rfl, rfl, rfl, L ++ hi4 a ++ hi4 b ++ hi4 c ++ hi4 d ++ hi4 e, by simp [l4]; omega, s5, r5, ?_, ?_⟩
    · show nI L.length + 20 = _
      rw [i20, qn_add]; simp [l4]
    · rw [fd_eq] at x2
      simpa using x2
  · rw [if_neg hc, if_neg (show ¬ L.length + 20 ≤ 30000 by omega)]
    exact ⟨_, _, rfl, rfl, rfl, hT'⟩
theorem s_feed (n : Nat) (hn : 100000 < n) : H_feed QSim n := by
  intro x_lastCoding x_lastBody x_column_type x_column_mostR x_column_mostD x_input_size x_input_row x_output_size x_output_row x_page_entries x_page_valued x_page_definitions x_page_repetitions x_page_valueNumbers x_page_values_ofTexts x_page_values_count x_page_values_numbers x_page_values_starts x_page_values_texts x_reader_entries x_reader_count x_reader_bodyTold x_reader_check x_reader_coding x_reader_bodySize x_reader_commons x_reader_dictionary_ofTexts x_reader_dictionary_count x_reader_dictionary_numbers x_reader_dictionary_starts x_reader_dictionary_texts x_reader_numbers x_reader_source_at x_reader_source_to x_reader_source_fault x_reader_source_widths x_reader_told_ofTexts x_reader_told_count x_reader_told_numbers x_reader_told_starts x_reader_told_texts x_spare_entries x_spare_valued x_spare_definitions x_spare_repetitions x_spare_valueNumbers x_spare_values_ofTexts x_spare_values_count x_spare_values_numbers x_spare_values_starts x_spare_values_texts x_tape_size x_tape_row x_writer_entries x_writer_levelBytes x_writer_body_size x_writer_body_row x_writer_commons x_writer_dictionary_count x_writer_dictionary_firsts x_writer_dictionary_slots x_writer_numbers x_writer_piece_size x_writer_piece_row m_code m_type m_mostR m_mostD m_entries m_values m_coding m_bodySize m_newCount m_words m_taped m_inputSize m_outSize m_at m_stop m_fault m_longCount m_body m_bytes m_common m_definitions m_from m_input m_longs m_more m_newBytes m_newDefinitions m_newFrom m_newRepetitions m_newWholes m_numbers m_out m_repetitions m_tape m_told2 m_toldBytes m_toldSize m_wholes m_wordBytes m_wordFrom m_words8 v1 v2 v3 v4 v5 hs
  obtain ⟨t, r, d, nn, c, rp, df, num, S, T, ⟨ht3, hrd, hd16⟩, hV, hCx, hCm, hPC, hPM, hTp, hIn, hOu, hlc, hlb, hz⟩ := hs
  obtain ⟨o1, o2, h1, h2, h3, h4⟩ := p_feed v1 v2 v3 v4 v5 hn hTp
  exact ⟨o1, o2, h1, h2, h3, t, r, d, nn, c, rp, df, num, S, T, ⟨ht3, hrd, hd16⟩, hV, hCx, hCm, hPC, hPM, h4, hIn, hOu, hlc, hlb, hz⟩
