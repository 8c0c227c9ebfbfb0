def rm_F_turn : Room := { frames := 2, cells := 0, slots := 0, locals := 63 }
def f_F_turn (t_input_row_n : Nat) (t_output_row_n : Nat) (t_input_size : Int32) (t_input_row : Nat → Int32) (t_output_size : Int32) (t_output_row : Nat → Int32) : Option (Int32 × Int32 × (Nat → Int32)) :=
  (if t_output_size ≤ (30000 : Int32) then Option.bind (f_B_cut (0 : Int32)) (fun o3 => Option.bind (f_B_append t_input_row_n t_output_row_n o3 t_input_row t_output_row (0 : Int32) t_output_size) (fun o4 => some ((1 : Int32), o4.1, o4.2))) else some ((0 : Int32), t_input_size, t_input_row))
set_option maxHeartbeats 4000000 in
set_option maxRecDepth 100000 in
theorem c_F_turn (l : Launch) (D : va_G) (k : ClassId × ClassId × ClassId) (a_t a_t_column a_t_tape a_t_input a_t_output a_t_writer a_t_reader a_t_page a_t_spare a_t_input_row a_t_output_row : Nat) (t_input_row_n t_output_row_n : Nat) (t_lastCoding : Int32) (t_lastBody : Int32) (t_input_size : Int32) (t_input_row : Nat → Int32) (t_output_size : Int32) (t_output_row : Nat → Int32) (n : Nat) (out : Int32 × Int32 × (Nat → Int32)) (h : f_F_turn t_input_row_n t_output_row_n t_input_size t_input_row t_output_size t_output_row = some out) : Ct l D k y_F_turn b_F_turn 1 (some .boolean) rm_F_turn [.ref a_t] [(a_t, .inr (8, [.ref a_t_column, .ref a_t_tape, .ref a_t_input, .ref a_t_output, .ref a_t_writer, .ref a_t_reader, .ref a_t_page, .ref a_t_spare, .int t_lastCoding, .int t_lastBody])), (a_t_input, .inr (0, [.ref a_t_input_row, .int t_input_size])), (a_t_input_row, .inl (k.1, t_input_row_n, .inl t_input_row)), (a_t_output, .inr (0, [.ref a_t_output_row, .int t_output_size])), (a_t_output_row, .inl (k.1, t_output_row_n, .inl t_output_row))] [(a_t, .inr (8, [.ref a_t_column, .ref a_t_tape, .ref a_t_input, .ref a_t_output, .ref a_t_writer, .ref a_t_reader, .ref a_t_page, .ref a_t_spare, .int t_lastCoding, .int t_lastBody])), (a_t_input, .inr (0, [.ref a_t_input_row, .int out.2.1])), (a_t_input_row, .inl (k.1, t_input_row_n, .inl out.2.2)), (a_t_output, .inr (0, [.ref a_t_output_row, .int t_output_size])), (a_t_output_row, .inl (k.1, t_output_row_n, .inl t_output_row))] (some (.int out.1)) := by
  refine Ct.ofZ (by decide) (Nat.le_of_ble_eq_true rfl) ?_
  intro p e s m args below meth c A Q ls hx hb hml hown hts hA hK hP hD hS hE hl ret
  have hown : s.vm.findClass "PageForm" = some m.cls := hown
  have hl : lv_has ls 1 [(0, .ref a_t)] := hl
  have ret2 : ∀ (y0 : Int32) (y1 : Int32) (y2 : Nat → Int32) (_ : (y0, y1, y2) = out) {pc : Nat} {ls : Array Slot} {H : Heap} {locs : List Loc}, decode b_F_turn pc = .ok (.ireturn, 1) → narrow .boolean (.int y0) = .int y0 → va_P D CL [(a_t, .inr (8, [.ref a_t_column, .ref a_t_tape, .ref a_t_input, .ref a_t_output, .ref a_t_writer, .ref a_t_reader, .ref a_t_page, .ref a_t_spare, .int t_lastCoding, .int t_lastBody])), (a_t_input, .inr (0, [.ref a_t_input_row, .int y1])), (a_t_input_row, .inl (k.1, t_input_row_n, .inl y2)), (a_t_output, .inr (0, [.ref a_t_output_row, .int t_output_size])), (a_t_output_row, .inl (k.1, t_output_row_n, .inl t_output_row))] H → va_D A [(a_t, .inr (8, [.ref a_t_column, .ref a_t_tape, .ref a_t_input, .ref a_t_output, .ref a_t_writer, .ref a_t_reader, .ref a_t_page, .ref a_t_spare, .int t_lastCoding, .int t_lastBody])), (a_t_input, .inr (0, [.ref a_t_input_row, .int y1])), (a_t_input_row, .inl (k.1, t_input_row_n, .inl y2)), (a_t_output, .inr (0, [.ref a_t_output_row, .int t_output_size])), (a_t_output_row, .inl (k.1, t_output_row_n, .inl t_output_row))] → va_S A s.heap H locs → W p l e rm_F_turn s m args below meth c H locs 0 0 Q (F0 m pc ls [.int y0]) := by
    intro y0 y1 y2 e0; subst e0; exact ret
  clear ret
  unfold f_F_turn at h
  refine lv_aload_n hx hb d_F_turn_0 rfl (lv_at hl 0 rfl) ?_
  refine va_get (D := D) (ci := 8) (v := .ref a_t_output) (C := "PageForm") (T := F_F) (N := 10) hx hb hts in_F hown hK hP 0 rfl rfl 3 (by decide) (hts _ fl_F_28) (fun _ h9 => h9) rfl d_F_turn_1 ?_
  refine va_get (D := D) (ci := 0) (v := .int t_output_size) (C := "PageForm$Bytes") (T := F_B) (N := 2) hx hb hts in_B hown hK hP 3 rfl rfl 1 (by decide) (hts _ fl_F_59) (fun _ h9 => h9) rfl d_F_turn_4 ?_
  refine lv_sipush (v := 30000) hx hb d_F_turn_7 (by decide) ?_
  refine lv_icmp_le (tgt := 15) hx hb d_F_turn_10 (by decide) (fun c => ?_) (fun c => ?_)
  · have h := ift_at h c
    refine lv_aload_n hx hb d_F_turn_15 rfl (lv_at hl 0 rfl) ?_
    refine va_get (D := D) (ci := 8) (v := .ref a_t_input) (C := "PageForm") (T := F_F) (N := 10) hx hb hts in_F hown hK hP 0 rfl rfl 2 (by decide) (hts _ fl_F_25) (fun _ h9 => h9) rfl d_F_turn_16 ?_
    refine lv_iconst (v := 0) hx hb d_F_turn_19 (by decide) ?_
    obtain ⟨o3, ho3, h⟩ := obd_at h
    refine g_V (As := [.int (0 : Int32)]) (rest := []) hx hb hml hown hts hA hK hP hD hS hE (c_B_cut l D k a_t_input a_t_input_row t_input_size (0 : Int32) n o3 ho3) mw_B_cut mi_B_cut ml_F_66 [1] rfl (by decide) rfl rfl rfl 0 rfl rfl rfl rfl rfl hl.1 rfl (Nat.le_of_ble_eq_true rfl) ⟨Nat.zero_le _, Nat.zero_le _⟩ d_F_turn_20 (fun H locs hP hD hS => ?_)
    have hP : va_P D CL [(a_t, .inr (8, [.ref a_t_column, .ref a_t_tape, .ref a_t_input, .ref a_t_output, .ref a_t_writer, .ref a_t_reader, .ref a_t_page, .ref a_t_spare, .int t_lastCoding, .int t_lastBody])), (a_t_input, .inr (0, [.ref a_t_input_row, .int o3])), (a_t_input_row, .inl (k.1, t_input_row_n, .inl t_input_row)), (a_t_output, .inr (0, [.ref a_t_output_row, .int t_output_size])), (a_t_output_row, .inl (k.1, t_output_row_n, .inl t_output_row))] H := hP
    have hD : va_D A [(a_t, .inr (8, [.ref a_t_column, .ref a_t_tape, .ref a_t_input, .ref a_t_output, .ref a_t_writer, .ref a_t_reader, .ref a_t_page, .ref a_t_spare, .int t_lastCoding, .int t_lastBody])), (a_t_input, .inr (0, [.ref a_t_input_row, .int o3])), (a_t_input_row, .inl (k.1, t_input_row_n, .inl t_input_row)), (a_t_output, .inr (0, [.ref a_t_output_row, .int t_output_size])), (a_t_output_row, .inl (k.1, t_output_row_n, .inl t_output_row))] := hD
    refine W.eq (g2 := F0 m 23 ls []) rfl ?_
    refine lv_aload_n hx hb d_F_turn_23 rfl (lv_at hl 0 rfl) ?_
    refine va_get (D := D) (ci := 8) (v := .ref a_t_input) (C := "PageForm") (T := F_F) (N := 10) hx hb hts in_F hown hK hP 0 rfl rfl 2 (by decide) (hts _ fl_F_25) (fun _ h9 => h9) rfl d_F_turn_24 ?_
    refine lv_aload_n hx hb d_F_turn_27 rfl (lv_at hl 0 rfl) ?_
    refine va_get (D := D) (ci := 8) (v := .ref a_t_output) (C := "PageForm") (T := F_F) (N := 10) hx hb hts in_F hown hK hP 0 rfl rfl 3 (by decide) (hts _ fl_F_28) (fun _ h9 => h9) rfl d_F_turn_28 ?_
    refine va_get (D := D) (ci := 0) (v := .ref a_t_output_row) (C := "PageForm$Bytes") (T := F_B) (N := 2) hx hb hts in_B hown hK hP 3 rfl rfl 0 (by decide) (hts _ fl_F_69) (fun _ h9 => h9) rfl d_F_turn_31 ?_
    refine lv_iconst (v := 0) hx hb d_F_turn_34 (by decide) ?_
    refine lv_aload_n hx hb d_F_turn_35 rfl (lv_at hl 0 rfl) ?_
    refine va_get (D := D) (ci := 8) (v := .ref a_t_output) (C := "PageForm") (T := F_F) (N := 10) hx hb hts in_F hown hK hP 0 rfl rfl 3 (by decide) (hts _ fl_F_28) (fun _ h9 => h9) rfl d_F_turn_36 ?_
    refine va_get (D := D) (ci := 0) (v := .int t_output_size) (C := "PageForm$Bytes") (T := F_B) (N := 2) hx hb hts in_B hown hK hP 3 rfl rfl 1 (by decide) (hts _ fl_F_59) (fun _ h9 => h9) rfl d_F_turn_39 ?_
    obtain ⟨o4, ho4, h⟩ := obd_at h
    refine g_V (As := [.ref a_t_output_row, .int (0 : Int32), .int t_output_size]) (rest := []) hx hb hml hown hts hA hK hP hD hS hE (c_B_append l D k a_t_input a_t_input_row a_t_output_row t_input_row_n t_output_row_n o3 t_input_row t_output_row (0 : Int32) t_output_size n o4 ho4) mw_B_append mi_B_append ml_F_73 [1, 2, 4] rfl (by decide) rfl rfl rfl 0 rfl rfl rfl rfl rfl hl.1 rfl (Nat.le_of_ble_eq_true rfl) ⟨Nat.zero_le _, Nat.zero_le _⟩ d_F_turn_42 (fun H locs hP hD hS => ?_)
    have hP : va_P D CL [(a_t, .inr (8, [.ref a_t_column, .ref a_t_tape, .ref a_t_input, .ref a_t_output, .ref a_t_writer, .ref a_t_reader, .ref a_t_page, .ref a_t_spare, .int t_lastCoding, .int t_lastBody])), (a_t_input, .inr (0, [.ref a_t_input_row, .int o4.1])), (a_t_input_row, .inl (k.1, t_input_row_n, .inl o4.2)), (a_t_output, .inr (0, [.ref a_t_output_row, .int t_output_size])), (a_t_output_row, .inl (k.1, t_output_row_n, .inl t_output_row))] H := hP
    have hD : va_D A [(a_t, .inr (8, [.ref a_t_column, .ref a_t_tape, .ref a_t_input, .ref a_t_output, .ref a_t_writer, .ref a_t_reader, .ref a_t_page, .ref a_t_spare, .int t_lastCoding, .int t_lastBody])), (a_t_input, .inr (0, [.ref a_t_input_row, .int o4.1])), (a_t_input_row, .inl (k.1, t_input_row_n, .inl o4.2)), (a_t_output, .inr (0, [.ref a_t_output_row, .int t_output_size])), (a_t_output_row, .inl (k.1, t_output_row_n, .inl t_output_row))] := hD
    refine W.eq (g2 := F0 m 45 ls []) rfl ?_
    refine lv_iconst (v := 1) hx hb d_F_turn_45 (by decide) ?_
    exact ret2 _ _ _ (Option.some.inj h) d_F_turn_46 nb1 hP hD hS
  · have h := iff_at h c
    refine lv_iconst (v := 0) hx hb d_F_turn_13 (by decide) ?_
    exact ret2 _ _ _ (Option.some.inj h) d_F_turn_14 nb0 hP hD hS

def rm_F_about : Room := { frames := 0, cells := 0, slots := 0, locals := 0 }
def f_F_about (t_lastCoding : Int32) (t_lastBody : Int32) (t_page_entries : Int32) (t_page_values_count : Int32) (v1 : Int32) : Option (Int32) :=
  (if v1 = (0 : Int32) then some t_page_entries else (if v1 = (1 : Int32) then some (t_page_entries - t_page_values_count) else (if v1 = (2 : Int32) then some t_lastCoding else (if v1 = (3 : Int32) then some t_lastBody else some (-1 : Int32)))))
set_option maxHeartbeats 4000000 in
set_option maxRecDepth 100000 in
theorem c_F_about (l : Launch) (D : va_G) (k : ClassId × ClassId × ClassId) (a_t a_t_column a_t_tape a_t_input a_t_output a_t_writer a_t_reader a_t_page a_t_spare a_t_page_repetitions a_t_page_definitions a_t_page_valueNumbers a_t_page_values a_t_page_values_numbers a_t_page_values_texts a_t_page_values_starts : Nat) (t_lastCoding : Int32) (t_lastBody : Int32) (t_page_entries : Int32) (t_page_valued : Int32) (t_page_values_ofTexts : Int32) (t_page_values_count : Int32) (v1 : Int32) (n : Nat) (out : Int32) (h : f_F_about t_lastCoding t_lastBody t_page_entries t_page_values_count v1 = some out) : Ct l D k y_F_about b_F_about 2 (some .int) rm_F_about [.ref a_t, .int v1] [(a_t, .inr (8, [.ref a_t_column, .ref a_t_tape, .ref a_t_input, .ref a_t_output, .ref a_t_writer, .ref a_t_reader, .ref a_t_page, .ref a_t_spare, .int t_lastCoding, .int t_lastBody])), (a_t_page, .inr (3, [.ref a_t_page_repetitions, .ref a_t_page_definitions, .ref a_t_page_valueNumbers, .ref a_t_page_values, .int t_page_entries, .int t_page_valued])), (a_t_page_values, .inr (6, [.ref a_t_page_values_numbers, .ref a_t_page_values_texts, .ref a_t_page_values_starts, .int t_page_values_ofTexts, .int t_page_values_count]))] [(a_t, .inr (8, [.ref a_t_column, .ref a_t_tape, .ref a_t_input, .ref a_t_output, .ref a_t_writer, .ref a_t_reader, .ref a_t_page, .ref a_t_spare, .int t_lastCoding, .int t_lastBody])), (a_t_page, .inr (3, [.ref a_t_page_repetitions, .ref a_t_page_definitions, .ref a_t_page_valueNumbers, .ref a_t_page_values, .int t_page_entries, .int t_page_valued])), (a_t_page_values, .inr (6, [.ref a_t_page_values_numbers, .ref a_t_page_values_texts, .ref a_t_page_values_starts, .int t_page_values_ofTexts, .int t_page_values_count]))] (some (.int out)) := by
  refine Ct.ofI (by decide) (Nat.le_of_ble_eq_true rfl) ?_
  intro p e s m args below meth c A Q ls hx hb hml hown hts hA hK hP hD hS hE hl ret
  have hown : s.vm.findClass "PageForm" = some m.cls := hown
  have hl : lv_has ls 2 [(0, .ref a_t), (1, .int v1)] := hl
  have ret2 : ∀ (y0 : Int32) (_ : y0 = out) {pc : Nat} {ls : Array Slot} {H : Heap} {locs : List Loc}, decode b_F_about pc = .ok (.ireturn, 1) → va_P D CL [(a_t, .inr (8, [.ref a_t_column, .ref a_t_tape, .ref a_t_input, .ref a_t_output, .ref a_t_writer, .ref a_t_reader, .ref a_t_page, .ref a_t_spare, .int t_lastCoding, .int t_lastBody])), (a_t_page, .inr (3, [.ref a_t_page_repetitions, .ref a_t_page_definitions, .ref a_t_page_valueNumbers, .ref a_t_page_values, .int t_page_entries, .int t_page_valued])), (a_t_page_values, .inr (6, [.ref a_t_page_values_numbers, .ref a_t_page_values_texts, .ref a_t_page_values_starts, .int t_page_values_ofTexts, .int t_page_values_count]))] H → va_D A [(a_t, .inr (8, [.ref a_t_column, .ref a_t_tape, .ref a_t_input, .ref a_t_output, .ref a_t_writer, .ref a_t_reader, .ref a_t_page, .ref a_t_spare, .int t_lastCoding, .int t_lastBody])), (a_t_page, .inr (3, [.ref a_t_page_repetitions, .ref a_t_page_definitions, .ref a_t_page_valueNumbers, .ref a_t_page_values, .int t_page_entries, .int t_page_valued])), (a_t_page_values, .inr (6, [.ref a_t_page_values_numbers, .ref a_t_page_values_texts, .ref a_t_page_values_starts, .int t_page_values_ofTexts, .int t_page_values_count]))] → va_S A s.heap H locs → W p l e rm_F_about s m args below meth c H locs 0 0 Q (F0 m pc ls [.int y0]) := by
    intro y0 e0; subst e0; exact ret
  clear ret
  unfold f_F_about at h
  refine lv_iload_n hx hb d_F_about_0 rfl (lv_at hl 1 rfl) ?_
  by_cases c0 : v1 = (0 : Int32)
  · have h := ift_at h c0
    refine lv_tableIn (tgt := 32) (off := 31) hx hb d_F_about_1 (by rw [c0] <;> decide) (by rw [c0] <;> decide) (by rw [c0] <;> rfl) (by decide) ?_
    refine lv_aload_n hx hb d_F_about_32 rfl (lv_at hl 0 rfl) ?_
    refine va_get (D := D) (ci := 8) (v := .ref a_t_page) (C := "PageForm") (T := F_F) (N := 10) hx hb hts in_F hown hK hP 0 rfl rfl 6 (by decide) (hts _ fl_F_52) (fun _ h9 => h9) rfl d_F_about_33 ?_
    refine va_get (D := D) (ci := 3) (v := .int t_page_entries) (C := "PageForm$Page") (T := F_P) (N := 6) hx hb hts in_P hown hK hP 1 rfl rfl 4 (by decide) (hts _ fl_F_89) (fun _ h9 => h9) rfl d_F_about_36 ?_
    exact ret2 _ (Option.some.inj h) d_F_about_39 hP hD hS
  have h := iff_at h c0
  by_cases c1 : v1 = (1 : Int32)
  · have h := ift_at h c1
    refine lv_tableIn (tgt := 40) (off := 39) hx hb d_F_about_1 (by rw [c1] <;> decide) (by rw [c1] <;> decide) (by rw [c1] <;> rfl) (by decide) ?_
    refine lv_aload_n hx hb d_F_about_40 rfl (lv_at hl 0 rfl) ?_
    refine va_get (D := D) (ci := 8) (v := .ref a_t_page) (C := "PageForm") (T := F_F) (N := 10) hx hb hts in_F hown hK hP 0 rfl rfl 6 (by decide) (hts _ fl_F_52) (fun _ h9 => h9) rfl d_F_about_41 ?_
    refine va_get (D := D) (ci := 3) (v := .int t_page_entries) (C := "PageForm$Page") (T := F_P) (N := 6) hx hb hts in_P hown hK hP 1 rfl rfl 4 (by decide) (hts _ fl_F_89) (fun _ h9 => h9) rfl d_F_about_44 ?_
    refine lv_aload_n hx hb d_F_about_47 rfl (lv_at hl 0 rfl) ?_
    refine va_get (D := D) (ci := 8) (v := .ref a_t_page) (C := "PageForm") (T := F_F) (N := 10) hx hb hts in_F hown hK hP 0 rfl rfl 6 (by decide) (hts _ fl_F_52) (fun _ h9 => h9) rfl d_F_about_48 ?_
    refine va_get (D := D) (ci := 3) (v := .ref a_t_page_values) (C := "PageForm$Page") (T := F_P) (N := 6) hx hb hts in_P hown hK hP 1 rfl rfl 3 (by decide) (hts _ fl_F_108) (fun _ h9 => h9) rfl d_F_about_51 ?_
    refine va_get (D := D) (ci := 6) (v := .int t_page_values_count) (C := "PageForm$Values") (T := F_V) (N := 5) hx hb hts in_V hown hK hP 2 rfl rfl 4 (by decide) (hts _ fl_F_176) (fun _ h9 => h9) rfl d_F_about_54 ?_
    refine lv_isub hx hb d_F_about_57 ?_
    exact ret2 _ (Option.some.inj h) d_F_about_58 hP hD hS
  have h := iff_at h c1
  by_cases c2 : v1 = (2 : Int32)
  · have h := ift_at h c2
    refine lv_tableIn (tgt := 59) (off := 58) hx hb d_F_about_1 (by rw [c2] <;> decide) (by rw [c2] <;> decide) (by rw [c2] <;> rfl) (by decide) ?_
    refine lv_aload_n hx hb d_F_about_59 rfl (lv_at hl 0 rfl) ?_
    refine va_get (D := D) (ci := 8) (v := .int t_lastCoding) (C := "PageForm") (T := F_F) (N := 10) hx hb hts in_F hown hK hP 0 rfl rfl 8 (by decide) (hts _ fl_F_139) (fun _ h9 => h9) rfl d_F_about_60 ?_
    exact ret2 _ (Option.some.inj h) d_F_about_63 hP hD hS
  have h := iff_at h c2
  by_cases c3 : v1 = (3 : Int32)
  · have h := ift_at h c3
    refine lv_tableIn (tgt := 64) (off := 63) hx hb d_F_about_1 (by rw [c3] <;> decide) (by rw [c3] <;> decide) (by rw [c3] <;> rfl) (by decide) ?_
    refine lv_aload_n hx hb d_F_about_64 rfl (lv_at hl 0 rfl) ?_
    refine va_get (D := D) (ci := 8) (v := .int t_lastBody) (C := "PageForm") (T := F_F) (N := 10) hx hb hts in_F hown hK hP 0 rfl rfl 9 (by decide) (hts _ fl_F_136) (fun _ h9 => h9) rfl d_F_about_65 ?_
    exact ret2 _ (Option.some.inj h) d_F_about_68 hP hD hS
  have h := iff_at h c3
  refine lv_tableOut (tgt := 69) hx hb d_F_about_1 (sw_out4 c0 c1 c2 c3) (by decide) ?_
  refine lv_iconst (v := (-1)) hx hb d_F_about_69 (by decide) ?_
  exact ret2 _ (Option.some.inj h) d_F_about_70 hP hD hS

def rm_F_level : Room := { frames := 0, cells := 0, slots := 0, locals := 0 }
def f_F_level (t_page_definitions_n : Nat) (t_page_repetitions_n : Nat) (t_page_valueNumbers_n : Nat) (t_page_entries : Int32) (t_page_definitions : Nat → Int32) (t_page_repetitions : Nat → Int32) (t_page_valueNumbers : Nat → Int32) (v1 : Int32) (v2 : Int32) : Option (Int32) :=
  (if v1 < 0 then some (-1 : Int32) else (if v1 < t_page_entries then (if v2 = (0 : Int32) then gd (inB v1 t_page_repetitions_n) (some (t_page_repetitions v1.toNatClampNeg)) else (if v2 = (1 : Int32) then gd (inB v1 t_page_definitions_n) (some (t_page_definitions v1.toNatClampNeg)) else (if v2 = (2 : Int32) then gd (inB v1 t_page_valueNumbers_n) (some (t_page_valueNumbers v1.toNatClampNeg)) else some (-1 : Int32)))) else some (-1 : Int32)))
set_option maxHeartbeats 4000000 in
set_option maxRecDepth 100000 in
theorem c_F_level (l : Launch) (D : va_G) (k : ClassId × ClassId × ClassId) (a_t a_t_column a_t_tape a_t_input a_t_output a_t_writer a_t_reader a_t_page a_t_spare a_t_page_repetitions a_t_page_definitions a_t_page_valueNumbers a_t_page_values : Nat) (t_page_definitions_n t_page_repetitions_n t_page_valueNumbers_n : Nat) (t_lastCoding : Int32) (t_lastBody : Int32) (t_page_entries : Int32) (t_page_valued : Int32) (t_page_definitions : Nat → Int32) (t_page_repetitions : Nat → Int32) (t_page_valueNumbers : Nat → Int32) (v1 : Int32) (v2 : Int32) (n : Nat) (out : Int32) (h : f_F_level t_page_definitions_n t_page_repetitions_n t_page_valueNumbers_n t_page_entries t_page_definitions t_page_repetitions t_page_valueNumbers v1 v2 = some out) : Ct l D k y_F_level b_F_level 3 (some .int) rm_F_level [.ref a_t, .int v1, .int v2] [(a_t, .inr (8, [.ref a_t_column, .ref a_t_tape, .ref a_t_input, .ref a_t_output, .ref a_t_writer, .ref a_t_reader, .ref a_t_page, .ref a_t_spare, .int t_lastCoding, .int t_lastBody])), (a_t_page, .inr (3, [.ref a_t_page_repetitions, .ref a_t_page_definitions, .ref a_t_page_valueNumbers, .ref a_t_page_values, .int t_page_entries, .int t_page_valued])), (a_t_page_definitions, .inl (k.1, t_page_definitions_n, .inl t_page_definitions)), (a_t_page_repetitions, .inl (k.1, t_page_repetitions_n, .inl t_page_repetitions)), (a_t_page_valueNumbers, .inl (k.2.1, t_page_valueNumbers_n, .inl t_page_valueNumbers))] [(a_t, .inr (8, [.ref a_t_column, .ref a_t_tape, .ref a_t_input, .ref a_t_output, .ref a_t_writer, .ref a_t_reader, .ref a_t_page, .ref a_t_spare, .int t_lastCoding, .int t_lastBody])), (a_t_page, .inr (3, [.ref a_t_page_repetitions, .ref a_t_page_definitions, .ref a_t_page_valueNumbers, .ref a_t_page_values, .int t_page_entries, .int t_page_valued])), (a_t_page_definitions, .inl (k.1, t_page_definitions_n, .inl t_page_definitions)), (a_t_page_repetitions, .inl (k.1, t_page_repetitions_n, .inl t_page_repetitions)), (a_t_page_valueNumbers, .inl (k.2.1, t_page_valueNumbers_n, .inl t_page_valueNumbers))] (some (.int out)) := by
  refine Ct.ofI (by decide) (Nat.le_of_ble_eq_true rfl) ?_
  intro p e s m args below meth c A Q ls hx hb hml hown hts hA hK hP hD hS hE hl ret
  have hown : s.vm.findClass "PageForm" = some m.cls := hown
  have hl : lv_has ls 3 [(0, .ref a_t), (1, .int v1), (2, .int v2)] := hl
  have ret2 : ∀ (y0 : Int32) (_ : y0 = out) {pc : Nat} {ls : Array Slot} {H : Heap} {locs : List Loc}, decode b_F_level pc = .ok (.ireturn, 1) → va_P D CL [(a_t, .inr (8, [.ref a_t_column, .ref a_t_tape, .ref a_t_input, .ref a_t_output, .ref a_t_writer, .ref a_t_reader, .ref a_t_page, .ref a_t_spare, .int t_lastCoding, .int t_lastBody])), (a_t_page, .inr (3, [.ref a_t_page_repetitions, .ref a_t_page_definitions, .ref a_t_page_valueNumbers, .ref a_t_page_values, .int t_page_entries, .int t_page_valued])), (a_t_page_definitions, .inl (k.1, t_page_definitions_n, .inl t_page_definitions)), (a_t_page_repetitions, .inl (k.1, t_page_repetitions_n, .inl t_page_repetitions)), (a_t_page_valueNumbers, .inl (k.2.1, t_page_valueNumbers_n, .inl t_page_valueNumbers))] H → va_D A [(a_t, .inr (8, [.ref a_t_column, .ref a_t_tape, .ref a_t_input, .ref a_t_output, .ref a_t_writer, .ref a_t_reader, .ref a_t_page, .ref a_t_spare, .int t_lastCoding, .int t_lastBody])), (a_t_page, .inr (3, [.ref a_t_page_repetitions, .ref a_t_page_definitions, .ref a_t_page_valueNumbers, .ref a_t_page_values, .int t_page_entries, .int t_page_valued])), (a_t_page_definitions, .inl (k.1, t_page_definitions_n, .inl t_page_definitions)), (a_t_page_repetitions, .inl (k.1, t_page_repetitions_n, .inl t_page_repetitions)), (a_t_page_valueNumbers, .inl (k.2.1, t_page_valueNumbers_n, .inl t_page_valueNumbers))] → va_S A s.heap H locs → W p l e rm_F_level s m args below meth c H locs 0 0 Q (F0 m pc ls [.int y0]) := by
    intro y0 e0; subst e0; exact ret
  clear ret
  unfold f_F_level at h
  refine lv_iload_n hx hb d_F_level_0 rfl (lv_at hl 1 rfl) ?_
  refine lv_if_lt (tgt := 15) hx hb d_F_level_1 (by decide) (fun c => ?_) (fun c => ?_)
  · have h := ift_at h c
    refine lv_iconst (v := (-1)) hx hb d_F_level_15 (by decide) ?_
    exact ret2 _ (Option.some.inj h) d_F_level_16 hP hD hS
  · have h := iff_at h c
    refine lv_iload_n hx hb d_F_level_4 rfl (lv_at hl 1 rfl) ?_
    refine lv_aload_n hx hb d_F_level_5 rfl (lv_at hl 0 rfl) ?_
    refine va_get (D := D) (ci := 8) (v := .ref a_t_page) (C := "PageForm") (T := F_F) (N := 10) hx hb hts in_F hown hK hP 0 rfl rfl 6 (by decide) (hts _ fl_F_52) (fun _ h9 => h9) rfl d_F_level_6 ?_
    refine va_get (D := D) (ci := 3) (v := .int t_page_entries) (C := "PageForm$Page") (T := F_P) (N := 6) hx hb hts in_P hown hK hP 1 rfl rfl 4 (by decide) (hts _ fl_F_89) (fun _ h9 => h9) rfl d_F_level_9 ?_
    refine lv_icmp_lt (tgt := 17) hx hb d_F_level_12 (by decide) (fun c => ?_) (fun c => ?_)
    · have h := ift_at h c
      refine lv_iload_n hx hb d_F_level_17 rfl (lv_at hl 2 rfl) ?_
      by_cases c0 : v2 = (0 : Int32)
      · have h := ift_at h c0
        refine lv_tableIn (tgt := 44) (off := 26) hx hb d_F_level_18 (by rw [c0] <;> decide) (by rw [c0] <;> decide) (by rw [c0] <;> rfl) (by decide) ?_
        refine lv_aload_n hx hb d_F_level_44 rfl (lv_at hl 0 rfl) ?_
        refine va_get (D := D) (ci := 8) (v := .ref a_t_page) (C := "PageForm") (T := F_F) (N := 10) hx hb hts in_F hown hK hP 0 rfl rfl 6 (by decide) (hts _ fl_F_52) (fun _ h9 => h9) rfl d_F_level_45 ?_
        refine va_get (D := D) (ci := 3) (v := .ref a_t_page_repetitions) (C := "PageForm$Page") (T := F_P) (N := 6) hx hb hts in_P hown hK hP 1 rfl rfl 0 (by decide) (hts _ fl_F_179) (fun _ h9 => h9) rfl d_F_level_48 ?_
        refine lv_iload_n hx hb d_F_level_51 rfl (lv_at hl 1 rfl) ?_
        obtain ⟨g4, h⟩ := gd_at h
        refine va_bald hx hb hK hP 3 0 rfl rfl (inB_in g4) d_F_level_52 ?_
        exact ret2 _ (Option.some.inj h) d_F_level_53 hP hD hS
      have h := iff_at h c0
      by_cases c1 : v2 = (1 : Int32)
      · have h := ift_at h c1
        refine lv_tableIn (tgt := 54) (off := 36) hx hb d_F_level_18 (by rw [c1] <;> decide) (by rw [c1] <;> decide) (by rw [c1] <;> rfl) (by decide) ?_
        refine lv_aload_n hx hb d_F_level_54 rfl (lv_at hl 0 rfl) ?_
        refine va_get (D := D) (ci := 8) (v := .ref a_t_page) (C := "PageForm") (T := F_F) (N := 10) hx hb hts in_F hown hK hP 0 rfl rfl 6 (by decide) (hts _ fl_F_52) (fun _ h9 => h9) rfl d_F_level_55 ?_
        refine va_get (D := D) (ci := 3) (v := .ref a_t_page_definitions) (C := "PageForm$Page") (T := F_P) (N := 6) hx hb hts in_P hown hK hP 1 rfl rfl 1 (by decide) (hts _ fl_F_182) (fun _ h9 => h9) rfl d_F_level_58 ?_
        refine lv_iload_n hx hb d_F_level_61 rfl (lv_at hl 1 rfl) ?_
        obtain ⟨g5, h⟩ := gd_at h
        refine va_bald hx hb hK hP 2 0 rfl rfl (inB_in g5) d_F_level_62 ?_
        exact ret2 _ (Option.some.inj h) d_F_level_63 hP hD hS
      have h := iff_at h c1
      by_cases c2 : v2 = (2 : Int32)
      · have h := ift_at h c2
        refine lv_tableIn (tgt := 64) (off := 46) hx hb d_F_level_18 (by rw [c2] <;> decide) (by rw [c2] <;> decide) (by rw [c2] <;> rfl) (by decide) ?_
        refine lv_aload_n hx hb d_F_level_64 rfl (lv_at hl 0 rfl) ?_
        refine va_get (D := D) (ci := 8) (v := .ref a_t_page) (C := "PageForm") (T := F_F) (N := 10) hx hb hts in_F hown hK hP 0 rfl rfl 6 (by decide) (hts _ fl_F_52) (fun _ h9 => h9) rfl d_F_level_65 ?_
        refine va_get (D := D) (ci := 3) (v := .ref a_t_page_valueNumbers) (C := "PageForm$Page") (T := F_P) (N := 6) hx hb hts in_P hown hK hP 1 rfl rfl 2 (by decide) (hts _ fl_F_185) (fun _ h9 => h9) rfl d_F_level_68 ?_
        refine lv_iload_n hx hb d_F_level_71 rfl (lv_at hl 1 rfl) ?_
        obtain ⟨g6, h⟩ := gd_at h
        refine va_iald hx hb hK hP 4 1 rfl rfl (inB_in g6) d_F_level_72 ?_
        exact ret2 _ (Option.some.inj h) d_F_level_73 hP hD hS
      have h := iff_at h c2
      refine lv_tableOut (tgt := 74) hx hb d_F_level_18 (sw_out3 c0 c1 c2) (by decide) ?_
      refine lv_iconst (v := (-1)) hx hb d_F_level_74 (by decide) ?_
      exact ret2 _ (Option.some.inj h) d_F_level_75 hP hD hS
    · have h := iff_at h c
      refine lv_iconst (v := (-1)) hx hb d_F_level_15 (by decide) ?_
      exact ret2 _ (Option.some.inj h) d_F_level_16 hP hD hS

def rm_F_value : Room := { frames := 0, cells := 0, slots := 0, locals := 0 }
def f_F_value_j27  : Option (Int64) :=
  some (0 : Int64)
def f_F_value (t_page_values_numbers_n : Nat) (t_page_values_ofTexts : Int32) (t_page_values_count : Int32) (t_page_values_numbers : Nat → Int64) (v1 : Int32) : Option (Int64) :=
  (if t_page_values_ofTexts = 0 then (if v1 < 0 then f_F_value_j27  else (if v1 < t_page_values_count then gd (inB v1 t_page_values_numbers_n) (some (t_page_values_numbers v1.toNatClampNeg)) else f_F_value_j27 )) else f_F_value_j27 )
set_option maxHeartbeats 4000000 in
set_option maxRecDepth 100000 in
theorem c_F_value (l : Launch) (D : va_G) (k : ClassId × ClassId × ClassId) (a_t a_t_column a_t_tape a_t_input a_t_output a_t_writer a_t_reader a_t_page a_t_spare a_t_page_repetitions a_t_page_definitions a_t_page_valueNumbers a_t_page_values a_t_page_values_numbers a_t_page_values_texts a_t_page_values_starts : Nat) (t_page_values_numbers_n : Nat) (t_lastCoding : Int32) (t_lastBody : Int32) (t_page_entries : Int32) (t_page_valued : Int32) (t_page_values_ofTexts : Int32) (t_page_values_count : Int32) (t_page_values_numbers : Nat → Int64) (v1 : Int32) (n : Nat) (out : Int64) (h : f_F_value t_page_values_numbers_n t_page_values_ofTexts t_page_values_count t_page_values_numbers v1 = some out) : Ct l D k y_F_value b_F_value 3 (some .long) rm_F_value [.ref a_t, .int v1] [(a_t, .inr (8, [.ref a_t_column, .ref a_t_tape, .ref a_t_input, .ref a_t_output, .ref a_t_writer, .ref a_t_reader, .ref a_t_page, .ref a_t_spare, .int t_lastCoding, .int t_lastBody])), (a_t_page, .inr (3, [.ref a_t_page_repetitions, .ref a_t_page_definitions, .ref a_t_page_valueNumbers, .ref a_t_page_values, .int t_page_entries, .int t_page_valued])), (a_t_page_values, .inr (6, [.ref a_t_page_values_numbers, .ref a_t_page_values_texts, .ref a_t_page_values_starts, .int t_page_values_ofTexts, .int t_page_values_count])), (a_t_page_values_numbers, .inl (k.2.2, t_page_values_numbers_n, .inr (.inl t_page_values_numbers)))] [(a_t, .inr (8, [.ref a_t_column, .ref a_t_tape, .ref a_t_input, .ref a_t_output, .ref a_t_writer, .ref a_t_reader, .ref a_t_page, .ref a_t_spare, .int t_lastCoding, .int t_lastBody])), (a_t_page, .inr (3, [.ref a_t_page_repetitions, .ref a_t_page_definitions, .ref a_t_page_valueNumbers, .ref a_t_page_values, .int t_page_entries, .int t_page_valued])), (a_t_page_values, .inr (6, [.ref a_t_page_values_numbers, .ref a_t_page_values_texts, .ref a_t_page_values_starts, .int t_page_values_ofTexts, .int t_page_values_count])), (a_t_page_values_numbers, .inl (k.2.2, t_page_values_numbers_n, .inr (.inl t_page_values_numbers)))] (some (.long out)) := by
  refine Ct.ofL (by decide) (Nat.le_of_ble_eq_true rfl) ?_
  intro p e s m args below meth c A Q ls hx hb hml hown hts hA hK hP hD hS hE hl ret
  have hown : s.vm.findClass "PageForm" = some m.cls := hown
  have hl : lv_has ls 3 [(0, .ref a_t), (1, .int v1)] := hl
  have ret2 : ∀ (y0 : Int64) (_ : y0 = out) {pc : Nat} {ls : Array Slot} {H : Heap} {locs : List Loc}, decode b_F_value pc = .ok (.lreturn, 1) → va_P D CL [(a_t, .inr (8, [.ref a_t_column, .ref a_t_tape, .ref a_t_input, .ref a_t_output, .ref a_t_writer, .ref a_t_reader, .ref a_t_page, .ref a_t_spare, .int t_lastCoding, .int t_lastBody])), (a_t_page, .inr (3, [.ref a_t_page_repetitions, .ref a_t_page_definitions, .ref a_t_page_valueNumbers, .ref a_t_page_values, .int t_page_entries, .int t_page_valued])), (a_t_page_values, .inr (6, [.ref a_t_page_values_numbers, .ref a_t_page_values_texts, .ref a_t_page_values_starts, .int t_page_values_ofTexts, .int t_page_values_count])), (a_t_page_values_numbers, .inl (k.2.2, t_page_values_numbers_n, .inr (.inl t_page_values_numbers)))] H → va_D A [(a_t, .inr (8, [.ref a_t_column, .ref a_t_tape, .ref a_t_input, .ref a_t_output, .ref a_t_writer, .ref a_t_reader, .ref a_t_page, .ref a_t_spare, .int t_lastCoding, .int t_lastBody])), (a_t_page, .inr (3, [.ref a_t_page_repetitions, .ref a_t_page_definitions, .ref a_t_page_valueNumbers, .ref a_t_page_values, .int t_page_entries, .int t_page_valued])), (a_t_page_values, .inr (6, [.ref a_t_page_values_numbers, .ref a_t_page_values_texts, .ref a_t_page_values_starts, .int t_page_values_ofTexts, .int t_page_values_count])), (a_t_page_values_numbers, .inl (k.2.2, t_page_values_numbers_n, .inr (.inl t_page_values_numbers)))] → va_S A s.heap H locs → W p l e rm_F_value s m args below meth c H locs 0 0 Q (F0 m pc ls [.long y0]) := by
    intro y0 e0; subst e0; exact ret
  clear ret
  have J27 : ∀  (H : Heap) (locs : List Loc) (ls : Array Slot), va_P D CL [(a_t, .inr (8, [.ref a_t_column, .ref a_t_tape, .ref a_t_input, .ref a_t_output, .ref a_t_writer, .ref a_t_reader, .ref a_t_page, .ref a_t_spare, .int t_lastCoding, .int t_lastBody])), (a_t_page, .inr (3, [.ref a_t_page_repetitions, .ref a_t_page_definitions, .ref a_t_page_valueNumbers, .ref a_t_page_values, .int t_page_entries, .int t_page_valued])), (a_t_page_values, .inr (6, [.ref a_t_page_values_numbers, .ref a_t_page_values_texts, .ref a_t_page_values_starts, .int t_page_values_ofTexts, .int t_page_values_count])), (a_t_page_values_numbers, .inl (k.2.2, t_page_values_numbers_n, .inr (.inl t_page_values_numbers)))] H → va_D A [(a_t, .inr (8, [.ref a_t_column, .ref a_t_tape, .ref a_t_input, .ref a_t_output, .ref a_t_writer, .ref a_t_reader, .ref a_t_page, .ref a_t_spare, .int t_lastCoding, .int t_lastBody])), (a_t_page, .inr (3, [.ref a_t_page_repetitions, .ref a_t_page_definitions, .ref a_t_page_valueNumbers, .ref a_t_page_values, .int t_page_entries, .int t_page_valued])), (a_t_page_values, .inr (6, [.ref a_t_page_values_numbers, .ref a_t_page_values_texts, .ref a_t_page_values_starts, .int t_page_values_ofTexts, .int t_page_values_count])), (a_t_page_values_numbers, .inl (k.2.2, t_page_values_numbers_n, .inr (.inl t_page_values_numbers)))] → va_S A s.heap H locs → lv_has ls 3 [] → f_F_value_j27  = some out → W p l e rm_F_value s m args below meth c H locs 0 0 Q (F0 m 27 ls []) := by
    intro  H locs ls hP hD hS hl h
    unfold f_F_value_j27 at h
    refine lv_lconst (v := 0) hx hb d_F_value_27 (by decide) ?_
    refine lv_goto (tgt := 37) hx hb d_F_value_28 (by decide) ?_
    exact ret2 _ (Option.some.inj h) d_F_value_37 hP hD hS
  unfold f_F_value at h
  refine lv_aload_n hx hb d_F_value_0 rfl (lv_at hl 0 rfl) ?_
  refine va_get (D := D) (ci := 8) (v := .ref a_t_page) (C := "PageForm") (T := F_F) (N := 10) hx hb hts in_F hown hK hP 0 rfl rfl 6 (by decide) (hts _ fl_F_52) (fun _ h9 => h9) rfl d_F_value_1 ?_
  refine va_get (D := D) (ci := 3) (v := .ref a_t_page_values) (C := "PageForm$Page") (T := F_P) (N := 6) hx hb hts in_P hown hK hP 1 rfl rfl 3 (by decide) (hts _ fl_F_108) (fun _ h9 => h9) rfl d_F_value_4 ?_
  refine lv_astore_n (lv' := [(2, .ref a_t_page_values), (0, .ref a_t), (1, .int v1)]) hx hb d_F_value_7 rfl hl (by decide) rfl (fun ls hl => ?_)
  refine lv_aload_n hx hb d_F_value_8 rfl (lv_at hl 0 rfl) ?_
  refine va_get (D := D) (ci := 6) (v := .int t_page_values_ofTexts) (C := "PageForm$Values") (T := F_V) (N := 5) hx hb hts in_V hown hK hP 2 rfl rfl 3 (by decide) (hts _ fl_F_189) (fun _ h9 => h9) rfl d_F_value_9 ?_
  refine lv_if_ne (tgt := 27) hx hb d_F_value_12 (by decide) (fun c => ?_) (fun c => ?_)
  · have h := iff_at h c
    exact J27  _ _ ls hP hD hS (lv_sub hl [] rfl) h
  · have h := ift_at h c
    refine lv_iload_n hx hb d_F_value_15 rfl (lv_at hl 2 rfl) ?_
    refine lv_if_lt (tgt := 27) hx hb d_F_value_16 (by decide) (fun c => ?_) (fun c => ?_)
    · have h := ift_at h c
      exact J27  _ _ ls hP hD hS (lv_sub hl [] rfl) h
    · have h := iff_at h c
      refine lv_iload_n hx hb d_F_value_19 rfl (lv_at hl 2 rfl) ?_
      refine lv_aload_n hx hb d_F_value_20 rfl (lv_at hl 0 rfl) ?_
      refine va_get (D := D) (ci := 6) (v := .int t_page_values_count) (C := "PageForm$Values") (T := F_V) (N := 5) hx hb hts in_V hown hK hP 2 rfl rfl 4 (by decide) (hts _ fl_F_176) (fun _ h9 => h9) rfl d_F_value_21 ?_
      refine lv_icmp_lt (tgt := 31) hx hb d_F_value_24 (by decide) (fun c => ?_) (fun c => ?_)
      · have h := ift_at h c
        refine lv_aload_n hx hb d_F_value_31 rfl (lv_at hl 0 rfl) ?_
        refine va_get (D := D) (ci := 6) (v := .ref a_t_page_values_numbers) (C := "PageForm$Values") (T := F_V) (N := 5) hx hb hts in_V hown hK hP 2 rfl rfl 0 (by decide) (hts _ fl_F_193) (fun _ h9 => h9) rfl d_F_value_32 ?_
        refine lv_iload_n hx hb d_F_value_35 rfl (lv_at hl 2 rfl) ?_
        obtain ⟨g2, h⟩ := gd_at h
        refine va_lald hx hb hK hP 3 2 rfl rfl (inB_in g2) d_F_value_36 ?_
        exact ret2 _ (Option.some.inj h) d_F_value_37 hP hD hS
      · have h := iff_at h c
        exact J27  _ _ ls hP hD hS (lv_sub hl [] rfl) h

def rm_F_length : Room := { frames := 1, cells := 0, slots := 0, locals := 21 }
def f_F_length_j27  : Option (Int32) :=
  some (-1 : Int32)
def f_F_length (t_page_values_starts_n : Nat) (t_page_values_ofTexts : Int32) (t_page_values_count : Int32) (t_page_values_starts : Nat → Int32) (v1 : Int32) : Option (Int32) :=
  (if t_page_values_ofTexts = 0 then f_F_length_j27  else (if v1 < 0 then f_F_length_j27  else (if v1 < t_page_values_count then Option.bind (f_V_sizeOf t_page_values_starts_n t_page_values_starts v1) (fun o2 => some o2) else f_F_length_j27 )))
set_option maxHeartbeats 4000000 in
set_option maxRecDepth 100000 in
theorem c_F_length (l : Launch) (D : va_G) (k : ClassId × ClassId × ClassId) (a_t a_t_column a_t_tape a_t_input a_t_output a_t_writer a_t_reader a_t_page a_t_spare a_t_page_repetitions a_t_page_definitions a_t_page_valueNumbers a_t_page_values a_t_page_values_numbers a_t_page_values_texts a_t_page_values_starts : Nat) (t_page_values_starts_n : Nat) (t_lastCoding : Int32) (t_lastBody : Int32) (t_page_entries : Int32) (t_page_valued : Int32) (t_page_values_ofTexts : Int32) (t_page_values_count : Int32) (t_page_values_starts : Nat → Int32) (v1 : Int32) (n : Nat) (out : Int32) (h : f_F_length t_page_values_starts_n t_page_values_ofTexts t_page_values_count t_page_values_starts v1 = some out) : Ct l D k y_F_length b_F_length 3 (some .int) rm_F_length [.ref a_t, .int v1] [(a_t, .inr (8, [.ref a_t_column, .ref a_t_tape, .ref a_t_input, .ref a_t_output, .ref a_t_writer, .ref a_t_reader, .ref a_t_page, .ref a_t_spare, .int t_lastCoding, .int t_lastBody])), (a_t_page, .inr (3, [.ref a_t_page_repetitions, .ref a_t_page_definitions, .ref a_t_page_valueNumbers, .ref a_t_page_values, .int t_page_entries, .int t_page_valued])), (a_t_page_values, .inr (6, [.ref a_t_page_values_numbers, .ref a_t_page_values_texts, .ref a_t_page_values_starts, .int t_page_values_ofTexts, .int t_page_values_count])), (a_t_page_values_starts, .inl (k.2.1, t_page_values_starts_n, .inl t_page_values_starts))] [(a_t, .inr (8, [.ref a_t_column, .ref a_t_tape, .ref a_t_input, .ref a_t_output, .ref a_t_writer, .ref a_t_reader, .ref a_t_page, .ref a_t_spare, .int t_lastCoding, .int t_lastBody])), (a_t_page, .inr (3, [.ref a_t_page_repetitions, .ref a_t_page_definitions, .ref a_t_page_valueNumbers, .ref a_t_page_values, .int t_page_entries, .int t_page_valued])), (a_t_page_values, .inr (6, [.ref a_t_page_values_numbers, .ref a_t_page_values_texts, .ref a_t_page_values_starts, .int t_page_values_ofTexts, .int t_page_values_count])), (a_t_page_values_starts, .inl (k.2.1, t_page_values_starts_n, .inl t_page_values_starts))] (some (.int out)) := by
  refine Ct.ofI (by decide) (Nat.le_of_ble_eq_true rfl) ?_
  intro p e s m args below meth c A Q ls hx hb hml hown hts hA hK hP hD hS hE hl ret
  have hown : s.vm.findClass "PageForm" = some m.cls := hown
  have hl : lv_has ls 3 [(0, .ref a_t), (1, .int v1)] := hl
  have ret2 : ∀ (y0 : Int32) (_ : y0 = out) {pc : Nat} {ls : Array Slot} {H : Heap} {locs : List Loc}, decode b_F_length pc = .ok (.ireturn, 1) → va_P D CL [(a_t, .inr (8, [.ref a_t_column, .ref a_t_tape, .ref a_t_input, .ref a_t_output, .ref a_t_writer, .ref a_t_reader, .ref a_t_page, .ref a_t_spare, .int t_lastCoding, .int t_lastBody])), (a_t_page, .inr (3, [.ref a_t_page_repetitions, .ref a_t_page_definitions, .ref a_t_page_valueNumbers, .ref a_t_page_values, .int t_page_entries, .int t_page_valued])), (a_t_page_values, .inr (6, [.ref a_t_page_values_numbers, .ref a_t_page_values_texts, .ref a_t_page_values_starts, .int t_page_values_ofTexts, .int t_page_values_count])), (a_t_page_values_starts, .inl (k.2.1, t_page_values_starts_n, .inl t_page_values_starts))] H → va_D A [(a_t, .inr (8, [.ref a_t_column, .ref a_t_tape, .ref a_t_input, .ref a_t_output, .ref a_t_writer, .ref a_t_reader, .ref a_t_page, .ref a_t_spare, .int t_lastCoding, .int t_lastBody])), (a_t_page, .inr (3, [.ref a_t_page_repetitions, .ref a_t_page_definitions, .ref a_t_page_valueNumbers, .ref a_t_page_values, .int t_page_entries, .int t_page_valued])), (a_t_page_values, .inr (6, [.ref a_t_page_values_numbers, .ref a_t_page_values_texts, .ref a_t_page_values_starts, .int t_page_values_ofTexts, .int t_page_values_count])), (a_t_page_values_starts, .inl (k.2.1, t_page_values_starts_n, .inl t_page_values_starts))] → va_S A s.heap H locs → W p l e rm_F_length s m args below meth c H locs 0 0 Q (F0 m pc ls [.int y0]) := by
    intro y0 e0; subst e0; exact ret
  clear ret
  have J27 : ∀  (H : Heap) (locs : List Loc) (ls : Array Slot), va_P D CL [(a_t, .inr (8, [.ref a_t_column, .ref a_t_tape, .ref a_t_input, .ref a_t_output, .ref a_t_writer, .ref a_t_reader, .ref a_t_page, .ref a_t_spare, .int t_lastCoding, .int t_lastBody])), (a_t_page, .inr (3, [.ref a_t_page_repetitions, .ref a_t_page_definitions, .ref a_t_page_valueNumbers, .ref a_t_page_values, .int t_page_entries, .int t_page_valued])), (a_t_page_values, .inr (6, [.ref a_t_page_values_numbers, .ref a_t_page_values_texts, .ref a_t_page_values_starts, .int t_page_values_ofTexts, .int t_page_values_count])), (a_t_page_values_starts, .inl (k.2.1, t_page_values_starts_n, .inl t_page_values_starts))] H → va_D A [(a_t, .inr (8, [.ref a_t_column, .ref a_t_tape, .ref a_t_input, .ref a_t_output, .ref a_t_writer, .ref a_t_reader, .ref a_t_page, .ref a_t_spare, .int t_lastCoding, .int t_lastBody])), (a_t_page, .inr (3, [.ref a_t_page_repetitions, .ref a_t_page_definitions, .ref a_t_page_valueNumbers, .ref a_t_page_values, .int t_page_entries, .int t_page_valued])), (a_t_page_values, .inr (6, [.ref a_t_page_values_numbers, .ref a_t_page_values_texts, .ref a_t_page_values_starts, .int t_page_values_ofTexts, .int t_page_values_count])), (a_t_page_values_starts, .inl (k.2.1, t_page_values_starts_n, .inl t_page_values_starts))] → va_S A s.heap H locs → lv_has ls 3 [] → f_F_length_j27  = some out → W p l e rm_F_length s m args below meth c H locs 0 0 Q (F0 m 27 ls []) := by
    intro  H locs ls hP hD hS hl h
    unfold f_F_length_j27 at h
    refine lv_iconst (v := (-1)) hx hb d_F_length_27 (by decide) ?_
    refine lv_goto (tgt := 36) hx hb d_F_length_28 (by decide) ?_
    exact ret2 _ (Option.some.inj h) d_F_length_36 hP hD hS
  unfold f_F_length at h
  refine lv_aload_n hx hb d_F_length_0 rfl (lv_at hl 0 rfl) ?_
  refine va_get (D := D) (ci := 8) (v := .ref a_t_page) (C := "PageForm") (T := F_F) (N := 10) hx hb hts in_F hown hK hP 0 rfl rfl 6 (by decide) (hts _ fl_F_52) (fun _ h9 => h9) rfl d_F_length_1 ?_
  refine va_get (D := D) (ci := 3) (v := .ref a_t_page_values) (C := "PageForm$Page") (T := F_P) (N := 6) hx hb hts in_P hown hK hP 1 rfl rfl 3 (by decide) (hts _ fl_F_108) (fun _ h9 => h9) rfl d_F_length_4 ?_
  refine lv_astore_n (lv' := [(2, .ref a_t_page_values), (0, .ref a_t), (1, .int v1)]) hx hb d_F_length_7 rfl hl (by decide) rfl (fun ls hl => ?_)
  refine lv_aload_n hx hb d_F_length_8 rfl (lv_at hl 0 rfl) ?_
  refine va_get (D := D) (ci := 6) (v := .int t_page_values_ofTexts) (C := "PageForm$Values") (T := F_V) (N := 5) hx hb hts in_V hown hK hP 2 rfl rfl 3 (by decide) (hts _ fl_F_189) (fun _ h9 => h9) rfl d_F_length_9 ?_
  refine lv_if_eq (tgt := 27) hx hb d_F_length_12 (by decide) (fun c => ?_) (fun c => ?_)
  · have h := ift_at h c
    exact J27  _ _ ls hP hD hS (lv_sub hl [] rfl) h
  · have h := iff_at h c
    refine lv_iload_n hx hb d_F_length_15 rfl (lv_at hl 2 rfl) ?_
    refine lv_if_lt (tgt := 27) hx hb d_F_length_16 (by decide) (fun c => ?_) (fun c => ?_)
    · have h := ift_at h c
      exact J27  _ _ ls hP hD hS (lv_sub hl [] rfl) h
    · have h := iff_at h c
      refine lv_iload_n hx hb d_F_length_19 rfl (lv_at hl 2 rfl) ?_
      refine lv_aload_n hx hb d_F_length_20 rfl (lv_at hl 0 rfl) ?_
      refine va_get (D := D) (ci := 6) (v := .int t_page_values_count) (C := "PageForm$Values") (T := F_V) (N := 5) hx hb hts in_V hown hK hP 2 rfl rfl 4 (by decide) (hts _ fl_F_176) (fun _ h9 => h9) rfl d_F_length_21 ?_
      refine lv_icmp_lt (tgt := 31) hx hb d_F_length_24 (by decide) (fun c => ?_) (fun c => ?_)
      · have h := ift_at h c
        refine lv_aload_n hx hb d_F_length_31 rfl (lv_at hl 0 rfl) ?_
        refine lv_iload_n hx hb d_F_length_32 rfl (lv_at hl 2 rfl) ?_
        obtain ⟨o2, ho2, h⟩ := obd_at h
        refine g_V (As := [.int v1]) (rest := []) hx hb hml hown hts hA hK hP hD hS hE (c_V_sizeOf l D k a_t_page_values a_t_page_values_numbers a_t_page_values_texts a_t_page_values_starts t_page_values_starts_n t_page_values_ofTexts t_page_values_count t_page_values_starts v1 n o2 ho2) mw_V_sizeOf mi_V_sizeOf ml_F_197 [2, 3] rfl (by decide) rfl rfl rfl 0 rfl rfl rfl rfl rfl hl.1 rfl (Nat.le_of_ble_eq_true rfl) ⟨Nat.zero_le _, Nat.zero_le _⟩ d_F_length_33 (fun H locs hP hD hS => ?_)
        have hP : va_P D CL [(a_t, .inr (8, [.ref a_t_column, .ref a_t_tape, .ref a_t_input, .ref a_t_output, .ref a_t_writer, .ref a_t_reader, .ref a_t_page, .ref a_t_spare, .int t_lastCoding, .int t_lastBody])), (a_t_page, .inr (3, [.ref a_t_page_repetitions, .ref a_t_page_definitions, .ref a_t_page_valueNumbers, .ref a_t_page_values, .int t_page_entries, .int t_page_valued])), (a_t_page_values, .inr (6, [.ref a_t_page_values_numbers, .ref a_t_page_values_texts, .ref a_t_page_values_starts, .int t_page_values_ofTexts, .int t_page_values_count])), (a_t_page_values_starts, .inl (k.2.1, t_page_values_starts_n, .inl t_page_values_starts))] H := hP
        have hD : va_D A [(a_t, .inr (8, [.ref a_t_column, .ref a_t_tape, .ref a_t_input, .ref a_t_output, .ref a_t_writer, .ref a_t_reader, .ref a_t_page, .ref a_t_spare, .int t_lastCoding, .int t_lastBody])), (a_t_page, .inr (3, [.ref a_t_page_repetitions, .ref a_t_page_definitions, .ref a_t_page_valueNumbers, .ref a_t_page_values, .int t_page_entries, .int t_page_valued])), (a_t_page_values, .inr (6, [.ref a_t_page_values_numbers, .ref a_t_page_values_texts, .ref a_t_page_values_starts, .int t_page_values_ofTexts, .int t_page_values_count])), (a_t_page_values_starts, .inl (k.2.1, t_page_values_starts_n, .inl t_page_values_starts))] := hD
        refine W.eq (g2 := F0 m 36 ls [.int o2]) rfl ?_
        exact ret2 _ (Option.some.inj h) d_F_length_36 hP hD hS
      · have h := iff_at h c
        exact J27  _ _ ls hP hD hS (lv_sub hl [] rfl) h

def rm_F_byteOf : Room := { frames := 1, cells := 0, slots := 0, locals := 22 }
def f_F_byteOf (t_page_values_starts_n : Nat) (t_page_values_texts_n : Nat) (t_page_values_ofTexts : Int32) (t_page_values_count : Int32) (t_page_values_starts : Nat → Int32) (t_page_values_texts : Nat → Int32) (v1 : Int32) (v2 : Int32) : Option (Int32) :=
  (if t_page_values_ofTexts = 0 then some (-1 : Int32) else (if v1 < 0 then some (-1 : Int32) else (if t_page_values_count ≤ v1 then some (-1 : Int32) else (if v2 < 0 then some (-1 : Int32) else Option.bind (f_V_sizeOf t_page_values_starts_n t_page_values_starts v1) (fun o3 => (if v2 < o3 then Option.bind (f_V_octetOf t_page_values_starts_n t_page_values_texts_n t_page_values_starts t_page_values_texts v1 v2) (fun o4 => some o4) else some (-1 : Int32)))))))
set_option maxHeartbeats 4000000 in
set_option maxRecDepth 100000 in
theorem c_F_byteOf (l : Launch) (D : va_G) (k : ClassId × ClassId × ClassId) (a_t a_t_column a_t_tape a_t_input a_t_output a_t_writer a_t_reader a_t_page a_t_spare a_t_page_repetitions a_t_page_definitions a_t_page_valueNumbers a_t_page_values a_t_page_values_numbers a_t_page_values_texts a_t_page_values_starts : Nat) (t_page_values_starts_n t_page_values_texts_n : Nat) (t_lastCoding : Int32) (t_lastBody : Int32) (t_page_entries : Int32) (t_page_valued : Int32) (t_page_values_ofTexts : Int32) (t_page_values_count : Int32) (t_page_values_starts : Nat → Int32) (t_page_values_texts : Nat → Int32) (v1 : Int32) (v2 : Int32) (n : Nat) (out : Int32) (h : f_F_byteOf t_page_values_starts_n t_page_values_texts_n t_page_values_ofTexts t_page_values_count t_page_values_starts t_page_values_texts v1 v2 = some out) : Ct l D k y_F_byteOf b_F_byteOf 4 (some .int) rm_F_byteOf [.ref a_t, .int v1, .int v2] [(a_t, .inr (8, [.ref a_t_column, .ref a_t_tape, .ref a_t_input, .ref a_t_output, .ref a_t_writer, .ref a_t_reader, .ref a_t_page, .ref a_t_spare, .int t_lastCoding, .int t_lastBody])), (a_t_page, .inr (3, [.ref a_t_page_repetitions, .ref a_t_page_definitions, .ref a_t_page_valueNumbers, .ref a_t_page_values, .int t_page_entries, .int t_page_valued])), (a_t_page_values, .inr (6, [.ref a_t_page_values_numbers, .ref a_t_page_values_texts, .ref a_t_page_values_starts, .int t_page_values_ofTexts, .int t_page_values_count])), (a_t_page_values_starts, .inl (k.2.1, t_page_values_starts_n, .inl t_page_values_starts)), (a_t_page_values_texts, .inl (k.1, t_page_values_texts_n, .inl t_page_values_texts))] [(a_t, .inr (8, [.ref a_t_column, .ref a_t_tape, .ref a_t_input, .ref a_t_output, .ref a_t_writer, .ref a_t_reader, .ref a_t_page, .ref a_t_spare, .int t_lastCoding, .int t_lastBody])), (a_t_page, .inr (3, [.ref a_t_page_repetitions, .ref a_t_page_definitions, .ref a_t_page_valueNumbers, .ref a_t_page_values, .int t_page_entries, .int t_page_valued])), (a_t_page_values, .inr (6, [.ref a_t_page_values_numbers, .ref a_t_page_values_texts, .ref a_t_page_values_starts, .int t_page_values_ofTexts, .int t_page_values_count])), (a_t_page_values_starts, .inl (k.2.1, t_page_values_starts_n, .inl t_page_values_starts)), (a_t_page_values_texts, .inl (k.1, t_page_values_texts_n, .inl t_page_values_texts))] (some (.int out)) := by
  refine Ct.ofI (by decide) (Nat.le_of_ble_eq_true rfl) ?_
  intro p e s m args below meth c A Q ls hx hb hml hown hts hA hK hP hD hS hE hl ret
  have hown : s.vm.findClass "PageForm" = some m.cls := hown
  have hl : lv_has ls 4 [(0, .ref a_t), (1, .int v1), (2, .int v2)] := hl
  have ret2 : ∀ (y0 : Int32) (_ : y0 = out) {pc : Nat} {ls : Array Slot} {H : Heap} {locs : List Loc}, decode b_F_byteOf pc = .ok (.ireturn, 1) → va_P D CL [(a_t, .inr (8, [.ref a_t_column, .ref a_t_tape, .ref a_t_input, .ref a_t_output, .ref a_t_writer, .ref a_t_reader, .ref a_t_page, .ref a_t_spare, .int t_lastCoding, .int t_lastBody])), (a_t_page, .inr (3, [.ref a_t_page_repetitions, .ref a_t_page_definitions, .ref a_t_page_valueNumbers, .ref a_t_page_values, .int t_page_entries, .int t_page_valued])), (a_t_page_values, .inr (6, [.ref a_t_page_values_numbers, .ref a_t_page_values_texts, .ref a_t_page_values_starts, .int t_page_values_ofTexts, .int t_page_values_count])), (a_t_page_values_starts, .inl (k.2.1, t_page_values_starts_n, .inl t_page_values_starts)), (a_t_page_values_texts, .inl (k.1, t_page_values_texts_n, .inl t_page_values_texts))] H → va_D A [(a_t, .inr (8, [.ref a_t_column, .ref a_t_tape, .ref a_t_input, .ref a_t_output, .ref a_t_writer, .ref a_t_reader, .ref a_t_page, .ref a_t_spare, .int t_lastCoding, .int t_lastBody])), (a_t_page, .inr (3, [.ref a_t_page_repetitions, .ref a_t_page_definitions, .ref a_t_page_valueNumbers, .ref a_t_page_values, .int t_page_entries, .int t_page_valued])), (a_t_page_values, .inr (6, [.ref a_t_page_values_numbers, .ref a_t_page_values_texts, .ref a_t_page_values_starts, .int t_page_values_ofTexts, .int t_page_values_count])), (a_t_page_values_starts, .inl (k.2.1, t_page_values_starts_n, .inl t_page_values_starts)), (a_t_page_values_texts, .inl (k.1, t_page_values_texts_n, .inl t_page_values_texts))] → va_S A s.heap H locs → W p l e rm_F_byteOf s m args below meth c H locs 0 0 Q (F0 m pc ls [.int y0]) := by
    intro y0 e0; subst e0; exact ret
  clear ret
  unfold f_F_byteOf at h
  refine lv_aload_n hx hb d_F_byteOf_0 rfl (lv_at hl 0 rfl) ?_
  refine va_get (D := D) (ci := 8) (v := .ref a_t_page) (C := "PageForm") (T := F_F) (N := 10) hx hb hts in_F hown hK hP 0 rfl rfl 6 (by decide) (hts _ fl_F_52) (fun _ h9 => h9) rfl d_F_byteOf_1 ?_
  refine va_get (D := D) (ci := 3) (v := .ref a_t_page_values) (C := "PageForm$Page") (T := F_P) (N := 6) hx hb hts in_P hown hK hP 1 rfl rfl 3 (by decide) (hts _ fl_F_108) (fun _ h9 => h9) rfl d_F_byteOf_4 ?_
  refine lv_astore_n (lv' := [(3, .ref a_t_page_values), (0, .ref a_t), (1, .int v1), (2, .int v2)]) hx hb d_F_byteOf_7 rfl hl (by decide) rfl (fun ls hl => ?_)
  refine lv_aload_n hx hb d_F_byteOf_8 rfl (lv_at hl 0 rfl) ?_
  refine va_get (D := D) (ci := 6) (v := .int t_page_values_ofTexts) (C := "PageForm$Values") (T := F_V) (N := 5) hx hb hts in_V hown hK hP 2 rfl rfl 3 (by decide) (hts _ fl_F_189) (fun _ h9 => h9) rfl d_F_byteOf_9 ?_
  refine lv_if_eq (tgt := 40) hx hb d_F_byteOf_12 (by decide) (fun c => ?_) (fun c => ?_)
  · have h := ift_at h c
    refine lv_iconst (v := (-1)) hx hb d_F_byteOf_40 (by decide) ?_
    exact ret2 _ (Option.some.inj h) d_F_byteOf_41 hP hD hS
  · have h := iff_at h c
    refine lv_iload_n hx hb d_F_byteOf_15 rfl (lv_at hl 2 rfl) ?_
    refine lv_if_lt (tgt := 40) hx hb d_F_byteOf_16 (by decide) (fun c => ?_) (fun c => ?_)
    · have h := ift_at h c
      refine lv_iconst (v := (-1)) hx hb d_F_byteOf_40 (by decide) ?_
      exact ret2 _ (Option.some.inj h) d_F_byteOf_41 hP hD hS
    · have h := iff_at h c
      refine lv_iload_n hx hb d_F_byteOf_19 rfl (lv_at hl 2 rfl) ?_
      refine lv_aload_n hx hb d_F_byteOf_20 rfl (lv_at hl 0 rfl) ?_
      refine va_get (D := D) (ci := 6) (v := .int t_page_values_count) (C := "PageForm$Values") (T := F_V) (N := 5) hx hb hts in_V hown hK hP 2 rfl rfl 4 (by decide) (hts _ fl_F_176) (fun _ h9 => h9) rfl d_F_byteOf_21 ?_
      refine lv_icmp_ge (tgt := 40) hx hb d_F_byteOf_24 (by decide) (fun c => ?_) (fun c => ?_)
      · have h := ift_at h c
        refine lv_iconst (v := (-1)) hx hb d_F_byteOf_40 (by decide) ?_
        exact ret2 _ (Option.some.inj h) d_F_byteOf_41 hP hD hS
      · have h := iff_at h c
        refine lv_iload_n hx hb d_F_byteOf_27 rfl (lv_at hl 3 rfl) ?_
        refine lv_if_lt (tgt := 40) hx hb d_F_byteOf_28 (by decide) (fun c => ?_) (fun c => ?_)
        · have h := ift_at h c
          refine lv_iconst (v := (-1)) hx hb d_F_byteOf_40 (by decide) ?_
          exact ret2 _ (Option.some.inj h) d_F_byteOf_41 hP hD hS
        · have h := iff_at h c
          refine lv_iload_n hx hb d_F_byteOf_31 rfl (lv_at hl 3 rfl) ?_
          refine lv_aload_n hx hb d_F_byteOf_32 rfl (lv_at hl 0 rfl) ?_
          refine lv_iload_n hx hb d_F_byteOf_33 rfl (lv_at hl 2 rfl) ?_
          obtain ⟨o3, ho3, h⟩ := obd_at h
          refine g_V (As := [.int v1]) (rest := [.int v2]) hx hb hml hown hts hA hK hP hD hS hE (c_V_sizeOf l D k a_t_page_values a_t_page_values_numbers a_t_page_values_texts a_t_page_values_starts t_page_values_starts_n t_page_values_ofTexts t_page_values_count t_page_values_starts v1 n o3 ho3) mw_V_sizeOf mi_V_sizeOf ml_F_197 [2, 3] rfl (by decide) rfl rfl rfl 0 rfl rfl rfl rfl rfl hl.1 rfl (Nat.le_of_ble_eq_true rfl) ⟨Nat.zero_le _, Nat.zero_le _⟩ d_F_byteOf_34 (fun H locs hP hD hS => ?_)
          have hP : va_P D CL [(a_t, .inr (8, [.ref a_t_column, .ref a_t_tape, .ref a_t_input, .ref a_t_output, .ref a_t_writer, .ref a_t_reader, .ref a_t_page, .ref a_t_spare, .int t_lastCoding, .int t_lastBody])), (a_t_page, .inr (3, [.ref a_t_page_repetitions, .ref a_t_page_definitions, .ref a_t_page_valueNumbers, .ref a_t_page_values, .int t_page_entries, .int t_page_valued])), (a_t_page_values, .inr (6, [.ref a_t_page_values_numbers, .ref a_t_page_values_texts, .ref a_t_page_values_starts, .int t_page_values_ofTexts, .int t_page_values_count])), (a_t_page_values_starts, .inl (k.2.1, t_page_values_starts_n, .inl t_page_values_starts)), (a_t_page_values_texts, .inl (k.1, t_page_values_texts_n, .inl t_page_values_texts))] H := hP
          have hD : va_D A [(a_t, .inr (8, [.ref a_t_column, .ref a_t_tape, .ref a_t_input, .ref a_t_output, .ref a_t_writer, .ref a_t_reader, .ref a_t_page, .ref a_t_spare, .int t_lastCoding, .int t_lastBody])), (a_t_page, .inr (3, [.ref a_t_page_repetitions, .ref a_t_page_definitions, .ref a_t_page_valueNumbers, .ref a_t_page_values, .int t_page_entries, .int t_page_valued])), (a_t_page_values, .inr (6, [.ref a_t_page_values_numbers, .ref a_t_page_values_texts, .ref a_t_page_values_starts, .int t_page_values_ofTexts, .int t_page_values_count])), (a_t_page_values_starts, .inl (k.2.1, t_page_values_starts_n, .inl t_page_values_starts)), (a_t_page_values_texts, .inl (k.1, t_page_values_texts_n, .inl t_page_values_texts))] := hD
          refine W.eq (g2 := F0 m 37 ls [.int o3, .int v2]) rfl ?_
          refine lv_icmp_lt (tgt := 42) hx hb d_F_byteOf_37 (by decide) (fun c => ?_) (fun c => ?_)
          · have h := ift_at h c
            refine lv_aload_n hx hb d_F_byteOf_42 rfl (lv_at hl 0 rfl) ?_
            refine lv_iload_n hx hb d_F_byteOf_43 rfl (lv_at hl 2 rfl) ?_
            refine lv_iload_n hx hb d_F_byteOf_44 rfl (lv_at hl 3 rfl) ?_
            obtain ⟨o4, ho4, h⟩ := obd_at h
            refine g_V (As := [.int v1, .int v2]) (rest := []) hx hb hml hown hts hA hK hP hD hS hE (c_V_octetOf l D k a_t_page_values a_t_page_values_numbers a_t_page_values_texts a_t_page_values_starts t_page_values_starts_n t_page_values_texts_n t_page_values_ofTexts t_page_values_count t_page_values_starts t_page_values_texts v1 v2 n o4 ho4) mw_V_octetOf mi_V_octetOf ml_F_200 [2, 3, 4] rfl (by decide) rfl rfl rfl 0 rfl rfl rfl rfl rfl hl.1 rfl (Nat.le_of_ble_eq_true rfl) ⟨Nat.zero_le _, Nat.zero_le _⟩ d_F_byteOf_45 (fun H locs hP hD hS => ?_)
            have hP : va_P D CL [(a_t, .inr (8, [.ref a_t_column, .ref a_t_tape, .ref a_t_input, .ref a_t_output, .ref a_t_writer, .ref a_t_reader, .ref a_t_page, .ref a_t_spare, .int t_lastCoding, .int t_lastBody])), (a_t_page, .inr (3, [.ref a_t_page_repetitions, .ref a_t_page_definitions, .ref a_t_page_valueNumbers, .ref a_t_page_values, .int t_page_entries, .int t_page_valued])), (a_t_page_values, .inr (6, [.ref a_t_page_values_numbers, .ref a_t_page_values_texts, .ref a_t_page_values_starts, .int t_page_values_ofTexts, .int t_page_values_count])), (a_t_page_values_starts, .inl (k.2.1, t_page_values_starts_n, .inl t_page_values_starts)), (a_t_page_values_texts, .inl (k.1, t_page_values_texts_n, .inl t_page_values_texts))] H := hP
            have hD : va_D A [(a_t, .inr (8, [.ref a_t_column, .ref a_t_tape, .ref a_t_input, .ref a_t_output, .ref a_t_writer, .ref a_t_reader, .ref a_t_page, .ref a_t_spare, .int t_lastCoding, .int t_lastBody])), (a_t_page, .inr (3, [.ref a_t_page_repetitions, .ref a_t_page_definitions, .ref a_t_page_valueNumbers, .ref a_t_page_values, .int t_page_entries, .int t_page_valued])), (a_t_page_values, .inr (6, [.ref a_t_page_values_numbers, .ref a_t_page_values_texts, .ref a_t_page_values_starts, .int t_page_values_ofTexts, .int t_page_values_count])), (a_t_page_values_starts, .inl (k.2.1, t_page_values_starts_n, .inl t_page_values_starts)), (a_t_page_values_texts, .inl (k.1, t_page_values_texts_n, .inl t_page_values_texts))] := hD
            refine W.eq (g2 := F0 m 48 ls [.int o4]) rfl ?_
            exact ret2 _ (Option.some.inj h) d_F_byteOf_48 hP hD hS
          · have h := iff_at h c
            refine lv_iconst (v := (-1)) hx hb d_F_byteOf_40 (by decide) ?_
            exact ret2 _ (Option.some.inj h) d_F_byteOf_41 hP hD hS

def rm_F_most : Room := { frames := 4, cells := 0, slots := 0, locals := 113 }
def f_F_most (n : Nat) (t_page_values_numbers_n : Nat) (t_page_values_starts_n : Nat) (t_page_values_texts_n : Nat) (t_page_values_ofTexts : Int32) (t_page_values_count : Int32) (t_page_values_numbers : Nat → Int64) (t_page_values_starts : Nat → Int32) (t_page_values_texts : Nat → Int32) (v1 : Int32) : Option (Int32) :=
  Option.bind (f_V_firstMost n t_page_values_numbers_n t_page_values_starts_n t_page_values_texts_n t_page_values_ofTexts t_page_values_count t_page_values_numbers t_page_values_starts t_page_values_texts v1) (fun o2 => some o2)
set_option maxHeartbeats 4000000 in
set_option maxRecDepth 100000 in
theorem c_F_most (l : Launch) (D : va_G) (k : ClassId × ClassId × ClassId) (a_t a_t_column a_t_tape a_t_input a_t_output a_t_writer a_t_reader a_t_page a_t_spare a_t_page_repetitions a_t_page_definitions a_t_page_valueNumbers a_t_page_values a_t_page_values_numbers a_t_page_values_texts a_t_page_values_starts : Nat) (t_page_values_numbers_n t_page_values_starts_n t_page_values_texts_n : Nat) (t_lastCoding : Int32) (t_lastBody : Int32) (t_page_entries : Int32) (t_page_valued : Int32) (t_page_values_ofTexts : Int32) (t_page_values_count : Int32) (t_page_values_numbers : Nat → Int64) (t_page_values_starts : Nat → Int32) (t_page_values_texts : Nat → Int32) (v1 : Int32) (n : Nat) (out : Int32) (h : f_F_most n t_page_values_numbers_n t_page_values_starts_n t_page_values_texts_n t_page_values_ofTexts t_page_values_count t_page_values_numbers t_page_values_starts t_page_values_texts v1 = some out) : Ct l D k y_F_most b_F_most 2 (some .int) rm_F_most [.ref a_t, .int v1] [(a_t, .inr (8, [.ref a_t_column, .ref a_t_tape, .ref a_t_input, .ref a_t_output, .ref a_t_writer, .ref a_t_reader, .ref a_t_page, .ref a_t_spare, .int t_lastCoding, .int t_lastBody])), (a_t_page, .inr (3, [.ref a_t_page_repetitions, .ref a_t_page_definitions, .ref a_t_page_valueNumbers, .ref a_t_page_values, .int t_page_entries, .int t_page_valued])), (a_t_page_values, .inr (6, [.ref a_t_page_values_numbers, .ref a_t_page_values_texts, .ref a_t_page_values_starts, .int t_page_values_ofTexts, .int t_page_values_count])), (a_t_page_values_numbers, .inl (k.2.2, t_page_values_numbers_n, .inr (.inl t_page_values_numbers))), (a_t_page_values_starts, .inl (k.2.1, t_page_values_starts_n, .inl t_page_values_starts)), (a_t_page_values_texts, .inl (k.1, t_page_values_texts_n, .inl t_page_values_texts))] [(a_t, .inr (8, [.ref a_t_column, .ref a_t_tape, .ref a_t_input, .ref a_t_output, .ref a_t_writer, .ref a_t_reader, .ref a_t_page, .ref a_t_spare, .int t_lastCoding, .int t_lastBody])), (a_t_page, .inr (3, [.ref a_t_page_repetitions, .ref a_t_page_definitions, .ref a_t_page_valueNumbers, .ref a_t_page_values, .int t_page_entries, .int t_page_valued])), (a_t_page_values, .inr (6, [.ref a_t_page_values_numbers, .ref a_t_page_values_texts, .ref a_t_page_values_starts, .int t_page_values_ofTexts, .int t_page_values_count])), (a_t_page_values_numbers, .inl (k.2.2, t_page_values_numbers_n, .inr (.inl t_page_values_numbers))), (a_t_page_values_starts, .inl (k.2.1, t_page_values_starts_n, .inl t_page_values_starts)), (a_t_page_values_texts, .inl (k.1, t_page_values_texts_n, .inl t_page_values_texts))] (some (.int out)) := by
  refine Ct.ofI (by decide) (Nat.le_of_ble_eq_true rfl) ?_
  intro p e s m args below meth c A Q ls hx hb hml hown hts hA hK hP hD hS hE hl ret
  have hown : s.vm.findClass "PageForm" = some m.cls := hown
  have hl : lv_has ls 2 [(0, .ref a_t), (1, .int v1)] := hl
  have ret2 : ∀ (y0 : Int32) (_ : y0 = out) {pc : Nat} {ls : Array Slot} {H : Heap} {locs : List Loc}, decode b_F_most pc = .ok (.ireturn, 1) → va_P D CL [(a_t, .inr (8, [.ref a_t_column, .ref a_t_tape, .ref a_t_input, .ref a_t_output, .ref a_t_writer, .ref a_t_reader, .ref a_t_page, .ref a_t_spare, .int t_lastCoding, .int t_lastBody])), (a_t_page, .inr (3, [.ref a_t_page_repetitions, .ref a_t_page_definitions, .ref a_t_page_valueNumbers, .ref a_t_page_values, .int t_page_entries, .int t_page_valued])), (a_t_page_values, .inr (6, [.ref a_t_page_values_numbers, .ref a_t_page_values_texts, .ref a_t_page_values_starts, .int t_page_values_ofTexts, .int t_page_values_count])), (a_t_page_values_numbers, .inl (k.2.2, t_page_values_numbers_n, .inr (.inl t_page_values_numbers))), (a_t_page_values_starts, .inl (k.2.1, t_page_values_starts_n, .inl t_page_values_starts)), (a_t_page_values_texts, .inl (k.1, t_page_values_texts_n, .inl t_page_values_texts))] H → va_D A [(a_t, .inr (8, [.ref a_t_column, .ref a_t_tape, .ref a_t_input, .ref a_t_output, .ref a_t_writer, .ref a_t_reader, .ref a_t_page, .ref a_t_spare, .int t_lastCoding, .int t_lastBody])), (a_t_page, .inr (3, [.ref a_t_page_repetitions, .ref a_t_page_definitions, .ref a_t_page_valueNumbers, .ref a_t_page_values, .int t_page_entries, .int t_page_valued])), (a_t_page_values, .inr (6, [.ref a_t_page_values_numbers, .ref a_t_page_values_texts, .ref a_t_page_values_starts, .int t_page_values_ofTexts, .int t_page_values_count])), (a_t_page_values_numbers, .inl (k.2.2, t_page_values_numbers_n, .inr (.inl t_page_values_numbers))), (a_t_page_values_starts, .inl (k.2.1, t_page_values_starts_n, .inl t_page_values_starts)), (a_t_page_values_texts, .inl (k.1, t_page_values_texts_n, .inl t_page_values_texts))] → va_S A s.heap H locs → W p l e rm_F_most s m args below meth c H locs 0 0 Q (F0 m pc ls [.int y0]) := by
    intro y0 e0; subst e0; exact ret
  clear ret
  unfold f_F_most at h
  refine lv_aload_n hx hb d_F_most_0 rfl (lv_at hl 0 rfl) ?_
  refine va_get (D := D) (ci := 8) (v := .ref a_t_page) (C := "PageForm") (T := F_F) (N := 10) hx hb hts in_F hown hK hP 0 rfl rfl 6 (by decide) (hts _ fl_F_52) (fun _ h9 => h9) rfl d_F_most_1 ?_
  refine va_get (D := D) (ci := 3) (v := .ref a_t_page_values) (C := "PageForm$Page") (T := F_P) (N := 6) hx hb hts in_P hown hK hP 1 rfl rfl 3 (by decide) (hts _ fl_F_108) (fun _ h9 => h9) rfl d_F_most_4 ?_
  refine lv_iload_n hx hb d_F_most_7 rfl (lv_at hl 1 rfl) ?_
  obtain ⟨o2, ho2, h⟩ := obd_at h
  refine g_V (As := [.int v1]) (rest := []) hx hb hml hown hts hA hK hP hD hS hE (c_V_firstMost l D k a_t_page_values a_t_page_values_numbers a_t_page_values_texts a_t_page_values_starts t_page_values_numbers_n t_page_values_starts_n t_page_values_texts_n t_page_values_ofTexts t_page_values_count t_page_values_numbers t_page_values_starts t_page_values_texts v1 n o2 ho2) mw_V_firstMost mi_V_firstMost ml_F_204 [2, 3, 4, 5] rfl (by decide) rfl rfl rfl 0 rfl rfl rfl rfl rfl hl.1 rfl (Nat.le_of_ble_eq_true rfl) ⟨Nat.zero_le _, Nat.zero_le _⟩ d_F_most_8 (fun H locs hP hD hS => ?_)
  have hP : va_P D CL [(a_t, .inr (8, [.ref a_t_column, .ref a_t_tape, .ref a_t_input, .ref a_t_output, .ref a_t_writer, .ref a_t_reader, .ref a_t_page, .ref a_t_spare, .int t_lastCoding, .int t_lastBody])), (a_t_page, .inr (3, [.ref a_t_page_repetitions, .ref a_t_page_definitions, .ref a_t_page_valueNumbers, .ref a_t_page_values, .int t_page_entries, .int t_page_valued])), (a_t_page_values, .inr (6, [.ref a_t_page_values_numbers, .ref a_t_page_values_texts, .ref a_t_page_values_starts, .int t_page_values_ofTexts, .int t_page_values_count])), (a_t_page_values_numbers, .inl (k.2.2, t_page_values_numbers_n, .inr (.inl t_page_values_numbers))), (a_t_page_values_starts, .inl (k.2.1, t_page_values_starts_n, .inl t_page_values_starts)), (a_t_page_values_texts, .inl (k.1, t_page_values_texts_n, .inl t_page_values_texts))] H := hP
  have hD : va_D A [(a_t, .inr (8, [.ref a_t_column, .ref a_t_tape, .ref a_t_input, .ref a_t_output, .ref a_t_writer, .ref a_t_reader, .ref a_t_page, .ref a_t_spare, .int t_lastCoding, .int t_lastBody])), (a_t_page, .inr (3, [.ref a_t_page_repetitions, .ref a_t_page_definitions, .ref a_t_page_valueNumbers, .ref a_t_page_values, .int t_page_entries, .int t_page_valued])), (a_t_page_values, .inr (6, [.ref a_t_page_values_numbers, .ref a_t_page_values_texts, .ref a_t_page_values_starts, .int t_page_values_ofTexts, .int t_page_values_count])), (a_t_page_values_numbers, .inl (k.2.2, t_page_values_numbers_n, .inr (.inl t_page_values_numbers))), (a_t_page_values_starts, .inl (k.2.1, t_page_values_starts_n, .inl t_page_values_starts)), (a_t_page_values_texts, .inl (k.1, t_page_values_texts_n, .inl t_page_values_texts))] := hD
  refine W.eq (g2 := F0 m 11 ls [.int o2]) rfl ?_
  exact ret2 _ (Option.some.inj h) d_F_most_11 hP hD hS

