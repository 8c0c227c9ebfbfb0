def rm_F_output : Room := { frames := 0, cells := 0, slots := 0, locals := 0 }
def f_F_output_j15  : Option (Int32) :=
  some (-1 : Int32)
def f_F_output (t_output_row_n : Nat) (t_output_size : Int32) (t_output_row : Nat → Int32) (v1 : Int32) : Option (Int32) :=
  (if v1 < 0 then f_F_output_j15  else (if v1 < t_output_size then gd (inB v1 t_output_row_n) (some ((t_output_row v1.toNatClampNeg) &&& (255 : Int32))) else f_F_output_j15 ))
set_option maxHeartbeats 4000000 in
set_option maxRecDepth 100000 in
theorem c_F_output (l : Launch) (D : va_G) (k : ClassId × ClassId × ClassId) (a_t a_t_column a_t_tape a_t_input a_t_output a_t_writer a_t_reader a_t_page a_t_spare a_t_output_row : Nat) (t_output_row_n : Nat) (t_lastCoding : Int32) (t_lastBody : Int32) (t_output_size : Int32) (t_output_row : Nat → Int32) (v1 : Int32) (n : Nat) (out : Int32) (h : f_F_output t_output_row_n t_output_size t_output_row v1 = some out) : Ct l D k y_F_output b_F_output 2 (some .int) rm_F_output [.ref a_t, .int v1] [(a_t, .inr (8, [.ref a_t_column, .ref a_t_tape, .ref a_t_input, .ref a_t_output, .ref a_t_writer, .ref a_t_reader, .ref a_t_page, .ref a_t_spare, .int t_lastCoding, .int t_lastBody])), (a_t_output, .inr (0, [.ref a_t_output_row, .int t_output_size])), (a_t_output_row, .inl (k.1, t_output_row_n, .inl t_output_row))] [(a_t, .inr (8, [.ref a_t_column, .ref a_t_tape, .ref a_t_input, .ref a_t_output, .ref a_t_writer, .ref a_t_reader, .ref a_t_page, .ref a_t_spare, .int t_lastCoding, .int t_lastBody])), (a_t_output, .inr (0, [.ref a_t_output_row, .int t_output_size])), (a_t_output_row, .inl (k.1, t_output_row_n, .inl t_output_row))] (some (.int out)) := by
  refine Ct.ofI (by decide) (Nat.le_of_ble_eq_true rfl) ?_
  intro p e s m args below meth c A Q ls hx hb hml hown hts hA hK hP hD hS hE hl ret
  have hown : s.vm.findClass "PageForm" = some m.cls := hown
  have hl : lv_has ls 2 [(0, .ref a_t), (1, .int v1)] := hl
  have ret2 : ∀ (y0 : Int32) (_ : y0 = out) {pc : Nat} {ls : Array Slot} {H : Heap} {locs : List Loc}, decode b_F_output pc = .ok (.ireturn, 1) → va_P D CL [(a_t, .inr (8, [.ref a_t_column, .ref a_t_tape, .ref a_t_input, .ref a_t_output, .ref a_t_writer, .ref a_t_reader, .ref a_t_page, .ref a_t_spare, .int t_lastCoding, .int t_lastBody])), (a_t_output, .inr (0, [.ref a_t_output_row, .int t_output_size])), (a_t_output_row, .inl (k.1, t_output_row_n, .inl t_output_row))] H → va_D A [(a_t, .inr (8, [.ref a_t_column, .ref a_t_tape, .ref a_t_input, .ref a_t_output, .ref a_t_writer, .ref a_t_reader, .ref a_t_page, .ref a_t_spare, .int t_lastCoding, .int t_lastBody])), (a_t_output, .inr (0, [.ref a_t_output_row, .int t_output_size])), (a_t_output_row, .inl (k.1, t_output_row_n, .inl t_output_row))] → va_S A s.heap H locs → W p l e rm_F_output s m args below meth c H locs 0 0 Q (F0 m pc ls [.int y0]) := by
    intro y0 e0; subst e0; exact ret
  clear ret
  have J15 : ∀  (H : Heap) (locs : List Loc) (ls : Array Slot), va_P D CL [(a_t, .inr (8, [.ref a_t_column, .ref a_t_tape, .ref a_t_input, .ref a_t_output, .ref a_t_writer, .ref a_t_reader, .ref a_t_page, .ref a_t_spare, .int t_lastCoding, .int t_lastBody])), (a_t_output, .inr (0, [.ref a_t_output_row, .int t_output_size])), (a_t_output_row, .inl (k.1, t_output_row_n, .inl t_output_row))] H → va_D A [(a_t, .inr (8, [.ref a_t_column, .ref a_t_tape, .ref a_t_input, .ref a_t_output, .ref a_t_writer, .ref a_t_reader, .ref a_t_page, .ref a_t_spare, .int t_lastCoding, .int t_lastBody])), (a_t_output, .inr (0, [.ref a_t_output_row, .int t_output_size])), (a_t_output_row, .inl (k.1, t_output_row_n, .inl t_output_row))] → va_S A s.heap H locs → lv_has ls 2 [] → f_F_output_j15  = some out → W p l e rm_F_output s m args below meth c H locs 0 0 Q (F0 m 15 ls []) := by
    intro  H locs ls hP hD hS hl h
    unfold f_F_output_j15 at h
    refine lv_iconst (v := (-1)) hx hb d_F_output_15 (by decide) ?_
    refine lv_goto (tgt := 32) hx hb d_F_output_16 (by decide) ?_
    exact ret2 _ (Option.some.inj h) d_F_output_32 hP hD hS
  unfold f_F_output at h
  refine lv_iload_n hx hb d_F_output_0 rfl (lv_at hl 1 rfl) ?_
  refine lv_if_lt (tgt := 15) hx hb d_F_output_1 (by decide) (fun c => ?_) (fun c => ?_)
  · have h := ift_at h c
    exact J15  _ _ ls hP hD hS (lv_sub hl [] rfl) h
  · have h := iff_at h c
    refine lv_iload_n hx hb d_F_output_4 rfl (lv_at hl 1 rfl) ?_
    refine lv_aload_n hx hb d_F_output_5 rfl (lv_at hl 0 rfl) ?_
    refine va_get (D := D) (ci := 8) (v := .ref a_t_output) (C := "PageForm") (T := F_F) (N := 10) hx hb hts in_F hown hK hP 0 rfl rfl 3 (by decide) (hts _ fl_F_28) (fun _ h9 => h9) rfl d_F_output_6 ?_
    refine va_get (D := D) (ci := 0) (v := .int t_output_size) (C := "PageForm$Bytes") (T := F_B) (N := 2) hx hb hts in_B hown hK hP 1 rfl rfl 1 (by decide) (hts _ fl_F_59) (fun _ h9 => h9) rfl d_F_output_9 ?_
    refine lv_icmp_lt (tgt := 19) hx hb d_F_output_12 (by decide) (fun c => ?_) (fun c => ?_)
    · have h := ift_at h c
      refine lv_aload_n hx hb d_F_output_19 rfl (lv_at hl 0 rfl) ?_
      refine va_get (D := D) (ci := 8) (v := .ref a_t_output) (C := "PageForm") (T := F_F) (N := 10) hx hb hts in_F hown hK hP 0 rfl rfl 3 (by decide) (hts _ fl_F_28) (fun _ h9 => h9) rfl d_F_output_20 ?_
      refine va_get (D := D) (ci := 0) (v := .ref a_t_output_row) (C := "PageForm$Bytes") (T := F_B) (N := 2) hx hb hts in_B hown hK hP 1 rfl rfl 0 (by decide) (hts _ fl_F_69) (fun _ h9 => h9) rfl d_F_output_23 ?_
      refine lv_iload_n hx hb d_F_output_26 rfl (lv_at hl 1 rfl) ?_
      obtain ⟨g2, h⟩ := gd_at h
      refine va_bald hx hb hK hP 2 0 rfl rfl (inB_in g2) d_F_output_27 ?_
      refine lv_sipush (v := 255) hx hb d_F_output_28 (by decide) ?_
      refine lv_iand hx hb d_F_output_31 ?_
      exact ret2 _ (Option.some.inj h) d_F_output_32 hP hD hS
    · have h := iff_at h c
      exact J15  _ _ ls hP hD hS (lv_sub hl [] rfl) h

