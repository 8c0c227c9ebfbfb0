def rm_R_takeEntries : Room := { frames := 3, cells := 0, slots := 0, locals := 68 }
def f_R_takeEntries_j44 (t_source_at : Int32) (t_source_fault : Int32) (v1 : Int64) : Option (Int32 × Int32 × Int32) :=
  (if t_source_fault = 0 then some (v1.toInt32, t_source_at, t_source_fault) else some ((0 : Int32), t_source_at, t_source_fault))
def f_R_takeEntries_j36 (t_source_at : Int32) (t_source_fault : Int32) (v1 : Int64) : Option (Int32 × Int32 × Int32) :=
  Option.bind (f_S_fail t_source_fault (4 : Int32)) (fun o4 => f_R_takeEntries_j44 t_source_at o4 v1)
def f_R_takeEntries_j22 (t_source_at : Int32) (t_source_fault : Int32) (v1 : Int64) : Option (Int32 × Int32 × Int32) :=
  (if v1 < (0 : Int64) then f_R_takeEntries_j36 t_source_at t_source_fault v1 else (if v1 ≤ (1000 : Int64) then f_R_takeEntries_j44 t_source_at t_source_fault v1 else f_R_takeEntries_j36 t_source_at t_source_fault v1))
def f_R_takeEntries (n : Nat) (t_source_row_n : Nat) (t_source_at : Int32) (t_source_to : Int32) (t_source_fault : Int32) (t_source_row : Nat → Int32) : Option (Int32 × Int32 × Int32) :=
  Option.bind (f_S_varint n t_source_row_n t_source_at t_source_to t_source_fault t_source_row) (fun o5 => (if o5.1 = (0 : Int64) then Option.bind (f_S_fail o5.2.2 (3 : Int32)) (fun o6 => f_R_takeEntries_j22 o5.2.1 o6 o5.1) else f_R_takeEntries_j22 o5.2.1 o5.2.2 o5.1))
set_option maxHeartbeats 4000000 in
set_option maxRecDepth 100000 in
theorem c_R_takeEntries (l : Launch) (D : va_G) (k : ClassId × ClassId × ClassId) (a_t a_t_column a_t_source a_t_told a_t_dictionary a_t_numbers a_t_commons a_t_source_bytes a_t_source_row a_t_source_widths : Nat) (t_source_row_n : Nat) (t_entries : Int32) (t_count : Int32) (t_bodyTold : Int64) (t_check : Int32) (t_coding : Int32) (t_bodySize : Int32) (t_source_at : Int32) (t_source_to : Int32) (t_source_fault : Int32) (t_source_row : Nat → Int32) (n : Nat) (out : Int32 × Int32 × Int32) (h : f_R_takeEntries n t_source_row_n t_source_at t_source_to t_source_fault t_source_row = some out) : Ct l D k y_R_takeEntries b_R_takeEntries 3 (some .int) rm_R_takeEntries [.ref a_t] [(a_t, .inr (4, [.ref a_t_column, .ref a_t_source, .ref a_t_told, .ref a_t_dictionary, .ref a_t_numbers, .ref a_t_commons, .int t_entries, .int t_count, .long t_bodyTold, .int t_check, .int t_coding, .int t_bodySize])), (a_t_source, .inr (5, [.ref a_t_source_bytes, .ref a_t_source_row, .ref a_t_source_widths, .int t_source_at, .int t_source_to, .int t_source_fault])), (a_t_source_row, .inl (k.1, t_source_row_n, .inl t_source_row))] [(a_t, .inr (4, [.ref a_t_column, .ref a_t_source, .ref a_t_told, .ref a_t_dictionary, .ref a_t_numbers, .ref a_t_commons, .int t_entries, .int t_count, .long t_bodyTold, .int t_check, .int t_coding, .int t_bodySize])), (a_t_source, .inr (5, [.ref a_t_source_bytes, .ref a_t_source_row, .ref a_t_source_widths, .int out.2.1, .int t_source_to, .int out.2.2])), (a_t_source_row, .inl (k.1, t_source_row_n, .inl t_source_row))] (some (.int out.1)) := by
  refine Ct.ofI (by decide) (Nat.le_of_ble_eq_true rfl) ?_
  intro p e s m args below meth c A Q ls hx hb hml hown hts hA hK hP hD hS hE hl ret
  have hown : s.vm.findClass "PageForm$Reader" = some m.cls := hown
  have hl : lv_has ls 3 [(0, .ref a_t)] := hl
  have ret2 : ∀ (y0 : Int32) (y1 : Int32) (y2 : Int32) (_ : (y0, y1, y2) = out) {pc : Nat} {ls : Array Slot} {H : Heap} {locs : List Loc}, decode b_R_takeEntries pc = .ok (.ireturn, 1) → va_P D CL [(a_t, .inr (4, [.ref a_t_column, .ref a_t_source, .ref a_t_told, .ref a_t_dictionary, .ref a_t_numbers, .ref a_t_commons, .int t_entries, .int t_count, .long t_bodyTold, .int t_check, .int t_coding, .int t_bodySize])), (a_t_source, .inr (5, [.ref a_t_source_bytes, .ref a_t_source_row, .ref a_t_source_widths, .int y1, .int t_source_to, .int y2])), (a_t_source_row, .inl (k.1, t_source_row_n, .inl t_source_row))] H → va_D A [(a_t, .inr (4, [.ref a_t_column, .ref a_t_source, .ref a_t_told, .ref a_t_dictionary, .ref a_t_numbers, .ref a_t_commons, .int t_entries, .int t_count, .long t_bodyTold, .int t_check, .int t_coding, .int t_bodySize])), (a_t_source, .inr (5, [.ref a_t_source_bytes, .ref a_t_source_row, .ref a_t_source_widths, .int y1, .int t_source_to, .int y2])), (a_t_source_row, .inl (k.1, t_source_row_n, .inl t_source_row))] → va_S A s.heap H locs → W p l e rm_R_takeEntries s m args below meth c H locs 0 0 Q (F0 m pc ls [.int y0]) := by
    intro y0 y1 y2 e0; subst e0; exact ret
  clear ret
  have J44 : ∀ (t_source_at : Int32) (t_source_fault : Int32) (v1 : Int64) (H : Heap) (locs : List Loc) (ls : Array Slot), va_P D CL [(a_t, .inr (4, [.ref a_t_column, .ref a_t_source, .ref a_t_told, .ref a_t_dictionary, .ref a_t_numbers, .ref a_t_commons, .int t_entries, .int t_count, .long t_bodyTold, .int t_check, .int t_coding, .int t_bodySize])), (a_t_source, .inr (5, [.ref a_t_source_bytes, .ref a_t_source_row, .ref a_t_source_widths, .int t_source_at, .int t_source_to, .int t_source_fault])), (a_t_source_row, .inl (k.1, t_source_row_n, .inl t_source_row))] H → va_D A [(a_t, .inr (4, [.ref a_t_column, .ref a_t_source, .ref a_t_told, .ref a_t_dictionary, .ref a_t_numbers, .ref a_t_commons, .int t_entries, .int t_count, .long t_bodyTold, .int t_check, .int t_coding, .int t_bodySize])), (a_t_source, .inr (5, [.ref a_t_source_bytes, .ref a_t_source_row, .ref a_t_source_widths, .int t_source_at, .int t_source_to, .int t_source_fault])), (a_t_source_row, .inl (k.1, t_source_row_n, .inl t_source_row))] → va_S A s.heap H locs → lv_has ls 3 [(0, .ref a_t), (1, .long v1)] → f_R_takeEntries_j44 t_source_at t_source_fault v1 = some out → W p l e rm_R_takeEntries s m args below meth c H locs 0 0 Q (F0 m 44 ls []) := by
    intro t_source_at t_source_fault v1 H locs ls hP hD hS hl h
    unfold f_R_takeEntries_j44 at h
    refine lv_aload_n hx hb d_R_takeEntries_44 rfl (lv_at hl 0 rfl) ?_
    refine va_get (D := D) (ci := 4) (v := .ref a_t_source) (C := "PageForm$Reader") (T := F_R) (N := 12) hx hb hts in_R hown hK hP 0 rfl rfl 1 (by decide) (hts _ fl_R_39) (fun _ h9 => h9) rfl d_R_takeEntries_45 ?_
    refine va_get (D := D) (ci := 5) (v := .int t_source_fault) (C := "PageForm$Source") (T := F_S) (N := 6) hx hb hts in_S hown hK hP 1 rfl rfl 5 (by decide) (hts _ fl_R_102) (fun _ h9 => h9) rfl d_R_takeEntries_48 ?_
    refine lv_if_ne (tgt := 59) hx hb d_R_takeEntries_51 (by decide) (fun c => ?_) (fun c => ?_)
    · have h := iff_at h c
      refine lv_iconst (v := 0) hx hb d_R_takeEntries_59 (by decide) ?_
      exact ret2 _ _ _ (Option.some.inj h) d_R_takeEntries_60 hP hD hS
    · have h := ift_at h c
      refine lv_lload_n hx hb d_R_takeEntries_54 rfl (lv_at hl 1 rfl) ?_
      refine lv_l2i hx hb d_R_takeEntries_55 rfl ?_
      refine lv_goto (tgt := 60) hx hb d_R_takeEntries_56 (by decide) ?_
      exact ret2 _ _ _ (Option.some.inj h) d_R_takeEntries_60 hP hD hS
  have J36 : ∀ (t_source_at : Int32) (t_source_fault : Int32) (v1 : Int64) (H : Heap) (locs : List Loc) (ls : Array Slot), va_P D CL [(a_t, .inr (4, [.ref a_t_column, .ref a_t_source, .ref a_t_told, .ref a_t_dictionary, .ref a_t_numbers, .ref a_t_commons, .int t_entries, .int t_count, .long t_bodyTold, .int t_check, .int t_coding, .int t_bodySize])), (a_t_source, .inr (5, [.ref a_t_source_bytes, .ref a_t_source_row, .ref a_t_source_widths, .int t_source_at, .int t_source_to, .int t_source_fault])), (a_t_source_row, .inl (k.1, t_source_row_n, .inl t_source_row))] H → va_D A [(a_t, .inr (4, [.ref a_t_column, .ref a_t_source, .ref a_t_told, .ref a_t_dictionary, .ref a_t_numbers, .ref a_t_commons, .int t_entries, .int t_count, .long t_bodyTold, .int t_check, .int t_coding, .int t_bodySize])), (a_t_source, .inr (5, [.ref a_t_source_bytes, .ref a_t_source_row, .ref a_t_source_widths, .int t_source_at, .int t_source_to, .int t_source_fault])), (a_t_source_row, .inl (k.1, t_source_row_n, .inl t_source_row))] → va_S A s.heap H locs → lv_has ls 3 [(0, .ref a_t), (1, .long v1)] → f_R_takeEntries_j36 t_source_at t_source_fault v1 = some out → W p l e rm_R_takeEntries s m args below meth c H locs 0 0 Q (F0 m 36 ls []) := by
    intro t_source_at t_source_fault v1 H locs ls hP hD hS hl h
    unfold f_R_takeEntries_j36 at h
    refine lv_aload_n hx hb d_R_takeEntries_36 rfl (lv_at hl 0 rfl) ?_
    refine va_get (D := D) (ci := 4) (v := .ref a_t_source) (C := "PageForm$Reader") (T := F_R) (N := 12) hx hb hts in_R hown hK hP 0 rfl rfl 1 (by decide) (hts _ fl_R_39) (fun _ h9 => h9) rfl d_R_takeEntries_37 ?_
    refine lv_iconst (v := 4) hx hb d_R_takeEntries_40 (by decide) ?_
    obtain ⟨o4, ho4, h⟩ := obd_at h
    refine g_V (As := [.int (4 : Int32)]) (rest := []) hx hb hml hown hts hA hK hP hD hS hE (c_S_fail l D k a_t_source a_t_source_bytes a_t_source_row a_t_source_widths t_source_at t_source_to t_source_fault (4 : Int32) n o4 ho4) mw_S_fail mi_S_fail ml_R_71 [1] rfl (by decide) rfl rfl rfl 0 rfl rfl rfl rfl rfl hl.1 rfl (Nat.le_of_ble_eq_true rfl) ⟨Nat.zero_le _, Nat.zero_le _⟩ d_R_takeEntries_41 (fun H locs hP hD hS => ?_)
    have hP : va_P D CL [(a_t, .inr (4, [.ref a_t_column, .ref a_t_source, .ref a_t_told, .ref a_t_dictionary, .ref a_t_numbers, .ref a_t_commons, .int t_entries, .int t_count, .long t_bodyTold, .int t_check, .int t_coding, .int t_bodySize])), (a_t_source, .inr (5, [.ref a_t_source_bytes, .ref a_t_source_row, .ref a_t_source_widths, .int t_source_at, .int t_source_to, .int o4])), (a_t_source_row, .inl (k.1, t_source_row_n, .inl t_source_row))] H := hP
    have hD : va_D A [(a_t, .inr (4, [.ref a_t_column, .ref a_t_source, .ref a_t_told, .ref a_t_dictionary, .ref a_t_numbers, .ref a_t_commons, .int t_entries, .int t_count, .long t_bodyTold, .int t_check, .int t_coding, .int t_bodySize])), (a_t_source, .inr (5, [.ref a_t_source_bytes, .ref a_t_source_row, .ref a_t_source_widths, .int t_source_at, .int t_source_to, .int o4])), (a_t_source_row, .inl (k.1, t_source_row_n, .inl t_source_row))] := hD
    refine W.eq (g2 := F0 m 44 ls []) rfl ?_
    exact J44 t_source_at o4 v1 _ _ ls hP hD hS (lv_sub hl [0, 1] rfl) h
  have J22 : ∀ (t_source_at : Int32) (t_source_fault : Int32) (v1 : Int64) (H : Heap) (locs : List Loc) (ls : Array Slot), va_P D CL [(a_t, .inr (4, [.ref a_t_column, .ref a_t_source, .ref a_t_told, .ref a_t_dictionary, .ref a_t_numbers, .ref a_t_commons, .int t_entries, .int t_count, .long t_bodyTold, .int t_check, .int t_coding, .int t_bodySize])), (a_t_source, .inr (5, [.ref a_t_source_bytes, .ref a_t_source_row, .ref a_t_source_widths, .int t_source_at, .int t_source_to, .int t_source_fault])), (a_t_source_row, .inl (k.1, t_source_row_n, .inl t_source_row))] H → va_D A [(a_t, .inr (4, [.ref a_t_column, .ref a_t_source, .ref a_t_told, .ref a_t_dictionary, .ref a_t_numbers, .ref a_t_commons, .int t_entries, .int t_count, .long t_bodyTold, .int t_check, .int t_coding, .int t_bodySize])), (a_t_source, .inr (5, [.ref a_t_source_bytes, .ref a_t_source_row, .ref a_t_source_widths, .int t_source_at, .int t_source_to, .int t_source_fault])), (a_t_source_row, .inl (k.1, t_source_row_n, .inl t_source_row))] → va_S A s.heap H locs → lv_has ls 3 [(0, .ref a_t), (1, .long v1)] → f_R_takeEntries_j22 t_source_at t_source_fault v1 = some out → W p l e rm_R_takeEntries s m args below meth c H locs 0 0 Q (F0 m 22 ls []) := by
    intro t_source_at t_source_fault v1 H locs ls hP hD hS hl h
    unfold f_R_takeEntries_j22 at h
    refine lv_lload_n hx hb d_R_takeEntries_22 rfl (lv_at hl 1 rfl) ?_
    refine lv_lconst (v := 0) hx hb d_R_takeEntries_23 (by decide) ?_
    refine W.lcmp hx hb d_R_takeEntries_24 ?_
    refine lv_if_lt (tgt := 36) hx hb d_R_takeEntries_25 (by decide) (fun c => ?_) (fun c => ?_)
    · have c := zc_lt.mp c
      have h := ift_at h c
      exact J36 t_source_at t_source_fault v1 _ _ ls hP hD hS (lv_sub hl [0, 1] rfl) h
    · have c := mt zc_lt.mpr c
      have h := iff_at h c
      refine lv_lload_n hx hb d_R_takeEntries_28 rfl (lv_at hl 1 rfl) ?_
      refine lv_ldc2 (v := 1000) hx hb hown (hts _ kc_R_100) d_R_takeEntries_29 ?_
      refine W.lcmp hx hb d_R_takeEntries_32 ?_
      refine lv_if_le (tgt := 44) hx hb d_R_takeEntries_33 (by decide) (fun c => ?_) (fun c => ?_)
      · have c := zc_le.mp c
        have h := ift_at h c
        exact J44 t_source_at t_source_fault v1 _ _ ls hP hD hS (lv_sub hl [0, 1] rfl) h
      · have c := mt zc_le.mpr c
        have h := iff_at h c
        exact J36 t_source_at t_source_fault v1 _ _ ls hP hD hS (lv_sub hl [0, 1] rfl) h
  unfold f_R_takeEntries at h
  refine lv_aload_n hx hb d_R_takeEntries_0 rfl (lv_at hl 0 rfl) ?_
  refine va_get (D := D) (ci := 4) (v := .ref a_t_source) (C := "PageForm$Reader") (T := F_R) (N := 12) hx hb hts in_R hown hK hP 0 rfl rfl 1 (by decide) (hts _ fl_R_39) (fun _ h9 => h9) rfl d_R_takeEntries_1 ?_
  obtain ⟨o5, ho5, h⟩ := obd_at h
  refine g_V (As := []) (rest := []) hx hb hml hown hts hA hK hP hD hS hE (c_S_varint l D k a_t_source a_t_source_bytes a_t_source_row a_t_source_widths t_source_row_n t_source_at t_source_to t_source_fault t_source_row n o5 ho5) mw_S_varint mi_S_varint ml_R_85 [1, 2] rfl (by decide) rfl rfl rfl 0 rfl rfl rfl rfl rfl hl.1 rfl (Nat.le_of_ble_eq_true rfl) ⟨Nat.zero_le _, Nat.zero_le _⟩ d_R_takeEntries_4 (fun H locs hP hD hS => ?_)
  have hP : va_P D CL [(a_t, .inr (4, [.ref a_t_column, .ref a_t_source, .ref a_t_told, .ref a_t_dictionary, .ref a_t_numbers, .ref a_t_commons, .int t_entries, .int t_count, .long t_bodyTold, .int t_check, .int t_coding, .int t_bodySize])), (a_t_source, .inr (5, [.ref a_t_source_bytes, .ref a_t_source_row, .ref a_t_source_widths, .int o5.2.1, .int t_source_to, .int o5.2.2])), (a_t_source_row, .inl (k.1, t_source_row_n, .inl t_source_row))] H := hP
  have hD : va_D A [(a_t, .inr (4, [.ref a_t_column, .ref a_t_source, .ref a_t_told, .ref a_t_dictionary, .ref a_t_numbers, .ref a_t_commons, .int t_entries, .int t_count, .long t_bodyTold, .int t_check, .int t_coding, .int t_bodySize])), (a_t_source, .inr (5, [.ref a_t_source_bytes, .ref a_t_source_row, .ref a_t_source_widths, .int o5.2.1, .int t_source_to, .int o5.2.2])), (a_t_source_row, .inl (k.1, t_source_row_n, .inl t_source_row))] := hD
  refine W.eq (g2 := F0 m 7 ls [.long o5.1]) rfl ?_
  refine lv_lstore_n (lv' := [(1, .long o5.1), (0, .ref a_t)]) hx hb d_R_takeEntries_7 rfl hl (by decide) rfl (fun ls hl => ?_)
  refine lv_lload_n hx hb d_R_takeEntries_8 rfl (lv_at hl 0 rfl) ?_
  refine lv_lconst (v := 0) hx hb d_R_takeEntries_9 (by decide) ?_
  refine W.lcmp hx hb d_R_takeEntries_10 ?_
  refine lv_if_ne (tgt := 22) hx hb d_R_takeEntries_11 (by decide) (fun c => ?_) (fun c => ?_)
  · have c := mt zc_eq.mpr c
    have h := iff_at h c
    exact J22 o5.2.1 o5.2.2 o5.1 _ _ ls hP hD hS (lv_sub hl [1, 0] rfl) h
  · have c := zc_eq.mp c
    have h := ift_at h c
    refine lv_aload_n hx hb d_R_takeEntries_14 rfl (lv_at hl 1 rfl) ?_
    refine va_get (D := D) (ci := 4) (v := .ref a_t_source) (C := "PageForm$Reader") (T := F_R) (N := 12) hx hb hts in_R hown hK hP 0 rfl rfl 1 (by decide) (hts _ fl_R_39) (fun _ h9 => h9) rfl d_R_takeEntries_15 ?_
    refine lv_iconst (v := 3) hx hb d_R_takeEntries_18 (by decide) ?_
    obtain ⟨o6, ho6, h⟩ := obd_at h
    refine g_V (As := [.int (3 : Int32)]) (rest := []) hx hb hml hown hts hA hK hP hD hS hE (c_S_fail l D k a_t_source a_t_source_bytes a_t_source_row a_t_source_widths o5.2.1 t_source_to o5.2.2 (3 : Int32) n o6 ho6) mw_S_fail mi_S_fail ml_R_71 [1] rfl (by decide) rfl rfl rfl 0 rfl rfl rfl rfl rfl hl.1 rfl (Nat.le_of_ble_eq_true rfl) ⟨Nat.zero_le _, Nat.zero_le _⟩ d_R_takeEntries_19 (fun H locs hP hD hS => ?_)
    have hP : va_P D CL [(a_t, .inr (4, [.ref a_t_column, .ref a_t_source, .ref a_t_told, .ref a_t_dictionary, .ref a_t_numbers, .ref a_t_commons, .int t_entries, .int t_count, .long t_bodyTold, .int t_check, .int t_coding, .int t_bodySize])), (a_t_source, .inr (5, [.ref a_t_source_bytes, .ref a_t_source_row, .ref a_t_source_widths, .int o5.2.1, .int t_source_to, .int o6])), (a_t_source_row, .inl (k.1, t_source_row_n, .inl t_source_row))] H := hP
    have hD : va_D A [(a_t, .inr (4, [.ref a_t_column, .ref a_t_source, .ref a_t_told, .ref a_t_dictionary, .ref a_t_numbers, .ref a_t_commons, .int t_entries, .int t_count, .long t_bodyTold, .int t_check, .int t_coding, .int t_bodySize])), (a_t_source, .inr (5, [.ref a_t_source_bytes, .ref a_t_source_row, .ref a_t_source_widths, .int o5.2.1, .int t_source_to, .int o6])), (a_t_source_row, .inl (k.1, t_source_row_n, .inl t_source_row))] := hD
    refine W.eq (g2 := F0 m 22 ls []) rfl ?_
    exact J22 o5.2.1 o6 o5.1 _ _ ls hP hD hS (lv_sub hl [1, 0] rfl) h

def rm_R_takeNones : Room := { frames := 3, cells := 0, slots := 0, locals := 68 }
def f_R_takeNones_j33 (t_source_at : Int32) (t_source_fault : Int32) (v1 : Int64) : Option (Int32 × Int32 × Int32) :=
  (if t_source_fault = 0 then some (v1.toInt32, t_source_at, t_source_fault) else some ((0 : Int32), t_source_at, t_source_fault))
def f_R_takeNones_j24 (t_source_at : Int32) (t_source_fault : Int32) (v1 : Int64) : Option (Int32 × Int32 × Int32) :=
  Option.bind (f_S_fail t_source_fault (7 : Int32)) (fun o3 => f_R_takeNones_j33 t_source_at o3 v1)
def f_R_takeNones (n : Nat) (t_source_row_n : Nat) (t_entries : Int32) (t_source_at : Int32) (t_source_to : Int32) (t_source_fault : Int32) (t_source_row : Nat → Int32) : Option (Int32 × Int32 × Int32) :=
  Option.bind (f_S_varint n t_source_row_n t_source_at t_source_to t_source_fault t_source_row) (fun o4 => (if o4.1 < (0 : Int64) then f_R_takeNones_j24 o4.2.1 o4.2.2 o4.1 else (if o4.1 ≤ t_entries.toInt64 then f_R_takeNones_j33 o4.2.1 o4.2.2 o4.1 else f_R_takeNones_j24 o4.2.1 o4.2.2 o4.1)))
set_option maxHeartbeats 4000000 in
set_option maxRecDepth 100000 in
theorem c_R_takeNones (l : Launch) (D : va_G) (k : ClassId × ClassId × ClassId) (a_t a_t_column a_t_source a_t_told a_t_dictionary a_t_numbers a_t_commons a_t_source_bytes a_t_source_row a_t_source_widths : Nat) (t_source_row_n : Nat) (t_entries : Int32) (t_count : Int32) (t_bodyTold : Int64) (t_check : Int32) (t_coding : Int32) (t_bodySize : Int32) (t_source_at : Int32) (t_source_to : Int32) (t_source_fault : Int32) (t_source_row : Nat → Int32) (n : Nat) (out : Int32 × Int32 × Int32) (h : f_R_takeNones n t_source_row_n t_entries t_source_at t_source_to t_source_fault t_source_row = some out) : Ct l D k y_R_takeNones b_R_takeNones 3 (some .int) rm_R_takeNones [.ref a_t] [(a_t, .inr (4, [.ref a_t_column, .ref a_t_source, .ref a_t_told, .ref a_t_dictionary, .ref a_t_numbers, .ref a_t_commons, .int t_entries, .int t_count, .long t_bodyTold, .int t_check, .int t_coding, .int t_bodySize])), (a_t_source, .inr (5, [.ref a_t_source_bytes, .ref a_t_source_row, .ref a_t_source_widths, .int t_source_at, .int t_source_to, .int t_source_fault])), (a_t_source_row, .inl (k.1, t_source_row_n, .inl t_source_row))] [(a_t, .inr (4, [.ref a_t_column, .ref a_t_source, .ref a_t_told, .ref a_t_dictionary, .ref a_t_numbers, .ref a_t_commons, .int t_entries, .int t_count, .long t_bodyTold, .int t_check, .int t_coding, .int t_bodySize])), (a_t_source, .inr (5, [.ref a_t_source_bytes, .ref a_t_source_row, .ref a_t_source_widths, .int out.2.1, .int t_source_to, .int out.2.2])), (a_t_source_row, .inl (k.1, t_source_row_n, .inl t_source_row))] (some (.int out.1)) := by
  refine Ct.ofI (by decide) (Nat.le_of_ble_eq_true rfl) ?_
  intro p e s m args below meth c A Q ls hx hb hml hown hts hA hK hP hD hS hE hl ret
  have hown : s.vm.findClass "PageForm$Reader" = some m.cls := hown
  have hl : lv_has ls 3 [(0, .ref a_t)] := hl
  have ret2 : ∀ (y0 : Int32) (y1 : Int32) (y2 : Int32) (_ : (y0, y1, y2) = out) {pc : Nat} {ls : Array Slot} {H : Heap} {locs : List Loc}, decode b_R_takeNones pc = .ok (.ireturn, 1) → va_P D CL [(a_t, .inr (4, [.ref a_t_column, .ref a_t_source, .ref a_t_told, .ref a_t_dictionary, .ref a_t_numbers, .ref a_t_commons, .int t_entries, .int t_count, .long t_bodyTold, .int t_check, .int t_coding, .int t_bodySize])), (a_t_source, .inr (5, [.ref a_t_source_bytes, .ref a_t_source_row, .ref a_t_source_widths, .int y1, .int t_source_to, .int y2])), (a_t_source_row, .inl (k.1, t_source_row_n, .inl t_source_row))] H → va_D A [(a_t, .inr (4, [.ref a_t_column, .ref a_t_source, .ref a_t_told, .ref a_t_dictionary, .ref a_t_numbers, .ref a_t_commons, .int t_entries, .int t_count, .long t_bodyTold, .int t_check, .int t_coding, .int t_bodySize])), (a_t_source, .inr (5, [.ref a_t_source_bytes, .ref a_t_source_row, .ref a_t_source_widths, .int y1, .int t_source_to, .int y2])), (a_t_source_row, .inl (k.1, t_source_row_n, .inl t_source_row))] → va_S A s.heap H locs → W p l e rm_R_takeNones s m args below meth c H locs 0 0 Q (F0 m pc ls [.int y0]) := by
    intro y0 y1 y2 e0; subst e0; exact ret
  clear ret
  have J33 : ∀ (t_source_at : Int32) (t_source_fault : Int32) (v1 : Int64) (H : Heap) (locs : List Loc) (ls : Array Slot), va_P D CL [(a_t, .inr (4, [.ref a_t_column, .ref a_t_source, .ref a_t_told, .ref a_t_dictionary, .ref a_t_numbers, .ref a_t_commons, .int t_entries, .int t_count, .long t_bodyTold, .int t_check, .int t_coding, .int t_bodySize])), (a_t_source, .inr (5, [.ref a_t_source_bytes, .ref a_t_source_row, .ref a_t_source_widths, .int t_source_at, .int t_source_to, .int t_source_fault])), (a_t_source_row, .inl (k.1, t_source_row_n, .inl t_source_row))] H → va_D A [(a_t, .inr (4, [.ref a_t_column, .ref a_t_source, .ref a_t_told, .ref a_t_dictionary, .ref a_t_numbers, .ref a_t_commons, .int t_entries, .int t_count, .long t_bodyTold, .int t_check, .int t_coding, .int t_bodySize])), (a_t_source, .inr (5, [.ref a_t_source_bytes, .ref a_t_source_row, .ref a_t_source_widths, .int t_source_at, .int t_source_to, .int t_source_fault])), (a_t_source_row, .inl (k.1, t_source_row_n, .inl t_source_row))] → va_S A s.heap H locs → lv_has ls 3 [(0, .ref a_t), (1, .long v1)] → f_R_takeNones_j33 t_source_at t_source_fault v1 = some out → W p l e rm_R_takeNones s m args below meth c H locs 0 0 Q (F0 m 33 ls []) := by
    intro t_source_at t_source_fault v1 H locs ls hP hD hS hl h
    unfold f_R_takeNones_j33 at h
    refine lv_aload_n hx hb d_R_takeNones_33 rfl (lv_at hl 0 rfl) ?_
    refine va_get (D := D) (ci := 4) (v := .ref a_t_source) (C := "PageForm$Reader") (T := F_R) (N := 12) hx hb hts in_R hown hK hP 0 rfl rfl 1 (by decide) (hts _ fl_R_39) (fun _ h9 => h9) rfl d_R_takeNones_34 ?_
    refine va_get (D := D) (ci := 5) (v := .int t_source_fault) (C := "PageForm$Source") (T := F_S) (N := 6) hx hb hts in_S hown hK hP 1 rfl rfl 5 (by decide) (hts _ fl_R_102) (fun _ h9 => h9) rfl d_R_takeNones_37 ?_
    refine lv_if_ne (tgt := 48) hx hb d_R_takeNones_40 (by decide) (fun c => ?_) (fun c => ?_)
    · have h := iff_at h c
      refine lv_iconst (v := 0) hx hb d_R_takeNones_48 (by decide) ?_
      exact ret2 _ _ _ (Option.some.inj h) d_R_takeNones_49 hP hD hS
    · have h := ift_at h c
      refine lv_lload_n hx hb d_R_takeNones_43 rfl (lv_at hl 1 rfl) ?_
      refine lv_l2i hx hb d_R_takeNones_44 rfl ?_
      refine lv_goto (tgt := 49) hx hb d_R_takeNones_45 (by decide) ?_
      exact ret2 _ _ _ (Option.some.inj h) d_R_takeNones_49 hP hD hS
  have J24 : ∀ (t_source_at : Int32) (t_source_fault : Int32) (v1 : Int64) (H : Heap) (locs : List Loc) (ls : Array Slot), va_P D CL [(a_t, .inr (4, [.ref a_t_column, .ref a_t_source, .ref a_t_told, .ref a_t_dictionary, .ref a_t_numbers, .ref a_t_commons, .int t_entries, .int t_count, .long t_bodyTold, .int t_check, .int t_coding, .int t_bodySize])), (a_t_source, .inr (5, [.ref a_t_source_bytes, .ref a_t_source_row, .ref a_t_source_widths, .int t_source_at, .int t_source_to, .int t_source_fault])), (a_t_source_row, .inl (k.1, t_source_row_n, .inl t_source_row))] H → va_D A [(a_t, .inr (4, [.ref a_t_column, .ref a_t_source, .ref a_t_told, .ref a_t_dictionary, .ref a_t_numbers, .ref a_t_commons, .int t_entries, .int t_count, .long t_bodyTold, .int t_check, .int t_coding, .int t_bodySize])), (a_t_source, .inr (5, [.ref a_t_source_bytes, .ref a_t_source_row, .ref a_t_source_widths, .int t_source_at, .int t_source_to, .int t_source_fault])), (a_t_source_row, .inl (k.1, t_source_row_n, .inl t_source_row))] → va_S A s.heap H locs → lv_has ls 3 [(0, .ref a_t), (1, .long v1)] → f_R_takeNones_j24 t_source_at t_source_fault v1 = some out → W p l e rm_R_takeNones s m args below meth c H locs 0 0 Q (F0 m 24 ls []) := by
    intro t_source_at t_source_fault v1 H locs ls hP hD hS hl h
    unfold f_R_takeNones_j24 at h
    refine lv_aload_n hx hb d_R_takeNones_24 rfl (lv_at hl 0 rfl) ?_
    refine va_get (D := D) (ci := 4) (v := .ref a_t_source) (C := "PageForm$Reader") (T := F_R) (N := 12) hx hb hts in_R hown hK hP 0 rfl rfl 1 (by decide) (hts _ fl_R_39) (fun _ h9 => h9) rfl d_R_takeNones_25 ?_
    refine lv_bipush (v := 7) hx hb d_R_takeNones_28 (by decide) ?_
    obtain ⟨o3, ho3, h⟩ := obd_at h
    refine g_V (As := [.int (7 : Int32)]) (rest := []) hx hb hml hown hts hA hK hP hD hS hE (c_S_fail l D k a_t_source a_t_source_bytes a_t_source_row a_t_source_widths t_source_at t_source_to t_source_fault (7 : Int32) n o3 ho3) mw_S_fail mi_S_fail ml_R_71 [1] rfl (by decide) rfl rfl rfl 0 rfl rfl rfl rfl rfl hl.1 rfl (Nat.le_of_ble_eq_true rfl) ⟨Nat.zero_le _, Nat.zero_le _⟩ d_R_takeNones_30 (fun H locs hP hD hS => ?_)
    have hP : va_P D CL [(a_t, .inr (4, [.ref a_t_column, .ref a_t_source, .ref a_t_told, .ref a_t_dictionary, .ref a_t_numbers, .ref a_t_commons, .int t_entries, .int t_count, .long t_bodyTold, .int t_check, .int t_coding, .int t_bodySize])), (a_t_source, .inr (5, [.ref a_t_source_bytes, .ref a_t_source_row, .ref a_t_source_widths, .int t_source_at, .int t_source_to, .int o3])), (a_t_source_row, .inl (k.1, t_source_row_n, .inl t_source_row))] H := hP
    have hD : va_D A [(a_t, .inr (4, [.ref a_t_column, .ref a_t_source, .ref a_t_told, .ref a_t_dictionary, .ref a_t_numbers, .ref a_t_commons, .int t_entries, .int t_count, .long t_bodyTold, .int t_check, .int t_coding, .int t_bodySize])), (a_t_source, .inr (5, [.ref a_t_source_bytes, .ref a_t_source_row, .ref a_t_source_widths, .int t_source_at, .int t_source_to, .int o3])), (a_t_source_row, .inl (k.1, t_source_row_n, .inl t_source_row))] := hD
    refine W.eq (g2 := F0 m 33 ls []) rfl ?_
    exact J33 t_source_at o3 v1 _ _ ls hP hD hS (lv_sub hl [0, 1] rfl) h
  unfold f_R_takeNones at h
  refine lv_aload_n hx hb d_R_takeNones_0 rfl (lv_at hl 0 rfl) ?_
  refine va_get (D := D) (ci := 4) (v := .ref a_t_source) (C := "PageForm$Reader") (T := F_R) (N := 12) hx hb hts in_R hown hK hP 0 rfl rfl 1 (by decide) (hts _ fl_R_39) (fun _ h9 => h9) rfl d_R_takeNones_1 ?_
  obtain ⟨o4, ho4, h⟩ := obd_at h
  refine g_V (As := []) (rest := []) hx hb hml hown hts hA hK hP hD hS hE (c_S_varint l D k a_t_source a_t_source_bytes a_t_source_row a_t_source_widths t_source_row_n t_source_at t_source_to t_source_fault t_source_row n o4 ho4) mw_S_varint mi_S_varint ml_R_85 [1, 2] rfl (by decide) rfl rfl rfl 0 rfl rfl rfl rfl rfl hl.1 rfl (Nat.le_of_ble_eq_true rfl) ⟨Nat.zero_le _, Nat.zero_le _⟩ d_R_takeNones_4 (fun H locs hP hD hS => ?_)
  have hP : va_P D CL [(a_t, .inr (4, [.ref a_t_column, .ref a_t_source, .ref a_t_told, .ref a_t_dictionary, .ref a_t_numbers, .ref a_t_commons, .int t_entries, .int t_count, .long t_bodyTold, .int t_check, .int t_coding, .int t_bodySize])), (a_t_source, .inr (5, [.ref a_t_source_bytes, .ref a_t_source_row, .ref a_t_source_widths, .int o4.2.1, .int t_source_to, .int o4.2.2])), (a_t_source_row, .inl (k.1, t_source_row_n, .inl t_source_row))] H := hP
  have hD : va_D A [(a_t, .inr (4, [.ref a_t_column, .ref a_t_source, .ref a_t_told, .ref a_t_dictionary, .ref a_t_numbers, .ref a_t_commons, .int t_entries, .int t_count, .long t_bodyTold, .int t_check, .int t_coding, .int t_bodySize])), (a_t_source, .inr (5, [.ref a_t_source_bytes, .ref a_t_source_row, .ref a_t_source_widths, .int o4.2.1, .int t_source_to, .int o4.2.2])), (a_t_source_row, .inl (k.1, t_source_row_n, .inl t_source_row))] := hD
  refine W.eq (g2 := F0 m 7 ls [.long o4.1]) rfl ?_
  refine lv_lstore_n (lv' := [(1, .long o4.1), (0, .ref a_t)]) hx hb d_R_takeNones_7 rfl hl (by decide) rfl (fun ls hl => ?_)
  refine lv_lload_n hx hb d_R_takeNones_8 rfl (lv_at hl 0 rfl) ?_
  refine lv_lconst (v := 0) hx hb d_R_takeNones_9 (by decide) ?_
  refine W.lcmp hx hb d_R_takeNones_10 ?_
  refine lv_if_lt (tgt := 24) hx hb d_R_takeNones_11 (by decide) (fun c => ?_) (fun c => ?_)
  · have c := zc_lt.mp c
    have h := ift_at h c
    exact J24 o4.2.1 o4.2.2 o4.1 _ _ ls hP hD hS (lv_sub hl [1, 0] rfl) h
  · have c := mt zc_lt.mpr c
    have h := iff_at h c
    refine lv_lload_n hx hb d_R_takeNones_14 rfl (lv_at hl 0 rfl) ?_
    refine lv_aload_n hx hb d_R_takeNones_15 rfl (lv_at hl 1 rfl) ?_
    refine va_get (D := D) (ci := 4) (v := .int t_entries) (C := "PageForm$Reader") (T := F_R) (N := 12) hx hb hts in_R hown hK hP 0 rfl rfl 6 (by decide) (hts _ fl_R_50) (fun _ h9 => h9) rfl d_R_takeNones_16 ?_
    refine lv_i2l hx hb d_R_takeNones_19 rfl ?_
    refine W.lcmp hx hb d_R_takeNones_20 ?_
    refine lv_if_le (tgt := 33) hx hb d_R_takeNones_21 (by decide) (fun c => ?_) (fun c => ?_)
    · have c := zc_le.mp c
      have h := ift_at h c
      exact J33 o4.2.1 o4.2.2 o4.1 _ _ ls hP hD hS (lv_sub hl [1, 0] rfl) h
    · have c := mt zc_le.mpr c
      have h := iff_at h c
      exact J24 o4.2.1 o4.2.2 o4.1 _ _ ls hP hD hS (lv_sub hl [1, 0] rfl) h

def rm_R_takeText : Room := { frames := 2, cells := 0, slots := 0, locals := 65 }
def f_R_takeText_j104 (t_source_at : Int32) (t_source_fault : Int32) (p1_count : Int32) (p1_starts : Nat → Int32) (p1_texts : Nat → Int32) (v4 : Int64) : Option (Int32 × Int32 × Int32 × (Nat → Int32) × (Nat → Int32)) :=
  bnd (t_source_at + v4.toInt32) (fun x6 => some (x6, t_source_fault, p1_count, p1_starts, p1_texts))
def f_R_takeText_j39 (t_source_row_n : Nat) (p1_numbers_n : Nat) (p1_starts_n : Nat) (p1_texts_n : Nat) (t_source_at : Int32) (t_source_to : Int32) (t_source_fault : Int32) (t_source_row : Nat → Int32) (p1_count : Int32) (p1_starts : Nat → Int32) (p1_texts : Nat → Int32) (v2 : Int64) (v4 : Int64) (k0 : Int32) : Option (Int32 × Int32 × Int32 × (Nat → Int32) × (Nat → Int32)) :=
  (if k0 = 0 then Option.bind (f_S_fail t_source_fault (7 : Int32)) (fun o10 => some (t_source_at, o10, p1_count, p1_starts, p1_texts)) else Option.bind (f_S_there t_source_at t_source_to t_source_fault v4) (fun o7 => (if o7.1 = 0 then some (t_source_at, o7.2, p1_count, p1_starts, p1_texts) else Option.bind (f_V_addText p1_numbers_n p1_starts_n p1_texts_n t_source_row_n p1_count p1_starts p1_texts t_source_row v2.toInt32 t_source_at v4.toInt32) (fun o8 => (if o8.1 = 0 then Option.bind (f_S_fail o7.2 (7 : Int32)) (fun o9 => f_R_takeText_j104 t_source_at o9 o8.2.1 o8.2.2.1 o8.2.2.2 v4) else f_R_takeText_j104 t_source_at o7.2 o8.2.1 o8.2.2.1 o8.2.2.2 v4)))))
def f_R_takeText_j38 (t_source_row_n : Nat) (p1_numbers_n : Nat) (p1_starts_n : Nat) (p1_texts_n : Nat) (t_source_at : Int32) (t_source_to : Int32) (t_source_fault : Int32) (t_source_row : Nat → Int32) (p1_count : Int32) (p1_starts : Nat → Int32) (p1_texts : Nat → Int32) (v2 : Int64) (v4 : Int64) : Option (Int32 × Int32 × Int32 × (Nat → Int32) × (Nat → Int32)) :=
  f_R_takeText_j39 t_source_row_n p1_numbers_n p1_starts_n p1_texts_n t_source_at t_source_to t_source_fault t_source_row p1_count p1_starts p1_texts v2 v4 (0 : Int32)
def f_R_takeText (t_source_row_n : Nat) (p1_numbers_n : Nat) (p1_starts_n : Nat) (p1_texts_n : Nat) (t_source_at : Int32) (t_source_to : Int32) (t_source_fault : Int32) (t_source_row : Nat → Int32) (p1_count : Int32) (p1_starts : Nat → Int32) (p1_texts : Nat → Int32) (v2 : Int64) (v4 : Int64) : Option (Int32 × Int32 × Int32 × (Nat → Int32) × (Nat → Int32)) :=
  (if v2 < (0 : Int64) then f_R_takeText_j38 t_source_row_n p1_numbers_n p1_starts_n p1_texts_n t_source_at t_source_to t_source_fault t_source_row p1_count p1_starts p1_texts v2 v4 else Option.bind (f_V_lastSize p1_starts_n p1_count p1_starts) (fun o11 => (if o11.toInt64 < v2 then f_R_takeText_j38 t_source_row_n p1_numbers_n p1_starts_n p1_texts_n t_source_at t_source_to t_source_fault t_source_row p1_count p1_starts p1_texts v2 v4 else (if v4 < (0 : Int64) then f_R_takeText_j38 t_source_row_n p1_numbers_n p1_starts_n p1_texts_n t_source_at t_source_to t_source_fault t_source_row p1_count p1_starts p1_texts v2 v4 else (if ((255 : Int64) - v2) < v4 then f_R_takeText_j38 t_source_row_n p1_numbers_n p1_starts_n p1_texts_n t_source_at t_source_to t_source_fault t_source_row p1_count p1_starts p1_texts v2 v4 else f_R_takeText_j39 t_source_row_n p1_numbers_n p1_starts_n p1_texts_n t_source_at t_source_to t_source_fault t_source_row p1_count p1_starts p1_texts v2 v4 (1 : Int32))))))
set_option maxHeartbeats 4000000 in
set_option maxRecDepth 100000 in
theorem c_R_takeText (l : Launch) (D : va_G) (k : ClassId × ClassId × ClassId) (a_t a_t_column a_t_source a_t_told a_t_dictionary a_t_numbers a_t_commons a_t_source_bytes a_t_source_row a_t_source_widths a_p1 a_p1_numbers a_p1_texts a_p1_starts : Nat) (t_source_row_n p1_numbers_n p1_starts_n p1_texts_n : Nat) (t_entries : Int32) (t_count : Int32) (t_bodyTold : Int64) (t_check : Int32) (t_coding : Int32) (t_bodySize : Int32) (t_source_at : Int32) (t_source_to : Int32) (t_source_fault : Int32) (t_source_row : Nat → Int32) (p1_ofTexts : Int32) (p1_count : Int32) (p1_numbers : Nat → Int64) (p1_starts : Nat → Int32) (p1_texts : Nat → Int32) (v2 : Int64) (v4 : Int64) (n : Nat) (out : Int32 × Int32 × Int32 × (Nat → Int32) × (Nat → Int32)) (h : f_R_takeText t_source_row_n p1_numbers_n p1_starts_n p1_texts_n t_source_at t_source_to t_source_fault t_source_row p1_count p1_starts p1_texts v2 v4 = some out) : Ct l D k y_R_takeText b_R_takeText 7 none rm_R_takeText [.ref a_t, .ref a_p1, .long v2, .long v4] [(a_t, .inr (4, [.ref a_t_column, .ref a_t_source, .ref a_t_told, .ref a_t_dictionary, .ref a_t_numbers, .ref a_t_commons, .int t_entries, .int t_count, .long t_bodyTold, .int t_check, .int t_coding, .int t_bodySize])), (a_t_source, .inr (5, [.ref a_t_source_bytes, .ref a_t_source_row, .ref a_t_source_widths, .int t_source_at, .int t_source_to, .int t_source_fault])), (a_t_source_row, .inl (k.1, t_source_row_n, .inl t_source_row)), (a_p1, .inr (6, [.ref a_p1_numbers, .ref a_p1_texts, .ref a_p1_starts, .int p1_ofTexts, .int p1_count])), (a_p1_numbers, .inl (k.2.2, p1_numbers_n, .inr (.inl p1_numbers))), (a_p1_starts, .inl (k.2.1, p1_starts_n, .inl p1_starts)), (a_p1_texts, .inl (k.1, p1_texts_n, .inl p1_texts))] [(a_t, .inr (4, [.ref a_t_column, .ref a_t_source, .ref a_t_told, .ref a_t_dictionary, .ref a_t_numbers, .ref a_t_commons, .int t_entries, .int t_count, .long t_bodyTold, .int t_check, .int t_coding, .int t_bodySize])), (a_t_source, .inr (5, [.ref a_t_source_bytes, .ref a_t_source_row, .ref a_t_source_widths, .int out.1, .int t_source_to, .int out.2.1])), (a_t_source_row, .inl (k.1, t_source_row_n, .inl t_source_row)), (a_p1, .inr (6, [.ref a_p1_numbers, .ref a_p1_texts, .ref a_p1_starts, .int p1_ofTexts, .int out.2.2.1])), (a_p1_numbers, .inl (k.2.2, p1_numbers_n, .inr (.inl p1_numbers))), (a_p1_starts, .inl (k.2.1, p1_starts_n, .inl out.2.2.2.1)), (a_p1_texts, .inl (k.1, p1_texts_n, .inl out.2.2.2.2))] none := by
  refine Ct.ofV (by decide) (Nat.le_of_ble_eq_true rfl) ?_
  intro p e s m args below meth c A Q ls hx hb hml hown hts hA hK hP hD hS hE hl ret
  have hown : s.vm.findClass "PageForm$Reader" = some m.cls := hown
  have hl : lv_has ls 7 [(0, .ref a_t), (1, .ref a_p1), (2, .long v2), (4, .long v4)] := hl
  have ret2 : ∀ (y0 : Int32) (y1 : Int32) (y2 : Int32) (y3 : Nat → Int32) (y4 : Nat → Int32) (_ : (y0, y1, y2, y3, y4) = out) {pc : Nat} {ls : Array Slot} {H : Heap} {locs : List Loc}, decode b_R_takeText pc = .ok (.return_, 1) → va_P D CL [(a_t, .inr (4, [.ref a_t_column, .ref a_t_source, .ref a_t_told, .ref a_t_dictionary, .ref a_t_numbers, .ref a_t_commons, .int t_entries, .int t_count, .long t_bodyTold, .int t_check, .int t_coding, .int t_bodySize])), (a_t_source, .inr (5, [.ref a_t_source_bytes, .ref a_t_source_row, .ref a_t_source_widths, .int y0, .int t_source_to, .int y1])), (a_t_source_row, .inl (k.1, t_source_row_n, .inl t_source_row)), (a_p1, .inr (6, [.ref a_p1_numbers, .ref a_p1_texts, .ref a_p1_starts, .int p1_ofTexts, .int y2])), (a_p1_numbers, .inl (k.2.2, p1_numbers_n, .inr (.inl p1_numbers))), (a_p1_starts, .inl (k.2.1, p1_starts_n, .inl y3)), (a_p1_texts, .inl (k.1, p1_texts_n, .inl y4))] H → va_D A [(a_t, .inr (4, [.ref a_t_column, .ref a_t_source, .ref a_t_told, .ref a_t_dictionary, .ref a_t_numbers, .ref a_t_commons, .int t_entries, .int t_count, .long t_bodyTold, .int t_check, .int t_coding, .int t_bodySize])), (a_t_source, .inr (5, [.ref a_t_source_bytes, .ref a_t_source_row, .ref a_t_source_widths, .int y0, .int t_source_to, .int y1])), (a_t_source_row, .inl (k.1, t_source_row_n, .inl t_source_row)), (a_p1, .inr (6, [.ref a_p1_numbers, .ref a_p1_texts, .ref a_p1_starts, .int p1_ofTexts, .int y2])), (a_p1_numbers, .inl (k.2.2, p1_numbers_n, .inr (.inl p1_numbers))), (a_p1_starts, .inl (k.2.1, p1_starts_n, .inl y3)), (a_p1_texts, .inl (k.1, p1_texts_n, .inl y4))] → va_S A s.heap H locs → W p l e rm_R_takeText s m args below meth c H locs 0 0 Q (F0 m pc ls []) := by
    intro y0 y1 y2 y3 y4 e0; subst e0; exact ret
  clear ret
  have J104 : ∀ (t_source_at : Int32) (t_source_fault : Int32) (p1_count : Int32) (p1_starts : Nat → Int32) (p1_texts : Nat → Int32) (H : Heap) (locs : List Loc) (ls : Array Slot), va_P D CL [(a_t, .inr (4, [.ref a_t_column, .ref a_t_source, .ref a_t_told, .ref a_t_dictionary, .ref a_t_numbers, .ref a_t_commons, .int t_entries, .int t_count, .long t_bodyTold, .int t_check, .int t_coding, .int t_bodySize])), (a_t_source, .inr (5, [.ref a_t_source_bytes, .ref a_t_source_row, .ref a_t_source_widths, .int t_source_at, .int t_source_to, .int t_source_fault])), (a_t_source_row, .inl (k.1, t_source_row_n, .inl t_source_row)), (a_p1, .inr (6, [.ref a_p1_numbers, .ref a_p1_texts, .ref a_p1_starts, .int p1_ofTexts, .int p1_count])), (a_p1_numbers, .inl (k.2.2, p1_numbers_n, .inr (.inl p1_numbers))), (a_p1_starts, .inl (k.2.1, p1_starts_n, .inl p1_starts)), (a_p1_texts, .inl (k.1, p1_texts_n, .inl p1_texts))] H → va_D A [(a_t, .inr (4, [.ref a_t_column, .ref a_t_source, .ref a_t_told, .ref a_t_dictionary, .ref a_t_numbers, .ref a_t_commons, .int t_entries, .int t_count, .long t_bodyTold, .int t_check, .int t_coding, .int t_bodySize])), (a_t_source, .inr (5, [.ref a_t_source_bytes, .ref a_t_source_row, .ref a_t_source_widths, .int t_source_at, .int t_source_to, .int t_source_fault])), (a_t_source_row, .inl (k.1, t_source_row_n, .inl t_source_row)), (a_p1, .inr (6, [.ref a_p1_numbers, .ref a_p1_texts, .ref a_p1_starts, .int p1_ofTexts, .int p1_count])), (a_p1_numbers, .inl (k.2.2, p1_numbers_n, .inr (.inl p1_numbers))), (a_p1_starts, .inl (k.2.1, p1_starts_n, .inl p1_starts)), (a_p1_texts, .inl (k.1, p1_texts_n, .inl p1_texts))] → va_S A s.heap H locs → lv_has ls 7 [(0, .ref a_t), (4, .long v4)] → f_R_takeText_j104 t_source_at t_source_fault p1_count p1_starts p1_texts v4 = some out → W p l e rm_R_takeText s m args below meth c H locs 0 0 Q (F0 m 104 ls []) := by
    intro t_source_at t_source_fault p1_count p1_starts p1_texts H locs ls hP hD hS hl h
    unfold f_R_takeText_j104 at h
    refine lv_aload_n hx hb d_R_takeText_104 rfl (lv_at hl 0 rfl) ?_
    refine va_get (D := D) (ci := 4) (v := .ref a_t_source) (C := "PageForm$Reader") (T := F_R) (N := 12) hx hb hts in_R hown hK hP 0 rfl rfl 1 (by decide) (hts _ fl_R_39) (fun _ h9 => h9) rfl d_R_takeText_105 ?_
    refine lv_dup hx hb d_R_takeText_108 rfl ?_
    refine va_get (D := D) (ci := 5) (v := .int t_source_at) (C := "PageForm$Source") (T := F_S) (N := 6) hx hb hts in_S hown hK hP 1 rfl rfl 3 (by decide) (hts _ fl_R_136) (fun _ h9 => h9) rfl d_R_takeText_109 ?_
    refine lv_lload hx hb d_R_takeText_112 (lv_at hl 1 rfl) ?_
    refine lv_l2i hx hb d_R_takeText_114 rfl ?_
    refine lv_iadd hx hb d_R_takeText_115 ?_
    refine lv_topi (fun x6 ex6 => ?_)
    have h := bnd_at h ex6
    refine va_put (D := D) (ci := 5) (v := .int x6) (ty := .int) (C := "PageForm$Source") (T := F_S) (N := 6) hx hb hts in_S t_S t_S_ok n_S hown hK hP hD hS 1 rfl rfl 3 (by decide) (hts _ fl_R_136) (fun _ h9 => h9) rfl (by decide +kernel) rfl rfl (Nat.le_of_ble_eq_true rfl) d_R_takeText_116 (fun H locs hP hD hS => ?_)
    have hP : va_P D CL [(a_t, .inr (4, [.ref a_t_column, .ref a_t_source, .ref a_t_told, .ref a_t_dictionary, .ref a_t_numbers, .ref a_t_commons, .int t_entries, .int t_count, .long t_bodyTold, .int t_check, .int t_coding, .int t_bodySize])), (a_t_source, .inr (5, [.ref a_t_source_bytes, .ref a_t_source_row, .ref a_t_source_widths, .int x6, .int t_source_to, .int t_source_fault])), (a_t_source_row, .inl (k.1, t_source_row_n, .inl t_source_row)), (a_p1, .inr (6, [.ref a_p1_numbers, .ref a_p1_texts, .ref a_p1_starts, .int p1_ofTexts, .int p1_count])), (a_p1_numbers, .inl (k.2.2, p1_numbers_n, .inr (.inl p1_numbers))), (a_p1_starts, .inl (k.2.1, p1_starts_n, .inl p1_starts)), (a_p1_texts, .inl (k.1, p1_texts_n, .inl p1_texts))] H := hP
    have hD : va_D A [(a_t, .inr (4, [.ref a_t_column, .ref a_t_source, .ref a_t_told, .ref a_t_dictionary, .ref a_t_numbers, .ref a_t_commons, .int t_entries, .int t_count, .long t_bodyTold, .int t_check, .int t_coding, .int t_bodySize])), (a_t_source, .inr (5, [.ref a_t_source_bytes, .ref a_t_source_row, .ref a_t_source_widths, .int x6, .int t_source_to, .int t_source_fault])), (a_t_source_row, .inl (k.1, t_source_row_n, .inl t_source_row)), (a_p1, .inr (6, [.ref a_p1_numbers, .ref a_p1_texts, .ref a_p1_starts, .int p1_ofTexts, .int p1_count])), (a_p1_numbers, .inl (k.2.2, p1_numbers_n, .inr (.inl p1_numbers))), (a_p1_starts, .inl (k.2.1, p1_starts_n, .inl p1_starts)), (a_p1_texts, .inl (k.1, p1_texts_n, .inl p1_texts))] := hD
    exact ret2 _ _ _ _ _ (Option.some.inj h) d_R_takeText_119 hP hD hS
  have J39 : ∀ (t_source_at : Int32) (t_source_fault : Int32) (p1_count : Int32) (p1_starts : Nat → Int32) (p1_texts : Nat → Int32) (k0 : Int32) (H : Heap) (locs : List Loc) (ls : Array Slot), va_P D CL [(a_t, .inr (4, [.ref a_t_column, .ref a_t_source, .ref a_t_told, .ref a_t_dictionary, .ref a_t_numbers, .ref a_t_commons, .int t_entries, .int t_count, .long t_bodyTold, .int t_check, .int t_coding, .int t_bodySize])), (a_t_source, .inr (5, [.ref a_t_source_bytes, .ref a_t_source_row, .ref a_t_source_widths, .int t_source_at, .int t_source_to, .int t_source_fault])), (a_t_source_row, .inl (k.1, t_source_row_n, .inl t_source_row)), (a_p1, .inr (6, [.ref a_p1_numbers, .ref a_p1_texts, .ref a_p1_starts, .int p1_ofTexts, .int p1_count])), (a_p1_numbers, .inl (k.2.2, p1_numbers_n, .inr (.inl p1_numbers))), (a_p1_starts, .inl (k.2.1, p1_starts_n, .inl p1_starts)), (a_p1_texts, .inl (k.1, p1_texts_n, .inl p1_texts))] H → va_D A [(a_t, .inr (4, [.ref a_t_column, .ref a_t_source, .ref a_t_told, .ref a_t_dictionary, .ref a_t_numbers, .ref a_t_commons, .int t_entries, .int t_count, .long t_bodyTold, .int t_check, .int t_coding, .int t_bodySize])), (a_t_source, .inr (5, [.ref a_t_source_bytes, .ref a_t_source_row, .ref a_t_source_widths, .int t_source_at, .int t_source_to, .int t_source_fault])), (a_t_source_row, .inl (k.1, t_source_row_n, .inl t_source_row)), (a_p1, .inr (6, [.ref a_p1_numbers, .ref a_p1_texts, .ref a_p1_starts, .int p1_ofTexts, .int p1_count])), (a_p1_numbers, .inl (k.2.2, p1_numbers_n, .inr (.inl p1_numbers))), (a_p1_starts, .inl (k.2.1, p1_starts_n, .inl p1_starts)), (a_p1_texts, .inl (k.1, p1_texts_n, .inl p1_texts))] → va_S A s.heap H locs → lv_has ls 7 [(0, .ref a_t), (1, .ref a_p1), (2, .long v2), (4, .long v4)] → f_R_takeText_j39 t_source_row_n p1_numbers_n p1_starts_n p1_texts_n t_source_at t_source_to t_source_fault t_source_row p1_count p1_starts p1_texts v2 v4 k0 = some out → W p l e rm_R_takeText s m args below meth c H locs 0 0 Q (F0 m 39 ls [.int k0]) := by
    intro t_source_at t_source_fault p1_count p1_starts p1_texts k0 H locs ls hP hD hS hl h
    unfold f_R_takeText_j39 at h
    refine lv_istore (lv' := [(6, .int k0), (0, .ref a_t), (1, .ref a_p1), (2, .long v2), (4, .long v4)]) hx hb d_R_takeText_39 hl (by decide) rfl (fun ls hl => ?_)
    refine lv_iload hx hb d_R_takeText_41 (lv_at hl 0 rfl) ?_
    refine lv_if_ne (tgt := 56) hx hb d_R_takeText_43 (by decide) (fun c => ?_) (fun c => ?_)
    · have h := iff_at h c
      refine lv_aload_n hx hb d_R_takeText_56 rfl (lv_at hl 1 rfl) ?_
      refine va_get (D := D) (ci := 4) (v := .ref a_t_source) (C := "PageForm$Reader") (T := F_R) (N := 12) hx hb hts in_R hown hK hP 0 rfl rfl 1 (by decide) (hts _ fl_R_39) (fun _ h9 => h9) rfl d_R_takeText_57 ?_
      refine lv_lload hx hb d_R_takeText_60 (lv_at hl 4 rfl) ?_
      obtain ⟨o7, ho7, h⟩ := obd_at h
      refine g_V (As := [.long v4]) (rest := []) hx hb hml hown hts hA hK hP hD hS hE (c_S_there l D k a_t_source a_t_source_bytes a_t_source_row a_t_source_widths t_source_at t_source_to t_source_fault v4 n o7 ho7) mw_S_there mi_S_there ml_R_129 [1] rfl (by decide) rfl rfl rfl 0 rfl rfl rfl rfl rfl hl.1 rfl (Nat.le_of_ble_eq_true rfl) ⟨Nat.zero_le _, Nat.zero_le _⟩ d_R_takeText_62 (fun H locs hP hD hS => ?_)
      have hP : va_P D CL [(a_t, .inr (4, [.ref a_t_column, .ref a_t_source, .ref a_t_told, .ref a_t_dictionary, .ref a_t_numbers, .ref a_t_commons, .int t_entries, .int t_count, .long t_bodyTold, .int t_check, .int t_coding, .int t_bodySize])), (a_t_source, .inr (5, [.ref a_t_source_bytes, .ref a_t_source_row, .ref a_t_source_widths, .int t_source_at, .int t_source_to, .int o7.2])), (a_t_source_row, .inl (k.1, t_source_row_n, .inl t_source_row)), (a_p1, .inr (6, [.ref a_p1_numbers, .ref a_p1_texts, .ref a_p1_starts, .int p1_ofTexts, .int p1_count])), (a_p1_numbers, .inl (k.2.2, p1_numbers_n, .inr (.inl p1_numbers))), (a_p1_starts, .inl (k.2.1, p1_starts_n, .inl p1_starts)), (a_p1_texts, .inl (k.1, p1_texts_n, .inl p1_texts))] H := hP
      have hD : va_D A [(a_t, .inr (4, [.ref a_t_column, .ref a_t_source, .ref a_t_told, .ref a_t_dictionary, .ref a_t_numbers, .ref a_t_commons, .int t_entries, .int t_count, .long t_bodyTold, .int t_check, .int t_coding, .int t_bodySize])), (a_t_source, .inr (5, [.ref a_t_source_bytes, .ref a_t_source_row, .ref a_t_source_widths, .int t_source_at, .int t_source_to, .int o7.2])), (a_t_source_row, .inl (k.1, t_source_row_n, .inl t_source_row)), (a_p1, .inr (6, [.ref a_p1_numbers, .ref a_p1_texts, .ref a_p1_starts, .int p1_ofTexts, .int p1_count])), (a_p1_numbers, .inl (k.2.2, p1_numbers_n, .inr (.inl p1_numbers))), (a_p1_starts, .inl (k.2.1, p1_starts_n, .inl p1_starts)), (a_p1_texts, .inl (k.1, p1_texts_n, .inl p1_texts))] := hD
      refine W.eq (g2 := F0 m 65 ls [.int o7.1]) rfl ?_
      refine lv_if_ne (tgt := 69) hx hb d_R_takeText_65 (by decide) (fun c => ?_) (fun c => ?_)
      · have h := iff_at h c
        refine lv_aload_n hx hb d_R_takeText_69 rfl (lv_at hl 2 rfl) ?_
        refine lv_lload_n hx hb d_R_takeText_70 rfl (lv_at hl 3 rfl) ?_
        refine lv_l2i hx hb d_R_takeText_71 rfl ?_
        refine lv_aload_n hx hb d_R_takeText_72 rfl (lv_at hl 1 rfl) ?_
        refine va_get (D := D) (ci := 4) (v := .ref a_t_source) (C := "PageForm$Reader") (T := F_R) (N := 12) hx hb hts in_R hown hK hP 0 rfl rfl 1 (by decide) (hts _ fl_R_39) (fun _ h9 => h9) rfl d_R_takeText_73 ?_
        refine va_get (D := D) (ci := 5) (v := .ref a_t_source_row) (C := "PageForm$Source") (T := F_S) (N := 6) hx hb hts in_S hown hK hP 1 rfl rfl 1 (by decide) (hts _ fl_R_132) (fun _ h9 => h9) rfl d_R_takeText_76 ?_
        refine lv_aload_n hx hb d_R_takeText_79 rfl (lv_at hl 1 rfl) ?_
        refine va_get (D := D) (ci := 4) (v := .ref a_t_source) (C := "PageForm$Reader") (T := F_R) (N := 12) hx hb hts in_R hown hK hP 0 rfl rfl 1 (by decide) (hts _ fl_R_39) (fun _ h9 => h9) rfl d_R_takeText_80 ?_
        refine va_get (D := D) (ci := 5) (v := .int t_source_at) (C := "PageForm$Source") (T := F_S) (N := 6) hx hb hts in_S hown hK hP 1 rfl rfl 3 (by decide) (hts _ fl_R_136) (fun _ h9 => h9) rfl d_R_takeText_83 ?_
        refine lv_lload hx hb d_R_takeText_86 (lv_at hl 4 rfl) ?_
        refine lv_l2i hx hb d_R_takeText_88 rfl ?_
        obtain ⟨o8, ho8, h⟩ := obd_at h
        refine g_V (As := [.int v2.toInt32, .ref a_t_source_row, .int t_source_at, .int v4.toInt32]) (rest := []) hx hb hml hown hts hA hK hP hD hS hE (c_V_addText l D k a_p1 a_p1_numbers a_p1_texts a_p1_starts a_t_source_row p1_numbers_n p1_starts_n p1_texts_n t_source_row_n p1_ofTexts p1_count p1_numbers p1_starts p1_texts t_source_row v2.toInt32 t_source_at v4.toInt32 n o8 ho8) mw_V_addText mi_V_addText ml_R_139 [3, 4, 5, 6, 2] rfl (by decide) rfl rfl rfl 0 rfl rfl rfl rfl rfl hl.1 rfl (Nat.le_of_ble_eq_true rfl) ⟨Nat.zero_le _, Nat.zero_le _⟩ d_R_takeText_89 (fun H locs hP hD hS => ?_)
        have hP : va_P D CL [(a_t, .inr (4, [.ref a_t_column, .ref a_t_source, .ref a_t_told, .ref a_t_dictionary, .ref a_t_numbers, .ref a_t_commons, .int t_entries, .int t_count, .long t_bodyTold, .int t_check, .int t_coding, .int t_bodySize])), (a_t_source, .inr (5, [.ref a_t_source_bytes, .ref a_t_source_row, .ref a_t_source_widths, .int t_source_at, .int t_source_to, .int o7.2])), (a_t_source_row, .inl (k.1, t_source_row_n, .inl t_source_row)), (a_p1, .inr (6, [.ref a_p1_numbers, .ref a_p1_texts, .ref a_p1_starts, .int p1_ofTexts, .int o8.2.1])), (a_p1_numbers, .inl (k.2.2, p1_numbers_n, .inr (.inl p1_numbers))), (a_p1_starts, .inl (k.2.1, p1_starts_n, .inl o8.2.2.1)), (a_p1_texts, .inl (k.1, p1_texts_n, .inl o8.2.2.2))] H := hP
        have hD : va_D A [(a_t, .inr (4, [.ref a_t_column, .ref a_t_source, .ref a_t_told, .ref a_t_dictionary, .ref a_t_numbers, .ref a_t_commons, .int t_entries, .int t_count, .long t_bodyTold, .int t_check, .int t_coding, .int t_bodySize])), (a_t_source, .inr (5, [.ref a_t_source_bytes, .ref a_t_source_row, .ref a_t_source_widths, .int t_source_at, .int t_source_to, .int o7.2])), (a_t_source_row, .inl (k.1, t_source_row_n, .inl t_source_row)), (a_p1, .inr (6, [.ref a_p1_numbers, .ref a_p1_texts, .ref a_p1_starts, .int p1_ofTexts, .int o8.2.1])), (a_p1_numbers, .inl (k.2.2, p1_numbers_n, .inr (.inl p1_numbers))), (a_p1_starts, .inl (k.2.1, p1_starts_n, .inl o8.2.2.1)), (a_p1_texts, .inl (k.1, p1_texts_n, .inl o8.2.2.2))] := hD
        refine W.eq (g2 := F0 m 92 ls [.int o8.1]) rfl ?_
        refine lv_if_ne (tgt := 104) hx hb d_R_takeText_92 (by decide) (fun c => ?_) (fun c => ?_)
        · have h := iff_at h c
          exact J104 t_source_at o7.2 o8.2.1 o8.2.2.1 o8.2.2.2 _ _ ls hP hD hS (lv_sub hl [1, 4] rfl) h
        · have h := ift_at h c
          refine lv_aload_n hx hb d_R_takeText_95 rfl (lv_at hl 1 rfl) ?_
          refine va_get (D := D) (ci := 4) (v := .ref a_t_source) (C := "PageForm$Reader") (T := F_R) (N := 12) hx hb hts in_R hown hK hP 0 rfl rfl 1 (by decide) (hts _ fl_R_39) (fun _ h9 => h9) rfl d_R_takeText_96 ?_
          refine lv_bipush (v := 7) hx hb d_R_takeText_99 (by decide) ?_
          obtain ⟨o9, ho9, h⟩ := obd_at h
          refine g_V (As := [.int (7 : Int32)]) (rest := []) hx hb hml hown hts hA hK hP hD hS hE (c_S_fail l D k a_t_source a_t_source_bytes a_t_source_row a_t_source_widths t_source_at t_source_to o7.2 (7 : Int32) n o9 ho9) mw_S_fail mi_S_fail ml_R_71 [1] rfl (by decide) rfl rfl rfl 0 rfl rfl rfl rfl rfl hl.1 rfl (Nat.le_of_ble_eq_true rfl) ⟨Nat.zero_le _, Nat.zero_le _⟩ d_R_takeText_101 (fun H locs hP hD hS => ?_)
          have hP : va_P D CL [(a_t, .inr (4, [.ref a_t_column, .ref a_t_source, .ref a_t_told, .ref a_t_dictionary, .ref a_t_numbers, .ref a_t_commons, .int t_entries, .int t_count, .long t_bodyTold, .int t_check, .int t_coding, .int t_bodySize])), (a_t_source, .inr (5, [.ref a_t_source_bytes, .ref a_t_source_row, .ref a_t_source_widths, .int t_source_at, .int t_source_to, .int o9])), (a_t_source_row, .inl (k.1, t_source_row_n, .inl t_source_row)), (a_p1, .inr (6, [.ref a_p1_numbers, .ref a_p1_texts, .ref a_p1_starts, .int p1_ofTexts, .int o8.2.1])), (a_p1_numbers, .inl (k.2.2, p1_numbers_n, .inr (.inl p1_numbers))), (a_p1_starts, .inl (k.2.1, p1_starts_n, .inl o8.2.2.1)), (a_p1_texts, .inl (k.1, p1_texts_n, .inl o8.2.2.2))] H := hP
          have hD : va_D A [(a_t, .inr (4, [.ref a_t_column, .ref a_t_source, .ref a_t_told, .ref a_t_dictionary, .ref a_t_numbers, .ref a_t_commons, .int t_entries, .int t_count, .long t_bodyTold, .int t_check, .int t_coding, .int t_bodySize])), (a_t_source, .inr (5, [.ref a_t_source_bytes, .ref a_t_source_row, .ref a_t_source_widths, .int t_source_at, .int t_source_to, .int o9])), (a_t_source_row, .inl (k.1, t_source_row_n, .inl t_source_row)), (a_p1, .inr (6, [.ref a_p1_numbers, .ref a_p1_texts, .ref a_p1_starts, .int p1_ofTexts, .int o8.2.1])), (a_p1_numbers, .inl (k.2.2, p1_numbers_n, .inr (.inl p1_numbers))), (a_p1_starts, .inl (k.2.1, p1_starts_n, .inl o8.2.2.1)), (a_p1_texts, .inl (k.1, p1_texts_n, .inl o8.2.2.2))] := hD
          refine W.eq (g2 := F0 m 104 ls []) rfl ?_
          exact J104 t_source_at o9 o8.2.1 o8.2.2.1 o8.2.2.2 _ _ ls hP hD hS (lv_sub hl [1, 4] rfl) h
      · have h := ift_at h c
        exact ret2 _ _ _ _ _ (Option.some.inj h) d_R_takeText_68 hP hD hS
    · have h := ift_at h c
      refine lv_aload_n hx hb d_R_takeText_46 rfl (lv_at hl 1 rfl) ?_
      refine va_get (D := D) (ci := 4) (v := .ref a_t_source) (C := "PageForm$Reader") (T := F_R) (N := 12) hx hb hts in_R hown hK hP 0 rfl rfl 1 (by decide) (hts _ fl_R_39) (fun _ h9 => h9) rfl d_R_takeText_47 ?_
      refine lv_bipush (v := 7) hx hb d_R_takeText_50 (by decide) ?_
      obtain ⟨o10, ho10, h⟩ := obd_at h
      refine g_V (As := [.int (7 : Int32)]) (rest := []) hx hb hml hown hts hA hK hP hD hS hE (c_S_fail l D k a_t_source a_t_source_bytes a_t_source_row a_t_source_widths t_source_at t_source_to t_source_fault (7 : Int32) n o10 ho10) mw_S_fail mi_S_fail ml_R_71 [1] rfl (by decide) rfl rfl rfl 0 rfl rfl rfl rfl rfl hl.1 rfl (Nat.le_of_ble_eq_true rfl) ⟨Nat.zero_le _, Nat.zero_le _⟩ d_R_takeText_52 (fun H locs hP hD hS => ?_)
      have hP : va_P D CL [(a_t, .inr (4, [.ref a_t_column, .ref a_t_source, .ref a_t_told, .ref a_t_dictionary, .ref a_t_numbers, .ref a_t_commons, .int t_entries, .int t_count, .long t_bodyTold, .int t_check, .int t_coding, .int t_bodySize])), (a_t_source, .inr (5, [.ref a_t_source_bytes, .ref a_t_source_row, .ref a_t_source_widths, .int t_source_at, .int t_source_to, .int o10])), (a_t_source_row, .inl (k.1, t_source_row_n, .inl t_source_row)), (a_p1, .inr (6, [.ref a_p1_numbers, .ref a_p1_texts, .ref a_p1_starts, .int p1_ofTexts, .int p1_count])), (a_p1_numbers, .inl (k.2.2, p1_numbers_n, .inr (.inl p1_numbers))), (a_p1_starts, .inl (k.2.1, p1_starts_n, .inl p1_starts)), (a_p1_texts, .inl (k.1, p1_texts_n, .inl p1_texts))] H := hP
      have hD : va_D A [(a_t, .inr (4, [.ref a_t_column, .ref a_t_source, .ref a_t_told, .ref a_t_dictionary, .ref a_t_numbers, .ref a_t_commons, .int t_entries, .int t_count, .long t_bodyTold, .int t_check, .int t_coding, .int t_bodySize])), (a_t_source, .inr (5, [.ref a_t_source_bytes, .ref a_t_source_row, .ref a_t_source_widths, .int t_source_at, .int t_source_to, .int o10])), (a_t_source_row, .inl (k.1, t_source_row_n, .inl t_source_row)), (a_p1, .inr (6, [.ref a_p1_numbers, .ref a_p1_texts, .ref a_p1_starts, .int p1_ofTexts, .int p1_count])), (a_p1_numbers, .inl (k.2.2, p1_numbers_n, .inr (.inl p1_numbers))), (a_p1_starts, .inl (k.2.1, p1_starts_n, .inl p1_starts)), (a_p1_texts, .inl (k.1, p1_texts_n, .inl p1_texts))] := hD
      refine W.eq (g2 := F0 m 55 ls []) rfl ?_
      exact ret2 _ _ _ _ _ (Option.some.inj h) d_R_takeText_55 hP hD hS
  have J38 : ∀ (t_source_at : Int32) (t_source_fault : Int32) (p1_count : Int32) (p1_starts : Nat → Int32) (p1_texts : Nat → Int32) (H : Heap) (locs : List Loc) (ls : Array Slot), va_P D CL [(a_t, .inr (4, [.ref a_t_column, .ref a_t_source, .ref a_t_told, .ref a_t_dictionary, .ref a_t_numbers, .ref a_t_commons, .int t_entries, .int t_count, .long t_bodyTold, .int t_check, .int t_coding, .int t_bodySize])), (a_t_source, .inr (5, [.ref a_t_source_bytes, .ref a_t_source_row, .ref a_t_source_widths, .int t_source_at, .int t_source_to, .int t_source_fault])), (a_t_source_row, .inl (k.1, t_source_row_n, .inl t_source_row)), (a_p1, .inr (6, [.ref a_p1_numbers, .ref a_p1_texts, .ref a_p1_starts, .int p1_ofTexts, .int p1_count])), (a_p1_numbers, .inl (k.2.2, p1_numbers_n, .inr (.inl p1_numbers))), (a_p1_starts, .inl (k.2.1, p1_starts_n, .inl p1_starts)), (a_p1_texts, .inl (k.1, p1_texts_n, .inl p1_texts))] H → va_D A [(a_t, .inr (4, [.ref a_t_column, .ref a_t_source, .ref a_t_told, .ref a_t_dictionary, .ref a_t_numbers, .ref a_t_commons, .int t_entries, .int t_count, .long t_bodyTold, .int t_check, .int t_coding, .int t_bodySize])), (a_t_source, .inr (5, [.ref a_t_source_bytes, .ref a_t_source_row, .ref a_t_source_widths, .int t_source_at, .int t_source_to, .int t_source_fault])), (a_t_source_row, .inl (k.1, t_source_row_n, .inl t_source_row)), (a_p1, .inr (6, [.ref a_p1_numbers, .ref a_p1_texts, .ref a_p1_starts, .int p1_ofTexts, .int p1_count])), (a_p1_numbers, .inl (k.2.2, p1_numbers_n, .inr (.inl p1_numbers))), (a_p1_starts, .inl (k.2.1, p1_starts_n, .inl p1_starts)), (a_p1_texts, .inl (k.1, p1_texts_n, .inl p1_texts))] → va_S A s.heap H locs → lv_has ls 7 [(0, .ref a_t), (1, .ref a_p1), (2, .long v2), (4, .long v4)] → f_R_takeText_j38 t_source_row_n p1_numbers_n p1_starts_n p1_texts_n t_source_at t_source_to t_source_fault t_source_row p1_count p1_starts p1_texts v2 v4 = some out → W p l e rm_R_takeText s m args below meth c H locs 0 0 Q (F0 m 38 ls []) := by
    intro t_source_at t_source_fault p1_count p1_starts p1_texts H locs ls hP hD hS hl h
    unfold f_R_takeText_j38 at h
    refine lv_iconst (v := 0) hx hb d_R_takeText_38 (by decide) ?_
    exact J39 t_source_at t_source_fault p1_count p1_starts p1_texts (0 : Int32) _ _ ls hP hD hS (lv_sub hl [0, 1, 2, 3] rfl) h
  unfold f_R_takeText at h
  refine lv_lload_n hx hb d_R_takeText_0 rfl (lv_at hl 2 rfl) ?_
  refine lv_lconst (v := 0) hx hb d_R_takeText_1 (by decide) ?_
  refine W.lcmp hx hb d_R_takeText_2 ?_
  refine lv_if_lt (tgt := 38) hx hb d_R_takeText_3 (by decide) (fun c => ?_) (fun c => ?_)
  · have c := zc_lt.mp c
    have h := ift_at h c
    exact J38 t_source_at t_source_fault p1_count p1_starts p1_texts _ _ ls hP hD hS (lv_sub hl [0, 1, 2, 3] rfl) h
  · have c := mt zc_lt.mpr c
    have h := iff_at h c
    refine lv_lload_n hx hb d_R_takeText_6 rfl (lv_at hl 2 rfl) ?_
    refine lv_aload_n hx hb d_R_takeText_7 rfl (lv_at hl 1 rfl) ?_
    obtain ⟨o11, ho11, h⟩ := obd_at h
    refine g_V (As := []) (rest := [.long v2]) hx hb hml hown hts hA hK hP hD hS hE (c_V_lastSize l D k a_p1 a_p1_numbers a_p1_texts a_p1_starts p1_starts_n p1_ofTexts p1_count p1_starts n o11 ho11) mw_V_lastSize mi_V_lastSize ml_R_124 [3, 5] rfl (by decide) rfl rfl rfl 0 rfl rfl rfl rfl rfl hl.1 rfl (Nat.le_of_ble_eq_true rfl) ⟨Nat.zero_le _, Nat.zero_le _⟩ d_R_takeText_8 (fun H locs hP hD hS => ?_)
    have hP : va_P D CL [(a_t, .inr (4, [.ref a_t_column, .ref a_t_source, .ref a_t_told, .ref a_t_dictionary, .ref a_t_numbers, .ref a_t_commons, .int t_entries, .int t_count, .long t_bodyTold, .int t_check, .int t_coding, .int t_bodySize])), (a_t_source, .inr (5, [.ref a_t_source_bytes, .ref a_t_source_row, .ref a_t_source_widths, .int t_source_at, .int t_source_to, .int t_source_fault])), (a_t_source_row, .inl (k.1, t_source_row_n, .inl t_source_row)), (a_p1, .inr (6, [.ref a_p1_numbers, .ref a_p1_texts, .ref a_p1_starts, .int p1_ofTexts, .int p1_count])), (a_p1_numbers, .inl (k.2.2, p1_numbers_n, .inr (.inl p1_numbers))), (a_p1_starts, .inl (k.2.1, p1_starts_n, .inl p1_starts)), (a_p1_texts, .inl (k.1, p1_texts_n, .inl p1_texts))] H := hP
    have hD : va_D A [(a_t, .inr (4, [.ref a_t_column, .ref a_t_source, .ref a_t_told, .ref a_t_dictionary, .ref a_t_numbers, .ref a_t_commons, .int t_entries, .int t_count, .long t_bodyTold, .int t_check, .int t_coding, .int t_bodySize])), (a_t_source, .inr (5, [.ref a_t_source_bytes, .ref a_t_source_row, .ref a_t_source_widths, .int t_source_at, .int t_source_to, .int t_source_fault])), (a_t_source_row, .inl (k.1, t_source_row_n, .inl t_source_row)), (a_p1, .inr (6, [.ref a_p1_numbers, .ref a_p1_texts, .ref a_p1_starts, .int p1_ofTexts, .int p1_count])), (a_p1_numbers, .inl (k.2.2, p1_numbers_n, .inr (.inl p1_numbers))), (a_p1_starts, .inl (k.2.1, p1_starts_n, .inl p1_starts)), (a_p1_texts, .inl (k.1, p1_texts_n, .inl p1_texts))] := hD
    refine W.eq (g2 := F0 m 11 ls [.int o11, .long v2]) rfl ?_
    refine lv_i2l hx hb d_R_takeText_11 rfl ?_
    refine W.lcmp hx hb d_R_takeText_12 ?_
    refine lv_if_gt (tgt := 38) hx hb d_R_takeText_13 (by decide) (fun c => ?_) (fun c => ?_)
    · have c := zc_gt.mp c
      have h := ift_at h c
      exact J38 t_source_at t_source_fault p1_count p1_starts p1_texts _ _ ls hP hD hS (lv_sub hl [0, 1, 2, 3] rfl) h
    · have c := mt zc_gt.mpr c
      have h := iff_at h c
      refine lv_lload hx hb d_R_takeText_16 (lv_at hl 3 rfl) ?_
      refine lv_lconst (v := 0) hx hb d_R_takeText_18 (by decide) ?_
      refine W.lcmp hx hb d_R_takeText_19 ?_
      refine lv_if_lt (tgt := 38) hx hb d_R_takeText_20 (by decide) (fun c => ?_) (fun c => ?_)
      · have c := zc_lt.mp c
        have h := ift_at h c
        exact J38 t_source_at t_source_fault p1_count p1_starts p1_texts _ _ ls hP hD hS (lv_sub hl [0, 1, 2, 3] rfl) h
      · have c := mt zc_lt.mpr c
        have h := iff_at h c
        refine lv_lload hx hb d_R_takeText_23 (lv_at hl 3 rfl) ?_
        refine lv_ldc2 (v := 255) hx hb hown (hts _ kc_R_127) d_R_takeText_25 ?_
        refine lv_lload_n hx hb d_R_takeText_28 rfl (lv_at hl 2 rfl) ?_
        refine lv_lsub hx hb d_R_takeText_29 ?_
        refine W.lcmp hx hb d_R_takeText_30 ?_
        refine lv_if_gt (tgt := 38) hx hb d_R_takeText_31 (by decide) (fun c => ?_) (fun c => ?_)
        · have c := zc_gt.mp c
          have h := ift_at h c
          exact J38 t_source_at t_source_fault p1_count p1_starts p1_texts _ _ ls hP hD hS (lv_sub hl [0, 1, 2, 3] rfl) h
        · have c := mt zc_gt.mpr c
          have h := iff_at h c
          refine lv_iconst (v := 1) hx hb d_R_takeText_34 (by decide) ?_
          refine lv_goto (tgt := 39) hx hb d_R_takeText_35 (by decide) ?_
          exact J39 t_source_at t_source_fault p1_count p1_starts p1_texts (1 : Int32) _ _ ls hP hD hS (lv_sub hl [0, 1, 2, 3] rfl) h

