def rm_M_fixed : Room := { frames := 0, cells := 0, slots := 0, locals := 0 }
def f_M_fixed_j68 (t_at : Int32) (t_fault : Int32) (v1 : Int32) (v3 : Int64) : Option (Int64 × Int32 × Int32) :=
  bnd (t_at + v1) (fun x2 => some (v3, x2, t_fault))
def f_M_fixed_l38 (t_input_n : Nat) (t_at : Int32) (t_input : Nat → Int32) (v3 : Int64) (v5 : Int32) : Option ((Int64 × Int32) ⊕ ((Int64 × Int32))) :=
  (if v5 < 0 then some (Sum.inr ((v3, v5))) else gd (inB (t_at + v5) t_input_n) (bnd ((v3 <<< ((8 : Int32).toInt64 &&& 63)) ||| (t_input (t_at + v5).toNatClampNeg).toInt64) (fun x6 => bnd (v5 + (-1 : Int32)) (fun x7 => some (Sum.inl (x6, x7))))))
def f_M_fixed_j22 (n : Nat) (t_input_n : Nat) (t_at : Int32) (t_fault : Int32) (t_input : Nat → Int32) (v1 : Int32) : Option (Int64 × Int32 × Int32) :=
  (if t_fault = 0 then bnd (v1 - (1 : Int32)) (fun x13 => Option.bind (lp (fun v => f_M_fixed_l38 t_input_n t_at t_input v.1 v.2) n ((0 : Int64), x13)) (fun o => f_M_fixed_j68 t_at t_fault v1 o.1)) else some ((0 : Int64), t_at, t_fault))
def f_M_fixed (n : Nat) (t_input_n : Nat) (t_at : Int32) (t_fault : Int32) (t_input : Nat → Int32) (v1 : Int32) (v2 : Int32) : Option (Int64 × Int32 × Int32) :=
  (if t_fault = 0 then (if v1 ≤ (v2 - t_at) then f_M_fixed_j22 n t_input_n t_at t_fault t_input v1 else f_M_fixed_j22 n t_input_n t_at (1 : Int32) t_input v1) else f_M_fixed_j22 n t_input_n t_at t_fault t_input v1)
set_option maxHeartbeats 4000000 in
set_option maxRecDepth 100000 in
theorem c_M_fixed (l : Launch) (D : va_G) (k : ClassId × ClassId × ClassId) (a_t a_t_repetitions a_t_definitions a_t_newRepetitions a_t_newDefinitions a_t_wholes a_t_newWholes a_t_words8 a_t_from a_t_newFrom a_t_wordFrom a_t_bytes a_t_newBytes a_t_wordBytes a_t_tape a_t_input a_t_out a_t_body a_t_longs a_t_numbers a_t_common a_t_more a_t_told2 a_t_toldSize a_t_toldBytes : Nat) (t_input_n : Nat) (t_code : Int32) (t_type : Int32) (t_mostR : Int32) (t_mostD : Int32) (t_entries : Int32) (t_values : Int32) (t_coding : Int32) (t_bodySize : Int32) (t_newCount : Int32) (t_words : Int32) (t_taped : Int32) (t_inputSize : Int32) (t_outSize : Int32) (t_at : Int32) (t_stop : Int32) (t_fault : Int32) (t_longCount : Int32) (t_input : Nat → Int32) (v1 : Int32) (v2 : Int32) (n : Nat) (out : Int64 × Int32 × Int32) (h : f_M_fixed n t_input_n t_at t_fault t_input v1 v2 = some out) : Ct l D k y_M_fixed b_M_fixed 6 (some .long) rm_M_fixed [.ref a_t, .int v1, .int v2] [(a_t, .inr (9, [.int t_code, .int t_type, .int t_mostR, .int t_mostD, .int t_entries, .int t_values, .int t_coding, .int t_bodySize, .ref a_t_repetitions, .ref a_t_definitions, .ref a_t_newRepetitions, .ref a_t_newDefinitions, .ref a_t_wholes, .ref a_t_newWholes, .ref a_t_words8, .ref a_t_from, .ref a_t_newFrom, .ref a_t_wordFrom, .ref a_t_bytes, .ref a_t_newBytes, .ref a_t_wordBytes, .int t_newCount, .int t_words, .ref a_t_tape, .ref a_t_input, .ref a_t_out, .ref a_t_body, .int t_taped, .int t_inputSize, .int t_outSize, .int t_at, .int t_stop, .int t_fault, .ref a_t_longs, .int t_longCount, .ref a_t_numbers, .ref a_t_common, .ref a_t_more, .ref a_t_told2, .ref a_t_toldSize, .ref a_t_toldBytes])), (a_t_input, .inl (k.2.1, t_input_n, .inl t_input))] [(a_t, .inr (9, [.int t_code, .int t_type, .int t_mostR, .int t_mostD, .int t_entries, .int t_values, .int t_coding, .int t_bodySize, .ref a_t_repetitions, .ref a_t_definitions, .ref a_t_newRepetitions, .ref a_t_newDefinitions, .ref a_t_wholes, .ref a_t_newWholes, .ref a_t_words8, .ref a_t_from, .ref a_t_newFrom, .ref a_t_wordFrom, .ref a_t_bytes, .ref a_t_newBytes, .ref a_t_wordBytes, .int t_newCount, .int t_words, .ref a_t_tape, .ref a_t_input, .ref a_t_out, .ref a_t_body, .int t_taped, .int t_inputSize, .int t_outSize, .int out.2.1, .int t_stop, .int out.2.2, .ref a_t_longs, .int t_longCount, .ref a_t_numbers, .ref a_t_common, .ref a_t_more, .ref a_t_told2, .ref a_t_toldSize, .ref a_t_toldBytes])), (a_t_input, .inl (k.2.1, t_input_n, .inl t_input))] (some (.long out.1)) := by
  refine Ct.ofL (by decide) (Nat.le_of_ble_eq_true rfl) ?_
  intro p e s m args below meth c A Q ls hx hb hml hown hts hA hK hP hD hS hE hl ret
  have hown : s.vm.findClass "PageFormModel" = some m.cls := hown
  have hl : lv_has ls 6 [(0, .ref a_t), (1, .int v1), (2, .int v2)] := hl
  have ret2 : ∀ (y0 : Int64) (y1 : Int32) (y2 : Int32) (_ : (y0, y1, y2) = out) {pc : Nat} {ls : Array Slot} {H : Heap} {locs : List Loc}, decode b_M_fixed pc = .ok (.lreturn, 1) → va_P D CL [(a_t, .inr (9, [.int t_code, .int t_type, .int t_mostR, .int t_mostD, .int t_entries, .int t_values, .int t_coding, .int t_bodySize, .ref a_t_repetitions, .ref a_t_definitions, .ref a_t_newRepetitions, .ref a_t_newDefinitions, .ref a_t_wholes, .ref a_t_newWholes, .ref a_t_words8, .ref a_t_from, .ref a_t_newFrom, .ref a_t_wordFrom, .ref a_t_bytes, .ref a_t_newBytes, .ref a_t_wordBytes, .int t_newCount, .int t_words, .ref a_t_tape, .ref a_t_input, .ref a_t_out, .ref a_t_body, .int t_taped, .int t_inputSize, .int t_outSize, .int y1, .int t_stop, .int y2, .ref a_t_longs, .int t_longCount, .ref a_t_numbers, .ref a_t_common, .ref a_t_more, .ref a_t_told2, .ref a_t_toldSize, .ref a_t_toldBytes])), (a_t_input, .inl (k.2.1, t_input_n, .inl t_input))] H → va_D A [(a_t, .inr (9, [.int t_code, .int t_type, .int t_mostR, .int t_mostD, .int t_entries, .int t_values, .int t_coding, .int t_bodySize, .ref a_t_repetitions, .ref a_t_definitions, .ref a_t_newRepetitions, .ref a_t_newDefinitions, .ref a_t_wholes, .ref a_t_newWholes, .ref a_t_words8, .ref a_t_from, .ref a_t_newFrom, .ref a_t_wordFrom, .ref a_t_bytes, .ref a_t_newBytes, .ref a_t_wordBytes, .int t_newCount, .int t_words, .ref a_t_tape, .ref a_t_input, .ref a_t_out, .ref a_t_body, .int t_taped, .int t_inputSize, .int t_outSize, .int y1, .int t_stop, .int y2, .ref a_t_longs, .int t_longCount, .ref a_t_numbers, .ref a_t_common, .ref a_t_more, .ref a_t_told2, .ref a_t_toldSize, .ref a_t_toldBytes])), (a_t_input, .inl (k.2.1, t_input_n, .inl t_input))] → va_S A s.heap H locs → W p l e rm_M_fixed s m args below meth c H locs 0 0 Q (F0 m pc ls [.long y0]) := by
    intro y0 y1 y2 e0; subst e0; exact ret
  clear ret
  have J68 : ∀ (t_at : Int32) (t_fault : Int32) (v3 : Int64) (H : Heap) (locs : List Loc) (ls : Array Slot), va_P D CL [(a_t, .inr (9, [.int t_code, .int t_type, .int t_mostR, .int t_mostD, .int t_entries, .int t_values, .int t_coding, .int t_bodySize, .ref a_t_repetitions, .ref a_t_definitions, .ref a_t_newRepetitions, .ref a_t_newDefinitions, .ref a_t_wholes, .ref a_t_newWholes, .ref a_t_words8, .ref a_t_from, .ref a_t_newFrom, .ref a_t_wordFrom, .ref a_t_bytes, .ref a_t_newBytes, .ref a_t_wordBytes, .int t_newCount, .int t_words, .ref a_t_tape, .ref a_t_input, .ref a_t_out, .ref a_t_body, .int t_taped, .int t_inputSize, .int t_outSize, .int t_at, .int t_stop, .int t_fault, .ref a_t_longs, .int t_longCount, .ref a_t_numbers, .ref a_t_common, .ref a_t_more, .ref a_t_told2, .ref a_t_toldSize, .ref a_t_toldBytes])), (a_t_input, .inl (k.2.1, t_input_n, .inl t_input))] H → va_D A [(a_t, .inr (9, [.int t_code, .int t_type, .int t_mostR, .int t_mostD, .int t_entries, .int t_values, .int t_coding, .int t_bodySize, .ref a_t_repetitions, .ref a_t_definitions, .ref a_t_newRepetitions, .ref a_t_newDefinitions, .ref a_t_wholes, .ref a_t_newWholes, .ref a_t_words8, .ref a_t_from, .ref a_t_newFrom, .ref a_t_wordFrom, .ref a_t_bytes, .ref a_t_newBytes, .ref a_t_wordBytes, .int t_newCount, .int t_words, .ref a_t_tape, .ref a_t_input, .ref a_t_out, .ref a_t_body, .int t_taped, .int t_inputSize, .int t_outSize, .int t_at, .int t_stop, .int t_fault, .ref a_t_longs, .int t_longCount, .ref a_t_numbers, .ref a_t_common, .ref a_t_more, .ref a_t_told2, .ref a_t_toldSize, .ref a_t_toldBytes])), (a_t_input, .inl (k.2.1, t_input_n, .inl t_input))] → va_S A s.heap H locs → lv_has ls 6 [(0, .ref a_t), (1, .int v1), (3, .long v3)] → f_M_fixed_j68 t_at t_fault v1 v3 = some out → W p l e rm_M_fixed s m args below meth c H locs 0 0 Q (F0 m 68 ls []) := by
    intro t_at t_fault v3 H locs ls hP hD hS hl h
    unfold f_M_fixed_j68 at h
    refine lv_aload_n hx hb d_M_fixed_68 rfl (lv_at hl 0 rfl) ?_
    refine lv_dup hx hb d_M_fixed_69 rfl ?_
    refine va_get (D := D) (ci := 9) (v := .int t_at) (C := "PageFormModel") (T := F_M) (N := 41) hx hb hts in_M hown hK hP 0 rfl rfl 30 (by decide) (hts _ fl_M_94) (fun _ h9 => h9) rfl d_M_fixed_70 ?_
    refine lv_iload_n hx hb d_M_fixed_73 rfl (lv_at hl 1 rfl) ?_
    refine lv_iadd hx hb d_M_fixed_74 ?_
    refine lv_topi (fun x2 ex2 => ?_)
    have h := bnd_at h ex2
    refine va_put (D := D) (ci := 9) (v := .int x2) (ty := .int) (C := "PageFormModel") (T := F_M) (N := 41) hx hb hts in_M t_M t_M_ok n_M hown hK hP hD hS 0 rfl rfl 30 (by decide) (hts _ fl_M_94) (fun _ h9 => h9) rfl (by decide +kernel) rfl rfl (Nat.le_of_ble_eq_true rfl) d_M_fixed_75 (fun H locs hP hD hS => ?_)
    have hP : va_P D CL [(a_t, .inr (9, [.int t_code, .int t_type, .int t_mostR, .int t_mostD, .int t_entries, .int t_values, .int t_coding, .int t_bodySize, .ref a_t_repetitions, .ref a_t_definitions, .ref a_t_newRepetitions, .ref a_t_newDefinitions, .ref a_t_wholes, .ref a_t_newWholes, .ref a_t_words8, .ref a_t_from, .ref a_t_newFrom, .ref a_t_wordFrom, .ref a_t_bytes, .ref a_t_newBytes, .ref a_t_wordBytes, .int t_newCount, .int t_words, .ref a_t_tape, .ref a_t_input, .ref a_t_out, .ref a_t_body, .int t_taped, .int t_inputSize, .int t_outSize, .int x2, .int t_stop, .int t_fault, .ref a_t_longs, .int t_longCount, .ref a_t_numbers, .ref a_t_common, .ref a_t_more, .ref a_t_told2, .ref a_t_toldSize, .ref a_t_toldBytes])), (a_t_input, .inl (k.2.1, t_input_n, .inl t_input))] H := hP
    have hD : va_D A [(a_t, .inr (9, [.int t_code, .int t_type, .int t_mostR, .int t_mostD, .int t_entries, .int t_values, .int t_coding, .int t_bodySize, .ref a_t_repetitions, .ref a_t_definitions, .ref a_t_newRepetitions, .ref a_t_newDefinitions, .ref a_t_wholes, .ref a_t_newWholes, .ref a_t_words8, .ref a_t_from, .ref a_t_newFrom, .ref a_t_wordFrom, .ref a_t_bytes, .ref a_t_newBytes, .ref a_t_wordBytes, .int t_newCount, .int t_words, .ref a_t_tape, .ref a_t_input, .ref a_t_out, .ref a_t_body, .int t_taped, .int t_inputSize, .int t_outSize, .int x2, .int t_stop, .int t_fault, .ref a_t_longs, .int t_longCount, .ref a_t_numbers, .ref a_t_common, .ref a_t_more, .ref a_t_told2, .ref a_t_toldSize, .ref a_t_toldBytes])), (a_t_input, .inl (k.2.1, t_input_n, .inl t_input))] := hD
    refine lv_lload_n hx hb d_M_fixed_78 rfl (lv_at hl 2 rfl) ?_
    exact ret2 _ _ _ (Option.some.inj h) d_M_fixed_79 hP hD hS
  have L38 : ∀ (K : Nat) (t_at : Int32) (t_fault : Int32) (v3 : Int64) (v5 : Int32) (o : (Int64 × Int32)) (H : Heap) (locs : List Loc) (ls : Array Slot), va_P D CL [(a_t, .inr (9, [.int t_code, .int t_type, .int t_mostR, .int t_mostD, .int t_entries, .int t_values, .int t_coding, .int t_bodySize, .ref a_t_repetitions, .ref a_t_definitions, .ref a_t_newRepetitions, .ref a_t_newDefinitions, .ref a_t_wholes, .ref a_t_newWholes, .ref a_t_words8, .ref a_t_from, .ref a_t_newFrom, .ref a_t_wordFrom, .ref a_t_bytes, .ref a_t_newBytes, .ref a_t_wordBytes, .int t_newCount, .int t_words, .ref a_t_tape, .ref a_t_input, .ref a_t_out, .ref a_t_body, .int t_taped, .int t_inputSize, .int t_outSize, .int t_at, .int t_stop, .int t_fault, .ref a_t_longs, .int t_longCount, .ref a_t_numbers, .ref a_t_common, .ref a_t_more, .ref a_t_told2, .ref a_t_toldSize, .ref a_t_toldBytes])), (a_t_input, .inl (k.2.1, t_input_n, .inl t_input))] H → va_D A [(a_t, .inr (9, [.int t_code, .int t_type, .int t_mostR, .int t_mostD, .int t_entries, .int t_values, .int t_coding, .int t_bodySize, .ref a_t_repetitions, .ref a_t_definitions, .ref a_t_newRepetitions, .ref a_t_newDefinitions, .ref a_t_wholes, .ref a_t_newWholes, .ref a_t_words8, .ref a_t_from, .ref a_t_newFrom, .ref a_t_wordFrom, .ref a_t_bytes, .ref a_t_newBytes, .ref a_t_wordBytes, .int t_newCount, .int t_words, .ref a_t_tape, .ref a_t_input, .ref a_t_out, .ref a_t_body, .int t_taped, .int t_inputSize, .int t_outSize, .int t_at, .int t_stop, .int t_fault, .ref a_t_longs, .int t_longCount, .ref a_t_numbers, .ref a_t_common, .ref a_t_more, .ref a_t_told2, .ref a_t_toldSize, .ref a_t_toldBytes])), (a_t_input, .inl (k.2.1, t_input_n, .inl t_input))] → va_S A s.heap H locs → lv_has ls 6 [(0, .ref a_t), (1, .int v1), (3, .long v3), (5, .int v5)] → lp (fun v => f_M_fixed_l38 t_input_n t_at t_input v.1 v.2) K (v3, v5) = some o → (fun o => f_M_fixed_j68 t_at t_fault v1 o.1) o = some out → W p l e rm_M_fixed s m args below meth c H locs 0 0 Q (F0 m 38 ls []) := by
    intro K
    induction K with
    | zero => intros; exact absurd (by assumption) lp_no
    | succ K ih38 =>
      intro t_at t_fault v3 v5 o H locs ls hP hD hS hl h0 hx38
      obtain ⟨b38, h, hc38⟩ := lp_at h0
      have h : f_M_fixed_l38 t_input_n t_at t_input v3 v5 = some b38 := h
      unfold f_M_fixed_l38 at h
      refine lv_iload hx hb d_M_fixed_38 (lv_at hl 3 rfl) ?_
      refine lv_if_lt (tgt := 68) hx hb d_M_fixed_40 (by decide) (fun c => ?_) (fun c => ?_)
      · have h := ift_at h c
        obtain rfl := lp_out h hc38
        exact J68 t_at t_fault v3 _ _ ls hP hD hS (lv_sub hl [0, 1, 2] rfl) hx38
      · have h := iff_at h c
        refine lv_lload_n hx hb d_M_fixed_43 rfl (lv_at hl 2 rfl) ?_
        refine lv_bipush (v := 8) hx hb d_M_fixed_44 (by decide) ?_
        refine lv_lshl hx hb d_M_fixed_46 rfl ?_
        refine lv_aload_n hx hb d_M_fixed_47 rfl (lv_at hl 0 rfl) ?_
        refine va_get (D := D) (ci := 9) (v := .ref a_t_input) (C := "PageFormModel") (T := F_M) (N := 41) hx hb hts in_M hown hK hP 0 rfl rfl 24 (by decide) (hts _ fl_M_53) (fun _ h9 => h9) rfl d_M_fixed_48 ?_
        refine lv_aload_n hx hb d_M_fixed_51 rfl (lv_at hl 0 rfl) ?_
        refine va_get (D := D) (ci := 9) (v := .int t_at) (C := "PageFormModel") (T := F_M) (N := 41) hx hb hts in_M hown hK hP 0 rfl rfl 30 (by decide) (hts _ fl_M_94) (fun _ h9 => h9) rfl d_M_fixed_52 ?_
        refine lv_iload hx hb d_M_fixed_55 (lv_at hl 3 rfl) ?_
        refine lv_iadd hx hb d_M_fixed_57 ?_
        obtain ⟨g5, h⟩ := gd_at h
        refine va_iald hx hb hK hP 1 1 rfl rfl (inB_in g5) d_M_fixed_58 ?_
        refine lv_i2l hx hb d_M_fixed_59 rfl ?_
        refine lv_lor hx hb d_M_fixed_60 ?_
        refine lv_topl (fun x6 ex6 => ?_)
        have h := bnd_at h ex6
        refine lv_lstore_n (lv' := [(3, .long x6), (0, .ref a_t), (1, .int v1), (5, .int v5)]) hx hb d_M_fixed_61 rfl hl (by decide) rfl (fun ls hl => ?_)
        obtain ⟨x7, ex7⟩ : ∃ z : Int32, z = v5 + (-1 : Int32) := ⟨_, rfl⟩
        have h := bnd_at h ex7
        refine lv_iinc (v := x7) (lv' := [(5, .int x7), (3, .long x6), (0, .ref a_t), (1, .int v1)]) hx hb d_M_fixed_62 hl (k := 3) rfl (by rw [ex7]; rfl) (by decide) rfl (fun ls hl => ?_)
        refine lv_goto (tgt := 38) hx hb d_M_fixed_65 (by decide) ?_
        have h := lp_go h hc38
        exact ih38 t_at t_fault x6 x7 o _ _ ls hP hD hS (lv_sub hl [2, 3, 1, 0] rfl) h hx38
  have J22 : ∀ (t_at : Int32) (t_fault : Int32) (H : Heap) (locs : List Loc) (ls : Array Slot), va_P D CL [(a_t, .inr (9, [.int t_code, .int t_type, .int t_mostR, .int t_mostD, .int t_entries, .int t_values, .int t_coding, .int t_bodySize, .ref a_t_repetitions, .ref a_t_definitions, .ref a_t_newRepetitions, .ref a_t_newDefinitions, .ref a_t_wholes, .ref a_t_newWholes, .ref a_t_words8, .ref a_t_from, .ref a_t_newFrom, .ref a_t_wordFrom, .ref a_t_bytes, .ref a_t_newBytes, .ref a_t_wordBytes, .int t_newCount, .int t_words, .ref a_t_tape, .ref a_t_input, .ref a_t_out, .ref a_t_body, .int t_taped, .int t_inputSize, .int t_outSize, .int t_at, .int t_stop, .int t_fault, .ref a_t_longs, .int t_longCount, .ref a_t_numbers, .ref a_t_common, .ref a_t_more, .ref a_t_told2, .ref a_t_toldSize, .ref a_t_toldBytes])), (a_t_input, .inl (k.2.1, t_input_n, .inl t_input))] H → va_D A [(a_t, .inr (9, [.int t_code, .int t_type, .int t_mostR, .int t_mostD, .int t_entries, .int t_values, .int t_coding, .int t_bodySize, .ref a_t_repetitions, .ref a_t_definitions, .ref a_t_newRepetitions, .ref a_t_newDefinitions, .ref a_t_wholes, .ref a_t_newWholes, .ref a_t_words8, .ref a_t_from, .ref a_t_newFrom, .ref a_t_wordFrom, .ref a_t_bytes, .ref a_t_newBytes, .ref a_t_wordBytes, .int t_newCount, .int t_words, .ref a_t_tape, .ref a_t_input, .ref a_t_out, .ref a_t_body, .int t_taped, .int t_inputSize, .int t_outSize, .int t_at, .int t_stop, .int t_fault, .ref a_t_longs, .int t_longCount, .ref a_t_numbers, .ref a_t_common, .ref a_t_more, .ref a_t_told2, .ref a_t_toldSize, .ref a_t_toldBytes])), (a_t_input, .inl (k.2.1, t_input_n, .inl t_input))] → va_S A s.heap H locs → lv_has ls 6 [(0, .ref a_t), (1, .int v1)] → f_M_fixed_j22 n t_input_n t_at t_fault t_input v1 = some out → W p l e rm_M_fixed s m args below meth c H locs 0 0 Q (F0 m 22 ls []) := by
    intro t_at t_fault H locs ls hP hD hS hl h
    unfold f_M_fixed_j22 at h
    refine lv_aload_n hx hb d_M_fixed_22 rfl (lv_at hl 0 rfl) ?_
    refine va_get (D := D) (ci := 9) (v := .int t_fault) (C := "PageFormModel") (T := F_M) (N := 41) hx hb hts in_M hown hK hP 0 rfl rfl 32 (by decide) (hts _ fl_M_91) (fun _ h9 => h9) rfl d_M_fixed_23 ?_
    refine lv_if_eq (tgt := 31) hx hb d_M_fixed_26 (by decide) (fun c => ?_) (fun c => ?_)
    · have h := ift_at h c
      refine lv_lconst (v := 0) hx hb d_M_fixed_31 (by decide) ?_
      refine lv_lstore_n (lv' := [(3, .long (0 : Int64)), (0, .ref a_t), (1, .int v1)]) hx hb d_M_fixed_32 rfl hl (by decide) rfl (fun ls hl => ?_)
      refine lv_iload_n hx hb d_M_fixed_33 rfl (lv_at hl 2 rfl) ?_
      refine lv_iconst (v := 1) hx hb d_M_fixed_34 (by decide) ?_
      refine lv_isub hx hb d_M_fixed_35 ?_
      refine lv_topi (fun x13 ex13 => ?_)
      have h := bnd_at h ex13
      refine lv_istore (lv' := [(5, .int x13), (3, .long (0 : Int64)), (0, .ref a_t), (1, .int v1)]) hx hb d_M_fixed_36 hl (by decide) rfl (fun ls hl => ?_)
      obtain ⟨o14, ho14, h⟩ := obd_at h
      exact L38 n t_at t_fault (0 : Int64) x13 o14 _ _ ls hP hD hS (lv_sub hl [2, 3, 1, 0] rfl) ho14 h
    · have h := iff_at h c
      refine lv_lconst (v := 0) hx hb d_M_fixed_29 (by decide) ?_
      exact ret2 _ _ _ (Option.some.inj h) d_M_fixed_30 hP hD hS
  unfold f_M_fixed at h
  refine lv_aload_n hx hb d_M_fixed_0 rfl (lv_at hl 0 rfl) ?_
  refine va_get (D := D) (ci := 9) (v := .int t_fault) (C := "PageFormModel") (T := F_M) (N := 41) hx hb hts in_M hown hK hP 0 rfl rfl 32 (by decide) (hts _ fl_M_91) (fun _ h9 => h9) rfl d_M_fixed_1 ?_
  refine lv_if_ne (tgt := 22) hx hb d_M_fixed_4 (by decide) (fun c => ?_) (fun c => ?_)
  · have h := iff_at h c
    exact J22 t_at t_fault _ _ ls hP hD hS (lv_sub hl [0, 1] rfl) h
  · have h := ift_at h c
    refine lv_iload_n hx hb d_M_fixed_7 rfl (lv_at hl 2 rfl) ?_
    refine lv_aload_n hx hb d_M_fixed_8 rfl (lv_at hl 0 rfl) ?_
    refine va_get (D := D) (ci := 9) (v := .int t_at) (C := "PageFormModel") (T := F_M) (N := 41) hx hb hts in_M hown hK hP 0 rfl rfl 30 (by decide) (hts _ fl_M_94) (fun _ h9 => h9) rfl d_M_fixed_9 ?_
    refine lv_isub hx hb d_M_fixed_12 ?_
    refine lv_iload_n hx hb d_M_fixed_13 rfl (lv_at hl 1 rfl) ?_
    refine lv_icmp_ge (tgt := 22) hx hb d_M_fixed_14 (by decide) (fun c => ?_) (fun c => ?_)
    · have h := ift_at h c
      exact J22 t_at t_fault _ _ ls hP hD hS (lv_sub hl [0, 1] rfl) h
    · have h := iff_at h c
      refine lv_aload_n hx hb d_M_fixed_17 rfl (lv_at hl 0 rfl) ?_
      refine lv_iconst (v := 1) hx hb d_M_fixed_18 (by decide) ?_
      refine va_put (D := D) (ci := 9) (v := .int (1 : Int32)) (ty := .int) (C := "PageFormModel") (T := F_M) (N := 41) hx hb hts in_M t_M t_M_ok n_M hown hK hP hD hS 0 rfl rfl 32 (by decide) (hts _ fl_M_91) (fun _ h9 => h9) rfl (by decide +kernel) rfl rfl (Nat.le_of_ble_eq_true rfl) d_M_fixed_19 (fun H locs hP hD hS => ?_)
      have hP : va_P D CL [(a_t, .inr (9, [.int t_code, .int t_type, .int t_mostR, .int t_mostD, .int t_entries, .int t_values, .int t_coding, .int t_bodySize, .ref a_t_repetitions, .ref a_t_definitions, .ref a_t_newRepetitions, .ref a_t_newDefinitions, .ref a_t_wholes, .ref a_t_newWholes, .ref a_t_words8, .ref a_t_from, .ref a_t_newFrom, .ref a_t_wordFrom, .ref a_t_bytes, .ref a_t_newBytes, .ref a_t_wordBytes, .int t_newCount, .int t_words, .ref a_t_tape, .ref a_t_input, .ref a_t_out, .ref a_t_body, .int t_taped, .int t_inputSize, .int t_outSize, .int t_at, .int t_stop, .int (1 : Int32), .ref a_t_longs, .int t_longCount, .ref a_t_numbers, .ref a_t_common, .ref a_t_more, .ref a_t_told2, .ref a_t_toldSize, .ref a_t_toldBytes])), (a_t_input, .inl (k.2.1, t_input_n, .inl t_input))] H := hP
      have hD : va_D A [(a_t, .inr (9, [.int t_code, .int t_type, .int t_mostR, .int t_mostD, .int t_entries, .int t_values, .int t_coding, .int t_bodySize, .ref a_t_repetitions, .ref a_t_definitions, .ref a_t_newRepetitions, .ref a_t_newDefinitions, .ref a_t_wholes, .ref a_t_newWholes, .ref a_t_words8, .ref a_t_from, .ref a_t_newFrom, .ref a_t_wordFrom, .ref a_t_bytes, .ref a_t_newBytes, .ref a_t_wordBytes, .int t_newCount, .int t_words, .ref a_t_tape, .ref a_t_input, .ref a_t_out, .ref a_t_body, .int t_taped, .int t_inputSize, .int t_outSize, .int t_at, .int t_stop, .int (1 : Int32), .ref a_t_longs, .int t_longCount, .ref a_t_numbers, .ref a_t_common, .ref a_t_more, .ref a_t_told2, .ref a_t_toldSize, .ref a_t_toldBytes])), (a_t_input, .inl (k.2.1, t_input_n, .inl t_input))] := hD
      exact J22 t_at (1 : Int32) _ _ ls hP hD hS (lv_sub hl [0, 1] rfl) h

def rm_M_alike : Room := { frames := 0, cells := 0, slots := 0, locals := 0 }
def f_M_alike_l2 (p1_n : Nat) (p1 : Nat → Int32) (v1 : Int32) (v2 : Int32) (v3 : Int32) : Option ((Int32) ⊕ ((Int32))) :=
  (if v2 ≤ v3 then some (Sum.inr ((v3 - v1))) else gd (inB v3 p1_n) (gd (inB v1 p1_n) ((if (p1 v3.toNatClampNeg) = (p1 v1.toNatClampNeg) then bnd (v3 + (1 : Int32)) (fun x7 => some (Sum.inl x7)) else some (Sum.inr ((v3 - v1)))))))
def f_M_alike (n : Nat) (p1_n : Nat) (p1 : Nat → Int32) (v1 : Int32) (v2 : Int32) : Option (Int32) :=
  Option.bind (lp (fun v => f_M_alike_l2 p1_n p1 v1 v2 v) n v1) (fun o => some o)
set_option maxHeartbeats 4000000 in
set_option maxRecDepth 100000 in
theorem c_M_alike (l : Launch) (D : va_G) (k : ClassId × ClassId × ClassId) (a_p1 : Nat) (p1_n : Nat) (p1 : Nat → Int32) (v1 : Int32) (v2 : Int32) (n : Nat) (out : Int32) (h : f_M_alike n p1_n p1 v1 v2 = some out) : Ct l D k y_M_alike b_M_alike 4 (some .int) rm_M_alike [.ref a_p1, .int v1, .int v2] [(a_p1, .inl (k.2.1, p1_n, .inl p1))] [(a_p1, .inl (k.2.1, p1_n, .inl p1))] (some (.int out)) := by
  refine Ct.ofI (by decide) (Nat.le_of_ble_eq_true rfl) ?_
  intro p e s m args below meth c A Q ls hx hb hml hown hts hA hK hP hD hS hE hl ret
  have hown : s.vm.findClass "PageFormModel" = some m.cls := hown
  have hl : lv_has ls 4 [(0, .ref a_p1), (1, .int v1), (2, .int v2)] := hl
  have ret2 : ∀ (y0 : Int32) (_ : y0 = out) {pc : Nat} {ls : Array Slot} {H : Heap} {locs : List Loc}, decode b_M_alike pc = .ok (.ireturn, 1) → va_P D CL [(a_p1, .inl (k.2.1, p1_n, .inl p1))] H → va_D A [(a_p1, .inl (k.2.1, p1_n, .inl p1))] → va_S A s.heap H locs → W p l e rm_M_alike s m args below meth c H locs 0 0 Q (F0 m pc ls [.int y0]) := by
    intro y0 e0; subst e0; exact ret
  clear ret
  have L2 : ∀ (K : Nat) (v3 : Int32) (o : (Int32)) (H : Heap) (locs : List Loc) (ls : Array Slot), va_P D CL [(a_p1, .inl (k.2.1, p1_n, .inl p1))] H → va_D A [(a_p1, .inl (k.2.1, p1_n, .inl p1))] → va_S A s.heap H locs → lv_has ls 4 [(0, .ref a_p1), (1, .int v1), (2, .int v2), (3, .int v3)] → lp (fun v => f_M_alike_l2 p1_n p1 v1 v2 v) K v3 = some o → (fun o => some o) o = some out → W p l e rm_M_alike s m args below meth c H locs 0 0 Q (F0 m 2 ls []) := by
    intro K
    induction K with
    | zero => intros; exact absurd (by assumption) lp_no
    | succ K ih2 =>
      intro v3 o H locs ls hP hD hS hl h0 hx2
      obtain ⟨b2, h, hc2⟩ := lp_at h0
      have h : f_M_alike_l2 p1_n p1 v1 v2 v3 = some b2 := h
      unfold f_M_alike_l2 at h
      refine lv_iload_n hx hb d_M_alike_2 rfl (lv_at hl 3 rfl) ?_
      refine lv_iload_n hx hb d_M_alike_3 rfl (lv_at hl 2 rfl) ?_
      refine lv_icmp_ge (tgt := 22) hx hb d_M_alike_4 (by decide) (fun c => ?_) (fun c => ?_)
      · have h := ift_at h c
        refine lv_iload_n hx hb d_M_alike_22 rfl (lv_at hl 3 rfl) ?_
        refine lv_iload_n hx hb d_M_alike_23 rfl (lv_at hl 1 rfl) ?_
        refine lv_isub hx hb d_M_alike_24 ?_
        obtain rfl := lp_out h hc2
        exact ret2 _ (Option.some.inj hx2) d_M_alike_25 hP hD hS
      · have h := iff_at h c
        refine lv_aload_n hx hb d_M_alike_7 rfl (lv_at hl 0 rfl) ?_
        refine lv_iload_n hx hb d_M_alike_8 rfl (lv_at hl 3 rfl) ?_
        obtain ⟨g5, h⟩ := gd_at h
        refine va_iald hx hb hK hP 0 1 rfl rfl (inB_in g5) d_M_alike_9 ?_
        refine lv_aload_n hx hb d_M_alike_10 rfl (lv_at hl 0 rfl) ?_
        refine lv_iload_n hx hb d_M_alike_11 rfl (lv_at hl 1 rfl) ?_
        obtain ⟨g6, h⟩ := gd_at h
        refine va_iald hx hb hK hP 0 1 rfl rfl (inB_in g6) d_M_alike_12 ?_
        refine lv_icmp_ne (tgt := 22) hx hb d_M_alike_13 (by decide) (fun c => ?_) (fun c => ?_)
        · have h := iff_at h c
          refine lv_iload_n hx hb d_M_alike_22 rfl (lv_at hl 3 rfl) ?_
          refine lv_iload_n hx hb d_M_alike_23 rfl (lv_at hl 1 rfl) ?_
          refine lv_isub hx hb d_M_alike_24 ?_
          obtain rfl := lp_out h hc2
          exact ret2 _ (Option.some.inj hx2) d_M_alike_25 hP hD hS
        · have h := ift_at h c
          obtain ⟨x7, ex7⟩ : ∃ z : Int32, z = v3 + (1 : Int32) := ⟨_, rfl⟩
          have h := bnd_at h ex7
          refine lv_iinc (v := x7) (lv' := [(3, .int x7), (0, .ref a_p1), (1, .int v1), (2, .int v2)]) hx hb d_M_alike_16 hl (k := 3) rfl (by rw [ex7]; rfl) (by decide) rfl (fun ls hl => ?_)
          refine lv_goto (tgt := 2) hx hb d_M_alike_19 (by decide) ?_
          have h := lp_go h hc2
          exact ih2 x7 o _ _ ls hP hD hS (lv_sub hl [1, 2, 3, 0] rfl) h hx2
  unfold f_M_alike at h
  refine lv_iload_n hx hb d_M_alike_0 rfl (lv_at hl 1 rfl) ?_
  refine lv_istore_n (lv' := [(3, .int v1), (0, .ref a_p1), (1, .int v1), (2, .int v2)]) hx hb d_M_alike_1 rfl hl (by decide) rfl (fun ls hl => ?_)
  obtain ⟨o18, ho18, h⟩ := obd_at h
  exact L2 n v1 o18 _ _ ls hP hD hS (lv_sub hl [1, 2, 3, 0] rfl) ho18 h

def rm_M_writeRuns : Room := { frames := 2, cells := 0, slots := 0, locals := 45 }
def f_M_writeRuns_j210 (t_outSize : Int32) (t_out : Nat → Int32) (v4 : Int32) (v6 : Int32) : Option ((Int32 × (Nat → Int32) × Int32) ⊕ ((Int32 × (Nat → Int32)))) :=
  bnd (v4 + ((8 : Int32) * v6)) (fun x21 => some (Sum.inl (t_outSize, t_out, x21)))
def f_M_writeRuns_j198 (t_out_n : Nat) (t_outSize : Int32) (t_out : Nat → Int32) (v7 : Int32) (v8 : Int32) : Option ((Int32 × (Nat → Int32) × Int32) ⊕ ((Int32 × (Nat → Int32) × Int32))) :=
  Option.bind (f_M_put t_out_n t_outSize t_out v8) (fun o76 => bnd (v7 + (8 : Int32)) (fun x77 => some (Sum.inl (o76.1, o76.2, x77))))
def f_M_writeRuns_l145 (p1_n : Nat) (p1 : Nat → Int32) (v2 : Int32) (v3 : Int32) (v4 : Int32) (v7 : Int32) (v8 : Int32) (v9 : Int32) : Option ((Int32 × Int32) ⊕ ((Int32 × Int32))) :=
  (if (8 : Int32) ≤ v9 then some (Sum.inr ((v8, v9))) else gd (nz v3) (bnd (v4 + ((v7 + v9) / v3)) (fun x105 => (if v2 ≤ x105 then bnd (v9 + (1 : Int32)) (fun x106 => some (Sum.inl (v8, x106))) else gd (inB x105 p1_n) (gd (nz v3) (bnd (v8 ||| ((((p1 x105.toNatClampNeg).toUInt32 >>> (((v7 + v9) - (v7 + v9) / v3 * v3).toUInt32 &&& Int32.toUInt32 31)).toInt32 &&& (1 : Int32)) <<< (v9 &&& 31))) (fun x112 => bnd (v9 + (1 : Int32)) (fun x113 => some (Sum.inl (x112, x113))))))))))
def f_M_writeRuns_l127 (n : Nat) (t_out_n : Nat) (p1_n : Nat) (p1 : Nat → Int32) (v2 : Int32) (v3 : Int32) (v4 : Int32) (v6 : Int32) (t_outSize : Int32) (t_out : Nat → Int32) (v7 : Int32) : Option ((Int32 × (Nat → Int32) × Int32) ⊕ ((Int32 × (Nat → Int32) × Int32))) :=
  (if (((8 : Int32) * v3) * v6) ≤ v7 then some (Sum.inr ((t_outSize, t_out, v7))) else Option.bind (lp (fun v => f_M_writeRuns_l145 p1_n p1 v2 v3 v4 v7 v.1 v.2) n ((0 : Int32), (0 : Int32))) (fun o => f_M_writeRuns_j198 t_out_n t_outSize t_out v7 o.1))
def f_M_writeRuns_j111 (n : Nat) (t_out_n : Nat) (p1_n : Nat) (t_outSize : Int32) (t_out : Nat → Int32) (p1 : Nat → Int32) (v2 : Int32) (v3 : Int32) (v4 : Int32) (v6 : Int32) : Option ((Int32 × (Nat → Int32) × Int32) ⊕ ((Int32 × (Nat → Int32)))) :=
  Option.bind (f_M_putVarint n t_out_n t_outSize t_out (((2 : Int64) * v6.toInt64) + (1 : Int64))) (fun o164 => Option.bind (lp (fun v => f_M_writeRuns_l127 n t_out_n p1_n p1 v2 v3 v4 v6 v.1 v.2.1 v.2.2) n (o164.1, o164.2, (0 : Int32))) (fun o => f_M_writeRuns_j210 o.1 o.2.1 v4 v6))
def f_M_writeRuns_l75 (n : Nat) (p1_n : Nat) (p1 : Nat → Int32) (v2 : Int32) (v4 : Int32) (v6 : Int32) : Option ((Int32) ⊕ ((Int32))) :=
  (if v2 ≤ (v4 + ((8 : Int32) * v6)) then some (Sum.inr (v6)) else Option.bind (f_M_alike n p1_n p1 (v4 + ((8 : Int32) * v6)) v2) (fun o208 => (if (8 : Int32) ≤ o208 then some (Sum.inr (v6)) else bnd (v6 + (1 : Int32)) (fun x210 => some (Sum.inl x210)))))
def f_M_writeRuns_j62 (t_outSize : Int32) (t_out : Nat → Int32) (v4 : Int32) (v5 : Int32) : Option ((Int32 × (Nat → Int32) × Int32) ⊕ ((Int32 × (Nat → Int32)))) :=
  bnd (v4 + v5) (fun x226 => some (Sum.inl (t_outSize, t_out, x226)))
def f_M_writeRuns_l39 (t_out_n : Nat) (p1_n : Nat) (p1 : Nat → Int32) (v3 : Int32) (v4 : Int32) (t_outSize : Int32) (t_out : Nat → Int32) (v6 : Int32) : Option ((Int32 × (Nat → Int32) × Int32) ⊕ ((Int32 × (Nat → Int32) × Int32))) :=
  (if v3 ≤ v6 then some (Sum.inr ((t_outSize, t_out, v6))) else gd (inB v4 p1_n) (Option.bind (f_M_put t_out_n t_outSize t_out ((p1 v4.toNatClampNeg) >>> (v6 &&& 31))) (fun o282 => bnd (v6 + (8 : Int32)) (fun x283 => some (Sum.inl (o282.1, o282.2, x283))))))
def f_M_writeRuns_l3 (n : Nat) (t_out_n : Nat) (p1_n : Nat) (p1 : Nat → Int32) (v2 : Int32) (v3 : Int32) (t_outSize : Int32) (t_out : Nat → Int32) (v4 : Int32) : Option ((Int32 × (Nat → Int32) × Int32) ⊕ ((Int32 × (Nat → Int32)))) :=
  (if v2 ≤ v4 then some (Sum.inr ((t_outSize, t_out))) else Option.bind (f_M_alike n p1_n p1 v4 v2) (fun o304 => (if o304 < (8 : Int32) then Option.bind (lp (fun v => f_M_writeRuns_l75 n p1_n p1 v2 v4 v) n (1 : Int32)) (fun o => f_M_writeRuns_j111 n t_out_n p1_n t_outSize t_out p1 v2 v3 v4 o) else Option.bind (f_M_putVarint n t_out_n t_outSize t_out ((2 : Int64) * o304.toInt64)) (fun o306 => Option.bind (lp (fun v => f_M_writeRuns_l39 t_out_n p1_n p1 v3 v4 v.1 v.2.1 v.2.2) n (o306.1, o306.2, (0 : Int32))) (fun o => f_M_writeRuns_j62 o.1 o.2.1 v4 o304)))))
def f_M_writeRuns (n : Nat) (t_out_n : Nat) (p1_n : Nat) (t_outSize : Int32) (t_out : Nat → Int32) (p1 : Nat → Int32) (v2 : Int32) (v3 : Int32) : Option (Int32 × (Nat → Int32)) :=
  Option.bind (lp (fun v => f_M_writeRuns_l3 n t_out_n p1_n p1 v2 v3 v.1 v.2.1 v.2.2) n (t_outSize, t_out, (0 : Int32))) (fun o => some o)
set_option maxHeartbeats 4000000 in
set_option maxRecDepth 100000 in
theorem c_M_writeRuns (l : Launch) (D : va_G) (k : ClassId × ClassId × ClassId) (a_t a_t_repetitions a_t_definitions a_t_newRepetitions a_t_newDefinitions a_t_wholes a_t_newWholes a_t_words8 a_t_from a_t_newFrom a_t_wordFrom a_t_bytes a_t_newBytes a_t_wordBytes a_t_tape a_t_input a_t_out a_t_body a_t_longs a_t_numbers a_t_common a_t_more a_t_told2 a_t_toldSize a_t_toldBytes a_p1 : Nat) (t_out_n p1_n : Nat) (t_code : Int32) (t_type : Int32) (t_mostR : Int32) (t_mostD : Int32) (t_entries : Int32) (t_values : Int32) (t_coding : Int32) (t_bodySize : Int32) (t_newCount : Int32) (t_words : Int32) (t_taped : Int32) (t_inputSize : Int32) (t_outSize : Int32) (t_at : Int32) (t_stop : Int32) (t_fault : Int32) (t_longCount : Int32) (t_out : Nat → Int32) (p1 : Nat → Int32) (v2 : Int32) (v3 : Int32) (n : Nat) (out : Int32 × (Nat → Int32)) (h : f_M_writeRuns n t_out_n p1_n t_outSize t_out p1 v2 v3 = some out) : Ct l D k y_M_writeRuns b_M_writeRuns 11 none rm_M_writeRuns [.ref a_t, .ref a_p1, .int v2, .int v3] [(a_t, .inr (9, [.int t_code, .int t_type, .int t_mostR, .int t_mostD, .int t_entries, .int t_values, .int t_coding, .int t_bodySize, .ref a_t_repetitions, .ref a_t_definitions, .ref a_t_newRepetitions, .ref a_t_newDefinitions, .ref a_t_wholes, .ref a_t_newWholes, .ref a_t_words8, .ref a_t_from, .ref a_t_newFrom, .ref a_t_wordFrom, .ref a_t_bytes, .ref a_t_newBytes, .ref a_t_wordBytes, .int t_newCount, .int t_words, .ref a_t_tape, .ref a_t_input, .ref a_t_out, .ref a_t_body, .int t_taped, .int t_inputSize, .int t_outSize, .int t_at, .int t_stop, .int t_fault, .ref a_t_longs, .int t_longCount, .ref a_t_numbers, .ref a_t_common, .ref a_t_more, .ref a_t_told2, .ref a_t_toldSize, .ref a_t_toldBytes])), (a_t_out, .inl (k.2.1, t_out_n, .inl t_out)), (a_p1, .inl (k.2.1, p1_n, .inl p1))] [(a_t, .inr (9, [.int t_code, .int t_type, .int t_mostR, .int t_mostD, .int t_entries, .int t_values, .int t_coding, .int t_bodySize, .ref a_t_repetitions, .ref a_t_definitions, .ref a_t_newRepetitions, .ref a_t_newDefinitions, .ref a_t_wholes, .ref a_t_newWholes, .ref a_t_words8, .ref a_t_from, .ref a_t_newFrom, .ref a_t_wordFrom, .ref a_t_bytes, .ref a_t_newBytes, .ref a_t_wordBytes, .int t_newCount, .int t_words, .ref a_t_tape, .ref a_t_input, .ref a_t_out, .ref a_t_body, .int t_taped, .int t_inputSize, .int out.1, .int t_at, .int t_stop, .int t_fault, .ref a_t_longs, .int t_longCount, .ref a_t_numbers, .ref a_t_common, .ref a_t_more, .ref a_t_told2, .ref a_t_toldSize, .ref a_t_toldBytes])), (a_t_out, .inl (k.2.1, t_out_n, .inl out.2)), (a_p1, .inl (k.2.1, p1_n, .inl p1))] none := by
  refine Ct.ofV (by decide) (Nat.le_of_ble_eq_true rfl) ?_
  intro p e s m args below meth c A Q ls hx hb hml hown hts hA hK hP hD hS hE hl ret
  have hown : s.vm.findClass "PageFormModel" = some m.cls := hown
  have hl : lv_has ls 11 [(0, .ref a_t), (1, .ref a_p1), (2, .int v2), (3, .int v3)] := hl
  have ret2 : ∀ (y0 : Int32) (y1 : Nat → Int32) (_ : (y0, y1) = out) {pc : Nat} {ls : Array Slot} {H : Heap} {locs : List Loc}, decode b_M_writeRuns pc = .ok (.return_, 1) → va_P D CL [(a_t, .inr (9, [.int t_code, .int t_type, .int t_mostR, .int t_mostD, .int t_entries, .int t_values, .int t_coding, .int t_bodySize, .ref a_t_repetitions, .ref a_t_definitions, .ref a_t_newRepetitions, .ref a_t_newDefinitions, .ref a_t_wholes, .ref a_t_newWholes, .ref a_t_words8, .ref a_t_from, .ref a_t_newFrom, .ref a_t_wordFrom, .ref a_t_bytes, .ref a_t_newBytes, .ref a_t_wordBytes, .int t_newCount, .int t_words, .ref a_t_tape, .ref a_t_input, .ref a_t_out, .ref a_t_body, .int t_taped, .int t_inputSize, .int y0, .int t_at, .int t_stop, .int t_fault, .ref a_t_longs, .int t_longCount, .ref a_t_numbers, .ref a_t_common, .ref a_t_more, .ref a_t_told2, .ref a_t_toldSize, .ref a_t_toldBytes])), (a_t_out, .inl (k.2.1, t_out_n, .inl y1)), (a_p1, .inl (k.2.1, p1_n, .inl p1))] H → va_D A [(a_t, .inr (9, [.int t_code, .int t_type, .int t_mostR, .int t_mostD, .int t_entries, .int t_values, .int t_coding, .int t_bodySize, .ref a_t_repetitions, .ref a_t_definitions, .ref a_t_newRepetitions, .ref a_t_newDefinitions, .ref a_t_wholes, .ref a_t_newWholes, .ref a_t_words8, .ref a_t_from, .ref a_t_newFrom, .ref a_t_wordFrom, .ref a_t_bytes, .ref a_t_newBytes, .ref a_t_wordBytes, .int t_newCount, .int t_words, .ref a_t_tape, .ref a_t_input, .ref a_t_out, .ref a_t_body, .int t_taped, .int t_inputSize, .int y0, .int t_at, .int t_stop, .int t_fault, .ref a_t_longs, .int t_longCount, .ref a_t_numbers, .ref a_t_common, .ref a_t_more, .ref a_t_told2, .ref a_t_toldSize, .ref a_t_toldBytes])), (a_t_out, .inl (k.2.1, t_out_n, .inl y1)), (a_p1, .inl (k.2.1, p1_n, .inl p1))] → va_S A s.heap H locs → W p l e rm_M_writeRuns s m args below meth c H locs 0 0 Q (F0 m pc ls []) := by
    intro y0 y1 e0; subst e0; exact ret
  clear ret
  have L3 : ∀ (K : Nat) (t_outSize : Int32) (t_out : Nat → Int32) (v4 : Int32) (o : (Int32 × (Nat → Int32))) (H : Heap) (locs : List Loc) (ls : Array Slot), va_P D CL [(a_t, .inr (9, [.int t_code, .int t_type, .int t_mostR, .int t_mostD, .int t_entries, .int t_values, .int t_coding, .int t_bodySize, .ref a_t_repetitions, .ref a_t_definitions, .ref a_t_newRepetitions, .ref a_t_newDefinitions, .ref a_t_wholes, .ref a_t_newWholes, .ref a_t_words8, .ref a_t_from, .ref a_t_newFrom, .ref a_t_wordFrom, .ref a_t_bytes, .ref a_t_newBytes, .ref a_t_wordBytes, .int t_newCount, .int t_words, .ref a_t_tape, .ref a_t_input, .ref a_t_out, .ref a_t_body, .int t_taped, .int t_inputSize, .int t_outSize, .int t_at, .int t_stop, .int t_fault, .ref a_t_longs, .int t_longCount, .ref a_t_numbers, .ref a_t_common, .ref a_t_more, .ref a_t_told2, .ref a_t_toldSize, .ref a_t_toldBytes])), (a_t_out, .inl (k.2.1, t_out_n, .inl t_out)), (a_p1, .inl (k.2.1, p1_n, .inl p1))] H → va_D A [(a_t, .inr (9, [.int t_code, .int t_type, .int t_mostR, .int t_mostD, .int t_entries, .int t_values, .int t_coding, .int t_bodySize, .ref a_t_repetitions, .ref a_t_definitions, .ref a_t_newRepetitions, .ref a_t_newDefinitions, .ref a_t_wholes, .ref a_t_newWholes, .ref a_t_words8, .ref a_t_from, .ref a_t_newFrom, .ref a_t_wordFrom, .ref a_t_bytes, .ref a_t_newBytes, .ref a_t_wordBytes, .int t_newCount, .int t_words, .ref a_t_tape, .ref a_t_input, .ref a_t_out, .ref a_t_body, .int t_taped, .int t_inputSize, .int t_outSize, .int t_at, .int t_stop, .int t_fault, .ref a_t_longs, .int t_longCount, .ref a_t_numbers, .ref a_t_common, .ref a_t_more, .ref a_t_told2, .ref a_t_toldSize, .ref a_t_toldBytes])), (a_t_out, .inl (k.2.1, t_out_n, .inl t_out)), (a_p1, .inl (k.2.1, p1_n, .inl p1))] → va_S A s.heap H locs → lv_has ls 11 [(0, .ref a_t), (1, .ref a_p1), (2, .int v2), (3, .int v3), (4, .int v4)] → lp (fun v => f_M_writeRuns_l3 n t_out_n p1_n p1 v2 v3 v.1 v.2.1 v.2.2) K (t_outSize, t_out, v4) = some o → (fun o => some o) o = some out → W p l e rm_M_writeRuns s m args below meth c H locs 0 0 Q (F0 m 3 ls []) := by
    intro K
    induction K with
    | zero => intros; exact absurd (by assumption) lp_no
    | succ K ih3 =>
      intro t_outSize t_out v4 o H locs ls hP hD hS hl h0 hx3
      obtain ⟨b3, h, hc3⟩ := lp_at h0
      have h : f_M_writeRuns_l3 n t_out_n p1_n p1 v2 v3 t_outSize t_out v4 = some b3 := h
      have J210 : ∀ (t_outSize : Int32) (t_out : Nat → Int32) (v4 : Int32) (v6 : Int32) (H : Heap) (locs : List Loc) (ls : Array Slot), va_P D CL [(a_t, .inr (9, [.int t_code, .int t_type, .int t_mostR, .int t_mostD, .int t_entries, .int t_values, .int t_coding, .int t_bodySize, .ref a_t_repetitions, .ref a_t_definitions, .ref a_t_newRepetitions, .ref a_t_newDefinitions, .ref a_t_wholes, .ref a_t_newWholes, .ref a_t_words8, .ref a_t_from, .ref a_t_newFrom, .ref a_t_wordFrom, .ref a_t_bytes, .ref a_t_newBytes, .ref a_t_wordBytes, .int t_newCount, .int t_words, .ref a_t_tape, .ref a_t_input, .ref a_t_out, .ref a_t_body, .int t_taped, .int t_inputSize, .int t_outSize, .int t_at, .int t_stop, .int t_fault, .ref a_t_longs, .int t_longCount, .ref a_t_numbers, .ref a_t_common, .ref a_t_more, .ref a_t_told2, .ref a_t_toldSize, .ref a_t_toldBytes])), (a_t_out, .inl (k.2.1, t_out_n, .inl t_out)), (a_p1, .inl (k.2.1, p1_n, .inl p1))] H → va_D A [(a_t, .inr (9, [.int t_code, .int t_type, .int t_mostR, .int t_mostD, .int t_entries, .int t_values, .int t_coding, .int t_bodySize, .ref a_t_repetitions, .ref a_t_definitions, .ref a_t_newRepetitions, .ref a_t_newDefinitions, .ref a_t_wholes, .ref a_t_newWholes, .ref a_t_words8, .ref a_t_from, .ref a_t_newFrom, .ref a_t_wordFrom, .ref a_t_bytes, .ref a_t_newBytes, .ref a_t_wordBytes, .int t_newCount, .int t_words, .ref a_t_tape, .ref a_t_input, .ref a_t_out, .ref a_t_body, .int t_taped, .int t_inputSize, .int t_outSize, .int t_at, .int t_stop, .int t_fault, .ref a_t_longs, .int t_longCount, .ref a_t_numbers, .ref a_t_common, .ref a_t_more, .ref a_t_told2, .ref a_t_toldSize, .ref a_t_toldBytes])), (a_t_out, .inl (k.2.1, t_out_n, .inl t_out)), (a_p1, .inl (k.2.1, p1_n, .inl p1))] → va_S A s.heap H locs → lv_has ls 11 [(0, .ref a_t), (1, .ref a_p1), (2, .int v2), (3, .int v3), (4, .int v4), (6, .int v6)] → f_M_writeRuns_j210 t_outSize t_out v4 v6 = some b3 → W p l e rm_M_writeRuns s m args below meth c H locs 0 0 Q (F0 m 210 ls []) := by
        intro t_outSize t_out v4 v6 H locs ls hP hD hS hl h
        unfold f_M_writeRuns_j210 at h
        refine lv_iload hx hb d_M_writeRuns_210 (lv_at hl 4 rfl) ?_
        refine lv_bipush (v := 8) hx hb d_M_writeRuns_212 (by decide) ?_
        refine lv_iload hx hb d_M_writeRuns_214 (lv_at hl 5 rfl) ?_
        refine lv_imul hx hb d_M_writeRuns_216 ?_
        refine lv_iadd hx hb d_M_writeRuns_217 ?_
        refine lv_topi (fun x21 ex21 => ?_)
        have h := bnd_at h ex21
        refine lv_istore (lv' := [(4, .int x21), (0, .ref a_t), (1, .ref a_p1), (2, .int v2), (3, .int v3), (6, .int v6)]) hx hb d_M_writeRuns_218 hl (by decide) rfl (fun ls hl => ?_)
        refine lv_goto (tgt := 3) hx hb d_M_writeRuns_220 (by decide) ?_
        have h := lp_go h hc3
        exact ih3 t_outSize t_out x21 o _ _ ls hP hD hS (lv_sub hl [1, 2, 3, 4, 0] rfl) h hx3
      have L127 : ∀ (K : Nat) (t_outSize : Int32) (t_out : Nat → Int32) (v4 : Int32) (v6 : Int32) (v7 : Int32) (o : (Int32 × (Nat → Int32) × Int32)) (H : Heap) (locs : List Loc) (ls : Array Slot), va_P D CL [(a_t, .inr (9, [.int t_code, .int t_type, .int t_mostR, .int t_mostD, .int t_entries, .int t_values, .int t_coding, .int t_bodySize, .ref a_t_repetitions, .ref a_t_definitions, .ref a_t_newRepetitions, .ref a_t_newDefinitions, .ref a_t_wholes, .ref a_t_newWholes, .ref a_t_words8, .ref a_t_from, .ref a_t_newFrom, .ref a_t_wordFrom, .ref a_t_bytes, .ref a_t_newBytes, .ref a_t_wordBytes, .int t_newCount, .int t_words, .ref a_t_tape, .ref a_t_input, .ref a_t_out, .ref a_t_body, .int t_taped, .int t_inputSize, .int t_outSize, .int t_at, .int t_stop, .int t_fault, .ref a_t_longs, .int t_longCount, .ref a_t_numbers, .ref a_t_common, .ref a_t_more, .ref a_t_told2, .ref a_t_toldSize, .ref a_t_toldBytes])), (a_t_out, .inl (k.2.1, t_out_n, .inl t_out)), (a_p1, .inl (k.2.1, p1_n, .inl p1))] H → va_D A [(a_t, .inr (9, [.int t_code, .int t_type, .int t_mostR, .int t_mostD, .int t_entries, .int t_values, .int t_coding, .int t_bodySize, .ref a_t_repetitions, .ref a_t_definitions, .ref a_t_newRepetitions, .ref a_t_newDefinitions, .ref a_t_wholes, .ref a_t_newWholes, .ref a_t_words8, .ref a_t_from, .ref a_t_newFrom, .ref a_t_wordFrom, .ref a_t_bytes, .ref a_t_newBytes, .ref a_t_wordBytes, .int t_newCount, .int t_words, .ref a_t_tape, .ref a_t_input, .ref a_t_out, .ref a_t_body, .int t_taped, .int t_inputSize, .int t_outSize, .int t_at, .int t_stop, .int t_fault, .ref a_t_longs, .int t_longCount, .ref a_t_numbers, .ref a_t_common, .ref a_t_more, .ref a_t_told2, .ref a_t_toldSize, .ref a_t_toldBytes])), (a_t_out, .inl (k.2.1, t_out_n, .inl t_out)), (a_p1, .inl (k.2.1, p1_n, .inl p1))] → va_S A s.heap H locs → lv_has ls 11 [(0, .ref a_t), (1, .ref a_p1), (2, .int v2), (3, .int v3), (4, .int v4), (6, .int v6), (7, .int v7)] → lp (fun v => f_M_writeRuns_l127 n t_out_n p1_n p1 v2 v3 v4 v6 v.1 v.2.1 v.2.2) K (t_outSize, t_out, v7) = some o → (fun o => f_M_writeRuns_j210 o.1 o.2.1 v4 v6) o = some b3 → W p l e rm_M_writeRuns s m args below meth c H locs 0 0 Q (F0 m 127 ls []) := by
        intro K
        induction K with
        | zero => intros; exact absurd (by assumption) lp_no
        | succ K ih127 =>
          intro t_outSize t_out v4 v6 v7 o H locs ls hP hD hS hl h0 hx127
          obtain ⟨b127, h, hc127⟩ := lp_at h0
          have h : f_M_writeRuns_l127 n t_out_n p1_n p1 v2 v3 v4 v6 t_outSize t_out v7 = some b127 := h
          have J198 : ∀ (t_outSize : Int32) (t_out : Nat → Int32) (v7 : Int32) (v8 : Int32) (H : Heap) (locs : List Loc) (ls : Array Slot), va_P D CL [(a_t, .inr (9, [.int t_code, .int t_type, .int t_mostR, .int t_mostD, .int t_entries, .int t_values, .int t_coding, .int t_bodySize, .ref a_t_repetitions, .ref a_t_definitions, .ref a_t_newRepetitions, .ref a_t_newDefinitions, .ref a_t_wholes, .ref a_t_newWholes, .ref a_t_words8, .ref a_t_from, .ref a_t_newFrom, .ref a_t_wordFrom, .ref a_t_bytes, .ref a_t_newBytes, .ref a_t_wordBytes, .int t_newCount, .int t_words, .ref a_t_tape, .ref a_t_input, .ref a_t_out, .ref a_t_body, .int t_taped, .int t_inputSize, .int t_outSize, .int t_at, .int t_stop, .int t_fault, .ref a_t_longs, .int t_longCount, .ref a_t_numbers, .ref a_t_common, .ref a_t_more, .ref a_t_told2, .ref a_t_toldSize, .ref a_t_toldBytes])), (a_t_out, .inl (k.2.1, t_out_n, .inl t_out)), (a_p1, .inl (k.2.1, p1_n, .inl p1))] H → va_D A [(a_t, .inr (9, [.int t_code, .int t_type, .int t_mostR, .int t_mostD, .int t_entries, .int t_values, .int t_coding, .int t_bodySize, .ref a_t_repetitions, .ref a_t_definitions, .ref a_t_newRepetitions, .ref a_t_newDefinitions, .ref a_t_wholes, .ref a_t_newWholes, .ref a_t_words8, .ref a_t_from, .ref a_t_newFrom, .ref a_t_wordFrom, .ref a_t_bytes, .ref a_t_newBytes, .ref a_t_wordBytes, .int t_newCount, .int t_words, .ref a_t_tape, .ref a_t_input, .ref a_t_out, .ref a_t_body, .int t_taped, .int t_inputSize, .int t_outSize, .int t_at, .int t_stop, .int t_fault, .ref a_t_longs, .int t_longCount, .ref a_t_numbers, .ref a_t_common, .ref a_t_more, .ref a_t_told2, .ref a_t_toldSize, .ref a_t_toldBytes])), (a_t_out, .inl (k.2.1, t_out_n, .inl t_out)), (a_p1, .inl (k.2.1, p1_n, .inl p1))] → va_S A s.heap H locs → lv_has ls 11 [(0, .ref a_t), (1, .ref a_p1), (2, .int v2), (3, .int v3), (4, .int v4), (6, .int v6), (7, .int v7), (8, .int v8)] → f_M_writeRuns_j198 t_out_n t_outSize t_out v7 v8 = some b127 → W p l e rm_M_writeRuns s m args below meth c H locs 0 0 Q (F0 m 198 ls []) := by
            intro t_outSize t_out v7 v8 H locs ls hP hD hS hl h
            unfold f_M_writeRuns_j198 at h
            refine lv_aload_n hx hb d_M_writeRuns_198 rfl (lv_at hl 0 rfl) ?_
            refine lv_iload hx hb d_M_writeRuns_199 (lv_at hl 7 rfl) ?_
            obtain ⟨o76, ho76, h⟩ := obd_at h
            refine g_V (As := [.int v8]) (rest := []) hx hb hml hown hts hA hK hP hD hS hE (c_M_put l D k a_t a_t_repetitions a_t_definitions a_t_newRepetitions a_t_newDefinitions a_t_wholes a_t_newWholes a_t_words8 a_t_from a_t_newFrom a_t_wordFrom a_t_bytes a_t_newBytes a_t_wordBytes a_t_tape a_t_input a_t_out a_t_body a_t_longs a_t_numbers a_t_common a_t_more a_t_told2 a_t_toldSize a_t_toldBytes t_out_n t_code t_type t_mostR t_mostD t_entries t_values t_coding t_bodySize t_newCount t_words t_taped t_inputSize t_outSize t_at t_stop t_fault t_longCount t_out v8 n o76 ho76) mw_M_put mi_M_put ml_M_99 [0, 1] rfl (by decide) rfl rfl rfl 0 rfl rfl rfl rfl rfl hl.1 rfl (Nat.le_of_ble_eq_true rfl) ⟨Nat.zero_le _, Nat.zero_le _⟩ d_M_writeRuns_201 (fun H locs hP hD hS => ?_)
            have hP : va_P D CL [(a_t, .inr (9, [.int t_code, .int t_type, .int t_mostR, .int t_mostD, .int t_entries, .int t_values, .int t_coding, .int t_bodySize, .ref a_t_repetitions, .ref a_t_definitions, .ref a_t_newRepetitions, .ref a_t_newDefinitions, .ref a_t_wholes, .ref a_t_newWholes, .ref a_t_words8, .ref a_t_from, .ref a_t_newFrom, .ref a_t_wordFrom, .ref a_t_bytes, .ref a_t_newBytes, .ref a_t_wordBytes, .int t_newCount, .int t_words, .ref a_t_tape, .ref a_t_input, .ref a_t_out, .ref a_t_body, .int t_taped, .int t_inputSize, .int o76.1, .int t_at, .int t_stop, .int t_fault, .ref a_t_longs, .int t_longCount, .ref a_t_numbers, .ref a_t_common, .ref a_t_more, .ref a_t_told2, .ref a_t_toldSize, .ref a_t_toldBytes])), (a_t_out, .inl (k.2.1, t_out_n, .inl o76.2)), (a_p1, .inl (k.2.1, p1_n, .inl p1))] H := hP
            have hD : va_D A [(a_t, .inr (9, [.int t_code, .int t_type, .int t_mostR, .int t_mostD, .int t_entries, .int t_values, .int t_coding, .int t_bodySize, .ref a_t_repetitions, .ref a_t_definitions, .ref a_t_newRepetitions, .ref a_t_newDefinitions, .ref a_t_wholes, .ref a_t_newWholes, .ref a_t_words8, .ref a_t_from, .ref a_t_newFrom, .ref a_t_wordFrom, .ref a_t_bytes, .ref a_t_newBytes, .ref a_t_wordBytes, .int t_newCount, .int t_words, .ref a_t_tape, .ref a_t_input, .ref a_t_out, .ref a_t_body, .int t_taped, .int t_inputSize, .int o76.1, .int t_at, .int t_stop, .int t_fault, .ref a_t_longs, .int t_longCount, .ref a_t_numbers, .ref a_t_common, .ref a_t_more, .ref a_t_told2, .ref a_t_toldSize, .ref a_t_toldBytes])), (a_t_out, .inl (k.2.1, t_out_n, .inl o76.2)), (a_p1, .inl (k.2.1, p1_n, .inl p1))] := hD
            refine W.eq (g2 := F0 m 204 ls []) rfl ?_
            obtain ⟨x77, ex77⟩ : ∃ z : Int32, z = v7 + (8 : Int32) := ⟨_, rfl⟩
            have h := bnd_at h ex77
            refine lv_iinc (v := x77) (lv' := [(7, .int x77), (0, .ref a_t), (1, .ref a_p1), (2, .int v2), (3, .int v3), (4, .int v4), (6, .int v6), (8, .int v8)]) hx hb d_M_writeRuns_204 hl (k := 6) rfl (by rw [ex77]; rfl) (by decide) rfl (fun ls hl => ?_)
            refine lv_goto (tgt := 127) hx hb d_M_writeRuns_207 (by decide) ?_
            have h := lp_go h hc127
            exact ih127 o76.1 o76.2 v4 v6 x77 o _ _ ls hP hD hS (lv_sub hl [1, 2, 3, 4, 5, 6, 0] rfl) h hx127
          have L145 : ∀ (K : Nat) (t_outSize : Int32) (t_out : Nat → Int32) (v7 : Int32) (v8 : Int32) (v9 : Int32) (o : (Int32 × Int32)) (H : Heap) (locs : List Loc) (ls : Array Slot), va_P D CL [(a_t, .inr (9, [.int t_code, .int t_type, .int t_mostR, .int t_mostD, .int t_entries, .int t_values, .int t_coding, .int t_bodySize, .ref a_t_repetitions, .ref a_t_definitions, .ref a_t_newRepetitions, .ref a_t_newDefinitions, .ref a_t_wholes, .ref a_t_newWholes, .ref a_t_words8, .ref a_t_from, .ref a_t_newFrom, .ref a_t_wordFrom, .ref a_t_bytes, .ref a_t_newBytes, .ref a_t_wordBytes, .int t_newCount, .int t_words, .ref a_t_tape, .ref a_t_input, .ref a_t_out, .ref a_t_body, .int t_taped, .int t_inputSize, .int t_outSize, .int t_at, .int t_stop, .int t_fault, .ref a_t_longs, .int t_longCount, .ref a_t_numbers, .ref a_t_common, .ref a_t_more, .ref a_t_told2, .ref a_t_toldSize, .ref a_t_toldBytes])), (a_t_out, .inl (k.2.1, t_out_n, .inl t_out)), (a_p1, .inl (k.2.1, p1_n, .inl p1))] H → va_D A [(a_t, .inr (9, [.int t_code, .int t_type, .int t_mostR, .int t_mostD, .int t_entries, .int t_values, .int t_coding, .int t_bodySize, .ref a_t_repetitions, .ref a_t_definitions, .ref a_t_newRepetitions, .ref a_t_newDefinitions, .ref a_t_wholes, .ref a_t_newWholes, .ref a_t_words8, .ref a_t_from, .ref a_t_newFrom, .ref a_t_wordFrom, .ref a_t_bytes, .ref a_t_newBytes, .ref a_t_wordBytes, .int t_newCount, .int t_words, .ref a_t_tape, .ref a_t_input, .ref a_t_out, .ref a_t_body, .int t_taped, .int t_inputSize, .int t_outSize, .int t_at, .int t_stop, .int t_fault, .ref a_t_longs, .int t_longCount, .ref a_t_numbers, .ref a_t_common, .ref a_t_more, .ref a_t_told2, .ref a_t_toldSize, .ref a_t_toldBytes])), (a_t_out, .inl (k.2.1, t_out_n, .inl t_out)), (a_p1, .inl (k.2.1, p1_n, .inl p1))] → va_S A s.heap H locs → lv_has ls 11 [(0, .ref a_t), (1, .ref a_p1), (2, .int v2), (3, .int v3), (4, .int v4), (6, .int v6), (7, .int v7), (8, .int v8), (9, .int v9)] → lp (fun v => f_M_writeRuns_l145 p1_n p1 v2 v3 v4 v7 v.1 v.2) K (v8, v9) = some o → (fun o => f_M_writeRuns_j198 t_out_n t_outSize t_out v7 o.1) o = some b127 → W p l e rm_M_writeRuns s m args below meth c H locs 0 0 Q (F0 m 145 ls []) := by
            intro K
            induction K with
            | zero => intros; exact absurd (by assumption) lp_no
            | succ K ih145 =>
              intro t_outSize t_out v7 v8 v9 o H locs ls hP hD hS hl h0 hx145
              obtain ⟨b145, h, hc145⟩ := lp_at h0
              have h : f_M_writeRuns_l145 p1_n p1 v2 v3 v4 v7 v8 v9 = some b145 := h
              unfold f_M_writeRuns_l145 at h
              refine lv_iload hx hb d_M_writeRuns_145 (lv_at hl 8 rfl) ?_
              refine lv_bipush (v := 8) hx hb d_M_writeRuns_147 (by decide) ?_
              refine lv_icmp_ge (tgt := 198) hx hb d_M_writeRuns_149 (by decide) (fun c => ?_) (fun c => ?_)
              · have h := ift_at h c
                obtain rfl := lp_out h hc145
                exact J198 t_outSize t_out v7 v8 _ _ ls hP hD hS (lv_sub hl [0, 1, 2, 3, 4, 5, 6, 7] rfl) hx145
              · have h := iff_at h c
                refine lv_iload hx hb d_M_writeRuns_152 (lv_at hl 4 rfl) ?_
                refine lv_iload hx hb d_M_writeRuns_154 (lv_at hl 6 rfl) ?_
                refine lv_iload hx hb d_M_writeRuns_156 (lv_at hl 8 rfl) ?_
                refine lv_iadd hx hb d_M_writeRuns_158 ?_
                refine lv_iload_n hx hb d_M_writeRuns_159 rfl (lv_at hl 3 rfl) ?_
                obtain ⟨g104, h⟩ := gd_at h
                refine lv_idiv hx hb d_M_writeRuns_160 (nz_c g104) ?_
                refine lv_iadd hx hb d_M_writeRuns_161 ?_
                refine lv_topi (fun x105 ex105 => ?_)
                have h := bnd_at h ex105
                refine lv_istore (lv' := [(10, .int x105), (0, .ref a_t), (1, .ref a_p1), (2, .int v2), (3, .int v3), (4, .int v4), (6, .int v6), (7, .int v7), (8, .int v8), (9, .int v9)]) hx hb d_M_writeRuns_162 hl (by decide) rfl (fun ls hl => ?_)
                refine lv_iload hx hb d_M_writeRuns_164 (lv_at hl 0 rfl) ?_
                refine lv_iload_n hx hb d_M_writeRuns_166 rfl (lv_at hl 3 rfl) ?_
                refine lv_icmp_ge (tgt := 192) hx hb d_M_writeRuns_167 (by decide) (fun c => ?_) (fun c => ?_)
                · have h := ift_at h c
                  obtain ⟨x106, ex106⟩ : ∃ z : Int32, z = v9 + (1 : Int32) := ⟨_, rfl⟩
                  have h := bnd_at h ex106
                  refine lv_iinc (v := x106) (lv' := [(9, .int x106), (10, .int x105), (0, .ref a_t), (1, .ref a_p1), (2, .int v2), (3, .int v3), (4, .int v4), (6, .int v6), (7, .int v7), (8, .int v8)]) hx hb d_M_writeRuns_192 hl (k := 9) rfl (by rw [ex106]; rfl) (by decide) rfl (fun ls hl => ?_)
                  refine lv_goto (tgt := 145) hx hb d_M_writeRuns_195 (by decide) ?_
                  have h := lp_go h hc145
                  exact ih145 t_outSize t_out v7 v8 x106 o _ _ ls hP hD hS (lv_sub hl [2, 3, 4, 5, 6, 7, 8, 9, 0] rfl) h hx145
                · have h := iff_at h c
                  refine lv_iload hx hb d_M_writeRuns_170 (lv_at hl 8 rfl) ?_
                  refine lv_aload_n hx hb d_M_writeRuns_172 rfl (lv_at hl 2 rfl) ?_
                  refine lv_iload hx hb d_M_writeRuns_173 (lv_at hl 0 rfl) ?_
                  obtain ⟨g110, h⟩ := gd_at h
                  refine va_iald hx hb hK hP 2 1 rfl rfl (inB_in g110) d_M_writeRuns_175 ?_
                  refine lv_iload hx hb d_M_writeRuns_176 (lv_at hl 7 rfl) ?_
                  refine lv_iload hx hb d_M_writeRuns_178 (lv_at hl 9 rfl) ?_
                  refine lv_iadd hx hb d_M_writeRuns_180 ?_
                  refine lv_iload_n hx hb d_M_writeRuns_181 rfl (lv_at hl 4 rfl) ?_
                  obtain ⟨g111, h⟩ := gd_at h
                  refine lv_irem hx hb d_M_writeRuns_182 (nz_c g111) ?_
                  refine lv_iushr hx hb d_M_writeRuns_183 rfl ?_
                  refine lv_iconst (v := 1) hx hb d_M_writeRuns_184 (by decide) ?_
                  refine lv_iand hx hb d_M_writeRuns_185 ?_
                  refine lv_iload hx hb d_M_writeRuns_186 (lv_at hl 9 rfl) ?_
                  refine lv_ishl hx hb d_M_writeRuns_188 ?_
                  refine lv_ior hx hb d_M_writeRuns_189 ?_
                  refine lv_topi (fun x112 ex112 => ?_)
                  have h := bnd_at h ex112
                  refine lv_istore (lv' := [(8, .int x112), (10, .int x105), (0, .ref a_t), (1, .ref a_p1), (2, .int v2), (3, .int v3), (4, .int v4), (6, .int v6), (7, .int v7), (9, .int v9)]) hx hb d_M_writeRuns_190 hl (by decide) rfl (fun ls hl => ?_)
                  obtain ⟨x113, ex113⟩ : ∃ z : Int32, z = v9 + (1 : Int32) := ⟨_, rfl⟩
                  have h := bnd_at h ex113
                  refine lv_iinc (v := x113) (lv' := [(9, .int x113), (8, .int x112), (10, .int x105), (0, .ref a_t), (1, .ref a_p1), (2, .int v2), (3, .int v3), (4, .int v4), (6, .int v6), (7, .int v7)]) hx hb d_M_writeRuns_192 hl (k := 9) rfl (by rw [ex113]; rfl) (by decide) rfl (fun ls hl => ?_)
                  refine lv_goto (tgt := 145) hx hb d_M_writeRuns_195 (by decide) ?_
                  have h := lp_go h hc145
                  exact ih145 t_outSize t_out v7 x112 x113 o _ _ ls hP hD hS (lv_sub hl [3, 4, 5, 6, 7, 8, 9, 1, 0] rfl) h hx145
          unfold f_M_writeRuns_l127 at h
          refine lv_iload hx hb d_M_writeRuns_127 (lv_at hl 6 rfl) ?_
          refine lv_bipush (v := 8) hx hb d_M_writeRuns_129 (by decide) ?_
          refine lv_iload_n hx hb d_M_writeRuns_131 rfl (lv_at hl 3 rfl) ?_
          refine lv_imul hx hb d_M_writeRuns_132 ?_
          refine lv_iload hx hb d_M_writeRuns_133 (lv_at hl 5 rfl) ?_
          refine lv_imul hx hb d_M_writeRuns_135 ?_
          refine lv_icmp_ge (tgt := 210) hx hb d_M_writeRuns_136 (by decide) (fun c => ?_) (fun c => ?_)
          · have h := ift_at h c
            obtain rfl := lp_out h hc127
            exact J210 t_outSize t_out v4 v6 _ _ ls hP hD hS (lv_sub hl [0, 1, 2, 3, 4, 5] rfl) hx127
          · have h := iff_at h c
            refine lv_iconst (v := 0) hx hb d_M_writeRuns_139 (by decide) ?_
            refine lv_istore (lv' := [(8, .int (0 : Int32)), (0, .ref a_t), (1, .ref a_p1), (2, .int v2), (3, .int v3), (4, .int v4), (6, .int v6), (7, .int v7)]) hx hb d_M_writeRuns_140 hl (by decide) rfl (fun ls hl => ?_)
            refine lv_iconst (v := 0) hx hb d_M_writeRuns_142 (by decide) ?_
            refine lv_istore (lv' := [(9, .int (0 : Int32)), (8, .int (0 : Int32)), (0, .ref a_t), (1, .ref a_p1), (2, .int v2), (3, .int v3), (4, .int v4), (6, .int v6), (7, .int v7)]) hx hb d_M_writeRuns_143 hl (by decide) rfl (fun ls hl => ?_)
            obtain ⟨o137, ho137, h⟩ := obd_at h
            exact L145 n t_outSize t_out v7 (0 : Int32) (0 : Int32) o137 _ _ ls hP hD hS (lv_sub hl [2, 3, 4, 5, 6, 7, 8, 1, 0] rfl) ho137 h
      have J111 : ∀ (t_outSize : Int32) (t_out : Nat → Int32) (v4 : Int32) (v6 : Int32) (H : Heap) (locs : List Loc) (ls : Array Slot), va_P D CL [(a_t, .inr (9, [.int t_code, .int t_type, .int t_mostR, .int t_mostD, .int t_entries, .int t_values, .int t_coding, .int t_bodySize, .ref a_t_repetitions, .ref a_t_definitions, .ref a_t_newRepetitions, .ref a_t_newDefinitions, .ref a_t_wholes, .ref a_t_newWholes, .ref a_t_words8, .ref a_t_from, .ref a_t_newFrom, .ref a_t_wordFrom, .ref a_t_bytes, .ref a_t_newBytes, .ref a_t_wordBytes, .int t_newCount, .int t_words, .ref a_t_tape, .ref a_t_input, .ref a_t_out, .ref a_t_body, .int t_taped, .int t_inputSize, .int t_outSize, .int t_at, .int t_stop, .int t_fault, .ref a_t_longs, .int t_longCount, .ref a_t_numbers, .ref a_t_common, .ref a_t_more, .ref a_t_told2, .ref a_t_toldSize, .ref a_t_toldBytes])), (a_t_out, .inl (k.2.1, t_out_n, .inl t_out)), (a_p1, .inl (k.2.1, p1_n, .inl p1))] H → va_D A [(a_t, .inr (9, [.int t_code, .int t_type, .int t_mostR, .int t_mostD, .int t_entries, .int t_values, .int t_coding, .int t_bodySize, .ref a_t_repetitions, .ref a_t_definitions, .ref a_t_newRepetitions, .ref a_t_newDefinitions, .ref a_t_wholes, .ref a_t_newWholes, .ref a_t_words8, .ref a_t_from, .ref a_t_newFrom, .ref a_t_wordFrom, .ref a_t_bytes, .ref a_t_newBytes, .ref a_t_wordBytes, .int t_newCount, .int t_words, .ref a_t_tape, .ref a_t_input, .ref a_t_out, .ref a_t_body, .int t_taped, .int t_inputSize, .int t_outSize, .int t_at, .int t_stop, .int t_fault, .ref a_t_longs, .int t_longCount, .ref a_t_numbers, .ref a_t_common, .ref a_t_more, .ref a_t_told2, .ref a_t_toldSize, .ref a_t_toldBytes])), (a_t_out, .inl (k.2.1, t_out_n, .inl t_out)), (a_p1, .inl (k.2.1, p1_n, .inl p1))] → va_S A s.heap H locs → lv_has ls 11 [(0, .ref a_t), (1, .ref a_p1), (2, .int v2), (3, .int v3), (4, .int v4), (6, .int v6)] → f_M_writeRuns_j111 n t_out_n p1_n t_outSize t_out p1 v2 v3 v4 v6 = some b3 → W p l e rm_M_writeRuns s m args below meth c H locs 0 0 Q (F0 m 111 ls []) := by
        intro t_outSize t_out v4 v6 H locs ls hP hD hS hl h
        unfold f_M_writeRuns_j111 at h
        refine lv_aload_n hx hb d_M_writeRuns_111 rfl (lv_at hl 0 rfl) ?_
        refine lv_ldc2 (v := 2) hx hb hown (hts _ kc_M_107) d_M_writeRuns_112 ?_
        refine lv_iload hx hb d_M_writeRuns_115 (lv_at hl 5 rfl) ?_
        refine lv_i2l hx hb d_M_writeRuns_117 rfl ?_
        refine lv_lmul hx hb d_M_writeRuns_118 ?_
        refine lv_lconst (v := 1) hx hb d_M_writeRuns_119 (by decide) ?_
        refine lv_ladd hx hb d_M_writeRuns_120 ?_
        obtain ⟨o164, ho164, h⟩ := obd_at h
        refine g_V (As := [.long (((2 : Int64) * v6.toInt64) + (1 : Int64))]) (rest := []) hx hb hml hown hts hA hK hP hD hS hE (c_M_putVarint l D k a_t a_t_repetitions a_t_definitions a_t_newRepetitions a_t_newDefinitions a_t_wholes a_t_newWholes a_t_words8 a_t_from a_t_newFrom a_t_wordFrom a_t_bytes a_t_newBytes a_t_wordBytes a_t_tape a_t_input a_t_out a_t_body a_t_longs a_t_numbers a_t_common a_t_more a_t_told2 a_t_toldSize a_t_toldBytes t_out_n t_code t_type t_mostR t_mostD t_entries t_values t_coding t_bodySize t_newCount t_words t_taped t_inputSize t_outSize t_at t_stop t_fault t_longCount t_out (((2 : Int64) * v6.toInt64) + (1 : Int64)) n o164 ho164) mw_M_putVarint mi_M_putVarint ml_M_109 [0, 1] rfl (by decide) rfl rfl rfl 0 rfl rfl rfl rfl rfl hl.1 rfl (Nat.le_of_ble_eq_true rfl) ⟨Nat.zero_le _, Nat.zero_le _⟩ d_M_writeRuns_121 (fun H locs hP hD hS => ?_)
        have hP : va_P D CL [(a_t, .inr (9, [.int t_code, .int t_type, .int t_mostR, .int t_mostD, .int t_entries, .int t_values, .int t_coding, .int t_bodySize, .ref a_t_repetitions, .ref a_t_definitions, .ref a_t_newRepetitions, .ref a_t_newDefinitions, .ref a_t_wholes, .ref a_t_newWholes, .ref a_t_words8, .ref a_t_from, .ref a_t_newFrom, .ref a_t_wordFrom, .ref a_t_bytes, .ref a_t_newBytes, .ref a_t_wordBytes, .int t_newCount, .int t_words, .ref a_t_tape, .ref a_t_input, .ref a_t_out, .ref a_t_body, .int t_taped, .int t_inputSize, .int o164.1, .int t_at, .int t_stop, .int t_fault, .ref a_t_longs, .int t_longCount, .ref a_t_numbers, .ref a_t_common, .ref a_t_more, .ref a_t_told2, .ref a_t_toldSize, .ref a_t_toldBytes])), (a_t_out, .inl (k.2.1, t_out_n, .inl o164.2)), (a_p1, .inl (k.2.1, p1_n, .inl p1))] H := hP
        have hD : va_D A [(a_t, .inr (9, [.int t_code, .int t_type, .int t_mostR, .int t_mostD, .int t_entries, .int t_values, .int t_coding, .int t_bodySize, .ref a_t_repetitions, .ref a_t_definitions, .ref a_t_newRepetitions, .ref a_t_newDefinitions, .ref a_t_wholes, .ref a_t_newWholes, .ref a_t_words8, .ref a_t_from, .ref a_t_newFrom, .ref a_t_wordFrom, .ref a_t_bytes, .ref a_t_newBytes, .ref a_t_wordBytes, .int t_newCount, .int t_words, .ref a_t_tape, .ref a_t_input, .ref a_t_out, .ref a_t_body, .int t_taped, .int t_inputSize, .int o164.1, .int t_at, .int t_stop, .int t_fault, .ref a_t_longs, .int t_longCount, .ref a_t_numbers, .ref a_t_common, .ref a_t_more, .ref a_t_told2, .ref a_t_toldSize, .ref a_t_toldBytes])), (a_t_out, .inl (k.2.1, t_out_n, .inl o164.2)), (a_p1, .inl (k.2.1, p1_n, .inl p1))] := hD
        refine W.eq (g2 := F0 m 124 ls []) rfl ?_
        refine lv_iconst (v := 0) hx hb d_M_writeRuns_124 (by decide) ?_
        refine lv_istore (lv' := [(7, .int (0 : Int32)), (0, .ref a_t), (1, .ref a_p1), (2, .int v2), (3, .int v3), (4, .int v4), (6, .int v6)]) hx hb d_M_writeRuns_125 hl (by decide) rfl (fun ls hl => ?_)
        obtain ⟨o165, ho165, h⟩ := obd_at h
        exact L127 n o164.1 o164.2 v4 v6 (0 : Int32) o165 _ _ ls hP hD hS (lv_sub hl [1, 2, 3, 4, 5, 6, 0] rfl) ho165 h
      have L75 : ∀ (K : Nat) (t_outSize : Int32) (t_out : Nat → Int32) (v4 : Int32) (v6 : Int32) (o : (Int32)) (H : Heap) (locs : List Loc) (ls : Array Slot), va_P D CL [(a_t, .inr (9, [.int t_code, .int t_type, .int t_mostR, .int t_mostD, .int t_entries, .int t_values, .int t_coding, .int t_bodySize, .ref a_t_repetitions, .ref a_t_definitions, .ref a_t_newRepetitions, .ref a_t_newDefinitions, .ref a_t_wholes, .ref a_t_newWholes, .ref a_t_words8, .ref a_t_from, .ref a_t_newFrom, .ref a_t_wordFrom, .ref a_t_bytes, .ref a_t_newBytes, .ref a_t_wordBytes, .int t_newCount, .int t_words, .ref a_t_tape, .ref a_t_input, .ref a_t_out, .ref a_t_body, .int t_taped, .int t_inputSize, .int t_outSize, .int t_at, .int t_stop, .int t_fault, .ref a_t_longs, .int t_longCount, .ref a_t_numbers, .ref a_t_common, .ref a_t_more, .ref a_t_told2, .ref a_t_toldSize, .ref a_t_toldBytes])), (a_t_out, .inl (k.2.1, t_out_n, .inl t_out)), (a_p1, .inl (k.2.1, p1_n, .inl p1))] H → va_D A [(a_t, .inr (9, [.int t_code, .int t_type, .int t_mostR, .int t_mostD, .int t_entries, .int t_values, .int t_coding, .int t_bodySize, .ref a_t_repetitions, .ref a_t_definitions, .ref a_t_newRepetitions, .ref a_t_newDefinitions, .ref a_t_wholes, .ref a_t_newWholes, .ref a_t_words8, .ref a_t_from, .ref a_t_newFrom, .ref a_t_wordFrom, .ref a_t_bytes, .ref a_t_newBytes, .ref a_t_wordBytes, .int t_newCount, .int t_words, .ref a_t_tape, .ref a_t_input, .ref a_t_out, .ref a_t_body, .int t_taped, .int t_inputSize, .int t_outSize, .int t_at, .int t_stop, .int t_fault, .ref a_t_longs, .int t_longCount, .ref a_t_numbers, .ref a_t_common, .ref a_t_more, .ref a_t_told2, .ref a_t_toldSize, .ref a_t_toldBytes])), (a_t_out, .inl (k.2.1, t_out_n, .inl t_out)), (a_p1, .inl (k.2.1, p1_n, .inl p1))] → va_S A s.heap H locs → lv_has ls 11 [(0, .ref a_t), (1, .ref a_p1), (2, .int v2), (3, .int v3), (4, .int v4), (6, .int v6)] → lp (fun v => f_M_writeRuns_l75 n p1_n p1 v2 v4 v) K v6 = some o → (fun o => f_M_writeRuns_j111 n t_out_n p1_n t_outSize t_out p1 v2 v3 v4 o) o = some b3 → W p l e rm_M_writeRuns s m args below meth c H locs 0 0 Q (F0 m 75 ls []) := by
        intro K
        induction K with
        | zero => intros; exact absurd (by assumption) lp_no
        | succ K ih75 =>
          intro t_outSize t_out v4 v6 o H locs ls hP hD hS hl h0 hx75
          obtain ⟨b75, h, hc75⟩ := lp_at h0
          have h : f_M_writeRuns_l75 n p1_n p1 v2 v4 v6 = some b75 := h
          unfold f_M_writeRuns_l75 at h
          refine lv_iload hx hb d_M_writeRuns_75 (lv_at hl 4 rfl) ?_
          refine lv_bipush (v := 8) hx hb d_M_writeRuns_77 (by decide) ?_
          refine lv_iload hx hb d_M_writeRuns_79 (lv_at hl 5 rfl) ?_
          refine lv_imul hx hb d_M_writeRuns_81 ?_
          refine lv_iadd hx hb d_M_writeRuns_82 ?_
          refine lv_iload_n hx hb d_M_writeRuns_83 rfl (lv_at hl 2 rfl) ?_
          refine lv_icmp_ge (tgt := 111) hx hb d_M_writeRuns_84 (by decide) (fun c => ?_) (fun c => ?_)
          · have h := ift_at h c
            obtain rfl := lp_out h hc75
            exact J111 t_outSize t_out v4 v6 _ _ ls hP hD hS (lv_sub hl [0, 1, 2, 3, 4, 5] rfl) hx75
          · have h := iff_at h c
            refine lv_aload_n hx hb d_M_writeRuns_87 rfl (lv_at hl 1 rfl) ?_
            refine lv_iload hx hb d_M_writeRuns_88 (lv_at hl 4 rfl) ?_
            refine lv_bipush (v := 8) hx hb d_M_writeRuns_90 (by decide) ?_
            refine lv_iload hx hb d_M_writeRuns_92 (lv_at hl 5 rfl) ?_
            refine lv_imul hx hb d_M_writeRuns_94 ?_
            refine lv_iadd hx hb d_M_writeRuns_95 ?_
            refine lv_iload_n hx hb d_M_writeRuns_96 rfl (lv_at hl 2 rfl) ?_
            obtain ⟨o208, ho208, h⟩ := obd_at h
            refine g_S (As := [.ref a_p1, .int (v4 + ((8 : Int32) * v6)), .int v2]) (rest := []) hx hb hml hown hts hA hK hP hD hS hE (c_M_alike l D k a_p1 p1_n p1 (v4 + ((8 : Int32) * v6)) v2 n o208 ho208) mw_M_alike ms_M_alike ml_M_103 [2] rfl (by decide) rfl rfl rfl rfl rfl hl.1 rfl (Nat.le_of_ble_eq_true rfl) ⟨Nat.zero_le _, Nat.zero_le _⟩ d_M_writeRuns_97 (fun H locs hP hD hS => ?_)
            have hP : va_P D CL [(a_t, .inr (9, [.int t_code, .int t_type, .int t_mostR, .int t_mostD, .int t_entries, .int t_values, .int t_coding, .int t_bodySize, .ref a_t_repetitions, .ref a_t_definitions, .ref a_t_newRepetitions, .ref a_t_newDefinitions, .ref a_t_wholes, .ref a_t_newWholes, .ref a_t_words8, .ref a_t_from, .ref a_t_newFrom, .ref a_t_wordFrom, .ref a_t_bytes, .ref a_t_newBytes, .ref a_t_wordBytes, .int t_newCount, .int t_words, .ref a_t_tape, .ref a_t_input, .ref a_t_out, .ref a_t_body, .int t_taped, .int t_inputSize, .int t_outSize, .int t_at, .int t_stop, .int t_fault, .ref a_t_longs, .int t_longCount, .ref a_t_numbers, .ref a_t_common, .ref a_t_more, .ref a_t_told2, .ref a_t_toldSize, .ref a_t_toldBytes])), (a_t_out, .inl (k.2.1, t_out_n, .inl t_out)), (a_p1, .inl (k.2.1, p1_n, .inl p1))] H := hP
            have hD : va_D A [(a_t, .inr (9, [.int t_code, .int t_type, .int t_mostR, .int t_mostD, .int t_entries, .int t_values, .int t_coding, .int t_bodySize, .ref a_t_repetitions, .ref a_t_definitions, .ref a_t_newRepetitions, .ref a_t_newDefinitions, .ref a_t_wholes, .ref a_t_newWholes, .ref a_t_words8, .ref a_t_from, .ref a_t_newFrom, .ref a_t_wordFrom, .ref a_t_bytes, .ref a_t_newBytes, .ref a_t_wordBytes, .int t_newCount, .int t_words, .ref a_t_tape, .ref a_t_input, .ref a_t_out, .ref a_t_body, .int t_taped, .int t_inputSize, .int t_outSize, .int t_at, .int t_stop, .int t_fault, .ref a_t_longs, .int t_longCount, .ref a_t_numbers, .ref a_t_common, .ref a_t_more, .ref a_t_told2, .ref a_t_toldSize, .ref a_t_toldBytes])), (a_t_out, .inl (k.2.1, t_out_n, .inl t_out)), (a_p1, .inl (k.2.1, p1_n, .inl p1))] := hD
            refine W.eq (g2 := F0 m 100 ls [.int o208]) rfl ?_
            refine lv_bipush (v := 8) hx hb d_M_writeRuns_100 (by decide) ?_
            refine lv_icmp_ge (tgt := 111) hx hb d_M_writeRuns_102 (by decide) (fun c => ?_) (fun c => ?_)
            · have h := ift_at h c
              obtain rfl := lp_out h hc75
              exact J111 t_outSize t_out v4 v6 _ _ ls hP hD hS (lv_sub hl [0, 1, 2, 3, 4, 5] rfl) hx75
            · have h := iff_at h c
              obtain ⟨x210, ex210⟩ : ∃ z : Int32, z = v6 + (1 : Int32) := ⟨_, rfl⟩
              have h := bnd_at h ex210
              refine lv_iinc (v := x210) (lv' := [(6, .int x210), (0, .ref a_t), (1, .ref a_p1), (2, .int v2), (3, .int v3), (4, .int v4)]) hx hb d_M_writeRuns_105 hl (k := 5) rfl (by rw [ex210]; rfl) (by decide) rfl (fun ls hl => ?_)
              refine lv_goto (tgt := 75) hx hb d_M_writeRuns_108 (by decide) ?_
              have h := lp_go h hc75
              exact ih75 t_outSize t_out v4 x210 o _ _ ls hP hD hS (lv_sub hl [1, 2, 3, 4, 5, 0] rfl) h hx75
      have J62 : ∀ (t_outSize : Int32) (t_out : Nat → Int32) (v4 : Int32) (v5 : Int32) (H : Heap) (locs : List Loc) (ls : Array Slot), va_P D CL [(a_t, .inr (9, [.int t_code, .int t_type, .int t_mostR, .int t_mostD, .int t_entries, .int t_values, .int t_coding, .int t_bodySize, .ref a_t_repetitions, .ref a_t_definitions, .ref a_t_newRepetitions, .ref a_t_newDefinitions, .ref a_t_wholes, .ref a_t_newWholes, .ref a_t_words8, .ref a_t_from, .ref a_t_newFrom, .ref a_t_wordFrom, .ref a_t_bytes, .ref a_t_newBytes, .ref a_t_wordBytes, .int t_newCount, .int t_words, .ref a_t_tape, .ref a_t_input, .ref a_t_out, .ref a_t_body, .int t_taped, .int t_inputSize, .int t_outSize, .int t_at, .int t_stop, .int t_fault, .ref a_t_longs, .int t_longCount, .ref a_t_numbers, .ref a_t_common, .ref a_t_more, .ref a_t_told2, .ref a_t_toldSize, .ref a_t_toldBytes])), (a_t_out, .inl (k.2.1, t_out_n, .inl t_out)), (a_p1, .inl (k.2.1, p1_n, .inl p1))] H → va_D A [(a_t, .inr (9, [.int t_code, .int t_type, .int t_mostR, .int t_mostD, .int t_entries, .int t_values, .int t_coding, .int t_bodySize, .ref a_t_repetitions, .ref a_t_definitions, .ref a_t_newRepetitions, .ref a_t_newDefinitions, .ref a_t_wholes, .ref a_t_newWholes, .ref a_t_words8, .ref a_t_from, .ref a_t_newFrom, .ref a_t_wordFrom, .ref a_t_bytes, .ref a_t_newBytes, .ref a_t_wordBytes, .int t_newCount, .int t_words, .ref a_t_tape, .ref a_t_input, .ref a_t_out, .ref a_t_body, .int t_taped, .int t_inputSize, .int t_outSize, .int t_at, .int t_stop, .int t_fault, .ref a_t_longs, .int t_longCount, .ref a_t_numbers, .ref a_t_common, .ref a_t_more, .ref a_t_told2, .ref a_t_toldSize, .ref a_t_toldBytes])), (a_t_out, .inl (k.2.1, t_out_n, .inl t_out)), (a_p1, .inl (k.2.1, p1_n, .inl p1))] → va_S A s.heap H locs → lv_has ls 11 [(0, .ref a_t), (1, .ref a_p1), (2, .int v2), (3, .int v3), (4, .int v4), (5, .int v5)] → f_M_writeRuns_j62 t_outSize t_out v4 v5 = some b3 → W p l e rm_M_writeRuns s m args below meth c H locs 0 0 Q (F0 m 62 ls []) := by
        intro t_outSize t_out v4 v5 H locs ls hP hD hS hl h
        unfold f_M_writeRuns_j62 at h
        refine lv_iload hx hb d_M_writeRuns_62 (lv_at hl 4 rfl) ?_
        refine lv_iload hx hb d_M_writeRuns_64 (lv_at hl 5 rfl) ?_
        refine lv_iadd hx hb d_M_writeRuns_66 ?_
        refine lv_topi (fun x226 ex226 => ?_)
        have h := bnd_at h ex226
        refine lv_istore (lv' := [(4, .int x226), (0, .ref a_t), (1, .ref a_p1), (2, .int v2), (3, .int v3), (5, .int v5)]) hx hb d_M_writeRuns_67 hl (by decide) rfl (fun ls hl => ?_)
        refine lv_goto (tgt := 3) hx hb d_M_writeRuns_69 (by decide) ?_
        have h := lp_go h hc3
        exact ih3 t_outSize t_out x226 o _ _ ls hP hD hS (lv_sub hl [1, 2, 3, 4, 0] rfl) h hx3
      have L39 : ∀ (K : Nat) (t_outSize : Int32) (t_out : Nat → Int32) (v4 : Int32) (v5 : Int32) (v6 : Int32) (o : (Int32 × (Nat → Int32) × Int32)) (H : Heap) (locs : List Loc) (ls : Array Slot), va_P D CL [(a_t, .inr (9, [.int t_code, .int t_type, .int t_mostR, .int t_mostD, .int t_entries, .int t_values, .int t_coding, .int t_bodySize, .ref a_t_repetitions, .ref a_t_definitions, .ref a_t_newRepetitions, .ref a_t_newDefinitions, .ref a_t_wholes, .ref a_t_newWholes, .ref a_t_words8, .ref a_t_from, .ref a_t_newFrom, .ref a_t_wordFrom, .ref a_t_bytes, .ref a_t_newBytes, .ref a_t_wordBytes, .int t_newCount, .int t_words, .ref a_t_tape, .ref a_t_input, .ref a_t_out, .ref a_t_body, .int t_taped, .int t_inputSize, .int t_outSize, .int t_at, .int t_stop, .int t_fault, .ref a_t_longs, .int t_longCount, .ref a_t_numbers, .ref a_t_common, .ref a_t_more, .ref a_t_told2, .ref a_t_toldSize, .ref a_t_toldBytes])), (a_t_out, .inl (k.2.1, t_out_n, .inl t_out)), (a_p1, .inl (k.2.1, p1_n, .inl p1))] H → va_D A [(a_t, .inr (9, [.int t_code, .int t_type, .int t_mostR, .int t_mostD, .int t_entries, .int t_values, .int t_coding, .int t_bodySize, .ref a_t_repetitions, .ref a_t_definitions, .ref a_t_newRepetitions, .ref a_t_newDefinitions, .ref a_t_wholes, .ref a_t_newWholes, .ref a_t_words8, .ref a_t_from, .ref a_t_newFrom, .ref a_t_wordFrom, .ref a_t_bytes, .ref a_t_newBytes, .ref a_t_wordBytes, .int t_newCount, .int t_words, .ref a_t_tape, .ref a_t_input, .ref a_t_out, .ref a_t_body, .int t_taped, .int t_inputSize, .int t_outSize, .int t_at, .int t_stop, .int t_fault, .ref a_t_longs, .int t_longCount, .ref a_t_numbers, .ref a_t_common, .ref a_t_more, .ref a_t_told2, .ref a_t_toldSize, .ref a_t_toldBytes])), (a_t_out, .inl (k.2.1, t_out_n, .inl t_out)), (a_p1, .inl (k.2.1, p1_n, .inl p1))] → va_S A s.heap H locs → lv_has ls 11 [(0, .ref a_t), (1, .ref a_p1), (2, .int v2), (3, .int v3), (4, .int v4), (5, .int v5), (6, .int v6)] → lp (fun v => f_M_writeRuns_l39 t_out_n p1_n p1 v3 v4 v.1 v.2.1 v.2.2) K (t_outSize, t_out, v6) = some o → (fun o => f_M_writeRuns_j62 o.1 o.2.1 v4 v5) o = some b3 → W p l e rm_M_writeRuns s m args below meth c H locs 0 0 Q (F0 m 39 ls []) := by
        intro K
        induction K with
        | zero => intros; exact absurd (by assumption) lp_no
        | succ K ih39 =>
          intro t_outSize t_out v4 v5 v6 o H locs ls hP hD hS hl h0 hx39
          obtain ⟨b39, h, hc39⟩ := lp_at h0
          have h : f_M_writeRuns_l39 t_out_n p1_n p1 v3 v4 t_outSize t_out v6 = some b39 := h
          unfold f_M_writeRuns_l39 at h
          refine lv_iload hx hb d_M_writeRuns_39 (lv_at hl 6 rfl) ?_
          refine lv_iload_n hx hb d_M_writeRuns_41 rfl (lv_at hl 3 rfl) ?_
          refine lv_icmp_ge (tgt := 62) hx hb d_M_writeRuns_42 (by decide) (fun c => ?_) (fun c => ?_)
          · have h := ift_at h c
            obtain rfl := lp_out h hc39
            exact J62 t_outSize t_out v4 v5 _ _ ls hP hD hS (lv_sub hl [0, 1, 2, 3, 4, 5] rfl) hx39
          · have h := iff_at h c
            refine lv_aload_n hx hb d_M_writeRuns_45 rfl (lv_at hl 0 rfl) ?_
            refine lv_aload_n hx hb d_M_writeRuns_46 rfl (lv_at hl 1 rfl) ?_
            refine lv_iload hx hb d_M_writeRuns_47 (lv_at hl 4 rfl) ?_
            obtain ⟨g281, h⟩ := gd_at h
            refine va_iald hx hb hK hP 2 1 rfl rfl (inB_in g281) d_M_writeRuns_49 ?_
            refine lv_iload hx hb d_M_writeRuns_50 (lv_at hl 6 rfl) ?_
            refine lv_ishr hx hb d_M_writeRuns_52 ?_
            obtain ⟨o282, ho282, h⟩ := obd_at h
            refine g_V (As := [.int ((p1 v4.toNatClampNeg) >>> (v6 &&& 31))]) (rest := []) hx hb hml hown hts hA hK hP hD hS hE (c_M_put l D k a_t a_t_repetitions a_t_definitions a_t_newRepetitions a_t_newDefinitions a_t_wholes a_t_newWholes a_t_words8 a_t_from a_t_newFrom a_t_wordFrom a_t_bytes a_t_newBytes a_t_wordBytes a_t_tape a_t_input a_t_out a_t_body a_t_longs a_t_numbers a_t_common a_t_more a_t_told2 a_t_toldSize a_t_toldBytes t_out_n t_code t_type t_mostR t_mostD t_entries t_values t_coding t_bodySize t_newCount t_words t_taped t_inputSize t_outSize t_at t_stop t_fault t_longCount t_out ((p1 v4.toNatClampNeg) >>> (v6 &&& 31)) n o282 ho282) mw_M_put mi_M_put ml_M_99 [0, 1] rfl (by decide) rfl rfl rfl 0 rfl rfl rfl rfl rfl hl.1 rfl (Nat.le_of_ble_eq_true rfl) ⟨Nat.zero_le _, Nat.zero_le _⟩ d_M_writeRuns_53 (fun H locs hP hD hS => ?_)
            have hP : va_P D CL [(a_t, .inr (9, [.int t_code, .int t_type, .int t_mostR, .int t_mostD, .int t_entries, .int t_values, .int t_coding, .int t_bodySize, .ref a_t_repetitions, .ref a_t_definitions, .ref a_t_newRepetitions, .ref a_t_newDefinitions, .ref a_t_wholes, .ref a_t_newWholes, .ref a_t_words8, .ref a_t_from, .ref a_t_newFrom, .ref a_t_wordFrom, .ref a_t_bytes, .ref a_t_newBytes, .ref a_t_wordBytes, .int t_newCount, .int t_words, .ref a_t_tape, .ref a_t_input, .ref a_t_out, .ref a_t_body, .int t_taped, .int t_inputSize, .int o282.1, .int t_at, .int t_stop, .int t_fault, .ref a_t_longs, .int t_longCount, .ref a_t_numbers, .ref a_t_common, .ref a_t_more, .ref a_t_told2, .ref a_t_toldSize, .ref a_t_toldBytes])), (a_t_out, .inl (k.2.1, t_out_n, .inl o282.2)), (a_p1, .inl (k.2.1, p1_n, .inl p1))] H := hP
            have hD : va_D A [(a_t, .inr (9, [.int t_code, .int t_type, .int t_mostR, .int t_mostD, .int t_entries, .int t_values, .int t_coding, .int t_bodySize, .ref a_t_repetitions, .ref a_t_definitions, .ref a_t_newRepetitions, .ref a_t_newDefinitions, .ref a_t_wholes, .ref a_t_newWholes, .ref a_t_words8, .ref a_t_from, .ref a_t_newFrom, .ref a_t_wordFrom, .ref a_t_bytes, .ref a_t_newBytes, .ref a_t_wordBytes, .int t_newCount, .int t_words, .ref a_t_tape, .ref a_t_input, .ref a_t_out, .ref a_t_body, .int t_taped, .int t_inputSize, .int o282.1, .int t_at, .int t_stop, .int t_fault, .ref a_t_longs, .int t_longCount, .ref a_t_numbers, .ref a_t_common, .ref a_t_more, .ref a_t_told2, .ref a_t_toldSize, .ref a_t_toldBytes])), (a_t_out, .inl (k.2.1, t_out_n, .inl o282.2)), (a_p1, .inl (k.2.1, p1_n, .inl p1))] := hD
            refine W.eq (g2 := F0 m 56 ls []) rfl ?_
            obtain ⟨x283, ex283⟩ : ∃ z : Int32, z = v6 + (8 : Int32) := ⟨_, rfl⟩
            have h := bnd_at h ex283
            refine lv_iinc (v := x283) (lv' := [(6, .int x283), (0, .ref a_t), (1, .ref a_p1), (2, .int v2), (3, .int v3), (4, .int v4), (5, .int v5)]) hx hb d_M_writeRuns_56 hl (k := 6) rfl (by rw [ex283]; rfl) (by decide) rfl (fun ls hl => ?_)
            refine lv_goto (tgt := 39) hx hb d_M_writeRuns_59 (by decide) ?_
            have h := lp_go h hc39
            exact ih39 o282.1 o282.2 v4 v5 x283 o _ _ ls hP hD hS (lv_sub hl [1, 2, 3, 4, 5, 6, 0] rfl) h hx39
      unfold f_M_writeRuns_l3 at h
      refine lv_iload hx hb d_M_writeRuns_3 (lv_at hl 4 rfl) ?_
      refine lv_iload_n hx hb d_M_writeRuns_5 rfl (lv_at hl 2 rfl) ?_
      refine lv_icmp_ge (tgt := 223) hx hb d_M_writeRuns_6 (by decide) (fun c => ?_) (fun c => ?_)
      · have h := ift_at h c
        obtain rfl := lp_out h hc3
        exact ret2 _ _ (Option.some.inj hx3) d_M_writeRuns_223 hP hD hS
      · have h := iff_at h c
        refine lv_aload_n hx hb d_M_writeRuns_9 rfl (lv_at hl 1 rfl) ?_
        refine lv_iload hx hb d_M_writeRuns_10 (lv_at hl 4 rfl) ?_
        refine lv_iload_n hx hb d_M_writeRuns_12 rfl (lv_at hl 2 rfl) ?_
        obtain ⟨o304, ho304, h⟩ := obd_at h
        refine g_S (As := [.ref a_p1, .int v4, .int v2]) (rest := []) hx hb hml hown hts hA hK hP hD hS hE (c_M_alike l D k a_p1 p1_n p1 v4 v2 n o304 ho304) mw_M_alike ms_M_alike ml_M_103 [2] rfl (by decide) rfl rfl rfl rfl rfl hl.1 rfl (Nat.le_of_ble_eq_true rfl) ⟨Nat.zero_le _, Nat.zero_le _⟩ d_M_writeRuns_13 (fun H locs hP hD hS => ?_)
        have hP : va_P D CL [(a_t, .inr (9, [.int t_code, .int t_type, .int t_mostR, .int t_mostD, .int t_entries, .int t_values, .int t_coding, .int t_bodySize, .ref a_t_repetitions, .ref a_t_definitions, .ref a_t_newRepetitions, .ref a_t_newDefinitions, .ref a_t_wholes, .ref a_t_newWholes, .ref a_t_words8, .ref a_t_from, .ref a_t_newFrom, .ref a_t_wordFrom, .ref a_t_bytes, .ref a_t_newBytes, .ref a_t_wordBytes, .int t_newCount, .int t_words, .ref a_t_tape, .ref a_t_input, .ref a_t_out, .ref a_t_body, .int t_taped, .int t_inputSize, .int t_outSize, .int t_at, .int t_stop, .int t_fault, .ref a_t_longs, .int t_longCount, .ref a_t_numbers, .ref a_t_common, .ref a_t_more, .ref a_t_told2, .ref a_t_toldSize, .ref a_t_toldBytes])), (a_t_out, .inl (k.2.1, t_out_n, .inl t_out)), (a_p1, .inl (k.2.1, p1_n, .inl p1))] H := hP
        have hD : va_D A [(a_t, .inr (9, [.int t_code, .int t_type, .int t_mostR, .int t_mostD, .int t_entries, .int t_values, .int t_coding, .int t_bodySize, .ref a_t_repetitions, .ref a_t_definitions, .ref a_t_newRepetitions, .ref a_t_newDefinitions, .ref a_t_wholes, .ref a_t_newWholes, .ref a_t_words8, .ref a_t_from, .ref a_t_newFrom, .ref a_t_wordFrom, .ref a_t_bytes, .ref a_t_newBytes, .ref a_t_wordBytes, .int t_newCount, .int t_words, .ref a_t_tape, .ref a_t_input, .ref a_t_out, .ref a_t_body, .int t_taped, .int t_inputSize, .int t_outSize, .int t_at, .int t_stop, .int t_fault, .ref a_t_longs, .int t_longCount, .ref a_t_numbers, .ref a_t_common, .ref a_t_more, .ref a_t_told2, .ref a_t_toldSize, .ref a_t_toldBytes])), (a_t_out, .inl (k.2.1, t_out_n, .inl t_out)), (a_p1, .inl (k.2.1, p1_n, .inl p1))] := hD
        refine W.eq (g2 := F0 m 16 ls [.int o304]) rfl ?_
        refine lv_istore (lv' := [(5, .int o304), (0, .ref a_t), (1, .ref a_p1), (2, .int v2), (3, .int v3), (4, .int v4)]) hx hb d_M_writeRuns_16 hl (by decide) rfl (fun ls hl => ?_)
        refine lv_iload hx hb d_M_writeRuns_18 (lv_at hl 0 rfl) ?_
        refine lv_bipush (v := 8) hx hb d_M_writeRuns_20 (by decide) ?_
        refine lv_icmp_lt (tgt := 72) hx hb d_M_writeRuns_22 (by decide) (fun c => ?_) (fun c => ?_)
        · have h := ift_at h c
          refine lv_iconst (v := 1) hx hb d_M_writeRuns_72 (by decide) ?_
          refine lv_istore (lv' := [(6, .int (1 : Int32)), (5, .int o304), (0, .ref a_t), (1, .ref a_p1), (2, .int v2), (3, .int v3), (4, .int v4)]) hx hb d_M_writeRuns_73 hl (by decide) rfl (fun ls hl => ?_)
          obtain ⟨o305, ho305, h⟩ := obd_at h
          exact L75 n t_outSize t_out v4 (1 : Int32) o305 _ _ ls hP hD hS (lv_sub hl [2, 3, 4, 5, 6, 0] rfl) ho305 h
        · have h := iff_at h c
          refine lv_aload_n hx hb d_M_writeRuns_25 rfl (lv_at hl 1 rfl) ?_
          refine lv_ldc2 (v := 2) hx hb hown (hts _ kc_M_107) d_M_writeRuns_26 ?_
          refine lv_iload hx hb d_M_writeRuns_29 (lv_at hl 0 rfl) ?_
          refine lv_i2l hx hb d_M_writeRuns_31 rfl ?_
          refine lv_lmul hx hb d_M_writeRuns_32 ?_
          obtain ⟨o306, ho306, h⟩ := obd_at h
          refine g_V (As := [.long ((2 : Int64) * o304.toInt64)]) (rest := []) hx hb hml hown hts hA hK hP hD hS hE (c_M_putVarint l D k a_t a_t_repetitions a_t_definitions a_t_newRepetitions a_t_newDefinitions a_t_wholes a_t_newWholes a_t_words8 a_t_from a_t_newFrom a_t_wordFrom a_t_bytes a_t_newBytes a_t_wordBytes a_t_tape a_t_input a_t_out a_t_body a_t_longs a_t_numbers a_t_common a_t_more a_t_told2 a_t_toldSize a_t_toldBytes t_out_n t_code t_type t_mostR t_mostD t_entries t_values t_coding t_bodySize t_newCount t_words t_taped t_inputSize t_outSize t_at t_stop t_fault t_longCount t_out ((2 : Int64) * o304.toInt64) n o306 ho306) mw_M_putVarint mi_M_putVarint ml_M_109 [0, 1] rfl (by decide) rfl rfl rfl 0 rfl rfl rfl rfl rfl hl.1 rfl (Nat.le_of_ble_eq_true rfl) ⟨Nat.zero_le _, Nat.zero_le _⟩ d_M_writeRuns_33 (fun H locs hP hD hS => ?_)
          have hP : va_P D CL [(a_t, .inr (9, [.int t_code, .int t_type, .int t_mostR, .int t_mostD, .int t_entries, .int t_values, .int t_coding, .int t_bodySize, .ref a_t_repetitions, .ref a_t_definitions, .ref a_t_newRepetitions, .ref a_t_newDefinitions, .ref a_t_wholes, .ref a_t_newWholes, .ref a_t_words8, .ref a_t_from, .ref a_t_newFrom, .ref a_t_wordFrom, .ref a_t_bytes, .ref a_t_newBytes, .ref a_t_wordBytes, .int t_newCount, .int t_words, .ref a_t_tape, .ref a_t_input, .ref a_t_out, .ref a_t_body, .int t_taped, .int t_inputSize, .int o306.1, .int t_at, .int t_stop, .int t_fault, .ref a_t_longs, .int t_longCount, .ref a_t_numbers, .ref a_t_common, .ref a_t_more, .ref a_t_told2, .ref a_t_toldSize, .ref a_t_toldBytes])), (a_t_out, .inl (k.2.1, t_out_n, .inl o306.2)), (a_p1, .inl (k.2.1, p1_n, .inl p1))] H := hP
          have hD : va_D A [(a_t, .inr (9, [.int t_code, .int t_type, .int t_mostR, .int t_mostD, .int t_entries, .int t_values, .int t_coding, .int t_bodySize, .ref a_t_repetitions, .ref a_t_definitions, .ref a_t_newRepetitions, .ref a_t_newDefinitions, .ref a_t_wholes, .ref a_t_newWholes, .ref a_t_words8, .ref a_t_from, .ref a_t_newFrom, .ref a_t_wordFrom, .ref a_t_bytes, .ref a_t_newBytes, .ref a_t_wordBytes, .int t_newCount, .int t_words, .ref a_t_tape, .ref a_t_input, .ref a_t_out, .ref a_t_body, .int t_taped, .int t_inputSize, .int o306.1, .int t_at, .int t_stop, .int t_fault, .ref a_t_longs, .int t_longCount, .ref a_t_numbers, .ref a_t_common, .ref a_t_more, .ref a_t_told2, .ref a_t_toldSize, .ref a_t_toldBytes])), (a_t_out, .inl (k.2.1, t_out_n, .inl o306.2)), (a_p1, .inl (k.2.1, p1_n, .inl p1))] := hD
          refine W.eq (g2 := F0 m 36 ls []) rfl ?_
          refine lv_iconst (v := 0) hx hb d_M_writeRuns_36 (by decide) ?_
          refine lv_istore (lv' := [(6, .int (0 : Int32)), (5, .int o304), (0, .ref a_t), (1, .ref a_p1), (2, .int v2), (3, .int v3), (4, .int v4)]) hx hb d_M_writeRuns_37 hl (by decide) rfl (fun ls hl => ?_)
          obtain ⟨o307, ho307, h⟩ := obd_at h
          exact L39 n o306.1 o306.2 v4 o304 (0 : Int32) o307 _ _ ls hP hD hS (lv_sub hl [2, 3, 4, 5, 6, 1, 0] rfl) ho307 h
  unfold f_M_writeRuns at h
  refine lv_iconst (v := 0) hx hb d_M_writeRuns_0 (by decide) ?_
  refine lv_istore (lv' := [(4, .int (0 : Int32)), (0, .ref a_t), (1, .ref a_p1), (2, .int v2), (3, .int v3)]) hx hb d_M_writeRuns_1 hl (by decide) rfl (fun ls hl => ?_)
  obtain ⟨o348, ho348, h⟩ := obd_at h
  exact L3 n t_outSize t_out (0 : Int32) o348 _ _ ls hP hD hS (lv_sub hl [1, 2, 3, 4, 0] rfl) ho348 h

