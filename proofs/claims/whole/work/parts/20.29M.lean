def rm_M_turn : Room := { frames := 0, cells := 0, slots := 0, locals := 0 }
def f_M_turn_j45 (t_code : Int32) (t_outSize : Int32) (t_input : Nat → Int32) : Option (Int32 × Int32 × Int32 × (Nat → Int32)) :=
  some ((1 : Int32), t_code, t_outSize, t_input)
def f_M_turn_l19 (t_input_n : Nat) (t_out_n : Nat) (t_outSize : Int32) (t_out : Nat → Int32) (t_input : Nat → Int32) (v1 : Int32) : Option (((Nat → Int32) × Int32) ⊕ (((Nat → Int32) × Int32))) :=
  (if t_outSize ≤ v1 then some (Sum.inr ((t_input, v1))) else gd (inB v1 t_out_n) (bnd (t_out v1.toNatClampNeg) (fun x8 => gd (inB v1 t_input_n) (bnd (v1 + (1 : Int32)) (fun x10 => some (Sum.inl (upd t_input v1.toNatClampNeg x8, x10)))))))
def f_M_turn (n : Nat) (t_input_n : Nat) (t_out_n : Nat) (t_inputSize : Int32) (t_outSize : Int32) (t_input : Nat → Int32) (t_out : Nat → Int32) : Option (Int32 × Int32 × Int32 × (Nat → Int32)) :=
  (if t_outSize ≤ (30000 : Int32) then Option.bind (lp (fun v => f_M_turn_l19 t_input_n t_out_n t_outSize t_out v.1 v.2) n (t_input, (0 : Int32))) (fun o => f_M_turn_j45 (0 : Int32) t_outSize o.1) else some ((0 : Int32), (0 : Int32), t_inputSize, t_input))
set_option maxHeartbeats 4000000 in
set_option maxRecDepth 100000 in
theorem c_M_turn (l : Launch) (D : va_G) (k : ClassId × ClassId × ClassId) (a_t a_t_repetitions a_t_definitions a_t_newRepetitions a_t_newDefinitions a_t_wholes a_t_newWholes a_t_words8 a_t_from a_t_newFrom a_t_wordFrom a_t_bytes a_t_newBytes a_t_wordBytes a_t_tape a_t_input a_t_out a_t_body a_t_longs a_t_numbers a_t_common a_t_more a_t_told2 a_t_toldSize a_t_toldBytes : Nat) (t_input_n t_out_n : Nat) (t_code : Int32) (t_type : Int32) (t_mostR : Int32) (t_mostD : Int32) (t_entries : Int32) (t_values : Int32) (t_coding : Int32) (t_bodySize : Int32) (t_newCount : Int32) (t_words : Int32) (t_taped : Int32) (t_inputSize : Int32) (t_outSize : Int32) (t_at : Int32) (t_stop : Int32) (t_fault : Int32) (t_longCount : Int32) (t_input : Nat → Int32) (t_out : Nat → Int32) (n : Nat) (out : Int32 × Int32 × Int32 × (Nat → Int32)) (h : f_M_turn n t_input_n t_out_n t_inputSize t_outSize t_input t_out = some out) : Ct l D k y_M_turn b_M_turn 2 (some .boolean) rm_M_turn [.ref a_t] [(a_t, .inr (9, [.int t_code, .int t_type, .int t_mostR, .int t_mostD, .int t_entries, .int t_values, .int t_coding, .int t_bodySize, .ref a_t_repetitions, .ref a_t_definitions, .ref a_t_newRepetitions, .ref a_t_newDefinitions, .ref a_t_wholes, .ref a_t_newWholes, .ref a_t_words8, .ref a_t_from, .ref a_t_newFrom, .ref a_t_wordFrom, .ref a_t_bytes, .ref a_t_newBytes, .ref a_t_wordBytes, .int t_newCount, .int t_words, .ref a_t_tape, .ref a_t_input, .ref a_t_out, .ref a_t_body, .int t_taped, .int t_inputSize, .int t_outSize, .int t_at, .int t_stop, .int t_fault, .ref a_t_longs, .int t_longCount, .ref a_t_numbers, .ref a_t_common, .ref a_t_more, .ref a_t_told2, .ref a_t_toldSize, .ref a_t_toldBytes])), (a_t_input, .inl (k.2.1, t_input_n, .inl t_input)), (a_t_out, .inl (k.2.1, t_out_n, .inl t_out))] [(a_t, .inr (9, [.int out.2.1, .int t_type, .int t_mostR, .int t_mostD, .int t_entries, .int t_values, .int t_coding, .int t_bodySize, .ref a_t_repetitions, .ref a_t_definitions, .ref a_t_newRepetitions, .ref a_t_newDefinitions, .ref a_t_wholes, .ref a_t_newWholes, .ref a_t_words8, .ref a_t_from, .ref a_t_newFrom, .ref a_t_wordFrom, .ref a_t_bytes, .ref a_t_newBytes, .ref a_t_wordBytes, .int t_newCount, .int t_words, .ref a_t_tape, .ref a_t_input, .ref a_t_out, .ref a_t_body, .int t_taped, .int out.2.2.1, .int t_outSize, .int t_at, .int t_stop, .int t_fault, .ref a_t_longs, .int t_longCount, .ref a_t_numbers, .ref a_t_common, .ref a_t_more, .ref a_t_told2, .ref a_t_toldSize, .ref a_t_toldBytes])), (a_t_input, .inl (k.2.1, t_input_n, .inl out.2.2.2)), (a_t_out, .inl (k.2.1, t_out_n, .inl t_out))] (some (.int out.1)) := by
  refine Ct.ofZ (by decide) (Nat.le_of_ble_eq_true rfl) ?_
  intro p e s m args below meth c A Q ls hx hb hml hown hts hA hK hP hD hS hE hl ret
  have hown : s.vm.findClass "PageFormModel" = some m.cls := hown
  have hl : lv_has ls 2 [(0, .ref a_t)] := hl
  have ret2 : ∀ (y0 : Int32) (y1 : Int32) (y2 : Int32) (y3 : Nat → Int32) (_ : (y0, y1, y2, y3) = out) {pc : Nat} {ls : Array Slot} {H : Heap} {locs : List Loc}, decode b_M_turn pc = .ok (.ireturn, 1) → narrow .boolean (.int y0) = .int y0 → va_P D CL [(a_t, .inr (9, [.int y1, .int t_type, .int t_mostR, .int t_mostD, .int t_entries, .int t_values, .int t_coding, .int t_bodySize, .ref a_t_repetitions, .ref a_t_definitions, .ref a_t_newRepetitions, .ref a_t_newDefinitions, .ref a_t_wholes, .ref a_t_newWholes, .ref a_t_words8, .ref a_t_from, .ref a_t_newFrom, .ref a_t_wordFrom, .ref a_t_bytes, .ref a_t_newBytes, .ref a_t_wordBytes, .int t_newCount, .int t_words, .ref a_t_tape, .ref a_t_input, .ref a_t_out, .ref a_t_body, .int t_taped, .int y2, .int t_outSize, .int t_at, .int t_stop, .int t_fault, .ref a_t_longs, .int t_longCount, .ref a_t_numbers, .ref a_t_common, .ref a_t_more, .ref a_t_told2, .ref a_t_toldSize, .ref a_t_toldBytes])), (a_t_input, .inl (k.2.1, t_input_n, .inl y3)), (a_t_out, .inl (k.2.1, t_out_n, .inl t_out))] H → va_D A [(a_t, .inr (9, [.int y1, .int t_type, .int t_mostR, .int t_mostD, .int t_entries, .int t_values, .int t_coding, .int t_bodySize, .ref a_t_repetitions, .ref a_t_definitions, .ref a_t_newRepetitions, .ref a_t_newDefinitions, .ref a_t_wholes, .ref a_t_newWholes, .ref a_t_words8, .ref a_t_from, .ref a_t_newFrom, .ref a_t_wordFrom, .ref a_t_bytes, .ref a_t_newBytes, .ref a_t_wordBytes, .int t_newCount, .int t_words, .ref a_t_tape, .ref a_t_input, .ref a_t_out, .ref a_t_body, .int t_taped, .int y2, .int t_outSize, .int t_at, .int t_stop, .int t_fault, .ref a_t_longs, .int t_longCount, .ref a_t_numbers, .ref a_t_common, .ref a_t_more, .ref a_t_told2, .ref a_t_toldSize, .ref a_t_toldBytes])), (a_t_input, .inl (k.2.1, t_input_n, .inl y3)), (a_t_out, .inl (k.2.1, t_out_n, .inl t_out))] → va_S A s.heap H locs → W p l e rm_M_turn s m args below meth c H locs 0 0 Q (F0 m pc ls [.int y0]) := by
    intro y0 y1 y2 y3 e0; subst e0; exact ret
  clear ret
  have J45 : ∀ (t_code : Int32) (t_inputSize : Int32) (t_input : Nat → Int32) (H : Heap) (locs : List Loc) (ls : Array Slot), va_P D CL [(a_t, .inr (9, [.int t_code, .int t_type, .int t_mostR, .int t_mostD, .int t_entries, .int t_values, .int t_coding, .int t_bodySize, .ref a_t_repetitions, .ref a_t_definitions, .ref a_t_newRepetitions, .ref a_t_newDefinitions, .ref a_t_wholes, .ref a_t_newWholes, .ref a_t_words8, .ref a_t_from, .ref a_t_newFrom, .ref a_t_wordFrom, .ref a_t_bytes, .ref a_t_newBytes, .ref a_t_wordBytes, .int t_newCount, .int t_words, .ref a_t_tape, .ref a_t_input, .ref a_t_out, .ref a_t_body, .int t_taped, .int t_inputSize, .int t_outSize, .int t_at, .int t_stop, .int t_fault, .ref a_t_longs, .int t_longCount, .ref a_t_numbers, .ref a_t_common, .ref a_t_more, .ref a_t_told2, .ref a_t_toldSize, .ref a_t_toldBytes])), (a_t_input, .inl (k.2.1, t_input_n, .inl t_input)), (a_t_out, .inl (k.2.1, t_out_n, .inl t_out))] H → va_D A [(a_t, .inr (9, [.int t_code, .int t_type, .int t_mostR, .int t_mostD, .int t_entries, .int t_values, .int t_coding, .int t_bodySize, .ref a_t_repetitions, .ref a_t_definitions, .ref a_t_newRepetitions, .ref a_t_newDefinitions, .ref a_t_wholes, .ref a_t_newWholes, .ref a_t_words8, .ref a_t_from, .ref a_t_newFrom, .ref a_t_wordFrom, .ref a_t_bytes, .ref a_t_newBytes, .ref a_t_wordBytes, .int t_newCount, .int t_words, .ref a_t_tape, .ref a_t_input, .ref a_t_out, .ref a_t_body, .int t_taped, .int t_inputSize, .int t_outSize, .int t_at, .int t_stop, .int t_fault, .ref a_t_longs, .int t_longCount, .ref a_t_numbers, .ref a_t_common, .ref a_t_more, .ref a_t_told2, .ref a_t_toldSize, .ref a_t_toldBytes])), (a_t_input, .inl (k.2.1, t_input_n, .inl t_input)), (a_t_out, .inl (k.2.1, t_out_n, .inl t_out))] → va_S A s.heap H locs → lv_has ls 2 [(0, .ref a_t)] → f_M_turn_j45 t_code t_outSize t_input = some out → W p l e rm_M_turn s m args below meth c H locs 0 0 Q (F0 m 45 ls []) := by
    intro t_code t_inputSize t_input H locs ls hP hD hS hl h
    unfold f_M_turn_j45 at h
    refine lv_aload_n hx hb d_M_turn_45 rfl (lv_at hl 0 rfl) ?_
    refine lv_aload_n hx hb d_M_turn_46 rfl (lv_at hl 0 rfl) ?_
    refine va_get (D := D) (ci := 9) (v := .int t_outSize) (C := "PageFormModel") (T := F_M) (N := 41) hx hb hts in_M hown hK hP 0 rfl rfl 29 (by decide) (hts _ fl_M_88) (fun _ h9 => h9) rfl d_M_turn_47 ?_
    refine va_put (D := D) (ci := 9) (v := .int t_outSize) (ty := .int) (C := "PageFormModel") (T := F_M) (N := 41) hx hb hts in_M t_M t_M_ok n_M hown hK hP hD hS 0 rfl rfl 28 (by decide) (hts _ fl_M_172) (fun _ h9 => h9) rfl (by decide +kernel) rfl rfl (Nat.le_of_ble_eq_true rfl) d_M_turn_50 (fun H locs hP hD hS => ?_)
    have hP : va_P D CL [(a_t, .inr (9, [.int t_code, .int t_type, .int t_mostR, .int t_mostD, .int t_entries, .int t_values, .int t_coding, .int t_bodySize, .ref a_t_repetitions, .ref a_t_definitions, .ref a_t_newRepetitions, .ref a_t_newDefinitions, .ref a_t_wholes, .ref a_t_newWholes, .ref a_t_words8, .ref a_t_from, .ref a_t_newFrom, .ref a_t_wordFrom, .ref a_t_bytes, .ref a_t_newBytes, .ref a_t_wordBytes, .int t_newCount, .int t_words, .ref a_t_tape, .ref a_t_input, .ref a_t_out, .ref a_t_body, .int t_taped, .int t_outSize, .int t_outSize, .int t_at, .int t_stop, .int t_fault, .ref a_t_longs, .int t_longCount, .ref a_t_numbers, .ref a_t_common, .ref a_t_more, .ref a_t_told2, .ref a_t_toldSize, .ref a_t_toldBytes])), (a_t_input, .inl (k.2.1, t_input_n, .inl t_input)), (a_t_out, .inl (k.2.1, t_out_n, .inl t_out))] H := hP
    have hD : va_D A [(a_t, .inr (9, [.int t_code, .int t_type, .int t_mostR, .int t_mostD, .int t_entries, .int t_values, .int t_coding, .int t_bodySize, .ref a_t_repetitions, .ref a_t_definitions, .ref a_t_newRepetitions, .ref a_t_newDefinitions, .ref a_t_wholes, .ref a_t_newWholes, .ref a_t_words8, .ref a_t_from, .ref a_t_newFrom, .ref a_t_wordFrom, .ref a_t_bytes, .ref a_t_newBytes, .ref a_t_wordBytes, .int t_newCount, .int t_words, .ref a_t_tape, .ref a_t_input, .ref a_t_out, .ref a_t_body, .int t_taped, .int t_outSize, .int t_outSize, .int t_at, .int t_stop, .int t_fault, .ref a_t_longs, .int t_longCount, .ref a_t_numbers, .ref a_t_common, .ref a_t_more, .ref a_t_told2, .ref a_t_toldSize, .ref a_t_toldBytes])), (a_t_input, .inl (k.2.1, t_input_n, .inl t_input)), (a_t_out, .inl (k.2.1, t_out_n, .inl t_out))] := hD
    refine lv_iconst (v := 1) hx hb d_M_turn_53 (by decide) ?_
    exact ret2 _ _ _ _ (Option.some.inj h) d_M_turn_54 nb1 hP hD hS
  have L19 : ∀ (K : Nat) (t_code : Int32) (t_inputSize : Int32) (t_input : Nat → Int32) (v1 : Int32) (o : ((Nat → Int32) × Int32)) (H : Heap) (locs : List Loc) (ls : Array Slot), va_P D CL [(a_t, .inr (9, [.int t_code, .int t_type, .int t_mostR, .int t_mostD, .int t_entries, .int t_values, .int t_coding, .int t_bodySize, .ref a_t_repetitions, .ref a_t_definitions, .ref a_t_newRepetitions, .ref a_t_newDefinitions, .ref a_t_wholes, .ref a_t_newWholes, .ref a_t_words8, .ref a_t_from, .ref a_t_newFrom, .ref a_t_wordFrom, .ref a_t_bytes, .ref a_t_newBytes, .ref a_t_wordBytes, .int t_newCount, .int t_words, .ref a_t_tape, .ref a_t_input, .ref a_t_out, .ref a_t_body, .int t_taped, .int t_inputSize, .int t_outSize, .int t_at, .int t_stop, .int t_fault, .ref a_t_longs, .int t_longCount, .ref a_t_numbers, .ref a_t_common, .ref a_t_more, .ref a_t_told2, .ref a_t_toldSize, .ref a_t_toldBytes])), (a_t_input, .inl (k.2.1, t_input_n, .inl t_input)), (a_t_out, .inl (k.2.1, t_out_n, .inl t_out))] H → va_D A [(a_t, .inr (9, [.int t_code, .int t_type, .int t_mostR, .int t_mostD, .int t_entries, .int t_values, .int t_coding, .int t_bodySize, .ref a_t_repetitions, .ref a_t_definitions, .ref a_t_newRepetitions, .ref a_t_newDefinitions, .ref a_t_wholes, .ref a_t_newWholes, .ref a_t_words8, .ref a_t_from, .ref a_t_newFrom, .ref a_t_wordFrom, .ref a_t_bytes, .ref a_t_newBytes, .ref a_t_wordBytes, .int t_newCount, .int t_words, .ref a_t_tape, .ref a_t_input, .ref a_t_out, .ref a_t_body, .int t_taped, .int t_inputSize, .int t_outSize, .int t_at, .int t_stop, .int t_fault, .ref a_t_longs, .int t_longCount, .ref a_t_numbers, .ref a_t_common, .ref a_t_more, .ref a_t_told2, .ref a_t_toldSize, .ref a_t_toldBytes])), (a_t_input, .inl (k.2.1, t_input_n, .inl t_input)), (a_t_out, .inl (k.2.1, t_out_n, .inl t_out))] → va_S A s.heap H locs → lv_has ls 2 [(0, .ref a_t), (1, .int v1)] → lp (fun v => f_M_turn_l19 t_input_n t_out_n t_outSize t_out v.1 v.2) K (t_input, v1) = some o → (fun o => f_M_turn_j45 t_code t_outSize o.1) o = some out → W p l e rm_M_turn s m args below meth c H locs 0 0 Q (F0 m 19 ls []) := by
    intro K
    induction K with
    | zero => intros; exact absurd (by assumption) lp_no
    | succ K ih19 =>
      intro t_code t_inputSize t_input v1 o H locs ls hP hD hS hl h0 hx19
      obtain ⟨b19, h, hc19⟩ := lp_at h0
      have h : f_M_turn_l19 t_input_n t_out_n t_outSize t_out t_input v1 = some b19 := h
      unfold f_M_turn_l19 at h
      refine lv_iload_n hx hb d_M_turn_19 rfl (lv_at hl 1 rfl) ?_
      refine lv_aload_n hx hb d_M_turn_20 rfl (lv_at hl 0 rfl) ?_
      refine va_get (D := D) (ci := 9) (v := .int t_outSize) (C := "PageFormModel") (T := F_M) (N := 41) hx hb hts in_M hown hK hP 0 rfl rfl 29 (by decide) (hts _ fl_M_88) (fun _ h9 => h9) rfl d_M_turn_21 ?_
      refine lv_icmp_ge (tgt := 45) hx hb d_M_turn_24 (by decide) (fun c => ?_) (fun c => ?_)
      · have h := ift_at h c
        obtain rfl := lp_out h hc19
        exact J45 t_code t_inputSize t_input _ _ ls hP hD hS (lv_sub hl [0] rfl) hx19
      · have h := iff_at h c
        refine lv_aload_n hx hb d_M_turn_27 rfl (lv_at hl 0 rfl) ?_
        refine va_get (D := D) (ci := 9) (v := .ref a_t_input) (C := "PageFormModel") (T := F_M) (N := 41) hx hb hts in_M hown hK hP 0 rfl rfl 24 (by decide) (hts _ fl_M_53) (fun _ h9 => h9) rfl d_M_turn_28 ?_
        refine lv_iload_n hx hb d_M_turn_31 rfl (lv_at hl 1 rfl) ?_
        refine lv_aload_n hx hb d_M_turn_32 rfl (lv_at hl 0 rfl) ?_
        refine va_get (D := D) (ci := 9) (v := .ref a_t_out) (C := "PageFormModel") (T := F_M) (N := 41) hx hb hts in_M hown hK hP 0 rfl rfl 25 (by decide) (hts _ fl_M_57) (fun _ h9 => h9) rfl d_M_turn_33 ?_
        refine lv_iload_n hx hb d_M_turn_36 rfl (lv_at hl 1 rfl) ?_
        obtain ⟨g7, h⟩ := gd_at h
        refine va_iald hx hb hK hP 2 1 rfl rfl (inB_in g7) d_M_turn_37 ?_
        refine lv_topi (fun x8 ex8 => ?_)
        have h := bnd_at h ex8
        obtain ⟨g9, h⟩ := gd_at h
        refine va_iast hx hb hK hP hD hS 1 1 rfl rfl (inB_in g9) d_M_turn_38 (fun H locs hP hD hS => ?_)
        have hP : va_P D CL [(a_t, .inr (9, [.int t_code, .int t_type, .int t_mostR, .int t_mostD, .int t_entries, .int t_values, .int t_coding, .int t_bodySize, .ref a_t_repetitions, .ref a_t_definitions, .ref a_t_newRepetitions, .ref a_t_newDefinitions, .ref a_t_wholes, .ref a_t_newWholes, .ref a_t_words8, .ref a_t_from, .ref a_t_newFrom, .ref a_t_wordFrom, .ref a_t_bytes, .ref a_t_newBytes, .ref a_t_wordBytes, .int t_newCount, .int t_words, .ref a_t_tape, .ref a_t_input, .ref a_t_out, .ref a_t_body, .int t_taped, .int t_inputSize, .int t_outSize, .int t_at, .int t_stop, .int t_fault, .ref a_t_longs, .int t_longCount, .ref a_t_numbers, .ref a_t_common, .ref a_t_more, .ref a_t_told2, .ref a_t_toldSize, .ref a_t_toldBytes])), (a_t_input, .inl (k.2.1, t_input_n, .inl (upd t_input v1.toNatClampNeg x8))), (a_t_out, .inl (k.2.1, t_out_n, .inl t_out))] H := hP
        have hD : va_D A [(a_t, .inr (9, [.int t_code, .int t_type, .int t_mostR, .int t_mostD, .int t_entries, .int t_values, .int t_coding, .int t_bodySize, .ref a_t_repetitions, .ref a_t_definitions, .ref a_t_newRepetitions, .ref a_t_newDefinitions, .ref a_t_wholes, .ref a_t_newWholes, .ref a_t_words8, .ref a_t_from, .ref a_t_newFrom, .ref a_t_wordFrom, .ref a_t_bytes, .ref a_t_newBytes, .ref a_t_wordBytes, .int t_newCount, .int t_words, .ref a_t_tape, .ref a_t_input, .ref a_t_out, .ref a_t_body, .int t_taped, .int t_inputSize, .int t_outSize, .int t_at, .int t_stop, .int t_fault, .ref a_t_longs, .int t_longCount, .ref a_t_numbers, .ref a_t_common, .ref a_t_more, .ref a_t_told2, .ref a_t_toldSize, .ref a_t_toldBytes])), (a_t_input, .inl (k.2.1, t_input_n, .inl (upd t_input v1.toNatClampNeg x8))), (a_t_out, .inl (k.2.1, t_out_n, .inl t_out))] := hD
        obtain ⟨x10, ex10⟩ : ∃ z : Int32, z = v1 + (1 : Int32) := ⟨_, rfl⟩
        have h := bnd_at h ex10
        refine lv_iinc (v := x10) (lv' := [(1, .int x10), (0, .ref a_t)]) hx hb d_M_turn_39 hl (k := 1) rfl (by rw [ex10]; rfl) (by decide) rfl (fun ls hl => ?_)
        refine lv_goto (tgt := 19) hx hb d_M_turn_42 (by decide) ?_
        have h := lp_go h hc19
        exact ih19 t_code t_inputSize (upd t_input v1.toNatClampNeg x8) x10 o _ _ ls hP hD hS (lv_sub hl [1, 0] rfl) h hx19
  unfold f_M_turn at h
  refine lv_aload_n hx hb d_M_turn_0 rfl (lv_at hl 0 rfl) ?_
  refine lv_iconst (v := 0) hx hb d_M_turn_1 (by decide) ?_
  refine va_put (D := D) (ci := 9) (v := .int (0 : Int32)) (ty := .int) (C := "PageFormModel") (T := F_M) (N := 41) hx hb hts in_M t_M t_M_ok n_M hown hK hP hD hS 0 rfl rfl 0 (by decide) (hts _ fl_M_84) (fun _ h9 => h9) rfl (by decide +kernel) rfl rfl (Nat.le_of_ble_eq_true rfl) d_M_turn_2 (fun H locs hP hD hS => ?_)
  have hP : va_P D CL [(a_t, .inr (9, [.int (0 : Int32), .int t_type, .int t_mostR, .int t_mostD, .int t_entries, .int t_values, .int t_coding, .int t_bodySize, .ref a_t_repetitions, .ref a_t_definitions, .ref a_t_newRepetitions, .ref a_t_newDefinitions, .ref a_t_wholes, .ref a_t_newWholes, .ref a_t_words8, .ref a_t_from, .ref a_t_newFrom, .ref a_t_wordFrom, .ref a_t_bytes, .ref a_t_newBytes, .ref a_t_wordBytes, .int t_newCount, .int t_words, .ref a_t_tape, .ref a_t_input, .ref a_t_out, .ref a_t_body, .int t_taped, .int t_inputSize, .int t_outSize, .int t_at, .int t_stop, .int t_fault, .ref a_t_longs, .int t_longCount, .ref a_t_numbers, .ref a_t_common, .ref a_t_more, .ref a_t_told2, .ref a_t_toldSize, .ref a_t_toldBytes])), (a_t_input, .inl (k.2.1, t_input_n, .inl t_input)), (a_t_out, .inl (k.2.1, t_out_n, .inl t_out))] H := hP
  have hD : va_D A [(a_t, .inr (9, [.int (0 : Int32), .int t_type, .int t_mostR, .int t_mostD, .int t_entries, .int t_values, .int t_coding, .int t_bodySize, .ref a_t_repetitions, .ref a_t_definitions, .ref a_t_newRepetitions, .ref a_t_newDefinitions, .ref a_t_wholes, .ref a_t_newWholes, .ref a_t_words8, .ref a_t_from, .ref a_t_newFrom, .ref a_t_wordFrom, .ref a_t_bytes, .ref a_t_newBytes, .ref a_t_wordBytes, .int t_newCount, .int t_words, .ref a_t_tape, .ref a_t_input, .ref a_t_out, .ref a_t_body, .int t_taped, .int t_inputSize, .int t_outSize, .int t_at, .int t_stop, .int t_fault, .ref a_t_longs, .int t_longCount, .ref a_t_numbers, .ref a_t_common, .ref a_t_more, .ref a_t_told2, .ref a_t_toldSize, .ref a_t_toldBytes])), (a_t_input, .inl (k.2.1, t_input_n, .inl t_input)), (a_t_out, .inl (k.2.1, t_out_n, .inl t_out))] := hD
  refine lv_aload_n hx hb d_M_turn_5 rfl (lv_at hl 0 rfl) ?_
  refine va_get (D := D) (ci := 9) (v := .int t_outSize) (C := "PageFormModel") (T := F_M) (N := 41) hx hb hts in_M hown hK hP 0 rfl rfl 29 (by decide) (hts _ fl_M_88) (fun _ h9 => h9) rfl d_M_turn_6 ?_
  refine lv_sipush (v := 30000) hx hb d_M_turn_9 (by decide) ?_
  refine lv_icmp_le (tgt := 17) hx hb d_M_turn_12 (by decide) (fun c => ?_) (fun c => ?_)
  · have h := ift_at h c
    refine lv_iconst (v := 0) hx hb d_M_turn_17 (by decide) ?_
    refine lv_istore_n (lv' := [(1, .int (0 : Int32)), (0, .ref a_t)]) hx hb d_M_turn_18 rfl hl (by decide) rfl (fun ls hl => ?_)
    obtain ⟨o21, ho21, h⟩ := obd_at h
    exact L19 n (0 : Int32) t_inputSize t_input (0 : Int32) o21 _ _ ls hP hD hS (lv_sub hl [1, 0] rfl) ho21 h
  · have h := iff_at h c
    refine lv_iconst (v := 0) hx hb d_M_turn_15 (by decide) ?_
    exact ret2 _ _ _ _ (Option.some.inj h) d_M_turn_16 nb0 hP hD hS

def rm_M_about : Room := { frames := 0, cells := 0, slots := 0, locals := 0 }
def f_M_about (t_entries : Int32) (t_values : Int32) (t_coding : Int32) (t_bodySize : Int32) (v1 : Int32) : Option (Int32 × Int32) :=
  (if v1 = 0 then some (t_entries, (0 : Int32)) else (if v1 = (1 : Int32) then some ((t_entries - t_values), (0 : Int32)) else (if v1 = (2 : Int32) then some (t_coding, (0 : Int32)) else (if v1 = (3 : Int32) then some (t_bodySize, (0 : Int32)) else some ((-1 : Int32), (0 : Int32))))))
set_option maxHeartbeats 4000000 in
set_option maxRecDepth 100000 in
theorem c_M_about (l : Launch) (D : va_G) (k : ClassId × ClassId × ClassId) (a_t a_t_repetitions a_t_definitions a_t_newRepetitions a_t_newDefinitions a_t_wholes a_t_newWholes a_t_words8 a_t_from a_t_newFrom a_t_wordFrom a_t_bytes a_t_newBytes a_t_wordBytes a_t_tape a_t_input a_t_out a_t_body a_t_longs a_t_numbers a_t_common a_t_more a_t_told2 a_t_toldSize a_t_toldBytes : Nat) (t_code : Int32) (t_type : Int32) (t_mostR : Int32) (t_mostD : Int32) (t_entries : Int32) (t_values : Int32) (t_coding : Int32) (t_bodySize : Int32) (t_newCount : Int32) (t_words : Int32) (t_taped : Int32) (t_inputSize : Int32) (t_outSize : Int32) (t_at : Int32) (t_stop : Int32) (t_fault : Int32) (t_longCount : Int32) (v1 : Int32) (n : Nat) (out : Int32 × Int32) (h : f_M_about t_entries t_values t_coding t_bodySize v1 = some out) : Ct l D k y_M_about b_M_about 2 (some .int) rm_M_about [.ref a_t, .int v1] [(a_t, .inr (9, [.int t_code, .int t_type, .int t_mostR, .int t_mostD, .int t_entries, .int t_values, .int t_coding, .int t_bodySize, .ref a_t_repetitions, .ref a_t_definitions, .ref a_t_newRepetitions, .ref a_t_newDefinitions, .ref a_t_wholes, .ref a_t_newWholes, .ref a_t_words8, .ref a_t_from, .ref a_t_newFrom, .ref a_t_wordFrom, .ref a_t_bytes, .ref a_t_newBytes, .ref a_t_wordBytes, .int t_newCount, .int t_words, .ref a_t_tape, .ref a_t_input, .ref a_t_out, .ref a_t_body, .int t_taped, .int t_inputSize, .int t_outSize, .int t_at, .int t_stop, .int t_fault, .ref a_t_longs, .int t_longCount, .ref a_t_numbers, .ref a_t_common, .ref a_t_more, .ref a_t_told2, .ref a_t_toldSize, .ref a_t_toldBytes]))] [(a_t, .inr (9, [.int out.2, .int t_type, .int t_mostR, .int t_mostD, .int t_entries, .int t_values, .int t_coding, .int t_bodySize, .ref a_t_repetitions, .ref a_t_definitions, .ref a_t_newRepetitions, .ref a_t_newDefinitions, .ref a_t_wholes, .ref a_t_newWholes, .ref a_t_words8, .ref a_t_from, .ref a_t_newFrom, .ref a_t_wordFrom, .ref a_t_bytes, .ref a_t_newBytes, .ref a_t_wordBytes, .int t_newCount, .int t_words, .ref a_t_tape, .ref a_t_input, .ref a_t_out, .ref a_t_body, .int t_taped, .int t_inputSize, .int t_outSize, .int t_at, .int t_stop, .int t_fault, .ref a_t_longs, .int t_longCount, .ref a_t_numbers, .ref a_t_common, .ref a_t_more, .ref a_t_told2, .ref a_t_toldSize, .ref a_t_toldBytes]))] (some (.int out.1)) := by
  refine Ct.ofI (by decide) (Nat.le_of_ble_eq_true rfl) ?_
  intro p e s m args below meth c A Q ls hx hb hml hown hts hA hK hP hD hS hE hl ret
  have hown : s.vm.findClass "PageFormModel" = some m.cls := hown
  have hl : lv_has ls 2 [(0, .ref a_t), (1, .int v1)] := hl
  have ret2 : ∀ (y0 : Int32) (y1 : Int32) (_ : (y0, y1) = out) {pc : Nat} {ls : Array Slot} {H : Heap} {locs : List Loc}, decode b_M_about pc = .ok (.ireturn, 1) → va_P D CL [(a_t, .inr (9, [.int y1, .int t_type, .int t_mostR, .int t_mostD, .int t_entries, .int t_values, .int t_coding, .int t_bodySize, .ref a_t_repetitions, .ref a_t_definitions, .ref a_t_newRepetitions, .ref a_t_newDefinitions, .ref a_t_wholes, .ref a_t_newWholes, .ref a_t_words8, .ref a_t_from, .ref a_t_newFrom, .ref a_t_wordFrom, .ref a_t_bytes, .ref a_t_newBytes, .ref a_t_wordBytes, .int t_newCount, .int t_words, .ref a_t_tape, .ref a_t_input, .ref a_t_out, .ref a_t_body, .int t_taped, .int t_inputSize, .int t_outSize, .int t_at, .int t_stop, .int t_fault, .ref a_t_longs, .int t_longCount, .ref a_t_numbers, .ref a_t_common, .ref a_t_more, .ref a_t_told2, .ref a_t_toldSize, .ref a_t_toldBytes]))] H → va_D A [(a_t, .inr (9, [.int y1, .int t_type, .int t_mostR, .int t_mostD, .int t_entries, .int t_values, .int t_coding, .int t_bodySize, .ref a_t_repetitions, .ref a_t_definitions, .ref a_t_newRepetitions, .ref a_t_newDefinitions, .ref a_t_wholes, .ref a_t_newWholes, .ref a_t_words8, .ref a_t_from, .ref a_t_newFrom, .ref a_t_wordFrom, .ref a_t_bytes, .ref a_t_newBytes, .ref a_t_wordBytes, .int t_newCount, .int t_words, .ref a_t_tape, .ref a_t_input, .ref a_t_out, .ref a_t_body, .int t_taped, .int t_inputSize, .int t_outSize, .int t_at, .int t_stop, .int t_fault, .ref a_t_longs, .int t_longCount, .ref a_t_numbers, .ref a_t_common, .ref a_t_more, .ref a_t_told2, .ref a_t_toldSize, .ref a_t_toldBytes]))] → va_S A s.heap H locs → W p l e rm_M_about s m args below meth c H locs 0 0 Q (F0 m pc ls [.int y0]) := by
    intro y0 y1 e0; subst e0; exact ret
  clear ret
  unfold f_M_about at h
  refine lv_aload_n hx hb d_M_about_0 rfl (lv_at hl 0 rfl) ?_
  refine lv_iconst (v := 0) hx hb d_M_about_1 (by decide) ?_
  refine va_put (D := D) (ci := 9) (v := .int (0 : Int32)) (ty := .int) (C := "PageFormModel") (T := F_M) (N := 41) hx hb hts in_M t_M t_M_ok n_M hown hK hP hD hS 0 rfl rfl 0 (by decide) (hts _ fl_M_84) (fun _ h9 => h9) rfl (by decide +kernel) rfl rfl (Nat.le_of_ble_eq_true rfl) d_M_about_2 (fun H locs hP hD hS => ?_)
  have hP : va_P D CL [(a_t, .inr (9, [.int (0 : Int32), .int t_type, .int t_mostR, .int t_mostD, .int t_entries, .int t_values, .int t_coding, .int t_bodySize, .ref a_t_repetitions, .ref a_t_definitions, .ref a_t_newRepetitions, .ref a_t_newDefinitions, .ref a_t_wholes, .ref a_t_newWholes, .ref a_t_words8, .ref a_t_from, .ref a_t_newFrom, .ref a_t_wordFrom, .ref a_t_bytes, .ref a_t_newBytes, .ref a_t_wordBytes, .int t_newCount, .int t_words, .ref a_t_tape, .ref a_t_input, .ref a_t_out, .ref a_t_body, .int t_taped, .int t_inputSize, .int t_outSize, .int t_at, .int t_stop, .int t_fault, .ref a_t_longs, .int t_longCount, .ref a_t_numbers, .ref a_t_common, .ref a_t_more, .ref a_t_told2, .ref a_t_toldSize, .ref a_t_toldBytes]))] H := hP
  have hD : va_D A [(a_t, .inr (9, [.int (0 : Int32), .int t_type, .int t_mostR, .int t_mostD, .int t_entries, .int t_values, .int t_coding, .int t_bodySize, .ref a_t_repetitions, .ref a_t_definitions, .ref a_t_newRepetitions, .ref a_t_newDefinitions, .ref a_t_wholes, .ref a_t_newWholes, .ref a_t_words8, .ref a_t_from, .ref a_t_newFrom, .ref a_t_wordFrom, .ref a_t_bytes, .ref a_t_newBytes, .ref a_t_wordBytes, .int t_newCount, .int t_words, .ref a_t_tape, .ref a_t_input, .ref a_t_out, .ref a_t_body, .int t_taped, .int t_inputSize, .int t_outSize, .int t_at, .int t_stop, .int t_fault, .ref a_t_longs, .int t_longCount, .ref a_t_numbers, .ref a_t_common, .ref a_t_more, .ref a_t_told2, .ref a_t_toldSize, .ref a_t_toldBytes]))] := hD
  refine lv_iload_n hx hb d_M_about_5 rfl (lv_at hl 1 rfl) ?_
  refine lv_if_ne (tgt := 16) hx hb d_M_about_6 (by decide) (fun c => ?_) (fun c => ?_)
  · have h := iff_at h c
    refine lv_iload_n hx hb d_M_about_16 rfl (lv_at hl 1 rfl) ?_
    refine lv_iconst (v := 1) hx hb d_M_about_17 (by decide) ?_
    refine lv_icmp_ne (tgt := 33) hx hb d_M_about_18 (by decide) (fun c => ?_) (fun c => ?_)
    · have h := iff_at h c
      refine lv_iload_n hx hb d_M_about_33 rfl (lv_at hl 1 rfl) ?_
      refine lv_iconst (v := 2) hx hb d_M_about_34 (by decide) ?_
      refine lv_icmp_ne (tgt := 45) hx hb d_M_about_35 (by decide) (fun c => ?_) (fun c => ?_)
      · have h := iff_at h c
        refine lv_iload_n hx hb d_M_about_45 rfl (lv_at hl 1 rfl) ?_
        refine lv_iconst (v := 3) hx hb d_M_about_46 (by decide) ?_
        refine lv_icmp_ne (tgt := 57) hx hb d_M_about_47 (by decide) (fun c => ?_) (fun c => ?_)
        · have h := iff_at h c
          refine lv_iconst (v := (-1)) hx hb d_M_about_57 (by decide) ?_
          exact ret2 _ _ (Option.some.inj h) d_M_about_58 hP hD hS
        · have h := ift_at h c
          refine lv_aload_n hx hb d_M_about_50 rfl (lv_at hl 0 rfl) ?_
          refine va_get (D := D) (ci := 9) (v := .int t_bodySize) (C := "PageFormModel") (T := F_M) (N := 41) hx hb hts in_M hown hK hP 0 rfl rfl 7 (by decide) (hts _ fl_M_265) (fun _ h9 => h9) rfl d_M_about_51 ?_
          refine lv_goto (tgt := 58) hx hb d_M_about_54 (by decide) ?_
          exact ret2 _ _ (Option.some.inj h) d_M_about_58 hP hD hS
      · have h := ift_at h c
        refine lv_aload_n hx hb d_M_about_38 rfl (lv_at hl 0 rfl) ?_
        refine va_get (D := D) (ci := 9) (v := .int t_coding) (C := "PageFormModel") (T := F_M) (N := 41) hx hb hts in_M hown hK hP 0 rfl rfl 6 (by decide) (hts _ fl_M_255) (fun _ h9 => h9) rfl d_M_about_39 ?_
        refine lv_goto (tgt := 58) hx hb d_M_about_42 (by decide) ?_
        exact ret2 _ _ (Option.some.inj h) d_M_about_58 hP hD hS
    · have h := ift_at h c
      refine lv_aload_n hx hb d_M_about_21 rfl (lv_at hl 0 rfl) ?_
      refine va_get (D := D) (ci := 9) (v := .int t_entries) (C := "PageFormModel") (T := F_M) (N := 41) hx hb hts in_M hown hK hP 0 rfl rfl 4 (by decide) (hts _ fl_M_175) (fun _ h9 => h9) rfl d_M_about_22 ?_
      refine lv_aload_n hx hb d_M_about_25 rfl (lv_at hl 0 rfl) ?_
      refine va_get (D := D) (ci := 9) (v := .int t_values) (C := "PageFormModel") (T := F_M) (N := 41) hx hb hts in_M hown hK hP 0 rfl rfl 5 (by decide) (hts _ fl_M_178) (fun _ h9 => h9) rfl d_M_about_26 ?_
      refine lv_isub hx hb d_M_about_29 ?_
      refine lv_goto (tgt := 58) hx hb d_M_about_30 (by decide) ?_
      exact ret2 _ _ (Option.some.inj h) d_M_about_58 hP hD hS
  · have h := ift_at h c
    refine lv_aload_n hx hb d_M_about_9 rfl (lv_at hl 0 rfl) ?_
    refine va_get (D := D) (ci := 9) (v := .int t_entries) (C := "PageFormModel") (T := F_M) (N := 41) hx hb hts in_M hown hK hP 0 rfl rfl 4 (by decide) (hts _ fl_M_175) (fun _ h9 => h9) rfl d_M_about_10 ?_
    refine lv_goto (tgt := 58) hx hb d_M_about_13 (by decide) ?_
    exact ret2 _ _ (Option.some.inj h) d_M_about_58 hP hD hS

def rm_M_level : Room := { frames := 0, cells := 0, slots := 0, locals := 0 }
def f_M_level_j90 (t_definitions_n : Nat) (t_code : Int32) (t_mostD : Int32) (t_definitions : Nat → Int32) (v1 : Int32) (v3 : Int32) : Option (Int32 × Int32) :=
  gd (inB v1 t_definitions_n) ((if (t_definitions v1.toNatClampNeg) = t_mostD then some (v3, t_code) else some ((-1 : Int32), t_code)))
def f_M_level_l56 (t_definitions_n : Nat) (t_mostD : Int32) (t_definitions : Nat → Int32) (v1 : Int32) (v3 : Int32) (v4 : Int32) : Option ((Int32 × Int32) ⊕ ((Int32 × Int32))) :=
  (if v1 ≤ v4 then some (Sum.inr ((v3, v4))) else gd (inB v4 t_definitions_n) ((if (t_definitions v4.toNatClampNeg) = t_mostD then bnd (v3 + (1 : Int32)) (fun x12 => bnd (v4 + (1 : Int32)) (fun x13 => some (Sum.inl (x12, x13)))) else bnd (v3 + (0 : Int32)) (fun x9 => bnd (v4 + (1 : Int32)) (fun x10 => some (Sum.inl (x9, x10)))))))
def f_M_level (n : Nat) (t_definitions_n : Nat) (t_repetitions_n : Nat) (t_mostD : Int32) (t_entries : Int32) (t_definitions : Nat → Int32) (t_repetitions : Nat → Int32) (v1 : Int32) (v2 : Int32) : Option (Int32 × Int32) :=
  (if v1 < 0 then some ((-1 : Int32), (0 : Int32)) else (if t_entries ≤ v1 then some ((-1 : Int32), (0 : Int32)) else (if v2 < 0 then some ((-1 : Int32), (0 : Int32)) else (if v2 ≤ (2 : Int32) then (if v2 = 0 then gd (inB v1 t_repetitions_n) (some ((t_repetitions v1.toNatClampNeg), (0 : Int32))) else (if v2 = (1 : Int32) then gd (inB v1 t_definitions_n) (some ((t_definitions v1.toNatClampNeg), (0 : Int32))) else Option.bind (lp (fun v => f_M_level_l56 t_definitions_n t_mostD t_definitions v1 v.1 v.2) n ((0 : Int32), (0 : Int32))) (fun o => f_M_level_j90 t_definitions_n (0 : Int32) t_mostD t_definitions v1 o.1))) else some ((-1 : Int32), (0 : Int32))))))
set_option maxHeartbeats 4000000 in
set_option maxRecDepth 100000 in
theorem c_M_level (l : Launch) (D : va_G) (k : ClassId × ClassId × ClassId) (a_t a_t_repetitions a_t_definitions a_t_newRepetitions a_t_newDefinitions a_t_wholes a_t_newWholes a_t_words8 a_t_from a_t_newFrom a_t_wordFrom a_t_bytes a_t_newBytes a_t_wordBytes a_t_tape a_t_input a_t_out a_t_body a_t_longs a_t_numbers a_t_common a_t_more a_t_told2 a_t_toldSize a_t_toldBytes : Nat) (t_definitions_n t_repetitions_n : Nat) (t_code : Int32) (t_type : Int32) (t_mostR : Int32) (t_mostD : Int32) (t_entries : Int32) (t_values : Int32) (t_coding : Int32) (t_bodySize : Int32) (t_newCount : Int32) (t_words : Int32) (t_taped : Int32) (t_inputSize : Int32) (t_outSize : Int32) (t_at : Int32) (t_stop : Int32) (t_fault : Int32) (t_longCount : Int32) (t_definitions : Nat → Int32) (t_repetitions : Nat → Int32) (v1 : Int32) (v2 : Int32) (n : Nat) (out : Int32 × Int32) (h : f_M_level n t_definitions_n t_repetitions_n t_mostD t_entries t_definitions t_repetitions v1 v2 = some out) : Ct l D k y_M_level b_M_level 5 (some .int) rm_M_level [.ref a_t, .int v1, .int v2] [(a_t, .inr (9, [.int t_code, .int t_type, .int t_mostR, .int t_mostD, .int t_entries, .int t_values, .int t_coding, .int t_bodySize, .ref a_t_repetitions, .ref a_t_definitions, .ref a_t_newRepetitions, .ref a_t_newDefinitions, .ref a_t_wholes, .ref a_t_newWholes, .ref a_t_words8, .ref a_t_from, .ref a_t_newFrom, .ref a_t_wordFrom, .ref a_t_bytes, .ref a_t_newBytes, .ref a_t_wordBytes, .int t_newCount, .int t_words, .ref a_t_tape, .ref a_t_input, .ref a_t_out, .ref a_t_body, .int t_taped, .int t_inputSize, .int t_outSize, .int t_at, .int t_stop, .int t_fault, .ref a_t_longs, .int t_longCount, .ref a_t_numbers, .ref a_t_common, .ref a_t_more, .ref a_t_told2, .ref a_t_toldSize, .ref a_t_toldBytes])), (a_t_definitions, .inl (k.2.1, t_definitions_n, .inl t_definitions)), (a_t_repetitions, .inl (k.2.1, t_repetitions_n, .inl t_repetitions))] [(a_t, .inr (9, [.int out.2, .int t_type, .int t_mostR, .int t_mostD, .int t_entries, .int t_values, .int t_coding, .int t_bodySize, .ref a_t_repetitions, .ref a_t_definitions, .ref a_t_newRepetitions, .ref a_t_newDefinitions, .ref a_t_wholes, .ref a_t_newWholes, .ref a_t_words8, .ref a_t_from, .ref a_t_newFrom, .ref a_t_wordFrom, .ref a_t_bytes, .ref a_t_newBytes, .ref a_t_wordBytes, .int t_newCount, .int t_words, .ref a_t_tape, .ref a_t_input, .ref a_t_out, .ref a_t_body, .int t_taped, .int t_inputSize, .int t_outSize, .int t_at, .int t_stop, .int t_fault, .ref a_t_longs, .int t_longCount, .ref a_t_numbers, .ref a_t_common, .ref a_t_more, .ref a_t_told2, .ref a_t_toldSize, .ref a_t_toldBytes])), (a_t_definitions, .inl (k.2.1, t_definitions_n, .inl t_definitions)), (a_t_repetitions, .inl (k.2.1, t_repetitions_n, .inl t_repetitions))] (some (.int out.1)) := by
  refine Ct.ofI (by decide) (Nat.le_of_ble_eq_true rfl) ?_
  intro p e s m args below meth c A Q ls hx hb hml hown hts hA hK hP hD hS hE hl ret
  have hown : s.vm.findClass "PageFormModel" = some m.cls := hown
  have hl : lv_has ls 5 [(0, .ref a_t), (1, .int v1), (2, .int v2)] := hl
  have ret2 : ∀ (y0 : Int32) (y1 : Int32) (_ : (y0, y1) = out) {pc : Nat} {ls : Array Slot} {H : Heap} {locs : List Loc}, decode b_M_level pc = .ok (.ireturn, 1) → va_P D CL [(a_t, .inr (9, [.int y1, .int t_type, .int t_mostR, .int t_mostD, .int t_entries, .int t_values, .int t_coding, .int t_bodySize, .ref a_t_repetitions, .ref a_t_definitions, .ref a_t_newRepetitions, .ref a_t_newDefinitions, .ref a_t_wholes, .ref a_t_newWholes, .ref a_t_words8, .ref a_t_from, .ref a_t_newFrom, .ref a_t_wordFrom, .ref a_t_bytes, .ref a_t_newBytes, .ref a_t_wordBytes, .int t_newCount, .int t_words, .ref a_t_tape, .ref a_t_input, .ref a_t_out, .ref a_t_body, .int t_taped, .int t_inputSize, .int t_outSize, .int t_at, .int t_stop, .int t_fault, .ref a_t_longs, .int t_longCount, .ref a_t_numbers, .ref a_t_common, .ref a_t_more, .ref a_t_told2, .ref a_t_toldSize, .ref a_t_toldBytes])), (a_t_definitions, .inl (k.2.1, t_definitions_n, .inl t_definitions)), (a_t_repetitions, .inl (k.2.1, t_repetitions_n, .inl t_repetitions))] H → va_D A [(a_t, .inr (9, [.int y1, .int t_type, .int t_mostR, .int t_mostD, .int t_entries, .int t_values, .int t_coding, .int t_bodySize, .ref a_t_repetitions, .ref a_t_definitions, .ref a_t_newRepetitions, .ref a_t_newDefinitions, .ref a_t_wholes, .ref a_t_newWholes, .ref a_t_words8, .ref a_t_from, .ref a_t_newFrom, .ref a_t_wordFrom, .ref a_t_bytes, .ref a_t_newBytes, .ref a_t_wordBytes, .int t_newCount, .int t_words, .ref a_t_tape, .ref a_t_input, .ref a_t_out, .ref a_t_body, .int t_taped, .int t_inputSize, .int t_outSize, .int t_at, .int t_stop, .int t_fault, .ref a_t_longs, .int t_longCount, .ref a_t_numbers, .ref a_t_common, .ref a_t_more, .ref a_t_told2, .ref a_t_toldSize, .ref a_t_toldBytes])), (a_t_definitions, .inl (k.2.1, t_definitions_n, .inl t_definitions)), (a_t_repetitions, .inl (k.2.1, t_repetitions_n, .inl t_repetitions))] → va_S A s.heap H locs → W p l e rm_M_level s m args below meth c H locs 0 0 Q (F0 m pc ls [.int y0]) := by
    intro y0 y1 e0; subst e0; exact ret
  clear ret
  have J90 : ∀ (t_code : Int32) (v3 : Int32) (H : Heap) (locs : List Loc) (ls : Array Slot), va_P D CL [(a_t, .inr (9, [.int t_code, .int t_type, .int t_mostR, .int t_mostD, .int t_entries, .int t_values, .int t_coding, .int t_bodySize, .ref a_t_repetitions, .ref a_t_definitions, .ref a_t_newRepetitions, .ref a_t_newDefinitions, .ref a_t_wholes, .ref a_t_newWholes, .ref a_t_words8, .ref a_t_from, .ref a_t_newFrom, .ref a_t_wordFrom, .ref a_t_bytes, .ref a_t_newBytes, .ref a_t_wordBytes, .int t_newCount, .int t_words, .ref a_t_tape, .ref a_t_input, .ref a_t_out, .ref a_t_body, .int t_taped, .int t_inputSize, .int t_outSize, .int t_at, .int t_stop, .int t_fault, .ref a_t_longs, .int t_longCount, .ref a_t_numbers, .ref a_t_common, .ref a_t_more, .ref a_t_told2, .ref a_t_toldSize, .ref a_t_toldBytes])), (a_t_definitions, .inl (k.2.1, t_definitions_n, .inl t_definitions)), (a_t_repetitions, .inl (k.2.1, t_repetitions_n, .inl t_repetitions))] H → va_D A [(a_t, .inr (9, [.int t_code, .int t_type, .int t_mostR, .int t_mostD, .int t_entries, .int t_values, .int t_coding, .int t_bodySize, .ref a_t_repetitions, .ref a_t_definitions, .ref a_t_newRepetitions, .ref a_t_newDefinitions, .ref a_t_wholes, .ref a_t_newWholes, .ref a_t_words8, .ref a_t_from, .ref a_t_newFrom, .ref a_t_wordFrom, .ref a_t_bytes, .ref a_t_newBytes, .ref a_t_wordBytes, .int t_newCount, .int t_words, .ref a_t_tape, .ref a_t_input, .ref a_t_out, .ref a_t_body, .int t_taped, .int t_inputSize, .int t_outSize, .int t_at, .int t_stop, .int t_fault, .ref a_t_longs, .int t_longCount, .ref a_t_numbers, .ref a_t_common, .ref a_t_more, .ref a_t_told2, .ref a_t_toldSize, .ref a_t_toldBytes])), (a_t_definitions, .inl (k.2.1, t_definitions_n, .inl t_definitions)), (a_t_repetitions, .inl (k.2.1, t_repetitions_n, .inl t_repetitions))] → va_S A s.heap H locs → lv_has ls 5 [(0, .ref a_t), (1, .int v1), (3, .int v3)] → f_M_level_j90 t_definitions_n t_code t_mostD t_definitions v1 v3 = some out → W p l e rm_M_level s m args below meth c H locs 0 0 Q (F0 m 90 ls []) := by
    intro t_code v3 H locs ls hP hD hS hl h
    unfold f_M_level_j90 at h
    refine lv_aload_n hx hb d_M_level_90 rfl (lv_at hl 0 rfl) ?_
    refine va_get (D := D) (ci := 9) (v := .ref a_t_definitions) (C := "PageFormModel") (T := F_M) (N := 41) hx hb hts in_M hown hK hP 0 rfl rfl 9 (by decide) (hts _ fl_M_13) (fun _ h9 => h9) rfl d_M_level_91 ?_
    refine lv_iload_n hx hb d_M_level_94 rfl (lv_at hl 1 rfl) ?_
    obtain ⟨g5, h⟩ := gd_at h
    refine va_iald hx hb hK hP 1 1 rfl rfl (inB_in g5) d_M_level_95 ?_
    refine lv_aload_n hx hb d_M_level_96 rfl (lv_at hl 0 rfl) ?_
    refine va_get (D := D) (ci := 9) (v := .int t_mostD) (C := "PageFormModel") (T := F_M) (N := 41) hx hb hts in_M hown hK hP 0 rfl rfl 3 (by decide) (hts _ fl_M_187) (fun _ h9 => h9) rfl d_M_level_97 ?_
    refine lv_icmp_ne (tgt := 107) hx hb d_M_level_100 (by decide) (fun c => ?_) (fun c => ?_)
    · have h := iff_at h c
      refine lv_iconst (v := (-1)) hx hb d_M_level_107 (by decide) ?_
      exact ret2 _ _ (Option.some.inj h) d_M_level_108 hP hD hS
    · have h := ift_at h c
      refine lv_iload_n hx hb d_M_level_103 rfl (lv_at hl 2 rfl) ?_
      refine lv_goto (tgt := 108) hx hb d_M_level_104 (by decide) ?_
      exact ret2 _ _ (Option.some.inj h) d_M_level_108 hP hD hS
  have L56 : ∀ (K : Nat) (t_code : Int32) (v3 : Int32) (v4 : Int32) (o : (Int32 × Int32)) (H : Heap) (locs : List Loc) (ls : Array Slot), va_P D CL [(a_t, .inr (9, [.int t_code, .int t_type, .int t_mostR, .int t_mostD, .int t_entries, .int t_values, .int t_coding, .int t_bodySize, .ref a_t_repetitions, .ref a_t_definitions, .ref a_t_newRepetitions, .ref a_t_newDefinitions, .ref a_t_wholes, .ref a_t_newWholes, .ref a_t_words8, .ref a_t_from, .ref a_t_newFrom, .ref a_t_wordFrom, .ref a_t_bytes, .ref a_t_newBytes, .ref a_t_wordBytes, .int t_newCount, .int t_words, .ref a_t_tape, .ref a_t_input, .ref a_t_out, .ref a_t_body, .int t_taped, .int t_inputSize, .int t_outSize, .int t_at, .int t_stop, .int t_fault, .ref a_t_longs, .int t_longCount, .ref a_t_numbers, .ref a_t_common, .ref a_t_more, .ref a_t_told2, .ref a_t_toldSize, .ref a_t_toldBytes])), (a_t_definitions, .inl (k.2.1, t_definitions_n, .inl t_definitions)), (a_t_repetitions, .inl (k.2.1, t_repetitions_n, .inl t_repetitions))] H → va_D A [(a_t, .inr (9, [.int t_code, .int t_type, .int t_mostR, .int t_mostD, .int t_entries, .int t_values, .int t_coding, .int t_bodySize, .ref a_t_repetitions, .ref a_t_definitions, .ref a_t_newRepetitions, .ref a_t_newDefinitions, .ref a_t_wholes, .ref a_t_newWholes, .ref a_t_words8, .ref a_t_from, .ref a_t_newFrom, .ref a_t_wordFrom, .ref a_t_bytes, .ref a_t_newBytes, .ref a_t_wordBytes, .int t_newCount, .int t_words, .ref a_t_tape, .ref a_t_input, .ref a_t_out, .ref a_t_body, .int t_taped, .int t_inputSize, .int t_outSize, .int t_at, .int t_stop, .int t_fault, .ref a_t_longs, .int t_longCount, .ref a_t_numbers, .ref a_t_common, .ref a_t_more, .ref a_t_told2, .ref a_t_toldSize, .ref a_t_toldBytes])), (a_t_definitions, .inl (k.2.1, t_definitions_n, .inl t_definitions)), (a_t_repetitions, .inl (k.2.1, t_repetitions_n, .inl t_repetitions))] → va_S A s.heap H locs → lv_has ls 5 [(0, .ref a_t), (1, .int v1), (3, .int v3), (4, .int v4)] → lp (fun v => f_M_level_l56 t_definitions_n t_mostD t_definitions v1 v.1 v.2) K (v3, v4) = some o → (fun o => f_M_level_j90 t_definitions_n t_code t_mostD t_definitions v1 o.1) o = some out → W p l e rm_M_level s m args below meth c H locs 0 0 Q (F0 m 56 ls []) := by
    intro K
    induction K with
    | zero => intros; exact absurd (by assumption) lp_no
    | succ K ih56 =>
      intro t_code v3 v4 o H locs ls hP hD hS hl h0 hx56
      obtain ⟨b56, h, hc56⟩ := lp_at h0
      have h : f_M_level_l56 t_definitions_n t_mostD t_definitions v1 v3 v4 = some b56 := h
      unfold f_M_level_l56 at h
      refine lv_iload hx hb d_M_level_56 (lv_at hl 3 rfl) ?_
      refine lv_iload_n hx hb d_M_level_58 rfl (lv_at hl 1 rfl) ?_
      refine lv_icmp_ge (tgt := 90) hx hb d_M_level_59 (by decide) (fun c => ?_) (fun c => ?_)
      · have h := ift_at h c
        obtain rfl := lp_out h hc56
        exact J90 t_code v3 _ _ ls hP hD hS (lv_sub hl [0, 1, 2] rfl) hx56
      · have h := iff_at h c
        refine lv_iload_n hx hb d_M_level_62 rfl (lv_at hl 2 rfl) ?_
        refine lv_aload_n hx hb d_M_level_63 rfl (lv_at hl 0 rfl) ?_
        refine va_get (D := D) (ci := 9) (v := .ref a_t_definitions) (C := "PageFormModel") (T := F_M) (N := 41) hx hb hts in_M hown hK hP 0 rfl rfl 9 (by decide) (hts _ fl_M_13) (fun _ h9 => h9) rfl d_M_level_64 ?_
        refine lv_iload hx hb d_M_level_67 (lv_at hl 3 rfl) ?_
        obtain ⟨g8, h⟩ := gd_at h
        refine va_iald hx hb hK hP 1 1 rfl rfl (inB_in g8) d_M_level_69 ?_
        refine lv_aload_n hx hb d_M_level_70 rfl (lv_at hl 0 rfl) ?_
        refine va_get (D := D) (ci := 9) (v := .int t_mostD) (C := "PageFormModel") (T := F_M) (N := 41) hx hb hts in_M hown hK hP 0 rfl rfl 3 (by decide) (hts _ fl_M_187) (fun _ h9 => h9) rfl d_M_level_71 ?_
        refine lv_icmp_ne (tgt := 81) hx hb d_M_level_74 (by decide) (fun c => ?_) (fun c => ?_)
        · have h := iff_at h c
          refine lv_iconst (v := 0) hx hb d_M_level_81 (by decide) ?_
          refine lv_iadd hx hb d_M_level_82 ?_
          refine lv_topi (fun x9 ex9 => ?_)
          have h := bnd_at h ex9
          refine lv_istore_n (lv' := [(3, .int x9), (0, .ref a_t), (1, .int v1), (4, .int v4)]) hx hb d_M_level_83 rfl hl (by decide) rfl (fun ls hl => ?_)
          obtain ⟨x10, ex10⟩ : ∃ z : Int32, z = v4 + (1 : Int32) := ⟨_, rfl⟩
          have h := bnd_at h ex10
          refine lv_iinc (v := x10) (lv' := [(4, .int x10), (3, .int x9), (0, .ref a_t), (1, .int v1)]) hx hb d_M_level_84 hl (k := 3) rfl (by rw [ex10]; rfl) (by decide) rfl (fun ls hl => ?_)
          refine lv_goto (tgt := 56) hx hb d_M_level_87 (by decide) ?_
          have h := lp_go h hc56
          exact ih56 t_code x9 x10 o _ _ ls hP hD hS (lv_sub hl [2, 3, 1, 0] rfl) h hx56
        · have h := ift_at h c
          refine lv_iconst (v := 1) hx hb d_M_level_77 (by decide) ?_
          refine lv_goto (tgt := 82) hx hb d_M_level_78 (by decide) ?_
          refine lv_iadd hx hb d_M_level_82 ?_
          refine lv_topi (fun x12 ex12 => ?_)
          have h := bnd_at h ex12
          refine lv_istore_n (lv' := [(3, .int x12), (0, .ref a_t), (1, .int v1), (4, .int v4)]) hx hb d_M_level_83 rfl hl (by decide) rfl (fun ls hl => ?_)
          obtain ⟨x13, ex13⟩ : ∃ z : Int32, z = v4 + (1 : Int32) := ⟨_, rfl⟩
          have h := bnd_at h ex13
          refine lv_iinc (v := x13) (lv' := [(4, .int x13), (3, .int x12), (0, .ref a_t), (1, .int v1)]) hx hb d_M_level_84 hl (k := 3) rfl (by rw [ex13]; rfl) (by decide) rfl (fun ls hl => ?_)
          refine lv_goto (tgt := 56) hx hb d_M_level_87 (by decide) ?_
          have h := lp_go h hc56
          exact ih56 t_code x12 x13 o _ _ ls hP hD hS (lv_sub hl [2, 3, 1, 0] rfl) h hx56
  unfold f_M_level at h
  refine lv_aload_n hx hb d_M_level_0 rfl (lv_at hl 0 rfl) ?_
  refine lv_iconst (v := 0) hx hb d_M_level_1 (by decide) ?_
  refine va_put (D := D) (ci := 9) (v := .int (0 : Int32)) (ty := .int) (C := "PageFormModel") (T := F_M) (N := 41) hx hb hts in_M t_M t_M_ok n_M hown hK hP hD hS 0 rfl rfl 0 (by decide) (hts _ fl_M_84) (fun _ h9 => h9) rfl (by decide +kernel) rfl rfl (Nat.le_of_ble_eq_true rfl) d_M_level_2 (fun H locs hP hD hS => ?_)
  have hP : va_P D CL [(a_t, .inr (9, [.int (0 : Int32), .int t_type, .int t_mostR, .int t_mostD, .int t_entries, .int t_values, .int t_coding, .int t_bodySize, .ref a_t_repetitions, .ref a_t_definitions, .ref a_t_newRepetitions, .ref a_t_newDefinitions, .ref a_t_wholes, .ref a_t_newWholes, .ref a_t_words8, .ref a_t_from, .ref a_t_newFrom, .ref a_t_wordFrom, .ref a_t_bytes, .ref a_t_newBytes, .ref a_t_wordBytes, .int t_newCount, .int t_words, .ref a_t_tape, .ref a_t_input, .ref a_t_out, .ref a_t_body, .int t_taped, .int t_inputSize, .int t_outSize, .int t_at, .int t_stop, .int t_fault, .ref a_t_longs, .int t_longCount, .ref a_t_numbers, .ref a_t_common, .ref a_t_more, .ref a_t_told2, .ref a_t_toldSize, .ref a_t_toldBytes])), (a_t_definitions, .inl (k.2.1, t_definitions_n, .inl t_definitions)), (a_t_repetitions, .inl (k.2.1, t_repetitions_n, .inl t_repetitions))] H := hP
  have hD : va_D A [(a_t, .inr (9, [.int (0 : Int32), .int t_type, .int t_mostR, .int t_mostD, .int t_entries, .int t_values, .int t_coding, .int t_bodySize, .ref a_t_repetitions, .ref a_t_definitions, .ref a_t_newRepetitions, .ref a_t_newDefinitions, .ref a_t_wholes, .ref a_t_newWholes, .ref a_t_words8, .ref a_t_from, .ref a_t_newFrom, .ref a_t_wordFrom, .ref a_t_bytes, .ref a_t_newBytes, .ref a_t_wordBytes, .int t_newCount, .int t_words, .ref a_t_tape, .ref a_t_input, .ref a_t_out, .ref a_t_body, .int t_taped, .int t_inputSize, .int t_outSize, .int t_at, .int t_stop, .int t_fault, .ref a_t_longs, .int t_longCount, .ref a_t_numbers, .ref a_t_common, .ref a_t_more, .ref a_t_told2, .ref a_t_toldSize, .ref a_t_toldBytes])), (a_t_definitions, .inl (k.2.1, t_definitions_n, .inl t_definitions)), (a_t_repetitions, .inl (k.2.1, t_repetitions_n, .inl t_repetitions))] := hD
  refine lv_iload_n hx hb d_M_level_5 rfl (lv_at hl 1 rfl) ?_
  refine lv_if_lt (tgt := 26) hx hb d_M_level_6 (by decide) (fun c => ?_) (fun c => ?_)
  · have h := ift_at h c
    refine lv_iconst (v := (-1)) hx hb d_M_level_26 (by decide) ?_
    exact ret2 _ _ (Option.some.inj h) d_M_level_27 hP hD hS
  · have h := iff_at h c
    refine lv_iload_n hx hb d_M_level_9 rfl (lv_at hl 1 rfl) ?_
    refine lv_aload_n hx hb d_M_level_10 rfl (lv_at hl 0 rfl) ?_
    refine va_get (D := D) (ci := 9) (v := .int t_entries) (C := "PageFormModel") (T := F_M) (N := 41) hx hb hts in_M hown hK hP 0 rfl rfl 4 (by decide) (hts _ fl_M_175) (fun _ h9 => h9) rfl d_M_level_11 ?_
    refine lv_icmp_ge (tgt := 26) hx hb d_M_level_14 (by decide) (fun c => ?_) (fun c => ?_)
    · have h := ift_at h c
      refine lv_iconst (v := (-1)) hx hb d_M_level_26 (by decide) ?_
      exact ret2 _ _ (Option.some.inj h) d_M_level_27 hP hD hS
    · have h := iff_at h c
      refine lv_iload_n hx hb d_M_level_17 rfl (lv_at hl 2 rfl) ?_
      refine lv_if_lt (tgt := 26) hx hb d_M_level_18 (by decide) (fun c => ?_) (fun c => ?_)
      · have h := ift_at h c
        refine lv_iconst (v := (-1)) hx hb d_M_level_26 (by decide) ?_
        exact ret2 _ _ (Option.some.inj h) d_M_level_27 hP hD hS
      · have h := iff_at h c
        refine lv_iload_n hx hb d_M_level_21 rfl (lv_at hl 2 rfl) ?_
        refine lv_iconst (v := 2) hx hb d_M_level_22 (by decide) ?_
        refine lv_icmp_le (tgt := 28) hx hb d_M_level_23 (by decide) (fun c => ?_) (fun c => ?_)
        · have h := ift_at h c
          refine lv_iload_n hx hb d_M_level_28 rfl (lv_at hl 2 rfl) ?_
          refine lv_if_ne (tgt := 39) hx hb d_M_level_29 (by decide) (fun c => ?_) (fun c => ?_)
          · have h := iff_at h c
            refine lv_iload_n hx hb d_M_level_39 rfl (lv_at hl 2 rfl) ?_
            refine lv_iconst (v := 1) hx hb d_M_level_40 (by decide) ?_
            refine lv_icmp_ne (tgt := 51) hx hb d_M_level_41 (by decide) (fun c => ?_) (fun c => ?_)
            · have h := iff_at h c
              refine lv_iconst (v := 0) hx hb d_M_level_51 (by decide) ?_
              refine lv_istore_n (lv' := [(3, .int (0 : Int32)), (0, .ref a_t), (1, .int v1), (2, .int v2)]) hx hb d_M_level_52 rfl hl (by decide) rfl (fun ls hl => ?_)
              refine lv_iconst (v := 0) hx hb d_M_level_53 (by decide) ?_
              refine lv_istore (lv' := [(4, .int (0 : Int32)), (3, .int (0 : Int32)), (0, .ref a_t), (1, .int v1), (2, .int v2)]) hx hb d_M_level_54 hl (by decide) rfl (fun ls hl => ?_)
              obtain ⟨o19, ho19, h⟩ := obd_at h
              exact L56 n (0 : Int32) (0 : Int32) (0 : Int32) o19 _ _ ls hP hD hS (lv_sub hl [2, 3, 1, 0] rfl) ho19 h
            · have h := ift_at h c
              refine lv_aload_n hx hb d_M_level_44 rfl (lv_at hl 0 rfl) ?_
              refine va_get (D := D) (ci := 9) (v := .ref a_t_definitions) (C := "PageFormModel") (T := F_M) (N := 41) hx hb hts in_M hown hK hP 0 rfl rfl 9 (by decide) (hts _ fl_M_13) (fun _ h9 => h9) rfl d_M_level_45 ?_
              refine lv_iload_n hx hb d_M_level_48 rfl (lv_at hl 1 rfl) ?_
              obtain ⟨g20, h⟩ := gd_at h
              refine va_iald hx hb hK hP 1 1 rfl rfl (inB_in g20) d_M_level_49 ?_
              exact ret2 _ _ (Option.some.inj h) d_M_level_50 hP hD hS
          · have h := ift_at h c
            refine lv_aload_n hx hb d_M_level_32 rfl (lv_at hl 0 rfl) ?_
            refine va_get (D := D) (ci := 9) (v := .ref a_t_repetitions) (C := "PageFormModel") (T := F_M) (N := 41) hx hb hts in_M hown hK hP 0 rfl rfl 8 (by decide) (hts _ fl_M_7) (fun _ h9 => h9) rfl d_M_level_33 ?_
            refine lv_iload_n hx hb d_M_level_36 rfl (lv_at hl 1 rfl) ?_
            obtain ⟨g21, h⟩ := gd_at h
            refine va_iald hx hb hK hP 2 1 rfl rfl (inB_in g21) d_M_level_37 ?_
            exact ret2 _ _ (Option.some.inj h) d_M_level_38 hP hD hS
        · have h := iff_at h c
          refine lv_iconst (v := (-1)) hx hb d_M_level_26 (by decide) ?_
          exact ret2 _ _ (Option.some.inj h) d_M_level_27 hP hD hS

def rm_M_isValue : Room := { frames := 0, cells := 0, slots := 0, locals := 0 }
def f_M_isValue (t_values : Int32) (v1 : Int32) : Option (Int32) :=
  (if v1 < 0 then some (0 : Int32) else (if t_values ≤ v1 then some (0 : Int32) else some (1 : Int32)))
set_option maxHeartbeats 4000000 in
set_option maxRecDepth 100000 in
theorem c_M_isValue (l : Launch) (D : va_G) (k : ClassId × ClassId × ClassId) (a_t a_t_repetitions a_t_definitions a_t_newRepetitions a_t_newDefinitions a_t_wholes a_t_newWholes a_t_words8 a_t_from a_t_newFrom a_t_wordFrom a_t_bytes a_t_newBytes a_t_wordBytes a_t_tape a_t_input a_t_out a_t_body a_t_longs a_t_numbers a_t_common a_t_more a_t_told2 a_t_toldSize a_t_toldBytes : Nat) (t_code : Int32) (t_type : Int32) (t_mostR : Int32) (t_mostD : Int32) (t_entries : Int32) (t_values : Int32) (t_coding : Int32) (t_bodySize : Int32) (t_newCount : Int32) (t_words : Int32) (t_taped : Int32) (t_inputSize : Int32) (t_outSize : Int32) (t_at : Int32) (t_stop : Int32) (t_fault : Int32) (t_longCount : Int32) (v1 : Int32) (n : Nat) (out : Int32) (h : f_M_isValue t_values v1 = some out) : Ct l D k y_M_isValue b_M_isValue 2 (some .boolean) rm_M_isValue [.ref a_t, .int v1] [(a_t, .inr (9, [.int t_code, .int t_type, .int t_mostR, .int t_mostD, .int t_entries, .int t_values, .int t_coding, .int t_bodySize, .ref a_t_repetitions, .ref a_t_definitions, .ref a_t_newRepetitions, .ref a_t_newDefinitions, .ref a_t_wholes, .ref a_t_newWholes, .ref a_t_words8, .ref a_t_from, .ref a_t_newFrom, .ref a_t_wordFrom, .ref a_t_bytes, .ref a_t_newBytes, .ref a_t_wordBytes, .int t_newCount, .int t_words, .ref a_t_tape, .ref a_t_input, .ref a_t_out, .ref a_t_body, .int t_taped, .int t_inputSize, .int t_outSize, .int t_at, .int t_stop, .int t_fault, .ref a_t_longs, .int t_longCount, .ref a_t_numbers, .ref a_t_common, .ref a_t_more, .ref a_t_told2, .ref a_t_toldSize, .ref a_t_toldBytes]))] [(a_t, .inr (9, [.int t_code, .int t_type, .int t_mostR, .int t_mostD, .int t_entries, .int t_values, .int t_coding, .int t_bodySize, .ref a_t_repetitions, .ref a_t_definitions, .ref a_t_newRepetitions, .ref a_t_newDefinitions, .ref a_t_wholes, .ref a_t_newWholes, .ref a_t_words8, .ref a_t_from, .ref a_t_newFrom, .ref a_t_wordFrom, .ref a_t_bytes, .ref a_t_newBytes, .ref a_t_wordBytes, .int t_newCount, .int t_words, .ref a_t_tape, .ref a_t_input, .ref a_t_out, .ref a_t_body, .int t_taped, .int t_inputSize, .int t_outSize, .int t_at, .int t_stop, .int t_fault, .ref a_t_longs, .int t_longCount, .ref a_t_numbers, .ref a_t_common, .ref a_t_more, .ref a_t_told2, .ref a_t_toldSize, .ref a_t_toldBytes]))] (some (.int out)) := by
  refine Ct.ofZ (by decide) (Nat.le_of_ble_eq_true rfl) ?_
  intro p e s m args below meth c A Q ls hx hb hml hown hts hA hK hP hD hS hE hl ret
  have hown : s.vm.findClass "PageFormModel" = some m.cls := hown
  have hl : lv_has ls 2 [(0, .ref a_t), (1, .int v1)] := hl
  have ret2 : ∀ (y0 : Int32) (_ : y0 = out) {pc : Nat} {ls : Array Slot} {H : Heap} {locs : List Loc}, decode b_M_isValue pc = .ok (.ireturn, 1) → narrow .boolean (.int y0) = .int y0 → va_P D CL [(a_t, .inr (9, [.int t_code, .int t_type, .int t_mostR, .int t_mostD, .int t_entries, .int t_values, .int t_coding, .int t_bodySize, .ref a_t_repetitions, .ref a_t_definitions, .ref a_t_newRepetitions, .ref a_t_newDefinitions, .ref a_t_wholes, .ref a_t_newWholes, .ref a_t_words8, .ref a_t_from, .ref a_t_newFrom, .ref a_t_wordFrom, .ref a_t_bytes, .ref a_t_newBytes, .ref a_t_wordBytes, .int t_newCount, .int t_words, .ref a_t_tape, .ref a_t_input, .ref a_t_out, .ref a_t_body, .int t_taped, .int t_inputSize, .int t_outSize, .int t_at, .int t_stop, .int t_fault, .ref a_t_longs, .int t_longCount, .ref a_t_numbers, .ref a_t_common, .ref a_t_more, .ref a_t_told2, .ref a_t_toldSize, .ref a_t_toldBytes]))] H → va_D A [(a_t, .inr (9, [.int t_code, .int t_type, .int t_mostR, .int t_mostD, .int t_entries, .int t_values, .int t_coding, .int t_bodySize, .ref a_t_repetitions, .ref a_t_definitions, .ref a_t_newRepetitions, .ref a_t_newDefinitions, .ref a_t_wholes, .ref a_t_newWholes, .ref a_t_words8, .ref a_t_from, .ref a_t_newFrom, .ref a_t_wordFrom, .ref a_t_bytes, .ref a_t_newBytes, .ref a_t_wordBytes, .int t_newCount, .int t_words, .ref a_t_tape, .ref a_t_input, .ref a_t_out, .ref a_t_body, .int t_taped, .int t_inputSize, .int t_outSize, .int t_at, .int t_stop, .int t_fault, .ref a_t_longs, .int t_longCount, .ref a_t_numbers, .ref a_t_common, .ref a_t_more, .ref a_t_told2, .ref a_t_toldSize, .ref a_t_toldBytes]))] → va_S A s.heap H locs → W p l e rm_M_isValue s m args below meth c H locs 0 0 Q (F0 m pc ls [.int y0]) := by
    intro y0 e0; subst e0; exact ret
  clear ret
  unfold f_M_isValue at h
  refine lv_iload_n hx hb d_M_isValue_0 rfl (lv_at hl 1 rfl) ?_
  refine lv_if_lt (tgt := 16) hx hb d_M_isValue_1 (by decide) (fun c => ?_) (fun c => ?_)
  · have h := ift_at h c
    refine lv_iconst (v := 0) hx hb d_M_isValue_16 (by decide) ?_
    exact ret2 _ (Option.some.inj h) d_M_isValue_17 nb0 hP hD hS
  · have h := iff_at h c
    refine lv_iload_n hx hb d_M_isValue_4 rfl (lv_at hl 1 rfl) ?_
    refine lv_aload_n hx hb d_M_isValue_5 rfl (lv_at hl 0 rfl) ?_
    refine va_get (D := D) (ci := 9) (v := .int t_values) (C := "PageFormModel") (T := F_M) (N := 41) hx hb hts in_M hown hK hP 0 rfl rfl 5 (by decide) (hts _ fl_M_178) (fun _ h9 => h9) rfl d_M_isValue_6 ?_
    refine lv_icmp_ge (tgt := 16) hx hb d_M_isValue_9 (by decide) (fun c => ?_) (fun c => ?_)
    · have h := ift_at h c
      refine lv_iconst (v := 0) hx hb d_M_isValue_16 (by decide) ?_
      exact ret2 _ (Option.some.inj h) d_M_isValue_17 nb0 hP hD hS
    · have h := iff_at h c
      refine lv_iconst (v := 1) hx hb d_M_isValue_12 (by decide) ?_
      refine lv_goto (tgt := 17) hx hb d_M_isValue_13 (by decide) ?_
      exact ret2 _ (Option.some.inj h) d_M_isValue_17 nb1 hP hD hS

def rm_M_value : Room := { frames := 1, cells := 0, slots := 0, locals := 21 }
def f_M_value (t_wholes_n : Nat) (t_type : Int32) (t_values : Int32) (t_wholes : Nat → Int64) (v1 : Int32) : Option (Int64 × Int32) :=
  Option.bind (f_M_isValue t_values v1) (fun o3 => (if o3 = 0 then some ((0 : Int64), (0 : Int32)) else (if t_type = (3 : Int32) then some ((0 : Int64), (0 : Int32)) else gd (inB v1 t_wholes_n) (some ((t_wholes v1.toNatClampNeg), (0 : Int32))))))
set_option maxHeartbeats 4000000 in
set_option maxRecDepth 100000 in
theorem c_M_value (l : Launch) (D : va_G) (k : ClassId × ClassId × ClassId) (a_t a_t_repetitions a_t_definitions a_t_newRepetitions a_t_newDefinitions a_t_wholes a_t_newWholes a_t_words8 a_t_from a_t_newFrom a_t_wordFrom a_t_bytes a_t_newBytes a_t_wordBytes a_t_tape a_t_input a_t_out a_t_body a_t_longs a_t_numbers a_t_common a_t_more a_t_told2 a_t_toldSize a_t_toldBytes : Nat) (t_wholes_n : Nat) (t_code : Int32) (t_type : Int32) (t_mostR : Int32) (t_mostD : Int32) (t_entries : Int32) (t_values : Int32) (t_coding : Int32) (t_bodySize : Int32) (t_newCount : Int32) (t_words : Int32) (t_taped : Int32) (t_inputSize : Int32) (t_outSize : Int32) (t_at : Int32) (t_stop : Int32) (t_fault : Int32) (t_longCount : Int32) (t_wholes : Nat → Int64) (v1 : Int32) (n : Nat) (out : Int64 × Int32) (h : f_M_value t_wholes_n t_type t_values t_wholes v1 = some out) : Ct l D k y_M_value b_M_value 2 (some .long) rm_M_value [.ref a_t, .int v1] [(a_t, .inr (9, [.int t_code, .int t_type, .int t_mostR, .int t_mostD, .int t_entries, .int t_values, .int t_coding, .int t_bodySize, .ref a_t_repetitions, .ref a_t_definitions, .ref a_t_newRepetitions, .ref a_t_newDefinitions, .ref a_t_wholes, .ref a_t_newWholes, .ref a_t_words8, .ref a_t_from, .ref a_t_newFrom, .ref a_t_wordFrom, .ref a_t_bytes, .ref a_t_newBytes, .ref a_t_wordBytes, .int t_newCount, .int t_words, .ref a_t_tape, .ref a_t_input, .ref a_t_out, .ref a_t_body, .int t_taped, .int t_inputSize, .int t_outSize, .int t_at, .int t_stop, .int t_fault, .ref a_t_longs, .int t_longCount, .ref a_t_numbers, .ref a_t_common, .ref a_t_more, .ref a_t_told2, .ref a_t_toldSize, .ref a_t_toldBytes])), (a_t_wholes, .inl (k.2.2, t_wholes_n, .inr (.inl t_wholes)))] [(a_t, .inr (9, [.int out.2, .int t_type, .int t_mostR, .int t_mostD, .int t_entries, .int t_values, .int t_coding, .int t_bodySize, .ref a_t_repetitions, .ref a_t_definitions, .ref a_t_newRepetitions, .ref a_t_newDefinitions, .ref a_t_wholes, .ref a_t_newWholes, .ref a_t_words8, .ref a_t_from, .ref a_t_newFrom, .ref a_t_wordFrom, .ref a_t_bytes, .ref a_t_newBytes, .ref a_t_wordBytes, .int t_newCount, .int t_words, .ref a_t_tape, .ref a_t_input, .ref a_t_out, .ref a_t_body, .int t_taped, .int t_inputSize, .int t_outSize, .int t_at, .int t_stop, .int t_fault, .ref a_t_longs, .int t_longCount, .ref a_t_numbers, .ref a_t_common, .ref a_t_more, .ref a_t_told2, .ref a_t_toldSize, .ref a_t_toldBytes])), (a_t_wholes, .inl (k.2.2, t_wholes_n, .inr (.inl t_wholes)))] (some (.long out.1)) := by
  refine Ct.ofL (by decide) (Nat.le_of_ble_eq_true rfl) ?_
  intro p e s m args below meth c A Q ls hx hb hml hown hts hA hK hP hD hS hE hl ret
  have hown : s.vm.findClass "PageFormModel" = some m.cls := hown
  have hl : lv_has ls 2 [(0, .ref a_t), (1, .int v1)] := hl
  have ret2 : ∀ (y0 : Int64) (y1 : Int32) (_ : (y0, y1) = out) {pc : Nat} {ls : Array Slot} {H : Heap} {locs : List Loc}, decode b_M_value pc = .ok (.lreturn, 1) → va_P D CL [(a_t, .inr (9, [.int y1, .int t_type, .int t_mostR, .int t_mostD, .int t_entries, .int t_values, .int t_coding, .int t_bodySize, .ref a_t_repetitions, .ref a_t_definitions, .ref a_t_newRepetitions, .ref a_t_newDefinitions, .ref a_t_wholes, .ref a_t_newWholes, .ref a_t_words8, .ref a_t_from, .ref a_t_newFrom, .ref a_t_wordFrom, .ref a_t_bytes, .ref a_t_newBytes, .ref a_t_wordBytes, .int t_newCount, .int t_words, .ref a_t_tape, .ref a_t_input, .ref a_t_out, .ref a_t_body, .int t_taped, .int t_inputSize, .int t_outSize, .int t_at, .int t_stop, .int t_fault, .ref a_t_longs, .int t_longCount, .ref a_t_numbers, .ref a_t_common, .ref a_t_more, .ref a_t_told2, .ref a_t_toldSize, .ref a_t_toldBytes])), (a_t_wholes, .inl (k.2.2, t_wholes_n, .inr (.inl t_wholes)))] H → va_D A [(a_t, .inr (9, [.int y1, .int t_type, .int t_mostR, .int t_mostD, .int t_entries, .int t_values, .int t_coding, .int t_bodySize, .ref a_t_repetitions, .ref a_t_definitions, .ref a_t_newRepetitions, .ref a_t_newDefinitions, .ref a_t_wholes, .ref a_t_newWholes, .ref a_t_words8, .ref a_t_from, .ref a_t_newFrom, .ref a_t_wordFrom, .ref a_t_bytes, .ref a_t_newBytes, .ref a_t_wordBytes, .int t_newCount, .int t_words, .ref a_t_tape, .ref a_t_input, .ref a_t_out, .ref a_t_body, .int t_taped, .int t_inputSize, .int t_outSize, .int t_at, .int t_stop, .int t_fault, .ref a_t_longs, .int t_longCount, .ref a_t_numbers, .ref a_t_common, .ref a_t_more, .ref a_t_told2, .ref a_t_toldSize, .ref a_t_toldBytes])), (a_t_wholes, .inl (k.2.2, t_wholes_n, .inr (.inl t_wholes)))] → va_S A s.heap H locs → W p l e rm_M_value s m args below meth c H locs 0 0 Q (F0 m pc ls [.long y0]) := by
    intro y0 y1 e0; subst e0; exact ret
  clear ret
  unfold f_M_value at h
  refine lv_aload_n hx hb d_M_value_0 rfl (lv_at hl 0 rfl) ?_
  refine lv_iconst (v := 0) hx hb d_M_value_1 (by decide) ?_
  refine va_put (D := D) (ci := 9) (v := .int (0 : Int32)) (ty := .int) (C := "PageFormModel") (T := F_M) (N := 41) hx hb hts in_M t_M t_M_ok n_M hown hK hP hD hS 0 rfl rfl 0 (by decide) (hts _ fl_M_84) (fun _ h9 => h9) rfl (by decide +kernel) rfl rfl (Nat.le_of_ble_eq_true rfl) d_M_value_2 (fun H locs hP hD hS => ?_)
  have hP : va_P D CL [(a_t, .inr (9, [.int (0 : Int32), .int t_type, .int t_mostR, .int t_mostD, .int t_entries, .int t_values, .int t_coding, .int t_bodySize, .ref a_t_repetitions, .ref a_t_definitions, .ref a_t_newRepetitions, .ref a_t_newDefinitions, .ref a_t_wholes, .ref a_t_newWholes, .ref a_t_words8, .ref a_t_from, .ref a_t_newFrom, .ref a_t_wordFrom, .ref a_t_bytes, .ref a_t_newBytes, .ref a_t_wordBytes, .int t_newCount, .int t_words, .ref a_t_tape, .ref a_t_input, .ref a_t_out, .ref a_t_body, .int t_taped, .int t_inputSize, .int t_outSize, .int t_at, .int t_stop, .int t_fault, .ref a_t_longs, .int t_longCount, .ref a_t_numbers, .ref a_t_common, .ref a_t_more, .ref a_t_told2, .ref a_t_toldSize, .ref a_t_toldBytes])), (a_t_wholes, .inl (k.2.2, t_wholes_n, .inr (.inl t_wholes)))] H := hP
  have hD : va_D A [(a_t, .inr (9, [.int (0 : Int32), .int t_type, .int t_mostR, .int t_mostD, .int t_entries, .int t_values, .int t_coding, .int t_bodySize, .ref a_t_repetitions, .ref a_t_definitions, .ref a_t_newRepetitions, .ref a_t_newDefinitions, .ref a_t_wholes, .ref a_t_newWholes, .ref a_t_words8, .ref a_t_from, .ref a_t_newFrom, .ref a_t_wordFrom, .ref a_t_bytes, .ref a_t_newBytes, .ref a_t_wordBytes, .int t_newCount, .int t_words, .ref a_t_tape, .ref a_t_input, .ref a_t_out, .ref a_t_body, .int t_taped, .int t_inputSize, .int t_outSize, .int t_at, .int t_stop, .int t_fault, .ref a_t_longs, .int t_longCount, .ref a_t_numbers, .ref a_t_common, .ref a_t_more, .ref a_t_told2, .ref a_t_toldSize, .ref a_t_toldBytes])), (a_t_wholes, .inl (k.2.2, t_wholes_n, .inr (.inl t_wholes)))] := hD
  refine lv_aload_n hx hb d_M_value_5 rfl (lv_at hl 0 rfl) ?_
  refine lv_iload_n hx hb d_M_value_6 rfl (lv_at hl 1 rfl) ?_
  obtain ⟨o3, ho3, h⟩ := obd_at h
  refine g_V (As := [.int v1]) (rest := []) hx hb hml hown hts hA hK hP hD hS hE (c_M_isValue l D k a_t a_t_repetitions a_t_definitions a_t_newRepetitions a_t_newDefinitions a_t_wholes a_t_newWholes a_t_words8 a_t_from a_t_newFrom a_t_wordFrom a_t_bytes a_t_newBytes a_t_wordBytes a_t_tape a_t_input a_t_out a_t_body a_t_longs a_t_numbers a_t_common a_t_more a_t_told2 a_t_toldSize a_t_toldBytes (0 : Int32) t_type t_mostR t_mostD t_entries t_values t_coding t_bodySize t_newCount t_words t_taped t_inputSize t_outSize t_at t_stop t_fault t_longCount v1 n o3 ho3) mw_M_isValue mi_M_isValue ml_M_349 [0] rfl (by decide) rfl rfl rfl 0 rfl rfl rfl rfl rfl hl.1 rfl (Nat.le_of_ble_eq_true rfl) ⟨Nat.zero_le _, Nat.zero_le _⟩ d_M_value_7 (fun H locs hP hD hS => ?_)
  have hP : va_P D CL [(a_t, .inr (9, [.int (0 : Int32), .int t_type, .int t_mostR, .int t_mostD, .int t_entries, .int t_values, .int t_coding, .int t_bodySize, .ref a_t_repetitions, .ref a_t_definitions, .ref a_t_newRepetitions, .ref a_t_newDefinitions, .ref a_t_wholes, .ref a_t_newWholes, .ref a_t_words8, .ref a_t_from, .ref a_t_newFrom, .ref a_t_wordFrom, .ref a_t_bytes, .ref a_t_newBytes, .ref a_t_wordBytes, .int t_newCount, .int t_words, .ref a_t_tape, .ref a_t_input, .ref a_t_out, .ref a_t_body, .int t_taped, .int t_inputSize, .int t_outSize, .int t_at, .int t_stop, .int t_fault, .ref a_t_longs, .int t_longCount, .ref a_t_numbers, .ref a_t_common, .ref a_t_more, .ref a_t_told2, .ref a_t_toldSize, .ref a_t_toldBytes])), (a_t_wholes, .inl (k.2.2, t_wholes_n, .inr (.inl t_wholes)))] H := hP
  have hD : va_D A [(a_t, .inr (9, [.int (0 : Int32), .int t_type, .int t_mostR, .int t_mostD, .int t_entries, .int t_values, .int t_coding, .int t_bodySize, .ref a_t_repetitions, .ref a_t_definitions, .ref a_t_newRepetitions, .ref a_t_newDefinitions, .ref a_t_wholes, .ref a_t_newWholes, .ref a_t_words8, .ref a_t_from, .ref a_t_newFrom, .ref a_t_wordFrom, .ref a_t_bytes, .ref a_t_newBytes, .ref a_t_wordBytes, .int t_newCount, .int t_words, .ref a_t_tape, .ref a_t_input, .ref a_t_out, .ref a_t_body, .int t_taped, .int t_inputSize, .int t_outSize, .int t_at, .int t_stop, .int t_fault, .ref a_t_longs, .int t_longCount, .ref a_t_numbers, .ref a_t_common, .ref a_t_more, .ref a_t_told2, .ref a_t_toldSize, .ref a_t_toldBytes])), (a_t_wholes, .inl (k.2.2, t_wholes_n, .inr (.inl t_wholes)))] := hD
  refine W.eq (g2 := F0 m 10 ls [.int o3]) rfl ?_
  refine lv_if_eq (tgt := 30) hx hb d_M_value_10 (by decide) (fun c => ?_) (fun c => ?_)
  · have h := ift_at h c
    refine lv_lconst (v := 0) hx hb d_M_value_30 (by decide) ?_
    exact ret2 _ _ (Option.some.inj h) d_M_value_31 hP hD hS
  · have h := iff_at h c
    refine lv_aload_n hx hb d_M_value_13 rfl (lv_at hl 0 rfl) ?_
    refine va_get (D := D) (ci := 9) (v := .int t_type) (C := "PageFormModel") (T := F_M) (N := 41) hx hb hts in_M hown hK hP 0 rfl rfl 1 (by decide) (hts _ fl_M_181) (fun _ h9 => h9) rfl d_M_value_14 ?_
    refine lv_iconst (v := 3) hx hb d_M_value_17 (by decide) ?_
    refine lv_icmp_eq (tgt := 30) hx hb d_M_value_18 (by decide) (fun c => ?_) (fun c => ?_)
    · have h := ift_at h c
      refine lv_lconst (v := 0) hx hb d_M_value_30 (by decide) ?_
      exact ret2 _ _ (Option.some.inj h) d_M_value_31 hP hD hS
    · have h := iff_at h c
      refine lv_aload_n hx hb d_M_value_21 rfl (lv_at hl 0 rfl) ?_
      refine va_get (D := D) (ci := 9) (v := .ref a_t_wholes) (C := "PageFormModel") (T := F_M) (N := 41) hx hb hts in_M hown hK hP 0 rfl rfl 12 (by decide) (hts _ fl_M_22) (fun _ h9 => h9) rfl d_M_value_22 ?_
      refine lv_iload_n hx hb d_M_value_25 rfl (lv_at hl 1 rfl) ?_
      obtain ⟨g4, h⟩ := gd_at h
      refine va_lald hx hb hK hP 1 2 rfl rfl (inB_in g4) d_M_value_26 ?_
      refine lv_goto (tgt := 31) hx hb d_M_value_27 (by decide) ?_
      exact ret2 _ _ (Option.some.inj h) d_M_value_31 hP hD hS

