def rm_M_readRuns : Room := { frames := 2, cells := 0, slots := 0, locals := 55 }
def f_M_readRuns_l3 (n : Nat) (t_input_n : Nat) (p1_n : Nat) (t_input : Nat → Int32) (v2 : Int32) (v3 : Int32) (v4 : Int32) (t_at : Int32) (t_fault : Int32) (p1 : Nat → Int32) (v5 : Int32) : Option ((Int32 × Int32 × (Nat → Int32) × Int32) ⊕ ((Int32 × Int32 × (Nat → Int32)))) :=
  (if v2 ≤ v5 then some (Sum.inr ((t_at, t_fault, p1))) else (if t_fault = 0 then Option.bind (f_M_varint n t_input_n t_at t_fault t_input v4) (fun o7 => (if o7.2.2 = 0 then bnd ((o7.1.toUInt64 >>> ((1 : Int32).toInt64.toUInt64 &&& Int64.toUInt64 63)).toInt64) (fun x8 => (if x8 = (0 : Int64) then some (Sum.inl (o7.2.1, (3 : Int32), p1, v5)) else (if (o7.1 &&& (1 : Int64)) = (0 : Int64) then Option.bind (f_M_readOne n t_input_n p1_n o7.2.1 o7.2.2 t_input p1 v5 v2 v3 v4 x8) (fun o13 => some (Sum.inl (o13.2.1, o13.2.2.1, o13.2.2.2, o13.1))) else Option.bind (f_M_readGroups n t_input_n p1_n o7.2.1 o7.2.2 t_input p1 v5 v2 v3 v4 x8) (fun o9 => some (Sum.inl (o9.2.1, o9.2.2.1, o9.2.2.2, o9.1)))))) else some (Sum.inr ((o7.2.1, o7.2.2, p1))))) else some (Sum.inr ((t_at, t_fault, p1)))))
def f_M_readRuns (n : Nat) (t_input_n : Nat) (p1_n : Nat) (t_at : Int32) (t_fault : Int32) (t_input : Nat → Int32) (p1 : Nat → Int32) (v2 : Int32) (v3 : Int32) (v4 : Int32) : Option (Int32 × Int32 × (Nat → Int32)) :=
  Option.bind (lp (fun v => f_M_readRuns_l3 n t_input_n p1_n t_input v2 v3 v4 v.1 v.2.1 v.2.2.1 v.2.2.2) n (t_at, t_fault, p1, (0 : Int32))) (fun o => some o)
set_option maxHeartbeats 4000000 in
set_option maxRecDepth 100000 in
theorem c_M_readRuns (l : Launch) (D : va_G) (k : ClassId × ClassId × ClassId) (a_t a_t_repetitions a_t_definitions a_t_newRepetitions a_t_newDefinitions a_t_wholes a_t_newWholes a_t_words8 a_t_from a_t_newFrom a_t_wordFrom a_t_bytes a_t_newBytes a_t_wordBytes a_t_tape a_t_input a_t_out a_t_body a_t_longs a_t_numbers a_t_common a_t_more a_t_told2 a_t_toldSize a_t_toldBytes a_p1 : Nat) (t_input_n p1_n : Nat) (t_code : Int32) (t_type : Int32) (t_mostR : Int32) (t_mostD : Int32) (t_entries : Int32) (t_values : Int32) (t_coding : Int32) (t_bodySize : Int32) (t_newCount : Int32) (t_words : Int32) (t_taped : Int32) (t_inputSize : Int32) (t_outSize : Int32) (t_at : Int32) (t_stop : Int32) (t_fault : Int32) (t_longCount : Int32) (t_input : Nat → Int32) (p1 : Nat → Int32) (v2 : Int32) (v3 : Int32) (v4 : Int32) (n : Nat) (out : Int32 × Int32 × (Nat → Int32)) (h : f_M_readRuns n t_input_n p1_n t_at t_fault t_input p1 v2 v3 v4 = some out) : Ct l D k y_M_readRuns b_M_readRuns 10 none rm_M_readRuns [.ref a_t, .ref a_p1, .int v2, .int v3, .int v4] [(a_t, .inr (9, [.int t_code, .int t_type, .int t_mostR, .int t_mostD, .int t_entries, .int t_values, .int t_coding, .int t_bodySize, .ref a_t_repetitions, .ref a_t_definitions, .ref a_t_newRepetitions, .ref a_t_newDefinitions, .ref a_t_wholes, .ref a_t_newWholes, .ref a_t_words8, .ref a_t_from, .ref a_t_newFrom, .ref a_t_wordFrom, .ref a_t_bytes, .ref a_t_newBytes, .ref a_t_wordBytes, .int t_newCount, .int t_words, .ref a_t_tape, .ref a_t_input, .ref a_t_out, .ref a_t_body, .int t_taped, .int t_inputSize, .int t_outSize, .int t_at, .int t_stop, .int t_fault, .ref a_t_longs, .int t_longCount, .ref a_t_numbers, .ref a_t_common, .ref a_t_more, .ref a_t_told2, .ref a_t_toldSize, .ref a_t_toldBytes])), (a_t_input, .inl (k.2.1, t_input_n, .inl t_input)), (a_p1, .inl (k.2.1, p1_n, .inl p1))] [(a_t, .inr (9, [.int t_code, .int t_type, .int t_mostR, .int t_mostD, .int t_entries, .int t_values, .int t_coding, .int t_bodySize, .ref a_t_repetitions, .ref a_t_definitions, .ref a_t_newRepetitions, .ref a_t_newDefinitions, .ref a_t_wholes, .ref a_t_newWholes, .ref a_t_words8, .ref a_t_from, .ref a_t_newFrom, .ref a_t_wordFrom, .ref a_t_bytes, .ref a_t_newBytes, .ref a_t_wordBytes, .int t_newCount, .int t_words, .ref a_t_tape, .ref a_t_input, .ref a_t_out, .ref a_t_body, .int t_taped, .int t_inputSize, .int t_outSize, .int out.1, .int t_stop, .int out.2.1, .ref a_t_longs, .int t_longCount, .ref a_t_numbers, .ref a_t_common, .ref a_t_more, .ref a_t_told2, .ref a_t_toldSize, .ref a_t_toldBytes])), (a_t_input, .inl (k.2.1, t_input_n, .inl t_input)), (a_p1, .inl (k.2.1, p1_n, .inl out.2.2))] none := by
  refine Ct.ofV (by decide) (Nat.le_of_ble_eq_true rfl) ?_
  intro p e s m args below meth c A Q ls hx hb hml hown hts hA hK hP hD hS hE hl ret
  have hown : s.vm.findClass "PageFormModel" = some m.cls := hown
  have hl : lv_has ls 10 [(0, .ref a_t), (1, .ref a_p1), (2, .int v2), (3, .int v3), (4, .int v4)] := hl
  have ret2 : ∀ (y0 : Int32) (y1 : Int32) (y2 : Nat → Int32) (_ : (y0, y1, y2) = out) {pc : Nat} {ls : Array Slot} {H : Heap} {locs : List Loc}, decode b_M_readRuns pc = .ok (.return_, 1) → va_P D CL [(a_t, .inr (9, [.int t_code, .int t_type, .int t_mostR, .int t_mostD, .int t_entries, .int t_values, .int t_coding, .int t_bodySize, .ref a_t_repetitions, .ref a_t_definitions, .ref a_t_newRepetitions, .ref a_t_newDefinitions, .ref a_t_wholes, .ref a_t_newWholes, .ref a_t_words8, .ref a_t_from, .ref a_t_newFrom, .ref a_t_wordFrom, .ref a_t_bytes, .ref a_t_newBytes, .ref a_t_wordBytes, .int t_newCount, .int t_words, .ref a_t_tape, .ref a_t_input, .ref a_t_out, .ref a_t_body, .int t_taped, .int t_inputSize, .int t_outSize, .int y0, .int t_stop, .int y1, .ref a_t_longs, .int t_longCount, .ref a_t_numbers, .ref a_t_common, .ref a_t_more, .ref a_t_told2, .ref a_t_toldSize, .ref a_t_toldBytes])), (a_t_input, .inl (k.2.1, t_input_n, .inl t_input)), (a_p1, .inl (k.2.1, p1_n, .inl y2))] H → va_D A [(a_t, .inr (9, [.int t_code, .int t_type, .int t_mostR, .int t_mostD, .int t_entries, .int t_values, .int t_coding, .int t_bodySize, .ref a_t_repetitions, .ref a_t_definitions, .ref a_t_newRepetitions, .ref a_t_newDefinitions, .ref a_t_wholes, .ref a_t_newWholes, .ref a_t_words8, .ref a_t_from, .ref a_t_newFrom, .ref a_t_wordFrom, .ref a_t_bytes, .ref a_t_newBytes, .ref a_t_wordBytes, .int t_newCount, .int t_words, .ref a_t_tape, .ref a_t_input, .ref a_t_out, .ref a_t_body, .int t_taped, .int t_inputSize, .int t_outSize, .int y0, .int t_stop, .int y1, .ref a_t_longs, .int t_longCount, .ref a_t_numbers, .ref a_t_common, .ref a_t_more, .ref a_t_told2, .ref a_t_toldSize, .ref a_t_toldBytes])), (a_t_input, .inl (k.2.1, t_input_n, .inl t_input)), (a_p1, .inl (k.2.1, p1_n, .inl y2))] → va_S A s.heap H locs → W p l e rm_M_readRuns s m args below meth c H locs 0 0 Q (F0 m pc ls []) := by
    intro y0 y1 y2 e0; subst e0; exact ret
  clear ret
  have L3 : ∀ (K : Nat) (t_at : Int32) (t_fault : Int32) (p1 : Nat → Int32) (v5 : Int32) (o : (Int32 × Int32 × (Nat → Int32))) (H : Heap) (locs : List Loc) (ls : Array Slot), va_P D CL [(a_t, .inr (9, [.int t_code, .int t_type, .int t_mostR, .int t_mostD, .int t_entries, .int t_values, .int t_coding, .int t_bodySize, .ref a_t_repetitions, .ref a_t_definitions, .ref a_t_newRepetitions, .ref a_t_newDefinitions, .ref a_t_wholes, .ref a_t_newWholes, .ref a_t_words8, .ref a_t_from, .ref a_t_newFrom, .ref a_t_wordFrom, .ref a_t_bytes, .ref a_t_newBytes, .ref a_t_wordBytes, .int t_newCount, .int t_words, .ref a_t_tape, .ref a_t_input, .ref a_t_out, .ref a_t_body, .int t_taped, .int t_inputSize, .int t_outSize, .int t_at, .int t_stop, .int t_fault, .ref a_t_longs, .int t_longCount, .ref a_t_numbers, .ref a_t_common, .ref a_t_more, .ref a_t_told2, .ref a_t_toldSize, .ref a_t_toldBytes])), (a_t_input, .inl (k.2.1, t_input_n, .inl t_input)), (a_p1, .inl (k.2.1, p1_n, .inl p1))] H → va_D A [(a_t, .inr (9, [.int t_code, .int t_type, .int t_mostR, .int t_mostD, .int t_entries, .int t_values, .int t_coding, .int t_bodySize, .ref a_t_repetitions, .ref a_t_definitions, .ref a_t_newRepetitions, .ref a_t_newDefinitions, .ref a_t_wholes, .ref a_t_newWholes, .ref a_t_words8, .ref a_t_from, .ref a_t_newFrom, .ref a_t_wordFrom, .ref a_t_bytes, .ref a_t_newBytes, .ref a_t_wordBytes, .int t_newCount, .int t_words, .ref a_t_tape, .ref a_t_input, .ref a_t_out, .ref a_t_body, .int t_taped, .int t_inputSize, .int t_outSize, .int t_at, .int t_stop, .int t_fault, .ref a_t_longs, .int t_longCount, .ref a_t_numbers, .ref a_t_common, .ref a_t_more, .ref a_t_told2, .ref a_t_toldSize, .ref a_t_toldBytes])), (a_t_input, .inl (k.2.1, t_input_n, .inl t_input)), (a_p1, .inl (k.2.1, p1_n, .inl p1))] → va_S A s.heap H locs → lv_has ls 10 [(0, .ref a_t), (1, .ref a_p1), (2, .int v2), (3, .int v3), (4, .int v4), (5, .int v5)] → lp (fun v => f_M_readRuns_l3 n t_input_n p1_n t_input v2 v3 v4 v.1 v.2.1 v.2.2.1 v.2.2.2) K (t_at, t_fault, p1, v5) = some o → (fun o => some o) o = some out → W p l e rm_M_readRuns s m args below meth c H locs 0 0 Q (F0 m 3 ls []) := by
    intro K
    induction K with
    | zero => intros; exact absurd (by assumption) lp_no
    | succ K ih3 =>
      intro t_at t_fault p1 v5 o H locs ls hP hD hS hl h0 hx3
      obtain ⟨b3, h, hc3⟩ := lp_at h0
      have h : f_M_readRuns_l3 n t_input_n p1_n t_input v2 v3 v4 t_at t_fault p1 v5 = some b3 := h
      unfold f_M_readRuns_l3 at h
      refine lv_iload hx hb d_M_readRuns_3 (lv_at hl 5 rfl) ?_
      refine lv_iload_n hx hb d_M_readRuns_5 rfl (lv_at hl 2 rfl) ?_
      refine lv_icmp_ge (tgt := 98) hx hb d_M_readRuns_6 (by decide) (fun c => ?_) (fun c => ?_)
      · have h := ift_at h c
        obtain rfl := lp_out h hc3
        exact ret2 _ _ _ (Option.some.inj hx3) d_M_readRuns_98 hP hD hS
      · have h := iff_at h c
        refine lv_aload_n hx hb d_M_readRuns_9 rfl (lv_at hl 0 rfl) ?_
        refine va_get (D := D) (ci := 9) (v := .int t_fault) (C := "PageFormModel") (T := F_M) (N := 41) hx hb hts in_M hown hK hP 0 rfl rfl 32 (by decide) (hts _ fl_M_91) (fun _ h9 => h9) rfl d_M_readRuns_10 ?_
        refine lv_if_ne (tgt := 98) hx hb d_M_readRuns_13 (by decide) (fun c => ?_) (fun c => ?_)
        · have h := iff_at h c
          obtain rfl := lp_out h hc3
          exact ret2 _ _ _ (Option.some.inj hx3) d_M_readRuns_98 hP hD hS
        · have h := ift_at h c
          refine lv_aload_n hx hb d_M_readRuns_16 rfl (lv_at hl 0 rfl) ?_
          refine lv_iload hx hb d_M_readRuns_17 (lv_at hl 4 rfl) ?_
          obtain ⟨o7, ho7, h⟩ := obd_at h
          refine g_V (As := [.int v4]) (rest := []) hx hb hml hown hts hA hK hP hD hS hE (c_M_varint l D k a_t a_t_repetitions a_t_definitions a_t_newRepetitions a_t_newDefinitions a_t_wholes a_t_newWholes a_t_words8 a_t_from a_t_newFrom a_t_wordFrom a_t_bytes a_t_newBytes a_t_wordBytes a_t_tape a_t_input a_t_out a_t_body a_t_longs a_t_numbers a_t_common a_t_more a_t_told2 a_t_toldSize a_t_toldBytes t_input_n t_code t_type t_mostR t_mostD t_entries t_values t_coding t_bodySize t_newCount t_words t_taped t_inputSize t_outSize t_at t_stop t_fault t_longCount t_input v4 n o7 ho7) mw_M_varint mi_M_varint ml_M_113 [0, 1] rfl (by decide) rfl rfl rfl 0 rfl rfl rfl rfl rfl hl.1 rfl (Nat.le_of_ble_eq_true rfl) ⟨Nat.zero_le _, Nat.zero_le _⟩ d_M_readRuns_19 (fun H locs hP hD hS => ?_)
          have hP : va_P D CL [(a_t, .inr (9, [.int t_code, .int t_type, .int t_mostR, .int t_mostD, .int t_entries, .int t_values, .int t_coding, .int t_bodySize, .ref a_t_repetitions, .ref a_t_definitions, .ref a_t_newRepetitions, .ref a_t_newDefinitions, .ref a_t_wholes, .ref a_t_newWholes, .ref a_t_words8, .ref a_t_from, .ref a_t_newFrom, .ref a_t_wordFrom, .ref a_t_bytes, .ref a_t_newBytes, .ref a_t_wordBytes, .int t_newCount, .int t_words, .ref a_t_tape, .ref a_t_input, .ref a_t_out, .ref a_t_body, .int t_taped, .int t_inputSize, .int t_outSize, .int o7.2.1, .int t_stop, .int o7.2.2, .ref a_t_longs, .int t_longCount, .ref a_t_numbers, .ref a_t_common, .ref a_t_more, .ref a_t_told2, .ref a_t_toldSize, .ref a_t_toldBytes])), (a_t_input, .inl (k.2.1, t_input_n, .inl t_input)), (a_p1, .inl (k.2.1, p1_n, .inl p1))] H := hP
          have hD : va_D A [(a_t, .inr (9, [.int t_code, .int t_type, .int t_mostR, .int t_mostD, .int t_entries, .int t_values, .int t_coding, .int t_bodySize, .ref a_t_repetitions, .ref a_t_definitions, .ref a_t_newRepetitions, .ref a_t_newDefinitions, .ref a_t_wholes, .ref a_t_newWholes, .ref a_t_words8, .ref a_t_from, .ref a_t_newFrom, .ref a_t_wordFrom, .ref a_t_bytes, .ref a_t_newBytes, .ref a_t_wordBytes, .int t_newCount, .int t_words, .ref a_t_tape, .ref a_t_input, .ref a_t_out, .ref a_t_body, .int t_taped, .int t_inputSize, .int t_outSize, .int o7.2.1, .int t_stop, .int o7.2.2, .ref a_t_longs, .int t_longCount, .ref a_t_numbers, .ref a_t_common, .ref a_t_more, .ref a_t_told2, .ref a_t_toldSize, .ref a_t_toldBytes])), (a_t_input, .inl (k.2.1, t_input_n, .inl t_input)), (a_p1, .inl (k.2.1, p1_n, .inl p1))] := hD
          refine W.eq (g2 := F0 m 22 ls [.long o7.1]) rfl ?_
          refine lv_lstore (lv' := [(6, .long o7.1), (0, .ref a_t), (1, .ref a_p1), (2, .int v2), (3, .int v3), (4, .int v4), (5, .int v5)]) hx hb d_M_readRuns_22 hl (by decide) rfl (fun ls hl => ?_)
          refine lv_aload_n hx hb d_M_readRuns_24 rfl (lv_at hl 1 rfl) ?_
          refine va_get (D := D) (ci := 9) (v := .int o7.2.2) (C := "PageFormModel") (T := F_M) (N := 41) hx hb hts in_M hown hK hP 0 rfl rfl 32 (by decide) (hts _ fl_M_91) (fun _ h9 => h9) rfl d_M_readRuns_25 ?_
          refine lv_if_eq (tgt := 32) hx hb d_M_readRuns_28 (by decide) (fun c => ?_) (fun c => ?_)
          · have h := ift_at h c
            refine lv_lload hx hb d_M_readRuns_32 (lv_at hl 0 rfl) ?_
            refine lv_iconst (v := 1) hx hb d_M_readRuns_34 (by decide) ?_
            refine lv_lushr hx hb d_M_readRuns_35 rfl ?_
            refine lv_topl (fun x8 ex8 => ?_)
            have h := bnd_at h ex8
            refine lv_lstore (lv' := [(8, .long x8), (6, .long o7.1), (0, .ref a_t), (1, .ref a_p1), (2, .int v2), (3, .int v3), (4, .int v4), (5, .int v5)]) hx hb d_M_readRuns_36 hl (by decide) rfl (fun ls hl => ?_)
            refine lv_lload hx hb d_M_readRuns_38 (lv_at hl 0 rfl) ?_
            refine lv_lconst (v := 0) hx hb d_M_readRuns_40 (by decide) ?_
            refine W.lcmp hx hb d_M_readRuns_41 ?_
            refine lv_if_ne (tgt := 53) hx hb d_M_readRuns_42 (by decide) (fun c => ?_) (fun c => ?_)
            · have c := mt zc_eq.mpr c
              have h := iff_at h c
              refine lv_lload hx hb d_M_readRuns_53 (lv_at hl 1 rfl) ?_
              refine lv_lconst (v := 1) hx hb d_M_readRuns_55 (by decide) ?_
              refine lv_land hx hb d_M_readRuns_56 ?_
              refine lv_lconst (v := 0) hx hb d_M_readRuns_57 (by decide) ?_
              refine W.lcmp hx hb d_M_readRuns_58 ?_
              refine lv_if_ne (tgt := 80) hx hb d_M_readRuns_59 (by decide) (fun c => ?_) (fun c => ?_)
              · have c := mt zc_eq.mpr c
                have h := iff_at h c
                refine lv_aload_n hx hb d_M_readRuns_80 rfl (lv_at hl 2 rfl) ?_
                refine lv_aload_n hx hb d_M_readRuns_81 rfl (lv_at hl 3 rfl) ?_
                refine lv_iload hx hb d_M_readRuns_82 (lv_at hl 7 rfl) ?_
                refine lv_iload_n hx hb d_M_readRuns_84 rfl (lv_at hl 4 rfl) ?_
                refine lv_iload_n hx hb d_M_readRuns_85 rfl (lv_at hl 5 rfl) ?_
                refine lv_iload hx hb d_M_readRuns_86 (lv_at hl 6 rfl) ?_
                refine lv_lload hx hb d_M_readRuns_88 (lv_at hl 0 rfl) ?_
                obtain ⟨o9, ho9, h⟩ := obd_at h
                refine g_V (As := [.ref a_p1, .int v5, .int v2, .int v3, .int v4, .long x8]) (rest := []) hx hb hml hown hts hA hK hP hD hS hE (c_M_readGroups l D k a_t a_t_repetitions a_t_definitions a_t_newRepetitions a_t_newDefinitions a_t_wholes a_t_newWholes a_t_words8 a_t_from a_t_newFrom a_t_wordFrom a_t_bytes a_t_newBytes a_t_wordBytes a_t_tape a_t_input a_t_out a_t_body a_t_longs a_t_numbers a_t_common a_t_more a_t_told2 a_t_toldSize a_t_toldBytes a_p1 t_input_n p1_n t_code t_type t_mostR t_mostD t_entries t_values t_coding t_bodySize t_newCount t_words t_taped t_inputSize t_outSize o7.2.1 t_stop o7.2.2 t_longCount t_input p1 v5 v2 v3 v4 x8 n o9 ho9) mw_M_readGroups mi_M_readGroups ml_M_121 [0, 1, 2] rfl (by decide) rfl rfl rfl 0 rfl rfl rfl rfl rfl hl.1 rfl (Nat.le_of_ble_eq_true rfl) ⟨Nat.zero_le _, Nat.zero_le _⟩ d_M_readRuns_90 (fun H locs hP hD hS => ?_)
                have hP : va_P D CL [(a_t, .inr (9, [.int t_code, .int t_type, .int t_mostR, .int t_mostD, .int t_entries, .int t_values, .int t_coding, .int t_bodySize, .ref a_t_repetitions, .ref a_t_definitions, .ref a_t_newRepetitions, .ref a_t_newDefinitions, .ref a_t_wholes, .ref a_t_newWholes, .ref a_t_words8, .ref a_t_from, .ref a_t_newFrom, .ref a_t_wordFrom, .ref a_t_bytes, .ref a_t_newBytes, .ref a_t_wordBytes, .int t_newCount, .int t_words, .ref a_t_tape, .ref a_t_input, .ref a_t_out, .ref a_t_body, .int t_taped, .int t_inputSize, .int t_outSize, .int o9.2.1, .int t_stop, .int o9.2.2.1, .ref a_t_longs, .int t_longCount, .ref a_t_numbers, .ref a_t_common, .ref a_t_more, .ref a_t_told2, .ref a_t_toldSize, .ref a_t_toldBytes])), (a_t_input, .inl (k.2.1, t_input_n, .inl t_input)), (a_p1, .inl (k.2.1, p1_n, .inl o9.2.2.2))] H := hP
                have hD : va_D A [(a_t, .inr (9, [.int t_code, .int t_type, .int t_mostR, .int t_mostD, .int t_entries, .int t_values, .int t_coding, .int t_bodySize, .ref a_t_repetitions, .ref a_t_definitions, .ref a_t_newRepetitions, .ref a_t_newDefinitions, .ref a_t_wholes, .ref a_t_newWholes, .ref a_t_words8, .ref a_t_from, .ref a_t_newFrom, .ref a_t_wordFrom, .ref a_t_bytes, .ref a_t_newBytes, .ref a_t_wordBytes, .int t_newCount, .int t_words, .ref a_t_tape, .ref a_t_input, .ref a_t_out, .ref a_t_body, .int t_taped, .int t_inputSize, .int t_outSize, .int o9.2.1, .int t_stop, .int o9.2.2.1, .ref a_t_longs, .int t_longCount, .ref a_t_numbers, .ref a_t_common, .ref a_t_more, .ref a_t_told2, .ref a_t_toldSize, .ref a_t_toldBytes])), (a_t_input, .inl (k.2.1, t_input_n, .inl t_input)), (a_p1, .inl (k.2.1, p1_n, .inl o9.2.2.2))] := hD
                refine W.eq (g2 := F0 m 93 ls [.int o9.1]) rfl ?_
                refine lv_istore (lv' := [(5, .int o9.1), (8, .long x8), (6, .long o7.1), (0, .ref a_t), (1, .ref a_p1), (2, .int v2), (3, .int v3), (4, .int v4)]) hx hb d_M_readRuns_93 hl (by decide) rfl (fun ls hl => ?_)
                refine lv_goto (tgt := 3) hx hb d_M_readRuns_95 (by decide) ?_
                have h := lp_go h hc3
                exact ih3 o9.2.1 o9.2.2.1 o9.2.2.2 o9.1 o _ _ ls hP hD hS (lv_sub hl [3, 4, 5, 6, 7, 0] rfl) h hx3
              · have c := zc_eq.mp c
                have h := ift_at h c
                refine lv_aload_n hx hb d_M_readRuns_62 rfl (lv_at hl 2 rfl) ?_
                refine lv_aload_n hx hb d_M_readRuns_63 rfl (lv_at hl 3 rfl) ?_
                refine lv_iload hx hb d_M_readRuns_64 (lv_at hl 7 rfl) ?_
                refine lv_iload_n hx hb d_M_readRuns_66 rfl (lv_at hl 4 rfl) ?_
                refine lv_iload_n hx hb d_M_readRuns_67 rfl (lv_at hl 5 rfl) ?_
                refine lv_iload hx hb d_M_readRuns_68 (lv_at hl 6 rfl) ?_
                refine lv_lload hx hb d_M_readRuns_70 (lv_at hl 0 rfl) ?_
                obtain ⟨o13, ho13, h⟩ := obd_at h
                refine g_V (As := [.ref a_p1, .int v5, .int v2, .int v3, .int v4, .long x8]) (rest := []) hx hb hml hown hts hA hK hP hD hS hE (c_M_readOne l D k a_t a_t_repetitions a_t_definitions a_t_newRepetitions a_t_newDefinitions a_t_wholes a_t_newWholes a_t_words8 a_t_from a_t_newFrom a_t_wordFrom a_t_bytes a_t_newBytes a_t_wordBytes a_t_tape a_t_input a_t_out a_t_body a_t_longs a_t_numbers a_t_common a_t_more a_t_told2 a_t_toldSize a_t_toldBytes a_p1 t_input_n p1_n t_code t_type t_mostR t_mostD t_entries t_values t_coding t_bodySize t_newCount t_words t_taped t_inputSize t_outSize o7.2.1 t_stop o7.2.2 t_longCount t_input p1 v5 v2 v3 v4 x8 n o13 ho13) mw_M_readOne mi_M_readOne ml_M_117 [0, 1, 2] rfl (by decide) rfl rfl rfl 0 rfl rfl rfl rfl rfl hl.1 rfl (Nat.le_of_ble_eq_true rfl) ⟨Nat.zero_le _, Nat.zero_le _⟩ d_M_readRuns_72 (fun H locs hP hD hS => ?_)
                have hP : va_P D CL [(a_t, .inr (9, [.int t_code, .int t_type, .int t_mostR, .int t_mostD, .int t_entries, .int t_values, .int t_coding, .int t_bodySize, .ref a_t_repetitions, .ref a_t_definitions, .ref a_t_newRepetitions, .ref a_t_newDefinitions, .ref a_t_wholes, .ref a_t_newWholes, .ref a_t_words8, .ref a_t_from, .ref a_t_newFrom, .ref a_t_wordFrom, .ref a_t_bytes, .ref a_t_newBytes, .ref a_t_wordBytes, .int t_newCount, .int t_words, .ref a_t_tape, .ref a_t_input, .ref a_t_out, .ref a_t_body, .int t_taped, .int t_inputSize, .int t_outSize, .int o13.2.1, .int t_stop, .int o13.2.2.1, .ref a_t_longs, .int t_longCount, .ref a_t_numbers, .ref a_t_common, .ref a_t_more, .ref a_t_told2, .ref a_t_toldSize, .ref a_t_toldBytes])), (a_t_input, .inl (k.2.1, t_input_n, .inl t_input)), (a_p1, .inl (k.2.1, p1_n, .inl o13.2.2.2))] H := hP
                have hD : va_D A [(a_t, .inr (9, [.int t_code, .int t_type, .int t_mostR, .int t_mostD, .int t_entries, .int t_values, .int t_coding, .int t_bodySize, .ref a_t_repetitions, .ref a_t_definitions, .ref a_t_newRepetitions, .ref a_t_newDefinitions, .ref a_t_wholes, .ref a_t_newWholes, .ref a_t_words8, .ref a_t_from, .ref a_t_newFrom, .ref a_t_wordFrom, .ref a_t_bytes, .ref a_t_newBytes, .ref a_t_wordBytes, .int t_newCount, .int t_words, .ref a_t_tape, .ref a_t_input, .ref a_t_out, .ref a_t_body, .int t_taped, .int t_inputSize, .int t_outSize, .int o13.2.1, .int t_stop, .int o13.2.2.1, .ref a_t_longs, .int t_longCount, .ref a_t_numbers, .ref a_t_common, .ref a_t_more, .ref a_t_told2, .ref a_t_toldSize, .ref a_t_toldBytes])), (a_t_input, .inl (k.2.1, t_input_n, .inl t_input)), (a_p1, .inl (k.2.1, p1_n, .inl o13.2.2.2))] := hD
                refine W.eq (g2 := F0 m 75 ls [.int o13.1]) rfl ?_
                refine lv_istore (lv' := [(5, .int o13.1), (8, .long x8), (6, .long o7.1), (0, .ref a_t), (1, .ref a_p1), (2, .int v2), (3, .int v3), (4, .int v4)]) hx hb d_M_readRuns_75 hl (by decide) rfl (fun ls hl => ?_)
                refine lv_goto (tgt := 95) hx hb d_M_readRuns_77 (by decide) ?_
                refine lv_goto (tgt := 3) hx hb d_M_readRuns_95 (by decide) ?_
                have h := lp_go h hc3
                exact ih3 o13.2.1 o13.2.2.1 o13.2.2.2 o13.1 o _ _ ls hP hD hS (lv_sub hl [3, 4, 5, 6, 7, 0] rfl) h hx3
            · have c := zc_eq.mp c
              have h := ift_at h c
              refine lv_aload_n hx hb d_M_readRuns_45 rfl (lv_at hl 2 rfl) ?_
              refine lv_iconst (v := 3) hx hb d_M_readRuns_46 (by decide) ?_
              refine va_put (D := D) (ci := 9) (v := .int (3 : Int32)) (ty := .int) (C := "PageFormModel") (T := F_M) (N := 41) hx hb hts in_M t_M t_M_ok n_M hown hK hP hD hS 0 rfl rfl 32 (by decide) (hts _ fl_M_91) (fun _ h9 => h9) rfl (by decide +kernel) rfl rfl (Nat.le_of_ble_eq_true rfl) d_M_readRuns_47 (fun H locs hP hD hS => ?_)
              have hP : va_P D CL [(a_t, .inr (9, [.int t_code, .int t_type, .int t_mostR, .int t_mostD, .int t_entries, .int t_values, .int t_coding, .int t_bodySize, .ref a_t_repetitions, .ref a_t_definitions, .ref a_t_newRepetitions, .ref a_t_newDefinitions, .ref a_t_wholes, .ref a_t_newWholes, .ref a_t_words8, .ref a_t_from, .ref a_t_newFrom, .ref a_t_wordFrom, .ref a_t_bytes, .ref a_t_newBytes, .ref a_t_wordBytes, .int t_newCount, .int t_words, .ref a_t_tape, .ref a_t_input, .ref a_t_out, .ref a_t_body, .int t_taped, .int t_inputSize, .int t_outSize, .int o7.2.1, .int t_stop, .int (3 : Int32), .ref a_t_longs, .int t_longCount, .ref a_t_numbers, .ref a_t_common, .ref a_t_more, .ref a_t_told2, .ref a_t_toldSize, .ref a_t_toldBytes])), (a_t_input, .inl (k.2.1, t_input_n, .inl t_input)), (a_p1, .inl (k.2.1, p1_n, .inl p1))] H := hP
              have hD : va_D A [(a_t, .inr (9, [.int t_code, .int t_type, .int t_mostR, .int t_mostD, .int t_entries, .int t_values, .int t_coding, .int t_bodySize, .ref a_t_repetitions, .ref a_t_definitions, .ref a_t_newRepetitions, .ref a_t_newDefinitions, .ref a_t_wholes, .ref a_t_newWholes, .ref a_t_words8, .ref a_t_from, .ref a_t_newFrom, .ref a_t_wordFrom, .ref a_t_bytes, .ref a_t_newBytes, .ref a_t_wordBytes, .int t_newCount, .int t_words, .ref a_t_tape, .ref a_t_input, .ref a_t_out, .ref a_t_body, .int t_taped, .int t_inputSize, .int t_outSize, .int o7.2.1, .int t_stop, .int (3 : Int32), .ref a_t_longs, .int t_longCount, .ref a_t_numbers, .ref a_t_common, .ref a_t_more, .ref a_t_told2, .ref a_t_toldSize, .ref a_t_toldBytes])), (a_t_input, .inl (k.2.1, t_input_n, .inl t_input)), (a_p1, .inl (k.2.1, p1_n, .inl p1))] := hD
              refine lv_goto (tgt := 95) hx hb d_M_readRuns_50 (by decide) ?_
              refine lv_goto (tgt := 3) hx hb d_M_readRuns_95 (by decide) ?_
              have h := lp_go h hc3
              exact ih3 o7.2.1 (3 : Int32) p1 v5 o _ _ ls hP hD hS (lv_sub hl [2, 3, 4, 5, 6, 7] rfl) h hx3
          · have h := iff_at h c
            obtain rfl := lp_out h hc3
            exact ret2 _ _ _ (Option.some.inj hx3) d_M_readRuns_31 hP hD hS
  unfold f_M_readRuns at h
  refine lv_iconst (v := 0) hx hb d_M_readRuns_0 (by decide) ?_
  refine lv_istore (lv' := [(5, .int (0 : Int32)), (0, .ref a_t), (1, .ref a_p1), (2, .int v2), (3, .int v3), (4, .int v4)]) hx hb d_M_readRuns_1 hl (by decide) rfl (fun ls hl => ?_)
  obtain ⟨o32, ho32, h⟩ := obd_at h
  exact L3 n t_at t_fault p1 (0 : Int32) o32 _ _ ls hP hD hS (lv_sub hl [1, 2, 3, 4, 5, 0] rfl) ho32 h

def rm_M_zigzag : Room := { frames := 0, cells := 0, slots := 0, locals := 0 }
def f_M_zigzag (v0 : Int64) : Option (Int64) :=
  (if (0 : Int64) ≤ v0 then some ((2 : Int64) * v0) else some (((-2 : Int64) * v0) - (1 : Int64)))
set_option maxHeartbeats 4000000 in
set_option maxRecDepth 100000 in
theorem c_M_zigzag (l : Launch) (D : va_G) (k : ClassId × ClassId × ClassId) (v0 : Int64) (n : Nat) (out : Int64) (h : f_M_zigzag v0 = some out) : Ct l D k y_M_zigzag b_M_zigzag 2 (some .long) rm_M_zigzag [.long v0] [] [] (some (.long out)) := by
  refine Ct.ofL (by decide) (Nat.le_of_ble_eq_true rfl) ?_
  intro p e s m args below meth c A Q ls hx hb hml hown hts hA hK hP hD hS hE hl ret
  have hown : s.vm.findClass "PageFormModel" = some m.cls := hown
  have hl : lv_has ls 2 [(0, .long v0)] := hl
  have ret2 : ∀ (y0 : Int64) (_ : y0 = out) {pc : Nat} {ls : Array Slot} {H : Heap} {locs : List Loc}, decode b_M_zigzag pc = .ok (.lreturn, 1) → va_P D CL [] H → va_D A [] → va_S A s.heap H locs → W p l e rm_M_zigzag s m args below meth c H locs 0 0 Q (F0 m pc ls [.long y0]) := by
    intro y0 e0; subst e0; exact ret
  clear ret
  unfold f_M_zigzag at h
  refine lv_lload_n hx hb d_M_zigzag_0 rfl (lv_at hl 0 rfl) ?_
  refine lv_lconst (v := 0) hx hb d_M_zigzag_1 (by decide) ?_
  refine W.lcmp hx hb d_M_zigzag_2 ?_
  refine lv_if_ge (tgt := 16) hx hb d_M_zigzag_3 (by decide) (fun c => ?_) (fun c => ?_)
  · have c := zc_ge.mp c
    have h := ift_at h c
    refine lv_ldc2 (v := 2) hx hb hown (hts _ kc_M_107) d_M_zigzag_16 ?_
    refine lv_lload_n hx hb d_M_zigzag_19 rfl (lv_at hl 0 rfl) ?_
    refine lv_lmul hx hb d_M_zigzag_20 ?_
    exact ret2 _ (Option.some.inj h) d_M_zigzag_21 hP hD hS
  · have c := mt zc_ge.mpr c
    have h := iff_at h c
    refine lv_ldc2 (v := (-2)) hx hb hown (hts _ kc_M_130) d_M_zigzag_6 ?_
    refine lv_lload_n hx hb d_M_zigzag_9 rfl (lv_at hl 0 rfl) ?_
    refine lv_lmul hx hb d_M_zigzag_10 ?_
    refine lv_lconst (v := 1) hx hb d_M_zigzag_11 (by decide) ?_
    refine lv_lsub hx hb d_M_zigzag_12 ?_
    refine lv_goto (tgt := 21) hx hb d_M_zigzag_13 (by decide) ?_
    exact ret2 _ (Option.some.inj h) d_M_zigzag_21 hP hD hS

def rm_M_unzigzag : Room := { frames := 0, cells := 0, slots := 0, locals := 0 }
def f_M_unzigzag (v0 : Int64) : Option (Int64) :=
  (if (v0 &&& (1 : Int64)) = (0 : Int64) then some ((v0.toUInt64 >>> ((1 : Int32).toInt64.toUInt64 &&& Int64.toUInt64 63)).toInt64) else some ((-((v0.toUInt64 >>> ((1 : Int32).toInt64.toUInt64 &&& Int64.toUInt64 63)).toInt64)) - (1 : Int64)))
set_option maxHeartbeats 4000000 in
set_option maxRecDepth 100000 in
theorem c_M_unzigzag (l : Launch) (D : va_G) (k : ClassId × ClassId × ClassId) (v0 : Int64) (n : Nat) (out : Int64) (h : f_M_unzigzag v0 = some out) : Ct l D k y_M_unzigzag b_M_unzigzag 2 (some .long) rm_M_unzigzag [.long v0] [] [] (some (.long out)) := by
  refine Ct.ofL (by decide) (Nat.le_of_ble_eq_true rfl) ?_
  intro p e s m args below meth c A Q ls hx hb hml hown hts hA hK hP hD hS hE hl ret
  have hown : s.vm.findClass "PageFormModel" = some m.cls := hown
  have hl : lv_has ls 2 [(0, .long v0)] := hl
  have ret2 : ∀ (y0 : Int64) (_ : y0 = out) {pc : Nat} {ls : Array Slot} {H : Heap} {locs : List Loc}, decode b_M_unzigzag pc = .ok (.lreturn, 1) → va_P D CL [] H → va_D A [] → va_S A s.heap H locs → W p l e rm_M_unzigzag s m args below meth c H locs 0 0 Q (F0 m pc ls [.long y0]) := by
    intro y0 e0; subst e0; exact ret
  clear ret
  unfold f_M_unzigzag at h
  refine lv_lload_n hx hb d_M_unzigzag_0 rfl (lv_at hl 0 rfl) ?_
  refine lv_lconst (v := 1) hx hb d_M_unzigzag_1 (by decide) ?_
  refine lv_land hx hb d_M_unzigzag_2 ?_
  refine lv_lconst (v := 0) hx hb d_M_unzigzag_3 (by decide) ?_
  refine W.lcmp hx hb d_M_unzigzag_4 ?_
  refine lv_if_ne (tgt := 14) hx hb d_M_unzigzag_5 (by decide) (fun c => ?_) (fun c => ?_)
  · have c := mt zc_eq.mpr c
    have h := iff_at h c
    refine lv_lload_n hx hb d_M_unzigzag_14 rfl (lv_at hl 0 rfl) ?_
    refine lv_iconst (v := 1) hx hb d_M_unzigzag_15 (by decide) ?_
    refine lv_lushr hx hb d_M_unzigzag_16 rfl ?_
    refine lv_lneg hx hb d_M_unzigzag_17 ?_
    refine lv_lconst (v := 1) hx hb d_M_unzigzag_18 (by decide) ?_
    refine lv_lsub hx hb d_M_unzigzag_19 ?_
    exact ret2 _ (Option.some.inj h) d_M_unzigzag_20 hP hD hS
  · have c := zc_eq.mp c
    have h := ift_at h c
    refine lv_lload_n hx hb d_M_unzigzag_8 rfl (lv_at hl 0 rfl) ?_
    refine lv_iconst (v := 1) hx hb d_M_unzigzag_9 (by decide) ?_
    refine lv_lushr hx hb d_M_unzigzag_10 rfl ?_
    refine lv_goto (tgt := 20) hx hb d_M_unzigzag_11 (by decide) ?_
    exact ret2 _ (Option.some.inj h) d_M_unzigzag_20 hP hD hS

def rm_M_difference : Room := { frames := 0, cells := 0, slots := 0, locals := 0 }
def f_M_difference (t_longs_n : Nat) (t_longs : Nat → Int64) (v1 : Int32) : Option (Int64) :=
  gd (inB (v1 + (1 : Int32)) t_longs_n) (gd (inB v1 t_longs_n) (some ((t_longs (v1 + (1 : Int32)).toNatClampNeg) - (t_longs v1.toNatClampNeg))))
set_option maxHeartbeats 4000000 in
set_option maxRecDepth 100000 in
theorem c_M_difference (l : Launch) (D : va_G) (k : ClassId × ClassId × ClassId) (a_t a_t_repetitions a_t_definitions a_t_newRepetitions a_t_newDefinitions a_t_wholes a_t_newWholes a_t_words8 a_t_from a_t_newFrom a_t_wordFrom a_t_bytes a_t_newBytes a_t_wordBytes a_t_tape a_t_input a_t_out a_t_body a_t_longs a_t_numbers a_t_common a_t_more a_t_told2 a_t_toldSize a_t_toldBytes : Nat) (t_longs_n : Nat) (t_code : Int32) (t_type : Int32) (t_mostR : Int32) (t_mostD : Int32) (t_entries : Int32) (t_values : Int32) (t_coding : Int32) (t_bodySize : Int32) (t_newCount : Int32) (t_words : Int32) (t_taped : Int32) (t_inputSize : Int32) (t_outSize : Int32) (t_at : Int32) (t_stop : Int32) (t_fault : Int32) (t_longCount : Int32) (t_longs : Nat → Int64) (v1 : Int32) (n : Nat) (out : Int64) (h : f_M_difference t_longs_n t_longs v1 = some out) : Ct l D k y_M_difference b_M_difference 2 (some .long) rm_M_difference [.ref a_t, .int v1] [(a_t, .inr (9, [.int t_code, .int t_type, .int t_mostR, .int t_mostD, .int t_entries, .int t_values, .int t_coding, .int t_bodySize, .ref a_t_repetitions, .ref a_t_definitions, .ref a_t_newRepetitions, .ref a_t_newDefinitions, .ref a_t_wholes, .ref a_t_newWholes, .ref a_t_words8, .ref a_t_from, .ref a_t_newFrom, .ref a_t_wordFrom, .ref a_t_bytes, .ref a_t_newBytes, .ref a_t_wordBytes, .int t_newCount, .int t_words, .ref a_t_tape, .ref a_t_input, .ref a_t_out, .ref a_t_body, .int t_taped, .int t_inputSize, .int t_outSize, .int t_at, .int t_stop, .int t_fault, .ref a_t_longs, .int t_longCount, .ref a_t_numbers, .ref a_t_common, .ref a_t_more, .ref a_t_told2, .ref a_t_toldSize, .ref a_t_toldBytes])), (a_t_longs, .inl (k.2.2, t_longs_n, .inr (.inl t_longs)))] [(a_t, .inr (9, [.int t_code, .int t_type, .int t_mostR, .int t_mostD, .int t_entries, .int t_values, .int t_coding, .int t_bodySize, .ref a_t_repetitions, .ref a_t_definitions, .ref a_t_newRepetitions, .ref a_t_newDefinitions, .ref a_t_wholes, .ref a_t_newWholes, .ref a_t_words8, .ref a_t_from, .ref a_t_newFrom, .ref a_t_wordFrom, .ref a_t_bytes, .ref a_t_newBytes, .ref a_t_wordBytes, .int t_newCount, .int t_words, .ref a_t_tape, .ref a_t_input, .ref a_t_out, .ref a_t_body, .int t_taped, .int t_inputSize, .int t_outSize, .int t_at, .int t_stop, .int t_fault, .ref a_t_longs, .int t_longCount, .ref a_t_numbers, .ref a_t_common, .ref a_t_more, .ref a_t_told2, .ref a_t_toldSize, .ref a_t_toldBytes])), (a_t_longs, .inl (k.2.2, t_longs_n, .inr (.inl t_longs)))] (some (.long out)) := by
  refine Ct.ofL (by decide) (Nat.le_of_ble_eq_true rfl) ?_
  intro p e s m args below meth c A Q ls hx hb hml hown hts hA hK hP hD hS hE hl ret
  have hown : s.vm.findClass "PageFormModel" = some m.cls := hown
  have hl : lv_has ls 2 [(0, .ref a_t), (1, .int v1)] := hl
  have ret2 : ∀ (y0 : Int64) (_ : y0 = out) {pc : Nat} {ls : Array Slot} {H : Heap} {locs : List Loc}, decode b_M_difference pc = .ok (.lreturn, 1) → va_P D CL [(a_t, .inr (9, [.int t_code, .int t_type, .int t_mostR, .int t_mostD, .int t_entries, .int t_values, .int t_coding, .int t_bodySize, .ref a_t_repetitions, .ref a_t_definitions, .ref a_t_newRepetitions, .ref a_t_newDefinitions, .ref a_t_wholes, .ref a_t_newWholes, .ref a_t_words8, .ref a_t_from, .ref a_t_newFrom, .ref a_t_wordFrom, .ref a_t_bytes, .ref a_t_newBytes, .ref a_t_wordBytes, .int t_newCount, .int t_words, .ref a_t_tape, .ref a_t_input, .ref a_t_out, .ref a_t_body, .int t_taped, .int t_inputSize, .int t_outSize, .int t_at, .int t_stop, .int t_fault, .ref a_t_longs, .int t_longCount, .ref a_t_numbers, .ref a_t_common, .ref a_t_more, .ref a_t_told2, .ref a_t_toldSize, .ref a_t_toldBytes])), (a_t_longs, .inl (k.2.2, t_longs_n, .inr (.inl t_longs)))] H → va_D A [(a_t, .inr (9, [.int t_code, .int t_type, .int t_mostR, .int t_mostD, .int t_entries, .int t_values, .int t_coding, .int t_bodySize, .ref a_t_repetitions, .ref a_t_definitions, .ref a_t_newRepetitions, .ref a_t_newDefinitions, .ref a_t_wholes, .ref a_t_newWholes, .ref a_t_words8, .ref a_t_from, .ref a_t_newFrom, .ref a_t_wordFrom, .ref a_t_bytes, .ref a_t_newBytes, .ref a_t_wordBytes, .int t_newCount, .int t_words, .ref a_t_tape, .ref a_t_input, .ref a_t_out, .ref a_t_body, .int t_taped, .int t_inputSize, .int t_outSize, .int t_at, .int t_stop, .int t_fault, .ref a_t_longs, .int t_longCount, .ref a_t_numbers, .ref a_t_common, .ref a_t_more, .ref a_t_told2, .ref a_t_toldSize, .ref a_t_toldBytes])), (a_t_longs, .inl (k.2.2, t_longs_n, .inr (.inl t_longs)))] → va_S A s.heap H locs → W p l e rm_M_difference s m args below meth c H locs 0 0 Q (F0 m pc ls [.long y0]) := by
    intro y0 e0; subst e0; exact ret
  clear ret
  unfold f_M_difference at h
  refine lv_aload_n hx hb d_M_difference_0 rfl (lv_at hl 0 rfl) ?_
  refine va_get (D := D) (ci := 9) (v := .ref a_t_longs) (C := "PageFormModel") (T := F_M) (N := 41) hx hb hts in_M hown hK hP 0 rfl rfl 33 (by decide) (hts _ fl_M_63) (fun _ h9 => h9) rfl d_M_difference_1 ?_
  refine lv_iload_n hx hb d_M_difference_4 rfl (lv_at hl 1 rfl) ?_
  refine lv_iconst (v := 1) hx hb d_M_difference_5 (by decide) ?_
  refine lv_iadd hx hb d_M_difference_6 ?_
  obtain ⟨g3, h⟩ := gd_at h
  refine va_lald hx hb hK hP 1 2 rfl rfl (inB_in g3) d_M_difference_7 ?_
  refine lv_aload_n hx hb d_M_difference_8 rfl (lv_at hl 0 rfl) ?_
  refine va_get (D := D) (ci := 9) (v := .ref a_t_longs) (C := "PageFormModel") (T := F_M) (N := 41) hx hb hts in_M hown hK hP 0 rfl rfl 33 (by decide) (hts _ fl_M_63) (fun _ h9 => h9) rfl d_M_difference_9 ?_
  refine lv_iload_n hx hb d_M_difference_12 rfl (lv_at hl 1 rfl) ?_
  obtain ⟨g4, h⟩ := gd_at h
  refine va_lald hx hb hK hP 1 2 rfl rfl (inB_in g4) d_M_difference_13 ?_
  refine lv_lsub hx hb d_M_difference_14 ?_
  exact ret2 _ (Option.some.inj h) d_M_difference_15 hP hD hS

def rm_M_widthOf : Room := { frames := 1, cells := 0, slots := 0, locals := 21 }
def f_M_widthOf_j50 (v5 : Int32) (v6 : Int32) : Option ((Int32 × Int32) ⊕ ((Int32))) :=
  bnd (v6 + (1 : Int32)) (fun x3 => some (Sum.inl (v5, x3)))
def f_M_widthOf_l21 (t_longs_n : Nat) (t_longs : Nat → Int64) (v3 : Int64) (v6 : Int32) (v5 : Int32) : Option ((Int32) ⊕ ((Int32))) :=
  (if (64 : Int32) ≤ v5 then some (Sum.inr (v5)) else Option.bind (f_M_difference t_longs_n t_longs v6) (fun o11 => (if (((o11 - v3).toUInt64 >>> (v5.toInt64.toUInt64 &&& Int64.toUInt64 63)).toInt64) = (0 : Int64) then some (Sum.inr (v5)) else bnd (v5 + (1 : Int32)) (fun x13 => some (Sum.inl x13)))))
def f_M_widthOf_l6 (n : Nat) (t_longs_n : Nat) (t_longs : Nat → Int64) (v1 : Int32) (v2 : Int32) (v3 : Int64) (v5 : Int32) (v6 : Int32) : Option ((Int32 × Int32) ⊕ ((Int32))) :=
  (if (v1 + (16 : Int32)) ≤ v6 then some (Sum.inr (v5)) else (if v2 ≤ v6 then some (Sum.inr (v5)) else Option.bind (lp (fun v => f_M_widthOf_l21 t_longs_n t_longs v3 v6 v) n v5) (fun o => f_M_widthOf_j50 o v6)))
def f_M_widthOf (n : Nat) (t_longs_n : Nat) (t_longs : Nat → Int64) (v1 : Int32) (v2 : Int32) (v3 : Int64) : Option (Int32) :=
  Option.bind (lp (fun v => f_M_widthOf_l6 n t_longs_n t_longs v1 v2 v3 v.1 v.2) n ((0 : Int32), v1)) (fun o => some o)
set_option maxHeartbeats 4000000 in
set_option maxRecDepth 100000 in
theorem c_M_widthOf (l : Launch) (D : va_G) (k : ClassId × ClassId × ClassId) (a_t a_t_repetitions a_t_definitions a_t_newRepetitions a_t_newDefinitions a_t_wholes a_t_newWholes a_t_words8 a_t_from a_t_newFrom a_t_wordFrom a_t_bytes a_t_newBytes a_t_wordBytes a_t_tape a_t_input a_t_out a_t_body a_t_longs a_t_numbers a_t_common a_t_more a_t_told2 a_t_toldSize a_t_toldBytes : Nat) (t_longs_n : Nat) (t_code : Int32) (t_type : Int32) (t_mostR : Int32) (t_mostD : Int32) (t_entries : Int32) (t_values : Int32) (t_coding : Int32) (t_bodySize : Int32) (t_newCount : Int32) (t_words : Int32) (t_taped : Int32) (t_inputSize : Int32) (t_outSize : Int32) (t_at : Int32) (t_stop : Int32) (t_fault : Int32) (t_longCount : Int32) (t_longs : Nat → Int64) (v1 : Int32) (v2 : Int32) (v3 : Int64) (n : Nat) (out : Int32) (h : f_M_widthOf n t_longs_n t_longs v1 v2 v3 = some out) : Ct l D k y_M_widthOf b_M_widthOf 7 (some .int) rm_M_widthOf [.ref a_t, .int v1, .int v2, .long v3] [(a_t, .inr (9, [.int t_code, .int t_type, .int t_mostR, .int t_mostD, .int t_entries, .int t_values, .int t_coding, .int t_bodySize, .ref a_t_repetitions, .ref a_t_definitions, .ref a_t_newRepetitions, .ref a_t_newDefinitions, .ref a_t_wholes, .ref a_t_newWholes, .ref a_t_words8, .ref a_t_from, .ref a_t_newFrom, .ref a_t_wordFrom, .ref a_t_bytes, .ref a_t_newBytes, .ref a_t_wordBytes, .int t_newCount, .int t_words, .ref a_t_tape, .ref a_t_input, .ref a_t_out, .ref a_t_body, .int t_taped, .int t_inputSize, .int t_outSize, .int t_at, .int t_stop, .int t_fault, .ref a_t_longs, .int t_longCount, .ref a_t_numbers, .ref a_t_common, .ref a_t_more, .ref a_t_told2, .ref a_t_toldSize, .ref a_t_toldBytes])), (a_t_longs, .inl (k.2.2, t_longs_n, .inr (.inl t_longs)))] [(a_t, .inr (9, [.int t_code, .int t_type, .int t_mostR, .int t_mostD, .int t_entries, .int t_values, .int t_coding, .int t_bodySize, .ref a_t_repetitions, .ref a_t_definitions, .ref a_t_newRepetitions, .ref a_t_newDefinitions, .ref a_t_wholes, .ref a_t_newWholes, .ref a_t_words8, .ref a_t_from, .ref a_t_newFrom, .ref a_t_wordFrom, .ref a_t_bytes, .ref a_t_newBytes, .ref a_t_wordBytes, .int t_newCount, .int t_words, .ref a_t_tape, .ref a_t_input, .ref a_t_out, .ref a_t_body, .int t_taped, .int t_inputSize, .int t_outSize, .int t_at, .int t_stop, .int t_fault, .ref a_t_longs, .int t_longCount, .ref a_t_numbers, .ref a_t_common, .ref a_t_more, .ref a_t_told2, .ref a_t_toldSize, .ref a_t_toldBytes])), (a_t_longs, .inl (k.2.2, t_longs_n, .inr (.inl t_longs)))] (some (.int out)) := by
  refine Ct.ofI (by decide) (Nat.le_of_ble_eq_true rfl) ?_
  intro p e s m args below meth c A Q ls hx hb hml hown hts hA hK hP hD hS hE hl ret
  have hown : s.vm.findClass "PageFormModel" = some m.cls := hown
  have hl : lv_has ls 7 [(0, .ref a_t), (1, .int v1), (2, .int v2), (3, .long v3)] := hl
  have ret2 : ∀ (y0 : Int32) (_ : y0 = out) {pc : Nat} {ls : Array Slot} {H : Heap} {locs : List Loc}, decode b_M_widthOf pc = .ok (.ireturn, 1) → va_P D CL [(a_t, .inr (9, [.int t_code, .int t_type, .int t_mostR, .int t_mostD, .int t_entries, .int t_values, .int t_coding, .int t_bodySize, .ref a_t_repetitions, .ref a_t_definitions, .ref a_t_newRepetitions, .ref a_t_newDefinitions, .ref a_t_wholes, .ref a_t_newWholes, .ref a_t_words8, .ref a_t_from, .ref a_t_newFrom, .ref a_t_wordFrom, .ref a_t_bytes, .ref a_t_newBytes, .ref a_t_wordBytes, .int t_newCount, .int t_words, .ref a_t_tape, .ref a_t_input, .ref a_t_out, .ref a_t_body, .int t_taped, .int t_inputSize, .int t_outSize, .int t_at, .int t_stop, .int t_fault, .ref a_t_longs, .int t_longCount, .ref a_t_numbers, .ref a_t_common, .ref a_t_more, .ref a_t_told2, .ref a_t_toldSize, .ref a_t_toldBytes])), (a_t_longs, .inl (k.2.2, t_longs_n, .inr (.inl t_longs)))] H → va_D A [(a_t, .inr (9, [.int t_code, .int t_type, .int t_mostR, .int t_mostD, .int t_entries, .int t_values, .int t_coding, .int t_bodySize, .ref a_t_repetitions, .ref a_t_definitions, .ref a_t_newRepetitions, .ref a_t_newDefinitions, .ref a_t_wholes, .ref a_t_newWholes, .ref a_t_words8, .ref a_t_from, .ref a_t_newFrom, .ref a_t_wordFrom, .ref a_t_bytes, .ref a_t_newBytes, .ref a_t_wordBytes, .int t_newCount, .int t_words, .ref a_t_tape, .ref a_t_input, .ref a_t_out, .ref a_t_body, .int t_taped, .int t_inputSize, .int t_outSize, .int t_at, .int t_stop, .int t_fault, .ref a_t_longs, .int t_longCount, .ref a_t_numbers, .ref a_t_common, .ref a_t_more, .ref a_t_told2, .ref a_t_toldSize, .ref a_t_toldBytes])), (a_t_longs, .inl (k.2.2, t_longs_n, .inr (.inl t_longs)))] → va_S A s.heap H locs → W p l e rm_M_widthOf s m args below meth c H locs 0 0 Q (F0 m pc ls [.int y0]) := by
    intro y0 e0; subst e0; exact ret
  clear ret
  have L6 : ∀ (K : Nat) (v5 : Int32) (v6 : Int32) (o : (Int32)) (H : Heap) (locs : List Loc) (ls : Array Slot), va_P D CL [(a_t, .inr (9, [.int t_code, .int t_type, .int t_mostR, .int t_mostD, .int t_entries, .int t_values, .int t_coding, .int t_bodySize, .ref a_t_repetitions, .ref a_t_definitions, .ref a_t_newRepetitions, .ref a_t_newDefinitions, .ref a_t_wholes, .ref a_t_newWholes, .ref a_t_words8, .ref a_t_from, .ref a_t_newFrom, .ref a_t_wordFrom, .ref a_t_bytes, .ref a_t_newBytes, .ref a_t_wordBytes, .int t_newCount, .int t_words, .ref a_t_tape, .ref a_t_input, .ref a_t_out, .ref a_t_body, .int t_taped, .int t_inputSize, .int t_outSize, .int t_at, .int t_stop, .int t_fault, .ref a_t_longs, .int t_longCount, .ref a_t_numbers, .ref a_t_common, .ref a_t_more, .ref a_t_told2, .ref a_t_toldSize, .ref a_t_toldBytes])), (a_t_longs, .inl (k.2.2, t_longs_n, .inr (.inl t_longs)))] H → va_D A [(a_t, .inr (9, [.int t_code, .int t_type, .int t_mostR, .int t_mostD, .int t_entries, .int t_values, .int t_coding, .int t_bodySize, .ref a_t_repetitions, .ref a_t_definitions, .ref a_t_newRepetitions, .ref a_t_newDefinitions, .ref a_t_wholes, .ref a_t_newWholes, .ref a_t_words8, .ref a_t_from, .ref a_t_newFrom, .ref a_t_wordFrom, .ref a_t_bytes, .ref a_t_newBytes, .ref a_t_wordBytes, .int t_newCount, .int t_words, .ref a_t_tape, .ref a_t_input, .ref a_t_out, .ref a_t_body, .int t_taped, .int t_inputSize, .int t_outSize, .int t_at, .int t_stop, .int t_fault, .ref a_t_longs, .int t_longCount, .ref a_t_numbers, .ref a_t_common, .ref a_t_more, .ref a_t_told2, .ref a_t_toldSize, .ref a_t_toldBytes])), (a_t_longs, .inl (k.2.2, t_longs_n, .inr (.inl t_longs)))] → va_S A s.heap H locs → lv_has ls 7 [(0, .ref a_t), (1, .int v1), (2, .int v2), (3, .long v3), (5, .int v5), (6, .int v6)] → lp (fun v => f_M_widthOf_l6 n t_longs_n t_longs v1 v2 v3 v.1 v.2) K (v5, v6) = some o → (fun o => some o) o = some out → W p l e rm_M_widthOf s m args below meth c H locs 0 0 Q (F0 m 6 ls []) := by
    intro K
    induction K with
    | zero => intros; exact absurd (by assumption) lp_no
    | succ K ih6 =>
      intro v5 v6 o H locs ls hP hD hS hl h0 hx6
      obtain ⟨b6, h, hc6⟩ := lp_at h0
      have h : f_M_widthOf_l6 n t_longs_n t_longs v1 v2 v3 v5 v6 = some b6 := h
      have J50 : ∀ (v5 : Int32) (v6 : Int32) (H : Heap) (locs : List Loc) (ls : Array Slot), va_P D CL [(a_t, .inr (9, [.int t_code, .int t_type, .int t_mostR, .int t_mostD, .int t_entries, .int t_values, .int t_coding, .int t_bodySize, .ref a_t_repetitions, .ref a_t_definitions, .ref a_t_newRepetitions, .ref a_t_newDefinitions, .ref a_t_wholes, .ref a_t_newWholes, .ref a_t_words8, .ref a_t_from, .ref a_t_newFrom, .ref a_t_wordFrom, .ref a_t_bytes, .ref a_t_newBytes, .ref a_t_wordBytes, .int t_newCount, .int t_words, .ref a_t_tape, .ref a_t_input, .ref a_t_out, .ref a_t_body, .int t_taped, .int t_inputSize, .int t_outSize, .int t_at, .int t_stop, .int t_fault, .ref a_t_longs, .int t_longCount, .ref a_t_numbers, .ref a_t_common, .ref a_t_more, .ref a_t_told2, .ref a_t_toldSize, .ref a_t_toldBytes])), (a_t_longs, .inl (k.2.2, t_longs_n, .inr (.inl t_longs)))] H → va_D A [(a_t, .inr (9, [.int t_code, .int t_type, .int t_mostR, .int t_mostD, .int t_entries, .int t_values, .int t_coding, .int t_bodySize, .ref a_t_repetitions, .ref a_t_definitions, .ref a_t_newRepetitions, .ref a_t_newDefinitions, .ref a_t_wholes, .ref a_t_newWholes, .ref a_t_words8, .ref a_t_from, .ref a_t_newFrom, .ref a_t_wordFrom, .ref a_t_bytes, .ref a_t_newBytes, .ref a_t_wordBytes, .int t_newCount, .int t_words, .ref a_t_tape, .ref a_t_input, .ref a_t_out, .ref a_t_body, .int t_taped, .int t_inputSize, .int t_outSize, .int t_at, .int t_stop, .int t_fault, .ref a_t_longs, .int t_longCount, .ref a_t_numbers, .ref a_t_common, .ref a_t_more, .ref a_t_told2, .ref a_t_toldSize, .ref a_t_toldBytes])), (a_t_longs, .inl (k.2.2, t_longs_n, .inr (.inl t_longs)))] → va_S A s.heap H locs → lv_has ls 7 [(0, .ref a_t), (1, .int v1), (2, .int v2), (3, .long v3), (5, .int v5), (6, .int v6)] → f_M_widthOf_j50 v5 v6 = some b6 → W p l e rm_M_widthOf s m args below meth c H locs 0 0 Q (F0 m 50 ls []) := by
        intro v5 v6 H locs ls hP hD hS hl h
        unfold f_M_widthOf_j50 at h
        obtain ⟨x3, ex3⟩ : ∃ z : Int32, z = v6 + (1 : Int32) := ⟨_, rfl⟩
        have h := bnd_at h ex3
        refine lv_iinc (v := x3) (lv' := [(6, .int x3), (0, .ref a_t), (1, .int v1), (2, .int v2), (3, .long v3), (5, .int v5)]) hx hb d_M_widthOf_50 hl (k := 5) rfl (by rw [ex3]; rfl) (by decide) rfl (fun ls hl => ?_)
        refine lv_goto (tgt := 6) hx hb d_M_widthOf_53 (by decide) ?_
        have h := lp_go h hc6
        exact ih6 v5 x3 o _ _ ls hP hD hS (lv_sub hl [1, 2, 3, 4, 5, 0] rfl) h hx6
      have L21 : ∀ (K : Nat) (v5 : Int32) (v6 : Int32) (o : (Int32)) (H : Heap) (locs : List Loc) (ls : Array Slot), va_P D CL [(a_t, .inr (9, [.int t_code, .int t_type, .int t_mostR, .int t_mostD, .int t_entries, .int t_values, .int t_coding, .int t_bodySize, .ref a_t_repetitions, .ref a_t_definitions, .ref a_t_newRepetitions, .ref a_t_newDefinitions, .ref a_t_wholes, .ref a_t_newWholes, .ref a_t_words8, .ref a_t_from, .ref a_t_newFrom, .ref a_t_wordFrom, .ref a_t_bytes, .ref a_t_newBytes, .ref a_t_wordBytes, .int t_newCount, .int t_words, .ref a_t_tape, .ref a_t_input, .ref a_t_out, .ref a_t_body, .int t_taped, .int t_inputSize, .int t_outSize, .int t_at, .int t_stop, .int t_fault, .ref a_t_longs, .int t_longCount, .ref a_t_numbers, .ref a_t_common, .ref a_t_more, .ref a_t_told2, .ref a_t_toldSize, .ref a_t_toldBytes])), (a_t_longs, .inl (k.2.2, t_longs_n, .inr (.inl t_longs)))] H → va_D A [(a_t, .inr (9, [.int t_code, .int t_type, .int t_mostR, .int t_mostD, .int t_entries, .int t_values, .int t_coding, .int t_bodySize, .ref a_t_repetitions, .ref a_t_definitions, .ref a_t_newRepetitions, .ref a_t_newDefinitions, .ref a_t_wholes, .ref a_t_newWholes, .ref a_t_words8, .ref a_t_from, .ref a_t_newFrom, .ref a_t_wordFrom, .ref a_t_bytes, .ref a_t_newBytes, .ref a_t_wordBytes, .int t_newCount, .int t_words, .ref a_t_tape, .ref a_t_input, .ref a_t_out, .ref a_t_body, .int t_taped, .int t_inputSize, .int t_outSize, .int t_at, .int t_stop, .int t_fault, .ref a_t_longs, .int t_longCount, .ref a_t_numbers, .ref a_t_common, .ref a_t_more, .ref a_t_told2, .ref a_t_toldSize, .ref a_t_toldBytes])), (a_t_longs, .inl (k.2.2, t_longs_n, .inr (.inl t_longs)))] → va_S A s.heap H locs → lv_has ls 7 [(0, .ref a_t), (1, .int v1), (2, .int v2), (3, .long v3), (5, .int v5), (6, .int v6)] → lp (fun v => f_M_widthOf_l21 t_longs_n t_longs v3 v6 v) K v5 = some o → (fun o => f_M_widthOf_j50 o v6) o = some b6 → W p l e rm_M_widthOf s m args below meth c H locs 0 0 Q (F0 m 21 ls []) := by
        intro K
        induction K with
        | zero => intros; exact absurd (by assumption) lp_no
        | succ K ih21 =>
          intro v5 v6 o H locs ls hP hD hS hl h0 hx21
          obtain ⟨b21, h, hc21⟩ := lp_at h0
          have h : f_M_widthOf_l21 t_longs_n t_longs v3 v6 v5 = some b21 := h
          unfold f_M_widthOf_l21 at h
          refine lv_iload hx hb d_M_widthOf_21 (lv_at hl 4 rfl) ?_
          refine lv_bipush (v := 64) hx hb d_M_widthOf_23 (by decide) ?_
          refine lv_icmp_ge (tgt := 50) hx hb d_M_widthOf_25 (by decide) (fun c => ?_) (fun c => ?_)
          · have h := ift_at h c
            obtain rfl := lp_out h hc21
            exact J50 v5 v6 _ _ ls hP hD hS (lv_sub hl [0, 1, 2, 3, 4, 5] rfl) hx21
          · have h := iff_at h c
            refine lv_aload_n hx hb d_M_widthOf_28 rfl (lv_at hl 0 rfl) ?_
            refine lv_iload hx hb d_M_widthOf_29 (lv_at hl 5 rfl) ?_
            obtain ⟨o11, ho11, h⟩ := obd_at h
            refine g_V (As := [.int v6]) (rest := []) hx hb hml hown hts hA hK hP hD hS hE (c_M_difference l D k a_t a_t_repetitions a_t_definitions a_t_newRepetitions a_t_newDefinitions a_t_wholes a_t_newWholes a_t_words8 a_t_from a_t_newFrom a_t_wordFrom a_t_bytes a_t_newBytes a_t_wordBytes a_t_tape a_t_input a_t_out a_t_body a_t_longs a_t_numbers a_t_common a_t_more a_t_told2 a_t_toldSize a_t_toldBytes t_longs_n t_code t_type t_mostR t_mostD t_entries t_values t_coding t_bodySize t_newCount t_words t_taped t_inputSize t_outSize t_at t_stop t_fault t_longCount t_longs v6 n o11 ho11) mw_M_difference mi_M_difference ml_M_142 [0, 1] rfl (by decide) rfl rfl rfl 0 rfl rfl rfl rfl rfl hl.1 rfl (Nat.le_of_ble_eq_true rfl) ⟨Nat.zero_le _, Nat.zero_le _⟩ d_M_widthOf_31 (fun H locs hP hD hS => ?_)
            have hP : va_P D CL [(a_t, .inr (9, [.int t_code, .int t_type, .int t_mostR, .int t_mostD, .int t_entries, .int t_values, .int t_coding, .int t_bodySize, .ref a_t_repetitions, .ref a_t_definitions, .ref a_t_newRepetitions, .ref a_t_newDefinitions, .ref a_t_wholes, .ref a_t_newWholes, .ref a_t_words8, .ref a_t_from, .ref a_t_newFrom, .ref a_t_wordFrom, .ref a_t_bytes, .ref a_t_newBytes, .ref a_t_wordBytes, .int t_newCount, .int t_words, .ref a_t_tape, .ref a_t_input, .ref a_t_out, .ref a_t_body, .int t_taped, .int t_inputSize, .int t_outSize, .int t_at, .int t_stop, .int t_fault, .ref a_t_longs, .int t_longCount, .ref a_t_numbers, .ref a_t_common, .ref a_t_more, .ref a_t_told2, .ref a_t_toldSize, .ref a_t_toldBytes])), (a_t_longs, .inl (k.2.2, t_longs_n, .inr (.inl t_longs)))] H := hP
            have hD : va_D A [(a_t, .inr (9, [.int t_code, .int t_type, .int t_mostR, .int t_mostD, .int t_entries, .int t_values, .int t_coding, .int t_bodySize, .ref a_t_repetitions, .ref a_t_definitions, .ref a_t_newRepetitions, .ref a_t_newDefinitions, .ref a_t_wholes, .ref a_t_newWholes, .ref a_t_words8, .ref a_t_from, .ref a_t_newFrom, .ref a_t_wordFrom, .ref a_t_bytes, .ref a_t_newBytes, .ref a_t_wordBytes, .int t_newCount, .int t_words, .ref a_t_tape, .ref a_t_input, .ref a_t_out, .ref a_t_body, .int t_taped, .int t_inputSize, .int t_outSize, .int t_at, .int t_stop, .int t_fault, .ref a_t_longs, .int t_longCount, .ref a_t_numbers, .ref a_t_common, .ref a_t_more, .ref a_t_told2, .ref a_t_toldSize, .ref a_t_toldBytes])), (a_t_longs, .inl (k.2.2, t_longs_n, .inr (.inl t_longs)))] := hD
            refine W.eq (g2 := F0 m 34 ls [.long o11]) rfl ?_
            refine lv_lload_n hx hb d_M_widthOf_34 rfl (lv_at hl 3 rfl) ?_
            refine lv_lsub hx hb d_M_widthOf_35 ?_
            refine lv_iload hx hb d_M_widthOf_36 (lv_at hl 4 rfl) ?_
            refine lv_lushr hx hb d_M_widthOf_38 rfl ?_
            refine lv_lconst (v := 0) hx hb d_M_widthOf_39 (by decide) ?_
            refine W.lcmp hx hb d_M_widthOf_40 ?_
            refine lv_if_eq (tgt := 50) hx hb d_M_widthOf_41 (by decide) (fun c => ?_) (fun c => ?_)
            · have c := zc_eq.mp c
              have h := ift_at h c
              obtain rfl := lp_out h hc21
              exact J50 v5 v6 _ _ ls hP hD hS (lv_sub hl [0, 1, 2, 3, 4, 5] rfl) hx21
            · have c := mt zc_eq.mpr c
              have h := iff_at h c
              obtain ⟨x13, ex13⟩ : ∃ z : Int32, z = v5 + (1 : Int32) := ⟨_, rfl⟩
              have h := bnd_at h ex13
              refine lv_iinc (v := x13) (lv' := [(5, .int x13), (0, .ref a_t), (1, .int v1), (2, .int v2), (3, .long v3), (6, .int v6)]) hx hb d_M_widthOf_44 hl (k := 4) rfl (by rw [ex13]; rfl) (by decide) rfl (fun ls hl => ?_)
              refine lv_goto (tgt := 21) hx hb d_M_widthOf_47 (by decide) ?_
              have h := lp_go h hc21
              exact ih21 x13 v6 o _ _ ls hP hD hS (lv_sub hl [1, 2, 3, 4, 0, 5] rfl) h hx21
      unfold f_M_widthOf_l6 at h
      refine lv_iload hx hb d_M_widthOf_6 (lv_at hl 5 rfl) ?_
      refine lv_iload_n hx hb d_M_widthOf_8 rfl (lv_at hl 1 rfl) ?_
      refine lv_bipush (v := 16) hx hb d_M_widthOf_9 (by decide) ?_
      refine lv_iadd hx hb d_M_widthOf_11 ?_
      refine lv_icmp_ge (tgt := 56) hx hb d_M_widthOf_12 (by decide) (fun c => ?_) (fun c => ?_)
      · have h := ift_at h c
        refine lv_iload hx hb d_M_widthOf_56 (lv_at hl 4 rfl) ?_
        obtain rfl := lp_out h hc6
        exact ret2 _ (Option.some.inj hx6) d_M_widthOf_58 hP hD hS
      · have h := iff_at h c
        refine lv_iload hx hb d_M_widthOf_15 (lv_at hl 5 rfl) ?_
        refine lv_iload_n hx hb d_M_widthOf_17 rfl (lv_at hl 2 rfl) ?_
        refine lv_icmp_ge (tgt := 56) hx hb d_M_widthOf_18 (by decide) (fun c => ?_) (fun c => ?_)
        · have h := ift_at h c
          refine lv_iload hx hb d_M_widthOf_56 (lv_at hl 4 rfl) ?_
          obtain rfl := lp_out h hc6
          exact ret2 _ (Option.some.inj hx6) d_M_widthOf_58 hP hD hS
        · have h := iff_at h c
          obtain ⟨o20, ho20, h⟩ := obd_at h
          exact L21 n v5 v6 o20 _ _ ls hP hD hS (lv_sub hl [0, 1, 2, 3, 4, 5] rfl) ho20 h
  unfold f_M_widthOf at h
  refine lv_iconst (v := 0) hx hb d_M_widthOf_0 (by decide) ?_
  refine lv_istore (lv' := [(5, .int (0 : Int32)), (0, .ref a_t), (1, .int v1), (2, .int v2), (3, .long v3)]) hx hb d_M_widthOf_1 hl (by decide) rfl (fun ls hl => ?_)
  refine lv_iload_n hx hb d_M_widthOf_3 rfl (lv_at hl 2 rfl) ?_
  refine lv_istore (lv' := [(6, .int v1), (5, .int (0 : Int32)), (0, .ref a_t), (1, .int v1), (2, .int v2), (3, .long v3)]) hx hb d_M_widthOf_4 hl (by decide) rfl (fun ls hl => ?_)
  obtain ⟨o25, ho25, h⟩ := obd_at h
  exact L6 n (0 : Int32) v1 o25 _ _ ls hP hD hS (lv_sub hl [2, 3, 4, 5, 1, 0] rfl) ho25 h

def rm_M_writePart : Room := { frames := 1, cells := 0, slots := 0, locals := 21 }
def f_M_writePart_j78 (t_out_n : Nat) (t_outSize : Int32) (t_out : Nat → Int32) (v6 : Int32) (v7 : Int32) : Option ((Int32 × (Nat → Int32) × Int32) ⊕ ((Int32 × (Nat → Int32)))) :=
  Option.bind (f_M_put t_out_n t_outSize t_out v7) (fun o9 => bnd (v6 + (8 : Int32)) (fun x10 => some (Sum.inl (o9.1, o9.2, x10))))
def f_M_writePart_l19 (t_longs_n : Nat) (t_longs : Nat → Int64) (v1 : Int32) (v2 : Int32) (v3 : Int64) (v5 : Int32) (v6 : Int32) (v7 : Int32) (v8 : Int32) : Option ((Int32 × Int32) ⊕ ((Int32 × Int32))) :=
  (if (8 : Int32) ≤ v8 then some (Sum.inr ((v7, v8))) else gd (nz v5) (bnd (v1 + ((v6 + v8) / v5)) (fun x38 => (if v2 ≤ x38 then bnd (v8 + (1 : Int32)) (fun x39 => some (Sum.inl (v7, x39))) else Option.bind (f_M_difference t_longs_n t_longs x38) (fun o43 => gd (nz v5) (bnd ((((o43 - v3).toUInt64 >>> (((v6 + v8) - (v6 + v8) / v5 * v5).toInt64.toUInt64 &&& Int64.toUInt64 63)).toInt64 &&& (1 : Int64)).toInt32 <<< (v8 &&& 31)) (fun x45 => bnd (v7 ||| x45) (fun x46 => bnd (v8 + (1 : Int32)) (fun x47 => some (Sum.inl (x46, x47)))))))))))
def f_M_writePart_l3 (n : Nat) (t_longs_n : Nat) (t_out_n : Nat) (t_longs : Nat → Int64) (v1 : Int32) (v2 : Int32) (v3 : Int64) (v5 : Int32) (t_outSize : Int32) (t_out : Nat → Int32) (v6 : Int32) : Option ((Int32 × (Nat → Int32) × Int32) ⊕ ((Int32 × (Nat → Int32)))) :=
  (if ((16 : Int32) * v5) ≤ v6 then some (Sum.inr ((t_outSize, t_out))) else Option.bind (lp (fun v => f_M_writePart_l19 t_longs_n t_longs v1 v2 v3 v5 v6 v.1 v.2) n ((0 : Int32), (0 : Int32))) (fun o => f_M_writePart_j78 t_out_n t_outSize t_out v6 o.1))
def f_M_writePart (n : Nat) (t_longs_n : Nat) (t_out_n : Nat) (t_outSize : Int32) (t_longs : Nat → Int64) (t_out : Nat → Int32) (v1 : Int32) (v2 : Int32) (v3 : Int64) (v5 : Int32) : Option (Int32 × (Nat → Int32)) :=
  Option.bind (lp (fun v => f_M_writePart_l3 n t_longs_n t_out_n t_longs v1 v2 v3 v5 v.1 v.2.1 v.2.2) n (t_outSize, t_out, (0 : Int32))) (fun o => some o)
set_option maxHeartbeats 4000000 in
set_option maxRecDepth 100000 in
theorem c_M_writePart (l : Launch) (D : va_G) (k : ClassId × ClassId × ClassId) (a_t a_t_repetitions a_t_definitions a_t_newRepetitions a_t_newDefinitions a_t_wholes a_t_newWholes a_t_words8 a_t_from a_t_newFrom a_t_wordFrom a_t_bytes a_t_newBytes a_t_wordBytes a_t_tape a_t_input a_t_out a_t_body a_t_longs a_t_numbers a_t_common a_t_more a_t_told2 a_t_toldSize a_t_toldBytes : Nat) (t_longs_n t_out_n : Nat) (t_code : Int32) (t_type : Int32) (t_mostR : Int32) (t_mostD : Int32) (t_entries : Int32) (t_values : Int32) (t_coding : Int32) (t_bodySize : Int32) (t_newCount : Int32) (t_words : Int32) (t_taped : Int32) (t_inputSize : Int32) (t_outSize : Int32) (t_at : Int32) (t_stop : Int32) (t_fault : Int32) (t_longCount : Int32) (t_longs : Nat → Int64) (t_out : Nat → Int32) (v1 : Int32) (v2 : Int32) (v3 : Int64) (v5 : Int32) (n : Nat) (out : Int32 × (Nat → Int32)) (h : f_M_writePart n t_longs_n t_out_n t_outSize t_longs t_out v1 v2 v3 v5 = some out) : Ct l D k y_M_writePart b_M_writePart 10 none rm_M_writePart [.ref a_t, .int v1, .int v2, .long v3, .int v5] [(a_t, .inr (9, [.int t_code, .int t_type, .int t_mostR, .int t_mostD, .int t_entries, .int t_values, .int t_coding, .int t_bodySize, .ref a_t_repetitions, .ref a_t_definitions, .ref a_t_newRepetitions, .ref a_t_newDefinitions, .ref a_t_wholes, .ref a_t_newWholes, .ref a_t_words8, .ref a_t_from, .ref a_t_newFrom, .ref a_t_wordFrom, .ref a_t_bytes, .ref a_t_newBytes, .ref a_t_wordBytes, .int t_newCount, .int t_words, .ref a_t_tape, .ref a_t_input, .ref a_t_out, .ref a_t_body, .int t_taped, .int t_inputSize, .int t_outSize, .int t_at, .int t_stop, .int t_fault, .ref a_t_longs, .int t_longCount, .ref a_t_numbers, .ref a_t_common, .ref a_t_more, .ref a_t_told2, .ref a_t_toldSize, .ref a_t_toldBytes])), (a_t_longs, .inl (k.2.2, t_longs_n, .inr (.inl t_longs))), (a_t_out, .inl (k.2.1, t_out_n, .inl t_out))] [(a_t, .inr (9, [.int t_code, .int t_type, .int t_mostR, .int t_mostD, .int t_entries, .int t_values, .int t_coding, .int t_bodySize, .ref a_t_repetitions, .ref a_t_definitions, .ref a_t_newRepetitions, .ref a_t_newDefinitions, .ref a_t_wholes, .ref a_t_newWholes, .ref a_t_words8, .ref a_t_from, .ref a_t_newFrom, .ref a_t_wordFrom, .ref a_t_bytes, .ref a_t_newBytes, .ref a_t_wordBytes, .int t_newCount, .int t_words, .ref a_t_tape, .ref a_t_input, .ref a_t_out, .ref a_t_body, .int t_taped, .int t_inputSize, .int out.1, .int t_at, .int t_stop, .int t_fault, .ref a_t_longs, .int t_longCount, .ref a_t_numbers, .ref a_t_common, .ref a_t_more, .ref a_t_told2, .ref a_t_toldSize, .ref a_t_toldBytes])), (a_t_longs, .inl (k.2.2, t_longs_n, .inr (.inl t_longs))), (a_t_out, .inl (k.2.1, t_out_n, .inl out.2))] none := by
  refine Ct.ofV (by decide) (Nat.le_of_ble_eq_true rfl) ?_
  intro p e s m args below meth c A Q ls hx hb hml hown hts hA hK hP hD hS hE hl ret
  have hown : s.vm.findClass "PageFormModel" = some m.cls := hown
  have hl : lv_has ls 10 [(0, .ref a_t), (1, .int v1), (2, .int v2), (3, .long v3), (5, .int v5)] := hl
  have ret2 : ∀ (y0 : Int32) (y1 : Nat → Int32) (_ : (y0, y1) = out) {pc : Nat} {ls : Array Slot} {H : Heap} {locs : List Loc}, decode b_M_writePart pc = .ok (.return_, 1) → va_P D CL [(a_t, .inr (9, [.int t_code, .int t_type, .int t_mostR, .int t_mostD, .int t_entries, .int t_values, .int t_coding, .int t_bodySize, .ref a_t_repetitions, .ref a_t_definitions, .ref a_t_newRepetitions, .ref a_t_newDefinitions, .ref a_t_wholes, .ref a_t_newWholes, .ref a_t_words8, .ref a_t_from, .ref a_t_newFrom, .ref a_t_wordFrom, .ref a_t_bytes, .ref a_t_newBytes, .ref a_t_wordBytes, .int t_newCount, .int t_words, .ref a_t_tape, .ref a_t_input, .ref a_t_out, .ref a_t_body, .int t_taped, .int t_inputSize, .int y0, .int t_at, .int t_stop, .int t_fault, .ref a_t_longs, .int t_longCount, .ref a_t_numbers, .ref a_t_common, .ref a_t_more, .ref a_t_told2, .ref a_t_toldSize, .ref a_t_toldBytes])), (a_t_longs, .inl (k.2.2, t_longs_n, .inr (.inl t_longs))), (a_t_out, .inl (k.2.1, t_out_n, .inl y1))] H → va_D A [(a_t, .inr (9, [.int t_code, .int t_type, .int t_mostR, .int t_mostD, .int t_entries, .int t_values, .int t_coding, .int t_bodySize, .ref a_t_repetitions, .ref a_t_definitions, .ref a_t_newRepetitions, .ref a_t_newDefinitions, .ref a_t_wholes, .ref a_t_newWholes, .ref a_t_words8, .ref a_t_from, .ref a_t_newFrom, .ref a_t_wordFrom, .ref a_t_bytes, .ref a_t_newBytes, .ref a_t_wordBytes, .int t_newCount, .int t_words, .ref a_t_tape, .ref a_t_input, .ref a_t_out, .ref a_t_body, .int t_taped, .int t_inputSize, .int y0, .int t_at, .int t_stop, .int t_fault, .ref a_t_longs, .int t_longCount, .ref a_t_numbers, .ref a_t_common, .ref a_t_more, .ref a_t_told2, .ref a_t_toldSize, .ref a_t_toldBytes])), (a_t_longs, .inl (k.2.2, t_longs_n, .inr (.inl t_longs))), (a_t_out, .inl (k.2.1, t_out_n, .inl y1))] → va_S A s.heap H locs → W p l e rm_M_writePart s m args below meth c H locs 0 0 Q (F0 m pc ls []) := by
    intro y0 y1 e0; subst e0; exact ret
  clear ret
  have L3 : ∀ (K : Nat) (t_outSize : Int32) (t_out : Nat → Int32) (v6 : Int32) (o : (Int32 × (Nat → Int32))) (H : Heap) (locs : List Loc) (ls : Array Slot), va_P D CL [(a_t, .inr (9, [.int t_code, .int t_type, .int t_mostR, .int t_mostD, .int t_entries, .int t_values, .int t_coding, .int t_bodySize, .ref a_t_repetitions, .ref a_t_definitions, .ref a_t_newRepetitions, .ref a_t_newDefinitions, .ref a_t_wholes, .ref a_t_newWholes, .ref a_t_words8, .ref a_t_from, .ref a_t_newFrom, .ref a_t_wordFrom, .ref a_t_bytes, .ref a_t_newBytes, .ref a_t_wordBytes, .int t_newCount, .int t_words, .ref a_t_tape, .ref a_t_input, .ref a_t_out, .ref a_t_body, .int t_taped, .int t_inputSize, .int t_outSize, .int t_at, .int t_stop, .int t_fault, .ref a_t_longs, .int t_longCount, .ref a_t_numbers, .ref a_t_common, .ref a_t_more, .ref a_t_told2, .ref a_t_toldSize, .ref a_t_toldBytes])), (a_t_longs, .inl (k.2.2, t_longs_n, .inr (.inl t_longs))), (a_t_out, .inl (k.2.1, t_out_n, .inl t_out))] H → va_D A [(a_t, .inr (9, [.int t_code, .int t_type, .int t_mostR, .int t_mostD, .int t_entries, .int t_values, .int t_coding, .int t_bodySize, .ref a_t_repetitions, .ref a_t_definitions, .ref a_t_newRepetitions, .ref a_t_newDefinitions, .ref a_t_wholes, .ref a_t_newWholes, .ref a_t_words8, .ref a_t_from, .ref a_t_newFrom, .ref a_t_wordFrom, .ref a_t_bytes, .ref a_t_newBytes, .ref a_t_wordBytes, .int t_newCount, .int t_words, .ref a_t_tape, .ref a_t_input, .ref a_t_out, .ref a_t_body, .int t_taped, .int t_inputSize, .int t_outSize, .int t_at, .int t_stop, .int t_fault, .ref a_t_longs, .int t_longCount, .ref a_t_numbers, .ref a_t_common, .ref a_t_more, .ref a_t_told2, .ref a_t_toldSize, .ref a_t_toldBytes])), (a_t_longs, .inl (k.2.2, t_longs_n, .inr (.inl t_longs))), (a_t_out, .inl (k.2.1, t_out_n, .inl t_out))] → va_S A s.heap H locs → lv_has ls 10 [(0, .ref a_t), (1, .int v1), (2, .int v2), (3, .long v3), (5, .int v5), (6, .int v6)] → lp (fun v => f_M_writePart_l3 n t_longs_n t_out_n t_longs v1 v2 v3 v5 v.1 v.2.1 v.2.2) K (t_outSize, t_out, v6) = some o → (fun o => some o) o = some out → W p l e rm_M_writePart s m args below meth c H locs 0 0 Q (F0 m 3 ls []) := by
    intro K
    induction K with
    | zero => intros; exact absurd (by assumption) lp_no
    | succ K ih3 =>
      intro t_outSize t_out v6 o H locs ls hP hD hS hl h0 hx3
      obtain ⟨b3, h, hc3⟩ := lp_at h0
      have h : f_M_writePart_l3 n t_longs_n t_out_n t_longs v1 v2 v3 v5 t_outSize t_out v6 = some b3 := h
      have J78 : ∀ (t_outSize : Int32) (t_out : Nat → Int32) (v6 : Int32) (v7 : Int32) (H : Heap) (locs : List Loc) (ls : Array Slot), va_P D CL [(a_t, .inr (9, [.int t_code, .int t_type, .int t_mostR, .int t_mostD, .int t_entries, .int t_values, .int t_coding, .int t_bodySize, .ref a_t_repetitions, .ref a_t_definitions, .ref a_t_newRepetitions, .ref a_t_newDefinitions, .ref a_t_wholes, .ref a_t_newWholes, .ref a_t_words8, .ref a_t_from, .ref a_t_newFrom, .ref a_t_wordFrom, .ref a_t_bytes, .ref a_t_newBytes, .ref a_t_wordBytes, .int t_newCount, .int t_words, .ref a_t_tape, .ref a_t_input, .ref a_t_out, .ref a_t_body, .int t_taped, .int t_inputSize, .int t_outSize, .int t_at, .int t_stop, .int t_fault, .ref a_t_longs, .int t_longCount, .ref a_t_numbers, .ref a_t_common, .ref a_t_more, .ref a_t_told2, .ref a_t_toldSize, .ref a_t_toldBytes])), (a_t_longs, .inl (k.2.2, t_longs_n, .inr (.inl t_longs))), (a_t_out, .inl (k.2.1, t_out_n, .inl t_out))] H → va_D A [(a_t, .inr (9, [.int t_code, .int t_type, .int t_mostR, .int t_mostD, .int t_entries, .int t_values, .int t_coding, .int t_bodySize, .ref a_t_repetitions, .ref a_t_definitions, .ref a_t_newRepetitions, .ref a_t_newDefinitions, .ref a_t_wholes, .ref a_t_newWholes, .ref a_t_words8, .ref a_t_from, .ref a_t_newFrom, .ref a_t_wordFrom, .ref a_t_bytes, .ref a_t_newBytes, .ref a_t_wordBytes, .int t_newCount, .int t_words, .ref a_t_tape, .ref a_t_input, .ref a_t_out, .ref a_t_body, .int t_taped, .int t_inputSize, .int t_outSize, .int t_at, .int t_stop, .int t_fault, .ref a_t_longs, .int t_longCount, .ref a_t_numbers, .ref a_t_common, .ref a_t_more, .ref a_t_told2, .ref a_t_toldSize, .ref a_t_toldBytes])), (a_t_longs, .inl (k.2.2, t_longs_n, .inr (.inl t_longs))), (a_t_out, .inl (k.2.1, t_out_n, .inl t_out))] → va_S A s.heap H locs → lv_has ls 10 [(0, .ref a_t), (1, .int v1), (2, .int v2), (3, .long v3), (5, .int v5), (6, .int v6), (7, .int v7)] → f_M_writePart_j78 t_out_n t_outSize t_out v6 v7 = some b3 → W p l e rm_M_writePart s m args below meth c H locs 0 0 Q (F0 m 78 ls []) := by
        intro t_outSize t_out v6 v7 H locs ls hP hD hS hl h
        unfold f_M_writePart_j78 at h
        refine lv_aload_n hx hb d_M_writePart_78 rfl (lv_at hl 0 rfl) ?_
        refine lv_iload hx hb d_M_writePart_79 (lv_at hl 6 rfl) ?_
        obtain ⟨o9, ho9, h⟩ := obd_at h
        refine g_V (As := [.int v7]) (rest := []) hx hb hml hown hts hA hK hP hD hS hE (c_M_put l D k a_t a_t_repetitions a_t_definitions a_t_newRepetitions a_t_newDefinitions a_t_wholes a_t_newWholes a_t_words8 a_t_from a_t_newFrom a_t_wordFrom a_t_bytes a_t_newBytes a_t_wordBytes a_t_tape a_t_input a_t_out a_t_body a_t_longs a_t_numbers a_t_common a_t_more a_t_told2 a_t_toldSize a_t_toldBytes t_out_n t_code t_type t_mostR t_mostD t_entries t_values t_coding t_bodySize t_newCount t_words t_taped t_inputSize t_outSize t_at t_stop t_fault t_longCount t_out v7 n o9 ho9) mw_M_put mi_M_put ml_M_99 [0, 2] rfl (by decide) rfl rfl rfl 0 rfl rfl rfl rfl rfl hl.1 rfl (Nat.le_of_ble_eq_true rfl) ⟨Nat.zero_le _, Nat.zero_le _⟩ d_M_writePart_81 (fun H locs hP hD hS => ?_)
        have hP : va_P D CL [(a_t, .inr (9, [.int t_code, .int t_type, .int t_mostR, .int t_mostD, .int t_entries, .int t_values, .int t_coding, .int t_bodySize, .ref a_t_repetitions, .ref a_t_definitions, .ref a_t_newRepetitions, .ref a_t_newDefinitions, .ref a_t_wholes, .ref a_t_newWholes, .ref a_t_words8, .ref a_t_from, .ref a_t_newFrom, .ref a_t_wordFrom, .ref a_t_bytes, .ref a_t_newBytes, .ref a_t_wordBytes, .int t_newCount, .int t_words, .ref a_t_tape, .ref a_t_input, .ref a_t_out, .ref a_t_body, .int t_taped, .int t_inputSize, .int o9.1, .int t_at, .int t_stop, .int t_fault, .ref a_t_longs, .int t_longCount, .ref a_t_numbers, .ref a_t_common, .ref a_t_more, .ref a_t_told2, .ref a_t_toldSize, .ref a_t_toldBytes])), (a_t_longs, .inl (k.2.2, t_longs_n, .inr (.inl t_longs))), (a_t_out, .inl (k.2.1, t_out_n, .inl o9.2))] H := hP
        have hD : va_D A [(a_t, .inr (9, [.int t_code, .int t_type, .int t_mostR, .int t_mostD, .int t_entries, .int t_values, .int t_coding, .int t_bodySize, .ref a_t_repetitions, .ref a_t_definitions, .ref a_t_newRepetitions, .ref a_t_newDefinitions, .ref a_t_wholes, .ref a_t_newWholes, .ref a_t_words8, .ref a_t_from, .ref a_t_newFrom, .ref a_t_wordFrom, .ref a_t_bytes, .ref a_t_newBytes, .ref a_t_wordBytes, .int t_newCount, .int t_words, .ref a_t_tape, .ref a_t_input, .ref a_t_out, .ref a_t_body, .int t_taped, .int t_inputSize, .int o9.1, .int t_at, .int t_stop, .int t_fault, .ref a_t_longs, .int t_longCount, .ref a_t_numbers, .ref a_t_common, .ref a_t_more, .ref a_t_told2, .ref a_t_toldSize, .ref a_t_toldBytes])), (a_t_longs, .inl (k.2.2, t_longs_n, .inr (.inl t_longs))), (a_t_out, .inl (k.2.1, t_out_n, .inl o9.2))] := hD
        refine W.eq (g2 := F0 m 84 ls []) rfl ?_
        obtain ⟨x10, ex10⟩ : ∃ z : Int32, z = v6 + (8 : Int32) := ⟨_, rfl⟩
        have h := bnd_at h ex10
        refine lv_iinc (v := x10) (lv' := [(6, .int x10), (0, .ref a_t), (1, .int v1), (2, .int v2), (3, .long v3), (5, .int v5), (7, .int v7)]) hx hb d_M_writePart_84 hl (k := 5) rfl (by rw [ex10]; rfl) (by decide) rfl (fun ls hl => ?_)
        refine lv_goto (tgt := 3) hx hb d_M_writePart_87 (by decide) ?_
        have h := lp_go h hc3
        exact ih3 o9.1 o9.2 x10 o _ _ ls hP hD hS (lv_sub hl [1, 2, 3, 4, 5, 0] rfl) h hx3
      have L19 : ∀ (K : Nat) (t_outSize : Int32) (t_out : Nat → Int32) (v6 : Int32) (v7 : Int32) (v8 : Int32) (o : (Int32 × Int32)) (H : Heap) (locs : List Loc) (ls : Array Slot), va_P D CL [(a_t, .inr (9, [.int t_code, .int t_type, .int t_mostR, .int t_mostD, .int t_entries, .int t_values, .int t_coding, .int t_bodySize, .ref a_t_repetitions, .ref a_t_definitions, .ref a_t_newRepetitions, .ref a_t_newDefinitions, .ref a_t_wholes, .ref a_t_newWholes, .ref a_t_words8, .ref a_t_from, .ref a_t_newFrom, .ref a_t_wordFrom, .ref a_t_bytes, .ref a_t_newBytes, .ref a_t_wordBytes, .int t_newCount, .int t_words, .ref a_t_tape, .ref a_t_input, .ref a_t_out, .ref a_t_body, .int t_taped, .int t_inputSize, .int t_outSize, .int t_at, .int t_stop, .int t_fault, .ref a_t_longs, .int t_longCount, .ref a_t_numbers, .ref a_t_common, .ref a_t_more, .ref a_t_told2, .ref a_t_toldSize, .ref a_t_toldBytes])), (a_t_longs, .inl (k.2.2, t_longs_n, .inr (.inl t_longs))), (a_t_out, .inl (k.2.1, t_out_n, .inl t_out))] H → va_D A [(a_t, .inr (9, [.int t_code, .int t_type, .int t_mostR, .int t_mostD, .int t_entries, .int t_values, .int t_coding, .int t_bodySize, .ref a_t_repetitions, .ref a_t_definitions, .ref a_t_newRepetitions, .ref a_t_newDefinitions, .ref a_t_wholes, .ref a_t_newWholes, .ref a_t_words8, .ref a_t_from, .ref a_t_newFrom, .ref a_t_wordFrom, .ref a_t_bytes, .ref a_t_newBytes, .ref a_t_wordBytes, .int t_newCount, .int t_words, .ref a_t_tape, .ref a_t_input, .ref a_t_out, .ref a_t_body, .int t_taped, .int t_inputSize, .int t_outSize, .int t_at, .int t_stop, .int t_fault, .ref a_t_longs, .int t_longCount, .ref a_t_numbers, .ref a_t_common, .ref a_t_more, .ref a_t_told2, .ref a_t_toldSize, .ref a_t_toldBytes])), (a_t_longs, .inl (k.2.2, t_longs_n, .inr (.inl t_longs))), (a_t_out, .inl (k.2.1, t_out_n, .inl t_out))] → va_S A s.heap H locs → lv_has ls 10 [(0, .ref a_t), (1, .int v1), (2, .int v2), (3, .long v3), (5, .int v5), (6, .int v6), (7, .int v7), (8, .int v8)] → lp (fun v => f_M_writePart_l19 t_longs_n t_longs v1 v2 v3 v5 v6 v.1 v.2) K (v7, v8) = some o → (fun o => f_M_writePart_j78 t_out_n t_outSize t_out v6 o.1) o = some b3 → W p l e rm_M_writePart s m args below meth c H locs 0 0 Q (F0 m 19 ls []) := by
        intro K
        induction K with
        | zero => intros; exact absurd (by assumption) lp_no
        | succ K ih19 =>
          intro t_outSize t_out v6 v7 v8 o H locs ls hP hD hS hl h0 hx19
          obtain ⟨b19, h, hc19⟩ := lp_at h0
          have h : f_M_writePart_l19 t_longs_n t_longs v1 v2 v3 v5 v6 v7 v8 = some b19 := h
          unfold f_M_writePart_l19 at h
          refine lv_iload hx hb d_M_writePart_19 (lv_at hl 7 rfl) ?_
          refine lv_bipush (v := 8) hx hb d_M_writePart_21 (by decide) ?_
          refine lv_icmp_ge (tgt := 78) hx hb d_M_writePart_23 (by decide) (fun c => ?_) (fun c => ?_)
          · have h := ift_at h c
            obtain rfl := lp_out h hc19
            exact J78 t_outSize t_out v6 v7 _ _ ls hP hD hS (lv_sub hl [0, 1, 2, 3, 4, 5, 6] rfl) hx19
          · have h := iff_at h c
            refine lv_iload_n hx hb d_M_writePart_26 rfl (lv_at hl 1 rfl) ?_
            refine lv_iload hx hb d_M_writePart_27 (lv_at hl 5 rfl) ?_
            refine lv_iload hx hb d_M_writePart_29 (lv_at hl 7 rfl) ?_
            refine lv_iadd hx hb d_M_writePart_31 ?_
            refine lv_iload hx hb d_M_writePart_32 (lv_at hl 4 rfl) ?_
            obtain ⟨g37, h⟩ := gd_at h
            refine lv_idiv hx hb d_M_writePart_34 (nz_c g37) ?_
            refine lv_iadd hx hb d_M_writePart_35 ?_
            refine lv_topi (fun x38 ex38 => ?_)
            have h := bnd_at h ex38
            refine lv_istore (lv' := [(9, .int x38), (0, .ref a_t), (1, .int v1), (2, .int v2), (3, .long v3), (5, .int v5), (6, .int v6), (7, .int v7), (8, .int v8)]) hx hb d_M_writePart_36 hl (by decide) rfl (fun ls hl => ?_)
            refine lv_iload hx hb d_M_writePart_38 (lv_at hl 0 rfl) ?_
            refine lv_iload_n hx hb d_M_writePart_40 rfl (lv_at hl 3 rfl) ?_
            refine lv_icmp_ge (tgt := 72) hx hb d_M_writePart_41 (by decide) (fun c => ?_) (fun c => ?_)
            · have h := ift_at h c
              obtain ⟨x39, ex39⟩ : ∃ z : Int32, z = v8 + (1 : Int32) := ⟨_, rfl⟩
              have h := bnd_at h ex39
              refine lv_iinc (v := x39) (lv' := [(8, .int x39), (9, .int x38), (0, .ref a_t), (1, .int v1), (2, .int v2), (3, .long v3), (5, .int v5), (6, .int v6), (7, .int v7)]) hx hb d_M_writePart_72 hl (k := 8) rfl (by rw [ex39]; rfl) (by decide) rfl (fun ls hl => ?_)
              refine lv_goto (tgt := 19) hx hb d_M_writePart_75 (by decide) ?_
              have h := lp_go h hc19
              exact ih19 t_outSize t_out v6 v7 x39 o _ _ ls hP hD hS (lv_sub hl [2, 3, 4, 5, 6, 7, 8, 0] rfl) h hx19
            · have h := iff_at h c
              refine lv_iload hx hb d_M_writePart_44 (lv_at hl 7 rfl) ?_
              refine lv_aload_n hx hb d_M_writePart_46 rfl (lv_at hl 1 rfl) ?_
              refine lv_iload hx hb d_M_writePart_47 (lv_at hl 0 rfl) ?_
              obtain ⟨o43, ho43, h⟩ := obd_at h
              refine g_V (As := [.int x38]) (rest := [.int v7]) hx hb hml hown hts hA hK hP hD hS hE (c_M_difference l D k a_t a_t_repetitions a_t_definitions a_t_newRepetitions a_t_newDefinitions a_t_wholes a_t_newWholes a_t_words8 a_t_from a_t_newFrom a_t_wordFrom a_t_bytes a_t_newBytes a_t_wordBytes a_t_tape a_t_input a_t_out a_t_body a_t_longs a_t_numbers a_t_common a_t_more a_t_told2 a_t_toldSize a_t_toldBytes t_longs_n t_code t_type t_mostR t_mostD t_entries t_values t_coding t_bodySize t_newCount t_words t_taped t_inputSize t_outSize t_at t_stop t_fault t_longCount t_longs x38 n o43 ho43) mw_M_difference mi_M_difference ml_M_142 [0, 1] rfl (by decide) rfl rfl rfl 0 rfl rfl rfl rfl rfl hl.1 rfl (Nat.le_of_ble_eq_true rfl) ⟨Nat.zero_le _, Nat.zero_le _⟩ d_M_writePart_49 (fun H locs hP hD hS => ?_)
              have hP : va_P D CL [(a_t, .inr (9, [.int t_code, .int t_type, .int t_mostR, .int t_mostD, .int t_entries, .int t_values, .int t_coding, .int t_bodySize, .ref a_t_repetitions, .ref a_t_definitions, .ref a_t_newRepetitions, .ref a_t_newDefinitions, .ref a_t_wholes, .ref a_t_newWholes, .ref a_t_words8, .ref a_t_from, .ref a_t_newFrom, .ref a_t_wordFrom, .ref a_t_bytes, .ref a_t_newBytes, .ref a_t_wordBytes, .int t_newCount, .int t_words, .ref a_t_tape, .ref a_t_input, .ref a_t_out, .ref a_t_body, .int t_taped, .int t_inputSize, .int t_outSize, .int t_at, .int t_stop, .int t_fault, .ref a_t_longs, .int t_longCount, .ref a_t_numbers, .ref a_t_common, .ref a_t_more, .ref a_t_told2, .ref a_t_toldSize, .ref a_t_toldBytes])), (a_t_longs, .inl (k.2.2, t_longs_n, .inr (.inl t_longs))), (a_t_out, .inl (k.2.1, t_out_n, .inl t_out))] H := hP
              have hD : va_D A [(a_t, .inr (9, [.int t_code, .int t_type, .int t_mostR, .int t_mostD, .int t_entries, .int t_values, .int t_coding, .int t_bodySize, .ref a_t_repetitions, .ref a_t_definitions, .ref a_t_newRepetitions, .ref a_t_newDefinitions, .ref a_t_wholes, .ref a_t_newWholes, .ref a_t_words8, .ref a_t_from, .ref a_t_newFrom, .ref a_t_wordFrom, .ref a_t_bytes, .ref a_t_newBytes, .ref a_t_wordBytes, .int t_newCount, .int t_words, .ref a_t_tape, .ref a_t_input, .ref a_t_out, .ref a_t_body, .int t_taped, .int t_inputSize, .int t_outSize, .int t_at, .int t_stop, .int t_fault, .ref a_t_longs, .int t_longCount, .ref a_t_numbers, .ref a_t_common, .ref a_t_more, .ref a_t_told2, .ref a_t_toldSize, .ref a_t_toldBytes])), (a_t_longs, .inl (k.2.2, t_longs_n, .inr (.inl t_longs))), (a_t_out, .inl (k.2.1, t_out_n, .inl t_out))] := hD
              refine W.eq (g2 := F0 m 52 ls [.long o43, .int v7]) rfl ?_
              refine lv_lload_n hx hb d_M_writePart_52 rfl (lv_at hl 4 rfl) ?_
              refine lv_lsub hx hb d_M_writePart_53 ?_
              refine lv_iload hx hb d_M_writePart_54 (lv_at hl 6 rfl) ?_
              refine lv_iload hx hb d_M_writePart_56 (lv_at hl 8 rfl) ?_
              refine lv_iadd hx hb d_M_writePart_58 ?_
              refine lv_iload hx hb d_M_writePart_59 (lv_at hl 5 rfl) ?_
              obtain ⟨g44, h⟩ := gd_at h
              refine lv_irem hx hb d_M_writePart_61 (nz_c g44) ?_
              refine lv_lushr hx hb d_M_writePart_62 rfl ?_
              refine lv_lconst (v := 1) hx hb d_M_writePart_63 (by decide) ?_
              refine lv_land hx hb d_M_writePart_64 ?_
              refine lv_l2i hx hb d_M_writePart_65 rfl ?_
              refine lv_iload hx hb d_M_writePart_66 (lv_at hl 8 rfl) ?_
              refine lv_ishl hx hb d_M_writePart_68 ?_
              refine lv_topi (fun x45 ex45 => ?_)
              have h := bnd_at h ex45
              refine lv_ior hx hb d_M_writePart_69 ?_
              refine lv_topi (fun x46 ex46 => ?_)
              have h := bnd_at h ex46
              refine lv_istore (lv' := [(7, .int x46), (9, .int x38), (0, .ref a_t), (1, .int v1), (2, .int v2), (3, .long v3), (5, .int v5), (6, .int v6), (8, .int v8)]) hx hb d_M_writePart_70 hl (by decide) rfl (fun ls hl => ?_)
              obtain ⟨x47, ex47⟩ : ∃ z : Int32, z = v8 + (1 : Int32) := ⟨_, rfl⟩
              have h := bnd_at h ex47
              refine lv_iinc (v := x47) (lv' := [(8, .int x47), (7, .int x46), (9, .int x38), (0, .ref a_t), (1, .int v1), (2, .int v2), (3, .long v3), (5, .int v5), (6, .int v6)]) hx hb d_M_writePart_72 hl (k := 8) rfl (by rw [ex47]; rfl) (by decide) rfl (fun ls hl => ?_)
              refine lv_goto (tgt := 19) hx hb d_M_writePart_75 (by decide) ?_
              have h := lp_go h hc19
              exact ih19 t_outSize t_out v6 x46 x47 o _ _ ls hP hD hS (lv_sub hl [3, 4, 5, 6, 7, 8, 1, 0] rfl) h hx19
      unfold f_M_writePart_l3 at h
      refine lv_iload hx hb d_M_writePart_3 (lv_at hl 5 rfl) ?_
      refine lv_bipush (v := 16) hx hb d_M_writePart_5 (by decide) ?_
      refine lv_iload hx hb d_M_writePart_7 (lv_at hl 4 rfl) ?_
      refine lv_imul hx hb d_M_writePart_9 ?_
      refine lv_icmp_ge (tgt := 90) hx hb d_M_writePart_10 (by decide) (fun c => ?_) (fun c => ?_)
      · have h := ift_at h c
        obtain rfl := lp_out h hc3
        exact ret2 _ _ (Option.some.inj hx3) d_M_writePart_90 hP hD hS
      · have h := iff_at h c
        refine lv_iconst (v := 0) hx hb d_M_writePart_13 (by decide) ?_
        refine lv_istore (lv' := [(7, .int (0 : Int32)), (0, .ref a_t), (1, .int v1), (2, .int v2), (3, .long v3), (5, .int v5), (6, .int v6)]) hx hb d_M_writePart_14 hl (by decide) rfl (fun ls hl => ?_)
        refine lv_iconst (v := 0) hx hb d_M_writePart_16 (by decide) ?_
        refine lv_istore (lv' := [(8, .int (0 : Int32)), (7, .int (0 : Int32)), (0, .ref a_t), (1, .int v1), (2, .int v2), (3, .long v3), (5, .int v5), (6, .int v6)]) hx hb d_M_writePart_17 hl (by decide) rfl (fun ls hl => ?_)
        obtain ⟨o67, ho67, h⟩ := obd_at h
        exact L19 n t_outSize t_out v6 (0 : Int32) (0 : Int32) o67 _ _ ls hP hD hS (lv_sub hl [2, 3, 4, 5, 6, 7, 1, 0] rfl) ho67 h
  unfold f_M_writePart at h
  refine lv_iconst (v := 0) hx hb d_M_writePart_0 (by decide) ?_
  refine lv_istore (lv' := [(6, .int (0 : Int32)), (0, .ref a_t), (1, .int v1), (2, .int v2), (3, .long v3), (5, .int v5)]) hx hb d_M_writePart_1 hl (by decide) rfl (fun ls hl => ?_)
  obtain ⟨o84, ho84, h⟩ := obd_at h
  exact L3 n t_outSize t_out (0 : Int32) o84 _ _ ls hP hD hS (lv_sub hl [1, 2, 3, 4, 5, 0] rfl) ho84 h

