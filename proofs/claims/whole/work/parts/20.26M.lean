def rm_M_against : Room := { frames := 0, cells := 0, slots := 0, locals := 0 }
def f_M_against_j151 (t_toldSize_n : Nat) (t_toldSize : Nat → Int32) (v2 : Int32) (v3 : Int32) : Option (Int32) :=
  gd (inB v2 t_toldSize_n) (some (v3 - (t_toldSize v2.toNatClampNeg)))
def f_M_against_j116 (t_newBytes_n : Nat) (t_newFrom_n : Nat) (t_toldBytes_n : Nat) (t_newBytes : Nat → Int32) (t_newFrom : Nat → Int32) (t_toldBytes : Nat → Int32) (v1 : Int32) (v2 : Int32) (v4 : Int32) : Option (Int32) :=
  gd (inB v1 t_newFrom_n) (gd (inB ((t_newFrom v1.toNatClampNeg) + v4) t_newBytes_n) (gd (inB (((256 : Int32) * v2) + v4) t_toldBytes_n) (some ((t_newBytes ((t_newFrom v1.toNatClampNeg) + v4).toNatClampNeg) - (t_toldBytes (((256 : Int32) * v2) + v4).toNatClampNeg)))))
def f_M_against_l69 (t_newBytes_n : Nat) (t_newFrom_n : Nat) (t_toldBytes_n : Nat) (t_toldSize_n : Nat) (t_newBytes : Nat → Int32) (t_newFrom : Nat → Int32) (t_toldBytes : Nat → Int32) (t_toldSize : Nat → Int32) (v1 : Int32) (v2 : Int32) (v3 : Int32) (v4 : Int32) : Option ((Int32) ⊕ ((Int32) ⊕ (Int32))) :=
  (if v3 ≤ v4 then some (Sum.inr (Sum.inr (v4))) else gd (inB v2 t_toldSize_n) ((if (t_toldSize v2.toNatClampNeg) ≤ v4 then some (Sum.inr (Sum.inr (v4))) else gd (inB v1 t_newFrom_n) (gd (inB ((t_newFrom v1.toNatClampNeg) + v4) t_newBytes_n) (gd (inB (((256 : Int32) * v2) + v4) t_toldBytes_n) ((if (t_newBytes ((t_newFrom v1.toNatClampNeg) + v4).toNatClampNeg) = (t_toldBytes (((256 : Int32) * v2) + v4).toNatClampNeg) then bnd (v4 + (1 : Int32)) (fun x35 => some (Sum.inl x35)) else some (Sum.inr (Sum.inl (v4))))))))))
def f_M_against (n : Nat) (t_newBytes_n : Nat) (t_newFrom_n : Nat) (t_newWholes_n : Nat) (t_told2_n : Nat) (t_toldBytes_n : Nat) (t_toldSize_n : Nat) (t_type : Int32) (t_newBytes : Nat → Int32) (t_newFrom : Nat → Int32) (t_newWholes : Nat → Int64) (t_told2 : Nat → Int64) (t_toldBytes : Nat → Int32) (t_toldSize : Nat → Int32) (v1 : Int32) (v2 : Int32) : Option (Int32) :=
  (if t_type = (3 : Int32) then gd (inB (v1 + (1 : Int32)) t_newFrom_n) (gd (inB v1 t_newFrom_n) (bnd ((t_newFrom (v1 + (1 : Int32)).toNatClampNeg) - (t_newFrom v1.toNatClampNeg)) (fun x62 => Option.bind (lp (fun v => f_M_against_l69 t_newBytes_n t_newFrom_n t_toldBytes_n t_toldSize_n t_newBytes t_newFrom t_toldBytes t_toldSize v1 v2 x62 v) n (0 : Int32)) (fun o => Sum.elim (fun o => f_M_against_j116 t_newBytes_n t_newFrom_n t_toldBytes_n t_newBytes t_newFrom t_toldBytes v1 v2 o) (fun o => f_M_against_j151 t_toldSize_n t_toldSize v2 x62) o)))) else gd (inB v1 t_newWholes_n) (gd (inB v2 t_told2_n) ((if (t_told2 v2.toNatClampNeg) ≤ (t_newWholes v1.toNatClampNeg) then gd (inB v1 t_newWholes_n) (gd (inB v2 t_told2_n) ((if (t_newWholes v1.toNatClampNeg) ≤ (t_told2 v2.toNatClampNeg) then some (0 : Int32) else some (1 : Int32)))) else some (-1 : Int32)))))
set_option maxHeartbeats 4000000 in
set_option maxRecDepth 100000 in
theorem c_M_against (l : Launch) (D : va_G) (k : ClassId × ClassId × ClassId) (a_t a_t_repetitions a_t_definitions a_t_newRepetitions a_t_newDefinitions a_t_wholes a_t_newWholes a_t_words8 a_t_from a_t_newFrom a_t_wordFrom a_t_bytes a_t_newBytes a_t_wordBytes a_t_tape a_t_input a_t_out a_t_body a_t_longs a_t_numbers a_t_common a_t_more a_t_told2 a_t_toldSize a_t_toldBytes : Nat) (t_newBytes_n t_newFrom_n t_newWholes_n t_told2_n t_toldBytes_n t_toldSize_n : Nat) (t_code : Int32) (t_type : Int32) (t_mostR : Int32) (t_mostD : Int32) (t_entries : Int32) (t_values : Int32) (t_coding : Int32) (t_bodySize : Int32) (t_newCount : Int32) (t_words : Int32) (t_taped : Int32) (t_inputSize : Int32) (t_outSize : Int32) (t_at : Int32) (t_stop : Int32) (t_fault : Int32) (t_longCount : Int32) (t_newBytes : Nat → Int32) (t_newFrom : Nat → Int32) (t_newWholes : Nat → Int64) (t_told2 : Nat → Int64) (t_toldBytes : Nat → Int32) (t_toldSize : Nat → Int32) (v1 : Int32) (v2 : Int32) (n : Nat) (out : Int32) (h : f_M_against n t_newBytes_n t_newFrom_n t_newWholes_n t_told2_n t_toldBytes_n t_toldSize_n t_type t_newBytes t_newFrom t_newWholes t_told2 t_toldBytes t_toldSize v1 v2 = some out) : Ct l D k y_M_against b_M_against 5 (some .int) rm_M_against [.ref a_t, .int v1, .int v2] [(a_t, .inr (9, [.int t_code, .int t_type, .int t_mostR, .int t_mostD, .int t_entries, .int t_values, .int t_coding, .int t_bodySize, .ref a_t_repetitions, .ref a_t_definitions, .ref a_t_newRepetitions, .ref a_t_newDefinitions, .ref a_t_wholes, .ref a_t_newWholes, .ref a_t_words8, .ref a_t_from, .ref a_t_newFrom, .ref a_t_wordFrom, .ref a_t_bytes, .ref a_t_newBytes, .ref a_t_wordBytes, .int t_newCount, .int t_words, .ref a_t_tape, .ref a_t_input, .ref a_t_out, .ref a_t_body, .int t_taped, .int t_inputSize, .int t_outSize, .int t_at, .int t_stop, .int t_fault, .ref a_t_longs, .int t_longCount, .ref a_t_numbers, .ref a_t_common, .ref a_t_more, .ref a_t_told2, .ref a_t_toldSize, .ref a_t_toldBytes])), (a_t_newBytes, .inl (k.2.1, t_newBytes_n, .inl t_newBytes)), (a_t_newFrom, .inl (k.2.1, t_newFrom_n, .inl t_newFrom)), (a_t_newWholes, .inl (k.2.2, t_newWholes_n, .inr (.inl t_newWholes))), (a_t_told2, .inl (k.2.2, t_told2_n, .inr (.inl t_told2))), (a_t_toldBytes, .inl (k.2.1, t_toldBytes_n, .inl t_toldBytes)), (a_t_toldSize, .inl (k.2.1, t_toldSize_n, .inl t_toldSize))] [(a_t, .inr (9, [.int t_code, .int t_type, .int t_mostR, .int t_mostD, .int t_entries, .int t_values, .int t_coding, .int t_bodySize, .ref a_t_repetitions, .ref a_t_definitions, .ref a_t_newRepetitions, .ref a_t_newDefinitions, .ref a_t_wholes, .ref a_t_newWholes, .ref a_t_words8, .ref a_t_from, .ref a_t_newFrom, .ref a_t_wordFrom, .ref a_t_bytes, .ref a_t_newBytes, .ref a_t_wordBytes, .int t_newCount, .int t_words, .ref a_t_tape, .ref a_t_input, .ref a_t_out, .ref a_t_body, .int t_taped, .int t_inputSize, .int t_outSize, .int t_at, .int t_stop, .int t_fault, .ref a_t_longs, .int t_longCount, .ref a_t_numbers, .ref a_t_common, .ref a_t_more, .ref a_t_told2, .ref a_t_toldSize, .ref a_t_toldBytes])), (a_t_newBytes, .inl (k.2.1, t_newBytes_n, .inl t_newBytes)), (a_t_newFrom, .inl (k.2.1, t_newFrom_n, .inl t_newFrom)), (a_t_newWholes, .inl (k.2.2, t_newWholes_n, .inr (.inl t_newWholes))), (a_t_told2, .inl (k.2.2, t_told2_n, .inr (.inl t_told2))), (a_t_toldBytes, .inl (k.2.1, t_toldBytes_n, .inl t_toldBytes)), (a_t_toldSize, .inl (k.2.1, t_toldSize_n, .inl t_toldSize))] (some (.int out)) := by
  refine Ct.ofI (by decide) (Nat.le_of_ble_eq_true rfl) ?_
  intro p e s m args below meth c A Q ls hx hb hml hown hts hA hK hP hD hS hE hl ret
  have hown : s.vm.findClass "PageFormModel" = some m.cls := hown
  have hl : lv_has ls 5 [(0, .ref a_t), (1, .int v1), (2, .int v2)] := hl
  have ret2 : ∀ (y0 : Int32) (_ : y0 = out) {pc : Nat} {ls : Array Slot} {H : Heap} {locs : List Loc}, decode b_M_against pc = .ok (.ireturn, 1) → va_P D CL [(a_t, .inr (9, [.int t_code, .int t_type, .int t_mostR, .int t_mostD, .int t_entries, .int t_values, .int t_coding, .int t_bodySize, .ref a_t_repetitions, .ref a_t_definitions, .ref a_t_newRepetitions, .ref a_t_newDefinitions, .ref a_t_wholes, .ref a_t_newWholes, .ref a_t_words8, .ref a_t_from, .ref a_t_newFrom, .ref a_t_wordFrom, .ref a_t_bytes, .ref a_t_newBytes, .ref a_t_wordBytes, .int t_newCount, .int t_words, .ref a_t_tape, .ref a_t_input, .ref a_t_out, .ref a_t_body, .int t_taped, .int t_inputSize, .int t_outSize, .int t_at, .int t_stop, .int t_fault, .ref a_t_longs, .int t_longCount, .ref a_t_numbers, .ref a_t_common, .ref a_t_more, .ref a_t_told2, .ref a_t_toldSize, .ref a_t_toldBytes])), (a_t_newBytes, .inl (k.2.1, t_newBytes_n, .inl t_newBytes)), (a_t_newFrom, .inl (k.2.1, t_newFrom_n, .inl t_newFrom)), (a_t_newWholes, .inl (k.2.2, t_newWholes_n, .inr (.inl t_newWholes))), (a_t_told2, .inl (k.2.2, t_told2_n, .inr (.inl t_told2))), (a_t_toldBytes, .inl (k.2.1, t_toldBytes_n, .inl t_toldBytes)), (a_t_toldSize, .inl (k.2.1, t_toldSize_n, .inl t_toldSize))] H → va_D A [(a_t, .inr (9, [.int t_code, .int t_type, .int t_mostR, .int t_mostD, .int t_entries, .int t_values, .int t_coding, .int t_bodySize, .ref a_t_repetitions, .ref a_t_definitions, .ref a_t_newRepetitions, .ref a_t_newDefinitions, .ref a_t_wholes, .ref a_t_newWholes, .ref a_t_words8, .ref a_t_from, .ref a_t_newFrom, .ref a_t_wordFrom, .ref a_t_bytes, .ref a_t_newBytes, .ref a_t_wordBytes, .int t_newCount, .int t_words, .ref a_t_tape, .ref a_t_input, .ref a_t_out, .ref a_t_body, .int t_taped, .int t_inputSize, .int t_outSize, .int t_at, .int t_stop, .int t_fault, .ref a_t_longs, .int t_longCount, .ref a_t_numbers, .ref a_t_common, .ref a_t_more, .ref a_t_told2, .ref a_t_toldSize, .ref a_t_toldBytes])), (a_t_newBytes, .inl (k.2.1, t_newBytes_n, .inl t_newBytes)), (a_t_newFrom, .inl (k.2.1, t_newFrom_n, .inl t_newFrom)), (a_t_newWholes, .inl (k.2.2, t_newWholes_n, .inr (.inl t_newWholes))), (a_t_told2, .inl (k.2.2, t_told2_n, .inr (.inl t_told2))), (a_t_toldBytes, .inl (k.2.1, t_toldBytes_n, .inl t_toldBytes)), (a_t_toldSize, .inl (k.2.1, t_toldSize_n, .inl t_toldSize))] → va_S A s.heap H locs → W p l e rm_M_against s m args below meth c H locs 0 0 Q (F0 m pc ls [.int y0]) := by
    intro y0 e0; subst e0; exact ret
  clear ret
  have J151 : ∀ (v3 : Int32) (H : Heap) (locs : List Loc) (ls : Array Slot), va_P D CL [(a_t, .inr (9, [.int t_code, .int t_type, .int t_mostR, .int t_mostD, .int t_entries, .int t_values, .int t_coding, .int t_bodySize, .ref a_t_repetitions, .ref a_t_definitions, .ref a_t_newRepetitions, .ref a_t_newDefinitions, .ref a_t_wholes, .ref a_t_newWholes, .ref a_t_words8, .ref a_t_from, .ref a_t_newFrom, .ref a_t_wordFrom, .ref a_t_bytes, .ref a_t_newBytes, .ref a_t_wordBytes, .int t_newCount, .int t_words, .ref a_t_tape, .ref a_t_input, .ref a_t_out, .ref a_t_body, .int t_taped, .int t_inputSize, .int t_outSize, .int t_at, .int t_stop, .int t_fault, .ref a_t_longs, .int t_longCount, .ref a_t_numbers, .ref a_t_common, .ref a_t_more, .ref a_t_told2, .ref a_t_toldSize, .ref a_t_toldBytes])), (a_t_newBytes, .inl (k.2.1, t_newBytes_n, .inl t_newBytes)), (a_t_newFrom, .inl (k.2.1, t_newFrom_n, .inl t_newFrom)), (a_t_newWholes, .inl (k.2.2, t_newWholes_n, .inr (.inl t_newWholes))), (a_t_told2, .inl (k.2.2, t_told2_n, .inr (.inl t_told2))), (a_t_toldBytes, .inl (k.2.1, t_toldBytes_n, .inl t_toldBytes)), (a_t_toldSize, .inl (k.2.1, t_toldSize_n, .inl t_toldSize))] H → va_D A [(a_t, .inr (9, [.int t_code, .int t_type, .int t_mostR, .int t_mostD, .int t_entries, .int t_values, .int t_coding, .int t_bodySize, .ref a_t_repetitions, .ref a_t_definitions, .ref a_t_newRepetitions, .ref a_t_newDefinitions, .ref a_t_wholes, .ref a_t_newWholes, .ref a_t_words8, .ref a_t_from, .ref a_t_newFrom, .ref a_t_wordFrom, .ref a_t_bytes, .ref a_t_newBytes, .ref a_t_wordBytes, .int t_newCount, .int t_words, .ref a_t_tape, .ref a_t_input, .ref a_t_out, .ref a_t_body, .int t_taped, .int t_inputSize, .int t_outSize, .int t_at, .int t_stop, .int t_fault, .ref a_t_longs, .int t_longCount, .ref a_t_numbers, .ref a_t_common, .ref a_t_more, .ref a_t_told2, .ref a_t_toldSize, .ref a_t_toldBytes])), (a_t_newBytes, .inl (k.2.1, t_newBytes_n, .inl t_newBytes)), (a_t_newFrom, .inl (k.2.1, t_newFrom_n, .inl t_newFrom)), (a_t_newWholes, .inl (k.2.2, t_newWholes_n, .inr (.inl t_newWholes))), (a_t_told2, .inl (k.2.2, t_told2_n, .inr (.inl t_told2))), (a_t_toldBytes, .inl (k.2.1, t_toldBytes_n, .inl t_toldBytes)), (a_t_toldSize, .inl (k.2.1, t_toldSize_n, .inl t_toldSize))] → va_S A s.heap H locs → lv_has ls 5 [(0, .ref a_t), (2, .int v2), (3, .int v3)] → f_M_against_j151 t_toldSize_n t_toldSize v2 v3 = some out → W p l e rm_M_against s m args below meth c H locs 0 0 Q (F0 m 151 ls []) := by
    intro v3 H locs ls hP hD hS hl h
    unfold f_M_against_j151 at h
    refine lv_iload_n hx hb d_M_against_151 rfl (lv_at hl 2 rfl) ?_
    refine lv_aload_n hx hb d_M_against_152 rfl (lv_at hl 0 rfl) ?_
    refine va_get (D := D) (ci := 9) (v := .ref a_t_toldSize) (C := "PageFormModel") (T := F_M) (N := 41) hx hb hts in_M hown hK hP 0 rfl rfl 39 (by decide) (hts _ fl_M_78) (fun _ h9 => h9) rfl d_M_against_153 ?_
    refine lv_iload_n hx hb d_M_against_156 rfl (lv_at hl 1 rfl) ?_
    obtain ⟨g15, h⟩ := gd_at h
    refine va_iald hx hb hK hP 6 1 rfl rfl (inB_in g15) d_M_against_157 ?_
    refine lv_isub hx hb d_M_against_158 ?_
    exact ret2 _ (Option.some.inj h) d_M_against_159 hP hD hS
  have J116 : ∀ (v4 : Int32) (H : Heap) (locs : List Loc) (ls : Array Slot), va_P D CL [(a_t, .inr (9, [.int t_code, .int t_type, .int t_mostR, .int t_mostD, .int t_entries, .int t_values, .int t_coding, .int t_bodySize, .ref a_t_repetitions, .ref a_t_definitions, .ref a_t_newRepetitions, .ref a_t_newDefinitions, .ref a_t_wholes, .ref a_t_newWholes, .ref a_t_words8, .ref a_t_from, .ref a_t_newFrom, .ref a_t_wordFrom, .ref a_t_bytes, .ref a_t_newBytes, .ref a_t_wordBytes, .int t_newCount, .int t_words, .ref a_t_tape, .ref a_t_input, .ref a_t_out, .ref a_t_body, .int t_taped, .int t_inputSize, .int t_outSize, .int t_at, .int t_stop, .int t_fault, .ref a_t_longs, .int t_longCount, .ref a_t_numbers, .ref a_t_common, .ref a_t_more, .ref a_t_told2, .ref a_t_toldSize, .ref a_t_toldBytes])), (a_t_newBytes, .inl (k.2.1, t_newBytes_n, .inl t_newBytes)), (a_t_newFrom, .inl (k.2.1, t_newFrom_n, .inl t_newFrom)), (a_t_newWholes, .inl (k.2.2, t_newWholes_n, .inr (.inl t_newWholes))), (a_t_told2, .inl (k.2.2, t_told2_n, .inr (.inl t_told2))), (a_t_toldBytes, .inl (k.2.1, t_toldBytes_n, .inl t_toldBytes)), (a_t_toldSize, .inl (k.2.1, t_toldSize_n, .inl t_toldSize))] H → va_D A [(a_t, .inr (9, [.int t_code, .int t_type, .int t_mostR, .int t_mostD, .int t_entries, .int t_values, .int t_coding, .int t_bodySize, .ref a_t_repetitions, .ref a_t_definitions, .ref a_t_newRepetitions, .ref a_t_newDefinitions, .ref a_t_wholes, .ref a_t_newWholes, .ref a_t_words8, .ref a_t_from, .ref a_t_newFrom, .ref a_t_wordFrom, .ref a_t_bytes, .ref a_t_newBytes, .ref a_t_wordBytes, .int t_newCount, .int t_words, .ref a_t_tape, .ref a_t_input, .ref a_t_out, .ref a_t_body, .int t_taped, .int t_inputSize, .int t_outSize, .int t_at, .int t_stop, .int t_fault, .ref a_t_longs, .int t_longCount, .ref a_t_numbers, .ref a_t_common, .ref a_t_more, .ref a_t_told2, .ref a_t_toldSize, .ref a_t_toldBytes])), (a_t_newBytes, .inl (k.2.1, t_newBytes_n, .inl t_newBytes)), (a_t_newFrom, .inl (k.2.1, t_newFrom_n, .inl t_newFrom)), (a_t_newWholes, .inl (k.2.2, t_newWholes_n, .inr (.inl t_newWholes))), (a_t_told2, .inl (k.2.2, t_told2_n, .inr (.inl t_told2))), (a_t_toldBytes, .inl (k.2.1, t_toldBytes_n, .inl t_toldBytes)), (a_t_toldSize, .inl (k.2.1, t_toldSize_n, .inl t_toldSize))] → va_S A s.heap H locs → lv_has ls 5 [(0, .ref a_t), (1, .int v1), (2, .int v2), (4, .int v4)] → f_M_against_j116 t_newBytes_n t_newFrom_n t_toldBytes_n t_newBytes t_newFrom t_toldBytes v1 v2 v4 = some out → W p l e rm_M_against s m args below meth c H locs 0 0 Q (F0 m 116 ls []) := by
    intro v4 H locs ls hP hD hS hl h
    unfold f_M_against_j116 at h
    refine lv_aload_n hx hb d_M_against_116 rfl (lv_at hl 0 rfl) ?_
    refine va_get (D := D) (ci := 9) (v := .ref a_t_newBytes) (C := "PageFormModel") (T := F_M) (N := 41) hx hb hts in_M hown hK hP 0 rfl rfl 19 (by decide) (hts _ fl_M_44) (fun _ h9 => h9) rfl d_M_against_117 ?_
    refine lv_aload_n hx hb d_M_against_120 rfl (lv_at hl 0 rfl) ?_
    refine va_get (D := D) (ci := 9) (v := .ref a_t_newFrom) (C := "PageFormModel") (T := F_M) (N := 41) hx hb hts in_M hown hK hP 0 rfl rfl 16 (by decide) (hts _ fl_M_35) (fun _ h9 => h9) rfl d_M_against_121 ?_
    refine lv_iload_n hx hb d_M_against_124 rfl (lv_at hl 1 rfl) ?_
    obtain ⟨g16, h⟩ := gd_at h
    refine va_iald hx hb hK hP 2 1 rfl rfl (inB_in g16) d_M_against_125 ?_
    refine lv_iload hx hb d_M_against_126 (lv_at hl 3 rfl) ?_
    refine lv_iadd hx hb d_M_against_128 ?_
    obtain ⟨g17, h⟩ := gd_at h
    refine va_iald hx hb hK hP 1 1 rfl rfl (inB_in g17) d_M_against_129 ?_
    refine lv_aload_n hx hb d_M_against_130 rfl (lv_at hl 0 rfl) ?_
    refine va_get (D := D) (ci := 9) (v := .ref a_t_toldBytes) (C := "PageFormModel") (T := F_M) (N := 41) hx hb hts in_M hown hK hP 0 rfl rfl 40 (by decide) (hts _ fl_M_81) (fun _ h9 => h9) rfl d_M_against_131 ?_
    refine lv_sipush (v := 256) hx hb d_M_against_134 (by decide) ?_
    refine lv_iload_n hx hb d_M_against_137 rfl (lv_at hl 2 rfl) ?_
    refine lv_imul hx hb d_M_against_138 ?_
    refine lv_iload hx hb d_M_against_139 (lv_at hl 3 rfl) ?_
    refine lv_iadd hx hb d_M_against_141 ?_
    obtain ⟨g18, h⟩ := gd_at h
    refine va_iald hx hb hK hP 5 1 rfl rfl (inB_in g18) d_M_against_142 ?_
    refine lv_isub hx hb d_M_against_143 ?_
    exact ret2 _ (Option.some.inj h) d_M_against_144 hP hD hS
  have L69 : ∀ (K : Nat) (v3 : Int32) (v4 : Int32) (o : (Int32) ⊕ (Int32)) (H : Heap) (locs : List Loc) (ls : Array Slot), va_P D CL [(a_t, .inr (9, [.int t_code, .int t_type, .int t_mostR, .int t_mostD, .int t_entries, .int t_values, .int t_coding, .int t_bodySize, .ref a_t_repetitions, .ref a_t_definitions, .ref a_t_newRepetitions, .ref a_t_newDefinitions, .ref a_t_wholes, .ref a_t_newWholes, .ref a_t_words8, .ref a_t_from, .ref a_t_newFrom, .ref a_t_wordFrom, .ref a_t_bytes, .ref a_t_newBytes, .ref a_t_wordBytes, .int t_newCount, .int t_words, .ref a_t_tape, .ref a_t_input, .ref a_t_out, .ref a_t_body, .int t_taped, .int t_inputSize, .int t_outSize, .int t_at, .int t_stop, .int t_fault, .ref a_t_longs, .int t_longCount, .ref a_t_numbers, .ref a_t_common, .ref a_t_more, .ref a_t_told2, .ref a_t_toldSize, .ref a_t_toldBytes])), (a_t_newBytes, .inl (k.2.1, t_newBytes_n, .inl t_newBytes)), (a_t_newFrom, .inl (k.2.1, t_newFrom_n, .inl t_newFrom)), (a_t_newWholes, .inl (k.2.2, t_newWholes_n, .inr (.inl t_newWholes))), (a_t_told2, .inl (k.2.2, t_told2_n, .inr (.inl t_told2))), (a_t_toldBytes, .inl (k.2.1, t_toldBytes_n, .inl t_toldBytes)), (a_t_toldSize, .inl (k.2.1, t_toldSize_n, .inl t_toldSize))] H → va_D A [(a_t, .inr (9, [.int t_code, .int t_type, .int t_mostR, .int t_mostD, .int t_entries, .int t_values, .int t_coding, .int t_bodySize, .ref a_t_repetitions, .ref a_t_definitions, .ref a_t_newRepetitions, .ref a_t_newDefinitions, .ref a_t_wholes, .ref a_t_newWholes, .ref a_t_words8, .ref a_t_from, .ref a_t_newFrom, .ref a_t_wordFrom, .ref a_t_bytes, .ref a_t_newBytes, .ref a_t_wordBytes, .int t_newCount, .int t_words, .ref a_t_tape, .ref a_t_input, .ref a_t_out, .ref a_t_body, .int t_taped, .int t_inputSize, .int t_outSize, .int t_at, .int t_stop, .int t_fault, .ref a_t_longs, .int t_longCount, .ref a_t_numbers, .ref a_t_common, .ref a_t_more, .ref a_t_told2, .ref a_t_toldSize, .ref a_t_toldBytes])), (a_t_newBytes, .inl (k.2.1, t_newBytes_n, .inl t_newBytes)), (a_t_newFrom, .inl (k.2.1, t_newFrom_n, .inl t_newFrom)), (a_t_newWholes, .inl (k.2.2, t_newWholes_n, .inr (.inl t_newWholes))), (a_t_told2, .inl (k.2.2, t_told2_n, .inr (.inl t_told2))), (a_t_toldBytes, .inl (k.2.1, t_toldBytes_n, .inl t_toldBytes)), (a_t_toldSize, .inl (k.2.1, t_toldSize_n, .inl t_toldSize))] → va_S A s.heap H locs → lv_has ls 5 [(0, .ref a_t), (1, .int v1), (2, .int v2), (3, .int v3), (4, .int v4)] → lp (fun v => f_M_against_l69 t_newBytes_n t_newFrom_n t_toldBytes_n t_toldSize_n t_newBytes t_newFrom t_toldBytes t_toldSize v1 v2 v3 v) K v4 = some o → (fun o => Sum.elim (fun o => f_M_against_j116 t_newBytes_n t_newFrom_n t_toldBytes_n t_newBytes t_newFrom t_toldBytes v1 v2 o) (fun o => f_M_against_j151 t_toldSize_n t_toldSize v2 v3) o) o = some out → W p l e rm_M_against s m args below meth c H locs 0 0 Q (F0 m 69 ls []) := by
    intro K
    induction K with
    | zero => intros; exact absurd (by assumption) lp_no
    | succ K ih69 =>
      intro v3 v4 o H locs ls hP hD hS hl h0 hx69
      obtain ⟨b69, h, hc69⟩ := lp_at h0
      have h : f_M_against_l69 t_newBytes_n t_newFrom_n t_toldBytes_n t_toldSize_n t_newBytes t_newFrom t_toldBytes t_toldSize v1 v2 v3 v4 = some b69 := h
      unfold f_M_against_l69 at h
      refine lv_iload hx hb d_M_against_69 (lv_at hl 4 rfl) ?_
      refine lv_iload_n hx hb d_M_against_71 rfl (lv_at hl 3 rfl) ?_
      refine lv_icmp_ge (tgt := 151) hx hb d_M_against_72 (by decide) (fun c => ?_) (fun c => ?_)
      · have h := ift_at h c
        obtain rfl := lp_out h hc69
        exact J151 v3 _ _ ls hP hD hS (lv_sub hl [0, 2, 3] rfl) hx69
      · have h := iff_at h c
        refine lv_iload hx hb d_M_against_75 (lv_at hl 4 rfl) ?_
        refine lv_aload_n hx hb d_M_against_77 rfl (lv_at hl 0 rfl) ?_
        refine va_get (D := D) (ci := 9) (v := .ref a_t_toldSize) (C := "PageFormModel") (T := F_M) (N := 41) hx hb hts in_M hown hK hP 0 rfl rfl 39 (by decide) (hts _ fl_M_78) (fun _ h9 => h9) rfl d_M_against_78 ?_
        refine lv_iload_n hx hb d_M_against_81 rfl (lv_at hl 2 rfl) ?_
        obtain ⟨g27, h⟩ := gd_at h
        refine va_iald hx hb hK hP 6 1 rfl rfl (inB_in g27) d_M_against_82 ?_
        refine lv_icmp_ge (tgt := 151) hx hb d_M_against_83 (by decide) (fun c => ?_) (fun c => ?_)
        · have h := ift_at h c
          obtain rfl := lp_out h hc69
          exact J151 v3 _ _ ls hP hD hS (lv_sub hl [0, 2, 3] rfl) hx69
        · have h := iff_at h c
          refine lv_aload_n hx hb d_M_against_86 rfl (lv_at hl 0 rfl) ?_
          refine va_get (D := D) (ci := 9) (v := .ref a_t_newBytes) (C := "PageFormModel") (T := F_M) (N := 41) hx hb hts in_M hown hK hP 0 rfl rfl 19 (by decide) (hts _ fl_M_44) (fun _ h9 => h9) rfl d_M_against_87 ?_
          refine lv_aload_n hx hb d_M_against_90 rfl (lv_at hl 0 rfl) ?_
          refine va_get (D := D) (ci := 9) (v := .ref a_t_newFrom) (C := "PageFormModel") (T := F_M) (N := 41) hx hb hts in_M hown hK hP 0 rfl rfl 16 (by decide) (hts _ fl_M_35) (fun _ h9 => h9) rfl d_M_against_91 ?_
          refine lv_iload_n hx hb d_M_against_94 rfl (lv_at hl 1 rfl) ?_
          obtain ⟨g32, h⟩ := gd_at h
          refine va_iald hx hb hK hP 2 1 rfl rfl (inB_in g32) d_M_against_95 ?_
          refine lv_iload hx hb d_M_against_96 (lv_at hl 4 rfl) ?_
          refine lv_iadd hx hb d_M_against_98 ?_
          obtain ⟨g33, h⟩ := gd_at h
          refine va_iald hx hb hK hP 1 1 rfl rfl (inB_in g33) d_M_against_99 ?_
          refine lv_aload_n hx hb d_M_against_100 rfl (lv_at hl 0 rfl) ?_
          refine va_get (D := D) (ci := 9) (v := .ref a_t_toldBytes) (C := "PageFormModel") (T := F_M) (N := 41) hx hb hts in_M hown hK hP 0 rfl rfl 40 (by decide) (hts _ fl_M_81) (fun _ h9 => h9) rfl d_M_against_101 ?_
          refine lv_sipush (v := 256) hx hb d_M_against_104 (by decide) ?_
          refine lv_iload_n hx hb d_M_against_107 rfl (lv_at hl 2 rfl) ?_
          refine lv_imul hx hb d_M_against_108 ?_
          refine lv_iload hx hb d_M_against_109 (lv_at hl 4 rfl) ?_
          refine lv_iadd hx hb d_M_against_111 ?_
          obtain ⟨g34, h⟩ := gd_at h
          refine va_iald hx hb hK hP 5 1 rfl rfl (inB_in g34) d_M_against_112 ?_
          refine lv_icmp_eq (tgt := 145) hx hb d_M_against_113 (by decide) (fun c => ?_) (fun c => ?_)
          · have h := ift_at h c
            obtain ⟨x35, ex35⟩ : ∃ z : Int32, z = v4 + (1 : Int32) := ⟨_, rfl⟩
            have h := bnd_at h ex35
            refine lv_iinc (v := x35) (lv' := [(4, .int x35), (0, .ref a_t), (1, .int v1), (2, .int v2), (3, .int v3)]) hx hb d_M_against_145 hl (k := 4) rfl (by rw [ex35]; rfl) (by decide) rfl (fun ls hl => ?_)
            refine lv_goto (tgt := 69) hx hb d_M_against_148 (by decide) ?_
            have h := lp_go h hc69
            exact ih69 v3 x35 o _ _ ls hP hD hS (lv_sub hl [1, 2, 3, 4, 0] rfl) h hx69
          · have h := iff_at h c
            obtain rfl := lp_out h hc69
            exact J116 v4 _ _ ls hP hD hS (lv_sub hl [0, 1, 2, 4] rfl) hx69
  unfold f_M_against at h
  refine lv_aload_n hx hb d_M_against_0 rfl (lv_at hl 0 rfl) ?_
  refine va_get (D := D) (ci := 9) (v := .int t_type) (C := "PageFormModel") (T := F_M) (N := 41) hx hb hts in_M hown hK hP 0 rfl rfl 1 (by decide) (hts _ fl_M_181) (fun _ h9 => h9) rfl d_M_against_1 ?_
  refine lv_iconst (v := 3) hx hb d_M_against_4 (by decide) ?_
  refine lv_icmp_eq (tgt := 50) hx hb d_M_against_5 (by decide) (fun c => ?_) (fun c => ?_)
  · have h := ift_at h c
    refine lv_aload_n hx hb d_M_against_50 rfl (lv_at hl 0 rfl) ?_
    refine va_get (D := D) (ci := 9) (v := .ref a_t_newFrom) (C := "PageFormModel") (T := F_M) (N := 41) hx hb hts in_M hown hK hP 0 rfl rfl 16 (by decide) (hts _ fl_M_35) (fun _ h9 => h9) rfl d_M_against_51 ?_
    refine lv_iload_n hx hb d_M_against_54 rfl (lv_at hl 1 rfl) ?_
    refine lv_iconst (v := 1) hx hb d_M_against_55 (by decide) ?_
    refine lv_iadd hx hb d_M_against_56 ?_
    obtain ⟨g60, h⟩ := gd_at h
    refine va_iald hx hb hK hP 2 1 rfl rfl (inB_in g60) d_M_against_57 ?_
    refine lv_aload_n hx hb d_M_against_58 rfl (lv_at hl 0 rfl) ?_
    refine va_get (D := D) (ci := 9) (v := .ref a_t_newFrom) (C := "PageFormModel") (T := F_M) (N := 41) hx hb hts in_M hown hK hP 0 rfl rfl 16 (by decide) (hts _ fl_M_35) (fun _ h9 => h9) rfl d_M_against_59 ?_
    refine lv_iload_n hx hb d_M_against_62 rfl (lv_at hl 1 rfl) ?_
    obtain ⟨g61, h⟩ := gd_at h
    refine va_iald hx hb hK hP 2 1 rfl rfl (inB_in g61) d_M_against_63 ?_
    refine lv_isub hx hb d_M_against_64 ?_
    refine lv_topi (fun x62 ex62 => ?_)
    have h := bnd_at h ex62
    refine lv_istore_n (lv' := [(3, .int x62), (0, .ref a_t), (1, .int v1), (2, .int v2)]) hx hb d_M_against_65 rfl hl (by decide) rfl (fun ls hl => ?_)
    refine lv_iconst (v := 0) hx hb d_M_against_66 (by decide) ?_
    refine lv_istore (lv' := [(4, .int (0 : Int32)), (3, .int x62), (0, .ref a_t), (1, .int v1), (2, .int v2)]) hx hb d_M_against_67 hl (by decide) rfl (fun ls hl => ?_)
    obtain ⟨o63, ho63, h⟩ := obd_at h
    exact L69 n x62 (0 : Int32) o63 _ _ ls hP hD hS (lv_sub hl [2, 3, 4, 1, 0] rfl) ho63 h
  · have h := iff_at h c
    refine lv_aload_n hx hb d_M_against_8 rfl (lv_at hl 0 rfl) ?_
    refine va_get (D := D) (ci := 9) (v := .ref a_t_newWholes) (C := "PageFormModel") (T := F_M) (N := 41) hx hb hts in_M hown hK hP 0 rfl rfl 13 (by decide) (hts _ fl_M_26) (fun _ h9 => h9) rfl d_M_against_9 ?_
    refine lv_iload_n hx hb d_M_against_12 rfl (lv_at hl 1 rfl) ?_
    obtain ⟨g64, h⟩ := gd_at h
    refine va_lald hx hb hK hP 3 2 rfl rfl (inB_in g64) d_M_against_13 ?_
    refine lv_aload_n hx hb d_M_against_14 rfl (lv_at hl 0 rfl) ?_
    refine va_get (D := D) (ci := 9) (v := .ref a_t_told2) (C := "PageFormModel") (T := F_M) (N := 41) hx hb hts in_M hown hK hP 0 rfl rfl 38 (by decide) (hts _ fl_M_75) (fun _ h9 => h9) rfl d_M_against_15 ?_
    refine lv_iload_n hx hb d_M_against_18 rfl (lv_at hl 2 rfl) ?_
    obtain ⟨g65, h⟩ := gd_at h
    refine va_lald hx hb hK hP 4 2 rfl rfl (inB_in g65) d_M_against_19 ?_
    refine W.lcmp hx hb d_M_against_20 ?_
    refine lv_if_ge (tgt := 28) hx hb d_M_against_21 (by decide) (fun c => ?_) (fun c => ?_)
    · have c := zc_ge.mp c
      have h := ift_at h c
      refine lv_aload_n hx hb d_M_against_28 rfl (lv_at hl 0 rfl) ?_
      refine va_get (D := D) (ci := 9) (v := .ref a_t_newWholes) (C := "PageFormModel") (T := F_M) (N := 41) hx hb hts in_M hown hK hP 0 rfl rfl 13 (by decide) (hts _ fl_M_26) (fun _ h9 => h9) rfl d_M_against_29 ?_
      refine lv_iload_n hx hb d_M_against_32 rfl (lv_at hl 1 rfl) ?_
      obtain ⟨g66, h⟩ := gd_at h
      refine va_lald hx hb hK hP 3 2 rfl rfl (inB_in g66) d_M_against_33 ?_
      refine lv_aload_n hx hb d_M_against_34 rfl (lv_at hl 0 rfl) ?_
      refine va_get (D := D) (ci := 9) (v := .ref a_t_told2) (C := "PageFormModel") (T := F_M) (N := 41) hx hb hts in_M hown hK hP 0 rfl rfl 38 (by decide) (hts _ fl_M_75) (fun _ h9 => h9) rfl d_M_against_35 ?_
      refine lv_iload_n hx hb d_M_against_38 rfl (lv_at hl 2 rfl) ?_
      obtain ⟨g67, h⟩ := gd_at h
      refine va_lald hx hb hK hP 4 2 rfl rfl (inB_in g67) d_M_against_39 ?_
      refine W.lcmp hx hb d_M_against_40 ?_
      refine lv_if_le (tgt := 48) hx hb d_M_against_41 (by decide) (fun c => ?_) (fun c => ?_)
      · have c := zc_le.mp c
        have h := ift_at h c
        refine lv_iconst (v := 0) hx hb d_M_against_48 (by decide) ?_
        exact ret2 _ (Option.some.inj h) d_M_against_49 hP hD hS
      · have c := mt zc_le.mpr c
        have h := iff_at h c
        refine lv_iconst (v := 1) hx hb d_M_against_44 (by decide) ?_
        refine lv_goto (tgt := 49) hx hb d_M_against_45 (by decide) ?_
        exact ret2 _ (Option.some.inj h) d_M_against_49 hP hD hS
    · have c := mt zc_ge.mpr c
      have h := iff_at h c
      refine lv_iconst (v := (-1)) hx hb d_M_against_24 (by decide) ?_
      refine lv_goto (tgt := 49) hx hb d_M_against_25 (by decide) ?_
      exact ret2 _ (Option.some.inj h) d_M_against_49 hP hD hS

def rm_M_isMost : Room := { frames := 1, cells := 0, slots := 0, locals := 24 }
def f_M_isMost_j73 (v3 : Int32) (v4 : Int32) : Option (Int32) :=
  (if v3 = 0 then some (0 : Int32) else (if v4 = 0 then some (1 : Int32) else some (0 : Int32)))
def f_M_isMost_j60 (v3 : Int32) (v5 : Int32) : Option ((Int32 × Int32 × Int32) ⊕ ((Int32 × Int32 × Int32))) :=
  bnd (v5 + (1 : Int32)) (fun x3 => some (Sum.inl (v3, (1 : Int32), x3)))
def f_M_isMost_j37 (v2 : Int32) (v4 : Int32) (v5 : Int32) (v6 : Int32) (k0 : Int32) : Option ((Int32 × Int32 × Int32) ⊕ ((Int32 × Int32 × Int32))) :=
  (if v4 = 0 then (if v2 = 0 then (if 0 ≤ v6 then bnd (v5 + (1 : Int32)) (fun x10 => some (Sum.inl (k0, (0 : Int32), x10))) else f_M_isMost_j60 k0 v5) else (if v6 ≤ 0 then bnd (v5 + (1 : Int32)) (fun x8 => some (Sum.inl (k0, (0 : Int32), x8))) else f_M_isMost_j60 k0 v5)) else f_M_isMost_j60 k0 v5)
def f_M_isMost_j32 (v2 : Int32) (v4 : Int32) (v5 : Int32) (v6 : Int32) : Option ((Int32 × Int32 × Int32) ⊕ ((Int32 × Int32 × Int32))) :=
  f_M_isMost_j37 v2 v4 v5 v6 (1 : Int32)
def f_M_isMost_l8 (n : Nat) (t_newBytes_n : Nat) (t_newFrom_n : Nat) (t_newWholes_n : Nat) (t_told2_n : Nat) (t_toldBytes_n : Nat) (t_toldSize_n : Nat) (t_type : Int32) (t_newBytes : Nat → Int32) (t_newFrom : Nat → Int32) (t_newWholes : Nat → Int64) (t_told2 : Nat → Int64) (t_toldBytes : Nat → Int32) (t_toldSize : Nat → Int32) (v1 : Int32) (v2 : Int32) (v3 : Int32) (v4 : Int32) (v5 : Int32) : Option ((Int32 × Int32 × Int32) ⊕ ((Int32 × Int32 × Int32))) :=
  (if v1 ≤ v5 then some (Sum.inr ((v3, v4, v5))) else Option.bind (f_M_against n t_newBytes_n t_newFrom_n t_newWholes_n t_told2_n t_toldBytes_n t_toldSize_n t_type t_newBytes t_newFrom t_newWholes t_told2 t_toldBytes t_toldSize v5 v2) (fun o19 => (if v3 = 0 then (if o19 = 0 then f_M_isMost_j32 v2 v4 v5 o19 else f_M_isMost_j37 v2 v4 v5 o19 (0 : Int32)) else f_M_isMost_j32 v2 v4 v5 o19)))
def f_M_isMost (n : Nat) (t_newBytes_n : Nat) (t_newFrom_n : Nat) (t_newWholes_n : Nat) (t_told2_n : Nat) (t_toldBytes_n : Nat) (t_toldSize_n : Nat) (t_type : Int32) (t_newBytes : Nat → Int32) (t_newFrom : Nat → Int32) (t_newWholes : Nat → Int64) (t_told2 : Nat → Int64) (t_toldBytes : Nat → Int32) (t_toldSize : Nat → Int32) (v1 : Int32) (v2 : Int32) : Option (Int32) :=
  Option.bind (lp (fun v => f_M_isMost_l8 n t_newBytes_n t_newFrom_n t_newWholes_n t_told2_n t_toldBytes_n t_toldSize_n t_type t_newBytes t_newFrom t_newWholes t_told2 t_toldBytes t_toldSize v1 v2 v.1 v.2.1 v.2.2) n ((0 : Int32), (0 : Int32), (0 : Int32))) (fun o => f_M_isMost_j73 o.1 o.2.1)
set_option maxHeartbeats 4000000 in
set_option maxRecDepth 100000 in
theorem c_M_isMost (l : Launch) (D : va_G) (k : ClassId × ClassId × ClassId) (a_t a_t_repetitions a_t_definitions a_t_newRepetitions a_t_newDefinitions a_t_wholes a_t_newWholes a_t_words8 a_t_from a_t_newFrom a_t_wordFrom a_t_bytes a_t_newBytes a_t_wordBytes a_t_tape a_t_input a_t_out a_t_body a_t_longs a_t_numbers a_t_common a_t_more a_t_told2 a_t_toldSize a_t_toldBytes : Nat) (t_newBytes_n t_newFrom_n t_newWholes_n t_told2_n t_toldBytes_n t_toldSize_n : Nat) (t_code : Int32) (t_type : Int32) (t_mostR : Int32) (t_mostD : Int32) (t_entries : Int32) (t_values : Int32) (t_coding : Int32) (t_bodySize : Int32) (t_newCount : Int32) (t_words : Int32) (t_taped : Int32) (t_inputSize : Int32) (t_outSize : Int32) (t_at : Int32) (t_stop : Int32) (t_fault : Int32) (t_longCount : Int32) (t_newBytes : Nat → Int32) (t_newFrom : Nat → Int32) (t_newWholes : Nat → Int64) (t_told2 : Nat → Int64) (t_toldBytes : Nat → Int32) (t_toldSize : Nat → Int32) (v1 : Int32) (v2 : Int32) (n : Nat) (out : Int32) (h : f_M_isMost n t_newBytes_n t_newFrom_n t_newWholes_n t_told2_n t_toldBytes_n t_toldSize_n t_type t_newBytes t_newFrom t_newWholes t_told2 t_toldBytes t_toldSize v1 v2 = some out) : Ct l D k y_M_isMost b_M_isMost 7 (some .boolean) rm_M_isMost [.ref a_t, .int v1, .int v2] [(a_t, .inr (9, [.int t_code, .int t_type, .int t_mostR, .int t_mostD, .int t_entries, .int t_values, .int t_coding, .int t_bodySize, .ref a_t_repetitions, .ref a_t_definitions, .ref a_t_newRepetitions, .ref a_t_newDefinitions, .ref a_t_wholes, .ref a_t_newWholes, .ref a_t_words8, .ref a_t_from, .ref a_t_newFrom, .ref a_t_wordFrom, .ref a_t_bytes, .ref a_t_newBytes, .ref a_t_wordBytes, .int t_newCount, .int t_words, .ref a_t_tape, .ref a_t_input, .ref a_t_out, .ref a_t_body, .int t_taped, .int t_inputSize, .int t_outSize, .int t_at, .int t_stop, .int t_fault, .ref a_t_longs, .int t_longCount, .ref a_t_numbers, .ref a_t_common, .ref a_t_more, .ref a_t_told2, .ref a_t_toldSize, .ref a_t_toldBytes])), (a_t_newBytes, .inl (k.2.1, t_newBytes_n, .inl t_newBytes)), (a_t_newFrom, .inl (k.2.1, t_newFrom_n, .inl t_newFrom)), (a_t_newWholes, .inl (k.2.2, t_newWholes_n, .inr (.inl t_newWholes))), (a_t_told2, .inl (k.2.2, t_told2_n, .inr (.inl t_told2))), (a_t_toldBytes, .inl (k.2.1, t_toldBytes_n, .inl t_toldBytes)), (a_t_toldSize, .inl (k.2.1, t_toldSize_n, .inl t_toldSize))] [(a_t, .inr (9, [.int t_code, .int t_type, .int t_mostR, .int t_mostD, .int t_entries, .int t_values, .int t_coding, .int t_bodySize, .ref a_t_repetitions, .ref a_t_definitions, .ref a_t_newRepetitions, .ref a_t_newDefinitions, .ref a_t_wholes, .ref a_t_newWholes, .ref a_t_words8, .ref a_t_from, .ref a_t_newFrom, .ref a_t_wordFrom, .ref a_t_bytes, .ref a_t_newBytes, .ref a_t_wordBytes, .int t_newCount, .int t_words, .ref a_t_tape, .ref a_t_input, .ref a_t_out, .ref a_t_body, .int t_taped, .int t_inputSize, .int t_outSize, .int t_at, .int t_stop, .int t_fault, .ref a_t_longs, .int t_longCount, .ref a_t_numbers, .ref a_t_common, .ref a_t_more, .ref a_t_told2, .ref a_t_toldSize, .ref a_t_toldBytes])), (a_t_newBytes, .inl (k.2.1, t_newBytes_n, .inl t_newBytes)), (a_t_newFrom, .inl (k.2.1, t_newFrom_n, .inl t_newFrom)), (a_t_newWholes, .inl (k.2.2, t_newWholes_n, .inr (.inl t_newWholes))), (a_t_told2, .inl (k.2.2, t_told2_n, .inr (.inl t_told2))), (a_t_toldBytes, .inl (k.2.1, t_toldBytes_n, .inl t_toldBytes)), (a_t_toldSize, .inl (k.2.1, t_toldSize_n, .inl t_toldSize))] (some (.int out)) := by
  refine Ct.ofZ (by decide) (Nat.le_of_ble_eq_true rfl) ?_
  intro p e s m args below meth c A Q ls hx hb hml hown hts hA hK hP hD hS hE hl ret
  have hown : s.vm.findClass "PageFormModel" = some m.cls := hown
  have hl : lv_has ls 7 [(0, .ref a_t), (1, .int v1), (2, .int v2)] := hl
  have ret2 : ∀ (y0 : Int32) (_ : y0 = out) {pc : Nat} {ls : Array Slot} {H : Heap} {locs : List Loc}, decode b_M_isMost pc = .ok (.ireturn, 1) → narrow .boolean (.int y0) = .int y0 → va_P D CL [(a_t, .inr (9, [.int t_code, .int t_type, .int t_mostR, .int t_mostD, .int t_entries, .int t_values, .int t_coding, .int t_bodySize, .ref a_t_repetitions, .ref a_t_definitions, .ref a_t_newRepetitions, .ref a_t_newDefinitions, .ref a_t_wholes, .ref a_t_newWholes, .ref a_t_words8, .ref a_t_from, .ref a_t_newFrom, .ref a_t_wordFrom, .ref a_t_bytes, .ref a_t_newBytes, .ref a_t_wordBytes, .int t_newCount, .int t_words, .ref a_t_tape, .ref a_t_input, .ref a_t_out, .ref a_t_body, .int t_taped, .int t_inputSize, .int t_outSize, .int t_at, .int t_stop, .int t_fault, .ref a_t_longs, .int t_longCount, .ref a_t_numbers, .ref a_t_common, .ref a_t_more, .ref a_t_told2, .ref a_t_toldSize, .ref a_t_toldBytes])), (a_t_newBytes, .inl (k.2.1, t_newBytes_n, .inl t_newBytes)), (a_t_newFrom, .inl (k.2.1, t_newFrom_n, .inl t_newFrom)), (a_t_newWholes, .inl (k.2.2, t_newWholes_n, .inr (.inl t_newWholes))), (a_t_told2, .inl (k.2.2, t_told2_n, .inr (.inl t_told2))), (a_t_toldBytes, .inl (k.2.1, t_toldBytes_n, .inl t_toldBytes)), (a_t_toldSize, .inl (k.2.1, t_toldSize_n, .inl t_toldSize))] H → va_D A [(a_t, .inr (9, [.int t_code, .int t_type, .int t_mostR, .int t_mostD, .int t_entries, .int t_values, .int t_coding, .int t_bodySize, .ref a_t_repetitions, .ref a_t_definitions, .ref a_t_newRepetitions, .ref a_t_newDefinitions, .ref a_t_wholes, .ref a_t_newWholes, .ref a_t_words8, .ref a_t_from, .ref a_t_newFrom, .ref a_t_wordFrom, .ref a_t_bytes, .ref a_t_newBytes, .ref a_t_wordBytes, .int t_newCount, .int t_words, .ref a_t_tape, .ref a_t_input, .ref a_t_out, .ref a_t_body, .int t_taped, .int t_inputSize, .int t_outSize, .int t_at, .int t_stop, .int t_fault, .ref a_t_longs, .int t_longCount, .ref a_t_numbers, .ref a_t_common, .ref a_t_more, .ref a_t_told2, .ref a_t_toldSize, .ref a_t_toldBytes])), (a_t_newBytes, .inl (k.2.1, t_newBytes_n, .inl t_newBytes)), (a_t_newFrom, .inl (k.2.1, t_newFrom_n, .inl t_newFrom)), (a_t_newWholes, .inl (k.2.2, t_newWholes_n, .inr (.inl t_newWholes))), (a_t_told2, .inl (k.2.2, t_told2_n, .inr (.inl t_told2))), (a_t_toldBytes, .inl (k.2.1, t_toldBytes_n, .inl t_toldBytes)), (a_t_toldSize, .inl (k.2.1, t_toldSize_n, .inl t_toldSize))] → va_S A s.heap H locs → W p l e rm_M_isMost s m args below meth c H locs 0 0 Q (F0 m pc ls [.int y0]) := by
    intro y0 e0; subst e0; exact ret
  clear ret
  have J73 : ∀ (v3 : Int32) (v4 : Int32) (H : Heap) (locs : List Loc) (ls : Array Slot), va_P D CL [(a_t, .inr (9, [.int t_code, .int t_type, .int t_mostR, .int t_mostD, .int t_entries, .int t_values, .int t_coding, .int t_bodySize, .ref a_t_repetitions, .ref a_t_definitions, .ref a_t_newRepetitions, .ref a_t_newDefinitions, .ref a_t_wholes, .ref a_t_newWholes, .ref a_t_words8, .ref a_t_from, .ref a_t_newFrom, .ref a_t_wordFrom, .ref a_t_bytes, .ref a_t_newBytes, .ref a_t_wordBytes, .int t_newCount, .int t_words, .ref a_t_tape, .ref a_t_input, .ref a_t_out, .ref a_t_body, .int t_taped, .int t_inputSize, .int t_outSize, .int t_at, .int t_stop, .int t_fault, .ref a_t_longs, .int t_longCount, .ref a_t_numbers, .ref a_t_common, .ref a_t_more, .ref a_t_told2, .ref a_t_toldSize, .ref a_t_toldBytes])), (a_t_newBytes, .inl (k.2.1, t_newBytes_n, .inl t_newBytes)), (a_t_newFrom, .inl (k.2.1, t_newFrom_n, .inl t_newFrom)), (a_t_newWholes, .inl (k.2.2, t_newWholes_n, .inr (.inl t_newWholes))), (a_t_told2, .inl (k.2.2, t_told2_n, .inr (.inl t_told2))), (a_t_toldBytes, .inl (k.2.1, t_toldBytes_n, .inl t_toldBytes)), (a_t_toldSize, .inl (k.2.1, t_toldSize_n, .inl t_toldSize))] H → va_D A [(a_t, .inr (9, [.int t_code, .int t_type, .int t_mostR, .int t_mostD, .int t_entries, .int t_values, .int t_coding, .int t_bodySize, .ref a_t_repetitions, .ref a_t_definitions, .ref a_t_newRepetitions, .ref a_t_newDefinitions, .ref a_t_wholes, .ref a_t_newWholes, .ref a_t_words8, .ref a_t_from, .ref a_t_newFrom, .ref a_t_wordFrom, .ref a_t_bytes, .ref a_t_newBytes, .ref a_t_wordBytes, .int t_newCount, .int t_words, .ref a_t_tape, .ref a_t_input, .ref a_t_out, .ref a_t_body, .int t_taped, .int t_inputSize, .int t_outSize, .int t_at, .int t_stop, .int t_fault, .ref a_t_longs, .int t_longCount, .ref a_t_numbers, .ref a_t_common, .ref a_t_more, .ref a_t_told2, .ref a_t_toldSize, .ref a_t_toldBytes])), (a_t_newBytes, .inl (k.2.1, t_newBytes_n, .inl t_newBytes)), (a_t_newFrom, .inl (k.2.1, t_newFrom_n, .inl t_newFrom)), (a_t_newWholes, .inl (k.2.2, t_newWholes_n, .inr (.inl t_newWholes))), (a_t_told2, .inl (k.2.2, t_told2_n, .inr (.inl t_told2))), (a_t_toldBytes, .inl (k.2.1, t_toldBytes_n, .inl t_toldBytes)), (a_t_toldSize, .inl (k.2.1, t_toldSize_n, .inl t_toldSize))] → va_S A s.heap H locs → lv_has ls 7 [(3, .int v3), (4, .int v4)] → f_M_isMost_j73 v3 v4 = some out → W p l e rm_M_isMost s m args below meth c H locs 0 0 Q (F0 m 73 ls []) := by
    intro v3 v4 H locs ls hP hD hS hl h
    unfold f_M_isMost_j73 at h
    refine lv_iload_n hx hb d_M_isMost_73 rfl (lv_at hl 0 rfl) ?_
    refine lv_if_eq (tgt := 86) hx hb d_M_isMost_74 (by decide) (fun c => ?_) (fun c => ?_)
    · have h := ift_at h c
      refine lv_iconst (v := 0) hx hb d_M_isMost_86 (by decide) ?_
      exact ret2 _ (Option.some.inj h) d_M_isMost_87 nb0 hP hD hS
    · have h := iff_at h c
      refine lv_iload hx hb d_M_isMost_77 (lv_at hl 1 rfl) ?_
      refine lv_if_ne (tgt := 86) hx hb d_M_isMost_79 (by decide) (fun c => ?_) (fun c => ?_)
      · have h := iff_at h c
        refine lv_iconst (v := 0) hx hb d_M_isMost_86 (by decide) ?_
        exact ret2 _ (Option.some.inj h) d_M_isMost_87 nb0 hP hD hS
      · have h := ift_at h c
        refine lv_iconst (v := 1) hx hb d_M_isMost_82 (by decide) ?_
        refine lv_goto (tgt := 87) hx hb d_M_isMost_83 (by decide) ?_
        exact ret2 _ (Option.some.inj h) d_M_isMost_87 nb1 hP hD hS
  have L8 : ∀ (K : Nat) (v3 : Int32) (v4 : Int32) (v5 : Int32) (o : (Int32 × Int32 × Int32)) (H : Heap) (locs : List Loc) (ls : Array Slot), va_P D CL [(a_t, .inr (9, [.int t_code, .int t_type, .int t_mostR, .int t_mostD, .int t_entries, .int t_values, .int t_coding, .int t_bodySize, .ref a_t_repetitions, .ref a_t_definitions, .ref a_t_newRepetitions, .ref a_t_newDefinitions, .ref a_t_wholes, .ref a_t_newWholes, .ref a_t_words8, .ref a_t_from, .ref a_t_newFrom, .ref a_t_wordFrom, .ref a_t_bytes, .ref a_t_newBytes, .ref a_t_wordBytes, .int t_newCount, .int t_words, .ref a_t_tape, .ref a_t_input, .ref a_t_out, .ref a_t_body, .int t_taped, .int t_inputSize, .int t_outSize, .int t_at, .int t_stop, .int t_fault, .ref a_t_longs, .int t_longCount, .ref a_t_numbers, .ref a_t_common, .ref a_t_more, .ref a_t_told2, .ref a_t_toldSize, .ref a_t_toldBytes])), (a_t_newBytes, .inl (k.2.1, t_newBytes_n, .inl t_newBytes)), (a_t_newFrom, .inl (k.2.1, t_newFrom_n, .inl t_newFrom)), (a_t_newWholes, .inl (k.2.2, t_newWholes_n, .inr (.inl t_newWholes))), (a_t_told2, .inl (k.2.2, t_told2_n, .inr (.inl t_told2))), (a_t_toldBytes, .inl (k.2.1, t_toldBytes_n, .inl t_toldBytes)), (a_t_toldSize, .inl (k.2.1, t_toldSize_n, .inl t_toldSize))] H → va_D A [(a_t, .inr (9, [.int t_code, .int t_type, .int t_mostR, .int t_mostD, .int t_entries, .int t_values, .int t_coding, .int t_bodySize, .ref a_t_repetitions, .ref a_t_definitions, .ref a_t_newRepetitions, .ref a_t_newDefinitions, .ref a_t_wholes, .ref a_t_newWholes, .ref a_t_words8, .ref a_t_from, .ref a_t_newFrom, .ref a_t_wordFrom, .ref a_t_bytes, .ref a_t_newBytes, .ref a_t_wordBytes, .int t_newCount, .int t_words, .ref a_t_tape, .ref a_t_input, .ref a_t_out, .ref a_t_body, .int t_taped, .int t_inputSize, .int t_outSize, .int t_at, .int t_stop, .int t_fault, .ref a_t_longs, .int t_longCount, .ref a_t_numbers, .ref a_t_common, .ref a_t_more, .ref a_t_told2, .ref a_t_toldSize, .ref a_t_toldBytes])), (a_t_newBytes, .inl (k.2.1, t_newBytes_n, .inl t_newBytes)), (a_t_newFrom, .inl (k.2.1, t_newFrom_n, .inl t_newFrom)), (a_t_newWholes, .inl (k.2.2, t_newWholes_n, .inr (.inl t_newWholes))), (a_t_told2, .inl (k.2.2, t_told2_n, .inr (.inl t_told2))), (a_t_toldBytes, .inl (k.2.1, t_toldBytes_n, .inl t_toldBytes)), (a_t_toldSize, .inl (k.2.1, t_toldSize_n, .inl t_toldSize))] → va_S A s.heap H locs → lv_has ls 7 [(0, .ref a_t), (1, .int v1), (2, .int v2), (3, .int v3), (4, .int v4), (5, .int v5)] → lp (fun v => f_M_isMost_l8 n t_newBytes_n t_newFrom_n t_newWholes_n t_told2_n t_toldBytes_n t_toldSize_n t_type t_newBytes t_newFrom t_newWholes t_told2 t_toldBytes t_toldSize v1 v2 v.1 v.2.1 v.2.2) K (v3, v4, v5) = some o → (fun o => f_M_isMost_j73 o.1 o.2.1) o = some out → W p l e rm_M_isMost s m args below meth c H locs 0 0 Q (F0 m 8 ls []) := by
    intro K
    induction K with
    | zero => intros; exact absurd (by assumption) lp_no
    | succ K ih8 =>
      intro v3 v4 v5 o H locs ls hP hD hS hl h0 hx8
      obtain ⟨b8, h, hc8⟩ := lp_at h0
      have h : f_M_isMost_l8 n t_newBytes_n t_newFrom_n t_newWholes_n t_told2_n t_toldBytes_n t_toldSize_n t_type t_newBytes t_newFrom t_newWholes t_told2 t_toldBytes t_toldSize v1 v2 v3 v4 v5 = some b8 := h
      have J60 : ∀ (v3 : Int32) (v5 : Int32) (H : Heap) (locs : List Loc) (ls : Array Slot), va_P D CL [(a_t, .inr (9, [.int t_code, .int t_type, .int t_mostR, .int t_mostD, .int t_entries, .int t_values, .int t_coding, .int t_bodySize, .ref a_t_repetitions, .ref a_t_definitions, .ref a_t_newRepetitions, .ref a_t_newDefinitions, .ref a_t_wholes, .ref a_t_newWholes, .ref a_t_words8, .ref a_t_from, .ref a_t_newFrom, .ref a_t_wordFrom, .ref a_t_bytes, .ref a_t_newBytes, .ref a_t_wordBytes, .int t_newCount, .int t_words, .ref a_t_tape, .ref a_t_input, .ref a_t_out, .ref a_t_body, .int t_taped, .int t_inputSize, .int t_outSize, .int t_at, .int t_stop, .int t_fault, .ref a_t_longs, .int t_longCount, .ref a_t_numbers, .ref a_t_common, .ref a_t_more, .ref a_t_told2, .ref a_t_toldSize, .ref a_t_toldBytes])), (a_t_newBytes, .inl (k.2.1, t_newBytes_n, .inl t_newBytes)), (a_t_newFrom, .inl (k.2.1, t_newFrom_n, .inl t_newFrom)), (a_t_newWholes, .inl (k.2.2, t_newWholes_n, .inr (.inl t_newWholes))), (a_t_told2, .inl (k.2.2, t_told2_n, .inr (.inl t_told2))), (a_t_toldBytes, .inl (k.2.1, t_toldBytes_n, .inl t_toldBytes)), (a_t_toldSize, .inl (k.2.1, t_toldSize_n, .inl t_toldSize))] H → va_D A [(a_t, .inr (9, [.int t_code, .int t_type, .int t_mostR, .int t_mostD, .int t_entries, .int t_values, .int t_coding, .int t_bodySize, .ref a_t_repetitions, .ref a_t_definitions, .ref a_t_newRepetitions, .ref a_t_newDefinitions, .ref a_t_wholes, .ref a_t_newWholes, .ref a_t_words8, .ref a_t_from, .ref a_t_newFrom, .ref a_t_wordFrom, .ref a_t_bytes, .ref a_t_newBytes, .ref a_t_wordBytes, .int t_newCount, .int t_words, .ref a_t_tape, .ref a_t_input, .ref a_t_out, .ref a_t_body, .int t_taped, .int t_inputSize, .int t_outSize, .int t_at, .int t_stop, .int t_fault, .ref a_t_longs, .int t_longCount, .ref a_t_numbers, .ref a_t_common, .ref a_t_more, .ref a_t_told2, .ref a_t_toldSize, .ref a_t_toldBytes])), (a_t_newBytes, .inl (k.2.1, t_newBytes_n, .inl t_newBytes)), (a_t_newFrom, .inl (k.2.1, t_newFrom_n, .inl t_newFrom)), (a_t_newWholes, .inl (k.2.2, t_newWholes_n, .inr (.inl t_newWholes))), (a_t_told2, .inl (k.2.2, t_told2_n, .inr (.inl t_told2))), (a_t_toldBytes, .inl (k.2.1, t_toldBytes_n, .inl t_toldBytes)), (a_t_toldSize, .inl (k.2.1, t_toldSize_n, .inl t_toldSize))] → va_S A s.heap H locs → lv_has ls 7 [(0, .ref a_t), (1, .int v1), (2, .int v2), (3, .int v3), (5, .int v5)] → f_M_isMost_j60 v3 v5 = some b8 → W p l e rm_M_isMost s m args below meth c H locs 0 0 Q (F0 m 60 ls []) := by
        intro v3 v5 H locs ls hP hD hS hl h
        unfold f_M_isMost_j60 at h
        refine lv_iconst (v := 1) hx hb d_M_isMost_60 (by decide) ?_
        refine lv_goto (tgt := 65) hx hb d_M_isMost_61 (by decide) ?_
        refine lv_istore (lv' := [(4, .int (1 : Int32)), (0, .ref a_t), (1, .int v1), (2, .int v2), (3, .int v3), (5, .int v5)]) hx hb d_M_isMost_65 hl (by decide) rfl (fun ls hl => ?_)
        obtain ⟨x3, ex3⟩ : ∃ z : Int32, z = v5 + (1 : Int32) := ⟨_, rfl⟩
        have h := bnd_at h ex3
        refine lv_iinc (v := x3) (lv' := [(5, .int x3), (4, .int (1 : Int32)), (0, .ref a_t), (1, .int v1), (2, .int v2), (3, .int v3)]) hx hb d_M_isMost_67 hl (k := 5) rfl (by rw [ex3]; rfl) (by decide) rfl (fun ls hl => ?_)
        refine lv_goto (tgt := 8) hx hb d_M_isMost_70 (by decide) ?_
        have h := lp_go h hc8
        exact ih8 v3 (1 : Int32) x3 o _ _ ls hP hD hS (lv_sub hl [2, 3, 4, 5, 1, 0] rfl) h hx8
      have J37 : ∀ (v4 : Int32) (v5 : Int32) (v6 : Int32) (k0 : Int32) (H : Heap) (locs : List Loc) (ls : Array Slot), va_P D CL [(a_t, .inr (9, [.int t_code, .int t_type, .int t_mostR, .int t_mostD, .int t_entries, .int t_values, .int t_coding, .int t_bodySize, .ref a_t_repetitions, .ref a_t_definitions, .ref a_t_newRepetitions, .ref a_t_newDefinitions, .ref a_t_wholes, .ref a_t_newWholes, .ref a_t_words8, .ref a_t_from, .ref a_t_newFrom, .ref a_t_wordFrom, .ref a_t_bytes, .ref a_t_newBytes, .ref a_t_wordBytes, .int t_newCount, .int t_words, .ref a_t_tape, .ref a_t_input, .ref a_t_out, .ref a_t_body, .int t_taped, .int t_inputSize, .int t_outSize, .int t_at, .int t_stop, .int t_fault, .ref a_t_longs, .int t_longCount, .ref a_t_numbers, .ref a_t_common, .ref a_t_more, .ref a_t_told2, .ref a_t_toldSize, .ref a_t_toldBytes])), (a_t_newBytes, .inl (k.2.1, t_newBytes_n, .inl t_newBytes)), (a_t_newFrom, .inl (k.2.1, t_newFrom_n, .inl t_newFrom)), (a_t_newWholes, .inl (k.2.2, t_newWholes_n, .inr (.inl t_newWholes))), (a_t_told2, .inl (k.2.2, t_told2_n, .inr (.inl t_told2))), (a_t_toldBytes, .inl (k.2.1, t_toldBytes_n, .inl t_toldBytes)), (a_t_toldSize, .inl (k.2.1, t_toldSize_n, .inl t_toldSize))] H → va_D A [(a_t, .inr (9, [.int t_code, .int t_type, .int t_mostR, .int t_mostD, .int t_entries, .int t_values, .int t_coding, .int t_bodySize, .ref a_t_repetitions, .ref a_t_definitions, .ref a_t_newRepetitions, .ref a_t_newDefinitions, .ref a_t_wholes, .ref a_t_newWholes, .ref a_t_words8, .ref a_t_from, .ref a_t_newFrom, .ref a_t_wordFrom, .ref a_t_bytes, .ref a_t_newBytes, .ref a_t_wordBytes, .int t_newCount, .int t_words, .ref a_t_tape, .ref a_t_input, .ref a_t_out, .ref a_t_body, .int t_taped, .int t_inputSize, .int t_outSize, .int t_at, .int t_stop, .int t_fault, .ref a_t_longs, .int t_longCount, .ref a_t_numbers, .ref a_t_common, .ref a_t_more, .ref a_t_told2, .ref a_t_toldSize, .ref a_t_toldBytes])), (a_t_newBytes, .inl (k.2.1, t_newBytes_n, .inl t_newBytes)), (a_t_newFrom, .inl (k.2.1, t_newFrom_n, .inl t_newFrom)), (a_t_newWholes, .inl (k.2.2, t_newWholes_n, .inr (.inl t_newWholes))), (a_t_told2, .inl (k.2.2, t_told2_n, .inr (.inl t_told2))), (a_t_toldBytes, .inl (k.2.1, t_toldBytes_n, .inl t_toldBytes)), (a_t_toldSize, .inl (k.2.1, t_toldSize_n, .inl t_toldSize))] → va_S A s.heap H locs → lv_has ls 7 [(0, .ref a_t), (1, .int v1), (2, .int v2), (4, .int v4), (5, .int v5), (6, .int v6)] → f_M_isMost_j37 v2 v4 v5 v6 k0 = some b8 → W p l e rm_M_isMost s m args below meth c H locs 0 0 Q (F0 m 37 ls [.int k0]) := by
        intro v4 v5 v6 k0 H locs ls hP hD hS hl h
        unfold f_M_isMost_j37 at h
        refine lv_istore_n (lv' := [(3, .int k0), (0, .ref a_t), (1, .int v1), (2, .int v2), (4, .int v4), (5, .int v5), (6, .int v6)]) hx hb d_M_isMost_37 rfl hl (by decide) rfl (fun ls hl => ?_)
        refine lv_iload hx hb d_M_isMost_38 (lv_at hl 4 rfl) ?_
        refine lv_if_ne (tgt := 60) hx hb d_M_isMost_40 (by decide) (fun c => ?_) (fun c => ?_)
        · have h := iff_at h c
          exact J60 k0 v5 _ _ ls hP hD hS (lv_sub hl [1, 2, 3, 0, 5] rfl) h
        · have h := ift_at h c
          refine lv_iload_n hx hb d_M_isMost_43 rfl (lv_at hl 3 rfl) ?_
          refine lv_if_ne (tgt := 55) hx hb d_M_isMost_44 (by decide) (fun c => ?_) (fun c => ?_)
          · have h := iff_at h c
            refine lv_iload hx hb d_M_isMost_55 (lv_at hl 6 rfl) ?_
            refine lv_if_le (tgt := 64) hx hb d_M_isMost_57 (by decide) (fun c => ?_) (fun c => ?_)
            · have h := ift_at h c
              refine lv_iconst (v := 0) hx hb d_M_isMost_64 (by decide) ?_
              refine lv_istore (lv' := [(4, .int (0 : Int32)), (3, .int k0), (0, .ref a_t), (1, .int v1), (2, .int v2), (5, .int v5), (6, .int v6)]) hx hb d_M_isMost_65 hl (by decide) rfl (fun ls hl => ?_)
              obtain ⟨x8, ex8⟩ : ∃ z : Int32, z = v5 + (1 : Int32) := ⟨_, rfl⟩
              have h := bnd_at h ex8
              refine lv_iinc (v := x8) (lv' := [(5, .int x8), (4, .int (0 : Int32)), (3, .int k0), (0, .ref a_t), (1, .int v1), (2, .int v2), (6, .int v6)]) hx hb d_M_isMost_67 hl (k := 5) rfl (by rw [ex8]; rfl) (by decide) rfl (fun ls hl => ?_)
              refine lv_goto (tgt := 8) hx hb d_M_isMost_70 (by decide) ?_
              have h := lp_go h hc8
              exact ih8 k0 (0 : Int32) x8 o _ _ ls hP hD hS (lv_sub hl [3, 4, 5, 2, 1, 0] rfl) h hx8
            · have h := iff_at h c
              exact J60 k0 v5 _ _ ls hP hD hS (lv_sub hl [1, 2, 3, 0, 5] rfl) h
          · have h := ift_at h c
            refine lv_iload hx hb d_M_isMost_47 (lv_at hl 6 rfl) ?_
            refine lv_if_ge (tgt := 64) hx hb d_M_isMost_49 (by decide) (fun c => ?_) (fun c => ?_)
            · have h := ift_at h c
              refine lv_iconst (v := 0) hx hb d_M_isMost_64 (by decide) ?_
              refine lv_istore (lv' := [(4, .int (0 : Int32)), (3, .int k0), (0, .ref a_t), (1, .int v1), (2, .int v2), (5, .int v5), (6, .int v6)]) hx hb d_M_isMost_65 hl (by decide) rfl (fun ls hl => ?_)
              obtain ⟨x10, ex10⟩ : ∃ z : Int32, z = v5 + (1 : Int32) := ⟨_, rfl⟩
              have h := bnd_at h ex10
              refine lv_iinc (v := x10) (lv' := [(5, .int x10), (4, .int (0 : Int32)), (3, .int k0), (0, .ref a_t), (1, .int v1), (2, .int v2), (6, .int v6)]) hx hb d_M_isMost_67 hl (k := 5) rfl (by rw [ex10]; rfl) (by decide) rfl (fun ls hl => ?_)
              refine lv_goto (tgt := 8) hx hb d_M_isMost_70 (by decide) ?_
              have h := lp_go h hc8
              exact ih8 k0 (0 : Int32) x10 o _ _ ls hP hD hS (lv_sub hl [3, 4, 5, 2, 1, 0] rfl) h hx8
            · have h := iff_at h c
              refine lv_goto (tgt := 60) hx hb d_M_isMost_52 (by decide) ?_
              exact J60 k0 v5 _ _ ls hP hD hS (lv_sub hl [1, 2, 3, 0, 5] rfl) h
      have J32 : ∀ (v4 : Int32) (v5 : Int32) (v6 : Int32) (H : Heap) (locs : List Loc) (ls : Array Slot), va_P D CL [(a_t, .inr (9, [.int t_code, .int t_type, .int t_mostR, .int t_mostD, .int t_entries, .int t_values, .int t_coding, .int t_bodySize, .ref a_t_repetitions, .ref a_t_definitions, .ref a_t_newRepetitions, .ref a_t_newDefinitions, .ref a_t_wholes, .ref a_t_newWholes, .ref a_t_words8, .ref a_t_from, .ref a_t_newFrom, .ref a_t_wordFrom, .ref a_t_bytes, .ref a_t_newBytes, .ref a_t_wordBytes, .int t_newCount, .int t_words, .ref a_t_tape, .ref a_t_input, .ref a_t_out, .ref a_t_body, .int t_taped, .int t_inputSize, .int t_outSize, .int t_at, .int t_stop, .int t_fault, .ref a_t_longs, .int t_longCount, .ref a_t_numbers, .ref a_t_common, .ref a_t_more, .ref a_t_told2, .ref a_t_toldSize, .ref a_t_toldBytes])), (a_t_newBytes, .inl (k.2.1, t_newBytes_n, .inl t_newBytes)), (a_t_newFrom, .inl (k.2.1, t_newFrom_n, .inl t_newFrom)), (a_t_newWholes, .inl (k.2.2, t_newWholes_n, .inr (.inl t_newWholes))), (a_t_told2, .inl (k.2.2, t_told2_n, .inr (.inl t_told2))), (a_t_toldBytes, .inl (k.2.1, t_toldBytes_n, .inl t_toldBytes)), (a_t_toldSize, .inl (k.2.1, t_toldSize_n, .inl t_toldSize))] H → va_D A [(a_t, .inr (9, [.int t_code, .int t_type, .int t_mostR, .int t_mostD, .int t_entries, .int t_values, .int t_coding, .int t_bodySize, .ref a_t_repetitions, .ref a_t_definitions, .ref a_t_newRepetitions, .ref a_t_newDefinitions, .ref a_t_wholes, .ref a_t_newWholes, .ref a_t_words8, .ref a_t_from, .ref a_t_newFrom, .ref a_t_wordFrom, .ref a_t_bytes, .ref a_t_newBytes, .ref a_t_wordBytes, .int t_newCount, .int t_words, .ref a_t_tape, .ref a_t_input, .ref a_t_out, .ref a_t_body, .int t_taped, .int t_inputSize, .int t_outSize, .int t_at, .int t_stop, .int t_fault, .ref a_t_longs, .int t_longCount, .ref a_t_numbers, .ref a_t_common, .ref a_t_more, .ref a_t_told2, .ref a_t_toldSize, .ref a_t_toldBytes])), (a_t_newBytes, .inl (k.2.1, t_newBytes_n, .inl t_newBytes)), (a_t_newFrom, .inl (k.2.1, t_newFrom_n, .inl t_newFrom)), (a_t_newWholes, .inl (k.2.2, t_newWholes_n, .inr (.inl t_newWholes))), (a_t_told2, .inl (k.2.2, t_told2_n, .inr (.inl t_told2))), (a_t_toldBytes, .inl (k.2.1, t_toldBytes_n, .inl t_toldBytes)), (a_t_toldSize, .inl (k.2.1, t_toldSize_n, .inl t_toldSize))] → va_S A s.heap H locs → lv_has ls 7 [(0, .ref a_t), (1, .int v1), (2, .int v2), (4, .int v4), (5, .int v5), (6, .int v6)] → f_M_isMost_j32 v2 v4 v5 v6 = some b8 → W p l e rm_M_isMost s m args below meth c H locs 0 0 Q (F0 m 32 ls []) := by
        intro v4 v5 v6 H locs ls hP hD hS hl h
        unfold f_M_isMost_j32 at h
        refine lv_iconst (v := 1) hx hb d_M_isMost_32 (by decide) ?_
        refine lv_goto (tgt := 37) hx hb d_M_isMost_33 (by decide) ?_
        exact J37 v4 v5 v6 (1 : Int32) _ _ ls hP hD hS (lv_sub hl [0, 1, 2, 3, 4, 5] rfl) h
      unfold f_M_isMost_l8 at h
      refine lv_iload hx hb d_M_isMost_8 (lv_at hl 5 rfl) ?_
      refine lv_iload_n hx hb d_M_isMost_10 rfl (lv_at hl 1 rfl) ?_
      refine lv_icmp_ge (tgt := 73) hx hb d_M_isMost_11 (by decide) (fun c => ?_) (fun c => ?_)
      · have h := ift_at h c
        obtain rfl := lp_out h hc8
        exact J73 v3 v4 _ _ ls hP hD hS (lv_sub hl [3, 4] rfl) hx8
      · have h := iff_at h c
        refine lv_aload_n hx hb d_M_isMost_14 rfl (lv_at hl 0 rfl) ?_
        refine lv_iload hx hb d_M_isMost_15 (lv_at hl 5 rfl) ?_
        refine lv_iload_n hx hb d_M_isMost_17 rfl (lv_at hl 2 rfl) ?_
        obtain ⟨o19, ho19, h⟩ := obd_at h
        refine g_V (As := [.int v5, .int v2]) (rest := []) hx hb hml hown hts hA hK hP hD hS hE (c_M_against l D k a_t a_t_repetitions a_t_definitions a_t_newRepetitions a_t_newDefinitions a_t_wholes a_t_newWholes a_t_words8 a_t_from a_t_newFrom a_t_wordFrom a_t_bytes a_t_newBytes a_t_wordBytes a_t_tape a_t_input a_t_out a_t_body a_t_longs a_t_numbers a_t_common a_t_more a_t_told2 a_t_toldSize a_t_toldBytes t_newBytes_n t_newFrom_n t_newWholes_n t_told2_n t_toldBytes_n t_toldSize_n t_code t_type t_mostR t_mostD t_entries t_values t_coding t_bodySize t_newCount t_words t_taped t_inputSize t_outSize t_at t_stop t_fault t_longCount t_newBytes t_newFrom t_newWholes t_told2 t_toldBytes t_toldSize v5 v2 n o19 ho19) mw_M_against mi_M_against ml_M_323 [0, 1, 2, 3, 4, 5, 6] rfl (by decide) rfl rfl rfl 0 rfl rfl rfl rfl rfl hl.1 rfl (Nat.le_of_ble_eq_true rfl) ⟨Nat.zero_le _, Nat.zero_le _⟩ d_M_isMost_18 (fun H locs hP hD hS => ?_)
        have hP : va_P D CL [(a_t, .inr (9, [.int t_code, .int t_type, .int t_mostR, .int t_mostD, .int t_entries, .int t_values, .int t_coding, .int t_bodySize, .ref a_t_repetitions, .ref a_t_definitions, .ref a_t_newRepetitions, .ref a_t_newDefinitions, .ref a_t_wholes, .ref a_t_newWholes, .ref a_t_words8, .ref a_t_from, .ref a_t_newFrom, .ref a_t_wordFrom, .ref a_t_bytes, .ref a_t_newBytes, .ref a_t_wordBytes, .int t_newCount, .int t_words, .ref a_t_tape, .ref a_t_input, .ref a_t_out, .ref a_t_body, .int t_taped, .int t_inputSize, .int t_outSize, .int t_at, .int t_stop, .int t_fault, .ref a_t_longs, .int t_longCount, .ref a_t_numbers, .ref a_t_common, .ref a_t_more, .ref a_t_told2, .ref a_t_toldSize, .ref a_t_toldBytes])), (a_t_newBytes, .inl (k.2.1, t_newBytes_n, .inl t_newBytes)), (a_t_newFrom, .inl (k.2.1, t_newFrom_n, .inl t_newFrom)), (a_t_newWholes, .inl (k.2.2, t_newWholes_n, .inr (.inl t_newWholes))), (a_t_told2, .inl (k.2.2, t_told2_n, .inr (.inl t_told2))), (a_t_toldBytes, .inl (k.2.1, t_toldBytes_n, .inl t_toldBytes)), (a_t_toldSize, .inl (k.2.1, t_toldSize_n, .inl t_toldSize))] H := hP
        have hD : va_D A [(a_t, .inr (9, [.int t_code, .int t_type, .int t_mostR, .int t_mostD, .int t_entries, .int t_values, .int t_coding, .int t_bodySize, .ref a_t_repetitions, .ref a_t_definitions, .ref a_t_newRepetitions, .ref a_t_newDefinitions, .ref a_t_wholes, .ref a_t_newWholes, .ref a_t_words8, .ref a_t_from, .ref a_t_newFrom, .ref a_t_wordFrom, .ref a_t_bytes, .ref a_t_newBytes, .ref a_t_wordBytes, .int t_newCount, .int t_words, .ref a_t_tape, .ref a_t_input, .ref a_t_out, .ref a_t_body, .int t_taped, .int t_inputSize, .int t_outSize, .int t_at, .int t_stop, .int t_fault, .ref a_t_longs, .int t_longCount, .ref a_t_numbers, .ref a_t_common, .ref a_t_more, .ref a_t_told2, .ref a_t_toldSize, .ref a_t_toldBytes])), (a_t_newBytes, .inl (k.2.1, t_newBytes_n, .inl t_newBytes)), (a_t_newFrom, .inl (k.2.1, t_newFrom_n, .inl t_newFrom)), (a_t_newWholes, .inl (k.2.2, t_newWholes_n, .inr (.inl t_newWholes))), (a_t_told2, .inl (k.2.2, t_told2_n, .inr (.inl t_told2))), (a_t_toldBytes, .inl (k.2.1, t_toldBytes_n, .inl t_toldBytes)), (a_t_toldSize, .inl (k.2.1, t_toldSize_n, .inl t_toldSize))] := hD
        refine W.eq (g2 := F0 m 21 ls [.int o19]) rfl ?_
        refine lv_istore (lv' := [(6, .int o19), (0, .ref a_t), (1, .int v1), (2, .int v2), (3, .int v3), (4, .int v4), (5, .int v5)]) hx hb d_M_isMost_21 hl (by decide) rfl (fun ls hl => ?_)
        refine lv_iload_n hx hb d_M_isMost_23 rfl (lv_at hl 4 rfl) ?_
        refine lv_if_ne (tgt := 32) hx hb d_M_isMost_24 (by decide) (fun c => ?_) (fun c => ?_)
        · have h := iff_at h c
          exact J32 v4 v5 o19 _ _ ls hP hD hS (lv_sub hl [1, 2, 3, 5, 6, 0] rfl) h
        · have h := ift_at h c
          refine lv_iload hx hb d_M_isMost_27 (lv_at hl 0 rfl) ?_
          refine lv_if_ne (tgt := 36) hx hb d_M_isMost_29 (by decide) (fun c => ?_) (fun c => ?_)
          · have h := iff_at h c
            refine lv_iconst (v := 0) hx hb d_M_isMost_36 (by decide) ?_
            exact J37 v4 v5 o19 (0 : Int32) _ _ ls hP hD hS (lv_sub hl [1, 2, 3, 5, 6, 0] rfl) h
          · have h := ift_at h c
            exact J32 v4 v5 o19 _ _ ls hP hD hS (lv_sub hl [1, 2, 3, 5, 6, 0] rfl) h
  unfold f_M_isMost at h
  refine lv_iconst (v := 0) hx hb d_M_isMost_0 (by decide) ?_
  refine lv_istore_n (lv' := [(3, .int (0 : Int32)), (0, .ref a_t), (1, .int v1), (2, .int v2)]) hx hb d_M_isMost_1 rfl hl (by decide) rfl (fun ls hl => ?_)
  refine lv_iconst (v := 0) hx hb d_M_isMost_2 (by decide) ?_
  refine lv_istore (lv' := [(4, .int (0 : Int32)), (3, .int (0 : Int32)), (0, .ref a_t), (1, .int v1), (2, .int v2)]) hx hb d_M_isMost_3 hl (by decide) rfl (fun ls hl => ?_)
  refine lv_iconst (v := 0) hx hb d_M_isMost_5 (by decide) ?_
  refine lv_istore (lv' := [(5, .int (0 : Int32)), (4, .int (0 : Int32)), (3, .int (0 : Int32)), (0, .ref a_t), (1, .int v1), (2, .int v2)]) hx hb d_M_isMost_6 hl (by decide) rfl (fun ls hl => ?_)
  obtain ⟨o24, ho24, h⟩ := obd_at h
  exact L8 n (0 : Int32) (0 : Int32) (0 : Int32) o24 _ _ ls hP hD hS (lv_sub hl [3, 4, 5, 2, 1, 0] rfl) ho24 h

