def rm_M_bitsAt : Room := { frames := 0, cells := 0, slots := 0, locals := 0 }
def f_M_bitsAt_l6 (t_input_n : Nat) (t_input : Nat → Int32) (v1 : Int32) (v2 : Int32) (v3 : Int32) (v4 : Int32) (v5 : Int32) : Option ((Int32 × Int32) ⊕ ((Int32))) :=
  (if v3 ≤ v5 then some (Sum.inr (v4)) else gd (inB (v1 + ((v2 + v5) / (8 : Int32))) t_input_n) (bnd ((((t_input (v1 + ((v2 + v5) / (8 : Int32))).toNatClampNeg) >>> (((v2 + v5) - (v2 + v5) / (8 : Int32) * (8 : Int32)) &&& 31)) &&& (1 : Int32)) <<< (v5 &&& 31)) (fun x4 => bnd (v4 ||| x4) (fun x5 => bnd (v5 + (1 : Int32)) (fun x6 => some (Sum.inl (x5, x6)))))))
def f_M_bitsAt (n : Nat) (t_input_n : Nat) (t_input : Nat → Int32) (v1 : Int32) (v2 : Int32) (v3 : Int32) : Option (Int32) :=
  Option.bind (lp (fun v => f_M_bitsAt_l6 t_input_n t_input v1 v2 v3 v.1 v.2) n ((0 : Int32), (0 : Int32))) (fun o => some o)
set_option maxHeartbeats 4000000 in
set_option maxRecDepth 100000 in
theorem c_M_bitsAt (l : Launch) (D : va_G) (k : ClassId × ClassId × ClassId) (a_t a_t_repetitions a_t_definitions a_t_newRepetitions a_t_newDefinitions a_t_wholes a_t_newWholes a_t_words8 a_t_from a_t_newFrom a_t_wordFrom a_t_bytes a_t_newBytes a_t_wordBytes a_t_tape a_t_input a_t_out a_t_body a_t_longs a_t_numbers a_t_common a_t_more a_t_told2 a_t_toldSize a_t_toldBytes : Nat) (t_input_n : Nat) (t_code : Int32) (t_type : Int32) (t_mostR : Int32) (t_mostD : Int32) (t_entries : Int32) (t_values : Int32) (t_coding : Int32) (t_bodySize : Int32) (t_newCount : Int32) (t_words : Int32) (t_taped : Int32) (t_inputSize : Int32) (t_outSize : Int32) (t_at : Int32) (t_stop : Int32) (t_fault : Int32) (t_longCount : Int32) (t_input : Nat → Int32) (v1 : Int32) (v2 : Int32) (v3 : Int32) (n : Nat) (out : Int32) (h : f_M_bitsAt n t_input_n t_input v1 v2 v3 = some out) : Ct l D k y_M_bitsAt b_M_bitsAt 6 (some .int) rm_M_bitsAt [.ref a_t, .int v1, .int v2, .int v3] [(a_t, .inr (9, [.int t_code, .int t_type, .int t_mostR, .int t_mostD, .int t_entries, .int t_values, .int t_coding, .int t_bodySize, .ref a_t_repetitions, .ref a_t_definitions, .ref a_t_newRepetitions, .ref a_t_newDefinitions, .ref a_t_wholes, .ref a_t_newWholes, .ref a_t_words8, .ref a_t_from, .ref a_t_newFrom, .ref a_t_wordFrom, .ref a_t_bytes, .ref a_t_newBytes, .ref a_t_wordBytes, .int t_newCount, .int t_words, .ref a_t_tape, .ref a_t_input, .ref a_t_out, .ref a_t_body, .int t_taped, .int t_inputSize, .int t_outSize, .int t_at, .int t_stop, .int t_fault, .ref a_t_longs, .int t_longCount, .ref a_t_numbers, .ref a_t_common, .ref a_t_more, .ref a_t_told2, .ref a_t_toldSize, .ref a_t_toldBytes])), (a_t_input, .inl (k.2.1, t_input_n, .inl t_input))] [(a_t, .inr (9, [.int t_code, .int t_type, .int t_mostR, .int t_mostD, .int t_entries, .int t_values, .int t_coding, .int t_bodySize, .ref a_t_repetitions, .ref a_t_definitions, .ref a_t_newRepetitions, .ref a_t_newDefinitions, .ref a_t_wholes, .ref a_t_newWholes, .ref a_t_words8, .ref a_t_from, .ref a_t_newFrom, .ref a_t_wordFrom, .ref a_t_bytes, .ref a_t_newBytes, .ref a_t_wordBytes, .int t_newCount, .int t_words, .ref a_t_tape, .ref a_t_input, .ref a_t_out, .ref a_t_body, .int t_taped, .int t_inputSize, .int t_outSize, .int t_at, .int t_stop, .int t_fault, .ref a_t_longs, .int t_longCount, .ref a_t_numbers, .ref a_t_common, .ref a_t_more, .ref a_t_told2, .ref a_t_toldSize, .ref a_t_toldBytes])), (a_t_input, .inl (k.2.1, t_input_n, .inl t_input))] (some (.int out)) := by
  refine Ct.ofI (by decide) (Nat.le_of_ble_eq_true rfl) ?_
  intro p e s m args below meth c A Q ls hx hb hml hown hts hA hK hP hD hS hE hl ret
  have hown : s.vm.findClass "PageFormModel" = some m.cls := hown
  have hl : lv_has ls 6 [(0, .ref a_t), (1, .int v1), (2, .int v2), (3, .int v3)] := hl
  have ret2 : ∀ (y0 : Int32) (_ : y0 = out) {pc : Nat} {ls : Array Slot} {H : Heap} {locs : List Loc}, decode b_M_bitsAt pc = .ok (.ireturn, 1) → va_P D CL [(a_t, .inr (9, [.int t_code, .int t_type, .int t_mostR, .int t_mostD, .int t_entries, .int t_values, .int t_coding, .int t_bodySize, .ref a_t_repetitions, .ref a_t_definitions, .ref a_t_newRepetitions, .ref a_t_newDefinitions, .ref a_t_wholes, .ref a_t_newWholes, .ref a_t_words8, .ref a_t_from, .ref a_t_newFrom, .ref a_t_wordFrom, .ref a_t_bytes, .ref a_t_newBytes, .ref a_t_wordBytes, .int t_newCount, .int t_words, .ref a_t_tape, .ref a_t_input, .ref a_t_out, .ref a_t_body, .int t_taped, .int t_inputSize, .int t_outSize, .int t_at, .int t_stop, .int t_fault, .ref a_t_longs, .int t_longCount, .ref a_t_numbers, .ref a_t_common, .ref a_t_more, .ref a_t_told2, .ref a_t_toldSize, .ref a_t_toldBytes])), (a_t_input, .inl (k.2.1, t_input_n, .inl t_input))] H → va_D A [(a_t, .inr (9, [.int t_code, .int t_type, .int t_mostR, .int t_mostD, .int t_entries, .int t_values, .int t_coding, .int t_bodySize, .ref a_t_repetitions, .ref a_t_definitions, .ref a_t_newRepetitions, .ref a_t_newDefinitions, .ref a_t_wholes, .ref a_t_newWholes, .ref a_t_words8, .ref a_t_from, .ref a_t_newFrom, .ref a_t_wordFrom, .ref a_t_bytes, .ref a_t_newBytes, .ref a_t_wordBytes, .int t_newCount, .int t_words, .ref a_t_tape, .ref a_t_input, .ref a_t_out, .ref a_t_body, .int t_taped, .int t_inputSize, .int t_outSize, .int t_at, .int t_stop, .int t_fault, .ref a_t_longs, .int t_longCount, .ref a_t_numbers, .ref a_t_common, .ref a_t_more, .ref a_t_told2, .ref a_t_toldSize, .ref a_t_toldBytes])), (a_t_input, .inl (k.2.1, t_input_n, .inl t_input))] → va_S A s.heap H locs → W p l e rm_M_bitsAt s m args below meth c H locs 0 0 Q (F0 m pc ls [.int y0]) := by
    intro y0 e0; subst e0; exact ret
  clear ret
  have L6 : ∀ (K : Nat) (v4 : Int32) (v5 : Int32) (o : (Int32)) (H : Heap) (locs : List Loc) (ls : Array Slot), va_P D CL [(a_t, .inr (9, [.int t_code, .int t_type, .int t_mostR, .int t_mostD, .int t_entries, .int t_values, .int t_coding, .int t_bodySize, .ref a_t_repetitions, .ref a_t_definitions, .ref a_t_newRepetitions, .ref a_t_newDefinitions, .ref a_t_wholes, .ref a_t_newWholes, .ref a_t_words8, .ref a_t_from, .ref a_t_newFrom, .ref a_t_wordFrom, .ref a_t_bytes, .ref a_t_newBytes, .ref a_t_wordBytes, .int t_newCount, .int t_words, .ref a_t_tape, .ref a_t_input, .ref a_t_out, .ref a_t_body, .int t_taped, .int t_inputSize, .int t_outSize, .int t_at, .int t_stop, .int t_fault, .ref a_t_longs, .int t_longCount, .ref a_t_numbers, .ref a_t_common, .ref a_t_more, .ref a_t_told2, .ref a_t_toldSize, .ref a_t_toldBytes])), (a_t_input, .inl (k.2.1, t_input_n, .inl t_input))] H → va_D A [(a_t, .inr (9, [.int t_code, .int t_type, .int t_mostR, .int t_mostD, .int t_entries, .int t_values, .int t_coding, .int t_bodySize, .ref a_t_repetitions, .ref a_t_definitions, .ref a_t_newRepetitions, .ref a_t_newDefinitions, .ref a_t_wholes, .ref a_t_newWholes, .ref a_t_words8, .ref a_t_from, .ref a_t_newFrom, .ref a_t_wordFrom, .ref a_t_bytes, .ref a_t_newBytes, .ref a_t_wordBytes, .int t_newCount, .int t_words, .ref a_t_tape, .ref a_t_input, .ref a_t_out, .ref a_t_body, .int t_taped, .int t_inputSize, .int t_outSize, .int t_at, .int t_stop, .int t_fault, .ref a_t_longs, .int t_longCount, .ref a_t_numbers, .ref a_t_common, .ref a_t_more, .ref a_t_told2, .ref a_t_toldSize, .ref a_t_toldBytes])), (a_t_input, .inl (k.2.1, t_input_n, .inl t_input))] → va_S A s.heap H locs → lv_has ls 6 [(0, .ref a_t), (1, .int v1), (2, .int v2), (3, .int v3), (4, .int v4), (5, .int v5)] → lp (fun v => f_M_bitsAt_l6 t_input_n t_input v1 v2 v3 v.1 v.2) K (v4, v5) = some o → (fun o => some o) o = some out → W p l e rm_M_bitsAt s m args below meth c H locs 0 0 Q (F0 m 6 ls []) := by
    intro K
    induction K with
    | zero => intros; exact absurd (by assumption) lp_no
    | succ K ih6 =>
      intro v4 v5 o H locs ls hP hD hS hl h0 hx6
      obtain ⟨b6, h, hc6⟩ := lp_at h0
      have h : f_M_bitsAt_l6 t_input_n t_input v1 v2 v3 v4 v5 = some b6 := h
      unfold f_M_bitsAt_l6 at h
      refine lv_iload hx hb d_M_bitsAt_6 (lv_at hl 5 rfl) ?_
      refine lv_iload_n hx hb d_M_bitsAt_8 rfl (lv_at hl 3 rfl) ?_
      refine lv_icmp_ge (tgt := 50) hx hb d_M_bitsAt_9 (by decide) (fun c => ?_) (fun c => ?_)
      · have h := ift_at h c
        refine lv_iload hx hb d_M_bitsAt_50 (lv_at hl 4 rfl) ?_
        obtain rfl := lp_out h hc6
        exact ret2 _ (Option.some.inj hx6) d_M_bitsAt_52 hP hD hS
      · have h := iff_at h c
        refine lv_iload hx hb d_M_bitsAt_12 (lv_at hl 4 rfl) ?_
        refine lv_aload_n hx hb d_M_bitsAt_14 rfl (lv_at hl 0 rfl) ?_
        refine va_get (D := D) (ci := 9) (v := .ref a_t_input) (C := "PageFormModel") (T := F_M) (N := 41) hx hb hts in_M hown hK hP 0 rfl rfl 24 (by decide) (hts _ fl_M_53) (fun _ h9 => h9) rfl d_M_bitsAt_15 ?_
        refine lv_iload_n hx hb d_M_bitsAt_18 rfl (lv_at hl 1 rfl) ?_
        refine lv_iload_n hx hb d_M_bitsAt_19 rfl (lv_at hl 2 rfl) ?_
        refine lv_iload hx hb d_M_bitsAt_20 (lv_at hl 5 rfl) ?_
        refine lv_iadd hx hb d_M_bitsAt_22 ?_
        refine lv_bipush (v := 8) hx hb d_M_bitsAt_23 (by decide) ?_
        refine lv_idiv hx hb d_M_bitsAt_25 (by decide) ?_
        refine lv_iadd hx hb d_M_bitsAt_26 ?_
        obtain ⟨g3, h⟩ := gd_at h
        refine va_iald hx hb hK hP 1 1 rfl rfl (inB_in g3) d_M_bitsAt_27 ?_
        refine lv_iload_n hx hb d_M_bitsAt_28 rfl (lv_at hl 2 rfl) ?_
        refine lv_iload hx hb d_M_bitsAt_29 (lv_at hl 5 rfl) ?_
        refine lv_iadd hx hb d_M_bitsAt_31 ?_
        refine lv_bipush (v := 8) hx hb d_M_bitsAt_32 (by decide) ?_
        refine lv_irem hx hb d_M_bitsAt_34 (by decide) ?_
        refine lv_ishr hx hb d_M_bitsAt_35 ?_
        refine lv_iconst (v := 1) hx hb d_M_bitsAt_36 (by decide) ?_
        refine lv_iand hx hb d_M_bitsAt_37 ?_
        refine lv_iload hx hb d_M_bitsAt_38 (lv_at hl 5 rfl) ?_
        refine lv_ishl hx hb d_M_bitsAt_40 ?_
        refine lv_topi (fun x4 ex4 => ?_)
        have h := bnd_at h ex4
        refine lv_ior hx hb d_M_bitsAt_41 ?_
        refine lv_topi (fun x5 ex5 => ?_)
        have h := bnd_at h ex5
        refine lv_istore (lv' := [(4, .int x5), (0, .ref a_t), (1, .int v1), (2, .int v2), (3, .int v3), (5, .int v5)]) hx hb d_M_bitsAt_42 hl (by decide) rfl (fun ls hl => ?_)
        obtain ⟨x6, ex6⟩ : ∃ z : Int32, z = v5 + (1 : Int32) := ⟨_, rfl⟩
        have h := bnd_at h ex6
        refine lv_iinc (v := x6) (lv' := [(5, .int x6), (4, .int x5), (0, .ref a_t), (1, .int v1), (2, .int v2), (3, .int v3)]) hx hb d_M_bitsAt_44 hl (k := 5) rfl (by rw [ex6]; rfl) (by decide) rfl (fun ls hl => ?_)
        refine lv_goto (tgt := 6) hx hb d_M_bitsAt_47 (by decide) ?_
        have h := lp_go h hc6
        exact ih6 x5 x6 o _ _ ls hP hD hS (lv_sub hl [2, 3, 4, 5, 1, 0] rfl) h hx6
  unfold f_M_bitsAt at h
  refine lv_iconst (v := 0) hx hb d_M_bitsAt_0 (by decide) ?_
  refine lv_istore (lv' := [(4, .int (0 : Int32)), (0, .ref a_t), (1, .int v1), (2, .int v2), (3, .int v3)]) hx hb d_M_bitsAt_1 hl (by decide) rfl (fun ls hl => ?_)
  refine lv_iconst (v := 0) hx hb d_M_bitsAt_3 (by decide) ?_
  refine lv_istore (lv' := [(5, .int (0 : Int32)), (4, .int (0 : Int32)), (0, .ref a_t), (1, .int v1), (2, .int v2), (3, .int v3)]) hx hb d_M_bitsAt_4 hl (by decide) rfl (fun ls hl => ?_)
  obtain ⟨o12, ho12, h⟩ := obd_at h
  exact L6 n (0 : Int32) (0 : Int32) o12 _ _ ls hP hD hS (lv_sub hl [2, 3, 4, 5, 1, 0] rfl) ho12 h

def rm_M_readOne : Room := { frames := 1, cells := 0, slots := 0, locals := 25 }
def f_M_readOne_j156 (t_at : Int32) (t_fault : Int32) (p1 : Nat → Int32) (v2 : Int32) (v6 : Int64) : Option (Int32 × Int32 × Int32 × (Nat → Int32)) :=
  some ((v2 + v6.toInt32), t_at, t_fault, p1)
def f_M_readOne_l133 (p1_n : Nat) (v2 : Int32) (v6 : Int64) (v9 : Int32) (p1 : Nat → Int32) (v10 : Int32) : Option (((Nat → Int32) × Int32) ⊕ (((Nat → Int32) × Int32))) :=
  (if v6 ≤ v10.toInt64 then some (Sum.inr ((p1, v10))) else gd (inB (v2 + v10) p1_n) (bnd (v10 + (1 : Int32)) (fun x7 => some (Sum.inl (upd p1 (v2 + v10).toNatClampNeg v9, x7)))))
def f_M_readOne_j119 (n : Nat) (p1_n : Nat) (t_at : Int32) (t_fault : Int32) (p1 : Nat → Int32) (v2 : Int32) (v6 : Int64) (v8 : Int32) (v9 : Int32) : Option (Int32 × Int32 × Int32 × (Nat → Int32)) :=
  bnd (t_at + v8) (fun x13 => Option.bind (lp (fun v => f_M_readOne_l133 p1_n v2 v6 v9 v.1 v.2) n (p1, (0 : Int32))) (fun o => f_M_readOne_j156 x13 t_fault o.1 v2 v6))
def f_M_readOne_l71 (t_input_n : Nat) (t_at : Int32) (t_input : Nat → Int32) (v8 : Int32) (t_fault : Int32) (v10 : Int32) : Option ((Int32 × Int32) ⊕ ((Int32 × Int32))) :=
  (if ((8 : Int32) * v8) ≤ v10 then some (Sum.inr ((t_fault, v10))) else gd (inB (t_at + (v10 / (8 : Int32))) t_input_n) ((if (((t_input (t_at + (v10 / (8 : Int32))).toNatClampNeg) >>> ((v10 - v10 / (8 : Int32) * (8 : Int32)) &&& 31)) &&& (1 : Int32)) = (1 : Int32) then bnd (v10 + (1 : Int32)) (fun x20 => some (Sum.inl ((5 : Int32), x20))) else bnd (v10 + (1 : Int32)) (fun x18 => some (Sum.inl (t_fault, x18))))))
def f_M_readOne_j45 (n : Nat) (t_input_n : Nat) (p1_n : Nat) (t_at : Int32) (t_fault : Int32) (t_input : Nat → Int32) (p1 : Nat → Int32) (v2 : Int32) (v4 : Int32) (v6 : Int64) (v8 : Int32) : Option (Int32 × Int32 × Int32 × (Nat → Int32)) :=
  (if t_fault = 0 then Option.bind (f_M_bitsAt n t_input_n t_input t_at (0 : Int32) v4) (fun o26 => Option.bind (lp (fun v => f_M_readOne_l71 t_input_n t_at t_input v8 v.1 v.2) n (t_fault, v4)) (fun o => f_M_readOne_j119 n p1_n t_at o.1 p1 v2 v6 v8 o26)) else some (v2, t_at, t_fault, p1))
def f_M_readOne (n : Nat) (t_input_n : Nat) (p1_n : Nat) (t_at : Int32) (t_fault : Int32) (t_input : Nat → Int32) (p1 : Nat → Int32) (v2 : Int32) (v3 : Int32) (v4 : Int32) (v5 : Int32) (v6 : Int64) : Option (Int32 × Int32 × Int32 × (Nat → Int32)) :=
  bnd ((v4 + (7 : Int32)) / (8 : Int32)) (fun x28 => (if v6 ≤ ((v3 - v2).toInt64) then (if x28 ≤ (v5 - t_at) then f_M_readOne_j45 n t_input_n p1_n t_at t_fault t_input p1 v2 v4 v6 x28 else f_M_readOne_j45 n t_input_n p1_n t_at (1 : Int32) t_input p1 v2 v4 v6 x28) else f_M_readOne_j45 n t_input_n p1_n t_at (4 : Int32) t_input p1 v2 v4 v6 x28))
set_option maxHeartbeats 4000000 in
set_option maxRecDepth 100000 in
theorem c_M_readOne (l : Launch) (D : va_G) (k : ClassId × ClassId × ClassId) (a_t a_t_repetitions a_t_definitions a_t_newRepetitions a_t_newDefinitions a_t_wholes a_t_newWholes a_t_words8 a_t_from a_t_newFrom a_t_wordFrom a_t_bytes a_t_newBytes a_t_wordBytes a_t_tape a_t_input a_t_out a_t_body a_t_longs a_t_numbers a_t_common a_t_more a_t_told2 a_t_toldSize a_t_toldBytes a_p1 : Nat) (t_input_n p1_n : Nat) (t_code : Int32) (t_type : Int32) (t_mostR : Int32) (t_mostD : Int32) (t_entries : Int32) (t_values : Int32) (t_coding : Int32) (t_bodySize : Int32) (t_newCount : Int32) (t_words : Int32) (t_taped : Int32) (t_inputSize : Int32) (t_outSize : Int32) (t_at : Int32) (t_stop : Int32) (t_fault : Int32) (t_longCount : Int32) (t_input : Nat → Int32) (p1 : Nat → Int32) (v2 : Int32) (v3 : Int32) (v4 : Int32) (v5 : Int32) (v6 : Int64) (n : Nat) (out : Int32 × Int32 × Int32 × (Nat → Int32)) (h : f_M_readOne n t_input_n p1_n t_at t_fault t_input p1 v2 v3 v4 v5 v6 = some out) : Ct l D k y_M_readOne b_M_readOne 11 (some .int) rm_M_readOne [.ref a_t, .ref a_p1, .int v2, .int v3, .int v4, .int v5, .long v6] [(a_t, .inr (9, [.int t_code, .int t_type, .int t_mostR, .int t_mostD, .int t_entries, .int t_values, .int t_coding, .int t_bodySize, .ref a_t_repetitions, .ref a_t_definitions, .ref a_t_newRepetitions, .ref a_t_newDefinitions, .ref a_t_wholes, .ref a_t_newWholes, .ref a_t_words8, .ref a_t_from, .ref a_t_newFrom, .ref a_t_wordFrom, .ref a_t_bytes, .ref a_t_newBytes, .ref a_t_wordBytes, .int t_newCount, .int t_words, .ref a_t_tape, .ref a_t_input, .ref a_t_out, .ref a_t_body, .int t_taped, .int t_inputSize, .int t_outSize, .int t_at, .int t_stop, .int t_fault, .ref a_t_longs, .int t_longCount, .ref a_t_numbers, .ref a_t_common, .ref a_t_more, .ref a_t_told2, .ref a_t_toldSize, .ref a_t_toldBytes])), (a_t_input, .inl (k.2.1, t_input_n, .inl t_input)), (a_p1, .inl (k.2.1, p1_n, .inl p1))] [(a_t, .inr (9, [.int t_code, .int t_type, .int t_mostR, .int t_mostD, .int t_entries, .int t_values, .int t_coding, .int t_bodySize, .ref a_t_repetitions, .ref a_t_definitions, .ref a_t_newRepetitions, .ref a_t_newDefinitions, .ref a_t_wholes, .ref a_t_newWholes, .ref a_t_words8, .ref a_t_from, .ref a_t_newFrom, .ref a_t_wordFrom, .ref a_t_bytes, .ref a_t_newBytes, .ref a_t_wordBytes, .int t_newCount, .int t_words, .ref a_t_tape, .ref a_t_input, .ref a_t_out, .ref a_t_body, .int t_taped, .int t_inputSize, .int t_outSize, .int out.2.1, .int t_stop, .int out.2.2.1, .ref a_t_longs, .int t_longCount, .ref a_t_numbers, .ref a_t_common, .ref a_t_more, .ref a_t_told2, .ref a_t_toldSize, .ref a_t_toldBytes])), (a_t_input, .inl (k.2.1, t_input_n, .inl t_input)), (a_p1, .inl (k.2.1, p1_n, .inl out.2.2.2))] (some (.int out.1)) := by
  refine Ct.ofI (by decide) (Nat.le_of_ble_eq_true rfl) ?_
  intro p e s m args below meth c A Q ls hx hb hml hown hts hA hK hP hD hS hE hl ret
  have hown : s.vm.findClass "PageFormModel" = some m.cls := hown
  have hl : lv_has ls 11 [(0, .ref a_t), (1, .ref a_p1), (2, .int v2), (3, .int v3), (4, .int v4), (5, .int v5), (6, .long v6)] := hl
  have ret2 : ∀ (y0 : Int32) (y1 : Int32) (y2 : Int32) (y3 : Nat → Int32) (_ : (y0, y1, y2, y3) = out) {pc : Nat} {ls : Array Slot} {H : Heap} {locs : List Loc}, decode b_M_readOne pc = .ok (.ireturn, 1) → va_P D CL [(a_t, .inr (9, [.int t_code, .int t_type, .int t_mostR, .int t_mostD, .int t_entries, .int t_values, .int t_coding, .int t_bodySize, .ref a_t_repetitions, .ref a_t_definitions, .ref a_t_newRepetitions, .ref a_t_newDefinitions, .ref a_t_wholes, .ref a_t_newWholes, .ref a_t_words8, .ref a_t_from, .ref a_t_newFrom, .ref a_t_wordFrom, .ref a_t_bytes, .ref a_t_newBytes, .ref a_t_wordBytes, .int t_newCount, .int t_words, .ref a_t_tape, .ref a_t_input, .ref a_t_out, .ref a_t_body, .int t_taped, .int t_inputSize, .int t_outSize, .int y1, .int t_stop, .int y2, .ref a_t_longs, .int t_longCount, .ref a_t_numbers, .ref a_t_common, .ref a_t_more, .ref a_t_told2, .ref a_t_toldSize, .ref a_t_toldBytes])), (a_t_input, .inl (k.2.1, t_input_n, .inl t_input)), (a_p1, .inl (k.2.1, p1_n, .inl y3))] H → va_D A [(a_t, .inr (9, [.int t_code, .int t_type, .int t_mostR, .int t_mostD, .int t_entries, .int t_values, .int t_coding, .int t_bodySize, .ref a_t_repetitions, .ref a_t_definitions, .ref a_t_newRepetitions, .ref a_t_newDefinitions, .ref a_t_wholes, .ref a_t_newWholes, .ref a_t_words8, .ref a_t_from, .ref a_t_newFrom, .ref a_t_wordFrom, .ref a_t_bytes, .ref a_t_newBytes, .ref a_t_wordBytes, .int t_newCount, .int t_words, .ref a_t_tape, .ref a_t_input, .ref a_t_out, .ref a_t_body, .int t_taped, .int t_inputSize, .int t_outSize, .int y1, .int t_stop, .int y2, .ref a_t_longs, .int t_longCount, .ref a_t_numbers, .ref a_t_common, .ref a_t_more, .ref a_t_told2, .ref a_t_toldSize, .ref a_t_toldBytes])), (a_t_input, .inl (k.2.1, t_input_n, .inl t_input)), (a_p1, .inl (k.2.1, p1_n, .inl y3))] → va_S A s.heap H locs → W p l e rm_M_readOne s m args below meth c H locs 0 0 Q (F0 m pc ls [.int y0]) := by
    intro y0 y1 y2 y3 e0; subst e0; exact ret
  clear ret
  have J156 : ∀ (t_at : Int32) (t_fault : Int32) (p1 : Nat → Int32) (H : Heap) (locs : List Loc) (ls : Array Slot), va_P D CL [(a_t, .inr (9, [.int t_code, .int t_type, .int t_mostR, .int t_mostD, .int t_entries, .int t_values, .int t_coding, .int t_bodySize, .ref a_t_repetitions, .ref a_t_definitions, .ref a_t_newRepetitions, .ref a_t_newDefinitions, .ref a_t_wholes, .ref a_t_newWholes, .ref a_t_words8, .ref a_t_from, .ref a_t_newFrom, .ref a_t_wordFrom, .ref a_t_bytes, .ref a_t_newBytes, .ref a_t_wordBytes, .int t_newCount, .int t_words, .ref a_t_tape, .ref a_t_input, .ref a_t_out, .ref a_t_body, .int t_taped, .int t_inputSize, .int t_outSize, .int t_at, .int t_stop, .int t_fault, .ref a_t_longs, .int t_longCount, .ref a_t_numbers, .ref a_t_common, .ref a_t_more, .ref a_t_told2, .ref a_t_toldSize, .ref a_t_toldBytes])), (a_t_input, .inl (k.2.1, t_input_n, .inl t_input)), (a_p1, .inl (k.2.1, p1_n, .inl p1))] H → va_D A [(a_t, .inr (9, [.int t_code, .int t_type, .int t_mostR, .int t_mostD, .int t_entries, .int t_values, .int t_coding, .int t_bodySize, .ref a_t_repetitions, .ref a_t_definitions, .ref a_t_newRepetitions, .ref a_t_newDefinitions, .ref a_t_wholes, .ref a_t_newWholes, .ref a_t_words8, .ref a_t_from, .ref a_t_newFrom, .ref a_t_wordFrom, .ref a_t_bytes, .ref a_t_newBytes, .ref a_t_wordBytes, .int t_newCount, .int t_words, .ref a_t_tape, .ref a_t_input, .ref a_t_out, .ref a_t_body, .int t_taped, .int t_inputSize, .int t_outSize, .int t_at, .int t_stop, .int t_fault, .ref a_t_longs, .int t_longCount, .ref a_t_numbers, .ref a_t_common, .ref a_t_more, .ref a_t_told2, .ref a_t_toldSize, .ref a_t_toldBytes])), (a_t_input, .inl (k.2.1, t_input_n, .inl t_input)), (a_p1, .inl (k.2.1, p1_n, .inl p1))] → va_S A s.heap H locs → lv_has ls 11 [(2, .int v2), (6, .long v6)] → f_M_readOne_j156 t_at t_fault p1 v2 v6 = some out → W p l e rm_M_readOne s m args below meth c H locs 0 0 Q (F0 m 156 ls []) := by
    intro t_at t_fault p1 H locs ls hP hD hS hl h
    unfold f_M_readOne_j156 at h
    refine lv_iload_n hx hb d_M_readOne_156 rfl (lv_at hl 0 rfl) ?_
    refine lv_lload hx hb d_M_readOne_157 (lv_at hl 1 rfl) ?_
    refine lv_l2i hx hb d_M_readOne_159 rfl ?_
    refine lv_iadd hx hb d_M_readOne_160 ?_
    exact ret2 _ _ _ _ (Option.some.inj h) d_M_readOne_161 hP hD hS
  have L133 : ∀ (K : Nat) (t_at : Int32) (t_fault : Int32) (p1 : Nat → Int32) (v9 : Int32) (v10 : Int32) (o : ((Nat → Int32) × Int32)) (H : Heap) (locs : List Loc) (ls : Array Slot), va_P D CL [(a_t, .inr (9, [.int t_code, .int t_type, .int t_mostR, .int t_mostD, .int t_entries, .int t_values, .int t_coding, .int t_bodySize, .ref a_t_repetitions, .ref a_t_definitions, .ref a_t_newRepetitions, .ref a_t_newDefinitions, .ref a_t_wholes, .ref a_t_newWholes, .ref a_t_words8, .ref a_t_from, .ref a_t_newFrom, .ref a_t_wordFrom, .ref a_t_bytes, .ref a_t_newBytes, .ref a_t_wordBytes, .int t_newCount, .int t_words, .ref a_t_tape, .ref a_t_input, .ref a_t_out, .ref a_t_body, .int t_taped, .int t_inputSize, .int t_outSize, .int t_at, .int t_stop, .int t_fault, .ref a_t_longs, .int t_longCount, .ref a_t_numbers, .ref a_t_common, .ref a_t_more, .ref a_t_told2, .ref a_t_toldSize, .ref a_t_toldBytes])), (a_t_input, .inl (k.2.1, t_input_n, .inl t_input)), (a_p1, .inl (k.2.1, p1_n, .inl p1))] H → va_D A [(a_t, .inr (9, [.int t_code, .int t_type, .int t_mostR, .int t_mostD, .int t_entries, .int t_values, .int t_coding, .int t_bodySize, .ref a_t_repetitions, .ref a_t_definitions, .ref a_t_newRepetitions, .ref a_t_newDefinitions, .ref a_t_wholes, .ref a_t_newWholes, .ref a_t_words8, .ref a_t_from, .ref a_t_newFrom, .ref a_t_wordFrom, .ref a_t_bytes, .ref a_t_newBytes, .ref a_t_wordBytes, .int t_newCount, .int t_words, .ref a_t_tape, .ref a_t_input, .ref a_t_out, .ref a_t_body, .int t_taped, .int t_inputSize, .int t_outSize, .int t_at, .int t_stop, .int t_fault, .ref a_t_longs, .int t_longCount, .ref a_t_numbers, .ref a_t_common, .ref a_t_more, .ref a_t_told2, .ref a_t_toldSize, .ref a_t_toldBytes])), (a_t_input, .inl (k.2.1, t_input_n, .inl t_input)), (a_p1, .inl (k.2.1, p1_n, .inl p1))] → va_S A s.heap H locs → lv_has ls 11 [(1, .ref a_p1), (2, .int v2), (6, .long v6), (9, .int v9), (10, .int v10)] → lp (fun v => f_M_readOne_l133 p1_n v2 v6 v9 v.1 v.2) K (p1, v10) = some o → (fun o => f_M_readOne_j156 t_at t_fault o.1 v2 v6) o = some out → W p l e rm_M_readOne s m args below meth c H locs 0 0 Q (F0 m 133 ls []) := by
    intro K
    induction K with
    | zero => intros; exact absurd (by assumption) lp_no
    | succ K ih133 =>
      intro t_at t_fault p1 v9 v10 o H locs ls hP hD hS hl h0 hx133
      obtain ⟨b133, h, hc133⟩ := lp_at h0
      have h : f_M_readOne_l133 p1_n v2 v6 v9 p1 v10 = some b133 := h
      unfold f_M_readOne_l133 at h
      refine lv_iload hx hb d_M_readOne_133 (lv_at hl 4 rfl) ?_
      refine lv_i2l hx hb d_M_readOne_135 rfl ?_
      refine lv_lload hx hb d_M_readOne_136 (lv_at hl 2 rfl) ?_
      refine W.lcmp hx hb d_M_readOne_138 ?_
      refine lv_if_ge (tgt := 156) hx hb d_M_readOne_139 (by decide) (fun c => ?_) (fun c => ?_)
      · have c := zc_ge.mp c
        have h := ift_at h c
        obtain rfl := lp_out h hc133
        exact J156 t_at t_fault p1 _ _ ls hP hD hS (lv_sub hl [1, 2] rfl) hx133
      · have c := mt zc_ge.mpr c
        have h := iff_at h c
        refine lv_aload_n hx hb d_M_readOne_142 rfl (lv_at hl 0 rfl) ?_
        refine lv_iload_n hx hb d_M_readOne_143 rfl (lv_at hl 1 rfl) ?_
        refine lv_iload hx hb d_M_readOne_144 (lv_at hl 4 rfl) ?_
        refine lv_iadd hx hb d_M_readOne_146 ?_
        refine lv_iload hx hb d_M_readOne_147 (lv_at hl 3 rfl) ?_
        obtain ⟨g6, h⟩ := gd_at h
        refine va_iast hx hb hK hP hD hS 2 1 rfl rfl (inB_in g6) d_M_readOne_149 (fun H locs hP hD hS => ?_)
        have hP : va_P D CL [(a_t, .inr (9, [.int t_code, .int t_type, .int t_mostR, .int t_mostD, .int t_entries, .int t_values, .int t_coding, .int t_bodySize, .ref a_t_repetitions, .ref a_t_definitions, .ref a_t_newRepetitions, .ref a_t_newDefinitions, .ref a_t_wholes, .ref a_t_newWholes, .ref a_t_words8, .ref a_t_from, .ref a_t_newFrom, .ref a_t_wordFrom, .ref a_t_bytes, .ref a_t_newBytes, .ref a_t_wordBytes, .int t_newCount, .int t_words, .ref a_t_tape, .ref a_t_input, .ref a_t_out, .ref a_t_body, .int t_taped, .int t_inputSize, .int t_outSize, .int t_at, .int t_stop, .int t_fault, .ref a_t_longs, .int t_longCount, .ref a_t_numbers, .ref a_t_common, .ref a_t_more, .ref a_t_told2, .ref a_t_toldSize, .ref a_t_toldBytes])), (a_t_input, .inl (k.2.1, t_input_n, .inl t_input)), (a_p1, .inl (k.2.1, p1_n, .inl (upd p1 (v2 + v10).toNatClampNeg v9)))] H := hP
        have hD : va_D A [(a_t, .inr (9, [.int t_code, .int t_type, .int t_mostR, .int t_mostD, .int t_entries, .int t_values, .int t_coding, .int t_bodySize, .ref a_t_repetitions, .ref a_t_definitions, .ref a_t_newRepetitions, .ref a_t_newDefinitions, .ref a_t_wholes, .ref a_t_newWholes, .ref a_t_words8, .ref a_t_from, .ref a_t_newFrom, .ref a_t_wordFrom, .ref a_t_bytes, .ref a_t_newBytes, .ref a_t_wordBytes, .int t_newCount, .int t_words, .ref a_t_tape, .ref a_t_input, .ref a_t_out, .ref a_t_body, .int t_taped, .int t_inputSize, .int t_outSize, .int t_at, .int t_stop, .int t_fault, .ref a_t_longs, .int t_longCount, .ref a_t_numbers, .ref a_t_common, .ref a_t_more, .ref a_t_told2, .ref a_t_toldSize, .ref a_t_toldBytes])), (a_t_input, .inl (k.2.1, t_input_n, .inl t_input)), (a_p1, .inl (k.2.1, p1_n, .inl (upd p1 (v2 + v10).toNatClampNeg v9)))] := hD
        obtain ⟨x7, ex7⟩ : ∃ z : Int32, z = v10 + (1 : Int32) := ⟨_, rfl⟩
        have h := bnd_at h ex7
        refine lv_iinc (v := x7) (lv' := [(10, .int x7), (1, .ref a_p1), (2, .int v2), (6, .long v6), (9, .int v9)]) hx hb d_M_readOne_150 hl (k := 4) rfl (by rw [ex7]; rfl) (by decide) rfl (fun ls hl => ?_)
        refine lv_goto (tgt := 133) hx hb d_M_readOne_153 (by decide) ?_
        have h := lp_go h hc133
        exact ih133 t_at t_fault (upd p1 (v2 + v10).toNatClampNeg v9) v9 x7 o _ _ ls hP hD hS (lv_sub hl [1, 2, 3, 4, 0] rfl) h hx133
  have J119 : ∀ (t_at : Int32) (t_fault : Int32) (p1 : Nat → Int32) (v8 : Int32) (v9 : Int32) (H : Heap) (locs : List Loc) (ls : Array Slot), va_P D CL [(a_t, .inr (9, [.int t_code, .int t_type, .int t_mostR, .int t_mostD, .int t_entries, .int t_values, .int t_coding, .int t_bodySize, .ref a_t_repetitions, .ref a_t_definitions, .ref a_t_newRepetitions, .ref a_t_newDefinitions, .ref a_t_wholes, .ref a_t_newWholes, .ref a_t_words8, .ref a_t_from, .ref a_t_newFrom, .ref a_t_wordFrom, .ref a_t_bytes, .ref a_t_newBytes, .ref a_t_wordBytes, .int t_newCount, .int t_words, .ref a_t_tape, .ref a_t_input, .ref a_t_out, .ref a_t_body, .int t_taped, .int t_inputSize, .int t_outSize, .int t_at, .int t_stop, .int t_fault, .ref a_t_longs, .int t_longCount, .ref a_t_numbers, .ref a_t_common, .ref a_t_more, .ref a_t_told2, .ref a_t_toldSize, .ref a_t_toldBytes])), (a_t_input, .inl (k.2.1, t_input_n, .inl t_input)), (a_p1, .inl (k.2.1, p1_n, .inl p1))] H → va_D A [(a_t, .inr (9, [.int t_code, .int t_type, .int t_mostR, .int t_mostD, .int t_entries, .int t_values, .int t_coding, .int t_bodySize, .ref a_t_repetitions, .ref a_t_definitions, .ref a_t_newRepetitions, .ref a_t_newDefinitions, .ref a_t_wholes, .ref a_t_newWholes, .ref a_t_words8, .ref a_t_from, .ref a_t_newFrom, .ref a_t_wordFrom, .ref a_t_bytes, .ref a_t_newBytes, .ref a_t_wordBytes, .int t_newCount, .int t_words, .ref a_t_tape, .ref a_t_input, .ref a_t_out, .ref a_t_body, .int t_taped, .int t_inputSize, .int t_outSize, .int t_at, .int t_stop, .int t_fault, .ref a_t_longs, .int t_longCount, .ref a_t_numbers, .ref a_t_common, .ref a_t_more, .ref a_t_told2, .ref a_t_toldSize, .ref a_t_toldBytes])), (a_t_input, .inl (k.2.1, t_input_n, .inl t_input)), (a_p1, .inl (k.2.1, p1_n, .inl p1))] → va_S A s.heap H locs → lv_has ls 11 [(0, .ref a_t), (1, .ref a_p1), (2, .int v2), (6, .long v6), (8, .int v8), (9, .int v9)] → f_M_readOne_j119 n p1_n t_at t_fault p1 v2 v6 v8 v9 = some out → W p l e rm_M_readOne s m args below meth c H locs 0 0 Q (F0 m 119 ls []) := by
    intro t_at t_fault p1 v8 v9 H locs ls hP hD hS hl h
    unfold f_M_readOne_j119 at h
    refine lv_aload_n hx hb d_M_readOne_119 rfl (lv_at hl 0 rfl) ?_
    refine lv_dup hx hb d_M_readOne_120 rfl ?_
    refine va_get (D := D) (ci := 9) (v := .int t_at) (C := "PageFormModel") (T := F_M) (N := 41) hx hb hts in_M hown hK hP 0 rfl rfl 30 (by decide) (hts _ fl_M_94) (fun _ h9 => h9) rfl d_M_readOne_121 ?_
    refine lv_iload hx hb d_M_readOne_124 (lv_at hl 4 rfl) ?_
    refine lv_iadd hx hb d_M_readOne_126 ?_
    refine lv_topi (fun x13 ex13 => ?_)
    have h := bnd_at h ex13
    refine va_put (D := D) (ci := 9) (v := .int x13) (ty := .int) (C := "PageFormModel") (T := F_M) (N := 41) hx hb hts in_M t_M t_M_ok n_M hown hK hP hD hS 0 rfl rfl 30 (by decide) (hts _ fl_M_94) (fun _ h9 => h9) rfl (by decide +kernel) rfl rfl (Nat.le_of_ble_eq_true rfl) d_M_readOne_127 (fun H locs hP hD hS => ?_)
    have hP : va_P D CL [(a_t, .inr (9, [.int t_code, .int t_type, .int t_mostR, .int t_mostD, .int t_entries, .int t_values, .int t_coding, .int t_bodySize, .ref a_t_repetitions, .ref a_t_definitions, .ref a_t_newRepetitions, .ref a_t_newDefinitions, .ref a_t_wholes, .ref a_t_newWholes, .ref a_t_words8, .ref a_t_from, .ref a_t_newFrom, .ref a_t_wordFrom, .ref a_t_bytes, .ref a_t_newBytes, .ref a_t_wordBytes, .int t_newCount, .int t_words, .ref a_t_tape, .ref a_t_input, .ref a_t_out, .ref a_t_body, .int t_taped, .int t_inputSize, .int t_outSize, .int x13, .int t_stop, .int t_fault, .ref a_t_longs, .int t_longCount, .ref a_t_numbers, .ref a_t_common, .ref a_t_more, .ref a_t_told2, .ref a_t_toldSize, .ref a_t_toldBytes])), (a_t_input, .inl (k.2.1, t_input_n, .inl t_input)), (a_p1, .inl (k.2.1, p1_n, .inl p1))] H := hP
    have hD : va_D A [(a_t, .inr (9, [.int t_code, .int t_type, .int t_mostR, .int t_mostD, .int t_entries, .int t_values, .int t_coding, .int t_bodySize, .ref a_t_repetitions, .ref a_t_definitions, .ref a_t_newRepetitions, .ref a_t_newDefinitions, .ref a_t_wholes, .ref a_t_newWholes, .ref a_t_words8, .ref a_t_from, .ref a_t_newFrom, .ref a_t_wordFrom, .ref a_t_bytes, .ref a_t_newBytes, .ref a_t_wordBytes, .int t_newCount, .int t_words, .ref a_t_tape, .ref a_t_input, .ref a_t_out, .ref a_t_body, .int t_taped, .int t_inputSize, .int t_outSize, .int x13, .int t_stop, .int t_fault, .ref a_t_longs, .int t_longCount, .ref a_t_numbers, .ref a_t_common, .ref a_t_more, .ref a_t_told2, .ref a_t_toldSize, .ref a_t_toldBytes])), (a_t_input, .inl (k.2.1, t_input_n, .inl t_input)), (a_p1, .inl (k.2.1, p1_n, .inl p1))] := hD
    refine lv_iconst (v := 0) hx hb d_M_readOne_130 (by decide) ?_
    refine lv_istore (lv' := [(10, .int (0 : Int32)), (0, .ref a_t), (1, .ref a_p1), (2, .int v2), (6, .long v6), (8, .int v8), (9, .int v9)]) hx hb d_M_readOne_131 hl (by decide) rfl (fun ls hl => ?_)
    obtain ⟨o14, ho14, h⟩ := obd_at h
    exact L133 n x13 t_fault p1 v9 (0 : Int32) o14 _ _ ls hP hD hS (lv_sub hl [2, 3, 4, 6, 0] rfl) ho14 h
  have L71 : ∀ (K : Nat) (t_at : Int32) (t_fault : Int32) (p1 : Nat → Int32) (v8 : Int32) (v9 : Int32) (v10 : Int32) (o : (Int32 × Int32)) (H : Heap) (locs : List Loc) (ls : Array Slot), va_P D CL [(a_t, .inr (9, [.int t_code, .int t_type, .int t_mostR, .int t_mostD, .int t_entries, .int t_values, .int t_coding, .int t_bodySize, .ref a_t_repetitions, .ref a_t_definitions, .ref a_t_newRepetitions, .ref a_t_newDefinitions, .ref a_t_wholes, .ref a_t_newWholes, .ref a_t_words8, .ref a_t_from, .ref a_t_newFrom, .ref a_t_wordFrom, .ref a_t_bytes, .ref a_t_newBytes, .ref a_t_wordBytes, .int t_newCount, .int t_words, .ref a_t_tape, .ref a_t_input, .ref a_t_out, .ref a_t_body, .int t_taped, .int t_inputSize, .int t_outSize, .int t_at, .int t_stop, .int t_fault, .ref a_t_longs, .int t_longCount, .ref a_t_numbers, .ref a_t_common, .ref a_t_more, .ref a_t_told2, .ref a_t_toldSize, .ref a_t_toldBytes])), (a_t_input, .inl (k.2.1, t_input_n, .inl t_input)), (a_p1, .inl (k.2.1, p1_n, .inl p1))] H → va_D A [(a_t, .inr (9, [.int t_code, .int t_type, .int t_mostR, .int t_mostD, .int t_entries, .int t_values, .int t_coding, .int t_bodySize, .ref a_t_repetitions, .ref a_t_definitions, .ref a_t_newRepetitions, .ref a_t_newDefinitions, .ref a_t_wholes, .ref a_t_newWholes, .ref a_t_words8, .ref a_t_from, .ref a_t_newFrom, .ref a_t_wordFrom, .ref a_t_bytes, .ref a_t_newBytes, .ref a_t_wordBytes, .int t_newCount, .int t_words, .ref a_t_tape, .ref a_t_input, .ref a_t_out, .ref a_t_body, .int t_taped, .int t_inputSize, .int t_outSize, .int t_at, .int t_stop, .int t_fault, .ref a_t_longs, .int t_longCount, .ref a_t_numbers, .ref a_t_common, .ref a_t_more, .ref a_t_told2, .ref a_t_toldSize, .ref a_t_toldBytes])), (a_t_input, .inl (k.2.1, t_input_n, .inl t_input)), (a_p1, .inl (k.2.1, p1_n, .inl p1))] → va_S A s.heap H locs → lv_has ls 11 [(0, .ref a_t), (1, .ref a_p1), (2, .int v2), (6, .long v6), (8, .int v8), (9, .int v9), (10, .int v10)] → lp (fun v => f_M_readOne_l71 t_input_n t_at t_input v8 v.1 v.2) K (t_fault, v10) = some o → (fun o => f_M_readOne_j119 n p1_n t_at o.1 p1 v2 v6 v8 v9) o = some out → W p l e rm_M_readOne s m args below meth c H locs 0 0 Q (F0 m 71 ls []) := by
    intro K
    induction K with
    | zero => intros; exact absurd (by assumption) lp_no
    | succ K ih71 =>
      intro t_at t_fault p1 v8 v9 v10 o H locs ls hP hD hS hl h0 hx71
      obtain ⟨b71, h, hc71⟩ := lp_at h0
      have h : f_M_readOne_l71 t_input_n t_at t_input v8 t_fault v10 = some b71 := h
      unfold f_M_readOne_l71 at h
      refine lv_iload hx hb d_M_readOne_71 (lv_at hl 6 rfl) ?_
      refine lv_bipush (v := 8) hx hb d_M_readOne_73 (by decide) ?_
      refine lv_iload hx hb d_M_readOne_75 (lv_at hl 4 rfl) ?_
      refine lv_imul hx hb d_M_readOne_77 ?_
      refine lv_icmp_ge (tgt := 119) hx hb d_M_readOne_78 (by decide) (fun c => ?_) (fun c => ?_)
      · have h := ift_at h c
        obtain rfl := lp_out h hc71
        exact J119 t_at t_fault p1 v8 v9 _ _ ls hP hD hS (lv_sub hl [0, 1, 2, 3, 4, 5] rfl) hx71
      · have h := iff_at h c
        refine lv_aload_n hx hb d_M_readOne_81 rfl (lv_at hl 0 rfl) ?_
        refine va_get (D := D) (ci := 9) (v := .ref a_t_input) (C := "PageFormModel") (T := F_M) (N := 41) hx hb hts in_M hown hK hP 0 rfl rfl 24 (by decide) (hts _ fl_M_53) (fun _ h9 => h9) rfl d_M_readOne_82 ?_
        refine lv_aload_n hx hb d_M_readOne_85 rfl (lv_at hl 0 rfl) ?_
        refine va_get (D := D) (ci := 9) (v := .int t_at) (C := "PageFormModel") (T := F_M) (N := 41) hx hb hts in_M hown hK hP 0 rfl rfl 30 (by decide) (hts _ fl_M_94) (fun _ h9 => h9) rfl d_M_readOne_86 ?_
        refine lv_iload hx hb d_M_readOne_89 (lv_at hl 6 rfl) ?_
        refine lv_bipush (v := 8) hx hb d_M_readOne_91 (by decide) ?_
        refine lv_idiv hx hb d_M_readOne_93 (by decide) ?_
        refine lv_iadd hx hb d_M_readOne_94 ?_
        obtain ⟨g17, h⟩ := gd_at h
        refine va_iald hx hb hK hP 1 1 rfl rfl (inB_in g17) d_M_readOne_95 ?_
        refine lv_iload hx hb d_M_readOne_96 (lv_at hl 6 rfl) ?_
        refine lv_bipush (v := 8) hx hb d_M_readOne_98 (by decide) ?_
        refine lv_irem hx hb d_M_readOne_100 (by decide) ?_
        refine lv_ishr hx hb d_M_readOne_101 ?_
        refine lv_iconst (v := 1) hx hb d_M_readOne_102 (by decide) ?_
        refine lv_iand hx hb d_M_readOne_103 ?_
        refine lv_iconst (v := 1) hx hb d_M_readOne_104 (by decide) ?_
        refine lv_icmp_ne (tgt := 113) hx hb d_M_readOne_105 (by decide) (fun c => ?_) (fun c => ?_)
        · have h := iff_at h c
          obtain ⟨x18, ex18⟩ : ∃ z : Int32, z = v10 + (1 : Int32) := ⟨_, rfl⟩
          have h := bnd_at h ex18
          refine lv_iinc (v := x18) (lv' := [(10, .int x18), (0, .ref a_t), (1, .ref a_p1), (2, .int v2), (6, .long v6), (8, .int v8), (9, .int v9)]) hx hb d_M_readOne_113 hl (k := 6) rfl (by rw [ex18]; rfl) (by decide) rfl (fun ls hl => ?_)
          refine lv_goto (tgt := 71) hx hb d_M_readOne_116 (by decide) ?_
          have h := lp_go h hc71
          exact ih71 t_at t_fault p1 v8 v9 x18 o _ _ ls hP hD hS (lv_sub hl [1, 2, 3, 4, 5, 6, 0] rfl) h hx71
        · have h := ift_at h c
          refine lv_aload_n hx hb d_M_readOne_108 rfl (lv_at hl 0 rfl) ?_
          refine lv_iconst (v := 5) hx hb d_M_readOne_109 (by decide) ?_
          refine va_put (D := D) (ci := 9) (v := .int (5 : Int32)) (ty := .int) (C := "PageFormModel") (T := F_M) (N := 41) hx hb hts in_M t_M t_M_ok n_M hown hK hP hD hS 0 rfl rfl 32 (by decide) (hts _ fl_M_91) (fun _ h9 => h9) rfl (by decide +kernel) rfl rfl (Nat.le_of_ble_eq_true rfl) d_M_readOne_110 (fun H locs hP hD hS => ?_)
          have hP : va_P D CL [(a_t, .inr (9, [.int t_code, .int t_type, .int t_mostR, .int t_mostD, .int t_entries, .int t_values, .int t_coding, .int t_bodySize, .ref a_t_repetitions, .ref a_t_definitions, .ref a_t_newRepetitions, .ref a_t_newDefinitions, .ref a_t_wholes, .ref a_t_newWholes, .ref a_t_words8, .ref a_t_from, .ref a_t_newFrom, .ref a_t_wordFrom, .ref a_t_bytes, .ref a_t_newBytes, .ref a_t_wordBytes, .int t_newCount, .int t_words, .ref a_t_tape, .ref a_t_input, .ref a_t_out, .ref a_t_body, .int t_taped, .int t_inputSize, .int t_outSize, .int t_at, .int t_stop, .int (5 : Int32), .ref a_t_longs, .int t_longCount, .ref a_t_numbers, .ref a_t_common, .ref a_t_more, .ref a_t_told2, .ref a_t_toldSize, .ref a_t_toldBytes])), (a_t_input, .inl (k.2.1, t_input_n, .inl t_input)), (a_p1, .inl (k.2.1, p1_n, .inl p1))] H := hP
          have hD : va_D A [(a_t, .inr (9, [.int t_code, .int t_type, .int t_mostR, .int t_mostD, .int t_entries, .int t_values, .int t_coding, .int t_bodySize, .ref a_t_repetitions, .ref a_t_definitions, .ref a_t_newRepetitions, .ref a_t_newDefinitions, .ref a_t_wholes, .ref a_t_newWholes, .ref a_t_words8, .ref a_t_from, .ref a_t_newFrom, .ref a_t_wordFrom, .ref a_t_bytes, .ref a_t_newBytes, .ref a_t_wordBytes, .int t_newCount, .int t_words, .ref a_t_tape, .ref a_t_input, .ref a_t_out, .ref a_t_body, .int t_taped, .int t_inputSize, .int t_outSize, .int t_at, .int t_stop, .int (5 : Int32), .ref a_t_longs, .int t_longCount, .ref a_t_numbers, .ref a_t_common, .ref a_t_more, .ref a_t_told2, .ref a_t_toldSize, .ref a_t_toldBytes])), (a_t_input, .inl (k.2.1, t_input_n, .inl t_input)), (a_p1, .inl (k.2.1, p1_n, .inl p1))] := hD
          obtain ⟨x20, ex20⟩ : ∃ z : Int32, z = v10 + (1 : Int32) := ⟨_, rfl⟩
          have h := bnd_at h ex20
          refine lv_iinc (v := x20) (lv' := [(10, .int x20), (0, .ref a_t), (1, .ref a_p1), (2, .int v2), (6, .long v6), (8, .int v8), (9, .int v9)]) hx hb d_M_readOne_113 hl (k := 6) rfl (by rw [ex20]; rfl) (by decide) rfl (fun ls hl => ?_)
          refine lv_goto (tgt := 71) hx hb d_M_readOne_116 (by decide) ?_
          have h := lp_go h hc71
          exact ih71 t_at (5 : Int32) p1 v8 v9 x20 o _ _ ls hP hD hS (lv_sub hl [1, 2, 3, 4, 5, 6, 0] rfl) h hx71
  have J45 : ∀ (t_at : Int32) (t_fault : Int32) (p1 : Nat → Int32) (v8 : Int32) (H : Heap) (locs : List Loc) (ls : Array Slot), va_P D CL [(a_t, .inr (9, [.int t_code, .int t_type, .int t_mostR, .int t_mostD, .int t_entries, .int t_values, .int t_coding, .int t_bodySize, .ref a_t_repetitions, .ref a_t_definitions, .ref a_t_newRepetitions, .ref a_t_newDefinitions, .ref a_t_wholes, .ref a_t_newWholes, .ref a_t_words8, .ref a_t_from, .ref a_t_newFrom, .ref a_t_wordFrom, .ref a_t_bytes, .ref a_t_newBytes, .ref a_t_wordBytes, .int t_newCount, .int t_words, .ref a_t_tape, .ref a_t_input, .ref a_t_out, .ref a_t_body, .int t_taped, .int t_inputSize, .int t_outSize, .int t_at, .int t_stop, .int t_fault, .ref a_t_longs, .int t_longCount, .ref a_t_numbers, .ref a_t_common, .ref a_t_more, .ref a_t_told2, .ref a_t_toldSize, .ref a_t_toldBytes])), (a_t_input, .inl (k.2.1, t_input_n, .inl t_input)), (a_p1, .inl (k.2.1, p1_n, .inl p1))] H → va_D A [(a_t, .inr (9, [.int t_code, .int t_type, .int t_mostR, .int t_mostD, .int t_entries, .int t_values, .int t_coding, .int t_bodySize, .ref a_t_repetitions, .ref a_t_definitions, .ref a_t_newRepetitions, .ref a_t_newDefinitions, .ref a_t_wholes, .ref a_t_newWholes, .ref a_t_words8, .ref a_t_from, .ref a_t_newFrom, .ref a_t_wordFrom, .ref a_t_bytes, .ref a_t_newBytes, .ref a_t_wordBytes, .int t_newCount, .int t_words, .ref a_t_tape, .ref a_t_input, .ref a_t_out, .ref a_t_body, .int t_taped, .int t_inputSize, .int t_outSize, .int t_at, .int t_stop, .int t_fault, .ref a_t_longs, .int t_longCount, .ref a_t_numbers, .ref a_t_common, .ref a_t_more, .ref a_t_told2, .ref a_t_toldSize, .ref a_t_toldBytes])), (a_t_input, .inl (k.2.1, t_input_n, .inl t_input)), (a_p1, .inl (k.2.1, p1_n, .inl p1))] → va_S A s.heap H locs → lv_has ls 11 [(0, .ref a_t), (1, .ref a_p1), (2, .int v2), (4, .int v4), (6, .long v6), (8, .int v8)] → f_M_readOne_j45 n t_input_n p1_n t_at t_fault t_input p1 v2 v4 v6 v8 = some out → W p l e rm_M_readOne s m args below meth c H locs 0 0 Q (F0 m 45 ls []) := by
    intro t_at t_fault p1 v8 H locs ls hP hD hS hl h
    unfold f_M_readOne_j45 at h
    refine lv_aload_n hx hb d_M_readOne_45 rfl (lv_at hl 0 rfl) ?_
    refine va_get (D := D) (ci := 9) (v := .int t_fault) (C := "PageFormModel") (T := F_M) (N := 41) hx hb hts in_M hown hK hP 0 rfl rfl 32 (by decide) (hts _ fl_M_91) (fun _ h9 => h9) rfl d_M_readOne_46 ?_
    refine lv_if_eq (tgt := 54) hx hb d_M_readOne_49 (by decide) (fun c => ?_) (fun c => ?_)
    · have h := ift_at h c
      refine lv_aload_n hx hb d_M_readOne_54 rfl (lv_at hl 0 rfl) ?_
      refine lv_aload_n hx hb d_M_readOne_55 rfl (lv_at hl 0 rfl) ?_
      refine va_get (D := D) (ci := 9) (v := .int t_at) (C := "PageFormModel") (T := F_M) (N := 41) hx hb hts in_M hown hK hP 0 rfl rfl 30 (by decide) (hts _ fl_M_94) (fun _ h9 => h9) rfl d_M_readOne_56 ?_
      refine lv_iconst (v := 0) hx hb d_M_readOne_59 (by decide) ?_
      refine lv_iload hx hb d_M_readOne_60 (lv_at hl 3 rfl) ?_
      obtain ⟨o26, ho26, h⟩ := obd_at h
      refine g_V (As := [.int t_at, .int (0 : Int32), .int v4]) (rest := []) hx hb hml hown hts hA hK hP hD hS hE (c_M_bitsAt l D k a_t a_t_repetitions a_t_definitions a_t_newRepetitions a_t_newDefinitions a_t_wholes a_t_newWholes a_t_words8 a_t_from a_t_newFrom a_t_wordFrom a_t_bytes a_t_newBytes a_t_wordBytes a_t_tape a_t_input a_t_out a_t_body a_t_longs a_t_numbers a_t_common a_t_more a_t_told2 a_t_toldSize a_t_toldBytes t_input_n t_code t_type t_mostR t_mostD t_entries t_values t_coding t_bodySize t_newCount t_words t_taped t_inputSize t_outSize t_at t_stop t_fault t_longCount t_input t_at (0 : Int32) v4 n o26 ho26) mw_M_bitsAt mi_M_bitsAt ml_M_124 [0, 1] rfl (by decide) rfl rfl rfl 0 rfl rfl rfl rfl rfl hl.1 rfl (Nat.le_of_ble_eq_true rfl) ⟨Nat.zero_le _, Nat.zero_le _⟩ d_M_readOne_62 (fun H locs hP hD hS => ?_)
      have hP : va_P D CL [(a_t, .inr (9, [.int t_code, .int t_type, .int t_mostR, .int t_mostD, .int t_entries, .int t_values, .int t_coding, .int t_bodySize, .ref a_t_repetitions, .ref a_t_definitions, .ref a_t_newRepetitions, .ref a_t_newDefinitions, .ref a_t_wholes, .ref a_t_newWholes, .ref a_t_words8, .ref a_t_from, .ref a_t_newFrom, .ref a_t_wordFrom, .ref a_t_bytes, .ref a_t_newBytes, .ref a_t_wordBytes, .int t_newCount, .int t_words, .ref a_t_tape, .ref a_t_input, .ref a_t_out, .ref a_t_body, .int t_taped, .int t_inputSize, .int t_outSize, .int t_at, .int t_stop, .int t_fault, .ref a_t_longs, .int t_longCount, .ref a_t_numbers, .ref a_t_common, .ref a_t_more, .ref a_t_told2, .ref a_t_toldSize, .ref a_t_toldBytes])), (a_t_input, .inl (k.2.1, t_input_n, .inl t_input)), (a_p1, .inl (k.2.1, p1_n, .inl p1))] H := hP
      have hD : va_D A [(a_t, .inr (9, [.int t_code, .int t_type, .int t_mostR, .int t_mostD, .int t_entries, .int t_values, .int t_coding, .int t_bodySize, .ref a_t_repetitions, .ref a_t_definitions, .ref a_t_newRepetitions, .ref a_t_newDefinitions, .ref a_t_wholes, .ref a_t_newWholes, .ref a_t_words8, .ref a_t_from, .ref a_t_newFrom, .ref a_t_wordFrom, .ref a_t_bytes, .ref a_t_newBytes, .ref a_t_wordBytes, .int t_newCount, .int t_words, .ref a_t_tape, .ref a_t_input, .ref a_t_out, .ref a_t_body, .int t_taped, .int t_inputSize, .int t_outSize, .int t_at, .int t_stop, .int t_fault, .ref a_t_longs, .int t_longCount, .ref a_t_numbers, .ref a_t_common, .ref a_t_more, .ref a_t_told2, .ref a_t_toldSize, .ref a_t_toldBytes])), (a_t_input, .inl (k.2.1, t_input_n, .inl t_input)), (a_p1, .inl (k.2.1, p1_n, .inl p1))] := hD
      refine W.eq (g2 := F0 m 65 ls [.int o26]) rfl ?_
      refine lv_istore (lv' := [(9, .int o26), (0, .ref a_t), (1, .ref a_p1), (2, .int v2), (4, .int v4), (6, .long v6), (8, .int v8)]) hx hb d_M_readOne_65 hl (by decide) rfl (fun ls hl => ?_)
      refine lv_iload hx hb d_M_readOne_67 (lv_at hl 4 rfl) ?_
      refine lv_istore (lv' := [(10, .int v4), (9, .int o26), (0, .ref a_t), (1, .ref a_p1), (2, .int v2), (4, .int v4), (6, .long v6), (8, .int v8)]) hx hb d_M_readOne_69 hl (by decide) rfl (fun ls hl => ?_)
      obtain ⟨o27, ho27, h⟩ := obd_at h
      exact L71 n t_at t_fault p1 v8 o26 v4 o27 _ _ ls hP hD hS (lv_sub hl [2, 3, 4, 6, 7, 1, 0] rfl) ho27 h
    · have h := iff_at h c
      refine lv_iload_n hx hb d_M_readOne_52 rfl (lv_at hl 2 rfl) ?_
      exact ret2 _ _ _ _ (Option.some.inj h) d_M_readOne_53 hP hD hS
  unfold f_M_readOne at h
  refine lv_iload hx hb d_M_readOne_0 (lv_at hl 4 rfl) ?_
  refine lv_bipush (v := 7) hx hb d_M_readOne_2 (by decide) ?_
  refine lv_iadd hx hb d_M_readOne_4 ?_
  refine lv_bipush (v := 8) hx hb d_M_readOne_5 (by decide) ?_
  refine lv_idiv hx hb d_M_readOne_7 (by decide) ?_
  refine lv_topi (fun x28 ex28 => ?_)
  have h := bnd_at h ex28
  refine lv_istore (lv' := [(8, .int x28), (0, .ref a_t), (1, .ref a_p1), (2, .int v2), (3, .int v3), (4, .int v4), (5, .int v5), (6, .long v6)]) hx hb d_M_readOne_8 hl (by decide) rfl (fun ls hl => ?_)
  refine lv_lload hx hb d_M_readOne_10 (lv_at hl 7 rfl) ?_
  refine lv_iload_n hx hb d_M_readOne_12 rfl (lv_at hl 4 rfl) ?_
  refine lv_iload_n hx hb d_M_readOne_13 rfl (lv_at hl 3 rfl) ?_
  refine lv_isub hx hb d_M_readOne_14 ?_
  refine lv_i2l hx hb d_M_readOne_15 rfl ?_
  refine W.lcmp hx hb d_M_readOne_16 ?_
  refine lv_if_le (tgt := 28) hx hb d_M_readOne_17 (by decide) (fun c => ?_) (fun c => ?_)
  · have c := zc_le.mp c
    have h := ift_at h c
    refine lv_iload hx hb d_M_readOne_28 (lv_at hl 6 rfl) ?_
    refine lv_aload_n hx hb d_M_readOne_30 rfl (lv_at hl 1 rfl) ?_
    refine va_get (D := D) (ci := 9) (v := .int t_at) (C := "PageFormModel") (T := F_M) (N := 41) hx hb hts in_M hown hK hP 0 rfl rfl 30 (by decide) (hts _ fl_M_94) (fun _ h9 => h9) rfl d_M_readOne_31 ?_
    refine lv_isub hx hb d_M_readOne_34 ?_
    refine lv_iload hx hb d_M_readOne_35 (lv_at hl 0 rfl) ?_
    refine lv_icmp_ge (tgt := 45) hx hb d_M_readOne_37 (by decide) (fun c => ?_) (fun c => ?_)
    · have h := ift_at h c
      exact J45 t_at t_fault p1 x28 _ _ ls hP hD hS (lv_sub hl [1, 2, 3, 5, 7, 0] rfl) h
    · have h := iff_at h c
      refine lv_aload_n hx hb d_M_readOne_40 rfl (lv_at hl 1 rfl) ?_
      refine lv_iconst (v := 1) hx hb d_M_readOne_41 (by decide) ?_
      refine va_put (D := D) (ci := 9) (v := .int (1 : Int32)) (ty := .int) (C := "PageFormModel") (T := F_M) (N := 41) hx hb hts in_M t_M t_M_ok n_M hown hK hP hD hS 0 rfl rfl 32 (by decide) (hts _ fl_M_91) (fun _ h9 => h9) rfl (by decide +kernel) rfl rfl (Nat.le_of_ble_eq_true rfl) d_M_readOne_42 (fun H locs hP hD hS => ?_)
      have hP : va_P D CL [(a_t, .inr (9, [.int t_code, .int t_type, .int t_mostR, .int t_mostD, .int t_entries, .int t_values, .int t_coding, .int t_bodySize, .ref a_t_repetitions, .ref a_t_definitions, .ref a_t_newRepetitions, .ref a_t_newDefinitions, .ref a_t_wholes, .ref a_t_newWholes, .ref a_t_words8, .ref a_t_from, .ref a_t_newFrom, .ref a_t_wordFrom, .ref a_t_bytes, .ref a_t_newBytes, .ref a_t_wordBytes, .int t_newCount, .int t_words, .ref a_t_tape, .ref a_t_input, .ref a_t_out, .ref a_t_body, .int t_taped, .int t_inputSize, .int t_outSize, .int t_at, .int t_stop, .int (1 : Int32), .ref a_t_longs, .int t_longCount, .ref a_t_numbers, .ref a_t_common, .ref a_t_more, .ref a_t_told2, .ref a_t_toldSize, .ref a_t_toldBytes])), (a_t_input, .inl (k.2.1, t_input_n, .inl t_input)), (a_p1, .inl (k.2.1, p1_n, .inl p1))] H := hP
      have hD : va_D A [(a_t, .inr (9, [.int t_code, .int t_type, .int t_mostR, .int t_mostD, .int t_entries, .int t_values, .int t_coding, .int t_bodySize, .ref a_t_repetitions, .ref a_t_definitions, .ref a_t_newRepetitions, .ref a_t_newDefinitions, .ref a_t_wholes, .ref a_t_newWholes, .ref a_t_words8, .ref a_t_from, .ref a_t_newFrom, .ref a_t_wordFrom, .ref a_t_bytes, .ref a_t_newBytes, .ref a_t_wordBytes, .int t_newCount, .int t_words, .ref a_t_tape, .ref a_t_input, .ref a_t_out, .ref a_t_body, .int t_taped, .int t_inputSize, .int t_outSize, .int t_at, .int t_stop, .int (1 : Int32), .ref a_t_longs, .int t_longCount, .ref a_t_numbers, .ref a_t_common, .ref a_t_more, .ref a_t_told2, .ref a_t_toldSize, .ref a_t_toldBytes])), (a_t_input, .inl (k.2.1, t_input_n, .inl t_input)), (a_p1, .inl (k.2.1, p1_n, .inl p1))] := hD
      exact J45 t_at (1 : Int32) p1 x28 _ _ ls hP hD hS (lv_sub hl [1, 2, 3, 5, 7, 0] rfl) h
  · have c := mt zc_le.mpr c
    have h := iff_at h c
    refine lv_aload_n hx hb d_M_readOne_20 rfl (lv_at hl 1 rfl) ?_
    refine lv_iconst (v := 4) hx hb d_M_readOne_21 (by decide) ?_
    refine va_put (D := D) (ci := 9) (v := .int (4 : Int32)) (ty := .int) (C := "PageFormModel") (T := F_M) (N := 41) hx hb hts in_M t_M t_M_ok n_M hown hK hP hD hS 0 rfl rfl 32 (by decide) (hts _ fl_M_91) (fun _ h9 => h9) rfl (by decide +kernel) rfl rfl (Nat.le_of_ble_eq_true rfl) d_M_readOne_22 (fun H locs hP hD hS => ?_)
    have hP : va_P D CL [(a_t, .inr (9, [.int t_code, .int t_type, .int t_mostR, .int t_mostD, .int t_entries, .int t_values, .int t_coding, .int t_bodySize, .ref a_t_repetitions, .ref a_t_definitions, .ref a_t_newRepetitions, .ref a_t_newDefinitions, .ref a_t_wholes, .ref a_t_newWholes, .ref a_t_words8, .ref a_t_from, .ref a_t_newFrom, .ref a_t_wordFrom, .ref a_t_bytes, .ref a_t_newBytes, .ref a_t_wordBytes, .int t_newCount, .int t_words, .ref a_t_tape, .ref a_t_input, .ref a_t_out, .ref a_t_body, .int t_taped, .int t_inputSize, .int t_outSize, .int t_at, .int t_stop, .int (4 : Int32), .ref a_t_longs, .int t_longCount, .ref a_t_numbers, .ref a_t_common, .ref a_t_more, .ref a_t_told2, .ref a_t_toldSize, .ref a_t_toldBytes])), (a_t_input, .inl (k.2.1, t_input_n, .inl t_input)), (a_p1, .inl (k.2.1, p1_n, .inl p1))] H := hP
    have hD : va_D A [(a_t, .inr (9, [.int t_code, .int t_type, .int t_mostR, .int t_mostD, .int t_entries, .int t_values, .int t_coding, .int t_bodySize, .ref a_t_repetitions, .ref a_t_definitions, .ref a_t_newRepetitions, .ref a_t_newDefinitions, .ref a_t_wholes, .ref a_t_newWholes, .ref a_t_words8, .ref a_t_from, .ref a_t_newFrom, .ref a_t_wordFrom, .ref a_t_bytes, .ref a_t_newBytes, .ref a_t_wordBytes, .int t_newCount, .int t_words, .ref a_t_tape, .ref a_t_input, .ref a_t_out, .ref a_t_body, .int t_taped, .int t_inputSize, .int t_outSize, .int t_at, .int t_stop, .int (4 : Int32), .ref a_t_longs, .int t_longCount, .ref a_t_numbers, .ref a_t_common, .ref a_t_more, .ref a_t_told2, .ref a_t_toldSize, .ref a_t_toldBytes])), (a_t_input, .inl (k.2.1, t_input_n, .inl t_input)), (a_p1, .inl (k.2.1, p1_n, .inl p1))] := hD
    refine lv_goto (tgt := 45) hx hb d_M_readOne_25 (by decide) ?_
    exact J45 t_at (4 : Int32) p1 x28 _ _ ls hP hD hS (lv_sub hl [1, 2, 3, 5, 7, 0] rfl) h

def rm_M_readGroups : Room := { frames := 1, cells := 0, slots := 0, locals := 25 }
def f_M_readGroups_j124 (t_at : Int32) (t_fault : Int32) (p1 : Nat → Int32) (v2 : Int32) (v4 : Int32) (v6 : Int64) : Option (Int32 × Int32 × Int32 × (Nat → Int32)) :=
  bnd (t_at + (v6.toInt32 * v4)) (fun x3 => some ((v2 + ((8 : Int32) * v6.toInt32)), x3, t_fault, p1))
def f_M_readGroups_l59 (n : Nat) (t_input_n : Nat) (p1_n : Nat) (t_at : Int32) (t_input : Nat → Int32) (v2 : Int32) (v3 : Int32) (v4 : Int32) (v6 : Int64) (t_fault : Int32) (p1 : Nat → Int32) (v8 : Int32) : Option ((Int32 × (Nat → Int32) × Int32) ⊕ ((Int32 × (Nat → Int32) × Int32))) :=
  (if ((8 : Int64) * v6) ≤ v8.toInt64 then some (Sum.inr ((t_fault, p1, v8))) else Option.bind (f_M_bitsAt n t_input_n t_input t_at (v4 * v8) v4) (fun o8 => (if v3 ≤ (v2 + v8) then (if o8 = 0 then bnd (v8 + (1 : Int32)) (fun x9 => some (Sum.inl (t_fault, p1, x9))) else bnd (v8 + (1 : Int32)) (fun x12 => some (Sum.inl ((5 : Int32), p1, x12)))) else gd (inB (v2 + v8) p1_n) (bnd (v8 + (1 : Int32)) (fun x16 => some (Sum.inl (t_fault, upd p1 (v2 + v8).toNatClampNeg o8, x16)))))))
def f_M_readGroups_j47 (n : Nat) (t_input_n : Nat) (p1_n : Nat) (t_at : Int32) (t_fault : Int32) (t_input : Nat → Int32) (p1 : Nat → Int32) (v2 : Int32) (v3 : Int32) (v4 : Int32) (v6 : Int64) : Option (Int32 × Int32 × Int32 × (Nat → Int32)) :=
  (if t_fault = 0 then Option.bind (lp (fun v => f_M_readGroups_l59 n t_input_n p1_n t_at t_input v2 v3 v4 v6 v.1 v.2.1 v.2.2) n (t_fault, p1, (0 : Int32))) (fun o => f_M_readGroups_j124 t_at o.1 o.2.1 v2 v4 v6) else some (v2, t_at, t_fault, p1))
def f_M_readGroups (n : Nat) (t_input_n : Nat) (p1_n : Nat) (t_at : Int32) (t_fault : Int32) (t_input : Nat → Int32) (p1 : Nat → Int32) (v2 : Int32) (v3 : Int32) (v4 : Int32) (v5 : Int32) (v6 : Int64) : Option (Int32 × Int32 × Int32 × (Nat → Int32)) :=
  (if v6 ≤ ((((v3 - v2) + (7 : Int32)) / (8 : Int32)).toInt64) then (if (v6 * v4.toInt64) ≤ ((v5 - t_at).toInt64) then f_M_readGroups_j47 n t_input_n p1_n t_at t_fault t_input p1 v2 v3 v4 v6 else f_M_readGroups_j47 n t_input_n p1_n t_at (1 : Int32) t_input p1 v2 v3 v4 v6) else f_M_readGroups_j47 n t_input_n p1_n t_at (4 : Int32) t_input p1 v2 v3 v4 v6)
set_option maxHeartbeats 4000000 in
set_option maxRecDepth 100000 in
theorem c_M_readGroups (l : Launch) (D : va_G) (k : ClassId × ClassId × ClassId) (a_t a_t_repetitions a_t_definitions a_t_newRepetitions a_t_newDefinitions a_t_wholes a_t_newWholes a_t_words8 a_t_from a_t_newFrom a_t_wordFrom a_t_bytes a_t_newBytes a_t_wordBytes a_t_tape a_t_input a_t_out a_t_body a_t_longs a_t_numbers a_t_common a_t_more a_t_told2 a_t_toldSize a_t_toldBytes a_p1 : Nat) (t_input_n p1_n : Nat) (t_code : Int32) (t_type : Int32) (t_mostR : Int32) (t_mostD : Int32) (t_entries : Int32) (t_values : Int32) (t_coding : Int32) (t_bodySize : Int32) (t_newCount : Int32) (t_words : Int32) (t_taped : Int32) (t_inputSize : Int32) (t_outSize : Int32) (t_at : Int32) (t_stop : Int32) (t_fault : Int32) (t_longCount : Int32) (t_input : Nat → Int32) (p1 : Nat → Int32) (v2 : Int32) (v3 : Int32) (v4 : Int32) (v5 : Int32) (v6 : Int64) (n : Nat) (out : Int32 × Int32 × Int32 × (Nat → Int32)) (h : f_M_readGroups n t_input_n p1_n t_at t_fault t_input p1 v2 v3 v4 v5 v6 = some out) : Ct l D k y_M_readGroups b_M_readGroups 10 (some .int) rm_M_readGroups [.ref a_t, .ref a_p1, .int v2, .int v3, .int v4, .int v5, .long v6] [(a_t, .inr (9, [.int t_code, .int t_type, .int t_mostR, .int t_mostD, .int t_entries, .int t_values, .int t_coding, .int t_bodySize, .ref a_t_repetitions, .ref a_t_definitions, .ref a_t_newRepetitions, .ref a_t_newDefinitions, .ref a_t_wholes, .ref a_t_newWholes, .ref a_t_words8, .ref a_t_from, .ref a_t_newFrom, .ref a_t_wordFrom, .ref a_t_bytes, .ref a_t_newBytes, .ref a_t_wordBytes, .int t_newCount, .int t_words, .ref a_t_tape, .ref a_t_input, .ref a_t_out, .ref a_t_body, .int t_taped, .int t_inputSize, .int t_outSize, .int t_at, .int t_stop, .int t_fault, .ref a_t_longs, .int t_longCount, .ref a_t_numbers, .ref a_t_common, .ref a_t_more, .ref a_t_told2, .ref a_t_toldSize, .ref a_t_toldBytes])), (a_t_input, .inl (k.2.1, t_input_n, .inl t_input)), (a_p1, .inl (k.2.1, p1_n, .inl p1))] [(a_t, .inr (9, [.int t_code, .int t_type, .int t_mostR, .int t_mostD, .int t_entries, .int t_values, .int t_coding, .int t_bodySize, .ref a_t_repetitions, .ref a_t_definitions, .ref a_t_newRepetitions, .ref a_t_newDefinitions, .ref a_t_wholes, .ref a_t_newWholes, .ref a_t_words8, .ref a_t_from, .ref a_t_newFrom, .ref a_t_wordFrom, .ref a_t_bytes, .ref a_t_newBytes, .ref a_t_wordBytes, .int t_newCount, .int t_words, .ref a_t_tape, .ref a_t_input, .ref a_t_out, .ref a_t_body, .int t_taped, .int t_inputSize, .int t_outSize, .int out.2.1, .int t_stop, .int out.2.2.1, .ref a_t_longs, .int t_longCount, .ref a_t_numbers, .ref a_t_common, .ref a_t_more, .ref a_t_told2, .ref a_t_toldSize, .ref a_t_toldBytes])), (a_t_input, .inl (k.2.1, t_input_n, .inl t_input)), (a_p1, .inl (k.2.1, p1_n, .inl out.2.2.2))] (some (.int out.1)) := by
  refine Ct.ofI (by decide) (Nat.le_of_ble_eq_true rfl) ?_
  intro p e s m args below meth c A Q ls hx hb hml hown hts hA hK hP hD hS hE hl ret
  have hown : s.vm.findClass "PageFormModel" = some m.cls := hown
  have hl : lv_has ls 10 [(0, .ref a_t), (1, .ref a_p1), (2, .int v2), (3, .int v3), (4, .int v4), (5, .int v5), (6, .long v6)] := hl
  have ret2 : ∀ (y0 : Int32) (y1 : Int32) (y2 : Int32) (y3 : Nat → Int32) (_ : (y0, y1, y2, y3) = out) {pc : Nat} {ls : Array Slot} {H : Heap} {locs : List Loc}, decode b_M_readGroups pc = .ok (.ireturn, 1) → va_P D CL [(a_t, .inr (9, [.int t_code, .int t_type, .int t_mostR, .int t_mostD, .int t_entries, .int t_values, .int t_coding, .int t_bodySize, .ref a_t_repetitions, .ref a_t_definitions, .ref a_t_newRepetitions, .ref a_t_newDefinitions, .ref a_t_wholes, .ref a_t_newWholes, .ref a_t_words8, .ref a_t_from, .ref a_t_newFrom, .ref a_t_wordFrom, .ref a_t_bytes, .ref a_t_newBytes, .ref a_t_wordBytes, .int t_newCount, .int t_words, .ref a_t_tape, .ref a_t_input, .ref a_t_out, .ref a_t_body, .int t_taped, .int t_inputSize, .int t_outSize, .int y1, .int t_stop, .int y2, .ref a_t_longs, .int t_longCount, .ref a_t_numbers, .ref a_t_common, .ref a_t_more, .ref a_t_told2, .ref a_t_toldSize, .ref a_t_toldBytes])), (a_t_input, .inl (k.2.1, t_input_n, .inl t_input)), (a_p1, .inl (k.2.1, p1_n, .inl y3))] H → va_D A [(a_t, .inr (9, [.int t_code, .int t_type, .int t_mostR, .int t_mostD, .int t_entries, .int t_values, .int t_coding, .int t_bodySize, .ref a_t_repetitions, .ref a_t_definitions, .ref a_t_newRepetitions, .ref a_t_newDefinitions, .ref a_t_wholes, .ref a_t_newWholes, .ref a_t_words8, .ref a_t_from, .ref a_t_newFrom, .ref a_t_wordFrom, .ref a_t_bytes, .ref a_t_newBytes, .ref a_t_wordBytes, .int t_newCount, .int t_words, .ref a_t_tape, .ref a_t_input, .ref a_t_out, .ref a_t_body, .int t_taped, .int t_inputSize, .int t_outSize, .int y1, .int t_stop, .int y2, .ref a_t_longs, .int t_longCount, .ref a_t_numbers, .ref a_t_common, .ref a_t_more, .ref a_t_told2, .ref a_t_toldSize, .ref a_t_toldBytes])), (a_t_input, .inl (k.2.1, t_input_n, .inl t_input)), (a_p1, .inl (k.2.1, p1_n, .inl y3))] → va_S A s.heap H locs → W p l e rm_M_readGroups s m args below meth c H locs 0 0 Q (F0 m pc ls [.int y0]) := by
    intro y0 y1 y2 y3 e0; subst e0; exact ret
  clear ret
  have J124 : ∀ (t_at : Int32) (t_fault : Int32) (p1 : Nat → Int32) (H : Heap) (locs : List Loc) (ls : Array Slot), va_P D CL [(a_t, .inr (9, [.int t_code, .int t_type, .int t_mostR, .int t_mostD, .int t_entries, .int t_values, .int t_coding, .int t_bodySize, .ref a_t_repetitions, .ref a_t_definitions, .ref a_t_newRepetitions, .ref a_t_newDefinitions, .ref a_t_wholes, .ref a_t_newWholes, .ref a_t_words8, .ref a_t_from, .ref a_t_newFrom, .ref a_t_wordFrom, .ref a_t_bytes, .ref a_t_newBytes, .ref a_t_wordBytes, .int t_newCount, .int t_words, .ref a_t_tape, .ref a_t_input, .ref a_t_out, .ref a_t_body, .int t_taped, .int t_inputSize, .int t_outSize, .int t_at, .int t_stop, .int t_fault, .ref a_t_longs, .int t_longCount, .ref a_t_numbers, .ref a_t_common, .ref a_t_more, .ref a_t_told2, .ref a_t_toldSize, .ref a_t_toldBytes])), (a_t_input, .inl (k.2.1, t_input_n, .inl t_input)), (a_p1, .inl (k.2.1, p1_n, .inl p1))] H → va_D A [(a_t, .inr (9, [.int t_code, .int t_type, .int t_mostR, .int t_mostD, .int t_entries, .int t_values, .int t_coding, .int t_bodySize, .ref a_t_repetitions, .ref a_t_definitions, .ref a_t_newRepetitions, .ref a_t_newDefinitions, .ref a_t_wholes, .ref a_t_newWholes, .ref a_t_words8, .ref a_t_from, .ref a_t_newFrom, .ref a_t_wordFrom, .ref a_t_bytes, .ref a_t_newBytes, .ref a_t_wordBytes, .int t_newCount, .int t_words, .ref a_t_tape, .ref a_t_input, .ref a_t_out, .ref a_t_body, .int t_taped, .int t_inputSize, .int t_outSize, .int t_at, .int t_stop, .int t_fault, .ref a_t_longs, .int t_longCount, .ref a_t_numbers, .ref a_t_common, .ref a_t_more, .ref a_t_told2, .ref a_t_toldSize, .ref a_t_toldBytes])), (a_t_input, .inl (k.2.1, t_input_n, .inl t_input)), (a_p1, .inl (k.2.1, p1_n, .inl p1))] → va_S A s.heap H locs → lv_has ls 10 [(0, .ref a_t), (2, .int v2), (4, .int v4), (6, .long v6)] → f_M_readGroups_j124 t_at t_fault p1 v2 v4 v6 = some out → W p l e rm_M_readGroups s m args below meth c H locs 0 0 Q (F0 m 124 ls []) := by
    intro t_at t_fault p1 H locs ls hP hD hS hl h
    unfold f_M_readGroups_j124 at h
    refine lv_aload_n hx hb d_M_readGroups_124 rfl (lv_at hl 0 rfl) ?_
    refine lv_dup hx hb d_M_readGroups_125 rfl ?_
    refine va_get (D := D) (ci := 9) (v := .int t_at) (C := "PageFormModel") (T := F_M) (N := 41) hx hb hts in_M hown hK hP 0 rfl rfl 30 (by decide) (hts _ fl_M_94) (fun _ h9 => h9) rfl d_M_readGroups_126 ?_
    refine lv_lload hx hb d_M_readGroups_129 (lv_at hl 3 rfl) ?_
    refine lv_l2i hx hb d_M_readGroups_131 rfl ?_
    refine lv_iload hx hb d_M_readGroups_132 (lv_at hl 2 rfl) ?_
    refine lv_imul hx hb d_M_readGroups_134 ?_
    refine lv_iadd hx hb d_M_readGroups_135 ?_
    refine lv_topi (fun x3 ex3 => ?_)
    have h := bnd_at h ex3
    refine va_put (D := D) (ci := 9) (v := .int x3) (ty := .int) (C := "PageFormModel") (T := F_M) (N := 41) hx hb hts in_M t_M t_M_ok n_M hown hK hP hD hS 0 rfl rfl 30 (by decide) (hts _ fl_M_94) (fun _ h9 => h9) rfl (by decide +kernel) rfl rfl (Nat.le_of_ble_eq_true rfl) d_M_readGroups_136 (fun H locs hP hD hS => ?_)
    have hP : va_P D CL [(a_t, .inr (9, [.int t_code, .int t_type, .int t_mostR, .int t_mostD, .int t_entries, .int t_values, .int t_coding, .int t_bodySize, .ref a_t_repetitions, .ref a_t_definitions, .ref a_t_newRepetitions, .ref a_t_newDefinitions, .ref a_t_wholes, .ref a_t_newWholes, .ref a_t_words8, .ref a_t_from, .ref a_t_newFrom, .ref a_t_wordFrom, .ref a_t_bytes, .ref a_t_newBytes, .ref a_t_wordBytes, .int t_newCount, .int t_words, .ref a_t_tape, .ref a_t_input, .ref a_t_out, .ref a_t_body, .int t_taped, .int t_inputSize, .int t_outSize, .int x3, .int t_stop, .int t_fault, .ref a_t_longs, .int t_longCount, .ref a_t_numbers, .ref a_t_common, .ref a_t_more, .ref a_t_told2, .ref a_t_toldSize, .ref a_t_toldBytes])), (a_t_input, .inl (k.2.1, t_input_n, .inl t_input)), (a_p1, .inl (k.2.1, p1_n, .inl p1))] H := hP
    have hD : va_D A [(a_t, .inr (9, [.int t_code, .int t_type, .int t_mostR, .int t_mostD, .int t_entries, .int t_values, .int t_coding, .int t_bodySize, .ref a_t_repetitions, .ref a_t_definitions, .ref a_t_newRepetitions, .ref a_t_newDefinitions, .ref a_t_wholes, .ref a_t_newWholes, .ref a_t_words8, .ref a_t_from, .ref a_t_newFrom, .ref a_t_wordFrom, .ref a_t_bytes, .ref a_t_newBytes, .ref a_t_wordBytes, .int t_newCount, .int t_words, .ref a_t_tape, .ref a_t_input, .ref a_t_out, .ref a_t_body, .int t_taped, .int t_inputSize, .int t_outSize, .int x3, .int t_stop, .int t_fault, .ref a_t_longs, .int t_longCount, .ref a_t_numbers, .ref a_t_common, .ref a_t_more, .ref a_t_told2, .ref a_t_toldSize, .ref a_t_toldBytes])), (a_t_input, .inl (k.2.1, t_input_n, .inl t_input)), (a_p1, .inl (k.2.1, p1_n, .inl p1))] := hD
    refine lv_iload_n hx hb d_M_readGroups_139 rfl (lv_at hl 1 rfl) ?_
    refine lv_bipush (v := 8) hx hb d_M_readGroups_140 (by decide) ?_
    refine lv_lload hx hb d_M_readGroups_142 (lv_at hl 3 rfl) ?_
    refine lv_l2i hx hb d_M_readGroups_144 rfl ?_
    refine lv_imul hx hb d_M_readGroups_145 ?_
    refine lv_iadd hx hb d_M_readGroups_146 ?_
    exact ret2 _ _ _ _ (Option.some.inj h) d_M_readGroups_147 hP hD hS
  have L59 : ∀ (K : Nat) (t_at : Int32) (t_fault : Int32) (p1 : Nat → Int32) (v8 : Int32) (o : (Int32 × (Nat → Int32) × Int32)) (H : Heap) (locs : List Loc) (ls : Array Slot), va_P D CL [(a_t, .inr (9, [.int t_code, .int t_type, .int t_mostR, .int t_mostD, .int t_entries, .int t_values, .int t_coding, .int t_bodySize, .ref a_t_repetitions, .ref a_t_definitions, .ref a_t_newRepetitions, .ref a_t_newDefinitions, .ref a_t_wholes, .ref a_t_newWholes, .ref a_t_words8, .ref a_t_from, .ref a_t_newFrom, .ref a_t_wordFrom, .ref a_t_bytes, .ref a_t_newBytes, .ref a_t_wordBytes, .int t_newCount, .int t_words, .ref a_t_tape, .ref a_t_input, .ref a_t_out, .ref a_t_body, .int t_taped, .int t_inputSize, .int t_outSize, .int t_at, .int t_stop, .int t_fault, .ref a_t_longs, .int t_longCount, .ref a_t_numbers, .ref a_t_common, .ref a_t_more, .ref a_t_told2, .ref a_t_toldSize, .ref a_t_toldBytes])), (a_t_input, .inl (k.2.1, t_input_n, .inl t_input)), (a_p1, .inl (k.2.1, p1_n, .inl p1))] H → va_D A [(a_t, .inr (9, [.int t_code, .int t_type, .int t_mostR, .int t_mostD, .int t_entries, .int t_values, .int t_coding, .int t_bodySize, .ref a_t_repetitions, .ref a_t_definitions, .ref a_t_newRepetitions, .ref a_t_newDefinitions, .ref a_t_wholes, .ref a_t_newWholes, .ref a_t_words8, .ref a_t_from, .ref a_t_newFrom, .ref a_t_wordFrom, .ref a_t_bytes, .ref a_t_newBytes, .ref a_t_wordBytes, .int t_newCount, .int t_words, .ref a_t_tape, .ref a_t_input, .ref a_t_out, .ref a_t_body, .int t_taped, .int t_inputSize, .int t_outSize, .int t_at, .int t_stop, .int t_fault, .ref a_t_longs, .int t_longCount, .ref a_t_numbers, .ref a_t_common, .ref a_t_more, .ref a_t_told2, .ref a_t_toldSize, .ref a_t_toldBytes])), (a_t_input, .inl (k.2.1, t_input_n, .inl t_input)), (a_p1, .inl (k.2.1, p1_n, .inl p1))] → va_S A s.heap H locs → lv_has ls 10 [(0, .ref a_t), (1, .ref a_p1), (2, .int v2), (3, .int v3), (4, .int v4), (6, .long v6), (8, .int v8)] → lp (fun v => f_M_readGroups_l59 n t_input_n p1_n t_at t_input v2 v3 v4 v6 v.1 v.2.1 v.2.2) K (t_fault, p1, v8) = some o → (fun o => f_M_readGroups_j124 t_at o.1 o.2.1 v2 v4 v6) o = some out → W p l e rm_M_readGroups s m args below meth c H locs 0 0 Q (F0 m 59 ls []) := by
    intro K
    induction K with
    | zero => intros; exact absurd (by assumption) lp_no
    | succ K ih59 =>
      intro t_at t_fault p1 v8 o H locs ls hP hD hS hl h0 hx59
      obtain ⟨b59, h, hc59⟩ := lp_at h0
      have h : f_M_readGroups_l59 n t_input_n p1_n t_at t_input v2 v3 v4 v6 t_fault p1 v8 = some b59 := h
      unfold f_M_readGroups_l59 at h
      refine lv_iload hx hb d_M_readGroups_59 (lv_at hl 6 rfl) ?_
      refine lv_i2l hx hb d_M_readGroups_61 rfl ?_
      refine lv_ldc2 (v := 8) hx hb hown (hts _ kc_M_128) d_M_readGroups_62 ?_
      refine lv_lload hx hb d_M_readGroups_65 (lv_at hl 5 rfl) ?_
      refine lv_lmul hx hb d_M_readGroups_67 ?_
      refine W.lcmp hx hb d_M_readGroups_68 ?_
      refine lv_if_ge (tgt := 124) hx hb d_M_readGroups_69 (by decide) (fun c => ?_) (fun c => ?_)
      · have c := zc_ge.mp c
        have h := ift_at h c
        obtain rfl := lp_out h hc59
        exact J124 t_at t_fault p1 _ _ ls hP hD hS (lv_sub hl [0, 2, 4, 5] rfl) hx59
      · have c := mt zc_ge.mpr c
        have h := iff_at h c
        refine lv_aload_n hx hb d_M_readGroups_72 rfl (lv_at hl 0 rfl) ?_
        refine lv_aload_n hx hb d_M_readGroups_73 rfl (lv_at hl 0 rfl) ?_
        refine va_get (D := D) (ci := 9) (v := .int t_at) (C := "PageFormModel") (T := F_M) (N := 41) hx hb hts in_M hown hK hP 0 rfl rfl 30 (by decide) (hts _ fl_M_94) (fun _ h9 => h9) rfl d_M_readGroups_74 ?_
        refine lv_iload hx hb d_M_readGroups_77 (lv_at hl 4 rfl) ?_
        refine lv_iload hx hb d_M_readGroups_79 (lv_at hl 6 rfl) ?_
        refine lv_imul hx hb d_M_readGroups_81 ?_
        refine lv_iload hx hb d_M_readGroups_82 (lv_at hl 4 rfl) ?_
        obtain ⟨o8, ho8, h⟩ := obd_at h
        refine g_V (As := [.int t_at, .int (v4 * v8), .int v4]) (rest := []) hx hb hml hown hts hA hK hP hD hS hE (c_M_bitsAt l D k a_t a_t_repetitions a_t_definitions a_t_newRepetitions a_t_newDefinitions a_t_wholes a_t_newWholes a_t_words8 a_t_from a_t_newFrom a_t_wordFrom a_t_bytes a_t_newBytes a_t_wordBytes a_t_tape a_t_input a_t_out a_t_body a_t_longs a_t_numbers a_t_common a_t_more a_t_told2 a_t_toldSize a_t_toldBytes t_input_n t_code t_type t_mostR t_mostD t_entries t_values t_coding t_bodySize t_newCount t_words t_taped t_inputSize t_outSize t_at t_stop t_fault t_longCount t_input t_at (v4 * v8) v4 n o8 ho8) mw_M_bitsAt mi_M_bitsAt ml_M_124 [0, 1] rfl (by decide) rfl rfl rfl 0 rfl rfl rfl rfl rfl hl.1 rfl (Nat.le_of_ble_eq_true rfl) ⟨Nat.zero_le _, Nat.zero_le _⟩ d_M_readGroups_84 (fun H locs hP hD hS => ?_)
        have hP : va_P D CL [(a_t, .inr (9, [.int t_code, .int t_type, .int t_mostR, .int t_mostD, .int t_entries, .int t_values, .int t_coding, .int t_bodySize, .ref a_t_repetitions, .ref a_t_definitions, .ref a_t_newRepetitions, .ref a_t_newDefinitions, .ref a_t_wholes, .ref a_t_newWholes, .ref a_t_words8, .ref a_t_from, .ref a_t_newFrom, .ref a_t_wordFrom, .ref a_t_bytes, .ref a_t_newBytes, .ref a_t_wordBytes, .int t_newCount, .int t_words, .ref a_t_tape, .ref a_t_input, .ref a_t_out, .ref a_t_body, .int t_taped, .int t_inputSize, .int t_outSize, .int t_at, .int t_stop, .int t_fault, .ref a_t_longs, .int t_longCount, .ref a_t_numbers, .ref a_t_common, .ref a_t_more, .ref a_t_told2, .ref a_t_toldSize, .ref a_t_toldBytes])), (a_t_input, .inl (k.2.1, t_input_n, .inl t_input)), (a_p1, .inl (k.2.1, p1_n, .inl p1))] H := hP
        have hD : va_D A [(a_t, .inr (9, [.int t_code, .int t_type, .int t_mostR, .int t_mostD, .int t_entries, .int t_values, .int t_coding, .int t_bodySize, .ref a_t_repetitions, .ref a_t_definitions, .ref a_t_newRepetitions, .ref a_t_newDefinitions, .ref a_t_wholes, .ref a_t_newWholes, .ref a_t_words8, .ref a_t_from, .ref a_t_newFrom, .ref a_t_wordFrom, .ref a_t_bytes, .ref a_t_newBytes, .ref a_t_wordBytes, .int t_newCount, .int t_words, .ref a_t_tape, .ref a_t_input, .ref a_t_out, .ref a_t_body, .int t_taped, .int t_inputSize, .int t_outSize, .int t_at, .int t_stop, .int t_fault, .ref a_t_longs, .int t_longCount, .ref a_t_numbers, .ref a_t_common, .ref a_t_more, .ref a_t_told2, .ref a_t_toldSize, .ref a_t_toldBytes])), (a_t_input, .inl (k.2.1, t_input_n, .inl t_input)), (a_p1, .inl (k.2.1, p1_n, .inl p1))] := hD
        refine W.eq (g2 := F0 m 87 ls [.int o8]) rfl ?_
        refine lv_istore (lv' := [(9, .int o8), (0, .ref a_t), (1, .ref a_p1), (2, .int v2), (3, .int v3), (4, .int v4), (6, .long v6), (8, .int v8)]) hx hb d_M_readGroups_87 hl (by decide) rfl (fun ls hl => ?_)
        refine lv_iload_n hx hb d_M_readGroups_89 rfl (lv_at hl 3 rfl) ?_
        refine lv_iload hx hb d_M_readGroups_90 (lv_at hl 7 rfl) ?_
        refine lv_iadd hx hb d_M_readGroups_92 ?_
        refine lv_iload_n hx hb d_M_readGroups_93 rfl (lv_at hl 4 rfl) ?_
        refine lv_icmp_ge (tgt := 108) hx hb d_M_readGroups_94 (by decide) (fun c => ?_) (fun c => ?_)
        · have h := ift_at h c
          refine lv_iload hx hb d_M_readGroups_108 (lv_at hl 0 rfl) ?_
          refine lv_if_eq (tgt := 118) hx hb d_M_readGroups_110 (by decide) (fun c => ?_) (fun c => ?_)
          · have h := ift_at h c
            obtain ⟨x9, ex9⟩ : ∃ z : Int32, z = v8 + (1 : Int32) := ⟨_, rfl⟩
            have h := bnd_at h ex9
            refine lv_iinc (v := x9) (lv' := [(8, .int x9), (9, .int o8), (0, .ref a_t), (1, .ref a_p1), (2, .int v2), (3, .int v3), (4, .int v4), (6, .long v6)]) hx hb d_M_readGroups_118 hl (k := 7) rfl (by rw [ex9]; rfl) (by decide) rfl (fun ls hl => ?_)
            refine lv_goto (tgt := 59) hx hb d_M_readGroups_121 (by decide) ?_
            have h := lp_go h hc59
            exact ih59 t_at t_fault p1 x9 o _ _ ls hP hD hS (lv_sub hl [2, 3, 4, 5, 6, 7, 0] rfl) h hx59
          · have h := iff_at h c
            refine lv_aload_n hx hb d_M_readGroups_113 rfl (lv_at hl 1 rfl) ?_
            refine lv_iconst (v := 5) hx hb d_M_readGroups_114 (by decide) ?_
            refine va_put (D := D) (ci := 9) (v := .int (5 : Int32)) (ty := .int) (C := "PageFormModel") (T := F_M) (N := 41) hx hb hts in_M t_M t_M_ok n_M hown hK hP hD hS 0 rfl rfl 32 (by decide) (hts _ fl_M_91) (fun _ h9 => h9) rfl (by decide +kernel) rfl rfl (Nat.le_of_ble_eq_true rfl) d_M_readGroups_115 (fun H locs hP hD hS => ?_)
            have hP : va_P D CL [(a_t, .inr (9, [.int t_code, .int t_type, .int t_mostR, .int t_mostD, .int t_entries, .int t_values, .int t_coding, .int t_bodySize, .ref a_t_repetitions, .ref a_t_definitions, .ref a_t_newRepetitions, .ref a_t_newDefinitions, .ref a_t_wholes, .ref a_t_newWholes, .ref a_t_words8, .ref a_t_from, .ref a_t_newFrom, .ref a_t_wordFrom, .ref a_t_bytes, .ref a_t_newBytes, .ref a_t_wordBytes, .int t_newCount, .int t_words, .ref a_t_tape, .ref a_t_input, .ref a_t_out, .ref a_t_body, .int t_taped, .int t_inputSize, .int t_outSize, .int t_at, .int t_stop, .int (5 : Int32), .ref a_t_longs, .int t_longCount, .ref a_t_numbers, .ref a_t_common, .ref a_t_more, .ref a_t_told2, .ref a_t_toldSize, .ref a_t_toldBytes])), (a_t_input, .inl (k.2.1, t_input_n, .inl t_input)), (a_p1, .inl (k.2.1, p1_n, .inl p1))] H := hP
            have hD : va_D A [(a_t, .inr (9, [.int t_code, .int t_type, .int t_mostR, .int t_mostD, .int t_entries, .int t_values, .int t_coding, .int t_bodySize, .ref a_t_repetitions, .ref a_t_definitions, .ref a_t_newRepetitions, .ref a_t_newDefinitions, .ref a_t_wholes, .ref a_t_newWholes, .ref a_t_words8, .ref a_t_from, .ref a_t_newFrom, .ref a_t_wordFrom, .ref a_t_bytes, .ref a_t_newBytes, .ref a_t_wordBytes, .int t_newCount, .int t_words, .ref a_t_tape, .ref a_t_input, .ref a_t_out, .ref a_t_body, .int t_taped, .int t_inputSize, .int t_outSize, .int t_at, .int t_stop, .int (5 : Int32), .ref a_t_longs, .int t_longCount, .ref a_t_numbers, .ref a_t_common, .ref a_t_more, .ref a_t_told2, .ref a_t_toldSize, .ref a_t_toldBytes])), (a_t_input, .inl (k.2.1, t_input_n, .inl t_input)), (a_p1, .inl (k.2.1, p1_n, .inl p1))] := hD
            obtain ⟨x12, ex12⟩ : ∃ z : Int32, z = v8 + (1 : Int32) := ⟨_, rfl⟩
            have h := bnd_at h ex12
            refine lv_iinc (v := x12) (lv' := [(8, .int x12), (9, .int o8), (0, .ref a_t), (1, .ref a_p1), (2, .int v2), (3, .int v3), (4, .int v4), (6, .long v6)]) hx hb d_M_readGroups_118 hl (k := 7) rfl (by rw [ex12]; rfl) (by decide) rfl (fun ls hl => ?_)
            refine lv_goto (tgt := 59) hx hb d_M_readGroups_121 (by decide) ?_
            have h := lp_go h hc59
            exact ih59 t_at (5 : Int32) p1 x12 o _ _ ls hP hD hS (lv_sub hl [2, 3, 4, 5, 6, 7, 0] rfl) h hx59
        · have h := iff_at h c
          refine lv_aload_n hx hb d_M_readGroups_97 rfl (lv_at hl 2 rfl) ?_
          refine lv_iload_n hx hb d_M_readGroups_98 rfl (lv_at hl 3 rfl) ?_
          refine lv_iload hx hb d_M_readGroups_99 (lv_at hl 7 rfl) ?_
          refine lv_iadd hx hb d_M_readGroups_101 ?_
          refine lv_iload hx hb d_M_readGroups_102 (lv_at hl 0 rfl) ?_
          obtain ⟨g15, h⟩ := gd_at h
          refine va_iast hx hb hK hP hD hS 2 1 rfl rfl (inB_in g15) d_M_readGroups_104 (fun H locs hP hD hS => ?_)
          have hP : va_P D CL [(a_t, .inr (9, [.int t_code, .int t_type, .int t_mostR, .int t_mostD, .int t_entries, .int t_values, .int t_coding, .int t_bodySize, .ref a_t_repetitions, .ref a_t_definitions, .ref a_t_newRepetitions, .ref a_t_newDefinitions, .ref a_t_wholes, .ref a_t_newWholes, .ref a_t_words8, .ref a_t_from, .ref a_t_newFrom, .ref a_t_wordFrom, .ref a_t_bytes, .ref a_t_newBytes, .ref a_t_wordBytes, .int t_newCount, .int t_words, .ref a_t_tape, .ref a_t_input, .ref a_t_out, .ref a_t_body, .int t_taped, .int t_inputSize, .int t_outSize, .int t_at, .int t_stop, .int t_fault, .ref a_t_longs, .int t_longCount, .ref a_t_numbers, .ref a_t_common, .ref a_t_more, .ref a_t_told2, .ref a_t_toldSize, .ref a_t_toldBytes])), (a_t_input, .inl (k.2.1, t_input_n, .inl t_input)), (a_p1, .inl (k.2.1, p1_n, .inl (upd p1 (v2 + v8).toNatClampNeg o8)))] H := hP
          have hD : va_D A [(a_t, .inr (9, [.int t_code, .int t_type, .int t_mostR, .int t_mostD, .int t_entries, .int t_values, .int t_coding, .int t_bodySize, .ref a_t_repetitions, .ref a_t_definitions, .ref a_t_newRepetitions, .ref a_t_newDefinitions, .ref a_t_wholes, .ref a_t_newWholes, .ref a_t_words8, .ref a_t_from, .ref a_t_newFrom, .ref a_t_wordFrom, .ref a_t_bytes, .ref a_t_newBytes, .ref a_t_wordBytes, .int t_newCount, .int t_words, .ref a_t_tape, .ref a_t_input, .ref a_t_out, .ref a_t_body, .int t_taped, .int t_inputSize, .int t_outSize, .int t_at, .int t_stop, .int t_fault, .ref a_t_longs, .int t_longCount, .ref a_t_numbers, .ref a_t_common, .ref a_t_more, .ref a_t_told2, .ref a_t_toldSize, .ref a_t_toldBytes])), (a_t_input, .inl (k.2.1, t_input_n, .inl t_input)), (a_p1, .inl (k.2.1, p1_n, .inl (upd p1 (v2 + v8).toNatClampNeg o8)))] := hD
          refine lv_goto (tgt := 118) hx hb d_M_readGroups_105 (by decide) ?_
          obtain ⟨x16, ex16⟩ : ∃ z : Int32, z = v8 + (1 : Int32) := ⟨_, rfl⟩
          have h := bnd_at h ex16
          refine lv_iinc (v := x16) (lv' := [(8, .int x16), (9, .int o8), (0, .ref a_t), (1, .ref a_p1), (2, .int v2), (3, .int v3), (4, .int v4), (6, .long v6)]) hx hb d_M_readGroups_118 hl (k := 7) rfl (by rw [ex16]; rfl) (by decide) rfl (fun ls hl => ?_)
          refine lv_goto (tgt := 59) hx hb d_M_readGroups_121 (by decide) ?_
          have h := lp_go h hc59
          exact ih59 t_at t_fault (upd p1 (v2 + v8).toNatClampNeg o8) x16 o _ _ ls hP hD hS (lv_sub hl [2, 3, 4, 5, 6, 7, 0] rfl) h hx59
  have J47 : ∀ (t_at : Int32) (t_fault : Int32) (p1 : Nat → Int32) (H : Heap) (locs : List Loc) (ls : Array Slot), va_P D CL [(a_t, .inr (9, [.int t_code, .int t_type, .int t_mostR, .int t_mostD, .int t_entries, .int t_values, .int t_coding, .int t_bodySize, .ref a_t_repetitions, .ref a_t_definitions, .ref a_t_newRepetitions, .ref a_t_newDefinitions, .ref a_t_wholes, .ref a_t_newWholes, .ref a_t_words8, .ref a_t_from, .ref a_t_newFrom, .ref a_t_wordFrom, .ref a_t_bytes, .ref a_t_newBytes, .ref a_t_wordBytes, .int t_newCount, .int t_words, .ref a_t_tape, .ref a_t_input, .ref a_t_out, .ref a_t_body, .int t_taped, .int t_inputSize, .int t_outSize, .int t_at, .int t_stop, .int t_fault, .ref a_t_longs, .int t_longCount, .ref a_t_numbers, .ref a_t_common, .ref a_t_more, .ref a_t_told2, .ref a_t_toldSize, .ref a_t_toldBytes])), (a_t_input, .inl (k.2.1, t_input_n, .inl t_input)), (a_p1, .inl (k.2.1, p1_n, .inl p1))] H → va_D A [(a_t, .inr (9, [.int t_code, .int t_type, .int t_mostR, .int t_mostD, .int t_entries, .int t_values, .int t_coding, .int t_bodySize, .ref a_t_repetitions, .ref a_t_definitions, .ref a_t_newRepetitions, .ref a_t_newDefinitions, .ref a_t_wholes, .ref a_t_newWholes, .ref a_t_words8, .ref a_t_from, .ref a_t_newFrom, .ref a_t_wordFrom, .ref a_t_bytes, .ref a_t_newBytes, .ref a_t_wordBytes, .int t_newCount, .int t_words, .ref a_t_tape, .ref a_t_input, .ref a_t_out, .ref a_t_body, .int t_taped, .int t_inputSize, .int t_outSize, .int t_at, .int t_stop, .int t_fault, .ref a_t_longs, .int t_longCount, .ref a_t_numbers, .ref a_t_common, .ref a_t_more, .ref a_t_told2, .ref a_t_toldSize, .ref a_t_toldBytes])), (a_t_input, .inl (k.2.1, t_input_n, .inl t_input)), (a_p1, .inl (k.2.1, p1_n, .inl p1))] → va_S A s.heap H locs → lv_has ls 10 [(0, .ref a_t), (1, .ref a_p1), (2, .int v2), (3, .int v3), (4, .int v4), (6, .long v6)] → f_M_readGroups_j47 n t_input_n p1_n t_at t_fault t_input p1 v2 v3 v4 v6 = some out → W p l e rm_M_readGroups s m args below meth c H locs 0 0 Q (F0 m 47 ls []) := by
    intro t_at t_fault p1 H locs ls hP hD hS hl h
    unfold f_M_readGroups_j47 at h
    refine lv_aload_n hx hb d_M_readGroups_47 rfl (lv_at hl 0 rfl) ?_
    refine va_get (D := D) (ci := 9) (v := .int t_fault) (C := "PageFormModel") (T := F_M) (N := 41) hx hb hts in_M hown hK hP 0 rfl rfl 32 (by decide) (hts _ fl_M_91) (fun _ h9 => h9) rfl d_M_readGroups_48 ?_
    refine lv_if_eq (tgt := 56) hx hb d_M_readGroups_51 (by decide) (fun c => ?_) (fun c => ?_)
    · have h := ift_at h c
      refine lv_iconst (v := 0) hx hb d_M_readGroups_56 (by decide) ?_
      refine lv_istore (lv' := [(8, .int (0 : Int32)), (0, .ref a_t), (1, .ref a_p1), (2, .int v2), (3, .int v3), (4, .int v4), (6, .long v6)]) hx hb d_M_readGroups_57 hl (by decide) rfl (fun ls hl => ?_)
      obtain ⟨o27, ho27, h⟩ := obd_at h
      exact L59 n t_at t_fault p1 (0 : Int32) o27 _ _ ls hP hD hS (lv_sub hl [1, 2, 3, 4, 5, 6, 0] rfl) ho27 h
    · have h := iff_at h c
      refine lv_iload_n hx hb d_M_readGroups_54 rfl (lv_at hl 2 rfl) ?_
      exact ret2 _ _ _ _ (Option.some.inj h) d_M_readGroups_55 hP hD hS
  unfold f_M_readGroups at h
  refine lv_lload hx hb d_M_readGroups_0 (lv_at hl 6 rfl) ?_
  refine lv_iload_n hx hb d_M_readGroups_2 rfl (lv_at hl 3 rfl) ?_
  refine lv_iload_n hx hb d_M_readGroups_3 rfl (lv_at hl 2 rfl) ?_
  refine lv_isub hx hb d_M_readGroups_4 ?_
  refine lv_bipush (v := 7) hx hb d_M_readGroups_5 (by decide) ?_
  refine lv_iadd hx hb d_M_readGroups_7 ?_
  refine lv_bipush (v := 8) hx hb d_M_readGroups_8 (by decide) ?_
  refine lv_idiv hx hb d_M_readGroups_10 (by decide) ?_
  refine lv_i2l hx hb d_M_readGroups_11 rfl ?_
  refine W.lcmp hx hb d_M_readGroups_12 ?_
  refine lv_if_le (tgt := 24) hx hb d_M_readGroups_13 (by decide) (fun c => ?_) (fun c => ?_)
  · have c := zc_le.mp c
    have h := ift_at h c
    refine lv_iload hx hb d_M_readGroups_24 (lv_at hl 5 rfl) ?_
    refine lv_aload_n hx hb d_M_readGroups_26 rfl (lv_at hl 0 rfl) ?_
    refine va_get (D := D) (ci := 9) (v := .int t_at) (C := "PageFormModel") (T := F_M) (N := 41) hx hb hts in_M hown hK hP 0 rfl rfl 30 (by decide) (hts _ fl_M_94) (fun _ h9 => h9) rfl d_M_readGroups_27 ?_
    refine lv_isub hx hb d_M_readGroups_30 ?_
    refine lv_i2l hx hb d_M_readGroups_31 rfl ?_
    refine lv_lload hx hb d_M_readGroups_32 (lv_at hl 6 rfl) ?_
    refine lv_iload hx hb d_M_readGroups_34 (lv_at hl 4 rfl) ?_
    refine lv_i2l hx hb d_M_readGroups_36 rfl ?_
    refine lv_lmul hx hb d_M_readGroups_37 ?_
    refine W.lcmp hx hb d_M_readGroups_38 ?_
    refine lv_if_ge (tgt := 47) hx hb d_M_readGroups_39 (by decide) (fun c => ?_) (fun c => ?_)
    · have c := zc_ge.mp c
      have h := ift_at h c
      exact J47 t_at t_fault p1 _ _ ls hP hD hS (lv_sub hl [0, 1, 2, 3, 4, 6] rfl) h
    · have c := mt zc_ge.mpr c
      have h := iff_at h c
      refine lv_aload_n hx hb d_M_readGroups_42 rfl (lv_at hl 0 rfl) ?_
      refine lv_iconst (v := 1) hx hb d_M_readGroups_43 (by decide) ?_
      refine va_put (D := D) (ci := 9) (v := .int (1 : Int32)) (ty := .int) (C := "PageFormModel") (T := F_M) (N := 41) hx hb hts in_M t_M t_M_ok n_M hown hK hP hD hS 0 rfl rfl 32 (by decide) (hts _ fl_M_91) (fun _ h9 => h9) rfl (by decide +kernel) rfl rfl (Nat.le_of_ble_eq_true rfl) d_M_readGroups_44 (fun H locs hP hD hS => ?_)
      have hP : va_P D CL [(a_t, .inr (9, [.int t_code, .int t_type, .int t_mostR, .int t_mostD, .int t_entries, .int t_values, .int t_coding, .int t_bodySize, .ref a_t_repetitions, .ref a_t_definitions, .ref a_t_newRepetitions, .ref a_t_newDefinitions, .ref a_t_wholes, .ref a_t_newWholes, .ref a_t_words8, .ref a_t_from, .ref a_t_newFrom, .ref a_t_wordFrom, .ref a_t_bytes, .ref a_t_newBytes, .ref a_t_wordBytes, .int t_newCount, .int t_words, .ref a_t_tape, .ref a_t_input, .ref a_t_out, .ref a_t_body, .int t_taped, .int t_inputSize, .int t_outSize, .int t_at, .int t_stop, .int (1 : Int32), .ref a_t_longs, .int t_longCount, .ref a_t_numbers, .ref a_t_common, .ref a_t_more, .ref a_t_told2, .ref a_t_toldSize, .ref a_t_toldBytes])), (a_t_input, .inl (k.2.1, t_input_n, .inl t_input)), (a_p1, .inl (k.2.1, p1_n, .inl p1))] H := hP
      have hD : va_D A [(a_t, .inr (9, [.int t_code, .int t_type, .int t_mostR, .int t_mostD, .int t_entries, .int t_values, .int t_coding, .int t_bodySize, .ref a_t_repetitions, .ref a_t_definitions, .ref a_t_newRepetitions, .ref a_t_newDefinitions, .ref a_t_wholes, .ref a_t_newWholes, .ref a_t_words8, .ref a_t_from, .ref a_t_newFrom, .ref a_t_wordFrom, .ref a_t_bytes, .ref a_t_newBytes, .ref a_t_wordBytes, .int t_newCount, .int t_words, .ref a_t_tape, .ref a_t_input, .ref a_t_out, .ref a_t_body, .int t_taped, .int t_inputSize, .int t_outSize, .int t_at, .int t_stop, .int (1 : Int32), .ref a_t_longs, .int t_longCount, .ref a_t_numbers, .ref a_t_common, .ref a_t_more, .ref a_t_told2, .ref a_t_toldSize, .ref a_t_toldBytes])), (a_t_input, .inl (k.2.1, t_input_n, .inl t_input)), (a_p1, .inl (k.2.1, p1_n, .inl p1))] := hD
      exact J47 t_at (1 : Int32) p1 _ _ ls hP hD hS (lv_sub hl [0, 1, 2, 3, 4, 6] rfl) h
  · have c := mt zc_le.mpr c
    have h := iff_at h c
    refine lv_aload_n hx hb d_M_readGroups_16 rfl (lv_at hl 0 rfl) ?_
    refine lv_iconst (v := 4) hx hb d_M_readGroups_17 (by decide) ?_
    refine va_put (D := D) (ci := 9) (v := .int (4 : Int32)) (ty := .int) (C := "PageFormModel") (T := F_M) (N := 41) hx hb hts in_M t_M t_M_ok n_M hown hK hP hD hS 0 rfl rfl 32 (by decide) (hts _ fl_M_91) (fun _ h9 => h9) rfl (by decide +kernel) rfl rfl (Nat.le_of_ble_eq_true rfl) d_M_readGroups_18 (fun H locs hP hD hS => ?_)
    have hP : va_P D CL [(a_t, .inr (9, [.int t_code, .int t_type, .int t_mostR, .int t_mostD, .int t_entries, .int t_values, .int t_coding, .int t_bodySize, .ref a_t_repetitions, .ref a_t_definitions, .ref a_t_newRepetitions, .ref a_t_newDefinitions, .ref a_t_wholes, .ref a_t_newWholes, .ref a_t_words8, .ref a_t_from, .ref a_t_newFrom, .ref a_t_wordFrom, .ref a_t_bytes, .ref a_t_newBytes, .ref a_t_wordBytes, .int t_newCount, .int t_words, .ref a_t_tape, .ref a_t_input, .ref a_t_out, .ref a_t_body, .int t_taped, .int t_inputSize, .int t_outSize, .int t_at, .int t_stop, .int (4 : Int32), .ref a_t_longs, .int t_longCount, .ref a_t_numbers, .ref a_t_common, .ref a_t_more, .ref a_t_told2, .ref a_t_toldSize, .ref a_t_toldBytes])), (a_t_input, .inl (k.2.1, t_input_n, .inl t_input)), (a_p1, .inl (k.2.1, p1_n, .inl p1))] H := hP
    have hD : va_D A [(a_t, .inr (9, [.int t_code, .int t_type, .int t_mostR, .int t_mostD, .int t_entries, .int t_values, .int t_coding, .int t_bodySize, .ref a_t_repetitions, .ref a_t_definitions, .ref a_t_newRepetitions, .ref a_t_newDefinitions, .ref a_t_wholes, .ref a_t_newWholes, .ref a_t_words8, .ref a_t_from, .ref a_t_newFrom, .ref a_t_wordFrom, .ref a_t_bytes, .ref a_t_newBytes, .ref a_t_wordBytes, .int t_newCount, .int t_words, .ref a_t_tape, .ref a_t_input, .ref a_t_out, .ref a_t_body, .int t_taped, .int t_inputSize, .int t_outSize, .int t_at, .int t_stop, .int (4 : Int32), .ref a_t_longs, .int t_longCount, .ref a_t_numbers, .ref a_t_common, .ref a_t_more, .ref a_t_told2, .ref a_t_toldSize, .ref a_t_toldBytes])), (a_t_input, .inl (k.2.1, t_input_n, .inl t_input)), (a_p1, .inl (k.2.1, p1_n, .inl p1))] := hD
    refine lv_goto (tgt := 47) hx hb d_M_readGroups_21 (by decide) ?_
    exact J47 t_at (4 : Int32) p1 _ _ ls hP hD hS (lv_sub hl [0, 1, 2, 3, 4, 6] rfl) h

