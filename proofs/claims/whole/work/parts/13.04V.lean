def rm_V_compare : Room := { frames := 2, cells := 0, slots := 0, locals := 65 }
def f_V_compare_j52 (t_starts_n : Nat) (p2_starts_n : Nat) (t_starts : Nat → Int32) (p2_starts : Nat → Int32) (v1 : Int32) (v3 : Int32) : Option (Int32) :=
  Option.bind (f_V_sizeOf t_starts_n t_starts v1) (fun o13 => Option.bind (f_V_sizeOf p2_starts_n p2_starts v3) (fun o14 => Option.bind (f_JI_compare o13 o14) (fun o15 => some o15)))
def f_V_compare (n : Nat) (t_numbers_n : Nat) (t_starts_n : Nat) (t_texts_n : Nat) (p2_numbers_n : Nat) (p2_starts_n : Nat) (p2_texts_n : Nat) (t_ofTexts : Int32) (t_numbers : Nat → Int64) (t_starts : Nat → Int32) (t_texts : Nat → Int32) (p2_numbers : Nat → Int64) (p2_starts : Nat → Int32) (p2_texts : Nat → Int32) (v1 : Int32) (v3 : Int32) : Option (Int32) :=
  (if t_ofTexts = 0 then gd (inB v1 t_numbers_n) (gd (inB v3 p2_numbers_n) (Option.bind (f_JL_compare (t_numbers v1.toNatClampNeg) (p2_numbers v3.toNatClampNeg)) (fun o24 => some o24))) else Option.bind (f_V_inCommon n t_starts_n t_texts_n p2_starts_n p2_texts_n t_starts t_texts p2_starts p2_texts v1 v3) (fun o16 => Option.bind (f_V_sizeOf t_starts_n t_starts v1) (fun o17 => (if o16 = o17 then f_V_compare_j52 t_starts_n p2_starts_n t_starts p2_starts v1 v3 else Option.bind (f_V_sizeOf p2_starts_n p2_starts v3) (fun o18 => (if o16 = o18 then f_V_compare_j52 t_starts_n p2_starts_n t_starts p2_starts v1 v3 else Option.bind (f_V_octetOf t_starts_n t_texts_n t_starts t_texts v1 o16) (fun o19 => Option.bind (f_V_octetOf p2_starts_n p2_texts_n p2_starts p2_texts v3 o16) (fun o20 => Option.bind (f_JI_compare o19 o20) (fun o21 => some o21)))))))))
set_option maxHeartbeats 4000000 in
set_option maxRecDepth 100000 in
theorem c_V_compare (l : Launch) (D : va_G) (k : ClassId × ClassId × ClassId) (a_t a_t_numbers a_t_texts a_t_starts a_p2 a_p2_numbers a_p2_texts a_p2_starts : Nat) (t_numbers_n t_starts_n t_texts_n p2_numbers_n p2_starts_n p2_texts_n : Nat) (t_ofTexts : Int32) (t_count : Int32) (t_numbers : Nat → Int64) (t_starts : Nat → Int32) (t_texts : Nat → Int32) (p2_ofTexts : Int32) (p2_count : Int32) (p2_numbers : Nat → Int64) (p2_starts : Nat → Int32) (p2_texts : Nat → Int32) (v1 : Int32) (v3 : Int32) (n : Nat) (out : Int32) (h : f_V_compare n t_numbers_n t_starts_n t_texts_n p2_numbers_n p2_starts_n p2_texts_n t_ofTexts t_numbers t_starts t_texts p2_numbers p2_starts p2_texts v1 v3 = some out) : Ct l D k y_V_compare b_V_compare 5 (some .int) rm_V_compare [.ref a_t, .int v1, .ref a_p2, .int v3] [(a_t, .inr (6, [.ref a_t_numbers, .ref a_t_texts, .ref a_t_starts, .int t_ofTexts, .int t_count])), (a_t_numbers, .inl (k.2.2, t_numbers_n, .inr (.inl t_numbers))), (a_t_starts, .inl (k.2.1, t_starts_n, .inl t_starts)), (a_t_texts, .inl (k.1, t_texts_n, .inl t_texts)), (a_p2, .inr (6, [.ref a_p2_numbers, .ref a_p2_texts, .ref a_p2_starts, .int p2_ofTexts, .int p2_count])), (a_p2_numbers, .inl (k.2.2, p2_numbers_n, .inr (.inl p2_numbers))), (a_p2_starts, .inl (k.2.1, p2_starts_n, .inl p2_starts)), (a_p2_texts, .inl (k.1, p2_texts_n, .inl p2_texts))] [(a_t, .inr (6, [.ref a_t_numbers, .ref a_t_texts, .ref a_t_starts, .int t_ofTexts, .int t_count])), (a_t_numbers, .inl (k.2.2, t_numbers_n, .inr (.inl t_numbers))), (a_t_starts, .inl (k.2.1, t_starts_n, .inl t_starts)), (a_t_texts, .inl (k.1, t_texts_n, .inl t_texts)), (a_p2, .inr (6, [.ref a_p2_numbers, .ref a_p2_texts, .ref a_p2_starts, .int p2_ofTexts, .int p2_count])), (a_p2_numbers, .inl (k.2.2, p2_numbers_n, .inr (.inl p2_numbers))), (a_p2_starts, .inl (k.2.1, p2_starts_n, .inl p2_starts)), (a_p2_texts, .inl (k.1, p2_texts_n, .inl p2_texts))] (some (.int out)) := by
  refine Ct.ofI (by decide) (Nat.le_of_ble_eq_true rfl) ?_
  intro p e s m args below meth c A Q ls hx hb hml hown hts hA hK hP hD hS hE hl ret
  have hown : s.vm.findClass "PageForm$Values" = some m.cls := hown
  have hl : lv_has ls 5 [(0, .ref a_t), (1, .int v1), (2, .ref a_p2), (3, .int v3)] := hl
  have ret2 : ∀ (y0 : Int32) (_ : y0 = out) {pc : Nat} {ls : Array Slot} {H : Heap} {locs : List Loc}, decode b_V_compare pc = .ok (.ireturn, 1) → va_P D CL [(a_t, .inr (6, [.ref a_t_numbers, .ref a_t_texts, .ref a_t_starts, .int t_ofTexts, .int t_count])), (a_t_numbers, .inl (k.2.2, t_numbers_n, .inr (.inl t_numbers))), (a_t_starts, .inl (k.2.1, t_starts_n, .inl t_starts)), (a_t_texts, .inl (k.1, t_texts_n, .inl t_texts)), (a_p2, .inr (6, [.ref a_p2_numbers, .ref a_p2_texts, .ref a_p2_starts, .int p2_ofTexts, .int p2_count])), (a_p2_numbers, .inl (k.2.2, p2_numbers_n, .inr (.inl p2_numbers))), (a_p2_starts, .inl (k.2.1, p2_starts_n, .inl p2_starts)), (a_p2_texts, .inl (k.1, p2_texts_n, .inl p2_texts))] H → va_D A [(a_t, .inr (6, [.ref a_t_numbers, .ref a_t_texts, .ref a_t_starts, .int t_ofTexts, .int t_count])), (a_t_numbers, .inl (k.2.2, t_numbers_n, .inr (.inl t_numbers))), (a_t_starts, .inl (k.2.1, t_starts_n, .inl t_starts)), (a_t_texts, .inl (k.1, t_texts_n, .inl t_texts)), (a_p2, .inr (6, [.ref a_p2_numbers, .ref a_p2_texts, .ref a_p2_starts, .int p2_ofTexts, .int p2_count])), (a_p2_numbers, .inl (k.2.2, p2_numbers_n, .inr (.inl p2_numbers))), (a_p2_starts, .inl (k.2.1, p2_starts_n, .inl p2_starts)), (a_p2_texts, .inl (k.1, p2_texts_n, .inl p2_texts))] → va_S A s.heap H locs → W p l e rm_V_compare s m args below meth c H locs 0 0 Q (F0 m pc ls [.int y0]) := by
    intro y0 e0; subst e0; exact ret
  clear ret
  have J52 : ∀  (H : Heap) (locs : List Loc) (ls : Array Slot), va_P D CL [(a_t, .inr (6, [.ref a_t_numbers, .ref a_t_texts, .ref a_t_starts, .int t_ofTexts, .int t_count])), (a_t_numbers, .inl (k.2.2, t_numbers_n, .inr (.inl t_numbers))), (a_t_starts, .inl (k.2.1, t_starts_n, .inl t_starts)), (a_t_texts, .inl (k.1, t_texts_n, .inl t_texts)), (a_p2, .inr (6, [.ref a_p2_numbers, .ref a_p2_texts, .ref a_p2_starts, .int p2_ofTexts, .int p2_count])), (a_p2_numbers, .inl (k.2.2, p2_numbers_n, .inr (.inl p2_numbers))), (a_p2_starts, .inl (k.2.1, p2_starts_n, .inl p2_starts)), (a_p2_texts, .inl (k.1, p2_texts_n, .inl p2_texts))] H → va_D A [(a_t, .inr (6, [.ref a_t_numbers, .ref a_t_texts, .ref a_t_starts, .int t_ofTexts, .int t_count])), (a_t_numbers, .inl (k.2.2, t_numbers_n, .inr (.inl t_numbers))), (a_t_starts, .inl (k.2.1, t_starts_n, .inl t_starts)), (a_t_texts, .inl (k.1, t_texts_n, .inl t_texts)), (a_p2, .inr (6, [.ref a_p2_numbers, .ref a_p2_texts, .ref a_p2_starts, .int p2_ofTexts, .int p2_count])), (a_p2_numbers, .inl (k.2.2, p2_numbers_n, .inr (.inl p2_numbers))), (a_p2_starts, .inl (k.2.1, p2_starts_n, .inl p2_starts)), (a_p2_texts, .inl (k.1, p2_texts_n, .inl p2_texts))] → va_S A s.heap H locs → lv_has ls 5 [(0, .ref a_t), (1, .int v1), (2, .ref a_p2), (3, .int v3)] → f_V_compare_j52 t_starts_n p2_starts_n t_starts p2_starts v1 v3 = some out → W p l e rm_V_compare s m args below meth c H locs 0 0 Q (F0 m 52 ls []) := by
    intro  H locs ls hP hD hS hl h
    unfold f_V_compare_j52 at h
    refine lv_aload_n hx hb d_V_compare_52 rfl (lv_at hl 0 rfl) ?_
    refine lv_iload_n hx hb d_V_compare_53 rfl (lv_at hl 1 rfl) ?_
    obtain ⟨o13, ho13, h⟩ := obd_at h
    refine g_V (As := [.int v1]) (rest := []) hx hb hml hown hts hA hK hP hD hS hE (c_V_sizeOf l D k a_t a_t_numbers a_t_texts a_t_starts t_starts_n t_ofTexts t_count t_starts v1 n o13 ho13) mw_V_sizeOf mi_V_sizeOf ml_V_41 [0, 2] rfl (by decide) rfl rfl rfl 0 rfl rfl rfl rfl rfl hl.1 rfl (Nat.le_of_ble_eq_true rfl) ⟨Nat.zero_le _, Nat.zero_le _⟩ d_V_compare_54 (fun H locs hP hD hS => ?_)
    have hP : va_P D CL [(a_t, .inr (6, [.ref a_t_numbers, .ref a_t_texts, .ref a_t_starts, .int t_ofTexts, .int t_count])), (a_t_numbers, .inl (k.2.2, t_numbers_n, .inr (.inl t_numbers))), (a_t_starts, .inl (k.2.1, t_starts_n, .inl t_starts)), (a_t_texts, .inl (k.1, t_texts_n, .inl t_texts)), (a_p2, .inr (6, [.ref a_p2_numbers, .ref a_p2_texts, .ref a_p2_starts, .int p2_ofTexts, .int p2_count])), (a_p2_numbers, .inl (k.2.2, p2_numbers_n, .inr (.inl p2_numbers))), (a_p2_starts, .inl (k.2.1, p2_starts_n, .inl p2_starts)), (a_p2_texts, .inl (k.1, p2_texts_n, .inl p2_texts))] H := hP
    have hD : va_D A [(a_t, .inr (6, [.ref a_t_numbers, .ref a_t_texts, .ref a_t_starts, .int t_ofTexts, .int t_count])), (a_t_numbers, .inl (k.2.2, t_numbers_n, .inr (.inl t_numbers))), (a_t_starts, .inl (k.2.1, t_starts_n, .inl t_starts)), (a_t_texts, .inl (k.1, t_texts_n, .inl t_texts)), (a_p2, .inr (6, [.ref a_p2_numbers, .ref a_p2_texts, .ref a_p2_starts, .int p2_ofTexts, .int p2_count])), (a_p2_numbers, .inl (k.2.2, p2_numbers_n, .inr (.inl p2_numbers))), (a_p2_starts, .inl (k.2.1, p2_starts_n, .inl p2_starts)), (a_p2_texts, .inl (k.1, p2_texts_n, .inl p2_texts))] := hD
    refine W.eq (g2 := F0 m 57 ls [.int o13]) rfl ?_
    refine lv_aload_n hx hb d_V_compare_57 rfl (lv_at hl 2 rfl) ?_
    refine lv_iload_n hx hb d_V_compare_58 rfl (lv_at hl 3 rfl) ?_
    obtain ⟨o14, ho14, h⟩ := obd_at h
    refine g_V (As := [.int v3]) (rest := [.int o13]) hx hb hml hown hts hA hK hP hD hS hE (c_V_sizeOf l D k a_p2 a_p2_numbers a_p2_texts a_p2_starts p2_starts_n p2_ofTexts p2_count p2_starts v3 n o14 ho14) mw_V_sizeOf mi_V_sizeOf ml_V_41 [4, 6] rfl (by decide) rfl rfl rfl 0 rfl rfl rfl rfl rfl hl.1 rfl (Nat.le_of_ble_eq_true rfl) ⟨Nat.zero_le _, Nat.zero_le _⟩ d_V_compare_59 (fun H locs hP hD hS => ?_)
    have hP : va_P D CL [(a_t, .inr (6, [.ref a_t_numbers, .ref a_t_texts, .ref a_t_starts, .int t_ofTexts, .int t_count])), (a_t_numbers, .inl (k.2.2, t_numbers_n, .inr (.inl t_numbers))), (a_t_starts, .inl (k.2.1, t_starts_n, .inl t_starts)), (a_t_texts, .inl (k.1, t_texts_n, .inl t_texts)), (a_p2, .inr (6, [.ref a_p2_numbers, .ref a_p2_texts, .ref a_p2_starts, .int p2_ofTexts, .int p2_count])), (a_p2_numbers, .inl (k.2.2, p2_numbers_n, .inr (.inl p2_numbers))), (a_p2_starts, .inl (k.2.1, p2_starts_n, .inl p2_starts)), (a_p2_texts, .inl (k.1, p2_texts_n, .inl p2_texts))] H := hP
    have hD : va_D A [(a_t, .inr (6, [.ref a_t_numbers, .ref a_t_texts, .ref a_t_starts, .int t_ofTexts, .int t_count])), (a_t_numbers, .inl (k.2.2, t_numbers_n, .inr (.inl t_numbers))), (a_t_starts, .inl (k.2.1, t_starts_n, .inl t_starts)), (a_t_texts, .inl (k.1, t_texts_n, .inl t_texts)), (a_p2, .inr (6, [.ref a_p2_numbers, .ref a_p2_texts, .ref a_p2_starts, .int p2_ofTexts, .int p2_count])), (a_p2_numbers, .inl (k.2.2, p2_numbers_n, .inr (.inl p2_numbers))), (a_p2_starts, .inl (k.2.1, p2_starts_n, .inl p2_starts)), (a_p2_texts, .inl (k.1, p2_texts_n, .inl p2_texts))] := hD
    refine W.eq (g2 := F0 m 62 ls [.int o14, .int o13]) rfl ?_
    obtain ⟨o15, ho15, h⟩ := obd_at h
    refine g_S (As := [.int o13, .int o14]) (rest := []) hx hb hml hown hts hA hK hP hD hS hE (c_JI_compare l D k o13 o14 n o15 ho15) mw_JI_compare ms_JI_compare ml_V_69 [] rfl (by decide) rfl rfl rfl rfl rfl hl.1 rfl (Nat.le_of_ble_eq_true rfl) ⟨Nat.zero_le _, Nat.zero_le _⟩ d_V_compare_62 (fun H locs hP hD hS => ?_)
    have hP : va_P D CL [(a_t, .inr (6, [.ref a_t_numbers, .ref a_t_texts, .ref a_t_starts, .int t_ofTexts, .int t_count])), (a_t_numbers, .inl (k.2.2, t_numbers_n, .inr (.inl t_numbers))), (a_t_starts, .inl (k.2.1, t_starts_n, .inl t_starts)), (a_t_texts, .inl (k.1, t_texts_n, .inl t_texts)), (a_p2, .inr (6, [.ref a_p2_numbers, .ref a_p2_texts, .ref a_p2_starts, .int p2_ofTexts, .int p2_count])), (a_p2_numbers, .inl (k.2.2, p2_numbers_n, .inr (.inl p2_numbers))), (a_p2_starts, .inl (k.2.1, p2_starts_n, .inl p2_starts)), (a_p2_texts, .inl (k.1, p2_texts_n, .inl p2_texts))] H := hP
    have hD : va_D A [(a_t, .inr (6, [.ref a_t_numbers, .ref a_t_texts, .ref a_t_starts, .int t_ofTexts, .int t_count])), (a_t_numbers, .inl (k.2.2, t_numbers_n, .inr (.inl t_numbers))), (a_t_starts, .inl (k.2.1, t_starts_n, .inl t_starts)), (a_t_texts, .inl (k.1, t_texts_n, .inl t_texts)), (a_p2, .inr (6, [.ref a_p2_numbers, .ref a_p2_texts, .ref a_p2_starts, .int p2_ofTexts, .int p2_count])), (a_p2_numbers, .inl (k.2.2, p2_numbers_n, .inr (.inl p2_numbers))), (a_p2_starts, .inl (k.2.1, p2_starts_n, .inl p2_starts)), (a_p2_texts, .inl (k.1, p2_texts_n, .inl p2_texts))] := hD
    refine W.eq (g2 := F0 m 65 ls [.int o15]) rfl ?_
    exact ret2 _ (Option.some.inj h) d_V_compare_65 hP hD hS
  unfold f_V_compare at h
  refine lv_aload_n hx hb d_V_compare_0 rfl (lv_at hl 0 rfl) ?_
  refine va_get (D := D) (ci := 6) (v := .int t_ofTexts) (C := "PageForm$Values") (T := F_V) (N := 5) hx hb hts in_V hown hK hP 0 rfl rfl 3 (by decide) (hts _ fl_V_23) (fun _ h9 => h9) rfl d_V_compare_1 ?_
  refine lv_if_ne (tgt := 23) hx hb d_V_compare_4 (by decide) (fun c => ?_) (fun c => ?_)
  · have h := iff_at h c
    refine lv_aload_n hx hb d_V_compare_23 rfl (lv_at hl 0 rfl) ?_
    refine lv_iload_n hx hb d_V_compare_24 rfl (lv_at hl 1 rfl) ?_
    refine lv_aload_n hx hb d_V_compare_25 rfl (lv_at hl 2 rfl) ?_
    refine lv_iload_n hx hb d_V_compare_26 rfl (lv_at hl 3 rfl) ?_
    obtain ⟨o16, ho16, h⟩ := obd_at h
    refine g_V (As := [.int v1, .ref a_p2, .int v3]) (rest := []) hx hb hml hown hts hA hK hP hD hS hE (c_V_inCommon l D k a_t a_t_numbers a_t_texts a_t_starts a_p2 a_p2_numbers a_p2_texts a_p2_starts t_starts_n t_texts_n p2_starts_n p2_texts_n t_ofTexts t_count t_starts t_texts p2_ofTexts p2_count p2_starts p2_texts v1 v3 n o16 ho16) mw_V_inCommon mi_V_inCommon ml_V_65 [0, 2, 3, 4, 6, 7] rfl (by decide) rfl rfl rfl 0 rfl rfl rfl rfl rfl hl.1 rfl (Nat.le_of_ble_eq_true rfl) ⟨Nat.zero_le _, Nat.zero_le _⟩ d_V_compare_27 (fun H locs hP hD hS => ?_)
    have hP : va_P D CL [(a_t, .inr (6, [.ref a_t_numbers, .ref a_t_texts, .ref a_t_starts, .int t_ofTexts, .int t_count])), (a_t_numbers, .inl (k.2.2, t_numbers_n, .inr (.inl t_numbers))), (a_t_starts, .inl (k.2.1, t_starts_n, .inl t_starts)), (a_t_texts, .inl (k.1, t_texts_n, .inl t_texts)), (a_p2, .inr (6, [.ref a_p2_numbers, .ref a_p2_texts, .ref a_p2_starts, .int p2_ofTexts, .int p2_count])), (a_p2_numbers, .inl (k.2.2, p2_numbers_n, .inr (.inl p2_numbers))), (a_p2_starts, .inl (k.2.1, p2_starts_n, .inl p2_starts)), (a_p2_texts, .inl (k.1, p2_texts_n, .inl p2_texts))] H := hP
    have hD : va_D A [(a_t, .inr (6, [.ref a_t_numbers, .ref a_t_texts, .ref a_t_starts, .int t_ofTexts, .int t_count])), (a_t_numbers, .inl (k.2.2, t_numbers_n, .inr (.inl t_numbers))), (a_t_starts, .inl (k.2.1, t_starts_n, .inl t_starts)), (a_t_texts, .inl (k.1, t_texts_n, .inl t_texts)), (a_p2, .inr (6, [.ref a_p2_numbers, .ref a_p2_texts, .ref a_p2_starts, .int p2_ofTexts, .int p2_count])), (a_p2_numbers, .inl (k.2.2, p2_numbers_n, .inr (.inl p2_numbers))), (a_p2_starts, .inl (k.2.1, p2_starts_n, .inl p2_starts)), (a_p2_texts, .inl (k.1, p2_texts_n, .inl p2_texts))] := hD
    refine W.eq (g2 := F0 m 30 ls [.int o16]) rfl ?_
    refine lv_istore (lv' := [(4, .int o16), (0, .ref a_t), (1, .int v1), (2, .ref a_p2), (3, .int v3)]) hx hb d_V_compare_30 hl (by decide) rfl (fun ls hl => ?_)
    refine lv_iload hx hb d_V_compare_32 (lv_at hl 0 rfl) ?_
    refine lv_aload_n hx hb d_V_compare_34 rfl (lv_at hl 1 rfl) ?_
    refine lv_iload_n hx hb d_V_compare_35 rfl (lv_at hl 2 rfl) ?_
    obtain ⟨o17, ho17, h⟩ := obd_at h
    refine g_V (As := [.int v1]) (rest := [.int o16]) hx hb hml hown hts hA hK hP hD hS hE (c_V_sizeOf l D k a_t a_t_numbers a_t_texts a_t_starts t_starts_n t_ofTexts t_count t_starts v1 n o17 ho17) mw_V_sizeOf mi_V_sizeOf ml_V_41 [0, 2] rfl (by decide) rfl rfl rfl 0 rfl rfl rfl rfl rfl hl.1 rfl (Nat.le_of_ble_eq_true rfl) ⟨Nat.zero_le _, Nat.zero_le _⟩ d_V_compare_36 (fun H locs hP hD hS => ?_)
    have hP : va_P D CL [(a_t, .inr (6, [.ref a_t_numbers, .ref a_t_texts, .ref a_t_starts, .int t_ofTexts, .int t_count])), (a_t_numbers, .inl (k.2.2, t_numbers_n, .inr (.inl t_numbers))), (a_t_starts, .inl (k.2.1, t_starts_n, .inl t_starts)), (a_t_texts, .inl (k.1, t_texts_n, .inl t_texts)), (a_p2, .inr (6, [.ref a_p2_numbers, .ref a_p2_texts, .ref a_p2_starts, .int p2_ofTexts, .int p2_count])), (a_p2_numbers, .inl (k.2.2, p2_numbers_n, .inr (.inl p2_numbers))), (a_p2_starts, .inl (k.2.1, p2_starts_n, .inl p2_starts)), (a_p2_texts, .inl (k.1, p2_texts_n, .inl p2_texts))] H := hP
    have hD : va_D A [(a_t, .inr (6, [.ref a_t_numbers, .ref a_t_texts, .ref a_t_starts, .int t_ofTexts, .int t_count])), (a_t_numbers, .inl (k.2.2, t_numbers_n, .inr (.inl t_numbers))), (a_t_starts, .inl (k.2.1, t_starts_n, .inl t_starts)), (a_t_texts, .inl (k.1, t_texts_n, .inl t_texts)), (a_p2, .inr (6, [.ref a_p2_numbers, .ref a_p2_texts, .ref a_p2_starts, .int p2_ofTexts, .int p2_count])), (a_p2_numbers, .inl (k.2.2, p2_numbers_n, .inr (.inl p2_numbers))), (a_p2_starts, .inl (k.2.1, p2_starts_n, .inl p2_starts)), (a_p2_texts, .inl (k.1, p2_texts_n, .inl p2_texts))] := hD
    refine W.eq (g2 := F0 m 39 ls [.int o17, .int o16]) rfl ?_
    refine lv_icmp_eq (tgt := 52) hx hb d_V_compare_39 (by decide) (fun c => ?_) (fun c => ?_)
    · have h := ift_at h c
      exact J52  _ _ ls hP hD hS (lv_sub hl [1, 2, 3, 4] rfl) h
    · have h := iff_at h c
      refine lv_iload hx hb d_V_compare_42 (lv_at hl 0 rfl) ?_
      refine lv_aload_n hx hb d_V_compare_44 rfl (lv_at hl 3 rfl) ?_
      refine lv_iload_n hx hb d_V_compare_45 rfl (lv_at hl 4 rfl) ?_
      obtain ⟨o18, ho18, h⟩ := obd_at h
      refine g_V (As := [.int v3]) (rest := [.int o16]) hx hb hml hown hts hA hK hP hD hS hE (c_V_sizeOf l D k a_p2 a_p2_numbers a_p2_texts a_p2_starts p2_starts_n p2_ofTexts p2_count p2_starts v3 n o18 ho18) mw_V_sizeOf mi_V_sizeOf ml_V_41 [4, 6] rfl (by decide) rfl rfl rfl 0 rfl rfl rfl rfl rfl hl.1 rfl (Nat.le_of_ble_eq_true rfl) ⟨Nat.zero_le _, Nat.zero_le _⟩ d_V_compare_46 (fun H locs hP hD hS => ?_)
      have hP : va_P D CL [(a_t, .inr (6, [.ref a_t_numbers, .ref a_t_texts, .ref a_t_starts, .int t_ofTexts, .int t_count])), (a_t_numbers, .inl (k.2.2, t_numbers_n, .inr (.inl t_numbers))), (a_t_starts, .inl (k.2.1, t_starts_n, .inl t_starts)), (a_t_texts, .inl (k.1, t_texts_n, .inl t_texts)), (a_p2, .inr (6, [.ref a_p2_numbers, .ref a_p2_texts, .ref a_p2_starts, .int p2_ofTexts, .int p2_count])), (a_p2_numbers, .inl (k.2.2, p2_numbers_n, .inr (.inl p2_numbers))), (a_p2_starts, .inl (k.2.1, p2_starts_n, .inl p2_starts)), (a_p2_texts, .inl (k.1, p2_texts_n, .inl p2_texts))] H := hP
      have hD : va_D A [(a_t, .inr (6, [.ref a_t_numbers, .ref a_t_texts, .ref a_t_starts, .int t_ofTexts, .int t_count])), (a_t_numbers, .inl (k.2.2, t_numbers_n, .inr (.inl t_numbers))), (a_t_starts, .inl (k.2.1, t_starts_n, .inl t_starts)), (a_t_texts, .inl (k.1, t_texts_n, .inl t_texts)), (a_p2, .inr (6, [.ref a_p2_numbers, .ref a_p2_texts, .ref a_p2_starts, .int p2_ofTexts, .int p2_count])), (a_p2_numbers, .inl (k.2.2, p2_numbers_n, .inr (.inl p2_numbers))), (a_p2_starts, .inl (k.2.1, p2_starts_n, .inl p2_starts)), (a_p2_texts, .inl (k.1, p2_texts_n, .inl p2_texts))] := hD
      refine W.eq (g2 := F0 m 49 ls [.int o18, .int o16]) rfl ?_
      refine lv_icmp_ne (tgt := 66) hx hb d_V_compare_49 (by decide) (fun c => ?_) (fun c => ?_)
      · have h := iff_at h c
        refine lv_aload_n hx hb d_V_compare_66 rfl (lv_at hl 1 rfl) ?_
        refine lv_iload_n hx hb d_V_compare_67 rfl (lv_at hl 2 rfl) ?_
        refine lv_iload hx hb d_V_compare_68 (lv_at hl 0 rfl) ?_
        obtain ⟨o19, ho19, h⟩ := obd_at h
        refine g_V (As := [.int v1, .int o16]) (rest := []) hx hb hml hown hts hA hK hP hD hS hE (c_V_octetOf l D k a_t a_t_numbers a_t_texts a_t_starts t_starts_n t_texts_n t_ofTexts t_count t_starts t_texts v1 o16 n o19 ho19) mw_V_octetOf mi_V_octetOf ml_V_73 [0, 2, 3] rfl (by decide) rfl rfl rfl 0 rfl rfl rfl rfl rfl hl.1 rfl (Nat.le_of_ble_eq_true rfl) ⟨Nat.zero_le _, Nat.zero_le _⟩ d_V_compare_70 (fun H locs hP hD hS => ?_)
        have hP : va_P D CL [(a_t, .inr (6, [.ref a_t_numbers, .ref a_t_texts, .ref a_t_starts, .int t_ofTexts, .int t_count])), (a_t_numbers, .inl (k.2.2, t_numbers_n, .inr (.inl t_numbers))), (a_t_starts, .inl (k.2.1, t_starts_n, .inl t_starts)), (a_t_texts, .inl (k.1, t_texts_n, .inl t_texts)), (a_p2, .inr (6, [.ref a_p2_numbers, .ref a_p2_texts, .ref a_p2_starts, .int p2_ofTexts, .int p2_count])), (a_p2_numbers, .inl (k.2.2, p2_numbers_n, .inr (.inl p2_numbers))), (a_p2_starts, .inl (k.2.1, p2_starts_n, .inl p2_starts)), (a_p2_texts, .inl (k.1, p2_texts_n, .inl p2_texts))] H := hP
        have hD : va_D A [(a_t, .inr (6, [.ref a_t_numbers, .ref a_t_texts, .ref a_t_starts, .int t_ofTexts, .int t_count])), (a_t_numbers, .inl (k.2.2, t_numbers_n, .inr (.inl t_numbers))), (a_t_starts, .inl (k.2.1, t_starts_n, .inl t_starts)), (a_t_texts, .inl (k.1, t_texts_n, .inl t_texts)), (a_p2, .inr (6, [.ref a_p2_numbers, .ref a_p2_texts, .ref a_p2_starts, .int p2_ofTexts, .int p2_count])), (a_p2_numbers, .inl (k.2.2, p2_numbers_n, .inr (.inl p2_numbers))), (a_p2_starts, .inl (k.2.1, p2_starts_n, .inl p2_starts)), (a_p2_texts, .inl (k.1, p2_texts_n, .inl p2_texts))] := hD
        refine W.eq (g2 := F0 m 73 ls [.int o19]) rfl ?_
        refine lv_aload_n hx hb d_V_compare_73 rfl (lv_at hl 3 rfl) ?_
        refine lv_iload_n hx hb d_V_compare_74 rfl (lv_at hl 4 rfl) ?_
        refine lv_iload hx hb d_V_compare_75 (lv_at hl 0 rfl) ?_
        obtain ⟨o20, ho20, h⟩ := obd_at h
        refine g_V (As := [.int v3, .int o16]) (rest := [.int o19]) hx hb hml hown hts hA hK hP hD hS hE (c_V_octetOf l D k a_p2 a_p2_numbers a_p2_texts a_p2_starts p2_starts_n p2_texts_n p2_ofTexts p2_count p2_starts p2_texts v3 o16 n o20 ho20) mw_V_octetOf mi_V_octetOf ml_V_73 [4, 6, 7] rfl (by decide) rfl rfl rfl 0 rfl rfl rfl rfl rfl hl.1 rfl (Nat.le_of_ble_eq_true rfl) ⟨Nat.zero_le _, Nat.zero_le _⟩ d_V_compare_77 (fun H locs hP hD hS => ?_)
        have hP : va_P D CL [(a_t, .inr (6, [.ref a_t_numbers, .ref a_t_texts, .ref a_t_starts, .int t_ofTexts, .int t_count])), (a_t_numbers, .inl (k.2.2, t_numbers_n, .inr (.inl t_numbers))), (a_t_starts, .inl (k.2.1, t_starts_n, .inl t_starts)), (a_t_texts, .inl (k.1, t_texts_n, .inl t_texts)), (a_p2, .inr (6, [.ref a_p2_numbers, .ref a_p2_texts, .ref a_p2_starts, .int p2_ofTexts, .int p2_count])), (a_p2_numbers, .inl (k.2.2, p2_numbers_n, .inr (.inl p2_numbers))), (a_p2_starts, .inl (k.2.1, p2_starts_n, .inl p2_starts)), (a_p2_texts, .inl (k.1, p2_texts_n, .inl p2_texts))] H := hP
        have hD : va_D A [(a_t, .inr (6, [.ref a_t_numbers, .ref a_t_texts, .ref a_t_starts, .int t_ofTexts, .int t_count])), (a_t_numbers, .inl (k.2.2, t_numbers_n, .inr (.inl t_numbers))), (a_t_starts, .inl (k.2.1, t_starts_n, .inl t_starts)), (a_t_texts, .inl (k.1, t_texts_n, .inl t_texts)), (a_p2, .inr (6, [.ref a_p2_numbers, .ref a_p2_texts, .ref a_p2_starts, .int p2_ofTexts, .int p2_count])), (a_p2_numbers, .inl (k.2.2, p2_numbers_n, .inr (.inl p2_numbers))), (a_p2_starts, .inl (k.2.1, p2_starts_n, .inl p2_starts)), (a_p2_texts, .inl (k.1, p2_texts_n, .inl p2_texts))] := hD
        refine W.eq (g2 := F0 m 80 ls [.int o20, .int o19]) rfl ?_
        obtain ⟨o21, ho21, h⟩ := obd_at h
        refine g_S (As := [.int o19, .int o20]) (rest := []) hx hb hml hown hts hA hK hP hD hS hE (c_JI_compare l D k o19 o20 n o21 ho21) mw_JI_compare ms_JI_compare ml_V_69 [] rfl (by decide) rfl rfl rfl rfl rfl hl.1 rfl (Nat.le_of_ble_eq_true rfl) ⟨Nat.zero_le _, Nat.zero_le _⟩ d_V_compare_80 (fun H locs hP hD hS => ?_)
        have hP : va_P D CL [(a_t, .inr (6, [.ref a_t_numbers, .ref a_t_texts, .ref a_t_starts, .int t_ofTexts, .int t_count])), (a_t_numbers, .inl (k.2.2, t_numbers_n, .inr (.inl t_numbers))), (a_t_starts, .inl (k.2.1, t_starts_n, .inl t_starts)), (a_t_texts, .inl (k.1, t_texts_n, .inl t_texts)), (a_p2, .inr (6, [.ref a_p2_numbers, .ref a_p2_texts, .ref a_p2_starts, .int p2_ofTexts, .int p2_count])), (a_p2_numbers, .inl (k.2.2, p2_numbers_n, .inr (.inl p2_numbers))), (a_p2_starts, .inl (k.2.1, p2_starts_n, .inl p2_starts)), (a_p2_texts, .inl (k.1, p2_texts_n, .inl p2_texts))] H := hP
        have hD : va_D A [(a_t, .inr (6, [.ref a_t_numbers, .ref a_t_texts, .ref a_t_starts, .int t_ofTexts, .int t_count])), (a_t_numbers, .inl (k.2.2, t_numbers_n, .inr (.inl t_numbers))), (a_t_starts, .inl (k.2.1, t_starts_n, .inl t_starts)), (a_t_texts, .inl (k.1, t_texts_n, .inl t_texts)), (a_p2, .inr (6, [.ref a_p2_numbers, .ref a_p2_texts, .ref a_p2_starts, .int p2_ofTexts, .int p2_count])), (a_p2_numbers, .inl (k.2.2, p2_numbers_n, .inr (.inl p2_numbers))), (a_p2_starts, .inl (k.2.1, p2_starts_n, .inl p2_starts)), (a_p2_texts, .inl (k.1, p2_texts_n, .inl p2_texts))] := hD
        refine W.eq (g2 := F0 m 83 ls [.int o21]) rfl ?_
        exact ret2 _ (Option.some.inj h) d_V_compare_83 hP hD hS
      · have h := ift_at h c
        exact J52  _ _ ls hP hD hS (lv_sub hl [1, 2, 3, 4] rfl) h
  · have h := ift_at h c
    refine lv_aload_n hx hb d_V_compare_7 rfl (lv_at hl 0 rfl) ?_
    refine va_get (D := D) (ci := 6) (v := .ref a_t_numbers) (C := "PageForm$Values") (T := F_V) (N := 5) hx hb hts in_V hown hK hP 0 rfl rfl 0 (by decide) (hts _ fl_V_9) (fun _ h9 => h9) rfl d_V_compare_8 ?_
    refine lv_iload_n hx hb d_V_compare_11 rfl (lv_at hl 1 rfl) ?_
    obtain ⟨g22, h⟩ := gd_at h
    refine va_lald hx hb hK hP 1 2 rfl rfl (inB_in g22) d_V_compare_12 ?_
    refine lv_aload_n hx hb d_V_compare_13 rfl (lv_at hl 2 rfl) ?_
    refine va_get (D := D) (ci := 6) (v := .ref a_p2_numbers) (C := "PageForm$Values") (T := F_V) (N := 5) hx hb hts in_V hown hK hP 4 rfl rfl 0 (by decide) (hts _ fl_V_9) (fun _ h9 => h9) rfl d_V_compare_14 ?_
    refine lv_iload_n hx hb d_V_compare_17 rfl (lv_at hl 3 rfl) ?_
    obtain ⟨g23, h⟩ := gd_at h
    refine va_lald hx hb hK hP 5 2 rfl rfl (inB_in g23) d_V_compare_18 ?_
    obtain ⟨o24, ho24, h⟩ := obd_at h
    refine g_S (As := [.long (t_numbers v1.toNatClampNeg), .long (p2_numbers v3.toNatClampNeg)]) (rest := []) hx hb hml hown hts hA hK hP hD hS hE (c_JL_compare l D k (t_numbers v1.toNatClampNeg) (p2_numbers v3.toNatClampNeg) n o24 ho24) mw_JL_compare ms_JL_compare ml_V_59 [] rfl (by decide) rfl rfl rfl rfl rfl hl.1 rfl (Nat.le_of_ble_eq_true rfl) ⟨Nat.zero_le _, Nat.zero_le _⟩ d_V_compare_19 (fun H locs hP hD hS => ?_)
    have hP : va_P D CL [(a_t, .inr (6, [.ref a_t_numbers, .ref a_t_texts, .ref a_t_starts, .int t_ofTexts, .int t_count])), (a_t_numbers, .inl (k.2.2, t_numbers_n, .inr (.inl t_numbers))), (a_t_starts, .inl (k.2.1, t_starts_n, .inl t_starts)), (a_t_texts, .inl (k.1, t_texts_n, .inl t_texts)), (a_p2, .inr (6, [.ref a_p2_numbers, .ref a_p2_texts, .ref a_p2_starts, .int p2_ofTexts, .int p2_count])), (a_p2_numbers, .inl (k.2.2, p2_numbers_n, .inr (.inl p2_numbers))), (a_p2_starts, .inl (k.2.1, p2_starts_n, .inl p2_starts)), (a_p2_texts, .inl (k.1, p2_texts_n, .inl p2_texts))] H := hP
    have hD : va_D A [(a_t, .inr (6, [.ref a_t_numbers, .ref a_t_texts, .ref a_t_starts, .int t_ofTexts, .int t_count])), (a_t_numbers, .inl (k.2.2, t_numbers_n, .inr (.inl t_numbers))), (a_t_starts, .inl (k.2.1, t_starts_n, .inl t_starts)), (a_t_texts, .inl (k.1, t_texts_n, .inl t_texts)), (a_p2, .inr (6, [.ref a_p2_numbers, .ref a_p2_texts, .ref a_p2_starts, .int p2_ofTexts, .int p2_count])), (a_p2_numbers, .inl (k.2.2, p2_numbers_n, .inr (.inl p2_numbers))), (a_p2_starts, .inl (k.2.1, p2_starts_n, .inl p2_starts)), (a_p2_texts, .inl (k.1, p2_texts_n, .inl p2_texts))] := hD
    refine W.eq (g2 := F0 m 22 ls [.int o24]) rfl ?_
    exact ret2 _ (Option.some.inj h) d_V_compare_22 hP hD hS

def rm_V_inCommon_00 : Room := { frames := 1, cells := 0, slots := 0, locals := 40 }
def f_V_inCommon_00_l18 (t_starts_n : Nat) (t_texts_n : Nat) (t_starts : Nat → Int32) (t_texts : Nat → Int32) (v1 : Int32) (v3 : Int32) (v4 : Int32) (v5 : Int32) : Option ((Int32) ⊕ ((Int32))) :=
  (if v4 ≤ v5 then some (Sum.inr (v5)) else gd (inB v1 t_starts_n) (gd (inB ((t_starts v1.toNatClampNeg) + v5) t_texts_n) (gd (inB v3 t_starts_n) (gd (inB ((t_starts v3.toNatClampNeg) + v5) t_texts_n) ((if (t_texts ((t_starts v1.toNatClampNeg) + v5).toNatClampNeg) = (t_texts ((t_starts v3.toNatClampNeg) + v5).toNatClampNeg) then bnd (v5 + (1 : Int32)) (fun x15 => some (Sum.inl x15)) else some (Sum.inr (v5))))))))
def f_V_inCommon_00 (n : Nat) (t_starts_n : Nat) (t_texts_n : Nat) (t_starts : Nat → Int32) (t_texts : Nat → Int32) (v1 : Int32) (v3 : Int32) : Option (Int32) :=
  Option.bind (f_V_sizeOf t_starts_n t_starts v1) (fun o36 => Option.bind (f_V_sizeOf t_starts_n t_starts v3) (fun o37 => bnd (if o37 < o36 then o37 else o36) (fun x38 => Option.bind (lp (fun v => f_V_inCommon_00_l18 t_starts_n t_texts_n t_starts t_texts v1 v3 x38 v) n (0 : Int32)) (fun o => some o))))
set_option maxHeartbeats 4000000 in
set_option maxRecDepth 100000 in
theorem c_V_inCommon_00 (l : Launch) (D : va_G) (k : ClassId × ClassId × ClassId) (a_t a_t_numbers a_t_texts a_t_starts : Nat) (t_starts_n t_texts_n : Nat) (t_ofTexts : Int32) (t_count : Int32) (t_starts : Nat → Int32) (t_texts : Nat → Int32) (v1 : Int32) (v3 : Int32) (n : Nat) (out : Int32) (h : f_V_inCommon_00 n t_starts_n t_texts_n t_starts t_texts v1 v3 = some out) : Ct l D k y_V_inCommon b_V_inCommon 6 (some .int) rm_V_inCommon_00 [.ref a_t, .int v1, .ref a_t, .int v3] [(a_t, .inr (6, [.ref a_t_numbers, .ref a_t_texts, .ref a_t_starts, .int t_ofTexts, .int t_count])), (a_t_starts, .inl (k.2.1, t_starts_n, .inl t_starts)), (a_t_texts, .inl (k.1, t_texts_n, .inl t_texts))] [(a_t, .inr (6, [.ref a_t_numbers, .ref a_t_texts, .ref a_t_starts, .int t_ofTexts, .int t_count])), (a_t_starts, .inl (k.2.1, t_starts_n, .inl t_starts)), (a_t_texts, .inl (k.1, t_texts_n, .inl t_texts))] (some (.int out)) := by
  refine Ct.ofI (by decide) (Nat.le_of_ble_eq_true rfl) ?_
  intro p e s m args below meth c A Q ls hx hb hml hown hts hA hK hP hD hS hE hl ret
  have hown : s.vm.findClass "PageForm$Values" = some m.cls := hown
  have hl : lv_has ls 6 [(0, .ref a_t), (1, .int v1), (2, .ref a_t), (3, .int v3)] := hl
  have ret2 : ∀ (y0 : Int32) (_ : y0 = out) {pc : Nat} {ls : Array Slot} {H : Heap} {locs : List Loc}, decode b_V_inCommon pc = .ok (.ireturn, 1) → va_P D CL [(a_t, .inr (6, [.ref a_t_numbers, .ref a_t_texts, .ref a_t_starts, .int t_ofTexts, .int t_count])), (a_t_starts, .inl (k.2.1, t_starts_n, .inl t_starts)), (a_t_texts, .inl (k.1, t_texts_n, .inl t_texts))] H → va_D A [(a_t, .inr (6, [.ref a_t_numbers, .ref a_t_texts, .ref a_t_starts, .int t_ofTexts, .int t_count])), (a_t_starts, .inl (k.2.1, t_starts_n, .inl t_starts)), (a_t_texts, .inl (k.1, t_texts_n, .inl t_texts))] → va_S A s.heap H locs → W p l e rm_V_inCommon_00 s m args below meth c H locs 0 0 Q (F0 m pc ls [.int y0]) := by
    intro y0 e0; subst e0; exact ret
  clear ret
  have L18 : ∀ (K : Nat) (v4 : Int32) (v5 : Int32) (o : (Int32)) (H : Heap) (locs : List Loc) (ls : Array Slot), va_P D CL [(a_t, .inr (6, [.ref a_t_numbers, .ref a_t_texts, .ref a_t_starts, .int t_ofTexts, .int t_count])), (a_t_starts, .inl (k.2.1, t_starts_n, .inl t_starts)), (a_t_texts, .inl (k.1, t_texts_n, .inl t_texts))] H → va_D A [(a_t, .inr (6, [.ref a_t_numbers, .ref a_t_texts, .ref a_t_starts, .int t_ofTexts, .int t_count])), (a_t_starts, .inl (k.2.1, t_starts_n, .inl t_starts)), (a_t_texts, .inl (k.1, t_texts_n, .inl t_texts))] → va_S A s.heap H locs → lv_has ls 6 [(0, .ref a_t), (1, .int v1), (2, .ref a_t), (3, .int v3), (4, .int v4), (5, .int v5)] → lp (fun v => f_V_inCommon_00_l18 t_starts_n t_texts_n t_starts t_texts v1 v3 v4 v) K v5 = some o → (fun o => some o) o = some out → W p l e rm_V_inCommon_00 s m args below meth c H locs 0 0 Q (F0 m 18 ls []) := by
    intro K
    induction K with
    | zero => intros; exact absurd (by assumption) lp_no
    | succ K ih18 =>
      intro v4 v5 o H locs ls hP hD hS hl h0 hx18
      obtain ⟨b18, h, hc18⟩ := lp_at h0
      have h : f_V_inCommon_00_l18 t_starts_n t_texts_n t_starts t_texts v1 v3 v4 v5 = some b18 := h
      unfold f_V_inCommon_00_l18 at h
      refine lv_iload hx hb d_V_inCommon_18 (lv_at hl 5 rfl) ?_
      refine lv_iload hx hb d_V_inCommon_20 (lv_at hl 4 rfl) ?_
      refine lv_icmp_ge (tgt := 62) hx hb d_V_inCommon_22 (by decide) (fun c => ?_) (fun c => ?_)
      · have h := ift_at h c
        refine lv_iload hx hb d_V_inCommon_62 (lv_at hl 5 rfl) ?_
        obtain rfl := lp_out h hc18
        exact ret2 _ (Option.some.inj hx18) d_V_inCommon_64 hP hD hS
      · have h := iff_at h c
        refine lv_aload_n hx hb d_V_inCommon_25 rfl (lv_at hl 0 rfl) ?_
        refine va_get (D := D) (ci := 6) (v := .ref a_t_texts) (C := "PageForm$Values") (T := F_V) (N := 5) hx hb hts in_V hown hK hP 0 rfl rfl 1 (by decide) (hts _ fl_V_15) (fun _ h9 => h9) rfl d_V_inCommon_26 ?_
        refine lv_aload_n hx hb d_V_inCommon_29 rfl (lv_at hl 0 rfl) ?_
        refine va_get (D := D) (ci := 6) (v := .ref a_t_starts) (C := "PageForm$Values") (T := F_V) (N := 5) hx hb hts in_V hown hK hP 0 rfl rfl 2 (by decide) (hts _ fl_V_19) (fun _ h9 => h9) rfl d_V_inCommon_30 ?_
        refine lv_iload_n hx hb d_V_inCommon_33 rfl (lv_at hl 1 rfl) ?_
        obtain ⟨g11, h⟩ := gd_at h
        refine va_iald hx hb hK hP 1 1 rfl rfl (inB_in g11) d_V_inCommon_34 ?_
        refine lv_iload hx hb d_V_inCommon_35 (lv_at hl 5 rfl) ?_
        refine lv_iadd hx hb d_V_inCommon_37 ?_
        obtain ⟨g12, h⟩ := gd_at h
        refine va_bald hx hb hK hP 2 0 rfl rfl (inB_in g12) d_V_inCommon_38 ?_
        refine lv_aload_n hx hb d_V_inCommon_39 rfl (lv_at hl 2 rfl) ?_
        refine va_get (D := D) (ci := 6) (v := .ref a_t_texts) (C := "PageForm$Values") (T := F_V) (N := 5) hx hb hts in_V hown hK hP 0 rfl rfl 1 (by decide) (hts _ fl_V_15) (fun _ h9 => h9) rfl d_V_inCommon_40 ?_
        refine lv_aload_n hx hb d_V_inCommon_43 rfl (lv_at hl 2 rfl) ?_
        refine va_get (D := D) (ci := 6) (v := .ref a_t_starts) (C := "PageForm$Values") (T := F_V) (N := 5) hx hb hts in_V hown hK hP 0 rfl rfl 2 (by decide) (hts _ fl_V_19) (fun _ h9 => h9) rfl d_V_inCommon_44 ?_
        refine lv_iload_n hx hb d_V_inCommon_47 rfl (lv_at hl 3 rfl) ?_
        obtain ⟨g13, h⟩ := gd_at h
        refine va_iald hx hb hK hP 1 1 rfl rfl (inB_in g13) d_V_inCommon_48 ?_
        refine lv_iload hx hb d_V_inCommon_49 (lv_at hl 5 rfl) ?_
        refine lv_iadd hx hb d_V_inCommon_51 ?_
        obtain ⟨g14, h⟩ := gd_at h
        refine va_bald hx hb hK hP 2 0 rfl rfl (inB_in g14) d_V_inCommon_52 ?_
        refine lv_icmp_ne (tgt := 62) hx hb d_V_inCommon_53 (by decide) (fun c => ?_) (fun c => ?_)
        · have h := iff_at h c
          refine lv_iload hx hb d_V_inCommon_62 (lv_at hl 5 rfl) ?_
          obtain rfl := lp_out h hc18
          exact ret2 _ (Option.some.inj hx18) d_V_inCommon_64 hP hD hS
        · have h := ift_at h c
          obtain ⟨x15, ex15⟩ : ∃ z : Int32, z = v5 + (1 : Int32) := ⟨_, rfl⟩
          have h := bnd_at h ex15
          refine lv_iinc (v := x15) (lv' := [(5, .int x15), (0, .ref a_t), (1, .int v1), (2, .ref a_t), (3, .int v3), (4, .int v4)]) hx hb d_V_inCommon_56 hl (k := 5) rfl (by rw [ex15]; rfl) (by decide) rfl (fun ls hl => ?_)
          refine lv_goto (tgt := 18) hx hb d_V_inCommon_59 (by decide) ?_
          have h := lp_go h hc18
          exact ih18 v4 x15 o _ _ ls hP hD hS (lv_sub hl [1, 2, 3, 4, 5, 0] rfl) h hx18
  unfold f_V_inCommon_00 at h
  refine lv_aload_n hx hb d_V_inCommon_0 rfl (lv_at hl 0 rfl) ?_
  refine lv_iload_n hx hb d_V_inCommon_1 rfl (lv_at hl 1 rfl) ?_
  obtain ⟨o36, ho36, h⟩ := obd_at h
  refine g_V (As := [.int v1]) (rest := []) hx hb hml hown hts hA hK hP hD hS hE (c_V_sizeOf l D k a_t a_t_numbers a_t_texts a_t_starts t_starts_n t_ofTexts t_count t_starts v1 n o36 ho36) mw_V_sizeOf mi_V_sizeOf ml_V_41 [0, 1] rfl (by decide) rfl rfl rfl 0 rfl rfl rfl rfl rfl hl.1 rfl (Nat.le_of_ble_eq_true rfl) ⟨Nat.zero_le _, Nat.zero_le _⟩ d_V_inCommon_2 (fun H locs hP hD hS => ?_)
  have hP : va_P D CL [(a_t, .inr (6, [.ref a_t_numbers, .ref a_t_texts, .ref a_t_starts, .int t_ofTexts, .int t_count])), (a_t_starts, .inl (k.2.1, t_starts_n, .inl t_starts)), (a_t_texts, .inl (k.1, t_texts_n, .inl t_texts))] H := hP
  have hD : va_D A [(a_t, .inr (6, [.ref a_t_numbers, .ref a_t_texts, .ref a_t_starts, .int t_ofTexts, .int t_count])), (a_t_starts, .inl (k.2.1, t_starts_n, .inl t_starts)), (a_t_texts, .inl (k.1, t_texts_n, .inl t_texts))] := hD
  refine W.eq (g2 := F0 m 5 ls [.int o36]) rfl ?_
  refine lv_aload_n hx hb d_V_inCommon_5 rfl (lv_at hl 2 rfl) ?_
  refine lv_iload_n hx hb d_V_inCommon_6 rfl (lv_at hl 3 rfl) ?_
  obtain ⟨o37, ho37, h⟩ := obd_at h
  refine g_V (As := [.int v3]) (rest := [.int o36]) hx hb hml hown hts hA hK hP hD hS hE (c_V_sizeOf l D k a_t a_t_numbers a_t_texts a_t_starts t_starts_n t_ofTexts t_count t_starts v3 n o37 ho37) mw_V_sizeOf mi_V_sizeOf ml_V_41 [0, 1] rfl (by decide) rfl rfl rfl 0 rfl rfl rfl rfl rfl hl.1 rfl (Nat.le_of_ble_eq_true rfl) ⟨Nat.zero_le _, Nat.zero_le _⟩ d_V_inCommon_7 (fun H locs hP hD hS => ?_)
  have hP : va_P D CL [(a_t, .inr (6, [.ref a_t_numbers, .ref a_t_texts, .ref a_t_starts, .int t_ofTexts, .int t_count])), (a_t_starts, .inl (k.2.1, t_starts_n, .inl t_starts)), (a_t_texts, .inl (k.1, t_texts_n, .inl t_texts))] H := hP
  have hD : va_D A [(a_t, .inr (6, [.ref a_t_numbers, .ref a_t_texts, .ref a_t_starts, .int t_ofTexts, .int t_count])), (a_t_starts, .inl (k.2.1, t_starts_n, .inl t_starts)), (a_t_texts, .inl (k.1, t_texts_n, .inl t_texts))] := hD
  refine W.eq (g2 := F0 m 10 ls [.int o37, .int o36]) rfl ?_
  refine va_mmin hx hb (hml.trans hl.1.symm) hown (hts _ ml_V_53) (hts _ ms_JM_min_II) (hts _ ini_JM) (hts _ mw_JM_min_II.1) (Nat.le_of_ble_eq_true rfl) (Nat.le_of_ble_eq_true rfl) (Nat.zero_le _) (Nat.zero_le _) d_V_inCommon_10 ?_
  refine lv_topi (fun x38 ex38 => ?_)
  have h := bnd_at h ex38
  refine lv_istore (lv' := [(4, .int x38), (0, .ref a_t), (1, .int v1), (2, .ref a_t), (3, .int v3)]) hx hb d_V_inCommon_13 hl (by decide) rfl (fun ls hl => ?_)
  refine lv_iconst (v := 0) hx hb d_V_inCommon_15 (by decide) ?_
  refine lv_istore (lv' := [(5, .int (0 : Int32)), (4, .int x38), (0, .ref a_t), (1, .int v1), (2, .ref a_t), (3, .int v3)]) hx hb d_V_inCommon_16 hl (by decide) rfl (fun ls hl => ?_)
  obtain ⟨o39, ho39, h⟩ := obd_at h
  exact L18 n x38 (0 : Int32) o39 _ _ ls hP hD hS (lv_sub hl [2, 3, 4, 5, 1, 0] rfl) ho39 h

def rm_V_compare_00 : Room := { frames := 2, cells := 0, slots := 0, locals := 65 }
def f_V_compare_00_j52 (t_starts_n : Nat) (t_starts : Nat → Int32) (v1 : Int32) (v3 : Int32) : Option (Int32) :=
  Option.bind (f_V_sizeOf t_starts_n t_starts v1) (fun o13 => Option.bind (f_V_sizeOf t_starts_n t_starts v3) (fun o14 => Option.bind (f_JI_compare o13 o14) (fun o15 => some o15)))
def f_V_compare_00 (n : Nat) (t_numbers_n : Nat) (t_starts_n : Nat) (t_texts_n : Nat) (t_ofTexts : Int32) (t_numbers : Nat → Int64) (t_starts : Nat → Int32) (t_texts : Nat → Int32) (v1 : Int32) (v3 : Int32) : Option (Int32) :=
  (if t_ofTexts = 0 then gd (inB v1 t_numbers_n) (gd (inB v3 t_numbers_n) (Option.bind (f_JL_compare (t_numbers v1.toNatClampNeg) (t_numbers v3.toNatClampNeg)) (fun o24 => some o24))) else Option.bind (f_V_inCommon_00 n t_starts_n t_texts_n t_starts t_texts v1 v3) (fun o16 => Option.bind (f_V_sizeOf t_starts_n t_starts v1) (fun o17 => (if o16 = o17 then f_V_compare_00_j52 t_starts_n t_starts v1 v3 else Option.bind (f_V_sizeOf t_starts_n t_starts v3) (fun o18 => (if o16 = o18 then f_V_compare_00_j52 t_starts_n t_starts v1 v3 else Option.bind (f_V_octetOf t_starts_n t_texts_n t_starts t_texts v1 o16) (fun o19 => Option.bind (f_V_octetOf t_starts_n t_texts_n t_starts t_texts v3 o16) (fun o20 => Option.bind (f_JI_compare o19 o20) (fun o21 => some o21)))))))))
set_option maxHeartbeats 4000000 in
set_option maxRecDepth 100000 in
theorem c_V_compare_00 (l : Launch) (D : va_G) (k : ClassId × ClassId × ClassId) (a_t a_t_numbers a_t_texts a_t_starts : Nat) (t_numbers_n t_starts_n t_texts_n : Nat) (t_ofTexts : Int32) (t_count : Int32) (t_numbers : Nat → Int64) (t_starts : Nat → Int32) (t_texts : Nat → Int32) (v1 : Int32) (v3 : Int32) (n : Nat) (out : Int32) (h : f_V_compare_00 n t_numbers_n t_starts_n t_texts_n t_ofTexts t_numbers t_starts t_texts v1 v3 = some out) : Ct l D k y_V_compare b_V_compare 5 (some .int) rm_V_compare_00 [.ref a_t, .int v1, .ref a_t, .int v3] [(a_t, .inr (6, [.ref a_t_numbers, .ref a_t_texts, .ref a_t_starts, .int t_ofTexts, .int t_count])), (a_t_numbers, .inl (k.2.2, t_numbers_n, .inr (.inl t_numbers))), (a_t_starts, .inl (k.2.1, t_starts_n, .inl t_starts)), (a_t_texts, .inl (k.1, t_texts_n, .inl t_texts))] [(a_t, .inr (6, [.ref a_t_numbers, .ref a_t_texts, .ref a_t_starts, .int t_ofTexts, .int t_count])), (a_t_numbers, .inl (k.2.2, t_numbers_n, .inr (.inl t_numbers))), (a_t_starts, .inl (k.2.1, t_starts_n, .inl t_starts)), (a_t_texts, .inl (k.1, t_texts_n, .inl t_texts))] (some (.int out)) := by
  refine Ct.ofI (by decide) (Nat.le_of_ble_eq_true rfl) ?_
  intro p e s m args below meth c A Q ls hx hb hml hown hts hA hK hP hD hS hE hl ret
  have hown : s.vm.findClass "PageForm$Values" = some m.cls := hown
  have hl : lv_has ls 5 [(0, .ref a_t), (1, .int v1), (2, .ref a_t), (3, .int v3)] := hl
  have ret2 : ∀ (y0 : Int32) (_ : y0 = out) {pc : Nat} {ls : Array Slot} {H : Heap} {locs : List Loc}, decode b_V_compare pc = .ok (.ireturn, 1) → va_P D CL [(a_t, .inr (6, [.ref a_t_numbers, .ref a_t_texts, .ref a_t_starts, .int t_ofTexts, .int t_count])), (a_t_numbers, .inl (k.2.2, t_numbers_n, .inr (.inl t_numbers))), (a_t_starts, .inl (k.2.1, t_starts_n, .inl t_starts)), (a_t_texts, .inl (k.1, t_texts_n, .inl t_texts))] H → va_D A [(a_t, .inr (6, [.ref a_t_numbers, .ref a_t_texts, .ref a_t_starts, .int t_ofTexts, .int t_count])), (a_t_numbers, .inl (k.2.2, t_numbers_n, .inr (.inl t_numbers))), (a_t_starts, .inl (k.2.1, t_starts_n, .inl t_starts)), (a_t_texts, .inl (k.1, t_texts_n, .inl t_texts))] → va_S A s.heap H locs → W p l e rm_V_compare_00 s m args below meth c H locs 0 0 Q (F0 m pc ls [.int y0]) := by
    intro y0 e0; subst e0; exact ret
  clear ret
  have J52 : ∀  (H : Heap) (locs : List Loc) (ls : Array Slot), va_P D CL [(a_t, .inr (6, [.ref a_t_numbers, .ref a_t_texts, .ref a_t_starts, .int t_ofTexts, .int t_count])), (a_t_numbers, .inl (k.2.2, t_numbers_n, .inr (.inl t_numbers))), (a_t_starts, .inl (k.2.1, t_starts_n, .inl t_starts)), (a_t_texts, .inl (k.1, t_texts_n, .inl t_texts))] H → va_D A [(a_t, .inr (6, [.ref a_t_numbers, .ref a_t_texts, .ref a_t_starts, .int t_ofTexts, .int t_count])), (a_t_numbers, .inl (k.2.2, t_numbers_n, .inr (.inl t_numbers))), (a_t_starts, .inl (k.2.1, t_starts_n, .inl t_starts)), (a_t_texts, .inl (k.1, t_texts_n, .inl t_texts))] → va_S A s.heap H locs → lv_has ls 5 [(0, .ref a_t), (1, .int v1), (2, .ref a_t), (3, .int v3)] → f_V_compare_00_j52 t_starts_n t_starts v1 v3 = some out → W p l e rm_V_compare_00 s m args below meth c H locs 0 0 Q (F0 m 52 ls []) := by
    intro  H locs ls hP hD hS hl h
    unfold f_V_compare_00_j52 at h
    refine lv_aload_n hx hb d_V_compare_52 rfl (lv_at hl 0 rfl) ?_
    refine lv_iload_n hx hb d_V_compare_53 rfl (lv_at hl 1 rfl) ?_
    obtain ⟨o13, ho13, h⟩ := obd_at h
    refine g_V (As := [.int v1]) (rest := []) hx hb hml hown hts hA hK hP hD hS hE (c_V_sizeOf l D k a_t a_t_numbers a_t_texts a_t_starts t_starts_n t_ofTexts t_count t_starts v1 n o13 ho13) mw_V_sizeOf mi_V_sizeOf ml_V_41 [0, 2] rfl (by decide) rfl rfl rfl 0 rfl rfl rfl rfl rfl hl.1 rfl (Nat.le_of_ble_eq_true rfl) ⟨Nat.zero_le _, Nat.zero_le _⟩ d_V_compare_54 (fun H locs hP hD hS => ?_)
    have hP : va_P D CL [(a_t, .inr (6, [.ref a_t_numbers, .ref a_t_texts, .ref a_t_starts, .int t_ofTexts, .int t_count])), (a_t_numbers, .inl (k.2.2, t_numbers_n, .inr (.inl t_numbers))), (a_t_starts, .inl (k.2.1, t_starts_n, .inl t_starts)), (a_t_texts, .inl (k.1, t_texts_n, .inl t_texts))] H := hP
    have hD : va_D A [(a_t, .inr (6, [.ref a_t_numbers, .ref a_t_texts, .ref a_t_starts, .int t_ofTexts, .int t_count])), (a_t_numbers, .inl (k.2.2, t_numbers_n, .inr (.inl t_numbers))), (a_t_starts, .inl (k.2.1, t_starts_n, .inl t_starts)), (a_t_texts, .inl (k.1, t_texts_n, .inl t_texts))] := hD
    refine W.eq (g2 := F0 m 57 ls [.int o13]) rfl ?_
    refine lv_aload_n hx hb d_V_compare_57 rfl (lv_at hl 2 rfl) ?_
    refine lv_iload_n hx hb d_V_compare_58 rfl (lv_at hl 3 rfl) ?_
    obtain ⟨o14, ho14, h⟩ := obd_at h
    refine g_V (As := [.int v3]) (rest := [.int o13]) hx hb hml hown hts hA hK hP hD hS hE (c_V_sizeOf l D k a_t a_t_numbers a_t_texts a_t_starts t_starts_n t_ofTexts t_count t_starts v3 n o14 ho14) mw_V_sizeOf mi_V_sizeOf ml_V_41 [0, 2] rfl (by decide) rfl rfl rfl 0 rfl rfl rfl rfl rfl hl.1 rfl (Nat.le_of_ble_eq_true rfl) ⟨Nat.zero_le _, Nat.zero_le _⟩ d_V_compare_59 (fun H locs hP hD hS => ?_)
    have hP : va_P D CL [(a_t, .inr (6, [.ref a_t_numbers, .ref a_t_texts, .ref a_t_starts, .int t_ofTexts, .int t_count])), (a_t_numbers, .inl (k.2.2, t_numbers_n, .inr (.inl t_numbers))), (a_t_starts, .inl (k.2.1, t_starts_n, .inl t_starts)), (a_t_texts, .inl (k.1, t_texts_n, .inl t_texts))] H := hP
    have hD : va_D A [(a_t, .inr (6, [.ref a_t_numbers, .ref a_t_texts, .ref a_t_starts, .int t_ofTexts, .int t_count])), (a_t_numbers, .inl (k.2.2, t_numbers_n, .inr (.inl t_numbers))), (a_t_starts, .inl (k.2.1, t_starts_n, .inl t_starts)), (a_t_texts, .inl (k.1, t_texts_n, .inl t_texts))] := hD
    refine W.eq (g2 := F0 m 62 ls [.int o14, .int o13]) rfl ?_
    obtain ⟨o15, ho15, h⟩ := obd_at h
    refine g_S (As := [.int o13, .int o14]) (rest := []) hx hb hml hown hts hA hK hP hD hS hE (c_JI_compare l D k o13 o14 n o15 ho15) mw_JI_compare ms_JI_compare ml_V_69 [] rfl (by decide) rfl rfl rfl rfl rfl hl.1 rfl (Nat.le_of_ble_eq_true rfl) ⟨Nat.zero_le _, Nat.zero_le _⟩ d_V_compare_62 (fun H locs hP hD hS => ?_)
    have hP : va_P D CL [(a_t, .inr (6, [.ref a_t_numbers, .ref a_t_texts, .ref a_t_starts, .int t_ofTexts, .int t_count])), (a_t_numbers, .inl (k.2.2, t_numbers_n, .inr (.inl t_numbers))), (a_t_starts, .inl (k.2.1, t_starts_n, .inl t_starts)), (a_t_texts, .inl (k.1, t_texts_n, .inl t_texts))] H := hP
    have hD : va_D A [(a_t, .inr (6, [.ref a_t_numbers, .ref a_t_texts, .ref a_t_starts, .int t_ofTexts, .int t_count])), (a_t_numbers, .inl (k.2.2, t_numbers_n, .inr (.inl t_numbers))), (a_t_starts, .inl (k.2.1, t_starts_n, .inl t_starts)), (a_t_texts, .inl (k.1, t_texts_n, .inl t_texts))] := hD
    refine W.eq (g2 := F0 m 65 ls [.int o15]) rfl ?_
    exact ret2 _ (Option.some.inj h) d_V_compare_65 hP hD hS
  unfold f_V_compare_00 at h
  refine lv_aload_n hx hb d_V_compare_0 rfl (lv_at hl 0 rfl) ?_
  refine va_get (D := D) (ci := 6) (v := .int t_ofTexts) (C := "PageForm$Values") (T := F_V) (N := 5) hx hb hts in_V hown hK hP 0 rfl rfl 3 (by decide) (hts _ fl_V_23) (fun _ h9 => h9) rfl d_V_compare_1 ?_
  refine lv_if_ne (tgt := 23) hx hb d_V_compare_4 (by decide) (fun c => ?_) (fun c => ?_)
  · have h := iff_at h c
    refine lv_aload_n hx hb d_V_compare_23 rfl (lv_at hl 0 rfl) ?_
    refine lv_iload_n hx hb d_V_compare_24 rfl (lv_at hl 1 rfl) ?_
    refine lv_aload_n hx hb d_V_compare_25 rfl (lv_at hl 2 rfl) ?_
    refine lv_iload_n hx hb d_V_compare_26 rfl (lv_at hl 3 rfl) ?_
    obtain ⟨o16, ho16, h⟩ := obd_at h
    refine g_V (As := [.int v1, .ref a_t, .int v3]) (rest := []) hx hb hml hown hts hA hK hP hD hS hE (c_V_inCommon_00 l D k a_t a_t_numbers a_t_texts a_t_starts t_starts_n t_texts_n t_ofTexts t_count t_starts t_texts v1 v3 n o16 ho16) mw_V_inCommon mi_V_inCommon ml_V_65 [0, 2, 3] rfl (by decide) rfl rfl rfl 0 rfl rfl rfl rfl rfl hl.1 rfl (Nat.le_of_ble_eq_true rfl) ⟨Nat.zero_le _, Nat.zero_le _⟩ d_V_compare_27 (fun H locs hP hD hS => ?_)
    have hP : va_P D CL [(a_t, .inr (6, [.ref a_t_numbers, .ref a_t_texts, .ref a_t_starts, .int t_ofTexts, .int t_count])), (a_t_numbers, .inl (k.2.2, t_numbers_n, .inr (.inl t_numbers))), (a_t_starts, .inl (k.2.1, t_starts_n, .inl t_starts)), (a_t_texts, .inl (k.1, t_texts_n, .inl t_texts))] H := hP
    have hD : va_D A [(a_t, .inr (6, [.ref a_t_numbers, .ref a_t_texts, .ref a_t_starts, .int t_ofTexts, .int t_count])), (a_t_numbers, .inl (k.2.2, t_numbers_n, .inr (.inl t_numbers))), (a_t_starts, .inl (k.2.1, t_starts_n, .inl t_starts)), (a_t_texts, .inl (k.1, t_texts_n, .inl t_texts))] := hD
    refine W.eq (g2 := F0 m 30 ls [.int o16]) rfl ?_
    refine lv_istore (lv' := [(4, .int o16), (0, .ref a_t), (1, .int v1), (2, .ref a_t), (3, .int v3)]) hx hb d_V_compare_30 hl (by decide) rfl (fun ls hl => ?_)
    refine lv_iload hx hb d_V_compare_32 (lv_at hl 0 rfl) ?_
    refine lv_aload_n hx hb d_V_compare_34 rfl (lv_at hl 1 rfl) ?_
    refine lv_iload_n hx hb d_V_compare_35 rfl (lv_at hl 2 rfl) ?_
    obtain ⟨o17, ho17, h⟩ := obd_at h
    refine g_V (As := [.int v1]) (rest := [.int o16]) hx hb hml hown hts hA hK hP hD hS hE (c_V_sizeOf l D k a_t a_t_numbers a_t_texts a_t_starts t_starts_n t_ofTexts t_count t_starts v1 n o17 ho17) mw_V_sizeOf mi_V_sizeOf ml_V_41 [0, 2] rfl (by decide) rfl rfl rfl 0 rfl rfl rfl rfl rfl hl.1 rfl (Nat.le_of_ble_eq_true rfl) ⟨Nat.zero_le _, Nat.zero_le _⟩ d_V_compare_36 (fun H locs hP hD hS => ?_)
    have hP : va_P D CL [(a_t, .inr (6, [.ref a_t_numbers, .ref a_t_texts, .ref a_t_starts, .int t_ofTexts, .int t_count])), (a_t_numbers, .inl (k.2.2, t_numbers_n, .inr (.inl t_numbers))), (a_t_starts, .inl (k.2.1, t_starts_n, .inl t_starts)), (a_t_texts, .inl (k.1, t_texts_n, .inl t_texts))] H := hP
    have hD : va_D A [(a_t, .inr (6, [.ref a_t_numbers, .ref a_t_texts, .ref a_t_starts, .int t_ofTexts, .int t_count])), (a_t_numbers, .inl (k.2.2, t_numbers_n, .inr (.inl t_numbers))), (a_t_starts, .inl (k.2.1, t_starts_n, .inl t_starts)), (a_t_texts, .inl (k.1, t_texts_n, .inl t_texts))] := hD
    refine W.eq (g2 := F0 m 39 ls [.int o17, .int o16]) rfl ?_
    refine lv_icmp_eq (tgt := 52) hx hb d_V_compare_39 (by decide) (fun c => ?_) (fun c => ?_)
    · have h := ift_at h c
      exact J52  _ _ ls hP hD hS (lv_sub hl [1, 2, 3, 4] rfl) h
    · have h := iff_at h c
      refine lv_iload hx hb d_V_compare_42 (lv_at hl 0 rfl) ?_
      refine lv_aload_n hx hb d_V_compare_44 rfl (lv_at hl 3 rfl) ?_
      refine lv_iload_n hx hb d_V_compare_45 rfl (lv_at hl 4 rfl) ?_
      obtain ⟨o18, ho18, h⟩ := obd_at h
      refine g_V (As := [.int v3]) (rest := [.int o16]) hx hb hml hown hts hA hK hP hD hS hE (c_V_sizeOf l D k a_t a_t_numbers a_t_texts a_t_starts t_starts_n t_ofTexts t_count t_starts v3 n o18 ho18) mw_V_sizeOf mi_V_sizeOf ml_V_41 [0, 2] rfl (by decide) rfl rfl rfl 0 rfl rfl rfl rfl rfl hl.1 rfl (Nat.le_of_ble_eq_true rfl) ⟨Nat.zero_le _, Nat.zero_le _⟩ d_V_compare_46 (fun H locs hP hD hS => ?_)
      have hP : va_P D CL [(a_t, .inr (6, [.ref a_t_numbers, .ref a_t_texts, .ref a_t_starts, .int t_ofTexts, .int t_count])), (a_t_numbers, .inl (k.2.2, t_numbers_n, .inr (.inl t_numbers))), (a_t_starts, .inl (k.2.1, t_starts_n, .inl t_starts)), (a_t_texts, .inl (k.1, t_texts_n, .inl t_texts))] H := hP
      have hD : va_D A [(a_t, .inr (6, [.ref a_t_numbers, .ref a_t_texts, .ref a_t_starts, .int t_ofTexts, .int t_count])), (a_t_numbers, .inl (k.2.2, t_numbers_n, .inr (.inl t_numbers))), (a_t_starts, .inl (k.2.1, t_starts_n, .inl t_starts)), (a_t_texts, .inl (k.1, t_texts_n, .inl t_texts))] := hD
      refine W.eq (g2 := F0 m 49 ls [.int o18, .int o16]) rfl ?_
      refine lv_icmp_ne (tgt := 66) hx hb d_V_compare_49 (by decide) (fun c => ?_) (fun c => ?_)
      · have h := iff_at h c
        refine lv_aload_n hx hb d_V_compare_66 rfl (lv_at hl 1 rfl) ?_
        refine lv_iload_n hx hb d_V_compare_67 rfl (lv_at hl 2 rfl) ?_
        refine lv_iload hx hb d_V_compare_68 (lv_at hl 0 rfl) ?_
        obtain ⟨o19, ho19, h⟩ := obd_at h
        refine g_V (As := [.int v1, .int o16]) (rest := []) hx hb hml hown hts hA hK hP hD hS hE (c_V_octetOf l D k a_t a_t_numbers a_t_texts a_t_starts t_starts_n t_texts_n t_ofTexts t_count t_starts t_texts v1 o16 n o19 ho19) mw_V_octetOf mi_V_octetOf ml_V_73 [0, 2, 3] rfl (by decide) rfl rfl rfl 0 rfl rfl rfl rfl rfl hl.1 rfl (Nat.le_of_ble_eq_true rfl) ⟨Nat.zero_le _, Nat.zero_le _⟩ d_V_compare_70 (fun H locs hP hD hS => ?_)
        have hP : va_P D CL [(a_t, .inr (6, [.ref a_t_numbers, .ref a_t_texts, .ref a_t_starts, .int t_ofTexts, .int t_count])), (a_t_numbers, .inl (k.2.2, t_numbers_n, .inr (.inl t_numbers))), (a_t_starts, .inl (k.2.1, t_starts_n, .inl t_starts)), (a_t_texts, .inl (k.1, t_texts_n, .inl t_texts))] H := hP
        have hD : va_D A [(a_t, .inr (6, [.ref a_t_numbers, .ref a_t_texts, .ref a_t_starts, .int t_ofTexts, .int t_count])), (a_t_numbers, .inl (k.2.2, t_numbers_n, .inr (.inl t_numbers))), (a_t_starts, .inl (k.2.1, t_starts_n, .inl t_starts)), (a_t_texts, .inl (k.1, t_texts_n, .inl t_texts))] := hD
        refine W.eq (g2 := F0 m 73 ls [.int o19]) rfl ?_
        refine lv_aload_n hx hb d_V_compare_73 rfl (lv_at hl 3 rfl) ?_
        refine lv_iload_n hx hb d_V_compare_74 rfl (lv_at hl 4 rfl) ?_
        refine lv_iload hx hb d_V_compare_75 (lv_at hl 0 rfl) ?_
        obtain ⟨o20, ho20, h⟩ := obd_at h
        refine g_V (As := [.int v3, .int o16]) (rest := [.int o19]) hx hb hml hown hts hA hK hP hD hS hE (c_V_octetOf l D k a_t a_t_numbers a_t_texts a_t_starts t_starts_n t_texts_n t_ofTexts t_count t_starts t_texts v3 o16 n o20 ho20) mw_V_octetOf mi_V_octetOf ml_V_73 [0, 2, 3] rfl (by decide) rfl rfl rfl 0 rfl rfl rfl rfl rfl hl.1 rfl (Nat.le_of_ble_eq_true rfl) ⟨Nat.zero_le _, Nat.zero_le _⟩ d_V_compare_77 (fun H locs hP hD hS => ?_)
        have hP : va_P D CL [(a_t, .inr (6, [.ref a_t_numbers, .ref a_t_texts, .ref a_t_starts, .int t_ofTexts, .int t_count])), (a_t_numbers, .inl (k.2.2, t_numbers_n, .inr (.inl t_numbers))), (a_t_starts, .inl (k.2.1, t_starts_n, .inl t_starts)), (a_t_texts, .inl (k.1, t_texts_n, .inl t_texts))] H := hP
        have hD : va_D A [(a_t, .inr (6, [.ref a_t_numbers, .ref a_t_texts, .ref a_t_starts, .int t_ofTexts, .int t_count])), (a_t_numbers, .inl (k.2.2, t_numbers_n, .inr (.inl t_numbers))), (a_t_starts, .inl (k.2.1, t_starts_n, .inl t_starts)), (a_t_texts, .inl (k.1, t_texts_n, .inl t_texts))] := hD
        refine W.eq (g2 := F0 m 80 ls [.int o20, .int o19]) rfl ?_
        obtain ⟨o21, ho21, h⟩ := obd_at h
        refine g_S (As := [.int o19, .int o20]) (rest := []) hx hb hml hown hts hA hK hP hD hS hE (c_JI_compare l D k o19 o20 n o21 ho21) mw_JI_compare ms_JI_compare ml_V_69 [] rfl (by decide) rfl rfl rfl rfl rfl hl.1 rfl (Nat.le_of_ble_eq_true rfl) ⟨Nat.zero_le _, Nat.zero_le _⟩ d_V_compare_80 (fun H locs hP hD hS => ?_)
        have hP : va_P D CL [(a_t, .inr (6, [.ref a_t_numbers, .ref a_t_texts, .ref a_t_starts, .int t_ofTexts, .int t_count])), (a_t_numbers, .inl (k.2.2, t_numbers_n, .inr (.inl t_numbers))), (a_t_starts, .inl (k.2.1, t_starts_n, .inl t_starts)), (a_t_texts, .inl (k.1, t_texts_n, .inl t_texts))] H := hP
        have hD : va_D A [(a_t, .inr (6, [.ref a_t_numbers, .ref a_t_texts, .ref a_t_starts, .int t_ofTexts, .int t_count])), (a_t_numbers, .inl (k.2.2, t_numbers_n, .inr (.inl t_numbers))), (a_t_starts, .inl (k.2.1, t_starts_n, .inl t_starts)), (a_t_texts, .inl (k.1, t_texts_n, .inl t_texts))] := hD
        refine W.eq (g2 := F0 m 83 ls [.int o21]) rfl ?_
        exact ret2 _ (Option.some.inj h) d_V_compare_83 hP hD hS
      · have h := ift_at h c
        exact J52  _ _ ls hP hD hS (lv_sub hl [1, 2, 3, 4] rfl) h
  · have h := ift_at h c
    refine lv_aload_n hx hb d_V_compare_7 rfl (lv_at hl 0 rfl) ?_
    refine va_get (D := D) (ci := 6) (v := .ref a_t_numbers) (C := "PageForm$Values") (T := F_V) (N := 5) hx hb hts in_V hown hK hP 0 rfl rfl 0 (by decide) (hts _ fl_V_9) (fun _ h9 => h9) rfl d_V_compare_8 ?_
    refine lv_iload_n hx hb d_V_compare_11 rfl (lv_at hl 1 rfl) ?_
    obtain ⟨g22, h⟩ := gd_at h
    refine va_lald hx hb hK hP 1 2 rfl rfl (inB_in g22) d_V_compare_12 ?_
    refine lv_aload_n hx hb d_V_compare_13 rfl (lv_at hl 2 rfl) ?_
    refine va_get (D := D) (ci := 6) (v := .ref a_t_numbers) (C := "PageForm$Values") (T := F_V) (N := 5) hx hb hts in_V hown hK hP 0 rfl rfl 0 (by decide) (hts _ fl_V_9) (fun _ h9 => h9) rfl d_V_compare_14 ?_
    refine lv_iload_n hx hb d_V_compare_17 rfl (lv_at hl 3 rfl) ?_
    obtain ⟨g23, h⟩ := gd_at h
    refine va_lald hx hb hK hP 1 2 rfl rfl (inB_in g23) d_V_compare_18 ?_
    obtain ⟨o24, ho24, h⟩ := obd_at h
    refine g_S (As := [.long (t_numbers v1.toNatClampNeg), .long (t_numbers v3.toNatClampNeg)]) (rest := []) hx hb hml hown hts hA hK hP hD hS hE (c_JL_compare l D k (t_numbers v1.toNatClampNeg) (t_numbers v3.toNatClampNeg) n o24 ho24) mw_JL_compare ms_JL_compare ml_V_59 [] rfl (by decide) rfl rfl rfl rfl rfl hl.1 rfl (Nat.le_of_ble_eq_true rfl) ⟨Nat.zero_le _, Nat.zero_le _⟩ d_V_compare_19 (fun H locs hP hD hS => ?_)
    have hP : va_P D CL [(a_t, .inr (6, [.ref a_t_numbers, .ref a_t_texts, .ref a_t_starts, .int t_ofTexts, .int t_count])), (a_t_numbers, .inl (k.2.2, t_numbers_n, .inr (.inl t_numbers))), (a_t_starts, .inl (k.2.1, t_starts_n, .inl t_starts)), (a_t_texts, .inl (k.1, t_texts_n, .inl t_texts))] H := hP
    have hD : va_D A [(a_t, .inr (6, [.ref a_t_numbers, .ref a_t_texts, .ref a_t_starts, .int t_ofTexts, .int t_count])), (a_t_numbers, .inl (k.2.2, t_numbers_n, .inr (.inl t_numbers))), (a_t_starts, .inl (k.2.1, t_starts_n, .inl t_starts)), (a_t_texts, .inl (k.1, t_texts_n, .inl t_texts))] := hD
    refine W.eq (g2 := F0 m 22 ls [.int o24]) rfl ?_
    exact ret2 _ (Option.some.inj h) d_V_compare_22 hP hD hS

def rm_V_firstMost : Room := { frames := 3, cells := 0, slots := 0, locals := 89 }
def f_V_firstMost_l13 (n : Nat) (t_numbers_n : Nat) (t_starts_n : Nat) (t_texts_n : Nat) (t_ofTexts : Int32) (t_count : Int32) (t_numbers : Nat → Int64) (t_starts : Nat → Int32) (t_texts : Nat → Int32) (v1 : Int32) (v2 : Int32) (v3 : Int32) : Option ((Int32 × Int32) ⊕ ((Int32))) :=
  (if t_count ≤ v3 then some (Sum.inr (v2)) else Option.bind (f_V_compare_00 n t_numbers_n t_starts_n t_texts_n t_ofTexts t_numbers t_starts t_texts v3 v2) (fun o3 => (if v1 = 0 then (if 0 ≤ o3 then bnd (v3 + (1 : Int32)) (fun x4 => some (Sum.inl (v2, x4))) else bnd (v3 + (1 : Int32)) (fun x6 => some (Sum.inl (v3, x6)))) else (if o3 ≤ 0 then bnd (v3 + (1 : Int32)) (fun x8 => some (Sum.inl (v2, x8))) else bnd (v3 + (1 : Int32)) (fun x10 => some (Sum.inl (v3, x10)))))))
def f_V_firstMost (n : Nat) (t_numbers_n : Nat) (t_starts_n : Nat) (t_texts_n : Nat) (t_ofTexts : Int32) (t_count : Int32) (t_numbers : Nat → Int64) (t_starts : Nat → Int32) (t_texts : Nat → Int32) (v1 : Int32) : Option (Int32) :=
  (if t_count = 0 then some (-1 : Int32) else Option.bind (lp (fun v => f_V_firstMost_l13 n t_numbers_n t_starts_n t_texts_n t_ofTexts t_count t_numbers t_starts t_texts v1 v.1 v.2) n ((0 : Int32), (1 : Int32))) (fun o => some o))
set_option maxHeartbeats 4000000 in
set_option maxRecDepth 100000 in
theorem c_V_firstMost (l : Launch) (D : va_G) (k : ClassId × ClassId × ClassId) (a_t a_t_numbers a_t_texts a_t_starts : Nat) (t_numbers_n t_starts_n t_texts_n : Nat) (t_ofTexts : Int32) (t_count : Int32) (t_numbers : Nat → Int64) (t_starts : Nat → Int32) (t_texts : Nat → Int32) (v1 : Int32) (n : Nat) (out : Int32) (h : f_V_firstMost n t_numbers_n t_starts_n t_texts_n t_ofTexts t_count t_numbers t_starts t_texts v1 = some out) : Ct l D k y_V_firstMost b_V_firstMost 5 (some .int) rm_V_firstMost [.ref a_t, .int v1] [(a_t, .inr (6, [.ref a_t_numbers, .ref a_t_texts, .ref a_t_starts, .int t_ofTexts, .int t_count])), (a_t_numbers, .inl (k.2.2, t_numbers_n, .inr (.inl t_numbers))), (a_t_starts, .inl (k.2.1, t_starts_n, .inl t_starts)), (a_t_texts, .inl (k.1, t_texts_n, .inl t_texts))] [(a_t, .inr (6, [.ref a_t_numbers, .ref a_t_texts, .ref a_t_starts, .int t_ofTexts, .int t_count])), (a_t_numbers, .inl (k.2.2, t_numbers_n, .inr (.inl t_numbers))), (a_t_starts, .inl (k.2.1, t_starts_n, .inl t_starts)), (a_t_texts, .inl (k.1, t_texts_n, .inl t_texts))] (some (.int out)) := by
  refine Ct.ofI (by decide) (Nat.le_of_ble_eq_true rfl) ?_
  intro p e s m args below meth c A Q ls hx hb hml hown hts hA hK hP hD hS hE hl ret
  have hown : s.vm.findClass "PageForm$Values" = some m.cls := hown
  have hl : lv_has ls 5 [(0, .ref a_t), (1, .int v1)] := hl
  have ret2 : ∀ (y0 : Int32) (_ : y0 = out) {pc : Nat} {ls : Array Slot} {H : Heap} {locs : List Loc}, decode b_V_firstMost pc = .ok (.ireturn, 1) → va_P D CL [(a_t, .inr (6, [.ref a_t_numbers, .ref a_t_texts, .ref a_t_starts, .int t_ofTexts, .int t_count])), (a_t_numbers, .inl (k.2.2, t_numbers_n, .inr (.inl t_numbers))), (a_t_starts, .inl (k.2.1, t_starts_n, .inl t_starts)), (a_t_texts, .inl (k.1, t_texts_n, .inl t_texts))] H → va_D A [(a_t, .inr (6, [.ref a_t_numbers, .ref a_t_texts, .ref a_t_starts, .int t_ofTexts, .int t_count])), (a_t_numbers, .inl (k.2.2, t_numbers_n, .inr (.inl t_numbers))), (a_t_starts, .inl (k.2.1, t_starts_n, .inl t_starts)), (a_t_texts, .inl (k.1, t_texts_n, .inl t_texts))] → va_S A s.heap H locs → W p l e rm_V_firstMost s m args below meth c H locs 0 0 Q (F0 m pc ls [.int y0]) := by
    intro y0 e0; subst e0; exact ret
  clear ret
  have L13 : ∀ (K : Nat) (v2 : Int32) (v3 : Int32) (o : (Int32)) (H : Heap) (locs : List Loc) (ls : Array Slot), va_P D CL [(a_t, .inr (6, [.ref a_t_numbers, .ref a_t_texts, .ref a_t_starts, .int t_ofTexts, .int t_count])), (a_t_numbers, .inl (k.2.2, t_numbers_n, .inr (.inl t_numbers))), (a_t_starts, .inl (k.2.1, t_starts_n, .inl t_starts)), (a_t_texts, .inl (k.1, t_texts_n, .inl t_texts))] H → va_D A [(a_t, .inr (6, [.ref a_t_numbers, .ref a_t_texts, .ref a_t_starts, .int t_ofTexts, .int t_count])), (a_t_numbers, .inl (k.2.2, t_numbers_n, .inr (.inl t_numbers))), (a_t_starts, .inl (k.2.1, t_starts_n, .inl t_starts)), (a_t_texts, .inl (k.1, t_texts_n, .inl t_texts))] → va_S A s.heap H locs → lv_has ls 5 [(0, .ref a_t), (1, .int v1), (2, .int v2), (3, .int v3)] → lp (fun v => f_V_firstMost_l13 n t_numbers_n t_starts_n t_texts_n t_ofTexts t_count t_numbers t_starts t_texts v1 v.1 v.2) K (v2, v3) = some o → (fun o => some o) o = some out → W p l e rm_V_firstMost s m args below meth c H locs 0 0 Q (F0 m 13 ls []) := by
    intro K
    induction K with
    | zero => intros; exact absurd (by assumption) lp_no
    | succ K ih13 =>
      intro v2 v3 o H locs ls hP hD hS hl h0 hx13
      obtain ⟨b13, h, hc13⟩ := lp_at h0
      have h : f_V_firstMost_l13 n t_numbers_n t_starts_n t_texts_n t_ofTexts t_count t_numbers t_starts t_texts v1 v2 v3 = some b13 := h
      unfold f_V_firstMost_l13 at h
      refine lv_iload_n hx hb d_V_firstMost_13 rfl (lv_at hl 3 rfl) ?_
      refine lv_aload_n hx hb d_V_firstMost_14 rfl (lv_at hl 0 rfl) ?_
      refine va_get (D := D) (ci := 6) (v := .int t_count) (C := "PageForm$Values") (T := F_V) (N := 5) hx hb hts in_V hown hK hP 0 rfl rfl 4 (by decide) (hts _ fl_V_27) (fun _ h9 => h9) rfl d_V_firstMost_15 ?_
      refine lv_icmp_ge (tgt := 55) hx hb d_V_firstMost_18 (by decide) (fun c => ?_) (fun c => ?_)
      · have h := ift_at h c
        refine lv_iload_n hx hb d_V_firstMost_55 rfl (lv_at hl 2 rfl) ?_
        obtain rfl := lp_out h hc13
        exact ret2 _ (Option.some.inj hx13) d_V_firstMost_56 hP hD hS
      · have h := iff_at h c
        refine lv_aload_n hx hb d_V_firstMost_21 rfl (lv_at hl 0 rfl) ?_
        refine lv_iload_n hx hb d_V_firstMost_22 rfl (lv_at hl 3 rfl) ?_
        refine lv_aload_n hx hb d_V_firstMost_23 rfl (lv_at hl 0 rfl) ?_
        refine lv_iload_n hx hb d_V_firstMost_24 rfl (lv_at hl 2 rfl) ?_
        obtain ⟨o3, ho3, h⟩ := obd_at h
        refine g_V (As := [.int v3, .ref a_t, .int v2]) (rest := []) hx hb hml hown hts hA hK hP hD hS hE (c_V_compare_00 l D k a_t a_t_numbers a_t_texts a_t_starts t_numbers_n t_starts_n t_texts_n t_ofTexts t_count t_numbers t_starts t_texts v3 v2 n o3 ho3) mw_V_compare mi_V_compare ml_V_76 [0, 1, 2, 3] rfl (by decide) rfl rfl rfl 0 rfl rfl rfl rfl rfl hl.1 rfl (Nat.le_of_ble_eq_true rfl) ⟨Nat.zero_le _, Nat.zero_le _⟩ d_V_firstMost_25 (fun H locs hP hD hS => ?_)
        have hP : va_P D CL [(a_t, .inr (6, [.ref a_t_numbers, .ref a_t_texts, .ref a_t_starts, .int t_ofTexts, .int t_count])), (a_t_numbers, .inl (k.2.2, t_numbers_n, .inr (.inl t_numbers))), (a_t_starts, .inl (k.2.1, t_starts_n, .inl t_starts)), (a_t_texts, .inl (k.1, t_texts_n, .inl t_texts))] H := hP
        have hD : va_D A [(a_t, .inr (6, [.ref a_t_numbers, .ref a_t_texts, .ref a_t_starts, .int t_ofTexts, .int t_count])), (a_t_numbers, .inl (k.2.2, t_numbers_n, .inr (.inl t_numbers))), (a_t_starts, .inl (k.2.1, t_starts_n, .inl t_starts)), (a_t_texts, .inl (k.1, t_texts_n, .inl t_texts))] := hD
        refine W.eq (g2 := F0 m 28 ls [.int o3]) rfl ?_
        refine lv_istore (lv' := [(4, .int o3), (0, .ref a_t), (1, .int v1), (2, .int v2), (3, .int v3)]) hx hb d_V_firstMost_28 hl (by decide) rfl (fun ls hl => ?_)
        refine lv_iload_n hx hb d_V_firstMost_30 rfl (lv_at hl 2 rfl) ?_
        refine lv_if_eq (tgt := 42) hx hb d_V_firstMost_31 (by decide) (fun c => ?_) (fun c => ?_)
        · have h := ift_at h c
          refine lv_iload hx hb d_V_firstMost_42 (lv_at hl 0 rfl) ?_
          refine lv_if_ge (tgt := 49) hx hb d_V_firstMost_44 (by decide) (fun c => ?_) (fun c => ?_)
          · have h := ift_at h c
            obtain ⟨x4, ex4⟩ : ∃ z : Int32, z = v3 + (1 : Int32) := ⟨_, rfl⟩
            have h := bnd_at h ex4
            refine lv_iinc (v := x4) (lv' := [(3, .int x4), (4, .int o3), (0, .ref a_t), (1, .int v1), (2, .int v2)]) hx hb d_V_firstMost_49 hl (k := 4) rfl (by rw [ex4]; rfl) (by decide) rfl (fun ls hl => ?_)
            refine lv_goto (tgt := 13) hx hb d_V_firstMost_52 (by decide) ?_
            have h := lp_go h hc13
            exact ih13 v2 x4 o _ _ ls hP hD hS (lv_sub hl [2, 3, 4, 0] rfl) h hx13
          · have h := iff_at h c
            refine lv_iload_n hx hb d_V_firstMost_47 rfl (lv_at hl 4 rfl) ?_
            refine lv_istore_n (lv' := [(2, .int v3), (4, .int o3), (0, .ref a_t), (1, .int v1), (3, .int v3)]) hx hb d_V_firstMost_48 rfl hl (by decide) rfl (fun ls hl => ?_)
            obtain ⟨x6, ex6⟩ : ∃ z : Int32, z = v3 + (1 : Int32) := ⟨_, rfl⟩
            have h := bnd_at h ex6
            refine lv_iinc (v := x6) (lv' := [(3, .int x6), (2, .int v3), (4, .int o3), (0, .ref a_t), (1, .int v1)]) hx hb d_V_firstMost_49 hl (k := 4) rfl (by rw [ex6]; rfl) (by decide) rfl (fun ls hl => ?_)
            refine lv_goto (tgt := 13) hx hb d_V_firstMost_52 (by decide) ?_
            have h := lp_go h hc13
            exact ih13 v3 x6 o _ _ ls hP hD hS (lv_sub hl [3, 4, 1, 0] rfl) h hx13
        · have h := iff_at h c
          refine lv_iload hx hb d_V_firstMost_34 (lv_at hl 0 rfl) ?_
          refine lv_if_le (tgt := 49) hx hb d_V_firstMost_36 (by decide) (fun c => ?_) (fun c => ?_)
          · have h := ift_at h c
            obtain ⟨x8, ex8⟩ : ∃ z : Int32, z = v3 + (1 : Int32) := ⟨_, rfl⟩
            have h := bnd_at h ex8
            refine lv_iinc (v := x8) (lv' := [(3, .int x8), (4, .int o3), (0, .ref a_t), (1, .int v1), (2, .int v2)]) hx hb d_V_firstMost_49 hl (k := 4) rfl (by rw [ex8]; rfl) (by decide) rfl (fun ls hl => ?_)
            refine lv_goto (tgt := 13) hx hb d_V_firstMost_52 (by decide) ?_
            have h := lp_go h hc13
            exact ih13 v2 x8 o _ _ ls hP hD hS (lv_sub hl [2, 3, 4, 0] rfl) h hx13
          · have h := iff_at h c
            refine lv_goto (tgt := 47) hx hb d_V_firstMost_39 (by decide) ?_
            refine lv_iload_n hx hb d_V_firstMost_47 rfl (lv_at hl 4 rfl) ?_
            refine lv_istore_n (lv' := [(2, .int v3), (4, .int o3), (0, .ref a_t), (1, .int v1), (3, .int v3)]) hx hb d_V_firstMost_48 rfl hl (by decide) rfl (fun ls hl => ?_)
            obtain ⟨x10, ex10⟩ : ∃ z : Int32, z = v3 + (1 : Int32) := ⟨_, rfl⟩
            have h := bnd_at h ex10
            refine lv_iinc (v := x10) (lv' := [(3, .int x10), (2, .int v3), (4, .int o3), (0, .ref a_t), (1, .int v1)]) hx hb d_V_firstMost_49 hl (k := 4) rfl (by rw [ex10]; rfl) (by decide) rfl (fun ls hl => ?_)
            refine lv_goto (tgt := 13) hx hb d_V_firstMost_52 (by decide) ?_
            have h := lp_go h hc13
            exact ih13 v3 x10 o _ _ ls hP hD hS (lv_sub hl [3, 4, 1, 0] rfl) h hx13
  unfold f_V_firstMost at h
  refine lv_aload_n hx hb d_V_firstMost_0 rfl (lv_at hl 0 rfl) ?_
  refine va_get (D := D) (ci := 6) (v := .int t_count) (C := "PageForm$Values") (T := F_V) (N := 5) hx hb hts in_V hown hK hP 0 rfl rfl 4 (by decide) (hts _ fl_V_27) (fun _ h9 => h9) rfl d_V_firstMost_1 ?_
  refine lv_if_ne (tgt := 9) hx hb d_V_firstMost_4 (by decide) (fun c => ?_) (fun c => ?_)
  · have h := iff_at h c
    refine lv_iconst (v := 0) hx hb d_V_firstMost_9 (by decide) ?_
    refine lv_istore_n (lv' := [(2, .int (0 : Int32)), (0, .ref a_t), (1, .int v1)]) hx hb d_V_firstMost_10 rfl hl (by decide) rfl (fun ls hl => ?_)
    refine lv_iconst (v := 1) hx hb d_V_firstMost_11 (by decide) ?_
    refine lv_istore_n (lv' := [(3, .int (1 : Int32)), (2, .int (0 : Int32)), (0, .ref a_t), (1, .int v1)]) hx hb d_V_firstMost_12 rfl hl (by decide) rfl (fun ls hl => ?_)
    obtain ⟨o16, ho16, h⟩ := obd_at h
    exact L13 n (0 : Int32) (1 : Int32) o16 _ _ ls hP hD hS (lv_sub hl [2, 3, 1, 0] rfl) ho16 h
  · have h := ift_at h c
    refine lv_iconst (v := (-1)) hx hb d_V_firstMost_7 (by decide) ?_
    exact ret2 _ (Option.some.inj h) d_V_firstMost_8 hP hD hS

