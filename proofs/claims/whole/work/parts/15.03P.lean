def rm_P_makeEmpty : Room := { frames := 1, cells := 0, slots := 0, locals := 21 }
def f_P_makeEmpty_j27 (t_entries : Int32) (t_valued : Int32) (k0 : Int32) : Option (Int32 × Int32 × Int32 × Int32) :=
  Option.bind (f_V_makeEmpty k0) (fun o2 => some (t_entries, t_valued, o2.1, o2.2))
def f_P_makeEmpty (p1_type : Int32) : Option (Int32 × Int32 × Int32 × Int32) :=
  (if p1_type = (3 : Int32) then f_P_makeEmpty_j27 (0 : Int32) (0 : Int32) (1 : Int32) else f_P_makeEmpty_j27 (0 : Int32) (0 : Int32) (0 : Int32))
set_option maxHeartbeats 4000000 in
set_option maxRecDepth 100000 in
theorem c_P_makeEmpty (l : Launch) (D : va_G) (k : ClassId × ClassId × ClassId) (a_t a_t_repetitions a_t_definitions a_t_valueNumbers a_t_values a_t_values_numbers a_t_values_texts a_t_values_starts a_p1 : Nat) (t_entries : Int32) (t_valued : Int32) (t_values_ofTexts : Int32) (t_values_count : Int32) (p1_type : Int32) (p1_mostR : Int32) (p1_mostD : Int32) (n : Nat) (out : Int32 × Int32 × Int32 × Int32) (h : f_P_makeEmpty p1_type = some out) : Ct l D k y_P_makeEmpty b_P_makeEmpty 2 none rm_P_makeEmpty [.ref a_t, .ref a_p1] [(a_t, .inr (3, [.ref a_t_repetitions, .ref a_t_definitions, .ref a_t_valueNumbers, .ref a_t_values, .int t_entries, .int t_valued])), (a_t_values, .inr (6, [.ref a_t_values_numbers, .ref a_t_values_texts, .ref a_t_values_starts, .int t_values_ofTexts, .int t_values_count])), (a_p1, .inr (1, [.int p1_type, .int p1_mostR, .int p1_mostD]))] [(a_t, .inr (3, [.ref a_t_repetitions, .ref a_t_definitions, .ref a_t_valueNumbers, .ref a_t_values, .int out.1, .int out.2.1])), (a_t_values, .inr (6, [.ref a_t_values_numbers, .ref a_t_values_texts, .ref a_t_values_starts, .int out.2.2.1, .int out.2.2.2])), (a_p1, .inr (1, [.int p1_type, .int p1_mostR, .int p1_mostD]))] none := by
  refine Ct.ofV (by decide) (Nat.le_of_ble_eq_true rfl) ?_
  intro p e s m args below meth c A Q ls hx hb hml hown hts hA hK hP hD hS hE hl ret
  have hown : s.vm.findClass "PageForm$Page" = some m.cls := hown
  have hl : lv_has ls 2 [(0, .ref a_t), (1, .ref a_p1)] := hl
  have ret2 : ∀ (y0 : Int32) (y1 : Int32) (y2 : Int32) (y3 : Int32) (_ : (y0, y1, y2, y3) = out) {pc : Nat} {ls : Array Slot} {H : Heap} {locs : List Loc}, decode b_P_makeEmpty pc = .ok (.return_, 1) → va_P D CL [(a_t, .inr (3, [.ref a_t_repetitions, .ref a_t_definitions, .ref a_t_valueNumbers, .ref a_t_values, .int y0, .int y1])), (a_t_values, .inr (6, [.ref a_t_values_numbers, .ref a_t_values_texts, .ref a_t_values_starts, .int y2, .int y3])), (a_p1, .inr (1, [.int p1_type, .int p1_mostR, .int p1_mostD]))] H → va_D A [(a_t, .inr (3, [.ref a_t_repetitions, .ref a_t_definitions, .ref a_t_valueNumbers, .ref a_t_values, .int y0, .int y1])), (a_t_values, .inr (6, [.ref a_t_values_numbers, .ref a_t_values_texts, .ref a_t_values_starts, .int y2, .int y3])), (a_p1, .inr (1, [.int p1_type, .int p1_mostR, .int p1_mostD]))] → va_S A s.heap H locs → W p l e rm_P_makeEmpty s m args below meth c H locs 0 0 Q (F0 m pc ls []) := by
    intro y0 y1 y2 y3 e0; subst e0; exact ret
  clear ret
  have J27 : ∀ (t_entries : Int32) (t_valued : Int32) (t_values_ofTexts : Int32) (t_values_count : Int32) (k0 : Int32) (H : Heap) (locs : List Loc) (ls : Array Slot), va_P D CL [(a_t, .inr (3, [.ref a_t_repetitions, .ref a_t_definitions, .ref a_t_valueNumbers, .ref a_t_values, .int t_entries, .int t_valued])), (a_t_values, .inr (6, [.ref a_t_values_numbers, .ref a_t_values_texts, .ref a_t_values_starts, .int t_values_ofTexts, .int t_values_count])), (a_p1, .inr (1, [.int p1_type, .int p1_mostR, .int p1_mostD]))] H → va_D A [(a_t, .inr (3, [.ref a_t_repetitions, .ref a_t_definitions, .ref a_t_valueNumbers, .ref a_t_values, .int t_entries, .int t_valued])), (a_t_values, .inr (6, [.ref a_t_values_numbers, .ref a_t_values_texts, .ref a_t_values_starts, .int t_values_ofTexts, .int t_values_count])), (a_p1, .inr (1, [.int p1_type, .int p1_mostR, .int p1_mostD]))] → va_S A s.heap H locs → lv_has ls 2 [] → f_P_makeEmpty_j27 t_entries t_valued k0 = some out → W p l e rm_P_makeEmpty s m args below meth c H locs 0 0 Q (F0 m 27 ls [.int k0, .ref a_t_values]) := by
    intro t_entries t_valued t_values_ofTexts t_values_count k0 H locs ls hP hD hS hl h
    unfold f_P_makeEmpty_j27 at h
    obtain ⟨o2, ho2, h⟩ := obd_at h
    refine g_V (As := [.int k0]) (rest := []) hx hb hml hown hts hA hK hP hD hS hE (c_V_makeEmpty l D k a_t_values a_t_values_numbers a_t_values_texts a_t_values_starts t_values_ofTexts t_values_count k0 n o2 ho2) mw_V_makeEmpty mi_V_makeEmpty ml_P_43 [1] rfl (by decide) rfl rfl rfl 0 rfl rfl rfl rfl rfl hl.1 rfl (Nat.le_of_ble_eq_true rfl) ⟨Nat.zero_le _, Nat.zero_le _⟩ d_P_makeEmpty_27 (fun H locs hP hD hS => ?_)
    have hP : va_P D CL [(a_t, .inr (3, [.ref a_t_repetitions, .ref a_t_definitions, .ref a_t_valueNumbers, .ref a_t_values, .int t_entries, .int t_valued])), (a_t_values, .inr (6, [.ref a_t_values_numbers, .ref a_t_values_texts, .ref a_t_values_starts, .int o2.1, .int o2.2])), (a_p1, .inr (1, [.int p1_type, .int p1_mostR, .int p1_mostD]))] H := hP
    have hD : va_D A [(a_t, .inr (3, [.ref a_t_repetitions, .ref a_t_definitions, .ref a_t_valueNumbers, .ref a_t_values, .int t_entries, .int t_valued])), (a_t_values, .inr (6, [.ref a_t_values_numbers, .ref a_t_values_texts, .ref a_t_values_starts, .int o2.1, .int o2.2])), (a_p1, .inr (1, [.int p1_type, .int p1_mostR, .int p1_mostD]))] := hD
    refine W.eq (g2 := F0 m 30 ls []) rfl ?_
    exact ret2 _ _ _ _ (Option.some.inj h) d_P_makeEmpty_30 hP hD hS
  unfold f_P_makeEmpty at h
  refine lv_aload_n hx hb d_P_makeEmpty_0 rfl (lv_at hl 0 rfl) ?_
  refine lv_iconst (v := 0) hx hb d_P_makeEmpty_1 (by decide) ?_
  refine va_put (D := D) (ci := 3) (v := .int (0 : Int32)) (ty := .int) (C := "PageForm$Page") (T := F_P) (N := 6) hx hb hts in_P t_P t_P_ok n_P hown hK hP hD hS 0 rfl rfl 4 (by decide) (hts _ fl_P_31) (fun _ h9 => h9) rfl (by decide +kernel) rfl rfl (Nat.le_of_ble_eq_true rfl) d_P_makeEmpty_2 (fun H locs hP hD hS => ?_)
  have hP : va_P D CL [(a_t, .inr (3, [.ref a_t_repetitions, .ref a_t_definitions, .ref a_t_valueNumbers, .ref a_t_values, .int (0 : Int32), .int t_valued])), (a_t_values, .inr (6, [.ref a_t_values_numbers, .ref a_t_values_texts, .ref a_t_values_starts, .int t_values_ofTexts, .int t_values_count])), (a_p1, .inr (1, [.int p1_type, .int p1_mostR, .int p1_mostD]))] H := hP
  have hD : va_D A [(a_t, .inr (3, [.ref a_t_repetitions, .ref a_t_definitions, .ref a_t_valueNumbers, .ref a_t_values, .int (0 : Int32), .int t_valued])), (a_t_values, .inr (6, [.ref a_t_values_numbers, .ref a_t_values_texts, .ref a_t_values_starts, .int t_values_ofTexts, .int t_values_count])), (a_p1, .inr (1, [.int p1_type, .int p1_mostR, .int p1_mostD]))] := hD
  refine lv_aload_n hx hb d_P_makeEmpty_5 rfl (lv_at hl 0 rfl) ?_
  refine lv_iconst (v := 0) hx hb d_P_makeEmpty_6 (by decide) ?_
  refine va_put (D := D) (ci := 3) (v := .int (0 : Int32)) (ty := .int) (C := "PageForm$Page") (T := F_P) (N := 6) hx hb hts in_P t_P t_P_ok n_P hown hK hP hD hS 0 rfl rfl 5 (by decide) (hts _ fl_P_35) (fun _ h9 => h9) rfl (by decide +kernel) rfl rfl (Nat.le_of_ble_eq_true rfl) d_P_makeEmpty_7 (fun H locs hP hD hS => ?_)
  have hP : va_P D CL [(a_t, .inr (3, [.ref a_t_repetitions, .ref a_t_definitions, .ref a_t_valueNumbers, .ref a_t_values, .int (0 : Int32), .int (0 : Int32)])), (a_t_values, .inr (6, [.ref a_t_values_numbers, .ref a_t_values_texts, .ref a_t_values_starts, .int t_values_ofTexts, .int t_values_count])), (a_p1, .inr (1, [.int p1_type, .int p1_mostR, .int p1_mostD]))] H := hP
  have hD : va_D A [(a_t, .inr (3, [.ref a_t_repetitions, .ref a_t_definitions, .ref a_t_valueNumbers, .ref a_t_values, .int (0 : Int32), .int (0 : Int32)])), (a_t_values, .inr (6, [.ref a_t_values_numbers, .ref a_t_values_texts, .ref a_t_values_starts, .int t_values_ofTexts, .int t_values_count])), (a_p1, .inr (1, [.int p1_type, .int p1_mostR, .int p1_mostD]))] := hD
  refine lv_aload_n hx hb d_P_makeEmpty_10 rfl (lv_at hl 0 rfl) ?_
  refine va_get (D := D) (ci := 3) (v := .ref a_t_values) (C := "PageForm$Page") (T := F_P) (N := 6) hx hb hts in_P hown hK hP 0 rfl rfl 3 (by decide) (hts _ fl_P_27) (fun _ h9 => h9) rfl d_P_makeEmpty_11 ?_
  refine lv_aload_n hx hb d_P_makeEmpty_14 rfl (lv_at hl 1 rfl) ?_
  refine va_get (D := D) (ci := 1) (v := .int p1_type) (C := "PageForm$Column") (T := F_C) (N := 3) hx hb hts in_C hown hK hP 2 rfl rfl 0 (by decide) (hts _ fl_P_38) (fun _ h9 => h9) rfl d_P_makeEmpty_15 ?_
  refine lv_iconst (v := 3) hx hb d_P_makeEmpty_18 (by decide) ?_
  refine lv_icmp_ne (tgt := 26) hx hb d_P_makeEmpty_19 (by decide) (fun c => ?_) (fun c => ?_)
  · have h := iff_at h c
    refine lv_iconst (v := 0) hx hb d_P_makeEmpty_26 (by decide) ?_
    exact J27 (0 : Int32) (0 : Int32) t_values_ofTexts t_values_count (0 : Int32) _ _ ls hP hD hS (lv_sub hl [] rfl) h
  · have h := ift_at h c
    refine lv_iconst (v := 1) hx hb d_P_makeEmpty_22 (by decide) ?_
    refine lv_goto (tgt := 27) hx hb d_P_makeEmpty_23 (by decide) ?_
    exact J27 (0 : Int32) (0 : Int32) t_values_ofTexts t_values_count (1 : Int32) _ _ ls hP hD hS (lv_sub hl [] rfl) h

def rm_P_addLevels : Room := { frames := 0, cells := 0, slots := 0, locals := 0 }
def f_P_addLevels_j53 (t_valueNumbers_n : Nat) (t_entries : Int32) (t_valued : Int32) (t_definitions : Nat → Int32) (t_repetitions : Nat → Int32) (t_valueNumbers : Nat → Int32) (v3 : Int32) (k0 : Int32) (k1 : Int32) : Option (Int32 × Int32 × (Nat → Int32) × (Nat → Int32) × (Nat → Int32)) :=
  gd (inB k1 t_valueNumbers_n) (bnd (t_entries + (1 : Int32)) (fun x5 => (if v3 = 0 then some (x5, t_valued, t_definitions, t_repetitions, upd t_valueNumbers k1.toNatClampNeg k0) else bnd (t_valued + (1 : Int32)) (fun x6 => some (x5, x6, t_definitions, t_repetitions, upd t_valueNumbers k1.toNatClampNeg k0)))))
def f_P_addLevels (t_definitions_n : Nat) (t_repetitions_n : Nat) (t_valueNumbers_n : Nat) (t_entries : Int32) (t_valued : Int32) (t_definitions : Nat → Int32) (t_repetitions : Nat → Int32) (t_valueNumbers : Nat → Int32) (v1 : Int32) (v2 : Int32) (v3 : Int32) : Option (Int32 × Int32 × (Nat → Int32) × (Nat → Int32) × (Nat → Int32)) :=
  (if t_entries < (1000 : Int32) then gd (inB t_entries t_repetitions_n) (gd (inB t_entries t_definitions_n) ((if v3 = 0 then f_P_addLevels_j53 t_valueNumbers_n t_entries t_valued (upd t_definitions t_entries.toNatClampNeg (vp_nar .byte v2.toInt8.toInt32)) (upd t_repetitions t_entries.toNatClampNeg (vp_nar .byte v1.toInt8.toInt32)) t_valueNumbers v3 (-1 : Int32) t_entries else f_P_addLevels_j53 t_valueNumbers_n t_entries t_valued (upd t_definitions t_entries.toNatClampNeg (vp_nar .byte v2.toInt8.toInt32)) (upd t_repetitions t_entries.toNatClampNeg (vp_nar .byte v1.toInt8.toInt32)) t_valueNumbers v3 t_valued t_entries))) else some (t_entries, t_valued, t_definitions, t_repetitions, t_valueNumbers))
set_option maxHeartbeats 4000000 in
set_option maxRecDepth 100000 in
theorem c_P_addLevels (l : Launch) (D : va_G) (k : ClassId × ClassId × ClassId) (a_t a_t_repetitions a_t_definitions a_t_valueNumbers a_t_values : Nat) (t_definitions_n t_repetitions_n t_valueNumbers_n : Nat) (t_entries : Int32) (t_valued : Int32) (t_definitions : Nat → Int32) (t_repetitions : Nat → Int32) (t_valueNumbers : Nat → Int32) (v1 : Int32) (v2 : Int32) (v3 : Int32) (n : Nat) (out : Int32 × Int32 × (Nat → Int32) × (Nat → Int32) × (Nat → Int32)) (h : f_P_addLevels t_definitions_n t_repetitions_n t_valueNumbers_n t_entries t_valued t_definitions t_repetitions t_valueNumbers v1 v2 v3 = some out) : Ct l D k y_P_addLevels b_P_addLevels 4 none rm_P_addLevels [.ref a_t, .int v1, .int v2, .int v3] [(a_t, .inr (3, [.ref a_t_repetitions, .ref a_t_definitions, .ref a_t_valueNumbers, .ref a_t_values, .int t_entries, .int t_valued])), (a_t_definitions, .inl (k.1, t_definitions_n, .inl t_definitions)), (a_t_repetitions, .inl (k.1, t_repetitions_n, .inl t_repetitions)), (a_t_valueNumbers, .inl (k.2.1, t_valueNumbers_n, .inl t_valueNumbers))] [(a_t, .inr (3, [.ref a_t_repetitions, .ref a_t_definitions, .ref a_t_valueNumbers, .ref a_t_values, .int out.1, .int out.2.1])), (a_t_definitions, .inl (k.1, t_definitions_n, .inl out.2.2.1)), (a_t_repetitions, .inl (k.1, t_repetitions_n, .inl out.2.2.2.1)), (a_t_valueNumbers, .inl (k.2.1, t_valueNumbers_n, .inl out.2.2.2.2))] none := by
  refine Ct.ofV (by decide) (Nat.le_of_ble_eq_true rfl) ?_
  intro p e s m args below meth c A Q ls hx hb hml hown hts hA hK hP hD hS hE hl ret
  have hown : s.vm.findClass "PageForm$Page" = some m.cls := hown
  have hl : lv_has ls 4 [(0, .ref a_t), (1, .int v1), (2, .int v2), (3, .int v3)] := hl
  have ret2 : ∀ (y0 : Int32) (y1 : Int32) (y2 : Nat → Int32) (y3 : Nat → Int32) (y4 : Nat → Int32) (_ : (y0, y1, y2, y3, y4) = out) {pc : Nat} {ls : Array Slot} {H : Heap} {locs : List Loc}, decode b_P_addLevels pc = .ok (.return_, 1) → va_P D CL [(a_t, .inr (3, [.ref a_t_repetitions, .ref a_t_definitions, .ref a_t_valueNumbers, .ref a_t_values, .int y0, .int y1])), (a_t_definitions, .inl (k.1, t_definitions_n, .inl y2)), (a_t_repetitions, .inl (k.1, t_repetitions_n, .inl y3)), (a_t_valueNumbers, .inl (k.2.1, t_valueNumbers_n, .inl y4))] H → va_D A [(a_t, .inr (3, [.ref a_t_repetitions, .ref a_t_definitions, .ref a_t_valueNumbers, .ref a_t_values, .int y0, .int y1])), (a_t_definitions, .inl (k.1, t_definitions_n, .inl y2)), (a_t_repetitions, .inl (k.1, t_repetitions_n, .inl y3)), (a_t_valueNumbers, .inl (k.2.1, t_valueNumbers_n, .inl y4))] → va_S A s.heap H locs → W p l e rm_P_addLevels s m args below meth c H locs 0 0 Q (F0 m pc ls []) := by
    intro y0 y1 y2 y3 y4 e0; subst e0; exact ret
  clear ret
  have J53 : ∀ (t_entries : Int32) (t_valued : Int32) (t_definitions : Nat → Int32) (t_repetitions : Nat → Int32) (t_valueNumbers : Nat → Int32) (k0 : Int32) (k1 : Int32) (H : Heap) (locs : List Loc) (ls : Array Slot), va_P D CL [(a_t, .inr (3, [.ref a_t_repetitions, .ref a_t_definitions, .ref a_t_valueNumbers, .ref a_t_values, .int t_entries, .int t_valued])), (a_t_definitions, .inl (k.1, t_definitions_n, .inl t_definitions)), (a_t_repetitions, .inl (k.1, t_repetitions_n, .inl t_repetitions)), (a_t_valueNumbers, .inl (k.2.1, t_valueNumbers_n, .inl t_valueNumbers))] H → va_D A [(a_t, .inr (3, [.ref a_t_repetitions, .ref a_t_definitions, .ref a_t_valueNumbers, .ref a_t_values, .int t_entries, .int t_valued])), (a_t_definitions, .inl (k.1, t_definitions_n, .inl t_definitions)), (a_t_repetitions, .inl (k.1, t_repetitions_n, .inl t_repetitions)), (a_t_valueNumbers, .inl (k.2.1, t_valueNumbers_n, .inl t_valueNumbers))] → va_S A s.heap H locs → lv_has ls 4 [(0, .ref a_t), (3, .int v3)] → f_P_addLevels_j53 t_valueNumbers_n t_entries t_valued t_definitions t_repetitions t_valueNumbers v3 k0 k1 = some out → W p l e rm_P_addLevels s m args below meth c H locs 0 0 Q (F0 m 53 ls [.int k0, .int k1, .ref a_t_valueNumbers]) := by
    intro t_entries t_valued t_definitions t_repetitions t_valueNumbers k0 k1 H locs ls hP hD hS hl h
    unfold f_P_addLevels_j53 at h
    obtain ⟨g4, h⟩ := gd_at h
    refine va_iast hx hb hK hP hD hS 3 1 rfl rfl (inB_in g4) d_P_addLevels_53 (fun H locs hP hD hS => ?_)
    have hP : va_P D CL [(a_t, .inr (3, [.ref a_t_repetitions, .ref a_t_definitions, .ref a_t_valueNumbers, .ref a_t_values, .int t_entries, .int t_valued])), (a_t_definitions, .inl (k.1, t_definitions_n, .inl t_definitions)), (a_t_repetitions, .inl (k.1, t_repetitions_n, .inl t_repetitions)), (a_t_valueNumbers, .inl (k.2.1, t_valueNumbers_n, .inl (upd t_valueNumbers k1.toNatClampNeg k0)))] H := hP
    have hD : va_D A [(a_t, .inr (3, [.ref a_t_repetitions, .ref a_t_definitions, .ref a_t_valueNumbers, .ref a_t_values, .int t_entries, .int t_valued])), (a_t_definitions, .inl (k.1, t_definitions_n, .inl t_definitions)), (a_t_repetitions, .inl (k.1, t_repetitions_n, .inl t_repetitions)), (a_t_valueNumbers, .inl (k.2.1, t_valueNumbers_n, .inl (upd t_valueNumbers k1.toNatClampNeg k0)))] := hD
    refine lv_aload_n hx hb d_P_addLevels_54 rfl (lv_at hl 0 rfl) ?_
    refine lv_dup hx hb d_P_addLevels_55 rfl ?_
    refine va_get (D := D) (ci := 3) (v := .int t_entries) (C := "PageForm$Page") (T := F_P) (N := 6) hx hb hts in_P hown hK hP 0 rfl rfl 4 (by decide) (hts _ fl_P_31) (fun _ h9 => h9) rfl d_P_addLevels_56 ?_
    refine lv_iconst (v := 1) hx hb d_P_addLevels_59 (by decide) ?_
    refine lv_iadd hx hb d_P_addLevels_60 ?_
    refine lv_topi (fun x5 ex5 => ?_)
    have h := bnd_at h ex5
    refine va_put (D := D) (ci := 3) (v := .int x5) (ty := .int) (C := "PageForm$Page") (T := F_P) (N := 6) hx hb hts in_P t_P t_P_ok n_P hown hK hP hD hS 0 rfl rfl 4 (by decide) (hts _ fl_P_31) (fun _ h9 => h9) rfl (by decide +kernel) rfl rfl (Nat.le_of_ble_eq_true rfl) d_P_addLevels_61 (fun H locs hP hD hS => ?_)
    have hP : va_P D CL [(a_t, .inr (3, [.ref a_t_repetitions, .ref a_t_definitions, .ref a_t_valueNumbers, .ref a_t_values, .int x5, .int t_valued])), (a_t_definitions, .inl (k.1, t_definitions_n, .inl t_definitions)), (a_t_repetitions, .inl (k.1, t_repetitions_n, .inl t_repetitions)), (a_t_valueNumbers, .inl (k.2.1, t_valueNumbers_n, .inl (upd t_valueNumbers k1.toNatClampNeg k0)))] H := hP
    have hD : va_D A [(a_t, .inr (3, [.ref a_t_repetitions, .ref a_t_definitions, .ref a_t_valueNumbers, .ref a_t_values, .int x5, .int t_valued])), (a_t_definitions, .inl (k.1, t_definitions_n, .inl t_definitions)), (a_t_repetitions, .inl (k.1, t_repetitions_n, .inl t_repetitions)), (a_t_valueNumbers, .inl (k.2.1, t_valueNumbers_n, .inl (upd t_valueNumbers k1.toNatClampNeg k0)))] := hD
    refine lv_iload_n hx hb d_P_addLevels_64 rfl (lv_at hl 1 rfl) ?_
    refine lv_if_eq (tgt := 78) hx hb d_P_addLevels_65 (by decide) (fun c => ?_) (fun c => ?_)
    · have h := ift_at h c
      exact ret2 _ _ _ _ _ (Option.some.inj h) d_P_addLevels_78 hP hD hS
    · have h := iff_at h c
      refine lv_aload_n hx hb d_P_addLevels_68 rfl (lv_at hl 0 rfl) ?_
      refine lv_dup hx hb d_P_addLevels_69 rfl ?_
      refine va_get (D := D) (ci := 3) (v := .int t_valued) (C := "PageForm$Page") (T := F_P) (N := 6) hx hb hts in_P hown hK hP 0 rfl rfl 5 (by decide) (hts _ fl_P_35) (fun _ h9 => h9) rfl d_P_addLevels_70 ?_
      refine lv_iconst (v := 1) hx hb d_P_addLevels_73 (by decide) ?_
      refine lv_iadd hx hb d_P_addLevels_74 ?_
      refine lv_topi (fun x6 ex6 => ?_)
      have h := bnd_at h ex6
      refine va_put (D := D) (ci := 3) (v := .int x6) (ty := .int) (C := "PageForm$Page") (T := F_P) (N := 6) hx hb hts in_P t_P t_P_ok n_P hown hK hP hD hS 0 rfl rfl 5 (by decide) (hts _ fl_P_35) (fun _ h9 => h9) rfl (by decide +kernel) rfl rfl (Nat.le_of_ble_eq_true rfl) d_P_addLevels_75 (fun H locs hP hD hS => ?_)
      have hP : va_P D CL [(a_t, .inr (3, [.ref a_t_repetitions, .ref a_t_definitions, .ref a_t_valueNumbers, .ref a_t_values, .int x5, .int x6])), (a_t_definitions, .inl (k.1, t_definitions_n, .inl t_definitions)), (a_t_repetitions, .inl (k.1, t_repetitions_n, .inl t_repetitions)), (a_t_valueNumbers, .inl (k.2.1, t_valueNumbers_n, .inl (upd t_valueNumbers k1.toNatClampNeg k0)))] H := hP
      have hD : va_D A [(a_t, .inr (3, [.ref a_t_repetitions, .ref a_t_definitions, .ref a_t_valueNumbers, .ref a_t_values, .int x5, .int x6])), (a_t_definitions, .inl (k.1, t_definitions_n, .inl t_definitions)), (a_t_repetitions, .inl (k.1, t_repetitions_n, .inl t_repetitions)), (a_t_valueNumbers, .inl (k.2.1, t_valueNumbers_n, .inl (upd t_valueNumbers k1.toNatClampNeg k0)))] := hD
      exact ret2 _ _ _ _ _ (Option.some.inj h) d_P_addLevels_78 hP hD hS
  unfold f_P_addLevels at h
  refine lv_aload_n hx hb d_P_addLevels_0 rfl (lv_at hl 0 rfl) ?_
  refine va_get (D := D) (ci := 3) (v := .int t_entries) (C := "PageForm$Page") (T := F_P) (N := 6) hx hb hts in_P hown hK hP 0 rfl rfl 4 (by decide) (hts _ fl_P_31) (fun _ h9 => h9) rfl d_P_addLevels_1 ?_
  refine lv_sipush (v := 1000) hx hb d_P_addLevels_4 (by decide) ?_
  refine lv_icmp_lt (tgt := 11) hx hb d_P_addLevels_7 (by decide) (fun c => ?_) (fun c => ?_)
  · have h := ift_at h c
    refine lv_aload_n hx hb d_P_addLevels_11 rfl (lv_at hl 0 rfl) ?_
    refine va_get (D := D) (ci := 3) (v := .ref a_t_repetitions) (C := "PageForm$Page") (T := F_P) (N := 6) hx hb hts in_P hown hK hP 0 rfl rfl 0 (by decide) (hts _ fl_P_9) (fun _ h9 => h9) rfl d_P_addLevels_12 ?_
    refine lv_aload_n hx hb d_P_addLevels_15 rfl (lv_at hl 0 rfl) ?_
    refine va_get (D := D) (ci := 3) (v := .int t_entries) (C := "PageForm$Page") (T := F_P) (N := 6) hx hb hts in_P hown hK hP 0 rfl rfl 4 (by decide) (hts _ fl_P_31) (fun _ h9 => h9) rfl d_P_addLevels_16 ?_
    refine lv_iload_n hx hb d_P_addLevels_19 rfl (lv_at hl 1 rfl) ?_
    refine lv_i2b hx hb d_P_addLevels_20 rfl ?_
    obtain ⟨g7, h⟩ := gd_at h
    refine va_bast hx hb hK hP hD hS 2 0 rfl rfl (inB_in g7) d_P_addLevels_21 (fun H locs hP hD hS => ?_)
    have hP : va_P D CL [(a_t, .inr (3, [.ref a_t_repetitions, .ref a_t_definitions, .ref a_t_valueNumbers, .ref a_t_values, .int t_entries, .int t_valued])), (a_t_definitions, .inl (k.1, t_definitions_n, .inl t_definitions)), (a_t_repetitions, .inl (k.1, t_repetitions_n, .inl (upd t_repetitions t_entries.toNatClampNeg (vp_nar .byte v1.toInt8.toInt32)))), (a_t_valueNumbers, .inl (k.2.1, t_valueNumbers_n, .inl t_valueNumbers))] H := hP
    have hD : va_D A [(a_t, .inr (3, [.ref a_t_repetitions, .ref a_t_definitions, .ref a_t_valueNumbers, .ref a_t_values, .int t_entries, .int t_valued])), (a_t_definitions, .inl (k.1, t_definitions_n, .inl t_definitions)), (a_t_repetitions, .inl (k.1, t_repetitions_n, .inl (upd t_repetitions t_entries.toNatClampNeg (vp_nar .byte v1.toInt8.toInt32)))), (a_t_valueNumbers, .inl (k.2.1, t_valueNumbers_n, .inl t_valueNumbers))] := hD
    refine lv_aload_n hx hb d_P_addLevels_22 rfl (lv_at hl 0 rfl) ?_
    refine va_get (D := D) (ci := 3) (v := .ref a_t_definitions) (C := "PageForm$Page") (T := F_P) (N := 6) hx hb hts in_P hown hK hP 0 rfl rfl 1 (by decide) (hts _ fl_P_15) (fun _ h9 => h9) rfl d_P_addLevels_23 ?_
    refine lv_aload_n hx hb d_P_addLevels_26 rfl (lv_at hl 0 rfl) ?_
    refine va_get (D := D) (ci := 3) (v := .int t_entries) (C := "PageForm$Page") (T := F_P) (N := 6) hx hb hts in_P hown hK hP 0 rfl rfl 4 (by decide) (hts _ fl_P_31) (fun _ h9 => h9) rfl d_P_addLevels_27 ?_
    refine lv_iload_n hx hb d_P_addLevels_30 rfl (lv_at hl 2 rfl) ?_
    refine lv_i2b hx hb d_P_addLevels_31 rfl ?_
    obtain ⟨g8, h⟩ := gd_at h
    refine va_bast hx hb hK hP hD hS 1 0 rfl rfl (inB_in g8) d_P_addLevels_32 (fun H locs hP hD hS => ?_)
    have hP : va_P D CL [(a_t, .inr (3, [.ref a_t_repetitions, .ref a_t_definitions, .ref a_t_valueNumbers, .ref a_t_values, .int t_entries, .int t_valued])), (a_t_definitions, .inl (k.1, t_definitions_n, .inl (upd t_definitions t_entries.toNatClampNeg (vp_nar .byte v2.toInt8.toInt32)))), (a_t_repetitions, .inl (k.1, t_repetitions_n, .inl (upd t_repetitions t_entries.toNatClampNeg (vp_nar .byte v1.toInt8.toInt32)))), (a_t_valueNumbers, .inl (k.2.1, t_valueNumbers_n, .inl t_valueNumbers))] H := hP
    have hD : va_D A [(a_t, .inr (3, [.ref a_t_repetitions, .ref a_t_definitions, .ref a_t_valueNumbers, .ref a_t_values, .int t_entries, .int t_valued])), (a_t_definitions, .inl (k.1, t_definitions_n, .inl (upd t_definitions t_entries.toNatClampNeg (vp_nar .byte v2.toInt8.toInt32)))), (a_t_repetitions, .inl (k.1, t_repetitions_n, .inl (upd t_repetitions t_entries.toNatClampNeg (vp_nar .byte v1.toInt8.toInt32)))), (a_t_valueNumbers, .inl (k.2.1, t_valueNumbers_n, .inl t_valueNumbers))] := hD
    refine lv_aload_n hx hb d_P_addLevels_33 rfl (lv_at hl 0 rfl) ?_
    refine va_get (D := D) (ci := 3) (v := .ref a_t_valueNumbers) (C := "PageForm$Page") (T := F_P) (N := 6) hx hb hts in_P hown hK hP 0 rfl rfl 2 (by decide) (hts _ fl_P_18) (fun _ h9 => h9) rfl d_P_addLevels_34 ?_
    refine lv_aload_n hx hb d_P_addLevels_37 rfl (lv_at hl 0 rfl) ?_
    refine va_get (D := D) (ci := 3) (v := .int t_entries) (C := "PageForm$Page") (T := F_P) (N := 6) hx hb hts in_P hown hK hP 0 rfl rfl 4 (by decide) (hts _ fl_P_31) (fun _ h9 => h9) rfl d_P_addLevels_38 ?_
    refine lv_iload_n hx hb d_P_addLevels_41 rfl (lv_at hl 3 rfl) ?_
    refine lv_if_eq (tgt := 52) hx hb d_P_addLevels_42 (by decide) (fun c => ?_) (fun c => ?_)
    · have h := ift_at h c
      refine lv_iconst (v := (-1)) hx hb d_P_addLevels_52 (by decide) ?_
      exact J53 t_entries t_valued (upd t_definitions t_entries.toNatClampNeg (vp_nar .byte v2.toInt8.toInt32)) (upd t_repetitions t_entries.toNatClampNeg (vp_nar .byte v1.toInt8.toInt32)) t_valueNumbers (-1 : Int32) t_entries _ _ ls hP hD hS (lv_sub hl [0, 3] rfl) h
    · have h := iff_at h c
      refine lv_aload_n hx hb d_P_addLevels_45 rfl (lv_at hl 0 rfl) ?_
      refine va_get (D := D) (ci := 3) (v := .int t_valued) (C := "PageForm$Page") (T := F_P) (N := 6) hx hb hts in_P hown hK hP 0 rfl rfl 5 (by decide) (hts _ fl_P_35) (fun _ h9 => h9) rfl d_P_addLevels_46 ?_
      refine lv_goto (tgt := 53) hx hb d_P_addLevels_49 (by decide) ?_
      exact J53 t_entries t_valued (upd t_definitions t_entries.toNatClampNeg (vp_nar .byte v2.toInt8.toInt32)) (upd t_repetitions t_entries.toNatClampNeg (vp_nar .byte v1.toInt8.toInt32)) t_valueNumbers t_valued t_entries _ _ ls hP hD hS (lv_sub hl [0, 3] rfl) h
  · have h := iff_at h c
    exact ret2 _ _ _ _ _ (Option.some.inj h) d_P_addLevels_10 hP hD hS

