def rm_V_makeEmpty : Room := { frames := 0, cells := 0, slots := 0, locals := 0 }
def f_V_makeEmpty (v1 : Int32) : Option (Int32 × Int32) :=
  gd (isB v1) (some (v1, (0 : Int32)))
set_option maxHeartbeats 4000000 in
set_option maxRecDepth 100000 in
theorem c_V_makeEmpty (l : Launch) (D : va_G) (k : ClassId × ClassId × ClassId) (a_t a_t_numbers a_t_texts a_t_starts : Nat) (t_ofTexts : Int32) (t_count : Int32) (v1 : Int32) (n : Nat) (out : Int32 × Int32) (h : f_V_makeEmpty v1 = some out) : Ct l D k y_V_makeEmpty b_V_makeEmpty 2 none rm_V_makeEmpty [.ref a_t, .int v1] [(a_t, .inr (6, [.ref a_t_numbers, .ref a_t_texts, .ref a_t_starts, .int t_ofTexts, .int t_count]))] [(a_t, .inr (6, [.ref a_t_numbers, .ref a_t_texts, .ref a_t_starts, .int out.1, .int out.2]))] none := by
  refine Ct.ofV (by decide) (Nat.le_of_ble_eq_true rfl) ?_
  intro p e s m args below meth c A Q ls hx hb hml hown hts hA hK hP hD hS hE hl ret
  have hown : s.vm.findClass "PageForm$Values" = some m.cls := hown
  have hl : lv_has ls 2 [(0, .ref a_t), (1, .int v1)] := hl
  have ret2 : ∀ (y0 : Int32) (y1 : Int32) (_ : (y0, y1) = out) {pc : Nat} {ls : Array Slot} {H : Heap} {locs : List Loc}, decode b_V_makeEmpty pc = .ok (.return_, 1) → va_P D CL [(a_t, .inr (6, [.ref a_t_numbers, .ref a_t_texts, .ref a_t_starts, .int y0, .int y1]))] H → va_D A [(a_t, .inr (6, [.ref a_t_numbers, .ref a_t_texts, .ref a_t_starts, .int y0, .int y1]))] → va_S A s.heap H locs → W p l e rm_V_makeEmpty s m args below meth c H locs 0 0 Q (F0 m pc ls []) := by
    intro y0 y1 e0; subst e0; exact ret
  clear ret
  unfold f_V_makeEmpty at h
  refine lv_aload_n hx hb d_V_makeEmpty_0 rfl (lv_at hl 0 rfl) ?_
  refine lv_iload_n hx hb d_V_makeEmpty_1 rfl (lv_at hl 1 rfl) ?_
  obtain ⟨g2, h⟩ := gd_at h
  refine va_put (D := D) (ci := 6) (v := .int v1) (ty := .boolean) (C := "PageForm$Values") (T := F_V) (N := 5) hx hb hts in_V t_V t_V_ok n_V hown hK hP hD hS 0 rfl rfl 3 (by decide) (hts _ fl_V_23) (fun _ h9 => h9) rfl (by decide +kernel) (isB_n g2) (isB_f g2) (Nat.le_of_ble_eq_true rfl) d_V_makeEmpty_2 (fun H locs hP hD hS => ?_)
  have hP : va_P D CL [(a_t, .inr (6, [.ref a_t_numbers, .ref a_t_texts, .ref a_t_starts, .int v1, .int t_count]))] H := hP
  have hD : va_D A [(a_t, .inr (6, [.ref a_t_numbers, .ref a_t_texts, .ref a_t_starts, .int v1, .int t_count]))] := hD
  refine lv_aload_n hx hb d_V_makeEmpty_5 rfl (lv_at hl 0 rfl) ?_
  refine lv_iconst (v := 0) hx hb d_V_makeEmpty_6 (by decide) ?_
  refine va_put (D := D) (ci := 6) (v := .int (0 : Int32)) (ty := .int) (C := "PageForm$Values") (T := F_V) (N := 5) hx hb hts in_V t_V t_V_ok n_V hown hK hP hD hS 0 rfl rfl 4 (by decide) (hts _ fl_V_27) (fun _ h9 => h9) rfl (by decide +kernel) rfl rfl (Nat.le_of_ble_eq_true rfl) d_V_makeEmpty_7 (fun H locs hP hD hS => ?_)
  have hP : va_P D CL [(a_t, .inr (6, [.ref a_t_numbers, .ref a_t_texts, .ref a_t_starts, .int v1, .int (0 : Int32)]))] H := hP
  have hD : va_D A [(a_t, .inr (6, [.ref a_t_numbers, .ref a_t_texts, .ref a_t_starts, .int v1, .int (0 : Int32)]))] := hD
  exact ret2 _ _ (Option.some.inj h) d_V_makeEmpty_10 hP hD hS

def rm_V_textBytes : Room := { frames := 0, cells := 0, slots := 0, locals := 0 }
def f_V_textBytes (t_starts_n : Nat) (t_count : Int32) (t_starts : Nat → Int32) : Option (Int32) :=
  gd (inB t_count t_starts_n) (some (t_starts t_count.toNatClampNeg))
set_option maxHeartbeats 4000000 in
set_option maxRecDepth 100000 in
theorem c_V_textBytes (l : Launch) (D : va_G) (k : ClassId × ClassId × ClassId) (a_t a_t_numbers a_t_texts a_t_starts : Nat) (t_starts_n : Nat) (t_ofTexts : Int32) (t_count : Int32) (t_starts : Nat → Int32) (n : Nat) (out : Int32) (h : f_V_textBytes t_starts_n t_count t_starts = some out) : Ct l D k y_V_textBytes b_V_textBytes 1 (some .int) rm_V_textBytes [.ref a_t] [(a_t, .inr (6, [.ref a_t_numbers, .ref a_t_texts, .ref a_t_starts, .int t_ofTexts, .int t_count])), (a_t_starts, .inl (k.2.1, t_starts_n, .inl t_starts))] [(a_t, .inr (6, [.ref a_t_numbers, .ref a_t_texts, .ref a_t_starts, .int t_ofTexts, .int t_count])), (a_t_starts, .inl (k.2.1, t_starts_n, .inl t_starts))] (some (.int out)) := by
  refine Ct.ofI (by decide) (Nat.le_of_ble_eq_true rfl) ?_
  intro p e s m args below meth c A Q ls hx hb hml hown hts hA hK hP hD hS hE hl ret
  have hown : s.vm.findClass "PageForm$Values" = some m.cls := hown
  have hl : lv_has ls 1 [(0, .ref a_t)] := hl
  have ret2 : ∀ (y0 : Int32) (_ : y0 = out) {pc : Nat} {ls : Array Slot} {H : Heap} {locs : List Loc}, decode b_V_textBytes pc = .ok (.ireturn, 1) → va_P D CL [(a_t, .inr (6, [.ref a_t_numbers, .ref a_t_texts, .ref a_t_starts, .int t_ofTexts, .int t_count])), (a_t_starts, .inl (k.2.1, t_starts_n, .inl t_starts))] H → va_D A [(a_t, .inr (6, [.ref a_t_numbers, .ref a_t_texts, .ref a_t_starts, .int t_ofTexts, .int t_count])), (a_t_starts, .inl (k.2.1, t_starts_n, .inl t_starts))] → va_S A s.heap H locs → W p l e rm_V_textBytes s m args below meth c H locs 0 0 Q (F0 m pc ls [.int y0]) := by
    intro y0 e0; subst e0; exact ret
  clear ret
  unfold f_V_textBytes at h
  refine lv_aload_n hx hb d_V_textBytes_0 rfl (lv_at hl 0 rfl) ?_
  refine va_get (D := D) (ci := 6) (v := .ref a_t_starts) (C := "PageForm$Values") (T := F_V) (N := 5) hx hb hts in_V hown hK hP 0 rfl rfl 2 (by decide) (hts _ fl_V_19) (fun _ h9 => h9) rfl d_V_textBytes_1 ?_
  refine lv_aload_n hx hb d_V_textBytes_4 rfl (lv_at hl 0 rfl) ?_
  refine va_get (D := D) (ci := 6) (v := .int t_count) (C := "PageForm$Values") (T := F_V) (N := 5) hx hb hts in_V hown hK hP 0 rfl rfl 4 (by decide) (hts _ fl_V_27) (fun _ h9 => h9) rfl d_V_textBytes_5 ?_
  obtain ⟨g2, h⟩ := gd_at h
  refine va_iald hx hb hK hP 1 1 rfl rfl (inB_in g2) d_V_textBytes_8 ?_
  exact ret2 _ (Option.some.inj h) d_V_textBytes_9 hP hD hS

def rm_V_sizeOf : Room := { frames := 0, cells := 0, slots := 0, locals := 0 }
def f_V_sizeOf (t_starts_n : Nat) (t_starts : Nat → Int32) (v1 : Int32) : Option (Int32) :=
  gd (inB (v1 + (1 : Int32)) t_starts_n) (gd (inB v1 t_starts_n) (some ((t_starts (v1 + (1 : Int32)).toNatClampNeg) - (t_starts v1.toNatClampNeg))))
set_option maxHeartbeats 4000000 in
set_option maxRecDepth 100000 in
theorem c_V_sizeOf (l : Launch) (D : va_G) (k : ClassId × ClassId × ClassId) (a_t a_t_numbers a_t_texts a_t_starts : Nat) (t_starts_n : Nat) (t_ofTexts : Int32) (t_count : Int32) (t_starts : Nat → Int32) (v1 : Int32) (n : Nat) (out : Int32) (h : f_V_sizeOf t_starts_n t_starts v1 = some out) : Ct l D k y_V_sizeOf b_V_sizeOf 2 (some .int) rm_V_sizeOf [.ref a_t, .int v1] [(a_t, .inr (6, [.ref a_t_numbers, .ref a_t_texts, .ref a_t_starts, .int t_ofTexts, .int t_count])), (a_t_starts, .inl (k.2.1, t_starts_n, .inl t_starts))] [(a_t, .inr (6, [.ref a_t_numbers, .ref a_t_texts, .ref a_t_starts, .int t_ofTexts, .int t_count])), (a_t_starts, .inl (k.2.1, t_starts_n, .inl t_starts))] (some (.int out)) := by
  refine Ct.ofI (by decide) (Nat.le_of_ble_eq_true rfl) ?_
  intro p e s m args below meth c A Q ls hx hb hml hown hts hA hK hP hD hS hE hl ret
  have hown : s.vm.findClass "PageForm$Values" = some m.cls := hown
  have hl : lv_has ls 2 [(0, .ref a_t), (1, .int v1)] := hl
  have ret2 : ∀ (y0 : Int32) (_ : y0 = out) {pc : Nat} {ls : Array Slot} {H : Heap} {locs : List Loc}, decode b_V_sizeOf pc = .ok (.ireturn, 1) → va_P D CL [(a_t, .inr (6, [.ref a_t_numbers, .ref a_t_texts, .ref a_t_starts, .int t_ofTexts, .int t_count])), (a_t_starts, .inl (k.2.1, t_starts_n, .inl t_starts))] H → va_D A [(a_t, .inr (6, [.ref a_t_numbers, .ref a_t_texts, .ref a_t_starts, .int t_ofTexts, .int t_count])), (a_t_starts, .inl (k.2.1, t_starts_n, .inl t_starts))] → va_S A s.heap H locs → W p l e rm_V_sizeOf s m args below meth c H locs 0 0 Q (F0 m pc ls [.int y0]) := by
    intro y0 e0; subst e0; exact ret
  clear ret
  unfold f_V_sizeOf at h
  refine lv_aload_n hx hb d_V_sizeOf_0 rfl (lv_at hl 0 rfl) ?_
  refine va_get (D := D) (ci := 6) (v := .ref a_t_starts) (C := "PageForm$Values") (T := F_V) (N := 5) hx hb hts in_V hown hK hP 0 rfl rfl 2 (by decide) (hts _ fl_V_19) (fun _ h9 => h9) rfl d_V_sizeOf_1 ?_
  refine lv_iload_n hx hb d_V_sizeOf_4 rfl (lv_at hl 1 rfl) ?_
  refine lv_iconst (v := 1) hx hb d_V_sizeOf_5 (by decide) ?_
  refine lv_iadd hx hb d_V_sizeOf_6 ?_
  obtain ⟨g3, h⟩ := gd_at h
  refine va_iald hx hb hK hP 1 1 rfl rfl (inB_in g3) d_V_sizeOf_7 ?_
  refine lv_aload_n hx hb d_V_sizeOf_8 rfl (lv_at hl 0 rfl) ?_
  refine va_get (D := D) (ci := 6) (v := .ref a_t_starts) (C := "PageForm$Values") (T := F_V) (N := 5) hx hb hts in_V hown hK hP 0 rfl rfl 2 (by decide) (hts _ fl_V_19) (fun _ h9 => h9) rfl d_V_sizeOf_9 ?_
  refine lv_iload_n hx hb d_V_sizeOf_12 rfl (lv_at hl 1 rfl) ?_
  obtain ⟨g4, h⟩ := gd_at h
  refine va_iald hx hb hK hP 1 1 rfl rfl (inB_in g4) d_V_sizeOf_13 ?_
  refine lv_isub hx hb d_V_sizeOf_14 ?_
  exact ret2 _ (Option.some.inj h) d_V_sizeOf_15 hP hD hS

def rm_V_octetOf : Room := { frames := 0, cells := 0, slots := 0, locals := 0 }
def f_V_octetOf (t_starts_n : Nat) (t_texts_n : Nat) (t_starts : Nat → Int32) (t_texts : Nat → Int32) (v1 : Int32) (v2 : Int32) : Option (Int32) :=
  gd (inB v1 t_starts_n) (gd (inB ((t_starts v1.toNatClampNeg) + v2) t_texts_n) (some ((t_texts ((t_starts v1.toNatClampNeg) + v2).toNatClampNeg) &&& (255 : Int32))))
set_option maxHeartbeats 4000000 in
set_option maxRecDepth 100000 in
theorem c_V_octetOf (l : Launch) (D : va_G) (k : ClassId × ClassId × ClassId) (a_t a_t_numbers a_t_texts a_t_starts : Nat) (t_starts_n t_texts_n : Nat) (t_ofTexts : Int32) (t_count : Int32) (t_starts : Nat → Int32) (t_texts : Nat → Int32) (v1 : Int32) (v2 : Int32) (n : Nat) (out : Int32) (h : f_V_octetOf t_starts_n t_texts_n t_starts t_texts v1 v2 = some out) : Ct l D k y_V_octetOf b_V_octetOf 3 (some .int) rm_V_octetOf [.ref a_t, .int v1, .int v2] [(a_t, .inr (6, [.ref a_t_numbers, .ref a_t_texts, .ref a_t_starts, .int t_ofTexts, .int t_count])), (a_t_starts, .inl (k.2.1, t_starts_n, .inl t_starts)), (a_t_texts, .inl (k.1, t_texts_n, .inl t_texts))] [(a_t, .inr (6, [.ref a_t_numbers, .ref a_t_texts, .ref a_t_starts, .int t_ofTexts, .int t_count])), (a_t_starts, .inl (k.2.1, t_starts_n, .inl t_starts)), (a_t_texts, .inl (k.1, t_texts_n, .inl t_texts))] (some (.int out)) := by
  refine Ct.ofI (by decide) (Nat.le_of_ble_eq_true rfl) ?_
  intro p e s m args below meth c A Q ls hx hb hml hown hts hA hK hP hD hS hE hl ret
  have hown : s.vm.findClass "PageForm$Values" = some m.cls := hown
  have hl : lv_has ls 3 [(0, .ref a_t), (1, .int v1), (2, .int v2)] := hl
  have ret2 : ∀ (y0 : Int32) (_ : y0 = out) {pc : Nat} {ls : Array Slot} {H : Heap} {locs : List Loc}, decode b_V_octetOf pc = .ok (.ireturn, 1) → va_P D CL [(a_t, .inr (6, [.ref a_t_numbers, .ref a_t_texts, .ref a_t_starts, .int t_ofTexts, .int t_count])), (a_t_starts, .inl (k.2.1, t_starts_n, .inl t_starts)), (a_t_texts, .inl (k.1, t_texts_n, .inl t_texts))] H → va_D A [(a_t, .inr (6, [.ref a_t_numbers, .ref a_t_texts, .ref a_t_starts, .int t_ofTexts, .int t_count])), (a_t_starts, .inl (k.2.1, t_starts_n, .inl t_starts)), (a_t_texts, .inl (k.1, t_texts_n, .inl t_texts))] → va_S A s.heap H locs → W p l e rm_V_octetOf s m args below meth c H locs 0 0 Q (F0 m pc ls [.int y0]) := by
    intro y0 e0; subst e0; exact ret
  clear ret
  unfold f_V_octetOf at h
  refine lv_aload_n hx hb d_V_octetOf_0 rfl (lv_at hl 0 rfl) ?_
  refine va_get (D := D) (ci := 6) (v := .ref a_t_texts) (C := "PageForm$Values") (T := F_V) (N := 5) hx hb hts in_V hown hK hP 0 rfl rfl 1 (by decide) (hts _ fl_V_15) (fun _ h9 => h9) rfl d_V_octetOf_1 ?_
  refine lv_aload_n hx hb d_V_octetOf_4 rfl (lv_at hl 0 rfl) ?_
  refine va_get (D := D) (ci := 6) (v := .ref a_t_starts) (C := "PageForm$Values") (T := F_V) (N := 5) hx hb hts in_V hown hK hP 0 rfl rfl 2 (by decide) (hts _ fl_V_19) (fun _ h9 => h9) rfl d_V_octetOf_5 ?_
  refine lv_iload_n hx hb d_V_octetOf_8 rfl (lv_at hl 1 rfl) ?_
  obtain ⟨g3, h⟩ := gd_at h
  refine va_iald hx hb hK hP 1 1 rfl rfl (inB_in g3) d_V_octetOf_9 ?_
  refine lv_iload_n hx hb d_V_octetOf_10 rfl (lv_at hl 2 rfl) ?_
  refine lv_iadd hx hb d_V_octetOf_11 ?_
  obtain ⟨g4, h⟩ := gd_at h
  refine va_bald hx hb hK hP 2 0 rfl rfl (inB_in g4) d_V_octetOf_12 ?_
  refine lv_sipush (v := 255) hx hb d_V_octetOf_13 (by decide) ?_
  refine lv_iand hx hb d_V_octetOf_16 ?_
  exact ret2 _ (Option.some.inj h) d_V_octetOf_17 hP hD hS

def rm_V_lastSize : Room := { frames := 0, cells := 0, slots := 0, locals := 0 }
def f_V_lastSize (t_starts_n : Nat) (t_count : Int32) (t_starts : Nat → Int32) : Option (Int32) :=
  (if t_count = 0 then some (0 : Int32) else gd (inB t_count t_starts_n) (gd (inB (t_count - (1 : Int32)) t_starts_n) (some ((t_starts t_count.toNatClampNeg) - (t_starts (t_count - (1 : Int32)).toNatClampNeg)))))
set_option maxHeartbeats 4000000 in
set_option maxRecDepth 100000 in
theorem c_V_lastSize (l : Launch) (D : va_G) (k : ClassId × ClassId × ClassId) (a_t a_t_numbers a_t_texts a_t_starts : Nat) (t_starts_n : Nat) (t_ofTexts : Int32) (t_count : Int32) (t_starts : Nat → Int32) (n : Nat) (out : Int32) (h : f_V_lastSize t_starts_n t_count t_starts = some out) : Ct l D k y_V_lastSize b_V_lastSize 1 (some .int) rm_V_lastSize [.ref a_t] [(a_t, .inr (6, [.ref a_t_numbers, .ref a_t_texts, .ref a_t_starts, .int t_ofTexts, .int t_count])), (a_t_starts, .inl (k.2.1, t_starts_n, .inl t_starts))] [(a_t, .inr (6, [.ref a_t_numbers, .ref a_t_texts, .ref a_t_starts, .int t_ofTexts, .int t_count])), (a_t_starts, .inl (k.2.1, t_starts_n, .inl t_starts))] (some (.int out)) := by
  refine Ct.ofI (by decide) (Nat.le_of_ble_eq_true rfl) ?_
  intro p e s m args below meth c A Q ls hx hb hml hown hts hA hK hP hD hS hE hl ret
  have hown : s.vm.findClass "PageForm$Values" = some m.cls := hown
  have hl : lv_has ls 1 [(0, .ref a_t)] := hl
  have ret2 : ∀ (y0 : Int32) (_ : y0 = out) {pc : Nat} {ls : Array Slot} {H : Heap} {locs : List Loc}, decode b_V_lastSize pc = .ok (.ireturn, 1) → va_P D CL [(a_t, .inr (6, [.ref a_t_numbers, .ref a_t_texts, .ref a_t_starts, .int t_ofTexts, .int t_count])), (a_t_starts, .inl (k.2.1, t_starts_n, .inl t_starts))] H → va_D A [(a_t, .inr (6, [.ref a_t_numbers, .ref a_t_texts, .ref a_t_starts, .int t_ofTexts, .int t_count])), (a_t_starts, .inl (k.2.1, t_starts_n, .inl t_starts))] → va_S A s.heap H locs → W p l e rm_V_lastSize s m args below meth c H locs 0 0 Q (F0 m pc ls [.int y0]) := by
    intro y0 e0; subst e0; exact ret
  clear ret
  unfold f_V_lastSize at h
  refine lv_aload_n hx hb d_V_lastSize_0 rfl (lv_at hl 0 rfl) ?_
  refine va_get (D := D) (ci := 6) (v := .int t_count) (C := "PageForm$Values") (T := F_V) (N := 5) hx hb hts in_V hown hK hP 0 rfl rfl 4 (by decide) (hts _ fl_V_27) (fun _ h9 => h9) rfl d_V_lastSize_1 ?_
  refine lv_if_ne (tgt := 11) hx hb d_V_lastSize_4 (by decide) (fun c => ?_) (fun c => ?_)
  · have h := iff_at h c
    refine lv_aload_n hx hb d_V_lastSize_11 rfl (lv_at hl 0 rfl) ?_
    refine va_get (D := D) (ci := 6) (v := .ref a_t_starts) (C := "PageForm$Values") (T := F_V) (N := 5) hx hb hts in_V hown hK hP 0 rfl rfl 2 (by decide) (hts _ fl_V_19) (fun _ h9 => h9) rfl d_V_lastSize_12 ?_
    refine lv_aload_n hx hb d_V_lastSize_15 rfl (lv_at hl 0 rfl) ?_
    refine va_get (D := D) (ci := 6) (v := .int t_count) (C := "PageForm$Values") (T := F_V) (N := 5) hx hb hts in_V hown hK hP 0 rfl rfl 4 (by decide) (hts _ fl_V_27) (fun _ h9 => h9) rfl d_V_lastSize_16 ?_
    obtain ⟨g3, h⟩ := gd_at h
    refine va_iald hx hb hK hP 1 1 rfl rfl (inB_in g3) d_V_lastSize_19 ?_
    refine lv_aload_n hx hb d_V_lastSize_20 rfl (lv_at hl 0 rfl) ?_
    refine va_get (D := D) (ci := 6) (v := .ref a_t_starts) (C := "PageForm$Values") (T := F_V) (N := 5) hx hb hts in_V hown hK hP 0 rfl rfl 2 (by decide) (hts _ fl_V_19) (fun _ h9 => h9) rfl d_V_lastSize_21 ?_
    refine lv_aload_n hx hb d_V_lastSize_24 rfl (lv_at hl 0 rfl) ?_
    refine va_get (D := D) (ci := 6) (v := .int t_count) (C := "PageForm$Values") (T := F_V) (N := 5) hx hb hts in_V hown hK hP 0 rfl rfl 4 (by decide) (hts _ fl_V_27) (fun _ h9 => h9) rfl d_V_lastSize_25 ?_
    refine lv_iconst (v := 1) hx hb d_V_lastSize_28 (by decide) ?_
    refine lv_isub hx hb d_V_lastSize_29 ?_
    obtain ⟨g4, h⟩ := gd_at h
    refine va_iald hx hb hK hP 1 1 rfl rfl (inB_in g4) d_V_lastSize_30 ?_
    refine lv_isub hx hb d_V_lastSize_31 ?_
    exact ret2 _ (Option.some.inj h) d_V_lastSize_32 hP hD hS
  · have h := ift_at h c
    refine lv_iconst (v := 0) hx hb d_V_lastSize_7 (by decide) ?_
    refine lv_goto (tgt := 32) hx hb d_V_lastSize_8 (by decide) ?_
    exact ret2 _ (Option.some.inj h) d_V_lastSize_32 hP hD hS

def rm_V_addNumber : Room := { frames := 0, cells := 0, slots := 0, locals := 0 }
def f_V_addNumber (t_numbers_n : Nat) (t_count : Int32) (t_numbers : Nat → Int64) (v1 : Int64) : Option (Int32 × Int32 × (Nat → Int64)) :=
  (if t_count < (nI t_numbers_n) then gd (inB t_count t_numbers_n) (bnd (t_count + (1 : Int32)) (fun x3 => some ((1 : Int32), x3, vp_updL t_numbers t_count.toNatClampNeg v1))) else some ((0 : Int32), t_count, t_numbers))
set_option maxHeartbeats 4000000 in
set_option maxRecDepth 100000 in
theorem c_V_addNumber (l : Launch) (D : va_G) (k : ClassId × ClassId × ClassId) (a_t a_t_numbers a_t_texts a_t_starts : Nat) (t_numbers_n : Nat) (t_ofTexts : Int32) (t_count : Int32) (t_numbers : Nat → Int64) (v1 : Int64) (n : Nat) (out : Int32 × Int32 × (Nat → Int64)) (h : f_V_addNumber t_numbers_n t_count t_numbers v1 = some out) : Ct l D k y_V_addNumber b_V_addNumber 3 (some .boolean) rm_V_addNumber [.ref a_t, .long v1] [(a_t, .inr (6, [.ref a_t_numbers, .ref a_t_texts, .ref a_t_starts, .int t_ofTexts, .int t_count])), (a_t_numbers, .inl (k.2.2, t_numbers_n, .inr (.inl t_numbers)))] [(a_t, .inr (6, [.ref a_t_numbers, .ref a_t_texts, .ref a_t_starts, .int t_ofTexts, .int out.2.1])), (a_t_numbers, .inl (k.2.2, t_numbers_n, .inr (.inl out.2.2)))] (some (.int out.1)) := by
  refine Ct.ofZ (by decide) (Nat.le_of_ble_eq_true rfl) ?_
  intro p e s m args below meth c A Q ls hx hb hml hown hts hA hK hP hD hS hE hl ret
  have hown : s.vm.findClass "PageForm$Values" = some m.cls := hown
  have hl : lv_has ls 3 [(0, .ref a_t), (1, .long v1)] := hl
  have ret2 : ∀ (y0 : Int32) (y1 : Int32) (y2 : Nat → Int64) (_ : (y0, y1, y2) = out) {pc : Nat} {ls : Array Slot} {H : Heap} {locs : List Loc}, decode b_V_addNumber pc = .ok (.ireturn, 1) → narrow .boolean (.int y0) = .int y0 → va_P D CL [(a_t, .inr (6, [.ref a_t_numbers, .ref a_t_texts, .ref a_t_starts, .int t_ofTexts, .int y1])), (a_t_numbers, .inl (k.2.2, t_numbers_n, .inr (.inl y2)))] H → va_D A [(a_t, .inr (6, [.ref a_t_numbers, .ref a_t_texts, .ref a_t_starts, .int t_ofTexts, .int y1])), (a_t_numbers, .inl (k.2.2, t_numbers_n, .inr (.inl y2)))] → va_S A s.heap H locs → W p l e rm_V_addNumber s m args below meth c H locs 0 0 Q (F0 m pc ls [.int y0]) := by
    intro y0 y1 y2 e0; subst e0; exact ret
  clear ret
  unfold f_V_addNumber at h
  refine lv_aload_n hx hb d_V_addNumber_0 rfl (lv_at hl 0 rfl) ?_
  refine va_get (D := D) (ci := 6) (v := .int t_count) (C := "PageForm$Values") (T := F_V) (N := 5) hx hb hts in_V hown hK hP 0 rfl rfl 4 (by decide) (hts _ fl_V_27) (fun _ h9 => h9) rfl d_V_addNumber_1 ?_
  refine lv_aload_n hx hb d_V_addNumber_4 rfl (lv_at hl 0 rfl) ?_
  refine va_get (D := D) (ci := 6) (v := .ref a_t_numbers) (C := "PageForm$Values") (T := F_V) (N := 5) hx hb hts in_V hown hK hP 0 rfl rfl 0 (by decide) (hts _ fl_V_9) (fun _ h9 => h9) rfl d_V_addNumber_5 ?_
  refine va_alen hx hb hK hP 1 2 rfl rfl (v := nI t_numbers_n) rfl d_V_addNumber_8 ?_
  refine lv_icmp_lt (tgt := 14) hx hb d_V_addNumber_9 (by decide) (fun c => ?_) (fun c => ?_)
  · have h := ift_at h c
    refine lv_aload_n hx hb d_V_addNumber_14 rfl (lv_at hl 0 rfl) ?_
    refine va_get (D := D) (ci := 6) (v := .ref a_t_numbers) (C := "PageForm$Values") (T := F_V) (N := 5) hx hb hts in_V hown hK hP 0 rfl rfl 0 (by decide) (hts _ fl_V_9) (fun _ h9 => h9) rfl d_V_addNumber_15 ?_
    refine lv_aload_n hx hb d_V_addNumber_18 rfl (lv_at hl 0 rfl) ?_
    refine va_get (D := D) (ci := 6) (v := .int t_count) (C := "PageForm$Values") (T := F_V) (N := 5) hx hb hts in_V hown hK hP 0 rfl rfl 4 (by decide) (hts _ fl_V_27) (fun _ h9 => h9) rfl d_V_addNumber_19 ?_
    refine lv_lload_n hx hb d_V_addNumber_22 rfl (lv_at hl 1 rfl) ?_
    obtain ⟨g2, h⟩ := gd_at h
    refine va_last hx hb hK hP hD hS 1 2 rfl rfl (inB_in g2) d_V_addNumber_23 (fun H locs hP hD hS => ?_)
    have hP : va_P D CL [(a_t, .inr (6, [.ref a_t_numbers, .ref a_t_texts, .ref a_t_starts, .int t_ofTexts, .int t_count])), (a_t_numbers, .inl (k.2.2, t_numbers_n, .inr (.inl (vp_updL t_numbers t_count.toNatClampNeg v1))))] H := hP
    have hD : va_D A [(a_t, .inr (6, [.ref a_t_numbers, .ref a_t_texts, .ref a_t_starts, .int t_ofTexts, .int t_count])), (a_t_numbers, .inl (k.2.2, t_numbers_n, .inr (.inl (vp_updL t_numbers t_count.toNatClampNeg v1))))] := hD
    refine lv_aload_n hx hb d_V_addNumber_24 rfl (lv_at hl 0 rfl) ?_
    refine lv_dup hx hb d_V_addNumber_25 rfl ?_
    refine va_get (D := D) (ci := 6) (v := .int t_count) (C := "PageForm$Values") (T := F_V) (N := 5) hx hb hts in_V hown hK hP 0 rfl rfl 4 (by decide) (hts _ fl_V_27) (fun _ h9 => h9) rfl d_V_addNumber_26 ?_
    refine lv_iconst (v := 1) hx hb d_V_addNumber_29 (by decide) ?_
    refine lv_iadd hx hb d_V_addNumber_30 ?_
    refine lv_topi (fun x3 ex3 => ?_)
    have h := bnd_at h ex3
    refine va_put (D := D) (ci := 6) (v := .int x3) (ty := .int) (C := "PageForm$Values") (T := F_V) (N := 5) hx hb hts in_V t_V t_V_ok n_V hown hK hP hD hS 0 rfl rfl 4 (by decide) (hts _ fl_V_27) (fun _ h9 => h9) rfl (by decide +kernel) rfl rfl (Nat.le_of_ble_eq_true rfl) d_V_addNumber_31 (fun H locs hP hD hS => ?_)
    have hP : va_P D CL [(a_t, .inr (6, [.ref a_t_numbers, .ref a_t_texts, .ref a_t_starts, .int t_ofTexts, .int x3])), (a_t_numbers, .inl (k.2.2, t_numbers_n, .inr (.inl (vp_updL t_numbers t_count.toNatClampNeg v1))))] H := hP
    have hD : va_D A [(a_t, .inr (6, [.ref a_t_numbers, .ref a_t_texts, .ref a_t_starts, .int t_ofTexts, .int x3])), (a_t_numbers, .inl (k.2.2, t_numbers_n, .inr (.inl (vp_updL t_numbers t_count.toNatClampNeg v1))))] := hD
    refine lv_iconst (v := 1) hx hb d_V_addNumber_34 (by decide) ?_
    exact ret2 _ _ _ (Option.some.inj h) d_V_addNumber_35 nb1 hP hD hS
  · have h := iff_at h c
    refine lv_iconst (v := 0) hx hb d_V_addNumber_12 (by decide) ?_
    exact ret2 _ _ _ (Option.some.inj h) d_V_addNumber_13 nb0 hP hD hS

def rm_V_addText : Room := { frames := 1, cells := 0, slots := 0, locals := 40 }
def f_V_addText (t_numbers_n : Nat) (t_starts_n : Nat) (t_texts_n : Nat) (p2_n : Nat) (t_count : Int32) (t_starts : Nat → Int32) (t_texts : Nat → Int32) (p2 : Nat → Int32) (v1 : Int32) (v3 : Int32) (v4 : Int32) : Option (Int32 × Int32 × (Nat → Int32) × (Nat → Int32)) :=
  (if v1 < 0 then some ((0 : Int32), t_count, t_starts, t_texts) else Option.bind (f_V_lastSize t_starts_n t_count t_starts) (fun o7 => (if o7 < v1 then some ((0 : Int32), t_count, t_starts, t_texts) else (if v4 < 0 then some ((0 : Int32), t_count, t_starts, t_texts) else (if v3 < 0 then some ((0 : Int32), t_count, t_starts, t_texts) else (if v4 ≤ (nI p2_n - v3) then gd (inB t_count t_starts_n) (bnd (t_starts t_count.toNatClampNeg) (fun x9 => (if (nI t_numbers_n) ≤ t_count then some ((0 : Int32), t_count, t_starts, t_texts) else (if (v1 + v4) ≤ (nI t_texts_n - x9) then Option.bind (f_V_lastSize t_starts_n t_count t_starts) (fun o10 => gd (cpB t_texts t_texts_n t_texts_n (x9 - o10) x9 v1) (gd (cpB p2 p2_n t_texts_n v3 (x9 + v1) v4) (bnd (t_count + (1 : Int32)) (fun x13 => bnd ((x9 + v1) + v4) (fun x14 => gd (inB x13 t_starts_n) (some ((1 : Int32), x13, upd t_starts x13.toNatClampNeg x14, va_cpy p2 (va_cpy t_texts t_texts (x9 - o10).toNatClampNeg x9.toNatClampNeg v1.toNatClampNeg) v3.toNatClampNeg (x9 + v1).toNatClampNeg v4.toNatClampNeg))))))) else some ((0 : Int32), t_count, t_starts, t_texts))))) else some ((0 : Int32), t_count, t_starts, t_texts)))))))
set_option maxHeartbeats 4000000 in
set_option maxRecDepth 100000 in
theorem c_V_addText (l : Launch) (D : va_G) (k : ClassId × ClassId × ClassId) (a_t a_t_numbers a_t_texts a_t_starts a_p2 : Nat) (t_numbers_n t_starts_n t_texts_n p2_n : Nat) (t_ofTexts : Int32) (t_count : Int32) (t_numbers : Nat → Int64) (t_starts : Nat → Int32) (t_texts : Nat → Int32) (p2 : Nat → Int32) (v1 : Int32) (v3 : Int32) (v4 : Int32) (n : Nat) (out : Int32 × Int32 × (Nat → Int32) × (Nat → Int32)) (h : f_V_addText t_numbers_n t_starts_n t_texts_n p2_n t_count t_starts t_texts p2 v1 v3 v4 = some out) : Ct l D k y_V_addText b_V_addText 6 (some .boolean) rm_V_addText [.ref a_t, .int v1, .ref a_p2, .int v3, .int v4] [(a_t, .inr (6, [.ref a_t_numbers, .ref a_t_texts, .ref a_t_starts, .int t_ofTexts, .int t_count])), (a_t_numbers, .inl (k.2.2, t_numbers_n, .inr (.inl t_numbers))), (a_t_starts, .inl (k.2.1, t_starts_n, .inl t_starts)), (a_t_texts, .inl (k.1, t_texts_n, .inl t_texts)), (a_p2, .inl (k.1, p2_n, .inl p2))] [(a_t, .inr (6, [.ref a_t_numbers, .ref a_t_texts, .ref a_t_starts, .int t_ofTexts, .int out.2.1])), (a_t_numbers, .inl (k.2.2, t_numbers_n, .inr (.inl t_numbers))), (a_t_starts, .inl (k.2.1, t_starts_n, .inl out.2.2.1)), (a_t_texts, .inl (k.1, t_texts_n, .inl out.2.2.2)), (a_p2, .inl (k.1, p2_n, .inl p2))] (some (.int out.1)) := by
  refine Ct.ofZ (by decide) (Nat.le_of_ble_eq_true rfl) ?_
  intro p e s m args below meth c A Q ls hx hb hml hown hts hA hK hP hD hS hE hl ret
  have hown : s.vm.findClass "PageForm$Values" = some m.cls := hown
  have hl : lv_has ls 6 [(0, .ref a_t), (1, .int v1), (2, .ref a_p2), (3, .int v3), (4, .int v4)] := hl
  have ret2 : ∀ (y0 : Int32) (y1 : Int32) (y2 : Nat → Int32) (y3 : Nat → Int32) (_ : (y0, y1, y2, y3) = out) {pc : Nat} {ls : Array Slot} {H : Heap} {locs : List Loc}, decode b_V_addText pc = .ok (.ireturn, 1) → narrow .boolean (.int y0) = .int y0 → va_P D CL [(a_t, .inr (6, [.ref a_t_numbers, .ref a_t_texts, .ref a_t_starts, .int t_ofTexts, .int y1])), (a_t_numbers, .inl (k.2.2, t_numbers_n, .inr (.inl t_numbers))), (a_t_starts, .inl (k.2.1, t_starts_n, .inl y2)), (a_t_texts, .inl (k.1, t_texts_n, .inl y3)), (a_p2, .inl (k.1, p2_n, .inl p2))] H → va_D A [(a_t, .inr (6, [.ref a_t_numbers, .ref a_t_texts, .ref a_t_starts, .int t_ofTexts, .int y1])), (a_t_numbers, .inl (k.2.2, t_numbers_n, .inr (.inl t_numbers))), (a_t_starts, .inl (k.2.1, t_starts_n, .inl y2)), (a_t_texts, .inl (k.1, t_texts_n, .inl y3)), (a_p2, .inl (k.1, p2_n, .inl p2))] → va_S A s.heap H locs → W p l e rm_V_addText s m args below meth c H locs 0 0 Q (F0 m pc ls [.int y0]) := by
    intro y0 y1 y2 y3 e0; subst e0; exact ret
  clear ret
  unfold f_V_addText at h
  refine lv_iload_n hx hb d_V_addText_0 rfl (lv_at hl 1 rfl) ?_
  refine lv_if_lt (tgt := 30) hx hb d_V_addText_1 (by decide) (fun c => ?_) (fun c => ?_)
  · have h := ift_at h c
    refine lv_iconst (v := 0) hx hb d_V_addText_30 (by decide) ?_
    exact ret2 _ _ _ _ (Option.some.inj h) d_V_addText_31 nb0 hP hD hS
  · have h := iff_at h c
    refine lv_iload_n hx hb d_V_addText_4 rfl (lv_at hl 1 rfl) ?_
    refine lv_aload_n hx hb d_V_addText_5 rfl (lv_at hl 0 rfl) ?_
    obtain ⟨o7, ho7, h⟩ := obd_at h
    refine g_V (As := []) (rest := [.int v1]) hx hb hml hown hts hA hK hP hD hS hE (c_V_lastSize l D k a_t a_t_numbers a_t_texts a_t_starts t_starts_n t_ofTexts t_count t_starts n o7 ho7) mw_V_lastSize mi_V_lastSize ml_V_31 [0, 2] rfl (by decide) rfl rfl rfl 0 rfl rfl rfl rfl rfl hl.1 rfl (Nat.le_of_ble_eq_true rfl) ⟨Nat.zero_le _, Nat.zero_le _⟩ d_V_addText_6 (fun H locs hP hD hS => ?_)
    have hP : va_P D CL [(a_t, .inr (6, [.ref a_t_numbers, .ref a_t_texts, .ref a_t_starts, .int t_ofTexts, .int t_count])), (a_t_numbers, .inl (k.2.2, t_numbers_n, .inr (.inl t_numbers))), (a_t_starts, .inl (k.2.1, t_starts_n, .inl t_starts)), (a_t_texts, .inl (k.1, t_texts_n, .inl t_texts)), (a_p2, .inl (k.1, p2_n, .inl p2))] H := hP
    have hD : va_D A [(a_t, .inr (6, [.ref a_t_numbers, .ref a_t_texts, .ref a_t_starts, .int t_ofTexts, .int t_count])), (a_t_numbers, .inl (k.2.2, t_numbers_n, .inr (.inl t_numbers))), (a_t_starts, .inl (k.2.1, t_starts_n, .inl t_starts)), (a_t_texts, .inl (k.1, t_texts_n, .inl t_texts)), (a_p2, .inl (k.1, p2_n, .inl p2))] := hD
    refine W.eq (g2 := F0 m 9 ls [.int o7, .int v1]) rfl ?_
    refine lv_icmp_gt (tgt := 30) hx hb d_V_addText_9 (by decide) (fun c => ?_) (fun c => ?_)
    · have h := ift_at h c
      refine lv_iconst (v := 0) hx hb d_V_addText_30 (by decide) ?_
      exact ret2 _ _ _ _ (Option.some.inj h) d_V_addText_31 nb0 hP hD hS
    · have h := iff_at h c
      refine lv_iload hx hb d_V_addText_12 (lv_at hl 4 rfl) ?_
      refine lv_if_lt (tgt := 30) hx hb d_V_addText_14 (by decide) (fun c => ?_) (fun c => ?_)
      · have h := ift_at h c
        refine lv_iconst (v := 0) hx hb d_V_addText_30 (by decide) ?_
        exact ret2 _ _ _ _ (Option.some.inj h) d_V_addText_31 nb0 hP hD hS
      · have h := iff_at h c
        refine lv_iload_n hx hb d_V_addText_17 rfl (lv_at hl 3 rfl) ?_
        refine lv_if_lt (tgt := 30) hx hb d_V_addText_18 (by decide) (fun c => ?_) (fun c => ?_)
        · have h := ift_at h c
          refine lv_iconst (v := 0) hx hb d_V_addText_30 (by decide) ?_
          exact ret2 _ _ _ _ (Option.some.inj h) d_V_addText_31 nb0 hP hD hS
        · have h := iff_at h c
          refine lv_iload hx hb d_V_addText_21 (lv_at hl 4 rfl) ?_
          refine lv_aload_n hx hb d_V_addText_23 rfl (lv_at hl 2 rfl) ?_
          refine va_alen hx hb hK hP 4 0 rfl rfl (v := nI p2_n) rfl d_V_addText_24 ?_
          refine lv_iload_n hx hb d_V_addText_25 rfl (lv_at hl 3 rfl) ?_
          refine lv_isub hx hb d_V_addText_26 ?_
          refine lv_icmp_le (tgt := 32) hx hb d_V_addText_27 (by decide) (fun c => ?_) (fun c => ?_)
          · have h := ift_at h c
            refine lv_aload_n hx hb d_V_addText_32 rfl (lv_at hl 0 rfl) ?_
            refine va_get (D := D) (ci := 6) (v := .ref a_t_starts) (C := "PageForm$Values") (T := F_V) (N := 5) hx hb hts in_V hown hK hP 0 rfl rfl 2 (by decide) (hts _ fl_V_19) (fun _ h9 => h9) rfl d_V_addText_33 ?_
            refine lv_aload_n hx hb d_V_addText_36 rfl (lv_at hl 0 rfl) ?_
            refine va_get (D := D) (ci := 6) (v := .int t_count) (C := "PageForm$Values") (T := F_V) (N := 5) hx hb hts in_V hown hK hP 0 rfl rfl 4 (by decide) (hts _ fl_V_27) (fun _ h9 => h9) rfl d_V_addText_37 ?_
            obtain ⟨g8, h⟩ := gd_at h
            refine va_iald hx hb hK hP 2 1 rfl rfl (inB_in g8) d_V_addText_40 ?_
            refine lv_topi (fun x9 ex9 => ?_)
            have h := bnd_at h ex9
            refine lv_istore (lv' := [(5, .int x9), (0, .ref a_t), (1, .int v1), (2, .ref a_p2), (3, .int v3), (4, .int v4)]) hx hb d_V_addText_41 hl (by decide) rfl (fun ls hl => ?_)
            refine lv_aload_n hx hb d_V_addText_43 rfl (lv_at hl 1 rfl) ?_
            refine va_get (D := D) (ci := 6) (v := .int t_count) (C := "PageForm$Values") (T := F_V) (N := 5) hx hb hts in_V hown hK hP 0 rfl rfl 4 (by decide) (hts _ fl_V_27) (fun _ h9 => h9) rfl d_V_addText_44 ?_
            refine lv_aload_n hx hb d_V_addText_47 rfl (lv_at hl 1 rfl) ?_
            refine va_get (D := D) (ci := 6) (v := .ref a_t_numbers) (C := "PageForm$Values") (T := F_V) (N := 5) hx hb hts in_V hown hK hP 0 rfl rfl 0 (by decide) (hts _ fl_V_9) (fun _ h9 => h9) rfl d_V_addText_48 ?_
            refine va_alen hx hb hK hP 1 2 rfl rfl (v := nI t_numbers_n) rfl d_V_addText_51 ?_
            refine lv_icmp_ge (tgt := 70) hx hb d_V_addText_52 (by decide) (fun c => ?_) (fun c => ?_)
            · have h := ift_at h c
              refine lv_iconst (v := 0) hx hb d_V_addText_70 (by decide) ?_
              exact ret2 _ _ _ _ (Option.some.inj h) d_V_addText_71 nb0 hP hD hS
            · have h := iff_at h c
              refine lv_iload_n hx hb d_V_addText_55 rfl (lv_at hl 2 rfl) ?_
              refine lv_iload hx hb d_V_addText_56 (lv_at hl 5 rfl) ?_
              refine lv_iadd hx hb d_V_addText_58 ?_
              refine lv_aload_n hx hb d_V_addText_59 rfl (lv_at hl 1 rfl) ?_
              refine va_get (D := D) (ci := 6) (v := .ref a_t_texts) (C := "PageForm$Values") (T := F_V) (N := 5) hx hb hts in_V hown hK hP 0 rfl rfl 1 (by decide) (hts _ fl_V_15) (fun _ h9 => h9) rfl d_V_addText_60 ?_
              refine va_alen hx hb hK hP 3 0 rfl rfl (v := nI t_texts_n) rfl d_V_addText_63 ?_
              refine lv_iload hx hb d_V_addText_64 (lv_at hl 0 rfl) ?_
              refine lv_isub hx hb d_V_addText_66 ?_
              refine lv_icmp_le (tgt := 72) hx hb d_V_addText_67 (by decide) (fun c => ?_) (fun c => ?_)
              · have h := ift_at h c
                refine lv_aload_n hx hb d_V_addText_72 rfl (lv_at hl 1 rfl) ?_
                refine va_get (D := D) (ci := 6) (v := .ref a_t_texts) (C := "PageForm$Values") (T := F_V) (N := 5) hx hb hts in_V hown hK hP 0 rfl rfl 1 (by decide) (hts _ fl_V_15) (fun _ h9 => h9) rfl d_V_addText_73 ?_
                refine lv_iload hx hb d_V_addText_76 (lv_at hl 0 rfl) ?_
                refine lv_aload_n hx hb d_V_addText_78 rfl (lv_at hl 1 rfl) ?_
                obtain ⟨o10, ho10, h⟩ := obd_at h
                refine g_V (As := []) (rest := [.int x9, .ref a_t_texts]) hx hb hml hown hts hA hK hP hD hS hE (c_V_lastSize l D k a_t a_t_numbers a_t_texts a_t_starts t_starts_n t_ofTexts t_count t_starts n o10 ho10) mw_V_lastSize mi_V_lastSize ml_V_31 [0, 2] rfl (by decide) rfl rfl rfl 0 rfl rfl rfl rfl rfl hl.1 rfl (Nat.le_of_ble_eq_true rfl) ⟨Nat.zero_le _, Nat.zero_le _⟩ d_V_addText_79 (fun H locs hP hD hS => ?_)
                have hP : va_P D CL [(a_t, .inr (6, [.ref a_t_numbers, .ref a_t_texts, .ref a_t_starts, .int t_ofTexts, .int t_count])), (a_t_numbers, .inl (k.2.2, t_numbers_n, .inr (.inl t_numbers))), (a_t_starts, .inl (k.2.1, t_starts_n, .inl t_starts)), (a_t_texts, .inl (k.1, t_texts_n, .inl t_texts)), (a_p2, .inl (k.1, p2_n, .inl p2))] H := hP
                have hD : va_D A [(a_t, .inr (6, [.ref a_t_numbers, .ref a_t_texts, .ref a_t_starts, .int t_ofTexts, .int t_count])), (a_t_numbers, .inl (k.2.2, t_numbers_n, .inr (.inl t_numbers))), (a_t_starts, .inl (k.2.1, t_starts_n, .inl t_starts)), (a_t_texts, .inl (k.1, t_texts_n, .inl t_texts)), (a_p2, .inl (k.1, p2_n, .inl p2))] := hD
                refine W.eq (g2 := F0 m 82 ls [.int o10, .int x9, .ref a_t_texts]) rfl ?_
                refine lv_isub hx hb d_V_addText_82 ?_
                refine lv_aload_n hx hb d_V_addText_83 rfl (lv_at hl 1 rfl) ?_
                refine va_get (D := D) (ci := 6) (v := .ref a_t_texts) (C := "PageForm$Values") (T := F_V) (N := 5) hx hb hts in_V hown hK hP 0 rfl rfl 1 (by decide) (hts _ fl_V_15) (fun _ h9 => h9) rfl d_V_addText_84 ?_
                refine lv_iload hx hb d_V_addText_87 (lv_at hl 0 rfl) ?_
                refine lv_iload_n hx hb d_V_addText_89 rfl (lv_at hl 2 rfl) ?_
                obtain ⟨g11, h⟩ := gd_at h
                obtain ⟨g111, g112, g113, g114, g115, g116⟩ := cpB_c g11
                refine va_copyi hx hb (hml.trans hl.1.symm) hown (hts _ ml_V_35) (hts _ nat_copy) (hts _ st_copy) (hts _ ini_JS) hK hP hD hS 3 3 0 0 rfl rfl rfl rfl rfl g111 g112 g113 g114 g115 g116 (Nat.le_of_ble_eq_true rfl) (Nat.le_of_ble_eq_true rfl) d_V_addText_90 (fun H locs hP hD hS => ?_)
                have hP : va_P D CL [(a_t, .inr (6, [.ref a_t_numbers, .ref a_t_texts, .ref a_t_starts, .int t_ofTexts, .int t_count])), (a_t_numbers, .inl (k.2.2, t_numbers_n, .inr (.inl t_numbers))), (a_t_starts, .inl (k.2.1, t_starts_n, .inl t_starts)), (a_t_texts, .inl (k.1, t_texts_n, .inl (va_cpy t_texts t_texts (x9 - o10).toNatClampNeg x9.toNatClampNeg v1.toNatClampNeg))), (a_p2, .inl (k.1, p2_n, .inl p2))] H := hP
                have hD : va_D A [(a_t, .inr (6, [.ref a_t_numbers, .ref a_t_texts, .ref a_t_starts, .int t_ofTexts, .int t_count])), (a_t_numbers, .inl (k.2.2, t_numbers_n, .inr (.inl t_numbers))), (a_t_starts, .inl (k.2.1, t_starts_n, .inl t_starts)), (a_t_texts, .inl (k.1, t_texts_n, .inl (va_cpy t_texts t_texts (x9 - o10).toNatClampNeg x9.toNatClampNeg v1.toNatClampNeg))), (a_p2, .inl (k.1, p2_n, .inl p2))] := hD
                refine lv_aload_n hx hb d_V_addText_93 rfl (lv_at hl 3 rfl) ?_
                refine lv_iload_n hx hb d_V_addText_94 rfl (lv_at hl 4 rfl) ?_
                refine lv_aload_n hx hb d_V_addText_95 rfl (lv_at hl 1 rfl) ?_
                refine va_get (D := D) (ci := 6) (v := .ref a_t_texts) (C := "PageForm$Values") (T := F_V) (N := 5) hx hb hts in_V hown hK hP 0 rfl rfl 1 (by decide) (hts _ fl_V_15) (fun _ h9 => h9) rfl d_V_addText_96 ?_
                refine lv_iload hx hb d_V_addText_99 (lv_at hl 0 rfl) ?_
                refine lv_iload_n hx hb d_V_addText_101 rfl (lv_at hl 2 rfl) ?_
                refine lv_iadd hx hb d_V_addText_102 ?_
                refine lv_iload hx hb d_V_addText_103 (lv_at hl 5 rfl) ?_
                obtain ⟨g12, h⟩ := gd_at h
                obtain ⟨g121, g122, g123, g124, g125, g126⟩ := cpB_c g12
                refine va_copyi hx hb (hml.trans hl.1.symm) hown (hts _ ml_V_35) (hts _ nat_copy) (hts _ st_copy) (hts _ ini_JS) hK hP hD hS 4 3 0 0 rfl rfl rfl rfl rfl g121 g122 g123 g124 g125 g126 (Nat.le_of_ble_eq_true rfl) (Nat.le_of_ble_eq_true rfl) d_V_addText_105 (fun H locs hP hD hS => ?_)
                have hP : va_P D CL [(a_t, .inr (6, [.ref a_t_numbers, .ref a_t_texts, .ref a_t_starts, .int t_ofTexts, .int t_count])), (a_t_numbers, .inl (k.2.2, t_numbers_n, .inr (.inl t_numbers))), (a_t_starts, .inl (k.2.1, t_starts_n, .inl t_starts)), (a_t_texts, .inl (k.1, t_texts_n, .inl (va_cpy p2 (va_cpy t_texts t_texts (x9 - o10).toNatClampNeg x9.toNatClampNeg v1.toNatClampNeg) v3.toNatClampNeg (x9 + v1).toNatClampNeg v4.toNatClampNeg))), (a_p2, .inl (k.1, p2_n, .inl p2))] H := hP
                have hD : va_D A [(a_t, .inr (6, [.ref a_t_numbers, .ref a_t_texts, .ref a_t_starts, .int t_ofTexts, .int t_count])), (a_t_numbers, .inl (k.2.2, t_numbers_n, .inr (.inl t_numbers))), (a_t_starts, .inl (k.2.1, t_starts_n, .inl t_starts)), (a_t_texts, .inl (k.1, t_texts_n, .inl (va_cpy p2 (va_cpy t_texts t_texts (x9 - o10).toNatClampNeg x9.toNatClampNeg v1.toNatClampNeg) v3.toNatClampNeg (x9 + v1).toNatClampNeg v4.toNatClampNeg))), (a_p2, .inl (k.1, p2_n, .inl p2))] := hD
                refine lv_aload_n hx hb d_V_addText_108 rfl (lv_at hl 1 rfl) ?_
                refine lv_dup hx hb d_V_addText_109 rfl ?_
                refine va_get (D := D) (ci := 6) (v := .int t_count) (C := "PageForm$Values") (T := F_V) (N := 5) hx hb hts in_V hown hK hP 0 rfl rfl 4 (by decide) (hts _ fl_V_27) (fun _ h9 => h9) rfl d_V_addText_110 ?_
                refine lv_iconst (v := 1) hx hb d_V_addText_113 (by decide) ?_
                refine lv_iadd hx hb d_V_addText_114 ?_
                refine lv_topi (fun x13 ex13 => ?_)
                have h := bnd_at h ex13
                refine va_put (D := D) (ci := 6) (v := .int x13) (ty := .int) (C := "PageForm$Values") (T := F_V) (N := 5) hx hb hts in_V t_V t_V_ok n_V hown hK hP hD hS 0 rfl rfl 4 (by decide) (hts _ fl_V_27) (fun _ h9 => h9) rfl (by decide +kernel) rfl rfl (Nat.le_of_ble_eq_true rfl) d_V_addText_115 (fun H locs hP hD hS => ?_)
                have hP : va_P D CL [(a_t, .inr (6, [.ref a_t_numbers, .ref a_t_texts, .ref a_t_starts, .int t_ofTexts, .int x13])), (a_t_numbers, .inl (k.2.2, t_numbers_n, .inr (.inl t_numbers))), (a_t_starts, .inl (k.2.1, t_starts_n, .inl t_starts)), (a_t_texts, .inl (k.1, t_texts_n, .inl (va_cpy p2 (va_cpy t_texts t_texts (x9 - o10).toNatClampNeg x9.toNatClampNeg v1.toNatClampNeg) v3.toNatClampNeg (x9 + v1).toNatClampNeg v4.toNatClampNeg))), (a_p2, .inl (k.1, p2_n, .inl p2))] H := hP
                have hD : va_D A [(a_t, .inr (6, [.ref a_t_numbers, .ref a_t_texts, .ref a_t_starts, .int t_ofTexts, .int x13])), (a_t_numbers, .inl (k.2.2, t_numbers_n, .inr (.inl t_numbers))), (a_t_starts, .inl (k.2.1, t_starts_n, .inl t_starts)), (a_t_texts, .inl (k.1, t_texts_n, .inl (va_cpy p2 (va_cpy t_texts t_texts (x9 - o10).toNatClampNeg x9.toNatClampNeg v1.toNatClampNeg) v3.toNatClampNeg (x9 + v1).toNatClampNeg v4.toNatClampNeg))), (a_p2, .inl (k.1, p2_n, .inl p2))] := hD
                refine lv_aload_n hx hb d_V_addText_118 rfl (lv_at hl 1 rfl) ?_
                refine va_get (D := D) (ci := 6) (v := .ref a_t_starts) (C := "PageForm$Values") (T := F_V) (N := 5) hx hb hts in_V hown hK hP 0 rfl rfl 2 (by decide) (hts _ fl_V_19) (fun _ h9 => h9) rfl d_V_addText_119 ?_
                refine lv_aload_n hx hb d_V_addText_122 rfl (lv_at hl 1 rfl) ?_
                refine va_get (D := D) (ci := 6) (v := .int x13) (C := "PageForm$Values") (T := F_V) (N := 5) hx hb hts in_V hown hK hP 0 rfl rfl 4 (by decide) (hts _ fl_V_27) (fun _ h9 => h9) rfl d_V_addText_123 ?_
                refine lv_iload hx hb d_V_addText_126 (lv_at hl 0 rfl) ?_
                refine lv_iload_n hx hb d_V_addText_128 rfl (lv_at hl 2 rfl) ?_
                refine lv_iadd hx hb d_V_addText_129 ?_
                refine lv_iload hx hb d_V_addText_130 (lv_at hl 5 rfl) ?_
                refine lv_iadd hx hb d_V_addText_132 ?_
                refine lv_topi (fun x14 ex14 => ?_)
                have h := bnd_at h ex14
                obtain ⟨g15, h⟩ := gd_at h
                refine va_iast hx hb hK hP hD hS 2 1 rfl rfl (inB_in g15) d_V_addText_133 (fun H locs hP hD hS => ?_)
                have hP : va_P D CL [(a_t, .inr (6, [.ref a_t_numbers, .ref a_t_texts, .ref a_t_starts, .int t_ofTexts, .int x13])), (a_t_numbers, .inl (k.2.2, t_numbers_n, .inr (.inl t_numbers))), (a_t_starts, .inl (k.2.1, t_starts_n, .inl (upd t_starts x13.toNatClampNeg x14))), (a_t_texts, .inl (k.1, t_texts_n, .inl (va_cpy p2 (va_cpy t_texts t_texts (x9 - o10).toNatClampNeg x9.toNatClampNeg v1.toNatClampNeg) v3.toNatClampNeg (x9 + v1).toNatClampNeg v4.toNatClampNeg))), (a_p2, .inl (k.1, p2_n, .inl p2))] H := hP
                have hD : va_D A [(a_t, .inr (6, [.ref a_t_numbers, .ref a_t_texts, .ref a_t_starts, .int t_ofTexts, .int x13])), (a_t_numbers, .inl (k.2.2, t_numbers_n, .inr (.inl t_numbers))), (a_t_starts, .inl (k.2.1, t_starts_n, .inl (upd t_starts x13.toNatClampNeg x14))), (a_t_texts, .inl (k.1, t_texts_n, .inl (va_cpy p2 (va_cpy t_texts t_texts (x9 - o10).toNatClampNeg x9.toNatClampNeg v1.toNatClampNeg) v3.toNatClampNeg (x9 + v1).toNatClampNeg v4.toNatClampNeg))), (a_p2, .inl (k.1, p2_n, .inl p2))] := hD
                refine lv_iconst (v := 1) hx hb d_V_addText_134 (by decide) ?_
                exact ret2 _ _ _ _ (Option.some.inj h) d_V_addText_135 nb1 hP hD hS
              · have h := iff_at h c
                refine lv_iconst (v := 0) hx hb d_V_addText_70 (by decide) ?_
                exact ret2 _ _ _ _ (Option.some.inj h) d_V_addText_71 nb0 hP hD hS
          · have h := iff_at h c
            refine lv_iconst (v := 0) hx hb d_V_addText_30 (by decide) ?_
            exact ret2 _ _ _ _ (Option.some.inj h) d_V_addText_31 nb0 hP hD hS

def rm_V_addFrom : Room := { frames := 2, cells := 0, slots := 0, locals := 65 }
def f_V_addFrom (t_numbers_n : Nat) (t_starts_n : Nat) (t_texts_n : Nat) (p1_numbers_n : Nat) (p1_starts_n : Nat) (p1_texts_n : Nat) (t_ofTexts : Int32) (t_count : Int32) (t_numbers : Nat → Int64) (t_starts : Nat → Int32) (t_texts : Nat → Int32) (p1_numbers : Nat → Int64) (p1_starts : Nat → Int32) (p1_texts : Nat → Int32) (v2 : Int32) : Option (Int32 × Int32 × (Nat → Int64) × (Nat → Int32) × (Nat → Int32)) :=
  (if t_ofTexts = 0 then gd (inB v2 p1_numbers_n) (Option.bind (f_V_addNumber t_numbers_n t_count t_numbers (p1_numbers v2.toNatClampNeg)) (fun o7 => gd (isB o7.1) (some (o7.1, o7.2.1, o7.2.2, t_starts, t_texts)))) else gd (inB v2 p1_starts_n) (Option.bind (f_V_sizeOf p1_starts_n p1_starts v2) (fun o10 => Option.bind (f_V_addText t_numbers_n t_starts_n t_texts_n p1_texts_n t_count t_starts t_texts p1_texts (0 : Int32) (p1_starts v2.toNatClampNeg) o10) (fun o11 => gd (isB o11.1) (some (o11.1, o11.2.1, t_numbers, o11.2.2.1, o11.2.2.2))))))
set_option maxHeartbeats 4000000 in
set_option maxRecDepth 100000 in
theorem c_V_addFrom (l : Launch) (D : va_G) (k : ClassId × ClassId × ClassId) (a_t a_t_numbers a_t_texts a_t_starts a_p1 a_p1_numbers a_p1_texts a_p1_starts : Nat) (t_numbers_n t_starts_n t_texts_n p1_numbers_n p1_starts_n p1_texts_n : Nat) (t_ofTexts : Int32) (t_count : Int32) (t_numbers : Nat → Int64) (t_starts : Nat → Int32) (t_texts : Nat → Int32) (p1_ofTexts : Int32) (p1_count : Int32) (p1_numbers : Nat → Int64) (p1_starts : Nat → Int32) (p1_texts : Nat → Int32) (v2 : Int32) (n : Nat) (out : Int32 × Int32 × (Nat → Int64) × (Nat → Int32) × (Nat → Int32)) (h : f_V_addFrom t_numbers_n t_starts_n t_texts_n p1_numbers_n p1_starts_n p1_texts_n t_ofTexts t_count t_numbers t_starts t_texts p1_numbers p1_starts p1_texts v2 = some out) : Ct l D k y_V_addFrom b_V_addFrom 3 (some .boolean) rm_V_addFrom [.ref a_t, .ref a_p1, .int v2] [(a_t, .inr (6, [.ref a_t_numbers, .ref a_t_texts, .ref a_t_starts, .int t_ofTexts, .int t_count])), (a_t_numbers, .inl (k.2.2, t_numbers_n, .inr (.inl t_numbers))), (a_t_starts, .inl (k.2.1, t_starts_n, .inl t_starts)), (a_t_texts, .inl (k.1, t_texts_n, .inl t_texts)), (a_p1, .inr (6, [.ref a_p1_numbers, .ref a_p1_texts, .ref a_p1_starts, .int p1_ofTexts, .int p1_count])), (a_p1_numbers, .inl (k.2.2, p1_numbers_n, .inr (.inl p1_numbers))), (a_p1_starts, .inl (k.2.1, p1_starts_n, .inl p1_starts)), (a_p1_texts, .inl (k.1, p1_texts_n, .inl p1_texts))] [(a_t, .inr (6, [.ref a_t_numbers, .ref a_t_texts, .ref a_t_starts, .int t_ofTexts, .int out.2.1])), (a_t_numbers, .inl (k.2.2, t_numbers_n, .inr (.inl out.2.2.1))), (a_t_starts, .inl (k.2.1, t_starts_n, .inl out.2.2.2.1)), (a_t_texts, .inl (k.1, t_texts_n, .inl out.2.2.2.2)), (a_p1, .inr (6, [.ref a_p1_numbers, .ref a_p1_texts, .ref a_p1_starts, .int p1_ofTexts, .int p1_count])), (a_p1_numbers, .inl (k.2.2, p1_numbers_n, .inr (.inl p1_numbers))), (a_p1_starts, .inl (k.2.1, p1_starts_n, .inl p1_starts)), (a_p1_texts, .inl (k.1, p1_texts_n, .inl p1_texts))] (some (.int out.1)) := by
  refine Ct.ofZ (by decide) (Nat.le_of_ble_eq_true rfl) ?_
  intro p e s m args below meth c A Q ls hx hb hml hown hts hA hK hP hD hS hE hl ret
  have hown : s.vm.findClass "PageForm$Values" = some m.cls := hown
  have hl : lv_has ls 3 [(0, .ref a_t), (1, .ref a_p1), (2, .int v2)] := hl
  have ret2 : ∀ (y0 : Int32) (y1 : Int32) (y2 : Nat → Int64) (y3 : Nat → Int32) (y4 : Nat → Int32) (_ : (y0, y1, y2, y3, y4) = out) {pc : Nat} {ls : Array Slot} {H : Heap} {locs : List Loc}, decode b_V_addFrom pc = .ok (.ireturn, 1) → narrow .boolean (.int y0) = .int y0 → va_P D CL [(a_t, .inr (6, [.ref a_t_numbers, .ref a_t_texts, .ref a_t_starts, .int t_ofTexts, .int y1])), (a_t_numbers, .inl (k.2.2, t_numbers_n, .inr (.inl y2))), (a_t_starts, .inl (k.2.1, t_starts_n, .inl y3)), (a_t_texts, .inl (k.1, t_texts_n, .inl y4)), (a_p1, .inr (6, [.ref a_p1_numbers, .ref a_p1_texts, .ref a_p1_starts, .int p1_ofTexts, .int p1_count])), (a_p1_numbers, .inl (k.2.2, p1_numbers_n, .inr (.inl p1_numbers))), (a_p1_starts, .inl (k.2.1, p1_starts_n, .inl p1_starts)), (a_p1_texts, .inl (k.1, p1_texts_n, .inl p1_texts))] H → va_D A [(a_t, .inr (6, [.ref a_t_numbers, .ref a_t_texts, .ref a_t_starts, .int t_ofTexts, .int y1])), (a_t_numbers, .inl (k.2.2, t_numbers_n, .inr (.inl y2))), (a_t_starts, .inl (k.2.1, t_starts_n, .inl y3)), (a_t_texts, .inl (k.1, t_texts_n, .inl y4)), (a_p1, .inr (6, [.ref a_p1_numbers, .ref a_p1_texts, .ref a_p1_starts, .int p1_ofTexts, .int p1_count])), (a_p1_numbers, .inl (k.2.2, p1_numbers_n, .inr (.inl p1_numbers))), (a_p1_starts, .inl (k.2.1, p1_starts_n, .inl p1_starts)), (a_p1_texts, .inl (k.1, p1_texts_n, .inl p1_texts))] → va_S A s.heap H locs → W p l e rm_V_addFrom s m args below meth c H locs 0 0 Q (F0 m pc ls [.int y0]) := by
    intro y0 y1 y2 y3 y4 e0; subst e0; exact ret
  clear ret
  unfold f_V_addFrom at h
  refine lv_aload_n hx hb d_V_addFrom_0 rfl (lv_at hl 0 rfl) ?_
  refine va_get (D := D) (ci := 6) (v := .int t_ofTexts) (C := "PageForm$Values") (T := F_V) (N := 5) hx hb hts in_V hown hK hP 0 rfl rfl 3 (by decide) (hts _ fl_V_23) (fun _ h9 => h9) rfl d_V_addFrom_1 ?_
  refine lv_if_eq (tgt := 30) hx hb d_V_addFrom_4 (by decide) (fun c => ?_) (fun c => ?_)
  · have h := ift_at h c
    refine lv_aload_n hx hb d_V_addFrom_30 rfl (lv_at hl 0 rfl) ?_
    refine lv_aload_n hx hb d_V_addFrom_31 rfl (lv_at hl 1 rfl) ?_
    refine va_get (D := D) (ci := 6) (v := .ref a_p1_numbers) (C := "PageForm$Values") (T := F_V) (N := 5) hx hb hts in_V hown hK hP 4 rfl rfl 0 (by decide) (hts _ fl_V_9) (fun _ h9 => h9) rfl d_V_addFrom_32 ?_
    refine lv_iload_n hx hb d_V_addFrom_35 rfl (lv_at hl 2 rfl) ?_
    obtain ⟨g6, h⟩ := gd_at h
    refine va_lald hx hb hK hP 5 2 rfl rfl (inB_in g6) d_V_addFrom_36 ?_
    obtain ⟨o7, ho7, h⟩ := obd_at h
    refine g_V (As := [.long (p1_numbers v2.toNatClampNeg)]) (rest := []) hx hb hml hown hts hA hK hP hD hS hE (c_V_addNumber l D k a_t a_t_numbers a_t_texts a_t_starts t_numbers_n t_ofTexts t_count t_numbers (p1_numbers v2.toNatClampNeg) n o7 ho7) mw_V_addNumber mi_V_addNumber ml_V_49 [0, 1] rfl (by decide) rfl rfl rfl 0 rfl rfl rfl rfl rfl hl.1 rfl (Nat.le_of_ble_eq_true rfl) ⟨Nat.zero_le _, Nat.zero_le _⟩ d_V_addFrom_37 (fun H locs hP hD hS => ?_)
    have hP : va_P D CL [(a_t, .inr (6, [.ref a_t_numbers, .ref a_t_texts, .ref a_t_starts, .int t_ofTexts, .int o7.2.1])), (a_t_numbers, .inl (k.2.2, t_numbers_n, .inr (.inl o7.2.2))), (a_t_starts, .inl (k.2.1, t_starts_n, .inl t_starts)), (a_t_texts, .inl (k.1, t_texts_n, .inl t_texts)), (a_p1, .inr (6, [.ref a_p1_numbers, .ref a_p1_texts, .ref a_p1_starts, .int p1_ofTexts, .int p1_count])), (a_p1_numbers, .inl (k.2.2, p1_numbers_n, .inr (.inl p1_numbers))), (a_p1_starts, .inl (k.2.1, p1_starts_n, .inl p1_starts)), (a_p1_texts, .inl (k.1, p1_texts_n, .inl p1_texts))] H := hP
    have hD : va_D A [(a_t, .inr (6, [.ref a_t_numbers, .ref a_t_texts, .ref a_t_starts, .int t_ofTexts, .int o7.2.1])), (a_t_numbers, .inl (k.2.2, t_numbers_n, .inr (.inl o7.2.2))), (a_t_starts, .inl (k.2.1, t_starts_n, .inl t_starts)), (a_t_texts, .inl (k.1, t_texts_n, .inl t_texts)), (a_p1, .inr (6, [.ref a_p1_numbers, .ref a_p1_texts, .ref a_p1_starts, .int p1_ofTexts, .int p1_count])), (a_p1_numbers, .inl (k.2.2, p1_numbers_n, .inr (.inl p1_numbers))), (a_p1_starts, .inl (k.2.1, p1_starts_n, .inl p1_starts)), (a_p1_texts, .inl (k.1, p1_texts_n, .inl p1_texts))] := hD
    refine W.eq (g2 := F0 m 40 ls [.int o7.1]) rfl ?_
    obtain ⟨g8, h⟩ := gd_at h
    exact ret2 _ _ _ _ _ (Option.some.inj h) d_V_addFrom_40 (isB_n g8) hP hD hS
  · have h := iff_at h c
    refine lv_aload_n hx hb d_V_addFrom_7 rfl (lv_at hl 0 rfl) ?_
    refine lv_iconst (v := 0) hx hb d_V_addFrom_8 (by decide) ?_
    refine lv_aload_n hx hb d_V_addFrom_9 rfl (lv_at hl 1 rfl) ?_
    refine va_get (D := D) (ci := 6) (v := .ref a_p1_texts) (C := "PageForm$Values") (T := F_V) (N := 5) hx hb hts in_V hown hK hP 4 rfl rfl 1 (by decide) (hts _ fl_V_15) (fun _ h9 => h9) rfl d_V_addFrom_10 ?_
    refine lv_aload_n hx hb d_V_addFrom_13 rfl (lv_at hl 1 rfl) ?_
    refine va_get (D := D) (ci := 6) (v := .ref a_p1_starts) (C := "PageForm$Values") (T := F_V) (N := 5) hx hb hts in_V hown hK hP 4 rfl rfl 2 (by decide) (hts _ fl_V_19) (fun _ h9 => h9) rfl d_V_addFrom_14 ?_
    refine lv_iload_n hx hb d_V_addFrom_17 rfl (lv_at hl 2 rfl) ?_
    obtain ⟨g9, h⟩ := gd_at h
    refine va_iald hx hb hK hP 6 1 rfl rfl (inB_in g9) d_V_addFrom_18 ?_
    refine lv_aload_n hx hb d_V_addFrom_19 rfl (lv_at hl 1 rfl) ?_
    refine lv_iload_n hx hb d_V_addFrom_20 rfl (lv_at hl 2 rfl) ?_
    obtain ⟨o10, ho10, h⟩ := obd_at h
    refine g_V (As := [.int v2]) (rest := [.int (p1_starts v2.toNatClampNeg), .ref a_p1_texts, .int (0 : Int32), .ref a_t]) hx hb hml hown hts hA hK hP hD hS hE (c_V_sizeOf l D k a_p1 a_p1_numbers a_p1_texts a_p1_starts p1_starts_n p1_ofTexts p1_count p1_starts v2 n o10 ho10) mw_V_sizeOf mi_V_sizeOf ml_V_41 [4, 6] rfl (by decide) rfl rfl rfl 0 rfl rfl rfl rfl rfl hl.1 rfl (Nat.le_of_ble_eq_true rfl) ⟨Nat.zero_le _, Nat.zero_le _⟩ d_V_addFrom_21 (fun H locs hP hD hS => ?_)
    have hP : va_P D CL [(a_t, .inr (6, [.ref a_t_numbers, .ref a_t_texts, .ref a_t_starts, .int t_ofTexts, .int t_count])), (a_t_numbers, .inl (k.2.2, t_numbers_n, .inr (.inl t_numbers))), (a_t_starts, .inl (k.2.1, t_starts_n, .inl t_starts)), (a_t_texts, .inl (k.1, t_texts_n, .inl t_texts)), (a_p1, .inr (6, [.ref a_p1_numbers, .ref a_p1_texts, .ref a_p1_starts, .int p1_ofTexts, .int p1_count])), (a_p1_numbers, .inl (k.2.2, p1_numbers_n, .inr (.inl p1_numbers))), (a_p1_starts, .inl (k.2.1, p1_starts_n, .inl p1_starts)), (a_p1_texts, .inl (k.1, p1_texts_n, .inl p1_texts))] H := hP
    have hD : va_D A [(a_t, .inr (6, [.ref a_t_numbers, .ref a_t_texts, .ref a_t_starts, .int t_ofTexts, .int t_count])), (a_t_numbers, .inl (k.2.2, t_numbers_n, .inr (.inl t_numbers))), (a_t_starts, .inl (k.2.1, t_starts_n, .inl t_starts)), (a_t_texts, .inl (k.1, t_texts_n, .inl t_texts)), (a_p1, .inr (6, [.ref a_p1_numbers, .ref a_p1_texts, .ref a_p1_starts, .int p1_ofTexts, .int p1_count])), (a_p1_numbers, .inl (k.2.2, p1_numbers_n, .inr (.inl p1_numbers))), (a_p1_starts, .inl (k.2.1, p1_starts_n, .inl p1_starts)), (a_p1_texts, .inl (k.1, p1_texts_n, .inl p1_texts))] := hD
    refine W.eq (g2 := F0 m 24 ls [.int o10, .int (p1_starts v2.toNatClampNeg), .ref a_p1_texts, .int (0 : Int32), .ref a_t]) rfl ?_
    obtain ⟨o11, ho11, h⟩ := obd_at h
    refine g_V (As := [.int (0 : Int32), .ref a_p1_texts, .int (p1_starts v2.toNatClampNeg), .int o10]) (rest := []) hx hb hml hown hts hA hK hP hD hS hE (c_V_addText l D k a_t a_t_numbers a_t_texts a_t_starts a_p1_texts t_numbers_n t_starts_n t_texts_n p1_texts_n t_ofTexts t_count t_numbers t_starts t_texts p1_texts (0 : Int32) (p1_starts v2.toNatClampNeg) o10 n o11 ho11) mw_V_addText mi_V_addText ml_V_45 [0, 1, 2, 3, 7] rfl (by decide) rfl rfl rfl 0 rfl rfl rfl rfl rfl hl.1 rfl (Nat.le_of_ble_eq_true rfl) ⟨Nat.zero_le _, Nat.zero_le _⟩ d_V_addFrom_24 (fun H locs hP hD hS => ?_)
    have hP : va_P D CL [(a_t, .inr (6, [.ref a_t_numbers, .ref a_t_texts, .ref a_t_starts, .int t_ofTexts, .int o11.2.1])), (a_t_numbers, .inl (k.2.2, t_numbers_n, .inr (.inl t_numbers))), (a_t_starts, .inl (k.2.1, t_starts_n, .inl o11.2.2.1)), (a_t_texts, .inl (k.1, t_texts_n, .inl o11.2.2.2)), (a_p1, .inr (6, [.ref a_p1_numbers, .ref a_p1_texts, .ref a_p1_starts, .int p1_ofTexts, .int p1_count])), (a_p1_numbers, .inl (k.2.2, p1_numbers_n, .inr (.inl p1_numbers))), (a_p1_starts, .inl (k.2.1, p1_starts_n, .inl p1_starts)), (a_p1_texts, .inl (k.1, p1_texts_n, .inl p1_texts))] H := hP
    have hD : va_D A [(a_t, .inr (6, [.ref a_t_numbers, .ref a_t_texts, .ref a_t_starts, .int t_ofTexts, .int o11.2.1])), (a_t_numbers, .inl (k.2.2, t_numbers_n, .inr (.inl t_numbers))), (a_t_starts, .inl (k.2.1, t_starts_n, .inl o11.2.2.1)), (a_t_texts, .inl (k.1, t_texts_n, .inl o11.2.2.2)), (a_p1, .inr (6, [.ref a_p1_numbers, .ref a_p1_texts, .ref a_p1_starts, .int p1_ofTexts, .int p1_count])), (a_p1_numbers, .inl (k.2.2, p1_numbers_n, .inr (.inl p1_numbers))), (a_p1_starts, .inl (k.2.1, p1_starts_n, .inl p1_starts)), (a_p1_texts, .inl (k.1, p1_texts_n, .inl p1_texts))] := hD
    refine W.eq (g2 := F0 m 27 ls [.int o11.1]) rfl ?_
    refine lv_goto (tgt := 40) hx hb d_V_addFrom_27 (by decide) ?_
    obtain ⟨g12, h⟩ := gd_at h
    exact ret2 _ _ _ _ _ (Option.some.inj h) d_V_addFrom_40 (isB_n g12) hP hD hS

def rm_V_inCommon : Room := { frames := 1, cells := 0, slots := 0, locals := 40 }
def f_V_inCommon_l18 (t_starts_n : Nat) (t_texts_n : Nat) (p2_starts_n : Nat) (p2_texts_n : Nat) (t_starts : Nat → Int32) (t_texts : Nat → Int32) (p2_starts : Nat → Int32) (p2_texts : Nat → Int32) (v1 : Int32) (v3 : Int32) (v4 : Int32) (v5 : Int32) : Option ((Int32) ⊕ ((Int32))) :=
  (if v4 ≤ v5 then some (Sum.inr (v5)) else gd (inB v1 t_starts_n) (gd (inB ((t_starts v1.toNatClampNeg) + v5) t_texts_n) (gd (inB v3 p2_starts_n) (gd (inB ((p2_starts v3.toNatClampNeg) + v5) p2_texts_n) ((if (t_texts ((t_starts v1.toNatClampNeg) + v5).toNatClampNeg) = (p2_texts ((p2_starts v3.toNatClampNeg) + v5).toNatClampNeg) then bnd (v5 + (1 : Int32)) (fun x15 => some (Sum.inl x15)) else some (Sum.inr (v5))))))))
def f_V_inCommon (n : Nat) (t_starts_n : Nat) (t_texts_n : Nat) (p2_starts_n : Nat) (p2_texts_n : Nat) (t_starts : Nat → Int32) (t_texts : Nat → Int32) (p2_starts : Nat → Int32) (p2_texts : Nat → Int32) (v1 : Int32) (v3 : Int32) : Option (Int32) :=
  Option.bind (f_V_sizeOf t_starts_n t_starts v1) (fun o36 => Option.bind (f_V_sizeOf p2_starts_n p2_starts v3) (fun o37 => bnd (if o37 < o36 then o37 else o36) (fun x38 => Option.bind (lp (fun v => f_V_inCommon_l18 t_starts_n t_texts_n p2_starts_n p2_texts_n t_starts t_texts p2_starts p2_texts v1 v3 x38 v) n (0 : Int32)) (fun o => some o))))
set_option maxHeartbeats 4000000 in
set_option maxRecDepth 100000 in
theorem c_V_inCommon (l : Launch) (D : va_G) (k : ClassId × ClassId × ClassId) (a_t a_t_numbers a_t_texts a_t_starts a_p2 a_p2_numbers a_p2_texts a_p2_starts : Nat) (t_starts_n t_texts_n p2_starts_n p2_texts_n : Nat) (t_ofTexts : Int32) (t_count : Int32) (t_starts : Nat → Int32) (t_texts : Nat → Int32) (p2_ofTexts : Int32) (p2_count : Int32) (p2_starts : Nat → Int32) (p2_texts : Nat → Int32) (v1 : Int32) (v3 : Int32) (n : Nat) (out : Int32) (h : f_V_inCommon n t_starts_n t_texts_n p2_starts_n p2_texts_n t_starts t_texts p2_starts p2_texts v1 v3 = some out) : Ct l D k y_V_inCommon b_V_inCommon 6 (some .int) rm_V_inCommon [.ref a_t, .int v1, .ref a_p2, .int v3] [(a_t, .inr (6, [.ref a_t_numbers, .ref a_t_texts, .ref a_t_starts, .int t_ofTexts, .int t_count])), (a_t_starts, .inl (k.2.1, t_starts_n, .inl t_starts)), (a_t_texts, .inl (k.1, t_texts_n, .inl t_texts)), (a_p2, .inr (6, [.ref a_p2_numbers, .ref a_p2_texts, .ref a_p2_starts, .int p2_ofTexts, .int p2_count])), (a_p2_starts, .inl (k.2.1, p2_starts_n, .inl p2_starts)), (a_p2_texts, .inl (k.1, p2_texts_n, .inl p2_texts))] [(a_t, .inr (6, [.ref a_t_numbers, .ref a_t_texts, .ref a_t_starts, .int t_ofTexts, .int t_count])), (a_t_starts, .inl (k.2.1, t_starts_n, .inl t_starts)), (a_t_texts, .inl (k.1, t_texts_n, .inl t_texts)), (a_p2, .inr (6, [.ref a_p2_numbers, .ref a_p2_texts, .ref a_p2_starts, .int p2_ofTexts, .int p2_count])), (a_p2_starts, .inl (k.2.1, p2_starts_n, .inl p2_starts)), (a_p2_texts, .inl (k.1, p2_texts_n, .inl p2_texts))] (some (.int out)) := by
  refine Ct.ofI (by decide) (Nat.le_of_ble_eq_true rfl) ?_
  intro p e s m args below meth c A Q ls hx hb hml hown hts hA hK hP hD hS hE hl ret
  have hown : s.vm.findClass "PageForm$Values" = some m.cls := hown
  have hl : lv_has ls 6 [(0, .ref a_t), (1, .int v1), (2, .ref a_p2), (3, .int v3)] := hl
  have ret2 : ∀ (y0 : Int32) (_ : y0 = out) {pc : Nat} {ls : Array Slot} {H : Heap} {locs : List Loc}, decode b_V_inCommon pc = .ok (.ireturn, 1) → va_P D CL [(a_t, .inr (6, [.ref a_t_numbers, .ref a_t_texts, .ref a_t_starts, .int t_ofTexts, .int t_count])), (a_t_starts, .inl (k.2.1, t_starts_n, .inl t_starts)), (a_t_texts, .inl (k.1, t_texts_n, .inl t_texts)), (a_p2, .inr (6, [.ref a_p2_numbers, .ref a_p2_texts, .ref a_p2_starts, .int p2_ofTexts, .int p2_count])), (a_p2_starts, .inl (k.2.1, p2_starts_n, .inl p2_starts)), (a_p2_texts, .inl (k.1, p2_texts_n, .inl p2_texts))] H → va_D A [(a_t, .inr (6, [.ref a_t_numbers, .ref a_t_texts, .ref a_t_starts, .int t_ofTexts, .int t_count])), (a_t_starts, .inl (k.2.1, t_starts_n, .inl t_starts)), (a_t_texts, .inl (k.1, t_texts_n, .inl t_texts)), (a_p2, .inr (6, [.ref a_p2_numbers, .ref a_p2_texts, .ref a_p2_starts, .int p2_ofTexts, .int p2_count])), (a_p2_starts, .inl (k.2.1, p2_starts_n, .inl p2_starts)), (a_p2_texts, .inl (k.1, p2_texts_n, .inl p2_texts))] → va_S A s.heap H locs → W p l e rm_V_inCommon s m args below meth c H locs 0 0 Q (F0 m pc ls [.int y0]) := by
    intro y0 e0; subst e0; exact ret
  clear ret
  have L18 : ∀ (K : Nat) (v4 : Int32) (v5 : Int32) (o : (Int32)) (H : Heap) (locs : List Loc) (ls : Array Slot), va_P D CL [(a_t, .inr (6, [.ref a_t_numbers, .ref a_t_texts, .ref a_t_starts, .int t_ofTexts, .int t_count])), (a_t_starts, .inl (k.2.1, t_starts_n, .inl t_starts)), (a_t_texts, .inl (k.1, t_texts_n, .inl t_texts)), (a_p2, .inr (6, [.ref a_p2_numbers, .ref a_p2_texts, .ref a_p2_starts, .int p2_ofTexts, .int p2_count])), (a_p2_starts, .inl (k.2.1, p2_starts_n, .inl p2_starts)), (a_p2_texts, .inl (k.1, p2_texts_n, .inl p2_texts))] H → va_D A [(a_t, .inr (6, [.ref a_t_numbers, .ref a_t_texts, .ref a_t_starts, .int t_ofTexts, .int t_count])), (a_t_starts, .inl (k.2.1, t_starts_n, .inl t_starts)), (a_t_texts, .inl (k.1, t_texts_n, .inl t_texts)), (a_p2, .inr (6, [.ref a_p2_numbers, .ref a_p2_texts, .ref a_p2_starts, .int p2_ofTexts, .int p2_count])), (a_p2_starts, .inl (k.2.1, p2_starts_n, .inl p2_starts)), (a_p2_texts, .inl (k.1, p2_texts_n, .inl p2_texts))] → va_S A s.heap H locs → lv_has ls 6 [(0, .ref a_t), (1, .int v1), (2, .ref a_p2), (3, .int v3), (4, .int v4), (5, .int v5)] → lp (fun v => f_V_inCommon_l18 t_starts_n t_texts_n p2_starts_n p2_texts_n t_starts t_texts p2_starts p2_texts v1 v3 v4 v) K v5 = some o → (fun o => some o) o = some out → W p l e rm_V_inCommon s m args below meth c H locs 0 0 Q (F0 m 18 ls []) := by
    intro K
    induction K with
    | zero => intros; exact absurd (by assumption) lp_no
    | succ K ih18 =>
      intro v4 v5 o H locs ls hP hD hS hl h0 hx18
      obtain ⟨b18, h, hc18⟩ := lp_at h0
      have h : f_V_inCommon_l18 t_starts_n t_texts_n p2_starts_n p2_texts_n t_starts t_texts p2_starts p2_texts v1 v3 v4 v5 = some b18 := h
      unfold f_V_inCommon_l18 at h
      refine lv_iload hx hb d_V_inCommon_18 (lv_at hl 5 rfl) ?_
      refine lv_iload hx hb d_V_inCommon_20 (lv_at hl 4 rfl) ?_
      refine lv_icmp_ge (tgt := 62) hx hb d_V_inCommon_22 (by decide) (fun c => ?_) (fun c => ?_)
      · have h := ift_at h c
        refine lv_iload hx hb d_V_inCommon_62 (lv_at hl 5 rfl) ?_
        obtain rfl := lp_out h hc18
        exact ret2 _ (Option.some.inj hx18) d_V_inCommon_64 hP hD hS
      · have h := iff_at h c
        refine lv_aload_n hx hb d_V_inCommon_25 rfl (lv_at hl 0 rfl) ?_
        refine va_get (D := D) (ci := 6) (v := .ref a_t_texts) (C := "PageForm$Values") (T := F_V) (N := 5) hx hb hts in_V hown hK hP 0 rfl rfl 1 (by decide) (hts _ fl_V_15) (fun _ h9 => h9) rfl d_V_inCommon_26 ?_
        refine lv_aload_n hx hb d_V_inCommon_29 rfl (lv_at hl 0 rfl) ?_
        refine va_get (D := D) (ci := 6) (v := .ref a_t_starts) (C := "PageForm$Values") (T := F_V) (N := 5) hx hb hts in_V hown hK hP 0 rfl rfl 2 (by decide) (hts _ fl_V_19) (fun _ h9 => h9) rfl d_V_inCommon_30 ?_
        refine lv_iload_n hx hb d_V_inCommon_33 rfl (lv_at hl 1 rfl) ?_
        obtain ⟨g11, h⟩ := gd_at h
        refine va_iald hx hb hK hP 1 1 rfl rfl (inB_in g11) d_V_inCommon_34 ?_
        refine lv_iload hx hb d_V_inCommon_35 (lv_at hl 5 rfl) ?_
        refine lv_iadd hx hb d_V_inCommon_37 ?_
        obtain ⟨g12, h⟩ := gd_at h
        refine va_bald hx hb hK hP 2 0 rfl rfl (inB_in g12) d_V_inCommon_38 ?_
        refine lv_aload_n hx hb d_V_inCommon_39 rfl (lv_at hl 2 rfl) ?_
        refine va_get (D := D) (ci := 6) (v := .ref a_p2_texts) (C := "PageForm$Values") (T := F_V) (N := 5) hx hb hts in_V hown hK hP 3 rfl rfl 1 (by decide) (hts _ fl_V_15) (fun _ h9 => h9) rfl d_V_inCommon_40 ?_
        refine lv_aload_n hx hb d_V_inCommon_43 rfl (lv_at hl 2 rfl) ?_
        refine va_get (D := D) (ci := 6) (v := .ref a_p2_starts) (C := "PageForm$Values") (T := F_V) (N := 5) hx hb hts in_V hown hK hP 3 rfl rfl 2 (by decide) (hts _ fl_V_19) (fun _ h9 => h9) rfl d_V_inCommon_44 ?_
        refine lv_iload_n hx hb d_V_inCommon_47 rfl (lv_at hl 3 rfl) ?_
        obtain ⟨g13, h⟩ := gd_at h
        refine va_iald hx hb hK hP 4 1 rfl rfl (inB_in g13) d_V_inCommon_48 ?_
        refine lv_iload hx hb d_V_inCommon_49 (lv_at hl 5 rfl) ?_
        refine lv_iadd hx hb d_V_inCommon_51 ?_
        obtain ⟨g14, h⟩ := gd_at h
        refine va_bald hx hb hK hP 5 0 rfl rfl (inB_in g14) d_V_inCommon_52 ?_
        refine lv_icmp_ne (tgt := 62) hx hb d_V_inCommon_53 (by decide) (fun c => ?_) (fun c => ?_)
        · have h := iff_at h c
          refine lv_iload hx hb d_V_inCommon_62 (lv_at hl 5 rfl) ?_
          obtain rfl := lp_out h hc18
          exact ret2 _ (Option.some.inj hx18) d_V_inCommon_64 hP hD hS
        · have h := ift_at h c
          obtain ⟨x15, ex15⟩ : ∃ z : Int32, z = v5 + (1 : Int32) := ⟨_, rfl⟩
          have h := bnd_at h ex15
          refine lv_iinc (v := x15) (lv' := [(5, .int x15), (0, .ref a_t), (1, .int v1), (2, .ref a_p2), (3, .int v3), (4, .int v4)]) hx hb d_V_inCommon_56 hl (k := 5) rfl (by rw [ex15]; rfl) (by decide) rfl (fun ls hl => ?_)
          refine lv_goto (tgt := 18) hx hb d_V_inCommon_59 (by decide) ?_
          have h := lp_go h hc18
          exact ih18 v4 x15 o _ _ ls hP hD hS (lv_sub hl [1, 2, 3, 4, 5, 0] rfl) h hx18
  unfold f_V_inCommon at h
  refine lv_aload_n hx hb d_V_inCommon_0 rfl (lv_at hl 0 rfl) ?_
  refine lv_iload_n hx hb d_V_inCommon_1 rfl (lv_at hl 1 rfl) ?_
  obtain ⟨o36, ho36, h⟩ := obd_at h
  refine g_V (As := [.int v1]) (rest := []) hx hb hml hown hts hA hK hP hD hS hE (c_V_sizeOf l D k a_t a_t_numbers a_t_texts a_t_starts t_starts_n t_ofTexts t_count t_starts v1 n o36 ho36) mw_V_sizeOf mi_V_sizeOf ml_V_41 [0, 1] rfl (by decide) rfl rfl rfl 0 rfl rfl rfl rfl rfl hl.1 rfl (Nat.le_of_ble_eq_true rfl) ⟨Nat.zero_le _, Nat.zero_le _⟩ d_V_inCommon_2 (fun H locs hP hD hS => ?_)
  have hP : va_P D CL [(a_t, .inr (6, [.ref a_t_numbers, .ref a_t_texts, .ref a_t_starts, .int t_ofTexts, .int t_count])), (a_t_starts, .inl (k.2.1, t_starts_n, .inl t_starts)), (a_t_texts, .inl (k.1, t_texts_n, .inl t_texts)), (a_p2, .inr (6, [.ref a_p2_numbers, .ref a_p2_texts, .ref a_p2_starts, .int p2_ofTexts, .int p2_count])), (a_p2_starts, .inl (k.2.1, p2_starts_n, .inl p2_starts)), (a_p2_texts, .inl (k.1, p2_texts_n, .inl p2_texts))] H := hP
  have hD : va_D A [(a_t, .inr (6, [.ref a_t_numbers, .ref a_t_texts, .ref a_t_starts, .int t_ofTexts, .int t_count])), (a_t_starts, .inl (k.2.1, t_starts_n, .inl t_starts)), (a_t_texts, .inl (k.1, t_texts_n, .inl t_texts)), (a_p2, .inr (6, [.ref a_p2_numbers, .ref a_p2_texts, .ref a_p2_starts, .int p2_ofTexts, .int p2_count])), (a_p2_starts, .inl (k.2.1, p2_starts_n, .inl p2_starts)), (a_p2_texts, .inl (k.1, p2_texts_n, .inl p2_texts))] := hD
  refine W.eq (g2 := F0 m 5 ls [.int o36]) rfl ?_
  refine lv_aload_n hx hb d_V_inCommon_5 rfl (lv_at hl 2 rfl) ?_
  refine lv_iload_n hx hb d_V_inCommon_6 rfl (lv_at hl 3 rfl) ?_
  obtain ⟨o37, ho37, h⟩ := obd_at h
  refine g_V (As := [.int v3]) (rest := [.int o36]) hx hb hml hown hts hA hK hP hD hS hE (c_V_sizeOf l D k a_p2 a_p2_numbers a_p2_texts a_p2_starts p2_starts_n p2_ofTexts p2_count p2_starts v3 n o37 ho37) mw_V_sizeOf mi_V_sizeOf ml_V_41 [3, 4] rfl (by decide) rfl rfl rfl 0 rfl rfl rfl rfl rfl hl.1 rfl (Nat.le_of_ble_eq_true rfl) ⟨Nat.zero_le _, Nat.zero_le _⟩ d_V_inCommon_7 (fun H locs hP hD hS => ?_)
  have hP : va_P D CL [(a_t, .inr (6, [.ref a_t_numbers, .ref a_t_texts, .ref a_t_starts, .int t_ofTexts, .int t_count])), (a_t_starts, .inl (k.2.1, t_starts_n, .inl t_starts)), (a_t_texts, .inl (k.1, t_texts_n, .inl t_texts)), (a_p2, .inr (6, [.ref a_p2_numbers, .ref a_p2_texts, .ref a_p2_starts, .int p2_ofTexts, .int p2_count])), (a_p2_starts, .inl (k.2.1, p2_starts_n, .inl p2_starts)), (a_p2_texts, .inl (k.1, p2_texts_n, .inl p2_texts))] H := hP
  have hD : va_D A [(a_t, .inr (6, [.ref a_t_numbers, .ref a_t_texts, .ref a_t_starts, .int t_ofTexts, .int t_count])), (a_t_starts, .inl (k.2.1, t_starts_n, .inl t_starts)), (a_t_texts, .inl (k.1, t_texts_n, .inl t_texts)), (a_p2, .inr (6, [.ref a_p2_numbers, .ref a_p2_texts, .ref a_p2_starts, .int p2_ofTexts, .int p2_count])), (a_p2_starts, .inl (k.2.1, p2_starts_n, .inl p2_starts)), (a_p2_texts, .inl (k.1, p2_texts_n, .inl p2_texts))] := hD
  refine W.eq (g2 := F0 m 10 ls [.int o37, .int o36]) rfl ?_
  refine va_mmin hx hb (hml.trans hl.1.symm) hown (hts _ ml_V_53) (hts _ ms_JM_min_II) (hts _ ini_JM) (hts _ mw_JM_min_II.1) (Nat.le_of_ble_eq_true rfl) (Nat.le_of_ble_eq_true rfl) (Nat.zero_le _) (Nat.zero_le _) d_V_inCommon_10 ?_
  refine lv_topi (fun x38 ex38 => ?_)
  have h := bnd_at h ex38
  refine lv_istore (lv' := [(4, .int x38), (0, .ref a_t), (1, .int v1), (2, .ref a_p2), (3, .int v3)]) hx hb d_V_inCommon_13 hl (by decide) rfl (fun ls hl => ?_)
  refine lv_iconst (v := 0) hx hb d_V_inCommon_15 (by decide) ?_
  refine lv_istore (lv' := [(5, .int (0 : Int32)), (4, .int x38), (0, .ref a_t), (1, .int v1), (2, .ref a_p2), (3, .int v3)]) hx hb d_V_inCommon_16 hl (by decide) rfl (fun ls hl => ?_)
  obtain ⟨o39, ho39, h⟩ := obd_at h
  exact L18 n x38 (0 : Int32) o39 _ _ ls hP hD hS (lv_sub hl [2, 3, 4, 5, 1, 0] rfl) ho39 h

