def rm_S_mustBeAtEnd : Room := { frames := 1, cells := 0, slots := 0, locals := 21 }
def f_S_mustBeAtEnd (t_at : Int32) (t_to : Int32) (t_fault : Int32) : Option (Int32) :=
  (if t_to ≤ t_at then some t_fault else Option.bind (f_S_fail t_fault (6 : Int32)) (fun o2 => some o2))
set_option maxHeartbeats 4000000 in
set_option maxRecDepth 100000 in
theorem c_S_mustBeAtEnd (l : Launch) (D : va_G) (k : ClassId × ClassId × ClassId) (a_t a_t_bytes a_t_row a_t_widths : Nat) (t_at : Int32) (t_to : Int32) (t_fault : Int32) (n : Nat) (out : Int32) (h : f_S_mustBeAtEnd t_at t_to t_fault = some out) : Ct l D k y_S_mustBeAtEnd b_S_mustBeAtEnd 1 none rm_S_mustBeAtEnd [.ref a_t] [(a_t, .inr (5, [.ref a_t_bytes, .ref a_t_row, .ref a_t_widths, .int t_at, .int t_to, .int t_fault]))] [(a_t, .inr (5, [.ref a_t_bytes, .ref a_t_row, .ref a_t_widths, .int t_at, .int t_to, .int out]))] none := by
  refine Ct.ofV (by decide) (Nat.le_of_ble_eq_true rfl) ?_
  intro p e s m args below meth c A Q ls hx hb hml hown hts hA hK hP hD hS hE hl ret
  have hown : s.vm.findClass "PageForm$Source" = some m.cls := hown
  have hl : lv_has ls 1 [(0, .ref a_t)] := hl
  have ret2 : ∀ (y0 : Int32) (_ : y0 = out) {pc : Nat} {ls : Array Slot} {H : Heap} {locs : List Loc}, decode b_S_mustBeAtEnd pc = .ok (.return_, 1) → va_P D CL [(a_t, .inr (5, [.ref a_t_bytes, .ref a_t_row, .ref a_t_widths, .int t_at, .int t_to, .int y0]))] H → va_D A [(a_t, .inr (5, [.ref a_t_bytes, .ref a_t_row, .ref a_t_widths, .int t_at, .int t_to, .int y0]))] → va_S A s.heap H locs → W p l e rm_S_mustBeAtEnd s m args below meth c H locs 0 0 Q (F0 m pc ls []) := by
    intro y0 e0; subst e0; exact ret
  clear ret
  unfold f_S_mustBeAtEnd at h
  refine lv_aload_n hx hb d_S_mustBeAtEnd_0 rfl (lv_at hl 0 rfl) ?_
  refine va_get (D := D) (ci := 5) (v := .int t_at) (C := "PageForm$Source") (T := F_S) (N := 6) hx hb hts in_S hown hK hP 0 rfl rfl 3 (by decide) (hts _ fl_S_26) (fun _ h9 => h9) rfl d_S_mustBeAtEnd_1 ?_
  refine lv_aload_n hx hb d_S_mustBeAtEnd_4 rfl (lv_at hl 0 rfl) ?_
  refine va_get (D := D) (ci := 5) (v := .int t_to) (C := "PageForm$Source") (T := F_S) (N := 6) hx hb hts in_S hown hK hP 0 rfl rfl 4 (by decide) (hts _ fl_S_33) (fun _ h9 => h9) rfl d_S_mustBeAtEnd_5 ?_
  refine lv_icmp_ge (tgt := 17) hx hb d_S_mustBeAtEnd_8 (by decide) (fun c => ?_) (fun c => ?_)
  · have h := ift_at h c
    exact ret2 _ (Option.some.inj h) d_S_mustBeAtEnd_17 hP hD hS
  · have h := iff_at h c
    refine lv_aload_n hx hb d_S_mustBeAtEnd_11 rfl (lv_at hl 0 rfl) ?_
    refine lv_bipush (v := 6) hx hb d_S_mustBeAtEnd_12 (by decide) ?_
    obtain ⟨o2, ho2, h⟩ := obd_at h
    refine g_V (As := [.int (6 : Int32)]) (rest := []) hx hb hml hown hts hA hK hP hD hS hE (c_S_fail l D k a_t a_t_bytes a_t_row a_t_widths t_at t_to t_fault (6 : Int32) n o2 ho2) mw_S_fail mi_S_fail ml_S_51 [0] rfl (by decide) rfl rfl rfl 0 rfl rfl rfl rfl rfl hl.1 rfl (Nat.le_of_ble_eq_true rfl) ⟨Nat.zero_le _, Nat.zero_le _⟩ d_S_mustBeAtEnd_14 (fun H locs hP hD hS => ?_)
    have hP : va_P D CL [(a_t, .inr (5, [.ref a_t_bytes, .ref a_t_row, .ref a_t_widths, .int t_at, .int t_to, .int o2]))] H := hP
    have hD : va_D A [(a_t, .inr (5, [.ref a_t_bytes, .ref a_t_row, .ref a_t_widths, .int t_at, .int t_to, .int o2]))] := hD
    refine W.eq (g2 := F0 m 17 ls []) rfl ?_
    exact ret2 _ (Option.some.inj h) d_S_mustBeAtEnd_17 hP hD hS

def rm_S_takeCount : Room := { frames := 1, cells := 0, slots := 0, locals := 21 }
def f_S_takeCount_j23 (t_fault : Int32) (v1 : Int64) : Option (Int32 × Int32) :=
  (if t_fault = 0 then some (v1.toInt32, t_fault) else some ((0 : Int32), t_fault))
def f_S_takeCount_j11 (t_fault : Int32) (v1 : Int64) (v3 : Int32) : Option (Int32 × Int32) :=
  (if v1 ≤ v3.toInt64 then f_S_takeCount_j23 t_fault v1 else Option.bind (f_S_fail t_fault (4 : Int32)) (fun o3 => f_S_takeCount_j23 o3 v1))
def f_S_takeCount (t_fault : Int32) (v1 : Int64) (v3 : Int32) : Option (Int32 × Int32) :=
  (if v1 = (0 : Int64) then Option.bind (f_S_fail t_fault (3 : Int32)) (fun o4 => f_S_takeCount_j11 o4 v1 v3) else f_S_takeCount_j11 t_fault v1 v3)
set_option maxHeartbeats 4000000 in
set_option maxRecDepth 100000 in
theorem c_S_takeCount (l : Launch) (D : va_G) (k : ClassId × ClassId × ClassId) (a_t a_t_bytes a_t_row a_t_widths : Nat) (t_at : Int32) (t_to : Int32) (t_fault : Int32) (v1 : Int64) (v3 : Int32) (n : Nat) (out : Int32 × Int32) (h : f_S_takeCount t_fault v1 v3 = some out) : Ct l D k y_S_takeCount b_S_takeCount 4 (some .int) rm_S_takeCount [.ref a_t, .long v1, .int v3] [(a_t, .inr (5, [.ref a_t_bytes, .ref a_t_row, .ref a_t_widths, .int t_at, .int t_to, .int t_fault]))] [(a_t, .inr (5, [.ref a_t_bytes, .ref a_t_row, .ref a_t_widths, .int t_at, .int t_to, .int out.2]))] (some (.int out.1)) := by
  refine Ct.ofI (by decide) (Nat.le_of_ble_eq_true rfl) ?_
  intro p e s m args below meth c A Q ls hx hb hml hown hts hA hK hP hD hS hE hl ret
  have hown : s.vm.findClass "PageForm$Source" = some m.cls := hown
  have hl : lv_has ls 4 [(0, .ref a_t), (1, .long v1), (3, .int v3)] := hl
  have ret2 : ∀ (y0 : Int32) (y1 : Int32) (_ : (y0, y1) = out) {pc : Nat} {ls : Array Slot} {H : Heap} {locs : List Loc}, decode b_S_takeCount pc = .ok (.ireturn, 1) → va_P D CL [(a_t, .inr (5, [.ref a_t_bytes, .ref a_t_row, .ref a_t_widths, .int t_at, .int t_to, .int y1]))] H → va_D A [(a_t, .inr (5, [.ref a_t_bytes, .ref a_t_row, .ref a_t_widths, .int t_at, .int t_to, .int y1]))] → va_S A s.heap H locs → W p l e rm_S_takeCount s m args below meth c H locs 0 0 Q (F0 m pc ls [.int y0]) := by
    intro y0 y1 e0; subst e0; exact ret
  clear ret
  have J23 : ∀ (t_fault : Int32) (H : Heap) (locs : List Loc) (ls : Array Slot), va_P D CL [(a_t, .inr (5, [.ref a_t_bytes, .ref a_t_row, .ref a_t_widths, .int t_at, .int t_to, .int t_fault]))] H → va_D A [(a_t, .inr (5, [.ref a_t_bytes, .ref a_t_row, .ref a_t_widths, .int t_at, .int t_to, .int t_fault]))] → va_S A s.heap H locs → lv_has ls 4 [(0, .ref a_t), (1, .long v1)] → f_S_takeCount_j23 t_fault v1 = some out → W p l e rm_S_takeCount s m args below meth c H locs 0 0 Q (F0 m 23 ls []) := by
    intro t_fault H locs ls hP hD hS hl h
    unfold f_S_takeCount_j23 at h
    refine lv_aload_n hx hb d_S_takeCount_23 rfl (lv_at hl 0 rfl) ?_
    refine va_get (D := D) (ci := 5) (v := .int t_fault) (C := "PageForm$Source") (T := F_S) (N := 6) hx hb hts in_S hown hK hP 0 rfl rfl 5 (by decide) (hts _ fl_S_36) (fun _ h9 => h9) rfl d_S_takeCount_24 ?_
    refine lv_if_ne (tgt := 35) hx hb d_S_takeCount_27 (by decide) (fun c => ?_) (fun c => ?_)
    · have h := iff_at h c
      refine lv_iconst (v := 0) hx hb d_S_takeCount_35 (by decide) ?_
      exact ret2 _ _ (Option.some.inj h) d_S_takeCount_36 hP hD hS
    · have h := ift_at h c
      refine lv_lload_n hx hb d_S_takeCount_30 rfl (lv_at hl 1 rfl) ?_
      refine lv_l2i hx hb d_S_takeCount_31 rfl ?_
      refine lv_goto (tgt := 36) hx hb d_S_takeCount_32 (by decide) ?_
      exact ret2 _ _ (Option.some.inj h) d_S_takeCount_36 hP hD hS
  have J11 : ∀ (t_fault : Int32) (H : Heap) (locs : List Loc) (ls : Array Slot), va_P D CL [(a_t, .inr (5, [.ref a_t_bytes, .ref a_t_row, .ref a_t_widths, .int t_at, .int t_to, .int t_fault]))] H → va_D A [(a_t, .inr (5, [.ref a_t_bytes, .ref a_t_row, .ref a_t_widths, .int t_at, .int t_to, .int t_fault]))] → va_S A s.heap H locs → lv_has ls 4 [(0, .ref a_t), (1, .long v1), (3, .int v3)] → f_S_takeCount_j11 t_fault v1 v3 = some out → W p l e rm_S_takeCount s m args below meth c H locs 0 0 Q (F0 m 11 ls []) := by
    intro t_fault H locs ls hP hD hS hl h
    unfold f_S_takeCount_j11 at h
    refine lv_lload_n hx hb d_S_takeCount_11 rfl (lv_at hl 1 rfl) ?_
    refine lv_iload_n hx hb d_S_takeCount_12 rfl (lv_at hl 2 rfl) ?_
    refine lv_i2l hx hb d_S_takeCount_13 rfl ?_
    refine W.lcmp hx hb d_S_takeCount_14 ?_
    refine lv_if_le (tgt := 23) hx hb d_S_takeCount_15 (by decide) (fun c => ?_) (fun c => ?_)
    · have c := zc_le.mp c
      have h := ift_at h c
      exact J23 t_fault _ _ ls hP hD hS (lv_sub hl [0, 1] rfl) h
    · have c := mt zc_le.mpr c
      have h := iff_at h c
      refine lv_aload_n hx hb d_S_takeCount_18 rfl (lv_at hl 0 rfl) ?_
      refine lv_iconst (v := 4) hx hb d_S_takeCount_19 (by decide) ?_
      obtain ⟨o3, ho3, h⟩ := obd_at h
      refine g_V (As := [.int (4 : Int32)]) (rest := []) hx hb hml hown hts hA hK hP hD hS hE (c_S_fail l D k a_t a_t_bytes a_t_row a_t_widths t_at t_to t_fault (4 : Int32) n o3 ho3) mw_S_fail mi_S_fail ml_S_51 [0] rfl (by decide) rfl rfl rfl 0 rfl rfl rfl rfl rfl hl.1 rfl (Nat.le_of_ble_eq_true rfl) ⟨Nat.zero_le _, Nat.zero_le _⟩ d_S_takeCount_20 (fun H locs hP hD hS => ?_)
      have hP : va_P D CL [(a_t, .inr (5, [.ref a_t_bytes, .ref a_t_row, .ref a_t_widths, .int t_at, .int t_to, .int o3]))] H := hP
      have hD : va_D A [(a_t, .inr (5, [.ref a_t_bytes, .ref a_t_row, .ref a_t_widths, .int t_at, .int t_to, .int o3]))] := hD
      refine W.eq (g2 := F0 m 23 ls []) rfl ?_
      exact J23 o3 _ _ ls hP hD hS (lv_sub hl [0, 1] rfl) h
  unfold f_S_takeCount at h
  refine lv_lload_n hx hb d_S_takeCount_0 rfl (lv_at hl 1 rfl) ?_
  refine lv_lconst (v := 0) hx hb d_S_takeCount_1 (by decide) ?_
  refine W.lcmp hx hb d_S_takeCount_2 ?_
  refine lv_if_ne (tgt := 11) hx hb d_S_takeCount_3 (by decide) (fun c => ?_) (fun c => ?_)
  · have c := mt zc_eq.mpr c
    have h := iff_at h c
    exact J11 t_fault _ _ ls hP hD hS (lv_sub hl [0, 1, 2] rfl) h
  · have c := zc_eq.mp c
    have h := ift_at h c
    refine lv_aload_n hx hb d_S_takeCount_6 rfl (lv_at hl 0 rfl) ?_
    refine lv_iconst (v := 3) hx hb d_S_takeCount_7 (by decide) ?_
    obtain ⟨o4, ho4, h⟩ := obd_at h
    refine g_V (As := [.int (3 : Int32)]) (rest := []) hx hb hml hown hts hA hK hP hD hS hE (c_S_fail l D k a_t a_t_bytes a_t_row a_t_widths t_at t_to t_fault (3 : Int32) n o4 ho4) mw_S_fail mi_S_fail ml_S_51 [0] rfl (by decide) rfl rfl rfl 0 rfl rfl rfl rfl rfl hl.1 rfl (Nat.le_of_ble_eq_true rfl) ⟨Nat.zero_le _, Nat.zero_le _⟩ d_S_takeCount_8 (fun H locs hP hD hS => ?_)
    have hP : va_P D CL [(a_t, .inr (5, [.ref a_t_bytes, .ref a_t_row, .ref a_t_widths, .int t_at, .int t_to, .int o4]))] H := hP
    have hD : va_D A [(a_t, .inr (5, [.ref a_t_bytes, .ref a_t_row, .ref a_t_widths, .int t_at, .int t_to, .int o4]))] := hD
    refine W.eq (g2 := F0 m 11 ls []) rfl ?_
    exact J11 o4 _ _ ls hP hD hS (lv_sub hl [0, 1, 2] rfl) h

def rm_S_takeOne : Room := { frames := 2, cells := 0, slots := 0, locals := 50 }
def f_S_takeOne_j29 (n : Nat) (p1_n : Nat) (t_at : Int32) (t_fault : Int32) (p1 : Nat → Int64) (v2 : Int32) (v3 : Int32) (v5 : Int64) : Option (Int32 × Int32 × (Nat → Int64)) :=
  Option.bind (f_JA_fill_aJIIJ n p1_n p1 v2 (v2 + v3) v5) (fun o4 => some (t_at, t_fault, o4))
def f_S_takeOne (n : Nat) (t_row_n : Nat) (p1_n : Nat) (t_at : Int32) (t_to : Int32) (t_fault : Int32) (t_row : Nat → Int32) (p1 : Nat → Int64) (v2 : Int32) (v3 : Int32) (v4 : Int32) : Option (Int32 × Int32 × (Nat → Int64)) :=
  Option.bind (f_S_lowestFirst n t_row_n t_at t_to t_fault t_row ((v4 + (7 : Int32)) / (8 : Int32))) (fun o5 => (if ((o5.1.toUInt64 >>> (v4.toInt64.toUInt64 &&& Int64.toUInt64 63)).toInt64) = (0 : Int64) then f_S_takeOne_j29 n p1_n o5.2.1 o5.2.2 p1 v2 v3 o5.1 else Option.bind (f_S_fail o5.2.2 (5 : Int32)) (fun o6 => f_S_takeOne_j29 n p1_n o5.2.1 o6 p1 v2 v3 o5.1)))
set_option maxHeartbeats 4000000 in
set_option maxRecDepth 100000 in
theorem c_S_takeOne (l : Launch) (D : va_G) (k : ClassId × ClassId × ClassId) (a_t a_t_bytes a_t_row a_t_widths a_p1 : Nat) (t_row_n p1_n : Nat) (t_at : Int32) (t_to : Int32) (t_fault : Int32) (t_row : Nat → Int32) (p1 : Nat → Int64) (v2 : Int32) (v3 : Int32) (v4 : Int32) (n : Nat) (out : Int32 × Int32 × (Nat → Int64)) (h : f_S_takeOne n t_row_n p1_n t_at t_to t_fault t_row p1 v2 v3 v4 = some out) : Ct l D k y_S_takeOne b_S_takeOne 7 none rm_S_takeOne [.ref a_t, .ref a_p1, .int v2, .int v3, .int v4] [(a_t, .inr (5, [.ref a_t_bytes, .ref a_t_row, .ref a_t_widths, .int t_at, .int t_to, .int t_fault])), (a_t_row, .inl (k.1, t_row_n, .inl t_row)), (a_p1, .inl (k.2.2, p1_n, .inr (.inl p1)))] [(a_t, .inr (5, [.ref a_t_bytes, .ref a_t_row, .ref a_t_widths, .int out.1, .int t_to, .int out.2.1])), (a_t_row, .inl (k.1, t_row_n, .inl t_row)), (a_p1, .inl (k.2.2, p1_n, .inr (.inl out.2.2)))] none := by
  refine Ct.ofV (by decide) (Nat.le_of_ble_eq_true rfl) ?_
  intro p e s m args below meth c A Q ls hx hb hml hown hts hA hK hP hD hS hE hl ret
  have hown : s.vm.findClass "PageForm$Source" = some m.cls := hown
  have hl : lv_has ls 7 [(0, .ref a_t), (1, .ref a_p1), (2, .int v2), (3, .int v3), (4, .int v4)] := hl
  have ret2 : ∀ (y0 : Int32) (y1 : Int32) (y2 : Nat → Int64) (_ : (y0, y1, y2) = out) {pc : Nat} {ls : Array Slot} {H : Heap} {locs : List Loc}, decode b_S_takeOne pc = .ok (.return_, 1) → va_P D CL [(a_t, .inr (5, [.ref a_t_bytes, .ref a_t_row, .ref a_t_widths, .int y0, .int t_to, .int y1])), (a_t_row, .inl (k.1, t_row_n, .inl t_row)), (a_p1, .inl (k.2.2, p1_n, .inr (.inl y2)))] H → va_D A [(a_t, .inr (5, [.ref a_t_bytes, .ref a_t_row, .ref a_t_widths, .int y0, .int t_to, .int y1])), (a_t_row, .inl (k.1, t_row_n, .inl t_row)), (a_p1, .inl (k.2.2, p1_n, .inr (.inl y2)))] → va_S A s.heap H locs → W p l e rm_S_takeOne s m args below meth c H locs 0 0 Q (F0 m pc ls []) := by
    intro y0 y1 y2 e0; subst e0; exact ret
  clear ret
  have J29 : ∀ (t_at : Int32) (t_fault : Int32) (p1 : Nat → Int64) (v5 : Int64) (H : Heap) (locs : List Loc) (ls : Array Slot), va_P D CL [(a_t, .inr (5, [.ref a_t_bytes, .ref a_t_row, .ref a_t_widths, .int t_at, .int t_to, .int t_fault])), (a_t_row, .inl (k.1, t_row_n, .inl t_row)), (a_p1, .inl (k.2.2, p1_n, .inr (.inl p1)))] H → va_D A [(a_t, .inr (5, [.ref a_t_bytes, .ref a_t_row, .ref a_t_widths, .int t_at, .int t_to, .int t_fault])), (a_t_row, .inl (k.1, t_row_n, .inl t_row)), (a_p1, .inl (k.2.2, p1_n, .inr (.inl p1)))] → va_S A s.heap H locs → lv_has ls 7 [(1, .ref a_p1), (2, .int v2), (3, .int v3), (5, .long v5)] → f_S_takeOne_j29 n p1_n t_at t_fault p1 v2 v3 v5 = some out → W p l e rm_S_takeOne s m args below meth c H locs 0 0 Q (F0 m 29 ls []) := by
    intro t_at t_fault p1 v5 H locs ls hP hD hS hl h
    unfold f_S_takeOne_j29 at h
    refine lv_aload_n hx hb d_S_takeOne_29 rfl (lv_at hl 0 rfl) ?_
    refine lv_iload_n hx hb d_S_takeOne_30 rfl (lv_at hl 1 rfl) ?_
    refine lv_iload_n hx hb d_S_takeOne_31 rfl (lv_at hl 1 rfl) ?_
    refine lv_iload_n hx hb d_S_takeOne_32 rfl (lv_at hl 2 rfl) ?_
    refine lv_iadd hx hb d_S_takeOne_33 ?_
    refine lv_lload hx hb d_S_takeOne_34 (lv_at hl 3 rfl) ?_
    obtain ⟨o4, ho4, h⟩ := obd_at h
    refine g_S (As := [.ref a_p1, .int v2, .int (v2 + v3), .long v5]) (rest := []) hx hb hml hown hts hA hK hP hD hS hE (c_JA_fill_aJIIJ l D k a_p1 p1_n p1 v2 (v2 + v3) v5 n o4 ho4) mw_JA_fill_aJIIJ ms_JA_fill_aJIIJ ml_S_78 [2] rfl (by decide) rfl rfl rfl rfl rfl hl.1 rfl (Nat.le_of_ble_eq_true rfl) ⟨Nat.zero_le _, Nat.zero_le _⟩ d_S_takeOne_36 (fun H locs hP hD hS => ?_)
    have hP : va_P D CL [(a_t, .inr (5, [.ref a_t_bytes, .ref a_t_row, .ref a_t_widths, .int t_at, .int t_to, .int t_fault])), (a_t_row, .inl (k.1, t_row_n, .inl t_row)), (a_p1, .inl (k.2.2, p1_n, .inr (.inl o4)))] H := hP
    have hD : va_D A [(a_t, .inr (5, [.ref a_t_bytes, .ref a_t_row, .ref a_t_widths, .int t_at, .int t_to, .int t_fault])), (a_t_row, .inl (k.1, t_row_n, .inl t_row)), (a_p1, .inl (k.2.2, p1_n, .inr (.inl o4)))] := hD
    refine W.eq (g2 := F0 m 39 ls []) rfl ?_
    exact ret2 _ _ _ (Option.some.inj h) d_S_takeOne_39 hP hD hS
  unfold f_S_takeOne at h
  refine lv_aload_n hx hb d_S_takeOne_0 rfl (lv_at hl 0 rfl) ?_
  refine lv_iload hx hb d_S_takeOne_1 (lv_at hl 4 rfl) ?_
  refine lv_bipush (v := 7) hx hb d_S_takeOne_3 (by decide) ?_
  refine lv_iadd hx hb d_S_takeOne_5 ?_
  refine lv_bipush (v := 8) hx hb d_S_takeOne_6 (by decide) ?_
  refine lv_idiv hx hb d_S_takeOne_8 (by decide) ?_
  obtain ⟨o5, ho5, h⟩ := obd_at h
  refine g_V (As := [.int ((v4 + (7 : Int32)) / (8 : Int32))]) (rest := []) hx hb hml hown hts hA hK hP hD hS hE (c_S_lowestFirst l D k a_t a_t_bytes a_t_row a_t_widths t_row_n t_at t_to t_fault t_row ((v4 + (7 : Int32)) / (8 : Int32)) n o5 ho5) mw_S_lowestFirst mi_S_lowestFirst ml_S_74 [0, 1] rfl (by decide) rfl rfl rfl 0 rfl rfl rfl rfl rfl hl.1 rfl (Nat.le_of_ble_eq_true rfl) ⟨Nat.zero_le _, Nat.zero_le _⟩ d_S_takeOne_9 (fun H locs hP hD hS => ?_)
  have hP : va_P D CL [(a_t, .inr (5, [.ref a_t_bytes, .ref a_t_row, .ref a_t_widths, .int o5.2.1, .int t_to, .int o5.2.2])), (a_t_row, .inl (k.1, t_row_n, .inl t_row)), (a_p1, .inl (k.2.2, p1_n, .inr (.inl p1)))] H := hP
  have hD : va_D A [(a_t, .inr (5, [.ref a_t_bytes, .ref a_t_row, .ref a_t_widths, .int o5.2.1, .int t_to, .int o5.2.2])), (a_t_row, .inl (k.1, t_row_n, .inl t_row)), (a_p1, .inl (k.2.2, p1_n, .inr (.inl p1)))] := hD
  refine W.eq (g2 := F0 m 12 ls [.long o5.1]) rfl ?_
  refine lv_lstore (lv' := [(5, .long o5.1), (0, .ref a_t), (1, .ref a_p1), (2, .int v2), (3, .int v3), (4, .int v4)]) hx hb d_S_takeOne_12 hl (by decide) rfl (fun ls hl => ?_)
  refine lv_lload hx hb d_S_takeOne_14 (lv_at hl 0 rfl) ?_
  refine lv_iload hx hb d_S_takeOne_16 (lv_at hl 5 rfl) ?_
  refine lv_lushr hx hb d_S_takeOne_18 rfl ?_
  refine lv_lconst (v := 0) hx hb d_S_takeOne_19 (by decide) ?_
  refine W.lcmp hx hb d_S_takeOne_20 ?_
  refine lv_if_eq (tgt := 29) hx hb d_S_takeOne_21 (by decide) (fun c => ?_) (fun c => ?_)
  · have c := zc_eq.mp c
    have h := ift_at h c
    exact J29 o5.2.1 o5.2.2 p1 o5.1 _ _ ls hP hD hS (lv_sub hl [2, 3, 4, 0] rfl) h
  · have c := mt zc_eq.mpr c
    have h := iff_at h c
    refine lv_aload_n hx hb d_S_takeOne_24 rfl (lv_at hl 1 rfl) ?_
    refine lv_iconst (v := 5) hx hb d_S_takeOne_25 (by decide) ?_
    obtain ⟨o6, ho6, h⟩ := obd_at h
    refine g_V (As := [.int (5 : Int32)]) (rest := []) hx hb hml hown hts hA hK hP hD hS hE (c_S_fail l D k a_t a_t_bytes a_t_row a_t_widths o5.2.1 t_to o5.2.2 (5 : Int32) n o6 ho6) mw_S_fail mi_S_fail ml_S_51 [0] rfl (by decide) rfl rfl rfl 0 rfl rfl rfl rfl rfl hl.1 rfl (Nat.le_of_ble_eq_true rfl) ⟨Nat.zero_le _, Nat.zero_le _⟩ d_S_takeOne_26 (fun H locs hP hD hS => ?_)
    have hP : va_P D CL [(a_t, .inr (5, [.ref a_t_bytes, .ref a_t_row, .ref a_t_widths, .int o5.2.1, .int t_to, .int o6])), (a_t_row, .inl (k.1, t_row_n, .inl t_row)), (a_p1, .inl (k.2.2, p1_n, .inr (.inl p1)))] H := hP
    have hD : va_D A [(a_t, .inr (5, [.ref a_t_bytes, .ref a_t_row, .ref a_t_widths, .int o5.2.1, .int t_to, .int o6])), (a_t_row, .inl (k.1, t_row_n, .inl t_row)), (a_p1, .inl (k.2.2, p1_n, .inr (.inl p1)))] := hD
    refine W.eq (g2 := F0 m 29 ls []) rfl ?_
    exact J29 o5.2.1 o6 p1 o5.1 _ _ ls hP hD hS (lv_sub hl [2, 3, 4, 0] rfl) h

def rm_S_takeGroups : Room := { frames := 1, cells := 0, slots := 0, locals := 27 }
def f_S_takeGroups_j86 (t_at : Int32) (t_fault : Int32) (p1 : Nat → Int64) (v4 : Int32) (v5 : Int32) : Option (Int32 × Int32 × (Nat → Int64)) :=
  bnd (t_at + (v4 * v5)) (fun x5 => some (x5, t_fault, p1))
def f_S_takeGroups_l18 (n : Nat) (t_row_n : Nat) (p1_n : Nat) (t_at : Int32) (t_to : Int32) (t_row : Nat → Int32) (v2 : Int32) (v3 : Int32) (v4 : Int32) (v5 : Int32) (t_fault : Int32) (p1 : Nat → Int64) (v6 : Int32) : Option ((Int32 × (Nat → Int64) × Int32) ⊕ ((Int32 × (Nat → Int64) × Int32))) :=
  (if ((8 : Int32) * v4) ≤ v6 then some (Sum.inr ((t_fault, p1, v6))) else Option.bind (f_S_bitsAt n t_row_n t_to t_row (((8 : Int32) * t_at) + (v5 * v6)) v5) (fun o12 => (if v3 ≤ (v2 + v6) then (if o12 = (0 : Int64) then bnd (v6 + (1 : Int32)) (fun x13 => some (Sum.inl (t_fault, p1, x13))) else Option.bind (f_S_fail t_fault (5 : Int32)) (fun o17 => bnd (v6 + (1 : Int32)) (fun x18 => some (Sum.inl (o17, p1, x18))))) else gd (inB (v2 + v6) p1_n) (bnd (v6 + (1 : Int32)) (fun x23 => some (Sum.inl (t_fault, vp_updL p1 (v2 + v6).toNatClampNeg o12, x23)))))))
def f_S_takeGroups (n : Nat) (t_row_n : Nat) (p1_n : Nat) (t_at : Int32) (t_to : Int32) (t_fault : Int32) (t_row : Nat → Int32) (p1 : Nat → Int64) (v2 : Int32) (v3 : Int32) (v4 : Int32) (v5 : Int32) : Option (Int32 × Int32 × (Nat → Int64)) :=
  Option.bind (f_S_there t_at t_to t_fault (v4.toInt64 * v5.toInt64)) (fun o39 => (if o39.1 = 0 then some (t_at, o39.2, p1) else Option.bind (lp (fun v => f_S_takeGroups_l18 n t_row_n p1_n t_at t_to t_row v2 v3 v4 v5 v.1 v.2.1 v.2.2) n (o39.2, p1, (0 : Int32))) (fun o => f_S_takeGroups_j86 t_at o.1 o.2.1 v4 v5)))
set_option maxHeartbeats 4000000 in
set_option maxRecDepth 100000 in
theorem c_S_takeGroups (l : Launch) (D : va_G) (k : ClassId × ClassId × ClassId) (a_t a_t_bytes a_t_row a_t_widths a_p1 : Nat) (t_row_n p1_n : Nat) (t_at : Int32) (t_to : Int32) (t_fault : Int32) (t_row : Nat → Int32) (p1 : Nat → Int64) (v2 : Int32) (v3 : Int32) (v4 : Int32) (v5 : Int32) (n : Nat) (out : Int32 × Int32 × (Nat → Int64)) (h : f_S_takeGroups n t_row_n p1_n t_at t_to t_fault t_row p1 v2 v3 v4 v5 = some out) : Ct l D k y_S_takeGroups b_S_takeGroups 9 none rm_S_takeGroups [.ref a_t, .ref a_p1, .int v2, .int v3, .int v4, .int v5] [(a_t, .inr (5, [.ref a_t_bytes, .ref a_t_row, .ref a_t_widths, .int t_at, .int t_to, .int t_fault])), (a_t_row, .inl (k.1, t_row_n, .inl t_row)), (a_p1, .inl (k.2.2, p1_n, .inr (.inl p1)))] [(a_t, .inr (5, [.ref a_t_bytes, .ref a_t_row, .ref a_t_widths, .int out.1, .int t_to, .int out.2.1])), (a_t_row, .inl (k.1, t_row_n, .inl t_row)), (a_p1, .inl (k.2.2, p1_n, .inr (.inl out.2.2)))] none := by
  refine Ct.ofV (by decide) (Nat.le_of_ble_eq_true rfl) ?_
  intro p e s m args below meth c A Q ls hx hb hml hown hts hA hK hP hD hS hE hl ret
  have hown : s.vm.findClass "PageForm$Source" = some m.cls := hown
  have hl : lv_has ls 9 [(0, .ref a_t), (1, .ref a_p1), (2, .int v2), (3, .int v3), (4, .int v4), (5, .int v5)] := hl
  have ret2 : ∀ (y0 : Int32) (y1 : Int32) (y2 : Nat → Int64) (_ : (y0, y1, y2) = out) {pc : Nat} {ls : Array Slot} {H : Heap} {locs : List Loc}, decode b_S_takeGroups pc = .ok (.return_, 1) → va_P D CL [(a_t, .inr (5, [.ref a_t_bytes, .ref a_t_row, .ref a_t_widths, .int y0, .int t_to, .int y1])), (a_t_row, .inl (k.1, t_row_n, .inl t_row)), (a_p1, .inl (k.2.2, p1_n, .inr (.inl y2)))] H → va_D A [(a_t, .inr (5, [.ref a_t_bytes, .ref a_t_row, .ref a_t_widths, .int y0, .int t_to, .int y1])), (a_t_row, .inl (k.1, t_row_n, .inl t_row)), (a_p1, .inl (k.2.2, p1_n, .inr (.inl y2)))] → va_S A s.heap H locs → W p l e rm_S_takeGroups s m args below meth c H locs 0 0 Q (F0 m pc ls []) := by
    intro y0 y1 y2 e0; subst e0; exact ret
  clear ret
  have J86 : ∀ (t_at : Int32) (t_fault : Int32) (p1 : Nat → Int64) (H : Heap) (locs : List Loc) (ls : Array Slot), va_P D CL [(a_t, .inr (5, [.ref a_t_bytes, .ref a_t_row, .ref a_t_widths, .int t_at, .int t_to, .int t_fault])), (a_t_row, .inl (k.1, t_row_n, .inl t_row)), (a_p1, .inl (k.2.2, p1_n, .inr (.inl p1)))] H → va_D A [(a_t, .inr (5, [.ref a_t_bytes, .ref a_t_row, .ref a_t_widths, .int t_at, .int t_to, .int t_fault])), (a_t_row, .inl (k.1, t_row_n, .inl t_row)), (a_p1, .inl (k.2.2, p1_n, .inr (.inl p1)))] → va_S A s.heap H locs → lv_has ls 9 [(0, .ref a_t), (4, .int v4), (5, .int v5)] → f_S_takeGroups_j86 t_at t_fault p1 v4 v5 = some out → W p l e rm_S_takeGroups s m args below meth c H locs 0 0 Q (F0 m 86 ls []) := by
    intro t_at t_fault p1 H locs ls hP hD hS hl h
    unfold f_S_takeGroups_j86 at h
    refine lv_aload_n hx hb d_S_takeGroups_86 rfl (lv_at hl 0 rfl) ?_
    refine lv_dup hx hb d_S_takeGroups_87 rfl ?_
    refine va_get (D := D) (ci := 5) (v := .int t_at) (C := "PageForm$Source") (T := F_S) (N := 6) hx hb hts in_S hown hK hP 0 rfl rfl 3 (by decide) (hts _ fl_S_26) (fun _ h9 => h9) rfl d_S_takeGroups_88 ?_
    refine lv_iload hx hb d_S_takeGroups_91 (lv_at hl 1 rfl) ?_
    refine lv_iload hx hb d_S_takeGroups_93 (lv_at hl 2 rfl) ?_
    refine lv_imul hx hb d_S_takeGroups_95 ?_
    refine lv_iadd hx hb d_S_takeGroups_96 ?_
    refine lv_topi (fun x5 ex5 => ?_)
    have h := bnd_at h ex5
    refine va_put (D := D) (ci := 5) (v := .int x5) (ty := .int) (C := "PageForm$Source") (T := F_S) (N := 6) hx hb hts in_S t_S t_S_ok n_S hown hK hP hD hS 0 rfl rfl 3 (by decide) (hts _ fl_S_26) (fun _ h9 => h9) rfl (by decide +kernel) rfl rfl (Nat.le_of_ble_eq_true rfl) d_S_takeGroups_97 (fun H locs hP hD hS => ?_)
    have hP : va_P D CL [(a_t, .inr (5, [.ref a_t_bytes, .ref a_t_row, .ref a_t_widths, .int x5, .int t_to, .int t_fault])), (a_t_row, .inl (k.1, t_row_n, .inl t_row)), (a_p1, .inl (k.2.2, p1_n, .inr (.inl p1)))] H := hP
    have hD : va_D A [(a_t, .inr (5, [.ref a_t_bytes, .ref a_t_row, .ref a_t_widths, .int x5, .int t_to, .int t_fault])), (a_t_row, .inl (k.1, t_row_n, .inl t_row)), (a_p1, .inl (k.2.2, p1_n, .inr (.inl p1)))] := hD
    exact ret2 _ _ _ (Option.some.inj h) d_S_takeGroups_100 hP hD hS
  have L18 : ∀ (K : Nat) (t_at : Int32) (t_fault : Int32) (p1 : Nat → Int64) (v6 : Int32) (o : (Int32 × (Nat → Int64) × Int32)) (H : Heap) (locs : List Loc) (ls : Array Slot), va_P D CL [(a_t, .inr (5, [.ref a_t_bytes, .ref a_t_row, .ref a_t_widths, .int t_at, .int t_to, .int t_fault])), (a_t_row, .inl (k.1, t_row_n, .inl t_row)), (a_p1, .inl (k.2.2, p1_n, .inr (.inl p1)))] H → va_D A [(a_t, .inr (5, [.ref a_t_bytes, .ref a_t_row, .ref a_t_widths, .int t_at, .int t_to, .int t_fault])), (a_t_row, .inl (k.1, t_row_n, .inl t_row)), (a_p1, .inl (k.2.2, p1_n, .inr (.inl p1)))] → va_S A s.heap H locs → lv_has ls 9 [(0, .ref a_t), (1, .ref a_p1), (2, .int v2), (3, .int v3), (4, .int v4), (5, .int v5), (6, .int v6)] → lp (fun v => f_S_takeGroups_l18 n t_row_n p1_n t_at t_to t_row v2 v3 v4 v5 v.1 v.2.1 v.2.2) K (t_fault, p1, v6) = some o → (fun o => f_S_takeGroups_j86 t_at o.1 o.2.1 v4 v5) o = some out → W p l e rm_S_takeGroups s m args below meth c H locs 0 0 Q (F0 m 18 ls []) := by
    intro K
    induction K with
    | zero => intros; exact absurd (by assumption) lp_no
    | succ K ih18 =>
      intro t_at t_fault p1 v6 o H locs ls hP hD hS hl h0 hx18
      obtain ⟨b18, h, hc18⟩ := lp_at h0
      have h : f_S_takeGroups_l18 n t_row_n p1_n t_at t_to t_row v2 v3 v4 v5 t_fault p1 v6 = some b18 := h
      unfold f_S_takeGroups_l18 at h
      refine lv_iload hx hb d_S_takeGroups_18 (lv_at hl 6 rfl) ?_
      refine lv_bipush (v := 8) hx hb d_S_takeGroups_20 (by decide) ?_
      refine lv_iload hx hb d_S_takeGroups_22 (lv_at hl 4 rfl) ?_
      refine lv_imul hx hb d_S_takeGroups_24 ?_
      refine lv_icmp_ge (tgt := 86) hx hb d_S_takeGroups_25 (by decide) (fun c => ?_) (fun c => ?_)
      · have h := ift_at h c
        obtain rfl := lp_out h hc18
        exact J86 t_at t_fault p1 _ _ ls hP hD hS (lv_sub hl [0, 4, 5] rfl) hx18
      · have h := iff_at h c
        refine lv_aload_n hx hb d_S_takeGroups_28 rfl (lv_at hl 0 rfl) ?_
        refine lv_bipush (v := 8) hx hb d_S_takeGroups_29 (by decide) ?_
        refine lv_aload_n hx hb d_S_takeGroups_31 rfl (lv_at hl 0 rfl) ?_
        refine va_get (D := D) (ci := 5) (v := .int t_at) (C := "PageForm$Source") (T := F_S) (N := 6) hx hb hts in_S hown hK hP 0 rfl rfl 3 (by decide) (hts _ fl_S_26) (fun _ h9 => h9) rfl d_S_takeGroups_32 ?_
        refine lv_imul hx hb d_S_takeGroups_35 ?_
        refine lv_iload hx hb d_S_takeGroups_36 (lv_at hl 5 rfl) ?_
        refine lv_iload hx hb d_S_takeGroups_38 (lv_at hl 6 rfl) ?_
        refine lv_imul hx hb d_S_takeGroups_40 ?_
        refine lv_iadd hx hb d_S_takeGroups_41 ?_
        refine lv_iload hx hb d_S_takeGroups_42 (lv_at hl 5 rfl) ?_
        obtain ⟨o12, ho12, h⟩ := obd_at h
        refine g_V (As := [.int (((8 : Int32) * t_at) + (v5 * v6)), .int v5]) (rest := []) hx hb hml hown hts hA hK hP hD hS hE (c_S_bitsAt l D k a_t a_t_bytes a_t_row a_t_widths t_row_n t_at t_to t_fault t_row (((8 : Int32) * t_at) + (v5 * v6)) v5 n o12 ho12) mw_S_bitsAt mi_S_bitsAt ml_S_43 [0, 1] rfl (by decide) rfl rfl rfl 0 rfl rfl rfl rfl rfl hl.1 rfl (Nat.le_of_ble_eq_true rfl) ⟨Nat.zero_le _, Nat.zero_le _⟩ d_S_takeGroups_44 (fun H locs hP hD hS => ?_)
        have hP : va_P D CL [(a_t, .inr (5, [.ref a_t_bytes, .ref a_t_row, .ref a_t_widths, .int t_at, .int t_to, .int t_fault])), (a_t_row, .inl (k.1, t_row_n, .inl t_row)), (a_p1, .inl (k.2.2, p1_n, .inr (.inl p1)))] H := hP
        have hD : va_D A [(a_t, .inr (5, [.ref a_t_bytes, .ref a_t_row, .ref a_t_widths, .int t_at, .int t_to, .int t_fault])), (a_t_row, .inl (k.1, t_row_n, .inl t_row)), (a_p1, .inl (k.2.2, p1_n, .inr (.inl p1)))] := hD
        refine W.eq (g2 := F0 m 47 ls [.long o12]) rfl ?_
        refine lv_lstore (lv' := [(7, .long o12), (0, .ref a_t), (1, .ref a_p1), (2, .int v2), (3, .int v3), (4, .int v4), (5, .int v5), (6, .int v6)]) hx hb d_S_takeGroups_47 hl (by decide) rfl (fun ls hl => ?_)
        refine lv_iload_n hx hb d_S_takeGroups_49 rfl (lv_at hl 3 rfl) ?_
        refine lv_iload hx hb d_S_takeGroups_50 (lv_at hl 7 rfl) ?_
        refine lv_iadd hx hb d_S_takeGroups_52 ?_
        refine lv_iload_n hx hb d_S_takeGroups_53 rfl (lv_at hl 4 rfl) ?_
        refine lv_icmp_ge (tgt := 68) hx hb d_S_takeGroups_54 (by decide) (fun c => ?_) (fun c => ?_)
        · have h := ift_at h c
          refine lv_lload hx hb d_S_takeGroups_68 (lv_at hl 0 rfl) ?_
          refine lv_lconst (v := 0) hx hb d_S_takeGroups_70 (by decide) ?_
          refine W.lcmp hx hb d_S_takeGroups_71 ?_
          refine lv_if_eq (tgt := 80) hx hb d_S_takeGroups_72 (by decide) (fun c => ?_) (fun c => ?_)
          · have c := zc_eq.mp c
            have h := ift_at h c
            obtain ⟨x13, ex13⟩ : ∃ z : Int32, z = v6 + (1 : Int32) := ⟨_, rfl⟩
            have h := bnd_at h ex13
            refine lv_iinc (v := x13) (lv' := [(6, .int x13), (7, .long o12), (0, .ref a_t), (1, .ref a_p1), (2, .int v2), (3, .int v3), (4, .int v4), (5, .int v5)]) hx hb d_S_takeGroups_80 hl (k := 7) rfl (by rw [ex13]; rfl) (by decide) rfl (fun ls hl => ?_)
            refine lv_goto (tgt := 18) hx hb d_S_takeGroups_83 (by decide) ?_
            have h := lp_go h hc18
            exact ih18 t_at t_fault p1 x13 o _ _ ls hP hD hS (lv_sub hl [2, 3, 4, 5, 6, 7, 0] rfl) h hx18
          · have c := mt zc_eq.mpr c
            have h := iff_at h c
            refine lv_aload_n hx hb d_S_takeGroups_75 rfl (lv_at hl 1 rfl) ?_
            refine lv_iconst (v := 5) hx hb d_S_takeGroups_76 (by decide) ?_
            obtain ⟨o17, ho17, h⟩ := obd_at h
            refine g_V (As := [.int (5 : Int32)]) (rest := []) hx hb hml hown hts hA hK hP hD hS hE (c_S_fail l D k a_t a_t_bytes a_t_row a_t_widths t_at t_to t_fault (5 : Int32) n o17 ho17) mw_S_fail mi_S_fail ml_S_51 [0] rfl (by decide) rfl rfl rfl 0 rfl rfl rfl rfl rfl hl.1 rfl (Nat.le_of_ble_eq_true rfl) ⟨Nat.zero_le _, Nat.zero_le _⟩ d_S_takeGroups_77 (fun H locs hP hD hS => ?_)
            have hP : va_P D CL [(a_t, .inr (5, [.ref a_t_bytes, .ref a_t_row, .ref a_t_widths, .int t_at, .int t_to, .int o17])), (a_t_row, .inl (k.1, t_row_n, .inl t_row)), (a_p1, .inl (k.2.2, p1_n, .inr (.inl p1)))] H := hP
            have hD : va_D A [(a_t, .inr (5, [.ref a_t_bytes, .ref a_t_row, .ref a_t_widths, .int t_at, .int t_to, .int o17])), (a_t_row, .inl (k.1, t_row_n, .inl t_row)), (a_p1, .inl (k.2.2, p1_n, .inr (.inl p1)))] := hD
            refine W.eq (g2 := F0 m 80 ls []) rfl ?_
            obtain ⟨x18, ex18⟩ : ∃ z : Int32, z = v6 + (1 : Int32) := ⟨_, rfl⟩
            have h := bnd_at h ex18
            refine lv_iinc (v := x18) (lv' := [(6, .int x18), (7, .long o12), (0, .ref a_t), (1, .ref a_p1), (2, .int v2), (3, .int v3), (4, .int v4), (5, .int v5)]) hx hb d_S_takeGroups_80 hl (k := 7) rfl (by rw [ex18]; rfl) (by decide) rfl (fun ls hl => ?_)
            refine lv_goto (tgt := 18) hx hb d_S_takeGroups_83 (by decide) ?_
            have h := lp_go h hc18
            exact ih18 t_at o17 p1 x18 o _ _ ls hP hD hS (lv_sub hl [2, 3, 4, 5, 6, 7, 0] rfl) h hx18
        · have h := iff_at h c
          refine lv_aload_n hx hb d_S_takeGroups_57 rfl (lv_at hl 2 rfl) ?_
          refine lv_iload_n hx hb d_S_takeGroups_58 rfl (lv_at hl 3 rfl) ?_
          refine lv_iload hx hb d_S_takeGroups_59 (lv_at hl 7 rfl) ?_
          refine lv_iadd hx hb d_S_takeGroups_61 ?_
          refine lv_lload hx hb d_S_takeGroups_62 (lv_at hl 0 rfl) ?_
          obtain ⟨g22, h⟩ := gd_at h
          refine va_last hx hb hK hP hD hS 2 2 rfl rfl (inB_in g22) d_S_takeGroups_64 (fun H locs hP hD hS => ?_)
          have hP : va_P D CL [(a_t, .inr (5, [.ref a_t_bytes, .ref a_t_row, .ref a_t_widths, .int t_at, .int t_to, .int t_fault])), (a_t_row, .inl (k.1, t_row_n, .inl t_row)), (a_p1, .inl (k.2.2, p1_n, .inr (.inl (vp_updL p1 (v2 + v6).toNatClampNeg o12))))] H := hP
          have hD : va_D A [(a_t, .inr (5, [.ref a_t_bytes, .ref a_t_row, .ref a_t_widths, .int t_at, .int t_to, .int t_fault])), (a_t_row, .inl (k.1, t_row_n, .inl t_row)), (a_p1, .inl (k.2.2, p1_n, .inr (.inl (vp_updL p1 (v2 + v6).toNatClampNeg o12))))] := hD
          refine lv_goto (tgt := 80) hx hb d_S_takeGroups_65 (by decide) ?_
          obtain ⟨x23, ex23⟩ : ∃ z : Int32, z = v6 + (1 : Int32) := ⟨_, rfl⟩
          have h := bnd_at h ex23
          refine lv_iinc (v := x23) (lv' := [(6, .int x23), (7, .long o12), (0, .ref a_t), (1, .ref a_p1), (2, .int v2), (3, .int v3), (4, .int v4), (5, .int v5)]) hx hb d_S_takeGroups_80 hl (k := 7) rfl (by rw [ex23]; rfl) (by decide) rfl (fun ls hl => ?_)
          refine lv_goto (tgt := 18) hx hb d_S_takeGroups_83 (by decide) ?_
          have h := lp_go h hc18
          exact ih18 t_at t_fault (vp_updL p1 (v2 + v6).toNatClampNeg o12) x23 o _ _ ls hP hD hS (lv_sub hl [2, 3, 4, 5, 6, 7, 0] rfl) h hx18
  unfold f_S_takeGroups at h
  refine lv_aload_n hx hb d_S_takeGroups_0 rfl (lv_at hl 0 rfl) ?_
  refine lv_iload hx hb d_S_takeGroups_1 (lv_at hl 4 rfl) ?_
  refine lv_i2l hx hb d_S_takeGroups_3 rfl ?_
  refine lv_iload hx hb d_S_takeGroups_4 (lv_at hl 5 rfl) ?_
  refine lv_i2l hx hb d_S_takeGroups_6 rfl ?_
  refine lv_lmul hx hb d_S_takeGroups_7 ?_
  obtain ⟨o39, ho39, h⟩ := obd_at h
  refine g_V (As := [.long (v4.toInt64 * v5.toInt64)]) (rest := []) hx hb hml hown hts hA hK hP hD hS hE (c_S_there l D k a_t a_t_bytes a_t_row a_t_widths t_at t_to t_fault (v4.toInt64 * v5.toInt64) n o39 ho39) mw_S_there mi_S_there ml_S_39 [0] rfl (by decide) rfl rfl rfl 0 rfl rfl rfl rfl rfl hl.1 rfl (Nat.le_of_ble_eq_true rfl) ⟨Nat.zero_le _, Nat.zero_le _⟩ d_S_takeGroups_8 (fun H locs hP hD hS => ?_)
  have hP : va_P D CL [(a_t, .inr (5, [.ref a_t_bytes, .ref a_t_row, .ref a_t_widths, .int t_at, .int t_to, .int o39.2])), (a_t_row, .inl (k.1, t_row_n, .inl t_row)), (a_p1, .inl (k.2.2, p1_n, .inr (.inl p1)))] H := hP
  have hD : va_D A [(a_t, .inr (5, [.ref a_t_bytes, .ref a_t_row, .ref a_t_widths, .int t_at, .int t_to, .int o39.2])), (a_t_row, .inl (k.1, t_row_n, .inl t_row)), (a_p1, .inl (k.2.2, p1_n, .inr (.inl p1)))] := hD
  refine W.eq (g2 := F0 m 11 ls [.int o39.1]) rfl ?_
  refine lv_if_ne (tgt := 15) hx hb d_S_takeGroups_11 (by decide) (fun c => ?_) (fun c => ?_)
  · have h := iff_at h c
    refine lv_iconst (v := 0) hx hb d_S_takeGroups_15 (by decide) ?_
    refine lv_istore (lv' := [(6, .int (0 : Int32)), (0, .ref a_t), (1, .ref a_p1), (2, .int v2), (3, .int v3), (4, .int v4), (5, .int v5)]) hx hb d_S_takeGroups_16 hl (by decide) rfl (fun ls hl => ?_)
    obtain ⟨o40, ho40, h⟩ := obd_at h
    exact L18 n t_at o39.2 p1 (0 : Int32) o40 _ _ ls hP hD hS (lv_sub hl [1, 2, 3, 4, 5, 6, 0] rfl) ho40 h
  · have h := ift_at h c
    exact ret2 _ _ _ (Option.some.inj h) d_S_takeGroups_14 hP hD hS

def rm_S_runs : Room := { frames := 3, cells := 0, slots := 0, locals := 76 }
def f_S_runs_j135 (t_at : Int32) (t_to : Int32) (t_fault : Int32) (p1 : Nat → Int64) : Option (Int32 × Int32 × (Nat → Int64)) :=
  Option.bind (f_S_mustBeAtEnd t_at t_to t_fault) (fun o6 => some (t_at, o6, p1))
def f_S_runs_j78 (n : Nat) (t_row_n : Nat) (p1_n : Nat) (t_at : Int32) (t_to : Int32) (t_fault : Int32) (t_row : Nat → Int32) (p1 : Nat → Int64) (v2 : Int32) (v3 : Int32) (v4 : Int32) (v5 : Int32) (v8 : Int32) (k0 : Int32) (k1 : Int64) : Option ((Int32 × Int32 × (Nat → Int64) × Int32 × Int32) ⊕ ((Int32 × Int32 × (Nat → Int64) × Int32 × Int32))) :=
  Option.bind (f_S_takeCount t_fault k1 k0) (fun o11 => (if v8 = 0 then Option.bind (f_S_takeGroups n t_row_n p1_n t_at t_to o11.2 t_row p1 v4 v2 o11.1 v3) (fun o12 => bnd (v4 + ((8 : Int32) * o11.1)) (fun x13 => bnd (v5 + (1 : Int32)) (fun x14 => some (Sum.inl (o12.1, o12.2.1, o12.2.2, x13, x14))))) else Option.bind (f_S_takeOne n t_row_n p1_n t_at t_to o11.2 t_row p1 v4 o11.1 v3) (fun o19 => bnd (v4 + o11.1) (fun x20 => bnd (v5 + (1 : Int32)) (fun x21 => some (Sum.inl (o19.1, o19.2.1, o19.2.2, x20, x21)))))))
def f_S_runs_j45 (n : Nat) (t_row_n : Nat) (p1_n : Nat) (t_at : Int32) (t_to : Int32) (t_fault : Int32) (t_row : Nat → Int32) (p1 : Nat → Int64) (v2 : Int32) (v3 : Int32) (v4 : Int32) (v5 : Int32) (v6 : Int64) (k0 : Int32) : Option ((Int32 × Int32 × (Nat → Int64) × Int32 × Int32) ⊕ ((Int32 × Int32 × (Nat → Int64) × Int32 × Int32))) :=
  bnd (v2 - v4) (fun x38 => (if k0 = 0 then f_S_runs_j78 n t_row_n p1_n t_at t_to t_fault t_row p1 v2 v3 v4 v5 k0 (((x38 + (8 : Int32)) - (1 : Int32)) / (8 : Int32)) ((v6.toUInt64 >>> ((1 : Int32).toInt64.toUInt64 &&& Int64.toUInt64 63)).toInt64) else f_S_runs_j78 n t_row_n p1_n t_at t_to t_fault t_row p1 v2 v3 v4 v5 k0 x38 ((v6.toUInt64 >>> ((1 : Int32).toInt64.toUInt64 &&& Int64.toUInt64 63)).toInt64)))
def f_S_runs_l6 (n : Nat) (t_row_n : Nat) (p1_n : Nat) (t_to : Int32) (t_row : Nat → Int32) (v2 : Int32) (v3 : Int32) (t_at : Int32) (t_fault : Int32) (p1 : Nat → Int64) (v4 : Int32) (v5 : Int32) : Option ((Int32 × Int32 × (Nat → Int64) × Int32 × Int32) ⊕ ((Int32 × Int32 × (Nat → Int64) × Int32 × Int32))) :=
  (if v2 ≤ v5 then some (Sum.inr ((t_at, t_fault, p1, v4, v5))) else (if v2 ≤ v4 then some (Sum.inr ((t_at, t_fault, p1, v4, v5))) else (if t_fault = 0 then Option.bind (f_S_varint n t_row_n t_at t_to t_fault t_row) (fun o63 => (if (o63.1 &&& (1 : Int64)) = (0 : Int64) then f_S_runs_j45 n t_row_n p1_n o63.2.1 t_to o63.2.2 t_row p1 v2 v3 v4 v5 o63.1 (1 : Int32) else f_S_runs_j45 n t_row_n p1_n o63.2.1 t_to o63.2.2 t_row p1 v2 v3 v4 v5 o63.1 (0 : Int32))) else some (Sum.inr ((t_at, t_fault, p1, v4, v5))))))
def f_S_runs (n : Nat) (t_row_n : Nat) (p1_n : Nat) (t_at : Int32) (t_to : Int32) (t_fault : Int32) (t_row : Nat → Int32) (p1 : Nat → Int64) (v2 : Int32) (v3 : Int32) : Option (Int32 × Int32 × (Nat → Int64)) :=
  Option.bind (lp (fun v => f_S_runs_l6 n t_row_n p1_n t_to t_row v2 v3 v.1 v.2.1 v.2.2.1 v.2.2.2.1 v.2.2.2.2) n (t_at, t_fault, p1, (0 : Int32), (0 : Int32))) (fun o => f_S_runs_j135 o.1 t_to o.2.1 o.2.2.1)
set_option maxHeartbeats 4000000 in
set_option maxRecDepth 100000 in
theorem c_S_runs (l : Launch) (D : va_G) (k : ClassId × ClassId × ClassId) (a_t a_t_bytes a_t_row a_t_widths a_p1 : Nat) (t_row_n p1_n : Nat) (t_at : Int32) (t_to : Int32) (t_fault : Int32) (t_row : Nat → Int32) (p1 : Nat → Int64) (v2 : Int32) (v3 : Int32) (n : Nat) (out : Int32 × Int32 × (Nat → Int64)) (h : f_S_runs n t_row_n p1_n t_at t_to t_fault t_row p1 v2 v3 = some out) : Ct l D k y_S_runs b_S_runs 11 none rm_S_runs [.ref a_t, .ref a_p1, .int v2, .int v3] [(a_t, .inr (5, [.ref a_t_bytes, .ref a_t_row, .ref a_t_widths, .int t_at, .int t_to, .int t_fault])), (a_t_row, .inl (k.1, t_row_n, .inl t_row)), (a_p1, .inl (k.2.2, p1_n, .inr (.inl p1)))] [(a_t, .inr (5, [.ref a_t_bytes, .ref a_t_row, .ref a_t_widths, .int out.1, .int t_to, .int out.2.1])), (a_t_row, .inl (k.1, t_row_n, .inl t_row)), (a_p1, .inl (k.2.2, p1_n, .inr (.inl out.2.2)))] none := by
  refine Ct.ofV (by decide) (Nat.le_of_ble_eq_true rfl) ?_
  intro p e s m args below meth c A Q ls hx hb hml hown hts hA hK hP hD hS hE hl ret
  have hown : s.vm.findClass "PageForm$Source" = some m.cls := hown
  have hl : lv_has ls 11 [(0, .ref a_t), (1, .ref a_p1), (2, .int v2), (3, .int v3)] := hl
  have ret2 : ∀ (y0 : Int32) (y1 : Int32) (y2 : Nat → Int64) (_ : (y0, y1, y2) = out) {pc : Nat} {ls : Array Slot} {H : Heap} {locs : List Loc}, decode b_S_runs pc = .ok (.return_, 1) → va_P D CL [(a_t, .inr (5, [.ref a_t_bytes, .ref a_t_row, .ref a_t_widths, .int y0, .int t_to, .int y1])), (a_t_row, .inl (k.1, t_row_n, .inl t_row)), (a_p1, .inl (k.2.2, p1_n, .inr (.inl y2)))] H → va_D A [(a_t, .inr (5, [.ref a_t_bytes, .ref a_t_row, .ref a_t_widths, .int y0, .int t_to, .int y1])), (a_t_row, .inl (k.1, t_row_n, .inl t_row)), (a_p1, .inl (k.2.2, p1_n, .inr (.inl y2)))] → va_S A s.heap H locs → W p l e rm_S_runs s m args below meth c H locs 0 0 Q (F0 m pc ls []) := by
    intro y0 y1 y2 e0; subst e0; exact ret
  clear ret
  have J135 : ∀ (t_at : Int32) (t_fault : Int32) (p1 : Nat → Int64) (H : Heap) (locs : List Loc) (ls : Array Slot), va_P D CL [(a_t, .inr (5, [.ref a_t_bytes, .ref a_t_row, .ref a_t_widths, .int t_at, .int t_to, .int t_fault])), (a_t_row, .inl (k.1, t_row_n, .inl t_row)), (a_p1, .inl (k.2.2, p1_n, .inr (.inl p1)))] H → va_D A [(a_t, .inr (5, [.ref a_t_bytes, .ref a_t_row, .ref a_t_widths, .int t_at, .int t_to, .int t_fault])), (a_t_row, .inl (k.1, t_row_n, .inl t_row)), (a_p1, .inl (k.2.2, p1_n, .inr (.inl p1)))] → va_S A s.heap H locs → lv_has ls 11 [(0, .ref a_t)] → f_S_runs_j135 t_at t_to t_fault p1 = some out → W p l e rm_S_runs s m args below meth c H locs 0 0 Q (F0 m 135 ls []) := by
    intro t_at t_fault p1 H locs ls hP hD hS hl h
    unfold f_S_runs_j135 at h
    refine lv_aload_n hx hb d_S_runs_135 rfl (lv_at hl 0 rfl) ?_
    obtain ⟨o6, ho6, h⟩ := obd_at h
    refine g_V (As := []) (rest := []) hx hb hml hown hts hA hK hP hD hS hE (c_S_mustBeAtEnd l D k a_t a_t_bytes a_t_row a_t_widths t_at t_to t_fault n o6 ho6) mw_S_mustBeAtEnd mi_S_mustBeAtEnd ml_S_71 [0] rfl (by decide) rfl rfl rfl 0 rfl rfl rfl rfl rfl hl.1 rfl (Nat.le_of_ble_eq_true rfl) ⟨Nat.zero_le _, Nat.zero_le _⟩ d_S_runs_136 (fun H locs hP hD hS => ?_)
    have hP : va_P D CL [(a_t, .inr (5, [.ref a_t_bytes, .ref a_t_row, .ref a_t_widths, .int t_at, .int t_to, .int o6])), (a_t_row, .inl (k.1, t_row_n, .inl t_row)), (a_p1, .inl (k.2.2, p1_n, .inr (.inl p1)))] H := hP
    have hD : va_D A [(a_t, .inr (5, [.ref a_t_bytes, .ref a_t_row, .ref a_t_widths, .int t_at, .int t_to, .int o6])), (a_t_row, .inl (k.1, t_row_n, .inl t_row)), (a_p1, .inl (k.2.2, p1_n, .inr (.inl p1)))] := hD
    refine W.eq (g2 := F0 m 139 ls []) rfl ?_
    exact ret2 _ _ _ (Option.some.inj h) d_S_runs_139 hP hD hS
  have L6 : ∀ (K : Nat) (t_at : Int32) (t_fault : Int32) (p1 : Nat → Int64) (v4 : Int32) (v5 : Int32) (o : (Int32 × Int32 × (Nat → Int64) × Int32 × Int32)) (H : Heap) (locs : List Loc) (ls : Array Slot), va_P D CL [(a_t, .inr (5, [.ref a_t_bytes, .ref a_t_row, .ref a_t_widths, .int t_at, .int t_to, .int t_fault])), (a_t_row, .inl (k.1, t_row_n, .inl t_row)), (a_p1, .inl (k.2.2, p1_n, .inr (.inl p1)))] H → va_D A [(a_t, .inr (5, [.ref a_t_bytes, .ref a_t_row, .ref a_t_widths, .int t_at, .int t_to, .int t_fault])), (a_t_row, .inl (k.1, t_row_n, .inl t_row)), (a_p1, .inl (k.2.2, p1_n, .inr (.inl p1)))] → va_S A s.heap H locs → lv_has ls 11 [(0, .ref a_t), (1, .ref a_p1), (2, .int v2), (3, .int v3), (4, .int v4), (5, .int v5)] → lp (fun v => f_S_runs_l6 n t_row_n p1_n t_to t_row v2 v3 v.1 v.2.1 v.2.2.1 v.2.2.2.1 v.2.2.2.2) K (t_at, t_fault, p1, v4, v5) = some o → (fun o => f_S_runs_j135 o.1 t_to o.2.1 o.2.2.1) o = some out → W p l e rm_S_runs s m args below meth c H locs 0 0 Q (F0 m 6 ls []) := by
    intro K
    induction K with
    | zero => intros; exact absurd (by assumption) lp_no
    | succ K ih6 =>
      intro t_at t_fault p1 v4 v5 o H locs ls hP hD hS hl h0 hx6
      obtain ⟨b6, h, hc6⟩ := lp_at h0
      have h : f_S_runs_l6 n t_row_n p1_n t_to t_row v2 v3 t_at t_fault p1 v4 v5 = some b6 := h
      have J78 : ∀ (t_at : Int32) (t_fault : Int32) (p1 : Nat → Int64) (v4 : Int32) (v5 : Int32) (v8 : Int32) (k0 : Int32) (k1 : Int64) (H : Heap) (locs : List Loc) (ls : Array Slot), va_P D CL [(a_t, .inr (5, [.ref a_t_bytes, .ref a_t_row, .ref a_t_widths, .int t_at, .int t_to, .int t_fault])), (a_t_row, .inl (k.1, t_row_n, .inl t_row)), (a_p1, .inl (k.2.2, p1_n, .inr (.inl p1)))] H → va_D A [(a_t, .inr (5, [.ref a_t_bytes, .ref a_t_row, .ref a_t_widths, .int t_at, .int t_to, .int t_fault])), (a_t_row, .inl (k.1, t_row_n, .inl t_row)), (a_p1, .inl (k.2.2, p1_n, .inr (.inl p1)))] → va_S A s.heap H locs → lv_has ls 11 [(0, .ref a_t), (1, .ref a_p1), (2, .int v2), (3, .int v3), (4, .int v4), (5, .int v5), (8, .int v8)] → f_S_runs_j78 n t_row_n p1_n t_at t_to t_fault t_row p1 v2 v3 v4 v5 v8 k0 k1 = some b6 → W p l e rm_S_runs s m args below meth c H locs 0 0 Q (F0 m 78 ls [.int k0, .long k1, .ref a_t]) := by
        intro t_at t_fault p1 v4 v5 v8 k0 k1 H locs ls hP hD hS hl h
        unfold f_S_runs_j78 at h
        obtain ⟨o11, ho11, h⟩ := obd_at h
        refine g_V (As := [.long k1, .int k0]) (rest := []) hx hb hml hown hts hA hK hP hD hS hE (c_S_takeCount l D k a_t a_t_bytes a_t_row a_t_widths t_at t_to t_fault k1 k0 n o11 ho11) mw_S_takeCount mi_S_takeCount ml_S_59 [0] rfl (by decide) rfl rfl rfl 0 rfl rfl rfl rfl rfl hl.1 rfl (Nat.le_of_ble_eq_true rfl) ⟨Nat.zero_le _, Nat.zero_le _⟩ d_S_runs_78 (fun H locs hP hD hS => ?_)
        have hP : va_P D CL [(a_t, .inr (5, [.ref a_t_bytes, .ref a_t_row, .ref a_t_widths, .int t_at, .int t_to, .int o11.2])), (a_t_row, .inl (k.1, t_row_n, .inl t_row)), (a_p1, .inl (k.2.2, p1_n, .inr (.inl p1)))] H := hP
        have hD : va_D A [(a_t, .inr (5, [.ref a_t_bytes, .ref a_t_row, .ref a_t_widths, .int t_at, .int t_to, .int o11.2])), (a_t_row, .inl (k.1, t_row_n, .inl t_row)), (a_p1, .inl (k.2.2, p1_n, .inr (.inl p1)))] := hD
        refine W.eq (g2 := F0 m 81 ls [.int o11.1]) rfl ?_
        refine lv_istore (lv' := [(10, .int o11.1), (0, .ref a_t), (1, .ref a_p1), (2, .int v2), (3, .int v3), (4, .int v4), (5, .int v5), (8, .int v8)]) hx hb d_S_runs_81 hl (by decide) rfl (fun ls hl => ?_)
        refine lv_iload hx hb d_S_runs_83 (lv_at hl 7 rfl) ?_
        refine lv_if_eq (tgt := 108) hx hb d_S_runs_85 (by decide) (fun c => ?_) (fun c => ?_)
        · have h := ift_at h c
          refine lv_aload_n hx hb d_S_runs_108 rfl (lv_at hl 1 rfl) ?_
          refine lv_aload_n hx hb d_S_runs_109 rfl (lv_at hl 2 rfl) ?_
          refine lv_iload hx hb d_S_runs_110 (lv_at hl 5 rfl) ?_
          refine lv_iload_n hx hb d_S_runs_112 rfl (lv_at hl 3 rfl) ?_
          refine lv_iload hx hb d_S_runs_113 (lv_at hl 0 rfl) ?_
          refine lv_iload_n hx hb d_S_runs_115 rfl (lv_at hl 4 rfl) ?_
          obtain ⟨o12, ho12, h⟩ := obd_at h
          refine g_V (As := [.ref a_p1, .int v4, .int v2, .int o11.1, .int v3]) (rest := []) hx hb hml hown hts hA hK hP hD hS hE (c_S_takeGroups l D k a_t a_t_bytes a_t_row a_t_widths a_p1 t_row_n p1_n t_at t_to o11.2 t_row p1 v4 v2 o11.1 v3 n o12 ho12) mw_S_takeGroups mi_S_takeGroups ml_S_67 [0, 1, 2] rfl (by decide) rfl rfl rfl 0 rfl rfl rfl rfl rfl hl.1 rfl (Nat.le_of_ble_eq_true rfl) ⟨Nat.zero_le _, Nat.zero_le _⟩ d_S_runs_116 (fun H locs hP hD hS => ?_)
          have hP : va_P D CL [(a_t, .inr (5, [.ref a_t_bytes, .ref a_t_row, .ref a_t_widths, .int o12.1, .int t_to, .int o12.2.1])), (a_t_row, .inl (k.1, t_row_n, .inl t_row)), (a_p1, .inl (k.2.2, p1_n, .inr (.inl o12.2.2)))] H := hP
          have hD : va_D A [(a_t, .inr (5, [.ref a_t_bytes, .ref a_t_row, .ref a_t_widths, .int o12.1, .int t_to, .int o12.2.1])), (a_t_row, .inl (k.1, t_row_n, .inl t_row)), (a_p1, .inl (k.2.2, p1_n, .inr (.inl o12.2.2)))] := hD
          refine W.eq (g2 := F0 m 119 ls []) rfl ?_
          refine lv_iload hx hb d_S_runs_119 (lv_at hl 5 rfl) ?_
          refine lv_bipush (v := 8) hx hb d_S_runs_121 (by decide) ?_
          refine lv_iload hx hb d_S_runs_123 (lv_at hl 0 rfl) ?_
          refine lv_imul hx hb d_S_runs_125 ?_
          refine lv_iadd hx hb d_S_runs_126 ?_
          refine lv_topi (fun x13 ex13 => ?_)
          have h := bnd_at h ex13
          refine lv_istore (lv' := [(4, .int x13), (10, .int o11.1), (0, .ref a_t), (1, .ref a_p1), (2, .int v2), (3, .int v3), (5, .int v5), (8, .int v8)]) hx hb d_S_runs_127 hl (by decide) rfl (fun ls hl => ?_)
          obtain ⟨x14, ex14⟩ : ∃ z : Int32, z = v5 + (1 : Int32) := ⟨_, rfl⟩
          have h := bnd_at h ex14
          refine lv_iinc (v := x14) (lv' := [(5, .int x14), (4, .int x13), (10, .int o11.1), (0, .ref a_t), (1, .ref a_p1), (2, .int v2), (3, .int v3), (8, .int v8)]) hx hb d_S_runs_129 hl (k := 6) rfl (by rw [ex14]; rfl) (by decide) rfl (fun ls hl => ?_)
          refine lv_goto (tgt := 6) hx hb d_S_runs_132 (by decide) ?_
          have h := lp_go h hc6
          exact ih6 o12.1 o12.2.1 o12.2.2 x13 x14 o _ _ ls hP hD hS (lv_sub hl [3, 4, 5, 6, 1, 0] rfl) h hx6
        · have h := iff_at h c
          refine lv_aload_n hx hb d_S_runs_88 rfl (lv_at hl 1 rfl) ?_
          refine lv_aload_n hx hb d_S_runs_89 rfl (lv_at hl 2 rfl) ?_
          refine lv_iload hx hb d_S_runs_90 (lv_at hl 5 rfl) ?_
          refine lv_iload hx hb d_S_runs_92 (lv_at hl 0 rfl) ?_
          refine lv_iload_n hx hb d_S_runs_94 rfl (lv_at hl 4 rfl) ?_
          obtain ⟨o19, ho19, h⟩ := obd_at h
          refine g_V (As := [.ref a_p1, .int v4, .int o11.1, .int v3]) (rest := []) hx hb hml hown hts hA hK hP hD hS hE (c_S_takeOne l D k a_t a_t_bytes a_t_row a_t_widths a_p1 t_row_n p1_n t_at t_to o11.2 t_row p1 v4 o11.1 v3 n o19 ho19) mw_S_takeOne mi_S_takeOne ml_S_63 [0, 1, 2] rfl (by decide) rfl rfl rfl 0 rfl rfl rfl rfl rfl hl.1 rfl (Nat.le_of_ble_eq_true rfl) ⟨Nat.zero_le _, Nat.zero_le _⟩ d_S_runs_95 (fun H locs hP hD hS => ?_)
          have hP : va_P D CL [(a_t, .inr (5, [.ref a_t_bytes, .ref a_t_row, .ref a_t_widths, .int o19.1, .int t_to, .int o19.2.1])), (a_t_row, .inl (k.1, t_row_n, .inl t_row)), (a_p1, .inl (k.2.2, p1_n, .inr (.inl o19.2.2)))] H := hP
          have hD : va_D A [(a_t, .inr (5, [.ref a_t_bytes, .ref a_t_row, .ref a_t_widths, .int o19.1, .int t_to, .int o19.2.1])), (a_t_row, .inl (k.1, t_row_n, .inl t_row)), (a_p1, .inl (k.2.2, p1_n, .inr (.inl o19.2.2)))] := hD
          refine W.eq (g2 := F0 m 98 ls []) rfl ?_
          refine lv_iload hx hb d_S_runs_98 (lv_at hl 5 rfl) ?_
          refine lv_iload hx hb d_S_runs_100 (lv_at hl 0 rfl) ?_
          refine lv_iadd hx hb d_S_runs_102 ?_
          refine lv_topi (fun x20 ex20 => ?_)
          have h := bnd_at h ex20
          refine lv_istore (lv' := [(4, .int x20), (10, .int o11.1), (0, .ref a_t), (1, .ref a_p1), (2, .int v2), (3, .int v3), (5, .int v5), (8, .int v8)]) hx hb d_S_runs_103 hl (by decide) rfl (fun ls hl => ?_)
          refine lv_goto (tgt := 129) hx hb d_S_runs_105 (by decide) ?_
          obtain ⟨x21, ex21⟩ : ∃ z : Int32, z = v5 + (1 : Int32) := ⟨_, rfl⟩
          have h := bnd_at h ex21
          refine lv_iinc (v := x21) (lv' := [(5, .int x21), (4, .int x20), (10, .int o11.1), (0, .ref a_t), (1, .ref a_p1), (2, .int v2), (3, .int v3), (8, .int v8)]) hx hb d_S_runs_129 hl (k := 6) rfl (by rw [ex21]; rfl) (by decide) rfl (fun ls hl => ?_)
          refine lv_goto (tgt := 6) hx hb d_S_runs_132 (by decide) ?_
          have h := lp_go h hc6
          exact ih6 o19.1 o19.2.1 o19.2.2 x20 x21 o _ _ ls hP hD hS (lv_sub hl [3, 4, 5, 6, 1, 0] rfl) h hx6
      have J45 : ∀ (t_at : Int32) (t_fault : Int32) (p1 : Nat → Int64) (v4 : Int32) (v5 : Int32) (v6 : Int64) (k0 : Int32) (H : Heap) (locs : List Loc) (ls : Array Slot), va_P D CL [(a_t, .inr (5, [.ref a_t_bytes, .ref a_t_row, .ref a_t_widths, .int t_at, .int t_to, .int t_fault])), (a_t_row, .inl (k.1, t_row_n, .inl t_row)), (a_p1, .inl (k.2.2, p1_n, .inr (.inl p1)))] H → va_D A [(a_t, .inr (5, [.ref a_t_bytes, .ref a_t_row, .ref a_t_widths, .int t_at, .int t_to, .int t_fault])), (a_t_row, .inl (k.1, t_row_n, .inl t_row)), (a_p1, .inl (k.2.2, p1_n, .inr (.inl p1)))] → va_S A s.heap H locs → lv_has ls 11 [(0, .ref a_t), (1, .ref a_p1), (2, .int v2), (3, .int v3), (4, .int v4), (5, .int v5), (6, .long v6)] → f_S_runs_j45 n t_row_n p1_n t_at t_to t_fault t_row p1 v2 v3 v4 v5 v6 k0 = some b6 → W p l e rm_S_runs s m args below meth c H locs 0 0 Q (F0 m 45 ls [.int k0]) := by
        intro t_at t_fault p1 v4 v5 v6 k0 H locs ls hP hD hS hl h
        unfold f_S_runs_j45 at h
        refine lv_istore (lv' := [(8, .int k0), (0, .ref a_t), (1, .ref a_p1), (2, .int v2), (3, .int v3), (4, .int v4), (5, .int v5), (6, .long v6)]) hx hb d_S_runs_45 hl (by decide) rfl (fun ls hl => ?_)
        refine lv_iload_n hx hb d_S_runs_47 rfl (lv_at hl 3 rfl) ?_
        refine lv_iload hx hb d_S_runs_48 (lv_at hl 5 rfl) ?_
        refine lv_isub hx hb d_S_runs_50 ?_
        refine lv_topi (fun x38 ex38 => ?_)
        have h := bnd_at h ex38
        refine lv_istore (lv' := [(9, .int x38), (8, .int k0), (0, .ref a_t), (1, .ref a_p1), (2, .int v2), (3, .int v3), (4, .int v4), (5, .int v5), (6, .long v6)]) hx hb d_S_runs_51 hl (by decide) rfl (fun ls hl => ?_)
        refine lv_aload_n hx hb d_S_runs_53 rfl (lv_at hl 2 rfl) ?_
        refine lv_lload hx hb d_S_runs_54 (lv_at hl 8 rfl) ?_
        refine lv_iconst (v := 1) hx hb d_S_runs_56 (by decide) ?_
        refine lv_lushr hx hb d_S_runs_57 rfl ?_
        refine lv_iload hx hb d_S_runs_58 (lv_at hl 1 rfl) ?_
        refine lv_if_eq (tgt := 68) hx hb d_S_runs_60 (by decide) (fun c => ?_) (fun c => ?_)
        · have h := ift_at h c
          refine lv_iload hx hb d_S_runs_68 (lv_at hl 0 rfl) ?_
          refine lv_bipush (v := 8) hx hb d_S_runs_70 (by decide) ?_
          refine lv_iadd hx hb d_S_runs_72 ?_
          refine lv_iconst (v := 1) hx hb d_S_runs_73 (by decide) ?_
          refine lv_isub hx hb d_S_runs_74 ?_
          refine lv_bipush (v := 8) hx hb d_S_runs_75 (by decide) ?_
          refine lv_idiv hx hb d_S_runs_77 (by decide) ?_
          exact J78 t_at t_fault p1 v4 v5 k0 (((x38 + (8 : Int32)) - (1 : Int32)) / (8 : Int32)) ((v6.toUInt64 >>> ((1 : Int32).toInt64.toUInt64 &&& Int64.toUInt64 63)).toInt64) _ _ ls hP hD hS (lv_sub hl [2, 3, 4, 5, 6, 7, 1] rfl) h
        · have h := iff_at h c
          refine lv_iload hx hb d_S_runs_63 (lv_at hl 0 rfl) ?_
          refine lv_goto (tgt := 78) hx hb d_S_runs_65 (by decide) ?_
          exact J78 t_at t_fault p1 v4 v5 k0 x38 ((v6.toUInt64 >>> ((1 : Int32).toInt64.toUInt64 &&& Int64.toUInt64 63)).toInt64) _ _ ls hP hD hS (lv_sub hl [2, 3, 4, 5, 6, 7, 1] rfl) h
      unfold f_S_runs_l6 at h
      refine lv_iload hx hb d_S_runs_6 (lv_at hl 5 rfl) ?_
      refine lv_iload_n hx hb d_S_runs_8 rfl (lv_at hl 2 rfl) ?_
      refine lv_icmp_ge (tgt := 135) hx hb d_S_runs_9 (by decide) (fun c => ?_) (fun c => ?_)
      · have h := ift_at h c
        obtain rfl := lp_out h hc6
        exact J135 t_at t_fault p1 _ _ ls hP hD hS (lv_sub hl [0] rfl) hx6
      · have h := iff_at h c
        refine lv_iload hx hb d_S_runs_12 (lv_at hl 4 rfl) ?_
        refine lv_iload_n hx hb d_S_runs_14 rfl (lv_at hl 2 rfl) ?_
        refine lv_icmp_ge (tgt := 135) hx hb d_S_runs_15 (by decide) (fun c => ?_) (fun c => ?_)
        · have h := ift_at h c
          obtain rfl := lp_out h hc6
          exact J135 t_at t_fault p1 _ _ ls hP hD hS (lv_sub hl [0] rfl) hx6
        · have h := iff_at h c
          refine lv_aload_n hx hb d_S_runs_18 rfl (lv_at hl 0 rfl) ?_
          refine va_get (D := D) (ci := 5) (v := .int t_fault) (C := "PageForm$Source") (T := F_S) (N := 6) hx hb hts in_S hown hK hP 0 rfl rfl 5 (by decide) (hts _ fl_S_36) (fun _ h9 => h9) rfl d_S_runs_19 ?_
          refine lv_if_ne (tgt := 135) hx hb d_S_runs_22 (by decide) (fun c => ?_) (fun c => ?_)
          · have h := iff_at h c
            obtain rfl := lp_out h hc6
            exact J135 t_at t_fault p1 _ _ ls hP hD hS (lv_sub hl [0] rfl) hx6
          · have h := ift_at h c
            refine lv_aload_n hx hb d_S_runs_25 rfl (lv_at hl 0 rfl) ?_
            obtain ⟨o63, ho63, h⟩ := obd_at h
            refine g_V (As := []) (rest := []) hx hb hml hown hts hA hK hP hD hS hE (c_S_varint l D k a_t a_t_bytes a_t_row a_t_widths t_row_n t_at t_to t_fault t_row n o63 ho63) mw_S_varint mi_S_varint ml_S_55 [0, 1] rfl (by decide) rfl rfl rfl 0 rfl rfl rfl rfl rfl hl.1 rfl (Nat.le_of_ble_eq_true rfl) ⟨Nat.zero_le _, Nat.zero_le _⟩ d_S_runs_26 (fun H locs hP hD hS => ?_)
            have hP : va_P D CL [(a_t, .inr (5, [.ref a_t_bytes, .ref a_t_row, .ref a_t_widths, .int o63.2.1, .int t_to, .int o63.2.2])), (a_t_row, .inl (k.1, t_row_n, .inl t_row)), (a_p1, .inl (k.2.2, p1_n, .inr (.inl p1)))] H := hP
            have hD : va_D A [(a_t, .inr (5, [.ref a_t_bytes, .ref a_t_row, .ref a_t_widths, .int o63.2.1, .int t_to, .int o63.2.2])), (a_t_row, .inl (k.1, t_row_n, .inl t_row)), (a_p1, .inl (k.2.2, p1_n, .inr (.inl p1)))] := hD
            refine W.eq (g2 := F0 m 29 ls [.long o63.1]) rfl ?_
            refine lv_lstore (lv' := [(6, .long o63.1), (0, .ref a_t), (1, .ref a_p1), (2, .int v2), (3, .int v3), (4, .int v4), (5, .int v5)]) hx hb d_S_runs_29 hl (by decide) rfl (fun ls hl => ?_)
            refine lv_lload hx hb d_S_runs_31 (lv_at hl 0 rfl) ?_
            refine lv_lconst (v := 1) hx hb d_S_runs_33 (by decide) ?_
            refine lv_land hx hb d_S_runs_34 ?_
            refine lv_lconst (v := 0) hx hb d_S_runs_35 (by decide) ?_
            refine W.lcmp hx hb d_S_runs_36 ?_
            refine lv_if_ne (tgt := 44) hx hb d_S_runs_37 (by decide) (fun c => ?_) (fun c => ?_)
            · have c := mt zc_eq.mpr c
              have h := iff_at h c
              refine lv_iconst (v := 0) hx hb d_S_runs_44 (by decide) ?_
              exact J45 o63.2.1 o63.2.2 p1 v4 v5 o63.1 (0 : Int32) _ _ ls hP hD hS (lv_sub hl [1, 2, 3, 4, 5, 6, 0] rfl) h
            · have c := zc_eq.mp c
              have h := ift_at h c
              refine lv_iconst (v := 1) hx hb d_S_runs_40 (by decide) ?_
              refine lv_goto (tgt := 45) hx hb d_S_runs_41 (by decide) ?_
              exact J45 o63.2.1 o63.2.2 p1 v4 v5 o63.1 (1 : Int32) _ _ ls hP hD hS (lv_sub hl [1, 2, 3, 4, 5, 6, 0] rfl) h
  unfold f_S_runs at h
  refine lv_iconst (v := 0) hx hb d_S_runs_0 (by decide) ?_
  refine lv_istore (lv' := [(4, .int (0 : Int32)), (0, .ref a_t), (1, .ref a_p1), (2, .int v2), (3, .int v3)]) hx hb d_S_runs_1 hl (by decide) rfl (fun ls hl => ?_)
  refine lv_iconst (v := 0) hx hb d_S_runs_3 (by decide) ?_
  refine lv_istore (lv' := [(5, .int (0 : Int32)), (4, .int (0 : Int32)), (0, .ref a_t), (1, .ref a_p1), (2, .int v2), (3, .int v3)]) hx hb d_S_runs_4 hl (by decide) rfl (fun ls hl => ?_)
  obtain ⟨o80, ho80, h⟩ := obd_at h
  exact L6 n t_at t_fault p1 (0 : Int32) (0 : Int32) o80 _ _ ls hP hD hS (lv_sub hl [2, 3, 4, 5, 1, 0] rfl) ho80 h

def rm_F_unzigzag : Room := { frames := 0, cells := 0, slots := 0, locals := 0 }
def f_F_unzigzag (v0 : Int64) : Option (Int64) :=
  some ((v0.toUInt64 >>> ((1 : Int32).toInt64.toUInt64 &&& Int64.toUInt64 63)).toInt64 ^^^ (-(v0 &&& (1 : Int64))))
set_option maxHeartbeats 4000000 in
set_option maxRecDepth 100000 in
theorem c_F_unzigzag (l : Launch) (D : va_G) (k : ClassId × ClassId × ClassId) (v0 : Int64) (n : Nat) (out : Int64) (h : f_F_unzigzag v0 = some out) : Ct l D k y_F_unzigzag b_F_unzigzag 2 (some .long) rm_F_unzigzag [.long v0] [] [] (some (.long out)) := by
  refine Ct.ofL (by decide) (Nat.le_of_ble_eq_true rfl) ?_
  intro p e s m args below meth c A Q ls hx hb hml hown hts hA hK hP hD hS hE hl ret
  have hown : s.vm.findClass "PageForm" = some m.cls := hown
  have hl : lv_has ls 2 [(0, .long v0)] := hl
  have ret2 : ∀ (y0 : Int64) (_ : y0 = out) {pc : Nat} {ls : Array Slot} {H : Heap} {locs : List Loc}, decode b_F_unzigzag pc = .ok (.lreturn, 1) → va_P D CL [] H → va_D A [] → va_S A s.heap H locs → W p l e rm_F_unzigzag s m args below meth c H locs 0 0 Q (F0 m pc ls [.long y0]) := by
    intro y0 e0; subst e0; exact ret
  clear ret
  unfold f_F_unzigzag at h
  refine lv_lload_n hx hb d_F_unzigzag_0 rfl (lv_at hl 0 rfl) ?_
  refine lv_iconst (v := 1) hx hb d_F_unzigzag_1 (by decide) ?_
  refine lv_lushr hx hb d_F_unzigzag_2 rfl ?_
  refine lv_lload_n hx hb d_F_unzigzag_3 rfl (lv_at hl 0 rfl) ?_
  refine lv_lconst (v := 1) hx hb d_F_unzigzag_4 (by decide) ?_
  refine lv_land hx hb d_F_unzigzag_5 ?_
  refine lv_lneg hx hb d_F_unzigzag_6 ?_
  refine lv_lxor hx hb d_F_unzigzag_7 ?_
  exact ret2 _ (Option.some.inj h) d_F_unzigzag_8 hP hD hS

