def rm_S_open : Room := { frames := 0, cells := 0, slots := 0, locals := 0 }
def f_S_open (t_bytes_size : Int32) : Option (Int32 × Int32 × Int32) :=
  some ((0 : Int32), t_bytes_size, (0 : Int32))
set_option maxHeartbeats 4000000 in
set_option maxRecDepth 100000 in
theorem c_S_open (l : Launch) (D : va_G) (k : ClassId × ClassId × ClassId) (a_t a_t_bytes a_t_row a_t_widths : Nat) (t_at : Int32) (t_to : Int32) (t_fault : Int32) (t_bytes_size : Int32) (n : Nat) (out : Int32 × Int32 × Int32) (h : f_S_open t_bytes_size = some out) : Ct l D k y_S_open b_S_open 1 none rm_S_open [.ref a_t] [(a_t, .inr (5, [.ref a_t_bytes, .ref a_t_row, .ref a_t_widths, .int t_at, .int t_to, .int t_fault])), (a_t_bytes, .inr (0, [.ref a_t_row, .int t_bytes_size]))] [(a_t, .inr (5, [.ref a_t_bytes, .ref a_t_row, .ref a_t_widths, .int out.1, .int out.2.1, .int out.2.2])), (a_t_bytes, .inr (0, [.ref a_t_row, .int t_bytes_size]))] none := by
  refine Ct.ofV (by decide) (Nat.le_of_ble_eq_true rfl) ?_
  intro p e s m args below meth c A Q ls hx hb hml hown hts hA hK hP hD hS hE hl ret
  have hown : s.vm.findClass "PageForm$Source" = some m.cls := hown
  have hl : lv_has ls 1 [(0, .ref a_t)] := hl
  have ret2 : ∀ (y0 : Int32) (y1 : Int32) (y2 : Int32) (_ : (y0, y1, y2) = out) {pc : Nat} {ls : Array Slot} {H : Heap} {locs : List Loc}, decode b_S_open pc = .ok (.return_, 1) → va_P D CL [(a_t, .inr (5, [.ref a_t_bytes, .ref a_t_row, .ref a_t_widths, .int y0, .int y1, .int y2])), (a_t_bytes, .inr (0, [.ref a_t_row, .int t_bytes_size]))] H → va_D A [(a_t, .inr (5, [.ref a_t_bytes, .ref a_t_row, .ref a_t_widths, .int y0, .int y1, .int y2])), (a_t_bytes, .inr (0, [.ref a_t_row, .int t_bytes_size]))] → va_S A s.heap H locs → W p l e rm_S_open s m args below meth c H locs 0 0 Q (F0 m pc ls []) := by
    intro y0 y1 y2 e0; subst e0; exact ret
  clear ret
  unfold f_S_open at h
  refine lv_aload_n hx hb d_S_open_0 rfl (lv_at hl 0 rfl) ?_
  refine lv_iconst (v := 0) hx hb d_S_open_1 (by decide) ?_
  refine va_put (D := D) (ci := 5) (v := .int (0 : Int32)) (ty := .int) (C := "PageForm$Source") (T := F_S) (N := 6) hx hb hts in_S t_S t_S_ok n_S hown hK hP hD hS 0 rfl rfl 3 (by decide) (hts _ fl_S_26) (fun _ h9 => h9) rfl (by decide +kernel) rfl rfl (Nat.le_of_ble_eq_true rfl) d_S_open_2 (fun H locs hP hD hS => ?_)
  have hP : va_P D CL [(a_t, .inr (5, [.ref a_t_bytes, .ref a_t_row, .ref a_t_widths, .int (0 : Int32), .int t_to, .int t_fault])), (a_t_bytes, .inr (0, [.ref a_t_row, .int t_bytes_size]))] H := hP
  have hD : va_D A [(a_t, .inr (5, [.ref a_t_bytes, .ref a_t_row, .ref a_t_widths, .int (0 : Int32), .int t_to, .int t_fault])), (a_t_bytes, .inr (0, [.ref a_t_row, .int t_bytes_size]))] := hD
  refine lv_aload_n hx hb d_S_open_5 rfl (lv_at hl 0 rfl) ?_
  refine lv_aload_n hx hb d_S_open_6 rfl (lv_at hl 0 rfl) ?_
  refine va_get (D := D) (ci := 5) (v := .ref a_t_bytes) (C := "PageForm$Source") (T := F_S) (N := 6) hx hb hts in_S hown hK hP 0 rfl rfl 0 (by decide) (hts _ fl_S_15) (fun _ h9 => h9) rfl d_S_open_7 ?_
  refine va_get (D := D) (ci := 0) (v := .int t_bytes_size) (C := "PageForm$Bytes") (T := F_B) (N := 2) hx hb hts in_B hown hK hP 1 rfl rfl 1 (by decide) (hts _ fl_S_30) (fun _ h9 => h9) rfl d_S_open_10 ?_
  refine va_put (D := D) (ci := 5) (v := .int t_bytes_size) (ty := .int) (C := "PageForm$Source") (T := F_S) (N := 6) hx hb hts in_S t_S t_S_ok n_S hown hK hP hD hS 0 rfl rfl 4 (by decide) (hts _ fl_S_33) (fun _ h9 => h9) rfl (by decide +kernel) rfl rfl (Nat.le_of_ble_eq_true rfl) d_S_open_13 (fun H locs hP hD hS => ?_)
  have hP : va_P D CL [(a_t, .inr (5, [.ref a_t_bytes, .ref a_t_row, .ref a_t_widths, .int (0 : Int32), .int t_bytes_size, .int t_fault])), (a_t_bytes, .inr (0, [.ref a_t_row, .int t_bytes_size]))] H := hP
  have hD : va_D A [(a_t, .inr (5, [.ref a_t_bytes, .ref a_t_row, .ref a_t_widths, .int (0 : Int32), .int t_bytes_size, .int t_fault])), (a_t_bytes, .inr (0, [.ref a_t_row, .int t_bytes_size]))] := hD
  refine lv_aload_n hx hb d_S_open_16 rfl (lv_at hl 0 rfl) ?_
  refine lv_iconst (v := 0) hx hb d_S_open_17 (by decide) ?_
  refine va_put (D := D) (ci := 5) (v := .int (0 : Int32)) (ty := .int) (C := "PageForm$Source") (T := F_S) (N := 6) hx hb hts in_S t_S t_S_ok n_S hown hK hP hD hS 0 rfl rfl 5 (by decide) (hts _ fl_S_36) (fun _ h9 => h9) rfl (by decide +kernel) rfl rfl (Nat.le_of_ble_eq_true rfl) d_S_open_18 (fun H locs hP hD hS => ?_)
  have hP : va_P D CL [(a_t, .inr (5, [.ref a_t_bytes, .ref a_t_row, .ref a_t_widths, .int (0 : Int32), .int t_bytes_size, .int (0 : Int32)])), (a_t_bytes, .inr (0, [.ref a_t_row, .int t_bytes_size]))] H := hP
  have hD : va_D A [(a_t, .inr (5, [.ref a_t_bytes, .ref a_t_row, .ref a_t_widths, .int (0 : Int32), .int t_bytes_size, .int (0 : Int32)])), (a_t_bytes, .inr (0, [.ref a_t_row, .int t_bytes_size]))] := hD
  exact ret2 _ _ _ (Option.some.inj h) d_S_open_21 hP hD hS

def rm_S_fail : Room := { frames := 0, cells := 0, slots := 0, locals := 0 }
def f_S_fail (t_fault : Int32) (v1 : Int32) : Option (Int32) :=
  (if t_fault = 0 then some v1 else some t_fault)
set_option maxHeartbeats 4000000 in
set_option maxRecDepth 100000 in
theorem c_S_fail (l : Launch) (D : va_G) (k : ClassId × ClassId × ClassId) (a_t a_t_bytes a_t_row a_t_widths : Nat) (t_at : Int32) (t_to : Int32) (t_fault : Int32) (v1 : Int32) (n : Nat) (out : Int32) (h : f_S_fail t_fault v1 = some out) : Ct l D k y_S_fail b_S_fail 2 none rm_S_fail [.ref a_t, .int v1] [(a_t, .inr (5, [.ref a_t_bytes, .ref a_t_row, .ref a_t_widths, .int t_at, .int t_to, .int t_fault]))] [(a_t, .inr (5, [.ref a_t_bytes, .ref a_t_row, .ref a_t_widths, .int t_at, .int t_to, .int out]))] none := by
  refine Ct.ofV (by decide) (Nat.le_of_ble_eq_true rfl) ?_
  intro p e s m args below meth c A Q ls hx hb hml hown hts hA hK hP hD hS hE hl ret
  have hown : s.vm.findClass "PageForm$Source" = some m.cls := hown
  have hl : lv_has ls 2 [(0, .ref a_t), (1, .int v1)] := hl
  have ret2 : ∀ (y0 : Int32) (_ : y0 = out) {pc : Nat} {ls : Array Slot} {H : Heap} {locs : List Loc}, decode b_S_fail pc = .ok (.return_, 1) → va_P D CL [(a_t, .inr (5, [.ref a_t_bytes, .ref a_t_row, .ref a_t_widths, .int t_at, .int t_to, .int y0]))] H → va_D A [(a_t, .inr (5, [.ref a_t_bytes, .ref a_t_row, .ref a_t_widths, .int t_at, .int t_to, .int y0]))] → va_S A s.heap H locs → W p l e rm_S_fail s m args below meth c H locs 0 0 Q (F0 m pc ls []) := by
    intro y0 e0; subst e0; exact ret
  clear ret
  unfold f_S_fail at h
  refine lv_aload_n hx hb d_S_fail_0 rfl (lv_at hl 0 rfl) ?_
  refine va_get (D := D) (ci := 5) (v := .int t_fault) (C := "PageForm$Source") (T := F_S) (N := 6) hx hb hts in_S hown hK hP 0 rfl rfl 5 (by decide) (hts _ fl_S_36) (fun _ h9 => h9) rfl d_S_fail_1 ?_
  refine lv_if_ne (tgt := 12) hx hb d_S_fail_4 (by decide) (fun c => ?_) (fun c => ?_)
  · have h := iff_at h c
    exact ret2 _ (Option.some.inj h) d_S_fail_12 hP hD hS
  · have h := ift_at h c
    refine lv_aload_n hx hb d_S_fail_7 rfl (lv_at hl 0 rfl) ?_
    refine lv_iload_n hx hb d_S_fail_8 rfl (lv_at hl 1 rfl) ?_
    refine va_put (D := D) (ci := 5) (v := .int v1) (ty := .int) (C := "PageForm$Source") (T := F_S) (N := 6) hx hb hts in_S t_S t_S_ok n_S hown hK hP hD hS 0 rfl rfl 5 (by decide) (hts _ fl_S_36) (fun _ h9 => h9) rfl (by decide +kernel) rfl rfl (Nat.le_of_ble_eq_true rfl) d_S_fail_9 (fun H locs hP hD hS => ?_)
    have hP : va_P D CL [(a_t, .inr (5, [.ref a_t_bytes, .ref a_t_row, .ref a_t_widths, .int t_at, .int t_to, .int v1]))] H := hP
    have hD : va_D A [(a_t, .inr (5, [.ref a_t_bytes, .ref a_t_row, .ref a_t_widths, .int t_at, .int t_to, .int v1]))] := hD
    exact ret2 _ (Option.some.inj h) d_S_fail_12 hP hD hS

def rm_S_there : Room := { frames := 0, cells := 0, slots := 0, locals := 0 }
def f_S_there_j33 (t_fault : Int32) : Option (Int32 × Int32) :=
  (if t_fault = 0 then some ((1 : Int32), t_fault) else some ((0 : Int32), t_fault))
def f_S_there_j28  : Option (Int32 × Int32) :=
  f_S_there_j33 (1 : Int32)
def f_S_there (t_at : Int32) (t_to : Int32) (t_fault : Int32) (v1 : Int64) : Option (Int32 × Int32) :=
  (if t_fault = 0 then (if v1 < (0 : Int64) then f_S_there_j28  else (if v1 ≤ ((t_to - t_at).toInt64) then f_S_there_j33 t_fault else f_S_there_j28 )) else f_S_there_j33 t_fault)
set_option maxHeartbeats 4000000 in
set_option maxRecDepth 100000 in
theorem c_S_there (l : Launch) (D : va_G) (k : ClassId × ClassId × ClassId) (a_t a_t_bytes a_t_row a_t_widths : Nat) (t_at : Int32) (t_to : Int32) (t_fault : Int32) (v1 : Int64) (n : Nat) (out : Int32 × Int32) (h : f_S_there t_at t_to t_fault v1 = some out) : Ct l D k y_S_there b_S_there 3 (some .boolean) rm_S_there [.ref a_t, .long v1] [(a_t, .inr (5, [.ref a_t_bytes, .ref a_t_row, .ref a_t_widths, .int t_at, .int t_to, .int t_fault]))] [(a_t, .inr (5, [.ref a_t_bytes, .ref a_t_row, .ref a_t_widths, .int t_at, .int t_to, .int out.2]))] (some (.int out.1)) := by
  refine Ct.ofZ (by decide) (Nat.le_of_ble_eq_true rfl) ?_
  intro p e s m args below meth c A Q ls hx hb hml hown hts hA hK hP hD hS hE hl ret
  have hown : s.vm.findClass "PageForm$Source" = some m.cls := hown
  have hl : lv_has ls 3 [(0, .ref a_t), (1, .long v1)] := hl
  have ret2 : ∀ (y0 : Int32) (y1 : Int32) (_ : (y0, y1) = out) {pc : Nat} {ls : Array Slot} {H : Heap} {locs : List Loc}, decode b_S_there pc = .ok (.ireturn, 1) → narrow .boolean (.int y0) = .int y0 → va_P D CL [(a_t, .inr (5, [.ref a_t_bytes, .ref a_t_row, .ref a_t_widths, .int t_at, .int t_to, .int y1]))] H → va_D A [(a_t, .inr (5, [.ref a_t_bytes, .ref a_t_row, .ref a_t_widths, .int t_at, .int t_to, .int y1]))] → va_S A s.heap H locs → W p l e rm_S_there s m args below meth c H locs 0 0 Q (F0 m pc ls [.int y0]) := by
    intro y0 y1 e0; subst e0; exact ret
  clear ret
  have J33 : ∀ (t_fault : Int32) (H : Heap) (locs : List Loc) (ls : Array Slot), va_P D CL [(a_t, .inr (5, [.ref a_t_bytes, .ref a_t_row, .ref a_t_widths, .int t_at, .int t_to, .int t_fault]))] H → va_D A [(a_t, .inr (5, [.ref a_t_bytes, .ref a_t_row, .ref a_t_widths, .int t_at, .int t_to, .int t_fault]))] → va_S A s.heap H locs → lv_has ls 3 [(0, .ref a_t)] → f_S_there_j33 t_fault = some out → W p l e rm_S_there s m args below meth c H locs 0 0 Q (F0 m 33 ls []) := by
    intro t_fault H locs ls hP hD hS hl h
    unfold f_S_there_j33 at h
    refine lv_aload_n hx hb d_S_there_33 rfl (lv_at hl 0 rfl) ?_
    refine va_get (D := D) (ci := 5) (v := .int t_fault) (C := "PageForm$Source") (T := F_S) (N := 6) hx hb hts in_S hown hK hP 0 rfl rfl 5 (by decide) (hts _ fl_S_36) (fun _ h9 => h9) rfl d_S_there_34 ?_
    refine lv_if_ne (tgt := 44) hx hb d_S_there_37 (by decide) (fun c => ?_) (fun c => ?_)
    · have h := iff_at h c
      refine lv_iconst (v := 0) hx hb d_S_there_44 (by decide) ?_
      exact ret2 _ _ (Option.some.inj h) d_S_there_45 nb0 hP hD hS
    · have h := ift_at h c
      refine lv_iconst (v := 1) hx hb d_S_there_40 (by decide) ?_
      refine lv_goto (tgt := 45) hx hb d_S_there_41 (by decide) ?_
      exact ret2 _ _ (Option.some.inj h) d_S_there_45 nb1 hP hD hS
  have J28 : ∀ (t_fault : Int32) (H : Heap) (locs : List Loc) (ls : Array Slot), va_P D CL [(a_t, .inr (5, [.ref a_t_bytes, .ref a_t_row, .ref a_t_widths, .int t_at, .int t_to, .int t_fault]))] H → va_D A [(a_t, .inr (5, [.ref a_t_bytes, .ref a_t_row, .ref a_t_widths, .int t_at, .int t_to, .int t_fault]))] → va_S A s.heap H locs → lv_has ls 3 [(0, .ref a_t)] → f_S_there_j28  = some out → W p l e rm_S_there s m args below meth c H locs 0 0 Q (F0 m 28 ls []) := by
    intro t_fault H locs ls hP hD hS hl h
    unfold f_S_there_j28 at h
    refine lv_aload_n hx hb d_S_there_28 rfl (lv_at hl 0 rfl) ?_
    refine lv_iconst (v := 1) hx hb d_S_there_29 (by decide) ?_
    refine va_put (D := D) (ci := 5) (v := .int (1 : Int32)) (ty := .int) (C := "PageForm$Source") (T := F_S) (N := 6) hx hb hts in_S t_S t_S_ok n_S hown hK hP hD hS 0 rfl rfl 5 (by decide) (hts _ fl_S_36) (fun _ h9 => h9) rfl (by decide +kernel) rfl rfl (Nat.le_of_ble_eq_true rfl) d_S_there_30 (fun H locs hP hD hS => ?_)
    have hP : va_P D CL [(a_t, .inr (5, [.ref a_t_bytes, .ref a_t_row, .ref a_t_widths, .int t_at, .int t_to, .int (1 : Int32)]))] H := hP
    have hD : va_D A [(a_t, .inr (5, [.ref a_t_bytes, .ref a_t_row, .ref a_t_widths, .int t_at, .int t_to, .int (1 : Int32)]))] := hD
    exact J33 (1 : Int32) _ _ ls hP hD hS (lv_sub hl [0] rfl) h
  unfold f_S_there at h
  refine lv_aload_n hx hb d_S_there_0 rfl (lv_at hl 0 rfl) ?_
  refine va_get (D := D) (ci := 5) (v := .int t_fault) (C := "PageForm$Source") (T := F_S) (N := 6) hx hb hts in_S hown hK hP 0 rfl rfl 5 (by decide) (hts _ fl_S_36) (fun _ h9 => h9) rfl d_S_there_1 ?_
  refine lv_if_ne (tgt := 33) hx hb d_S_there_4 (by decide) (fun c => ?_) (fun c => ?_)
  · have h := iff_at h c
    exact J33 t_fault _ _ ls hP hD hS (lv_sub hl [0] rfl) h
  · have h := ift_at h c
    refine lv_lload_n hx hb d_S_there_7 rfl (lv_at hl 1 rfl) ?_
    refine lv_lconst (v := 0) hx hb d_S_there_8 (by decide) ?_
    refine W.lcmp hx hb d_S_there_9 ?_
    refine lv_if_lt (tgt := 28) hx hb d_S_there_10 (by decide) (fun c => ?_) (fun c => ?_)
    · have c := zc_lt.mp c
      have h := ift_at h c
      exact J28 t_fault _ _ ls hP hD hS (lv_sub hl [0] rfl) h
    · have c := mt zc_lt.mpr c
      have h := iff_at h c
      refine lv_lload_n hx hb d_S_there_13 rfl (lv_at hl 1 rfl) ?_
      refine lv_aload_n hx hb d_S_there_14 rfl (lv_at hl 0 rfl) ?_
      refine va_get (D := D) (ci := 5) (v := .int t_to) (C := "PageForm$Source") (T := F_S) (N := 6) hx hb hts in_S hown hK hP 0 rfl rfl 4 (by decide) (hts _ fl_S_33) (fun _ h9 => h9) rfl d_S_there_15 ?_
      refine lv_aload_n hx hb d_S_there_18 rfl (lv_at hl 0 rfl) ?_
      refine va_get (D := D) (ci := 5) (v := .int t_at) (C := "PageForm$Source") (T := F_S) (N := 6) hx hb hts in_S hown hK hP 0 rfl rfl 3 (by decide) (hts _ fl_S_26) (fun _ h9 => h9) rfl d_S_there_19 ?_
      refine lv_isub hx hb d_S_there_22 ?_
      refine lv_i2l hx hb d_S_there_23 rfl ?_
      refine W.lcmp hx hb d_S_there_24 ?_
      refine lv_if_le (tgt := 33) hx hb d_S_there_25 (by decide) (fun c => ?_) (fun c => ?_)
      · have c := zc_le.mp c
        have h := ift_at h c
        exact J33 t_fault _ _ ls hP hD hS (lv_sub hl [0] rfl) h
      · have c := mt zc_le.mpr c
        have h := iff_at h c
        exact J28 t_fault _ _ ls hP hD hS (lv_sub hl [0] rfl) h

def rm_S_octet : Room := { frames := 1, cells := 0, slots := 0, locals := 22 }
def f_S_octet (t_row_n : Nat) (t_at : Int32) (t_to : Int32) (t_fault : Int32) (t_row : Nat → Int32) : Option (Int32 × Int32 × Int32) :=
  Option.bind (f_S_there t_at t_to t_fault (1 : Int64)) (fun o3 => (if o3.1 = 0 then some ((0 : Int32), t_at, o3.2) else bnd (t_at + (1 : Int32)) (fun x4 => gd (inB (x4 - (1 : Int32)) t_row_n) (some (((t_row (x4 - (1 : Int32)).toNatClampNeg) &&& (255 : Int32)), x4, o3.2)))))
set_option maxHeartbeats 4000000 in
set_option maxRecDepth 100000 in
theorem c_S_octet (l : Launch) (D : va_G) (k : ClassId × ClassId × ClassId) (a_t a_t_bytes a_t_row a_t_widths : Nat) (t_row_n : Nat) (t_at : Int32) (t_to : Int32) (t_fault : Int32) (t_row : Nat → Int32) (n : Nat) (out : Int32 × Int32 × Int32) (h : f_S_octet t_row_n t_at t_to t_fault t_row = some out) : Ct l D k y_S_octet b_S_octet 1 (some .int) rm_S_octet [.ref a_t] [(a_t, .inr (5, [.ref a_t_bytes, .ref a_t_row, .ref a_t_widths, .int t_at, .int t_to, .int t_fault])), (a_t_row, .inl (k.1, t_row_n, .inl t_row))] [(a_t, .inr (5, [.ref a_t_bytes, .ref a_t_row, .ref a_t_widths, .int out.2.1, .int t_to, .int out.2.2])), (a_t_row, .inl (k.1, t_row_n, .inl t_row))] (some (.int out.1)) := by
  refine Ct.ofI (by decide) (Nat.le_of_ble_eq_true rfl) ?_
  intro p e s m args below meth c A Q ls hx hb hml hown hts hA hK hP hD hS hE hl ret
  have hown : s.vm.findClass "PageForm$Source" = some m.cls := hown
  have hl : lv_has ls 1 [(0, .ref a_t)] := hl
  have ret2 : ∀ (y0 : Int32) (y1 : Int32) (y2 : Int32) (_ : (y0, y1, y2) = out) {pc : Nat} {ls : Array Slot} {H : Heap} {locs : List Loc}, decode b_S_octet pc = .ok (.ireturn, 1) → va_P D CL [(a_t, .inr (5, [.ref a_t_bytes, .ref a_t_row, .ref a_t_widths, .int y1, .int t_to, .int y2])), (a_t_row, .inl (k.1, t_row_n, .inl t_row))] H → va_D A [(a_t, .inr (5, [.ref a_t_bytes, .ref a_t_row, .ref a_t_widths, .int y1, .int t_to, .int y2])), (a_t_row, .inl (k.1, t_row_n, .inl t_row))] → va_S A s.heap H locs → W p l e rm_S_octet s m args below meth c H locs 0 0 Q (F0 m pc ls [.int y0]) := by
    intro y0 y1 y2 e0; subst e0; exact ret
  clear ret
  unfold f_S_octet at h
  refine lv_aload_n hx hb d_S_octet_0 rfl (lv_at hl 0 rfl) ?_
  refine lv_lconst (v := 1) hx hb d_S_octet_1 (by decide) ?_
  obtain ⟨o3, ho3, h⟩ := obd_at h
  refine g_V (As := [.long (1 : Int64)]) (rest := []) hx hb hml hown hts hA hK hP hD hS hE (c_S_there l D k a_t a_t_bytes a_t_row a_t_widths t_at t_to t_fault (1 : Int64) n o3 ho3) mw_S_there mi_S_there ml_S_39 [0] rfl (by decide) rfl rfl rfl 0 rfl rfl rfl rfl rfl hl.1 rfl (Nat.le_of_ble_eq_true rfl) ⟨Nat.zero_le _, Nat.zero_le _⟩ d_S_octet_2 (fun H locs hP hD hS => ?_)
  have hP : va_P D CL [(a_t, .inr (5, [.ref a_t_bytes, .ref a_t_row, .ref a_t_widths, .int t_at, .int t_to, .int o3.2])), (a_t_row, .inl (k.1, t_row_n, .inl t_row))] H := hP
  have hD : va_D A [(a_t, .inr (5, [.ref a_t_bytes, .ref a_t_row, .ref a_t_widths, .int t_at, .int t_to, .int o3.2])), (a_t_row, .inl (k.1, t_row_n, .inl t_row))] := hD
  refine W.eq (g2 := F0 m 5 ls [.int o3.1]) rfl ?_
  refine lv_if_ne (tgt := 10) hx hb d_S_octet_5 (by decide) (fun c => ?_) (fun c => ?_)
  · have h := iff_at h c
    refine lv_aload_n hx hb d_S_octet_10 rfl (lv_at hl 0 rfl) ?_
    refine lv_dup hx hb d_S_octet_11 rfl ?_
    refine va_get (D := D) (ci := 5) (v := .int t_at) (C := "PageForm$Source") (T := F_S) (N := 6) hx hb hts in_S hown hK hP 0 rfl rfl 3 (by decide) (hts _ fl_S_26) (fun _ h9 => h9) rfl d_S_octet_12 ?_
    refine lv_iconst (v := 1) hx hb d_S_octet_15 (by decide) ?_
    refine lv_iadd hx hb d_S_octet_16 ?_
    refine lv_topi (fun x4 ex4 => ?_)
    have h := bnd_at h ex4
    refine va_put (D := D) (ci := 5) (v := .int x4) (ty := .int) (C := "PageForm$Source") (T := F_S) (N := 6) hx hb hts in_S t_S t_S_ok n_S hown hK hP hD hS 0 rfl rfl 3 (by decide) (hts _ fl_S_26) (fun _ h9 => h9) rfl (by decide +kernel) rfl rfl (Nat.le_of_ble_eq_true rfl) d_S_octet_17 (fun H locs hP hD hS => ?_)
    have hP : va_P D CL [(a_t, .inr (5, [.ref a_t_bytes, .ref a_t_row, .ref a_t_widths, .int x4, .int t_to, .int o3.2])), (a_t_row, .inl (k.1, t_row_n, .inl t_row))] H := hP
    have hD : va_D A [(a_t, .inr (5, [.ref a_t_bytes, .ref a_t_row, .ref a_t_widths, .int x4, .int t_to, .int o3.2])), (a_t_row, .inl (k.1, t_row_n, .inl t_row))] := hD
    refine lv_aload_n hx hb d_S_octet_20 rfl (lv_at hl 0 rfl) ?_
    refine va_get (D := D) (ci := 5) (v := .ref a_t_row) (C := "PageForm$Source") (T := F_S) (N := 6) hx hb hts in_S hown hK hP 0 rfl rfl 1 (by decide) (hts _ fl_S_25) (fun _ h9 => h9) rfl d_S_octet_21 ?_
    refine lv_aload_n hx hb d_S_octet_24 rfl (lv_at hl 0 rfl) ?_
    refine va_get (D := D) (ci := 5) (v := .int x4) (C := "PageForm$Source") (T := F_S) (N := 6) hx hb hts in_S hown hK hP 0 rfl rfl 3 (by decide) (hts _ fl_S_26) (fun _ h9 => h9) rfl d_S_octet_25 ?_
    refine lv_iconst (v := 1) hx hb d_S_octet_28 (by decide) ?_
    refine lv_isub hx hb d_S_octet_29 ?_
    obtain ⟨g5, h⟩ := gd_at h
    refine va_bald hx hb hK hP 1 0 rfl rfl (inB_in g5) d_S_octet_30 ?_
    refine lv_sipush (v := 255) hx hb d_S_octet_31 (by decide) ?_
    refine lv_iand hx hb d_S_octet_34 ?_
    exact ret2 _ _ _ (Option.some.inj h) d_S_octet_35 hP hD hS
  · have h := ift_at h c
    refine lv_iconst (v := 0) hx hb d_S_octet_8 (by decide) ?_
    exact ret2 _ _ _ (Option.some.inj h) d_S_octet_9 hP hD hS

def rm_S_bitsAt : Room := { frames := 0, cells := 0, slots := 0, locals := 0 }
def f_S_bitsAt_j71 (v2 : Int32) (v3 : Int64) : Option (Int64) :=
  (if (64 : Int32) ≤ v2 then some v3 else some (v3 &&& (((1 : Int64) <<< (v2.toInt64 &&& 63)) - (1 : Int64))))
def f_S_bitsAt_l10 (t_row_n : Nat) (t_to : Int32) (t_row : Nat → Int32) (v1 : Int32) (v2 : Int32) (v3 : Int64) (v5 : Int32) (v6 : Int32) : Option ((Int64 × Int32 × Int32) ⊕ ((Int64 × Int32 × Int32))) :=
  (if v2 ≤ v5 then some (Sum.inr ((v3, v5, v6))) else (if t_to ≤ v6 then some (Sum.inr ((v3, v5, v6))) else bnd ((v1 + v5) &&& (7 : Int32)) (fun x5 => gd (inB v6 t_row_n) (bnd (v3 ||| ((((t_row v6.toNatClampNeg) &&& (255 : Int32)) >>> (x5 &&& 31)).toInt64 <<< (v5.toInt64 &&& 63))) (fun x7 => bnd (v5 + ((8 : Int32) - x5)) (fun x8 => bnd (v6 + (1 : Int32)) (fun x9 => some (Sum.inl (x7, x8, x9)))))))))
def f_S_bitsAt (n : Nat) (t_row_n : Nat) (t_to : Int32) (t_row : Nat → Int32) (v1 : Int32) (v2 : Int32) : Option (Int64) :=
  bnd (v1 >>> ((3 : Int32) &&& 31)) (fun x15 => Option.bind (lp (fun v => f_S_bitsAt_l10 t_row_n t_to t_row v1 v2 v.1 v.2.1 v.2.2) n ((0 : Int64), (0 : Int32), x15)) (fun o => f_S_bitsAt_j71 v2 o.1))
set_option maxHeartbeats 4000000 in
set_option maxRecDepth 100000 in
theorem c_S_bitsAt (l : Launch) (D : va_G) (k : ClassId × ClassId × ClassId) (a_t a_t_bytes a_t_row a_t_widths : Nat) (t_row_n : Nat) (t_at : Int32) (t_to : Int32) (t_fault : Int32) (t_row : Nat → Int32) (v1 : Int32) (v2 : Int32) (n : Nat) (out : Int64) (h : f_S_bitsAt n t_row_n t_to t_row v1 v2 = some out) : Ct l D k y_S_bitsAt b_S_bitsAt 8 (some .long) rm_S_bitsAt [.ref a_t, .int v1, .int v2] [(a_t, .inr (5, [.ref a_t_bytes, .ref a_t_row, .ref a_t_widths, .int t_at, .int t_to, .int t_fault])), (a_t_row, .inl (k.1, t_row_n, .inl t_row))] [(a_t, .inr (5, [.ref a_t_bytes, .ref a_t_row, .ref a_t_widths, .int t_at, .int t_to, .int t_fault])), (a_t_row, .inl (k.1, t_row_n, .inl t_row))] (some (.long out)) := by
  refine Ct.ofL (by decide) (Nat.le_of_ble_eq_true rfl) ?_
  intro p e s m args below meth c A Q ls hx hb hml hown hts hA hK hP hD hS hE hl ret
  have hown : s.vm.findClass "PageForm$Source" = some m.cls := hown
  have hl : lv_has ls 8 [(0, .ref a_t), (1, .int v1), (2, .int v2)] := hl
  have ret2 : ∀ (y0 : Int64) (_ : y0 = out) {pc : Nat} {ls : Array Slot} {H : Heap} {locs : List Loc}, decode b_S_bitsAt pc = .ok (.lreturn, 1) → va_P D CL [(a_t, .inr (5, [.ref a_t_bytes, .ref a_t_row, .ref a_t_widths, .int t_at, .int t_to, .int t_fault])), (a_t_row, .inl (k.1, t_row_n, .inl t_row))] H → va_D A [(a_t, .inr (5, [.ref a_t_bytes, .ref a_t_row, .ref a_t_widths, .int t_at, .int t_to, .int t_fault])), (a_t_row, .inl (k.1, t_row_n, .inl t_row))] → va_S A s.heap H locs → W p l e rm_S_bitsAt s m args below meth c H locs 0 0 Q (F0 m pc ls [.long y0]) := by
    intro y0 e0; subst e0; exact ret
  clear ret
  have J71 : ∀ (v3 : Int64) (H : Heap) (locs : List Loc) (ls : Array Slot), va_P D CL [(a_t, .inr (5, [.ref a_t_bytes, .ref a_t_row, .ref a_t_widths, .int t_at, .int t_to, .int t_fault])), (a_t_row, .inl (k.1, t_row_n, .inl t_row))] H → va_D A [(a_t, .inr (5, [.ref a_t_bytes, .ref a_t_row, .ref a_t_widths, .int t_at, .int t_to, .int t_fault])), (a_t_row, .inl (k.1, t_row_n, .inl t_row))] → va_S A s.heap H locs → lv_has ls 8 [(2, .int v2), (3, .long v3)] → f_S_bitsAt_j71 v2 v3 = some out → W p l e rm_S_bitsAt s m args below meth c H locs 0 0 Q (F0 m 71 ls []) := by
    intro v3 H locs ls hP hD hS hl h
    unfold f_S_bitsAt_j71 at h
    refine lv_iload_n hx hb d_S_bitsAt_71 rfl (lv_at hl 0 rfl) ?_
    refine lv_bipush (v := 64) hx hb d_S_bitsAt_72 (by decide) ?_
    refine lv_icmp_ge (tgt := 87) hx hb d_S_bitsAt_74 (by decide) (fun c => ?_) (fun c => ?_)
    · have h := ift_at h c
      refine lv_lload_n hx hb d_S_bitsAt_87 rfl (lv_at hl 1 rfl) ?_
      exact ret2 _ (Option.some.inj h) d_S_bitsAt_88 hP hD hS
    · have h := iff_at h c
      refine lv_lload_n hx hb d_S_bitsAt_77 rfl (lv_at hl 1 rfl) ?_
      refine lv_lconst (v := 1) hx hb d_S_bitsAt_78 (by decide) ?_
      refine lv_iload_n hx hb d_S_bitsAt_79 rfl (lv_at hl 0 rfl) ?_
      refine lv_lshl hx hb d_S_bitsAt_80 rfl ?_
      refine lv_lconst (v := 1) hx hb d_S_bitsAt_81 (by decide) ?_
      refine lv_lsub hx hb d_S_bitsAt_82 ?_
      refine lv_land hx hb d_S_bitsAt_83 ?_
      refine lv_goto (tgt := 88) hx hb d_S_bitsAt_84 (by decide) ?_
      exact ret2 _ (Option.some.inj h) d_S_bitsAt_88 hP hD hS
  have L10 : ∀ (K : Nat) (v3 : Int64) (v5 : Int32) (v6 : Int32) (o : (Int64 × Int32 × Int32)) (H : Heap) (locs : List Loc) (ls : Array Slot), va_P D CL [(a_t, .inr (5, [.ref a_t_bytes, .ref a_t_row, .ref a_t_widths, .int t_at, .int t_to, .int t_fault])), (a_t_row, .inl (k.1, t_row_n, .inl t_row))] H → va_D A [(a_t, .inr (5, [.ref a_t_bytes, .ref a_t_row, .ref a_t_widths, .int t_at, .int t_to, .int t_fault])), (a_t_row, .inl (k.1, t_row_n, .inl t_row))] → va_S A s.heap H locs → lv_has ls 8 [(0, .ref a_t), (1, .int v1), (2, .int v2), (3, .long v3), (5, .int v5), (6, .int v6)] → lp (fun v => f_S_bitsAt_l10 t_row_n t_to t_row v1 v2 v.1 v.2.1 v.2.2) K (v3, v5, v6) = some o → (fun o => f_S_bitsAt_j71 v2 o.1) o = some out → W p l e rm_S_bitsAt s m args below meth c H locs 0 0 Q (F0 m 10 ls []) := by
    intro K
    induction K with
    | zero => intros; exact absurd (by assumption) lp_no
    | succ K ih10 =>
      intro v3 v5 v6 o H locs ls hP hD hS hl h0 hx10
      obtain ⟨b10, h, hc10⟩ := lp_at h0
      have h : f_S_bitsAt_l10 t_row_n t_to t_row v1 v2 v3 v5 v6 = some b10 := h
      unfold f_S_bitsAt_l10 at h
      refine lv_iload hx hb d_S_bitsAt_10 (lv_at hl 4 rfl) ?_
      refine lv_iload_n hx hb d_S_bitsAt_12 rfl (lv_at hl 2 rfl) ?_
      refine lv_icmp_ge (tgt := 71) hx hb d_S_bitsAt_13 (by decide) (fun c => ?_) (fun c => ?_)
      · have h := ift_at h c
        obtain rfl := lp_out h hc10
        exact J71 v3 _ _ ls hP hD hS (lv_sub hl [2, 3] rfl) hx10
      · have h := iff_at h c
        refine lv_iload hx hb d_S_bitsAt_16 (lv_at hl 5 rfl) ?_
        refine lv_aload_n hx hb d_S_bitsAt_18 rfl (lv_at hl 0 rfl) ?_
        refine va_get (D := D) (ci := 5) (v := .int t_to) (C := "PageForm$Source") (T := F_S) (N := 6) hx hb hts in_S hown hK hP 0 rfl rfl 4 (by decide) (hts _ fl_S_33) (fun _ h9 => h9) rfl d_S_bitsAt_19 ?_
        refine lv_icmp_ge (tgt := 71) hx hb d_S_bitsAt_22 (by decide) (fun c => ?_) (fun c => ?_)
        · have h := ift_at h c
          obtain rfl := lp_out h hc10
          exact J71 v3 _ _ ls hP hD hS (lv_sub hl [2, 3] rfl) hx10
        · have h := iff_at h c
          refine lv_iload_n hx hb d_S_bitsAt_25 rfl (lv_at hl 1 rfl) ?_
          refine lv_iload hx hb d_S_bitsAt_26 (lv_at hl 4 rfl) ?_
          refine lv_iadd hx hb d_S_bitsAt_28 ?_
          refine lv_bipush (v := 7) hx hb d_S_bitsAt_29 (by decide) ?_
          refine lv_iand hx hb d_S_bitsAt_31 ?_
          refine lv_topi (fun x5 ex5 => ?_)
          have h := bnd_at h ex5
          refine lv_istore (lv' := [(7, .int x5), (0, .ref a_t), (1, .int v1), (2, .int v2), (3, .long v3), (5, .int v5), (6, .int v6)]) hx hb d_S_bitsAt_32 hl (by decide) rfl (fun ls hl => ?_)
          refine lv_lload_n hx hb d_S_bitsAt_34 rfl (lv_at hl 4 rfl) ?_
          refine lv_aload_n hx hb d_S_bitsAt_35 rfl (lv_at hl 1 rfl) ?_
          refine va_get (D := D) (ci := 5) (v := .ref a_t_row) (C := "PageForm$Source") (T := F_S) (N := 6) hx hb hts in_S hown hK hP 0 rfl rfl 1 (by decide) (hts _ fl_S_25) (fun _ h9 => h9) rfl d_S_bitsAt_36 ?_
          refine lv_iload hx hb d_S_bitsAt_39 (lv_at hl 6 rfl) ?_
          obtain ⟨g6, h⟩ := gd_at h
          refine va_bald hx hb hK hP 1 0 rfl rfl (inB_in g6) d_S_bitsAt_41 ?_
          refine lv_sipush (v := 255) hx hb d_S_bitsAt_42 (by decide) ?_
          refine lv_iand hx hb d_S_bitsAt_45 ?_
          refine lv_iload hx hb d_S_bitsAt_46 (lv_at hl 0 rfl) ?_
          refine lv_ishr hx hb d_S_bitsAt_48 ?_
          refine lv_i2l hx hb d_S_bitsAt_49 rfl ?_
          refine lv_iload hx hb d_S_bitsAt_50 (lv_at hl 5 rfl) ?_
          refine lv_lshl hx hb d_S_bitsAt_52 rfl ?_
          refine lv_lor hx hb d_S_bitsAt_53 ?_
          refine lv_topl (fun x7 ex7 => ?_)
          have h := bnd_at h ex7
          refine lv_lstore_n (lv' := [(3, .long x7), (7, .int x5), (0, .ref a_t), (1, .int v1), (2, .int v2), (5, .int v5), (6, .int v6)]) hx hb d_S_bitsAt_54 rfl hl (by decide) rfl (fun ls hl => ?_)
          refine lv_iload hx hb d_S_bitsAt_55 (lv_at hl 5 rfl) ?_
          refine lv_bipush (v := 8) hx hb d_S_bitsAt_57 (by decide) ?_
          refine lv_iload hx hb d_S_bitsAt_59 (lv_at hl 1 rfl) ?_
          refine lv_isub hx hb d_S_bitsAt_61 ?_
          refine lv_iadd hx hb d_S_bitsAt_62 ?_
          refine lv_topi (fun x8 ex8 => ?_)
          have h := bnd_at h ex8
          refine lv_istore (lv' := [(5, .int x8), (3, .long x7), (7, .int x5), (0, .ref a_t), (1, .int v1), (2, .int v2), (6, .int v6)]) hx hb d_S_bitsAt_63 hl (by decide) rfl (fun ls hl => ?_)
          obtain ⟨x9, ex9⟩ : ∃ z : Int32, z = v6 + (1 : Int32) := ⟨_, rfl⟩
          have h := bnd_at h ex9
          refine lv_iinc (v := x9) (lv' := [(6, .int x9), (5, .int x8), (3, .long x7), (7, .int x5), (0, .ref a_t), (1, .int v1), (2, .int v2)]) hx hb d_S_bitsAt_65 hl (k := 6) rfl (by rw [ex9]; rfl) (by decide) rfl (fun ls hl => ?_)
          refine lv_goto (tgt := 10) hx hb d_S_bitsAt_68 (by decide) ?_
          have h := lp_go h hc10
          exact ih10 x7 x8 x9 o _ _ ls hP hD hS (lv_sub hl [4, 5, 6, 2, 1, 0] rfl) h hx10
  unfold f_S_bitsAt at h
  refine lv_lconst (v := 0) hx hb d_S_bitsAt_0 (by decide) ?_
  refine lv_lstore_n (lv' := [(3, .long (0 : Int64)), (0, .ref a_t), (1, .int v1), (2, .int v2)]) hx hb d_S_bitsAt_1 rfl hl (by decide) rfl (fun ls hl => ?_)
  refine lv_iconst (v := 0) hx hb d_S_bitsAt_2 (by decide) ?_
  refine lv_istore (lv' := [(5, .int (0 : Int32)), (3, .long (0 : Int64)), (0, .ref a_t), (1, .int v1), (2, .int v2)]) hx hb d_S_bitsAt_3 hl (by decide) rfl (fun ls hl => ?_)
  refine lv_iload_n hx hb d_S_bitsAt_5 rfl (lv_at hl 3 rfl) ?_
  refine lv_iconst (v := 3) hx hb d_S_bitsAt_6 (by decide) ?_
  refine lv_ishr hx hb d_S_bitsAt_7 ?_
  refine lv_topi (fun x15 ex15 => ?_)
  have h := bnd_at h ex15
  refine lv_istore (lv' := [(6, .int x15), (5, .int (0 : Int32)), (3, .long (0 : Int64)), (0, .ref a_t), (1, .int v1), (2, .int v2)]) hx hb d_S_bitsAt_8 hl (by decide) rfl (fun ls hl => ?_)
  obtain ⟨o16, ho16, h⟩ := obd_at h
  exact L10 n (0 : Int64) (0 : Int32) x15 o16 _ _ ls hP hD hS (lv_sub hl [3, 4, 5, 2, 1, 0] rfl) ho16 h

def rm_S_lowestFirst : Room := { frames := 1, cells := 0, slots := 0, locals := 27 }
def f_S_lowestFirst (n : Nat) (t_row_n : Nat) (t_at : Int32) (t_to : Int32) (t_fault : Int32) (t_row : Nat → Int32) (v1 : Int32) : Option (Int64 × Int32 × Int32) :=
  Option.bind (f_S_there t_at t_to t_fault v1.toInt64) (fun o3 => (if o3.1 = 0 then some ((0 : Int64), t_at, o3.2) else Option.bind (f_S_bitsAt n t_row_n t_to t_row ((8 : Int32) * t_at) ((8 : Int32) * v1)) (fun o4 => bnd (t_at + v1) (fun x5 => some (o4, x5, o3.2)))))
set_option maxHeartbeats 4000000 in
set_option maxRecDepth 100000 in
theorem c_S_lowestFirst (l : Launch) (D : va_G) (k : ClassId × ClassId × ClassId) (a_t a_t_bytes a_t_row a_t_widths : Nat) (t_row_n : Nat) (t_at : Int32) (t_to : Int32) (t_fault : Int32) (t_row : Nat → Int32) (v1 : Int32) (n : Nat) (out : Int64 × Int32 × Int32) (h : f_S_lowestFirst n t_row_n t_at t_to t_fault t_row v1 = some out) : Ct l D k y_S_lowestFirst b_S_lowestFirst 4 (some .long) rm_S_lowestFirst [.ref a_t, .int v1] [(a_t, .inr (5, [.ref a_t_bytes, .ref a_t_row, .ref a_t_widths, .int t_at, .int t_to, .int t_fault])), (a_t_row, .inl (k.1, t_row_n, .inl t_row))] [(a_t, .inr (5, [.ref a_t_bytes, .ref a_t_row, .ref a_t_widths, .int out.2.1, .int t_to, .int out.2.2])), (a_t_row, .inl (k.1, t_row_n, .inl t_row))] (some (.long out.1)) := by
  refine Ct.ofL (by decide) (Nat.le_of_ble_eq_true rfl) ?_
  intro p e s m args below meth c A Q ls hx hb hml hown hts hA hK hP hD hS hE hl ret
  have hown : s.vm.findClass "PageForm$Source" = some m.cls := hown
  have hl : lv_has ls 4 [(0, .ref a_t), (1, .int v1)] := hl
  have ret2 : ∀ (y0 : Int64) (y1 : Int32) (y2 : Int32) (_ : (y0, y1, y2) = out) {pc : Nat} {ls : Array Slot} {H : Heap} {locs : List Loc}, decode b_S_lowestFirst pc = .ok (.lreturn, 1) → va_P D CL [(a_t, .inr (5, [.ref a_t_bytes, .ref a_t_row, .ref a_t_widths, .int y1, .int t_to, .int y2])), (a_t_row, .inl (k.1, t_row_n, .inl t_row))] H → va_D A [(a_t, .inr (5, [.ref a_t_bytes, .ref a_t_row, .ref a_t_widths, .int y1, .int t_to, .int y2])), (a_t_row, .inl (k.1, t_row_n, .inl t_row))] → va_S A s.heap H locs → W p l e rm_S_lowestFirst s m args below meth c H locs 0 0 Q (F0 m pc ls [.long y0]) := by
    intro y0 y1 y2 e0; subst e0; exact ret
  clear ret
  unfold f_S_lowestFirst at h
  refine lv_aload_n hx hb d_S_lowestFirst_0 rfl (lv_at hl 0 rfl) ?_
  refine lv_iload_n hx hb d_S_lowestFirst_1 rfl (lv_at hl 1 rfl) ?_
  refine lv_i2l hx hb d_S_lowestFirst_2 rfl ?_
  obtain ⟨o3, ho3, h⟩ := obd_at h
  refine g_V (As := [.long v1.toInt64]) (rest := []) hx hb hml hown hts hA hK hP hD hS hE (c_S_there l D k a_t a_t_bytes a_t_row a_t_widths t_at t_to t_fault v1.toInt64 n o3 ho3) mw_S_there mi_S_there ml_S_39 [0] rfl (by decide) rfl rfl rfl 0 rfl rfl rfl rfl rfl hl.1 rfl (Nat.le_of_ble_eq_true rfl) ⟨Nat.zero_le _, Nat.zero_le _⟩ d_S_lowestFirst_3 (fun H locs hP hD hS => ?_)
  have hP : va_P D CL [(a_t, .inr (5, [.ref a_t_bytes, .ref a_t_row, .ref a_t_widths, .int t_at, .int t_to, .int o3.2])), (a_t_row, .inl (k.1, t_row_n, .inl t_row))] H := hP
  have hD : va_D A [(a_t, .inr (5, [.ref a_t_bytes, .ref a_t_row, .ref a_t_widths, .int t_at, .int t_to, .int o3.2])), (a_t_row, .inl (k.1, t_row_n, .inl t_row))] := hD
  refine W.eq (g2 := F0 m 6 ls [.int o3.1]) rfl ?_
  refine lv_if_ne (tgt := 11) hx hb d_S_lowestFirst_6 (by decide) (fun c => ?_) (fun c => ?_)
  · have h := iff_at h c
    refine lv_aload_n hx hb d_S_lowestFirst_11 rfl (lv_at hl 0 rfl) ?_
    refine lv_bipush (v := 8) hx hb d_S_lowestFirst_12 (by decide) ?_
    refine lv_aload_n hx hb d_S_lowestFirst_14 rfl (lv_at hl 0 rfl) ?_
    refine va_get (D := D) (ci := 5) (v := .int t_at) (C := "PageForm$Source") (T := F_S) (N := 6) hx hb hts in_S hown hK hP 0 rfl rfl 3 (by decide) (hts _ fl_S_26) (fun _ h9 => h9) rfl d_S_lowestFirst_15 ?_
    refine lv_imul hx hb d_S_lowestFirst_18 ?_
    refine lv_bipush (v := 8) hx hb d_S_lowestFirst_19 (by decide) ?_
    refine lv_iload_n hx hb d_S_lowestFirst_21 rfl (lv_at hl 1 rfl) ?_
    refine lv_imul hx hb d_S_lowestFirst_22 ?_
    obtain ⟨o4, ho4, h⟩ := obd_at h
    refine g_V (As := [.int ((8 : Int32) * t_at), .int ((8 : Int32) * v1)]) (rest := []) hx hb hml hown hts hA hK hP hD hS hE (c_S_bitsAt l D k a_t a_t_bytes a_t_row a_t_widths t_row_n t_at t_to o3.2 t_row ((8 : Int32) * t_at) ((8 : Int32) * v1) n o4 ho4) mw_S_bitsAt mi_S_bitsAt ml_S_43 [0, 1] rfl (by decide) rfl rfl rfl 0 rfl rfl rfl rfl rfl hl.1 rfl (Nat.le_of_ble_eq_true rfl) ⟨Nat.zero_le _, Nat.zero_le _⟩ d_S_lowestFirst_23 (fun H locs hP hD hS => ?_)
    have hP : va_P D CL [(a_t, .inr (5, [.ref a_t_bytes, .ref a_t_row, .ref a_t_widths, .int t_at, .int t_to, .int o3.2])), (a_t_row, .inl (k.1, t_row_n, .inl t_row))] H := hP
    have hD : va_D A [(a_t, .inr (5, [.ref a_t_bytes, .ref a_t_row, .ref a_t_widths, .int t_at, .int t_to, .int o3.2])), (a_t_row, .inl (k.1, t_row_n, .inl t_row))] := hD
    refine W.eq (g2 := F0 m 26 ls [.long o4]) rfl ?_
    refine lv_lstore_n (lv' := [(2, .long o4), (0, .ref a_t), (1, .int v1)]) hx hb d_S_lowestFirst_26 rfl hl (by decide) rfl (fun ls hl => ?_)
    refine lv_aload_n hx hb d_S_lowestFirst_27 rfl (lv_at hl 1 rfl) ?_
    refine lv_dup hx hb d_S_lowestFirst_28 rfl ?_
    refine va_get (D := D) (ci := 5) (v := .int t_at) (C := "PageForm$Source") (T := F_S) (N := 6) hx hb hts in_S hown hK hP 0 rfl rfl 3 (by decide) (hts _ fl_S_26) (fun _ h9 => h9) rfl d_S_lowestFirst_29 ?_
    refine lv_iload_n hx hb d_S_lowestFirst_32 rfl (lv_at hl 2 rfl) ?_
    refine lv_iadd hx hb d_S_lowestFirst_33 ?_
    refine lv_topi (fun x5 ex5 => ?_)
    have h := bnd_at h ex5
    refine va_put (D := D) (ci := 5) (v := .int x5) (ty := .int) (C := "PageForm$Source") (T := F_S) (N := 6) hx hb hts in_S t_S t_S_ok n_S hown hK hP hD hS 0 rfl rfl 3 (by decide) (hts _ fl_S_26) (fun _ h9 => h9) rfl (by decide +kernel) rfl rfl (Nat.le_of_ble_eq_true rfl) d_S_lowestFirst_34 (fun H locs hP hD hS => ?_)
    have hP : va_P D CL [(a_t, .inr (5, [.ref a_t_bytes, .ref a_t_row, .ref a_t_widths, .int x5, .int t_to, .int o3.2])), (a_t_row, .inl (k.1, t_row_n, .inl t_row))] H := hP
    have hD : va_D A [(a_t, .inr (5, [.ref a_t_bytes, .ref a_t_row, .ref a_t_widths, .int x5, .int t_to, .int o3.2])), (a_t_row, .inl (k.1, t_row_n, .inl t_row))] := hD
    refine lv_lload_n hx hb d_S_lowestFirst_37 rfl (lv_at hl 0 rfl) ?_
    exact ret2 _ _ _ (Option.some.inj h) d_S_lowestFirst_38 hP hD hS
  · have h := ift_at h c
    refine lv_lconst (v := 0) hx hb d_S_lowestFirst_9 (by decide) ?_
    exact ret2 _ _ _ (Option.some.inj h) d_S_lowestFirst_10 hP hD hS

def rm_S_varint : Room := { frames := 2, cells := 0, slots := 0, locals := 42 }
def f_S_varint_j104 (t_at : Int32) (t_fault : Int32) (v1 : Int64) : Option (Int64 × Int32 × Int32) :=
  (if t_fault = 0 then some (v1, t_at, t_fault) else some ((0 : Int64), t_at, t_fault))
def f_S_varint_j95 (t_at : Int32) (t_fault : Int32) (v1 : Int64) : Option (Int64 × Int32 × Int32) :=
  f_S_varint_j104 t_at t_fault v1
def f_S_varint_j73 (t_at : Int32) (t_fault : Int32) (v1 : Int64) (v3 : Int32) (v4 : Int32) : Option ((Int32 × Int32 × Int64 × Int32) ⊕ ((Int32 × Int32 × Int64 × Int32) ⊕ (Int32 × Int32 × Int64 × Int32))) :=
  bnd (v1 ||| ((v4 &&& (127 : Int32)).toInt64 <<< (((7 : Int32) * v3).toInt64 &&& 63))) (fun x5 => (if (128 : Int32) ≤ v4 then bnd (v3 + (1 : Int32)) (fun x6 => some (Sum.inl (t_at, t_fault, x5, x6))) else some (Sum.inr (Sum.inl ((t_at, t_fault, x5, v3))))))
def f_S_varint_j68 (t_at : Int32) (t_fault : Int32) (v1 : Int64) (v3 : Int32) (v4 : Int32) : Option ((Int32 × Int32 × Int64 × Int32) ⊕ ((Int32 × Int32 × Int64 × Int32) ⊕ (Int32 × Int32 × Int64 × Int32))) :=
  Option.bind (f_S_fail t_fault (2 : Int32)) (fun o17 => f_S_varint_j73 t_at o17 v1 v3 v4)
def f_S_varint_j56 (t_at : Int32) (t_fault : Int32) (v1 : Int64) (v3 : Int32) (v4 : Int32) (v5 : Int32) (k0 : Int32) : Option ((Int32 × Int32 × Int64 × Int32) ⊕ ((Int32 × Int32 × Int64 × Int32) ⊕ (Int32 × Int32 × Int64 × Int32))) :=
  (if v5 = 0 then (if k0 = 0 then f_S_varint_j73 t_at t_fault v1 v3 v4 else f_S_varint_j68 t_at t_fault v1 v3 v4) else f_S_varint_j68 t_at t_fault v1 v3 v4)
def f_S_varint_j55 (t_at : Int32) (t_fault : Int32) (v1 : Int64) (v3 : Int32) (v4 : Int32) (v5 : Int32) : Option ((Int32 × Int32 × Int64 × Int32) ⊕ ((Int32 × Int32 × Int64 × Int32) ⊕ (Int32 × Int32 × Int64 × Int32))) :=
  f_S_varint_j56 t_at t_fault v1 v3 v4 v5 (0 : Int32)
def f_S_varint_j40 (t_at : Int32) (t_fault : Int32) (v1 : Int64) (v3 : Int32) (v4 : Int32) (k0 : Int32) : Option ((Int32 × Int32 × Int64 × Int32) ⊕ ((Int32 × Int32 × Int64 × Int32) ⊕ (Int32 × Int32 × Int64 × Int32))) :=
  (if v3 ≤ 0 then f_S_varint_j55 t_at t_fault v1 v3 v4 k0 else (if v4 = 0 then f_S_varint_j56 t_at t_fault v1 v3 v4 k0 (1 : Int32) else f_S_varint_j55 t_at t_fault v1 v3 v4 k0))
def f_S_varint_j39 (t_at : Int32) (t_fault : Int32) (v1 : Int64) (v3 : Int32) (v4 : Int32) : Option ((Int32 × Int32 × Int64 × Int32) ⊕ ((Int32 × Int32 × Int64 × Int32) ⊕ (Int32 × Int32 × Int64 × Int32))) :=
  f_S_varint_j40 t_at t_fault v1 v3 v4 (0 : Int32)
def f_S_varint_l4 (t_row_n : Nat) (t_to : Int32) (t_row : Nat → Int32) (t_at : Int32) (t_fault : Int32) (v1 : Int64) (v3 : Int32) : Option ((Int32 × Int32 × Int64 × Int32) ⊕ ((Int32 × Int32 × Int64 × Int32) ⊕ (Int32 × Int32 × Int64 × Int32))) :=
  (if (10 : Int32) ≤ v3 then some (Sum.inr (Sum.inr ((t_at, t_fault, v1, v3)))) else (if t_fault = 0 then Option.bind (f_S_octet t_row_n t_at t_to t_fault t_row) (fun o52 => (if v3 = (9 : Int32) then (if o52.1 ≤ (1 : Int32) then f_S_varint_j39 o52.2.1 o52.2.2 v1 v3 o52.1 else f_S_varint_j40 o52.2.1 o52.2.2 v1 v3 o52.1 (1 : Int32)) else f_S_varint_j39 o52.2.1 o52.2.2 v1 v3 o52.1)) else some (Sum.inr (Sum.inr ((t_at, t_fault, v1, v3))))))
def f_S_varint (n : Nat) (t_row_n : Nat) (t_at : Int32) (t_to : Int32) (t_fault : Int32) (t_row : Nat → Int32) : Option (Int64 × Int32 × Int32) :=
  Option.bind (lp (fun v => f_S_varint_l4 t_row_n t_to t_row v.1 v.2.1 v.2.2.1 v.2.2.2) n (t_at, t_fault, (0 : Int64), (0 : Int32))) (fun o => Sum.elim (fun o => f_S_varint_j95 o.1 o.2.1 o.2.2.1) (fun o => f_S_varint_j104 o.1 o.2.1 o.2.2.1) o)
set_option maxHeartbeats 4000000 in
set_option maxRecDepth 100000 in
theorem c_S_varint (l : Launch) (D : va_G) (k : ClassId × ClassId × ClassId) (a_t a_t_bytes a_t_row a_t_widths : Nat) (t_row_n : Nat) (t_at : Int32) (t_to : Int32) (t_fault : Int32) (t_row : Nat → Int32) (n : Nat) (out : Int64 × Int32 × Int32) (h : f_S_varint n t_row_n t_at t_to t_fault t_row = some out) : Ct l D k y_S_varint b_S_varint 7 (some .long) rm_S_varint [.ref a_t] [(a_t, .inr (5, [.ref a_t_bytes, .ref a_t_row, .ref a_t_widths, .int t_at, .int t_to, .int t_fault])), (a_t_row, .inl (k.1, t_row_n, .inl t_row))] [(a_t, .inr (5, [.ref a_t_bytes, .ref a_t_row, .ref a_t_widths, .int out.2.1, .int t_to, .int out.2.2])), (a_t_row, .inl (k.1, t_row_n, .inl t_row))] (some (.long out.1)) := by
  refine Ct.ofL (by decide) (Nat.le_of_ble_eq_true rfl) ?_
  intro p e s m args below meth c A Q ls hx hb hml hown hts hA hK hP hD hS hE hl ret
  have hown : s.vm.findClass "PageForm$Source" = some m.cls := hown
  have hl : lv_has ls 7 [(0, .ref a_t)] := hl
  have ret2 : ∀ (y0 : Int64) (y1 : Int32) (y2 : Int32) (_ : (y0, y1, y2) = out) {pc : Nat} {ls : Array Slot} {H : Heap} {locs : List Loc}, decode b_S_varint pc = .ok (.lreturn, 1) → va_P D CL [(a_t, .inr (5, [.ref a_t_bytes, .ref a_t_row, .ref a_t_widths, .int y1, .int t_to, .int y2])), (a_t_row, .inl (k.1, t_row_n, .inl t_row))] H → va_D A [(a_t, .inr (5, [.ref a_t_bytes, .ref a_t_row, .ref a_t_widths, .int y1, .int t_to, .int y2])), (a_t_row, .inl (k.1, t_row_n, .inl t_row))] → va_S A s.heap H locs → W p l e rm_S_varint s m args below meth c H locs 0 0 Q (F0 m pc ls [.long y0]) := by
    intro y0 y1 y2 e0; subst e0; exact ret
  clear ret
  have J104 : ∀ (t_at : Int32) (t_fault : Int32) (v1 : Int64) (H : Heap) (locs : List Loc) (ls : Array Slot), va_P D CL [(a_t, .inr (5, [.ref a_t_bytes, .ref a_t_row, .ref a_t_widths, .int t_at, .int t_to, .int t_fault])), (a_t_row, .inl (k.1, t_row_n, .inl t_row))] H → va_D A [(a_t, .inr (5, [.ref a_t_bytes, .ref a_t_row, .ref a_t_widths, .int t_at, .int t_to, .int t_fault])), (a_t_row, .inl (k.1, t_row_n, .inl t_row))] → va_S A s.heap H locs → lv_has ls 7 [(0, .ref a_t), (1, .long v1)] → f_S_varint_j104 t_at t_fault v1 = some out → W p l e rm_S_varint s m args below meth c H locs 0 0 Q (F0 m 104 ls []) := by
    intro t_at t_fault v1 H locs ls hP hD hS hl h
    unfold f_S_varint_j104 at h
    refine lv_aload_n hx hb d_S_varint_104 rfl (lv_at hl 0 rfl) ?_
    refine va_get (D := D) (ci := 5) (v := .int t_fault) (C := "PageForm$Source") (T := F_S) (N := 6) hx hb hts in_S hown hK hP 0 rfl rfl 5 (by decide) (hts _ fl_S_36) (fun _ h9 => h9) rfl d_S_varint_105 ?_
    refine lv_if_ne (tgt := 115) hx hb d_S_varint_108 (by decide) (fun c => ?_) (fun c => ?_)
    · have h := iff_at h c
      refine lv_lconst (v := 0) hx hb d_S_varint_115 (by decide) ?_
      exact ret2 _ _ _ (Option.some.inj h) d_S_varint_116 hP hD hS
    · have h := ift_at h c
      refine lv_lload_n hx hb d_S_varint_111 rfl (lv_at hl 1 rfl) ?_
      refine lv_goto (tgt := 116) hx hb d_S_varint_112 (by decide) ?_
      exact ret2 _ _ _ (Option.some.inj h) d_S_varint_116 hP hD hS
  have J95 : ∀ (t_at : Int32) (t_fault : Int32) (v1 : Int64) (H : Heap) (locs : List Loc) (ls : Array Slot), va_P D CL [(a_t, .inr (5, [.ref a_t_bytes, .ref a_t_row, .ref a_t_widths, .int t_at, .int t_to, .int t_fault])), (a_t_row, .inl (k.1, t_row_n, .inl t_row))] H → va_D A [(a_t, .inr (5, [.ref a_t_bytes, .ref a_t_row, .ref a_t_widths, .int t_at, .int t_to, .int t_fault])), (a_t_row, .inl (k.1, t_row_n, .inl t_row))] → va_S A s.heap H locs → lv_has ls 7 [(0, .ref a_t), (1, .long v1)] → f_S_varint_j95 t_at t_fault v1 = some out → W p l e rm_S_varint s m args below meth c H locs 0 0 Q (F0 m 95 ls []) := by
    intro t_at t_fault v1 H locs ls hP hD hS hl h
    unfold f_S_varint_j95 at h
    refine lv_goto (tgt := 104) hx hb d_S_varint_95 (by decide) ?_
    exact J104 t_at t_fault v1 _ _ ls hP hD hS (lv_sub hl [0, 1] rfl) h
  have L4 : ∀ (K : Nat) (t_at : Int32) (t_fault : Int32) (v1 : Int64) (v3 : Int32) (o : (Int32 × Int32 × Int64 × Int32) ⊕ (Int32 × Int32 × Int64 × Int32)) (H : Heap) (locs : List Loc) (ls : Array Slot), va_P D CL [(a_t, .inr (5, [.ref a_t_bytes, .ref a_t_row, .ref a_t_widths, .int t_at, .int t_to, .int t_fault])), (a_t_row, .inl (k.1, t_row_n, .inl t_row))] H → va_D A [(a_t, .inr (5, [.ref a_t_bytes, .ref a_t_row, .ref a_t_widths, .int t_at, .int t_to, .int t_fault])), (a_t_row, .inl (k.1, t_row_n, .inl t_row))] → va_S A s.heap H locs → lv_has ls 7 [(0, .ref a_t), (1, .long v1), (3, .int v3)] → lp (fun v => f_S_varint_l4 t_row_n t_to t_row v.1 v.2.1 v.2.2.1 v.2.2.2) K (t_at, t_fault, v1, v3) = some o → (fun o => Sum.elim (fun o => f_S_varint_j95 o.1 o.2.1 o.2.2.1) (fun o => f_S_varint_j104 o.1 o.2.1 o.2.2.1) o) o = some out → W p l e rm_S_varint s m args below meth c H locs 0 0 Q (F0 m 4 ls []) := by
    intro K
    induction K with
    | zero => intros; exact absurd (by assumption) lp_no
    | succ K ih4 =>
      intro t_at t_fault v1 v3 o H locs ls hP hD hS hl h0 hx4
      obtain ⟨b4, h, hc4⟩ := lp_at h0
      have h : f_S_varint_l4 t_row_n t_to t_row t_at t_fault v1 v3 = some b4 := h
      have J73 : ∀ (t_at : Int32) (t_fault : Int32) (v1 : Int64) (v3 : Int32) (v4 : Int32) (H : Heap) (locs : List Loc) (ls : Array Slot), va_P D CL [(a_t, .inr (5, [.ref a_t_bytes, .ref a_t_row, .ref a_t_widths, .int t_at, .int t_to, .int t_fault])), (a_t_row, .inl (k.1, t_row_n, .inl t_row))] H → va_D A [(a_t, .inr (5, [.ref a_t_bytes, .ref a_t_row, .ref a_t_widths, .int t_at, .int t_to, .int t_fault])), (a_t_row, .inl (k.1, t_row_n, .inl t_row))] → va_S A s.heap H locs → lv_has ls 7 [(0, .ref a_t), (1, .long v1), (3, .int v3), (4, .int v4)] → f_S_varint_j73 t_at t_fault v1 v3 v4 = some b4 → W p l e rm_S_varint s m args below meth c H locs 0 0 Q (F0 m 73 ls []) := by
        intro t_at t_fault v1 v3 v4 H locs ls hP hD hS hl h
        unfold f_S_varint_j73 at h
        refine lv_lload_n hx hb d_S_varint_73 rfl (lv_at hl 1 rfl) ?_
        refine lv_iload hx hb d_S_varint_74 (lv_at hl 3 rfl) ?_
        refine lv_bipush (v := 127) hx hb d_S_varint_76 (by decide) ?_
        refine lv_iand hx hb d_S_varint_78 ?_
        refine lv_i2l hx hb d_S_varint_79 rfl ?_
        refine lv_bipush (v := 7) hx hb d_S_varint_80 (by decide) ?_
        refine lv_iload_n hx hb d_S_varint_82 rfl (lv_at hl 2 rfl) ?_
        refine lv_imul hx hb d_S_varint_83 ?_
        refine lv_lshl hx hb d_S_varint_84 rfl ?_
        refine lv_lor hx hb d_S_varint_85 ?_
        refine lv_topl (fun x5 ex5 => ?_)
        have h := bnd_at h ex5
        refine lv_lstore_n (lv' := [(1, .long x5), (0, .ref a_t), (3, .int v3), (4, .int v4)]) hx hb d_S_varint_86 rfl hl (by decide) rfl (fun ls hl => ?_)
        refine lv_iload hx hb d_S_varint_87 (lv_at hl 3 rfl) ?_
        refine lv_sipush (v := 128) hx hb d_S_varint_89 (by decide) ?_
        refine lv_icmp_ge (tgt := 98) hx hb d_S_varint_92 (by decide) (fun c => ?_) (fun c => ?_)
        · have h := ift_at h c
          obtain ⟨x6, ex6⟩ : ∃ z : Int32, z = v3 + (1 : Int32) := ⟨_, rfl⟩
          have h := bnd_at h ex6
          refine lv_iinc (v := x6) (lv' := [(3, .int x6), (1, .long x5), (0, .ref a_t), (4, .int v4)]) hx hb d_S_varint_98 hl (k := 2) rfl (by rw [ex6]; rfl) (by decide) rfl (fun ls hl => ?_)
          refine lv_goto (tgt := 4) hx hb d_S_varint_101 (by decide) ?_
          have h := lp_go h hc4
          exact ih4 t_at t_fault x5 x6 o _ _ ls hP hD hS (lv_sub hl [2, 1, 0] rfl) h hx4
        · have h := iff_at h c
          obtain rfl := lp_out h hc4
          exact J95 t_at t_fault x5 _ _ ls hP hD hS (lv_sub hl [1, 0] rfl) hx4
      have J68 : ∀ (t_at : Int32) (t_fault : Int32) (v1 : Int64) (v3 : Int32) (v4 : Int32) (H : Heap) (locs : List Loc) (ls : Array Slot), va_P D CL [(a_t, .inr (5, [.ref a_t_bytes, .ref a_t_row, .ref a_t_widths, .int t_at, .int t_to, .int t_fault])), (a_t_row, .inl (k.1, t_row_n, .inl t_row))] H → va_D A [(a_t, .inr (5, [.ref a_t_bytes, .ref a_t_row, .ref a_t_widths, .int t_at, .int t_to, .int t_fault])), (a_t_row, .inl (k.1, t_row_n, .inl t_row))] → va_S A s.heap H locs → lv_has ls 7 [(0, .ref a_t), (1, .long v1), (3, .int v3), (4, .int v4)] → f_S_varint_j68 t_at t_fault v1 v3 v4 = some b4 → W p l e rm_S_varint s m args below meth c H locs 0 0 Q (F0 m 68 ls []) := by
        intro t_at t_fault v1 v3 v4 H locs ls hP hD hS hl h
        unfold f_S_varint_j68 at h
        refine lv_aload_n hx hb d_S_varint_68 rfl (lv_at hl 0 rfl) ?_
        refine lv_iconst (v := 2) hx hb d_S_varint_69 (by decide) ?_
        obtain ⟨o17, ho17, h⟩ := obd_at h
        refine g_V (As := [.int (2 : Int32)]) (rest := []) hx hb hml hown hts hA hK hP hD hS hE (c_S_fail l D k a_t a_t_bytes a_t_row a_t_widths t_at t_to t_fault (2 : Int32) n o17 ho17) mw_S_fail mi_S_fail ml_S_51 [0] rfl (by decide) rfl rfl rfl 0 rfl rfl rfl rfl rfl hl.1 rfl (Nat.le_of_ble_eq_true rfl) ⟨Nat.zero_le _, Nat.zero_le _⟩ d_S_varint_70 (fun H locs hP hD hS => ?_)
        have hP : va_P D CL [(a_t, .inr (5, [.ref a_t_bytes, .ref a_t_row, .ref a_t_widths, .int t_at, .int t_to, .int o17])), (a_t_row, .inl (k.1, t_row_n, .inl t_row))] H := hP
        have hD : va_D A [(a_t, .inr (5, [.ref a_t_bytes, .ref a_t_row, .ref a_t_widths, .int t_at, .int t_to, .int o17])), (a_t_row, .inl (k.1, t_row_n, .inl t_row))] := hD
        refine W.eq (g2 := F0 m 73 ls []) rfl ?_
        exact J73 t_at o17 v1 v3 v4 _ _ ls hP hD hS (lv_sub hl [0, 1, 2, 3] rfl) h
      have J56 : ∀ (t_at : Int32) (t_fault : Int32) (v1 : Int64) (v3 : Int32) (v4 : Int32) (v5 : Int32) (k0 : Int32) (H : Heap) (locs : List Loc) (ls : Array Slot), va_P D CL [(a_t, .inr (5, [.ref a_t_bytes, .ref a_t_row, .ref a_t_widths, .int t_at, .int t_to, .int t_fault])), (a_t_row, .inl (k.1, t_row_n, .inl t_row))] H → va_D A [(a_t, .inr (5, [.ref a_t_bytes, .ref a_t_row, .ref a_t_widths, .int t_at, .int t_to, .int t_fault])), (a_t_row, .inl (k.1, t_row_n, .inl t_row))] → va_S A s.heap H locs → lv_has ls 7 [(0, .ref a_t), (1, .long v1), (3, .int v3), (4, .int v4), (5, .int v5)] → f_S_varint_j56 t_at t_fault v1 v3 v4 v5 k0 = some b4 → W p l e rm_S_varint s m args below meth c H locs 0 0 Q (F0 m 56 ls [.int k0]) := by
        intro t_at t_fault v1 v3 v4 v5 k0 H locs ls hP hD hS hl h
        unfold f_S_varint_j56 at h
        refine lv_istore (lv' := [(6, .int k0), (0, .ref a_t), (1, .long v1), (3, .int v3), (4, .int v4), (5, .int v5)]) hx hb d_S_varint_56 hl (by decide) rfl (fun ls hl => ?_)
        refine lv_iload hx hb d_S_varint_58 (lv_at hl 5 rfl) ?_
        refine lv_if_ne (tgt := 68) hx hb d_S_varint_60 (by decide) (fun c => ?_) (fun c => ?_)
        · have h := iff_at h c
          exact J68 t_at t_fault v1 v3 v4 _ _ ls hP hD hS (lv_sub hl [1, 2, 3, 4] rfl) h
        · have h := ift_at h c
          refine lv_iload hx hb d_S_varint_63 (lv_at hl 0 rfl) ?_
          refine lv_if_eq (tgt := 73) hx hb d_S_varint_65 (by decide) (fun c => ?_) (fun c => ?_)
          · have h := ift_at h c
            exact J73 t_at t_fault v1 v3 v4 _ _ ls hP hD hS (lv_sub hl [1, 2, 3, 4] rfl) h
          · have h := iff_at h c
            exact J68 t_at t_fault v1 v3 v4 _ _ ls hP hD hS (lv_sub hl [1, 2, 3, 4] rfl) h
      have J55 : ∀ (t_at : Int32) (t_fault : Int32) (v1 : Int64) (v3 : Int32) (v4 : Int32) (v5 : Int32) (H : Heap) (locs : List Loc) (ls : Array Slot), va_P D CL [(a_t, .inr (5, [.ref a_t_bytes, .ref a_t_row, .ref a_t_widths, .int t_at, .int t_to, .int t_fault])), (a_t_row, .inl (k.1, t_row_n, .inl t_row))] H → va_D A [(a_t, .inr (5, [.ref a_t_bytes, .ref a_t_row, .ref a_t_widths, .int t_at, .int t_to, .int t_fault])), (a_t_row, .inl (k.1, t_row_n, .inl t_row))] → va_S A s.heap H locs → lv_has ls 7 [(0, .ref a_t), (1, .long v1), (3, .int v3), (4, .int v4), (5, .int v5)] → f_S_varint_j55 t_at t_fault v1 v3 v4 v5 = some b4 → W p l e rm_S_varint s m args below meth c H locs 0 0 Q (F0 m 55 ls []) := by
        intro t_at t_fault v1 v3 v4 v5 H locs ls hP hD hS hl h
        unfold f_S_varint_j55 at h
        refine lv_iconst (v := 0) hx hb d_S_varint_55 (by decide) ?_
        exact J56 t_at t_fault v1 v3 v4 v5 (0 : Int32) _ _ ls hP hD hS (lv_sub hl [0, 1, 2, 3, 4] rfl) h
      have J40 : ∀ (t_at : Int32) (t_fault : Int32) (v1 : Int64) (v3 : Int32) (v4 : Int32) (k0 : Int32) (H : Heap) (locs : List Loc) (ls : Array Slot), va_P D CL [(a_t, .inr (5, [.ref a_t_bytes, .ref a_t_row, .ref a_t_widths, .int t_at, .int t_to, .int t_fault])), (a_t_row, .inl (k.1, t_row_n, .inl t_row))] H → va_D A [(a_t, .inr (5, [.ref a_t_bytes, .ref a_t_row, .ref a_t_widths, .int t_at, .int t_to, .int t_fault])), (a_t_row, .inl (k.1, t_row_n, .inl t_row))] → va_S A s.heap H locs → lv_has ls 7 [(0, .ref a_t), (1, .long v1), (3, .int v3), (4, .int v4)] → f_S_varint_j40 t_at t_fault v1 v3 v4 k0 = some b4 → W p l e rm_S_varint s m args below meth c H locs 0 0 Q (F0 m 40 ls [.int k0]) := by
        intro t_at t_fault v1 v3 v4 k0 H locs ls hP hD hS hl h
        unfold f_S_varint_j40 at h
        refine lv_istore (lv' := [(5, .int k0), (0, .ref a_t), (1, .long v1), (3, .int v3), (4, .int v4)]) hx hb d_S_varint_40 hl (by decide) rfl (fun ls hl => ?_)
        refine lv_iload_n hx hb d_S_varint_42 rfl (lv_at hl 3 rfl) ?_
        refine lv_if_le (tgt := 55) hx hb d_S_varint_43 (by decide) (fun c => ?_) (fun c => ?_)
        · have h := ift_at h c
          exact J55 t_at t_fault v1 v3 v4 k0 _ _ ls hP hD hS (lv_sub hl [1, 2, 3, 4, 0] rfl) h
        · have h := iff_at h c
          refine lv_iload hx hb d_S_varint_46 (lv_at hl 4 rfl) ?_
          refine lv_if_ne (tgt := 55) hx hb d_S_varint_48 (by decide) (fun c => ?_) (fun c => ?_)
          · have h := iff_at h c
            exact J55 t_at t_fault v1 v3 v4 k0 _ _ ls hP hD hS (lv_sub hl [1, 2, 3, 4, 0] rfl) h
          · have h := ift_at h c
            refine lv_iconst (v := 1) hx hb d_S_varint_51 (by decide) ?_
            refine lv_goto (tgt := 56) hx hb d_S_varint_52 (by decide) ?_
            exact J56 t_at t_fault v1 v3 v4 k0 (1 : Int32) _ _ ls hP hD hS (lv_sub hl [1, 2, 3, 4, 0] rfl) h
      have J39 : ∀ (t_at : Int32) (t_fault : Int32) (v1 : Int64) (v3 : Int32) (v4 : Int32) (H : Heap) (locs : List Loc) (ls : Array Slot), va_P D CL [(a_t, .inr (5, [.ref a_t_bytes, .ref a_t_row, .ref a_t_widths, .int t_at, .int t_to, .int t_fault])), (a_t_row, .inl (k.1, t_row_n, .inl t_row))] H → va_D A [(a_t, .inr (5, [.ref a_t_bytes, .ref a_t_row, .ref a_t_widths, .int t_at, .int t_to, .int t_fault])), (a_t_row, .inl (k.1, t_row_n, .inl t_row))] → va_S A s.heap H locs → lv_has ls 7 [(0, .ref a_t), (1, .long v1), (3, .int v3), (4, .int v4)] → f_S_varint_j39 t_at t_fault v1 v3 v4 = some b4 → W p l e rm_S_varint s m args below meth c H locs 0 0 Q (F0 m 39 ls []) := by
        intro t_at t_fault v1 v3 v4 H locs ls hP hD hS hl h
        unfold f_S_varint_j39 at h
        refine lv_iconst (v := 0) hx hb d_S_varint_39 (by decide) ?_
        exact J40 t_at t_fault v1 v3 v4 (0 : Int32) _ _ ls hP hD hS (lv_sub hl [0, 1, 2, 3] rfl) h
      unfold f_S_varint_l4 at h
      refine lv_iload_n hx hb d_S_varint_4 rfl (lv_at hl 2 rfl) ?_
      refine lv_bipush (v := 10) hx hb d_S_varint_5 (by decide) ?_
      refine lv_icmp_ge (tgt := 104) hx hb d_S_varint_7 (by decide) (fun c => ?_) (fun c => ?_)
      · have h := ift_at h c
        obtain rfl := lp_out h hc4
        exact J104 t_at t_fault v1 _ _ ls hP hD hS (lv_sub hl [0, 1] rfl) hx4
      · have h := iff_at h c
        refine lv_aload_n hx hb d_S_varint_10 rfl (lv_at hl 0 rfl) ?_
        refine va_get (D := D) (ci := 5) (v := .int t_fault) (C := "PageForm$Source") (T := F_S) (N := 6) hx hb hts in_S hown hK hP 0 rfl rfl 5 (by decide) (hts _ fl_S_36) (fun _ h9 => h9) rfl d_S_varint_11 ?_
        refine lv_if_ne (tgt := 104) hx hb d_S_varint_14 (by decide) (fun c => ?_) (fun c => ?_)
        · have h := iff_at h c
          obtain rfl := lp_out h hc4
          exact J104 t_at t_fault v1 _ _ ls hP hD hS (lv_sub hl [0, 1] rfl) hx4
        · have h := ift_at h c
          refine lv_aload_n hx hb d_S_varint_17 rfl (lv_at hl 0 rfl) ?_
          obtain ⟨o52, ho52, h⟩ := obd_at h
          refine g_V (As := []) (rest := []) hx hb hml hown hts hA hK hP hD hS hE (c_S_octet l D k a_t a_t_bytes a_t_row a_t_widths t_row_n t_at t_to t_fault t_row n o52 ho52) mw_S_octet mi_S_octet ml_S_47 [0, 1] rfl (by decide) rfl rfl rfl 0 rfl rfl rfl rfl rfl hl.1 rfl (Nat.le_of_ble_eq_true rfl) ⟨Nat.zero_le _, Nat.zero_le _⟩ d_S_varint_18 (fun H locs hP hD hS => ?_)
          have hP : va_P D CL [(a_t, .inr (5, [.ref a_t_bytes, .ref a_t_row, .ref a_t_widths, .int o52.2.1, .int t_to, .int o52.2.2])), (a_t_row, .inl (k.1, t_row_n, .inl t_row))] H := hP
          have hD : va_D A [(a_t, .inr (5, [.ref a_t_bytes, .ref a_t_row, .ref a_t_widths, .int o52.2.1, .int t_to, .int o52.2.2])), (a_t_row, .inl (k.1, t_row_n, .inl t_row))] := hD
          refine W.eq (g2 := F0 m 21 ls [.int o52.1]) rfl ?_
          refine lv_istore (lv' := [(4, .int o52.1), (0, .ref a_t), (1, .long v1), (3, .int v3)]) hx hb d_S_varint_21 hl (by decide) rfl (fun ls hl => ?_)
          refine lv_iload_n hx hb d_S_varint_23 rfl (lv_at hl 3 rfl) ?_
          refine lv_bipush (v := 9) hx hb d_S_varint_24 (by decide) ?_
          refine lv_icmp_ne (tgt := 39) hx hb d_S_varint_26 (by decide) (fun c => ?_) (fun c => ?_)
          · have h := iff_at h c
            exact J39 o52.2.1 o52.2.2 v1 v3 o52.1 _ _ ls hP hD hS (lv_sub hl [1, 2, 3, 0] rfl) h
          · have h := ift_at h c
            refine lv_iload hx hb d_S_varint_29 (lv_at hl 0 rfl) ?_
            refine lv_iconst (v := 1) hx hb d_S_varint_31 (by decide) ?_
            refine lv_icmp_le (tgt := 39) hx hb d_S_varint_32 (by decide) (fun c => ?_) (fun c => ?_)
            · have h := ift_at h c
              exact J39 o52.2.1 o52.2.2 v1 v3 o52.1 _ _ ls hP hD hS (lv_sub hl [1, 2, 3, 0] rfl) h
            · have h := iff_at h c
              refine lv_iconst (v := 1) hx hb d_S_varint_35 (by decide) ?_
              refine lv_goto (tgt := 40) hx hb d_S_varint_36 (by decide) ?_
              exact J40 o52.2.1 o52.2.2 v1 v3 o52.1 (1 : Int32) _ _ ls hP hD hS (lv_sub hl [1, 2, 3, 0] rfl) h
  unfold f_S_varint at h
  refine lv_lconst (v := 0) hx hb d_S_varint_0 (by decide) ?_
  refine lv_lstore_n (lv' := [(1, .long (0 : Int64)), (0, .ref a_t)]) hx hb d_S_varint_1 rfl hl (by decide) rfl (fun ls hl => ?_)
  refine lv_iconst (v := 0) hx hb d_S_varint_2 (by decide) ?_
  refine lv_istore_n (lv' := [(3, .int (0 : Int32)), (1, .long (0 : Int64)), (0, .ref a_t)]) hx hb d_S_varint_3 rfl hl (by decide) rfl (fun ls hl => ?_)
  obtain ⟨o61, ho61, h⟩ := obd_at h
  exact L4 n t_at t_fault (0 : Int64) (0 : Int32) o61 _ _ ls hP hD hS (lv_sub hl [2, 1, 0] rfl) ho61 h

def rm_S_narrow : Room := { frames := 3, cells := 0, slots := 0, locals := 68 }
def f_S_narrow (n : Nat) (t_row_n : Nat) (t_at : Int32) (t_to : Int32) (t_fault : Int32) (t_row : Nat → Int32) : Option (Int32 × Int32 × Int32 × Int32) :=
  Option.bind (f_S_varint n t_row_n t_at t_to t_fault t_row) (fun o3 => Option.bind (f_S_there o3.2.1 t_to o3.2.2 o3.1) (fun o4 => (if o4.1 = 0 then some (t_to, o3.2.1, t_to, o4.2) else bnd (o3.2.1 + o3.1.toInt32) (fun x5 => some (t_to, o3.2.1, x5, o4.2)))))
set_option maxHeartbeats 4000000 in
set_option maxRecDepth 100000 in
theorem c_S_narrow (l : Launch) (D : va_G) (k : ClassId × ClassId × ClassId) (a_t a_t_bytes a_t_row a_t_widths : Nat) (t_row_n : Nat) (t_at : Int32) (t_to : Int32) (t_fault : Int32) (t_row : Nat → Int32) (n : Nat) (out : Int32 × Int32 × Int32 × Int32) (h : f_S_narrow n t_row_n t_at t_to t_fault t_row = some out) : Ct l D k y_S_narrow b_S_narrow 4 (some .int) rm_S_narrow [.ref a_t] [(a_t, .inr (5, [.ref a_t_bytes, .ref a_t_row, .ref a_t_widths, .int t_at, .int t_to, .int t_fault])), (a_t_row, .inl (k.1, t_row_n, .inl t_row))] [(a_t, .inr (5, [.ref a_t_bytes, .ref a_t_row, .ref a_t_widths, .int out.2.1, .int out.2.2.1, .int out.2.2.2])), (a_t_row, .inl (k.1, t_row_n, .inl t_row))] (some (.int out.1)) := by
  refine Ct.ofI (by decide) (Nat.le_of_ble_eq_true rfl) ?_
  intro p e s m args below meth c A Q ls hx hb hml hown hts hA hK hP hD hS hE hl ret
  have hown : s.vm.findClass "PageForm$Source" = some m.cls := hown
  have hl : lv_has ls 4 [(0, .ref a_t)] := hl
  have ret2 : ∀ (y0 : Int32) (y1 : Int32) (y2 : Int32) (y3 : Int32) (_ : (y0, y1, y2, y3) = out) {pc : Nat} {ls : Array Slot} {H : Heap} {locs : List Loc}, decode b_S_narrow pc = .ok (.ireturn, 1) → va_P D CL [(a_t, .inr (5, [.ref a_t_bytes, .ref a_t_row, .ref a_t_widths, .int y1, .int y2, .int y3])), (a_t_row, .inl (k.1, t_row_n, .inl t_row))] H → va_D A [(a_t, .inr (5, [.ref a_t_bytes, .ref a_t_row, .ref a_t_widths, .int y1, .int y2, .int y3])), (a_t_row, .inl (k.1, t_row_n, .inl t_row))] → va_S A s.heap H locs → W p l e rm_S_narrow s m args below meth c H locs 0 0 Q (F0 m pc ls [.int y0]) := by
    intro y0 y1 y2 y3 e0; subst e0; exact ret
  clear ret
  unfold f_S_narrow at h
  refine lv_aload_n hx hb d_S_narrow_0 rfl (lv_at hl 0 rfl) ?_
  refine va_get (D := D) (ci := 5) (v := .int t_to) (C := "PageForm$Source") (T := F_S) (N := 6) hx hb hts in_S hown hK hP 0 rfl rfl 4 (by decide) (hts _ fl_S_33) (fun _ h9 => h9) rfl d_S_narrow_1 ?_
  refine lv_istore_n (lv' := [(1, .int t_to), (0, .ref a_t)]) hx hb d_S_narrow_4 rfl hl (by decide) rfl (fun ls hl => ?_)
  refine lv_aload_n hx hb d_S_narrow_5 rfl (lv_at hl 1 rfl) ?_
  obtain ⟨o3, ho3, h⟩ := obd_at h
  refine g_V (As := []) (rest := []) hx hb hml hown hts hA hK hP hD hS hE (c_S_varint l D k a_t a_t_bytes a_t_row a_t_widths t_row_n t_at t_to t_fault t_row n o3 ho3) mw_S_varint mi_S_varint ml_S_55 [0, 1] rfl (by decide) rfl rfl rfl 0 rfl rfl rfl rfl rfl hl.1 rfl (Nat.le_of_ble_eq_true rfl) ⟨Nat.zero_le _, Nat.zero_le _⟩ d_S_narrow_6 (fun H locs hP hD hS => ?_)
  have hP : va_P D CL [(a_t, .inr (5, [.ref a_t_bytes, .ref a_t_row, .ref a_t_widths, .int o3.2.1, .int t_to, .int o3.2.2])), (a_t_row, .inl (k.1, t_row_n, .inl t_row))] H := hP
  have hD : va_D A [(a_t, .inr (5, [.ref a_t_bytes, .ref a_t_row, .ref a_t_widths, .int o3.2.1, .int t_to, .int o3.2.2])), (a_t_row, .inl (k.1, t_row_n, .inl t_row))] := hD
  refine W.eq (g2 := F0 m 9 ls [.long o3.1]) rfl ?_
  refine lv_lstore_n (lv' := [(2, .long o3.1), (1, .int t_to), (0, .ref a_t)]) hx hb d_S_narrow_9 rfl hl (by decide) rfl (fun ls hl => ?_)
  refine lv_aload_n hx hb d_S_narrow_10 rfl (lv_at hl 2 rfl) ?_
  refine lv_lload_n hx hb d_S_narrow_11 rfl (lv_at hl 0 rfl) ?_
  obtain ⟨o4, ho4, h⟩ := obd_at h
  refine g_V (As := [.long o3.1]) (rest := []) hx hb hml hown hts hA hK hP hD hS hE (c_S_there l D k a_t a_t_bytes a_t_row a_t_widths o3.2.1 t_to o3.2.2 o3.1 n o4 ho4) mw_S_there mi_S_there ml_S_39 [0] rfl (by decide) rfl rfl rfl 0 rfl rfl rfl rfl rfl hl.1 rfl (Nat.le_of_ble_eq_true rfl) ⟨Nat.zero_le _, Nat.zero_le _⟩ d_S_narrow_12 (fun H locs hP hD hS => ?_)
  have hP : va_P D CL [(a_t, .inr (5, [.ref a_t_bytes, .ref a_t_row, .ref a_t_widths, .int o3.2.1, .int t_to, .int o4.2])), (a_t_row, .inl (k.1, t_row_n, .inl t_row))] H := hP
  have hD : va_D A [(a_t, .inr (5, [.ref a_t_bytes, .ref a_t_row, .ref a_t_widths, .int o3.2.1, .int t_to, .int o4.2])), (a_t_row, .inl (k.1, t_row_n, .inl t_row))] := hD
  refine W.eq (g2 := F0 m 15 ls [.int o4.1]) rfl ?_
  refine lv_if_eq (tgt := 29) hx hb d_S_narrow_15 (by decide) (fun c => ?_) (fun c => ?_)
  · have h := ift_at h c
    refine lv_iload_n hx hb d_S_narrow_29 rfl (lv_at hl 1 rfl) ?_
    exact ret2 _ _ _ _ (Option.some.inj h) d_S_narrow_30 hP hD hS
  · have h := iff_at h c
    refine lv_aload_n hx hb d_S_narrow_18 rfl (lv_at hl 2 rfl) ?_
    refine lv_aload_n hx hb d_S_narrow_19 rfl (lv_at hl 2 rfl) ?_
    refine va_get (D := D) (ci := 5) (v := .int o3.2.1) (C := "PageForm$Source") (T := F_S) (N := 6) hx hb hts in_S hown hK hP 0 rfl rfl 3 (by decide) (hts _ fl_S_26) (fun _ h9 => h9) rfl d_S_narrow_20 ?_
    refine lv_lload_n hx hb d_S_narrow_23 rfl (lv_at hl 0 rfl) ?_
    refine lv_l2i hx hb d_S_narrow_24 rfl ?_
    refine lv_iadd hx hb d_S_narrow_25 ?_
    refine lv_topi (fun x5 ex5 => ?_)
    have h := bnd_at h ex5
    refine va_put (D := D) (ci := 5) (v := .int x5) (ty := .int) (C := "PageForm$Source") (T := F_S) (N := 6) hx hb hts in_S t_S t_S_ok n_S hown hK hP hD hS 0 rfl rfl 4 (by decide) (hts _ fl_S_33) (fun _ h9 => h9) rfl (by decide +kernel) rfl rfl (Nat.le_of_ble_eq_true rfl) d_S_narrow_26 (fun H locs hP hD hS => ?_)
    have hP : va_P D CL [(a_t, .inr (5, [.ref a_t_bytes, .ref a_t_row, .ref a_t_widths, .int o3.2.1, .int x5, .int o4.2])), (a_t_row, .inl (k.1, t_row_n, .inl t_row))] H := hP
    have hD : va_D A [(a_t, .inr (5, [.ref a_t_bytes, .ref a_t_row, .ref a_t_widths, .int o3.2.1, .int x5, .int o4.2])), (a_t_row, .inl (k.1, t_row_n, .inl t_row))] := hD
    refine lv_iload_n hx hb d_S_narrow_29 rfl (lv_at hl 1 rfl) ?_
    exact ret2 _ _ _ _ (Option.some.inj h) d_S_narrow_30 hP hD hS

