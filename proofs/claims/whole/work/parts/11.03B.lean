def rm_B_cut : Room := { frames := 0, cells := 0, slots := 0, locals := 0 }
def f_B_cut (v1 : Int32) : Option (Int32) :=
  some v1
set_option maxHeartbeats 4000000 in
set_option maxRecDepth 100000 in
theorem c_B_cut (l : Launch) (D : va_G) (k : ClassId × ClassId × ClassId) (a_t a_t_row : Nat) (t_size : Int32) (v1 : Int32) (n : Nat) (out : Int32) (h : f_B_cut v1 = some out) : Ct l D k y_B_cut b_B_cut 2 none rm_B_cut [.ref a_t, .int v1] [(a_t, .inr (0, [.ref a_t_row, .int t_size]))] [(a_t, .inr (0, [.ref a_t_row, .int out]))] none := by
  refine Ct.ofV (by decide) (Nat.le_of_ble_eq_true rfl) ?_
  intro p e s m args below meth c A Q ls hx hb hml hown hts hA hK hP hD hS hE hl ret
  have hown : s.vm.findClass "PageForm$Bytes" = some m.cls := hown
  have hl : lv_has ls 2 [(0, .ref a_t), (1, .int v1)] := hl
  have ret2 : ∀ (y0 : Int32) (_ : y0 = out) {pc : Nat} {ls : Array Slot} {H : Heap} {locs : List Loc}, decode b_B_cut pc = .ok (.return_, 1) → va_P D CL [(a_t, .inr (0, [.ref a_t_row, .int y0]))] H → va_D A [(a_t, .inr (0, [.ref a_t_row, .int y0]))] → va_S A s.heap H locs → W p l e rm_B_cut s m args below meth c H locs 0 0 Q (F0 m pc ls []) := by
    intro y0 e0; subst e0; exact ret
  clear ret
  unfold f_B_cut at h
  refine lv_aload_n hx hb d_B_cut_0 rfl (lv_at hl 0 rfl) ?_
  refine lv_iload_n hx hb d_B_cut_1 rfl (lv_at hl 1 rfl) ?_
  refine va_put (D := D) (ci := 0) (v := .int v1) (ty := .int) (C := "PageForm$Bytes") (T := F_B) (N := 2) hx hb hts in_B t_B t_B_ok n_B hown hK hP hD hS 0 rfl rfl 1 (by decide) (hts _ fl_B_15) (fun _ h9 => h9) rfl (by decide +kernel) rfl rfl (Nat.le_of_ble_eq_true rfl) d_B_cut_2 (fun H locs hP hD hS => ?_)
  have hP : va_P D CL [(a_t, .inr (0, [.ref a_t_row, .int v1]))] H := hP
  have hD : va_D A [(a_t, .inr (0, [.ref a_t_row, .int v1]))] := hD
  exact ret2 _ (Option.some.inj h) d_B_cut_5 hP hD hS

def rm_B_put : Room := { frames := 0, cells := 0, slots := 0, locals := 0 }
def f_B_put (t_row_n : Nat) (t_size : Int32) (t_row : Nat → Int32) (v1 : Int32) : Option (Int32 × (Nat → Int32)) :=
  (if (nI t_row_n) ≤ t_size then some (t_size, t_row) else gd (inB t_size t_row_n) (bnd (t_size + (1 : Int32)) (fun x3 => some (x3, upd t_row t_size.toNatClampNeg (vp_nar .byte v1.toInt8.toInt32)))))
set_option maxHeartbeats 4000000 in
set_option maxRecDepth 100000 in
theorem c_B_put (l : Launch) (D : va_G) (k : ClassId × ClassId × ClassId) (a_t a_t_row : Nat) (t_row_n : Nat) (t_size : Int32) (t_row : Nat → Int32) (v1 : Int32) (n : Nat) (out : Int32 × (Nat → Int32)) (h : f_B_put t_row_n t_size t_row v1 = some out) : Ct l D k y_B_put b_B_put 2 none rm_B_put [.ref a_t, .int v1] [(a_t, .inr (0, [.ref a_t_row, .int t_size])), (a_t_row, .inl (k.1, t_row_n, .inl t_row))] [(a_t, .inr (0, [.ref a_t_row, .int out.1])), (a_t_row, .inl (k.1, t_row_n, .inl out.2))] none := by
  refine Ct.ofV (by decide) (Nat.le_of_ble_eq_true rfl) ?_
  intro p e s m args below meth c A Q ls hx hb hml hown hts hA hK hP hD hS hE hl ret
  have hown : s.vm.findClass "PageForm$Bytes" = some m.cls := hown
  have hl : lv_has ls 2 [(0, .ref a_t), (1, .int v1)] := hl
  have ret2 : ∀ (y0 : Int32) (y1 : Nat → Int32) (_ : (y0, y1) = out) {pc : Nat} {ls : Array Slot} {H : Heap} {locs : List Loc}, decode b_B_put pc = .ok (.return_, 1) → va_P D CL [(a_t, .inr (0, [.ref a_t_row, .int y0])), (a_t_row, .inl (k.1, t_row_n, .inl y1))] H → va_D A [(a_t, .inr (0, [.ref a_t_row, .int y0])), (a_t_row, .inl (k.1, t_row_n, .inl y1))] → va_S A s.heap H locs → W p l e rm_B_put s m args below meth c H locs 0 0 Q (F0 m pc ls []) := by
    intro y0 y1 e0; subst e0; exact ret
  clear ret
  unfold f_B_put at h
  refine lv_aload_n hx hb d_B_put_0 rfl (lv_at hl 0 rfl) ?_
  refine va_get (D := D) (ci := 0) (v := .int t_size) (C := "PageForm$Bytes") (T := F_B) (N := 2) hx hb hts in_B hown hK hP 0 rfl rfl 1 (by decide) (hts _ fl_B_15) (fun _ h9 => h9) rfl d_B_put_1 ?_
  refine lv_aload_n hx hb d_B_put_4 rfl (lv_at hl 0 rfl) ?_
  refine va_get (D := D) (ci := 0) (v := .ref a_t_row) (C := "PageForm$Bytes") (T := F_B) (N := 2) hx hb hts in_B hown hK hP 0 rfl rfl 0 (by decide) (hts _ fl_B_9) (fun _ h9 => h9) rfl d_B_put_5 ?_
  refine va_alen hx hb hK hP 1 0 rfl rfl (v := nI t_row_n) rfl d_B_put_8 ?_
  refine lv_icmp_ge (tgt := 33) hx hb d_B_put_9 (by decide) (fun c => ?_) (fun c => ?_)
  · have h := ift_at h c
    exact ret2 _ _ (Option.some.inj h) d_B_put_33 hP hD hS
  · have h := iff_at h c
    refine lv_aload_n hx hb d_B_put_12 rfl (lv_at hl 0 rfl) ?_
    refine va_get (D := D) (ci := 0) (v := .ref a_t_row) (C := "PageForm$Bytes") (T := F_B) (N := 2) hx hb hts in_B hown hK hP 0 rfl rfl 0 (by decide) (hts _ fl_B_9) (fun _ h9 => h9) rfl d_B_put_13 ?_
    refine lv_aload_n hx hb d_B_put_16 rfl (lv_at hl 0 rfl) ?_
    refine va_get (D := D) (ci := 0) (v := .int t_size) (C := "PageForm$Bytes") (T := F_B) (N := 2) hx hb hts in_B hown hK hP 0 rfl rfl 1 (by decide) (hts _ fl_B_15) (fun _ h9 => h9) rfl d_B_put_17 ?_
    refine lv_iload_n hx hb d_B_put_20 rfl (lv_at hl 1 rfl) ?_
    refine lv_i2b hx hb d_B_put_21 rfl ?_
    obtain ⟨g2, h⟩ := gd_at h
    refine va_bast hx hb hK hP hD hS 1 0 rfl rfl (inB_in g2) d_B_put_22 (fun H locs hP hD hS => ?_)
    have hP : va_P D CL [(a_t, .inr (0, [.ref a_t_row, .int t_size])), (a_t_row, .inl (k.1, t_row_n, .inl (upd t_row t_size.toNatClampNeg (vp_nar .byte v1.toInt8.toInt32))))] H := hP
    have hD : va_D A [(a_t, .inr (0, [.ref a_t_row, .int t_size])), (a_t_row, .inl (k.1, t_row_n, .inl (upd t_row t_size.toNatClampNeg (vp_nar .byte v1.toInt8.toInt32))))] := hD
    refine lv_aload_n hx hb d_B_put_23 rfl (lv_at hl 0 rfl) ?_
    refine lv_dup hx hb d_B_put_24 rfl ?_
    refine va_get (D := D) (ci := 0) (v := .int t_size) (C := "PageForm$Bytes") (T := F_B) (N := 2) hx hb hts in_B hown hK hP 0 rfl rfl 1 (by decide) (hts _ fl_B_15) (fun _ h9 => h9) rfl d_B_put_25 ?_
    refine lv_iconst (v := 1) hx hb d_B_put_28 (by decide) ?_
    refine lv_iadd hx hb d_B_put_29 ?_
    refine lv_topi (fun x3 ex3 => ?_)
    have h := bnd_at h ex3
    refine va_put (D := D) (ci := 0) (v := .int x3) (ty := .int) (C := "PageForm$Bytes") (T := F_B) (N := 2) hx hb hts in_B t_B t_B_ok n_B hown hK hP hD hS 0 rfl rfl 1 (by decide) (hts _ fl_B_15) (fun _ h9 => h9) rfl (by decide +kernel) rfl rfl (Nat.le_of_ble_eq_true rfl) d_B_put_30 (fun H locs hP hD hS => ?_)
    have hP : va_P D CL [(a_t, .inr (0, [.ref a_t_row, .int x3])), (a_t_row, .inl (k.1, t_row_n, .inl (upd t_row t_size.toNatClampNeg (vp_nar .byte v1.toInt8.toInt32))))] H := hP
    have hD : va_D A [(a_t, .inr (0, [.ref a_t_row, .int x3])), (a_t_row, .inl (k.1, t_row_n, .inl (upd t_row t_size.toNatClampNeg (vp_nar .byte v1.toInt8.toInt32))))] := hD
    exact ret2 _ _ (Option.some.inj h) d_B_put_33 hP hD hS

def rm_B_highestFirst : Room := { frames := 1, cells := 0, slots := 0, locals := 21 }
def f_B_highestFirst_l3 (t_row_n : Nat) (v1 : Int32) (t_size : Int32) (t_row : Nat → Int32) (v2 : Int32) : Option ((Int32 × (Nat → Int32) × Int32) ⊕ ((Int32 × (Nat → Int32)))) :=
  (if v2 < 0 then some (Sum.inr ((t_size, t_row))) else Option.bind (f_B_put t_row_n t_size t_row ((v1.toUInt32 >>> (v2.toUInt32 &&& Int32.toUInt32 31)).toInt32)) (fun o3 => bnd (v2 + (-8 : Int32)) (fun x4 => some (Sum.inl (o3.1, o3.2, x4)))))
def f_B_highestFirst (n : Nat) (t_row_n : Nat) (t_size : Int32) (t_row : Nat → Int32) (v1 : Int32) : Option (Int32 × (Nat → Int32)) :=
  Option.bind (lp (fun v => f_B_highestFirst_l3 t_row_n v1 v.1 v.2.1 v.2.2) n (t_size, t_row, (24 : Int32))) (fun o => some o)
set_option maxHeartbeats 4000000 in
set_option maxRecDepth 100000 in
theorem c_B_highestFirst (l : Launch) (D : va_G) (k : ClassId × ClassId × ClassId) (a_t a_t_row : Nat) (t_row_n : Nat) (t_size : Int32) (t_row : Nat → Int32) (v1 : Int32) (n : Nat) (out : Int32 × (Nat → Int32)) (h : f_B_highestFirst n t_row_n t_size t_row v1 = some out) : Ct l D k y_B_highestFirst b_B_highestFirst 3 none rm_B_highestFirst [.ref a_t, .int v1] [(a_t, .inr (0, [.ref a_t_row, .int t_size])), (a_t_row, .inl (k.1, t_row_n, .inl t_row))] [(a_t, .inr (0, [.ref a_t_row, .int out.1])), (a_t_row, .inl (k.1, t_row_n, .inl out.2))] none := by
  refine Ct.ofV (by decide) (Nat.le_of_ble_eq_true rfl) ?_
  intro p e s m args below meth c A Q ls hx hb hml hown hts hA hK hP hD hS hE hl ret
  have hown : s.vm.findClass "PageForm$Bytes" = some m.cls := hown
  have hl : lv_has ls 3 [(0, .ref a_t), (1, .int v1)] := hl
  have ret2 : ∀ (y0 : Int32) (y1 : Nat → Int32) (_ : (y0, y1) = out) {pc : Nat} {ls : Array Slot} {H : Heap} {locs : List Loc}, decode b_B_highestFirst pc = .ok (.return_, 1) → va_P D CL [(a_t, .inr (0, [.ref a_t_row, .int y0])), (a_t_row, .inl (k.1, t_row_n, .inl y1))] H → va_D A [(a_t, .inr (0, [.ref a_t_row, .int y0])), (a_t_row, .inl (k.1, t_row_n, .inl y1))] → va_S A s.heap H locs → W p l e rm_B_highestFirst s m args below meth c H locs 0 0 Q (F0 m pc ls []) := by
    intro y0 y1 e0; subst e0; exact ret
  clear ret
  have L3 : ∀ (K : Nat) (t_size : Int32) (t_row : Nat → Int32) (v2 : Int32) (o : (Int32 × (Nat → Int32))) (H : Heap) (locs : List Loc) (ls : Array Slot), va_P D CL [(a_t, .inr (0, [.ref a_t_row, .int t_size])), (a_t_row, .inl (k.1, t_row_n, .inl t_row))] H → va_D A [(a_t, .inr (0, [.ref a_t_row, .int t_size])), (a_t_row, .inl (k.1, t_row_n, .inl t_row))] → va_S A s.heap H locs → lv_has ls 3 [(0, .ref a_t), (1, .int v1), (2, .int v2)] → lp (fun v => f_B_highestFirst_l3 t_row_n v1 v.1 v.2.1 v.2.2) K (t_size, t_row, v2) = some o → (fun o => some o) o = some out → W p l e rm_B_highestFirst s m args below meth c H locs 0 0 Q (F0 m 3 ls []) := by
    intro K
    induction K with
    | zero => intros; exact absurd (by assumption) lp_no
    | succ K ih3 =>
      intro t_size t_row v2 o H locs ls hP hD hS hl h0 hx3
      obtain ⟨b3, h, hc3⟩ := lp_at h0
      have h : f_B_highestFirst_l3 t_row_n v1 t_size t_row v2 = some b3 := h
      unfold f_B_highestFirst_l3 at h
      refine lv_iload_n hx hb d_B_highestFirst_3 rfl (lv_at hl 2 rfl) ?_
      refine lv_if_lt (tgt := 20) hx hb d_B_highestFirst_4 (by decide) (fun c => ?_) (fun c => ?_)
      · have h := ift_at h c
        obtain rfl := lp_out h hc3
        exact ret2 _ _ (Option.some.inj hx3) d_B_highestFirst_20 hP hD hS
      · have h := iff_at h c
        refine lv_aload_n hx hb d_B_highestFirst_7 rfl (lv_at hl 0 rfl) ?_
        refine lv_iload_n hx hb d_B_highestFirst_8 rfl (lv_at hl 1 rfl) ?_
        refine lv_iload_n hx hb d_B_highestFirst_9 rfl (lv_at hl 2 rfl) ?_
        refine lv_iushr hx hb d_B_highestFirst_10 rfl ?_
        obtain ⟨o3, ho3, h⟩ := obd_at h
        refine g_V (As := [.int ((v1.toUInt32 >>> (v2.toUInt32 &&& Int32.toUInt32 31)).toInt32)]) (rest := []) hx hb hml hown hts hA hK hP hD hS hE (c_B_put l D k a_t a_t_row t_row_n t_size t_row ((v1.toUInt32 >>> (v2.toUInt32 &&& Int32.toUInt32 31)).toInt32) n o3 ho3) mw_B_put mi_B_put ml_B_19 [0, 1] rfl (by decide) rfl rfl rfl 0 rfl rfl rfl rfl rfl hl.1 rfl (Nat.le_of_ble_eq_true rfl) ⟨Nat.zero_le _, Nat.zero_le _⟩ d_B_highestFirst_11 (fun H locs hP hD hS => ?_)
        have hP : va_P D CL [(a_t, .inr (0, [.ref a_t_row, .int o3.1])), (a_t_row, .inl (k.1, t_row_n, .inl o3.2))] H := hP
        have hD : va_D A [(a_t, .inr (0, [.ref a_t_row, .int o3.1])), (a_t_row, .inl (k.1, t_row_n, .inl o3.2))] := hD
        refine W.eq (g2 := F0 m 14 ls []) rfl ?_
        obtain ⟨x4, ex4⟩ : ∃ z : Int32, z = v2 + (-8 : Int32) := ⟨_, rfl⟩
        have h := bnd_at h ex4
        refine lv_iinc (v := x4) (lv' := [(2, .int x4), (0, .ref a_t), (1, .int v1)]) hx hb d_B_highestFirst_14 hl (k := 2) rfl (by rw [ex4]; rfl) (by decide) rfl (fun ls hl => ?_)
        refine lv_goto (tgt := 3) hx hb d_B_highestFirst_17 (by decide) ?_
        have h := lp_go h hc3
        exact ih3 o3.1 o3.2 x4 o _ _ ls hP hD hS (lv_sub hl [1, 2, 0] rfl) h hx3
  unfold f_B_highestFirst at h
  refine lv_bipush (v := 24) hx hb d_B_highestFirst_0 (by decide) ?_
  refine lv_istore_n (lv' := [(2, .int (24 : Int32)), (0, .ref a_t), (1, .int v1)]) hx hb d_B_highestFirst_2 rfl hl (by decide) rfl (fun ls hl => ?_)
  obtain ⟨o10, ho10, h⟩ := obd_at h
  exact L3 n t_size t_row (24 : Int32) o10 _ _ ls hP hD hS (lv_sub hl [1, 2, 0] rfl) ho10 h

def rm_B_lowestFirst : Room := { frames := 1, cells := 0, slots := 0, locals := 21 }
def f_B_lowestFirst_l3 (t_row_n : Nat) (v1 : Int64) (v3 : Int32) (t_size : Int32) (t_row : Nat → Int32) (v4 : Int32) : Option ((Int32 × (Nat → Int32) × Int32) ⊕ ((Int32 × (Nat → Int32)))) :=
  (if v3 ≤ v4 then some (Sum.inr ((t_size, t_row))) else Option.bind (f_B_put t_row_n t_size t_row (((v1.toUInt64 >>> (((8 : Int32) * v4).toInt64.toUInt64 &&& Int64.toUInt64 63)).toInt64).toInt32)) (fun o3 => bnd (v4 + (1 : Int32)) (fun x4 => some (Sum.inl (o3.1, o3.2, x4)))))
def f_B_lowestFirst (n : Nat) (t_row_n : Nat) (t_size : Int32) (t_row : Nat → Int32) (v1 : Int64) (v3 : Int32) : Option (Int32 × (Nat → Int32)) :=
  Option.bind (lp (fun v => f_B_lowestFirst_l3 t_row_n v1 v3 v.1 v.2.1 v.2.2) n (t_size, t_row, (0 : Int32))) (fun o => some o)
set_option maxHeartbeats 4000000 in
set_option maxRecDepth 100000 in
theorem c_B_lowestFirst (l : Launch) (D : va_G) (k : ClassId × ClassId × ClassId) (a_t a_t_row : Nat) (t_row_n : Nat) (t_size : Int32) (t_row : Nat → Int32) (v1 : Int64) (v3 : Int32) (n : Nat) (out : Int32 × (Nat → Int32)) (h : f_B_lowestFirst n t_row_n t_size t_row v1 v3 = some out) : Ct l D k y_B_lowestFirst b_B_lowestFirst 5 none rm_B_lowestFirst [.ref a_t, .long v1, .int v3] [(a_t, .inr (0, [.ref a_t_row, .int t_size])), (a_t_row, .inl (k.1, t_row_n, .inl t_row))] [(a_t, .inr (0, [.ref a_t_row, .int out.1])), (a_t_row, .inl (k.1, t_row_n, .inl out.2))] none := by
  refine Ct.ofV (by decide) (Nat.le_of_ble_eq_true rfl) ?_
  intro p e s m args below meth c A Q ls hx hb hml hown hts hA hK hP hD hS hE hl ret
  have hown : s.vm.findClass "PageForm$Bytes" = some m.cls := hown
  have hl : lv_has ls 5 [(0, .ref a_t), (1, .long v1), (3, .int v3)] := hl
  have ret2 : ∀ (y0 : Int32) (y1 : Nat → Int32) (_ : (y0, y1) = out) {pc : Nat} {ls : Array Slot} {H : Heap} {locs : List Loc}, decode b_B_lowestFirst pc = .ok (.return_, 1) → va_P D CL [(a_t, .inr (0, [.ref a_t_row, .int y0])), (a_t_row, .inl (k.1, t_row_n, .inl y1))] H → va_D A [(a_t, .inr (0, [.ref a_t_row, .int y0])), (a_t_row, .inl (k.1, t_row_n, .inl y1))] → va_S A s.heap H locs → W p l e rm_B_lowestFirst s m args below meth c H locs 0 0 Q (F0 m pc ls []) := by
    intro y0 y1 e0; subst e0; exact ret
  clear ret
  have L3 : ∀ (K : Nat) (t_size : Int32) (t_row : Nat → Int32) (v4 : Int32) (o : (Int32 × (Nat → Int32))) (H : Heap) (locs : List Loc) (ls : Array Slot), va_P D CL [(a_t, .inr (0, [.ref a_t_row, .int t_size])), (a_t_row, .inl (k.1, t_row_n, .inl t_row))] H → va_D A [(a_t, .inr (0, [.ref a_t_row, .int t_size])), (a_t_row, .inl (k.1, t_row_n, .inl t_row))] → va_S A s.heap H locs → lv_has ls 5 [(0, .ref a_t), (1, .long v1), (3, .int v3), (4, .int v4)] → lp (fun v => f_B_lowestFirst_l3 t_row_n v1 v3 v.1 v.2.1 v.2.2) K (t_size, t_row, v4) = some o → (fun o => some o) o = some out → W p l e rm_B_lowestFirst s m args below meth c H locs 0 0 Q (F0 m 3 ls []) := by
    intro K
    induction K with
    | zero => intros; exact absurd (by assumption) lp_no
    | succ K ih3 =>
      intro t_size t_row v4 o H locs ls hP hD hS hl h0 hx3
      obtain ⟨b3, h, hc3⟩ := lp_at h0
      have h : f_B_lowestFirst_l3 t_row_n v1 v3 t_size t_row v4 = some b3 := h
      unfold f_B_lowestFirst_l3 at h
      refine lv_iload hx hb d_B_lowestFirst_3 (lv_at hl 3 rfl) ?_
      refine lv_iload_n hx hb d_B_lowestFirst_5 rfl (lv_at hl 2 rfl) ?_
      refine lv_icmp_ge (tgt := 27) hx hb d_B_lowestFirst_6 (by decide) (fun c => ?_) (fun c => ?_)
      · have h := ift_at h c
        obtain rfl := lp_out h hc3
        exact ret2 _ _ (Option.some.inj hx3) d_B_lowestFirst_27 hP hD hS
      · have h := iff_at h c
        refine lv_aload_n hx hb d_B_lowestFirst_9 rfl (lv_at hl 0 rfl) ?_
        refine lv_lload_n hx hb d_B_lowestFirst_10 rfl (lv_at hl 1 rfl) ?_
        refine lv_bipush (v := 8) hx hb d_B_lowestFirst_11 (by decide) ?_
        refine lv_iload hx hb d_B_lowestFirst_13 (lv_at hl 3 rfl) ?_
        refine lv_imul hx hb d_B_lowestFirst_15 ?_
        refine lv_lushr hx hb d_B_lowestFirst_16 rfl ?_
        refine lv_l2i hx hb d_B_lowestFirst_17 rfl ?_
        obtain ⟨o3, ho3, h⟩ := obd_at h
        refine g_V (As := [.int (((v1.toUInt64 >>> (((8 : Int32) * v4).toInt64.toUInt64 &&& Int64.toUInt64 63)).toInt64).toInt32)]) (rest := []) hx hb hml hown hts hA hK hP hD hS hE (c_B_put l D k a_t a_t_row t_row_n t_size t_row (((v1.toUInt64 >>> (((8 : Int32) * v4).toInt64.toUInt64 &&& Int64.toUInt64 63)).toInt64).toInt32) n o3 ho3) mw_B_put mi_B_put ml_B_19 [0, 1] rfl (by decide) rfl rfl rfl 0 rfl rfl rfl rfl rfl hl.1 rfl (Nat.le_of_ble_eq_true rfl) ⟨Nat.zero_le _, Nat.zero_le _⟩ d_B_lowestFirst_18 (fun H locs hP hD hS => ?_)
        have hP : va_P D CL [(a_t, .inr (0, [.ref a_t_row, .int o3.1])), (a_t_row, .inl (k.1, t_row_n, .inl o3.2))] H := hP
        have hD : va_D A [(a_t, .inr (0, [.ref a_t_row, .int o3.1])), (a_t_row, .inl (k.1, t_row_n, .inl o3.2))] := hD
        refine W.eq (g2 := F0 m 21 ls []) rfl ?_
        obtain ⟨x4, ex4⟩ : ∃ z : Int32, z = v4 + (1 : Int32) := ⟨_, rfl⟩
        have h := bnd_at h ex4
        refine lv_iinc (v := x4) (lv' := [(4, .int x4), (0, .ref a_t), (1, .long v1), (3, .int v3)]) hx hb d_B_lowestFirst_21 hl (k := 3) rfl (by rw [ex4]; rfl) (by decide) rfl (fun ls hl => ?_)
        refine lv_goto (tgt := 3) hx hb d_B_lowestFirst_24 (by decide) ?_
        have h := lp_go h hc3
        exact ih3 o3.1 o3.2 x4 o _ _ ls hP hD hS (lv_sub hl [1, 2, 3, 0] rfl) h hx3
  unfold f_B_lowestFirst at h
  refine lv_iconst (v := 0) hx hb d_B_lowestFirst_0 (by decide) ?_
  refine lv_istore (lv' := [(4, .int (0 : Int32)), (0, .ref a_t), (1, .long v1), (3, .int v3)]) hx hb d_B_lowestFirst_1 hl (by decide) rfl (fun ls hl => ?_)
  obtain ⟨o10, ho10, h⟩ := obd_at h
  exact L3 n t_size t_row (0 : Int32) o10 _ _ ls hP hD hS (lv_sub hl [1, 2, 3, 0] rfl) ho10 h

def rm_B_varint : Room := { frames := 1, cells := 0, slots := 0, locals := 21 }
def f_B_varint_j46 (t_row_n : Nat) (t_size : Int32) (t_row : Nat → Int32) (v3 : Int64) : Option (Int32 × (Nat → Int32)) :=
  Option.bind (f_B_put t_row_n t_size t_row v3.toInt32) (fun o3 => some (o3.1, o3.2))
def f_B_varint_l5 (t_row_n : Nat) (t_size : Int32) (t_row : Nat → Int32) (v3 : Int64) (v5 : Int32) : Option ((Int32 × (Nat → Int32) × Int64 × Int32) ⊕ ((Int32 × (Nat → Int32) × Int64 × Int32))) :=
  (if (9 : Int32) ≤ v5 then some (Sum.inr ((t_size, t_row, v3, v5))) else (if ((v3.toUInt64 >>> ((7 : Int32).toInt64.toUInt64 &&& Int64.toUInt64 63)).toInt64) = (0 : Int64) then some (Sum.inr ((t_size, t_row, v3, v5))) else Option.bind (f_B_put t_row_n t_size t_row ((v3 &&& (127 : Int64)).toInt32 ||| (128 : Int32))) (fun o7 => bnd ((v3.toUInt64 >>> ((7 : Int32).toInt64.toUInt64 &&& Int64.toUInt64 63)).toInt64) (fun x8 => bnd (v5 + (1 : Int32)) (fun x9 => some (Sum.inl (o7.1, o7.2, x8, x9)))))))
def f_B_varint (n : Nat) (t_row_n : Nat) (t_size : Int32) (t_row : Nat → Int32) (v1 : Int64) : Option (Int32 × (Nat → Int32)) :=
  Option.bind (lp (fun v => f_B_varint_l5 t_row_n v.1 v.2.1 v.2.2.1 v.2.2.2) n (t_size, t_row, v1, (0 : Int32))) (fun o => f_B_varint_j46 t_row_n o.1 o.2.1 o.2.2.1)
set_option maxHeartbeats 4000000 in
set_option maxRecDepth 100000 in
theorem c_B_varint (l : Launch) (D : va_G) (k : ClassId × ClassId × ClassId) (a_t a_t_row : Nat) (t_row_n : Nat) (t_size : Int32) (t_row : Nat → Int32) (v1 : Int64) (n : Nat) (out : Int32 × (Nat → Int32)) (h : f_B_varint n t_row_n t_size t_row v1 = some out) : Ct l D k y_B_varint b_B_varint 6 none rm_B_varint [.ref a_t, .long v1] [(a_t, .inr (0, [.ref a_t_row, .int t_size])), (a_t_row, .inl (k.1, t_row_n, .inl t_row))] [(a_t, .inr (0, [.ref a_t_row, .int out.1])), (a_t_row, .inl (k.1, t_row_n, .inl out.2))] none := by
  refine Ct.ofV (by decide) (Nat.le_of_ble_eq_true rfl) ?_
  intro p e s m args below meth c A Q ls hx hb hml hown hts hA hK hP hD hS hE hl ret
  have hown : s.vm.findClass "PageForm$Bytes" = some m.cls := hown
  have hl : lv_has ls 6 [(0, .ref a_t), (1, .long v1)] := hl
  have ret2 : ∀ (y0 : Int32) (y1 : Nat → Int32) (_ : (y0, y1) = out) {pc : Nat} {ls : Array Slot} {H : Heap} {locs : List Loc}, decode b_B_varint pc = .ok (.return_, 1) → va_P D CL [(a_t, .inr (0, [.ref a_t_row, .int y0])), (a_t_row, .inl (k.1, t_row_n, .inl y1))] H → va_D A [(a_t, .inr (0, [.ref a_t_row, .int y0])), (a_t_row, .inl (k.1, t_row_n, .inl y1))] → va_S A s.heap H locs → W p l e rm_B_varint s m args below meth c H locs 0 0 Q (F0 m pc ls []) := by
    intro y0 y1 e0; subst e0; exact ret
  clear ret
  have J46 : ∀ (t_size : Int32) (t_row : Nat → Int32) (v3 : Int64) (H : Heap) (locs : List Loc) (ls : Array Slot), va_P D CL [(a_t, .inr (0, [.ref a_t_row, .int t_size])), (a_t_row, .inl (k.1, t_row_n, .inl t_row))] H → va_D A [(a_t, .inr (0, [.ref a_t_row, .int t_size])), (a_t_row, .inl (k.1, t_row_n, .inl t_row))] → va_S A s.heap H locs → lv_has ls 6 [(0, .ref a_t), (3, .long v3)] → f_B_varint_j46 t_row_n t_size t_row v3 = some out → W p l e rm_B_varint s m args below meth c H locs 0 0 Q (F0 m 46 ls []) := by
    intro t_size t_row v3 H locs ls hP hD hS hl h
    unfold f_B_varint_j46 at h
    refine lv_aload_n hx hb d_B_varint_46 rfl (lv_at hl 0 rfl) ?_
    refine lv_lload_n hx hb d_B_varint_47 rfl (lv_at hl 1 rfl) ?_
    refine lv_l2i hx hb d_B_varint_48 rfl ?_
    obtain ⟨o3, ho3, h⟩ := obd_at h
    refine g_V (As := [.int v3.toInt32]) (rest := []) hx hb hml hown hts hA hK hP hD hS hE (c_B_put l D k a_t a_t_row t_row_n t_size t_row v3.toInt32 n o3 ho3) mw_B_put mi_B_put ml_B_19 [0, 1] rfl (by decide) rfl rfl rfl 0 rfl rfl rfl rfl rfl hl.1 rfl (Nat.le_of_ble_eq_true rfl) ⟨Nat.zero_le _, Nat.zero_le _⟩ d_B_varint_49 (fun H locs hP hD hS => ?_)
    have hP : va_P D CL [(a_t, .inr (0, [.ref a_t_row, .int o3.1])), (a_t_row, .inl (k.1, t_row_n, .inl o3.2))] H := hP
    have hD : va_D A [(a_t, .inr (0, [.ref a_t_row, .int o3.1])), (a_t_row, .inl (k.1, t_row_n, .inl o3.2))] := hD
    refine W.eq (g2 := F0 m 52 ls []) rfl ?_
    exact ret2 _ _ (Option.some.inj h) d_B_varint_52 hP hD hS
  have L5 : ∀ (K : Nat) (t_size : Int32) (t_row : Nat → Int32) (v3 : Int64) (v5 : Int32) (o : (Int32 × (Nat → Int32) × Int64 × Int32)) (H : Heap) (locs : List Loc) (ls : Array Slot), va_P D CL [(a_t, .inr (0, [.ref a_t_row, .int t_size])), (a_t_row, .inl (k.1, t_row_n, .inl t_row))] H → va_D A [(a_t, .inr (0, [.ref a_t_row, .int t_size])), (a_t_row, .inl (k.1, t_row_n, .inl t_row))] → va_S A s.heap H locs → lv_has ls 6 [(0, .ref a_t), (3, .long v3), (5, .int v5)] → lp (fun v => f_B_varint_l5 t_row_n v.1 v.2.1 v.2.2.1 v.2.2.2) K (t_size, t_row, v3, v5) = some o → (fun o => f_B_varint_j46 t_row_n o.1 o.2.1 o.2.2.1) o = some out → W p l e rm_B_varint s m args below meth c H locs 0 0 Q (F0 m 5 ls []) := by
    intro K
    induction K with
    | zero => intros; exact absurd (by assumption) lp_no
    | succ K ih5 =>
      intro t_size t_row v3 v5 o H locs ls hP hD hS hl h0 hx5
      obtain ⟨b5, h, hc5⟩ := lp_at h0
      have h : f_B_varint_l5 t_row_n t_size t_row v3 v5 = some b5 := h
      unfold f_B_varint_l5 at h
      refine lv_iload hx hb d_B_varint_5 (lv_at hl 2 rfl) ?_
      refine lv_bipush (v := 9) hx hb d_B_varint_7 (by decide) ?_
      refine lv_icmp_ge (tgt := 46) hx hb d_B_varint_9 (by decide) (fun c => ?_) (fun c => ?_)
      · have h := ift_at h c
        obtain rfl := lp_out h hc5
        exact J46 t_size t_row v3 _ _ ls hP hD hS (lv_sub hl [0, 1] rfl) hx5
      · have h := iff_at h c
        refine lv_lload_n hx hb d_B_varint_12 rfl (lv_at hl 1 rfl) ?_
        refine lv_bipush (v := 7) hx hb d_B_varint_13 (by decide) ?_
        refine lv_lushr hx hb d_B_varint_15 rfl ?_
        refine lv_lconst (v := 0) hx hb d_B_varint_16 (by decide) ?_
        refine W.lcmp hx hb d_B_varint_17 ?_
        refine lv_if_eq (tgt := 46) hx hb d_B_varint_18 (by decide) (fun c => ?_) (fun c => ?_)
        · have c := zc_eq.mp c
          have h := ift_at h c
          obtain rfl := lp_out h hc5
          exact J46 t_size t_row v3 _ _ ls hP hD hS (lv_sub hl [0, 1] rfl) hx5
        · have c := mt zc_eq.mpr c
          have h := iff_at h c
          refine lv_aload_n hx hb d_B_varint_21 rfl (lv_at hl 0 rfl) ?_
          refine lv_lload_n hx hb d_B_varint_22 rfl (lv_at hl 1 rfl) ?_
          refine lv_ldc2 (v := 127) hx hb hown (hts _ kc_B_23) d_B_varint_23 ?_
          refine lv_land hx hb d_B_varint_26 ?_
          refine lv_l2i hx hb d_B_varint_27 rfl ?_
          refine lv_sipush (v := 128) hx hb d_B_varint_28 (by decide) ?_
          refine lv_ior hx hb d_B_varint_31 ?_
          obtain ⟨o7, ho7, h⟩ := obd_at h
          refine g_V (As := [.int ((v3 &&& (127 : Int64)).toInt32 ||| (128 : Int32))]) (rest := []) hx hb hml hown hts hA hK hP hD hS hE (c_B_put l D k a_t a_t_row t_row_n t_size t_row ((v3 &&& (127 : Int64)).toInt32 ||| (128 : Int32)) n o7 ho7) mw_B_put mi_B_put ml_B_19 [0, 1] rfl (by decide) rfl rfl rfl 0 rfl rfl rfl rfl rfl hl.1 rfl (Nat.le_of_ble_eq_true rfl) ⟨Nat.zero_le _, Nat.zero_le _⟩ d_B_varint_32 (fun H locs hP hD hS => ?_)
          have hP : va_P D CL [(a_t, .inr (0, [.ref a_t_row, .int o7.1])), (a_t_row, .inl (k.1, t_row_n, .inl o7.2))] H := hP
          have hD : va_D A [(a_t, .inr (0, [.ref a_t_row, .int o7.1])), (a_t_row, .inl (k.1, t_row_n, .inl o7.2))] := hD
          refine W.eq (g2 := F0 m 35 ls []) rfl ?_
          refine lv_lload_n hx hb d_B_varint_35 rfl (lv_at hl 1 rfl) ?_
          refine lv_bipush (v := 7) hx hb d_B_varint_36 (by decide) ?_
          refine lv_lushr hx hb d_B_varint_38 rfl ?_
          refine lv_topl (fun x8 ex8 => ?_)
          have h := bnd_at h ex8
          refine lv_lstore_n (lv' := [(3, .long x8), (0, .ref a_t), (5, .int v5)]) hx hb d_B_varint_39 rfl hl (by decide) rfl (fun ls hl => ?_)
          obtain ⟨x9, ex9⟩ : ∃ z : Int32, z = v5 + (1 : Int32) := ⟨_, rfl⟩
          have h := bnd_at h ex9
          refine lv_iinc (v := x9) (lv' := [(5, .int x9), (3, .long x8), (0, .ref a_t)]) hx hb d_B_varint_40 hl (k := 2) rfl (by rw [ex9]; rfl) (by decide) rfl (fun ls hl => ?_)
          refine lv_goto (tgt := 5) hx hb d_B_varint_43 (by decide) ?_
          have h := lp_go h hc5
          exact ih5 o7.1 o7.2 x8 x9 o _ _ ls hP hD hS (lv_sub hl [2, 1, 0] rfl) h hx5
  unfold f_B_varint at h
  refine lv_lload_n hx hb d_B_varint_0 rfl (lv_at hl 1 rfl) ?_
  refine lv_lstore_n (lv' := [(3, .long v1), (0, .ref a_t), (1, .long v1)]) hx hb d_B_varint_1 rfl hl (by decide) rfl (fun ls hl => ?_)
  refine lv_iconst (v := 0) hx hb d_B_varint_2 (by decide) ?_
  refine lv_istore (lv' := [(5, .int (0 : Int32)), (3, .long v1), (0, .ref a_t), (1, .long v1)]) hx hb d_B_varint_3 hl (by decide) rfl (fun ls hl => ?_)
  obtain ⟨o15, ho15, h⟩ := obd_at h
  exact L5 n t_size t_row v1 (0 : Int32) o15 _ _ ls hP hD hS (lv_sub hl [2, 1, 0] rfl) ho15 h

def rm_B_append : Room := { frames := 1, cells := 0, slots := 0, locals := 40 }
def f_B_append (t_row_n : Nat) (p1_n : Nat) (t_size : Int32) (t_row : Nat → Int32) (p1 : Nat → Int32) (v2 : Int32) (v3 : Int32) : Option (Int32 × (Nat → Int32)) :=
  (if v2 < 0 then some (t_size, t_row) else (if v3 < 0 then some (t_size, t_row) else (if (nI p1_n - v2) < v3 then some (t_size, t_row) else (if v3 ≤ (nI t_row_n - t_size) then gd (cpB p1 p1_n t_row_n v2 t_size v3) (bnd (t_size + v3) (fun x3 => some (x3, va_cpy p1 t_row v2.toNatClampNeg t_size.toNatClampNeg v3.toNatClampNeg))) else some (t_size, t_row)))))
set_option maxHeartbeats 4000000 in
set_option maxRecDepth 100000 in
theorem c_B_append (l : Launch) (D : va_G) (k : ClassId × ClassId × ClassId) (a_t a_t_row a_p1 : Nat) (t_row_n p1_n : Nat) (t_size : Int32) (t_row : Nat → Int32) (p1 : Nat → Int32) (v2 : Int32) (v3 : Int32) (n : Nat) (out : Int32 × (Nat → Int32)) (h : f_B_append t_row_n p1_n t_size t_row p1 v2 v3 = some out) : Ct l D k y_B_append b_B_append 4 none rm_B_append [.ref a_t, .ref a_p1, .int v2, .int v3] [(a_t, .inr (0, [.ref a_t_row, .int t_size])), (a_t_row, .inl (k.1, t_row_n, .inl t_row)), (a_p1, .inl (k.1, p1_n, .inl p1))] [(a_t, .inr (0, [.ref a_t_row, .int out.1])), (a_t_row, .inl (k.1, t_row_n, .inl out.2)), (a_p1, .inl (k.1, p1_n, .inl p1))] none := by
  refine Ct.ofV (by decide) (Nat.le_of_ble_eq_true rfl) ?_
  intro p e s m args below meth c A Q ls hx hb hml hown hts hA hK hP hD hS hE hl ret
  have hown : s.vm.findClass "PageForm$Bytes" = some m.cls := hown
  have hl : lv_has ls 4 [(0, .ref a_t), (1, .ref a_p1), (2, .int v2), (3, .int v3)] := hl
  have ret2 : ∀ (y0 : Int32) (y1 : Nat → Int32) (_ : (y0, y1) = out) {pc : Nat} {ls : Array Slot} {H : Heap} {locs : List Loc}, decode b_B_append pc = .ok (.return_, 1) → va_P D CL [(a_t, .inr (0, [.ref a_t_row, .int y0])), (a_t_row, .inl (k.1, t_row_n, .inl y1)), (a_p1, .inl (k.1, p1_n, .inl p1))] H → va_D A [(a_t, .inr (0, [.ref a_t_row, .int y0])), (a_t_row, .inl (k.1, t_row_n, .inl y1)), (a_p1, .inl (k.1, p1_n, .inl p1))] → va_S A s.heap H locs → W p l e rm_B_append s m args below meth c H locs 0 0 Q (F0 m pc ls []) := by
    intro y0 y1 e0; subst e0; exact ret
  clear ret
  unfold f_B_append at h
  refine lv_iload_n hx hb d_B_append_0 rfl (lv_at hl 2 rfl) ?_
  refine lv_if_lt (tgt := 30) hx hb d_B_append_1 (by decide) (fun c => ?_) (fun c => ?_)
  · have h := ift_at h c
    exact ret2 _ _ (Option.some.inj h) d_B_append_30 hP hD hS
  · have h := iff_at h c
    refine lv_iload_n hx hb d_B_append_4 rfl (lv_at hl 3 rfl) ?_
    refine lv_if_lt (tgt := 30) hx hb d_B_append_5 (by decide) (fun c => ?_) (fun c => ?_)
    · have h := ift_at h c
      exact ret2 _ _ (Option.some.inj h) d_B_append_30 hP hD hS
    · have h := iff_at h c
      refine lv_iload_n hx hb d_B_append_8 rfl (lv_at hl 3 rfl) ?_
      refine lv_aload_n hx hb d_B_append_9 rfl (lv_at hl 1 rfl) ?_
      refine va_alen hx hb hK hP 2 0 rfl rfl (v := nI p1_n) rfl d_B_append_10 ?_
      refine lv_iload_n hx hb d_B_append_11 rfl (lv_at hl 2 rfl) ?_
      refine lv_isub hx hb d_B_append_12 ?_
      refine lv_icmp_gt (tgt := 30) hx hb d_B_append_13 (by decide) (fun c => ?_) (fun c => ?_)
      · have h := ift_at h c
        exact ret2 _ _ (Option.some.inj h) d_B_append_30 hP hD hS
      · have h := iff_at h c
        refine lv_iload_n hx hb d_B_append_16 rfl (lv_at hl 3 rfl) ?_
        refine lv_aload_n hx hb d_B_append_17 rfl (lv_at hl 0 rfl) ?_
        refine va_get (D := D) (ci := 0) (v := .ref a_t_row) (C := "PageForm$Bytes") (T := F_B) (N := 2) hx hb hts in_B hown hK hP 0 rfl rfl 0 (by decide) (hts _ fl_B_9) (fun _ h9 => h9) rfl d_B_append_18 ?_
        refine va_alen hx hb hK hP 1 0 rfl rfl (v := nI t_row_n) rfl d_B_append_21 ?_
        refine lv_aload_n hx hb d_B_append_22 rfl (lv_at hl 0 rfl) ?_
        refine va_get (D := D) (ci := 0) (v := .int t_size) (C := "PageForm$Bytes") (T := F_B) (N := 2) hx hb hts in_B hown hK hP 0 rfl rfl 1 (by decide) (hts _ fl_B_15) (fun _ h9 => h9) rfl d_B_append_23 ?_
        refine lv_isub hx hb d_B_append_26 ?_
        refine lv_icmp_le (tgt := 31) hx hb d_B_append_27 (by decide) (fun c => ?_) (fun c => ?_)
        · have h := ift_at h c
          refine lv_aload_n hx hb d_B_append_31 rfl (lv_at hl 1 rfl) ?_
          refine lv_iload_n hx hb d_B_append_32 rfl (lv_at hl 2 rfl) ?_
          refine lv_aload_n hx hb d_B_append_33 rfl (lv_at hl 0 rfl) ?_
          refine va_get (D := D) (ci := 0) (v := .ref a_t_row) (C := "PageForm$Bytes") (T := F_B) (N := 2) hx hb hts in_B hown hK hP 0 rfl rfl 0 (by decide) (hts _ fl_B_9) (fun _ h9 => h9) rfl d_B_append_34 ?_
          refine lv_aload_n hx hb d_B_append_37 rfl (lv_at hl 0 rfl) ?_
          refine va_get (D := D) (ci := 0) (v := .int t_size) (C := "PageForm$Bytes") (T := F_B) (N := 2) hx hb hts in_B hown hK hP 0 rfl rfl 1 (by decide) (hts _ fl_B_15) (fun _ h9 => h9) rfl d_B_append_38 ?_
          refine lv_iload_n hx hb d_B_append_41 rfl (lv_at hl 3 rfl) ?_
          obtain ⟨g2, h⟩ := gd_at h
          obtain ⟨g21, g22, g23, g24, g25, g26⟩ := cpB_c g2
          refine va_copyi hx hb (hml.trans hl.1.symm) hown (hts _ ml_B_25) (hts _ nat_copy) (hts _ st_copy) (hts _ ini_JS) hK hP hD hS 2 1 0 0 rfl rfl rfl rfl rfl g21 g22 g23 g24 g25 g26 (Nat.le_of_ble_eq_true rfl) (Nat.le_of_ble_eq_true rfl) d_B_append_42 (fun H locs hP hD hS => ?_)
          have hP : va_P D CL [(a_t, .inr (0, [.ref a_t_row, .int t_size])), (a_t_row, .inl (k.1, t_row_n, .inl (va_cpy p1 t_row v2.toNatClampNeg t_size.toNatClampNeg v3.toNatClampNeg))), (a_p1, .inl (k.1, p1_n, .inl p1))] H := hP
          have hD : va_D A [(a_t, .inr (0, [.ref a_t_row, .int t_size])), (a_t_row, .inl (k.1, t_row_n, .inl (va_cpy p1 t_row v2.toNatClampNeg t_size.toNatClampNeg v3.toNatClampNeg))), (a_p1, .inl (k.1, p1_n, .inl p1))] := hD
          refine lv_aload_n hx hb d_B_append_45 rfl (lv_at hl 0 rfl) ?_
          refine lv_dup hx hb d_B_append_46 rfl ?_
          refine va_get (D := D) (ci := 0) (v := .int t_size) (C := "PageForm$Bytes") (T := F_B) (N := 2) hx hb hts in_B hown hK hP 0 rfl rfl 1 (by decide) (hts _ fl_B_15) (fun _ h9 => h9) rfl d_B_append_47 ?_
          refine lv_iload_n hx hb d_B_append_50 rfl (lv_at hl 3 rfl) ?_
          refine lv_iadd hx hb d_B_append_51 ?_
          refine lv_topi (fun x3 ex3 => ?_)
          have h := bnd_at h ex3
          refine va_put (D := D) (ci := 0) (v := .int x3) (ty := .int) (C := "PageForm$Bytes") (T := F_B) (N := 2) hx hb hts in_B t_B t_B_ok n_B hown hK hP hD hS 0 rfl rfl 1 (by decide) (hts _ fl_B_15) (fun _ h9 => h9) rfl (by decide +kernel) rfl rfl (Nat.le_of_ble_eq_true rfl) d_B_append_52 (fun H locs hP hD hS => ?_)
          have hP : va_P D CL [(a_t, .inr (0, [.ref a_t_row, .int x3])), (a_t_row, .inl (k.1, t_row_n, .inl (va_cpy p1 t_row v2.toNatClampNeg t_size.toNatClampNeg v3.toNatClampNeg))), (a_p1, .inl (k.1, p1_n, .inl p1))] H := hP
          have hD : va_D A [(a_t, .inr (0, [.ref a_t_row, .int x3])), (a_t_row, .inl (k.1, t_row_n, .inl (va_cpy p1 t_row v2.toNatClampNeg t_size.toNatClampNeg v3.toNatClampNeg))), (a_p1, .inl (k.1, p1_n, .inl p1))] := hD
          exact ret2 _ _ (Option.some.inj h) d_B_append_55 hP hD hS
        · have h := iff_at h c
          exact ret2 _ _ (Option.some.inj h) d_B_append_30 hP hD hS

def rm_B_sized : Room := { frames := 2, cells := 0, slots := 0, locals := 63 }
def f_B_sized (n : Nat) (t_row_n : Nat) (p1_row_n : Nat) (t_size : Int32) (t_row : Nat → Int32) (p1_size : Int32) (p1_row : Nat → Int32) : Option (Int32 × (Nat → Int32)) :=
  Option.bind (f_B_varint n t_row_n t_size t_row p1_size.toInt64) (fun o3 => Option.bind (f_B_append t_row_n p1_row_n o3.1 o3.2 p1_row (0 : Int32) p1_size) (fun o4 => some (o4.1, o4.2)))
set_option maxHeartbeats 4000000 in
set_option maxRecDepth 100000 in
theorem c_B_sized (l : Launch) (D : va_G) (k : ClassId × ClassId × ClassId) (a_t a_t_row a_p1 a_p1_row : Nat) (t_row_n p1_row_n : Nat) (t_size : Int32) (t_row : Nat → Int32) (p1_size : Int32) (p1_row : Nat → Int32) (n : Nat) (out : Int32 × (Nat → Int32)) (h : f_B_sized n t_row_n p1_row_n t_size t_row p1_size p1_row = some out) : Ct l D k y_B_sized b_B_sized 2 none rm_B_sized [.ref a_t, .ref a_p1] [(a_t, .inr (0, [.ref a_t_row, .int t_size])), (a_t_row, .inl (k.1, t_row_n, .inl t_row)), (a_p1, .inr (0, [.ref a_p1_row, .int p1_size])), (a_p1_row, .inl (k.1, p1_row_n, .inl p1_row))] [(a_t, .inr (0, [.ref a_t_row, .int out.1])), (a_t_row, .inl (k.1, t_row_n, .inl out.2)), (a_p1, .inr (0, [.ref a_p1_row, .int p1_size])), (a_p1_row, .inl (k.1, p1_row_n, .inl p1_row))] none := by
  refine Ct.ofV (by decide) (Nat.le_of_ble_eq_true rfl) ?_
  intro p e s m args below meth c A Q ls hx hb hml hown hts hA hK hP hD hS hE hl ret
  have hown : s.vm.findClass "PageForm$Bytes" = some m.cls := hown
  have hl : lv_has ls 2 [(0, .ref a_t), (1, .ref a_p1)] := hl
  have ret2 : ∀ (y0 : Int32) (y1 : Nat → Int32) (_ : (y0, y1) = out) {pc : Nat} {ls : Array Slot} {H : Heap} {locs : List Loc}, decode b_B_sized pc = .ok (.return_, 1) → va_P D CL [(a_t, .inr (0, [.ref a_t_row, .int y0])), (a_t_row, .inl (k.1, t_row_n, .inl y1)), (a_p1, .inr (0, [.ref a_p1_row, .int p1_size])), (a_p1_row, .inl (k.1, p1_row_n, .inl p1_row))] H → va_D A [(a_t, .inr (0, [.ref a_t_row, .int y0])), (a_t_row, .inl (k.1, t_row_n, .inl y1)), (a_p1, .inr (0, [.ref a_p1_row, .int p1_size])), (a_p1_row, .inl (k.1, p1_row_n, .inl p1_row))] → va_S A s.heap H locs → W p l e rm_B_sized s m args below meth c H locs 0 0 Q (F0 m pc ls []) := by
    intro y0 y1 e0; subst e0; exact ret
  clear ret
  unfold f_B_sized at h
  refine lv_aload_n hx hb d_B_sized_0 rfl (lv_at hl 0 rfl) ?_
  refine lv_aload_n hx hb d_B_sized_1 rfl (lv_at hl 1 rfl) ?_
  refine va_get (D := D) (ci := 0) (v := .int p1_size) (C := "PageForm$Bytes") (T := F_B) (N := 2) hx hb hts in_B hown hK hP 2 rfl rfl 1 (by decide) (hts _ fl_B_15) (fun _ h9 => h9) rfl d_B_sized_2 ?_
  refine lv_i2l hx hb d_B_sized_5 rfl ?_
  obtain ⟨o3, ho3, h⟩ := obd_at h
  refine g_V (As := [.long p1_size.toInt64]) (rest := []) hx hb hml hown hts hA hK hP hD hS hE (c_B_varint l D k a_t a_t_row t_row_n t_size t_row p1_size.toInt64 n o3 ho3) mw_B_varint mi_B_varint ml_B_31 [0, 1] rfl (by decide) rfl rfl rfl 0 rfl rfl rfl rfl rfl hl.1 rfl (Nat.le_of_ble_eq_true rfl) ⟨Nat.zero_le _, Nat.zero_le _⟩ d_B_sized_6 (fun H locs hP hD hS => ?_)
  have hP : va_P D CL [(a_t, .inr (0, [.ref a_t_row, .int o3.1])), (a_t_row, .inl (k.1, t_row_n, .inl o3.2)), (a_p1, .inr (0, [.ref a_p1_row, .int p1_size])), (a_p1_row, .inl (k.1, p1_row_n, .inl p1_row))] H := hP
  have hD : va_D A [(a_t, .inr (0, [.ref a_t_row, .int o3.1])), (a_t_row, .inl (k.1, t_row_n, .inl o3.2)), (a_p1, .inr (0, [.ref a_p1_row, .int p1_size])), (a_p1_row, .inl (k.1, p1_row_n, .inl p1_row))] := hD
  refine W.eq (g2 := F0 m 9 ls []) rfl ?_
  refine lv_aload_n hx hb d_B_sized_9 rfl (lv_at hl 0 rfl) ?_
  refine lv_aload_n hx hb d_B_sized_10 rfl (lv_at hl 1 rfl) ?_
  refine va_get (D := D) (ci := 0) (v := .ref a_p1_row) (C := "PageForm$Bytes") (T := F_B) (N := 2) hx hb hts in_B hown hK hP 2 rfl rfl 0 (by decide) (hts _ fl_B_9) (fun _ h9 => h9) rfl d_B_sized_11 ?_
  refine lv_iconst (v := 0) hx hb d_B_sized_14 (by decide) ?_
  refine lv_aload_n hx hb d_B_sized_15 rfl (lv_at hl 1 rfl) ?_
  refine va_get (D := D) (ci := 0) (v := .int p1_size) (C := "PageForm$Bytes") (T := F_B) (N := 2) hx hb hts in_B hown hK hP 2 rfl rfl 1 (by decide) (hts _ fl_B_15) (fun _ h9 => h9) rfl d_B_sized_16 ?_
  obtain ⟨o4, ho4, h⟩ := obd_at h
  refine g_V (As := [.ref a_p1_row, .int (0 : Int32), .int p1_size]) (rest := []) hx hb hml hown hts hA hK hP hD hS hE (c_B_append l D k a_t a_t_row a_p1_row t_row_n p1_row_n o3.1 o3.2 p1_row (0 : Int32) p1_size n o4 ho4) mw_B_append mi_B_append ml_B_35 [0, 1, 3] rfl (by decide) rfl rfl rfl 0 rfl rfl rfl rfl rfl hl.1 rfl (Nat.le_of_ble_eq_true rfl) ⟨Nat.zero_le _, Nat.zero_le _⟩ d_B_sized_19 (fun H locs hP hD hS => ?_)
  have hP : va_P D CL [(a_t, .inr (0, [.ref a_t_row, .int o4.1])), (a_t_row, .inl (k.1, t_row_n, .inl o4.2)), (a_p1, .inr (0, [.ref a_p1_row, .int p1_size])), (a_p1_row, .inl (k.1, p1_row_n, .inl p1_row))] H := hP
  have hD : va_D A [(a_t, .inr (0, [.ref a_t_row, .int o4.1])), (a_t_row, .inl (k.1, t_row_n, .inl o4.2)), (a_p1, .inr (0, [.ref a_p1_row, .int p1_size])), (a_p1_row, .inl (k.1, p1_row_n, .inl p1_row))] := hD
  refine W.eq (g2 := F0 m 22 ls []) rfl ?_
  exact ret2 _ _ (Option.some.inj h) d_B_sized_22 hP hD hS

def rm_B_zeros : Room := { frames := 2, cells := 0, slots := 0, locals := 46 }
def f_B_zeros (n : Nat) (t_row_n : Nat) (t_size : Int32) (t_row : Nat → Int32) (v1 : Int32) : Option (Int32 × (Nat → Int32)) :=
  (if v1 < 0 then some (t_size, t_row) else (if v1 ≤ (nI t_row_n - t_size) then Option.bind (f_JA_fill_aBIIB n t_row_n t_row t_size (t_size + v1) (0 : Int32)) (fun o2 => bnd (t_size + v1) (fun x3 => some (x3, o2))) else some (t_size, t_row)))
set_option maxHeartbeats 4000000 in
set_option maxRecDepth 100000 in
theorem c_B_zeros (l : Launch) (D : va_G) (k : ClassId × ClassId × ClassId) (a_t a_t_row : Nat) (t_row_n : Nat) (t_size : Int32) (t_row : Nat → Int32) (v1 : Int32) (n : Nat) (out : Int32 × (Nat → Int32)) (h : f_B_zeros n t_row_n t_size t_row v1 = some out) : Ct l D k y_B_zeros b_B_zeros 2 none rm_B_zeros [.ref a_t, .int v1] [(a_t, .inr (0, [.ref a_t_row, .int t_size])), (a_t_row, .inl (k.1, t_row_n, .inl t_row))] [(a_t, .inr (0, [.ref a_t_row, .int out.1])), (a_t_row, .inl (k.1, t_row_n, .inl out.2))] none := by
  refine Ct.ofV (by decide) (Nat.le_of_ble_eq_true rfl) ?_
  intro p e s m args below meth c A Q ls hx hb hml hown hts hA hK hP hD hS hE hl ret
  have hown : s.vm.findClass "PageForm$Bytes" = some m.cls := hown
  have hl : lv_has ls 2 [(0, .ref a_t), (1, .int v1)] := hl
  have ret2 : ∀ (y0 : Int32) (y1 : Nat → Int32) (_ : (y0, y1) = out) {pc : Nat} {ls : Array Slot} {H : Heap} {locs : List Loc}, decode b_B_zeros pc = .ok (.return_, 1) → va_P D CL [(a_t, .inr (0, [.ref a_t_row, .int y0])), (a_t_row, .inl (k.1, t_row_n, .inl y1))] H → va_D A [(a_t, .inr (0, [.ref a_t_row, .int y0])), (a_t_row, .inl (k.1, t_row_n, .inl y1))] → va_S A s.heap H locs → W p l e rm_B_zeros s m args below meth c H locs 0 0 Q (F0 m pc ls []) := by
    intro y0 y1 e0; subst e0; exact ret
  clear ret
  unfold f_B_zeros at h
  refine lv_iload_n hx hb d_B_zeros_0 rfl (lv_at hl 1 rfl) ?_
  refine lv_if_lt (tgt := 18) hx hb d_B_zeros_1 (by decide) (fun c => ?_) (fun c => ?_)
  · have h := ift_at h c
    exact ret2 _ _ (Option.some.inj h) d_B_zeros_18 hP hD hS
  · have h := iff_at h c
    refine lv_iload_n hx hb d_B_zeros_4 rfl (lv_at hl 1 rfl) ?_
    refine lv_aload_n hx hb d_B_zeros_5 rfl (lv_at hl 0 rfl) ?_
    refine va_get (D := D) (ci := 0) (v := .ref a_t_row) (C := "PageForm$Bytes") (T := F_B) (N := 2) hx hb hts in_B hown hK hP 0 rfl rfl 0 (by decide) (hts _ fl_B_9) (fun _ h9 => h9) rfl d_B_zeros_6 ?_
    refine va_alen hx hb hK hP 1 0 rfl rfl (v := nI t_row_n) rfl d_B_zeros_9 ?_
    refine lv_aload_n hx hb d_B_zeros_10 rfl (lv_at hl 0 rfl) ?_
    refine va_get (D := D) (ci := 0) (v := .int t_size) (C := "PageForm$Bytes") (T := F_B) (N := 2) hx hb hts in_B hown hK hP 0 rfl rfl 1 (by decide) (hts _ fl_B_15) (fun _ h9 => h9) rfl d_B_zeros_11 ?_
    refine lv_isub hx hb d_B_zeros_14 ?_
    refine lv_icmp_le (tgt := 19) hx hb d_B_zeros_15 (by decide) (fun c => ?_) (fun c => ?_)
    · have h := ift_at h c
      refine lv_aload_n hx hb d_B_zeros_19 rfl (lv_at hl 0 rfl) ?_
      refine va_get (D := D) (ci := 0) (v := .ref a_t_row) (C := "PageForm$Bytes") (T := F_B) (N := 2) hx hb hts in_B hown hK hP 0 rfl rfl 0 (by decide) (hts _ fl_B_9) (fun _ h9 => h9) rfl d_B_zeros_20 ?_
      refine lv_aload_n hx hb d_B_zeros_23 rfl (lv_at hl 0 rfl) ?_
      refine va_get (D := D) (ci := 0) (v := .int t_size) (C := "PageForm$Bytes") (T := F_B) (N := 2) hx hb hts in_B hown hK hP 0 rfl rfl 1 (by decide) (hts _ fl_B_15) (fun _ h9 => h9) rfl d_B_zeros_24 ?_
      refine lv_aload_n hx hb d_B_zeros_27 rfl (lv_at hl 0 rfl) ?_
      refine va_get (D := D) (ci := 0) (v := .int t_size) (C := "PageForm$Bytes") (T := F_B) (N := 2) hx hb hts in_B hown hK hP 0 rfl rfl 1 (by decide) (hts _ fl_B_15) (fun _ h9 => h9) rfl d_B_zeros_28 ?_
      refine lv_iload_n hx hb d_B_zeros_31 rfl (lv_at hl 1 rfl) ?_
      refine lv_iadd hx hb d_B_zeros_32 ?_
      refine lv_iconst (v := 0) hx hb d_B_zeros_33 (by decide) ?_
      obtain ⟨o2, ho2, h⟩ := obd_at h
      refine g_S (As := [.ref a_t_row, .int t_size, .int (t_size + v1), .int (0 : Int32)]) (rest := []) hx hb hml hown hts hA hK hP hD hS hE (c_JA_fill_aBIIB l D k a_t_row t_row_n t_row t_size (t_size + v1) (0 : Int32) n o2 ho2) mw_JA_fill_aBIIB ms_JA_fill_aBIIB ml_B_39 [1] rfl (by decide) rfl rfl rfl rfl rfl hl.1 rfl (Nat.le_of_ble_eq_true rfl) ⟨Nat.zero_le _, Nat.zero_le _⟩ d_B_zeros_34 (fun H locs hP hD hS => ?_)
      have hP : va_P D CL [(a_t, .inr (0, [.ref a_t_row, .int t_size])), (a_t_row, .inl (k.1, t_row_n, .inl o2))] H := hP
      have hD : va_D A [(a_t, .inr (0, [.ref a_t_row, .int t_size])), (a_t_row, .inl (k.1, t_row_n, .inl o2))] := hD
      refine W.eq (g2 := F0 m 37 ls []) rfl ?_
      refine lv_aload_n hx hb d_B_zeros_37 rfl (lv_at hl 0 rfl) ?_
      refine lv_dup hx hb d_B_zeros_38 rfl ?_
      refine va_get (D := D) (ci := 0) (v := .int t_size) (C := "PageForm$Bytes") (T := F_B) (N := 2) hx hb hts in_B hown hK hP 0 rfl rfl 1 (by decide) (hts _ fl_B_15) (fun _ h9 => h9) rfl d_B_zeros_39 ?_
      refine lv_iload_n hx hb d_B_zeros_42 rfl (lv_at hl 1 rfl) ?_
      refine lv_iadd hx hb d_B_zeros_43 ?_
      refine lv_topi (fun x3 ex3 => ?_)
      have h := bnd_at h ex3
      refine va_put (D := D) (ci := 0) (v := .int x3) (ty := .int) (C := "PageForm$Bytes") (T := F_B) (N := 2) hx hb hts in_B t_B t_B_ok n_B hown hK hP hD hS 0 rfl rfl 1 (by decide) (hts _ fl_B_15) (fun _ h9 => h9) rfl (by decide +kernel) rfl rfl (Nat.le_of_ble_eq_true rfl) d_B_zeros_44 (fun H locs hP hD hS => ?_)
      have hP : va_P D CL [(a_t, .inr (0, [.ref a_t_row, .int x3])), (a_t_row, .inl (k.1, t_row_n, .inl o2))] H := hP
      have hD : va_D A [(a_t, .inr (0, [.ref a_t_row, .int x3])), (a_t_row, .inl (k.1, t_row_n, .inl o2))] := hD
      exact ret2 _ _ (Option.some.inj h) d_B_zeros_47 hP hD hS
    · have h := iff_at h c
      exact ret2 _ _ (Option.some.inj h) d_B_zeros_18 hP hD hS

def rm_B_setBits : Room := { frames := 0, cells := 0, slots := 0, locals := 0 }
def f_B_setBits_l8 (t_row_n : Nat) (t_size : Int32) (v1 : Int32) (v2 : Int64) (v4 : Int32) (t_row : Nat → Int32) (v5 : Int32) (v6 : Int32) : Option (((Nat → Int32) × Int32 × Int32) ⊕ (((Nat → Int32)))) :=
  (if v4 ≤ v5 then some (Sum.inr (t_row)) else (if t_size ≤ v6 then some (Sum.inr (t_row)) else bnd ((v1 + v5) &&& (7 : Int32)) (fun x5 => gd (inB v6 t_row_n) (bnd ((t_row v6.toNatClampNeg) ||| (((v2.toUInt64 >>> (v5.toInt64.toUInt64 &&& Int64.toUInt64 63)).toInt64 <<< (x5.toInt64 &&& 63)).toInt32).toInt8.toInt32) (fun x7 => gd (inB v6 t_row_n) (bnd (v5 + ((8 : Int32) - x5)) (fun x9 => bnd (v6 + (1 : Int32)) (fun x10 => some (Sum.inl (upd t_row v6.toNatClampNeg (vp_nar .byte x7.toInt8.toInt32), x9, x10))))))))))
def f_B_setBits (n : Nat) (t_row_n : Nat) (t_size : Int32) (t_row : Nat → Int32) (v1 : Int32) (v2 : Int64) (v4 : Int32) : Option ((Nat → Int32)) :=
  bnd (v1 >>> ((3 : Int32) &&& 31)) (fun x21 => Option.bind (lp (fun v => f_B_setBits_l8 t_row_n t_size v1 v2 v4 v.1 v.2.1 v.2.2) n (t_row, (0 : Int32), x21)) (fun o => some o))
set_option maxHeartbeats 4000000 in
set_option maxRecDepth 100000 in
theorem c_B_setBits (l : Launch) (D : va_G) (k : ClassId × ClassId × ClassId) (a_t a_t_row : Nat) (t_row_n : Nat) (t_size : Int32) (t_row : Nat → Int32) (v1 : Int32) (v2 : Int64) (v4 : Int32) (n : Nat) (out : (Nat → Int32)) (h : f_B_setBits n t_row_n t_size t_row v1 v2 v4 = some out) : Ct l D k y_B_setBits b_B_setBits 8 none rm_B_setBits [.ref a_t, .int v1, .long v2, .int v4] [(a_t, .inr (0, [.ref a_t_row, .int t_size])), (a_t_row, .inl (k.1, t_row_n, .inl t_row))] [(a_t, .inr (0, [.ref a_t_row, .int t_size])), (a_t_row, .inl (k.1, t_row_n, .inl out))] none := by
  refine Ct.ofV (by decide) (Nat.le_of_ble_eq_true rfl) ?_
  intro p e s m args below meth c A Q ls hx hb hml hown hts hA hK hP hD hS hE hl ret
  have hown : s.vm.findClass "PageForm$Bytes" = some m.cls := hown
  have hl : lv_has ls 8 [(0, .ref a_t), (1, .int v1), (2, .long v2), (4, .int v4)] := hl
  have ret2 : ∀ (y0 : Nat → Int32) (_ : y0 = out) {pc : Nat} {ls : Array Slot} {H : Heap} {locs : List Loc}, decode b_B_setBits pc = .ok (.return_, 1) → va_P D CL [(a_t, .inr (0, [.ref a_t_row, .int t_size])), (a_t_row, .inl (k.1, t_row_n, .inl y0))] H → va_D A [(a_t, .inr (0, [.ref a_t_row, .int t_size])), (a_t_row, .inl (k.1, t_row_n, .inl y0))] → va_S A s.heap H locs → W p l e rm_B_setBits s m args below meth c H locs 0 0 Q (F0 m pc ls []) := by
    intro y0 e0; subst e0; exact ret
  clear ret
  have L8 : ∀ (K : Nat) (t_row : Nat → Int32) (v5 : Int32) (v6 : Int32) (o : ((Nat → Int32))) (H : Heap) (locs : List Loc) (ls : Array Slot), va_P D CL [(a_t, .inr (0, [.ref a_t_row, .int t_size])), (a_t_row, .inl (k.1, t_row_n, .inl t_row))] H → va_D A [(a_t, .inr (0, [.ref a_t_row, .int t_size])), (a_t_row, .inl (k.1, t_row_n, .inl t_row))] → va_S A s.heap H locs → lv_has ls 8 [(0, .ref a_t), (1, .int v1), (2, .long v2), (4, .int v4), (5, .int v5), (6, .int v6)] → lp (fun v => f_B_setBits_l8 t_row_n t_size v1 v2 v4 v.1 v.2.1 v.2.2) K (t_row, v5, v6) = some o → (fun o => some o) o = some out → W p l e rm_B_setBits s m args below meth c H locs 0 0 Q (F0 m 8 ls []) := by
    intro K
    induction K with
    | zero => intros; exact absurd (by assumption) lp_no
    | succ K ih8 =>
      intro t_row v5 v6 o H locs ls hP hD hS hl h0 hx8
      obtain ⟨b8, h, hc8⟩ := lp_at h0
      have h : f_B_setBits_l8 t_row_n t_size v1 v2 v4 t_row v5 v6 = some b8 := h
      unfold f_B_setBits_l8 at h
      refine lv_iload hx hb d_B_setBits_8 (lv_at hl 4 rfl) ?_
      refine lv_iload hx hb d_B_setBits_10 (lv_at hl 3 rfl) ?_
      refine lv_icmp_ge (tgt := 69) hx hb d_B_setBits_12 (by decide) (fun c => ?_) (fun c => ?_)
      · have h := ift_at h c
        obtain rfl := lp_out h hc8
        exact ret2 _ (Option.some.inj hx8) d_B_setBits_69 hP hD hS
      · have h := iff_at h c
        refine lv_iload hx hb d_B_setBits_15 (lv_at hl 5 rfl) ?_
        refine lv_aload_n hx hb d_B_setBits_17 rfl (lv_at hl 0 rfl) ?_
        refine va_get (D := D) (ci := 0) (v := .int t_size) (C := "PageForm$Bytes") (T := F_B) (N := 2) hx hb hts in_B hown hK hP 0 rfl rfl 1 (by decide) (hts _ fl_B_15) (fun _ h9 => h9) rfl d_B_setBits_18 ?_
        refine lv_icmp_ge (tgt := 69) hx hb d_B_setBits_21 (by decide) (fun c => ?_) (fun c => ?_)
        · have h := ift_at h c
          obtain rfl := lp_out h hc8
          exact ret2 _ (Option.some.inj hx8) d_B_setBits_69 hP hD hS
        · have h := iff_at h c
          refine lv_iload_n hx hb d_B_setBits_24 rfl (lv_at hl 1 rfl) ?_
          refine lv_iload hx hb d_B_setBits_25 (lv_at hl 4 rfl) ?_
          refine lv_iadd hx hb d_B_setBits_27 ?_
          refine lv_bipush (v := 7) hx hb d_B_setBits_28 (by decide) ?_
          refine lv_iand hx hb d_B_setBits_30 ?_
          refine lv_topi (fun x5 ex5 => ?_)
          have h := bnd_at h ex5
          refine lv_istore (lv' := [(7, .int x5), (0, .ref a_t), (1, .int v1), (2, .long v2), (4, .int v4), (5, .int v5), (6, .int v6)]) hx hb d_B_setBits_31 hl (by decide) rfl (fun ls hl => ?_)
          refine lv_aload_n hx hb d_B_setBits_33 rfl (lv_at hl 1 rfl) ?_
          refine va_get (D := D) (ci := 0) (v := .ref a_t_row) (C := "PageForm$Bytes") (T := F_B) (N := 2) hx hb hts in_B hown hK hP 0 rfl rfl 0 (by decide) (hts _ fl_B_9) (fun _ h9 => h9) rfl d_B_setBits_34 ?_
          refine lv_iload hx hb d_B_setBits_37 (lv_at hl 6 rfl) ?_
          refine lv_dup2_11 hx hb d_B_setBits_39 rfl rfl ?_
          obtain ⟨g6, h⟩ := gd_at h
          refine va_bald hx hb hK hP 1 0 rfl rfl (inB_in g6) d_B_setBits_40 ?_
          refine lv_lload_n hx hb d_B_setBits_41 rfl (lv_at hl 3 rfl) ?_
          refine lv_iload hx hb d_B_setBits_42 (lv_at hl 5 rfl) ?_
          refine lv_lushr hx hb d_B_setBits_44 rfl ?_
          refine lv_iload hx hb d_B_setBits_45 (lv_at hl 0 rfl) ?_
          refine lv_lshl hx hb d_B_setBits_47 rfl ?_
          refine lv_l2i hx hb d_B_setBits_48 rfl ?_
          refine lv_i2b hx hb d_B_setBits_49 rfl ?_
          refine lv_ior hx hb d_B_setBits_50 ?_
          refine lv_topi (fun x7 ex7 => ?_)
          have h := bnd_at h ex7
          refine lv_i2b hx hb d_B_setBits_51 rfl ?_
          obtain ⟨g8, h⟩ := gd_at h
          refine va_bast hx hb hK hP hD hS 1 0 rfl rfl (inB_in g8) d_B_setBits_52 (fun H locs hP hD hS => ?_)
          have hP : va_P D CL [(a_t, .inr (0, [.ref a_t_row, .int t_size])), (a_t_row, .inl (k.1, t_row_n, .inl (upd t_row v6.toNatClampNeg (vp_nar .byte x7.toInt8.toInt32))))] H := hP
          have hD : va_D A [(a_t, .inr (0, [.ref a_t_row, .int t_size])), (a_t_row, .inl (k.1, t_row_n, .inl (upd t_row v6.toNatClampNeg (vp_nar .byte x7.toInt8.toInt32))))] := hD
          refine lv_iload hx hb d_B_setBits_53 (lv_at hl 5 rfl) ?_
          refine lv_bipush (v := 8) hx hb d_B_setBits_55 (by decide) ?_
          refine lv_iload hx hb d_B_setBits_57 (lv_at hl 0 rfl) ?_
          refine lv_isub hx hb d_B_setBits_59 ?_
          refine lv_iadd hx hb d_B_setBits_60 ?_
          refine lv_topi (fun x9 ex9 => ?_)
          have h := bnd_at h ex9
          refine lv_istore (lv' := [(5, .int x9), (7, .int x5), (0, .ref a_t), (1, .int v1), (2, .long v2), (4, .int v4), (6, .int v6)]) hx hb d_B_setBits_61 hl (by decide) rfl (fun ls hl => ?_)
          obtain ⟨x10, ex10⟩ : ∃ z : Int32, z = v6 + (1 : Int32) := ⟨_, rfl⟩
          have h := bnd_at h ex10
          refine lv_iinc (v := x10) (lv' := [(6, .int x10), (5, .int x9), (7, .int x5), (0, .ref a_t), (1, .int v1), (2, .long v2), (4, .int v4)]) hx hb d_B_setBits_63 hl (k := 6) rfl (by rw [ex10]; rfl) (by decide) rfl (fun ls hl => ?_)
          refine lv_goto (tgt := 8) hx hb d_B_setBits_66 (by decide) ?_
          have h := lp_go h hc8
          exact ih8 (upd t_row v6.toNatClampNeg (vp_nar .byte x7.toInt8.toInt32)) x9 x10 o _ _ ls hP hD hS (lv_sub hl [3, 4, 5, 6, 1, 0] rfl) h hx8
  unfold f_B_setBits at h
  refine lv_iconst (v := 0) hx hb d_B_setBits_0 (by decide) ?_
  refine lv_istore (lv' := [(5, .int (0 : Int32)), (0, .ref a_t), (1, .int v1), (2, .long v2), (4, .int v4)]) hx hb d_B_setBits_1 hl (by decide) rfl (fun ls hl => ?_)
  refine lv_iload_n hx hb d_B_setBits_3 rfl (lv_at hl 2 rfl) ?_
  refine lv_iconst (v := 3) hx hb d_B_setBits_4 (by decide) ?_
  refine lv_ishr hx hb d_B_setBits_5 ?_
  refine lv_topi (fun x21 ex21 => ?_)
  have h := bnd_at h ex21
  refine lv_istore (lv' := [(6, .int x21), (5, .int (0 : Int32)), (0, .ref a_t), (1, .int v1), (2, .long v2), (4, .int v4)]) hx hb d_B_setBits_6 hl (by decide) rfl (fun ls hl => ?_)
  obtain ⟨o22, ho22, h⟩ := obd_at h
  exact L8 n t_row (0 : Int32) x21 o22 _ _ ls hP hD hS (lv_sub hl [2, 3, 4, 5, 1, 0] rfl) ho22 h

def rm_B_beginsOne : Room := { frames := 0, cells := 0, slots := 0, locals := 0 }
def f_B_beginsOne_l14 (p1_n : Nat) (p1 : Nat → Int64) (v2 : Int32) (v3 : Int32) : Option ((Int32) ⊕ ((Int32))) :=
  (if (v2 + (8 : Int32)) ≤ v3 then some (Sum.inr ((1 : Int32))) else gd (inB v3 p1_n) (gd (inB v2 p1_n) ((if (p1 v3.toNatClampNeg) = (p1 v2.toNatClampNeg) then bnd (v3 + (1 : Int32)) (fun x7 => some (Sum.inl x7)) else some (Sum.inr ((0 : Int32)))))))
def f_B_beginsOne (n : Nat) (p1_n : Nat) (p1 : Nat → Int64) (v1 : Int32) (v2 : Int32) : Option (Int32) :=
  (if (v2 + (8 : Int32)) ≤ v1 then bnd (v2 + (1 : Int32)) (fun x18 => Option.bind (lp (fun v => f_B_beginsOne_l14 p1_n p1 v2 v) n x18) (fun o => some o)) else some (0 : Int32))
set_option maxHeartbeats 4000000 in
set_option maxRecDepth 100000 in
theorem c_B_beginsOne (l : Launch) (D : va_G) (k : ClassId × ClassId × ClassId) (a_p1 : Nat) (p1_n : Nat) (p1 : Nat → Int64) (v1 : Int32) (v2 : Int32) (n : Nat) (out : Int32) (h : f_B_beginsOne n p1_n p1 v1 v2 = some out) : Ct l D k y_B_beginsOne b_B_beginsOne 4 (some .boolean) rm_B_beginsOne [.ref a_p1, .int v1, .int v2] [(a_p1, .inl (k.2.2, p1_n, .inr (.inl p1)))] [(a_p1, .inl (k.2.2, p1_n, .inr (.inl p1)))] (some (.int out)) := by
  refine Ct.ofZ (by decide) (Nat.le_of_ble_eq_true rfl) ?_
  intro p e s m args below meth c A Q ls hx hb hml hown hts hA hK hP hD hS hE hl ret
  have hown : s.vm.findClass "PageForm$Bytes" = some m.cls := hown
  have hl : lv_has ls 4 [(0, .ref a_p1), (1, .int v1), (2, .int v2)] := hl
  have ret2 : ∀ (y0 : Int32) (_ : y0 = out) {pc : Nat} {ls : Array Slot} {H : Heap} {locs : List Loc}, decode b_B_beginsOne pc = .ok (.ireturn, 1) → narrow .boolean (.int y0) = .int y0 → va_P D CL [(a_p1, .inl (k.2.2, p1_n, .inr (.inl p1)))] H → va_D A [(a_p1, .inl (k.2.2, p1_n, .inr (.inl p1)))] → va_S A s.heap H locs → W p l e rm_B_beginsOne s m args below meth c H locs 0 0 Q (F0 m pc ls [.int y0]) := by
    intro y0 e0; subst e0; exact ret
  clear ret
  have L14 : ∀ (K : Nat) (v3 : Int32) (o : (Int32)) (H : Heap) (locs : List Loc) (ls : Array Slot), va_P D CL [(a_p1, .inl (k.2.2, p1_n, .inr (.inl p1)))] H → va_D A [(a_p1, .inl (k.2.2, p1_n, .inr (.inl p1)))] → va_S A s.heap H locs → lv_has ls 4 [(0, .ref a_p1), (2, .int v2), (3, .int v3)] → lp (fun v => f_B_beginsOne_l14 p1_n p1 v2 v) K v3 = some o → (fun o => some o) o = some out → W p l e rm_B_beginsOne s m args below meth c H locs 0 0 Q (F0 m 14 ls []) := by
    intro K
    induction K with
    | zero => intros; exact absurd (by assumption) lp_no
    | succ K ih14 =>
      intro v3 o H locs ls hP hD hS hl h0 hx14
      obtain ⟨b14, h, hc14⟩ := lp_at h0
      have h : f_B_beginsOne_l14 p1_n p1 v2 v3 = some b14 := h
      unfold f_B_beginsOne_l14 at h
      refine lv_iload_n hx hb d_B_beginsOne_14 rfl (lv_at hl 2 rfl) ?_
      refine lv_iload_n hx hb d_B_beginsOne_15 rfl (lv_at hl 1 rfl) ?_
      refine lv_bipush (v := 8) hx hb d_B_beginsOne_16 (by decide) ?_
      refine lv_iadd hx hb d_B_beginsOne_18 ?_
      refine lv_icmp_ge (tgt := 40) hx hb d_B_beginsOne_19 (by decide) (fun c => ?_) (fun c => ?_)
      · have h := ift_at h c
        refine lv_iconst (v := 1) hx hb d_B_beginsOne_40 (by decide) ?_
        obtain rfl := lp_out h hc14
        exact ret2 _ (Option.some.inj hx14) d_B_beginsOne_41 nb1 hP hD hS
      · have h := iff_at h c
        refine lv_aload_n hx hb d_B_beginsOne_22 rfl (lv_at hl 0 rfl) ?_
        refine lv_iload_n hx hb d_B_beginsOne_23 rfl (lv_at hl 2 rfl) ?_
        obtain ⟨g5, h⟩ := gd_at h
        refine va_lald hx hb hK hP 0 2 rfl rfl (inB_in g5) d_B_beginsOne_24 ?_
        refine lv_aload_n hx hb d_B_beginsOne_25 rfl (lv_at hl 0 rfl) ?_
        refine lv_iload_n hx hb d_B_beginsOne_26 rfl (lv_at hl 1 rfl) ?_
        obtain ⟨g6, h⟩ := gd_at h
        refine va_lald hx hb hK hP 0 2 rfl rfl (inB_in g6) d_B_beginsOne_27 ?_
        refine W.lcmp hx hb d_B_beginsOne_28 ?_
        refine lv_if_eq (tgt := 34) hx hb d_B_beginsOne_29 (by decide) (fun c => ?_) (fun c => ?_)
        · have c := zc_eq.mp c
          have h := ift_at h c
          obtain ⟨x7, ex7⟩ : ∃ z : Int32, z = v3 + (1 : Int32) := ⟨_, rfl⟩
          have h := bnd_at h ex7
          refine lv_iinc (v := x7) (lv' := [(3, .int x7), (0, .ref a_p1), (2, .int v2)]) hx hb d_B_beginsOne_34 hl (k := 2) rfl (by rw [ex7]; rfl) (by decide) rfl (fun ls hl => ?_)
          refine lv_goto (tgt := 14) hx hb d_B_beginsOne_37 (by decide) ?_
          have h := lp_go h hc14
          exact ih14 x7 o _ _ ls hP hD hS (lv_sub hl [1, 2, 0] rfl) h hx14
        · have c := mt zc_eq.mpr c
          have h := iff_at h c
          refine lv_iconst (v := 0) hx hb d_B_beginsOne_32 (by decide) ?_
          obtain rfl := lp_out h hc14
          exact ret2 _ (Option.some.inj hx14) d_B_beginsOne_33 nb0 hP hD hS
  unfold f_B_beginsOne at h
  refine lv_iload_n hx hb d_B_beginsOne_0 rfl (lv_at hl 2 rfl) ?_
  refine lv_bipush (v := 8) hx hb d_B_beginsOne_1 (by decide) ?_
  refine lv_iadd hx hb d_B_beginsOne_3 ?_
  refine lv_iload_n hx hb d_B_beginsOne_4 rfl (lv_at hl 1 rfl) ?_
  refine lv_icmp_le (tgt := 10) hx hb d_B_beginsOne_5 (by decide) (fun c => ?_) (fun c => ?_)
  · have h := ift_at h c
    refine lv_iload_n hx hb d_B_beginsOne_10 rfl (lv_at hl 2 rfl) ?_
    refine lv_iconst (v := 1) hx hb d_B_beginsOne_11 (by decide) ?_
    refine lv_iadd hx hb d_B_beginsOne_12 ?_
    refine lv_topi (fun x18 ex18 => ?_)
    have h := bnd_at h ex18
    refine lv_istore_n (lv' := [(3, .int x18), (0, .ref a_p1), (1, .int v1), (2, .int v2)]) hx hb d_B_beginsOne_13 rfl hl (by decide) rfl (fun ls hl => ?_)
    obtain ⟨o19, ho19, h⟩ := obd_at h
    exact L14 n x18 o19 _ _ ls hP hD hS (lv_sub hl [1, 3, 0] rfl) ho19 h
  · have h := iff_at h c
    refine lv_iconst (v := 0) hx hb d_B_beginsOne_8 (by decide) ?_
    exact ret2 _ (Option.some.inj h) d_B_beginsOne_9 nb0 hP hD hS

def rm_B_putOne : Room := { frames := 2, cells := 0, slots := 0, locals := 46 }
def f_B_putOne_j28 (n : Nat) (t_row_n : Nat) (p1_n : Nat) (t_size : Int32) (t_row : Nat → Int32) (p1 : Nat → Int64) (v3 : Int32) (v4 : Int32) (v5 : Int32) : Option (Int32 × Int32 × (Nat → Int32)) :=
  Option.bind (f_B_varint n t_row_n t_size t_row ((2 : Int64) * (v5 - v3).toInt64)) (fun o6 => gd (inB v3 p1_n) (Option.bind (f_B_lowestFirst n t_row_n o6.1 o6.2 (p1 v3.toNatClampNeg) ((v4 + (7 : Int32)) / (8 : Int32))) (fun o8 => some (v5, o8.1, o8.2))))
def f_B_putOne_l5 (p1_n : Nat) (p1 : Nat → Int64) (v2 : Int32) (v3 : Int32) (v5 : Int32) : Option ((Int32) ⊕ ((Int32))) :=
  (if v2 ≤ v5 then some (Sum.inr (v5)) else gd (inB v5 p1_n) (gd (inB v3 p1_n) ((if (p1 v5.toNatClampNeg) = (p1 v3.toNatClampNeg) then bnd (v5 + (1 : Int32)) (fun x17 => some (Sum.inl x17)) else some (Sum.inr (v5))))))
def f_B_putOne (n : Nat) (t_row_n : Nat) (p1_n : Nat) (t_size : Int32) (t_row : Nat → Int32) (p1 : Nat → Int64) (v2 : Int32) (v3 : Int32) (v4 : Int32) : Option (Int32 × Int32 × (Nat → Int32)) :=
  bnd (v3 + (1 : Int32)) (fun x28 => Option.bind (lp (fun v => f_B_putOne_l5 p1_n p1 v2 v3 v) n x28) (fun o => f_B_putOne_j28 n t_row_n p1_n t_size t_row p1 v3 v4 o))
set_option maxHeartbeats 4000000 in
set_option maxRecDepth 100000 in
theorem c_B_putOne (l : Launch) (D : va_G) (k : ClassId × ClassId × ClassId) (a_t a_t_row a_p1 : Nat) (t_row_n p1_n : Nat) (t_size : Int32) (t_row : Nat → Int32) (p1 : Nat → Int64) (v2 : Int32) (v3 : Int32) (v4 : Int32) (n : Nat) (out : Int32 × Int32 × (Nat → Int32)) (h : f_B_putOne n t_row_n p1_n t_size t_row p1 v2 v3 v4 = some out) : Ct l D k y_B_putOne b_B_putOne 6 (some .int) rm_B_putOne [.ref a_t, .ref a_p1, .int v2, .int v3, .int v4] [(a_t, .inr (0, [.ref a_t_row, .int t_size])), (a_t_row, .inl (k.1, t_row_n, .inl t_row)), (a_p1, .inl (k.2.2, p1_n, .inr (.inl p1)))] [(a_t, .inr (0, [.ref a_t_row, .int out.2.1])), (a_t_row, .inl (k.1, t_row_n, .inl out.2.2)), (a_p1, .inl (k.2.2, p1_n, .inr (.inl p1)))] (some (.int out.1)) := by
  refine Ct.ofI (by decide) (Nat.le_of_ble_eq_true rfl) ?_
  intro p e s m args below meth c A Q ls hx hb hml hown hts hA hK hP hD hS hE hl ret
  have hown : s.vm.findClass "PageForm$Bytes" = some m.cls := hown
  have hl : lv_has ls 6 [(0, .ref a_t), (1, .ref a_p1), (2, .int v2), (3, .int v3), (4, .int v4)] := hl
  have ret2 : ∀ (y0 : Int32) (y1 : Int32) (y2 : Nat → Int32) (_ : (y0, y1, y2) = out) {pc : Nat} {ls : Array Slot} {H : Heap} {locs : List Loc}, decode b_B_putOne pc = .ok (.ireturn, 1) → va_P D CL [(a_t, .inr (0, [.ref a_t_row, .int y1])), (a_t_row, .inl (k.1, t_row_n, .inl y2)), (a_p1, .inl (k.2.2, p1_n, .inr (.inl p1)))] H → va_D A [(a_t, .inr (0, [.ref a_t_row, .int y1])), (a_t_row, .inl (k.1, t_row_n, .inl y2)), (a_p1, .inl (k.2.2, p1_n, .inr (.inl p1)))] → va_S A s.heap H locs → W p l e rm_B_putOne s m args below meth c H locs 0 0 Q (F0 m pc ls [.int y0]) := by
    intro y0 y1 y2 e0; subst e0; exact ret
  clear ret
  have J28 : ∀ (t_size : Int32) (t_row : Nat → Int32) (v5 : Int32) (H : Heap) (locs : List Loc) (ls : Array Slot), va_P D CL [(a_t, .inr (0, [.ref a_t_row, .int t_size])), (a_t_row, .inl (k.1, t_row_n, .inl t_row)), (a_p1, .inl (k.2.2, p1_n, .inr (.inl p1)))] H → va_D A [(a_t, .inr (0, [.ref a_t_row, .int t_size])), (a_t_row, .inl (k.1, t_row_n, .inl t_row)), (a_p1, .inl (k.2.2, p1_n, .inr (.inl p1)))] → va_S A s.heap H locs → lv_has ls 6 [(0, .ref a_t), (1, .ref a_p1), (3, .int v3), (4, .int v4), (5, .int v5)] → f_B_putOne_j28 n t_row_n p1_n t_size t_row p1 v3 v4 v5 = some out → W p l e rm_B_putOne s m args below meth c H locs 0 0 Q (F0 m 28 ls []) := by
    intro t_size t_row v5 H locs ls hP hD hS hl h
    unfold f_B_putOne_j28 at h
    refine lv_aload_n hx hb d_B_putOne_28 rfl (lv_at hl 0 rfl) ?_
    refine lv_ldc2 (v := 2) hx hb hown (hts _ kc_B_56) d_B_putOne_29 ?_
    refine lv_iload hx hb d_B_putOne_32 (lv_at hl 4 rfl) ?_
    refine lv_iload_n hx hb d_B_putOne_34 rfl (lv_at hl 2 rfl) ?_
    refine lv_isub hx hb d_B_putOne_35 ?_
    refine lv_i2l hx hb d_B_putOne_36 rfl ?_
    refine lv_lmul hx hb d_B_putOne_37 ?_
    obtain ⟨o6, ho6, h⟩ := obd_at h
    refine g_V (As := [.long ((2 : Int64) * (v5 - v3).toInt64)]) (rest := []) hx hb hml hown hts hA hK hP hD hS hE (c_B_varint l D k a_t a_t_row t_row_n t_size t_row ((2 : Int64) * (v5 - v3).toInt64) n o6 ho6) mw_B_varint mi_B_varint ml_B_31 [0, 1] rfl (by decide) rfl rfl rfl 0 rfl rfl rfl rfl rfl hl.1 rfl (Nat.le_of_ble_eq_true rfl) ⟨Nat.zero_le _, Nat.zero_le _⟩ d_B_putOne_38 (fun H locs hP hD hS => ?_)
    have hP : va_P D CL [(a_t, .inr (0, [.ref a_t_row, .int o6.1])), (a_t_row, .inl (k.1, t_row_n, .inl o6.2)), (a_p1, .inl (k.2.2, p1_n, .inr (.inl p1)))] H := hP
    have hD : va_D A [(a_t, .inr (0, [.ref a_t_row, .int o6.1])), (a_t_row, .inl (k.1, t_row_n, .inl o6.2)), (a_p1, .inl (k.2.2, p1_n, .inr (.inl p1)))] := hD
    refine W.eq (g2 := F0 m 41 ls []) rfl ?_
    refine lv_aload_n hx hb d_B_putOne_41 rfl (lv_at hl 0 rfl) ?_
    refine lv_aload_n hx hb d_B_putOne_42 rfl (lv_at hl 1 rfl) ?_
    refine lv_iload_n hx hb d_B_putOne_43 rfl (lv_at hl 2 rfl) ?_
    obtain ⟨g7, h⟩ := gd_at h
    refine va_lald hx hb hK hP 2 2 rfl rfl (inB_in g7) d_B_putOne_44 ?_
    refine lv_iload hx hb d_B_putOne_45 (lv_at hl 3 rfl) ?_
    refine lv_bipush (v := 7) hx hb d_B_putOne_47 (by decide) ?_
    refine lv_iadd hx hb d_B_putOne_49 ?_
    refine lv_bipush (v := 8) hx hb d_B_putOne_50 (by decide) ?_
    refine lv_idiv hx hb d_B_putOne_52 (by decide) ?_
    obtain ⟨o8, ho8, h⟩ := obd_at h
    refine g_V (As := [.long (p1 v3.toNatClampNeg), .int ((v4 + (7 : Int32)) / (8 : Int32))]) (rest := []) hx hb hml hown hts hA hK hP hD hS hE (c_B_lowestFirst l D k a_t a_t_row t_row_n o6.1 o6.2 (p1 v3.toNatClampNeg) ((v4 + (7 : Int32)) / (8 : Int32)) n o8 ho8) mw_B_lowestFirst mi_B_lowestFirst ml_B_58 [0, 1] rfl (by decide) rfl rfl rfl 0 rfl rfl rfl rfl rfl hl.1 rfl (Nat.le_of_ble_eq_true rfl) ⟨Nat.zero_le _, Nat.zero_le _⟩ d_B_putOne_53 (fun H locs hP hD hS => ?_)
    have hP : va_P D CL [(a_t, .inr (0, [.ref a_t_row, .int o8.1])), (a_t_row, .inl (k.1, t_row_n, .inl o8.2)), (a_p1, .inl (k.2.2, p1_n, .inr (.inl p1)))] H := hP
    have hD : va_D A [(a_t, .inr (0, [.ref a_t_row, .int o8.1])), (a_t_row, .inl (k.1, t_row_n, .inl o8.2)), (a_p1, .inl (k.2.2, p1_n, .inr (.inl p1)))] := hD
    refine W.eq (g2 := F0 m 56 ls []) rfl ?_
    refine lv_iload hx hb d_B_putOne_56 (lv_at hl 4 rfl) ?_
    exact ret2 _ _ _ (Option.some.inj h) d_B_putOne_58 hP hD hS
  have L5 : ∀ (K : Nat) (t_size : Int32) (t_row : Nat → Int32) (v5 : Int32) (o : (Int32)) (H : Heap) (locs : List Loc) (ls : Array Slot), va_P D CL [(a_t, .inr (0, [.ref a_t_row, .int t_size])), (a_t_row, .inl (k.1, t_row_n, .inl t_row)), (a_p1, .inl (k.2.2, p1_n, .inr (.inl p1)))] H → va_D A [(a_t, .inr (0, [.ref a_t_row, .int t_size])), (a_t_row, .inl (k.1, t_row_n, .inl t_row)), (a_p1, .inl (k.2.2, p1_n, .inr (.inl p1)))] → va_S A s.heap H locs → lv_has ls 6 [(0, .ref a_t), (1, .ref a_p1), (2, .int v2), (3, .int v3), (4, .int v4), (5, .int v5)] → lp (fun v => f_B_putOne_l5 p1_n p1 v2 v3 v) K v5 = some o → (fun o => f_B_putOne_j28 n t_row_n p1_n t_size t_row p1 v3 v4 o) o = some out → W p l e rm_B_putOne s m args below meth c H locs 0 0 Q (F0 m 5 ls []) := by
    intro K
    induction K with
    | zero => intros; exact absurd (by assumption) lp_no
    | succ K ih5 =>
      intro t_size t_row v5 o H locs ls hP hD hS hl h0 hx5
      obtain ⟨b5, h, hc5⟩ := lp_at h0
      have h : f_B_putOne_l5 p1_n p1 v2 v3 v5 = some b5 := h
      unfold f_B_putOne_l5 at h
      refine lv_iload hx hb d_B_putOne_5 (lv_at hl 5 rfl) ?_
      refine lv_iload_n hx hb d_B_putOne_7 rfl (lv_at hl 2 rfl) ?_
      refine lv_icmp_ge (tgt := 28) hx hb d_B_putOne_8 (by decide) (fun c => ?_) (fun c => ?_)
      · have h := ift_at h c
        obtain rfl := lp_out h hc5
        exact J28 t_size t_row v5 _ _ ls hP hD hS (lv_sub hl [0, 1, 3, 4, 5] rfl) hx5
      · have h := iff_at h c
        refine lv_aload_n hx hb d_B_putOne_11 rfl (lv_at hl 1 rfl) ?_
        refine lv_iload hx hb d_B_putOne_12 (lv_at hl 5 rfl) ?_
        obtain ⟨g13, h⟩ := gd_at h
        refine va_lald hx hb hK hP 2 2 rfl rfl (inB_in g13) d_B_putOne_14 ?_
        refine lv_aload_n hx hb d_B_putOne_15 rfl (lv_at hl 1 rfl) ?_
        refine lv_iload_n hx hb d_B_putOne_16 rfl (lv_at hl 3 rfl) ?_
        obtain ⟨g14, h⟩ := gd_at h
        refine va_lald hx hb hK hP 2 2 rfl rfl (inB_in g14) d_B_putOne_17 ?_
        refine W.lcmp hx hb d_B_putOne_18 ?_
        refine lv_if_ne (tgt := 28) hx hb d_B_putOne_19 (by decide) (fun c => ?_) (fun c => ?_)
        · have c := mt zc_eq.mpr c
          have h := iff_at h c
          obtain rfl := lp_out h hc5
          exact J28 t_size t_row v5 _ _ ls hP hD hS (lv_sub hl [0, 1, 3, 4, 5] rfl) hx5
        · have c := zc_eq.mp c
          have h := ift_at h c
          obtain ⟨x17, ex17⟩ : ∃ z : Int32, z = v5 + (1 : Int32) := ⟨_, rfl⟩
          have h := bnd_at h ex17
          refine lv_iinc (v := x17) (lv' := [(5, .int x17), (0, .ref a_t), (1, .ref a_p1), (2, .int v2), (3, .int v3), (4, .int v4)]) hx hb d_B_putOne_22 hl (k := 5) rfl (by rw [ex17]; rfl) (by decide) rfl (fun ls hl => ?_)
          refine lv_goto (tgt := 5) hx hb d_B_putOne_25 (by decide) ?_
          have h := lp_go h hc5
          exact ih5 t_size t_row x17 o _ _ ls hP hD hS (lv_sub hl [1, 2, 3, 4, 5, 0] rfl) h hx5
  unfold f_B_putOne at h
  refine lv_iload_n hx hb d_B_putOne_0 rfl (lv_at hl 3 rfl) ?_
  refine lv_iconst (v := 1) hx hb d_B_putOne_1 (by decide) ?_
  refine lv_iadd hx hb d_B_putOne_2 ?_
  refine lv_topi (fun x28 ex28 => ?_)
  have h := bnd_at h ex28
  refine lv_istore (lv' := [(5, .int x28), (0, .ref a_t), (1, .ref a_p1), (2, .int v2), (3, .int v3), (4, .int v4)]) hx hb d_B_putOne_3 hl (by decide) rfl (fun ls hl => ?_)
  obtain ⟨o29, ho29, h⟩ := obd_at h
  exact L5 n t_size t_row x28 o29 _ _ ls hP hD hS (lv_sub hl [1, 2, 3, 4, 5, 0] rfl) ho29 h

