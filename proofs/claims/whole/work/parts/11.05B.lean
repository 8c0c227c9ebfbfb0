def rm_B_code : Room := { frames := 5, cells := 0, slots := 0, locals := 126 }
def f_B_code_l22 (n : Nat) (t_row_n : Nat) (p1_n : Nat) (p1 : Nat → Int64) (v2 : Int32) (t_size : Int32) (t_row : Nat → Int32) (v3 : Int32) : Option ((Int32 × (Nat → Int32) × Int32) ⊕ ((Int32 × (Nat → Int32)))) :=
  (if v2 ≤ v3 then some (Sum.inr ((t_size, t_row))) else Option.bind (f_B_putBlock n t_row_n p1_n t_size t_row p1 v3 (if v2 < (v3 + (64 : Int32)) then v2 else (v3 + (64 : Int32)))) (fun o7 => bnd (v3 + (64 : Int32)) (fun x8 => some (Sum.inl (o7.1, o7.2, x8)))))
def f_B_code_j20 (n : Nat) (t_row_n : Nat) (p1_n : Nat) (t_size : Int32) (t_row : Nat → Int32) (p1 : Nat → Int64) (v2 : Int32) : Option (Int32 × (Nat → Int32)) :=
  Option.bind (lp (fun v => f_B_code_l22 n t_row_n p1_n p1 v2 v.1 v.2.1 v.2.2) n (t_size, t_row, (1 : Int32))) (fun o => some o)
def f_B_code (n : Nat) (t_row_n : Nat) (p1_n : Nat) (t_size : Int32) (t_row : Nat → Int32) (p1 : Nat → Int64) (v2 : Int32) : Option (Int32 × (Nat → Int32)) :=
  Option.bind (f_B_varint n t_row_n t_size t_row v2.toInt64) (fun o15 => (if v2 ≤ 0 then f_B_code_j20 n t_row_n p1_n o15.1 o15.2 p1 v2 else gd (inB (0 : Int32) p1_n) (Option.bind (f_F_zigzag (p1 (0 : Int32).toNatClampNeg)) (fun o17 => Option.bind (f_B_varint n t_row_n o15.1 o15.2 o17) (fun o18 => f_B_code_j20 n t_row_n p1_n o18.1 o18.2 p1 v2)))))
set_option maxHeartbeats 4000000 in
set_option maxRecDepth 100000 in
theorem c_B_code (l : Launch) (D : va_G) (k : ClassId × ClassId × ClassId) (a_t a_t_row a_p1 : Nat) (t_row_n p1_n : Nat) (t_size : Int32) (t_row : Nat → Int32) (p1 : Nat → Int64) (v2 : Int32) (n : Nat) (out : Int32 × (Nat → Int32)) (h : f_B_code n t_row_n p1_n t_size t_row p1 v2 = some out) : Ct l D k y_B_code b_B_code 4 none rm_B_code [.ref a_t, .ref a_p1, .int v2] [(a_t, .inr (0, [.ref a_t_row, .int t_size])), (a_t_row, .inl (k.1, t_row_n, .inl t_row)), (a_p1, .inl (k.2.2, p1_n, .inr (.inl p1)))] [(a_t, .inr (0, [.ref a_t_row, .int out.1])), (a_t_row, .inl (k.1, t_row_n, .inl out.2)), (a_p1, .inl (k.2.2, p1_n, .inr (.inl p1)))] none := by
  refine Ct.ofV (by decide) (Nat.le_of_ble_eq_true rfl) ?_
  intro p e s m args below meth c A Q ls hx hb hml hown hts hA hK hP hD hS hE hl ret
  have hown : s.vm.findClass "PageForm$Bytes" = some m.cls := hown
  have hl : lv_has ls 4 [(0, .ref a_t), (1, .ref a_p1), (2, .int v2)] := hl
  have ret2 : ∀ (y0 : Int32) (y1 : Nat → Int32) (_ : (y0, y1) = out) {pc : Nat} {ls : Array Slot} {H : Heap} {locs : List Loc}, decode b_B_code pc = .ok (.return_, 1) → va_P D CL [(a_t, .inr (0, [.ref a_t_row, .int y0])), (a_t_row, .inl (k.1, t_row_n, .inl y1)), (a_p1, .inl (k.2.2, p1_n, .inr (.inl p1)))] H → va_D A [(a_t, .inr (0, [.ref a_t_row, .int y0])), (a_t_row, .inl (k.1, t_row_n, .inl y1)), (a_p1, .inl (k.2.2, p1_n, .inr (.inl p1)))] → va_S A s.heap H locs → W p l e rm_B_code s m args below meth c H locs 0 0 Q (F0 m pc ls []) := by
    intro y0 y1 e0; subst e0; exact ret
  clear ret
  have L22 : ∀ (K : Nat) (t_size : Int32) (t_row : Nat → Int32) (v3 : Int32) (o : (Int32 × (Nat → Int32))) (H : Heap) (locs : List Loc) (ls : Array Slot), va_P D CL [(a_t, .inr (0, [.ref a_t_row, .int t_size])), (a_t_row, .inl (k.1, t_row_n, .inl t_row)), (a_p1, .inl (k.2.2, p1_n, .inr (.inl p1)))] H → va_D A [(a_t, .inr (0, [.ref a_t_row, .int t_size])), (a_t_row, .inl (k.1, t_row_n, .inl t_row)), (a_p1, .inl (k.2.2, p1_n, .inr (.inl p1)))] → va_S A s.heap H locs → lv_has ls 4 [(0, .ref a_t), (1, .ref a_p1), (2, .int v2), (3, .int v3)] → lp (fun v => f_B_code_l22 n t_row_n p1_n p1 v2 v.1 v.2.1 v.2.2) K (t_size, t_row, v3) = some o → (fun o => some o) o = some out → W p l e rm_B_code s m args below meth c H locs 0 0 Q (F0 m 22 ls []) := by
    intro K
    induction K with
    | zero => intros; exact absurd (by assumption) lp_no
    | succ K ih22 =>
      intro t_size t_row v3 o H locs ls hP hD hS hl h0 hx22
      obtain ⟨b22, h, hc22⟩ := lp_at h0
      have h : f_B_code_l22 n t_row_n p1_n p1 v2 t_size t_row v3 = some b22 := h
      unfold f_B_code_l22 at h
      refine lv_iload_n hx hb d_B_code_22 rfl (lv_at hl 3 rfl) ?_
      refine lv_iload_n hx hb d_B_code_23 rfl (lv_at hl 2 rfl) ?_
      refine lv_icmp_ge (tgt := 47) hx hb d_B_code_24 (by decide) (fun c => ?_) (fun c => ?_)
      · have h := ift_at h c
        obtain rfl := lp_out h hc22
        exact ret2 _ _ (Option.some.inj hx22) d_B_code_47 hP hD hS
      · have h := iff_at h c
        refine lv_aload_n hx hb d_B_code_27 rfl (lv_at hl 0 rfl) ?_
        refine lv_aload_n hx hb d_B_code_28 rfl (lv_at hl 1 rfl) ?_
        refine lv_iload_n hx hb d_B_code_29 rfl (lv_at hl 3 rfl) ?_
        refine lv_iload_n hx hb d_B_code_30 rfl (lv_at hl 3 rfl) ?_
        refine lv_bipush (v := 64) hx hb d_B_code_31 (by decide) ?_
        refine lv_iadd hx hb d_B_code_33 ?_
        refine lv_iload_n hx hb d_B_code_34 rfl (lv_at hl 2 rfl) ?_
        refine va_mmin hx hb (hml.trans hl.1.symm) hown (hts _ ml_B_73) (hts _ ms_JM_min_II) (hts _ ini_JM) (hts _ mw_JM_min_II.1) (Nat.le_of_ble_eq_true rfl) (Nat.le_of_ble_eq_true rfl) (Nat.zero_le _) (Nat.zero_le _) d_B_code_35 ?_
        obtain ⟨o7, ho7, h⟩ := obd_at h
        refine g_V (As := [.ref a_p1, .int v3, .int (if v2 < (v3 + (64 : Int32)) then v2 else (v3 + (64 : Int32)))]) (rest := []) hx hb hml hown hts hA hK hP hD hS hE (c_B_putBlock l D k a_t a_t_row a_p1 t_row_n p1_n t_size t_row p1 v3 (if v2 < (v3 + (64 : Int32)) then v2 else (v3 + (64 : Int32))) n o7 ho7) mw_B_putBlock mi_B_putBlock ml_B_79 [0, 1, 2] rfl (by decide) rfl rfl rfl 0 rfl rfl rfl rfl rfl hl.1 rfl (Nat.le_of_ble_eq_true rfl) ⟨Nat.zero_le _, Nat.zero_le _⟩ d_B_code_38 (fun H locs hP hD hS => ?_)
        have hP : va_P D CL [(a_t, .inr (0, [.ref a_t_row, .int o7.1])), (a_t_row, .inl (k.1, t_row_n, .inl o7.2)), (a_p1, .inl (k.2.2, p1_n, .inr (.inl p1)))] H := hP
        have hD : va_D A [(a_t, .inr (0, [.ref a_t_row, .int o7.1])), (a_t_row, .inl (k.1, t_row_n, .inl o7.2)), (a_p1, .inl (k.2.2, p1_n, .inr (.inl p1)))] := hD
        refine W.eq (g2 := F0 m 41 ls []) rfl ?_
        obtain ⟨x8, ex8⟩ : ∃ z : Int32, z = v3 + (64 : Int32) := ⟨_, rfl⟩
        have h := bnd_at h ex8
        refine lv_iinc (v := x8) (lv' := [(3, .int x8), (0, .ref a_t), (1, .ref a_p1), (2, .int v2)]) hx hb d_B_code_41 hl (k := 3) rfl (by rw [ex8]; rfl) (by decide) rfl (fun ls hl => ?_)
        refine lv_goto (tgt := 22) hx hb d_B_code_44 (by decide) ?_
        have h := lp_go h hc22
        exact ih22 o7.1 o7.2 x8 o _ _ ls hP hD hS (lv_sub hl [1, 2, 3, 0] rfl) h hx22
  have J20 : ∀ (t_size : Int32) (t_row : Nat → Int32) (H : Heap) (locs : List Loc) (ls : Array Slot), va_P D CL [(a_t, .inr (0, [.ref a_t_row, .int t_size])), (a_t_row, .inl (k.1, t_row_n, .inl t_row)), (a_p1, .inl (k.2.2, p1_n, .inr (.inl p1)))] H → va_D A [(a_t, .inr (0, [.ref a_t_row, .int t_size])), (a_t_row, .inl (k.1, t_row_n, .inl t_row)), (a_p1, .inl (k.2.2, p1_n, .inr (.inl p1)))] → va_S A s.heap H locs → lv_has ls 4 [(0, .ref a_t), (1, .ref a_p1), (2, .int v2)] → f_B_code_j20 n t_row_n p1_n t_size t_row p1 v2 = some out → W p l e rm_B_code s m args below meth c H locs 0 0 Q (F0 m 20 ls []) := by
    intro t_size t_row H locs ls hP hD hS hl h
    unfold f_B_code_j20 at h
    refine lv_iconst (v := 1) hx hb d_B_code_20 (by decide) ?_
    refine lv_istore_n (lv' := [(3, .int (1 : Int32)), (0, .ref a_t), (1, .ref a_p1), (2, .int v2)]) hx hb d_B_code_21 rfl hl (by decide) rfl (fun ls hl => ?_)
    obtain ⟨o14, ho14, h⟩ := obd_at h
    exact L22 n t_size t_row (1 : Int32) o14 _ _ ls hP hD hS (lv_sub hl [1, 2, 3, 0] rfl) ho14 h
  unfold f_B_code at h
  refine lv_aload_n hx hb d_B_code_0 rfl (lv_at hl 0 rfl) ?_
  refine lv_iload_n hx hb d_B_code_1 rfl (lv_at hl 2 rfl) ?_
  refine lv_i2l hx hb d_B_code_2 rfl ?_
  obtain ⟨o15, ho15, h⟩ := obd_at h
  refine g_V (As := [.long v2.toInt64]) (rest := []) hx hb hml hown hts hA hK hP hD hS hE (c_B_varint l D k a_t a_t_row t_row_n t_size t_row v2.toInt64 n o15 ho15) mw_B_varint mi_B_varint ml_B_31 [0, 1] rfl (by decide) rfl rfl rfl 0 rfl rfl rfl rfl rfl hl.1 rfl (Nat.le_of_ble_eq_true rfl) ⟨Nat.zero_le _, Nat.zero_le _⟩ d_B_code_3 (fun H locs hP hD hS => ?_)
  have hP : va_P D CL [(a_t, .inr (0, [.ref a_t_row, .int o15.1])), (a_t_row, .inl (k.1, t_row_n, .inl o15.2)), (a_p1, .inl (k.2.2, p1_n, .inr (.inl p1)))] H := hP
  have hD : va_D A [(a_t, .inr (0, [.ref a_t_row, .int o15.1])), (a_t_row, .inl (k.1, t_row_n, .inl o15.2)), (a_p1, .inl (k.2.2, p1_n, .inr (.inl p1)))] := hD
  refine W.eq (g2 := F0 m 6 ls []) rfl ?_
  refine lv_iload_n hx hb d_B_code_6 rfl (lv_at hl 2 rfl) ?_
  refine lv_if_le (tgt := 20) hx hb d_B_code_7 (by decide) (fun c => ?_) (fun c => ?_)
  · have h := ift_at h c
    exact J20 o15.1 o15.2 _ _ ls hP hD hS (lv_sub hl [0, 1, 2] rfl) h
  · have h := iff_at h c
    refine lv_aload_n hx hb d_B_code_10 rfl (lv_at hl 0 rfl) ?_
    refine lv_aload_n hx hb d_B_code_11 rfl (lv_at hl 1 rfl) ?_
    refine lv_iconst (v := 0) hx hb d_B_code_12 (by decide) ?_
    obtain ⟨g16, h⟩ := gd_at h
    refine va_lald hx hb hK hP 2 2 rfl rfl (inB_in g16) d_B_code_13 ?_
    obtain ⟨o17, ho17, h⟩ := obd_at h
    refine g_SN (As := [.long (p1 (0 : Int32).toNatClampNeg)]) (rest := [.ref a_t]) hx hb hml hown hts hA hK hP hD hS hE (c_F_zigzag l D k (p1 (0 : Int32).toNatClampNeg) n o17 ho17) mw_F_zigzag ms_F_zigzag ml_B_69 [] rfl (by decide) rfl rfl rfl rfl rfl hl.1 rfl (Nat.le_of_ble_eq_true rfl) ⟨Nat.zero_le _, Nat.zero_le _⟩ d_B_code_14 (fun H locs hP hD hS => ?_)
    have hP : va_P D CL [(a_t, .inr (0, [.ref a_t_row, .int o15.1])), (a_t_row, .inl (k.1, t_row_n, .inl o15.2)), (a_p1, .inl (k.2.2, p1_n, .inr (.inl p1)))] H := hP
    have hD : va_D A [(a_t, .inr (0, [.ref a_t_row, .int o15.1])), (a_t_row, .inl (k.1, t_row_n, .inl o15.2)), (a_p1, .inl (k.2.2, p1_n, .inr (.inl p1)))] := hD
    refine W.eq (g2 := F0 m 17 ls [.long o17, .ref a_t]) rfl ?_
    obtain ⟨o18, ho18, h⟩ := obd_at h
    refine g_V (As := [.long o17]) (rest := []) hx hb hml hown hts hA hK hP hD hS hE (c_B_varint l D k a_t a_t_row t_row_n o15.1 o15.2 o17 n o18 ho18) mw_B_varint mi_B_varint ml_B_31 [0, 1] rfl (by decide) rfl rfl rfl 0 rfl rfl rfl rfl rfl hl.1 rfl (Nat.le_of_ble_eq_true rfl) ⟨Nat.zero_le _, Nat.zero_le _⟩ d_B_code_17 (fun H locs hP hD hS => ?_)
    have hP : va_P D CL [(a_t, .inr (0, [.ref a_t_row, .int o18.1])), (a_t_row, .inl (k.1, t_row_n, .inl o18.2)), (a_p1, .inl (k.2.2, p1_n, .inr (.inl p1)))] H := hP
    have hD : va_D A [(a_t, .inr (0, [.ref a_t_row, .int o18.1])), (a_t_row, .inl (k.1, t_row_n, .inl o18.2)), (a_p1, .inl (k.2.2, p1_n, .inr (.inl p1)))] := hD
    refine W.eq (g2 := F0 m 20 ls []) rfl ?_
    exact J20 o18.1 o18.2 _ _ ls hP hD hS (lv_sub hl [0, 1, 2] rfl) h

