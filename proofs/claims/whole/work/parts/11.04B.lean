def rm_B_putGroups : Room := { frames := 3, cells := 0, slots := 0, locals := 67 }
def f_B_putGroups_l71 (n : Nat) (t_row_n : Nat) (p1_n : Nat) (t_size : Int32) (p1 : Nat → Int64) (v2 : Int32) (v3 : Int32) (v4 : Int32) (v5 : Int32) (v7 : Int32) (t_row : Nat → Int32) (v8 : Int32) : Option (((Nat → Int32) × Int32) ⊕ ((Int32 × Int32 × (Nat → Int32)))) :=
  (if v5 ≤ v8 then some (Sum.inr ((v5, t_size, t_row))) else (if v2 ≤ v8 then some (Sum.inr ((v5, t_size, t_row))) else gd (inB v8 p1_n) (Option.bind (f_B_setBits n t_row_n t_size t_row (v7 + ((v8 - v3) * v4)) (p1 v8.toNatClampNeg) v4) (fun o9 => bnd (v8 + (1 : Int32)) (fun x10 => some (Sum.inl (o9, x10)))))))
def f_B_putGroups_j28 (n : Nat) (t_row_n : Nat) (p1_n : Nat) (t_size : Int32) (t_row : Nat → Int32) (p1 : Nat → Int64) (v2 : Int32) (v3 : Int32) (v4 : Int32) (v5 : Int32) : Option (Int32 × Int32 × (Nat → Int32)) :=
  bnd ((v5 - v3) / (8 : Int32)) (fun x21 => Option.bind (f_B_varint n t_row_n t_size t_row (((2 : Int64) * x21.toInt64) + (1 : Int64))) (fun o22 => bnd ((8 : Int32) * o22.1) (fun x23 => Option.bind (f_B_zeros n t_row_n o22.1 o22.2 (x21 * v4)) (fun o24 => Option.bind (lp (fun v => f_B_putGroups_l71 n t_row_n p1_n o24.1 p1 v2 v3 v4 v5 x23 v.1 v.2) n (o24.2, v3)) (fun o => some o)))))
def f_B_putGroups_l6 (n : Nat) (p1_n : Nat) (p1 : Nat → Int64) (v2 : Int32) (v5 : Int32) : Option ((Int32) ⊕ ((Int32))) :=
  (if v2 ≤ v5 then some (Sum.inr (v5)) else Option.bind (f_B_beginsOne n p1_n p1 v2 v5) (fun o28 => (if o28 = 0 then bnd (v5 + (8 : Int32)) (fun x30 => some (Sum.inl x30)) else some (Sum.inr (v5)))))
def f_B_putGroups (n : Nat) (t_row_n : Nat) (p1_n : Nat) (t_size : Int32) (t_row : Nat → Int32) (p1 : Nat → Int64) (v2 : Int32) (v3 : Int32) (v4 : Int32) : Option (Int32 × Int32 × (Nat → Int32)) :=
  bnd (v3 + (8 : Int32)) (fun x36 => Option.bind (lp (fun v => f_B_putGroups_l6 n p1_n p1 v2 v) n x36) (fun o => f_B_putGroups_j28 n t_row_n p1_n t_size t_row p1 v2 v3 v4 o))
set_option maxHeartbeats 4000000 in
set_option maxRecDepth 100000 in
theorem c_B_putGroups (l : Launch) (D : va_G) (k : ClassId × ClassId × ClassId) (a_t a_t_row a_p1 : Nat) (t_row_n p1_n : Nat) (t_size : Int32) (t_row : Nat → Int32) (p1 : Nat → Int64) (v2 : Int32) (v3 : Int32) (v4 : Int32) (n : Nat) (out : Int32 × Int32 × (Nat → Int32)) (h : f_B_putGroups n t_row_n p1_n t_size t_row p1 v2 v3 v4 = some out) : Ct l D k y_B_putGroups b_B_putGroups 9 (some .int) rm_B_putGroups [.ref a_t, .ref a_p1, .int v2, .int v3, .int v4] [(a_t, .inr (0, [.ref a_t_row, .int t_size])), (a_t_row, .inl (k.1, t_row_n, .inl t_row)), (a_p1, .inl (k.2.2, p1_n, .inr (.inl p1)))] [(a_t, .inr (0, [.ref a_t_row, .int out.2.1])), (a_t_row, .inl (k.1, t_row_n, .inl out.2.2)), (a_p1, .inl (k.2.2, p1_n, .inr (.inl p1)))] (some (.int out.1)) := by
  refine Ct.ofI (by decide) (Nat.le_of_ble_eq_true rfl) ?_
  intro p e s m args below meth c A Q ls hx hb hml hown hts hA hK hP hD hS hE hl ret
  have hown : s.vm.findClass "PageForm$Bytes" = some m.cls := hown
  have hl : lv_has ls 9 [(0, .ref a_t), (1, .ref a_p1), (2, .int v2), (3, .int v3), (4, .int v4)] := hl
  have ret2 : ∀ (y0 : Int32) (y1 : Int32) (y2 : Nat → Int32) (_ : (y0, y1, y2) = out) {pc : Nat} {ls : Array Slot} {H : Heap} {locs : List Loc}, decode b_B_putGroups pc = .ok (.ireturn, 1) → va_P D CL [(a_t, .inr (0, [.ref a_t_row, .int y1])), (a_t_row, .inl (k.1, t_row_n, .inl y2)), (a_p1, .inl (k.2.2, p1_n, .inr (.inl p1)))] H → va_D A [(a_t, .inr (0, [.ref a_t_row, .int y1])), (a_t_row, .inl (k.1, t_row_n, .inl y2)), (a_p1, .inl (k.2.2, p1_n, .inr (.inl p1)))] → va_S A s.heap H locs → W p l e rm_B_putGroups s m args below meth c H locs 0 0 Q (F0 m pc ls [.int y0]) := by
    intro y0 y1 y2 e0; subst e0; exact ret
  clear ret
  have L71 : ∀ (K : Nat) (t_size : Int32) (t_row : Nat → Int32) (v5 : Int32) (v7 : Int32) (v8 : Int32) (o : (Int32 × Int32 × (Nat → Int32))) (H : Heap) (locs : List Loc) (ls : Array Slot), va_P D CL [(a_t, .inr (0, [.ref a_t_row, .int t_size])), (a_t_row, .inl (k.1, t_row_n, .inl t_row)), (a_p1, .inl (k.2.2, p1_n, .inr (.inl p1)))] H → va_D A [(a_t, .inr (0, [.ref a_t_row, .int t_size])), (a_t_row, .inl (k.1, t_row_n, .inl t_row)), (a_p1, .inl (k.2.2, p1_n, .inr (.inl p1)))] → va_S A s.heap H locs → lv_has ls 9 [(0, .ref a_t), (1, .ref a_p1), (2, .int v2), (3, .int v3), (4, .int v4), (5, .int v5), (7, .int v7), (8, .int v8)] → lp (fun v => f_B_putGroups_l71 n t_row_n p1_n t_size p1 v2 v3 v4 v5 v7 v.1 v.2) K (t_row, v8) = some o → (fun o => some o) o = some out → W p l e rm_B_putGroups s m args below meth c H locs 0 0 Q (F0 m 71 ls []) := by
    intro K
    induction K with
    | zero => intros; exact absurd (by assumption) lp_no
    | succ K ih71 =>
      intro t_size t_row v5 v7 v8 o H locs ls hP hD hS hl h0 hx71
      obtain ⟨b71, h, hc71⟩ := lp_at h0
      have h : f_B_putGroups_l71 n t_row_n p1_n t_size p1 v2 v3 v4 v5 v7 t_row v8 = some b71 := h
      unfold f_B_putGroups_l71 at h
      refine lv_iload hx hb d_B_putGroups_71 (lv_at hl 7 rfl) ?_
      refine lv_iload hx hb d_B_putGroups_73 (lv_at hl 5 rfl) ?_
      refine lv_icmp_ge (tgt := 110) hx hb d_B_putGroups_75 (by decide) (fun c => ?_) (fun c => ?_)
      · have h := ift_at h c
        refine lv_iload hx hb d_B_putGroups_110 (lv_at hl 5 rfl) ?_
        obtain rfl := lp_out h hc71
        exact ret2 _ _ _ (Option.some.inj hx71) d_B_putGroups_112 hP hD hS
      · have h := iff_at h c
        refine lv_iload hx hb d_B_putGroups_78 (lv_at hl 7 rfl) ?_
        refine lv_iload_n hx hb d_B_putGroups_80 rfl (lv_at hl 2 rfl) ?_
        refine lv_icmp_ge (tgt := 110) hx hb d_B_putGroups_81 (by decide) (fun c => ?_) (fun c => ?_)
        · have h := ift_at h c
          refine lv_iload hx hb d_B_putGroups_110 (lv_at hl 5 rfl) ?_
          obtain rfl := lp_out h hc71
          exact ret2 _ _ _ (Option.some.inj hx71) d_B_putGroups_112 hP hD hS
        · have h := iff_at h c
          refine lv_aload_n hx hb d_B_putGroups_84 rfl (lv_at hl 0 rfl) ?_
          refine lv_iload hx hb d_B_putGroups_85 (lv_at hl 6 rfl) ?_
          refine lv_iload hx hb d_B_putGroups_87 (lv_at hl 7 rfl) ?_
          refine lv_iload_n hx hb d_B_putGroups_89 rfl (lv_at hl 3 rfl) ?_
          refine lv_isub hx hb d_B_putGroups_90 ?_
          refine lv_iload hx hb d_B_putGroups_91 (lv_at hl 4 rfl) ?_
          refine lv_imul hx hb d_B_putGroups_93 ?_
          refine lv_iadd hx hb d_B_putGroups_94 ?_
          refine lv_aload_n hx hb d_B_putGroups_95 rfl (lv_at hl 1 rfl) ?_
          refine lv_iload hx hb d_B_putGroups_96 (lv_at hl 7 rfl) ?_
          obtain ⟨g8, h⟩ := gd_at h
          refine va_lald hx hb hK hP 2 2 rfl rfl (inB_in g8) d_B_putGroups_98 ?_
          refine lv_iload hx hb d_B_putGroups_99 (lv_at hl 4 rfl) ?_
          obtain ⟨o9, ho9, h⟩ := obd_at h
          refine g_V (As := [.int (v7 + ((v8 - v3) * v4)), .long (p1 v8.toNatClampNeg), .int v4]) (rest := []) hx hb hml hown hts hA hK hP hD hS hE (c_B_setBits l D k a_t a_t_row t_row_n t_size t_row (v7 + ((v8 - v3) * v4)) (p1 v8.toNatClampNeg) v4 n o9 ho9) mw_B_setBits mi_B_setBits ml_B_65 [0, 1] rfl (by decide) rfl rfl rfl 0 rfl rfl rfl rfl rfl hl.1 rfl (Nat.le_of_ble_eq_true rfl) ⟨Nat.zero_le _, Nat.zero_le _⟩ d_B_putGroups_101 (fun H locs hP hD hS => ?_)
          have hP : va_P D CL [(a_t, .inr (0, [.ref a_t_row, .int t_size])), (a_t_row, .inl (k.1, t_row_n, .inl o9)), (a_p1, .inl (k.2.2, p1_n, .inr (.inl p1)))] H := hP
          have hD : va_D A [(a_t, .inr (0, [.ref a_t_row, .int t_size])), (a_t_row, .inl (k.1, t_row_n, .inl o9)), (a_p1, .inl (k.2.2, p1_n, .inr (.inl p1)))] := hD
          refine W.eq (g2 := F0 m 104 ls []) rfl ?_
          obtain ⟨x10, ex10⟩ : ∃ z : Int32, z = v8 + (1 : Int32) := ⟨_, rfl⟩
          have h := bnd_at h ex10
          refine lv_iinc (v := x10) (lv' := [(8, .int x10), (0, .ref a_t), (1, .ref a_p1), (2, .int v2), (3, .int v3), (4, .int v4), (5, .int v5), (7, .int v7)]) hx hb d_B_putGroups_104 hl (k := 7) rfl (by rw [ex10]; rfl) (by decide) rfl (fun ls hl => ?_)
          refine lv_goto (tgt := 71) hx hb d_B_putGroups_107 (by decide) ?_
          have h := lp_go h hc71
          exact ih71 t_size o9 v5 v7 x10 o _ _ ls hP hD hS (lv_sub hl [1, 2, 3, 4, 5, 6, 7, 0] rfl) h hx71
  have J28 : ∀ (t_size : Int32) (t_row : Nat → Int32) (v5 : Int32) (H : Heap) (locs : List Loc) (ls : Array Slot), va_P D CL [(a_t, .inr (0, [.ref a_t_row, .int t_size])), (a_t_row, .inl (k.1, t_row_n, .inl t_row)), (a_p1, .inl (k.2.2, p1_n, .inr (.inl p1)))] H → va_D A [(a_t, .inr (0, [.ref a_t_row, .int t_size])), (a_t_row, .inl (k.1, t_row_n, .inl t_row)), (a_p1, .inl (k.2.2, p1_n, .inr (.inl p1)))] → va_S A s.heap H locs → lv_has ls 9 [(0, .ref a_t), (1, .ref a_p1), (2, .int v2), (3, .int v3), (4, .int v4), (5, .int v5)] → f_B_putGroups_j28 n t_row_n p1_n t_size t_row p1 v2 v3 v4 v5 = some out → W p l e rm_B_putGroups s m args below meth c H locs 0 0 Q (F0 m 28 ls []) := by
    intro t_size t_row v5 H locs ls hP hD hS hl h
    unfold f_B_putGroups_j28 at h
    refine lv_iload hx hb d_B_putGroups_28 (lv_at hl 5 rfl) ?_
    refine lv_iload_n hx hb d_B_putGroups_30 rfl (lv_at hl 3 rfl) ?_
    refine lv_isub hx hb d_B_putGroups_31 ?_
    refine lv_bipush (v := 8) hx hb d_B_putGroups_32 (by decide) ?_
    refine lv_idiv hx hb d_B_putGroups_34 (by decide) ?_
    refine lv_topi (fun x21 ex21 => ?_)
    have h := bnd_at h ex21
    refine lv_istore (lv' := [(6, .int x21), (0, .ref a_t), (1, .ref a_p1), (2, .int v2), (3, .int v3), (4, .int v4), (5, .int v5)]) hx hb d_B_putGroups_35 hl (by decide) rfl (fun ls hl => ?_)
    refine lv_aload_n hx hb d_B_putGroups_37 rfl (lv_at hl 1 rfl) ?_
    refine lv_ldc2 (v := 2) hx hb hown (hts _ kc_B_56) d_B_putGroups_38 ?_
    refine lv_iload hx hb d_B_putGroups_41 (lv_at hl 0 rfl) ?_
    refine lv_i2l hx hb d_B_putGroups_43 rfl ?_
    refine lv_lmul hx hb d_B_putGroups_44 ?_
    refine lv_lconst (v := 1) hx hb d_B_putGroups_45 (by decide) ?_
    refine lv_ladd hx hb d_B_putGroups_46 ?_
    obtain ⟨o22, ho22, h⟩ := obd_at h
    refine g_V (As := [.long (((2 : Int64) * x21.toInt64) + (1 : Int64))]) (rest := []) hx hb hml hown hts hA hK hP hD hS hE (c_B_varint l D k a_t a_t_row t_row_n t_size t_row (((2 : Int64) * x21.toInt64) + (1 : Int64)) n o22 ho22) mw_B_varint mi_B_varint ml_B_31 [0, 1] rfl (by decide) rfl rfl rfl 0 rfl rfl rfl rfl rfl hl.1 rfl (Nat.le_of_ble_eq_true rfl) ⟨Nat.zero_le _, Nat.zero_le _⟩ d_B_putGroups_47 (fun H locs hP hD hS => ?_)
    have hP : va_P D CL [(a_t, .inr (0, [.ref a_t_row, .int o22.1])), (a_t_row, .inl (k.1, t_row_n, .inl o22.2)), (a_p1, .inl (k.2.2, p1_n, .inr (.inl p1)))] H := hP
    have hD : va_D A [(a_t, .inr (0, [.ref a_t_row, .int o22.1])), (a_t_row, .inl (k.1, t_row_n, .inl o22.2)), (a_p1, .inl (k.2.2, p1_n, .inr (.inl p1)))] := hD
    refine W.eq (g2 := F0 m 50 ls []) rfl ?_
    refine lv_bipush (v := 8) hx hb d_B_putGroups_50 (by decide) ?_
    refine lv_aload_n hx hb d_B_putGroups_52 rfl (lv_at hl 1 rfl) ?_
    refine va_get (D := D) (ci := 0) (v := .int o22.1) (C := "PageForm$Bytes") (T := F_B) (N := 2) hx hb hts in_B hown hK hP 0 rfl rfl 1 (by decide) (hts _ fl_B_15) (fun _ h9 => h9) rfl d_B_putGroups_53 ?_
    refine lv_imul hx hb d_B_putGroups_56 ?_
    refine lv_topi (fun x23 ex23 => ?_)
    have h := bnd_at h ex23
    refine lv_istore (lv' := [(7, .int x23), (6, .int x21), (0, .ref a_t), (1, .ref a_p1), (2, .int v2), (3, .int v3), (4, .int v4), (5, .int v5)]) hx hb d_B_putGroups_57 hl (by decide) rfl (fun ls hl => ?_)
    refine lv_aload_n hx hb d_B_putGroups_59 rfl (lv_at hl 2 rfl) ?_
    refine lv_iload hx hb d_B_putGroups_60 (lv_at hl 1 rfl) ?_
    refine lv_iload hx hb d_B_putGroups_62 (lv_at hl 6 rfl) ?_
    refine lv_imul hx hb d_B_putGroups_64 ?_
    obtain ⟨o24, ho24, h⟩ := obd_at h
    refine g_V (As := [.int (x21 * v4)]) (rest := []) hx hb hml hown hts hA hK hP hD hS hE (c_B_zeros l D k a_t a_t_row t_row_n o22.1 o22.2 (x21 * v4) n o24 ho24) mw_B_zeros mi_B_zeros ml_B_62 [0, 1] rfl (by decide) rfl rfl rfl 0 rfl rfl rfl rfl rfl hl.1 rfl (Nat.le_of_ble_eq_true rfl) ⟨Nat.zero_le _, Nat.zero_le _⟩ d_B_putGroups_65 (fun H locs hP hD hS => ?_)
    have hP : va_P D CL [(a_t, .inr (0, [.ref a_t_row, .int o24.1])), (a_t_row, .inl (k.1, t_row_n, .inl o24.2)), (a_p1, .inl (k.2.2, p1_n, .inr (.inl p1)))] H := hP
    have hD : va_D A [(a_t, .inr (0, [.ref a_t_row, .int o24.1])), (a_t_row, .inl (k.1, t_row_n, .inl o24.2)), (a_p1, .inl (k.2.2, p1_n, .inr (.inl p1)))] := hD
    refine W.eq (g2 := F0 m 68 ls []) rfl ?_
    refine lv_iload_n hx hb d_B_putGroups_68 rfl (lv_at hl 5 rfl) ?_
    refine lv_istore (lv' := [(8, .int v3), (7, .int x23), (6, .int x21), (0, .ref a_t), (1, .ref a_p1), (2, .int v2), (3, .int v3), (4, .int v4), (5, .int v5)]) hx hb d_B_putGroups_69 hl (by decide) rfl (fun ls hl => ?_)
    obtain ⟨o25, ho25, h⟩ := obd_at h
    exact L71 n o24.1 o24.2 v5 x23 v3 o25 _ _ ls hP hD hS (lv_sub hl [3, 4, 5, 6, 7, 8, 1, 0] rfl) ho25 h
  have L6 : ∀ (K : Nat) (t_size : Int32) (t_row : Nat → Int32) (v5 : Int32) (o : (Int32)) (H : Heap) (locs : List Loc) (ls : Array Slot), va_P D CL [(a_t, .inr (0, [.ref a_t_row, .int t_size])), (a_t_row, .inl (k.1, t_row_n, .inl t_row)), (a_p1, .inl (k.2.2, p1_n, .inr (.inl p1)))] H → va_D A [(a_t, .inr (0, [.ref a_t_row, .int t_size])), (a_t_row, .inl (k.1, t_row_n, .inl t_row)), (a_p1, .inl (k.2.2, p1_n, .inr (.inl p1)))] → va_S A s.heap H locs → lv_has ls 9 [(0, .ref a_t), (1, .ref a_p1), (2, .int v2), (3, .int v3), (4, .int v4), (5, .int v5)] → lp (fun v => f_B_putGroups_l6 n p1_n p1 v2 v) K v5 = some o → (fun o => f_B_putGroups_j28 n t_row_n p1_n t_size t_row p1 v2 v3 v4 o) o = some out → W p l e rm_B_putGroups s m args below meth c H locs 0 0 Q (F0 m 6 ls []) := by
    intro K
    induction K with
    | zero => intros; exact absurd (by assumption) lp_no
    | succ K ih6 =>
      intro t_size t_row v5 o H locs ls hP hD hS hl h0 hx6
      obtain ⟨b6, h, hc6⟩ := lp_at h0
      have h : f_B_putGroups_l6 n p1_n p1 v2 v5 = some b6 := h
      unfold f_B_putGroups_l6 at h
      refine lv_iload hx hb d_B_putGroups_6 (lv_at hl 5 rfl) ?_
      refine lv_iload_n hx hb d_B_putGroups_8 rfl (lv_at hl 2 rfl) ?_
      refine lv_icmp_ge (tgt := 28) hx hb d_B_putGroups_9 (by decide) (fun c => ?_) (fun c => ?_)
      · have h := ift_at h c
        obtain rfl := lp_out h hc6
        exact J28 t_size t_row v5 _ _ ls hP hD hS (lv_sub hl [0, 1, 2, 3, 4, 5] rfl) hx6
      · have h := iff_at h c
        refine lv_aload_n hx hb d_B_putGroups_12 rfl (lv_at hl 1 rfl) ?_
        refine lv_iload_n hx hb d_B_putGroups_13 rfl (lv_at hl 2 rfl) ?_
        refine lv_iload hx hb d_B_putGroups_14 (lv_at hl 5 rfl) ?_
        obtain ⟨o28, ho28, h⟩ := obd_at h
        refine g_S (As := [.ref a_p1, .int v2, .int v5]) (rest := []) hx hb hml hown hts hA hK hP hD hS hE (c_B_beginsOne l D k a_p1 p1_n p1 v2 v5 n o28 ho28) mw_B_beginsOne ms_B_beginsOne ml_B_45 [2] rfl (by decide) rfl rfl rfl rfl rfl hl.1 rfl (Nat.le_of_ble_eq_true rfl) ⟨Nat.zero_le _, Nat.zero_le _⟩ d_B_putGroups_16 (fun H locs hP hD hS => ?_)
        have hP : va_P D CL [(a_t, .inr (0, [.ref a_t_row, .int t_size])), (a_t_row, .inl (k.1, t_row_n, .inl t_row)), (a_p1, .inl (k.2.2, p1_n, .inr (.inl p1)))] H := hP
        have hD : va_D A [(a_t, .inr (0, [.ref a_t_row, .int t_size])), (a_t_row, .inl (k.1, t_row_n, .inl t_row)), (a_p1, .inl (k.2.2, p1_n, .inr (.inl p1)))] := hD
        refine W.eq (g2 := F0 m 19 ls [.int o28]) rfl ?_
        refine lv_if_ne (tgt := 28) hx hb d_B_putGroups_19 (by decide) (fun c => ?_) (fun c => ?_)
        · have h := iff_at h c
          obtain rfl := lp_out h hc6
          exact J28 t_size t_row v5 _ _ ls hP hD hS (lv_sub hl [0, 1, 2, 3, 4, 5] rfl) hx6
        · have h := ift_at h c
          obtain ⟨x30, ex30⟩ : ∃ z : Int32, z = v5 + (8 : Int32) := ⟨_, rfl⟩
          have h := bnd_at h ex30
          refine lv_iinc (v := x30) (lv' := [(5, .int x30), (0, .ref a_t), (1, .ref a_p1), (2, .int v2), (3, .int v3), (4, .int v4)]) hx hb d_B_putGroups_22 hl (k := 5) rfl (by rw [ex30]; rfl) (by decide) rfl (fun ls hl => ?_)
          refine lv_goto (tgt := 6) hx hb d_B_putGroups_25 (by decide) ?_
          have h := lp_go h hc6
          exact ih6 t_size t_row x30 o _ _ ls hP hD hS (lv_sub hl [1, 2, 3, 4, 5, 0] rfl) h hx6
  unfold f_B_putGroups at h
  refine lv_iload_n hx hb d_B_putGroups_0 rfl (lv_at hl 3 rfl) ?_
  refine lv_bipush (v := 8) hx hb d_B_putGroups_1 (by decide) ?_
  refine lv_iadd hx hb d_B_putGroups_3 ?_
  refine lv_topi (fun x36 ex36 => ?_)
  have h := bnd_at h ex36
  refine lv_istore (lv' := [(5, .int x36), (0, .ref a_t), (1, .ref a_p1), (2, .int v2), (3, .int v3), (4, .int v4)]) hx hb d_B_putGroups_4 hl (by decide) rfl (fun ls hl => ?_)
  obtain ⟨o37, ho37, h⟩ := obd_at h
  exact L6 n t_size t_row x36 o37 _ _ ls hP hD hS (lv_sub hl [1, 2, 3, 4, 5, 0] rfl) ho37 h

def rm_B_runs : Room := { frames := 4, cells := 0, slots := 0, locals := 95 }
def f_B_runs_l6 (n : Nat) (t_row_n : Nat) (p1_n : Nat) (p1 : Nat → Int64) (v2 : Int32) (v3 : Int32) (t_size : Int32) (t_row : Nat → Int32) (v4 : Int32) (v5 : Int32) : Option ((Int32 × (Nat → Int32) × Int32 × Int32) ⊕ ((Int32 × (Nat → Int32)))) :=
  (if v2 ≤ v5 then some (Sum.inr ((t_size, t_row))) else (if v2 ≤ v4 then some (Sum.inr ((t_size, t_row))) else Option.bind (f_B_beginsOne n p1_n p1 v2 v4) (fun o7 => (if o7 = 0 then Option.bind (f_B_putGroups n t_row_n p1_n t_size t_row p1 v2 v4 v3) (fun o8 => bnd (v5 + (1 : Int32)) (fun x9 => some (Sum.inl (o8.2.1, o8.2.2, o8.1, x9)))) else Option.bind (f_B_putOne n t_row_n p1_n t_size t_row p1 v2 v4 v3) (fun o13 => bnd (v5 + (1 : Int32)) (fun x14 => some (Sum.inl (o13.2.1, o13.2.2, o13.1, x14))))))))
def f_B_runs (n : Nat) (t_row_n : Nat) (p1_n : Nat) (t_size : Int32) (t_row : Nat → Int32) (p1 : Nat → Int64) (v2 : Int32) (v3 : Int32) : Option (Int32 × (Nat → Int32)) :=
  Option.bind (lp (fun v => f_B_runs_l6 n t_row_n p1_n p1 v2 v3 v.1 v.2.1 v.2.2.1 v.2.2.2) n (t_size, t_row, (0 : Int32), (0 : Int32))) (fun o => some o)
set_option maxHeartbeats 4000000 in
set_option maxRecDepth 100000 in
theorem c_B_runs (l : Launch) (D : va_G) (k : ClassId × ClassId × ClassId) (a_t a_t_row a_p1 : Nat) (t_row_n p1_n : Nat) (t_size : Int32) (t_row : Nat → Int32) (p1 : Nat → Int64) (v2 : Int32) (v3 : Int32) (n : Nat) (out : Int32 × (Nat → Int32)) (h : f_B_runs n t_row_n p1_n t_size t_row p1 v2 v3 = some out) : Ct l D k y_B_runs b_B_runs 6 none rm_B_runs [.ref a_t, .ref a_p1, .int v2, .int v3] [(a_t, .inr (0, [.ref a_t_row, .int t_size])), (a_t_row, .inl (k.1, t_row_n, .inl t_row)), (a_p1, .inl (k.2.2, p1_n, .inr (.inl p1)))] [(a_t, .inr (0, [.ref a_t_row, .int out.1])), (a_t_row, .inl (k.1, t_row_n, .inl out.2)), (a_p1, .inl (k.2.2, p1_n, .inr (.inl p1)))] none := by
  refine Ct.ofV (by decide) (Nat.le_of_ble_eq_true rfl) ?_
  intro p e s m args below meth c A Q ls hx hb hml hown hts hA hK hP hD hS hE hl ret
  have hown : s.vm.findClass "PageForm$Bytes" = some m.cls := hown
  have hl : lv_has ls 6 [(0, .ref a_t), (1, .ref a_p1), (2, .int v2), (3, .int v3)] := hl
  have ret2 : ∀ (y0 : Int32) (y1 : Nat → Int32) (_ : (y0, y1) = out) {pc : Nat} {ls : Array Slot} {H : Heap} {locs : List Loc}, decode b_B_runs pc = .ok (.return_, 1) → va_P D CL [(a_t, .inr (0, [.ref a_t_row, .int y0])), (a_t_row, .inl (k.1, t_row_n, .inl y1)), (a_p1, .inl (k.2.2, p1_n, .inr (.inl p1)))] H → va_D A [(a_t, .inr (0, [.ref a_t_row, .int y0])), (a_t_row, .inl (k.1, t_row_n, .inl y1)), (a_p1, .inl (k.2.2, p1_n, .inr (.inl p1)))] → va_S A s.heap H locs → W p l e rm_B_runs s m args below meth c H locs 0 0 Q (F0 m pc ls []) := by
    intro y0 y1 e0; subst e0; exact ret
  clear ret
  have L6 : ∀ (K : Nat) (t_size : Int32) (t_row : Nat → Int32) (v4 : Int32) (v5 : Int32) (o : (Int32 × (Nat → Int32))) (H : Heap) (locs : List Loc) (ls : Array Slot), va_P D CL [(a_t, .inr (0, [.ref a_t_row, .int t_size])), (a_t_row, .inl (k.1, t_row_n, .inl t_row)), (a_p1, .inl (k.2.2, p1_n, .inr (.inl p1)))] H → va_D A [(a_t, .inr (0, [.ref a_t_row, .int t_size])), (a_t_row, .inl (k.1, t_row_n, .inl t_row)), (a_p1, .inl (k.2.2, p1_n, .inr (.inl p1)))] → va_S A s.heap H locs → lv_has ls 6 [(0, .ref a_t), (1, .ref a_p1), (2, .int v2), (3, .int v3), (4, .int v4), (5, .int v5)] → lp (fun v => f_B_runs_l6 n t_row_n p1_n p1 v2 v3 v.1 v.2.1 v.2.2.1 v.2.2.2) K (t_size, t_row, v4, v5) = some o → (fun o => some o) o = some out → W p l e rm_B_runs s m args below meth c H locs 0 0 Q (F0 m 6 ls []) := by
    intro K
    induction K with
    | zero => intros; exact absurd (by assumption) lp_no
    | succ K ih6 =>
      intro t_size t_row v4 v5 o H locs ls hP hD hS hl h0 hx6
      obtain ⟨b6, h, hc6⟩ := lp_at h0
      have h : f_B_runs_l6 n t_row_n p1_n p1 v2 v3 t_size t_row v4 v5 = some b6 := h
      unfold f_B_runs_l6 at h
      refine lv_iload hx hb d_B_runs_6 (lv_at hl 5 rfl) ?_
      refine lv_iload_n hx hb d_B_runs_8 rfl (lv_at hl 2 rfl) ?_
      refine lv_icmp_ge (tgt := 57) hx hb d_B_runs_9 (by decide) (fun c => ?_) (fun c => ?_)
      · have h := ift_at h c
        obtain rfl := lp_out h hc6
        exact ret2 _ _ (Option.some.inj hx6) d_B_runs_57 hP hD hS
      · have h := iff_at h c
        refine lv_iload hx hb d_B_runs_12 (lv_at hl 4 rfl) ?_
        refine lv_iload_n hx hb d_B_runs_14 rfl (lv_at hl 2 rfl) ?_
        refine lv_icmp_ge (tgt := 57) hx hb d_B_runs_15 (by decide) (fun c => ?_) (fun c => ?_)
        · have h := ift_at h c
          obtain rfl := lp_out h hc6
          exact ret2 _ _ (Option.some.inj hx6) d_B_runs_57 hP hD hS
        · have h := iff_at h c
          refine lv_aload_n hx hb d_B_runs_18 rfl (lv_at hl 1 rfl) ?_
          refine lv_iload_n hx hb d_B_runs_19 rfl (lv_at hl 2 rfl) ?_
          refine lv_iload hx hb d_B_runs_20 (lv_at hl 4 rfl) ?_
          obtain ⟨o7, ho7, h⟩ := obd_at h
          refine g_S (As := [.ref a_p1, .int v2, .int v4]) (rest := []) hx hb hml hown hts hA hK hP hD hS hE (c_B_beginsOne l D k a_p1 p1_n p1 v2 v4 n o7 ho7) mw_B_beginsOne ms_B_beginsOne ml_B_45 [2] rfl (by decide) rfl rfl rfl rfl rfl hl.1 rfl (Nat.le_of_ble_eq_true rfl) ⟨Nat.zero_le _, Nat.zero_le _⟩ d_B_runs_22 (fun H locs hP hD hS => ?_)
          have hP : va_P D CL [(a_t, .inr (0, [.ref a_t_row, .int t_size])), (a_t_row, .inl (k.1, t_row_n, .inl t_row)), (a_p1, .inl (k.2.2, p1_n, .inr (.inl p1)))] H := hP
          have hD : va_D A [(a_t, .inr (0, [.ref a_t_row, .int t_size])), (a_t_row, .inl (k.1, t_row_n, .inl t_row)), (a_p1, .inl (k.2.2, p1_n, .inr (.inl p1)))] := hD
          refine W.eq (g2 := F0 m 25 ls [.int o7]) rfl ?_
          refine lv_if_eq (tgt := 40) hx hb d_B_runs_25 (by decide) (fun c => ?_) (fun c => ?_)
          · have h := ift_at h c
            refine lv_aload_n hx hb d_B_runs_40 rfl (lv_at hl 0 rfl) ?_
            refine lv_aload_n hx hb d_B_runs_41 rfl (lv_at hl 1 rfl) ?_
            refine lv_iload_n hx hb d_B_runs_42 rfl (lv_at hl 2 rfl) ?_
            refine lv_iload hx hb d_B_runs_43 (lv_at hl 4 rfl) ?_
            refine lv_iload_n hx hb d_B_runs_45 rfl (lv_at hl 3 rfl) ?_
            obtain ⟨o8, ho8, h⟩ := obd_at h
            refine g_V (As := [.ref a_p1, .int v2, .int v4, .int v3]) (rest := []) hx hb hml hown hts hA hK hP hD hS hE (c_B_putGroups l D k a_t a_t_row a_p1 t_row_n p1_n t_size t_row p1 v2 v4 v3 n o8 ho8) mw_B_putGroups mi_B_putGroups ml_B_53 [0, 1, 2] rfl (by decide) rfl rfl rfl 0 rfl rfl rfl rfl rfl hl.1 rfl (Nat.le_of_ble_eq_true rfl) ⟨Nat.zero_le _, Nat.zero_le _⟩ d_B_runs_46 (fun H locs hP hD hS => ?_)
            have hP : va_P D CL [(a_t, .inr (0, [.ref a_t_row, .int o8.2.1])), (a_t_row, .inl (k.1, t_row_n, .inl o8.2.2)), (a_p1, .inl (k.2.2, p1_n, .inr (.inl p1)))] H := hP
            have hD : va_D A [(a_t, .inr (0, [.ref a_t_row, .int o8.2.1])), (a_t_row, .inl (k.1, t_row_n, .inl o8.2.2)), (a_p1, .inl (k.2.2, p1_n, .inr (.inl p1)))] := hD
            refine W.eq (g2 := F0 m 49 ls [.int o8.1]) rfl ?_
            refine lv_istore (lv' := [(4, .int o8.1), (0, .ref a_t), (1, .ref a_p1), (2, .int v2), (3, .int v3), (5, .int v5)]) hx hb d_B_runs_49 hl (by decide) rfl (fun ls hl => ?_)
            obtain ⟨x9, ex9⟩ : ∃ z : Int32, z = v5 + (1 : Int32) := ⟨_, rfl⟩
            have h := bnd_at h ex9
            refine lv_iinc (v := x9) (lv' := [(5, .int x9), (4, .int o8.1), (0, .ref a_t), (1, .ref a_p1), (2, .int v2), (3, .int v3)]) hx hb d_B_runs_51 hl (k := 5) rfl (by rw [ex9]; rfl) (by decide) rfl (fun ls hl => ?_)
            refine lv_goto (tgt := 6) hx hb d_B_runs_54 (by decide) ?_
            have h := lp_go h hc6
            exact ih6 o8.2.1 o8.2.2 o8.1 x9 o _ _ ls hP hD hS (lv_sub hl [2, 3, 4, 5, 1, 0] rfl) h hx6
          · have h := iff_at h c
            refine lv_aload_n hx hb d_B_runs_28 rfl (lv_at hl 0 rfl) ?_
            refine lv_aload_n hx hb d_B_runs_29 rfl (lv_at hl 1 rfl) ?_
            refine lv_iload_n hx hb d_B_runs_30 rfl (lv_at hl 2 rfl) ?_
            refine lv_iload hx hb d_B_runs_31 (lv_at hl 4 rfl) ?_
            refine lv_iload_n hx hb d_B_runs_33 rfl (lv_at hl 3 rfl) ?_
            obtain ⟨o13, ho13, h⟩ := obd_at h
            refine g_V (As := [.ref a_p1, .int v2, .int v4, .int v3]) (rest := []) hx hb hml hown hts hA hK hP hD hS hE (c_B_putOne l D k a_t a_t_row a_p1 t_row_n p1_n t_size t_row p1 v2 v4 v3 n o13 ho13) mw_B_putOne mi_B_putOne ml_B_49 [0, 1, 2] rfl (by decide) rfl rfl rfl 0 rfl rfl rfl rfl rfl hl.1 rfl (Nat.le_of_ble_eq_true rfl) ⟨Nat.zero_le _, Nat.zero_le _⟩ d_B_runs_34 (fun H locs hP hD hS => ?_)
            have hP : va_P D CL [(a_t, .inr (0, [.ref a_t_row, .int o13.2.1])), (a_t_row, .inl (k.1, t_row_n, .inl o13.2.2)), (a_p1, .inl (k.2.2, p1_n, .inr (.inl p1)))] H := hP
            have hD : va_D A [(a_t, .inr (0, [.ref a_t_row, .int o13.2.1])), (a_t_row, .inl (k.1, t_row_n, .inl o13.2.2)), (a_p1, .inl (k.2.2, p1_n, .inr (.inl p1)))] := hD
            refine W.eq (g2 := F0 m 37 ls [.int o13.1]) rfl ?_
            refine lv_goto (tgt := 49) hx hb d_B_runs_37 (by decide) ?_
            refine lv_istore (lv' := [(4, .int o13.1), (0, .ref a_t), (1, .ref a_p1), (2, .int v2), (3, .int v3), (5, .int v5)]) hx hb d_B_runs_49 hl (by decide) rfl (fun ls hl => ?_)
            obtain ⟨x14, ex14⟩ : ∃ z : Int32, z = v5 + (1 : Int32) := ⟨_, rfl⟩
            have h := bnd_at h ex14
            refine lv_iinc (v := x14) (lv' := [(5, .int x14), (4, .int o13.1), (0, .ref a_t), (1, .ref a_p1), (2, .int v2), (3, .int v3)]) hx hb d_B_runs_51 hl (k := 5) rfl (by rw [ex14]; rfl) (by decide) rfl (fun ls hl => ?_)
            refine lv_goto (tgt := 6) hx hb d_B_runs_54 (by decide) ?_
            have h := lp_go h hc6
            exact ih6 o13.2.1 o13.2.2 o13.1 x14 o _ _ ls hP hD hS (lv_sub hl [2, 3, 4, 5, 1, 0] rfl) h hx6
  unfold f_B_runs at h
  refine lv_iconst (v := 0) hx hb d_B_runs_0 (by decide) ?_
  refine lv_istore (lv' := [(4, .int (0 : Int32)), (0, .ref a_t), (1, .ref a_p1), (2, .int v2), (3, .int v3)]) hx hb d_B_runs_1 hl (by decide) rfl (fun ls hl => ?_)
  refine lv_iconst (v := 0) hx hb d_B_runs_3 (by decide) ?_
  refine lv_istore (lv' := [(5, .int (0 : Int32)), (4, .int (0 : Int32)), (0, .ref a_t), (1, .ref a_p1), (2, .int v2), (3, .int v3)]) hx hb d_B_runs_4 hl (by decide) rfl (fun ls hl => ?_)
  obtain ⟨o30, ho30, h⟩ := obd_at h
  exact L6 n t_size t_row (0 : Int32) (0 : Int32) o30 _ _ ls hP hD hS (lv_sub hl [2, 3, 4, 5, 1, 0] rfl) ho30 h

def rm_F_zigzag : Room := { frames := 0, cells := 0, slots := 0, locals := 0 }
def f_F_zigzag (v0 : Int64) : Option (Int64) :=
  some ((v0 <<< ((1 : Int32).toInt64 &&& 63)) ^^^ (v0 >>> ((63 : Int32).toInt64 &&& 63)))
set_option maxHeartbeats 4000000 in
set_option maxRecDepth 100000 in
theorem c_F_zigzag (l : Launch) (D : va_G) (k : ClassId × ClassId × ClassId) (v0 : Int64) (n : Nat) (out : Int64) (h : f_F_zigzag v0 = some out) : Ct l D k y_F_zigzag b_F_zigzag 2 (some .long) rm_F_zigzag [.long v0] [] [] (some (.long out)) := by
  refine Ct.ofL (by decide) (Nat.le_of_ble_eq_true rfl) ?_
  intro p e s m args below meth c A Q ls hx hb hml hown hts hA hK hP hD hS hE hl ret
  have hown : s.vm.findClass "PageForm" = some m.cls := hown
  have hl : lv_has ls 2 [(0, .long v0)] := hl
  have ret2 : ∀ (y0 : Int64) (_ : y0 = out) {pc : Nat} {ls : Array Slot} {H : Heap} {locs : List Loc}, decode b_F_zigzag pc = .ok (.lreturn, 1) → va_P D CL [] H → va_D A [] → va_S A s.heap H locs → W p l e rm_F_zigzag s m args below meth c H locs 0 0 Q (F0 m pc ls [.long y0]) := by
    intro y0 e0; subst e0; exact ret
  clear ret
  unfold f_F_zigzag at h
  refine lv_lload_n hx hb d_F_zigzag_0 rfl (lv_at hl 0 rfl) ?_
  refine lv_iconst (v := 1) hx hb d_F_zigzag_1 (by decide) ?_
  refine lv_lshl hx hb d_F_zigzag_2 rfl ?_
  refine lv_lload_n hx hb d_F_zigzag_3 rfl (lv_at hl 0 rfl) ?_
  refine lv_bipush (v := 63) hx hb d_F_zigzag_4 (by decide) ?_
  refine lv_lshr hx hb d_F_zigzag_6 rfl ?_
  refine lv_lxor hx hb d_F_zigzag_7 ?_
  exact ret2 _ (Option.some.inj h) d_F_zigzag_8 hP hD hS

def rm_F_widthOf : Room := { frames := 0, cells := 0, slots := 0, locals := 0 }
def f_F_widthOf_l2 (v0 : Int64) (v2 : Int32) : Option ((Int32) ⊕ ((Int32))) :=
  (if (64 : Int32) ≤ v2 then some (Sum.inr (v2)) else (if ((v0.toUInt64 >>> (v2.toInt64.toUInt64 &&& Int64.toUInt64 63)).toInt64) = (0 : Int64) then some (Sum.inr (v2)) else bnd (v2 + (1 : Int32)) (fun x1 => some (Sum.inl x1))))
def f_F_widthOf (n : Nat) (v0 : Int64) : Option (Int32) :=
  Option.bind (lp (fun v => f_F_widthOf_l2 v0 v) n (0 : Int32)) (fun o => some o)
set_option maxHeartbeats 4000000 in
set_option maxRecDepth 100000 in
theorem c_F_widthOf (l : Launch) (D : va_G) (k : ClassId × ClassId × ClassId) (v0 : Int64) (n : Nat) (out : Int32) (h : f_F_widthOf n v0 = some out) : Ct l D k y_F_widthOf b_F_widthOf 3 (some .int) rm_F_widthOf [.long v0] [] [] (some (.int out)) := by
  refine Ct.ofI (by decide) (Nat.le_of_ble_eq_true rfl) ?_
  intro p e s m args below meth c A Q ls hx hb hml hown hts hA hK hP hD hS hE hl ret
  have hown : s.vm.findClass "PageForm" = some m.cls := hown
  have hl : lv_has ls 3 [(0, .long v0)] := hl
  have ret2 : ∀ (y0 : Int32) (_ : y0 = out) {pc : Nat} {ls : Array Slot} {H : Heap} {locs : List Loc}, decode b_F_widthOf pc = .ok (.ireturn, 1) → va_P D CL [] H → va_D A [] → va_S A s.heap H locs → W p l e rm_F_widthOf s m args below meth c H locs 0 0 Q (F0 m pc ls [.int y0]) := by
    intro y0 e0; subst e0; exact ret
  clear ret
  have L2 : ∀ (K : Nat) (v2 : Int32) (o : (Int32)) (H : Heap) (locs : List Loc) (ls : Array Slot), va_P D CL [] H → va_D A [] → va_S A s.heap H locs → lv_has ls 3 [(0, .long v0), (2, .int v2)] → lp (fun v => f_F_widthOf_l2 v0 v) K v2 = some o → (fun o => some o) o = some out → W p l e rm_F_widthOf s m args below meth c H locs 0 0 Q (F0 m 2 ls []) := by
    intro K
    induction K with
    | zero => intros; exact absurd (by assumption) lp_no
    | succ K ih2 =>
      intro v2 o H locs ls hP hD hS hl h0 hx2
      obtain ⟨b2, h, hc2⟩ := lp_at h0
      have h : f_F_widthOf_l2 v0 v2 = some b2 := h
      unfold f_F_widthOf_l2 at h
      refine lv_iload_n hx hb d_F_widthOf_2 rfl (lv_at hl 1 rfl) ?_
      refine lv_bipush (v := 64) hx hb d_F_widthOf_3 (by decide) ?_
      refine lv_icmp_ge (tgt := 22) hx hb d_F_widthOf_5 (by decide) (fun c => ?_) (fun c => ?_)
      · have h := ift_at h c
        refine lv_iload_n hx hb d_F_widthOf_22 rfl (lv_at hl 1 rfl) ?_
        obtain rfl := lp_out h hc2
        exact ret2 _ (Option.some.inj hx2) d_F_widthOf_23 hP hD hS
      · have h := iff_at h c
        refine lv_lload_n hx hb d_F_widthOf_8 rfl (lv_at hl 0 rfl) ?_
        refine lv_iload_n hx hb d_F_widthOf_9 rfl (lv_at hl 1 rfl) ?_
        refine lv_lushr hx hb d_F_widthOf_10 rfl ?_
        refine lv_lconst (v := 0) hx hb d_F_widthOf_11 (by decide) ?_
        refine W.lcmp hx hb d_F_widthOf_12 ?_
        refine lv_if_eq (tgt := 22) hx hb d_F_widthOf_13 (by decide) (fun c => ?_) (fun c => ?_)
        · have c := zc_eq.mp c
          have h := ift_at h c
          refine lv_iload_n hx hb d_F_widthOf_22 rfl (lv_at hl 1 rfl) ?_
          obtain rfl := lp_out h hc2
          exact ret2 _ (Option.some.inj hx2) d_F_widthOf_23 hP hD hS
        · have c := mt zc_eq.mpr c
          have h := iff_at h c
          obtain ⟨x1, ex1⟩ : ∃ z : Int32, z = v2 + (1 : Int32) := ⟨_, rfl⟩
          have h := bnd_at h ex1
          refine lv_iinc (v := x1) (lv' := [(2, .int x1), (0, .long v0)]) hx hb d_F_widthOf_16 hl (k := 1) rfl (by rw [ex1]; rfl) (by decide) rfl (fun ls hl => ?_)
          refine lv_goto (tgt := 2) hx hb d_F_widthOf_19 (by decide) ?_
          have h := lp_go h hc2
          exact ih2 x1 o _ _ ls hP hD hS (lv_sub hl [1, 0] rfl) h hx2
  unfold f_F_widthOf at h
  refine lv_iconst (v := 0) hx hb d_F_widthOf_0 (by decide) ?_
  refine lv_istore_n (lv' := [(2, .int (0 : Int32)), (0, .long v0)]) hx hb d_F_widthOf_1 rfl hl (by decide) rfl (fun ls hl => ?_)
  obtain ⟨o2, ho2, h⟩ := obd_at h
  exact L2 n (0 : Int32) o2 _ _ ls hP hD hS (lv_sub hl [1, 0] rfl) ho2 h

def rm_B_putPart : Room := { frames := 3, cells := 0, slots := 0, locals := 67 }
def f_B_putPart_l64 (n : Nat) (t_row_n : Nat) (p1_n : Nat) (t_size : Int32) (p1 : Nat → Int64) (v2 : Int32) (v3 : Int32) (v4 : Int64) (v8 : Int32) (v9 : Int32) (t_row : Nat → Int32) (v10 : Int32) : Option (((Nat → Int32) × Int32) ⊕ ((Int32 × Int32 × (Nat → Int32)))) :=
  (if v3 ≤ v10 then some (Sum.inr ((v8, t_size, t_row))) else gd (inB v10 p1_n) (gd (inB (v10 - (1 : Int32)) p1_n) (Option.bind (f_B_setBits n t_row_n t_size t_row (v9 + ((v10 - v2) * v8)) (((p1 v10.toNatClampNeg) - (p1 (v10 - (1 : Int32)).toNatClampNeg)) - v4) v8) (fun o13 => bnd (v10 + (1 : Int32)) (fun x14 => some (Sum.inl (o13, x14)))))))
def f_B_putPart_j37 (n : Nat) (t_row_n : Nat) (p1_n : Nat) (t_size : Int32) (t_row : Nat → Int32) (p1 : Nat → Int64) (v2 : Int32) (v3 : Int32) (v4 : Int64) (v6 : Int64) : Option (Int32 × Int32 × (Nat → Int32)) :=
  Option.bind (f_F_widthOf n v6) (fun o30 => bnd ((8 : Int32) * t_size) (fun x31 => Option.bind (f_B_zeros n t_row_n t_size t_row ((2 : Int32) * o30)) (fun o32 => Option.bind (lp (fun v => f_B_putPart_l64 n t_row_n p1_n o32.1 p1 v2 v3 v4 o30 x31 v.1 v.2) n (o32.2, v2)) (fun o => some o))))
def f_B_putPart_l6 (p1_n : Nat) (p1 : Nat → Int64) (v3 : Int32) (v4 : Int64) (v6 : Int64) (v8 : Int32) : Option ((Int64 × Int32) ⊕ ((Int64 × Int32))) :=
  (if v3 ≤ v8 then some (Sum.inr ((v6, v8))) else gd (inB v8 p1_n) (gd (inB (v8 - (1 : Int32)) p1_n) (bnd (v6 ||| (((p1 v8.toNatClampNeg) - (p1 (v8 - (1 : Int32)).toNatClampNeg)) - v4)) (fun x40 => bnd (v8 + (1 : Int32)) (fun x41 => some (Sum.inl (x40, x41)))))))
def f_B_putPart (n : Nat) (t_row_n : Nat) (p1_n : Nat) (t_size : Int32) (t_row : Nat → Int32) (p1 : Nat → Int64) (v2 : Int32) (v3 : Int32) (v4 : Int64) : Option (Int32 × Int32 × (Nat → Int32)) :=
  Option.bind (lp (fun v => f_B_putPart_l6 p1_n p1 v3 v4 v.1 v.2) n ((0 : Int64), v2)) (fun o => f_B_putPart_j37 n t_row_n p1_n t_size t_row p1 v2 v3 v4 o.1)
set_option maxHeartbeats 4000000 in
set_option maxRecDepth 100000 in
theorem c_B_putPart (l : Launch) (D : va_G) (k : ClassId × ClassId × ClassId) (a_t a_t_row a_p1 : Nat) (t_row_n p1_n : Nat) (t_size : Int32) (t_row : Nat → Int32) (p1 : Nat → Int64) (v2 : Int32) (v3 : Int32) (v4 : Int64) (n : Nat) (out : Int32 × Int32 × (Nat → Int32)) (h : f_B_putPart n t_row_n p1_n t_size t_row p1 v2 v3 v4 = some out) : Ct l D k y_B_putPart b_B_putPart 11 (some .int) rm_B_putPart [.ref a_t, .ref a_p1, .int v2, .int v3, .long v4] [(a_t, .inr (0, [.ref a_t_row, .int t_size])), (a_t_row, .inl (k.1, t_row_n, .inl t_row)), (a_p1, .inl (k.2.2, p1_n, .inr (.inl p1)))] [(a_t, .inr (0, [.ref a_t_row, .int out.2.1])), (a_t_row, .inl (k.1, t_row_n, .inl out.2.2)), (a_p1, .inl (k.2.2, p1_n, .inr (.inl p1)))] (some (.int out.1)) := by
  refine Ct.ofI (by decide) (Nat.le_of_ble_eq_true rfl) ?_
  intro p e s m args below meth c A Q ls hx hb hml hown hts hA hK hP hD hS hE hl ret
  have hown : s.vm.findClass "PageForm$Bytes" = some m.cls := hown
  have hl : lv_has ls 11 [(0, .ref a_t), (1, .ref a_p1), (2, .int v2), (3, .int v3), (4, .long v4)] := hl
  have ret2 : ∀ (y0 : Int32) (y1 : Int32) (y2 : Nat → Int32) (_ : (y0, y1, y2) = out) {pc : Nat} {ls : Array Slot} {H : Heap} {locs : List Loc}, decode b_B_putPart pc = .ok (.ireturn, 1) → va_P D CL [(a_t, .inr (0, [.ref a_t_row, .int y1])), (a_t_row, .inl (k.1, t_row_n, .inl y2)), (a_p1, .inl (k.2.2, p1_n, .inr (.inl p1)))] H → va_D A [(a_t, .inr (0, [.ref a_t_row, .int y1])), (a_t_row, .inl (k.1, t_row_n, .inl y2)), (a_p1, .inl (k.2.2, p1_n, .inr (.inl p1)))] → va_S A s.heap H locs → W p l e rm_B_putPart s m args below meth c H locs 0 0 Q (F0 m pc ls [.int y0]) := by
    intro y0 y1 y2 e0; subst e0; exact ret
  clear ret
  have L64 : ∀ (K : Nat) (t_size : Int32) (t_row : Nat → Int32) (v8 : Int32) (v9 : Int32) (v10 : Int32) (o : (Int32 × Int32 × (Nat → Int32))) (H : Heap) (locs : List Loc) (ls : Array Slot), va_P D CL [(a_t, .inr (0, [.ref a_t_row, .int t_size])), (a_t_row, .inl (k.1, t_row_n, .inl t_row)), (a_p1, .inl (k.2.2, p1_n, .inr (.inl p1)))] H → va_D A [(a_t, .inr (0, [.ref a_t_row, .int t_size])), (a_t_row, .inl (k.1, t_row_n, .inl t_row)), (a_p1, .inl (k.2.2, p1_n, .inr (.inl p1)))] → va_S A s.heap H locs → lv_has ls 11 [(0, .ref a_t), (1, .ref a_p1), (2, .int v2), (3, .int v3), (4, .long v4), (8, .int v8), (9, .int v9), (10, .int v10)] → lp (fun v => f_B_putPart_l64 n t_row_n p1_n t_size p1 v2 v3 v4 v8 v9 v.1 v.2) K (t_row, v10) = some o → (fun o => some o) o = some out → W p l e rm_B_putPart s m args below meth c H locs 0 0 Q (F0 m 64 ls []) := by
    intro K
    induction K with
    | zero => intros; exact absurd (by assumption) lp_no
    | succ K ih64 =>
      intro t_size t_row v8 v9 v10 o H locs ls hP hD hS hl h0 hx64
      obtain ⟨b64, h, hc64⟩ := lp_at h0
      have h : f_B_putPart_l64 n t_row_n p1_n t_size p1 v2 v3 v4 v8 v9 t_row v10 = some b64 := h
      unfold f_B_putPart_l64 at h
      refine lv_iload hx hb d_B_putPart_64 (lv_at hl 7 rfl) ?_
      refine lv_iload_n hx hb d_B_putPart_66 rfl (lv_at hl 3 rfl) ?_
      refine lv_icmp_ge (tgt := 106) hx hb d_B_putPart_67 (by decide) (fun c => ?_) (fun c => ?_)
      · have h := ift_at h c
        refine lv_iload hx hb d_B_putPart_106 (lv_at hl 5 rfl) ?_
        obtain rfl := lp_out h hc64
        exact ret2 _ _ _ (Option.some.inj hx64) d_B_putPart_108 hP hD hS
      · have h := iff_at h c
        refine lv_aload_n hx hb d_B_putPart_70 rfl (lv_at hl 0 rfl) ?_
        refine lv_iload hx hb d_B_putPart_71 (lv_at hl 6 rfl) ?_
        refine lv_iload hx hb d_B_putPart_73 (lv_at hl 7 rfl) ?_
        refine lv_iload_n hx hb d_B_putPart_75 rfl (lv_at hl 2 rfl) ?_
        refine lv_isub hx hb d_B_putPart_76 ?_
        refine lv_iload hx hb d_B_putPart_77 (lv_at hl 5 rfl) ?_
        refine lv_imul hx hb d_B_putPart_79 ?_
        refine lv_iadd hx hb d_B_putPart_80 ?_
        refine lv_aload_n hx hb d_B_putPart_81 rfl (lv_at hl 1 rfl) ?_
        refine lv_iload hx hb d_B_putPart_82 (lv_at hl 7 rfl) ?_
        obtain ⟨g11, h⟩ := gd_at h
        refine va_lald hx hb hK hP 2 2 rfl rfl (inB_in g11) d_B_putPart_84 ?_
        refine lv_aload_n hx hb d_B_putPart_85 rfl (lv_at hl 1 rfl) ?_
        refine lv_iload hx hb d_B_putPart_86 (lv_at hl 7 rfl) ?_
        refine lv_iconst (v := 1) hx hb d_B_putPart_88 (by decide) ?_
        refine lv_isub hx hb d_B_putPart_89 ?_
        obtain ⟨g12, h⟩ := gd_at h
        refine va_lald hx hb hK hP 2 2 rfl rfl (inB_in g12) d_B_putPart_90 ?_
        refine lv_lsub hx hb d_B_putPart_91 ?_
        refine lv_lload hx hb d_B_putPart_92 (lv_at hl 4 rfl) ?_
        refine lv_lsub hx hb d_B_putPart_94 ?_
        refine lv_iload hx hb d_B_putPart_95 (lv_at hl 5 rfl) ?_
        obtain ⟨o13, ho13, h⟩ := obd_at h
        refine g_V (As := [.int (v9 + ((v10 - v2) * v8)), .long (((p1 v10.toNatClampNeg) - (p1 (v10 - (1 : Int32)).toNatClampNeg)) - v4), .int v8]) (rest := []) hx hb hml hown hts hA hK hP hD hS hE (c_B_setBits l D k a_t a_t_row t_row_n t_size t_row (v9 + ((v10 - v2) * v8)) (((p1 v10.toNatClampNeg) - (p1 (v10 - (1 : Int32)).toNatClampNeg)) - v4) v8 n o13 ho13) mw_B_setBits mi_B_setBits ml_B_65 [0, 1] rfl (by decide) rfl rfl rfl 0 rfl rfl rfl rfl rfl hl.1 rfl (Nat.le_of_ble_eq_true rfl) ⟨Nat.zero_le _, Nat.zero_le _⟩ d_B_putPart_97 (fun H locs hP hD hS => ?_)
        have hP : va_P D CL [(a_t, .inr (0, [.ref a_t_row, .int t_size])), (a_t_row, .inl (k.1, t_row_n, .inl o13)), (a_p1, .inl (k.2.2, p1_n, .inr (.inl p1)))] H := hP
        have hD : va_D A [(a_t, .inr (0, [.ref a_t_row, .int t_size])), (a_t_row, .inl (k.1, t_row_n, .inl o13)), (a_p1, .inl (k.2.2, p1_n, .inr (.inl p1)))] := hD
        refine W.eq (g2 := F0 m 100 ls []) rfl ?_
        obtain ⟨x14, ex14⟩ : ∃ z : Int32, z = v10 + (1 : Int32) := ⟨_, rfl⟩
        have h := bnd_at h ex14
        refine lv_iinc (v := x14) (lv' := [(10, .int x14), (0, .ref a_t), (1, .ref a_p1), (2, .int v2), (3, .int v3), (4, .long v4), (8, .int v8), (9, .int v9)]) hx hb d_B_putPart_100 hl (k := 7) rfl (by rw [ex14]; rfl) (by decide) rfl (fun ls hl => ?_)
        refine lv_goto (tgt := 64) hx hb d_B_putPart_103 (by decide) ?_
        have h := lp_go h hc64
        exact ih64 t_size o13 v8 v9 x14 o _ _ ls hP hD hS (lv_sub hl [1, 2, 3, 4, 5, 6, 7, 0] rfl) h hx64
  have J37 : ∀ (t_size : Int32) (t_row : Nat → Int32) (v6 : Int64) (H : Heap) (locs : List Loc) (ls : Array Slot), va_P D CL [(a_t, .inr (0, [.ref a_t_row, .int t_size])), (a_t_row, .inl (k.1, t_row_n, .inl t_row)), (a_p1, .inl (k.2.2, p1_n, .inr (.inl p1)))] H → va_D A [(a_t, .inr (0, [.ref a_t_row, .int t_size])), (a_t_row, .inl (k.1, t_row_n, .inl t_row)), (a_p1, .inl (k.2.2, p1_n, .inr (.inl p1)))] → va_S A s.heap H locs → lv_has ls 11 [(0, .ref a_t), (1, .ref a_p1), (2, .int v2), (3, .int v3), (4, .long v4), (6, .long v6)] → f_B_putPart_j37 n t_row_n p1_n t_size t_row p1 v2 v3 v4 v6 = some out → W p l e rm_B_putPart s m args below meth c H locs 0 0 Q (F0 m 37 ls []) := by
    intro t_size t_row v6 H locs ls hP hD hS hl h
    unfold f_B_putPart_j37 at h
    refine lv_lload hx hb d_B_putPart_37 (lv_at hl 5 rfl) ?_
    obtain ⟨o30, ho30, h⟩ := obd_at h
    refine g_SN (As := [.long v6]) (rest := []) hx hb hml hown hts hA hK hP hD hS hE (c_F_widthOf l D k v6 n o30 ho30) mw_F_widthOf ms_F_widthOf ml_B_90 [] rfl (by decide) rfl rfl rfl rfl rfl hl.1 rfl (Nat.le_of_ble_eq_true rfl) ⟨Nat.zero_le _, Nat.zero_le _⟩ d_B_putPart_39 (fun H locs hP hD hS => ?_)
    have hP : va_P D CL [(a_t, .inr (0, [.ref a_t_row, .int t_size])), (a_t_row, .inl (k.1, t_row_n, .inl t_row)), (a_p1, .inl (k.2.2, p1_n, .inr (.inl p1)))] H := hP
    have hD : va_D A [(a_t, .inr (0, [.ref a_t_row, .int t_size])), (a_t_row, .inl (k.1, t_row_n, .inl t_row)), (a_p1, .inl (k.2.2, p1_n, .inr (.inl p1)))] := hD
    refine W.eq (g2 := F0 m 42 ls [.int o30]) rfl ?_
    refine lv_istore (lv' := [(8, .int o30), (0, .ref a_t), (1, .ref a_p1), (2, .int v2), (3, .int v3), (4, .long v4), (6, .long v6)]) hx hb d_B_putPart_42 hl (by decide) rfl (fun ls hl => ?_)
    refine lv_bipush (v := 8) hx hb d_B_putPart_44 (by decide) ?_
    refine lv_aload_n hx hb d_B_putPart_46 rfl (lv_at hl 1 rfl) ?_
    refine va_get (D := D) (ci := 0) (v := .int t_size) (C := "PageForm$Bytes") (T := F_B) (N := 2) hx hb hts in_B hown hK hP 0 rfl rfl 1 (by decide) (hts _ fl_B_15) (fun _ h9 => h9) rfl d_B_putPart_47 ?_
    refine lv_imul hx hb d_B_putPart_50 ?_
    refine lv_topi (fun x31 ex31 => ?_)
    have h := bnd_at h ex31
    refine lv_istore (lv' := [(9, .int x31), (8, .int o30), (0, .ref a_t), (1, .ref a_p1), (2, .int v2), (3, .int v3), (4, .long v4), (6, .long v6)]) hx hb d_B_putPart_51 hl (by decide) rfl (fun ls hl => ?_)
    refine lv_aload_n hx hb d_B_putPart_53 rfl (lv_at hl 2 rfl) ?_
    refine lv_iconst (v := 2) hx hb d_B_putPart_54 (by decide) ?_
    refine lv_iload hx hb d_B_putPart_55 (lv_at hl 1 rfl) ?_
    refine lv_imul hx hb d_B_putPart_57 ?_
    obtain ⟨o32, ho32, h⟩ := obd_at h
    refine g_V (As := [.int ((2 : Int32) * o30)]) (rest := []) hx hb hml hown hts hA hK hP hD hS hE (c_B_zeros l D k a_t a_t_row t_row_n t_size t_row ((2 : Int32) * o30) n o32 ho32) mw_B_zeros mi_B_zeros ml_B_62 [0, 1] rfl (by decide) rfl rfl rfl 0 rfl rfl rfl rfl rfl hl.1 rfl (Nat.le_of_ble_eq_true rfl) ⟨Nat.zero_le _, Nat.zero_le _⟩ d_B_putPart_58 (fun H locs hP hD hS => ?_)
    have hP : va_P D CL [(a_t, .inr (0, [.ref a_t_row, .int o32.1])), (a_t_row, .inl (k.1, t_row_n, .inl o32.2)), (a_p1, .inl (k.2.2, p1_n, .inr (.inl p1)))] H := hP
    have hD : va_D A [(a_t, .inr (0, [.ref a_t_row, .int o32.1])), (a_t_row, .inl (k.1, t_row_n, .inl o32.2)), (a_p1, .inl (k.2.2, p1_n, .inr (.inl p1)))] := hD
    refine W.eq (g2 := F0 m 61 ls []) rfl ?_
    refine lv_iload_n hx hb d_B_putPart_61 rfl (lv_at hl 4 rfl) ?_
    refine lv_istore (lv' := [(10, .int v2), (9, .int x31), (8, .int o30), (0, .ref a_t), (1, .ref a_p1), (2, .int v2), (3, .int v3), (4, .long v4), (6, .long v6)]) hx hb d_B_putPart_62 hl (by decide) rfl (fun ls hl => ?_)
    obtain ⟨o33, ho33, h⟩ := obd_at h
    exact L64 n o32.1 o32.2 o30 x31 v2 o33 _ _ ls hP hD hS (lv_sub hl [3, 4, 5, 6, 7, 2, 1, 0] rfl) ho33 h
  have L6 : ∀ (K : Nat) (t_size : Int32) (t_row : Nat → Int32) (v6 : Int64) (v8 : Int32) (o : (Int64 × Int32)) (H : Heap) (locs : List Loc) (ls : Array Slot), va_P D CL [(a_t, .inr (0, [.ref a_t_row, .int t_size])), (a_t_row, .inl (k.1, t_row_n, .inl t_row)), (a_p1, .inl (k.2.2, p1_n, .inr (.inl p1)))] H → va_D A [(a_t, .inr (0, [.ref a_t_row, .int t_size])), (a_t_row, .inl (k.1, t_row_n, .inl t_row)), (a_p1, .inl (k.2.2, p1_n, .inr (.inl p1)))] → va_S A s.heap H locs → lv_has ls 11 [(0, .ref a_t), (1, .ref a_p1), (2, .int v2), (3, .int v3), (4, .long v4), (6, .long v6), (8, .int v8)] → lp (fun v => f_B_putPart_l6 p1_n p1 v3 v4 v.1 v.2) K (v6, v8) = some o → (fun o => f_B_putPart_j37 n t_row_n p1_n t_size t_row p1 v2 v3 v4 o.1) o = some out → W p l e rm_B_putPart s m args below meth c H locs 0 0 Q (F0 m 6 ls []) := by
    intro K
    induction K with
    | zero => intros; exact absurd (by assumption) lp_no
    | succ K ih6 =>
      intro t_size t_row v6 v8 o H locs ls hP hD hS hl h0 hx6
      obtain ⟨b6, h, hc6⟩ := lp_at h0
      have h : f_B_putPart_l6 p1_n p1 v3 v4 v6 v8 = some b6 := h
      unfold f_B_putPart_l6 at h
      refine lv_iload hx hb d_B_putPart_6 (lv_at hl 6 rfl) ?_
      refine lv_iload_n hx hb d_B_putPart_8 rfl (lv_at hl 3 rfl) ?_
      refine lv_icmp_ge (tgt := 37) hx hb d_B_putPart_9 (by decide) (fun c => ?_) (fun c => ?_)
      · have h := ift_at h c
        obtain rfl := lp_out h hc6
        exact J37 t_size t_row v6 _ _ ls hP hD hS (lv_sub hl [0, 1, 2, 3, 4, 5] rfl) hx6
      · have h := iff_at h c
        refine lv_lload hx hb d_B_putPart_12 (lv_at hl 5 rfl) ?_
        refine lv_aload_n hx hb d_B_putPart_14 rfl (lv_at hl 1 rfl) ?_
        refine lv_iload hx hb d_B_putPart_15 (lv_at hl 6 rfl) ?_
        obtain ⟨g38, h⟩ := gd_at h
        refine va_lald hx hb hK hP 2 2 rfl rfl (inB_in g38) d_B_putPart_17 ?_
        refine lv_aload_n hx hb d_B_putPart_18 rfl (lv_at hl 1 rfl) ?_
        refine lv_iload hx hb d_B_putPart_19 (lv_at hl 6 rfl) ?_
        refine lv_iconst (v := 1) hx hb d_B_putPart_21 (by decide) ?_
        refine lv_isub hx hb d_B_putPart_22 ?_
        obtain ⟨g39, h⟩ := gd_at h
        refine va_lald hx hb hK hP 2 2 rfl rfl (inB_in g39) d_B_putPart_23 ?_
        refine lv_lsub hx hb d_B_putPart_24 ?_
        refine lv_lload hx hb d_B_putPart_25 (lv_at hl 4 rfl) ?_
        refine lv_lsub hx hb d_B_putPart_27 ?_
        refine lv_lor hx hb d_B_putPart_28 ?_
        refine lv_topl (fun x40 ex40 => ?_)
        have h := bnd_at h ex40
        refine lv_lstore (lv' := [(6, .long x40), (0, .ref a_t), (1, .ref a_p1), (2, .int v2), (3, .int v3), (4, .long v4), (8, .int v8)]) hx hb d_B_putPart_29 hl (by decide) rfl (fun ls hl => ?_)
        obtain ⟨x41, ex41⟩ : ∃ z : Int32, z = v8 + (1 : Int32) := ⟨_, rfl⟩
        have h := bnd_at h ex41
        refine lv_iinc (v := x41) (lv' := [(8, .int x41), (6, .long x40), (0, .ref a_t), (1, .ref a_p1), (2, .int v2), (3, .int v3), (4, .long v4)]) hx hb d_B_putPart_31 hl (k := 6) rfl (by rw [ex41]; rfl) (by decide) rfl (fun ls hl => ?_)
        refine lv_goto (tgt := 6) hx hb d_B_putPart_34 (by decide) ?_
        have h := lp_go h hc6
        exact ih6 t_size t_row x40 x41 o _ _ ls hP hD hS (lv_sub hl [2, 3, 4, 5, 6, 1, 0] rfl) h hx6
  unfold f_B_putPart at h
  refine lv_lconst (v := 0) hx hb d_B_putPart_0 (by decide) ?_
  refine lv_lstore (lv' := [(6, .long (0 : Int64)), (0, .ref a_t), (1, .ref a_p1), (2, .int v2), (3, .int v3), (4, .long v4)]) hx hb d_B_putPart_1 hl (by decide) rfl (fun ls hl => ?_)
  refine lv_iload_n hx hb d_B_putPart_3 rfl (lv_at hl 3 rfl) ?_
  refine lv_istore (lv' := [(8, .int v2), (6, .long (0 : Int64)), (0, .ref a_t), (1, .ref a_p1), (2, .int v2), (3, .int v3), (4, .long v4)]) hx hb d_B_putPart_4 hl (by decide) rfl (fun ls hl => ?_)
  obtain ⟨o52, ho52, h⟩ := obd_at h
  exact L6 n t_size t_row (0 : Int64) v2 o52 _ _ ls hP hD hS (lv_sub hl [2, 3, 4, 5, 6, 1, 0] rfl) ho52 h

def rm_B_putBlock : Room := { frames := 4, cells := 0, slots := 0, locals := 97 }
def f_B_putBlock_l69 (n : Nat) (t_row_n : Nat) (p1_n : Nat) (p1 : Nat → Int64) (v2 : Int32) (v3 : Int32) (v4 : Int64) (v6 : Int32) (t_size : Int32) (t_row : Nat → Int32) (v7 : Int32) : Option ((Int32 × (Nat → Int32) × Int32) ⊕ ((Int32 × (Nat → Int32)))) :=
  (if (4 : Int32) ≤ v7 then some (Sum.inr ((t_size, t_row))) else bnd (v2 + ((16 : Int32) * v7)) (fun x12 => Option.bind (f_B_putPart n t_row_n p1_n t_size t_row p1 x12 (if v3 < (x12 + (16 : Int32)) then v3 else (x12 + (16 : Int32))) v4) (fun o13 => Option.bind (f_B_setBits n t_row_n o13.2.1 o13.2.2 ((8 : Int32) * (v6 + v7)) o13.1.toInt64 (8 : Int32)) (fun o14 => bnd (v7 + (1 : Int32)) (fun x15 => some (Sum.inl (o13.2.1, o14, x15)))))))
def f_B_putBlock_j46 (n : Nat) (t_row_n : Nat) (p1_n : Nat) (t_size : Int32) (t_row : Nat → Int32) (p1 : Nat → Int64) (v2 : Int32) (v3 : Int32) (v4 : Int64) : Option (Int32 × (Nat → Int32)) :=
  Option.bind (f_F_zigzag v4) (fun o26 => Option.bind (f_B_varint n t_row_n t_size t_row o26) (fun o27 => Option.bind (f_B_zeros n t_row_n o27.1 o27.2 (4 : Int32)) (fun o28 => Option.bind (lp (fun v => f_B_putBlock_l69 n t_row_n p1_n p1 v2 v3 v4 o27.1 v.1 v.2.1 v.2.2) n (o28.1, o28.2, (0 : Int32))) (fun o => some o))))
def f_B_putBlock_l16 (p1_n : Nat) (p1 : Nat → Int64) (v3 : Int32) (v4 : Int64) (v6 : Int32) : Option ((Int64 × Int32) ⊕ ((Int64 × Int32))) :=
  (if v3 ≤ v6 then some (Sum.inr ((v4, v6))) else gd (inB v6 p1_n) (gd (inB (v6 - (1 : Int32)) p1_n) (bnd (if ((p1 v6.toNatClampNeg) - (p1 (v6 - (1 : Int32)).toNatClampNeg)) < v4 then ((p1 v6.toNatClampNeg) - (p1 (v6 - (1 : Int32)).toNatClampNeg)) else v4) (fun x36 => bnd (v6 + (1 : Int32)) (fun x37 => some (Sum.inl (x36, x37)))))))
def f_B_putBlock (n : Nat) (t_row_n : Nat) (p1_n : Nat) (t_size : Int32) (t_row : Nat → Int32) (p1 : Nat → Int64) (v2 : Int32) (v3 : Int32) : Option (Int32 × (Nat → Int32)) :=
  gd (inB v2 p1_n) (gd (inB (v2 - (1 : Int32)) p1_n) (bnd ((p1 v2.toNatClampNeg) - (p1 (v2 - (1 : Int32)).toNatClampNeg)) (fun x50 => bnd (v2 + (1 : Int32)) (fun x51 => Option.bind (lp (fun v => f_B_putBlock_l16 p1_n p1 v3 v.1 v.2) n (x50, x51)) (fun o => f_B_putBlock_j46 n t_row_n p1_n t_size t_row p1 v2 v3 o.1)))))
set_option maxHeartbeats 4000000 in
set_option maxRecDepth 100000 in
theorem c_B_putBlock (l : Launch) (D : va_G) (k : ClassId × ClassId × ClassId) (a_t a_t_row a_p1 : Nat) (t_row_n p1_n : Nat) (t_size : Int32) (t_row : Nat → Int32) (p1 : Nat → Int64) (v2 : Int32) (v3 : Int32) (n : Nat) (out : Int32 × (Nat → Int32)) (h : f_B_putBlock n t_row_n p1_n t_size t_row p1 v2 v3 = some out) : Ct l D k y_B_putBlock b_B_putBlock 10 none rm_B_putBlock [.ref a_t, .ref a_p1, .int v2, .int v3] [(a_t, .inr (0, [.ref a_t_row, .int t_size])), (a_t_row, .inl (k.1, t_row_n, .inl t_row)), (a_p1, .inl (k.2.2, p1_n, .inr (.inl p1)))] [(a_t, .inr (0, [.ref a_t_row, .int out.1])), (a_t_row, .inl (k.1, t_row_n, .inl out.2)), (a_p1, .inl (k.2.2, p1_n, .inr (.inl p1)))] none := by
  refine Ct.ofV (by decide) (Nat.le_of_ble_eq_true rfl) ?_
  intro p e s m args below meth c A Q ls hx hb hml hown hts hA hK hP hD hS hE hl ret
  have hown : s.vm.findClass "PageForm$Bytes" = some m.cls := hown
  have hl : lv_has ls 10 [(0, .ref a_t), (1, .ref a_p1), (2, .int v2), (3, .int v3)] := hl
  have ret2 : ∀ (y0 : Int32) (y1 : Nat → Int32) (_ : (y0, y1) = out) {pc : Nat} {ls : Array Slot} {H : Heap} {locs : List Loc}, decode b_B_putBlock pc = .ok (.return_, 1) → va_P D CL [(a_t, .inr (0, [.ref a_t_row, .int y0])), (a_t_row, .inl (k.1, t_row_n, .inl y1)), (a_p1, .inl (k.2.2, p1_n, .inr (.inl p1)))] H → va_D A [(a_t, .inr (0, [.ref a_t_row, .int y0])), (a_t_row, .inl (k.1, t_row_n, .inl y1)), (a_p1, .inl (k.2.2, p1_n, .inr (.inl p1)))] → va_S A s.heap H locs → W p l e rm_B_putBlock s m args below meth c H locs 0 0 Q (F0 m pc ls []) := by
    intro y0 y1 e0; subst e0; exact ret
  clear ret
  have L69 : ∀ (K : Nat) (t_size : Int32) (t_row : Nat → Int32) (v4 : Int64) (v6 : Int32) (v7 : Int32) (o : (Int32 × (Nat → Int32))) (H : Heap) (locs : List Loc) (ls : Array Slot), va_P D CL [(a_t, .inr (0, [.ref a_t_row, .int t_size])), (a_t_row, .inl (k.1, t_row_n, .inl t_row)), (a_p1, .inl (k.2.2, p1_n, .inr (.inl p1)))] H → va_D A [(a_t, .inr (0, [.ref a_t_row, .int t_size])), (a_t_row, .inl (k.1, t_row_n, .inl t_row)), (a_p1, .inl (k.2.2, p1_n, .inr (.inl p1)))] → va_S A s.heap H locs → lv_has ls 10 [(0, .ref a_t), (1, .ref a_p1), (2, .int v2), (3, .int v3), (4, .long v4), (6, .int v6), (7, .int v7)] → lp (fun v => f_B_putBlock_l69 n t_row_n p1_n p1 v2 v3 v4 v6 v.1 v.2.1 v.2.2) K (t_size, t_row, v7) = some o → (fun o => some o) o = some out → W p l e rm_B_putBlock s m args below meth c H locs 0 0 Q (F0 m 69 ls []) := by
    intro K
    induction K with
    | zero => intros; exact absurd (by assumption) lp_no
    | succ K ih69 =>
      intro t_size t_row v4 v6 v7 o H locs ls hP hD hS hl h0 hx69
      obtain ⟨b69, h, hc69⟩ := lp_at h0
      have h : f_B_putBlock_l69 n t_row_n p1_n p1 v2 v3 v4 v6 t_size t_row v7 = some b69 := h
      unfold f_B_putBlock_l69 at h
      refine lv_iload hx hb d_B_putBlock_69 (lv_at hl 6 rfl) ?_
      refine lv_iconst (v := 4) hx hb d_B_putBlock_71 (by decide) ?_
      refine lv_icmp_ge (tgt := 127) hx hb d_B_putBlock_72 (by decide) (fun c => ?_) (fun c => ?_)
      · have h := ift_at h c
        obtain rfl := lp_out h hc69
        exact ret2 _ _ (Option.some.inj hx69) d_B_putBlock_127 hP hD hS
      · have h := iff_at h c
        refine lv_iload_n hx hb d_B_putBlock_75 rfl (lv_at hl 2 rfl) ?_
        refine lv_bipush (v := 16) hx hb d_B_putBlock_76 (by decide) ?_
        refine lv_iload hx hb d_B_putBlock_78 (lv_at hl 6 rfl) ?_
        refine lv_imul hx hb d_B_putBlock_80 ?_
        refine lv_iadd hx hb d_B_putBlock_81 ?_
        refine lv_topi (fun x12 ex12 => ?_)
        have h := bnd_at h ex12
        refine lv_istore (lv' := [(8, .int x12), (0, .ref a_t), (1, .ref a_p1), (2, .int v2), (3, .int v3), (4, .long v4), (6, .int v6), (7, .int v7)]) hx hb d_B_putBlock_82 hl (by decide) rfl (fun ls hl => ?_)
        refine lv_aload_n hx hb d_B_putBlock_84 rfl (lv_at hl 1 rfl) ?_
        refine lv_aload_n hx hb d_B_putBlock_85 rfl (lv_at hl 2 rfl) ?_
        refine lv_iload hx hb d_B_putBlock_86 (lv_at hl 0 rfl) ?_
        refine lv_iload hx hb d_B_putBlock_88 (lv_at hl 0 rfl) ?_
        refine lv_bipush (v := 16) hx hb d_B_putBlock_90 (by decide) ?_
        refine lv_iadd hx hb d_B_putBlock_92 ?_
        refine lv_iload_n hx hb d_B_putBlock_93 rfl (lv_at hl 4 rfl) ?_
        refine va_mmin hx hb (hml.trans hl.1.symm) hown (hts _ ml_B_73) (hts _ ms_JM_min_II) (hts _ ini_JM) (hts _ mw_JM_min_II.1) (Nat.le_of_ble_eq_true rfl) (Nat.le_of_ble_eq_true rfl) (Nat.zero_le _) (Nat.zero_le _) d_B_putBlock_94 ?_
        refine lv_lload hx hb d_B_putBlock_97 (lv_at hl 5 rfl) ?_
        obtain ⟨o13, ho13, h⟩ := obd_at h
        refine g_V (As := [.ref a_p1, .int x12, .int (if v3 < (x12 + (16 : Int32)) then v3 else (x12 + (16 : Int32))), .long v4]) (rest := []) hx hb hml hown hts hA hK hP hD hS hE (c_B_putPart l D k a_t a_t_row a_p1 t_row_n p1_n t_size t_row p1 x12 (if v3 < (x12 + (16 : Int32)) then v3 else (x12 + (16 : Int32))) v4 n o13 ho13) mw_B_putPart mi_B_putPart ml_B_86 [0, 1, 2] rfl (by decide) rfl rfl rfl 0 rfl rfl rfl rfl rfl hl.1 rfl (Nat.le_of_ble_eq_true rfl) ⟨Nat.zero_le _, Nat.zero_le _⟩ d_B_putBlock_99 (fun H locs hP hD hS => ?_)
        have hP : va_P D CL [(a_t, .inr (0, [.ref a_t_row, .int o13.2.1])), (a_t_row, .inl (k.1, t_row_n, .inl o13.2.2)), (a_p1, .inl (k.2.2, p1_n, .inr (.inl p1)))] H := hP
        have hD : va_D A [(a_t, .inr (0, [.ref a_t_row, .int o13.2.1])), (a_t_row, .inl (k.1, t_row_n, .inl o13.2.2)), (a_p1, .inl (k.2.2, p1_n, .inr (.inl p1)))] := hD
        refine W.eq (g2 := F0 m 102 ls [.int o13.1]) rfl ?_
        refine lv_istore (lv' := [(9, .int o13.1), (8, .int x12), (0, .ref a_t), (1, .ref a_p1), (2, .int v2), (3, .int v3), (4, .long v4), (6, .int v6), (7, .int v7)]) hx hb d_B_putBlock_102 hl (by decide) rfl (fun ls hl => ?_)
        refine lv_aload_n hx hb d_B_putBlock_104 rfl (lv_at hl 2 rfl) ?_
        refine lv_bipush (v := 8) hx hb d_B_putBlock_105 (by decide) ?_
        refine lv_iload hx hb d_B_putBlock_107 (lv_at hl 7 rfl) ?_
        refine lv_iload hx hb d_B_putBlock_109 (lv_at hl 8 rfl) ?_
        refine lv_iadd hx hb d_B_putBlock_111 ?_
        refine lv_imul hx hb d_B_putBlock_112 ?_
        refine lv_iload hx hb d_B_putBlock_113 (lv_at hl 0 rfl) ?_
        refine lv_i2l hx hb d_B_putBlock_115 rfl ?_
        refine lv_bipush (v := 8) hx hb d_B_putBlock_116 (by decide) ?_
        obtain ⟨o14, ho14, h⟩ := obd_at h
        refine g_V (As := [.int ((8 : Int32) * (v6 + v7)), .long o13.1.toInt64, .int (8 : Int32)]) (rest := []) hx hb hml hown hts hA hK hP hD hS hE (c_B_setBits l D k a_t a_t_row t_row_n o13.2.1 o13.2.2 ((8 : Int32) * (v6 + v7)) o13.1.toInt64 (8 : Int32) n o14 ho14) mw_B_setBits mi_B_setBits ml_B_65 [0, 1] rfl (by decide) rfl rfl rfl 0 rfl rfl rfl rfl rfl hl.1 rfl (Nat.le_of_ble_eq_true rfl) ⟨Nat.zero_le _, Nat.zero_le _⟩ d_B_putBlock_118 (fun H locs hP hD hS => ?_)
        have hP : va_P D CL [(a_t, .inr (0, [.ref a_t_row, .int o13.2.1])), (a_t_row, .inl (k.1, t_row_n, .inl o14)), (a_p1, .inl (k.2.2, p1_n, .inr (.inl p1)))] H := hP
        have hD : va_D A [(a_t, .inr (0, [.ref a_t_row, .int o13.2.1])), (a_t_row, .inl (k.1, t_row_n, .inl o14)), (a_p1, .inl (k.2.2, p1_n, .inr (.inl p1)))] := hD
        refine W.eq (g2 := F0 m 121 ls []) rfl ?_
        obtain ⟨x15, ex15⟩ : ∃ z : Int32, z = v7 + (1 : Int32) := ⟨_, rfl⟩
        have h := bnd_at h ex15
        refine lv_iinc (v := x15) (lv' := [(7, .int x15), (9, .int o13.1), (8, .int x12), (0, .ref a_t), (1, .ref a_p1), (2, .int v2), (3, .int v3), (4, .long v4), (6, .int v6)]) hx hb d_B_putBlock_121 hl (k := 8) rfl (by rw [ex15]; rfl) (by decide) rfl (fun ls hl => ?_)
        refine lv_goto (tgt := 69) hx hb d_B_putBlock_124 (by decide) ?_
        have h := lp_go h hc69
        exact ih69 o13.2.1 o14 v4 v6 x15 o _ _ ls hP hD hS (lv_sub hl [3, 4, 5, 6, 7, 8, 0] rfl) h hx69
  have J46 : ∀ (t_size : Int32) (t_row : Nat → Int32) (v4 : Int64) (H : Heap) (locs : List Loc) (ls : Array Slot), va_P D CL [(a_t, .inr (0, [.ref a_t_row, .int t_size])), (a_t_row, .inl (k.1, t_row_n, .inl t_row)), (a_p1, .inl (k.2.2, p1_n, .inr (.inl p1)))] H → va_D A [(a_t, .inr (0, [.ref a_t_row, .int t_size])), (a_t_row, .inl (k.1, t_row_n, .inl t_row)), (a_p1, .inl (k.2.2, p1_n, .inr (.inl p1)))] → va_S A s.heap H locs → lv_has ls 10 [(0, .ref a_t), (1, .ref a_p1), (2, .int v2), (3, .int v3), (4, .long v4)] → f_B_putBlock_j46 n t_row_n p1_n t_size t_row p1 v2 v3 v4 = some out → W p l e rm_B_putBlock s m args below meth c H locs 0 0 Q (F0 m 46 ls []) := by
    intro t_size t_row v4 H locs ls hP hD hS hl h
    unfold f_B_putBlock_j46 at h
    refine lv_aload_n hx hb d_B_putBlock_46 rfl (lv_at hl 0 rfl) ?_
    refine lv_lload hx hb d_B_putBlock_47 (lv_at hl 4 rfl) ?_
    obtain ⟨o26, ho26, h⟩ := obd_at h
    refine g_SN (As := [.long v4]) (rest := [.ref a_t]) hx hb hml hown hts hA hK hP hD hS hE (c_F_zigzag l D k v4 n o26 ho26) mw_F_zigzag ms_F_zigzag ml_B_69 [] rfl (by decide) rfl rfl rfl rfl rfl hl.1 rfl (Nat.le_of_ble_eq_true rfl) ⟨Nat.zero_le _, Nat.zero_le _⟩ d_B_putBlock_49 (fun H locs hP hD hS => ?_)
    have hP : va_P D CL [(a_t, .inr (0, [.ref a_t_row, .int t_size])), (a_t_row, .inl (k.1, t_row_n, .inl t_row)), (a_p1, .inl (k.2.2, p1_n, .inr (.inl p1)))] H := hP
    have hD : va_D A [(a_t, .inr (0, [.ref a_t_row, .int t_size])), (a_t_row, .inl (k.1, t_row_n, .inl t_row)), (a_p1, .inl (k.2.2, p1_n, .inr (.inl p1)))] := hD
    refine W.eq (g2 := F0 m 52 ls [.long o26, .ref a_t]) rfl ?_
    obtain ⟨o27, ho27, h⟩ := obd_at h
    refine g_V (As := [.long o26]) (rest := []) hx hb hml hown hts hA hK hP hD hS hE (c_B_varint l D k a_t a_t_row t_row_n t_size t_row o26 n o27 ho27) mw_B_varint mi_B_varint ml_B_31 [0, 1] rfl (by decide) rfl rfl rfl 0 rfl rfl rfl rfl rfl hl.1 rfl (Nat.le_of_ble_eq_true rfl) ⟨Nat.zero_le _, Nat.zero_le _⟩ d_B_putBlock_52 (fun H locs hP hD hS => ?_)
    have hP : va_P D CL [(a_t, .inr (0, [.ref a_t_row, .int o27.1])), (a_t_row, .inl (k.1, t_row_n, .inl o27.2)), (a_p1, .inl (k.2.2, p1_n, .inr (.inl p1)))] H := hP
    have hD : va_D A [(a_t, .inr (0, [.ref a_t_row, .int o27.1])), (a_t_row, .inl (k.1, t_row_n, .inl o27.2)), (a_p1, .inl (k.2.2, p1_n, .inr (.inl p1)))] := hD
    refine W.eq (g2 := F0 m 55 ls []) rfl ?_
    refine lv_aload_n hx hb d_B_putBlock_55 rfl (lv_at hl 0 rfl) ?_
    refine va_get (D := D) (ci := 0) (v := .int o27.1) (C := "PageForm$Bytes") (T := F_B) (N := 2) hx hb hts in_B hown hK hP 0 rfl rfl 1 (by decide) (hts _ fl_B_15) (fun _ h9 => h9) rfl d_B_putBlock_56 ?_
    refine lv_istore (lv' := [(6, .int o27.1), (0, .ref a_t), (1, .ref a_p1), (2, .int v2), (3, .int v3), (4, .long v4)]) hx hb d_B_putBlock_59 hl (by decide) rfl (fun ls hl => ?_)
    refine lv_aload_n hx hb d_B_putBlock_61 rfl (lv_at hl 1 rfl) ?_
    refine lv_iconst (v := 4) hx hb d_B_putBlock_62 (by decide) ?_
    obtain ⟨o28, ho28, h⟩ := obd_at h
    refine g_V (As := [.int (4 : Int32)]) (rest := []) hx hb hml hown hts hA hK hP hD hS hE (c_B_zeros l D k a_t a_t_row t_row_n o27.1 o27.2 (4 : Int32) n o28 ho28) mw_B_zeros mi_B_zeros ml_B_62 [0, 1] rfl (by decide) rfl rfl rfl 0 rfl rfl rfl rfl rfl hl.1 rfl (Nat.le_of_ble_eq_true rfl) ⟨Nat.zero_le _, Nat.zero_le _⟩ d_B_putBlock_63 (fun H locs hP hD hS => ?_)
    have hP : va_P D CL [(a_t, .inr (0, [.ref a_t_row, .int o28.1])), (a_t_row, .inl (k.1, t_row_n, .inl o28.2)), (a_p1, .inl (k.2.2, p1_n, .inr (.inl p1)))] H := hP
    have hD : va_D A [(a_t, .inr (0, [.ref a_t_row, .int o28.1])), (a_t_row, .inl (k.1, t_row_n, .inl o28.2)), (a_p1, .inl (k.2.2, p1_n, .inr (.inl p1)))] := hD
    refine W.eq (g2 := F0 m 66 ls []) rfl ?_
    refine lv_iconst (v := 0) hx hb d_B_putBlock_66 (by decide) ?_
    refine lv_istore (lv' := [(7, .int (0 : Int32)), (6, .int o27.1), (0, .ref a_t), (1, .ref a_p1), (2, .int v2), (3, .int v3), (4, .long v4)]) hx hb d_B_putBlock_67 hl (by decide) rfl (fun ls hl => ?_)
    obtain ⟨o29, ho29, h⟩ := obd_at h
    exact L69 n o28.1 o28.2 v4 o27.1 (0 : Int32) o29 _ _ ls hP hD hS (lv_sub hl [2, 3, 4, 5, 6, 1, 0] rfl) ho29 h
  have L16 : ∀ (K : Nat) (t_size : Int32) (t_row : Nat → Int32) (v4 : Int64) (v6 : Int32) (o : (Int64 × Int32)) (H : Heap) (locs : List Loc) (ls : Array Slot), va_P D CL [(a_t, .inr (0, [.ref a_t_row, .int t_size])), (a_t_row, .inl (k.1, t_row_n, .inl t_row)), (a_p1, .inl (k.2.2, p1_n, .inr (.inl p1)))] H → va_D A [(a_t, .inr (0, [.ref a_t_row, .int t_size])), (a_t_row, .inl (k.1, t_row_n, .inl t_row)), (a_p1, .inl (k.2.2, p1_n, .inr (.inl p1)))] → va_S A s.heap H locs → lv_has ls 10 [(0, .ref a_t), (1, .ref a_p1), (2, .int v2), (3, .int v3), (4, .long v4), (6, .int v6)] → lp (fun v => f_B_putBlock_l16 p1_n p1 v3 v.1 v.2) K (v4, v6) = some o → (fun o => f_B_putBlock_j46 n t_row_n p1_n t_size t_row p1 v2 v3 o.1) o = some out → W p l e rm_B_putBlock s m args below meth c H locs 0 0 Q (F0 m 16 ls []) := by
    intro K
    induction K with
    | zero => intros; exact absurd (by assumption) lp_no
    | succ K ih16 =>
      intro t_size t_row v4 v6 o H locs ls hP hD hS hl h0 hx16
      obtain ⟨b16, h, hc16⟩ := lp_at h0
      have h : f_B_putBlock_l16 p1_n p1 v3 v4 v6 = some b16 := h
      unfold f_B_putBlock_l16 at h
      refine lv_iload hx hb d_B_putBlock_16 (lv_at hl 5 rfl) ?_
      refine lv_iload_n hx hb d_B_putBlock_18 rfl (lv_at hl 3 rfl) ?_
      refine lv_icmp_ge (tgt := 46) hx hb d_B_putBlock_19 (by decide) (fun c => ?_) (fun c => ?_)
      · have h := ift_at h c
        obtain rfl := lp_out h hc16
        exact J46 t_size t_row v4 _ _ ls hP hD hS (lv_sub hl [0, 1, 2, 3, 4] rfl) hx16
      · have h := iff_at h c
        refine lv_lload hx hb d_B_putBlock_22 (lv_at hl 4 rfl) ?_
        refine lv_aload_n hx hb d_B_putBlock_24 rfl (lv_at hl 1 rfl) ?_
        refine lv_iload hx hb d_B_putBlock_25 (lv_at hl 5 rfl) ?_
        obtain ⟨g34, h⟩ := gd_at h
        refine va_lald hx hb hK hP 2 2 rfl rfl (inB_in g34) d_B_putBlock_27 ?_
        refine lv_aload_n hx hb d_B_putBlock_28 rfl (lv_at hl 1 rfl) ?_
        refine lv_iload hx hb d_B_putBlock_29 (lv_at hl 5 rfl) ?_
        refine lv_iconst (v := 1) hx hb d_B_putBlock_31 (by decide) ?_
        refine lv_isub hx hb d_B_putBlock_32 ?_
        obtain ⟨g35, h⟩ := gd_at h
        refine va_lald hx hb hK hP 2 2 rfl rfl (inB_in g35) d_B_putBlock_33 ?_
        refine lv_lsub hx hb d_B_putBlock_34 ?_
        refine va_mmin_long hx hb (hml.trans hl.1.symm) hown (hts _ ml_B_83) (hts _ ms_JM_min_JJ) (hts _ ini_JM) (hts _ mw_JM_min_JJ.1) (Nat.le_of_ble_eq_true rfl) (Nat.le_of_ble_eq_true rfl) (Nat.zero_le _) (Nat.zero_le _) d_B_putBlock_35 ?_
        refine lv_topl (fun x36 ex36 => ?_)
        have h := bnd_at h ex36
        refine lv_lstore (lv' := [(4, .long x36), (0, .ref a_t), (1, .ref a_p1), (2, .int v2), (3, .int v3), (6, .int v6)]) hx hb d_B_putBlock_38 hl (by decide) rfl (fun ls hl => ?_)
        obtain ⟨x37, ex37⟩ : ∃ z : Int32, z = v6 + (1 : Int32) := ⟨_, rfl⟩
        have h := bnd_at h ex37
        refine lv_iinc (v := x37) (lv' := [(6, .int x37), (4, .long x36), (0, .ref a_t), (1, .ref a_p1), (2, .int v2), (3, .int v3)]) hx hb d_B_putBlock_40 hl (k := 5) rfl (by rw [ex37]; rfl) (by decide) rfl (fun ls hl => ?_)
        refine lv_goto (tgt := 16) hx hb d_B_putBlock_43 (by decide) ?_
        have h := lp_go h hc16
        exact ih16 t_size t_row x36 x37 o _ _ ls hP hD hS (lv_sub hl [2, 3, 4, 5, 1, 0] rfl) h hx16
  unfold f_B_putBlock at h
  refine lv_aload_n hx hb d_B_putBlock_0 rfl (lv_at hl 1 rfl) ?_
  refine lv_iload_n hx hb d_B_putBlock_1 rfl (lv_at hl 2 rfl) ?_
  obtain ⟨g48, h⟩ := gd_at h
  refine va_lald hx hb hK hP 2 2 rfl rfl (inB_in g48) d_B_putBlock_2 ?_
  refine lv_aload_n hx hb d_B_putBlock_3 rfl (lv_at hl 1 rfl) ?_
  refine lv_iload_n hx hb d_B_putBlock_4 rfl (lv_at hl 2 rfl) ?_
  refine lv_iconst (v := 1) hx hb d_B_putBlock_5 (by decide) ?_
  refine lv_isub hx hb d_B_putBlock_6 ?_
  obtain ⟨g49, h⟩ := gd_at h
  refine va_lald hx hb hK hP 2 2 rfl rfl (inB_in g49) d_B_putBlock_7 ?_
  refine lv_lsub hx hb d_B_putBlock_8 ?_
  refine lv_topl (fun x50 ex50 => ?_)
  have h := bnd_at h ex50
  refine lv_lstore (lv' := [(4, .long x50), (0, .ref a_t), (1, .ref a_p1), (2, .int v2), (3, .int v3)]) hx hb d_B_putBlock_9 hl (by decide) rfl (fun ls hl => ?_)
  refine lv_iload_n hx hb d_B_putBlock_11 rfl (lv_at hl 3 rfl) ?_
  refine lv_iconst (v := 1) hx hb d_B_putBlock_12 (by decide) ?_
  refine lv_iadd hx hb d_B_putBlock_13 ?_
  refine lv_topi (fun x51 ex51 => ?_)
  have h := bnd_at h ex51
  refine lv_istore (lv' := [(6, .int x51), (4, .long x50), (0, .ref a_t), (1, .ref a_p1), (2, .int v2), (3, .int v3)]) hx hb d_B_putBlock_14 hl (by decide) rfl (fun ls hl => ?_)
  obtain ⟨o52, ho52, h⟩ := obd_at h
  exact L16 n t_size t_row x50 x51 o52 _ _ ls hP hD hS (lv_sub hl [2, 3, 4, 5, 1, 0] rfl) ho52 h

