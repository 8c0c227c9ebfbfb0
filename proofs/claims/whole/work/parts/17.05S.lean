def rm_S_takePart : Room := { frames := 1, cells := 0, slots := 0, locals := 27 }
def f_S_takePart_j93 (t_at : Int32) (t_fault : Int32) (p1 : Nat → Int64) (v6 : Int32) : Option (Int32 × Int32 × (Nat → Int64)) :=
  bnd (t_at + ((2 : Int32) * v6)) (fun x6 => some (x6, t_fault, p1))
def f_S_takePart_l16 (n : Nat) (t_row_n : Nat) (p1_n : Nat) (t_at : Int32) (t_to : Int32) (t_row : Nat → Int32) (v2 : Int32) (v3 : Int32) (v4 : Int64) (v6 : Int32) (t_fault : Int32) (p1 : Nat → Int64) (v7 : Int32) : Option ((Int32 × (Nat → Int64) × Int32) ⊕ ((Int32 × (Nat → Int64) × Int32))) :=
  (if (16 : Int32) ≤ v7 then some (Sum.inr ((t_fault, p1, v7))) else Option.bind (f_S_bitsAt n t_row_n t_to t_row (((8 : Int32) * t_at) + (v6 * v7)) v6) (fun o15 => (if v3 ≤ (v2 + v7) then (if o15 = (0 : Int64) then bnd (v7 + (1 : Int32)) (fun x16 => some (Sum.inl (t_fault, p1, x16))) else Option.bind (f_S_fail t_fault (5 : Int32)) (fun o21 => bnd (v7 + (1 : Int32)) (fun x22 => some (Sum.inl (o21, p1, x22))))) else gd (inB ((v2 + v7) - (1 : Int32)) p1_n) (bnd (((p1 ((v2 + v7) - (1 : Int32)).toNatClampNeg) + v4) + o15) (fun x28 => gd (inB (v2 + v7) p1_n) (bnd (v7 + (1 : Int32)) (fun x30 => some (Sum.inl (t_fault, vp_updL p1 (v2 + v7).toNatClampNeg x28, x30)))))))))
def f_S_takePart (n : Nat) (t_row_n : Nat) (p1_n : Nat) (t_at : Int32) (t_to : Int32) (t_fault : Int32) (t_row : Nat → Int32) (p1 : Nat → Int64) (v2 : Int32) (v3 : Int32) (v4 : Int64) (v6 : Int32) : Option (Int32 × Int32 × (Nat → Int64)) :=
  Option.bind (f_S_there t_at t_to t_fault (((2 : Int32) * v6).toInt64)) (fun o51 => (if o51.1 = 0 then some (t_at, o51.2, p1) else Option.bind (lp (fun v => f_S_takePart_l16 n t_row_n p1_n t_at t_to t_row v2 v3 v4 v6 v.1 v.2.1 v.2.2) n (o51.2, p1, (0 : Int32))) (fun o => f_S_takePart_j93 t_at o.1 o.2.1 v6)))
set_option maxHeartbeats 4000000 in
set_option maxRecDepth 100000 in
theorem c_S_takePart (l : Launch) (D : va_G) (k : ClassId × ClassId × ClassId) (a_t a_t_bytes a_t_row a_t_widths a_p1 : Nat) (t_row_n p1_n : Nat) (t_at : Int32) (t_to : Int32) (t_fault : Int32) (t_row : Nat → Int32) (p1 : Nat → Int64) (v2 : Int32) (v3 : Int32) (v4 : Int64) (v6 : Int32) (n : Nat) (out : Int32 × Int32 × (Nat → Int64)) (h : f_S_takePart n t_row_n p1_n t_at t_to t_fault t_row p1 v2 v3 v4 v6 = some out) : Ct l D k y_S_takePart b_S_takePart 10 none rm_S_takePart [.ref a_t, .ref a_p1, .int v2, .int v3, .long v4, .int v6] [(a_t, .inr (5, [.ref a_t_bytes, .ref a_t_row, .ref a_t_widths, .int t_at, .int t_to, .int t_fault])), (a_t_row, .inl (k.1, t_row_n, .inl t_row)), (a_p1, .inl (k.2.2, p1_n, .inr (.inl p1)))] [(a_t, .inr (5, [.ref a_t_bytes, .ref a_t_row, .ref a_t_widths, .int out.1, .int t_to, .int out.2.1])), (a_t_row, .inl (k.1, t_row_n, .inl t_row)), (a_p1, .inl (k.2.2, p1_n, .inr (.inl out.2.2)))] none := by
  refine Ct.ofV (by decide) (Nat.le_of_ble_eq_true rfl) ?_
  intro p e s m args below meth c A Q ls hx hb hml hown hts hA hK hP hD hS hE hl ret
  have hown : s.vm.findClass "PageForm$Source" = some m.cls := hown
  have hl : lv_has ls 10 [(0, .ref a_t), (1, .ref a_p1), (2, .int v2), (3, .int v3), (4, .long v4), (6, .int v6)] := hl
  have ret2 : ∀ (y0 : Int32) (y1 : Int32) (y2 : Nat → Int64) (_ : (y0, y1, y2) = out) {pc : Nat} {ls : Array Slot} {H : Heap} {locs : List Loc}, decode b_S_takePart pc = .ok (.return_, 1) → va_P D CL [(a_t, .inr (5, [.ref a_t_bytes, .ref a_t_row, .ref a_t_widths, .int y0, .int t_to, .int y1])), (a_t_row, .inl (k.1, t_row_n, .inl t_row)), (a_p1, .inl (k.2.2, p1_n, .inr (.inl y2)))] H → va_D A [(a_t, .inr (5, [.ref a_t_bytes, .ref a_t_row, .ref a_t_widths, .int y0, .int t_to, .int y1])), (a_t_row, .inl (k.1, t_row_n, .inl t_row)), (a_p1, .inl (k.2.2, p1_n, .inr (.inl y2)))] → va_S A s.heap H locs → W p l e rm_S_takePart s m args below meth c H locs 0 0 Q (F0 m pc ls []) := by
    intro y0 y1 y2 e0; subst e0; exact ret
  clear ret
  have J93 : ∀ (t_at : Int32) (t_fault : Int32) (p1 : Nat → Int64) (H : Heap) (locs : List Loc) (ls : Array Slot), va_P D CL [(a_t, .inr (5, [.ref a_t_bytes, .ref a_t_row, .ref a_t_widths, .int t_at, .int t_to, .int t_fault])), (a_t_row, .inl (k.1, t_row_n, .inl t_row)), (a_p1, .inl (k.2.2, p1_n, .inr (.inl p1)))] H → va_D A [(a_t, .inr (5, [.ref a_t_bytes, .ref a_t_row, .ref a_t_widths, .int t_at, .int t_to, .int t_fault])), (a_t_row, .inl (k.1, t_row_n, .inl t_row)), (a_p1, .inl (k.2.2, p1_n, .inr (.inl p1)))] → va_S A s.heap H locs → lv_has ls 10 [(0, .ref a_t), (6, .int v6)] → f_S_takePart_j93 t_at t_fault p1 v6 = some out → W p l e rm_S_takePart s m args below meth c H locs 0 0 Q (F0 m 93 ls []) := by
    intro t_at t_fault p1 H locs ls hP hD hS hl h
    unfold f_S_takePart_j93 at h
    refine lv_aload_n hx hb d_S_takePart_93 rfl (lv_at hl 0 rfl) ?_
    refine lv_dup hx hb d_S_takePart_94 rfl ?_
    refine va_get (D := D) (ci := 5) (v := .int t_at) (C := "PageForm$Source") (T := F_S) (N := 6) hx hb hts in_S hown hK hP 0 rfl rfl 3 (by decide) (hts _ fl_S_26) (fun _ h9 => h9) rfl d_S_takePart_95 ?_
    refine lv_iconst (v := 2) hx hb d_S_takePart_98 (by decide) ?_
    refine lv_iload hx hb d_S_takePart_99 (lv_at hl 1 rfl) ?_
    refine lv_imul hx hb d_S_takePart_101 ?_
    refine lv_iadd hx hb d_S_takePart_102 ?_
    refine lv_topi (fun x6 ex6 => ?_)
    have h := bnd_at h ex6
    refine va_put (D := D) (ci := 5) (v := .int x6) (ty := .int) (C := "PageForm$Source") (T := F_S) (N := 6) hx hb hts in_S t_S t_S_ok n_S hown hK hP hD hS 0 rfl rfl 3 (by decide) (hts _ fl_S_26) (fun _ h9 => h9) rfl (by decide +kernel) rfl rfl (Nat.le_of_ble_eq_true rfl) d_S_takePart_103 (fun H locs hP hD hS => ?_)
    have hP : va_P D CL [(a_t, .inr (5, [.ref a_t_bytes, .ref a_t_row, .ref a_t_widths, .int x6, .int t_to, .int t_fault])), (a_t_row, .inl (k.1, t_row_n, .inl t_row)), (a_p1, .inl (k.2.2, p1_n, .inr (.inl p1)))] H := hP
    have hD : va_D A [(a_t, .inr (5, [.ref a_t_bytes, .ref a_t_row, .ref a_t_widths, .int x6, .int t_to, .int t_fault])), (a_t_row, .inl (k.1, t_row_n, .inl t_row)), (a_p1, .inl (k.2.2, p1_n, .inr (.inl p1)))] := hD
    exact ret2 _ _ _ (Option.some.inj h) d_S_takePart_106 hP hD hS
  have L16 : ∀ (K : Nat) (t_at : Int32) (t_fault : Int32) (p1 : Nat → Int64) (v7 : Int32) (o : (Int32 × (Nat → Int64) × Int32)) (H : Heap) (locs : List Loc) (ls : Array Slot), va_P D CL [(a_t, .inr (5, [.ref a_t_bytes, .ref a_t_row, .ref a_t_widths, .int t_at, .int t_to, .int t_fault])), (a_t_row, .inl (k.1, t_row_n, .inl t_row)), (a_p1, .inl (k.2.2, p1_n, .inr (.inl p1)))] H → va_D A [(a_t, .inr (5, [.ref a_t_bytes, .ref a_t_row, .ref a_t_widths, .int t_at, .int t_to, .int t_fault])), (a_t_row, .inl (k.1, t_row_n, .inl t_row)), (a_p1, .inl (k.2.2, p1_n, .inr (.inl p1)))] → va_S A s.heap H locs → lv_has ls 10 [(0, .ref a_t), (1, .ref a_p1), (2, .int v2), (3, .int v3), (4, .long v4), (6, .int v6), (7, .int v7)] → lp (fun v => f_S_takePart_l16 n t_row_n p1_n t_at t_to t_row v2 v3 v4 v6 v.1 v.2.1 v.2.2) K (t_fault, p1, v7) = some o → (fun o => f_S_takePart_j93 t_at o.1 o.2.1 v6) o = some out → W p l e rm_S_takePart s m args below meth c H locs 0 0 Q (F0 m 16 ls []) := by
    intro K
    induction K with
    | zero => intros; exact absurd (by assumption) lp_no
    | succ K ih16 =>
      intro t_at t_fault p1 v7 o H locs ls hP hD hS hl h0 hx16
      obtain ⟨b16, h, hc16⟩ := lp_at h0
      have h : f_S_takePart_l16 n t_row_n p1_n t_at t_to t_row v2 v3 v4 v6 t_fault p1 v7 = some b16 := h
      unfold f_S_takePart_l16 at h
      refine lv_iload hx hb d_S_takePart_16 (lv_at hl 6 rfl) ?_
      refine lv_bipush (v := 16) hx hb d_S_takePart_18 (by decide) ?_
      refine lv_icmp_ge (tgt := 93) hx hb d_S_takePart_20 (by decide) (fun c => ?_) (fun c => ?_)
      · have h := ift_at h c
        obtain rfl := lp_out h hc16
        exact J93 t_at t_fault p1 _ _ ls hP hD hS (lv_sub hl [0, 5] rfl) hx16
      · have h := iff_at h c
        refine lv_aload_n hx hb d_S_takePart_23 rfl (lv_at hl 0 rfl) ?_
        refine lv_bipush (v := 8) hx hb d_S_takePart_24 (by decide) ?_
        refine lv_aload_n hx hb d_S_takePart_26 rfl (lv_at hl 0 rfl) ?_
        refine va_get (D := D) (ci := 5) (v := .int t_at) (C := "PageForm$Source") (T := F_S) (N := 6) hx hb hts in_S hown hK hP 0 rfl rfl 3 (by decide) (hts _ fl_S_26) (fun _ h9 => h9) rfl d_S_takePart_27 ?_
        refine lv_imul hx hb d_S_takePart_30 ?_
        refine lv_iload hx hb d_S_takePart_31 (lv_at hl 5 rfl) ?_
        refine lv_iload hx hb d_S_takePart_33 (lv_at hl 6 rfl) ?_
        refine lv_imul hx hb d_S_takePart_35 ?_
        refine lv_iadd hx hb d_S_takePart_36 ?_
        refine lv_iload hx hb d_S_takePart_37 (lv_at hl 5 rfl) ?_
        obtain ⟨o15, ho15, h⟩ := obd_at h
        refine g_V (As := [.int (((8 : Int32) * t_at) + (v6 * v7)), .int v6]) (rest := []) hx hb hml hown hts hA hK hP hD hS hE (c_S_bitsAt l D k a_t a_t_bytes a_t_row a_t_widths t_row_n t_at t_to t_fault t_row (((8 : Int32) * t_at) + (v6 * v7)) v6 n o15 ho15) mw_S_bitsAt mi_S_bitsAt ml_S_43 [0, 1] rfl (by decide) rfl rfl rfl 0 rfl rfl rfl rfl rfl hl.1 rfl (Nat.le_of_ble_eq_true rfl) ⟨Nat.zero_le _, Nat.zero_le _⟩ d_S_takePart_39 (fun H locs hP hD hS => ?_)
        have hP : va_P D CL [(a_t, .inr (5, [.ref a_t_bytes, .ref a_t_row, .ref a_t_widths, .int t_at, .int t_to, .int t_fault])), (a_t_row, .inl (k.1, t_row_n, .inl t_row)), (a_p1, .inl (k.2.2, p1_n, .inr (.inl p1)))] H := hP
        have hD : va_D A [(a_t, .inr (5, [.ref a_t_bytes, .ref a_t_row, .ref a_t_widths, .int t_at, .int t_to, .int t_fault])), (a_t_row, .inl (k.1, t_row_n, .inl t_row)), (a_p1, .inl (k.2.2, p1_n, .inr (.inl p1)))] := hD
        refine W.eq (g2 := F0 m 42 ls [.long o15]) rfl ?_
        refine lv_lstore (lv' := [(8, .long o15), (0, .ref a_t), (1, .ref a_p1), (2, .int v2), (3, .int v3), (4, .long v4), (6, .int v6), (7, .int v7)]) hx hb d_S_takePart_42 hl (by decide) rfl (fun ls hl => ?_)
        refine lv_iload_n hx hb d_S_takePart_44 rfl (lv_at hl 3 rfl) ?_
        refine lv_iload hx hb d_S_takePart_45 (lv_at hl 7 rfl) ?_
        refine lv_iadd hx hb d_S_takePart_47 ?_
        refine lv_iload_n hx hb d_S_takePart_48 rfl (lv_at hl 4 rfl) ?_
        refine lv_icmp_ge (tgt := 75) hx hb d_S_takePart_49 (by decide) (fun c => ?_) (fun c => ?_)
        · have h := ift_at h c
          refine lv_lload hx hb d_S_takePart_75 (lv_at hl 0 rfl) ?_
          refine lv_lconst (v := 0) hx hb d_S_takePart_77 (by decide) ?_
          refine W.lcmp hx hb d_S_takePart_78 ?_
          refine lv_if_eq (tgt := 87) hx hb d_S_takePart_79 (by decide) (fun c => ?_) (fun c => ?_)
          · have c := zc_eq.mp c
            have h := ift_at h c
            obtain ⟨x16, ex16⟩ : ∃ z : Int32, z = v7 + (1 : Int32) := ⟨_, rfl⟩
            have h := bnd_at h ex16
            refine lv_iinc (v := x16) (lv' := [(7, .int x16), (8, .long o15), (0, .ref a_t), (1, .ref a_p1), (2, .int v2), (3, .int v3), (4, .long v4), (6, .int v6)]) hx hb d_S_takePart_87 hl (k := 7) rfl (by rw [ex16]; rfl) (by decide) rfl (fun ls hl => ?_)
            refine lv_goto (tgt := 16) hx hb d_S_takePart_90 (by decide) ?_
            have h := lp_go h hc16
            exact ih16 t_at t_fault p1 x16 o _ _ ls hP hD hS (lv_sub hl [2, 3, 4, 5, 6, 7, 0] rfl) h hx16
          · have c := mt zc_eq.mpr c
            have h := iff_at h c
            refine lv_aload_n hx hb d_S_takePart_82 rfl (lv_at hl 1 rfl) ?_
            refine lv_iconst (v := 5) hx hb d_S_takePart_83 (by decide) ?_
            obtain ⟨o21, ho21, h⟩ := obd_at h
            refine g_V (As := [.int (5 : Int32)]) (rest := []) hx hb hml hown hts hA hK hP hD hS hE (c_S_fail l D k a_t a_t_bytes a_t_row a_t_widths t_at t_to t_fault (5 : Int32) n o21 ho21) mw_S_fail mi_S_fail ml_S_51 [0] rfl (by decide) rfl rfl rfl 0 rfl rfl rfl rfl rfl hl.1 rfl (Nat.le_of_ble_eq_true rfl) ⟨Nat.zero_le _, Nat.zero_le _⟩ d_S_takePart_84 (fun H locs hP hD hS => ?_)
            have hP : va_P D CL [(a_t, .inr (5, [.ref a_t_bytes, .ref a_t_row, .ref a_t_widths, .int t_at, .int t_to, .int o21])), (a_t_row, .inl (k.1, t_row_n, .inl t_row)), (a_p1, .inl (k.2.2, p1_n, .inr (.inl p1)))] H := hP
            have hD : va_D A [(a_t, .inr (5, [.ref a_t_bytes, .ref a_t_row, .ref a_t_widths, .int t_at, .int t_to, .int o21])), (a_t_row, .inl (k.1, t_row_n, .inl t_row)), (a_p1, .inl (k.2.2, p1_n, .inr (.inl p1)))] := hD
            refine W.eq (g2 := F0 m 87 ls []) rfl ?_
            obtain ⟨x22, ex22⟩ : ∃ z : Int32, z = v7 + (1 : Int32) := ⟨_, rfl⟩
            have h := bnd_at h ex22
            refine lv_iinc (v := x22) (lv' := [(7, .int x22), (8, .long o15), (0, .ref a_t), (1, .ref a_p1), (2, .int v2), (3, .int v3), (4, .long v4), (6, .int v6)]) hx hb d_S_takePart_87 hl (k := 7) rfl (by rw [ex22]; rfl) (by decide) rfl (fun ls hl => ?_)
            refine lv_goto (tgt := 16) hx hb d_S_takePart_90 (by decide) ?_
            have h := lp_go h hc16
            exact ih16 t_at o21 p1 x22 o _ _ ls hP hD hS (lv_sub hl [2, 3, 4, 5, 6, 7, 0] rfl) h hx16
        · have h := iff_at h c
          refine lv_aload_n hx hb d_S_takePart_52 rfl (lv_at hl 2 rfl) ?_
          refine lv_iload_n hx hb d_S_takePart_53 rfl (lv_at hl 3 rfl) ?_
          refine lv_iload hx hb d_S_takePart_54 (lv_at hl 7 rfl) ?_
          refine lv_iadd hx hb d_S_takePart_56 ?_
          refine lv_aload_n hx hb d_S_takePart_57 rfl (lv_at hl 2 rfl) ?_
          refine lv_iload_n hx hb d_S_takePart_58 rfl (lv_at hl 3 rfl) ?_
          refine lv_iload hx hb d_S_takePart_59 (lv_at hl 7 rfl) ?_
          refine lv_iadd hx hb d_S_takePart_61 ?_
          refine lv_iconst (v := 1) hx hb d_S_takePart_62 (by decide) ?_
          refine lv_isub hx hb d_S_takePart_63 ?_
          obtain ⟨g27, h⟩ := gd_at h
          refine va_lald hx hb hK hP 2 2 rfl rfl (inB_in g27) d_S_takePart_64 ?_
          refine lv_lload hx hb d_S_takePart_65 (lv_at hl 5 rfl) ?_
          refine lv_ladd hx hb d_S_takePart_67 ?_
          refine lv_lload hx hb d_S_takePart_68 (lv_at hl 0 rfl) ?_
          refine lv_ladd hx hb d_S_takePart_70 ?_
          refine lv_topl (fun x28 ex28 => ?_)
          have h := bnd_at h ex28
          obtain ⟨g29, h⟩ := gd_at h
          refine va_last hx hb hK hP hD hS 2 2 rfl rfl (inB_in g29) d_S_takePart_71 (fun H locs hP hD hS => ?_)
          have hP : va_P D CL [(a_t, .inr (5, [.ref a_t_bytes, .ref a_t_row, .ref a_t_widths, .int t_at, .int t_to, .int t_fault])), (a_t_row, .inl (k.1, t_row_n, .inl t_row)), (a_p1, .inl (k.2.2, p1_n, .inr (.inl (vp_updL p1 (v2 + v7).toNatClampNeg x28))))] H := hP
          have hD : va_D A [(a_t, .inr (5, [.ref a_t_bytes, .ref a_t_row, .ref a_t_widths, .int t_at, .int t_to, .int t_fault])), (a_t_row, .inl (k.1, t_row_n, .inl t_row)), (a_p1, .inl (k.2.2, p1_n, .inr (.inl (vp_updL p1 (v2 + v7).toNatClampNeg x28))))] := hD
          refine lv_goto (tgt := 87) hx hb d_S_takePart_72 (by decide) ?_
          obtain ⟨x30, ex30⟩ : ∃ z : Int32, z = v7 + (1 : Int32) := ⟨_, rfl⟩
          have h := bnd_at h ex30
          refine lv_iinc (v := x30) (lv' := [(7, .int x30), (8, .long o15), (0, .ref a_t), (1, .ref a_p1), (2, .int v2), (3, .int v3), (4, .long v4), (6, .int v6)]) hx hb d_S_takePart_87 hl (k := 7) rfl (by rw [ex30]; rfl) (by decide) rfl (fun ls hl => ?_)
          refine lv_goto (tgt := 16) hx hb d_S_takePart_90 (by decide) ?_
          have h := lp_go h hc16
          exact ih16 t_at t_fault (vp_updL p1 (v2 + v7).toNatClampNeg x28) x30 o _ _ ls hP hD hS (lv_sub hl [2, 3, 4, 5, 6, 7, 0] rfl) h hx16
  unfold f_S_takePart at h
  refine lv_aload_n hx hb d_S_takePart_0 rfl (lv_at hl 0 rfl) ?_
  refine lv_iconst (v := 2) hx hb d_S_takePart_1 (by decide) ?_
  refine lv_iload hx hb d_S_takePart_2 (lv_at hl 5 rfl) ?_
  refine lv_imul hx hb d_S_takePart_4 ?_
  refine lv_i2l hx hb d_S_takePart_5 rfl ?_
  obtain ⟨o51, ho51, h⟩ := obd_at h
  refine g_V (As := [.long (((2 : Int32) * v6).toInt64)]) (rest := []) hx hb hml hown hts hA hK hP hD hS hE (c_S_there l D k a_t a_t_bytes a_t_row a_t_widths t_at t_to t_fault (((2 : Int32) * v6).toInt64) n o51 ho51) mw_S_there mi_S_there ml_S_39 [0] rfl (by decide) rfl rfl rfl 0 rfl rfl rfl rfl rfl hl.1 rfl (Nat.le_of_ble_eq_true rfl) ⟨Nat.zero_le _, Nat.zero_le _⟩ d_S_takePart_6 (fun H locs hP hD hS => ?_)
  have hP : va_P D CL [(a_t, .inr (5, [.ref a_t_bytes, .ref a_t_row, .ref a_t_widths, .int t_at, .int t_to, .int o51.2])), (a_t_row, .inl (k.1, t_row_n, .inl t_row)), (a_p1, .inl (k.2.2, p1_n, .inr (.inl p1)))] H := hP
  have hD : va_D A [(a_t, .inr (5, [.ref a_t_bytes, .ref a_t_row, .ref a_t_widths, .int t_at, .int t_to, .int o51.2])), (a_t_row, .inl (k.1, t_row_n, .inl t_row)), (a_p1, .inl (k.2.2, p1_n, .inr (.inl p1)))] := hD
  refine W.eq (g2 := F0 m 9 ls [.int o51.1]) rfl ?_
  refine lv_if_ne (tgt := 13) hx hb d_S_takePart_9 (by decide) (fun c => ?_) (fun c => ?_)
  · have h := iff_at h c
    refine lv_iconst (v := 0) hx hb d_S_takePart_13 (by decide) ?_
    refine lv_istore (lv' := [(7, .int (0 : Int32)), (0, .ref a_t), (1, .ref a_p1), (2, .int v2), (3, .int v3), (4, .long v4), (6, .int v6)]) hx hb d_S_takePart_14 hl (by decide) rfl (fun ls hl => ?_)
    obtain ⟨o52, ho52, h⟩ := obd_at h
    exact L16 n t_at o51.2 p1 (0 : Int32) o52 _ _ ls hP hD hS (lv_sub hl [1, 2, 3, 4, 5, 6, 0] rfl) ho52 h
  · have h := ift_at h c
    exact ret2 _ _ _ (Option.some.inj h) d_S_takePart_12 hP hD hS

def rm_S_takeBlock : Room := { frames := 3, cells := 0, slots := 0, locals := 68 }
def f_S_takeBlock_l88 (n : Nat) (t_row_n : Nat) (t_widths_n : Nat) (p1_n : Nat) (t_to : Int32) (t_row : Nat → Int32) (t_widths : Nat → Int32) (v2 : Int32) (v3 : Int32) (v4 : Int64) (t_at : Int32) (t_fault : Int32) (p1 : Nat → Int64) (v6 : Int32) : Option ((Int32 × Int32 × (Nat → Int64) × Int32) ⊕ ((Int32 × Int32 × (Nat → Int32) × (Nat → Int64)))) :=
  (if (4 : Int32) ≤ v6 then some (Sum.inr ((t_at, t_fault, t_widths, p1))) else (if t_fault = 0 then bnd (v2 + ((16 : Int32) * v6)) (fun x12 => (if v3 ≤ x12 then bnd (v6 + (1 : Int32)) (fun x13 => some (Sum.inl (t_at, t_fault, p1, x13))) else gd (inB v6 t_widths_n) (Option.bind (f_S_takePart n t_row_n p1_n t_at t_to t_fault t_row p1 x12 v3 v4 (t_widths v6.toNatClampNeg)) (fun o17 => bnd (v6 + (1 : Int32)) (fun x18 => some (Sum.inl (o17.1, o17.2.1, o17.2.2, x18))))))) else some (Sum.inr ((t_at, t_fault, t_widths, p1)))))
def f_S_takeBlock_j85 (n : Nat) (t_row_n : Nat) (t_widths_n : Nat) (p1_n : Nat) (t_at : Int32) (t_to : Int32) (t_fault : Int32) (t_row : Nat → Int32) (t_widths : Nat → Int32) (p1 : Nat → Int64) (v2 : Int32) (v3 : Int32) (v4 : Int64) : Option (Int32 × Int32 × (Nat → Int32) × (Nat → Int64)) :=
  Option.bind (lp (fun v => f_S_takeBlock_l88 n t_row_n t_widths_n p1_n t_to t_row t_widths v2 v3 v4 v.1 v.2.1 v.2.2.1 v.2.2.2) n (t_at, t_fault, p1, (0 : Int32))) (fun o => some o)
def f_S_takeBlock_j74 (t_at : Int32) (t_fault : Int32) (t_widths : Nat → Int32) (v6 : Int32) : Option ((Int32 × Int32 × (Nat → Int32) × Int32) ⊕ ((Int32 × Int32 × (Nat → Int32) × Int32))) :=
  Option.bind (f_S_fail t_fault (5 : Int32)) (fun o35 => bnd (v6 + (1 : Int32)) (fun x36 => some (Sum.inl (t_at, o35, t_widths, x36))))
def f_S_takeBlock_j45 (t_widths_n : Nat) (t_at : Int32) (t_fault : Int32) (t_widths : Nat → Int32) (v6 : Int32) (k0 : Int32) : Option ((Int32 × Int32 × (Nat → Int32) × Int32) ⊕ ((Int32 × Int32 × (Nat → Int32) × Int32))) :=
  gd (inB v6 t_widths_n) ((if (64 : Int32) < (t_widths v6.toNatClampNeg) then f_S_takeBlock_j74 t_at t_fault t_widths v6 else (if k0 = 0 then bnd (v6 + (1 : Int32)) (fun x58 => some (Sum.inl (t_at, t_fault, t_widths, x58))) else gd (inB v6 t_widths_n) ((if (t_widths v6.toNatClampNeg) ≤ 0 then bnd (v6 + (1 : Int32)) (fun x65 => some (Sum.inl (t_at, t_fault, t_widths, x65))) else f_S_takeBlock_j74 t_at t_fault t_widths v6)))))
def f_S_takeBlock_l12 (t_row_n : Nat) (t_widths_n : Nat) (t_to : Int32) (t_row : Nat → Int32) (v2 : Int32) (v3 : Int32) (t_at : Int32) (t_fault : Int32) (t_widths : Nat → Int32) (v6 : Int32) : Option ((Int32 × Int32 × (Nat → Int32) × Int32) ⊕ ((Int32 × Int32 × (Nat → Int32) × Int32))) :=
  (if (4 : Int32) ≤ v6 then some (Sum.inr ((t_at, t_fault, t_widths, v6))) else Option.bind (f_S_octet t_row_n t_at t_to t_fault t_row) (fun o91 => gd (inB v6 t_widths_n) ((if (v2 + ((16 : Int32) * v6)) < v3 then f_S_takeBlock_j45 t_widths_n o91.2.1 o91.2.2 (upd t_widths v6.toNatClampNeg o91.1) v6 (0 : Int32) else f_S_takeBlock_j45 t_widths_n o91.2.1 o91.2.2 (upd t_widths v6.toNatClampNeg o91.1) v6 (1 : Int32)))))
def f_S_takeBlock (n : Nat) (t_row_n : Nat) (t_widths_n : Nat) (p1_n : Nat) (t_at : Int32) (t_to : Int32) (t_fault : Int32) (t_row : Nat → Int32) (t_widths : Nat → Int32) (p1 : Nat → Int64) (v2 : Int32) (v3 : Int32) : Option (Int32 × Int32 × (Nat → Int32) × (Nat → Int64)) :=
  Option.bind (f_S_varint n t_row_n t_at t_to t_fault t_row) (fun o113 => Option.bind (f_F_unzigzag o113.1) (fun o114 => Option.bind (lp (fun v => f_S_takeBlock_l12 t_row_n t_widths_n t_to t_row v2 v3 v.1 v.2.1 v.2.2.1 v.2.2.2) n (o113.2.1, o113.2.2, t_widths, (0 : Int32))) (fun o => f_S_takeBlock_j85 n t_row_n t_widths_n p1_n o.1 t_to o.2.1 t_row o.2.2.1 p1 v2 v3 o114)))
set_option maxHeartbeats 4000000 in
set_option maxRecDepth 100000 in
theorem c_S_takeBlock (l : Launch) (D : va_G) (k : ClassId × ClassId × ClassId) (a_t a_t_bytes a_t_row a_t_widths a_p1 : Nat) (t_row_n t_widths_n p1_n : Nat) (t_at : Int32) (t_to : Int32) (t_fault : Int32) (t_row : Nat → Int32) (t_widths : Nat → Int32) (p1 : Nat → Int64) (v2 : Int32) (v3 : Int32) (n : Nat) (out : Int32 × Int32 × (Nat → Int32) × (Nat → Int64)) (h : f_S_takeBlock n t_row_n t_widths_n p1_n t_at t_to t_fault t_row t_widths p1 v2 v3 = some out) : Ct l D k y_S_takeBlock b_S_takeBlock 8 none rm_S_takeBlock [.ref a_t, .ref a_p1, .int v2, .int v3] [(a_t, .inr (5, [.ref a_t_bytes, .ref a_t_row, .ref a_t_widths, .int t_at, .int t_to, .int t_fault])), (a_t_row, .inl (k.1, t_row_n, .inl t_row)), (a_t_widths, .inl (k.2.1, t_widths_n, .inl t_widths)), (a_p1, .inl (k.2.2, p1_n, .inr (.inl p1)))] [(a_t, .inr (5, [.ref a_t_bytes, .ref a_t_row, .ref a_t_widths, .int out.1, .int t_to, .int out.2.1])), (a_t_row, .inl (k.1, t_row_n, .inl t_row)), (a_t_widths, .inl (k.2.1, t_widths_n, .inl out.2.2.1)), (a_p1, .inl (k.2.2, p1_n, .inr (.inl out.2.2.2)))] none := by
  refine Ct.ofV (by decide) (Nat.le_of_ble_eq_true rfl) ?_
  intro p e s m args below meth c A Q ls hx hb hml hown hts hA hK hP hD hS hE hl ret
  have hown : s.vm.findClass "PageForm$Source" = some m.cls := hown
  have hl : lv_has ls 8 [(0, .ref a_t), (1, .ref a_p1), (2, .int v2), (3, .int v3)] := hl
  have ret2 : ∀ (y0 : Int32) (y1 : Int32) (y2 : Nat → Int32) (y3 : Nat → Int64) (_ : (y0, y1, y2, y3) = out) {pc : Nat} {ls : Array Slot} {H : Heap} {locs : List Loc}, decode b_S_takeBlock pc = .ok (.return_, 1) → va_P D CL [(a_t, .inr (5, [.ref a_t_bytes, .ref a_t_row, .ref a_t_widths, .int y0, .int t_to, .int y1])), (a_t_row, .inl (k.1, t_row_n, .inl t_row)), (a_t_widths, .inl (k.2.1, t_widths_n, .inl y2)), (a_p1, .inl (k.2.2, p1_n, .inr (.inl y3)))] H → va_D A [(a_t, .inr (5, [.ref a_t_bytes, .ref a_t_row, .ref a_t_widths, .int y0, .int t_to, .int y1])), (a_t_row, .inl (k.1, t_row_n, .inl t_row)), (a_t_widths, .inl (k.2.1, t_widths_n, .inl y2)), (a_p1, .inl (k.2.2, p1_n, .inr (.inl y3)))] → va_S A s.heap H locs → W p l e rm_S_takeBlock s m args below meth c H locs 0 0 Q (F0 m pc ls []) := by
    intro y0 y1 y2 y3 e0; subst e0; exact ret
  clear ret
  have L88 : ∀ (K : Nat) (t_at : Int32) (t_fault : Int32) (t_widths : Nat → Int32) (p1 : Nat → Int64) (v4 : Int64) (v6 : Int32) (o : (Int32 × Int32 × (Nat → Int32) × (Nat → Int64))) (H : Heap) (locs : List Loc) (ls : Array Slot), va_P D CL [(a_t, .inr (5, [.ref a_t_bytes, .ref a_t_row, .ref a_t_widths, .int t_at, .int t_to, .int t_fault])), (a_t_row, .inl (k.1, t_row_n, .inl t_row)), (a_t_widths, .inl (k.2.1, t_widths_n, .inl t_widths)), (a_p1, .inl (k.2.2, p1_n, .inr (.inl p1)))] H → va_D A [(a_t, .inr (5, [.ref a_t_bytes, .ref a_t_row, .ref a_t_widths, .int t_at, .int t_to, .int t_fault])), (a_t_row, .inl (k.1, t_row_n, .inl t_row)), (a_t_widths, .inl (k.2.1, t_widths_n, .inl t_widths)), (a_p1, .inl (k.2.2, p1_n, .inr (.inl p1)))] → va_S A s.heap H locs → lv_has ls 8 [(0, .ref a_t), (1, .ref a_p1), (2, .int v2), (3, .int v3), (4, .long v4), (6, .int v6)] → lp (fun v => f_S_takeBlock_l88 n t_row_n t_widths_n p1_n t_to t_row t_widths v2 v3 v4 v.1 v.2.1 v.2.2.1 v.2.2.2) K (t_at, t_fault, p1, v6) = some o → (fun o => some o) o = some out → W p l e rm_S_takeBlock s m args below meth c H locs 0 0 Q (F0 m 88 ls []) := by
    intro K
    induction K with
    | zero => intros; exact absurd (by assumption) lp_no
    | succ K ih88 =>
      intro t_at t_fault t_widths p1 v4 v6 o H locs ls hP hD hS hl h0 hx88
      obtain ⟨b88, h, hc88⟩ := lp_at h0
      have h : f_S_takeBlock_l88 n t_row_n t_widths_n p1_n t_to t_row t_widths v2 v3 v4 t_at t_fault p1 v6 = some b88 := h
      unfold f_S_takeBlock_l88 at h
      refine lv_iload hx hb d_S_takeBlock_88 (lv_at hl 5 rfl) ?_
      refine lv_iconst (v := 4) hx hb d_S_takeBlock_90 (by decide) ?_
      refine lv_icmp_ge (tgt := 139) hx hb d_S_takeBlock_91 (by decide) (fun c => ?_) (fun c => ?_)
      · have h := ift_at h c
        obtain rfl := lp_out h hc88
        exact ret2 _ _ _ _ (Option.some.inj hx88) d_S_takeBlock_139 hP hD hS
      · have h := iff_at h c
        refine lv_aload_n hx hb d_S_takeBlock_94 rfl (lv_at hl 0 rfl) ?_
        refine va_get (D := D) (ci := 5) (v := .int t_fault) (C := "PageForm$Source") (T := F_S) (N := 6) hx hb hts in_S hown hK hP 0 rfl rfl 5 (by decide) (hts _ fl_S_36) (fun _ h9 => h9) rfl d_S_takeBlock_95 ?_
        refine lv_if_ne (tgt := 139) hx hb d_S_takeBlock_98 (by decide) (fun c => ?_) (fun c => ?_)
        · have h := iff_at h c
          obtain rfl := lp_out h hc88
          exact ret2 _ _ _ _ (Option.some.inj hx88) d_S_takeBlock_139 hP hD hS
        · have h := ift_at h c
          refine lv_iload_n hx hb d_S_takeBlock_101 rfl (lv_at hl 2 rfl) ?_
          refine lv_bipush (v := 16) hx hb d_S_takeBlock_102 (by decide) ?_
          refine lv_iload hx hb d_S_takeBlock_104 (lv_at hl 5 rfl) ?_
          refine lv_imul hx hb d_S_takeBlock_106 ?_
          refine lv_iadd hx hb d_S_takeBlock_107 ?_
          refine lv_topi (fun x12 ex12 => ?_)
          have h := bnd_at h ex12
          refine lv_istore (lv' := [(7, .int x12), (0, .ref a_t), (1, .ref a_p1), (2, .int v2), (3, .int v3), (4, .long v4), (6, .int v6)]) hx hb d_S_takeBlock_108 hl (by decide) rfl (fun ls hl => ?_)
          refine lv_iload hx hb d_S_takeBlock_110 (lv_at hl 0 rfl) ?_
          refine lv_iload_n hx hb d_S_takeBlock_112 rfl (lv_at hl 4 rfl) ?_
          refine lv_icmp_ge (tgt := 133) hx hb d_S_takeBlock_113 (by decide) (fun c => ?_) (fun c => ?_)
          · have h := ift_at h c
            obtain ⟨x13, ex13⟩ : ∃ z : Int32, z = v6 + (1 : Int32) := ⟨_, rfl⟩
            have h := bnd_at h ex13
            refine lv_iinc (v := x13) (lv' := [(6, .int x13), (7, .int x12), (0, .ref a_t), (1, .ref a_p1), (2, .int v2), (3, .int v3), (4, .long v4)]) hx hb d_S_takeBlock_133 hl (k := 6) rfl (by rw [ex13]; rfl) (by decide) rfl (fun ls hl => ?_)
            refine lv_goto (tgt := 88) hx hb d_S_takeBlock_136 (by decide) ?_
            have h := lp_go h hc88
            exact ih88 t_at t_fault t_widths p1 v4 x13 o _ _ ls hP hD hS (lv_sub hl [2, 3, 4, 5, 6, 0] rfl) h hx88
          · have h := iff_at h c
            refine lv_aload_n hx hb d_S_takeBlock_116 rfl (lv_at hl 1 rfl) ?_
            refine lv_aload_n hx hb d_S_takeBlock_117 rfl (lv_at hl 2 rfl) ?_
            refine lv_iload hx hb d_S_takeBlock_118 (lv_at hl 0 rfl) ?_
            refine lv_iload_n hx hb d_S_takeBlock_120 rfl (lv_at hl 4 rfl) ?_
            refine lv_lload hx hb d_S_takeBlock_121 (lv_at hl 5 rfl) ?_
            refine lv_aload_n hx hb d_S_takeBlock_123 rfl (lv_at hl 1 rfl) ?_
            refine va_get (D := D) (ci := 5) (v := .ref a_t_widths) (C := "PageForm$Source") (T := F_S) (N := 6) hx hb hts in_S hown hK hP 0 rfl rfl 2 (by decide) (hts _ fl_S_9) (fun _ h9 => h9) rfl d_S_takeBlock_124 ?_
            refine lv_iload hx hb d_S_takeBlock_127 (lv_at hl 6 rfl) ?_
            obtain ⟨g16, h⟩ := gd_at h
            refine va_iald hx hb hK hP 2 1 rfl rfl (inB_in g16) d_S_takeBlock_129 ?_
            obtain ⟨o17, ho17, h⟩ := obd_at h
            refine g_V (As := [.ref a_p1, .int x12, .int v3, .long v4, .int (t_widths v6.toNatClampNeg)]) (rest := []) hx hb hml hown hts hA hK hP hD hS hE (c_S_takePart l D k a_t a_t_bytes a_t_row a_t_widths a_p1 t_row_n p1_n t_at t_to t_fault t_row p1 x12 v3 v4 (t_widths v6.toNatClampNeg) n o17 ho17) mw_S_takePart mi_S_takePart ml_S_100 [0, 1, 3] rfl (by decide) rfl rfl rfl 0 rfl rfl rfl rfl rfl hl.1 rfl (Nat.le_of_ble_eq_true rfl) ⟨Nat.zero_le _, Nat.zero_le _⟩ d_S_takeBlock_130 (fun H locs hP hD hS => ?_)
            have hP : va_P D CL [(a_t, .inr (5, [.ref a_t_bytes, .ref a_t_row, .ref a_t_widths, .int o17.1, .int t_to, .int o17.2.1])), (a_t_row, .inl (k.1, t_row_n, .inl t_row)), (a_t_widths, .inl (k.2.1, t_widths_n, .inl t_widths)), (a_p1, .inl (k.2.2, p1_n, .inr (.inl o17.2.2)))] H := hP
            have hD : va_D A [(a_t, .inr (5, [.ref a_t_bytes, .ref a_t_row, .ref a_t_widths, .int o17.1, .int t_to, .int o17.2.1])), (a_t_row, .inl (k.1, t_row_n, .inl t_row)), (a_t_widths, .inl (k.2.1, t_widths_n, .inl t_widths)), (a_p1, .inl (k.2.2, p1_n, .inr (.inl o17.2.2)))] := hD
            refine W.eq (g2 := F0 m 133 ls []) rfl ?_
            obtain ⟨x18, ex18⟩ : ∃ z : Int32, z = v6 + (1 : Int32) := ⟨_, rfl⟩
            have h := bnd_at h ex18
            refine lv_iinc (v := x18) (lv' := [(6, .int x18), (7, .int x12), (0, .ref a_t), (1, .ref a_p1), (2, .int v2), (3, .int v3), (4, .long v4)]) hx hb d_S_takeBlock_133 hl (k := 6) rfl (by rw [ex18]; rfl) (by decide) rfl (fun ls hl => ?_)
            refine lv_goto (tgt := 88) hx hb d_S_takeBlock_136 (by decide) ?_
            have h := lp_go h hc88
            exact ih88 o17.1 o17.2.1 t_widths o17.2.2 v4 x18 o _ _ ls hP hD hS (lv_sub hl [2, 3, 4, 5, 6, 0] rfl) h hx88
  have J85 : ∀ (t_at : Int32) (t_fault : Int32) (t_widths : Nat → Int32) (p1 : Nat → Int64) (v4 : Int64) (H : Heap) (locs : List Loc) (ls : Array Slot), va_P D CL [(a_t, .inr (5, [.ref a_t_bytes, .ref a_t_row, .ref a_t_widths, .int t_at, .int t_to, .int t_fault])), (a_t_row, .inl (k.1, t_row_n, .inl t_row)), (a_t_widths, .inl (k.2.1, t_widths_n, .inl t_widths)), (a_p1, .inl (k.2.2, p1_n, .inr (.inl p1)))] H → va_D A [(a_t, .inr (5, [.ref a_t_bytes, .ref a_t_row, .ref a_t_widths, .int t_at, .int t_to, .int t_fault])), (a_t_row, .inl (k.1, t_row_n, .inl t_row)), (a_t_widths, .inl (k.2.1, t_widths_n, .inl t_widths)), (a_p1, .inl (k.2.2, p1_n, .inr (.inl p1)))] → va_S A s.heap H locs → lv_has ls 8 [(0, .ref a_t), (1, .ref a_p1), (2, .int v2), (3, .int v3), (4, .long v4)] → f_S_takeBlock_j85 n t_row_n t_widths_n p1_n t_at t_to t_fault t_row t_widths p1 v2 v3 v4 = some out → W p l e rm_S_takeBlock s m args below meth c H locs 0 0 Q (F0 m 85 ls []) := by
    intro t_at t_fault t_widths p1 v4 H locs ls hP hD hS hl h
    unfold f_S_takeBlock_j85 at h
    refine lv_iconst (v := 0) hx hb d_S_takeBlock_85 (by decide) ?_
    refine lv_istore (lv' := [(6, .int (0 : Int32)), (0, .ref a_t), (1, .ref a_p1), (2, .int v2), (3, .int v3), (4, .long v4)]) hx hb d_S_takeBlock_86 hl (by decide) rfl (fun ls hl => ?_)
    obtain ⟨o29, ho29, h⟩ := obd_at h
    exact L88 n t_at t_fault t_widths p1 v4 (0 : Int32) o29 _ _ ls hP hD hS (lv_sub hl [1, 2, 3, 4, 5, 0] rfl) ho29 h
  have L12 : ∀ (K : Nat) (t_at : Int32) (t_fault : Int32) (t_widths : Nat → Int32) (p1 : Nat → Int64) (v4 : Int64) (v6 : Int32) (o : (Int32 × Int32 × (Nat → Int32) × Int32)) (H : Heap) (locs : List Loc) (ls : Array Slot), va_P D CL [(a_t, .inr (5, [.ref a_t_bytes, .ref a_t_row, .ref a_t_widths, .int t_at, .int t_to, .int t_fault])), (a_t_row, .inl (k.1, t_row_n, .inl t_row)), (a_t_widths, .inl (k.2.1, t_widths_n, .inl t_widths)), (a_p1, .inl (k.2.2, p1_n, .inr (.inl p1)))] H → va_D A [(a_t, .inr (5, [.ref a_t_bytes, .ref a_t_row, .ref a_t_widths, .int t_at, .int t_to, .int t_fault])), (a_t_row, .inl (k.1, t_row_n, .inl t_row)), (a_t_widths, .inl (k.2.1, t_widths_n, .inl t_widths)), (a_p1, .inl (k.2.2, p1_n, .inr (.inl p1)))] → va_S A s.heap H locs → lv_has ls 8 [(0, .ref a_t), (1, .ref a_p1), (2, .int v2), (3, .int v3), (4, .long v4), (6, .int v6)] → lp (fun v => f_S_takeBlock_l12 t_row_n t_widths_n t_to t_row v2 v3 v.1 v.2.1 v.2.2.1 v.2.2.2) K (t_at, t_fault, t_widths, v6) = some o → (fun o => f_S_takeBlock_j85 n t_row_n t_widths_n p1_n o.1 t_to o.2.1 t_row o.2.2.1 p1 v2 v3 v4) o = some out → W p l e rm_S_takeBlock s m args below meth c H locs 0 0 Q (F0 m 12 ls []) := by
    intro K
    induction K with
    | zero => intros; exact absurd (by assumption) lp_no
    | succ K ih12 =>
      intro t_at t_fault t_widths p1 v4 v6 o H locs ls hP hD hS hl h0 hx12
      obtain ⟨b12, h, hc12⟩ := lp_at h0
      have h : f_S_takeBlock_l12 t_row_n t_widths_n t_to t_row v2 v3 t_at t_fault t_widths v6 = some b12 := h
      have J74 : ∀ (t_at : Int32) (t_fault : Int32) (t_widths : Nat → Int32) (v6 : Int32) (H : Heap) (locs : List Loc) (ls : Array Slot), va_P D CL [(a_t, .inr (5, [.ref a_t_bytes, .ref a_t_row, .ref a_t_widths, .int t_at, .int t_to, .int t_fault])), (a_t_row, .inl (k.1, t_row_n, .inl t_row)), (a_t_widths, .inl (k.2.1, t_widths_n, .inl t_widths)), (a_p1, .inl (k.2.2, p1_n, .inr (.inl p1)))] H → va_D A [(a_t, .inr (5, [.ref a_t_bytes, .ref a_t_row, .ref a_t_widths, .int t_at, .int t_to, .int t_fault])), (a_t_row, .inl (k.1, t_row_n, .inl t_row)), (a_t_widths, .inl (k.2.1, t_widths_n, .inl t_widths)), (a_p1, .inl (k.2.2, p1_n, .inr (.inl p1)))] → va_S A s.heap H locs → lv_has ls 8 [(0, .ref a_t), (1, .ref a_p1), (2, .int v2), (3, .int v3), (4, .long v4), (6, .int v6)] → f_S_takeBlock_j74 t_at t_fault t_widths v6 = some b12 → W p l e rm_S_takeBlock s m args below meth c H locs 0 0 Q (F0 m 74 ls []) := by
        intro t_at t_fault t_widths v6 H locs ls hP hD hS hl h
        unfold f_S_takeBlock_j74 at h
        refine lv_aload_n hx hb d_S_takeBlock_74 rfl (lv_at hl 0 rfl) ?_
        refine lv_iconst (v := 5) hx hb d_S_takeBlock_75 (by decide) ?_
        obtain ⟨o35, ho35, h⟩ := obd_at h
        refine g_V (As := [.int (5 : Int32)]) (rest := []) hx hb hml hown hts hA hK hP hD hS hE (c_S_fail l D k a_t a_t_bytes a_t_row a_t_widths t_at t_to t_fault (5 : Int32) n o35 ho35) mw_S_fail mi_S_fail ml_S_51 [0] rfl (by decide) rfl rfl rfl 0 rfl rfl rfl rfl rfl hl.1 rfl (Nat.le_of_ble_eq_true rfl) ⟨Nat.zero_le _, Nat.zero_le _⟩ d_S_takeBlock_76 (fun H locs hP hD hS => ?_)
        have hP : va_P D CL [(a_t, .inr (5, [.ref a_t_bytes, .ref a_t_row, .ref a_t_widths, .int t_at, .int t_to, .int o35])), (a_t_row, .inl (k.1, t_row_n, .inl t_row)), (a_t_widths, .inl (k.2.1, t_widths_n, .inl t_widths)), (a_p1, .inl (k.2.2, p1_n, .inr (.inl p1)))] H := hP
        have hD : va_D A [(a_t, .inr (5, [.ref a_t_bytes, .ref a_t_row, .ref a_t_widths, .int t_at, .int t_to, .int o35])), (a_t_row, .inl (k.1, t_row_n, .inl t_row)), (a_t_widths, .inl (k.2.1, t_widths_n, .inl t_widths)), (a_p1, .inl (k.2.2, p1_n, .inr (.inl p1)))] := hD
        refine W.eq (g2 := F0 m 79 ls []) rfl ?_
        obtain ⟨x36, ex36⟩ : ∃ z : Int32, z = v6 + (1 : Int32) := ⟨_, rfl⟩
        have h := bnd_at h ex36
        refine lv_iinc (v := x36) (lv' := [(6, .int x36), (0, .ref a_t), (1, .ref a_p1), (2, .int v2), (3, .int v3), (4, .long v4)]) hx hb d_S_takeBlock_79 hl (k := 5) rfl (by rw [ex36]; rfl) (by decide) rfl (fun ls hl => ?_)
        refine lv_goto (tgt := 12) hx hb d_S_takeBlock_82 (by decide) ?_
        have h := lp_go h hc12
        exact ih12 t_at o35 t_widths p1 v4 x36 o _ _ ls hP hD hS (lv_sub hl [1, 2, 3, 4, 5, 0] rfl) h hx12
      have J45 : ∀ (t_at : Int32) (t_fault : Int32) (t_widths : Nat → Int32) (v6 : Int32) (k0 : Int32) (H : Heap) (locs : List Loc) (ls : Array Slot), va_P D CL [(a_t, .inr (5, [.ref a_t_bytes, .ref a_t_row, .ref a_t_widths, .int t_at, .int t_to, .int t_fault])), (a_t_row, .inl (k.1, t_row_n, .inl t_row)), (a_t_widths, .inl (k.2.1, t_widths_n, .inl t_widths)), (a_p1, .inl (k.2.2, p1_n, .inr (.inl p1)))] H → va_D A [(a_t, .inr (5, [.ref a_t_bytes, .ref a_t_row, .ref a_t_widths, .int t_at, .int t_to, .int t_fault])), (a_t_row, .inl (k.1, t_row_n, .inl t_row)), (a_t_widths, .inl (k.2.1, t_widths_n, .inl t_widths)), (a_p1, .inl (k.2.2, p1_n, .inr (.inl p1)))] → va_S A s.heap H locs → lv_has ls 8 [(0, .ref a_t), (1, .ref a_p1), (2, .int v2), (3, .int v3), (4, .long v4), (6, .int v6)] → f_S_takeBlock_j45 t_widths_n t_at t_fault t_widths v6 k0 = some b12 → W p l e rm_S_takeBlock s m args below meth c H locs 0 0 Q (F0 m 45 ls [.int k0]) := by
        intro t_at t_fault t_widths v6 k0 H locs ls hP hD hS hl h
        unfold f_S_takeBlock_j45 at h
        refine lv_istore (lv' := [(7, .int k0), (0, .ref a_t), (1, .ref a_p1), (2, .int v2), (3, .int v3), (4, .long v4), (6, .int v6)]) hx hb d_S_takeBlock_45 hl (by decide) rfl (fun ls hl => ?_)
        refine lv_aload_n hx hb d_S_takeBlock_47 rfl (lv_at hl 1 rfl) ?_
        refine va_get (D := D) (ci := 5) (v := .ref a_t_widths) (C := "PageForm$Source") (T := F_S) (N := 6) hx hb hts in_S hown hK hP 0 rfl rfl 2 (by decide) (hts _ fl_S_9) (fun _ h9 => h9) rfl d_S_takeBlock_48 ?_
        refine lv_iload hx hb d_S_takeBlock_51 (lv_at hl 6 rfl) ?_
        obtain ⟨g57, h⟩ := gd_at h
        refine va_iald hx hb hK hP 2 1 rfl rfl (inB_in g57) d_S_takeBlock_53 ?_
        refine lv_bipush (v := 64) hx hb d_S_takeBlock_54 (by decide) ?_
        refine lv_icmp_gt (tgt := 74) hx hb d_S_takeBlock_56 (by decide) (fun c => ?_) (fun c => ?_)
        · have h := ift_at h c
          exact J74 t_at t_fault t_widths v6 _ _ ls hP hD hS (lv_sub hl [1, 2, 3, 4, 5, 6] rfl) h
        · have h := iff_at h c
          refine lv_iload hx hb d_S_takeBlock_59 (lv_at hl 0 rfl) ?_
          refine lv_if_eq (tgt := 79) hx hb d_S_takeBlock_61 (by decide) (fun c => ?_) (fun c => ?_)
          · have h := ift_at h c
            obtain ⟨x58, ex58⟩ : ∃ z : Int32, z = v6 + (1 : Int32) := ⟨_, rfl⟩
            have h := bnd_at h ex58
            refine lv_iinc (v := x58) (lv' := [(6, .int x58), (7, .int k0), (0, .ref a_t), (1, .ref a_p1), (2, .int v2), (3, .int v3), (4, .long v4)]) hx hb d_S_takeBlock_79 hl (k := 6) rfl (by rw [ex58]; rfl) (by decide) rfl (fun ls hl => ?_)
            refine lv_goto (tgt := 12) hx hb d_S_takeBlock_82 (by decide) ?_
            have h := lp_go h hc12
            exact ih12 t_at t_fault t_widths p1 v4 x58 o _ _ ls hP hD hS (lv_sub hl [2, 3, 4, 5, 6, 0] rfl) h hx12
          · have h := iff_at h c
            refine lv_aload_n hx hb d_S_takeBlock_64 rfl (lv_at hl 1 rfl) ?_
            refine va_get (D := D) (ci := 5) (v := .ref a_t_widths) (C := "PageForm$Source") (T := F_S) (N := 6) hx hb hts in_S hown hK hP 0 rfl rfl 2 (by decide) (hts _ fl_S_9) (fun _ h9 => h9) rfl d_S_takeBlock_65 ?_
            refine lv_iload hx hb d_S_takeBlock_68 (lv_at hl 6 rfl) ?_
            obtain ⟨g64, h⟩ := gd_at h
            refine va_iald hx hb hK hP 2 1 rfl rfl (inB_in g64) d_S_takeBlock_70 ?_
            refine lv_if_le (tgt := 79) hx hb d_S_takeBlock_71 (by decide) (fun c => ?_) (fun c => ?_)
            · have h := ift_at h c
              obtain ⟨x65, ex65⟩ : ∃ z : Int32, z = v6 + (1 : Int32) := ⟨_, rfl⟩
              have h := bnd_at h ex65
              refine lv_iinc (v := x65) (lv' := [(6, .int x65), (7, .int k0), (0, .ref a_t), (1, .ref a_p1), (2, .int v2), (3, .int v3), (4, .long v4)]) hx hb d_S_takeBlock_79 hl (k := 6) rfl (by rw [ex65]; rfl) (by decide) rfl (fun ls hl => ?_)
              refine lv_goto (tgt := 12) hx hb d_S_takeBlock_82 (by decide) ?_
              have h := lp_go h hc12
              exact ih12 t_at t_fault t_widths p1 v4 x65 o _ _ ls hP hD hS (lv_sub hl [2, 3, 4, 5, 6, 0] rfl) h hx12
            · have h := iff_at h c
              exact J74 t_at t_fault t_widths v6 _ _ ls hP hD hS (lv_sub hl [1, 2, 3, 4, 5, 6] rfl) h
      unfold f_S_takeBlock_l12 at h
      refine lv_iload hx hb d_S_takeBlock_12 (lv_at hl 5 rfl) ?_
      refine lv_iconst (v := 4) hx hb d_S_takeBlock_14 (by decide) ?_
      refine lv_icmp_ge (tgt := 85) hx hb d_S_takeBlock_15 (by decide) (fun c => ?_) (fun c => ?_)
      · have h := ift_at h c
        obtain rfl := lp_out h hc12
        exact J85 t_at t_fault t_widths p1 v4 _ _ ls hP hD hS (lv_sub hl [0, 1, 2, 3, 4] rfl) hx12
      · have h := iff_at h c
        refine lv_aload_n hx hb d_S_takeBlock_18 rfl (lv_at hl 0 rfl) ?_
        refine va_get (D := D) (ci := 5) (v := .ref a_t_widths) (C := "PageForm$Source") (T := F_S) (N := 6) hx hb hts in_S hown hK hP 0 rfl rfl 2 (by decide) (hts _ fl_S_9) (fun _ h9 => h9) rfl d_S_takeBlock_19 ?_
        refine lv_iload hx hb d_S_takeBlock_22 (lv_at hl 5 rfl) ?_
        refine lv_aload_n hx hb d_S_takeBlock_24 rfl (lv_at hl 0 rfl) ?_
        obtain ⟨o91, ho91, h⟩ := obd_at h
        refine g_V (As := []) (rest := [.int v6, .ref a_t_widths]) hx hb hml hown hts hA hK hP hD hS hE (c_S_octet l D k a_t a_t_bytes a_t_row a_t_widths t_row_n t_at t_to t_fault t_row n o91 ho91) mw_S_octet mi_S_octet ml_S_47 [0, 1] rfl (by decide) rfl rfl rfl 0 rfl rfl rfl rfl rfl hl.1 rfl (Nat.le_of_ble_eq_true rfl) ⟨Nat.zero_le _, Nat.zero_le _⟩ d_S_takeBlock_25 (fun H locs hP hD hS => ?_)
        have hP : va_P D CL [(a_t, .inr (5, [.ref a_t_bytes, .ref a_t_row, .ref a_t_widths, .int o91.2.1, .int t_to, .int o91.2.2])), (a_t_row, .inl (k.1, t_row_n, .inl t_row)), (a_t_widths, .inl (k.2.1, t_widths_n, .inl t_widths)), (a_p1, .inl (k.2.2, p1_n, .inr (.inl p1)))] H := hP
        have hD : va_D A [(a_t, .inr (5, [.ref a_t_bytes, .ref a_t_row, .ref a_t_widths, .int o91.2.1, .int t_to, .int o91.2.2])), (a_t_row, .inl (k.1, t_row_n, .inl t_row)), (a_t_widths, .inl (k.2.1, t_widths_n, .inl t_widths)), (a_p1, .inl (k.2.2, p1_n, .inr (.inl p1)))] := hD
        refine W.eq (g2 := F0 m 28 ls [.int o91.1, .int v6, .ref a_t_widths]) rfl ?_
        obtain ⟨g92, h⟩ := gd_at h
        refine va_iast hx hb hK hP hD hS 2 1 rfl rfl (inB_in g92) d_S_takeBlock_28 (fun H locs hP hD hS => ?_)
        have hP : va_P D CL [(a_t, .inr (5, [.ref a_t_bytes, .ref a_t_row, .ref a_t_widths, .int o91.2.1, .int t_to, .int o91.2.2])), (a_t_row, .inl (k.1, t_row_n, .inl t_row)), (a_t_widths, .inl (k.2.1, t_widths_n, .inl (upd t_widths v6.toNatClampNeg o91.1))), (a_p1, .inl (k.2.2, p1_n, .inr (.inl p1)))] H := hP
        have hD : va_D A [(a_t, .inr (5, [.ref a_t_bytes, .ref a_t_row, .ref a_t_widths, .int o91.2.1, .int t_to, .int o91.2.2])), (a_t_row, .inl (k.1, t_row_n, .inl t_row)), (a_t_widths, .inl (k.2.1, t_widths_n, .inl (upd t_widths v6.toNatClampNeg o91.1))), (a_p1, .inl (k.2.2, p1_n, .inr (.inl p1)))] := hD
        refine lv_iload_n hx hb d_S_takeBlock_29 rfl (lv_at hl 2 rfl) ?_
        refine lv_bipush (v := 16) hx hb d_S_takeBlock_30 (by decide) ?_
        refine lv_iload hx hb d_S_takeBlock_32 (lv_at hl 5 rfl) ?_
        refine lv_imul hx hb d_S_takeBlock_34 ?_
        refine lv_iadd hx hb d_S_takeBlock_35 ?_
        refine lv_iload_n hx hb d_S_takeBlock_36 rfl (lv_at hl 3 rfl) ?_
        refine lv_icmp_lt (tgt := 44) hx hb d_S_takeBlock_37 (by decide) (fun c => ?_) (fun c => ?_)
        · have h := ift_at h c
          refine lv_iconst (v := 0) hx hb d_S_takeBlock_44 (by decide) ?_
          exact J45 o91.2.1 o91.2.2 (upd t_widths v6.toNatClampNeg o91.1) v6 (0 : Int32) _ _ ls hP hD hS (lv_sub hl [0, 1, 2, 3, 4, 5] rfl) h
        · have h := iff_at h c
          refine lv_iconst (v := 1) hx hb d_S_takeBlock_40 (by decide) ?_
          refine lv_goto (tgt := 45) hx hb d_S_takeBlock_41 (by decide) ?_
          exact J45 o91.2.1 o91.2.2 (upd t_widths v6.toNatClampNeg o91.1) v6 (1 : Int32) _ _ ls hP hD hS (lv_sub hl [0, 1, 2, 3, 4, 5] rfl) h
  unfold f_S_takeBlock at h
  refine lv_aload_n hx hb d_S_takeBlock_0 rfl (lv_at hl 0 rfl) ?_
  obtain ⟨o113, ho113, h⟩ := obd_at h
  refine g_V (As := []) (rest := []) hx hb hml hown hts hA hK hP hD hS hE (c_S_varint l D k a_t a_t_bytes a_t_row a_t_widths t_row_n t_at t_to t_fault t_row n o113 ho113) mw_S_varint mi_S_varint ml_S_55 [0, 1] rfl (by decide) rfl rfl rfl 0 rfl rfl rfl rfl rfl hl.1 rfl (Nat.le_of_ble_eq_true rfl) ⟨Nat.zero_le _, Nat.zero_le _⟩ d_S_takeBlock_1 (fun H locs hP hD hS => ?_)
  have hP : va_P D CL [(a_t, .inr (5, [.ref a_t_bytes, .ref a_t_row, .ref a_t_widths, .int o113.2.1, .int t_to, .int o113.2.2])), (a_t_row, .inl (k.1, t_row_n, .inl t_row)), (a_t_widths, .inl (k.2.1, t_widths_n, .inl t_widths)), (a_p1, .inl (k.2.2, p1_n, .inr (.inl p1)))] H := hP
  have hD : va_D A [(a_t, .inr (5, [.ref a_t_bytes, .ref a_t_row, .ref a_t_widths, .int o113.2.1, .int t_to, .int o113.2.2])), (a_t_row, .inl (k.1, t_row_n, .inl t_row)), (a_t_widths, .inl (k.2.1, t_widths_n, .inl t_widths)), (a_p1, .inl (k.2.2, p1_n, .inr (.inl p1)))] := hD
  refine W.eq (g2 := F0 m 4 ls [.long o113.1]) rfl ?_
  obtain ⟨o114, ho114, h⟩ := obd_at h
  refine g_SN (As := [.long o113.1]) (rest := []) hx hb hml hown hts hA hK hP hD hS hE (c_F_unzigzag l D k o113.1 n o114 ho114) mw_F_unzigzag ms_F_unzigzag ml_S_86 [] rfl (by decide) rfl rfl rfl rfl rfl hl.1 rfl (Nat.le_of_ble_eq_true rfl) ⟨Nat.zero_le _, Nat.zero_le _⟩ d_S_takeBlock_4 (fun H locs hP hD hS => ?_)
  have hP : va_P D CL [(a_t, .inr (5, [.ref a_t_bytes, .ref a_t_row, .ref a_t_widths, .int o113.2.1, .int t_to, .int o113.2.2])), (a_t_row, .inl (k.1, t_row_n, .inl t_row)), (a_t_widths, .inl (k.2.1, t_widths_n, .inl t_widths)), (a_p1, .inl (k.2.2, p1_n, .inr (.inl p1)))] H := hP
  have hD : va_D A [(a_t, .inr (5, [.ref a_t_bytes, .ref a_t_row, .ref a_t_widths, .int o113.2.1, .int t_to, .int o113.2.2])), (a_t_row, .inl (k.1, t_row_n, .inl t_row)), (a_t_widths, .inl (k.2.1, t_widths_n, .inl t_widths)), (a_p1, .inl (k.2.2, p1_n, .inr (.inl p1)))] := hD
  refine W.eq (g2 := F0 m 7 ls [.long o114]) rfl ?_
  refine lv_lstore (lv' := [(4, .long o114), (0, .ref a_t), (1, .ref a_p1), (2, .int v2), (3, .int v3)]) hx hb d_S_takeBlock_7 hl (by decide) rfl (fun ls hl => ?_)
  refine lv_iconst (v := 0) hx hb d_S_takeBlock_9 (by decide) ?_
  refine lv_istore (lv' := [(6, .int (0 : Int32)), (4, .long o114), (0, .ref a_t), (1, .ref a_p1), (2, .int v2), (3, .int v3)]) hx hb d_S_takeBlock_10 hl (by decide) rfl (fun ls hl => ?_)
  obtain ⟨o115, ho115, h⟩ := obd_at h
  exact L12 n o113.2.1 o113.2.2 t_widths p1 o114 (0 : Int32) o115 _ _ ls hP hD hS (lv_sub hl [2, 3, 4, 5, 1, 0] rfl) ho115 h

def rm_S_code : Room := { frames := 4, cells := 0, slots := 0, locals := 95 }
def f_S_code_j92 (t_at : Int32) (t_to : Int32) (t_fault : Int32) (t_widths : Nat → Int32) (p1 : Nat → Int64) (v4 : Int32) : Option (Int32 × Int32 × Int32 × (Nat → Int32) × (Nat → Int64)) :=
  Option.bind (f_S_mustBeAtEnd t_at t_to t_fault) (fun o8 => some (v4, t_at, o8, t_widths, p1))
def f_S_code_l55 (n : Nat) (t_row_n : Nat) (t_widths_n : Nat) (p1_n : Nat) (t_to : Int32) (t_row : Nat → Int32) (v4 : Int32) (t_at : Int32) (t_fault : Int32) (t_widths : Nat → Int32) (p1 : Nat → Int64) (v5 : Int32) : Option ((Int32 × Int32 × (Nat → Int32) × (Nat → Int64) × Int32) ⊕ ((Int32 × Int32 × (Nat → Int32) × (Nat → Int64) × Int32))) :=
  (if v4 ≤ v5 then some (Sum.inr ((t_at, t_fault, t_widths, p1, v5))) else (if t_fault = 0 then Option.bind (f_S_takeBlock n t_row_n t_widths_n p1_n t_at t_to t_fault t_row t_widths p1 v5 (if v4 < (v5 + (64 : Int32)) then v4 else (v5 + (64 : Int32)))) (fun o12 => bnd (v5 + (64 : Int32)) (fun x13 => some (Sum.inl (o12.1, o12.2.1, o12.2.2.1, o12.2.2.2, x13)))) else some (Sum.inr ((t_at, t_fault, t_widths, p1, v5)))))
def f_S_code_j52 (n : Nat) (t_row_n : Nat) (t_widths_n : Nat) (p1_n : Nat) (t_at : Int32) (t_to : Int32) (t_fault : Int32) (t_row : Nat → Int32) (t_widths : Nat → Int32) (p1 : Nat → Int64) (v4 : Int32) : Option (Int32 × Int32 × Int32 × (Nat → Int32) × (Nat → Int64)) :=
  Option.bind (lp (fun v => f_S_code_l55 n t_row_n t_widths_n p1_n t_to t_row v4 v.1 v.2.1 v.2.2.1 v.2.2.2.1 v.2.2.2.2) n (t_at, t_fault, t_widths, p1, (1 : Int32))) (fun o => f_S_code_j92 o.1 t_to o.2.1 o.2.2.1 o.2.2.2.1 v4)
def f_S_code_j24 (n : Nat) (t_row_n : Nat) (t_widths_n : Nat) (p1_n : Nat) (t_at : Int32) (t_to : Int32) (t_fault : Int32) (t_row : Nat → Int32) (t_widths : Nat → Int32) (p1 : Nat → Int64) (v2 : Int64) : Option (Int32 × Int32 × Int32 × (Nat → Int32) × (Nat → Int64)) :=
  (if t_fault = 0 then (if v2.toInt32 ≤ 0 then f_S_code_j52 n t_row_n t_widths_n p1_n t_at t_to t_fault t_row t_widths p1 v2.toInt32 else Option.bind (f_S_varint n t_row_n t_at t_to t_fault t_row) (fun o20 => Option.bind (f_F_unzigzag o20.1) (fun o21 => gd (inB (0 : Int32) p1_n) (f_S_code_j52 n t_row_n t_widths_n p1_n o20.2.1 t_to o20.2.2 t_row t_widths (vp_updL p1 (0 : Int32).toNatClampNeg o21) v2.toInt32)))) else some ((0 : Int32), t_at, t_fault, t_widths, p1))
def f_S_code_j19 (n : Nat) (t_row_n : Nat) (t_widths_n : Nat) (p1_n : Nat) (t_at : Int32) (t_to : Int32) (t_fault : Int32) (t_row : Nat → Int32) (t_widths : Nat → Int32) (p1 : Nat → Int64) (v2 : Int64) : Option (Int32 × Int32 × Int32 × (Nat → Int32) × (Nat → Int64)) :=
  Option.bind (f_S_fail t_fault (4 : Int32)) (fun o23 => f_S_code_j24 n t_row_n t_widths_n p1_n t_at t_to o23 t_row t_widths p1 v2)
def f_S_code (n : Nat) (t_row_n : Nat) (t_widths_n : Nat) (p1_n : Nat) (t_at : Int32) (t_to : Int32) (t_fault : Int32) (t_row : Nat → Int32) (t_widths : Nat → Int32) (p1 : Nat → Int64) : Option (Int32 × Int32 × Int32 × (Nat → Int32) × (Nat → Int64)) :=
  Option.bind (f_S_varint n t_row_n t_at t_to t_fault t_row) (fun o24 => (if o24.1 < (0 : Int64) then f_S_code_j19 n t_row_n t_widths_n p1_n o24.2.1 t_to o24.2.2 t_row t_widths p1 o24.1 else (if o24.1 ≤ (2000 : Int64) then f_S_code_j24 n t_row_n t_widths_n p1_n o24.2.1 t_to o24.2.2 t_row t_widths p1 o24.1 else f_S_code_j19 n t_row_n t_widths_n p1_n o24.2.1 t_to o24.2.2 t_row t_widths p1 o24.1)))
set_option maxHeartbeats 4000000 in
set_option maxRecDepth 100000 in
theorem c_S_code (l : Launch) (D : va_G) (k : ClassId × ClassId × ClassId) (a_t a_t_bytes a_t_row a_t_widths a_p1 : Nat) (t_row_n t_widths_n p1_n : Nat) (t_at : Int32) (t_to : Int32) (t_fault : Int32) (t_row : Nat → Int32) (t_widths : Nat → Int32) (p1 : Nat → Int64) (n : Nat) (out : Int32 × Int32 × Int32 × (Nat → Int32) × (Nat → Int64)) (h : f_S_code n t_row_n t_widths_n p1_n t_at t_to t_fault t_row t_widths p1 = some out) : Ct l D k y_S_code b_S_code 6 (some .int) rm_S_code [.ref a_t, .ref a_p1] [(a_t, .inr (5, [.ref a_t_bytes, .ref a_t_row, .ref a_t_widths, .int t_at, .int t_to, .int t_fault])), (a_t_row, .inl (k.1, t_row_n, .inl t_row)), (a_t_widths, .inl (k.2.1, t_widths_n, .inl t_widths)), (a_p1, .inl (k.2.2, p1_n, .inr (.inl p1)))] [(a_t, .inr (5, [.ref a_t_bytes, .ref a_t_row, .ref a_t_widths, .int out.2.1, .int t_to, .int out.2.2.1])), (a_t_row, .inl (k.1, t_row_n, .inl t_row)), (a_t_widths, .inl (k.2.1, t_widths_n, .inl out.2.2.2.1)), (a_p1, .inl (k.2.2, p1_n, .inr (.inl out.2.2.2.2)))] (some (.int out.1)) := by
  refine Ct.ofI (by decide) (Nat.le_of_ble_eq_true rfl) ?_
  intro p e s m args below meth c A Q ls hx hb hml hown hts hA hK hP hD hS hE hl ret
  have hown : s.vm.findClass "PageForm$Source" = some m.cls := hown
  have hl : lv_has ls 6 [(0, .ref a_t), (1, .ref a_p1)] := hl
  have ret2 : ∀ (y0 : Int32) (y1 : Int32) (y2 : Int32) (y3 : Nat → Int32) (y4 : Nat → Int64) (_ : (y0, y1, y2, y3, y4) = out) {pc : Nat} {ls : Array Slot} {H : Heap} {locs : List Loc}, decode b_S_code pc = .ok (.ireturn, 1) → va_P D CL [(a_t, .inr (5, [.ref a_t_bytes, .ref a_t_row, .ref a_t_widths, .int y1, .int t_to, .int y2])), (a_t_row, .inl (k.1, t_row_n, .inl t_row)), (a_t_widths, .inl (k.2.1, t_widths_n, .inl y3)), (a_p1, .inl (k.2.2, p1_n, .inr (.inl y4)))] H → va_D A [(a_t, .inr (5, [.ref a_t_bytes, .ref a_t_row, .ref a_t_widths, .int y1, .int t_to, .int y2])), (a_t_row, .inl (k.1, t_row_n, .inl t_row)), (a_t_widths, .inl (k.2.1, t_widths_n, .inl y3)), (a_p1, .inl (k.2.2, p1_n, .inr (.inl y4)))] → va_S A s.heap H locs → W p l e rm_S_code s m args below meth c H locs 0 0 Q (F0 m pc ls [.int y0]) := by
    intro y0 y1 y2 y3 y4 e0; subst e0; exact ret
  clear ret
  have J92 : ∀ (t_at : Int32) (t_fault : Int32) (t_widths : Nat → Int32) (p1 : Nat → Int64) (v4 : Int32) (H : Heap) (locs : List Loc) (ls : Array Slot), va_P D CL [(a_t, .inr (5, [.ref a_t_bytes, .ref a_t_row, .ref a_t_widths, .int t_at, .int t_to, .int t_fault])), (a_t_row, .inl (k.1, t_row_n, .inl t_row)), (a_t_widths, .inl (k.2.1, t_widths_n, .inl t_widths)), (a_p1, .inl (k.2.2, p1_n, .inr (.inl p1)))] H → va_D A [(a_t, .inr (5, [.ref a_t_bytes, .ref a_t_row, .ref a_t_widths, .int t_at, .int t_to, .int t_fault])), (a_t_row, .inl (k.1, t_row_n, .inl t_row)), (a_t_widths, .inl (k.2.1, t_widths_n, .inl t_widths)), (a_p1, .inl (k.2.2, p1_n, .inr (.inl p1)))] → va_S A s.heap H locs → lv_has ls 6 [(0, .ref a_t), (4, .int v4)] → f_S_code_j92 t_at t_to t_fault t_widths p1 v4 = some out → W p l e rm_S_code s m args below meth c H locs 0 0 Q (F0 m 92 ls []) := by
    intro t_at t_fault t_widths p1 v4 H locs ls hP hD hS hl h
    unfold f_S_code_j92 at h
    refine lv_aload_n hx hb d_S_code_92 rfl (lv_at hl 0 rfl) ?_
    obtain ⟨o8, ho8, h⟩ := obd_at h
    refine g_V (As := []) (rest := []) hx hb hml hown hts hA hK hP hD hS hE (c_S_mustBeAtEnd l D k a_t a_t_bytes a_t_row a_t_widths t_at t_to t_fault n o8 ho8) mw_S_mustBeAtEnd mi_S_mustBeAtEnd ml_S_71 [0] rfl (by decide) rfl rfl rfl 0 rfl rfl rfl rfl rfl hl.1 rfl (Nat.le_of_ble_eq_true rfl) ⟨Nat.zero_le _, Nat.zero_le _⟩ d_S_code_93 (fun H locs hP hD hS => ?_)
    have hP : va_P D CL [(a_t, .inr (5, [.ref a_t_bytes, .ref a_t_row, .ref a_t_widths, .int t_at, .int t_to, .int o8])), (a_t_row, .inl (k.1, t_row_n, .inl t_row)), (a_t_widths, .inl (k.2.1, t_widths_n, .inl t_widths)), (a_p1, .inl (k.2.2, p1_n, .inr (.inl p1)))] H := hP
    have hD : va_D A [(a_t, .inr (5, [.ref a_t_bytes, .ref a_t_row, .ref a_t_widths, .int t_at, .int t_to, .int o8])), (a_t_row, .inl (k.1, t_row_n, .inl t_row)), (a_t_widths, .inl (k.2.1, t_widths_n, .inl t_widths)), (a_p1, .inl (k.2.2, p1_n, .inr (.inl p1)))] := hD
    refine W.eq (g2 := F0 m 96 ls []) rfl ?_
    refine lv_iload hx hb d_S_code_96 (lv_at hl 1 rfl) ?_
    exact ret2 _ _ _ _ _ (Option.some.inj h) d_S_code_98 hP hD hS
  have L55 : ∀ (K : Nat) (t_at : Int32) (t_fault : Int32) (t_widths : Nat → Int32) (p1 : Nat → Int64) (v4 : Int32) (v5 : Int32) (o : (Int32 × Int32 × (Nat → Int32) × (Nat → Int64) × Int32)) (H : Heap) (locs : List Loc) (ls : Array Slot), va_P D CL [(a_t, .inr (5, [.ref a_t_bytes, .ref a_t_row, .ref a_t_widths, .int t_at, .int t_to, .int t_fault])), (a_t_row, .inl (k.1, t_row_n, .inl t_row)), (a_t_widths, .inl (k.2.1, t_widths_n, .inl t_widths)), (a_p1, .inl (k.2.2, p1_n, .inr (.inl p1)))] H → va_D A [(a_t, .inr (5, [.ref a_t_bytes, .ref a_t_row, .ref a_t_widths, .int t_at, .int t_to, .int t_fault])), (a_t_row, .inl (k.1, t_row_n, .inl t_row)), (a_t_widths, .inl (k.2.1, t_widths_n, .inl t_widths)), (a_p1, .inl (k.2.2, p1_n, .inr (.inl p1)))] → va_S A s.heap H locs → lv_has ls 6 [(0, .ref a_t), (1, .ref a_p1), (4, .int v4), (5, .int v5)] → lp (fun v => f_S_code_l55 n t_row_n t_widths_n p1_n t_to t_row v4 v.1 v.2.1 v.2.2.1 v.2.2.2.1 v.2.2.2.2) K (t_at, t_fault, t_widths, p1, v5) = some o → (fun o => f_S_code_j92 o.1 t_to o.2.1 o.2.2.1 o.2.2.2.1 v4) o = some out → W p l e rm_S_code s m args below meth c H locs 0 0 Q (F0 m 55 ls []) := by
    intro K
    induction K with
    | zero => intros; exact absurd (by assumption) lp_no
    | succ K ih55 =>
      intro t_at t_fault t_widths p1 v4 v5 o H locs ls hP hD hS hl h0 hx55
      obtain ⟨b55, h, hc55⟩ := lp_at h0
      have h : f_S_code_l55 n t_row_n t_widths_n p1_n t_to t_row v4 t_at t_fault t_widths p1 v5 = some b55 := h
      unfold f_S_code_l55 at h
      refine lv_iload hx hb d_S_code_55 (lv_at hl 3 rfl) ?_
      refine lv_iload hx hb d_S_code_57 (lv_at hl 2 rfl) ?_
      refine lv_icmp_ge (tgt := 92) hx hb d_S_code_59 (by decide) (fun c => ?_) (fun c => ?_)
      · have h := ift_at h c
        obtain rfl := lp_out h hc55
        exact J92 t_at t_fault t_widths p1 v4 _ _ ls hP hD hS (lv_sub hl [0, 2] rfl) hx55
      · have h := iff_at h c
        refine lv_aload_n hx hb d_S_code_62 rfl (lv_at hl 0 rfl) ?_
        refine va_get (D := D) (ci := 5) (v := .int t_fault) (C := "PageForm$Source") (T := F_S) (N := 6) hx hb hts in_S hown hK hP 0 rfl rfl 5 (by decide) (hts _ fl_S_36) (fun _ h9 => h9) rfl d_S_code_63 ?_
        refine lv_if_ne (tgt := 92) hx hb d_S_code_66 (by decide) (fun c => ?_) (fun c => ?_)
        · have h := iff_at h c
          obtain rfl := lp_out h hc55
          exact J92 t_at t_fault t_widths p1 v4 _ _ ls hP hD hS (lv_sub hl [0, 2] rfl) hx55
        · have h := ift_at h c
          refine lv_aload_n hx hb d_S_code_69 rfl (lv_at hl 0 rfl) ?_
          refine lv_aload_n hx hb d_S_code_70 rfl (lv_at hl 1 rfl) ?_
          refine lv_iload hx hb d_S_code_71 (lv_at hl 3 rfl) ?_
          refine lv_iload hx hb d_S_code_73 (lv_at hl 3 rfl) ?_
          refine lv_bipush (v := 64) hx hb d_S_code_75 (by decide) ?_
          refine lv_iadd hx hb d_S_code_77 ?_
          refine lv_iload hx hb d_S_code_78 (lv_at hl 2 rfl) ?_
          refine va_mmin hx hb (hml.trans hl.1.symm) hown (hts _ ml_S_90) (hts _ ms_JM_min_II) (hts _ ini_JM) (hts _ mw_JM_min_II.1) (Nat.le_of_ble_eq_true rfl) (Nat.le_of_ble_eq_true rfl) (Nat.zero_le _) (Nat.zero_le _) d_S_code_80 ?_
          obtain ⟨o12, ho12, h⟩ := obd_at h
          refine g_V (As := [.ref a_p1, .int v5, .int (if v4 < (v5 + (64 : Int32)) then v4 else (v5 + (64 : Int32)))]) (rest := []) hx hb hml hown hts hA hK hP hD hS hE (c_S_takeBlock l D k a_t a_t_bytes a_t_row a_t_widths a_p1 t_row_n t_widths_n p1_n t_at t_to t_fault t_row t_widths p1 v5 (if v4 < (v5 + (64 : Int32)) then v4 else (v5 + (64 : Int32))) n o12 ho12) mw_S_takeBlock mi_S_takeBlock ml_S_96 [0, 1, 2, 3] rfl (by decide) rfl rfl rfl 0 rfl rfl rfl rfl rfl hl.1 rfl (Nat.le_of_ble_eq_true rfl) ⟨Nat.zero_le _, Nat.zero_le _⟩ d_S_code_83 (fun H locs hP hD hS => ?_)
          have hP : va_P D CL [(a_t, .inr (5, [.ref a_t_bytes, .ref a_t_row, .ref a_t_widths, .int o12.1, .int t_to, .int o12.2.1])), (a_t_row, .inl (k.1, t_row_n, .inl t_row)), (a_t_widths, .inl (k.2.1, t_widths_n, .inl o12.2.2.1)), (a_p1, .inl (k.2.2, p1_n, .inr (.inl o12.2.2.2)))] H := hP
          have hD : va_D A [(a_t, .inr (5, [.ref a_t_bytes, .ref a_t_row, .ref a_t_widths, .int o12.1, .int t_to, .int o12.2.1])), (a_t_row, .inl (k.1, t_row_n, .inl t_row)), (a_t_widths, .inl (k.2.1, t_widths_n, .inl o12.2.2.1)), (a_p1, .inl (k.2.2, p1_n, .inr (.inl o12.2.2.2)))] := hD
          refine W.eq (g2 := F0 m 86 ls []) rfl ?_
          obtain ⟨x13, ex13⟩ : ∃ z : Int32, z = v5 + (64 : Int32) := ⟨_, rfl⟩
          have h := bnd_at h ex13
          refine lv_iinc (v := x13) (lv' := [(5, .int x13), (0, .ref a_t), (1, .ref a_p1), (4, .int v4)]) hx hb d_S_code_86 hl (k := 3) rfl (by rw [ex13]; rfl) (by decide) rfl (fun ls hl => ?_)
          refine lv_goto (tgt := 55) hx hb d_S_code_89 (by decide) ?_
          have h := lp_go h hc55
          exact ih55 o12.1 o12.2.1 o12.2.2.1 o12.2.2.2 v4 x13 o _ _ ls hP hD hS (lv_sub hl [1, 2, 3, 0] rfl) h hx55
  have J52 : ∀ (t_at : Int32) (t_fault : Int32) (t_widths : Nat → Int32) (p1 : Nat → Int64) (v4 : Int32) (H : Heap) (locs : List Loc) (ls : Array Slot), va_P D CL [(a_t, .inr (5, [.ref a_t_bytes, .ref a_t_row, .ref a_t_widths, .int t_at, .int t_to, .int t_fault])), (a_t_row, .inl (k.1, t_row_n, .inl t_row)), (a_t_widths, .inl (k.2.1, t_widths_n, .inl t_widths)), (a_p1, .inl (k.2.2, p1_n, .inr (.inl p1)))] H → va_D A [(a_t, .inr (5, [.ref a_t_bytes, .ref a_t_row, .ref a_t_widths, .int t_at, .int t_to, .int t_fault])), (a_t_row, .inl (k.1, t_row_n, .inl t_row)), (a_t_widths, .inl (k.2.1, t_widths_n, .inl t_widths)), (a_p1, .inl (k.2.2, p1_n, .inr (.inl p1)))] → va_S A s.heap H locs → lv_has ls 6 [(0, .ref a_t), (1, .ref a_p1), (4, .int v4)] → f_S_code_j52 n t_row_n t_widths_n p1_n t_at t_to t_fault t_row t_widths p1 v4 = some out → W p l e rm_S_code s m args below meth c H locs 0 0 Q (F0 m 52 ls []) := by
    intro t_at t_fault t_widths p1 v4 H locs ls hP hD hS hl h
    unfold f_S_code_j52 at h
    refine lv_iconst (v := 1) hx hb d_S_code_52 (by decide) ?_
    refine lv_istore (lv' := [(5, .int (1 : Int32)), (0, .ref a_t), (1, .ref a_p1), (4, .int v4)]) hx hb d_S_code_53 hl (by decide) rfl (fun ls hl => ?_)
    obtain ⟨o19, ho19, h⟩ := obd_at h
    exact L55 n t_at t_fault t_widths p1 v4 (1 : Int32) o19 _ _ ls hP hD hS (lv_sub hl [1, 2, 3, 0] rfl) ho19 h
  have J24 : ∀ (t_at : Int32) (t_fault : Int32) (t_widths : Nat → Int32) (p1 : Nat → Int64) (v2 : Int64) (H : Heap) (locs : List Loc) (ls : Array Slot), va_P D CL [(a_t, .inr (5, [.ref a_t_bytes, .ref a_t_row, .ref a_t_widths, .int t_at, .int t_to, .int t_fault])), (a_t_row, .inl (k.1, t_row_n, .inl t_row)), (a_t_widths, .inl (k.2.1, t_widths_n, .inl t_widths)), (a_p1, .inl (k.2.2, p1_n, .inr (.inl p1)))] H → va_D A [(a_t, .inr (5, [.ref a_t_bytes, .ref a_t_row, .ref a_t_widths, .int t_at, .int t_to, .int t_fault])), (a_t_row, .inl (k.1, t_row_n, .inl t_row)), (a_t_widths, .inl (k.2.1, t_widths_n, .inl t_widths)), (a_p1, .inl (k.2.2, p1_n, .inr (.inl p1)))] → va_S A s.heap H locs → lv_has ls 6 [(0, .ref a_t), (1, .ref a_p1), (2, .long v2)] → f_S_code_j24 n t_row_n t_widths_n p1_n t_at t_to t_fault t_row t_widths p1 v2 = some out → W p l e rm_S_code s m args below meth c H locs 0 0 Q (F0 m 24 ls []) := by
    intro t_at t_fault t_widths p1 v2 H locs ls hP hD hS hl h
    unfold f_S_code_j24 at h
    refine lv_aload_n hx hb d_S_code_24 rfl (lv_at hl 0 rfl) ?_
    refine va_get (D := D) (ci := 5) (v := .int t_fault) (C := "PageForm$Source") (T := F_S) (N := 6) hx hb hts in_S hown hK hP 0 rfl rfl 5 (by decide) (hts _ fl_S_36) (fun _ h9 => h9) rfl d_S_code_25 ?_
    refine lv_if_eq (tgt := 33) hx hb d_S_code_28 (by decide) (fun c => ?_) (fun c => ?_)
    · have h := ift_at h c
      refine lv_lload_n hx hb d_S_code_33 rfl (lv_at hl 2 rfl) ?_
      refine lv_l2i hx hb d_S_code_34 rfl ?_
      refine lv_istore (lv' := [(4, .int v2.toInt32), (0, .ref a_t), (1, .ref a_p1), (2, .long v2)]) hx hb d_S_code_35 hl (by decide) rfl (fun ls hl => ?_)
      refine lv_iload hx hb d_S_code_37 (lv_at hl 0 rfl) ?_
      refine lv_if_le (tgt := 52) hx hb d_S_code_39 (by decide) (fun c => ?_) (fun c => ?_)
      · have h := ift_at h c
        exact J52 t_at t_fault t_widths p1 v2.toInt32 _ _ ls hP hD hS (lv_sub hl [1, 2, 0] rfl) h
      · have h := iff_at h c
        refine lv_aload_n hx hb d_S_code_42 rfl (lv_at hl 2 rfl) ?_
        refine lv_iconst (v := 0) hx hb d_S_code_43 (by decide) ?_
        refine lv_aload_n hx hb d_S_code_44 rfl (lv_at hl 1 rfl) ?_
        obtain ⟨o20, ho20, h⟩ := obd_at h
        refine g_V (As := []) (rest := [.int (0 : Int32), .ref a_p1]) hx hb hml hown hts hA hK hP hD hS hE (c_S_varint l D k a_t a_t_bytes a_t_row a_t_widths t_row_n t_at t_to t_fault t_row n o20 ho20) mw_S_varint mi_S_varint ml_S_55 [0, 1] rfl (by decide) rfl rfl rfl 0 rfl rfl rfl rfl rfl hl.1 rfl (Nat.le_of_ble_eq_true rfl) ⟨Nat.zero_le _, Nat.zero_le _⟩ d_S_code_45 (fun H locs hP hD hS => ?_)
        have hP : va_P D CL [(a_t, .inr (5, [.ref a_t_bytes, .ref a_t_row, .ref a_t_widths, .int o20.2.1, .int t_to, .int o20.2.2])), (a_t_row, .inl (k.1, t_row_n, .inl t_row)), (a_t_widths, .inl (k.2.1, t_widths_n, .inl t_widths)), (a_p1, .inl (k.2.2, p1_n, .inr (.inl p1)))] H := hP
        have hD : va_D A [(a_t, .inr (5, [.ref a_t_bytes, .ref a_t_row, .ref a_t_widths, .int o20.2.1, .int t_to, .int o20.2.2])), (a_t_row, .inl (k.1, t_row_n, .inl t_row)), (a_t_widths, .inl (k.2.1, t_widths_n, .inl t_widths)), (a_p1, .inl (k.2.2, p1_n, .inr (.inl p1)))] := hD
        refine W.eq (g2 := F0 m 48 ls [.long o20.1, .int (0 : Int32), .ref a_p1]) rfl ?_
        obtain ⟨o21, ho21, h⟩ := obd_at h
        refine g_SN (As := [.long o20.1]) (rest := [.int (0 : Int32), .ref a_p1]) hx hb hml hown hts hA hK hP hD hS hE (c_F_unzigzag l D k o20.1 n o21 ho21) mw_F_unzigzag ms_F_unzigzag ml_S_86 [] rfl (by decide) rfl rfl rfl rfl rfl hl.1 rfl (Nat.le_of_ble_eq_true rfl) ⟨Nat.zero_le _, Nat.zero_le _⟩ d_S_code_48 (fun H locs hP hD hS => ?_)
        have hP : va_P D CL [(a_t, .inr (5, [.ref a_t_bytes, .ref a_t_row, .ref a_t_widths, .int o20.2.1, .int t_to, .int o20.2.2])), (a_t_row, .inl (k.1, t_row_n, .inl t_row)), (a_t_widths, .inl (k.2.1, t_widths_n, .inl t_widths)), (a_p1, .inl (k.2.2, p1_n, .inr (.inl p1)))] H := hP
        have hD : va_D A [(a_t, .inr (5, [.ref a_t_bytes, .ref a_t_row, .ref a_t_widths, .int o20.2.1, .int t_to, .int o20.2.2])), (a_t_row, .inl (k.1, t_row_n, .inl t_row)), (a_t_widths, .inl (k.2.1, t_widths_n, .inl t_widths)), (a_p1, .inl (k.2.2, p1_n, .inr (.inl p1)))] := hD
        refine W.eq (g2 := F0 m 51 ls [.long o21, .int (0 : Int32), .ref a_p1]) rfl ?_
        obtain ⟨g22, h⟩ := gd_at h
        refine va_last hx hb hK hP hD hS 3 2 rfl rfl (inB_in g22) d_S_code_51 (fun H locs hP hD hS => ?_)
        have hP : va_P D CL [(a_t, .inr (5, [.ref a_t_bytes, .ref a_t_row, .ref a_t_widths, .int o20.2.1, .int t_to, .int o20.2.2])), (a_t_row, .inl (k.1, t_row_n, .inl t_row)), (a_t_widths, .inl (k.2.1, t_widths_n, .inl t_widths)), (a_p1, .inl (k.2.2, p1_n, .inr (.inl (vp_updL p1 (0 : Int32).toNatClampNeg o21))))] H := hP
        have hD : va_D A [(a_t, .inr (5, [.ref a_t_bytes, .ref a_t_row, .ref a_t_widths, .int o20.2.1, .int t_to, .int o20.2.2])), (a_t_row, .inl (k.1, t_row_n, .inl t_row)), (a_t_widths, .inl (k.2.1, t_widths_n, .inl t_widths)), (a_p1, .inl (k.2.2, p1_n, .inr (.inl (vp_updL p1 (0 : Int32).toNatClampNeg o21))))] := hD
        exact J52 o20.2.1 o20.2.2 t_widths (vp_updL p1 (0 : Int32).toNatClampNeg o21) v2.toInt32 _ _ ls hP hD hS (lv_sub hl [1, 2, 0] rfl) h
    · have h := iff_at h c
      refine lv_iconst (v := 0) hx hb d_S_code_31 (by decide) ?_
      exact ret2 _ _ _ _ _ (Option.some.inj h) d_S_code_32 hP hD hS
  have J19 : ∀ (t_at : Int32) (t_fault : Int32) (t_widths : Nat → Int32) (p1 : Nat → Int64) (v2 : Int64) (H : Heap) (locs : List Loc) (ls : Array Slot), va_P D CL [(a_t, .inr (5, [.ref a_t_bytes, .ref a_t_row, .ref a_t_widths, .int t_at, .int t_to, .int t_fault])), (a_t_row, .inl (k.1, t_row_n, .inl t_row)), (a_t_widths, .inl (k.2.1, t_widths_n, .inl t_widths)), (a_p1, .inl (k.2.2, p1_n, .inr (.inl p1)))] H → va_D A [(a_t, .inr (5, [.ref a_t_bytes, .ref a_t_row, .ref a_t_widths, .int t_at, .int t_to, .int t_fault])), (a_t_row, .inl (k.1, t_row_n, .inl t_row)), (a_t_widths, .inl (k.2.1, t_widths_n, .inl t_widths)), (a_p1, .inl (k.2.2, p1_n, .inr (.inl p1)))] → va_S A s.heap H locs → lv_has ls 6 [(0, .ref a_t), (1, .ref a_p1), (2, .long v2)] → f_S_code_j19 n t_row_n t_widths_n p1_n t_at t_to t_fault t_row t_widths p1 v2 = some out → W p l e rm_S_code s m args below meth c H locs 0 0 Q (F0 m 19 ls []) := by
    intro t_at t_fault t_widths p1 v2 H locs ls hP hD hS hl h
    unfold f_S_code_j19 at h
    refine lv_aload_n hx hb d_S_code_19 rfl (lv_at hl 0 rfl) ?_
    refine lv_iconst (v := 4) hx hb d_S_code_20 (by decide) ?_
    obtain ⟨o23, ho23, h⟩ := obd_at h
    refine g_V (As := [.int (4 : Int32)]) (rest := []) hx hb hml hown hts hA hK hP hD hS hE (c_S_fail l D k a_t a_t_bytes a_t_row a_t_widths t_at t_to t_fault (4 : Int32) n o23 ho23) mw_S_fail mi_S_fail ml_S_51 [0] rfl (by decide) rfl rfl rfl 0 rfl rfl rfl rfl rfl hl.1 rfl (Nat.le_of_ble_eq_true rfl) ⟨Nat.zero_le _, Nat.zero_le _⟩ d_S_code_21 (fun H locs hP hD hS => ?_)
    have hP : va_P D CL [(a_t, .inr (5, [.ref a_t_bytes, .ref a_t_row, .ref a_t_widths, .int t_at, .int t_to, .int o23])), (a_t_row, .inl (k.1, t_row_n, .inl t_row)), (a_t_widths, .inl (k.2.1, t_widths_n, .inl t_widths)), (a_p1, .inl (k.2.2, p1_n, .inr (.inl p1)))] H := hP
    have hD : va_D A [(a_t, .inr (5, [.ref a_t_bytes, .ref a_t_row, .ref a_t_widths, .int t_at, .int t_to, .int o23])), (a_t_row, .inl (k.1, t_row_n, .inl t_row)), (a_t_widths, .inl (k.2.1, t_widths_n, .inl t_widths)), (a_p1, .inl (k.2.2, p1_n, .inr (.inl p1)))] := hD
    refine W.eq (g2 := F0 m 24 ls []) rfl ?_
    exact J24 t_at o23 t_widths p1 v2 _ _ ls hP hD hS (lv_sub hl [0, 1, 2] rfl) h
  unfold f_S_code at h
  refine lv_aload_n hx hb d_S_code_0 rfl (lv_at hl 0 rfl) ?_
  obtain ⟨o24, ho24, h⟩ := obd_at h
  refine g_V (As := []) (rest := []) hx hb hml hown hts hA hK hP hD hS hE (c_S_varint l D k a_t a_t_bytes a_t_row a_t_widths t_row_n t_at t_to t_fault t_row n o24 ho24) mw_S_varint mi_S_varint ml_S_55 [0, 1] rfl (by decide) rfl rfl rfl 0 rfl rfl rfl rfl rfl hl.1 rfl (Nat.le_of_ble_eq_true rfl) ⟨Nat.zero_le _, Nat.zero_le _⟩ d_S_code_1 (fun H locs hP hD hS => ?_)
  have hP : va_P D CL [(a_t, .inr (5, [.ref a_t_bytes, .ref a_t_row, .ref a_t_widths, .int o24.2.1, .int t_to, .int o24.2.2])), (a_t_row, .inl (k.1, t_row_n, .inl t_row)), (a_t_widths, .inl (k.2.1, t_widths_n, .inl t_widths)), (a_p1, .inl (k.2.2, p1_n, .inr (.inl p1)))] H := hP
  have hD : va_D A [(a_t, .inr (5, [.ref a_t_bytes, .ref a_t_row, .ref a_t_widths, .int o24.2.1, .int t_to, .int o24.2.2])), (a_t_row, .inl (k.1, t_row_n, .inl t_row)), (a_t_widths, .inl (k.2.1, t_widths_n, .inl t_widths)), (a_p1, .inl (k.2.2, p1_n, .inr (.inl p1)))] := hD
  refine W.eq (g2 := F0 m 4 ls [.long o24.1]) rfl ?_
  refine lv_lstore_n (lv' := [(2, .long o24.1), (0, .ref a_t), (1, .ref a_p1)]) hx hb d_S_code_4 rfl hl (by decide) rfl (fun ls hl => ?_)
  refine lv_lload_n hx hb d_S_code_5 rfl (lv_at hl 0 rfl) ?_
  refine lv_lconst (v := 0) hx hb d_S_code_6 (by decide) ?_
  refine W.lcmp hx hb d_S_code_7 ?_
  refine lv_if_lt (tgt := 19) hx hb d_S_code_8 (by decide) (fun c => ?_) (fun c => ?_)
  · have c := zc_lt.mp c
    have h := ift_at h c
    exact J19 o24.2.1 o24.2.2 t_widths p1 o24.1 _ _ ls hP hD hS (lv_sub hl [1, 2, 0] rfl) h
  · have c := mt zc_lt.mpr c
    have h := iff_at h c
    refine lv_lload_n hx hb d_S_code_11 rfl (lv_at hl 0 rfl) ?_
    refine lv_ldc2 (v := 2000) hx hb hown (hts _ kc_S_84) d_S_code_12 ?_
    refine W.lcmp hx hb d_S_code_15 ?_
    refine lv_if_le (tgt := 24) hx hb d_S_code_16 (by decide) (fun c => ?_) (fun c => ?_)
    · have c := zc_le.mp c
      have h := ift_at h c
      exact J24 o24.2.1 o24.2.2 t_widths p1 o24.1 _ _ ls hP hD hS (lv_sub hl [1, 2, 0] rfl) h
    · have c := mt zc_le.mpr c
      have h := iff_at h c
      exact J19 o24.2.1 o24.2.2 t_widths p1 o24.1 _ _ ls hP hD hS (lv_sub hl [1, 2, 0] rfl) h

