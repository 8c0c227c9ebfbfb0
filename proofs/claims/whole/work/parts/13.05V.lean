def rm_V_slotOf : Room := { frames := 0, cells := 0, slots := 0, locals := 0 }
def f_V_slotOf_j67 (v2 : Int32) : Option (Int32) :=
  some (((v2 * (-1640531535 : Int32)).toUInt32 >>> ((21 : Int32).toUInt32 &&& Int32.toUInt32 31)).toInt32 &&& (2047 : Int32))
def f_V_slotOf_j46 (v2 : Int32) : Option (Int32) :=
  f_V_slotOf_j67 v2
def f_V_slotOf_l16 (t_starts_n : Nat) (t_texts_n : Nat) (t_starts : Nat → Int32) (t_texts : Nat → Int32) (v1 : Int32) (v2 : Int32) (v3 : Int32) : Option ((Int32 × Int32) ⊕ ((Int32 × Int32))) :=
  gd (inB (v1 + (1 : Int32)) t_starts_n) ((if (t_starts (v1 + (1 : Int32)).toNatClampNeg) ≤ v3 then some (Sum.inr ((v2, v3))) else gd (inB v3 t_texts_n) (bnd (((31 : Int32) * v2) + (t_texts v3.toNatClampNeg)) (fun x12 => bnd (v3 + (1 : Int32)) (fun x13 => some (Sum.inl (x12, x13)))))))
def f_V_slotOf (n : Nat) (t_numbers_n : Nat) (t_starts_n : Nat) (t_texts_n : Nat) (t_ofTexts : Int32) (t_numbers : Nat → Int64) (t_starts : Nat → Int32) (t_texts : Nat → Int32) (v1 : Int32) : Option (Int32) :=
  (if t_ofTexts = 0 then gd (inB v1 t_numbers_n) (gd (inB v1 t_numbers_n) (bnd (((t_numbers v1.toNatClampNeg) ^^^ ((t_numbers v1.toNatClampNeg).toUInt64 >>> ((32 : Int32).toInt64.toUInt64 &&& Int64.toUInt64 63)).toInt64).toInt32) (fun x26 => f_V_slotOf_j67 x26))) else gd (inB v1 t_starts_n) (bnd (t_starts v1.toNatClampNeg) (fun x28 => Option.bind (lp (fun v => f_V_slotOf_l16 t_starts_n t_texts_n t_starts t_texts v1 v.1 v.2) n ((0 : Int32), x28)) (fun o => f_V_slotOf_j46 o.1))))
set_option maxHeartbeats 4000000 in
set_option maxRecDepth 100000 in
theorem c_V_slotOf (l : Launch) (D : va_G) (k : ClassId × ClassId × ClassId) (a_t a_t_numbers a_t_texts a_t_starts : Nat) (t_numbers_n t_starts_n t_texts_n : Nat) (t_ofTexts : Int32) (t_count : Int32) (t_numbers : Nat → Int64) (t_starts : Nat → Int32) (t_texts : Nat → Int32) (v1 : Int32) (n : Nat) (out : Int32) (h : f_V_slotOf n t_numbers_n t_starts_n t_texts_n t_ofTexts t_numbers t_starts t_texts v1 = some out) : Ct l D k y_V_slotOf b_V_slotOf 4 (some .int) rm_V_slotOf [.ref a_t, .int v1] [(a_t, .inr (6, [.ref a_t_numbers, .ref a_t_texts, .ref a_t_starts, .int t_ofTexts, .int t_count])), (a_t_numbers, .inl (k.2.2, t_numbers_n, .inr (.inl t_numbers))), (a_t_starts, .inl (k.2.1, t_starts_n, .inl t_starts)), (a_t_texts, .inl (k.1, t_texts_n, .inl t_texts))] [(a_t, .inr (6, [.ref a_t_numbers, .ref a_t_texts, .ref a_t_starts, .int t_ofTexts, .int t_count])), (a_t_numbers, .inl (k.2.2, t_numbers_n, .inr (.inl t_numbers))), (a_t_starts, .inl (k.2.1, t_starts_n, .inl t_starts)), (a_t_texts, .inl (k.1, t_texts_n, .inl t_texts))] (some (.int out)) := by
  refine Ct.ofI (by decide) (Nat.le_of_ble_eq_true rfl) ?_
  intro p e s m args below meth c A Q ls hx hb hml hown hts hA hK hP hD hS hE hl ret
  have hown : s.vm.findClass "PageForm$Values" = some m.cls := hown
  have hl : lv_has ls 4 [(0, .ref a_t), (1, .int v1)] := hl
  have ret2 : ∀ (y0 : Int32) (_ : y0 = out) {pc : Nat} {ls : Array Slot} {H : Heap} {locs : List Loc}, decode b_V_slotOf pc = .ok (.ireturn, 1) → va_P D CL [(a_t, .inr (6, [.ref a_t_numbers, .ref a_t_texts, .ref a_t_starts, .int t_ofTexts, .int t_count])), (a_t_numbers, .inl (k.2.2, t_numbers_n, .inr (.inl t_numbers))), (a_t_starts, .inl (k.2.1, t_starts_n, .inl t_starts)), (a_t_texts, .inl (k.1, t_texts_n, .inl t_texts))] H → va_D A [(a_t, .inr (6, [.ref a_t_numbers, .ref a_t_texts, .ref a_t_starts, .int t_ofTexts, .int t_count])), (a_t_numbers, .inl (k.2.2, t_numbers_n, .inr (.inl t_numbers))), (a_t_starts, .inl (k.2.1, t_starts_n, .inl t_starts)), (a_t_texts, .inl (k.1, t_texts_n, .inl t_texts))] → va_S A s.heap H locs → W p l e rm_V_slotOf s m args below meth c H locs 0 0 Q (F0 m pc ls [.int y0]) := by
    intro y0 e0; subst e0; exact ret
  clear ret
  have J67 : ∀ (v2 : Int32) (H : Heap) (locs : List Loc) (ls : Array Slot), va_P D CL [(a_t, .inr (6, [.ref a_t_numbers, .ref a_t_texts, .ref a_t_starts, .int t_ofTexts, .int t_count])), (a_t_numbers, .inl (k.2.2, t_numbers_n, .inr (.inl t_numbers))), (a_t_starts, .inl (k.2.1, t_starts_n, .inl t_starts)), (a_t_texts, .inl (k.1, t_texts_n, .inl t_texts))] H → va_D A [(a_t, .inr (6, [.ref a_t_numbers, .ref a_t_texts, .ref a_t_starts, .int t_ofTexts, .int t_count])), (a_t_numbers, .inl (k.2.2, t_numbers_n, .inr (.inl t_numbers))), (a_t_starts, .inl (k.2.1, t_starts_n, .inl t_starts)), (a_t_texts, .inl (k.1, t_texts_n, .inl t_texts))] → va_S A s.heap H locs → lv_has ls 4 [(2, .int v2)] → f_V_slotOf_j67 v2 = some out → W p l e rm_V_slotOf s m args below meth c H locs 0 0 Q (F0 m 67 ls []) := by
    intro v2 H locs ls hP hD hS hl h
    unfold f_V_slotOf_j67 at h
    refine lv_iload_n hx hb d_V_slotOf_67 rfl (lv_at hl 0 rfl) ?_
    refine lv_ldc (v := (-1640531535)) hx hb hown (hts _ kc_V_78) d_V_slotOf_68 ?_
    refine lv_imul hx hb d_V_slotOf_70 ?_
    refine lv_bipush (v := 21) hx hb d_V_slotOf_71 (by decide) ?_
    refine lv_iushr hx hb d_V_slotOf_73 rfl ?_
    refine lv_sipush (v := 2047) hx hb d_V_slotOf_74 (by decide) ?_
    refine lv_iand hx hb d_V_slotOf_77 ?_
    exact ret2 _ (Option.some.inj h) d_V_slotOf_78 hP hD hS
  have J46 : ∀ (v2 : Int32) (H : Heap) (locs : List Loc) (ls : Array Slot), va_P D CL [(a_t, .inr (6, [.ref a_t_numbers, .ref a_t_texts, .ref a_t_starts, .int t_ofTexts, .int t_count])), (a_t_numbers, .inl (k.2.2, t_numbers_n, .inr (.inl t_numbers))), (a_t_starts, .inl (k.2.1, t_starts_n, .inl t_starts)), (a_t_texts, .inl (k.1, t_texts_n, .inl t_texts))] H → va_D A [(a_t, .inr (6, [.ref a_t_numbers, .ref a_t_texts, .ref a_t_starts, .int t_ofTexts, .int t_count])), (a_t_numbers, .inl (k.2.2, t_numbers_n, .inr (.inl t_numbers))), (a_t_starts, .inl (k.2.1, t_starts_n, .inl t_starts)), (a_t_texts, .inl (k.1, t_texts_n, .inl t_texts))] → va_S A s.heap H locs → lv_has ls 4 [(2, .int v2)] → f_V_slotOf_j46 v2 = some out → W p l e rm_V_slotOf s m args below meth c H locs 0 0 Q (F0 m 46 ls []) := by
    intro v2 H locs ls hP hD hS hl h
    unfold f_V_slotOf_j46 at h
    refine lv_goto (tgt := 67) hx hb d_V_slotOf_46 (by decide) ?_
    exact J67 v2 _ _ ls hP hD hS (lv_sub hl [0] rfl) h
  have L16 : ∀ (K : Nat) (v2 : Int32) (v3 : Int32) (o : (Int32 × Int32)) (H : Heap) (locs : List Loc) (ls : Array Slot), va_P D CL [(a_t, .inr (6, [.ref a_t_numbers, .ref a_t_texts, .ref a_t_starts, .int t_ofTexts, .int t_count])), (a_t_numbers, .inl (k.2.2, t_numbers_n, .inr (.inl t_numbers))), (a_t_starts, .inl (k.2.1, t_starts_n, .inl t_starts)), (a_t_texts, .inl (k.1, t_texts_n, .inl t_texts))] H → va_D A [(a_t, .inr (6, [.ref a_t_numbers, .ref a_t_texts, .ref a_t_starts, .int t_ofTexts, .int t_count])), (a_t_numbers, .inl (k.2.2, t_numbers_n, .inr (.inl t_numbers))), (a_t_starts, .inl (k.2.1, t_starts_n, .inl t_starts)), (a_t_texts, .inl (k.1, t_texts_n, .inl t_texts))] → va_S A s.heap H locs → lv_has ls 4 [(0, .ref a_t), (1, .int v1), (2, .int v2), (3, .int v3)] → lp (fun v => f_V_slotOf_l16 t_starts_n t_texts_n t_starts t_texts v1 v.1 v.2) K (v2, v3) = some o → (fun o => f_V_slotOf_j46 o.1) o = some out → W p l e rm_V_slotOf s m args below meth c H locs 0 0 Q (F0 m 16 ls []) := by
    intro K
    induction K with
    | zero => intros; exact absurd (by assumption) lp_no
    | succ K ih16 =>
      intro v2 v3 o H locs ls hP hD hS hl h0 hx16
      obtain ⟨b16, h, hc16⟩ := lp_at h0
      have h : f_V_slotOf_l16 t_starts_n t_texts_n t_starts t_texts v1 v2 v3 = some b16 := h
      unfold f_V_slotOf_l16 at h
      refine lv_iload_n hx hb d_V_slotOf_16 rfl (lv_at hl 3 rfl) ?_
      refine lv_aload_n hx hb d_V_slotOf_17 rfl (lv_at hl 0 rfl) ?_
      refine va_get (D := D) (ci := 6) (v := .ref a_t_starts) (C := "PageForm$Values") (T := F_V) (N := 5) hx hb hts in_V hown hK hP 0 rfl rfl 2 (by decide) (hts _ fl_V_19) (fun _ h9 => h9) rfl d_V_slotOf_18 ?_
      refine lv_iload_n hx hb d_V_slotOf_21 rfl (lv_at hl 1 rfl) ?_
      refine lv_iconst (v := 1) hx hb d_V_slotOf_22 (by decide) ?_
      refine lv_iadd hx hb d_V_slotOf_23 ?_
      obtain ⟨g8, h⟩ := gd_at h
      refine va_iald hx hb hK hP 2 1 rfl rfl (inB_in g8) d_V_slotOf_24 ?_
      refine lv_icmp_ge (tgt := 46) hx hb d_V_slotOf_25 (by decide) (fun c => ?_) (fun c => ?_)
      · have h := ift_at h c
        obtain rfl := lp_out h hc16
        exact J46 v2 _ _ ls hP hD hS (lv_sub hl [2] rfl) hx16
      · have h := iff_at h c
        refine lv_bipush (v := 31) hx hb d_V_slotOf_28 (by decide) ?_
        refine lv_iload_n hx hb d_V_slotOf_30 rfl (lv_at hl 2 rfl) ?_
        refine lv_imul hx hb d_V_slotOf_31 ?_
        refine lv_aload_n hx hb d_V_slotOf_32 rfl (lv_at hl 0 rfl) ?_
        refine va_get (D := D) (ci := 6) (v := .ref a_t_texts) (C := "PageForm$Values") (T := F_V) (N := 5) hx hb hts in_V hown hK hP 0 rfl rfl 1 (by decide) (hts _ fl_V_15) (fun _ h9 => h9) rfl d_V_slotOf_33 ?_
        refine lv_iload_n hx hb d_V_slotOf_36 rfl (lv_at hl 3 rfl) ?_
        obtain ⟨g11, h⟩ := gd_at h
        refine va_bald hx hb hK hP 3 0 rfl rfl (inB_in g11) d_V_slotOf_37 ?_
        refine lv_iadd hx hb d_V_slotOf_38 ?_
        refine lv_topi (fun x12 ex12 => ?_)
        have h := bnd_at h ex12
        refine lv_istore_n (lv' := [(2, .int x12), (0, .ref a_t), (1, .int v1), (3, .int v3)]) hx hb d_V_slotOf_39 rfl hl (by decide) rfl (fun ls hl => ?_)
        obtain ⟨x13, ex13⟩ : ∃ z : Int32, z = v3 + (1 : Int32) := ⟨_, rfl⟩
        have h := bnd_at h ex13
        refine lv_iinc (v := x13) (lv' := [(3, .int x13), (2, .int x12), (0, .ref a_t), (1, .int v1)]) hx hb d_V_slotOf_40 hl (k := 3) rfl (by rw [ex13]; rfl) (by decide) rfl (fun ls hl => ?_)
        refine lv_goto (tgt := 16) hx hb d_V_slotOf_43 (by decide) ?_
        have h := lp_go h hc16
        exact ih16 x12 x13 o _ _ ls hP hD hS (lv_sub hl [2, 3, 1, 0] rfl) h hx16
  unfold f_V_slotOf at h
  refine lv_iconst (v := 0) hx hb d_V_slotOf_0 (by decide) ?_
  refine lv_istore_n (lv' := [(2, .int (0 : Int32)), (0, .ref a_t), (1, .int v1)]) hx hb d_V_slotOf_1 rfl hl (by decide) rfl (fun ls hl => ?_)
  refine lv_aload_n hx hb d_V_slotOf_2 rfl (lv_at hl 1 rfl) ?_
  refine va_get (D := D) (ci := 6) (v := .int t_ofTexts) (C := "PageForm$Values") (T := F_V) (N := 5) hx hb hts in_V hown hK hP 0 rfl rfl 3 (by decide) (hts _ fl_V_23) (fun _ h9 => h9) rfl d_V_slotOf_3 ?_
  refine lv_if_eq (tgt := 49) hx hb d_V_slotOf_6 (by decide) (fun c => ?_) (fun c => ?_)
  · have h := ift_at h c
    refine lv_aload_n hx hb d_V_slotOf_49 rfl (lv_at hl 1 rfl) ?_
    refine va_get (D := D) (ci := 6) (v := .ref a_t_numbers) (C := "PageForm$Values") (T := F_V) (N := 5) hx hb hts in_V hown hK hP 0 rfl rfl 0 (by decide) (hts _ fl_V_9) (fun _ h9 => h9) rfl d_V_slotOf_50 ?_
    refine lv_iload_n hx hb d_V_slotOf_53 rfl (lv_at hl 2 rfl) ?_
    obtain ⟨g24, h⟩ := gd_at h
    refine va_lald hx hb hK hP 1 2 rfl rfl (inB_in g24) d_V_slotOf_54 ?_
    refine lv_aload_n hx hb d_V_slotOf_55 rfl (lv_at hl 1 rfl) ?_
    refine va_get (D := D) (ci := 6) (v := .ref a_t_numbers) (C := "PageForm$Values") (T := F_V) (N := 5) hx hb hts in_V hown hK hP 0 rfl rfl 0 (by decide) (hts _ fl_V_9) (fun _ h9 => h9) rfl d_V_slotOf_56 ?_
    refine lv_iload_n hx hb d_V_slotOf_59 rfl (lv_at hl 2 rfl) ?_
    obtain ⟨g25, h⟩ := gd_at h
    refine va_lald hx hb hK hP 1 2 rfl rfl (inB_in g25) d_V_slotOf_60 ?_
    refine lv_bipush (v := 32) hx hb d_V_slotOf_61 (by decide) ?_
    refine lv_lushr hx hb d_V_slotOf_63 rfl ?_
    refine lv_lxor hx hb d_V_slotOf_64 ?_
    refine lv_l2i hx hb d_V_slotOf_65 rfl ?_
    refine lv_topi (fun x26 ex26 => ?_)
    have h := bnd_at h ex26
    refine lv_istore_n (lv' := [(2, .int x26), (0, .ref a_t), (1, .int v1)]) hx hb d_V_slotOf_66 rfl hl (by decide) rfl (fun ls hl => ?_)
    exact J67 x26 _ _ ls hP hD hS (lv_sub hl [0] rfl) h
  · have h := iff_at h c
    refine lv_aload_n hx hb d_V_slotOf_9 rfl (lv_at hl 1 rfl) ?_
    refine va_get (D := D) (ci := 6) (v := .ref a_t_starts) (C := "PageForm$Values") (T := F_V) (N := 5) hx hb hts in_V hown hK hP 0 rfl rfl 2 (by decide) (hts _ fl_V_19) (fun _ h9 => h9) rfl d_V_slotOf_10 ?_
    refine lv_iload_n hx hb d_V_slotOf_13 rfl (lv_at hl 2 rfl) ?_
    obtain ⟨g27, h⟩ := gd_at h
    refine va_iald hx hb hK hP 2 1 rfl rfl (inB_in g27) d_V_slotOf_14 ?_
    refine lv_topi (fun x28 ex28 => ?_)
    have h := bnd_at h ex28
    refine lv_istore_n (lv' := [(3, .int x28), (2, .int (0 : Int32)), (0, .ref a_t), (1, .int v1)]) hx hb d_V_slotOf_15 rfl hl (by decide) rfl (fun ls hl => ?_)
    obtain ⟨o29, ho29, h⟩ := obd_at h
    exact L16 n (0 : Int32) x28 o29 _ _ ls hP hD hS (lv_sub hl [2, 3, 1, 0] rfl) ho29 h

