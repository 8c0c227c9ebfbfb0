def rm_D_numberOf : Room := { frames := 3, cells := 0, slots := 0, locals := 89 }
def f_D_numberOf_l9 (n : Nat) (t_firsts_n : Nat) (t_slots_n : Nat) (p1_numbers_n : Nat) (p1_starts_n : Nat) (p1_texts_n : Nat) (p1_ofTexts : Int32) (p1_numbers : Nat → Int64) (p1_starts : Nat → Int32) (p1_texts : Nat → Int32) (v2 : Int32) (v3 : Int32) (t_count : Int32) (t_firsts : Nat → Int32) (t_slots : Nat → Int32) (v4 : Int32) : Option ((Int32 × (Nat → Int32) × (Nat → Int32) × Int32) ⊕ ((Int32 × Int32 × (Nat → Int32) × (Nat → Int32)))) :=
  (if (2048 : Int32) ≤ v4 then some (Sum.inr (((0 : Int32), t_count, t_firsts, t_slots))) else bnd ((v3 + v4) &&& (2047 : Int32)) (fun x12 => gd (inB x12 t_slots_n) (bnd ((t_slots x12.toNatClampNeg) - (1 : Int32)) (fun x14 => (if 0 ≤ x14 then gd (inB x14 t_firsts_n) (Option.bind (f_V_compare_00 n p1_numbers_n p1_starts_n p1_texts_n p1_ofTexts p1_numbers p1_starts p1_texts v2 (t_firsts x14.toNatClampNeg)) (fun o16 => (if o16 = 0 then some (Sum.inr ((x14, t_count, t_firsts, t_slots))) else bnd (v4 + (1 : Int32)) (fun x17 => some (Sum.inl (t_count, t_firsts, t_slots, x17)))))) else gd (inB t_count t_firsts_n) (bnd (t_count + (1 : Int32)) (fun x24 => gd (inB x12 t_slots_n) (some (Sum.inr (((x24 - (1 : Int32)), x24, upd t_firsts t_count.toNatClampNeg v2, upd t_slots x12.toNatClampNeg x24)))))))))))
def f_D_numberOf (n : Nat) (t_firsts_n : Nat) (t_slots_n : Nat) (p1_numbers_n : Nat) (p1_starts_n : Nat) (p1_texts_n : Nat) (t_count : Int32) (t_firsts : Nat → Int32) (t_slots : Nat → Int32) (p1_ofTexts : Int32) (p1_numbers : Nat → Int64) (p1_starts : Nat → Int32) (p1_texts : Nat → Int32) (v2 : Int32) : Option (Int32 × Int32 × (Nat → Int32) × (Nat → Int32)) :=
  Option.bind (f_V_slotOf n p1_numbers_n p1_starts_n p1_texts_n p1_ofTexts p1_numbers p1_starts p1_texts v2) (fun o46 => Option.bind (lp (fun v => f_D_numberOf_l9 n t_firsts_n t_slots_n p1_numbers_n p1_starts_n p1_texts_n p1_ofTexts p1_numbers p1_starts p1_texts v2 o46 v.1 v.2.1 v.2.2.1 v.2.2.2) n (t_count, t_firsts, t_slots, (0 : Int32))) (fun o => some o))
set_option maxHeartbeats 4000000 in
set_option maxRecDepth 100000 in
theorem c_D_numberOf (l : Launch) (D : va_G) (k : ClassId × ClassId × ClassId) (a_t a_t_slots a_t_firsts a_p1 a_p1_numbers a_p1_texts a_p1_starts : Nat) (t_firsts_n t_slots_n p1_numbers_n p1_starts_n p1_texts_n : Nat) (t_count : Int32) (t_firsts : Nat → Int32) (t_slots : Nat → Int32) (p1_ofTexts : Int32) (p1_count : Int32) (p1_numbers : Nat → Int64) (p1_starts : Nat → Int32) (p1_texts : Nat → Int32) (v2 : Int32) (n : Nat) (out : Int32 × Int32 × (Nat → Int32) × (Nat → Int32)) (h : f_D_numberOf n t_firsts_n t_slots_n p1_numbers_n p1_starts_n p1_texts_n t_count t_firsts t_slots p1_ofTexts p1_numbers p1_starts p1_texts v2 = some out) : Ct l D k y_D_numberOf b_D_numberOf 7 (some .int) rm_D_numberOf [.ref a_t, .ref a_p1, .int v2] [(a_t, .inr (2, [.ref a_t_slots, .ref a_t_firsts, .int t_count])), (a_t_firsts, .inl (k.2.1, t_firsts_n, .inl t_firsts)), (a_t_slots, .inl (k.2.1, t_slots_n, .inl t_slots)), (a_p1, .inr (6, [.ref a_p1_numbers, .ref a_p1_texts, .ref a_p1_starts, .int p1_ofTexts, .int p1_count])), (a_p1_numbers, .inl (k.2.2, p1_numbers_n, .inr (.inl p1_numbers))), (a_p1_starts, .inl (k.2.1, p1_starts_n, .inl p1_starts)), (a_p1_texts, .inl (k.1, p1_texts_n, .inl p1_texts))] [(a_t, .inr (2, [.ref a_t_slots, .ref a_t_firsts, .int out.2.1])), (a_t_firsts, .inl (k.2.1, t_firsts_n, .inl out.2.2.1)), (a_t_slots, .inl (k.2.1, t_slots_n, .inl out.2.2.2)), (a_p1, .inr (6, [.ref a_p1_numbers, .ref a_p1_texts, .ref a_p1_starts, .int p1_ofTexts, .int p1_count])), (a_p1_numbers, .inl (k.2.2, p1_numbers_n, .inr (.inl p1_numbers))), (a_p1_starts, .inl (k.2.1, p1_starts_n, .inl p1_starts)), (a_p1_texts, .inl (k.1, p1_texts_n, .inl p1_texts))] (some (.int out.1)) := by
  refine Ct.ofI (by decide) (Nat.le_of_ble_eq_true rfl) ?_
  intro p e s m args below meth c A Q ls hx hb hml hown hts hA hK hP hD hS hE hl ret
  have hown : s.vm.findClass "PageForm$Dictionary" = some m.cls := hown
  have hl : lv_has ls 7 [(0, .ref a_t), (1, .ref a_p1), (2, .int v2)] := hl
  have ret2 : ∀ (y0 : Int32) (y1 : Int32) (y2 : Nat → Int32) (y3 : Nat → Int32) (_ : (y0, y1, y2, y3) = out) {pc : Nat} {ls : Array Slot} {H : Heap} {locs : List Loc}, decode b_D_numberOf pc = .ok (.ireturn, 1) → va_P D CL [(a_t, .inr (2, [.ref a_t_slots, .ref a_t_firsts, .int y1])), (a_t_firsts, .inl (k.2.1, t_firsts_n, .inl y2)), (a_t_slots, .inl (k.2.1, t_slots_n, .inl y3)), (a_p1, .inr (6, [.ref a_p1_numbers, .ref a_p1_texts, .ref a_p1_starts, .int p1_ofTexts, .int p1_count])), (a_p1_numbers, .inl (k.2.2, p1_numbers_n, .inr (.inl p1_numbers))), (a_p1_starts, .inl (k.2.1, p1_starts_n, .inl p1_starts)), (a_p1_texts, .inl (k.1, p1_texts_n, .inl p1_texts))] H → va_D A [(a_t, .inr (2, [.ref a_t_slots, .ref a_t_firsts, .int y1])), (a_t_firsts, .inl (k.2.1, t_firsts_n, .inl y2)), (a_t_slots, .inl (k.2.1, t_slots_n, .inl y3)), (a_p1, .inr (6, [.ref a_p1_numbers, .ref a_p1_texts, .ref a_p1_starts, .int p1_ofTexts, .int p1_count])), (a_p1_numbers, .inl (k.2.2, p1_numbers_n, .inr (.inl p1_numbers))), (a_p1_starts, .inl (k.2.1, p1_starts_n, .inl p1_starts)), (a_p1_texts, .inl (k.1, p1_texts_n, .inl p1_texts))] → va_S A s.heap H locs → W p l e rm_D_numberOf s m args below meth c H locs 0 0 Q (F0 m pc ls [.int y0]) := by
    intro y0 y1 y2 y3 e0; subst e0; exact ret
  clear ret
  have L9 : ∀ (K : Nat) (t_count : Int32) (t_firsts : Nat → Int32) (t_slots : Nat → Int32) (v3 : Int32) (v4 : Int32) (o : (Int32 × Int32 × (Nat → Int32) × (Nat → Int32))) (H : Heap) (locs : List Loc) (ls : Array Slot), va_P D CL [(a_t, .inr (2, [.ref a_t_slots, .ref a_t_firsts, .int t_count])), (a_t_firsts, .inl (k.2.1, t_firsts_n, .inl t_firsts)), (a_t_slots, .inl (k.2.1, t_slots_n, .inl t_slots)), (a_p1, .inr (6, [.ref a_p1_numbers, .ref a_p1_texts, .ref a_p1_starts, .int p1_ofTexts, .int p1_count])), (a_p1_numbers, .inl (k.2.2, p1_numbers_n, .inr (.inl p1_numbers))), (a_p1_starts, .inl (k.2.1, p1_starts_n, .inl p1_starts)), (a_p1_texts, .inl (k.1, p1_texts_n, .inl p1_texts))] H → va_D A [(a_t, .inr (2, [.ref a_t_slots, .ref a_t_firsts, .int t_count])), (a_t_firsts, .inl (k.2.1, t_firsts_n, .inl t_firsts)), (a_t_slots, .inl (k.2.1, t_slots_n, .inl t_slots)), (a_p1, .inr (6, [.ref a_p1_numbers, .ref a_p1_texts, .ref a_p1_starts, .int p1_ofTexts, .int p1_count])), (a_p1_numbers, .inl (k.2.2, p1_numbers_n, .inr (.inl p1_numbers))), (a_p1_starts, .inl (k.2.1, p1_starts_n, .inl p1_starts)), (a_p1_texts, .inl (k.1, p1_texts_n, .inl p1_texts))] → va_S A s.heap H locs → lv_has ls 7 [(0, .ref a_t), (1, .ref a_p1), (2, .int v2), (3, .int v3), (4, .int v4)] → lp (fun v => f_D_numberOf_l9 n t_firsts_n t_slots_n p1_numbers_n p1_starts_n p1_texts_n p1_ofTexts p1_numbers p1_starts p1_texts v2 v3 v.1 v.2.1 v.2.2.1 v.2.2.2) K (t_count, t_firsts, t_slots, v4) = some o → (fun o => some o) o = some out → W p l e rm_D_numberOf s m args below meth c H locs 0 0 Q (F0 m 9 ls []) := by
    intro K
    induction K with
    | zero => intros; exact absurd (by assumption) lp_no
    | succ K ih9 =>
      intro t_count t_firsts t_slots v3 v4 o H locs ls hP hD hS hl h0 hx9
      obtain ⟨b9, h, hc9⟩ := lp_at h0
      have h : f_D_numberOf_l9 n t_firsts_n t_slots_n p1_numbers_n p1_starts_n p1_texts_n p1_ofTexts p1_numbers p1_starts p1_texts v2 v3 t_count t_firsts t_slots v4 = some b9 := h
      unfold f_D_numberOf_l9 at h
      refine lv_iload hx hb d_D_numberOf_9 (lv_at hl 4 rfl) ?_
      refine lv_sipush (v := 2048) hx hb d_D_numberOf_11 (by decide) ?_
      refine lv_icmp_ge (tgt := 106) hx hb d_D_numberOf_14 (by decide) (fun c => ?_) (fun c => ?_)
      · have h := ift_at h c
        refine lv_iconst (v := 0) hx hb d_D_numberOf_106 (by decide) ?_
        obtain rfl := lp_out h hc9
        exact ret2 _ _ _ _ (Option.some.inj hx9) d_D_numberOf_107 hP hD hS
      · have h := iff_at h c
        refine lv_iload_n hx hb d_D_numberOf_17 rfl (lv_at hl 3 rfl) ?_
        refine lv_iload hx hb d_D_numberOf_18 (lv_at hl 4 rfl) ?_
        refine lv_iadd hx hb d_D_numberOf_20 ?_
        refine lv_sipush (v := 2047) hx hb d_D_numberOf_21 (by decide) ?_
        refine lv_iand hx hb d_D_numberOf_24 ?_
        refine lv_topi (fun x12 ex12 => ?_)
        have h := bnd_at h ex12
        refine lv_istore (lv' := [(5, .int x12), (0, .ref a_t), (1, .ref a_p1), (2, .int v2), (3, .int v3), (4, .int v4)]) hx hb d_D_numberOf_25 hl (by decide) rfl (fun ls hl => ?_)
        refine lv_aload_n hx hb d_D_numberOf_27 rfl (lv_at hl 1 rfl) ?_
        refine va_get (D := D) (ci := 2) (v := .ref a_t_slots) (C := "PageForm$Dictionary") (T := F_D) (N := 3) hx hb hts in_D hown hK hP 0 rfl rfl 0 (by decide) (hts _ fl_D_9) (fun _ h9 => h9) rfl d_D_numberOf_28 ?_
        refine lv_iload hx hb d_D_numberOf_31 (lv_at hl 0 rfl) ?_
        obtain ⟨g13, h⟩ := gd_at h
        refine va_iald hx hb hK hP 2 1 rfl rfl (inB_in g13) d_D_numberOf_33 ?_
        refine lv_iconst (v := 1) hx hb d_D_numberOf_34 (by decide) ?_
        refine lv_isub hx hb d_D_numberOf_35 ?_
        refine lv_topi (fun x14 ex14 => ?_)
        have h := bnd_at h ex14
        refine lv_istore (lv' := [(6, .int x14), (5, .int x12), (0, .ref a_t), (1, .ref a_p1), (2, .int v2), (3, .int v3), (4, .int v4)]) hx hb d_D_numberOf_36 hl (by decide) rfl (fun ls hl => ?_)
        refine lv_iload hx hb d_D_numberOf_38 (lv_at hl 0 rfl) ?_
        refine lv_if_ge (tgt := 81) hx hb d_D_numberOf_40 (by decide) (fun c => ?_) (fun c => ?_)
        · have h := ift_at h c
          refine lv_aload_n hx hb d_D_numberOf_81 rfl (lv_at hl 3 rfl) ?_
          refine lv_iload_n hx hb d_D_numberOf_82 rfl (lv_at hl 4 rfl) ?_
          refine lv_aload_n hx hb d_D_numberOf_83 rfl (lv_at hl 3 rfl) ?_
          refine lv_aload_n hx hb d_D_numberOf_84 rfl (lv_at hl 2 rfl) ?_
          refine va_get (D := D) (ci := 2) (v := .ref a_t_firsts) (C := "PageForm$Dictionary") (T := F_D) (N := 3) hx hb hts in_D hown hK hP 0 rfl rfl 1 (by decide) (hts _ fl_D_15) (fun _ h9 => h9) rfl d_D_numberOf_85 ?_
          refine lv_iload hx hb d_D_numberOf_88 (lv_at hl 0 rfl) ?_
          obtain ⟨g15, h⟩ := gd_at h
          refine va_iald hx hb hK hP 1 1 rfl rfl (inB_in g15) d_D_numberOf_90 ?_
          obtain ⟨o16, ho16, h⟩ := obd_at h
          refine g_V (As := [.int v2, .ref a_p1, .int (t_firsts x14.toNatClampNeg)]) (rest := []) hx hb hml hown hts hA hK hP hD hS hE (c_V_compare_00 l D k a_p1 a_p1_numbers a_p1_texts a_p1_starts p1_numbers_n p1_starts_n p1_texts_n p1_ofTexts p1_count p1_numbers p1_starts p1_texts v2 (t_firsts x14.toNatClampNeg) n o16 ho16) mw_V_compare mi_V_compare ml_D_39 [3, 4, 5, 6] rfl (by decide) rfl rfl rfl 0 rfl rfl rfl rfl rfl hl.1 rfl (Nat.le_of_ble_eq_true rfl) ⟨Nat.zero_le _, Nat.zero_le _⟩ d_D_numberOf_91 (fun H locs hP hD hS => ?_)
          have hP : va_P D CL [(a_t, .inr (2, [.ref a_t_slots, .ref a_t_firsts, .int t_count])), (a_t_firsts, .inl (k.2.1, t_firsts_n, .inl t_firsts)), (a_t_slots, .inl (k.2.1, t_slots_n, .inl t_slots)), (a_p1, .inr (6, [.ref a_p1_numbers, .ref a_p1_texts, .ref a_p1_starts, .int p1_ofTexts, .int p1_count])), (a_p1_numbers, .inl (k.2.2, p1_numbers_n, .inr (.inl p1_numbers))), (a_p1_starts, .inl (k.2.1, p1_starts_n, .inl p1_starts)), (a_p1_texts, .inl (k.1, p1_texts_n, .inl p1_texts))] H := hP
          have hD : va_D A [(a_t, .inr (2, [.ref a_t_slots, .ref a_t_firsts, .int t_count])), (a_t_firsts, .inl (k.2.1, t_firsts_n, .inl t_firsts)), (a_t_slots, .inl (k.2.1, t_slots_n, .inl t_slots)), (a_p1, .inr (6, [.ref a_p1_numbers, .ref a_p1_texts, .ref a_p1_starts, .int p1_ofTexts, .int p1_count])), (a_p1_numbers, .inl (k.2.2, p1_numbers_n, .inr (.inl p1_numbers))), (a_p1_starts, .inl (k.2.1, p1_starts_n, .inl p1_starts)), (a_p1_texts, .inl (k.1, p1_texts_n, .inl p1_texts))] := hD
          refine W.eq (g2 := F0 m 94 ls [.int o16]) rfl ?_
          refine lv_if_ne (tgt := 100) hx hb d_D_numberOf_94 (by decide) (fun c => ?_) (fun c => ?_)
          · have h := iff_at h c
            obtain ⟨x17, ex17⟩ : ∃ z : Int32, z = v4 + (1 : Int32) := ⟨_, rfl⟩
            have h := bnd_at h ex17
            refine lv_iinc (v := x17) (lv' := [(4, .int x17), (6, .int x14), (5, .int x12), (0, .ref a_t), (1, .ref a_p1), (2, .int v2), (3, .int v3)]) hx hb d_D_numberOf_100 hl (k := 6) rfl (by rw [ex17]; rfl) (by decide) rfl (fun ls hl => ?_)
            refine lv_goto (tgt := 9) hx hb d_D_numberOf_103 (by decide) ?_
            have h := lp_go h hc9
            exact ih9 t_count t_firsts t_slots v3 x17 o _ _ ls hP hD hS (lv_sub hl [3, 4, 5, 6, 0] rfl) h hx9
          · have h := ift_at h c
            refine lv_iload hx hb d_D_numberOf_97 (lv_at hl 0 rfl) ?_
            obtain rfl := lp_out h hc9
            exact ret2 _ _ _ _ (Option.some.inj hx9) d_D_numberOf_99 hP hD hS
        · have h := iff_at h c
          refine lv_aload_n hx hb d_D_numberOf_43 rfl (lv_at hl 2 rfl) ?_
          refine va_get (D := D) (ci := 2) (v := .ref a_t_firsts) (C := "PageForm$Dictionary") (T := F_D) (N := 3) hx hb hts in_D hown hK hP 0 rfl rfl 1 (by decide) (hts _ fl_D_15) (fun _ h9 => h9) rfl d_D_numberOf_44 ?_
          refine lv_aload_n hx hb d_D_numberOf_47 rfl (lv_at hl 2 rfl) ?_
          refine va_get (D := D) (ci := 2) (v := .int t_count) (C := "PageForm$Dictionary") (T := F_D) (N := 3) hx hb hts in_D hown hK hP 0 rfl rfl 2 (by decide) (hts _ fl_D_24) (fun _ h9 => h9) rfl d_D_numberOf_48 ?_
          refine lv_iload_n hx hb d_D_numberOf_51 rfl (lv_at hl 4 rfl) ?_
          obtain ⟨g23, h⟩ := gd_at h
          refine va_iast hx hb hK hP hD hS 1 1 rfl rfl (inB_in g23) d_D_numberOf_52 (fun H locs hP hD hS => ?_)
          have hP : va_P D CL [(a_t, .inr (2, [.ref a_t_slots, .ref a_t_firsts, .int t_count])), (a_t_firsts, .inl (k.2.1, t_firsts_n, .inl (upd t_firsts t_count.toNatClampNeg v2))), (a_t_slots, .inl (k.2.1, t_slots_n, .inl t_slots)), (a_p1, .inr (6, [.ref a_p1_numbers, .ref a_p1_texts, .ref a_p1_starts, .int p1_ofTexts, .int p1_count])), (a_p1_numbers, .inl (k.2.2, p1_numbers_n, .inr (.inl p1_numbers))), (a_p1_starts, .inl (k.2.1, p1_starts_n, .inl p1_starts)), (a_p1_texts, .inl (k.1, p1_texts_n, .inl p1_texts))] H := hP
          have hD : va_D A [(a_t, .inr (2, [.ref a_t_slots, .ref a_t_firsts, .int t_count])), (a_t_firsts, .inl (k.2.1, t_firsts_n, .inl (upd t_firsts t_count.toNatClampNeg v2))), (a_t_slots, .inl (k.2.1, t_slots_n, .inl t_slots)), (a_p1, .inr (6, [.ref a_p1_numbers, .ref a_p1_texts, .ref a_p1_starts, .int p1_ofTexts, .int p1_count])), (a_p1_numbers, .inl (k.2.2, p1_numbers_n, .inr (.inl p1_numbers))), (a_p1_starts, .inl (k.2.1, p1_starts_n, .inl p1_starts)), (a_p1_texts, .inl (k.1, p1_texts_n, .inl p1_texts))] := hD
          refine lv_aload_n hx hb d_D_numberOf_53 rfl (lv_at hl 2 rfl) ?_
          refine lv_dup hx hb d_D_numberOf_54 rfl ?_
          refine va_get (D := D) (ci := 2) (v := .int t_count) (C := "PageForm$Dictionary") (T := F_D) (N := 3) hx hb hts in_D hown hK hP 0 rfl rfl 2 (by decide) (hts _ fl_D_24) (fun _ h9 => h9) rfl d_D_numberOf_55 ?_
          refine lv_iconst (v := 1) hx hb d_D_numberOf_58 (by decide) ?_
          refine lv_iadd hx hb d_D_numberOf_59 ?_
          refine lv_topi (fun x24 ex24 => ?_)
          have h := bnd_at h ex24
          refine va_put (D := D) (ci := 2) (v := .int x24) (ty := .int) (C := "PageForm$Dictionary") (T := F_D) (N := 3) hx hb hts in_D t_D t_D_ok n_D hown hK hP hD hS 0 rfl rfl 2 (by decide) (hts _ fl_D_24) (fun _ h9 => h9) rfl (by decide +kernel) rfl rfl (Nat.le_of_ble_eq_true rfl) d_D_numberOf_60 (fun H locs hP hD hS => ?_)
          have hP : va_P D CL [(a_t, .inr (2, [.ref a_t_slots, .ref a_t_firsts, .int x24])), (a_t_firsts, .inl (k.2.1, t_firsts_n, .inl (upd t_firsts t_count.toNatClampNeg v2))), (a_t_slots, .inl (k.2.1, t_slots_n, .inl t_slots)), (a_p1, .inr (6, [.ref a_p1_numbers, .ref a_p1_texts, .ref a_p1_starts, .int p1_ofTexts, .int p1_count])), (a_p1_numbers, .inl (k.2.2, p1_numbers_n, .inr (.inl p1_numbers))), (a_p1_starts, .inl (k.2.1, p1_starts_n, .inl p1_starts)), (a_p1_texts, .inl (k.1, p1_texts_n, .inl p1_texts))] H := hP
          have hD : va_D A [(a_t, .inr (2, [.ref a_t_slots, .ref a_t_firsts, .int x24])), (a_t_firsts, .inl (k.2.1, t_firsts_n, .inl (upd t_firsts t_count.toNatClampNeg v2))), (a_t_slots, .inl (k.2.1, t_slots_n, .inl t_slots)), (a_p1, .inr (6, [.ref a_p1_numbers, .ref a_p1_texts, .ref a_p1_starts, .int p1_ofTexts, .int p1_count])), (a_p1_numbers, .inl (k.2.2, p1_numbers_n, .inr (.inl p1_numbers))), (a_p1_starts, .inl (k.2.1, p1_starts_n, .inl p1_starts)), (a_p1_texts, .inl (k.1, p1_texts_n, .inl p1_texts))] := hD
          refine lv_aload_n hx hb d_D_numberOf_63 rfl (lv_at hl 2 rfl) ?_
          refine va_get (D := D) (ci := 2) (v := .ref a_t_slots) (C := "PageForm$Dictionary") (T := F_D) (N := 3) hx hb hts in_D hown hK hP 0 rfl rfl 0 (by decide) (hts _ fl_D_9) (fun _ h9 => h9) rfl d_D_numberOf_64 ?_
          refine lv_iload hx hb d_D_numberOf_67 (lv_at hl 1 rfl) ?_
          refine lv_aload_n hx hb d_D_numberOf_69 rfl (lv_at hl 2 rfl) ?_
          refine va_get (D := D) (ci := 2) (v := .int x24) (C := "PageForm$Dictionary") (T := F_D) (N := 3) hx hb hts in_D hown hK hP 0 rfl rfl 2 (by decide) (hts _ fl_D_24) (fun _ h9 => h9) rfl d_D_numberOf_70 ?_
          obtain ⟨g25, h⟩ := gd_at h
          refine va_iast hx hb hK hP hD hS 2 1 rfl rfl (inB_in g25) d_D_numberOf_73 (fun H locs hP hD hS => ?_)
          have hP : va_P D CL [(a_t, .inr (2, [.ref a_t_slots, .ref a_t_firsts, .int x24])), (a_t_firsts, .inl (k.2.1, t_firsts_n, .inl (upd t_firsts t_count.toNatClampNeg v2))), (a_t_slots, .inl (k.2.1, t_slots_n, .inl (upd t_slots x12.toNatClampNeg x24))), (a_p1, .inr (6, [.ref a_p1_numbers, .ref a_p1_texts, .ref a_p1_starts, .int p1_ofTexts, .int p1_count])), (a_p1_numbers, .inl (k.2.2, p1_numbers_n, .inr (.inl p1_numbers))), (a_p1_starts, .inl (k.2.1, p1_starts_n, .inl p1_starts)), (a_p1_texts, .inl (k.1, p1_texts_n, .inl p1_texts))] H := hP
          have hD : va_D A [(a_t, .inr (2, [.ref a_t_slots, .ref a_t_firsts, .int x24])), (a_t_firsts, .inl (k.2.1, t_firsts_n, .inl (upd t_firsts t_count.toNatClampNeg v2))), (a_t_slots, .inl (k.2.1, t_slots_n, .inl (upd t_slots x12.toNatClampNeg x24))), (a_p1, .inr (6, [.ref a_p1_numbers, .ref a_p1_texts, .ref a_p1_starts, .int p1_ofTexts, .int p1_count])), (a_p1_numbers, .inl (k.2.2, p1_numbers_n, .inr (.inl p1_numbers))), (a_p1_starts, .inl (k.2.1, p1_starts_n, .inl p1_starts)), (a_p1_texts, .inl (k.1, p1_texts_n, .inl p1_texts))] := hD
          refine lv_aload_n hx hb d_D_numberOf_74 rfl (lv_at hl 2 rfl) ?_
          refine va_get (D := D) (ci := 2) (v := .int x24) (C := "PageForm$Dictionary") (T := F_D) (N := 3) hx hb hts in_D hown hK hP 0 rfl rfl 2 (by decide) (hts _ fl_D_24) (fun _ h9 => h9) rfl d_D_numberOf_75 ?_
          refine lv_iconst (v := 1) hx hb d_D_numberOf_78 (by decide) ?_
          refine lv_isub hx hb d_D_numberOf_79 ?_
          obtain rfl := lp_out h hc9
          exact ret2 _ _ _ _ (Option.some.inj hx9) d_D_numberOf_80 hP hD hS
  unfold f_D_numberOf at h
  refine lv_aload_n hx hb d_D_numberOf_0 rfl (lv_at hl 1 rfl) ?_
  refine lv_iload_n hx hb d_D_numberOf_1 rfl (lv_at hl 2 rfl) ?_
  obtain ⟨o46, ho46, h⟩ := obd_at h
  refine g_V (As := [.int v2]) (rest := []) hx hb hml hown hts hA hK hP hD hS hE (c_V_slotOf l D k a_p1 a_p1_numbers a_p1_texts a_p1_starts p1_numbers_n p1_starts_n p1_texts_n p1_ofTexts p1_count p1_numbers p1_starts p1_texts v2 n o46 ho46) mw_V_slotOf mi_V_slotOf ml_D_35 [3, 4, 5, 6] rfl (by decide) rfl rfl rfl 0 rfl rfl rfl rfl rfl hl.1 rfl (Nat.le_of_ble_eq_true rfl) ⟨Nat.zero_le _, Nat.zero_le _⟩ d_D_numberOf_2 (fun H locs hP hD hS => ?_)
  have hP : va_P D CL [(a_t, .inr (2, [.ref a_t_slots, .ref a_t_firsts, .int t_count])), (a_t_firsts, .inl (k.2.1, t_firsts_n, .inl t_firsts)), (a_t_slots, .inl (k.2.1, t_slots_n, .inl t_slots)), (a_p1, .inr (6, [.ref a_p1_numbers, .ref a_p1_texts, .ref a_p1_starts, .int p1_ofTexts, .int p1_count])), (a_p1_numbers, .inl (k.2.2, p1_numbers_n, .inr (.inl p1_numbers))), (a_p1_starts, .inl (k.2.1, p1_starts_n, .inl p1_starts)), (a_p1_texts, .inl (k.1, p1_texts_n, .inl p1_texts))] H := hP
  have hD : va_D A [(a_t, .inr (2, [.ref a_t_slots, .ref a_t_firsts, .int t_count])), (a_t_firsts, .inl (k.2.1, t_firsts_n, .inl t_firsts)), (a_t_slots, .inl (k.2.1, t_slots_n, .inl t_slots)), (a_p1, .inr (6, [.ref a_p1_numbers, .ref a_p1_texts, .ref a_p1_starts, .int p1_ofTexts, .int p1_count])), (a_p1_numbers, .inl (k.2.2, p1_numbers_n, .inr (.inl p1_numbers))), (a_p1_starts, .inl (k.2.1, p1_starts_n, .inl p1_starts)), (a_p1_texts, .inl (k.1, p1_texts_n, .inl p1_texts))] := hD
  refine W.eq (g2 := F0 m 5 ls [.int o46]) rfl ?_
  refine lv_istore_n (lv' := [(3, .int o46), (0, .ref a_t), (1, .ref a_p1), (2, .int v2)]) hx hb d_D_numberOf_5 rfl hl (by decide) rfl (fun ls hl => ?_)
  refine lv_iconst (v := 0) hx hb d_D_numberOf_6 (by decide) ?_
  refine lv_istore (lv' := [(4, .int (0 : Int32)), (3, .int o46), (0, .ref a_t), (1, .ref a_p1), (2, .int v2)]) hx hb d_D_numberOf_7 hl (by decide) rfl (fun ls hl => ?_)
  obtain ⟨o47, ho47, h⟩ := obd_at h
  exact L9 n t_count t_firsts t_slots o46 (0 : Int32) o47 _ _ ls hP hD hS (lv_sub hl [2, 3, 4, 1, 0] rfl) ho47 h

def rm_D_gather : Room := { frames := 4, cells := 0, slots := 0, locals := 115 }
def f_D_gather_l15 (n : Nat) (t_firsts_n : Nat) (t_slots_n : Nat) (p1_numbers_n : Nat) (p1_starts_n : Nat) (p1_texts_n : Nat) (p2_n : Nat) (p1_ofTexts : Int32) (p1_count : Int32) (p1_numbers : Nat → Int64) (p1_starts : Nat → Int32) (p1_texts : Nat → Int32) (t_count : Int32) (t_firsts : Nat → Int32) (t_slots : Nat → Int32) (p2 : Nat → Int64) (v3 : Int32) : Option ((Int32 × (Nat → Int32) × (Nat → Int32) × (Nat → Int64) × Int32) ⊕ ((Int32 × (Nat → Int32) × (Nat → Int32) × (Nat → Int64)))) :=
  (if p1_count ≤ v3 then some (Sum.inr ((t_count, t_firsts, t_slots, p2))) else Option.bind (f_D_numberOf n t_firsts_n t_slots_n p1_numbers_n p1_starts_n p1_texts_n t_count t_firsts t_slots p1_ofTexts p1_numbers p1_starts p1_texts v3) (fun o6 => gd (inB v3 p2_n) (bnd (v3 + (1 : Int32)) (fun x8 => some (Sum.inl (o6.2.1, o6.2.2.1, o6.2.2.2, vp_updL p2 v3.toNatClampNeg o6.1.toInt64, x8))))))
def f_D_gather (n : Nat) (t_firsts_n : Nat) (t_slots_n : Nat) (p1_numbers_n : Nat) (p1_starts_n : Nat) (p1_texts_n : Nat) (p2_n : Nat) (t_firsts : Nat → Int32) (t_slots : Nat → Int32) (p1_ofTexts : Int32) (p1_count : Int32) (p1_numbers : Nat → Int64) (p1_starts : Nat → Int32) (p1_texts : Nat → Int32) (p2 : Nat → Int64) : Option (Int32 × (Nat → Int32) × (Nat → Int32) × (Nat → Int64)) :=
  Option.bind (f_JA_fill_aII n t_slots_n t_slots (0 : Int32)) (fun o19 => Option.bind (lp (fun v => f_D_gather_l15 n t_firsts_n t_slots_n p1_numbers_n p1_starts_n p1_texts_n p2_n p1_ofTexts p1_count p1_numbers p1_starts p1_texts v.1 v.2.1 v.2.2.1 v.2.2.2.1 v.2.2.2.2) n ((0 : Int32), t_firsts, o19, p2, (0 : Int32))) (fun o => some o))
set_option maxHeartbeats 4000000 in
set_option maxRecDepth 100000 in
theorem c_D_gather (l : Launch) (D : va_G) (k : ClassId × ClassId × ClassId) (a_t a_t_slots a_t_firsts a_p1 a_p1_numbers a_p1_texts a_p1_starts a_p2 : Nat) (t_firsts_n t_slots_n p1_numbers_n p1_starts_n p1_texts_n p2_n : Nat) (t_count : Int32) (t_firsts : Nat → Int32) (t_slots : Nat → Int32) (p1_ofTexts : Int32) (p1_count : Int32) (p1_numbers : Nat → Int64) (p1_starts : Nat → Int32) (p1_texts : Nat → Int32) (p2 : Nat → Int64) (n : Nat) (out : Int32 × (Nat → Int32) × (Nat → Int32) × (Nat → Int64)) (h : f_D_gather n t_firsts_n t_slots_n p1_numbers_n p1_starts_n p1_texts_n p2_n t_firsts t_slots p1_ofTexts p1_count p1_numbers p1_starts p1_texts p2 = some out) : Ct l D k y_D_gather b_D_gather 4 none rm_D_gather [.ref a_t, .ref a_p1, .ref a_p2] [(a_t, .inr (2, [.ref a_t_slots, .ref a_t_firsts, .int t_count])), (a_t_firsts, .inl (k.2.1, t_firsts_n, .inl t_firsts)), (a_t_slots, .inl (k.2.1, t_slots_n, .inl t_slots)), (a_p1, .inr (6, [.ref a_p1_numbers, .ref a_p1_texts, .ref a_p1_starts, .int p1_ofTexts, .int p1_count])), (a_p1_numbers, .inl (k.2.2, p1_numbers_n, .inr (.inl p1_numbers))), (a_p1_starts, .inl (k.2.1, p1_starts_n, .inl p1_starts)), (a_p1_texts, .inl (k.1, p1_texts_n, .inl p1_texts)), (a_p2, .inl (k.2.2, p2_n, .inr (.inl p2)))] [(a_t, .inr (2, [.ref a_t_slots, .ref a_t_firsts, .int out.1])), (a_t_firsts, .inl (k.2.1, t_firsts_n, .inl out.2.1)), (a_t_slots, .inl (k.2.1, t_slots_n, .inl out.2.2.1)), (a_p1, .inr (6, [.ref a_p1_numbers, .ref a_p1_texts, .ref a_p1_starts, .int p1_ofTexts, .int p1_count])), (a_p1_numbers, .inl (k.2.2, p1_numbers_n, .inr (.inl p1_numbers))), (a_p1_starts, .inl (k.2.1, p1_starts_n, .inl p1_starts)), (a_p1_texts, .inl (k.1, p1_texts_n, .inl p1_texts)), (a_p2, .inl (k.2.2, p2_n, .inr (.inl out.2.2.2)))] none := by
  refine Ct.ofV (by decide) (Nat.le_of_ble_eq_true rfl) ?_
  intro p e s m args below meth c A Q ls hx hb hml hown hts hA hK hP hD hS hE hl ret
  have hown : s.vm.findClass "PageForm$Dictionary" = some m.cls := hown
  have hl : lv_has ls 4 [(0, .ref a_t), (1, .ref a_p1), (2, .ref a_p2)] := hl
  have ret2 : ∀ (y0 : Int32) (y1 : Nat → Int32) (y2 : Nat → Int32) (y3 : Nat → Int64) (_ : (y0, y1, y2, y3) = out) {pc : Nat} {ls : Array Slot} {H : Heap} {locs : List Loc}, decode b_D_gather pc = .ok (.return_, 1) → va_P D CL [(a_t, .inr (2, [.ref a_t_slots, .ref a_t_firsts, .int y0])), (a_t_firsts, .inl (k.2.1, t_firsts_n, .inl y1)), (a_t_slots, .inl (k.2.1, t_slots_n, .inl y2)), (a_p1, .inr (6, [.ref a_p1_numbers, .ref a_p1_texts, .ref a_p1_starts, .int p1_ofTexts, .int p1_count])), (a_p1_numbers, .inl (k.2.2, p1_numbers_n, .inr (.inl p1_numbers))), (a_p1_starts, .inl (k.2.1, p1_starts_n, .inl p1_starts)), (a_p1_texts, .inl (k.1, p1_texts_n, .inl p1_texts)), (a_p2, .inl (k.2.2, p2_n, .inr (.inl y3)))] H → va_D A [(a_t, .inr (2, [.ref a_t_slots, .ref a_t_firsts, .int y0])), (a_t_firsts, .inl (k.2.1, t_firsts_n, .inl y1)), (a_t_slots, .inl (k.2.1, t_slots_n, .inl y2)), (a_p1, .inr (6, [.ref a_p1_numbers, .ref a_p1_texts, .ref a_p1_starts, .int p1_ofTexts, .int p1_count])), (a_p1_numbers, .inl (k.2.2, p1_numbers_n, .inr (.inl p1_numbers))), (a_p1_starts, .inl (k.2.1, p1_starts_n, .inl p1_starts)), (a_p1_texts, .inl (k.1, p1_texts_n, .inl p1_texts)), (a_p2, .inl (k.2.2, p2_n, .inr (.inl y3)))] → va_S A s.heap H locs → W p l e rm_D_gather s m args below meth c H locs 0 0 Q (F0 m pc ls []) := by
    intro y0 y1 y2 y3 e0; subst e0; exact ret
  clear ret
  have L15 : ∀ (K : Nat) (t_count : Int32) (t_firsts : Nat → Int32) (t_slots : Nat → Int32) (p2 : Nat → Int64) (v3 : Int32) (o : (Int32 × (Nat → Int32) × (Nat → Int32) × (Nat → Int64))) (H : Heap) (locs : List Loc) (ls : Array Slot), va_P D CL [(a_t, .inr (2, [.ref a_t_slots, .ref a_t_firsts, .int t_count])), (a_t_firsts, .inl (k.2.1, t_firsts_n, .inl t_firsts)), (a_t_slots, .inl (k.2.1, t_slots_n, .inl t_slots)), (a_p1, .inr (6, [.ref a_p1_numbers, .ref a_p1_texts, .ref a_p1_starts, .int p1_ofTexts, .int p1_count])), (a_p1_numbers, .inl (k.2.2, p1_numbers_n, .inr (.inl p1_numbers))), (a_p1_starts, .inl (k.2.1, p1_starts_n, .inl p1_starts)), (a_p1_texts, .inl (k.1, p1_texts_n, .inl p1_texts)), (a_p2, .inl (k.2.2, p2_n, .inr (.inl p2)))] H → va_D A [(a_t, .inr (2, [.ref a_t_slots, .ref a_t_firsts, .int t_count])), (a_t_firsts, .inl (k.2.1, t_firsts_n, .inl t_firsts)), (a_t_slots, .inl (k.2.1, t_slots_n, .inl t_slots)), (a_p1, .inr (6, [.ref a_p1_numbers, .ref a_p1_texts, .ref a_p1_starts, .int p1_ofTexts, .int p1_count])), (a_p1_numbers, .inl (k.2.2, p1_numbers_n, .inr (.inl p1_numbers))), (a_p1_starts, .inl (k.2.1, p1_starts_n, .inl p1_starts)), (a_p1_texts, .inl (k.1, p1_texts_n, .inl p1_texts)), (a_p2, .inl (k.2.2, p2_n, .inr (.inl p2)))] → va_S A s.heap H locs → lv_has ls 4 [(0, .ref a_t), (1, .ref a_p1), (2, .ref a_p2), (3, .int v3)] → lp (fun v => f_D_gather_l15 n t_firsts_n t_slots_n p1_numbers_n p1_starts_n p1_texts_n p2_n p1_ofTexts p1_count p1_numbers p1_starts p1_texts v.1 v.2.1 v.2.2.1 v.2.2.2.1 v.2.2.2.2) K (t_count, t_firsts, t_slots, p2, v3) = some o → (fun o => some o) o = some out → W p l e rm_D_gather s m args below meth c H locs 0 0 Q (F0 m 15 ls []) := by
    intro K
    induction K with
    | zero => intros; exact absurd (by assumption) lp_no
    | succ K ih15 =>
      intro t_count t_firsts t_slots p2 v3 o H locs ls hP hD hS hl h0 hx15
      obtain ⟨b15, h, hc15⟩ := lp_at h0
      have h : f_D_gather_l15 n t_firsts_n t_slots_n p1_numbers_n p1_starts_n p1_texts_n p2_n p1_ofTexts p1_count p1_numbers p1_starts p1_texts t_count t_firsts t_slots p2 v3 = some b15 := h
      unfold f_D_gather_l15 at h
      refine lv_iload_n hx hb d_D_gather_15 rfl (lv_at hl 3 rfl) ?_
      refine lv_aload_n hx hb d_D_gather_16 rfl (lv_at hl 1 rfl) ?_
      refine va_get (D := D) (ci := 6) (v := .int p1_count) (C := "PageForm$Values") (T := F_V) (N := 5) hx hb hts in_V hown hK hP 3 rfl rfl 4 (by decide) (hts _ fl_D_28) (fun _ h9 => h9) rfl d_D_gather_17 ?_
      refine lv_icmp_ge (tgt := 39) hx hb d_D_gather_20 (by decide) (fun c => ?_) (fun c => ?_)
      · have h := ift_at h c
        obtain rfl := lp_out h hc15
        exact ret2 _ _ _ _ (Option.some.inj hx15) d_D_gather_39 hP hD hS
      · have h := iff_at h c
        refine lv_aload_n hx hb d_D_gather_23 rfl (lv_at hl 2 rfl) ?_
        refine lv_iload_n hx hb d_D_gather_24 rfl (lv_at hl 3 rfl) ?_
        refine lv_aload_n hx hb d_D_gather_25 rfl (lv_at hl 0 rfl) ?_
        refine lv_aload_n hx hb d_D_gather_26 rfl (lv_at hl 1 rfl) ?_
        refine lv_iload_n hx hb d_D_gather_27 rfl (lv_at hl 3 rfl) ?_
        obtain ⟨o6, ho6, h⟩ := obd_at h
        refine g_V (As := [.ref a_p1, .int v3]) (rest := [.int v3, .ref a_p2]) hx hb hml hown hts hA hK hP hD hS hE (c_D_numberOf l D k a_t a_t_slots a_t_firsts a_p1 a_p1_numbers a_p1_texts a_p1_starts t_firsts_n t_slots_n p1_numbers_n p1_starts_n p1_texts_n t_count t_firsts t_slots p1_ofTexts p1_count p1_numbers p1_starts p1_texts v3 n o6 ho6) mw_D_numberOf mi_D_numberOf ml_D_31 [0, 1, 2, 3, 4, 5, 6] rfl (by decide) rfl rfl rfl 0 rfl rfl rfl rfl rfl hl.1 rfl (Nat.le_of_ble_eq_true rfl) ⟨Nat.zero_le _, Nat.zero_le _⟩ d_D_gather_28 (fun H locs hP hD hS => ?_)
        have hP : va_P D CL [(a_t, .inr (2, [.ref a_t_slots, .ref a_t_firsts, .int o6.2.1])), (a_t_firsts, .inl (k.2.1, t_firsts_n, .inl o6.2.2.1)), (a_t_slots, .inl (k.2.1, t_slots_n, .inl o6.2.2.2)), (a_p1, .inr (6, [.ref a_p1_numbers, .ref a_p1_texts, .ref a_p1_starts, .int p1_ofTexts, .int p1_count])), (a_p1_numbers, .inl (k.2.2, p1_numbers_n, .inr (.inl p1_numbers))), (a_p1_starts, .inl (k.2.1, p1_starts_n, .inl p1_starts)), (a_p1_texts, .inl (k.1, p1_texts_n, .inl p1_texts)), (a_p2, .inl (k.2.2, p2_n, .inr (.inl p2)))] H := hP
        have hD : va_D A [(a_t, .inr (2, [.ref a_t_slots, .ref a_t_firsts, .int o6.2.1])), (a_t_firsts, .inl (k.2.1, t_firsts_n, .inl o6.2.2.1)), (a_t_slots, .inl (k.2.1, t_slots_n, .inl o6.2.2.2)), (a_p1, .inr (6, [.ref a_p1_numbers, .ref a_p1_texts, .ref a_p1_starts, .int p1_ofTexts, .int p1_count])), (a_p1_numbers, .inl (k.2.2, p1_numbers_n, .inr (.inl p1_numbers))), (a_p1_starts, .inl (k.2.1, p1_starts_n, .inl p1_starts)), (a_p1_texts, .inl (k.1, p1_texts_n, .inl p1_texts)), (a_p2, .inl (k.2.2, p2_n, .inr (.inl p2)))] := hD
        refine W.eq (g2 := F0 m 31 ls [.int o6.1, .int v3, .ref a_p2]) rfl ?_
        refine lv_i2l hx hb d_D_gather_31 rfl ?_
        obtain ⟨g7, h⟩ := gd_at h
        refine va_last hx hb hK hP hD hS 7 2 rfl rfl (inB_in g7) d_D_gather_32 (fun H locs hP hD hS => ?_)
        have hP : va_P D CL [(a_t, .inr (2, [.ref a_t_slots, .ref a_t_firsts, .int o6.2.1])), (a_t_firsts, .inl (k.2.1, t_firsts_n, .inl o6.2.2.1)), (a_t_slots, .inl (k.2.1, t_slots_n, .inl o6.2.2.2)), (a_p1, .inr (6, [.ref a_p1_numbers, .ref a_p1_texts, .ref a_p1_starts, .int p1_ofTexts, .int p1_count])), (a_p1_numbers, .inl (k.2.2, p1_numbers_n, .inr (.inl p1_numbers))), (a_p1_starts, .inl (k.2.1, p1_starts_n, .inl p1_starts)), (a_p1_texts, .inl (k.1, p1_texts_n, .inl p1_texts)), (a_p2, .inl (k.2.2, p2_n, .inr (.inl (vp_updL p2 v3.toNatClampNeg o6.1.toInt64))))] H := hP
        have hD : va_D A [(a_t, .inr (2, [.ref a_t_slots, .ref a_t_firsts, .int o6.2.1])), (a_t_firsts, .inl (k.2.1, t_firsts_n, .inl o6.2.2.1)), (a_t_slots, .inl (k.2.1, t_slots_n, .inl o6.2.2.2)), (a_p1, .inr (6, [.ref a_p1_numbers, .ref a_p1_texts, .ref a_p1_starts, .int p1_ofTexts, .int p1_count])), (a_p1_numbers, .inl (k.2.2, p1_numbers_n, .inr (.inl p1_numbers))), (a_p1_starts, .inl (k.2.1, p1_starts_n, .inl p1_starts)), (a_p1_texts, .inl (k.1, p1_texts_n, .inl p1_texts)), (a_p2, .inl (k.2.2, p2_n, .inr (.inl (vp_updL p2 v3.toNatClampNeg o6.1.toInt64))))] := hD
        obtain ⟨x8, ex8⟩ : ∃ z : Int32, z = v3 + (1 : Int32) := ⟨_, rfl⟩
        have h := bnd_at h ex8
        refine lv_iinc (v := x8) (lv' := [(3, .int x8), (0, .ref a_t), (1, .ref a_p1), (2, .ref a_p2)]) hx hb d_D_gather_33 hl (k := 3) rfl (by rw [ex8]; rfl) (by decide) rfl (fun ls hl => ?_)
        refine lv_goto (tgt := 15) hx hb d_D_gather_36 (by decide) ?_
        have h := lp_go h hc15
        exact ih15 o6.2.1 o6.2.2.1 o6.2.2.2 (vp_updL p2 v3.toNatClampNeg o6.1.toInt64) x8 o _ _ ls hP hD hS (lv_sub hl [1, 2, 3, 0] rfl) h hx15
  unfold f_D_gather at h
  refine lv_aload_n hx hb d_D_gather_0 rfl (lv_at hl 0 rfl) ?_
  refine va_get (D := D) (ci := 2) (v := .ref a_t_slots) (C := "PageForm$Dictionary") (T := F_D) (N := 3) hx hb hts in_D hown hK hP 0 rfl rfl 0 (by decide) (hts _ fl_D_9) (fun _ h9 => h9) rfl d_D_gather_1 ?_
  refine lv_iconst (v := 0) hx hb d_D_gather_4 (by decide) ?_
  obtain ⟨o19, ho19, h⟩ := obd_at h
  refine g_S (As := [.ref a_t_slots, .int (0 : Int32)]) (rest := []) hx hb hml hown hts hA hK hP hD hS hE (c_JA_fill_aII l D k a_t_slots t_slots_n t_slots (0 : Int32) n o19 ho19) mw_JA_fill_aII ms_JA_fill_aII ml_D_18 [2] rfl (by decide) rfl rfl rfl rfl rfl hl.1 rfl (Nat.le_of_ble_eq_true rfl) ⟨Nat.zero_le _, Nat.zero_le _⟩ d_D_gather_5 (fun H locs hP hD hS => ?_)
  have hP : va_P D CL [(a_t, .inr (2, [.ref a_t_slots, .ref a_t_firsts, .int t_count])), (a_t_firsts, .inl (k.2.1, t_firsts_n, .inl t_firsts)), (a_t_slots, .inl (k.2.1, t_slots_n, .inl o19)), (a_p1, .inr (6, [.ref a_p1_numbers, .ref a_p1_texts, .ref a_p1_starts, .int p1_ofTexts, .int p1_count])), (a_p1_numbers, .inl (k.2.2, p1_numbers_n, .inr (.inl p1_numbers))), (a_p1_starts, .inl (k.2.1, p1_starts_n, .inl p1_starts)), (a_p1_texts, .inl (k.1, p1_texts_n, .inl p1_texts)), (a_p2, .inl (k.2.2, p2_n, .inr (.inl p2)))] H := hP
  have hD : va_D A [(a_t, .inr (2, [.ref a_t_slots, .ref a_t_firsts, .int t_count])), (a_t_firsts, .inl (k.2.1, t_firsts_n, .inl t_firsts)), (a_t_slots, .inl (k.2.1, t_slots_n, .inl o19)), (a_p1, .inr (6, [.ref a_p1_numbers, .ref a_p1_texts, .ref a_p1_starts, .int p1_ofTexts, .int p1_count])), (a_p1_numbers, .inl (k.2.2, p1_numbers_n, .inr (.inl p1_numbers))), (a_p1_starts, .inl (k.2.1, p1_starts_n, .inl p1_starts)), (a_p1_texts, .inl (k.1, p1_texts_n, .inl p1_texts)), (a_p2, .inl (k.2.2, p2_n, .inr (.inl p2)))] := hD
  refine W.eq (g2 := F0 m 8 ls []) rfl ?_
  refine lv_aload_n hx hb d_D_gather_8 rfl (lv_at hl 0 rfl) ?_
  refine lv_iconst (v := 0) hx hb d_D_gather_9 (by decide) ?_
  refine va_put (D := D) (ci := 2) (v := .int (0 : Int32)) (ty := .int) (C := "PageForm$Dictionary") (T := F_D) (N := 3) hx hb hts in_D t_D t_D_ok n_D hown hK hP hD hS 0 rfl rfl 2 (by decide) (hts _ fl_D_24) (fun _ h9 => h9) rfl (by decide +kernel) rfl rfl (Nat.le_of_ble_eq_true rfl) d_D_gather_10 (fun H locs hP hD hS => ?_)
  have hP : va_P D CL [(a_t, .inr (2, [.ref a_t_slots, .ref a_t_firsts, .int (0 : Int32)])), (a_t_firsts, .inl (k.2.1, t_firsts_n, .inl t_firsts)), (a_t_slots, .inl (k.2.1, t_slots_n, .inl o19)), (a_p1, .inr (6, [.ref a_p1_numbers, .ref a_p1_texts, .ref a_p1_starts, .int p1_ofTexts, .int p1_count])), (a_p1_numbers, .inl (k.2.2, p1_numbers_n, .inr (.inl p1_numbers))), (a_p1_starts, .inl (k.2.1, p1_starts_n, .inl p1_starts)), (a_p1_texts, .inl (k.1, p1_texts_n, .inl p1_texts)), (a_p2, .inl (k.2.2, p2_n, .inr (.inl p2)))] H := hP
  have hD : va_D A [(a_t, .inr (2, [.ref a_t_slots, .ref a_t_firsts, .int (0 : Int32)])), (a_t_firsts, .inl (k.2.1, t_firsts_n, .inl t_firsts)), (a_t_slots, .inl (k.2.1, t_slots_n, .inl o19)), (a_p1, .inr (6, [.ref a_p1_numbers, .ref a_p1_texts, .ref a_p1_starts, .int p1_ofTexts, .int p1_count])), (a_p1_numbers, .inl (k.2.2, p1_numbers_n, .inr (.inl p1_numbers))), (a_p1_starts, .inl (k.2.1, p1_starts_n, .inl p1_starts)), (a_p1_texts, .inl (k.1, p1_texts_n, .inl p1_texts)), (a_p2, .inl (k.2.2, p2_n, .inr (.inl p2)))] := hD
  refine lv_iconst (v := 0) hx hb d_D_gather_13 (by decide) ?_
  refine lv_istore_n (lv' := [(3, .int (0 : Int32)), (0, .ref a_t), (1, .ref a_p1), (2, .ref a_p2)]) hx hb d_D_gather_14 rfl hl (by decide) rfl (fun ls hl => ?_)
  obtain ⟨o20, ho20, h⟩ := obd_at h
  exact L15 n (0 : Int32) t_firsts o19 p2 (0 : Int32) o20 _ _ ls hP hD hS (lv_sub hl [1, 2, 3, 0] rfl) ho20 h

