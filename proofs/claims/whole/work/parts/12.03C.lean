def rm_C_holds : Room := { frames := 0, cells := 0, slots := 0, locals := 0 }
def f_C_holds_j44  : Option (Int32) :=
  some (1 : Int32)
def f_C_holds (t_type : Int32) (v1 : Int64) : Option (Int32) :=
  (if t_type = (0 : Int32) then (if v1 = (0 : Int64) then f_C_holds_j44  else (if v1 = (1 : Int64) then f_C_holds_j44  else some (0 : Int32))) else (if t_type = (1 : Int32) then (if v1 = v1.toInt32.toInt64 then some (1 : Int32) else some (0 : Int32)) else some (1 : Int32)))
set_option maxHeartbeats 4000000 in
set_option maxRecDepth 100000 in
theorem c_C_holds (l : Launch) (D : va_G) (k : ClassId × ClassId × ClassId) (a_t : Nat) (t_type : Int32) (t_mostR : Int32) (t_mostD : Int32) (v1 : Int64) (n : Nat) (out : Int32) (h : f_C_holds t_type v1 = some out) : Ct l D k y_C_holds b_C_holds 3 (some .boolean) rm_C_holds [.ref a_t, .long v1] [(a_t, .inr (1, [.int t_type, .int t_mostR, .int t_mostD]))] [(a_t, .inr (1, [.int t_type, .int t_mostR, .int t_mostD]))] (some (.int out)) := by
  refine Ct.ofZ (by decide) (Nat.le_of_ble_eq_true rfl) ?_
  intro p e s m args below meth c A Q ls hx hb hml hown hts hA hK hP hD hS hE hl ret
  have hown : s.vm.findClass "PageForm$Column" = some m.cls := hown
  have hl : lv_has ls 3 [(0, .ref a_t), (1, .long v1)] := hl
  have ret2 : ∀ (y0 : Int32) (_ : y0 = out) {pc : Nat} {ls : Array Slot} {H : Heap} {locs : List Loc}, decode b_C_holds pc = .ok (.ireturn, 1) → narrow .boolean (.int y0) = .int y0 → va_P D CL [(a_t, .inr (1, [.int t_type, .int t_mostR, .int t_mostD]))] H → va_D A [(a_t, .inr (1, [.int t_type, .int t_mostR, .int t_mostD]))] → va_S A s.heap H locs → W p l e rm_C_holds s m args below meth c H locs 0 0 Q (F0 m pc ls [.int y0]) := by
    intro y0 e0; subst e0; exact ret
  clear ret
  have J44 : ∀  (H : Heap) (locs : List Loc) (ls : Array Slot), va_P D CL [(a_t, .inr (1, [.int t_type, .int t_mostR, .int t_mostD]))] H → va_D A [(a_t, .inr (1, [.int t_type, .int t_mostR, .int t_mostD]))] → va_S A s.heap H locs → lv_has ls 3 [] → f_C_holds_j44  = some out → W p l e rm_C_holds s m args below meth c H locs 0 0 Q (F0 m 44 ls []) := by
    intro  H locs ls hP hD hS hl h
    unfold f_C_holds_j44 at h
    refine lv_iconst (v := 1) hx hb d_C_holds_44 (by decide) ?_
    refine lv_goto (tgt := 49) hx hb d_C_holds_45 (by decide) ?_
    exact ret2 _ (Option.some.inj h) d_C_holds_49 nb1 hP hD hS
  unfold f_C_holds at h
  refine lv_aload_n hx hb d_C_holds_0 rfl (lv_at hl 0 rfl) ?_
  refine va_get (D := D) (ci := 1) (v := .int t_type) (C := "PageForm$Column") (T := F_C) (N := 3) hx hb hts in_C hown hK hP 0 rfl rfl 0 (by decide) (hts _ fl_C_9) (fun _ h9 => h9) rfl d_C_holds_1 ?_
  by_cases c0 : t_type = (0 : Int32)
  · have h := ift_at h c0
    refine lv_lookup (tgt := 32) (off := 28) hx hb d_C_holds_4 (by decide) (by rw [c0] <;> rfl) (by decide) ?_
    refine lv_lload_n hx hb d_C_holds_32 rfl (lv_at hl 1 rfl) ?_
    refine lv_lconst (v := 0) hx hb d_C_holds_33 (by decide) ?_
    refine W.lcmp hx hb d_C_holds_34 ?_
    refine lv_if_eq (tgt := 44) hx hb d_C_holds_35 (by decide) (fun c => ?_) (fun c => ?_)
    · have c := zc_eq.mp c
      have h := ift_at h c
      exact J44  _ _ ls hP hD hS (lv_sub hl [] rfl) h
    · have c := mt zc_eq.mpr c
      have h := iff_at h c
      refine lv_lload_n hx hb d_C_holds_38 rfl (lv_at hl 1 rfl) ?_
      refine lv_lconst (v := 1) hx hb d_C_holds_39 (by decide) ?_
      refine W.lcmp hx hb d_C_holds_40 ?_
      refine lv_if_ne (tgt := 48) hx hb d_C_holds_41 (by decide) (fun c => ?_) (fun c => ?_)
      · have c := mt zc_eq.mpr c
        have h := iff_at h c
        refine lv_iconst (v := 0) hx hb d_C_holds_48 (by decide) ?_
        exact ret2 _ (Option.some.inj h) d_C_holds_49 nb0 hP hD hS
      · have c := zc_eq.mp c
        have h := ift_at h c
        exact J44  _ _ ls hP hD hS (lv_sub hl [] rfl) h
  have h := iff_at h c0
  by_cases c1 : t_type = (1 : Int32)
  · have h := ift_at h c1
    refine lv_lookup (tgt := 50) (off := 46) hx hb d_C_holds_4 (by decide) (by rw [c1] <;> rfl) (by decide) ?_
    refine lv_lload_n hx hb d_C_holds_50 rfl (lv_at hl 1 rfl) ?_
    refine lv_lload_n hx hb d_C_holds_51 rfl (lv_at hl 1 rfl) ?_
    refine lv_l2i hx hb d_C_holds_52 rfl ?_
    refine lv_i2l hx hb d_C_holds_53 rfl ?_
    refine W.lcmp hx hb d_C_holds_54 ?_
    refine lv_if_ne (tgt := 62) hx hb d_C_holds_55 (by decide) (fun c => ?_) (fun c => ?_)
    · have c := mt zc_eq.mpr c
      have h := iff_at h c
      refine lv_iconst (v := 0) hx hb d_C_holds_62 (by decide) ?_
      exact ret2 _ (Option.some.inj h) d_C_holds_63 nb0 hP hD hS
    · have c := zc_eq.mp c
      have h := ift_at h c
      refine lv_iconst (v := 1) hx hb d_C_holds_58 (by decide) ?_
      refine lv_goto (tgt := 63) hx hb d_C_holds_59 (by decide) ?_
      exact ret2 _ (Option.some.inj h) d_C_holds_63 nb1 hP hD hS
  have h := iff_at h c1
  refine lv_lookup (tgt := 64) (off := 60) hx hb d_C_holds_4 (by decide) (show Op.lookupswitch.offset [(0, 28), (1, 46)] 60 _ = _ by rw [lv_osw (a := 0) c0 (by decide), lv_osw (a := 1) c1 (by decide)] <;> rfl) (by decide) ?_
  refine lv_iconst (v := 1) hx hb d_C_holds_64 (by decide) ?_
  exact ret2 _ (Option.some.inj h) d_C_holds_65 nb1 hP hD hS

def rm_C_lastCoding : Room := { frames := 0, cells := 0, slots := 0, locals := 0 }
def f_C_lastCoding (t_type : Int32) : Option (Int32) :=
  (if t_type = (0 : Int32) then some (1 : Int32) else (if t_type = (3 : Int32) then some (3 : Int32) else some (2 : Int32)))
set_option maxHeartbeats 4000000 in
set_option maxRecDepth 100000 in
theorem c_C_lastCoding (l : Launch) (D : va_G) (k : ClassId × ClassId × ClassId) (a_t : Nat) (t_type : Int32) (t_mostR : Int32) (t_mostD : Int32) (n : Nat) (out : Int32) (h : f_C_lastCoding t_type = some out) : Ct l D k y_C_lastCoding b_C_lastCoding 1 (some .int) rm_C_lastCoding [.ref a_t] [(a_t, .inr (1, [.int t_type, .int t_mostR, .int t_mostD]))] [(a_t, .inr (1, [.int t_type, .int t_mostR, .int t_mostD]))] (some (.int out)) := by
  refine Ct.ofI (by decide) (Nat.le_of_ble_eq_true rfl) ?_
  intro p e s m args below meth c A Q ls hx hb hml hown hts hA hK hP hD hS hE hl ret
  have hown : s.vm.findClass "PageForm$Column" = some m.cls := hown
  have hl : lv_has ls 1 [(0, .ref a_t)] := hl
  have ret2 : ∀ (y0 : Int32) (_ : y0 = out) {pc : Nat} {ls : Array Slot} {H : Heap} {locs : List Loc}, decode b_C_lastCoding pc = .ok (.ireturn, 1) → va_P D CL [(a_t, .inr (1, [.int t_type, .int t_mostR, .int t_mostD]))] H → va_D A [(a_t, .inr (1, [.int t_type, .int t_mostR, .int t_mostD]))] → va_S A s.heap H locs → W p l e rm_C_lastCoding s m args below meth c H locs 0 0 Q (F0 m pc ls [.int y0]) := by
    intro y0 e0; subst e0; exact ret
  clear ret
  unfold f_C_lastCoding at h
  refine lv_aload_n hx hb d_C_lastCoding_0 rfl (lv_at hl 0 rfl) ?_
  refine va_get (D := D) (ci := 1) (v := .int t_type) (C := "PageForm$Column") (T := F_C) (N := 3) hx hb hts in_C hown hK hP 0 rfl rfl 0 (by decide) (hts _ fl_C_9) (fun _ h9 => h9) rfl d_C_lastCoding_1 ?_
  by_cases c0 : t_type = (0 : Int32)
  · have h := ift_at h c0
    refine lv_lookup (tgt := 32) (off := 28) hx hb d_C_lastCoding_4 (by decide) (by rw [c0] <;> rfl) (by decide) ?_
    refine lv_iconst (v := 1) hx hb d_C_lastCoding_32 (by decide) ?_
    exact ret2 _ (Option.some.inj h) d_C_lastCoding_33 hP hD hS
  have h := iff_at h c0
  by_cases c3 : t_type = (3 : Int32)
  · have h := ift_at h c3
    refine lv_lookup (tgt := 34) (off := 30) hx hb d_C_lastCoding_4 (by decide) (by rw [c3] <;> rfl) (by decide) ?_
    refine lv_iconst (v := 3) hx hb d_C_lastCoding_34 (by decide) ?_
    exact ret2 _ (Option.some.inj h) d_C_lastCoding_35 hP hD hS
  have h := iff_at h c3
  refine lv_lookup (tgt := 36) (off := 32) hx hb d_C_lastCoding_4 (by decide) (show Op.lookupswitch.offset [(0, 28), (3, 30)] 32 _ = _ by rw [lv_osw (a := 0) c0 (by decide), lv_osw (a := 3) c3 (by decide)] <;> rfl) (by decide) ?_
  refine lv_iconst (v := 2) hx hb d_C_lastCoding_36 (by decide) ?_
  exact ret2 _ (Option.some.inj h) d_C_lastCoding_37 hP hD hS

