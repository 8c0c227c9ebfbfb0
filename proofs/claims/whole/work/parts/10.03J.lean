def rm_JI_compare : Room := { frames := 0, cells := 0, slots := 0, locals := 0 }
def f_JI_compare (v0 : Int32) (v1 : Int32) : Option (Int32) :=
  (if v1 ≤ v0 then (if v0 = v1 then some (0 : Int32) else some (1 : Int32)) else some (-1 : Int32))
set_option maxHeartbeats 4000000 in
set_option maxRecDepth 100000 in
theorem c_JI_compare (l : Launch) (D : va_G) (k : ClassId × ClassId × ClassId) (v0 : Int32) (v1 : Int32) (n : Nat) (out : Int32) (h : f_JI_compare v0 v1 = some out) : Ct l D k y_JI_compare b_JI_compare 2 (some .int) rm_JI_compare [.int v0, .int v1] [] [] (some (.int out)) := by
  refine Ct.ofI (by decide) (Nat.le_of_ble_eq_true rfl) ?_
  intro p e s m args below meth c A Q ls hx hb hml hown hts hA hK hP hD hS hE hl ret
  have hown : s.vm.findClass "java/lang/Integer" = some m.cls := hown
  have hl : lv_has ls 2 [(0, .int v0), (1, .int v1)] := hl
  have ret2 : ∀ (y0 : Int32) (_ : y0 = out) {pc : Nat} {ls : Array Slot} {H : Heap} {locs : List Loc}, decode b_JI_compare pc = .ok (.ireturn, 1) → va_P D CL [] H → va_D A [] → va_S A s.heap H locs → W p l e rm_JI_compare s m args below meth c H locs 0 0 Q (F0 m pc ls [.int y0]) := by
    intro y0 e0; subst e0; exact ret
  clear ret
  unfold f_JI_compare at h
  refine lv_iload_n hx hb d_JI_compare_0 rfl (lv_at hl 0 rfl) ?_
  refine lv_iload_n hx hb d_JI_compare_1 rfl (lv_at hl 1 rfl) ?_
  refine lv_icmp_ge (tgt := 9) hx hb d_JI_compare_2 (by decide) (fun c => ?_) (fun c => ?_)
  · have h := ift_at h c
    refine lv_iload_n hx hb d_JI_compare_9 rfl (lv_at hl 0 rfl) ?_
    refine lv_iload_n hx hb d_JI_compare_10 rfl (lv_at hl 1 rfl) ?_
    refine lv_icmp_ne (tgt := 18) hx hb d_JI_compare_11 (by decide) (fun c => ?_) (fun c => ?_)
    · have h := iff_at h c
      refine lv_iconst (v := 1) hx hb d_JI_compare_18 (by decide) ?_
      exact ret2 _ (Option.some.inj h) d_JI_compare_19 hP hD hS
    · have h := ift_at h c
      refine lv_iconst (v := 0) hx hb d_JI_compare_14 (by decide) ?_
      refine lv_goto (tgt := 19) hx hb d_JI_compare_15 (by decide) ?_
      exact ret2 _ (Option.some.inj h) d_JI_compare_19 hP hD hS
  · have h := iff_at h c
    refine lv_iconst (v := (-1)) hx hb d_JI_compare_5 (by decide) ?_
    refine lv_goto (tgt := 19) hx hb d_JI_compare_6 (by decide) ?_
    exact ret2 _ (Option.some.inj h) d_JI_compare_19 hP hD hS

def rm_JL_compare : Room := { frames := 0, cells := 0, slots := 0, locals := 0 }
def f_JL_compare (v0 : Int64) (v2 : Int64) : Option (Int32) :=
  (if v2 ≤ v0 then (if v0 = v2 then some (0 : Int32) else some (1 : Int32)) else some (-1 : Int32))
set_option maxHeartbeats 4000000 in
set_option maxRecDepth 100000 in
theorem c_JL_compare (l : Launch) (D : va_G) (k : ClassId × ClassId × ClassId) (v0 : Int64) (v2 : Int64) (n : Nat) (out : Int32) (h : f_JL_compare v0 v2 = some out) : Ct l D k y_JL_compare b_JL_compare 4 (some .int) rm_JL_compare [.long v0, .long v2] [] [] (some (.int out)) := by
  refine Ct.ofI (by decide) (Nat.le_of_ble_eq_true rfl) ?_
  intro p e s m args below meth c A Q ls hx hb hml hown hts hA hK hP hD hS hE hl ret
  have hown : s.vm.findClass "java/lang/Long" = some m.cls := hown
  have hl : lv_has ls 4 [(0, .long v0), (2, .long v2)] := hl
  have ret2 : ∀ (y0 : Int32) (_ : y0 = out) {pc : Nat} {ls : Array Slot} {H : Heap} {locs : List Loc}, decode b_JL_compare pc = .ok (.ireturn, 1) → va_P D CL [] H → va_D A [] → va_S A s.heap H locs → W p l e rm_JL_compare s m args below meth c H locs 0 0 Q (F0 m pc ls [.int y0]) := by
    intro y0 e0; subst e0; exact ret
  clear ret
  unfold f_JL_compare at h
  refine lv_lload_n hx hb d_JL_compare_0 rfl (lv_at hl 0 rfl) ?_
  refine lv_lload_n hx hb d_JL_compare_1 rfl (lv_at hl 1 rfl) ?_
  refine W.lcmp hx hb d_JL_compare_2 ?_
  refine lv_if_ge (tgt := 10) hx hb d_JL_compare_3 (by decide) (fun c => ?_) (fun c => ?_)
  · have c := zc_ge.mp c
    have h := ift_at h c
    refine lv_lload_n hx hb d_JL_compare_10 rfl (lv_at hl 0 rfl) ?_
    refine lv_lload_n hx hb d_JL_compare_11 rfl (lv_at hl 1 rfl) ?_
    refine W.lcmp hx hb d_JL_compare_12 ?_
    refine lv_if_ne (tgt := 20) hx hb d_JL_compare_13 (by decide) (fun c => ?_) (fun c => ?_)
    · have c := mt zc_eq.mpr c
      have h := iff_at h c
      refine lv_iconst (v := 1) hx hb d_JL_compare_20 (by decide) ?_
      exact ret2 _ (Option.some.inj h) d_JL_compare_21 hP hD hS
    · have c := zc_eq.mp c
      have h := ift_at h c
      refine lv_iconst (v := 0) hx hb d_JL_compare_16 (by decide) ?_
      refine lv_goto (tgt := 21) hx hb d_JL_compare_17 (by decide) ?_
      exact ret2 _ (Option.some.inj h) d_JL_compare_21 hP hD hS
  · have c := mt zc_ge.mpr c
    have h := iff_at h c
    refine lv_iconst (v := (-1)) hx hb d_JL_compare_6 (by decide) ?_
    refine lv_goto (tgt := 21) hx hb d_JL_compare_7 (by decide) ?_
    exact ret2 _ (Option.some.inj h) d_JL_compare_21 hP hD hS

def rm_JA_rangeCheck : Room := { frames := 0, cells := 0, slots := 0, locals := 0 }
def f_JA_rangeCheck (v0 : Int32) (v1 : Int32) (v2 : Int32) : Option (Unit) :=
  (if v1 ≤ v2 then (if 0 ≤ v1 then (if v2 ≤ v0 then some () else none) else none) else none)
set_option maxHeartbeats 4000000 in
set_option maxRecDepth 100000 in
theorem c_JA_rangeCheck (l : Launch) (D : va_G) (k : ClassId × ClassId × ClassId) (v0 : Int32) (v1 : Int32) (v2 : Int32) (n : Nat) (out : Unit) (h : f_JA_rangeCheck v0 v1 v2 = some out) : Ct l D k y_JA_rangeCheck b_JA_rangeCheck 3 none rm_JA_rangeCheck [.int v0, .int v1, .int v2] [] [] none := by
  refine Ct.ofV (by decide) (Nat.le_of_ble_eq_true rfl) ?_
  intro p e s m args below meth c A Q ls hx hb hml hown hts hA hK hP hD hS hE hl ret
  have hown : s.vm.findClass "java/util/Arrays" = some m.cls := hown
  have hl : lv_has ls 3 [(0, .int v0), (1, .int v1), (2, .int v2)] := hl
  have ret2 : ∀ (_ : () = out) {pc : Nat} {ls : Array Slot} {H : Heap} {locs : List Loc}, decode b_JA_rangeCheck pc = .ok (.return_, 1) → va_P D CL [] H → va_D A [] → va_S A s.heap H locs → W p l e rm_JA_rangeCheck s m args below meth c H locs 0 0 Q (F0 m pc ls []) := by
    intro  e0; subst e0; exact ret
  clear ret
  unfold f_JA_rangeCheck at h
  refine lv_iload_n hx hb d_JA_rangeCheck_0 rfl (lv_at hl 1 rfl) ?_
  refine lv_iload_n hx hb d_JA_rangeCheck_1 rfl (lv_at hl 2 rfl) ?_
  refine lv_icmp_le (tgt := 46) hx hb d_JA_rangeCheck_2 (by decide) (fun c => ?_) (fun c => ?_)
  · have h := ift_at h c
    refine lv_iload_n hx hb d_JA_rangeCheck_46 rfl (lv_at hl 1 rfl) ?_
    refine lv_if_ge (tgt := 59) hx hb d_JA_rangeCheck_47 (by decide) (fun c => ?_) (fun c => ?_)
    · have h := ift_at h c
      refine lv_iload_n hx hb d_JA_rangeCheck_59 rfl (lv_at hl 2 rfl) ?_
      refine lv_iload_n hx hb d_JA_rangeCheck_60 rfl (lv_at hl 0 rfl) ?_
      refine lv_icmp_le (tgt := 73) hx hb d_JA_rangeCheck_61 (by decide) (fun c => ?_) (fun c => ?_)
      · have h := ift_at h c
        exact ret2 (Option.some.inj h) d_JA_rangeCheck_73 hP hD hS
      · have h := iff_at h c
        cases h
    · have h := iff_at h c
      cases h
  · have h := iff_at h c
    cases h

def rm_JA_fill_aBIIB : Room := { frames := 1, cells := 0, slots := 0, locals := 22 }
def f_JA_fill_aBIIB_l10 (p1_n : Nat) (v2 : Int32) (v3 : Int32) (p1 : Nat → Int32) (v4 : Int32) : Option (((Nat → Int32) × Int32) ⊕ (((Nat → Int32)))) :=
  (if v2 ≤ v4 then some (Sum.inr (p1)) else gd (inB v4 p1_n) (bnd (v4 + (1 : Int32)) (fun x5 => some (Sum.inl (upd p1 v4.toNatClampNeg (vp_nar .byte v3), x5)))))
def f_JA_fill_aBIIB (n : Nat) (p1_n : Nat) (p1 : Nat → Int32) (v1 : Int32) (v2 : Int32) (v3 : Int32) : Option ((Nat → Int32)) :=
  Option.bind (f_JA_rangeCheck (nI p1_n) v1 v2) (fun o11 => Option.bind (lp (fun v => f_JA_fill_aBIIB_l10 p1_n v2 v3 v.1 v.2) n (p1, v1)) (fun o => some o))
set_option maxHeartbeats 4000000 in
set_option maxRecDepth 100000 in
theorem c_JA_fill_aBIIB (l : Launch) (D : va_G) (k : ClassId × ClassId × ClassId) (a_p1 : Nat) (p1_n : Nat) (p1 : Nat → Int32) (v1 : Int32) (v2 : Int32) (v3 : Int32) (n : Nat) (out : (Nat → Int32)) (h : f_JA_fill_aBIIB n p1_n p1 v1 v2 v3 = some out) : Ct l D k y_JA_fill_aBIIB b_JA_fill_aBIIB 5 none rm_JA_fill_aBIIB [.ref a_p1, .int v1, .int v2, .int v3] [(a_p1, .inl (k.1, p1_n, .inl p1))] [(a_p1, .inl (k.1, p1_n, .inl out))] none := by
  refine Ct.ofV (by decide) (Nat.le_of_ble_eq_true rfl) ?_
  intro p e s m args below meth c A Q ls hx hb hml hown hts hA hK hP hD hS hE hl ret
  have hown : s.vm.findClass "java/util/Arrays" = some m.cls := hown
  have hl : lv_has ls 5 [(0, .ref a_p1), (1, .int v1), (2, .int v2), (3, .int v3)] := hl
  have ret2 : ∀ (y0 : Nat → Int32) (_ : y0 = out) {pc : Nat} {ls : Array Slot} {H : Heap} {locs : List Loc}, decode b_JA_fill_aBIIB pc = .ok (.return_, 1) → va_P D CL [(a_p1, .inl (k.1, p1_n, .inl y0))] H → va_D A [(a_p1, .inl (k.1, p1_n, .inl y0))] → va_S A s.heap H locs → W p l e rm_JA_fill_aBIIB s m args below meth c H locs 0 0 Q (F0 m pc ls []) := by
    intro y0 e0; subst e0; exact ret
  clear ret
  have L10 : ∀ (K : Nat) (p1 : Nat → Int32) (v4 : Int32) (o : ((Nat → Int32))) (H : Heap) (locs : List Loc) (ls : Array Slot), va_P D CL [(a_p1, .inl (k.1, p1_n, .inl p1))] H → va_D A [(a_p1, .inl (k.1, p1_n, .inl p1))] → va_S A s.heap H locs → lv_has ls 5 [(0, .ref a_p1), (2, .int v2), (3, .int v3), (4, .int v4)] → lp (fun v => f_JA_fill_aBIIB_l10 p1_n v2 v3 v.1 v.2) K (p1, v4) = some o → (fun o => some o) o = some out → W p l e rm_JA_fill_aBIIB s m args below meth c H locs 0 0 Q (F0 m 10 ls []) := by
    intro K
    induction K with
    | zero => intros; exact absurd (by assumption) lp_no
    | succ K ih10 =>
      intro p1 v4 o H locs ls hP hD hS hl h0 hx10
      obtain ⟨b10, h, hc10⟩ := lp_at h0
      have h : f_JA_fill_aBIIB_l10 p1_n v2 v3 p1 v4 = some b10 := h
      unfold f_JA_fill_aBIIB_l10 at h
      refine lv_iload hx hb d_JA_fill_aBIIB_10 (lv_at hl 3 rfl) ?_
      refine lv_iload_n hx hb d_JA_fill_aBIIB_12 rfl (lv_at hl 1 rfl) ?_
      refine lv_icmp_ge (tgt := 27) hx hb d_JA_fill_aBIIB_13 (by decide) (fun c => ?_) (fun c => ?_)
      · have h := ift_at h c
        obtain rfl := lp_out h hc10
        exact ret2 _ (Option.some.inj hx10) d_JA_fill_aBIIB_27 hP hD hS
      · have h := iff_at h c
        refine lv_aload_n hx hb d_JA_fill_aBIIB_16 rfl (lv_at hl 0 rfl) ?_
        refine lv_iload hx hb d_JA_fill_aBIIB_17 (lv_at hl 3 rfl) ?_
        refine lv_iload_n hx hb d_JA_fill_aBIIB_19 rfl (lv_at hl 2 rfl) ?_
        obtain ⟨g4, h⟩ := gd_at h
        refine va_bast hx hb hK hP hD hS 0 0 rfl rfl (inB_in g4) d_JA_fill_aBIIB_20 (fun H locs hP hD hS => ?_)
        have hP : va_P D CL [(a_p1, .inl (k.1, p1_n, .inl (upd p1 v4.toNatClampNeg (vp_nar .byte v3))))] H := hP
        have hD : va_D A [(a_p1, .inl (k.1, p1_n, .inl (upd p1 v4.toNatClampNeg (vp_nar .byte v3))))] := hD
        obtain ⟨x5, ex5⟩ : ∃ z : Int32, z = v4 + (1 : Int32) := ⟨_, rfl⟩
        have h := bnd_at h ex5
        refine lv_iinc (v := x5) (lv' := [(4, .int x5), (0, .ref a_p1), (2, .int v2), (3, .int v3)]) hx hb d_JA_fill_aBIIB_21 hl (k := 3) rfl (by rw [ex5]; rfl) (by decide) rfl (fun ls hl => ?_)
        refine lv_goto (tgt := 10) hx hb d_JA_fill_aBIIB_24 (by decide) ?_
        have h := lp_go h hc10
        exact ih10 (upd p1 v4.toNatClampNeg (vp_nar .byte v3)) x5 o _ _ ls hP hD hS (lv_sub hl [1, 2, 3, 0] rfl) h hx10
  unfold f_JA_fill_aBIIB at h
  refine lv_aload_n hx hb d_JA_fill_aBIIB_0 rfl (lv_at hl 0 rfl) ?_
  refine va_alen hx hb hK hP 0 0 rfl rfl (v := nI p1_n) rfl d_JA_fill_aBIIB_1 ?_
  refine lv_iload_n hx hb d_JA_fill_aBIIB_2 rfl (lv_at hl 1 rfl) ?_
  refine lv_iload_n hx hb d_JA_fill_aBIIB_3 rfl (lv_at hl 2 rfl) ?_
  obtain ⟨o11, ho11, h⟩ := obd_at h
  refine g_S (As := [.int (nI p1_n), .int v1, .int v2]) (rest := []) hx hb hml hown hts hA hK hP hD hS hE (c_JA_rangeCheck l D k (nI p1_n) v1 v2 n o11 ho11) mw_JA_rangeCheck ms_JA_rangeCheck ml_JA_13 [] rfl (by decide) rfl rfl rfl rfl rfl hl.1 rfl (Nat.le_of_ble_eq_true rfl) ⟨Nat.zero_le _, Nat.zero_le _⟩ d_JA_fill_aBIIB_4 (fun H locs hP hD hS => ?_)
  have hP : va_P D CL [(a_p1, .inl (k.1, p1_n, .inl p1))] H := hP
  have hD : va_D A [(a_p1, .inl (k.1, p1_n, .inl p1))] := hD
  refine W.eq (g2 := F0 m 7 ls []) rfl ?_
  refine lv_iload_n hx hb d_JA_fill_aBIIB_7 rfl (lv_at hl 1 rfl) ?_
  refine lv_istore (lv' := [(4, .int v1), (0, .ref a_p1), (1, .int v1), (2, .int v2), (3, .int v3)]) hx hb d_JA_fill_aBIIB_8 hl (by decide) rfl (fun ls hl => ?_)
  obtain ⟨o12, ho12, h⟩ := obd_at h
  exact L10 n p1 v1 o12 _ _ ls hP hD hS (lv_sub hl [1, 3, 4, 0] rfl) ho12 h

def rm_JA_fill_aII : Room := { frames := 0, cells := 0, slots := 0, locals := 0 }
def f_JA_fill_aII_l5 (p1_n : Nat) (v1 : Int32) (v3 : Int32) (p1 : Nat → Int32) (v2 : Int32) : Option (((Nat → Int32) × Int32) ⊕ (((Nat → Int32)))) :=
  (if v3 ≤ v2 then some (Sum.inr (p1)) else gd (inB v2 p1_n) (bnd (v2 + (1 : Int32)) (fun x4 => some (Sum.inl (upd p1 v2.toNatClampNeg v1, x4)))))
def f_JA_fill_aII (n : Nat) (p1_n : Nat) (p1 : Nat → Int32) (v1 : Int32) : Option ((Nat → Int32)) :=
  bnd (nI p1_n) (fun x10 => Option.bind (lp (fun v => f_JA_fill_aII_l5 p1_n v1 x10 v.1 v.2) n (p1, (0 : Int32))) (fun o => some o))
set_option maxHeartbeats 4000000 in
set_option maxRecDepth 100000 in
theorem c_JA_fill_aII (l : Launch) (D : va_G) (k : ClassId × ClassId × ClassId) (a_p1 : Nat) (p1_n : Nat) (p1 : Nat → Int32) (v1 : Int32) (n : Nat) (out : (Nat → Int32)) (h : f_JA_fill_aII n p1_n p1 v1 = some out) : Ct l D k y_JA_fill_aII b_JA_fill_aII 4 none rm_JA_fill_aII [.ref a_p1, .int v1] [(a_p1, .inl (k.2.1, p1_n, .inl p1))] [(a_p1, .inl (k.2.1, p1_n, .inl out))] none := by
  refine Ct.ofV (by decide) (Nat.le_of_ble_eq_true rfl) ?_
  intro p e s m args below meth c A Q ls hx hb hml hown hts hA hK hP hD hS hE hl ret
  have hown : s.vm.findClass "java/util/Arrays" = some m.cls := hown
  have hl : lv_has ls 4 [(0, .ref a_p1), (1, .int v1)] := hl
  have ret2 : ∀ (y0 : Nat → Int32) (_ : y0 = out) {pc : Nat} {ls : Array Slot} {H : Heap} {locs : List Loc}, decode b_JA_fill_aII pc = .ok (.return_, 1) → va_P D CL [(a_p1, .inl (k.2.1, p1_n, .inl y0))] H → va_D A [(a_p1, .inl (k.2.1, p1_n, .inl y0))] → va_S A s.heap H locs → W p l e rm_JA_fill_aII s m args below meth c H locs 0 0 Q (F0 m pc ls []) := by
    intro y0 e0; subst e0; exact ret
  clear ret
  have L5 : ∀ (K : Nat) (p1 : Nat → Int32) (v2 : Int32) (v3 : Int32) (o : ((Nat → Int32))) (H : Heap) (locs : List Loc) (ls : Array Slot), va_P D CL [(a_p1, .inl (k.2.1, p1_n, .inl p1))] H → va_D A [(a_p1, .inl (k.2.1, p1_n, .inl p1))] → va_S A s.heap H locs → lv_has ls 4 [(0, .ref a_p1), (1, .int v1), (2, .int v2), (3, .int v3)] → lp (fun v => f_JA_fill_aII_l5 p1_n v1 v3 v.1 v.2) K (p1, v2) = some o → (fun o => some o) o = some out → W p l e rm_JA_fill_aII s m args below meth c H locs 0 0 Q (F0 m 5 ls []) := by
    intro K
    induction K with
    | zero => intros; exact absurd (by assumption) lp_no
    | succ K ih5 =>
      intro p1 v2 v3 o H locs ls hP hD hS hl h0 hx5
      obtain ⟨b5, h, hc5⟩ := lp_at h0
      have h : f_JA_fill_aII_l5 p1_n v1 v3 p1 v2 = some b5 := h
      unfold f_JA_fill_aII_l5 at h
      refine lv_iload_n hx hb d_JA_fill_aII_5 rfl (lv_at hl 2 rfl) ?_
      refine lv_iload_n hx hb d_JA_fill_aII_6 rfl (lv_at hl 3 rfl) ?_
      refine lv_icmp_ge (tgt := 20) hx hb d_JA_fill_aII_7 (by decide) (fun c => ?_) (fun c => ?_)
      · have h := ift_at h c
        obtain rfl := lp_out h hc5
        exact ret2 _ (Option.some.inj hx5) d_JA_fill_aII_20 hP hD hS
      · have h := iff_at h c
        refine lv_aload_n hx hb d_JA_fill_aII_10 rfl (lv_at hl 0 rfl) ?_
        refine lv_iload_n hx hb d_JA_fill_aII_11 rfl (lv_at hl 2 rfl) ?_
        refine lv_iload_n hx hb d_JA_fill_aII_12 rfl (lv_at hl 1 rfl) ?_
        obtain ⟨g3, h⟩ := gd_at h
        refine va_iast hx hb hK hP hD hS 0 1 rfl rfl (inB_in g3) d_JA_fill_aII_13 (fun H locs hP hD hS => ?_)
        have hP : va_P D CL [(a_p1, .inl (k.2.1, p1_n, .inl (upd p1 v2.toNatClampNeg v1)))] H := hP
        have hD : va_D A [(a_p1, .inl (k.2.1, p1_n, .inl (upd p1 v2.toNatClampNeg v1)))] := hD
        obtain ⟨x4, ex4⟩ : ∃ z : Int32, z = v2 + (1 : Int32) := ⟨_, rfl⟩
        have h := bnd_at h ex4
        refine lv_iinc (v := x4) (lv' := [(2, .int x4), (0, .ref a_p1), (1, .int v1), (3, .int v3)]) hx hb d_JA_fill_aII_14 hl (k := 2) rfl (by rw [ex4]; rfl) (by decide) rfl (fun ls hl => ?_)
        refine lv_goto (tgt := 5) hx hb d_JA_fill_aII_17 (by decide) ?_
        have h := lp_go h hc5
        exact ih5 (upd p1 v2.toNatClampNeg v1) x4 v3 o _ _ ls hP hD hS (lv_sub hl [1, 2, 0, 3] rfl) h hx5
  unfold f_JA_fill_aII at h
  refine lv_iconst (v := 0) hx hb d_JA_fill_aII_0 (by decide) ?_
  refine lv_istore_n (lv' := [(2, .int (0 : Int32)), (0, .ref a_p1), (1, .int v1)]) hx hb d_JA_fill_aII_1 rfl hl (by decide) rfl (fun ls hl => ?_)
  refine lv_aload_n hx hb d_JA_fill_aII_2 rfl (lv_at hl 1 rfl) ?_
  refine va_alen hx hb hK hP 0 1 rfl rfl (v := nI p1_n) rfl d_JA_fill_aII_3 ?_
  refine lv_topi (fun x10 ex10 => ?_)
  have h := bnd_at h ex10
  refine lv_istore_n (lv' := [(3, .int x10), (2, .int (0 : Int32)), (0, .ref a_p1), (1, .int v1)]) hx hb d_JA_fill_aII_4 rfl hl (by decide) rfl (fun ls hl => ?_)
  obtain ⟨o11, ho11, h⟩ := obd_at h
  exact L5 n p1 (0 : Int32) x10 o11 _ _ ls hP hD hS (lv_sub hl [2, 3, 1, 0] rfl) ho11 h

def rm_JA_fill_aJIIJ : Room := { frames := 1, cells := 0, slots := 0, locals := 22 }
def f_JA_fill_aJIIJ_l10 (p1_n : Nat) (v2 : Int32) (v3 : Int64) (p1 : Nat → Int64) (v5 : Int32) : Option (((Nat → Int64) × Int32) ⊕ (((Nat → Int64)))) :=
  (if v2 ≤ v5 then some (Sum.inr (p1)) else gd (inB v5 p1_n) (bnd (v5 + (1 : Int32)) (fun x5 => some (Sum.inl (vp_updL p1 v5.toNatClampNeg v3, x5)))))
def f_JA_fill_aJIIJ (n : Nat) (p1_n : Nat) (p1 : Nat → Int64) (v1 : Int32) (v2 : Int32) (v3 : Int64) : Option ((Nat → Int64)) :=
  Option.bind (f_JA_rangeCheck (nI p1_n) v1 v2) (fun o11 => Option.bind (lp (fun v => f_JA_fill_aJIIJ_l10 p1_n v2 v3 v.1 v.2) n (p1, v1)) (fun o => some o))
set_option maxHeartbeats 4000000 in
set_option maxRecDepth 100000 in
theorem c_JA_fill_aJIIJ (l : Launch) (D : va_G) (k : ClassId × ClassId × ClassId) (a_p1 : Nat) (p1_n : Nat) (p1 : Nat → Int64) (v1 : Int32) (v2 : Int32) (v3 : Int64) (n : Nat) (out : (Nat → Int64)) (h : f_JA_fill_aJIIJ n p1_n p1 v1 v2 v3 = some out) : Ct l D k y_JA_fill_aJIIJ b_JA_fill_aJIIJ 6 none rm_JA_fill_aJIIJ [.ref a_p1, .int v1, .int v2, .long v3] [(a_p1, .inl (k.2.2, p1_n, .inr (.inl p1)))] [(a_p1, .inl (k.2.2, p1_n, .inr (.inl out)))] none := by
  refine Ct.ofV (by decide) (Nat.le_of_ble_eq_true rfl) ?_
  intro p e s m args below meth c A Q ls hx hb hml hown hts hA hK hP hD hS hE hl ret
  have hown : s.vm.findClass "java/util/Arrays" = some m.cls := hown
  have hl : lv_has ls 6 [(0, .ref a_p1), (1, .int v1), (2, .int v2), (3, .long v3)] := hl
  have ret2 : ∀ (y0 : Nat → Int64) (_ : y0 = out) {pc : Nat} {ls : Array Slot} {H : Heap} {locs : List Loc}, decode b_JA_fill_aJIIJ pc = .ok (.return_, 1) → va_P D CL [(a_p1, .inl (k.2.2, p1_n, .inr (.inl y0)))] H → va_D A [(a_p1, .inl (k.2.2, p1_n, .inr (.inl y0)))] → va_S A s.heap H locs → W p l e rm_JA_fill_aJIIJ s m args below meth c H locs 0 0 Q (F0 m pc ls []) := by
    intro y0 e0; subst e0; exact ret
  clear ret
  have L10 : ∀ (K : Nat) (p1 : Nat → Int64) (v5 : Int32) (o : ((Nat → Int64))) (H : Heap) (locs : List Loc) (ls : Array Slot), va_P D CL [(a_p1, .inl (k.2.2, p1_n, .inr (.inl p1)))] H → va_D A [(a_p1, .inl (k.2.2, p1_n, .inr (.inl p1)))] → va_S A s.heap H locs → lv_has ls 6 [(0, .ref a_p1), (2, .int v2), (3, .long v3), (5, .int v5)] → lp (fun v => f_JA_fill_aJIIJ_l10 p1_n v2 v3 v.1 v.2) K (p1, v5) = some o → (fun o => some o) o = some out → W p l e rm_JA_fill_aJIIJ s m args below meth c H locs 0 0 Q (F0 m 10 ls []) := by
    intro K
    induction K with
    | zero => intros; exact absurd (by assumption) lp_no
    | succ K ih10 =>
      intro p1 v5 o H locs ls hP hD hS hl h0 hx10
      obtain ⟨b10, h, hc10⟩ := lp_at h0
      have h : f_JA_fill_aJIIJ_l10 p1_n v2 v3 p1 v5 = some b10 := h
      unfold f_JA_fill_aJIIJ_l10 at h
      refine lv_iload hx hb d_JA_fill_aJIIJ_10 (lv_at hl 3 rfl) ?_
      refine lv_iload_n hx hb d_JA_fill_aJIIJ_12 rfl (lv_at hl 1 rfl) ?_
      refine lv_icmp_ge (tgt := 27) hx hb d_JA_fill_aJIIJ_13 (by decide) (fun c => ?_) (fun c => ?_)
      · have h := ift_at h c
        obtain rfl := lp_out h hc10
        exact ret2 _ (Option.some.inj hx10) d_JA_fill_aJIIJ_27 hP hD hS
      · have h := iff_at h c
        refine lv_aload_n hx hb d_JA_fill_aJIIJ_16 rfl (lv_at hl 0 rfl) ?_
        refine lv_iload hx hb d_JA_fill_aJIIJ_17 (lv_at hl 3 rfl) ?_
        refine lv_lload_n hx hb d_JA_fill_aJIIJ_19 rfl (lv_at hl 2 rfl) ?_
        obtain ⟨g4, h⟩ := gd_at h
        refine va_last hx hb hK hP hD hS 0 2 rfl rfl (inB_in g4) d_JA_fill_aJIIJ_20 (fun H locs hP hD hS => ?_)
        have hP : va_P D CL [(a_p1, .inl (k.2.2, p1_n, .inr (.inl (vp_updL p1 v5.toNatClampNeg v3))))] H := hP
        have hD : va_D A [(a_p1, .inl (k.2.2, p1_n, .inr (.inl (vp_updL p1 v5.toNatClampNeg v3))))] := hD
        obtain ⟨x5, ex5⟩ : ∃ z : Int32, z = v5 + (1 : Int32) := ⟨_, rfl⟩
        have h := bnd_at h ex5
        refine lv_iinc (v := x5) (lv' := [(5, .int x5), (0, .ref a_p1), (2, .int v2), (3, .long v3)]) hx hb d_JA_fill_aJIIJ_21 hl (k := 3) rfl (by rw [ex5]; rfl) (by decide) rfl (fun ls hl => ?_)
        refine lv_goto (tgt := 10) hx hb d_JA_fill_aJIIJ_24 (by decide) ?_
        have h := lp_go h hc10
        exact ih10 (vp_updL p1 v5.toNatClampNeg v3) x5 o _ _ ls hP hD hS (lv_sub hl [1, 2, 3, 0] rfl) h hx10
  unfold f_JA_fill_aJIIJ at h
  refine lv_aload_n hx hb d_JA_fill_aJIIJ_0 rfl (lv_at hl 0 rfl) ?_
  refine va_alen hx hb hK hP 0 2 rfl rfl (v := nI p1_n) rfl d_JA_fill_aJIIJ_1 ?_
  refine lv_iload_n hx hb d_JA_fill_aJIIJ_2 rfl (lv_at hl 1 rfl) ?_
  refine lv_iload_n hx hb d_JA_fill_aJIIJ_3 rfl (lv_at hl 2 rfl) ?_
  obtain ⟨o11, ho11, h⟩ := obd_at h
  refine g_S (As := [.int (nI p1_n), .int v1, .int v2]) (rest := []) hx hb hml hown hts hA hK hP hD hS hE (c_JA_rangeCheck l D k (nI p1_n) v1 v2 n o11 ho11) mw_JA_rangeCheck ms_JA_rangeCheck ml_JA_13 [] rfl (by decide) rfl rfl rfl rfl rfl hl.1 rfl (Nat.le_of_ble_eq_true rfl) ⟨Nat.zero_le _, Nat.zero_le _⟩ d_JA_fill_aJIIJ_4 (fun H locs hP hD hS => ?_)
  have hP : va_P D CL [(a_p1, .inl (k.2.2, p1_n, .inr (.inl p1)))] H := hP
  have hD : va_D A [(a_p1, .inl (k.2.2, p1_n, .inr (.inl p1)))] := hD
  refine W.eq (g2 := F0 m 7 ls []) rfl ?_
  refine lv_iload_n hx hb d_JA_fill_aJIIJ_7 rfl (lv_at hl 1 rfl) ?_
  refine lv_istore (lv' := [(5, .int v1), (0, .ref a_p1), (1, .int v1), (2, .int v2), (3, .long v3)]) hx hb d_JA_fill_aJIIJ_8 hl (by decide) rfl (fun ls hl => ?_)
  obtain ⟨o12, ho12, h⟩ := obd_at h
  exact L10 n p1 v1 o12 _ _ ls hP hD hS (lv_sub hl [1, 3, 4, 0] rfl) ho12 h

