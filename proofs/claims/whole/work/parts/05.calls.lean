/-! Contracts that make nothing: the cells ws before, ws' behind (the same addresses), the answer rv. -/
abbrev TYk (k : ClassId × ClassId × ClassId) : List (ClassId × FieldType) := [(k.1, .byte), (k.2.1, .int), (k.2.2, .long)]
def ct_Q (D : va_G) (k : ClassId × ClassId × ClassId) (ws ws' : va_W) (sz : Nat) (rv : Option Value) : Array Value → State → Outcome → State → Prop :=
  fun _ st oc t => (oc = .returned rv ∧ va_P D CL ws' t.heap ∧ va_K D CL (TYk k) t ∧ va_D (va_A ws sz) ws') ∧ va_F (va_A ws sz) st t
/-- what stays through every call: the nest mates' links, the static row of the check's steps -/
def stepV : List Int32 := [0, 498536548, 997073096, 651767980, 1994146192, 1802195444, 1303535960, 1342533948, -306674912, -267414716, -690576408, -882789492, -1687895376, -2032938284, -1609899400, -1111625188]
def EE (A : Nat → Prop) (U : State) : Prop := (∀ w ∈ nestW, va_Nw w U) ∧ ∃ t : Nat, va_Z "PageForm" "CHECK_STEPS" "[I" (.ref t) A U U.heap ∧ va_T .int t 16 (fun j => .int (stepV.getD j 0)) A U U.heap
theorem EE.call {A B : Nat → Prop} {s U : State} {H : Heap} {locs : List Loc} (h : EE A s) (hS : va_S A s.heap H locs) (hU : U.heap = H) (hW : s.WarmedH U.vm) (hB : ∀ q, B q → A q) : EE B U := by
  obtain ⟨h1, t, h2, h3⟩ := h
  refine ⟨nestW_warm hW h1, t, ?_, ?_⟩
  · rw [hU]; exact ((h2.moved hW.alike).kept hS.2.1).narrow hB
  · rw [hU]; exact ((h3.moved hW.alike).kept hS.2.1).narrow hB
theorem EE.blind {A : Nat → Prop} {U : State} (g : JFrame) (mk : MethodId) (a : Array Value) (h : EE A U) : EE A (U.calling g mk a) := by
  obtain ⟨h1, t, h2, h3⟩ := h
  exact ⟨nestW_same (U := U) rfl h1, t, va_Z.moved (u := U) (Vm.Alike.refl U.vm) h2, va_T.moved (u := U) (Vm.Alike.refl U.vm) h3⟩
def Ct (l : Launch) (D : va_G) (k : ClassId × ClassId × ClassId) (y : MethodName) (b : ByteArray) (maxL : Nat) (ret : Option FieldType) (rm : Room) (avs : List Value) (ws ws' : va_W) (rv : Option Value) : Prop :=
  ∀ sz : Nat, Met l y (Cond.code y b maxL ret :: gT) rm (va_Pc avs (fun U => U.heap.size = sz ∧ va_P D CL ws U.heap ∧ va_K D CL (TYk k) U ∧ va_D (fun _ => True) ws ∧ EE (va_A ws sz) U)) (ct_Q D k ws ws' sz rv) 0 0 (va_A ws sz)
section CTOF
variable {l : Launch} {D : va_G} {k : ClassId × ClassId × ClassId} {y : MethodName} {b : ByteArray} {maxL : Nat} {rm : Room} {avs : List Value} {ws ws' : va_W}
theorem Ct.ofI {r : Int32} (hy : plainName y.cls = true) (hl : (lg_sl avs).length ≤ maxL)
    (body : ∀ (p : Program) (e : Env) (s : State) (m : MethodId) (args : Array Value) (below : List Frame) (meth : Method) (c : Code) (A : Nat → Prop) (Q : State → Prop) (ls : Array Slot), p.tables.exec = Jvm.exec → c.code = b → c.maxLocals = maxL → s.vm.findClass y.cls = some m.cls → (∀ w ∈ gT, w.before args s = true) → (∀ q, s.heap.size ≤ q → A q) → va_K D CL (TYk k) s → va_P D CL ws s.heap → va_D A ws → va_S A s.heap s.heap [] → EE A s → lv_has ls maxL (lv_args 0 avs) →
      (∀ {pc : Nat} {ls : Array Slot} {H : Heap} {locs : List Loc}, decode b pc = .ok (.ireturn, 1) → va_P D CL ws' H → va_D A ws' → va_S A s.heap H locs → W p l e rm s m args below meth c H locs 0 0 Q (F0 m pc ls [.int r])) →
      W p l e rm s m args below meth c s.heap [] 0 0 Q (F0 m 0 ls [])) : Ct l D k y b maxL (some .int) rm avs ws ws' (some (.int r)) := by
  intro sz
  refine Met.ofW (cc := b) (maxL := maxL) (ret := some .int) hy rfl ?_
  intro p e s m args below meth c s₁ B hml hv
  obtain ⟨rfl, hsz, hP, hK, hD0, hE⟩ := hv
  subst hsz
  rw [lg_entry_eq]
  refine body p e s m _ below meth c (va_A ws s.heap.size) _ _ B.exec B.bytes hml (findClass_of_methodNamed B.named) (fun w h => atoms_spec B.pre w (List.mem_cons_of_mem _ h)) (fun q h => Or.inr h) hK hP hD0.self va_S.rf hE (lv_entry avs hl) ?_
  intro pc ls H locs hd hP1 hD1 hS1
  exact W.iret B.exec B.bytes B.returns (fun t ht hW => ⟨⟨rfl, by rw [ht]; exact hP1, va_K.moved hW.alike hK, hD1⟩, hS1.F ht⟩) hS1.2.2 hd B.notSynchronized
theorem Ct.ofZ {r : Int32} (hy : plainName y.cls = true) (hl : (lg_sl avs).length ≤ maxL)
    (body : ∀ (p : Program) (e : Env) (s : State) (m : MethodId) (args : Array Value) (below : List Frame) (meth : Method) (c : Code) (A : Nat → Prop) (Q : State → Prop) (ls : Array Slot), p.tables.exec = Jvm.exec → c.code = b → c.maxLocals = maxL → s.vm.findClass y.cls = some m.cls → (∀ w ∈ gT, w.before args s = true) → (∀ q, s.heap.size ≤ q → A q) → va_K D CL (TYk k) s → va_P D CL ws s.heap → va_D A ws → va_S A s.heap s.heap [] → EE A s → lv_has ls maxL (lv_args 0 avs) →
      (∀ {pc : Nat} {ls : Array Slot} {H : Heap} {locs : List Loc}, decode b pc = .ok (.ireturn, 1) → narrow .boolean (.int r) = .int r → va_P D CL ws' H → va_D A ws' → va_S A s.heap H locs → W p l e rm s m args below meth c H locs 0 0 Q (F0 m pc ls [.int r])) →
      W p l e rm s m args below meth c s.heap [] 0 0 Q (F0 m 0 ls [])) : Ct l D k y b maxL (some .boolean) rm avs ws ws' (some (.int r)) := by
  intro sz
  refine Met.ofW (cc := b) (maxL := maxL) (ret := some .boolean) hy rfl ?_
  intro p e s m args below meth c s₁ B hml hv
  obtain ⟨rfl, hsz, hP, hK, hD0, hE⟩ := hv
  subst hsz
  rw [lg_entry_eq]
  refine body p e s m _ below meth c (va_A ws s.heap.size) _ _ B.exec B.bytes hml (findClass_of_methodNamed B.named) (fun w h => atoms_spec B.pre w (List.mem_cons_of_mem _ h)) (fun q h => Or.inr h) hK hP hD0.self va_S.rf hE (lv_entry avs hl) ?_
  intro pc ls H locs hd hn hP1 hD1 hS1
  exact W.zret B.exec B.bytes B.returns hn (fun t ht hW => ⟨⟨rfl, by rw [ht]; exact hP1, va_K.moved hW.alike hK, hD1⟩, hS1.F ht⟩) hS1.2.2 hd B.notSynchronized
theorem Ct.ofL {r : Int64} (hy : plainName y.cls = true) (hl : (lg_sl avs).length ≤ maxL)
    (body : ∀ (p : Program) (e : Env) (s : State) (m : MethodId) (args : Array Value) (below : List Frame) (meth : Method) (c : Code) (A : Nat → Prop) (Q : State → Prop) (ls : Array Slot), p.tables.exec = Jvm.exec → c.code = b → c.maxLocals = maxL → s.vm.findClass y.cls = some m.cls → (∀ w ∈ gT, w.before args s = true) → (∀ q, s.heap.size ≤ q → A q) → va_K D CL (TYk k) s → va_P D CL ws s.heap → va_D A ws → va_S A s.heap s.heap [] → EE A s → lv_has ls maxL (lv_args 0 avs) →
      (∀ {pc : Nat} {ls : Array Slot} {H : Heap} {locs : List Loc}, decode b pc = .ok (.lreturn, 1) → va_P D CL ws' H → va_D A ws' → va_S A s.heap H locs → W p l e rm s m args below meth c H locs 0 0 Q (F0 m pc ls [.long r])) →
      W p l e rm s m args below meth c s.heap [] 0 0 Q (F0 m 0 ls [])) : Ct l D k y b maxL (some .long) rm avs ws ws' (some (.long r)) := by
  intro sz
  refine Met.ofW (cc := b) (maxL := maxL) (ret := some .long) hy rfl ?_
  intro p e s m args below meth c s₁ B hml hv
  obtain ⟨rfl, hsz, hP, hK, hD0, hE⟩ := hv
  subst hsz
  rw [lg_entry_eq]
  refine body p e s m _ below meth c (va_A ws s.heap.size) _ _ B.exec B.bytes hml (findClass_of_methodNamed B.named) (fun w h => atoms_spec B.pre w (List.mem_cons_of_mem _ h)) (fun q h => Or.inr h) hK hP hD0.self va_S.rf hE (lv_entry avs hl) ?_
  intro pc ls H locs hd hP1 hD1 hS1
  exact W.lret B.exec B.bytes B.returns (fun t ht hW => ⟨⟨rfl, by rw [ht]; exact hP1, va_K.moved hW.alike hK, hD1⟩, hS1.F ht⟩) hS1.2.2 hd B.notSynchronized
theorem Ct.ofV (hy : plainName y.cls = true) (hl : (lg_sl avs).length ≤ maxL)
    (body : ∀ (p : Program) (e : Env) (s : State) (m : MethodId) (args : Array Value) (below : List Frame) (meth : Method) (c : Code) (A : Nat → Prop) (Q : State → Prop) (ls : Array Slot), p.tables.exec = Jvm.exec → c.code = b → c.maxLocals = maxL → s.vm.findClass y.cls = some m.cls → (∀ w ∈ gT, w.before args s = true) → (∀ q, s.heap.size ≤ q → A q) → va_K D CL (TYk k) s → va_P D CL ws s.heap → va_D A ws → va_S A s.heap s.heap [] → EE A s → lv_has ls maxL (lv_args 0 avs) →
      (∀ {pc : Nat} {ls : Array Slot} {H : Heap} {locs : List Loc}, decode b pc = .ok (.return_, 1) → va_P D CL ws' H → va_D A ws' → va_S A s.heap H locs → W p l e rm s m args below meth c H locs 0 0 Q (F0 m pc ls [])) →
      W p l e rm s m args below meth c s.heap [] 0 0 Q (F0 m 0 ls [])) : Ct l D k y b maxL none rm avs ws ws' none := by
  intro sz
  refine Met.ofW (cc := b) (maxL := maxL) (ret := none) hy rfl ?_
  intro p e s m args below meth c s₁ B hml hv
  obtain ⟨rfl, hsz, hP, hK, hD0, hE⟩ := hv
  subst hsz
  rw [lg_entry_eq]
  refine body p e s m _ below meth c (va_A ws s.heap.size) _ _ B.exec B.bytes hml (findClass_of_methodNamed B.named) (fun w h => atoms_spec B.pre w (List.mem_cons_of_mem _ h)) (fun q h => Or.inr h) hK hP hD0.self va_S.rf hE (lv_entry avs hl) ?_
  intro pc ls H locs hd hP1 hD1 hS1
  exact W.vret B.exec B.bytes B.returns (fun t ht hW => ⟨⟨rfl, by rw [ht]; exact hP1, va_K.moved hW.alike hK, hD1⟩, hS1.F ht⟩) hS1.2.2 hd B.notSynchronized
end CTOF
/-- cells put back at their places -/
def setAll : va_W → List Nat → va_W → va_W
  | ws, i :: is, x :: xs => setAll (ws.set i x) is xs
  | ws, _, _ => ws
theorem setAll_get : ∀ (is : List Nat) (ws xs : va_W), is.length = xs.length → ∀ (j : Nat) (q : Nat × va_E), (setAll ws is xs)[j]? = some q → (∃ i : Nat, is[i]? = some j ∧ xs[i]? = some q) ∨ (j ∉ is ∧ ws[j]? = some q)
  | [], ws, xs, _, j, q, h => by
    unfold setAll at h
    exact Or.inr ⟨List.not_mem_nil, h⟩
  | a :: is, ws, [], hl, j, q, h => by simp at hl
  | a :: is, ws, x :: xs, hl, j, q, h => by
    unfold setAll at h
    rcases setAll_get is (ws.set a x) xs (by simpa using hl) j q h with ⟨i, h1, h2⟩ | ⟨h1, h2⟩
    · exact Or.inl ⟨i + 1, by simpa using h1, by simpa using h2⟩
    · by_cases hj : j = a
      · subst hj
        have hlt : j < ws.length := by
          have := (List.getElem?_eq_some_iff.mp h2).1
          simpa using this
        rw [List.getElem?_set_self hlt] at h2
        exact Or.inl ⟨0, by simp, by simpa using h2⟩
      · rw [List.getElem?_set_ne (fun z => hj z.symm)] at h2
        exact Or.inr ⟨fun hm => (List.mem_cons.mp hm).elim hj h1, h2⟩
theorem va_D.addr {A : Nat → Prop} {ws wn : va_W} (h : va_D A ws) (e : wn.map Prod.fst = ws.map Prod.fst) : va_D A wn := by
  have key : ∀ (j : Nat) (q : Nat × va_E), wn[j]? = some q → ∃ q0, ws[j]? = some q0 ∧ q0.1 = q.1 := by
    intro j q hq
    have h1 : (wn.map Prod.fst)[j]? = some q.1 := by rw [List.getElem?_map, hq]; rfl
    rw [e, List.getElem?_map] at h1
    cases hw : ws[j]? with
    | none => rw [hw] at h1; cases h1
    | some q0 => rw [hw] at h1; exact ⟨q0, rfl, Option.some.inj h1⟩
  refine ⟨fun i j x y hi hj hxy => ?_, fun j q hq => ?_⟩
  · obtain ⟨x0, h1, h2⟩ := key i x hi
    obtain ⟨y0, h3, h4⟩ := key j y hj
    exact h.1 i j x0 y0 h1 h3 (h2.trans (hxy.trans h4.symm))
  · obtain ⟨q0, h1, h2⟩ := key j q hq
    rw [← h2]; exact h.2 j q0 h1
/-- behind a call: the callee's cells are back at their places, the others are as they were -/
theorem va_back {A : Nat → Prop} {D : va_G} {cl : List vw_C} {ws wc w1 wN : va_W} {H H1 : Heap} (hP : va_P D cl ws H) (hD : va_D A ws) (isC : List Nat) (hC : isC.map (fun i => ws[i]?) = wc.map some) (hsm : w1.map Prod.fst = wc.map Prod.fst) (hN : setAll ws isC w1 = wN) (hNa : wN.map Prod.fst = ws.map Prod.fst)
    (hk : ∀ q : Nat, q < H.size → ¬ va_A wc H.size q → H1[q]? = H[q]?) (hP1 : va_P D cl w1 H1) : va_P D cl wN H1 ∧ va_D A wN := by
  refine ⟨fun j q hq => ?_, hD.addr hNa⟩
  subst hN
  have hl1 : isC.length = wc.length := by have := congrArg List.length hC; simpa using this
  have hl2 : w1.length = wc.length := by have := congrArg List.length hsm; simpa using this
  rcases setAll_get isC ws w1 (by omega) j q hq with ⟨i, h1, h2⟩ | ⟨h1, h2⟩
  · exact hP1 i q h2
  · refine (hP j q h2).kept (hk q.1 (hP j q h2).lt ?_)
    rintro (⟨i, ex, hi⟩ | hi)
    · have h3 : (isC.map (fun i => ws[i]?))[i]? = some (some (q.1, ex)) := by rw [hC, List.getElem?_map, hi]; rfl
      rw [List.getElem?_map] at h3
      cases hii : isC[i]? with
      | none => rw [hii] at h3; cases h3
      | some i0 =>
        rw [hii] at h3
        have h4 : ws[i0]? = some (q.1, ex) := Option.some.inj h3
        have := hD.1 j i0 q (q.1, ex) h2 h4 rfl
        subst this
        exact h1 (List.mem_of_getElem? hii)
    · exact absurd (hP j q h2).lt (Nat.not_lt.mpr hi)
def rmOK (rm R : Room) (maxL : Nat) : Bool := decide (rm.cells = 0) && decide (rm.slots = 0) && decide (rm.frames + 1 ≤ R.frames) && decide (8 + (maxL + 11) + rm.locals ≤ R.locals)
theorem good_ct {y : MethodName} {b : ByteArray} {maxL n : Nat} {ret : Option FieldType} (mw : MW y b maxL ret n) : GoodIn gT (Cond.code y b maxL ret :: gT) := by
  intro w hw
  have hm : w ∈ gT := (List.mem_cons.mp hw).elim (fun e => e ▸ mw.1) id
  exact ⟨hm, good_of_word (gT_good w hm)⟩
section GC
variable {p : Program} {l : Launch} {e : Env} {R : Room} {s : State} {m : MethodId} {args : Array Value} {below : List Frame} {meth : Method} {c : Code} {H : Heap} {locs : List Loc} {cells slots : Nat} {Q : State → Prop}
variable {cc : ByteArray} {nL pc idx n maxL : Nat} {own : String} {D : va_G} {k : ClassId × ClassId × ClassId} {A : Nat → Prop} {H0 : Heap} {ws wc w1 wN : va_W} {y : MethodName} {b : ByteArray} {ret : Option FieldType} {rm : Room} {As rest st : List Value} {rv : Option Value} {ls : Array Slot} {a0 : Nat}
theorem g_end {g : JFrame} (hP : va_P D CL ws H) (hD : va_D A ws) (hS : va_S A H0 H locs) (hA : ∀ q, H0.size ≤ q → A q) (isC : List Nat) (hC : isC.map (fun i => ws[i]?) = wc.map some) (hsm : w1.map Prod.fst = wc.map Prod.fst) (hN : setAll ws isC w1 = wN) (hNa : wN.map Prod.fst = ws.map Prod.fst) {Qa : State → Outcome → State → Prop}
    (hQa : ∀ (st : State) (o : Outcome) (t : State), Qa st o t → ct_Q D k wc w1 H.size rv #[] st o t)
    (hr : va_Run p l e R s m args below meth c H locs cells slots 0 0 g rest Qa (va_A wc H.size))
    (kk : ∀ (H1 : Heap) (locs1 : List Loc), va_P D CL wN H1 → va_D A wN → va_S A H0 H1 locs1 → W p l e R s m args below meth c H1 locs1 cells slots Q { g with pc := g.pc + 3, stack := rv.toList ++ rest }) : W p l e R s m args below meth c H locs cells slots Q g := by
  intro T hT X
  obtain ⟨v, st₀, t, T', L, h0, X', hL, e1, e2, hq, st⟩ := hr T hT X
  obtain ⟨⟨hv, hP1, -, -⟩, hz, hk⟩ := hQa _ _ _ hq
  cases hv
  rw [h0] at hz hk
  have hF : ∀ q, va_A wc H.size q → A q := va_free hD hS hA isC hC
  obtain ⟨hPN, hDN⟩ := va_back hP hD isC hC hsm hN hNa hk hP1
  obtain ⟨t2, a1, b1⟩ := kk T'.heap (locs ++ L) (by rw [e1]; exact hPN) hDN
    ⟨Nat.le_trans hS.1 (by rw [e1]; exact hz), fun q h1 h2 => by rw [e1, hk q (Nat.lt_of_lt_of_le h1 hS.1) (fun z => h2 (hF q z))]; exact hS.2.1 q h1 h2, fun q hq => by
      rcases List.mem_append.mp hq with h | h
      · exact hS.2.2 q h
      · exact hF _ (hL q h)⟩ T' rfl X'
  exact ⟨t2, st t2 a1, b1⟩
theorem g_blind {avs : List Value} {wc : va_W} {sz : Nat} : FrameBlind (va_Pc avs (fun U => U.heap.size = sz ∧ va_P D CL wc U.heap ∧ va_K D CL (TYk k) U ∧ va_D (fun _ => True) wc ∧ EE (va_A wc sz) U)) := by
  intro a U g mk h
  obtain ⟨h1, h2, h3, h4, h5, h6⟩ := h
  exact ⟨h1, h2, h3, va_K.moved (u := U) (U := U.calling g mk a) (Vm.Alike.refl U.vm) h4, h5, h6.blind g mk a⟩
theorem g_cb (hts : ∀ w ∈ gT, w.before args s = true) (mw : MW y b maxL ret n) (hlk : Cond.methodLink own idx y ∈ gT) (hrm : rmOK rm R maxL = true) : CallB R s args own idx y b maxL ret (Cond.code y b maxL ret :: gT) rm 0 0 n := by
  simp only [rmOK, Bool.and_eq_true, decide_eq_true_eq] at hrm
  obtain ⟨⟨⟨h1, h2⟩, h3⟩, h4⟩ := hrm
  exact callB_of n hts (good_ct mw) rfl h1 h2 (hts _ mw.2.1) (hts _ hlk) ⟨mw.2.2.1.1, mw.2.2.1.2, mw.2.2.2⟩ ⟨h3, h4⟩
/-- a call of a method of an object -/
theorem g_V (hx : p.tables.exec = Jvm.exec) (hb : c.code = cc) (hml : c.maxLocals = nL) (hown : s.vm.findClass own = some m.cls) (hts : ∀ w ∈ gT, w.before args s = true) (hA : ∀ q, s.heap.size ≤ q → A q) (hK : va_K D CL (TYk k) s) (hP : va_P D CL ws H) (hD : va_D A ws) (hS : va_S A s.heap H locs) (hE : EE A s)
    (M : Ct l D k y b maxL ret rm (.ref a0 :: As) wc w1 rv) (mw : MW y b maxL ret n) (mi : MI y) (hlk : Cond.methodLink own idx y ∈ gT)
    (isC : List Nat) (hC : isC.map (fun i => ws[i]?) = wc.map some) (hnd : va_nd isC = true) (hsm : w1.map Prod.fst = wc.map Prod.fst) (hN : setAll ws isC w1 = wN) (hNa : wN.map Prod.fst = ws.map Prod.fst)
    (q0 : Nat) {ci : Nat} {fs : List Value} {q : vw_C} (he : wc[q0]? = some (a0, .inr (ci, fs))) (hc : CL[ci]? = some q) (hyc : y.cls = q.1)
    (hrm : rmOK rm R maxL = true) (hn : As.length = n) (hsz : ls.size = nL) (hst : st = As.reverse ++ .ref a0 :: rest) (hW : (rest.map fun v => v.category).sum ≤ 8)
    (hcs : cells ≤ R.cells ∧ slots ≤ R.slots)
    (hdg : decode cc pc = .ok (.invokevirtual idx, 3))
    (kk : ∀ (H1 : Heap) (locs1 : List Loc), va_P D CL wN H1 → va_D A wN → va_S A s.heap H1 locs1 → W p l e R s m args below meth c H1 locs1 cells slots Q (F0 m (pc + 3) ls (rv.toList ++ rest))) : W p l e R s m args below meth c H locs cells slots Q (F0 m pc ls st) := by
  subst hst
  have hPc : va_P D CL wc H := fun j x hj => by
    have h3 : (isC.map (fun i => ws[i]?))[j]? = some (some x) := by rw [hC, List.getElem?_map, hj]; rfl
    rw [List.getElem?_map] at h3
    cases hii : isC[j]? with
    | none => rw [hii] at h3; cases h3
    | some i0 => rw [hii] at h3; exact hP i0 x (Option.some.inj h3)
  have hDc : va_D (fun _ => True) wc := (hD.sub isC hnd hC).weaken (fun _ _ _ _ => trivial)
  refine g_end (k := k) (Qa := ct_Q D k wc w1 H.size rv (Value.ref a0 :: As).toArray) hP hD hS hA isC hC hsm hN hNa (fun st o t h => h) (va_runV (C := y.cls) (As := As) (rest := rest) ⟨hx, hb, hml, hown, hts⟩ (M H.size) ⟨g_cb hts mw hlk hrm, hts _ mi.1, hts _ mi.2⟩ ⟨g_blind, ?_, fun U hU hWU => ⟨rfl, by rw [hU], by rw [hU]; exact hPc, va_K.moved hWU.alike hK, hDc, hE.call hS hU hWU (va_free hD hS hA isC hC)⟩⟩ rfl hn hsz rfl (lv_room hW) hdg ⟨hcs.1, hcs.2⟩) kk
  rw [hyc]
  exact va_recv hK hPc hc he
/-- a call of a static method -/
theorem g_S (hx : p.tables.exec = Jvm.exec) (hb : c.code = cc) (hml : c.maxLocals = nL) (hown : s.vm.findClass own = some m.cls) (hts : ∀ w ∈ gT, w.before args s = true) (hA : ∀ q, s.heap.size ≤ q → A q) (hK : va_K D CL (TYk k) s) (hP : va_P D CL ws H) (hD : va_D A ws) (hS : va_S A s.heap H locs) (hE : EE A s)
    (M : Ct l D k y b maxL ret rm As wc w1 rv) (mw : MW y b maxL ret n) (mi : Cond.static y ∈ gT) (hlk : Cond.methodLink own idx y ∈ gT)
    (isC : List Nat) (hC : isC.map (fun i => ws[i]?) = wc.map some) (hnd : va_nd isC = true) (hsm : w1.map Prod.fst = wc.map Prod.fst) (hN : setAll ws isC w1 = wN) (hNa : wN.map Prod.fst = ws.map Prod.fst)
    (hrm : rmOK rm R maxL = true) (hn : As.length = n) (hsz : ls.size = nL) (hst : st = As.reverse ++ rest) (hW : (rest.map fun v => v.category).sum ≤ 8)
    (hcs : cells ≤ R.cells ∧ slots ≤ R.slots)
    (hdg : decode cc pc = .ok (.invokestatic idx, 3))
    (kk : ∀ (H1 : Heap) (locs1 : List Loc), va_P D CL wN H1 → va_D A wN → va_S A s.heap H1 locs1 → W p l e R s m args below meth c H1 locs1 cells slots Q (F0 m (pc + 3) ls (rv.toList ++ rest))) : W p l e R s m args below meth c H locs cells slots Q (F0 m pc ls st) := by
  subst hst
  have hPc : va_P D CL wc H := fun j x hj => by
    have h3 : (isC.map (fun i => ws[i]?))[j]? = some (some x) := by rw [hC, List.getElem?_map, hj]; rfl
    rw [List.getElem?_map] at h3
    cases hii : isC[j]? with
    | none => rw [hii] at h3; cases h3
    | some i0 => rw [hii] at h3; exact hP i0 x (Option.some.inj h3)
  have hDc : va_D (fun _ => True) wc := (hD.sub isC hnd hC).weaken (fun _ _ _ _ => trivial)
  exact g_end (k := k) (Qa := ct_Q D k wc w1 H.size rv As.toArray) hP hD hS hA isC hC hsm hN hNa (fun st o t h => h) (va_runS (As := As) (rest := rest) ⟨hx, hb, hml, hown, hts⟩ (M H.size) ⟨g_cb hts mw hlk hrm, hts _ mi⟩ ⟨g_blind, fun U hU hWU => ⟨rfl, by rw [hU], by rw [hU]; exact hPc, va_K.moved hWU.alike hK, hDc, hE.call hS hU hWU (va_free hD hS hA isC hC)⟩⟩ rfl hn hsz rfl (lv_room hW) hdg ⟨hcs.1, hcs.2⟩) kk
/-- a call of a nest mate's private static method -/
theorem g_SN {host : String} (hx : p.tables.exec = Jvm.exec) (hb : c.code = cc) (hml : c.maxLocals = nL) (hown : s.vm.findClass own = some m.cls) (hts : ∀ w ∈ gT, w.before args s = true) (hA : ∀ q, s.heap.size ≤ q → A q) (hK : va_K D CL (TYk k) s) (hP : va_P D CL ws H) (hD : va_D A ws) (hS : va_S A s.heap H locs) (hE : EE A s)
    (M : Ct l D k y b maxL ret rm As wc w1 rv) (mw : MW y b maxL ret n) (mi : Cond.static y ∈ gT) (hlk : Cond.methodLinkNest own idx y host ∈ nestW)
    (isC : List Nat) (hC : isC.map (fun i => ws[i]?) = wc.map some) (hnd : va_nd isC = true) (hsm : w1.map Prod.fst = wc.map Prod.fst) (hN : setAll ws isC w1 = wN) (hNa : wN.map Prod.fst = ws.map Prod.fst)
    (hrm : rmOK rm R maxL = true) (hn : As.length = n) (hsz : ls.size = nL) (hst : st = As.reverse ++ rest) (hW : (rest.map fun v => v.category).sum ≤ 8)
    (hcs : cells ≤ R.cells ∧ slots ≤ R.slots)
    (hdg : decode cc pc = .ok (.invokestatic idx, 3))
    (kk : ∀ (H1 : Heap) (locs1 : List Loc), va_P D CL wN H1 → va_D A wN → va_S A s.heap H1 locs1 → W p l e R s m args below meth c H1 locs1 cells slots Q (F0 m (pc + 3) ls (rv.toList ++ rest))) : W p l e R s m args below meth c H locs cells slots Q (F0 m pc ls st) := by
  subst hst
  have hPc : va_P D CL wc H := fun j x hj => by
    have h3 : (isC.map (fun i => ws[i]?))[j]? = some (some x) := by rw [hC, List.getElem?_map, hj]; rfl
    rw [List.getElem?_map] at h3
    cases hii : isC[j]? with
    | none => rw [hii] at h3; cases h3
    | some i0 => rw [hii] at h3; exact hP i0 x (Option.some.inj h3)
  have hDc : va_D (fun _ => True) wc := (hD.sub isC hnd hC).weaken (fun _ _ _ _ => trivial)
  simp only [rmOK, Bool.and_eq_true, decide_eq_true_eq] at hrm
  obtain ⟨⟨⟨h1, h2⟩, h3⟩, h4⟩ := hrm
  exact g_end (k := k) (Qa := ct_Q D k wc w1 H.size rv As.toArray) hP hD hS hA isC hC hsm hN hNa (fun st o t h => h) (va_runSN (host := host) (As := As) (rest := rest) ⟨hx, hb, hml, hown, hts⟩ (M H.size) ⟨va_cnB n hts (good_ct mw) rfl h1 h2 (hE.1 _ hlk) (hts _ mw.2.1) ⟨mw.2.2.1.1, mw.2.2.1.2, mw.2.2.2⟩ ⟨h3, h4⟩, hts _ mi, trivial⟩ ⟨g_blind, fun U hU hWU => ⟨rfl, by rw [hU], by rw [hU]; exact hPc, va_K.moved hWU.alike hK, hDc, hE.call hS hU hWU (va_free hD hS hA isC hC)⟩⟩ rfl hn hsz rfl (lv_room hW) hdg ⟨hcs.1, hcs.2⟩) kk
end GC
theorem zc_a (x y : Int64) : lg_cmp x y = if y < x then 1 else if x = y then 0 else -1 := rfl
theorem zl_tri (x y : Int64) : y < x ∨ x = y ∨ x < y := by
  rw [Int64.lt_iff_toInt_lt, Int64.lt_iff_toInt_lt, ← Int64.toInt_inj]; omega
theorem zl_nlt {x y : Int64} (h : y < x) : ¬ x < y := by rw [Int64.lt_iff_toInt_lt] at *; omega
theorem zl_ne {x y : Int64} (h : y < x) : ¬ x = y := by rw [Int64.lt_iff_toInt_lt] at h; rw [← Int64.toInt_inj]; omega
theorem zl_nlt' {x y : Int64} : ¬ x < y ↔ y ≤ x := by rw [Int64.lt_iff_toInt_lt, Int64.le_iff_toInt_le]; omega
theorem zl_1 {x y : Int64} (h : y < x) : lg_cmp x y = 1 := by rw [zc_a, if_pos h]
theorem zl_2 {x y : Int64} (h : x < y) : lg_cmp x y = -1 := by rw [zc_a, if_neg (zl_nlt h), if_neg (fun e => zl_ne h e.symm)]
theorem zl_0 {x y : Int64} (h : x = y) : lg_cmp x y = 0 := by
  subst h
  rw [zc_a, if_neg (fun h => zl_ne h rfl), if_pos rfl]
theorem zc_lt {x y : Int64} : lg_cmp x y < 0 ↔ x < y := by
  rcases zl_tri x y with h | h | h
  · rw [zl_1 h]; exact ⟨fun q => absurd q (by decide), fun q => absurd q (zl_nlt h)⟩
  · rw [zl_0 h]; subst h; exact ⟨fun q => absurd q (by decide), fun q => absurd rfl (zl_ne q)⟩
  · rw [zl_2 h]; exact ⟨fun _ => h, fun _ => by decide⟩
theorem zc_gt {x y : Int64} : 0 < lg_cmp x y ↔ y < x := by
  rcases zl_tri x y with h | h | h
  · rw [zl_1 h]; exact ⟨fun _ => h, fun _ => by decide⟩
  · rw [zl_0 h]; subst h; exact ⟨fun q => absurd q (by decide), fun q => absurd rfl (zl_ne q)⟩
  · rw [zl_2 h]; exact ⟨fun q => absurd q (by decide), fun q => absurd q (zl_nlt h)⟩
theorem zc_eq {x y : Int64} : lg_cmp x y = 0 ↔ x = y := by
  rcases zl_tri x y with h | h | h
  · rw [zl_1 h]; exact ⟨fun q => absurd q (by decide), fun q => absurd q (zl_ne h)⟩
  · rw [zl_0 h]; exact ⟨fun _ => h, fun _ => rfl⟩
  · rw [zl_2 h]; exact ⟨fun q => absurd q (by decide), fun q => absurd q.symm (zl_ne h)⟩
theorem zc_ge {x y : Int64} : 0 ≤ lg_cmp x y ↔ y ≤ x := by
  rw [← zl_nlt', ← zc_lt]
  rw [Int32.lt_iff_toInt_lt, Int32.le_iff_toInt_le]; omega
theorem zc_le {x y : Int64} : lg_cmp x y ≤ 0 ↔ x ≤ y := by
  rw [← zl_nlt', ← zc_gt]
  rw [Int32.lt_iff_toInt_lt, Int32.le_iff_toInt_le]; omega
