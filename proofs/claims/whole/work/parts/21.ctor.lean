/-! Contracts of constructors: they make cells; the new addresses come as u. -/
def CtA (l : Launch) (D : va_G) (k : ClassId × ClassId × ClassId) (y : MethodName) (b : ByteArray) (maxL : Nat) (rm : Room) (avs : List Value) (ws : va_W) (S : Type) (ws' : S → va_W) (mc ms : Nat) : Prop :=
  ∀ sz : Nat, Met l y (Cond.code y b maxL none :: gT) rm (va_Pc avs (fun U => U.heap.size = sz ∧ va_P D CL ws U.heap ∧ va_K D CL (TYk k) U ∧ va_D (fun _ => True) ws ∧ EE (va_A ws sz) U)) (va_Qv (fun _ : S => True) (fun u t => va_P D CL (ws' u) t.heap ∧ va_D (va_A ws sz) (ws' u)) (va_A ws sz)) mc ms (va_A ws sz)
theorem CtA.of {l : Launch} {D : va_G} {k : ClassId × ClassId × ClassId} {y : MethodName} {b : ByteArray} {maxL : Nat} {rm : Room} {avs : List Value} {ws : va_W} {S : Type} {ws' : S → va_W} {mc ms : Nat} (hy : plainName y.cls = true) (hyn : y.name = "<init>") (hl : (lg_sl avs).length ≤ maxL)
    (body : ∀ (p : Program) (e : Env) (s : State) (m : MethodId) (args : Array Value) (below : List Frame) (meth : Method) (c : Code) (A : Nat → Prop) (Q : State → Prop) (ls : Array Slot), p.tables.exec = Jvm.exec → c.code = b → c.maxLocals = maxL → s.vm.findClass y.cls = some m.cls → (∀ w ∈ gT, w.before args s = true) → (∀ q, s.heap.size ≤ q → A q) → va_K D CL (TYk k) s → va_P D CL ws s.heap → va_D A ws → va_S A s.heap s.heap [] → EE A s → lv_has ls maxL (lv_args 0 avs) → meth.name = "<init>" →
      (∀ (u : S) {pc : Nat} {ls : Array Slot} {H : Heap} {locs : List Loc}, decode b pc = .ok (.return_, 1) → va_P D CL (ws' u) H → va_D A (ws' u) → va_S A s.heap H locs → W p l e rm s m args below meth c H locs mc ms Q (F0 m pc ls [])) →
      W p l e rm s m args below meth c s.heap [] 0 0 Q (F0 m 0 ls [])) : CtA l D k y b maxL rm avs ws S ws' mc ms := by
  intro sz
  refine Met.ofW (cc := b) (maxL := maxL) (ret := none) hy rfl ?_
  intro p e s m args below meth c s₁ B hml hv
  obtain ⟨rfl, hsz, hP, hK, hD0, hE⟩ := hv
  subst hsz
  rw [lg_entry_eq]
  refine body p e s m _ below meth c (va_A ws s.heap.size) _ _ B.exec B.bytes hml (findClass_of_methodNamed B.named) (fun w h => atoms_spec B.pre w (List.mem_cons_of_mem _ h)) (fun q h => Or.inr h) hK hP hD0.self va_S.rf hE (lv_entry avs hl) ((name_of_methodNamed B.named B.method).1.trans hyn) ?_
  intro u pc ls H locs hd hP1 hD1 hS1
  exact W.vret B.exec B.bytes B.returns (fun t ht hW => ⟨⟨u, rfl, trivial, by rw [ht]; exact hP1, hD1⟩, hS1.F ht⟩) hS1.2.2 hd B.notSynchronized
theorem kk_byte {D : va_G} {k : ClassId × ClassId × ClassId} {cA : ClassId} {s : State} (h : va_K D CL (TYk k ++ [(cA, .byte)]) s) : cA = k.1 := by
  have h1 : s.vm.findClass ("[" ++ FieldType.byte.toString) = some cA := (h.2 3 (cA, .byte) rfl).2
  have h2 : s.vm.findClass ("[" ++ FieldType.byte.toString) = some k.1 := (h.2 0 (k.1, .byte) rfl).2
  exact Option.some.inj (h1.symm.trans h2)
theorem kk_int {D : va_G} {k : ClassId × ClassId × ClassId} {cA : ClassId} {s : State} (h : va_K D CL (TYk k ++ [(cA, .int)]) s) : cA = k.2.1 := by
  have h1 : s.vm.findClass ("[" ++ FieldType.int.toString) = some cA := (h.2 3 (cA, .int) rfl).2
  have h2 : s.vm.findClass ("[" ++ FieldType.int.toString) = some k.2.1 := (h.2 1 (k.2.1, .int) rfl).2
  exact Option.some.inj (h1.symm.trans h2)
theorem kk_long {D : va_G} {k : ClassId × ClassId × ClassId} {cA : ClassId} {s : State} (h : va_K D CL (TYk k ++ [(cA, .long)]) s) : cA = k.2.2 := by
  have h1 : s.vm.findClass ("[" ++ FieldType.long.toString) = some cA := (h.2 3 (cA, .long) rfl).2
  have h2 : s.vm.findClass ("[" ++ FieldType.long.toString) = some k.2.2 := (h.2 2 (k.2.2, .long) rfl).2
  exact Option.some.inj (h1.symm.trans h2)
section GA
variable {p : Program} {l : Launch} {e : Env} {R : Room} {s : State} {m : MethodId} {args : Array Value} {below : List Frame} {meth : Method} {c : Code} {H : Heap} {locs : List Loc} {cells slots : Nat} {Q : State → Prop}
variable {cc : ByteArray} {nL pc idx n maxL mc ms : Nat} {own : String} {D : va_G} {k : ClassId × ClassId × ClassId} {A : Nat → Prop} {ws wc wr : va_W} {y : MethodName} {b : ByteArray} {rm : Room} {As rest st : List Value} {ls : Array Slot} {a0 : Nat} {S : Type} {ws' : S → va_W}
theorem g_newB {N : Nat} {z : Int32} (hz : z = nI N) (hN : N < 2 ^ 28) (hx : p.tables.exec = Jvm.exec) (hb : c.code = cc) (hts : ∀ w ∈ gT, w.before args s = true) (hA : ∀ q, s.heap.size ≤ q → A q) (hK : va_K D CL (TYk k) s) (hP : va_P D CL ws H) (hD : va_D A ws) (hS : va_S A s.heap H locs) (hcells : cells + 1 ≤ R.cells) (hslots : slots + N ≤ R.slots) (hdg : decode cc pc = .ok (.newarray .byte, 2))
    (kk : ∀ (q : Nat) (H1 : Heap), va_P D CL (ws ++ [(q, .inl (k.1, N, .inl (fun _ => 0)))]) H1 → va_D A (ws ++ [(q, .inl (k.1, N, .inl (fun _ => 0)))]) → va_S A s.heap H1 locs → W p l e R s m args below meth c H1 locs (cells + 1) (slots + N) Q (F0 m (pc + 2) ls (.ref q :: rest))) : W p l e R s m args below meth c H locs cells slots Q (F0 m pc ls (.int z :: rest)) := by
  subst hz
  refine va_newa (atype := .byte) (N' := N) (a0 := (N, .inl (fun _ => 0))) hx hb (hts _ ac_byte) rfl hK hP hD hS hA (fun _ => rfl) (nI_pos (by omega)) (nI_clamp (by omega)) (by show N * 1 ≤ _; omega) hcells hslots hdg ?_
  intro q cA H1 hK1 hP1 hD1 hS1
  obtain rfl := kk_byte hK1
  exact kk q H1 hP1 hD1 hS1
theorem g_newI {N : Nat} {z : Int32} (hz : z = nI N) (hN : N < 2 ^ 26) (hx : p.tables.exec = Jvm.exec) (hb : c.code = cc) (hts : ∀ w ∈ gT, w.before args s = true) (hA : ∀ q, s.heap.size ≤ q → A q) (hK : va_K D CL (TYk k) s) (hP : va_P D CL ws H) (hD : va_D A ws) (hS : va_S A s.heap H locs) (hcells : cells + 1 ≤ R.cells) (hslots : slots + N ≤ R.slots) (hdg : decode cc pc = .ok (.newarray .int, 2))
    (kk : ∀ (q : Nat) (H1 : Heap), va_P D CL (ws ++ [(q, .inl (k.2.1, N, .inl (fun _ => 0)))]) H1 → va_D A (ws ++ [(q, .inl (k.2.1, N, .inl (fun _ => 0)))]) → va_S A s.heap H1 locs → W p l e R s m args below meth c H1 locs (cells + 1) (slots + N) Q (F0 m (pc + 2) ls (.ref q :: rest))) : W p l e R s m args below meth c H locs cells slots Q (F0 m pc ls (.int z :: rest)) := by
  subst hz
  refine va_newa (atype := .int) (N' := N) (a0 := (N, .inl (fun _ => 0))) hx hb (hts _ ac_int) rfl hK hP hD hS hA (fun _ => rfl) (nI_pos (by omega)) (nI_clamp (by omega)) (by show N * 4 ≤ _; omega) hcells hslots hdg ?_
  intro q cA H1 hK1 hP1 hD1 hS1
  obtain rfl := kk_int hK1
  exact kk q H1 hP1 hD1 hS1
theorem g_newJ {N : Nat} {z : Int32} (hz : z = nI N) (hN : N < 2 ^ 25) (hx : p.tables.exec = Jvm.exec) (hb : c.code = cc) (hts : ∀ w ∈ gT, w.before args s = true) (hA : ∀ q, s.heap.size ≤ q → A q) (hK : va_K D CL (TYk k) s) (hP : va_P D CL ws H) (hD : va_D A ws) (hS : va_S A s.heap H locs) (hcells : cells + 1 ≤ R.cells) (hslots : slots + N ≤ R.slots) (hdg : decode cc pc = .ok (.newarray .long, 2))
    (kk : ∀ (q : Nat) (H1 : Heap), va_P D CL (ws ++ [(q, .inl (k.2.2, N, .inr (.inl (fun _ => 0))))]) H1 → va_D A (ws ++ [(q, .inl (k.2.2, N, .inr (.inl (fun _ => 0))))]) → va_S A s.heap H1 locs → W p l e R s m args below meth c H1 locs (cells + 1) (slots + N) Q (F0 m (pc + 2) ls (.ref q :: rest))) : W p l e R s m args below meth c H locs cells slots Q (F0 m pc ls (.int z :: rest)) := by
  subst hz
  refine va_newa (atype := .long) (N' := N) (a0 := (N, .inr (.inl (fun _ => 0)))) hx hb (hts _ ac_long) rfl hK hP hD hS hA (fun _ => rfl) (nI_pos (by omega)) (nI_clamp (by omega)) (by show N * 8 ≤ _; omega) hcells hslots hdg ?_
  intro q cA H1 hK1 hP1 hD1 hS1
  obtain rfl := kk_long hK1
  exact kk q H1 hP1 hD1 hS1
/-- a call of a constructor: the rest's cells, then the callee's -/
theorem g_I (hx : p.tables.exec = Jvm.exec) (hb : c.code = cc) (hml : c.maxLocals = nL) (hown : s.vm.findClass own = some m.cls) (hts : ∀ w ∈ gT, w.before args s = true) (hA : ∀ q, s.heap.size ≤ q → A q) (hK : va_K D CL (TYk k) s) (hP : va_P D CL ws H) (hD : va_D A ws) (hS : va_S A s.heap H locs) (hE : EE A s)
    (M : CtA l D k y b maxL rm (.ref a0 :: As) wc S ws' mc ms) (mw : MW y b maxL none n) (hyn : y.name = "<init>") (hin : Cond.instanceMethod y ∈ gT) (hlk : Cond.methodLink own idx y ∈ gT)
    (isC isR : List Nat) (hC : isC.map (fun i => ws[i]?) = wc.map some) (hR : isR.map (fun i => ws[i]?) = wr.map some) (hnd : va_nd isC = true) (hnr : va_nd isR = true) (hdis : ∀ i ∈ isR, i ∉ isC)
    (hrc : rm.cells = mc) (hrs : rm.slots = ms) (hrf : rm.frames + 1 ≤ R.frames) (hrl : 8 + (maxL + 11) + rm.locals ≤ R.locals) (hn : As.length = n) (hsz : ls.size = nL) (hst : st = As.reverse ++ .ref a0 :: rest) (hW : (rest.map fun v => v.category).sum ≤ 8) (hcs : cells + mc ≤ R.cells ∧ slots + ms ≤ R.slots)
    (hdg : decode cc pc = .ok (.invokespecial idx, 3))
    (kk : ∀ (u : S) (H1 : Heap) (locs1 : List Loc), va_P D CL (wr ++ ws' u) H1 → va_D A (wr ++ ws' u) → va_S A s.heap H1 locs1 → W p l e R s m args below meth c H1 locs1 (cells + mc) (slots + ms) Q (F0 m (pc + 3) ls rest)) : W p l e R s m args below meth c H locs cells slots Q (F0 m pc ls st) := by
  subst hst
  have hPc : va_P D CL wc H := fun j x hj => by
    have h3 : (isC.map (fun i => ws[i]?))[j]? = some (some x) := by rw [hC, List.getElem?_map, hj]; rfl
    rw [List.getElem?_map] at h3
    cases hii : isC[j]? with
    | none => rw [hii] at h3; cases h3
    | some i0 => rw [hii] at h3; exact hP i0 x (Option.some.inj h3)
  have hDc : va_D (fun _ => True) wc := (hD.sub isC hnd hC).weaken (fun _ _ _ _ => trivial)
  have hFc := va_free (wc := wc) hD hS hA isC hC
  refine va_callv (va_runI (As := As) (rest := rest) ⟨hx, hb, hml, hown, hts⟩ (M H.size) ⟨callB_of n hts (good_ct mw) rfl hrc hrs (hts _ mw.2.1) (hts _ hlk) ⟨mw.2.2.1.1, mw.2.2.1.2, mw.2.2.2⟩ ⟨hrf, hrl⟩, hyn, hts _ hin⟩ ⟨g_blind, fun U hU hWU => ⟨rfl, by rw [hU], by rw [hU]; exact hPc, va_K.moved hWU.alike hK, hDc, hE.call hS hU hWU hFc⟩⟩ rfl hn hsz rfl (lv_room hW) hdg hcs) hS (fun q _ h => hFc q h) hFc (fun u t H1 locs1 ht hvm hw hB hz1 hk1 hS1 => ?_)
  obtain ⟨hP1, hD1⟩ := hB
  rw [ht] at hP1
  obtain ⟨hP2, hD2⟩ := va_join hP hD isC isR hC hR hnr hdis hk1 hFc hP1 hD1
  exact kk u H1 locs1 hP2 hD2 hS1
end GA
