theorem setAll_keys : ∀ (is : List Nat) (ws xs : va_W), is.map (fun i => (ws.map Prod.fst)[i]?) = xs.map (fun x => some x.1) → (setAll ws is xs).map Prod.fst = ws.map Prod.fst
  | [], ws, xs, _ => by unfold setAll; rfl
  | i :: is, ws, [], _ => by unfold setAll; rfl
  | i :: is, ws, x :: xs, h => by
    simp only [List.map_cons, List.cons.injEq] at h
    obtain ⟨h1, h2⟩ := h
    have h3 : (ws.set i x).map Prod.fst = ws.map Prod.fst := by
      rw [List.map_set]
      apply List.ext_getElem?
      intro j
      by_cases e : i = j
      · subst e
        rw [h1, List.getElem?_set_self]
        exact (List.getElem?_eq_some_iff.mp h1).1
      · rw [List.getElem?_set_ne e]
    have := setAll_keys is (ws.set i x) xs (by rw [h3]; exact h2)
    show (setAll (ws.set i x) is xs).map Prod.fst = _
    rw [this, h3]
theorem setAll_fst {is : List Nat} {ws wc xs : va_W} (hC : is.map (fun i => ws[i]?) = wc.map some) (hsm : xs.map Prod.fst = wc.map Prod.fst) : (setAll ws is xs).map Prod.fst = ws.map Prod.fst := by
  apply setAll_keys
  have h1 : is.map (fun i => (ws.map Prod.fst)[i]?) = (is.map (fun i => ws[i]?)).map (Option.map Prod.fst) := by
    rw [List.map_map]
    apply List.map_congr_left
    intro i _
    simp
  have h2 : xs.map (fun x => some x.1) = (xs.map Prod.fst).map some := by rw [List.map_map]; rfl
  rw [h1, hC, h2, hsm, List.map_map, List.map_map]
  rfl
section GC2
variable {p : Program} {l : Launch} {e : Env} {R : Room} {s : State} {m : MethodId} {args : Array Value} {below : List Frame} {meth : Method} {c : Code} {H : Heap} {locs : List Loc} {cells slots : Nat} {Q : State → Prop}
variable {cc : ByteArray} {nL pc idx n maxL : Nat} {own : String} {D : va_G} {k : ClassId × ClassId × ClassId} {A : Nat → Prop} {H0 : Heap} {ws wc w1 wN : va_W} {y : MethodName} {b : ByteArray} {ret : Option FieldType} {rm : Room} {As rest st : List Value} {rv : Option Value} {ls : Array Slot} {a0 : Nat}
theorem g_V2 (hx : p.tables.exec = Jvm.exec) (hb : c.code = cc) (hml : c.maxLocals = nL) (hown : s.vm.findClass own = some m.cls) (hts : ∀ w ∈ gT, w.before args s = true) (hA : ∀ q, s.heap.size ≤ q → A q) (hK : va_K D CL (TYk k) s) (hP : va_P D CL ws H) (hD : va_D A ws) (hS : va_S A s.heap H locs) (hE : EE A s)
    (M : Ct l D k y b maxL ret rm (.ref a0 :: As) wc w1 rv) (mw : MW y b maxL ret n) (mi : MI y) (hlk : Cond.methodLink own idx y ∈ gT)
    (isC : List Nat) (hC : isC.map (fun i => ws[i]?) = wc.map some) (hnd : va_nd isC = true) (hsm : w1.map Prod.fst = wc.map Prod.fst) (hN : setAll ws isC w1 = wN)
    (q0 : Nat) {ci : Nat} {fs : List Value} {q : vw_C} (he : wc[q0]? = some (a0, .inr (ci, fs))) (hc : CL[ci]? = some q) (hyc : y.cls = q.1)
    (hrm : rmOK rm R maxL = true) (hn : As.length = n) (hsz : ls.size = nL) (hst : st = As.reverse ++ .ref a0 :: rest) (hW : (rest.map fun v => v.category).sum ≤ 8)
    (hcs : cells ≤ R.cells ∧ slots ≤ R.slots)
    (hdg : decode cc pc = .ok (.invokevirtual idx, 3))
    (kk : ∀ (H1 : Heap) (locs1 : List Loc), va_P D CL wN H1 → va_D A wN → va_S A s.heap H1 locs1 → W p l e R s m args below meth c H1 locs1 cells slots Q (F0 m (pc + 3) ls (rv.toList ++ rest))) : W p l e R s m args below meth c H locs cells slots Q (F0 m pc ls st) :=
  g_V (As := As) (rest := rest) hx hb hml hown hts hA hK hP hD hS hE M mw mi hlk isC hC hnd hsm hN (by rw [← hN]; exact setAll_fst hC hsm) q0 he hc hyc hrm hn hsz hst hW hcs hdg kk
end GC2
