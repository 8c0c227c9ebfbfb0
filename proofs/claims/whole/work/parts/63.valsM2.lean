/-- the least width, as the reference finds it -/
theorem M_width_lp {n d : Nat} {f : Int32 → Int32 → Option (Int32 ⊕ Int32)} (hn : 100000 < n) (hd : d ≤ 2000) (x : Int32) (hx : x = nI d - 1 ∧ d ≤ 2000)
    (hf : ∀ j, f (nI d) (nI j) = if ((nI d - 1) >>> (nI j &&& 31)) ≤ 0 then some (Sum.inr (nI j)) else some (Sum.inl (nI j + 1))) :
    ∃ o, lp (fun v => f (nI d) v) n (0 : Int32) = some o ∧ o = nI (wd (d - 1)) := by
  have hw : wd (d - 1) ≤ 11 := wd_le (by omega)
  refine lp_inv (fun q u => ∃ j, j + q = 11 ∧ u = nI j ∧ j ≤ wd (d - 1)) _ ?_ 11 n _ ⟨0, by omega, rfl, by omega⟩ (by omega)
  rintro q u ⟨j, g1, g2, g3⟩
  subst g2
  rw [hf j]
  by_cases d0 : d = 0
  · subst d0
    have : ∀ i : Fin 12, (nI 0 - 1) >>> (nI i.val &&& 31) ≤ 0 := by decide
    rw [if_pos (this ⟨j, by omega⟩)]
    refine Or.inr ⟨_, rfl, ?_⟩
    have : wd (0 - 1) = 0 := rfl
    rw [this] at g3 ⊢
    congr 1; omega
  · have e1 : nI d - 1 = nI (d - 1) := nI_sub (show 1 ≤ d by omega)
    have hle : (d - 1) / 2 ^ j ≤ d - 1 := Nat.div_le_self _ _
    have hc : (nI (d - 1) >>> (nI j &&& 31) ≤ 0) ↔ wd (d - 1) ≤ j := by
      rw [nI_shr (by omega) (by omega), QI0, qn_le (by omega) (by omega), ← shr_zero_iff, Nat.shiftRight_eq_div_pow]
      generalize (d - 1) / 2 ^ j = z
      omega
    rw [e1]
    by_cases c : wd (d - 1) ≤ j
    · rw [if_pos (hc.mpr c)]
      exact Or.inr ⟨_, rfl, by congr 1; omega⟩
    · rw [if_neg (fun h => c (hc.mp h))]
      exact Or.inl ⟨_, rfl, q - 1, by omega, j + 1, by omega, qn_add j 1, by omega⟩
theorem M_dnums {n c : Nat} {K : Nat → List Nat} {nums : Nat → Int32} {g : (Nat → Int32) → Int32 → Int32 → Option (((Nat → Int32) × Int32 × Int32) ⊕ ((Nat → Int32) × Int32 × Int32))} (hn : 100000 < n) (hc1 : c ≤ 1000)
    (hg : ∀ f k, k ≤ c → (c ≤ k → g f (nI (dn K k)) (nI k) = some (Sum.inr (f, nI (dn K k), nI k))) ∧ (k < c → (∀ j, j < k → f j = nI (dk K j)) → g f (nI (dn K k)) (nI k) = some (Sum.inl (upd f k (nI (dk K k)), nI (dn K (k + 1)), nI (k + 1))))) :
    ∃ o, lp (fun v => g v.1 v.2.1 v.2.2) n (nums, (0 : Int32), (0 : Int32)) = some o ∧ (∀ i, i < c → o.1 i = nI (dk K i)) ∧ o.2.1 = nI (dn K c) := by
  refine lp_inv (fun q u => ∃ k, k + q = c ∧ u.2.2 = nI k ∧ u.2.1 = nI (dn K k) ∧ ∀ j, j < k → u.1 j = nI (dk K j)) _ ?_ c n _ ⟨0, by omega, rfl, rfl, fun j hj => by omega⟩ (by omega)
  rintro q ⟨f, d', k'⟩ ⟨k, g1, g2, g3, g4⟩
  simp only at g2 g3 g4
  subst g2; subst g3
  show (∃ w', g f (nI (dn K k)) (nI k) = _ ∧ _) ∨ (∃ x, g f (nI (dn K k)) (nI k) = _ ∧ _)
  by_cases ck : c ≤ k
  · have : k = c := by omega
    subst this
    rw [(hg f k (by omega)).1 ck]
    exact Or.inr ⟨_, rfl, g4, rfl⟩
  · rw [(hg f k (by omega)).2 (by omega) g4]
    refine Or.inl ⟨_, rfl, q - 1, by omega, k + 1, by omega, rfl, rfl, ?_⟩
    intro j hj
    show upd f k (nI (dk K k)) j = _
    unfold upd
    by_cases e : j = k
    · subst e; rw [if_pos rfl]
    · rw [if_neg e]; exact g4 j (by omega)
theorem dk_self {K : Nat → List Nat} {k : Nat} (h : fi K k = k) : dk K k = dn K k := by unfold dk; rw [h]
theorem dk_fi {K : Nat → List Nat} {k : Nat} : dk K k = dk K (fi K k) := by unfold dk; rw [fi_fi]
theorem M_writeDictionary {n t c : Nat} {num : Nat → Int64} {S : Nat → Nat} {T : Nat → UInt8} {values : Int32} {wholes : Nat → Int64} {frm bytes nums : Nat → Int32} {L : List UInt8} {out : Nat → Int32}
    (hn : 100000 < n) (ht : t = 3) (hc1 : c ≤ 1000) (hS : (∀ i, i < c → S i ≤ S (i + 1)) ∧ S c ≤ 20000) (hM : VsM t c num S T values wholes frm bytes)
    (hL : L.length + (sDic t c num S T).length ≤ 90000) (h : QHM L out) :
    ∃ o, f_M_writeDictionary n 20000 1001 1008 90000 values (nI L.length) bytes frm nums out = some o ∧ QPM (L ++ sDic t c num S T) (o.1, o.2.2) := by
  unfold f_M_writeDictionary
  have hM' := hM
  obtain ⟨g4, g5, g6, g7⟩ := hM
  subst g4
  have hSS : (∀ i, i < c → S i ≤ S (i + 1)) ∧ S c ≤ 20000 ∧ 20000 ≤ 20000 := ⟨hS.1, hS.2, by omega⟩
  have hfl : ∀ k, k < c → f_M_firstLike n 20000 1001 bytes frm (nI k) = some (nI (fi (ky t num S T) k)) := fun k hk => M_firstLike hn ht hk (by omega) (by omega) hSS hM'
  have hitem : ∀ i, sItem t num S T i = sText S T i := fun i => by unfold sItem; rw [if_pos ht]
  unfold sDic at hL ⊢
  generalize hK : ky t num S T = K at *
  have hdc := dn_le K c
  obtain ⟨o, h1, h2, h3⟩ := M_dnums (n := n) (c := c) (K := K) (nums := nums) (g := fun a b d => f_M_writeDictionary_l4 n 20000 1001 1008 (nI c) bytes frm a b d) hn hc1 (by
    intro f k hk
    have hdk := dn_le K k
    have hfk := fi_le K k
    constructor
    · intro ck
      unfold f_M_writeDictionary_l4
      rw [ifle (by omega) (by omega), if_pos ck]
    · intro ck hf
      have e1 : nI k + 1 = nI (k + 1) := qn_add k 1
      unfold f_M_writeDictionary_l4
      rw [ifle (by omega) (by omega), if_neg (show ¬ c ≤ k by omega), hfl k ck, obs, ife (by omega) (by omega)]
      unfold f_M_writeDictionary_j38
      by_cases cf : fi K k = k
      · have e2 : nI (dn K k) + 1 = nI (dn K (k + 1)) := by simp only [dn]; rw [if_pos cf]; exact qn_add _ 1
        rw [if_pos cf, gd_nI (by omega) (by omega), cf, if_pos rfl, bnd_eq, bnd_eq, qn_clamp (by omega), dk_self cf, e1, e2]
      · have e2 : nI (dn K k) + 0 = nI (dn K (k + 1)) := by simp only [dn]; rw [if_neg cf]; exact qn_add _ 0
        rw [if_neg cf, gd_nI (by omega) (by omega), gd_nI (by omega) (by omega), ife (by omega) (by omega), if_neg cf, bnd_eq, bnd_eq, qn_clamp (by omega), qn_clamp (by omega), hf _ (by omega), ← dk_fi, e1, e2])
  rw [h1, obs, h3]
  unfold f_M_writeDictionary_j58
  simp only [List.length_append, List.length_cons, List.length_nil] at hL
  have hlv : lv (nI (dn K c)).toInt64 = dn K c := lv_nI (by omega)
  obtain ⟨o1, p1, p2, p3⟩ := M_putVarint (n := n) (cap := 90000) (L := L) (row := out) (nI (dn K c)).toInt64 (by omega) (by omega) (by rw [hlv]; omega) h
  rw [hlv] at p2 p3
  rw [p1, obs, p2]
  generalize hX : L ++ sVar (dn K c) = X at *
  have hlX : X.length = L.length + (sVar (dn K c)).length := by rw [← hX]; simp
  have main : ∃ o', lp (fun v => f_M_writeDictionary_l66 n 20000 1001 90000 (nI c) bytes frm v.1 v.2.1 v.2.2) n (nI X.length, o1.2, (0 : Int32)) = some o' ∧ QPM (X ++ sDict (sItem t num S T) K c) (o'.1, o'.2.1) := by
    refine lp_inv (fun q u => ∃ k, k + q = c ∧ u.2.2 = nI k ∧ QPM (X ++ sDict (sItem t num S T) K k) (u.1, u.2.1)) _ ?_ c n _ ⟨0, by omega, rfl, by simp [sDict, QPM, p3]⟩ (by omega)
    rintro q ⟨sz, ou, k'⟩ ⟨k, q1, q2, q3, q4⟩
    simp only at q2 q3 q4
    subst q2; subst q3
    show (∃ w', f_M_writeDictionary_l66 n 20000 1001 90000 (nI c) bytes frm (nI _) ou (nI k) = _ ∧ _) ∨ (∃ x, f_M_writeDictionary_l66 n 20000 1001 90000 (nI c) bytes frm (nI _) ou (nI k) = _ ∧ _)
    unfold f_M_writeDictionary_l66
    rw [ifle (by omega) (by omega)]
    by_cases ck : c ≤ k
    · have : k = c := by omega
      subst this
      exact Or.inr ⟨_, by rw [if_pos ck], rfl, q4⟩
    · have hfk := fi_le K k
      rw [if_neg ck, hfl k (by omega), obs, ife (by omega) (by omega)]
      by_cases cf : fi K k = k
      · have hmono := sDict_len_mono (sItem t num S T) K (show k + 1 ≤ c by omega)
        simp only [sDict, if_pos cf, List.length_append] at hmono
        rw [hitem] at hmono
        obtain ⟨o', r1, r2⟩ := M_putText (n := n) (cap := 90000) (t := t) (c := c) (i := k) (L := X ++ sDict (sItem t num S T) K k) (out := ou) hn ht (by omega) hc1 hS hM' (by omega) (by rw [List.length_append]; omega) q4
        rw [if_pos cf, r1, obs]
        refine Or.inl ⟨_, rfl, q - 1, by omega, k + 1, by omega, qn_add k 1, ?_⟩
        simp only [sDict, if_pos cf]
        rw [hitem, ← List.append_assoc]; exact r2
      · rw [if_neg cf]
        refine Or.inl ⟨_, rfl, q - 1, by omega, k + 1, by omega, qn_add k 1, ?_⟩
        simp only [sDict, if_neg cf, List.append_nil]
        exact ⟨rfl, q4⟩
  obtain ⟨o2, r1, r2, r3⟩ := main
  simp only at r2 r3
  rw [r1, obs, r2]
  unfold f_M_writeDictionary_j94
  obtain ⟨o3, s1, s2⟩ := M_width_lp (n := n) (d := dn K c) (f := f_M_writeDictionary_l96) hn (by omega) _ ⟨rfl, by omega⟩ (fun j => rfl)
  rw [s1, obs, s2]
  unfold f_M_writeDictionary_j110
  generalize hY : X ++ sDict (sItem t num S T) K c = Y at *
  have hlY : Y.length = X.length + (sDict (sItem t num S T) K c).length := by rw [← hY]; simp
  have hw := wd_dn (K := K) hc1
  obtain ⟨o4, t1, t2, t3⟩ := M_put (cap := 90000) (nI (wd (dn K c - 1))) (by omega) (show Y.length < 90000 by omega) r3
  rw [by8_nI] at t2 t3
  rw [t1, obs, t2]
  obtain ⟨o5, u1, u2⟩ := M_writeRuns (n := n) (cap := 90000) (pn := 1008) (m := c) (w := wd (dn K c - 1)) (f := dk K) (row := o.1) (L := Y ++ [UInt8.ofNat (wd (dn K c - 1))]) (out := o4.2) hn hc1 (by omega) (by omega) (fun i hi => by have := dk_lt (K := K) hi; omega) h2 (by omega) (by simp only [List.length_append, List.length_cons, List.length_nil]; omega) t3
  rw [u1, obs]
  refine ⟨_, rfl, ?_⟩
  rw [← hY, ← hX] at u2
  simp only [List.append_assoc] at u2 ⊢
  exact u2
theorem M_writeWholes {n t c how : Nat} {num : Nat → Int64} {S : Nat → Nat} {T : Nat → UInt8} {values ty lc : Int32} {wholes longs : Nat → Int64} {frm bytes nums : Nat → Int32} {L : List UInt8} {out : Nat → Int32}
    (hn : 100000 < n) (hty : ty = nI t) (ht0 : t ≠ 0) (ht : t ≠ 3) (ht3 : t ≤ 3) (hhow : how ≤ 2) (hc1 : c ≤ 1000) (hM : VsM t c num S T values wholes frm bytes)
    (hL : L.length + (sVals t c num S T how).length ≤ 90000) (h : QHM L out) :
    ∃ o, f_M_writeWholes n 2000 1008 90000 1000 ty values (nI L.length) lc longs nums out wholes (nI how) = some o ∧ QPM (L ++ sVals t c num S T how) (o.1, o.2.2.2.2) := by
  unfold f_M_writeWholes
  have hM' := hM
  obtain ⟨g4, g5, g6, g7⟩ := hM
  subst g4; subst hty
  have hw8 : qwide t ≤ 8 := by unfold qwide; split <;> omega
  have hitem : ∀ i, sItem t num S T i = sFix (lv (num i)) (qwide t) := fun i => by unfold sItem; rw [if_neg ht]
  rw [ife0 (by omega)]
  by_cases h0 : how = 0
  · rw [if_pos h0]
    have hv : sVals t c num S T how = cat (sItem t num S T) c := by unfold sVals; rw [if_neg ht0, if_pos h0]
    rw [hv] at hL ⊢
    have main : ∃ o', lp (fun v => f_M_writeWholes_l6 n 90000 1000 (nI t) (nI c) wholes v.1 v.2.1 v.2.2) n (nI L.length, out, (0 : Int32)) = some o' ∧ QPM (L ++ cat (sItem t num S T) c) (o'.1, o'.2.1) := by
      refine lp_inv (fun q u => ∃ k, k + q = c ∧ u.2.2 = nI k ∧ QPM (L ++ cat (sItem t num S T) k) (u.1, u.2.1)) _ ?_ c n _ ⟨0, by omega, rfl, by simp [cat, QPM, h]⟩ (by omega)
      rintro q ⟨sz, ou, k'⟩ ⟨k, q1, q2, q3, q4⟩
      simp only at q2 q3 q4
      subst q2; subst q3
      show (∃ w', f_M_writeWholes_l6 n 90000 1000 (nI t) (nI c) wholes (nI _) ou (nI k) = _ ∧ _) ∨ (∃ x, f_M_writeWholes_l6 n 90000 1000 (nI t) (nI c) wholes (nI _) ou (nI k) = _ ∧ _)
      unfold f_M_writeWholes_l6
      rw [ifle (by omega) (by omega)]
      by_cases ck : c ≤ k
      · have : k = c := by omega
        subst this
        exact Or.inr ⟨_, by rw [if_pos ck], rfl, q4⟩
      · have hat := cat_len_at (sItem t num S T) (show k < c by omega)
        rw [hitem, sFix_len] at hat
        obtain ⟨o', r1, r2⟩ := M_putFixed (n := n) (cap := 90000) (L := L ++ cat (sItem t num S T) k) (row := ou) (num k) (q := qwide t) hw8 (by omega) (by omega) (by rw [List.length_append]; omega) q4
        rw [if_neg ck, gd_nI (by omega) (by omega), M_wide ht3, obs, qn_clamp (by omega), g5 ht k (by omega), r1, obs]
        refine Or.inl ⟨_, rfl, q - 1, by omega, k + 1, by omega, qn_add k 1, ?_⟩
        rw [List.append_assoc, ← hitem] at r2
        exact r2
    obtain ⟨o', r1, r2⟩ := main
    rw [r1, obs]
    exact ⟨_, rfl, r2⟩
  rw [if_neg h0]
  have i1 : ∀ {α : Type} {x y : α}, (if nI how = 1 then x else y) = if how = 1 then x else y := fun {α x y} => ife (by omega) (by decide)
  have hlc : lastC t = 2 := by unfold lastC; rw [if_neg ht0, if_neg ht]
  rw [i1]
  by_cases h1 : how = 1
  · rw [if_pos h1]
    have hv : sVals t c num S T how = qsCode num c := by unfold sVals; rw [if_neg ht0, if_neg h0, if_neg (by omega), if_neg ht]
    rw [hv] at hL ⊢
    have main : ∃ o', lp (fun v => f_M_writeWholes_l52 2000 1000 (nI c) wholes v.1 v.2) n (longs, (0 : Int32)) = some o' ∧ ∀ i, i < c → o'.1 i = num i := by
      refine lp_inv (fun q u => ∃ k, k + q = c ∧ u.2 = nI k ∧ ∀ i, i < k → u.1 i = num i) _ ?_ c n _ ⟨0, by omega, rfl, fun i hi => by omega⟩ (by omega)
      rintro q ⟨f, k'⟩ ⟨k, q1, q2, q3⟩
      simp only at q2 q3
      subst q2
      show (∃ w', f_M_writeWholes_l52 2000 1000 (nI c) wholes f (nI k) = _ ∧ _) ∨ (∃ x, f_M_writeWholes_l52 2000 1000 (nI c) wholes f (nI k) = _ ∧ _)
      unfold f_M_writeWholes_l52
      rw [ifle (by omega) (by omega)]
      by_cases ck : c ≤ k
      · have : k = c := by omega
        subst this
        exact Or.inr ⟨_, by rw [if_pos ck], q3⟩
      · rw [if_neg ck, gd_nI (by omega) (by omega), bnd_eq, gd_nI (by omega) (by omega), qn_clamp (by omega), g5 ht k (by omega)]
        refine Or.inl ⟨_, rfl, q - 1, by omega, k + 1, by omega, qn_add k 1, ?_⟩
        intro i hi
        show vp_updL f k (num k) i = _
        unfold vp_updL
        by_cases e : i = k
        · subst e; rw [if_pos rfl]
        · rw [if_neg e]; exact q3 i (by omega)
    obtain ⟨o', r1, r2⟩ := main
    rw [r1, obs]
    unfold f_M_writeWholes_j78
    obtain ⟨o2, s1, s2⟩ := M_writeLongs (n := n) (ln := 2000) (cap := 90000) (m := c) (a := num) (longs := o'.1) (L := L) (out := out) hn (by omega) (by omega) r2 (by omega) hL h
    rw [s1, obs]
    exact ⟨_, rfl, s2⟩
  · rw [if_neg h1]
    have hv : sVals t c num S T how = sDic t c num S T := by unfold sVals; rw [if_neg ht0, if_neg h0, if_pos (by omega)]
    rw [hv] at hL ⊢
    have hfl : ∀ k, k < c → f_M_firstWhole n 1000 wholes (nI k) = some (nI (fi (ky t num S T) k)) := fun k hk => M_firstWhole hn ht hk (by omega) (by omega) hM'
    unfold sDic at hL ⊢
    generalize hK : ky t num S T = K at *
    have hdc := dn_le K c
    obtain ⟨o, h1', h2, h3⟩ := M_dnums (n := n) (c := c) (K := K) (nums := nums) (g := fun a b d => f_M_writeWholes_l89 n 1008 1000 (nI c) wholes a b d) hn hc1 (by
      intro f k hk
      have hdk := dn_le K k
      have hfk := fi_le K k
      constructor
      · intro ck
        unfold f_M_writeWholes_l89
        rw [ifle (by omega) (by omega), if_pos ck]
      · intro ck hf
        have e1 : nI k + 1 = nI (k + 1) := qn_add k 1
        unfold f_M_writeWholes_l89
        rw [ifle (by omega) (by omega), if_neg (show ¬ c ≤ k by omega), hfl k ck, obs, ife (by omega) (by omega)]
        unfold f_M_writeWholes_j126
        by_cases cf : fi K k = k
        · have e2 : nI (dn K k) + 1 = nI (dn K (k + 1)) := by simp only [dn]; rw [if_pos cf]; exact qn_add _ 1
          rw [if_pos cf, gd_nI (by omega) (by omega), cf, if_pos rfl, bnd_eq, bnd_eq, qn_clamp (by omega), dk_self cf, e1, e2]
        · have e2 : nI (dn K k) + 0 = nI (dn K (k + 1)) := by simp only [dn]; rw [if_neg cf]; exact qn_add _ 0
          rw [if_neg cf, gd_nI (by omega) (by omega), gd_nI (by omega) (by omega), ife (by omega) (by omega), if_neg cf, bnd_eq, bnd_eq, qn_clamp (by omega), qn_clamp (by omega), hf _ (by omega), ← dk_fi, e1, e2])
    rw [h1', obs, h3]
    unfold f_M_writeWholes_j147
    simp only [List.length_append, List.length_cons, List.length_nil] at hL
    have hlv : lv (nI (dn K c)).toInt64 = dn K c := lv_nI (by omega)
    obtain ⟨o1, p1, p2, p3⟩ := M_putVarint (n := n) (cap := 90000) (L := L) (row := out) (nI (dn K c)).toInt64 (by omega) (by omega) (by rw [hlv]; omega) h
    rw [hlv] at p2 p3
    rw [p1, obs, p2]
    generalize hX : L ++ sVar (dn K c) = X at *
    have hlX : X.length = L.length + (sVar (dn K c)).length := by rw [← hX]; simp
    have main : ∃ o', lp (fun v => f_M_writeWholes_l155 n 90000 1000 (nI t) (nI c) wholes v.1 v.2.1 v.2.2) n (nI X.length, o1.2, (0 : Int32)) = some o' ∧ QPM (X ++ sDict (sItem t num S T) K c) (o'.1, o'.2.1) := by
      refine lp_inv (fun q u => ∃ k, k + q = c ∧ u.2.2 = nI k ∧ QPM (X ++ sDict (sItem t num S T) K k) (u.1, u.2.1)) _ ?_ c n _ ⟨0, by omega, rfl, by simp [sDict, QPM, p3]⟩ (by omega)
      rintro q ⟨sz, ou, k'⟩ ⟨k, q1, q2, q3, q4⟩
      simp only at q2 q3 q4
      subst q2; subst q3
      show (∃ w', f_M_writeWholes_l155 n 90000 1000 (nI t) (nI c) wholes (nI _) ou (nI k) = _ ∧ _) ∨ (∃ x, f_M_writeWholes_l155 n 90000 1000 (nI t) (nI c) wholes (nI _) ou (nI k) = _ ∧ _)
      unfold f_M_writeWholes_l155
      rw [ifle (by omega) (by omega)]
      by_cases ck : c ≤ k
      · have : k = c := by omega
        subst this
        exact Or.inr ⟨_, by rw [if_pos ck], rfl, q4⟩
      · have hfk := fi_le K k
        rw [if_neg ck, hfl k (by omega), obs, ife (by omega) (by omega)]
        by_cases cf : fi K k = k
        · have hmono := sDict_len_mono (sItem t num S T) K (show k + 1 ≤ c by omega)
          simp only [sDict, if_pos cf, List.length_append] at hmono
          rw [hitem, sFix_len] at hmono
          obtain ⟨o', r1, r2⟩ := M_putFixed (n := n) (cap := 90000) (L := X ++ sDict (sItem t num S T) K k) (row := ou) (num k) (q := qwide t) hw8 (by omega) (by omega) (by rw [List.length_append]; omega) q4
          rw [if_pos cf, gd_nI (by omega) (by omega), M_wide ht3, obs, qn_clamp (by omega), g5 ht k (by omega), r1, obs]
          refine Or.inl ⟨_, rfl, q - 1, by omega, k + 1, by omega, qn_add k 1, ?_⟩
          simp only [sDict, if_pos cf]
          rw [hitem, ← List.append_assoc]; exact r2
        · rw [if_neg cf]
          refine Or.inl ⟨_, rfl, q - 1, by omega, k + 1, by omega, qn_add k 1, ?_⟩
          simp only [sDict, if_neg cf, List.append_nil]
          exact ⟨rfl, q4⟩
    obtain ⟨o2, r1, r2, r3⟩ := main
    simp only at r2 r3
    rw [r1, obs, r2]
    unfold f_M_writeWholes_j192
    obtain ⟨o3, s1, s2⟩ := M_width_lp (n := n) (d := dn K c) (f := f_M_writeWholes_l194) hn (by omega) _ ⟨rfl, by omega⟩ (fun j => rfl)
    rw [s1, obs, s2]
    unfold f_M_writeWholes_j208
    generalize hY : X ++ sDict (sItem t num S T) K c = Y at *
    have hlY : Y.length = X.length + (sDict (sItem t num S T) K c).length := by rw [← hY]; simp
    have hw := wd_dn (K := K) hc1
    obtain ⟨o4, t1, t2, t3⟩ := M_put (cap := 90000) (nI (wd (dn K c - 1))) (by omega) (show Y.length < 90000 by omega) r3
    rw [by8_nI] at t2 t3
    rw [t1, obs, t2]
    obtain ⟨o5, u1, u2⟩ := M_writeRuns (n := n) (cap := 90000) (pn := 1008) (m := c) (w := wd (dn K c - 1)) (f := dk K) (row := o.1) (L := Y ++ [UInt8.ofNat (wd (dn K c - 1))]) (out := o4.2) hn hc1 (by omega) (by omega) (fun i hi => by have := dk_lt (K := K) hi; omega) h2 (by omega) (by simp only [List.length_append, List.length_cons, List.length_nil]; omega) t3
    rw [u1, obs]
    refine ⟨_, rfl, ?_⟩
    rw [← hY, ← hX] at u2
    simp only [List.append_assoc] at u2 ⊢
    exact u2
theorem M_writeBools {n c how : Nat} {num : Nat → Int64} {S : Nat → Nat} {T : Nat → UInt8} {values : Int32} {wholes : Nat → Int64} {frm bytes nums : Nat → Int32} {L : List UInt8} {out : Nat → Int32}
    (hn : 100000 < n) (hhow : how ≤ 1) (hc1 : c ≤ 1000) (hM : VsM 0 c num S T values wholes frm bytes) (hb : ∀ i, i < c → lv (num i) ≤ 1)
    (hL : L.length + (sVals 0 c num S T how).length ≤ 90000) (h : QHM L out) :
    ∃ o, f_M_writeBools n 1008 90000 1000 values (nI L.length) nums out wholes (nI how) = some o ∧ QPM (L ++ sVals 0 c num S T how) (o.1, o.2.2) := by
  unfold f_M_writeBools
  obtain ⟨g4, g5, g6, g7⟩ := hM
  subst g4
  have main : ∃ o', lp (fun v => f_M_writeBools_l2 1008 1000 (nI c) wholes v.1 v.2) n (nums, (0 : Int32)) = some o' ∧ ∀ i, i < c → o'.1 i = nI (lv (num i)) := by
    refine lp_inv (fun q u => ∃ k, k + q = c ∧ u.2 = nI k ∧ ∀ i, i < k → u.1 i = nI (lv (num i))) _ ?_ c n _ ⟨0, by omega, rfl, fun i hi => by omega⟩ (by omega)
    rintro q ⟨f, k'⟩ ⟨k, q1, q2, q3⟩
    simp only at q2 q3
    subst q2
    show (∃ w', f_M_writeBools_l2 1008 1000 (nI c) wholes f (nI k) = _ ∧ _) ∨ (∃ x, f_M_writeBools_l2 1008 1000 (nI c) wholes f (nI k) = _ ∧ _)
    unfold f_M_writeBools_l2
    rw [ifle (by omega) (by omega)]
    by_cases ck : c ≤ k
    · have : k = c := by omega
      subst this
      exact Or.inr ⟨_, by rw [if_pos ck], q3⟩
    · have hbk := hb k (by omega)
      have hv : (num k).toInt32 = nI (lv (num k)) := by
        rw [← l64_i32 (show lv (num k) < 2147483648 by omega), l64_lv]
      rw [if_neg ck, gd_nI (by omega) (by omega), bnd_eq, gd_nI (by omega) (by omega), qn_clamp (by omega), g5 (by omega) k (by omega), hv]
      refine Or.inl ⟨_, rfl, q - 1, by omega, k + 1, by omega, qn_add k 1, ?_⟩
      intro i hi
      show upd f k (nI (lv (num k))) i = _
      unfold upd
      by_cases e : i = k
      · subst e; rw [if_pos rfl]
      · rw [if_neg e]; exact q3 i (by omega)
  obtain ⟨o, h1, h2⟩ := main
  rw [h1, obs]
  unfold f_M_writeBools_j29
  have i1 : ∀ {α : Type} {x y : α}, (if nI how = 1 then x else y) = if how = 1 then x else y := fun {α x y} => ife (by omega) (by decide)
  rw [i1]
  unfold sVals at hL ⊢
  rw [if_pos rfl] at hL
  rw [if_pos rfl]
  by_cases c0 : how = 0
  · rw [if_pos c0, sBits_len] at hL
    rw [if_pos c0, if_neg (show ¬ how = 1 by omega)]
    unfold f_M_writeBools_j47
    have main2 : ∃ o', lp (fun v => f_M_writeBools_l49 n 1008 90000 (nI c) o.1 (nI how) v.1 v.2.1 v.2.2) n (nI L.length, out, (0 : Int32)) = some o' ∧ QPM (L ++ sBits (pbit (fun i => lv (num i)) c 1) ((c + 7) / 8)) (o'.1, o'.2.2) := by
      refine lp_inv (fun q u => ∃ j, j + q = (c + 7) / 8 ∧ u.2.2 = nI (8 * j) ∧ QPM (L ++ sBits (pbit (fun i => lv (num i)) c 1) j) (u.1, u.2.1)) _ ?_ ((c + 7) / 8) n _ ⟨0, by omega, rfl, by simp [sBits, QPM, h]⟩ (by omega)
      rintro q ⟨sz, ou, j'⟩ ⟨j, q1, q2, q3, q4⟩
      simp only at q2 q3 q4
      subst q2; subst q3
      show (∃ w', f_M_writeBools_l49 n 1008 90000 (nI c) o.1 (nI how) (nI _) ou (nI (8 * j)) = _ ∧ _) ∨ (∃ x, f_M_writeBools_l49 n 1008 90000 (nI c) o.1 (nI how) (nI _) ou (nI (8 * j)) = _ ∧ _)
      unfold f_M_writeBools_l49
      rw [ifle (by omega) (by omega)]
      by_cases cj : c ≤ 8 * j
      · have : j = (c + 7) / 8 := by omega
        subst this
        exact Or.inr ⟨_, by rw [if_pos cj], rfl, q4⟩
      · rw [if_neg cj, ife0 (by omega), if_pos c0]
        have main3 : ∃ o', lp (fun v => f_M_writeBools_l66 1008 (nI c) o.1 (nI (8 * j)) v.1 v.2) n ((0 : Int32), (0 : Int32)) = some o' ∧ o'.1 = nI (qbN (fun i => pbit (fun i => lv (num i)) c 1 (8 * j + i)) 8) := by
          refine lp_inv (fun x u => ∃ i, i + x = 8 ∧ u.2 = nI i ∧ u.1 = nI (qbN (fun i => pbit (fun i => lv (num i)) c 1 (8 * j + i)) i)) _ ?_ 8 n _ ⟨0, by omega, rfl, rfl⟩ (by omega)
          rintro x ⟨b', i'⟩ ⟨i, y1, y2, y3⟩
          simp only at y2 y3
          subst y2; subst y3
          show (∃ w', f_M_writeBools_l66 1008 (nI c) o.1 (nI (8 * j)) (nI _) (nI i) = _ ∧ _) ∨ (∃ y, f_M_writeBools_l66 1008 (nI c) o.1 (nI (8 * j)) (nI _) (nI i) = _ ∧ _)
          unfold f_M_writeBools_l66
          have e8 : (8 : Int32) = nI 8 := rfl
          have hpb : ∀ i, pbit (fun i => lv (num i)) c 1 (8 * j + i) = (decide (8 * j + i < c) && (lv (num (8 * j + i))).testBit 0) := by
            intro i
            unfold pbit
            rw [Nat.div_one, Nat.mod_one]
          rw [e8, ifle (by omega) (by omega)]
          by_cases ci : 8 ≤ i
          · have : i = 8 := by omega
            subst this
            exact Or.inr ⟨_, by rw [if_pos ci], rfl⟩
          rw [if_neg ci, qn_add, ifle (by omega) (by omega)]
          by_cases cj2 : c ≤ 8 * j + i
          · rw [if_pos cj2]
            refine Or.inr ⟨_, rfl, ?_⟩
            show nI _ = nI _
            congr 1
            have hz : ∀ m, i ≤ m → m ≤ 8 → qbN (fun i => pbit (fun i => lv (num i)) c 1 (8 * j + i)) i = qbN (fun i => pbit (fun i => lv (num i)) c 1 (8 * j + i)) m := by
              intro m
              induction m with
              | zero => intro hm _
                        have : i = 0 := by omega
                        subst this; rfl
              | succ m ih =>
                intro hm hm8
                by_cases em : i = m + 1
                · subst em; rfl
                · rw [ih (by omega) (by omega)]
                  have hf : pbit (fun i => lv (num i)) c 1 (8 * j + m) = false := by rw [hpb m, decide_eq_false (show ¬ 8 * j + m < c by omega)]; rfl
                  simp only [qbN, hf]; rfl
            exact hz 8 (by omega) (by omega)
          · have hbv := hb (8 * j + i) (by omega)
            rw [if_neg cj2, gd_nI (by omega) (by omega), qn_clamp (by omega), h2 _ (by omega), nI_shl1 (by omega) (by omega), nI_or]
            refine Or.inl ⟨_, rfl, x - 1, by omega, i + 1, by omega, qn_add i 1, ?_⟩
            rw [← bN_or, hpb i, decide_eq_true (show 8 * j + i < c by omega), Bool.true_and]
            have : lv (num (8 * j + i)) = if (lv (num (8 * j + i))).testBit 0 then 1 else 0 := by
              rw [Nat.testBit_zero]
              by_cases hq : lv (num (8 * j + i)) = 0
              · rw [hq]; rfl
              · have : lv (num (8 * j + i)) = 1 := by omega
                rw [this]; rfl
            rw [← this]
        obtain ⟨o', s1, s2⟩ := main3
        rw [s1, obs]
        unfold f_M_writeBools_j105
        rw [s2]
        obtain ⟨o2, r1, r2⟩ := M_put (cap := 90000) (nI (qbN (fun i => pbit (fun i => lv (num i)) c 1 (8 * j + i)) 8)) (by omega) (by rw [List.length_append, sBits_len]; omega) q4
        rw [r1, obs]
        refine Or.inl ⟨_, rfl, q - 1, by omega, j + 1, by omega, qn_add _ 8, ?_⟩
        rw [by8_nI, List.append_assoc] at r2
        rw [sBits_succ]
        exact r2
    obtain ⟨o', s1, s2⟩ := main2
    rw [s1]
    exact ⟨_, rfl, s2⟩
  · rw [if_neg c0] at hL
    have c1 : how = 1 := by omega
    rw [if_neg c0, if_pos c1]
    obtain ⟨o2, r1, r2, r3⟩ := M_writeRuns (n := n) (cap := 90000) (pn := 1008) (m := c) (w := 1) (f := fun i => lv (num i)) (row := o.1) (L := L) (out := out) hn hc1 (by omega) (by omega) (fun i hi => by have := hb i hi; show lv (num i) < _; omega) h2 (by omega) hL h
    have r1' : f_M_writeRuns n 90000 1008 (nI L.length) out o.1 (nI c) 1 = some o2 := r1
    rw [r1', obs]
    unfold f_M_writeBools_j47
    obtain ⟨x, rfl⟩ : ∃ x, n = x + 1 := ⟨n - 1, by omega⟩
    have hst : f_M_writeBools_l49 (x + 1) 1008 90000 (nI c) o.1 (nI how) o2.1 o2.2 0 = some (Sum.inr (o2.1, o.1, o2.2)) := by
      unfold f_M_writeBools_l49
      rw [ife0 (by omega), if_neg c0]
      split <;> rfl
    simp only [lp, hst]
    exact ⟨_, rfl, r2, r3⟩
