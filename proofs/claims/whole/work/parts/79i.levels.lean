abbrev GAll (m most : Nat) (g : Nat → Nat) : Prop := ∀ i, i < m → g i ≤ most
def pLev (I : List UInt8) (e a m most : Nat) : Nat ⊕ (Nat × (Nat → Nat)) :=
  if most = 0 then .inr (a, fun _ => 0) else
  match pVar I e a with
  | .inl x => .inl x
  | .inr (a1, z) => if e - a1 < z then .inl 1 else
    match pRunsE I (a1 + z) m (wd most) a1 with
    | .inl x => .inl x
    | .inr g => if GAll m most g then .inr (a1 + z, g) else .inl 9
theorem pLev_le {I : List UInt8} {e a m most a' : Nat} {g : Nat → Nat} (h : pLev I e a m most = .inr (a', g)) : GAll m most g := by
  unfold pLev at h
  split at h
  · rename_i h0
    cases h
    intro i hi
    exact Nat.zero_le _
  · split at h
    · cases h
    · split at h
      · cases h
      · split at h
        · cases h
        · split at h
          · rename_i hg
            cases h
            exact hg
          · cases h
theorem R_levs {n m most : Nat} {nums : Nat → Int64} {g : Nat → Nat} {p1 : Nat → Int32} (hn : 100000 < n) (hm : m ≤ 1000) (hmo : most ≤ 16) (hg : ∀ j, j < m → nums j = ql64 (g j) ∧ g j < 32) :
    ∃ o, lp (fun v => f_R_takeLevelsOf_l46 2000 1000 (nI m) nums (nI most) v.1 v.2.1 v.2.2) n ((0 : Int32), p1, (0 : Int32)) = some o ∧ ((GAll m most g ∧ o.1 = 0 ∧ ∀ j, j < m → o.2.1 j = nI (g j)) ∨ (¬ GAll m most g ∧ o.1 = 9)) := by
  refine lp_inv (fun q u => ∃ i, i + q = m + 1 ∧ ((i ≤ m ∧ u.1 = 0 ∧ u.2.2 = nI i ∧ GAll i most g ∧ ∀ j, j < i → u.2.1 j = nI (g j)) ∨ (u.1 = 9 ∧ ¬ GAll m most g))) _ ?_ (m + 1) n _ ⟨0, by omega, Or.inl ⟨by omega, rfl, rfl, fun i hi => absurd hi (by omega), fun i hi => absurd hi (by omega)⟩⟩ (by omega)
  rintro q ⟨fa, l, i'⟩ ⟨i, g1, (⟨g2, g3, g4, g5, g6⟩ | ⟨g2, g3⟩)⟩
  · simp only at g3 g4 g6
    subst g3; subst g4
    show (∃ w', f_R_takeLevelsOf_l46 2000 1000 (nI m) nums (nI most) 0 l (nI i) = _ ∧ _) ∨ (∃ y, f_R_takeLevelsOf_l46 2000 1000 (nI m) nums (nI most) 0 l (nI i) = _ ∧ _)
    unfold f_R_takeLevelsOf_l46
    rw [ifle (by omega) (by omega)]
    by_cases ci : m ≤ i
    · have : i = m := by omega
      subst this
      rw [if_pos ci]
      exact Or.inr ⟨_, rfl, Or.inl ⟨g5, rfl, g6⟩⟩
    · have e1 : nI i + 1 = nI (i + 1) := qn_add i 1
      obtain ⟨n1, n2⟩ := hg i (by omega)
      have eg : (ql64 (g i)).toInt32 = nI (g i) := l64_i32 (by omega)
      have hj : ∀ fa : Int32, f_R_takeLevelsOf_j87 2000 1000 nums fa l (nI i) = some (Sum.inl (fa, upd l i (nI (g i)), nI (i + 1))) := by
        intro fa
        unfold f_R_takeLevelsOf_j87
        rw [gd_nI (by omega) (by omega), bnd_eq, gd_nI (by omega) (by omega), bnd_eq, qn_clamp (by omega), n1, eg, nI_byte (by omega), vp_nar_byte, nI_byte (by omega), e1]
      rw [if_neg ci, if_pos rfl, gd_nI (by omega) (by omega), qn_clamp (by omega), n1, lI64 (by omega), qifc (show (ql64 (g i) ≤ ql64 most) ↔ g i ≤ most from by rw [l64_le (by omega) (by omega)]), S_fail0, obs, hj, hj]
      by_cases cg : g i ≤ most
      · rw [if_pos cg]
        refine Or.inl ⟨_, rfl, q - 1, by omega, i + 1, by omega, Or.inl ⟨by omega, rfl, rfl, ?_, ?_⟩⟩
        · intro j hj
          by_cases ej : j = i
          · subst ej; exact cg
          · exact g5 j (by omega)
        · intro j hj
          show upd l i (nI (g i)) j = _
          unfold upd
          by_cases ej : j = i
          · rw [if_pos ej, ej]
          · rw [if_neg ej]; exact g6 j (by omega)
      · rw [if_neg cg]
        exact Or.inl ⟨_, rfl, q - 1, by omega, i + 1, by omega, Or.inr ⟨rfl, fun hx => cg (hx i (by omega))⟩⟩
  · simp only at g2
    subst g2
    show (∃ w', f_R_takeLevelsOf_l46 2000 1000 (nI m) nums (nI most) 9 l i' = _ ∧ _) ∨ (∃ y, f_R_takeLevelsOf_l46 2000 1000 (nI m) nums (nI most) 9 l i' = _ ∧ _)
    unfold f_R_takeLevelsOf_l46
    rw [if_neg (show ¬ (9 : Int32) = 0 by decide), ite_self]
    exact Or.inr ⟨_, rfl, Or.inr ⟨g3, rfl⟩⟩
theorem R_levsF {n : Nat} {m most f : Int32} {nums : Nat → Int64} {p1 : Nat → Int32} (hn : 100 < n) (hf : ¬ f = 0) : lp (fun v => f_R_takeLevelsOf_l46 2000 1000 m nums most v.1 v.2.1 v.2.2) n (f, p1, (0 : Int32)) = some (f, p1, 0) := by
  obtain ⟨y, rfl⟩ : ∃ y, n = y + 1 := ⟨n - 1, by omega⟩
  have : f_R_takeLevelsOf_l46 2000 1000 m nums most f p1 0 = some (Sum.inr (f, p1, 0)) := by
    unfold f_R_takeLevelsOf_l46
    rw [if_neg hf, ite_self]
  simp only [lp, this]
theorem R_levelsOf {n cap e a m most : Nat} {I : List UInt8} {row p1 : Nat → Int32} {nums : Nat → Int64} (hn : 100000 < n) (hcap : cap < 100000) (hI : I.length ≤ cap) (he : e ≤ I.length) (ha : a ≤ e) (hm : m ≤ 1000) (hmo : most ≤ 16) (h : HC I row) :
    ∃ o, f_R_takeLevelsOf n 2000 cap 1000 (nI m) nums (nI a) (nI e) 0 row p1 (nI most) = some o ∧ o.2.2.1 = nI e ∧ ((∃ x, pLev I e a m most = .inl x ∧ o.2.2.2.1 = nI x ∧ ¬ nI x = 0) ∨ (∃ a' g, pLev I e a m most = .inr (a', g) ∧ a' ≤ e ∧ o.2.1 = nI a' ∧ o.2.2.2.1 = 0 ∧ ∀ j, j < m → o.2.2.2.2 j = nI (g j))) := by
  unfold f_R_takeLevelsOf pLev
  rw [ife0 (by omega)]
  by_cases c0 : most = 0
  · rw [if_pos c0, if_pos c0]
    obtain ⟨of, f1, f2⟩ := B_fill0 (n := n) (cap := 1000) (a := 0) (k := m) (row := p1) hn (by omega) (by omega)
    have f1' : f_JA_fill_aBIIB n 1000 p1 0 (nI m) 0 = some of := by
      rw [Nat.zero_add] at f1; exact f1
    rw [f1', obs]
    refine ⟨_, rfl, rfl, Or.inr ⟨a, _, rfl, ha, rfl, rfl, fun j hj => ?_⟩⟩
    show of j = nI 0
    rw [f2 j, if_pos (by omega)]; rfl
  · rw [if_neg c0, if_neg c0]
    have hw5 : wd most ≤ 5 := wd5 hmo
    obtain ⟨o, y1, y2, y3⟩ := S_narrow (n := n) (cap := cap) (e := e) (a := a) (I := I) (row := row) hn hcap hI he ha h
    rw [y1, obs, F_widthOf _ (by omega), lv_nI (by omega), obs]
    unfold f_R_takeLevelsOf_j106
    rcases y3 with ⟨x, z1, z2, z3⟩ | ⟨a1, z, z1, z2, z3, z4, z5⟩
    · have hF : ¬ o.2.2.2 = 0 := by rw [z2]; exact z3
      rw [S_runsF (by omega) hF, obs, R_levsF (by omega) hF, obs]
      refine ⟨_, rfl, y2, Or.inl ⟨x, ?_, z2, z3⟩⟩
      cases hp : pVar I e a with
      | inl x2 => rw [hp] at z1; cases z1; rfl
      | inr az =>
        obtain ⟨b1, b2⟩ := az
        rw [hp] at z1
        simp only at z1 ⊢
        by_cases c1 : e - b1 < b2
        · rw [if_pos c1] at z1 ⊢; cases z1; rfl
        · rw [if_neg c1] at z1; cases z1
    · have hS : (match pVar I e a with
          | .inl x => .inl x
          | .inr (a1, z) => if e - a1 < z then .inl 1 else
            match pRunsE I (a1 + z) m (wd most) a1 with
            | .inl x => .inl x
            | .inr g => if GAll m most g then .inr (a1 + z, g) else .inl 9) = (match pRunsE I (a1 + z) m (wd most) a1 with
            | .inl x => .inl x
            | .inr g => if GAll m most g then .inr (a1 + z, g) else .inl 9 : Nat ⊕ (Nat × (Nat → Nat))) := by
        cases hp : pVar I e a with
        | inl x2 => rw [hp] at z1; cases z1
        | inr az =>
          obtain ⟨b1, b2⟩ := az
          rw [hp] at z1
          simp only at z1 ⊢
          by_cases c1 : e - b1 < b2
          · rw [if_pos c1] at z1; cases z1
          · rw [if_neg c1] at z1 ⊢; cases z1; rfl
      obtain ⟨orn, r1, r2⟩ := S_runs (n := n) (cap := cap) (pn := 2000) (e := a1 + z) (a := a1) (m := m) (w := wd most) (I := I) (row := row) (p1 := nums) hn hcap hI (by omega) (by omega) (by omega) hm rfl h
      rw [hS, z3, z4, z5, r1, obs]
      rcases r2 with ⟨x, s1, s2, s3⟩ | ⟨g, s1, s2, s3, s4⟩
      · have hF : ¬ orn.2.1 = 0 := by rw [s2]; exact s3
        rw [R_levsF (by omega) hF, obs, s1]
        exact ⟨_, rfl, y2, Or.inl ⟨x, rfl, s2, s3⟩⟩
      · have hp32 : 2 ^ wd most ≤ 2 ^ 5 := Nat.pow_le_pow_right (by omega) hw5
        obtain ⟨ol, l1, l2⟩ := R_levs (n := n) (m := m) (most := most) (nums := orn.2.2) (g := g) (p1 := p1) hn hm hmo (fun j hj => ⟨(s4 j hj).1, by have := (s4 j hj).2; omega⟩)
        rw [s3, l1, obs, s1]
        simp only
        rcases l2 with ⟨t1, t2, t3⟩ | ⟨t1, t2⟩
        · rw [if_pos t1]
          exact ⟨_, rfl, y2, Or.inr ⟨a1 + z, g, rfl, z2, s2, t2, t3⟩⟩
        · rw [if_neg t1]
          exact ⟨_, rfl, y2, Or.inl ⟨9, rfl, t2, by decide⟩⟩
theorem R_levelsOfF {n cap m most : Nat} {row p1 : Nat → Int32} {nums : Nat → Int64} {at' to' f : Int32} (hn : 100000 < n) (hm : m ≤ 1000) (hmo : most ≤ 16) (hf : ¬ f = 0) :
    ∃ o, f_R_takeLevelsOf n 2000 cap 1000 (nI m) nums at' to' f row p1 (nI most) = some o ∧ o.2.2.2.1 = f := by
  unfold f_R_takeLevelsOf
  rw [ife0 (by omega)]
  by_cases c0 : most = 0
  · obtain ⟨of, f1, f2⟩ := B_fill0 (n := n) (cap := 1000) (a := 0) (k := m) (row := p1) hn (by omega) (by omega)
    have f1' : f_JA_fill_aBIIB n 1000 p1 0 (nI m) 0 = some of := by
      rw [Nat.zero_add] at f1; exact f1
    rw [if_pos c0, f1', obs]
    exact ⟨_, rfl, rfl⟩
  · rw [if_neg c0, S_narrowF (by omega) hf, obs, F_widthOf _ (by omega), obs, S_runsF (by omega) hf, obs, R_levsF (by omega) hf, obs]
    exact ⟨_, rfl, rfl⟩
theorem P_addLevels2 {n cnt r0 d0 : Nat} {b : Bool} {defs reps vns : Nat → Int32} (hn : n < 1000) (hr : r0 < 128) (hd : d0 < 128) : f_P_addLevels 1000 1000 1000 (nI n) (nI cnt) defs reps vns (nI r0) (nI d0) (nI b.toNat) = some (nI (n + 1), nI (cnt + b.toNat), upd defs n (nI d0), upd reps n (nI r0), upd vns n (if b then nI cnt else -1)) := by
  unfold f_P_addLevels
  have i1 : (1000 : Int32) = nI 1000 := rfl
  have e1 : nI n + 1 = nI (n + 1) := qn_add n 1
  have e2 : nI cnt + 1 = nI (cnt + 1) := qn_add cnt 1
  rw [i1, ifl (by omega) (by omega), if_pos hn, gd_nI (by omega) (by omega), gd_nI (by omega) (by omega), qn_clamp (by omega), vp_nar_byte, vp_nar_byte, nI_byte hd, nI_byte hr, nI_byte hd, nI_byte hr]
  cases b with
  | true =>
    rw [if_neg (show ¬ nI (true.toNat) = 0 by decide)]
    unfold f_P_addLevels_j53
    rw [gd_nI (by omega) (by omega), bnd_eq, if_neg (show ¬ nI (true.toNat) = 0 by decide), bnd_eq, qn_clamp (by omega), e1, e2]
    rfl
  | false =>
    rw [if_pos (show nI (false.toNat) = 0 by decide)]
    unfold f_P_addLevels_j53
    rw [gd_nI (by omega) (by omega), bnd_eq, if_pos (show nI (false.toNat) = 0 by decide), qn_clamp (by omega), e1]
    rfl
def pLevels (I : List UInt8) (e a m r d c : Nat) : Nat ⊕ (Nat × (Nat → Nat) × (Nat → Nat)) :=
  match pLev I e a m r with
  | .inl x => .inl x
  | .inr (a1, rp) =>
    match pLev I e a1 m d with
    | .inl x => .inl x
    | .inr (a2, df) => if cntD df d m = c then .inr (a2, rp, df) else .inl 10
theorem R_addAll {n m d : Nat} {rp df : Nat → Nat} {defs reps vns : Nat → Int32} (hn : 100000 < n) (hm : m ≤ 1000) (hd : d ≤ 16) (hrp : ∀ k, k < m → reps k = nI (rp k) ∧ rp k ≤ 16) (hdf : ∀ k, k < m → defs k = nI (df k) ∧ df k ≤ 16) :
    ∃ o, lp (fun v => f_R_takeLevels_l51 1000 1000 1000 (nI m) (nI d) v.1 v.2.1 v.2.2.1 v.2.2.2.1 v.2.2.2.2.1 v.2.2.2.2.2) n ((0 : Int32), (0 : Int32), defs, reps, vns, (0 : Int32)) = some o ∧ o.1 = nI m ∧ o.2.1 = nI (cntD df d m) ∧ ∀ k, k < m → o.2.2.1 k = nI (df k) ∧ o.2.2.2.1 k = nI (rp k) ∧ o.2.2.2.2.1 k = if df k = d then nI (cntD df d k) else -1 := by
  refine lp_inv (fun q u => ∃ i, i + q = m ∧ u.1 = nI i ∧ u.2.1 = nI (cntD df d i) ∧ u.2.2.2.2.2 = nI i ∧ (∀ k, k < m → u.2.2.1 k = nI (df k) ∧ u.2.2.2.1 k = nI (rp k)) ∧ ∀ k, k < i → u.2.2.2.2.1 k = if df k = d then nI (cntD df d k) else -1) _ ?_ m n _ ⟨0, by omega, rfl, rfl, rfl, fun k hk => ⟨(hdf k hk).1, (hrp k hk).1⟩, fun k hk => absurd hk (by omega)⟩ (by omega)
  rintro q ⟨en, va, de, re, vn, i'⟩ ⟨i, g1, g2, g3, g4, g5, g6⟩
  simp only at g2 g3 g4 g5 g6
  subst g2; subst g3; subst g4
  show (∃ w', f_R_takeLevels_l51 1000 1000 1000 (nI m) (nI d) (nI i) (nI (cntD df d i)) de re vn (nI i) = _ ∧ _) ∨ (∃ y, f_R_takeLevels_l51 1000 1000 1000 (nI m) (nI d) (nI i) (nI (cntD df d i)) de re vn (nI i) = _ ∧ _)
  unfold f_R_takeLevels_l51
  rw [ifle (by omega) (by omega)]
  by_cases ci : m ≤ i
  · have : i = m := by omega
    subst this
    rw [if_pos ci]
    exact Or.inr ⟨_, rfl, rfl, rfl, fun k hk => ⟨(g5 k hk).1, (g5 k hk).2, g6 k hk⟩⟩
  · have e1 : nI i + 1 = nI (i + 1) := qn_add i 1
    obtain ⟨a1, a2⟩ := g5 i (by omega)
    have hd16 := (hdf i (by omega)).2
    have hr16 := (hrp i (by omega)).2
    unfold f_R_takeLevels_j90
    have hsel : (if df i = d then Option.bind (f_P_addLevels 1000 1000 1000 (nI i) (nI (cntD df d i)) de re vn (nI (rp i)) (nI (df i)) (1 : Int32)) (fun o12 => bnd (nI i + (1 : Int32)) (fun x13 => some (Sum.inl (o12.1, o12.2.1, o12.2.2.1, o12.2.2.2.1, o12.2.2.2.2, x13)))) else Option.bind (f_P_addLevels 1000 1000 1000 (nI i) (nI (cntD df d i)) de re vn (nI (rp i)) (nI (df i)) (0 : Int32)) (fun o12 => bnd (nI i + (1 : Int32)) (fun x13 => some (Sum.inl (o12.1, o12.2.1, o12.2.2.1, o12.2.2.2.1, o12.2.2.2.2, x13))))) = (some (Sum.inl (nI (i + 1), nI (cntD df d (i + 1)), upd de i (nI (df i)), upd re i (nI (rp i)), upd vn i (if df i = d then nI (cntD df d i) else -1), nI (i + 1))) : Option ((Int32 × Int32 × (Nat → Int32) × (Nat → Int32) × (Nat → Int32) × Int32) ⊕ (Int32 × Int32 × (Nat → Int32) × (Nat → Int32) × (Nat → Int32) × Int32))) := by
      by_cases cd : df i = d
      · have h1 := P_addLevels2 (n := i) (cnt := cntD df d i) (r0 := rp i) (d0 := df i) (b := true) (defs := de) (reps := re) (vns := vn) (by omega) (by omega) (by omega)
        have h1' : f_P_addLevels 1000 1000 1000 (nI i) (nI (cntD df d i)) de re vn (nI (rp i)) (nI (df i)) 1 = _ := h1
        rw [if_pos cd, h1', obs, bnd_eq, e1, if_pos cd]
        have hc : cntD df d (i + 1) = cntD df d i + true.toNat := by simp only [cntD]; rw [if_pos cd]; rfl
        rw [hc]; rfl
      · have h1 := P_addLevels2 (n := i) (cnt := cntD df d i) (r0 := rp i) (d0 := df i) (b := false) (defs := de) (reps := re) (vns := vn) (by omega) (by omega) (by omega)
        have h1' : f_P_addLevels 1000 1000 1000 (nI i) (nI (cntD df d i)) de re vn (nI (rp i)) (nI (df i)) 0 = _ := h1
        rw [if_neg cd, h1', obs, bnd_eq, e1, if_neg cd]
        have hc : cntD df d (i + 1) = cntD df d i + false.toNat := by simp only [cntD]; rw [if_neg cd]; rfl
        rw [hc]; rfl
    rw [if_neg ci, gd_nI (by omega) (by omega), bnd_eq, gd_nI (by omega) (by omega), qn_clamp (by omega), a1, a2, ife (by omega) (by omega), hsel]
    refine Or.inl ⟨_, rfl, q - 1, by omega, i + 1, by omega, rfl, rfl, rfl, ?_, ?_⟩
    · intro k hk
      show upd de i (nI (df i)) k = _ ∧ upd re i (nI (rp i)) k = _
      unfold upd
      by_cases ek : k = i
      · rw [if_pos ek, if_pos ek, ek]; exact ⟨rfl, rfl⟩
      · rw [if_neg ek, if_neg ek]; exact g5 k hk
    · intro k hk
      show upd vn i _ k = _
      unfold upd
      by_cases ek : k = i
      · rw [if_pos ek, ek]
      · rw [if_neg ek]; exact g6 k (by omega)
theorem R_takeLevels {n cap e a m r d c t : Nat} {I : List UInt8} {row defs reps vns : Nat → Int32} {nums : Nat → Int64} (hn : 100000 < n) (hcap : cap < 100000) (hI : I.length ≤ cap) (he : e ≤ I.length) (ha : a ≤ e) (hm : m ≤ 1000) (hr : r ≤ 16) (hd : d ≤ 16) (hc : c ≤ 1000) (ht : t ≤ 3) (h : HC I row) :
    ∃ o, f_R_takeLevels n 2000 cap 1000 1000 1000 (nI m) (nI c) (nI t) (nI r) (nI d) nums (nI a) (nI e) 0 row defs reps vns = some o ∧ o.2.2.1 = nI e ∧ o.2.2.2.2.2.2.2.2.2.1 = nI (if t = 3 then 1 else 0) ∧ o.2.2.2.2.2.2.2.2.2.2 = nI 0 ∧ ((∃ x, pLevels I e a m r d c = .inl x ∧ o.2.2.2.1 = nI x ∧ ¬ nI x = 0) ∨ (∃ a' rp df, pLevels I e a m r d c = .inr (a', rp, df) ∧ a' ≤ e ∧ GAll m r rp ∧ GAll m d df ∧ cntD df d m = c ∧ o.2.1 = nI a' ∧ o.2.2.2.1 = 0 ∧ o.2.2.2.2.1 = nI m ∧ o.2.2.2.2.2.1 = nI c ∧ ∀ k, k < m → o.2.2.2.2.2.2.1 k = nI (df k) ∧ o.2.2.2.2.2.2.2.1 k = nI (rp k) ∧ o.2.2.2.2.2.2.2.2.1 k = if df k = d then nI (cntD df d k) else -1)) := by
  unfold f_R_takeLevels pLevels
  have hmk : f_P_makeEmpty (nI t) = some (0, 0, nI (if t = 3 then 1 else 0), 0) := by
    unfold f_P_makeEmpty f_P_makeEmpty_j27
    rw [ife3 (by omega)]
    split <;> rfl
  rw [hmk, obs]
  obtain ⟨o1, y1, y2, y3⟩ := R_levelsOf (n := n) (cap := cap) (e := e) (a := a) (m := m) (most := r) (I := I) (row := row) (p1 := reps) (nums := nums) hn hcap hI he ha hm hr h
  rw [y1, obs]
  rcases y3 with ⟨x, z1, z2, z3⟩ | ⟨a1, rp, z1, z2, z3, z4, z5⟩
  · have hF : ¬ o1.2.2.2.1 = 0 := by rw [z2]; exact z3
    obtain ⟨o2, w1, w2⟩ := R_levelsOfF (n := n) (cap := cap) (m := m) (most := d) (row := row) (p1 := defs) (nums := o1.1) (at' := o1.2.1) (to' := o1.2.2.1) (f := o1.2.2.2.1) hn hm hd hF
    rw [w1, obs, w2, if_neg hF, z1]
    by_cases c0 : d = 0
    · have hto : o2.2.2.1 = o1.2.2.1 := by
        unfold f_R_takeLevelsOf at w1
        obtain ⟨of, f1, f2⟩ := B_fill0 (n := n) (cap := 1000) (a := 0) (k := m) (row := defs) hn (by omega) (by omega)
        have f1' : f_JA_fill_aBIIB n 1000 defs 0 (nI m) 0 = some of := by
          rw [Nat.zero_add] at f1; exact f1
        rw [ife0 (by omega), if_pos c0, f1', obs] at w1
        cases w1; rfl
      exact ⟨_, rfl, hto.trans y2, rfl, rfl, Or.inl ⟨x, rfl, z2, z3⟩⟩
    · have hto : o2.2.2.1 = o1.2.2.1 := by
        unfold f_R_takeLevelsOf at w1
        rw [ife0 (by omega), if_neg c0, S_narrowF (by omega) hF, obs, F_widthOf _ (by omega), obs, S_runsF (by omega) hF, obs, R_levsF (by omega) hF, obs] at w1
        unfold f_R_takeLevelsOf_j106 at w1
        cases w1; rfl
      exact ⟨_, rfl, hto.trans y2, rfl, rfl, Or.inl ⟨x, rfl, z2, z3⟩⟩
  · obtain ⟨o2, w1, w2, w3⟩ := R_levelsOf (n := n) (cap := cap) (e := e) (a := a1) (m := m) (most := d) (I := I) (row := row) (p1 := defs) (nums := o1.1) hn hcap hI he z2 hm hd h
    rw [z3, y2, z4, w1, obs, z1]
    simp only
    rcases w3 with ⟨x, u1, u2, u3⟩ | ⟨a2, df, u1, u2, u3, u4, u5⟩
    · have hF : ¬ o2.2.2.2.1 = 0 := by rw [u2]; exact u3
      rw [if_neg hF, u1]
      exact ⟨_, rfl, w2, rfl, rfl, Or.inl ⟨x, rfl, u2, u3⟩⟩
    · have hg1 := pLev_le z1
      have hg2 := pLev_le u1
      obtain ⟨ol, l1, l2, l3, l4⟩ := R_addAll (n := n) (m := m) (d := d) (rp := rp) (df := df) (defs := o2.2.2.2.2) (reps := o1.2.2.2.2) (vns := vns) hn hm hd (fun k hk => ⟨z5 k hk, by have := hg1 k hk; omega⟩) (fun k hk => ⟨u5 k hk, by have := hg2 k hk; omega⟩)
      have hcm := cntD_le df d m
      rw [u4, if_pos rfl, l1, obs, u1]
      unfold f_R_takeLevels_j99
      rw [l3, ife (by omega) (by omega), S_fail0, obs]
      simp only
      by_cases cc : cntD df d m = c
      · rw [if_pos cc, if_pos cc]
        exact ⟨_, rfl, w2, rfl, rfl, Or.inr ⟨a2, rp, df, rfl, u2, hg1, hg2, cc, u3, rfl, l2, by rw [cc], l4⟩⟩
      · rw [if_neg cc, if_neg cc]
        exact ⟨_, rfl, w2, rfl, rfl, Or.inl ⟨10, rfl, rfl, by decide⟩⟩
theorem R_takeLevelsF {n cap m r d t : Nat} {row defs reps vns : Nat → Int32} {nums : Nat → Int64} {c at' to' f : Int32} (hn : 100000 < n) (hm : m ≤ 1000) (hr : r ≤ 16) (hd : d ≤ 16) (ht : t ≤ 3) (hf : ¬ f = 0) :
    ∃ o, f_R_takeLevels n 2000 cap 1000 1000 1000 (nI m) c (nI t) (nI r) (nI d) nums at' to' f row defs reps vns = some o ∧ o.2.2.2.1 = f := by
  unfold f_R_takeLevels
  have hmk : f_P_makeEmpty (nI t) = some (0, 0, nI (if t = 3 then 1 else 0), 0) := by
    unfold f_P_makeEmpty f_P_makeEmpty_j27
    rw [ife3 (by omega)]
    split <;> rfl
  rw [hmk, obs]
  obtain ⟨o1, y1, y2⟩ := R_levelsOfF (n := n) (cap := cap) (m := m) (most := r) (row := row) (p1 := reps) (nums := nums) (at' := at') (to' := to') (f := f) hn hm hr hf
  rw [y1, obs]
  obtain ⟨o2, w1, w2⟩ := R_levelsOfF (n := n) (cap := cap) (m := m) (most := d) (row := row) (p1 := defs) (nums := o1.1) (at' := o1.2.1) (to' := o1.2.2.1) (f := o1.2.2.2.1) hn hm hd (by rw [y2]; exact hf)
  rw [w1, obs, w2, y2, if_neg hf]
  exact ⟨_, rfl, rfl⟩
