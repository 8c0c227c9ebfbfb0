theorem M_lwidth {n most : Nat} (hn : 100000 < n) (hmo : most ≤ 16) : lp (fun v => f_M_readLevels_l102 (nI most) v) n (0 : Int32) = some (nI (wd most)) := by
  have main : ∃ o, lp (fun v => f_M_readLevels_l102 (nI most) v) n (0 : Int32) = some o ∧ o = nI (wd most) := by
    have hw5 := wd5 hmo
    refine lp_inv (fun q u => ∃ i, i + q = wd most ∧ u = nI i) _ ?_ (wd most) n _ ⟨0, by omega, rfl⟩ (by omega)
    rintro q v ⟨i, g1, g2⟩
    subst g2
    show (∃ w', f_M_readLevels_l102 (nI most) (nI i) = _ ∧ _) ∨ (∃ y, f_M_readLevels_l102 (nI most) (nI i) = _ ∧ _)
    unfold f_M_readLevels_l102
    have hdv : most / 2 ^ i ≤ most := Nat.div_le_self _ _
    have hc : (nI (most / 2 ^ i) ≤ 0) ↔ wd most ≤ i := by
      rw [QI0, qn_le (by omega) (by omega), wd_iff]
      constructor
      · intro hx
        exact (Nat.div_eq_zero_iff_lt (Nat.two_pow_pos i)).mp (Nat.le_zero.mp hx)
      · intro hx
        rw [Nat.div_eq_of_lt hx]; exact Nat.le_refl _
    have e1 : nI i + 1 = nI (i + 1) := qn_add i 1
    rw [nI_shr (by omega) (by omega), qifc hc]
    by_cases ci : wd most ≤ i
    · rw [if_pos ci]
      exact Or.inr ⟨_, rfl, by congr 1; omega⟩
    · rw [if_neg ci, bnd_eq, e1]
      exact Or.inl ⟨_, rfl, q - 1, by omega, i + 1, by omega, rfl⟩
  obtain ⟨o, h1, h2⟩ := main
  rw [h1, h2]
theorem M_levsF {n pn : Nat} {at' f m most : Int32} {p1 : Nat → Int32} (hn : 100 < n) (hf : ¬ f = 0) : f_M_readLevels_j147 n pn at' f p1 m most = some (at', f, p1) := by
  unfold f_M_readLevels_j147
  obtain ⟨y, rfl⟩ : ∃ y, n = y + 1 := ⟨n - 1, by omega⟩
  have : f_M_readLevels_l150 pn at' p1 m most f 0 = some (Sum.inr (at', f, p1)) := by
    unfold f_M_readLevels_l150
    rw [if_neg hf, ite_self]
  simp only [lp, this]; rfl
theorem M_levs {n m most pn : Nat} {g : Nat → Nat} {at' : Int32} {p1 : Nat → Int32} (hn : 100000 < n) (hm : m ≤ 1000) (hpn : m ≤ pn) (hmo : most ≤ 16) (hg : ∀ j, j < m → p1 j = nI (g j) ∧ g j < 32) :
    f_M_readLevels_j147 n pn at' 0 p1 (nI m) (nI most) = some (at', (if GAll m most g then 0 else 9), p1) := by
  unfold f_M_readLevels_j147
  have main : ∃ o, lp (fun v => f_M_readLevels_l150 pn at' p1 (nI m) (nI most) v.1 v.2) n ((0 : Int32), (0 : Int32)) = some o ∧ o = (at', (if GAll m most g then 0 else 9), p1) := by
    refine lp_inv (fun q u => ∃ i, i + q = m + 1 ∧ ((i ≤ m ∧ u.1 = 0 ∧ u.2 = nI i ∧ GAll i most g) ∨ (u.1 = 9 ∧ ¬ GAll m most g))) _ ?_ (m + 1) n _ ⟨0, by omega, Or.inl ⟨by omega, rfl, rfl, fun i hi => absurd hi (by omega)⟩⟩ (by omega)
    rintro q ⟨fa, i'⟩ ⟨i, g1, (⟨g2, g3, g4, g5⟩ | ⟨g2, g3⟩)⟩
    · simp only at g3 g4
      subst g3; subst g4
      show (∃ w', f_M_readLevels_l150 pn at' p1 (nI m) (nI most) 0 (nI i) = _ ∧ _) ∨ (∃ y, f_M_readLevels_l150 pn at' p1 (nI m) (nI most) 0 (nI i) = _ ∧ _)
      unfold f_M_readLevels_l150
      rw [ifle (by omega) (by omega)]
      by_cases ci : m ≤ i
      · have : i = m := by omega
        subst this
        rw [if_pos ci]
        exact Or.inr ⟨_, rfl, by rw [if_pos g5]⟩
      · have e1 : nI i + 1 = nI (i + 1) := qn_add i 1
        have g0 : ∀ {α : Type} {t : Option α}, gd (inB (nI i) pn) t = t := fun {α t} => gd_nI (by omega) (by omega)
        obtain ⟨n1, n2⟩ := hg i (by omega)
        unfold f_M_readLevels_j178
        rw [if_neg ci, if_pos rfl, g0, g0, qn_clamp (by omega), n1, qif0 (by omega), ifle (by omega) (by omega), bnd_eq, bnd_eq, e1]
        by_cases cg : g i ≤ most
        · rw [if_pos cg]
          refine Or.inl ⟨_, rfl, q - 1, by omega, i + 1, by omega, Or.inl ⟨by omega, rfl, rfl, ?_⟩⟩
          intro j hj
          by_cases ej : j = i
          · subst ej; exact cg
          · exact g5 j (by omega)
        · rw [if_neg cg]
          exact Or.inl ⟨_, rfl, q - 1, by omega, i + 1, by omega, Or.inr ⟨rfl, fun hx => cg (hx i (by omega))⟩⟩
    · simp only at g2
      subst g2
      show (∃ w', f_M_readLevels_l150 pn at' p1 (nI m) (nI most) 9 i' = _ ∧ _) ∨ (∃ y, f_M_readLevels_l150 pn at' p1 (nI m) (nI most) 9 i' = _ ∧ _)
      unfold f_M_readLevels_l150
      rw [if_neg (show ¬ (9 : Int32) = 0 by decide), ite_self]
      exact Or.inr ⟨_, rfl, by rw [if_neg g3]⟩
  obtain ⟨o, h1, h2⟩ := main
  rw [h1, h2]; rfl
theorem M_lzero {n m pn most : Nat} {p1 : Nat → Int32} (hn : 100000 < n) (hm : m ≤ 1000) (hpn : m ≤ pn) (hmo : most ≤ 16) :
    ∃ o, lp (fun v => f_M_readLevels_l3 pn (nI m) (nI most) v.1 v.2) n (p1, (0 : Int32)) = some o ∧ (most = 0 → ∀ j, j < m → o.1 j = nI 0) := by
  refine lp_inv (fun q u => ∃ i, i + q = m ∧ u.2 = nI i ∧ (most = 0 → ∀ j, j < i → u.1 j = nI 0)) _ ?_ m n _ ⟨0, by omega, rfl, fun _ j hj => absurd hj (by omega)⟩ (by omega)
  rintro q ⟨l, i'⟩ ⟨i, g1, g2, g3⟩
  simp only at g2 g3
  subst g2
  show (∃ w', f_M_readLevels_l3 pn (nI m) (nI most) l (nI i) = _ ∧ _) ∨ (∃ y, f_M_readLevels_l3 pn (nI m) (nI most) l (nI i) = _ ∧ _)
  unfold f_M_readLevels_l3
  rw [ifle (by omega) (by omega), ife0 (by omega)]
  by_cases ci : m ≤ i
  · have : i = m := by omega
    subst this
    rw [if_pos ci]
    exact Or.inr ⟨_, rfl, g3⟩
  · rw [if_neg ci]
    by_cases c0 : most = 0
    · have e1 : nI i + 1 = nI (i + 1) := qn_add i 1
      rw [if_pos c0, gd_nI (by omega) (by omega), bnd_eq, qn_clamp (by omega), e1]
      refine Or.inl ⟨_, rfl, q - 1, by omega, i + 1, by omega, rfl, ?_⟩
      intro _ j hj
      show upd l i 0 j = _
      unfold upd
      by_cases ej : j = i
      · rw [if_pos ej]; rfl
      · rw [if_neg ej]; exact g3 c0 j (by omega)
    · rw [if_neg c0]
      exact Or.inr ⟨_, rfl, fun h0 => absurd h0 c0⟩
theorem M_readLevels {n cap e a m most pn : Nat} {I : List UInt8} {inp p1 : Nat → Int32} (hn : 100000 < n) (hcap : cap < 100000) (hI : I.length ≤ cap) (he : e ≤ I.length) (ha : a ≤ e) (hm : m ≤ 1000) (hpn : m ≤ pn) (hmo : most ≤ 16) (h : QHM I inp) :
    ∃ o, f_M_readLevels n cap pn (nI a) (nI e) 0 inp p1 (nI m) (nI most) = some o ∧ ((∃ x, pLev I e a m most = .inl x ∧ o.2.1 = nI x ∧ ¬ nI x = 0) ∨ (∃ a' g, pLev I e a m most = .inr (a', g) ∧ a' ≤ e ∧ o.1 = nI a' ∧ o.2.1 = 0 ∧ ∀ j, j < m → o.2.2 j = nI (g j))) := by
  unfold f_M_readLevels pLev
  obtain ⟨ol, l1, l2⟩ := M_lzero (n := n) (m := m) (pn := pn) (most := most) (p1 := p1) hn hm hpn hmo
  rw [l1, obs]
  unfold f_M_readLevels_j24 f_M_readLevels_j76
  rw [ife0 (by omega)]
  by_cases c0 : most = 0
  · rw [if_pos c0, if_pos c0]
    exact ⟨_, rfl, Or.inr ⟨a, _, rfl, ha, rfl, rfl, l2 c0⟩⟩
  · rw [if_neg c0, if_neg c0, if_pos rfl]
    have hw5 : wd most ≤ 5 := wd5 hmo
    obtain ⟨o, p1', p2⟩ := M_varint (n := n) (cap := cap) (e := e) (a := a) (I := I) (inp := inp) (by omega) hcap hI he ha h
    rw [p1', obs]
    cases hp : pVar I e a with
    | inl x =>
      rw [hp] at p2
      obtain ⟨q1, q2, q3⟩ := p2
      have hF : ¬ o.2.2 = 0 := by rw [q2]; exact q3
      rw [if_neg hF]
      unfold f_M_readLevels_j81
      rw [if_neg hF]
      exact ⟨_, rfl, Or.inl ⟨x, rfl, q2, q3⟩⟩
    | inr am =>
      obtain ⟨a1, z⟩ := am
      rw [hp] at p2
      obtain ⟨q1, q2, q3⟩ := p2
      obtain ⟨v1, v2, v3⟩ := pVar_a hp
      rw [q1, q2, q3, if_pos rfl, nI_sub v2, lI64 (by omega), lrange v3 (by omega)]
      simp only
      unfold f_M_readLevels_j81
      by_cases c1 : e - a1 < z
      · rw [if_pos c1, if_pos c1, if_neg (show ¬ (1 : Int32) = 0 by decide)]
        exact ⟨_, rfl, Or.inl ⟨1, rfl, rfl, by decide⟩⟩
      · have ez : (ql64 z).toInt32 = nI z := l64_i32 (by omega)
        rw [if_neg c1, if_neg c1, if_pos rfl, bnd_eq, ez, qn_add, M_lwidth hn hmo, obs]
        unfold f_M_readLevels_j115
        obtain ⟨orn, r1, r2⟩ := M_readRuns (n := n) (cap := cap) (pn := pn) (e := a1 + z) (a := a1) (m := m) (w := wd most) (I := I) (inp := inp) (p1 := ol.1) hn hcap hI (by omega) (by omega) (by omega) hm hpn h
        rw [r1, obs]
        rcases r2 with ⟨x, t1, t2, t3⟩ | ⟨b, g, t1, t2, t3, t4, t5⟩
        · have hF : ¬ orn.2.1 = 0 := by rw [t2]; exact t3
          have hE : pRunsE I (a1 + z) m (wd most) a1 = .inl x := by unfold pRunsE; rw [t1]
          rw [if_neg hF, M_levsF (by omega) hF, hE]
          exact ⟨_, rfl, Or.inl ⟨x, rfl, t2, t3⟩⟩
        · rw [t3, t4, if_pos rfl, ifle (by omega) (by omega)]
          by_cases cb : b < a1 + z
          · have hE : pRunsE I (a1 + z) m (wd most) a1 = .inl 6 := by
              unfold pRunsE; rw [t1]
              show (if b < a1 + z then _ else _) = _
              rw [if_pos cb]
            rw [if_neg (by omega), M_levsF (by omega) (show ¬ (6 : Int32) = 0 by decide), hE]
            exact ⟨_, rfl, Or.inl ⟨6, rfl, rfl, by decide⟩⟩
          · have hE : pRunsE I (a1 + z) m (wd most) a1 = .inr g := by
              unfold pRunsE; rw [t1]
              show (if b < a1 + z then _ else _) = _
              rw [if_neg cb]
            have hp32 : 2 ^ wd most ≤ 2 ^ 5 := Nat.pow_le_pow_right (by omega) hw5
            rw [if_pos (by omega), M_levs (g := g) hn hm hpn hmo (fun j hj => ⟨(t5 j hj).1, by have := (t5 j hj).2; omega⟩), hE]
            simp only
            by_cases cg : GAll m most g
            · rw [if_pos cg, if_pos cg]
              exact ⟨_, rfl, Or.inr ⟨a1 + z, g, rfl, by omega, by rw [show b = a1 + z by omega], rfl, fun j hj => (t5 j hj).1⟩⟩
            · rw [if_neg cg, if_neg cg]
              exact ⟨_, rfl, Or.inl ⟨9, rfl, rfl, by decide⟩⟩
theorem M_readLevelsF {n cap m most pn : Nat} {inp p1 : Nat → Int32} {at' st f : Int32} (hn : 100000 < n) (hm : m ≤ 1000) (hpn : m ≤ pn) (hmo : most ≤ 16) (hf : ¬ f = 0) :
    ∃ o, f_M_readLevels n cap pn at' st f inp p1 (nI m) (nI most) = some o ∧ o.2.1 = f := by
  unfold f_M_readLevels
  obtain ⟨ol, l1, l2⟩ := M_lzero (n := n) (m := m) (pn := pn) (most := most) (p1 := p1) hn hm hpn hmo
  rw [l1, obs]
  unfold f_M_readLevels_j24
  rw [if_neg hf, ite_self]
  exact ⟨_, rfl, rfl⟩
theorem M_has {n m : Nat} {D : Int32} {nd : Nat → Int32} (hn : 100000 < n) (hm : m ≤ 1000) :
    ∃ o, lp (fun v => f_M_readBody_l32 1008 D nd (nI m) v.1 v.2) n ((0 : Int32), (0 : Int32)) = some o ∧ ∀ (d : Nat) (df : Nat → Nat), D = nI d → d ≤ 16 → (∀ k, k < m → nd k = nI (df k) ∧ df k ≤ 16) → o.1 = nI (cntD df d m) := by
  refine lp_inv (fun q u => ∃ i, i + q = m ∧ u.2 = nI i ∧ ∀ (d : Nat) (df : Nat → Nat), D = nI d → d ≤ 16 → (∀ k, k < m → nd k = nI (df k) ∧ df k ≤ 16) → u.1 = nI (cntD df d i)) _ ?_ m n _ ⟨0, by omega, rfl, fun _ _ _ _ _ => rfl⟩ (by omega)
  rintro q ⟨h, i'⟩ ⟨i, g1, g2, g3⟩
  simp only at g2 g3
  subst g2
  show (∃ w', f_M_readBody_l32 1008 D nd (nI m) h (nI i) = _ ∧ _) ∨ (∃ y, f_M_readBody_l32 1008 D nd (nI m) h (nI i) = _ ∧ _)
  unfold f_M_readBody_l32
  rw [ifle (by omega) (by omega)]
  by_cases ci : m ≤ i
  · have : i = m := by omega
    subst this
    rw [if_pos ci]
    exact Or.inr ⟨_, rfl, g3⟩
  · have e1 : nI i + 1 = nI (i + 1) := qn_add i 1
    rw [if_neg ci, gd_nI (by omega) (by omega), bnd_eq, bnd_eq, bnd_eq, bnd_eq, e1, qn_clamp (by omega)]
    by_cases cd : nd i = D
    · rw [if_pos cd]
      refine Or.inl ⟨_, rfl, q - 1, by omega, i + 1, by omega, rfl, ?_⟩
      intro d df h1 h2 h3
      show h + 1 = _
      have hd : df i = d := by
        have := cd
        rw [(h3 i (by omega)).1, h1, nI_inj (by have := (h3 i (by omega)).2; omega) (by omega)] at this
        exact this
      simp only [cntD]
      rw [if_pos hd, g3 d df h1 h2 h3]
      exact qn_add _ 1
    · rw [if_neg cd]
      refine Or.inl ⟨_, rfl, q - 1, by omega, i + 1, by omega, rfl, ?_⟩
      intro d df h1 h2 h3
      show h + 0 = _
      have hd : ¬ df i = d := by
        intro hx
        apply cd
        rw [(h3 i (by omega)).1, h1, hx]
      simp only [cntD]
      rw [if_neg hd, g3 d df h1 h2 h3]
      exact qn_add _ 0
