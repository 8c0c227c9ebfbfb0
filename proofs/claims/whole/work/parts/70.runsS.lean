def pRunsE (I : List UInt8) (e m w a : Nat) : Nat ⊕ (Nat → Nat) :=
  match pRuns I e m w a with
  | .inl x => .inl x
  | .inr (a', f) => if a' < e then .inl 6 else .inr f
theorem qifc {α : Type} {b c : Prop} [Decidable b] [Decidable c] {x y : α} (h : b ↔ c) : (if b then x else y) = if c then x else y := by
  by_cases hc : c
  · rw [if_pos (h.mpr hc), if_pos hc]
  · rw [if_neg (fun q => hc (h.mp q)), if_neg hc]
theorem shr1 {h : Nat} (hh : h < 18446744073709551616) : ((ql64 h).toUInt64 >>> ((1 : Int32).toInt64.toUInt64 &&& Int64.toUInt64 63)).toInt64 = ql64 (h / 2) := by
  apply lv_inj
  have : lv (1 : Int32).toInt64 % 64 = 1 := rfl
  rw [lv_shr, lv_l64 hh, lv_l64 (by omega), this, Nat.shiftRight_eq_div_pow]
theorem and1z {h : Nat} (hh : h < 18446744073709551616) : ((ql64 h) &&& 1 = 0) ↔ h % 2 = 0 := by
  have : lv 1 = 1 := rfl
  rw [lv_zero, lv_and, lv_l64 hh, this, Nat.and_one_is_mod]
theorem S_takeCount {c mx : Nat} (hc : c < 9223372036854775808) (hmx : mx < 100000) : f_S_takeCount 0 (ql64 c) (nI mx) = some (if c = 0 then ((0 : Int32), (3 : Int32)) else if mx < c then ((0 : Int32), (4 : Int32)) else (nI c, (0 : Int32))) := by
  unfold f_S_takeCount f_S_takeCount_j11
  have e0 : (ql64 c = 0) = (c = 0) := l64_inj (b := 0) (by omega) (by omega)
  rw [lI64 (by omega)]
  simp only [e0, l64_le hc (show mx < 9223372036854775808 by omega)]
  by_cases c0 : c = 0
  · rw [if_pos c0, if_pos c0, S_fail0, obs, if_pos (by omega)]
    unfold f_S_takeCount_j23
    rw [if_neg (by decide)]
  · rw [if_neg c0, if_neg c0]
    by_cases c1 : mx < c
    · rw [if_neg (by omega), if_pos c1, S_fail0, obs]
      unfold f_S_takeCount_j23
      rw [if_neg (by decide)]
    · rw [if_pos (by omega), if_neg c1]
      unfold f_S_takeCount_j23
      rw [if_pos rfl]
      have : (ql64 c).toInt32 = nI c := l64_i32 (by omega)
      rw [this]
theorem S_takeCountF {f : Int32} (v : Int64) (mx : Int32) (hf : ¬ f = 0) : f_S_takeCount f v mx = some (0, f) := by
  unfold f_S_takeCount f_S_takeCount_j11
  have h23 : f_S_takeCount_j23 f v = some (0, f) := by unfold f_S_takeCount_j23; rw [if_neg hf]
  simp only [S_failF _ hf, obs, h23, ite_self]
theorem S_runs {n cap pn e a m w : Nat} {I : List UInt8} {row : Nat → Int32} {p1 : Nat → Int64} (hn : 100000 < n) (hc : cap < 100000) (hI : I.length ≤ cap) (he : e ≤ I.length) (ha : a ≤ e) (hw : w ≤ 32) (hm : m ≤ 1000) (hpn : pn = 2000) (h : HC I row) :
    ∃ o, f_S_runs n cap pn (nI a) (nI e) 0 row p1 (nI m) (nI w) = some o ∧
      ((∃ f, pRunsE I e m w a = .inl f ∧ o.2.1 = nI f ∧ ¬ nI f = 0) ∨ (∃ g, pRunsE I e m w a = .inr g ∧ o.1 = nI e ∧ o.2.1 = 0 ∧ ∀ j, j < m → o.2.2 j = ql64 (g j) ∧ g j < 2 ^ w)) := by
  unfold f_S_runs
  have main : ∃ o, lp (fun v => f_S_runs_l6 n cap pn (nI e) row (nI m) (nI w) v.1 v.2.1 v.2.2.1 v.2.2.2.1 v.2.2.2.2) n (nI a, (0 : Int32), p1, (0 : Int32), (0 : Int32)) = some o ∧
      ((∃ f, pRuns I e m w a = .inl f ∧ o.2.1 = nI f ∧ ¬ nI f = 0) ∨ (∃ b g, pRuns I e m w a = .inr (b, g) ∧ b ≤ e ∧ o.1 = nI b ∧ o.2.1 = 0 ∧ ∀ j, j < m → o.2.2.1 j = ql64 (g j) ∧ g j < 2 ^ w)) := by
    refine lp_inv (fun q u => (∃ b k r g, r + q = m + 2 ∧ r ≤ m ∧ r ≤ k ∧ k ≤ m + 7 ∧ b ≤ e ∧ u.1 = nI b ∧ u.2.1 = 0 ∧ u.2.2.2.1 = nI k ∧ u.2.2.2.2 = nI r ∧ pRunsG I e m w (m + 1 - r) b k g = pRuns I e m w a ∧ ∀ j, j < m → j < k → u.2.2.1 j = ql64 (g j) ∧ g j < 2 ^ w) ∨ (0 < q ∧ ∃ f, pRuns I e m w a = .inl f ∧ u.2.1 = nI f ∧ ¬ nI f = 0)) _ ?_ (m + 2) n _ (Or.inl ⟨a, 0, 0, fun _ => 0, by omega, by omega, by omega, by omega, ha, rfl, rfl, rfl, rfl, rfl, fun j _ hj => absurd hj (by omega)⟩) (by omega)
    rintro q ⟨at', fa, nu, k', r'⟩ (⟨b, k, r, g, g1, g2, g3, g4, g5, g6, g7, g8, g9, g10, g11⟩ | ⟨q0, f, g1, g2, g3⟩)
    · simp only at g6 g7 g8 g9 g11
      subst g6; subst g7; subst g8; subst g9
      show (∃ w', f_S_runs_l6 n cap pn (nI e) row (nI m) (nI w) (nI b) 0 nu (nI k) (nI r) = _ ∧ _) ∨ (∃ x, f_S_runs_l6 n cap pn (nI e) row (nI m) (nI w) (nI b) 0 nu (nI k) (nI r) = _ ∧ _)
      unfold f_S_runs_l6
      have hun : ∀ x y, pRunsG I e m w (m + 1 - r) b k g = x → (pRunsG I e m w (m - r + 1) b k g = y) → x = y := by
        intro x y h1 h2
        rw [show m + 1 - r = m - r + 1 by omega] at h1
        rw [← h1, h2]
      rw [ifle (by omega) (by omega), ifle (by omega) (by omega)]
      by_cases cend : m ≤ k
      · have : (if m ≤ r then some (Sum.inr ((nI b, (0 : Int32), nu, nI k, nI r))) else if m ≤ k then some (Sum.inr ((nI b, (0 : Int32), nu, nI k, nI r))) else if (0 : Int32) = 0 then Option.bind (f_S_varint n cap (nI b) (nI e) 0 row) (fun o63 => (if (o63.1 &&& (1 : Int64)) = (0 : Int64) then f_S_runs_j45 n cap pn o63.2.1 (nI e) o63.2.2 row nu (nI m) (nI w) (nI k) (nI r) o63.1 (1 : Int32) else f_S_runs_j45 n cap pn o63.2.1 (nI e) o63.2.2 row nu (nI m) (nI w) (nI k) (nI r) o63.1 (0 : Int32))) else some (Sum.inr ((nI b, (0 : Int32), nu, nI k, nI r)))) = some (Sum.inr ((nI b, (0 : Int32), nu, nI k, nI r))) := by
          rw [if_pos cend, ite_self]
        rw [this]
        refine Or.inr ⟨_, rfl, Or.inr ⟨b, g, ?_, g5, rfl, rfl, fun j hj => g11 j hj (by omega)⟩⟩
        apply hun _ _ g10
        show (if m ≤ k then _ else _) = _
        rw [if_pos cend]
      · rw [if_neg (show ¬ m ≤ r by omega), if_neg cend, if_pos rfl]
        obtain ⟨o, p1', p2⟩ := S_varint (n := n) (cap := cap) (e := e) (a := b) (I := I) (row := row) (by omega) hc hI he g5 h
        rw [p1', obs]
        have hG : pRuns I e m w a = match pVar I e b with
            | .inl x => .inl x
            | .inr (a1, h) =>
              if h / 2 = 0 then .inl 3
              else if h % 2 = 0 then
                (if m - k < h / 2 then .inl 4 else
                  match pOne I e w a1 with
                  | .inl x => .inl x
                  | .inr (a2, v) => pRunsG I e m w (m - r) a2 (k + h / 2) (fun j => if j < k then g j else v))
              else
                (if (m - k + 7) / 8 < h / 2 then .inl 4 else
                  match pGrp I e w a1 (m - k) (h / 2) with
                  | .inl x => .inl x
                  | .inr a2 => pRunsG I e m w (m - r) a2 (k + 8 * (h / 2)) (fun j => if j < k then g j else gval I w a1 (j - k))) := by
          apply hun _ _ g10
          show (if m ≤ k then _ else _) = _
          rw [if_neg cend]
          rfl
        unfold f_S_runs_j45 f_S_runs_j78
        have e1 : nI r + 1 = nI (r + 1) := qn_add r 1
        rw [nI_sub (show k ≤ m by omega)]
        have e78 : (nI (m - k) + 8 - 1) / 8 = nI ((m - k + 7) / 8) := by
          have e2 : nI (m - k) + 8 - 1 = nI (m - k) + 7 := by
            have : nI (m - k) + 8 = nI (m - k + 8) := qn_add _ 8
            rw [this]
            have e3 : nI (m - k + 8) - 1 = nI (m - k + 7) := nI_sub (show 1 ≤ m - k + 8 by omega)
            have e4 : nI (m - k) + 7 = nI (m - k + 7) := qn_add _ 7
            rw [e3, e4]
          rw [e2, w78 (by omega)]
        have n10 : ¬ (1 : Int32) = 0 := by decide
        cases hp : pVar I e b with
        | inl f =>
          rw [hp] at p2 hG
          obtain ⟨q1, q2, q3⟩ := p2
          obtain ⟨ot, t1⟩ := S_takeOneF (n := n) (cap := cap) (pn := pn) (k := k) (row := row) (p1 := nu) (at' := o.2.1) (to' := nI e) (f := o.2.2) (w := w) hn (by rw [q2]; exact q3) hw (by omega) (by omega)
          rw [q1, if_pos (show ((0 : Int64) &&& 1) = 0 by decide), bnd_eq, if_neg n10, S_takeCountF _ _ (by rw [q2]; exact q3), obs, if_neg n10, t1, obs, bnd_eq, bnd_eq]
          exact Or.inl ⟨_, rfl, q - 1, by omega, Or.inr ⟨by omega, f, hG, q2, q3⟩⟩
        | inr ah =>
          obtain ⟨a1, hh⟩ := ah
          rw [hp] at p2 hG
          obtain ⟨q1, q2, q3⟩ := p2
          obtain ⟨v1, v2, v3⟩ := pVar_a hp
          simp only at hG
          rw [q1, q2, q3, shr1 v3, qifc (and1z v3)]
          by_cases c2 : hh % 2 = 0
          · rw [if_pos c2, bnd_eq, if_neg n10, S_takeCount (by omega) (by omega), obs, if_neg n10]
            by_cases c0 : hh / 2 = 0
            · obtain ⟨ot, t1⟩ := S_takeOneF (n := n) (cap := cap) (pn := pn) (k := k) (row := row) (p1 := nu) (at' := nI a1) (to' := nI e) (f := 3) (w := w) hn (by decide) hw (by omega) (by omega)
              rw [if_pos c0] at hG
              rw [if_pos c0, t1, obs, bnd_eq, bnd_eq]
              exact Or.inl ⟨_, rfl, q - 1, by omega, Or.inr ⟨by omega, 3, hG, rfl, by decide⟩⟩
            · rw [if_neg c0, if_pos c2] at hG
              rw [if_neg c0]
              by_cases c4 : m - k < hh / 2
              · obtain ⟨ot, t1⟩ := S_takeOneF (n := n) (cap := cap) (pn := pn) (k := k) (row := row) (p1 := nu) (at' := nI a1) (to' := nI e) (f := 4) (w := w) hn (by decide) hw (by omega) (by omega)
                rw [if_pos c4] at hG
                rw [if_pos c4, t1, obs, bnd_eq, bnd_eq]
                exact Or.inl ⟨_, rfl, q - 1, by omega, Or.inr ⟨by omega, 4, hG, rfl, by decide⟩⟩
              · rw [if_neg c4] at hG
                obtain ⟨ot, t1, t2⟩ := S_takeOne (n := n) (cap := cap) (pn := pn) (e := e) (a := a1) (k := k) (t := hh / 2) (w := w) (I := I) (row := row) (p1 := nu) hn hc hI he v2 hw (by omega) (by omega) h
                rw [if_neg c4, t1, obs, bnd_eq, bnd_eq, qn_add, e1]
                rcases t2 with ⟨f, t3, t4, t5⟩ | ⟨a2, v, t3, t4, t5, t6, t7, t8⟩
                · rw [t3] at hG
                  exact Or.inl ⟨_, rfl, q - 1, by omega, Or.inr ⟨by omega, f, hG, t4, t5⟩⟩
                · rw [t3] at hG
                  refine Or.inl ⟨_, rfl, q - 1, by omega, Or.inl ⟨a2, k + hh / 2, r + 1, (fun j => if j < k then g j else v), by omega, by omega, by omega, by omega, t6, t4, t5, rfl, rfl, ?_, ?_⟩⟩
                  · rw [show m + 1 - (r + 1) = m - r by omega]; exact hG.symm
                  · intro j hj hj2
                    show ot.2.2 j = ql64 (if j < k then g j else v) ∧ (if j < k then g j else v) < 2 ^ w
                    rw [t8 j]
                    by_cases cj : j < k
                    · rw [if_neg (by omega), if_pos cj]; exact g11 j hj cj
                    · rw [if_pos (by omega), if_neg cj]; exact ⟨rfl, t7⟩
          · rw [if_neg c2, bnd_eq, if_pos rfl, e78, S_takeCount (by omega) (by omega), obs, if_pos rfl]
            by_cases c0 : hh / 2 = 0
            · rw [if_pos c0] at hG
              rw [if_pos c0, S_takeGroupsF (by decide), obs, bnd_eq, bnd_eq]
              exact Or.inl ⟨_, rfl, q - 1, by omega, Or.inr ⟨by omega, 3, hG, rfl, by decide⟩⟩
            · rw [if_neg c0, if_neg c2] at hG
              rw [if_neg c0]
              by_cases c4 : (m - k + 7) / 8 < hh / 2
              · rw [if_pos c4] at hG
                rw [if_pos c4, S_takeGroupsF (by decide), obs, bnd_eq, bnd_eq]
                exact Or.inl ⟨_, rfl, q - 1, by omega, Or.inr ⟨by omega, 4, hG, rfl, by decide⟩⟩
              · rw [if_neg c4] at hG
                obtain ⟨ot, t1, t2⟩ := S_takeGroups (n := n) (cap := cap) (pn := pn) (e := e) (a := a1) (k := k) (m := m) (G := hh / 2) (w := w) (I := I) (row := row) (p1 := nu) hn hc hI he v2 hw (by omega) (by omega) (by omega) (by omega) h
                have e8 : (8 : Int32) * nI (hh / 2) = nI (8 * (hh / 2)) := nI_mul 8 _
                rw [if_neg c4]
                simp only
                rw [t1, obs, bnd_eq, bnd_eq, e8, qn_add, e1]
                rcases t2 with ⟨f, t3, t4, t5⟩ | ⟨a2, t3, t4, t5, t6, t8⟩
                · rw [t3] at hG
                  exact Or.inl ⟨_, rfl, q - 1, by omega, Or.inr ⟨by omega, f, hG, t4, t5⟩⟩
                · rw [t3] at hG
                  refine Or.inl ⟨_, rfl, q - 1, by omega, Or.inl ⟨a2, k + 8 * (hh / 2), r + 1, (fun j => if j < k then g j else gval I w a1 (j - k)), by omega, by omega, by omega, by omega, t6, t4, t5, rfl, rfl, ?_, ?_⟩⟩
                  · rw [show m + 1 - (r + 1) = m - r by omega]; exact hG.symm
                  · intro j hj hj2
                    show ot.2.2 j = ql64 (if j < k then g j else gval I w a1 (j - k)) ∧ (if j < k then g j else gval I w a1 (j - k)) < 2 ^ w
                    rw [t8 j]
                    by_cases cj : j < k
                    · rw [if_neg (by omega), if_pos cj]; exact g11 j hj cj
                    · rw [if_pos (by omega), if_neg cj]; exact ⟨rfl, bval_lt _ _ _⟩
    · simp only at g2
      subst g2
      show (∃ w', f_S_runs_l6 n cap pn (nI e) row (nI m) (nI w) at' (nI f) nu k' r' = _ ∧ _) ∨ (∃ x, f_S_runs_l6 n cap pn (nI e) row (nI m) (nI w) at' (nI f) nu k' r' = _ ∧ _)
      unfold f_S_runs_l6
      rw [if_neg g3, ite_self, ite_self]
      exact Or.inr ⟨_, rfl, Or.inl ⟨f, g1, rfl, g3⟩⟩
  obtain ⟨o, h1, h2⟩ := main
  rw [h1, obs]
  unfold f_S_runs_j135 pRunsE
  rcases h2 with ⟨f, p1, p2, p3⟩ | ⟨b, g, p1, p2, p3, p4, p5⟩
  · rw [p2, S_endF p3, obs, p1]
    exact ⟨_, rfl, Or.inl ⟨f, rfl, rfl, p3⟩⟩
  · rw [p3, p4, S_end0 (by omega) (by omega), obs, p1]
    by_cases c : e ≤ b
    · have : b = e := by omega
      subst this
      rw [if_pos c]
      refine ⟨_, rfl, Or.inr ⟨g, ?_, rfl, rfl, p5⟩⟩
      show (if b < b then _ else _) = _
      rw [if_neg (by omega)]
    · rw [if_neg c]
      refine ⟨_, rfl, Or.inl ⟨6, ?_, rfl, by decide⟩⟩
      show (if b < e then _ else _) = _
      rw [if_pos (by omega)]
theorem S_runsF {n cap pn : Nat} {row : Nat → Int32} {p1 : Nat → Int64} {at' to' f m w : Int32} (hn : 100 < n) (hf : ¬ f = 0) : f_S_runs n cap pn at' to' f row p1 m w = some (at', f, p1) := by
  unfold f_S_runs
  obtain ⟨x, rfl⟩ : ∃ x, n = x + 1 := ⟨n - 1, by omega⟩
  have : f_S_runs_l6 (x + 1) cap pn to' row m w at' f p1 0 0 = some (Sum.inr (at', f, p1, 0, 0)) := by
    unfold f_S_runs_l6
    rw [if_neg hf, ite_self, ite_self]
  simp only [lp, this]
  show f_S_runs_j135 at' to' f p1 = _
  unfold f_S_runs_j135
  rw [S_endF hf, obs]
