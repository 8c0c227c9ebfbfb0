/-- all of the first k numbers from lo on are 0 -/
def tz (g : Nat → Nat) (lo : Nat) : Nat → Bool
  | 0 => true
  | k + 1 => tz g lo k && decide (k < lo ∨ g k = 0)
/-- a run of ONE number; of GROUPS -/
def pOne (I : List UInt8) (e w a : Nat) : Nat ⊕ (Nat × Nat) :=
  if e - a < (w + 7) / 8 then .inl 1 else if bval I (8 * a) (8 * ((w + 7) / 8)) < 2 ^ w then .inr (a + (w + 7) / 8, bval I (8 * a) (8 * ((w + 7) / 8))) else .inl 5
def gval (I : List UInt8) (w a i : Nat) : Nat := bval I (8 * a + w * i) w
def pGrp (I : List UInt8) (e w a lo many : Nat) : Nat ⊕ Nat :=
  if e - a < many * w then .inl 1 else if tz (gval I w a) lo (8 * many) then .inr (a + many * w) else .inl 5
/-- RUNS of m numbers, read -/
def pRunsG (I : List UInt8) (e m w : Nat) : Nat → Nat → Nat → (Nat → Nat) → Nat ⊕ (Nat × (Nat → Nat))
  | 0, _, _, _ => .inl 2
  | q + 1, a, k, f =>
    if m ≤ k then .inr (a, f) else
    match pVar I e a with
    | .inl x => .inl x
    | .inr (a1, h) =>
      if h / 2 = 0 then .inl 3
      else if h % 2 = 0 then
        (if m - k < h / 2 then .inl 4 else
          match pOne I e w a1 with
          | .inl x => .inl x
          | .inr (a2, v) => pRunsG I e m w q a2 (k + h / 2) (fun j => if j < k then f j else v))
      else
        (if (m - k + 7) / 8 < h / 2 then .inl 4 else
          match pGrp I e w a1 (m - k) (h / 2) with
          | .inl x => .inl x
          | .inr a2 => pRunsG I e m w q a2 (k + 8 * (h / 2)) (fun j => if j < k then f j else gval I w a1 (j - k)))
def pRuns (I : List UInt8) (e m w a : Nat) : Nat ⊕ (Nat × (Nat → Nat)) := pRunsG I e m w (m + 1) a 0 (fun _ => 0)
theorem J_fill {n cap a k : Nat} {p1 : Nat → Int64} (v : Int64) (hn : 100000 < n) (hc : cap < 100000) (h : a + k ≤ cap) :
    ∃ o, f_JA_fill_aJIIJ n cap p1 (nI a) (nI (a + k)) v = some o ∧ ∀ j, o j = if a ≤ j ∧ j < a + k then v else p1 j := by
  unfold f_JA_fill_aJIIJ
  rw [rangeCheck_ok (by omega) h (by omega), obs]
  have main : ∃ o, lp (fun u => f_JA_fill_aJIIJ_l10 cap (nI (a + k)) v u.1 u.2) n (p1, nI a) = some o ∧ ∀ j, o j = if a ≤ j ∧ j < a + k then v else p1 j := by
    refine lp_inv (fun q w => ∃ i, i + q = k ∧ w.2 = nI (a + i) ∧ ∀ j, w.1 j = if a ≤ j ∧ j < a + i then v else p1 j) _ ?_ k n _ ⟨0, by omega, rfl, fun j => by rw [if_neg (by omega)]⟩ (by omega)
    rintro q ⟨f, i'⟩ ⟨i, g1, g2, g3⟩
    simp only at g2 g3
    subst g2
    show (∃ w', f_JA_fill_aJIIJ_l10 cap (nI (a + k)) v f (nI (a + i)) = _ ∧ _) ∨ (∃ x, f_JA_fill_aJIIJ_l10 cap (nI (a + k)) v f (nI (a + i)) = _ ∧ _)
    unfold f_JA_fill_aJIIJ_l10
    rw [ifle (by omega) (by omega)]
    by_cases c : a + k ≤ a + i
    · have : i = k := by omega
      subst this
      exact Or.inr ⟨_, by rw [if_pos c], g3⟩
    · rw [if_neg c, gd_nI (by omega) (by omega), qn_clamp (by omega), bnd_eq]
      refine Or.inl ⟨_, rfl, q - 1, by omega, i + 1, by omega, qn_add _ 1, ?_⟩
      intro j
      show vp_updL f (a + i) v j = _
      unfold vp_updL
      by_cases e : j = a + i
      · rw [if_pos e, if_pos (by omega)]
      · rw [if_neg e, g3 j]
        by_cases e2 : a ≤ j ∧ j < a + i
        · rw [if_pos e2, if_pos (by omega)]
        · rw [if_neg e2, if_neg (by omega)]
  obtain ⟨o, h1, h2⟩ := main
  rw [h1]
  exact ⟨o, rfl, h2⟩
theorem lv_shrw {v : Nat} {w : Nat} (hv : v < 2 ^ 64) (hw : w < 64) : ((((ql64 v).toUInt64 >>> ((nI w).toInt64.toUInt64 &&& Int64.toUInt64 63)).toInt64) = 0) ↔ v < 2 ^ w := by
  rw [lv_zero, lv_shr, lv_nI (by omega), Nat.mod_eq_of_lt hw, lv_l64 hv, shr_zero_iff, wd_iff]
theorem S_takeOne {n cap pn e a k t w : Nat} {I : List UInt8} {row : Nat → Int32} {p1 : Nat → Int64} (hn : 100000 < n) (hc : cap < 100000) (hI : I.length ≤ cap) (he : e ≤ I.length) (ha : a ≤ e) (hw : w ≤ 32) (hk : k + t ≤ pn) (hpn : pn < 100000) (h : HC I row) :
    ∃ o, f_S_takeOne n cap pn (nI a) (nI e) 0 row p1 (nI k) (nI t) (nI w) = some o ∧
      ((∃ f, pOne I e w a = .inl f ∧ o.2.1 = nI f ∧ ¬ nI f = 0) ∨ (∃ a' v, pOne I e w a = .inr (a', v) ∧ o.1 = nI a' ∧ o.2.1 = 0 ∧ a' ≤ e ∧ v < 2 ^ w ∧ ∀ j, o.2.2 j = if k ≤ j ∧ j < k + t then ql64 v else p1 j)) := by
  unfold f_S_takeOne
  obtain ⟨o5, p1', p2⟩ := S_lowestFirst (n := n) (cap := cap) (e := e) (a := a) (q := (w + 7) / 8) (I := I) (row := row) (by omega) hc hI he ha (by omega) h
  rw [w78 (by omega), p1', obs]
  unfold f_S_takeOne_j29
  rw [qn_add]
  unfold pFix at p2
  unfold pOne
  by_cases c : e - a < (w + 7) / 8
  · rw [if_pos c] at p2 ⊢
    obtain ⟨q1, q2, q3⟩ := p2
    obtain ⟨of, f1, f2⟩ := J_fill (p1 := p1) (a := k) (k := t) o5.1 hn hpn hk
    have hz : ((o5.1.toUInt64 >>> ((nI w).toInt64.toUInt64 &&& Int64.toUInt64 63)).toInt64) = 0 := by
      rw [q1]; exact (lv_shrw (v := 0) (by decide) (by omega)).mpr (Nat.two_pow_pos w)
    rw [if_pos hz, f1, obs]
    exact ⟨_, rfl, Or.inl ⟨1, rfl, q2, by decide⟩⟩
  · rw [if_neg c] at p2 ⊢
    obtain ⟨q1, q2, q3⟩ := p2
    have hb := bval_lt I (8 * a) (8 * ((w + 7) / 8))
    have hp : 2 ^ (8 * ((w + 7) / 8)) ≤ 2 ^ 64 := Nat.pow_le_pow_right (by omega) (by omega)
    obtain ⟨of, f1, f2⟩ := J_fill (p1 := p1) (a := k) (k := t) o5.1 hn hpn hk
    have hz := lv_shrw (v := bval I (8 * a) (8 * ((w + 7) / 8))) (w := w) (by omega) (by omega)
    rw [← q1] at hz
    by_cases cv : bval I (8 * a) (8 * ((w + 7) / 8)) < 2 ^ w
    · rw [if_pos cv, if_pos (hz.mpr cv), f1, obs]
      refine ⟨_, rfl, Or.inr ⟨_, _, rfl, q2, q3, by omega, cv, ?_⟩⟩
      intro j
      show of j = _
      rw [f2 j, q1]
    · rw [if_neg cv, if_neg (fun q => cv (hz.mp q)), q3, S_fail0, obs, f1, obs]
      exact ⟨_, rfl, Or.inl ⟨5, rfl, rfl, by decide⟩⟩
theorem S_takeOneF {n cap pn k : Nat} {row : Nat → Int32} {p1 : Nat → Int64} {at' to' f : Int32} {w : Nat} (hn : 100000 < n) (hf : ¬ f = 0) (hw : w ≤ 32) (hk : k ≤ pn) (hpn : pn < 100000) :
    ∃ o, f_S_takeOne n cap pn at' to' f row p1 (nI k) 0 (nI w) = some (at', f, o) := by
  unfold f_S_takeOne f_S_takeOne_j29
  have e0 : nI k + 0 = nI (k + 0) := qn_add k 0
  obtain ⟨of, f1, f2⟩ := J_fill (p1 := p1) (a := k) (k := 0) 0 hn hpn (by omega)
  have hz : (((0 : Int64).toUInt64 >>> ((nI w).toInt64.toUInt64 &&& Int64.toUInt64 63)).toInt64) = 0 := (lv_shrw (v := 0) (by decide) (by omega)).mpr (Nat.two_pow_pos w)
  rw [S_lowestFirstF hf, obs, if_pos hz, e0, f1, obs]
  exact ⟨_, rfl⟩
theorem S_takeGroups {n cap pn e a k m G w : Nat} {I : List UInt8} {row : Nat → Int32} {p1 : Nat → Int64} (hn : 100000 < n) (hc : cap < 100000) (hI : I.length ≤ cap) (he : e ≤ I.length) (ha : a ≤ e) (hw : w ≤ 32) (hG : G ≤ 1000) (hm : m ≤ pn) (hpn : pn ≤ 2000) (hk : k ≤ m) (h : HC I row) :
    ∃ o, f_S_takeGroups n cap pn (nI a) (nI e) 0 row p1 (nI k) (nI m) (nI G) (nI w) = some o ∧
      ((∃ f, pGrp I e w a (m - k) G = .inl f ∧ o.2.1 = nI f ∧ ¬ nI f = 0) ∨ (∃ a', pGrp I e w a (m - k) G = .inr a' ∧ o.1 = nI a' ∧ o.2.1 = 0 ∧ a' ≤ e ∧ ∀ j, o.2.2 j = if k ≤ j ∧ j < k + 8 * G ∧ j < m then ql64 (gval I w a (j - k)) else p1 j)) := by
  unfold f_S_takeGroups pGrp
  have hGw : G * w ≤ 1000 * 32 := Nat.mul_le_mul hG hw
  have hlv : lv (ql64 (G * w)) = G * w := lv_l64 (by omega)
  rw [lI64 (show G < 2147483648 by omega), lI64 (show w < 2147483648 by omega), l64_mul]
  by_cases c : e - a < G * w
  · rw [if_pos c, S_there1 _ (by rw [hlv]; omega) ha (by omega), obs, if_pos rfl]
    exact ⟨_, rfl, Or.inl ⟨1, rfl, rfl, by decide⟩⟩
  · rw [if_neg c, S_there0 _ (by rw [hlv]; omega) ha (by omega), obs, if_neg (show ¬ (1 : Int32) = 0 by decide)]
    have main : ∃ o, lp (fun u => f_S_takeGroups_l18 n cap pn (nI a) (nI e) row (nI k) (nI m) (nI G) (nI w) u.1 u.2.1 u.2.2) n ((0 : Int32), p1, (0 : Int32)) = some o ∧ o.1 = (if tz (gval I w a) (m - k) (8 * G) then 0 else 5) ∧ ∀ j, o.2.1 j = if k ≤ j ∧ j < k + 8 * G ∧ j < m then ql64 (gval I w a (j - k)) else p1 j := by
      refine lp_inv (fun q u => ∃ i, i + q = 8 * G ∧ u.2.2 = nI i ∧ u.1 = (if tz (gval I w a) (m - k) i then 0 else 5) ∧ ∀ j, u.2.1 j = if k ≤ j ∧ j < k + i ∧ j < m then ql64 (gval I w a (j - k)) else p1 j) _ ?_ (8 * G) n _ ⟨0, by omega, rfl, rfl, fun j => by rw [if_neg (by omega)]⟩ (by omega)
      rintro q ⟨fa, g, i'⟩ ⟨i, g1, g2, g3, g4⟩
      simp only at g2 g3 g4
      subst g2; subst g3
      show (∃ w', f_S_takeGroups_l18 n cap pn (nI a) (nI e) row (nI k) (nI m) (nI G) (nI w) _ g (nI i) = _ ∧ _) ∨ (∃ y, f_S_takeGroups_l18 n cap pn (nI a) (nI e) row (nI k) (nI m) (nI G) (nI w) _ g (nI i) = _ ∧ _)
      unfold f_S_takeGroups_l18
      have e8G : (8 : Int32) * nI G = nI (8 * G) := nI_mul 8 G
      have e8a : (8 : Int32) * nI a = nI (8 * a) := nI_mul 8 a
      rw [e8G, ifle (by omega) (by omega)]
      by_cases ci : 8 * G ≤ i
      · have : i = 8 * G := by omega
        subst this
        exact Or.inr ⟨_, by rw [if_pos ci], rfl, g4⟩
      · have hwi : w * (i + 1) ≤ w * (8 * G) := Nat.mul_le_mul_left w (by omega)
        have hw8 : w * (8 * G) = 8 * (G * w) := by rw [Nat.mul_left_comm, Nat.mul_comm w G]
        have hwi1 : w * (i + 1) = w * i + w := by rw [Nat.mul_add, Nat.mul_one]
        have hgl := bval_lt I (8 * a + w * i) w
        have hp : 2 ^ w ≤ 2 ^ 32 := Nat.pow_le_pow_right (by omega) hw
        have e1 : nI i + 1 = nI (i + 1) := qn_add i 1
        rw [if_neg ci, e8a, nI_mul, qn_add, S_bitsAt (by omega) hc hI he (by omega) (by omega) h, obs, qn_add, ifle (by omega) (by omega)]
        have hgz : (ql64 (bval I (8 * a + w * i) w) = 0) ↔ gval I w a i = 0 := by
          have e0 : (0 : Int64) = ql64 0 := rfl
          rw [e0, l64_inj (by omega) (by omega)]; rfl
        by_cases cm : m ≤ k + i
        · rw [if_pos cm]
          have hg4 : ∀ j, g j = if k ≤ j ∧ j < k + (i + 1) ∧ j < m then ql64 (gval I w a (j - k)) else p1 j := by
            intro j
            rw [g4 j]
            by_cases cj : k ≤ j ∧ j < k + i ∧ j < m
            · rw [if_pos cj, if_pos (by omega)]
            · rw [if_neg cj, if_neg (by omega)]
          by_cases cz : gval I w a i = 0
          · rw [if_pos (hgz.mpr cz)]
            refine Or.inl ⟨_, rfl, q - 1, by omega, i + 1, by omega, e1, ?_, hg4⟩
            have ht : tz (gval I w a) (m - k) (i + 1) = tz (gval I w a) (m - k) i := by
              show (tz (gval I w a) (m - k) i && decide (i < m - k ∨ gval I w a i = 0)) = _
              rw [decide_eq_true (show i < m - k ∨ gval I w a i = 0 from Or.inr cz), Bool.and_true]
            show (if tz (gval I w a) (m - k) i = true then (0 : Int32) else 5) = _
            rw [ht]
          · rw [if_neg (fun q => cz (hgz.mp q))]
            have hf : f_S_fail (if tz (gval I w a) (m - k) i = true then 0 else 5) 5 = some 5 := by split <;> rfl
            rw [hf, obs]
            refine Or.inl ⟨_, rfl, q - 1, by omega, i + 1, by omega, e1, ?_, hg4⟩
            have ht : tz (gval I w a) (m - k) (i + 1) = false := by
              show (tz (gval I w a) (m - k) i && decide (i < m - k ∨ gval I w a i = 0)) = _
              rw [decide_eq_false (show ¬ (i < m - k ∨ gval I w a i = 0) by omega), Bool.and_false]
            show (5 : Int32) = _
            rw [ht]; rfl
        · rw [if_neg cm, gd_nI (by omega) (by omega), qn_clamp (by omega), bnd_eq]
          refine Or.inl ⟨_, rfl, q - 1, by omega, i + 1, by omega, e1, ?_, ?_⟩
          · have ht : tz (gval I w a) (m - k) (i + 1) = tz (gval I w a) (m - k) i := by
              show (tz (gval I w a) (m - k) i && decide (i < m - k ∨ gval I w a i = 0)) = _
              rw [decide_eq_true (show i < m - k ∨ gval I w a i = 0 by omega), Bool.and_true]
            show (if tz (gval I w a) (m - k) i = true then (0 : Int32) else 5) = _
            rw [ht]
          · intro j
            show vp_updL g (k + i) (ql64 (bval I (8 * a + w * i) w)) j = _
            unfold vp_updL
            by_cases ej : j = k + i
            · rw [if_pos ej, if_pos (by omega), ej, show k + i - k = i by omega]; rfl
            · rw [if_neg ej, g4 j]
              by_cases cj : k ≤ j ∧ j < k + i ∧ j < m
              · rw [if_pos cj, if_pos (by omega)]
              · rw [if_neg cj, if_neg (by omega)]
    obtain ⟨o, h1, h2, h3⟩ := main
    rw [h1, obs]
    unfold f_S_takeGroups_j86
    rw [bnd_eq, nI_mul, qn_add, h2]
    by_cases ct : tz (gval I w a) (m - k) (8 * G) = true
    · rw [if_pos ct, if_pos ct]
      exact ⟨_, rfl, Or.inr ⟨_, rfl, rfl, rfl, by omega, h3⟩⟩
    · rw [if_neg ct, if_neg ct]
      exact ⟨_, rfl, Or.inl ⟨5, rfl, rfl, by decide⟩⟩
theorem S_takeGroupsF {n cap pn : Nat} {row : Nat → Int32} {p1 : Nat → Int64} {at' to' f k m g w : Int32} (hf : ¬ f = 0) : f_S_takeGroups n cap pn at' to' f row p1 k m g w = some (at', f, p1) := by
  unfold f_S_takeGroups
  rw [S_thereF _ hf, obs, if_pos rfl]
