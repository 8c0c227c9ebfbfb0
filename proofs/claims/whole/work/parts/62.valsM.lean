def seg (T : Nat → UInt8) (a b : Nat) : List UInt8 := (List.range (b - a)).map (fun k => T (a + k))
theorem seg_len (T : Nat → UInt8) (a b : Nat) : (seg T a b).length = b - a := by simp [seg]
theorem seg_succ {T : Nat → UInt8} {a p : Nat} (h : a ≤ p) : seg T a (p + 1) = seg T a p ++ [T p] := by
  unfold seg
  rw [show p + 1 - a = (p - a) + 1 by omega, List.range_succ, List.map_append]
  simp only [List.map_cons, List.map_nil]
  rw [show a + (p - a) = p by omega]
theorem seg_self (T : Nat → UInt8) (a : Nat) : seg T a a = [] := by simp [seg]
theorem tx_seg (S : Nat → Nat) (T : Nat → UInt8) (i : Nat) : tx S T i = seg T (S i) (S (i + 1)) := rfl
theorem tx_drop {S : Nat → Nat} {T : Nat → UInt8} {i m : Nat} (h : m ≤ S (i + 1) - S i) : (tx S T i).drop m = seg T (S i + m) (S (i + 1)) := by
  apply List.ext_getElem
  · simp [tx_len, seg_len]; omega
  · intro k h1 h2
    rw [List.getElem_drop, tx_get]
    simp only [seg, List.getElem_map, List.getElem_range]
    congr 1; omega
theorem by8_um (b : UInt8) : by8 (um b) = b := by
  rw [um_nI, by8_nI]; simp
theorem M_txt_lp {n cap c i p0 : Nat} {S : Nat → Nat} {T : Nat → UInt8} {frm bytes : Nat → Int32} {L : List UInt8} {out : Nat → Int32} (hn : 100000 < n) (hi : i + 1 ≤ c) (hc : c < 1001) (hf : frm (i + 1) = nI (S (i + 1))) (hb : ∀ j, j < S (i + 1) → bytes j = um (T j)) (hS : S (i + 1) ≤ 20000) (hp : p0 ≤ S (i + 1)) (hcap : cap < 100000) (hL : L.length + (S (i + 1) - p0) ≤ cap) (h : QHM L out) :
    ∃ o, lp (fun v => f_M_putText_l17 20000 1001 cap bytes frm (nI i) v.1 v.2.1 v.2.2) n (nI L.length, out, nI p0) = some o ∧ QPM (L ++ seg T p0 (S (i + 1))) o := by
  refine lp_inv (fun q u => ∃ p, p + q = S (i + 1) ∧ p0 ≤ p ∧ u.2.2 = nI p ∧ QPM (L ++ seg T p0 p) (u.1, u.2.1)) _ ?_ (S (i + 1) - p0) n _ ⟨p0, by omega, by omega, rfl, by simp [seg_self, QPM, h]⟩ (by omega)
  rintro q ⟨sz, ou, p'⟩ ⟨p, g1, g0, g2, g3, g4⟩
  simp only at g2 g3 g4
  subst g2; subst g3
  show (∃ w', f_M_putText_l17 20000 1001 cap bytes frm (nI i) (nI _) ou (nI p) = _ ∧ _) ∨ (∃ x, f_M_putText_l17 20000 1001 cap bytes frm (nI i) (nI _) ou (nI p) = _ ∧ _)
  unfold f_M_putText_l17
  have e1 : nI i + 1 = nI (i + 1) := qn_add i 1
  rw [e1, gd_nI (by omega) (by omega), qn_clamp (by omega), hf, ifle (by omega) (by omega)]
  by_cases cc : S (i + 1) ≤ p
  · have : p = S (i + 1) := by omega
    subst this
    exact Or.inr ⟨_, by rw [if_pos cc], rfl, g4⟩
  · obtain ⟨o', r1, r2⟩ := M_put (cap := cap) (bytes p) (by omega) (by rw [List.length_append, seg_len]; omega) g4
    rw [if_neg cc, gd_nI (by omega) (by omega), qn_clamp (by omega), r1, obs]
    refine Or.inl ⟨_, rfl, q - 1, by omega, p + 1, by omega, by omega, qn_add p 1, ?_⟩
    rw [hb p (by omega), by8_um, List.append_assoc, ← seg_succ g0] at r2
    exact r2
theorem M_txt_lp2 {n cap c i p0 : Nat} {S : Nat → Nat} {T : Nat → UInt8} {frm bytes : Nat → Int32} {L : List UInt8} {out : Nat → Int32} (hn : 100000 < n) (hi : i + 1 ≤ c) (hc : c < 1001) (hf : frm (i + 1) = nI (S (i + 1))) (hb : ∀ j, j < S (i + 1) → bytes j = um (T j)) (hS : S (i + 1) ≤ 20000) (hp : p0 ≤ S (i + 1)) (hcap : cap < 100000) (hL : L.length + (S (i + 1) - p0) ≤ cap) (h : QHM L out) :
    ∃ o, lp (fun v => f_M_writeFront_l101 20000 1001 cap bytes frm (nI i) v.1 v.2.1 v.2.2) n (nI L.length, out, nI p0) = some o ∧ QPM (L ++ seg T p0 (S (i + 1))) (o.1, o.2.1) := by
  refine lp_inv (fun q u => ∃ p, p + q = S (i + 1) ∧ p0 ≤ p ∧ u.2.2 = nI p ∧ QPM (L ++ seg T p0 p) (u.1, u.2.1)) _ ?_ (S (i + 1) - p0) n _ ⟨p0, by omega, by omega, rfl, by simp [seg_self, QPM, h]⟩ (by omega)
  rintro q ⟨sz, ou, p'⟩ ⟨p, g1, g0, g2, g3, g4⟩
  simp only at g2 g3 g4
  subst g2; subst g3
  show (∃ w', f_M_writeFront_l101 20000 1001 cap bytes frm (nI i) (nI _) ou (nI p) = _ ∧ _) ∨ (∃ x, f_M_writeFront_l101 20000 1001 cap bytes frm (nI i) (nI _) ou (nI p) = _ ∧ _)
  unfold f_M_writeFront_l101
  have e1 : nI i + 1 = nI (i + 1) := qn_add i 1
  rw [e1, gd_nI (by omega) (by omega), qn_clamp (by omega), hf, ifle (by omega) (by omega)]
  by_cases cc : S (i + 1) ≤ p
  · have : p = S (i + 1) := by omega
    subst this
    exact Or.inr ⟨_, by rw [if_pos cc], rfl, g4⟩
  · obtain ⟨o', r1, r2⟩ := M_put (cap := cap) (bytes p) (by omega) (by rw [List.length_append, seg_len]; omega) g4
    rw [if_neg cc, gd_nI (by omega) (by omega), qn_clamp (by omega), r1, obs]
    refine Or.inl ⟨_, rfl, q - 1, by omega, p + 1, by omega, by omega, qn_add p 1, ?_⟩
    rw [hb p (by omega), by8_um, List.append_assoc, ← seg_succ g0] at r2
    exact r2
theorem M_putText {n cap t c : Nat} {num : Nat → Int64} {S : Nat → Nat} {T : Nat → UInt8} {values : Int32} {wholes : Nat → Int64} {frm bytes : Nat → Int32} {L : List UInt8} {out : Nat → Int32} {i : Nat}
    (hn : 100000 < n) (ht : t = 3) (hi : i < c) (hc1 : c ≤ 1000) (hS : (∀ i, i < c → S i ≤ S (i + 1)) ∧ S c ≤ 20000) (hM : VsM t c num S T values wholes frm bytes)
    (hcap : cap < 100000) (hL : L.length + (sText S T i).length ≤ cap) (h : QHM L out) :
    ∃ o, f_M_putText n 20000 1001 cap (nI L.length) bytes frm out (nI i) = some o ∧ QPM (L ++ sText S T i) o := by
  have b1 := S_mono hS.1 (i := i + 1) (j := c) (by omega) (by omega)
  have b2 := hS.2
  have b3 := hS.1 i hi
  unfold f_M_putText
  simp only [sText, List.length_append, tx_len] at hL
  have hlv : lv (nI (S (i + 1) - S i)).toInt64 = S (i + 1) - S i := lv_nI (by omega)
  rw [M_lengthOf ht hi (by omega) (by omega) b3 hM, obs]
  obtain ⟨o1, p1, p2, p3⟩ := M_putVarint (n := n) (cap := cap) (L := L) (row := out) (nI (S (i + 1) - S i)).toInt64 (by omega) (by omega) (by rw [hlv]; omega) h
  rw [hlv] at p2 p3
  obtain ⟨g4, g5, g6, g7⟩ := hM
  rw [p1, obs, gd_nI (by omega) (by omega), bnd_eq, p2, qn_clamp (by omega), (g7 ht).1 i (by omega)]
  obtain ⟨o2, r1, r2⟩ := M_txt_lp (n := n) (cap := cap) (c := c) (i := i) (p0 := S i) (S := S) (T := T) (frm := frm) (bytes := bytes) (L := L ++ sVar (S (i + 1) - S i)) (out := o1.2) hn (by omega) (by omega) ((g7 ht).1 _ (by omega)) (fun j hj => (g7 ht).2 j (by omega)) (by omega) b3 hcap (by rw [List.length_append]; omega) p3
  rw [r1, obs]
  rw [List.append_assoc, ← tx_seg] at r2
  exact ⟨_, rfl, r2⟩
theorem M_wide {t : Nat} (h : t ≤ 3) : f_M_wide (nI t) = some (nI (qwide t)) := by
  have : ∀ j : Fin 4, f_M_wide (nI j.val) = some (nI (qwide j.val)) := by decide
  exact this ⟨t, by omega⟩
theorem M_inCommon {n t c : Nat} {num : Nat → Int64} {S : Nat → Nat} {T : Nat → UInt8} {values : Int32} {wholes : Nat → Int64} {frm bytes : Nat → Int32} {i : Nat}
    (hn : 100000 < n) (ht : t = 3) (hi : i < c) (hc1 : c ≤ 1000) (hS : (∀ i, i < c → S i ≤ S (i + 1)) ∧ S c ≤ 20000) (hM : VsM t c num S T values wholes frm bytes) :
    f_M_inCommon n 20000 1001 bytes frm (nI i) = some (nI (cm S T i)) := by
  unfold f_M_inCommon
  by_cases i0 : i = 0
  · subst i0
    obtain ⟨x, rfl⟩ : ∃ x, n = x + 1 := ⟨n - 1, by omega⟩
    have : f_M_inCommon_l2 20000 1001 bytes frm (nI 0) 0 = some (Sum.inr 0) := by
      unfold f_M_inCommon_l2; rw [if_pos (by decide)]
    simp only [lp, this]; rfl
  · have hcm : cm S T i = comm (fun k => T (S i + k)) (fun k => T (S (i - 1) + k)) (min (S (i + 1) - S i) (S (i - 1 + 1) - S (i - 1))) := by unfold cm; rw [if_neg i0]
    rw [hcm]
    have b1 := S_mono hS.1 (i := i + 1) (j := c) (by omega) (by omega)
    have b2 := hS.2
    have b3 := hS.1 i hi
    have b4 := hS.1 (i - 1) (by omega)
    have b5 := S_mono hS.1 (i := i - 1 + 1) (j := c) (by omega) (by omega)
    have hM' := hM
    obtain ⟨g4, g5, g6, g7⟩ := hM
    have hle1 : min (S (i + 1) - S i) (S (i - 1 + 1) - S (i - 1)) ≤ S (i + 1) - S i := Nat.min_le_left _ _
    have hle2 : min (S (i + 1) - S i) (S (i - 1 + 1) - S (i - 1)) ≤ S (i - 1 + 1) - S (i - 1) := Nat.min_le_right _ _
    have hmin : min (S (i + 1) - S i) (S (i - 1 + 1) - S (i - 1)) = S (i + 1) - S i ∨ min (S (i + 1) - S i) (S (i - 1 + 1) - S (i - 1)) = S (i - 1 + 1) - S (i - 1) := by omega
    generalize hMM : min (S (i + 1) - S i) (S (i - 1 + 1) - S (i - 1)) = M at hle1 hle2 hmin
    have e1 : nI i - 1 = nI (i - 1) := nI_sub (show 1 ≤ i by omega)
    have hi0 : ¬ nI i ≤ 0 := by rw [QI0, qn_le (by omega) (by omega)]; omega
    have main : ∃ e, lp (fun v => f_M_inCommon_l2 20000 1001 bytes frm (nI i) v) n (0 : Int32) = some e ∧ e = nI (comm (fun k => T (S i + k)) (fun k => T (S (i - 1) + k)) M) := by
      refine lp_inv (fun q w => ∃ k, k + q = M ∧ w = nI k ∧ ∀ x, x < k → T (S i + x) = T (S (i - 1) + x)) _ ?_ M n _ ⟨0, by omega, rfl, fun x h => by omega⟩ (by omega)
      rintro q w ⟨k, q1, q2, q3⟩
      subst q2
      unfold f_M_inCommon_l2
      rw [if_neg hi0, e1, M_lengthOf ht hi (by omega) (by omega) b3 hM', obs, M_lengthOf ht (show i - 1 < c by omega) (by omega) (by omega) b4 hM', ifle (by omega) (by omega)]
      by_cases k1 : S (i + 1) - S i ≤ k
      · rw [if_pos k1]
        have : k = M := by omega
        subst this
        exact Or.inr ⟨_, rfl, by rw [← comm_uniq (Nat.le_refl k) q3 (fun h => by omega)]⟩
      rw [if_neg k1, obs, ifle (by omega) (by omega)]
      by_cases k2 : S (i - 1 + 1) - S (i - 1) ≤ k
      · rw [if_pos k2]
        have : k = M := by omega
        subst this
        exact Or.inr ⟨_, rfl, by rw [← comm_uniq (Nat.le_refl k) q3 (fun h => by omega)]⟩
      rw [if_neg k2, gd_nI (by omega) (by omega), qn_clamp (by omega), (g7 ht).1 i (by omega), qn_add, gd_nI (by omega) (by omega), gd_nI (by omega) (by omega), qn_clamp (show i - 1 < 2147483648 by omega), (g7 ht).1 (i - 1) (by omega), qn_add, gd_nI (by omega) (by omega), qn_clamp (by omega), qn_clamp (by omega), (g7 ht).2 _ (by omega), (g7 ht).2 _ (by omega)]
      by_cases c2 : T (S i + k) = T (S (i - 1) + k)
      · rw [if_pos (um_inj.mpr c2)]
        refine Or.inl ⟨_, rfl, q - 1, by omega, k + 1, by omega, qn_add k 1, ?_⟩
        intro x hx
        by_cases ex : x = k
        · subst ex; exact c2
        · exact q3 x (by omega)
      · rw [if_neg (fun h => c2 (um_inj.mp h))]
        exact Or.inr ⟨_, rfl, by rw [← comm_uniq (show k ≤ M by omega) q3 (fun _ => c2)]⟩
    obtain ⟨e, h1, h2⟩ := main
    rw [h1, h2]; rfl
theorem sTxs_all {S : Nat → Nat} {T : Nat → UInt8} {c : Nat} (h0 : S 0 = 0) (hS : ∀ i, i < c → S i ≤ S (i + 1)) : sTxs S T false c = seg T 0 (S c) := by
  unfold sTxs
  have : ∀ k, k ≤ c → cat (fun i => (tx S T i).drop (cmf S T false i)) k = seg T 0 (S k) := by
    intro k
    induction k with
    | zero => intro _; simp [cat, h0, seg_self]
    | succ k ih =>
      intro hk
      have h1 := hS k (by omega)
      simp only [cat]
      rw [ih (by omega)]
      have : cmf S T false k = 0 := rfl
      rw [this, List.drop_zero, tx_seg]
      unfold seg
      simp only [Nat.sub_zero]
      have e : S (k + 1) = S k + (S (k + 1) - S k) := by omega
      conv => rhs; rw [e, List.range_add, List.map_append, List.map_map]
      congr 1
      apply List.map_congr_left
      intro j _
      simp
  exact this c (Nat.le_refl _)
theorem M_writeLengths {n t c : Nat} {num : Nat → Int64} {S : Nat → Nat} {T : Nat → UInt8} {values : Int32} {wholes longs : Nat → Int64} {frm bytes : Nat → Int32} {L : List UInt8} {out : Nat → Int32}
    (hn : 100000 < n) (ht : t = 3) (hc1 : c ≤ 1000) (h0 : S 0 = 0) (hS : (∀ i, i < c → S i ≤ S (i + 1)) ∧ S c ≤ 20000) (hM : VsM t c num S T values wholes frm bytes)
    (hL : L.length + (sSz (aMor S T false) c).length + (sTxs S T false c).length ≤ 90000) (h : QHM L out) :
    ∃ o, f_M_writeLengths n 20000 1001 2000 90000 values (nI L.length) bytes frm longs out = some o ∧ QPM (L ++ (sSz (aMor S T false) c ++ sTxs S T false c)) (o.1, o.2.2.2) := by
  unfold f_M_writeLengths
  have hM' := hM
  obtain ⟨g4, g5, g6, g7⟩ := hM
  subst g4
  have main : ∃ o, lp (fun v => f_M_writeLengths_l10 1001 2000 (nI c) frm v.1 v.2) n (longs, (0 : Int32)) = some o ∧ ∀ i, i < c → o.1 i = aMor S T false i := by
    refine lp_inv (fun q u => ∃ i, i + q = c ∧ u.2 = nI i ∧ ∀ j, j < i → u.1 j = aMor S T false j) _ ?_ c n _ ⟨0, by omega, rfl, fun j hj => by omega⟩ (by omega)
    rintro q ⟨f, i'⟩ ⟨i, q1, q2, q3⟩
    simp only at q2 q3
    subst q2
    show (∃ w', f_M_writeLengths_l10 1001 2000 (nI c) frm f (nI i) = _ ∧ _) ∨ (∃ x, f_M_writeLengths_l10 1001 2000 (nI c) frm f (nI i) = _ ∧ _)
    unfold f_M_writeLengths_l10
    rw [ifle (by omega) (by omega)]
    by_cases ci : c ≤ i
    · have : i = c := by omega
      subst this
      exact Or.inr ⟨_, by rw [if_pos ci], q3⟩
    · have b3 := hS.1 i (by omega)
      have b1 := S_mono hS.1 (i := i + 1) (j := c) (by omega) (by omega)
      have b2 := hS.2
      rw [if_neg ci, M_lengthOf ht (show i < c by omega) (by omega) (by omega) b3 hM', obs, gd_nI (by omega) (by omega), qn_clamp (by omega), lI64 (by omega)]
      refine Or.inl ⟨_, rfl, q - 1, by omega, i + 1, by omega, qn_add i 1, ?_⟩
      intro j hj
      show vp_updL f i (ql64 (S (i + 1) - S i)) j = _
      unfold vp_updL
      by_cases e : j = i
      · subst e; rw [if_pos rfl]; rfl
      · rw [if_neg e]; exact q3 j (by omega)
  obtain ⟨o, h1, h2⟩ := main
  rw [h1, obs]
  unfold f_M_writeLengths_j36
  unfold sSz at hL ⊢
  rw [List.length_append] at hL
  obtain ⟨o1, p1, p2, p3⟩ := M_writeCode (n := n) (ln := 2000) (cap := 90000) (m := c) (a := aMor S T false) (longs := o.1) (L := L) (out := out) hn (by omega) (by omega) h2 (by omega) (by omega) h
  rw [p1, obs, p2]
  generalize hX : L ++ (sVar (qsCode (aMor S T false) c).length ++ qsCode (aMor S T false) c) = X at *
  have hlX : X.length = L.length + ((sVar (qsCode (aMor S T false) c).length).length + (qsCode (aMor S T false) c).length) := by rw [← hX]; simp only [List.length_append]
  rw [sTxs_all h0 hS.1] at hL ⊢
  rw [seg_len] at hL
  have main2 : ∃ o', lp (fun v => f_M_writeLengths_l42 20000 1001 90000 (nI c) (nI c) bytes frm o.1 v.1 v.2.1 v.2.2) n (nI X.length, o1.2, (0 : Int32)) = some o' ∧ QPM (X ++ seg T 0 (S c)) (o'.1, o'.2.2.2) := by
    refine lp_inv (fun q u => ∃ p, p + q = S c ∧ u.2.2 = nI p ∧ QPM (X ++ seg T 0 p) (u.1, u.2.1)) _ ?_ (S c) n _ ⟨0, by omega, rfl, by simp [seg_self, QPM, p3]⟩ (by have := hS.2; omega)
    rintro q ⟨sz, ou, p'⟩ ⟨p, q1, q2, q3, q4⟩
    simp only at q2 q3 q4
    subst q2; subst q3
    show (∃ w', f_M_writeLengths_l42 20000 1001 90000 (nI c) (nI c) bytes frm o.1 (nI _) ou (nI p) = _ ∧ _) ∨ (∃ x, f_M_writeLengths_l42 20000 1001 90000 (nI c) (nI c) bytes frm o.1 (nI _) ou (nI p) = _ ∧ _)
    unfold f_M_writeLengths_l42
    have b2 := hS.2
    rw [gd_nI (by omega) (by omega), qn_clamp (by omega), (g7 ht).1 c (by omega), ifle (by omega) (by omega)]
    by_cases cc : S c ≤ p
    · have : p = S c := by omega
      subst this
      exact Or.inr ⟨_, by rw [if_pos cc], rfl, q4⟩
    · obtain ⟨o', r1, r2⟩ := M_put (cap := 90000) (bytes p) (by omega) (by rw [List.length_append, seg_len]; omega) q4
      rw [if_neg cc, gd_nI (by omega) (by omega), qn_clamp (by omega), r1, obs]
      refine Or.inl ⟨_, rfl, q - 1, by omega, p + 1, by omega, qn_add p 1, ?_⟩
      rw [(g7 ht).2 p (by omega), by8_um, List.append_assoc, ← seg_succ (by omega)] at r2
      exact r2
  obtain ⟨o', s1, s2⟩ := main2
  rw [s1, obs]
  refine ⟨_, rfl, ?_⟩
  rw [← hX] at s2
  simp only [List.append_assoc] at s2 ⊢
  exact s2
theorem M_writeFront {n t c : Nat} {num : Nat → Int64} {S : Nat → Nat} {T : Nat → UInt8} {values : Int32} {wholes longs : Nat → Int64} {frm bytes : Nat → Int32} {L : List UInt8} {out : Nat → Int32}
    (hn : 100000 < n) (ht : t = 3) (hc1 : c ≤ 1000) (hS : (∀ i, i < c → S i ≤ S (i + 1)) ∧ S c ≤ 20000) (hM : VsM t c num S T values wholes frm bytes)
    (hL : L.length + (sSz (aCom S T true) c).length + (sSz (aMor S T true) c).length + (sTxs S T true c).length ≤ 90000) (h : QHM L out) :
    ∃ o, f_M_writeFront n 20000 1001 2000 90000 values (nI L.length) bytes frm longs out = some o ∧ QPM (L ++ (sSz (aCom S T true) c ++ sSz (aMor S T true) c ++ sTxs S T true c)) (o.1, o.2.2.2) := by
  unfold f_M_writeFront
  have hM' := hM
  obtain ⟨g4, g5, g6, g7⟩ := hM
  subst g4
  have b2 := hS.2
  have main : ∃ o, lp (fun v => f_M_writeFront_l10 n 20000 1001 2000 (nI c) bytes frm v.1 v.2) n (longs, (0 : Int32)) = some o ∧ ∀ i, i < c → o.1 i = aCom S T true i := by
    refine lp_inv (fun q u => ∃ i, i + q = c ∧ u.2 = nI i ∧ ∀ j, j < i → u.1 j = aCom S T true j) _ ?_ c n _ ⟨0, by omega, rfl, fun j hj => by omega⟩ (by omega)
    rintro q ⟨f, i'⟩ ⟨i, q1, q2, q3⟩
    simp only at q2 q3
    subst q2
    show (∃ w', f_M_writeFront_l10 n 20000 1001 2000 (nI c) bytes frm f (nI i) = _ ∧ _) ∨ (∃ x, f_M_writeFront_l10 n 20000 1001 2000 (nI c) bytes frm f (nI i) = _ ∧ _)
    unfold f_M_writeFront_l10
    rw [ifle (by omega) (by omega)]
    by_cases ci : c ≤ i
    · have : i = c := by omega
      subst this
      exact Or.inr ⟨_, by rw [if_pos ci], q3⟩
    · have b1 := S_mono hS.1 (i := i + 1) (j := c) (by omega) (by omega)
      have hcl := cm_le S T i
      rw [if_neg ci, M_inCommon hn ht (show i < c by omega) hc1 hS hM', obs, gd_nI (by omega) (by omega), qn_clamp (by omega), lI64 (by omega)]
      refine Or.inl ⟨_, rfl, q - 1, by omega, i + 1, by omega, qn_add i 1, ?_⟩
      intro j hj
      show vp_updL f i (ql64 (cm S T i)) j = _
      unfold vp_updL
      by_cases e : j = i
      · subst e; rw [if_pos rfl]; rfl
      · rw [if_neg e]; exact q3 j (by omega)
  obtain ⟨o, h1, h2⟩ := main
  rw [h1, obs]
  unfold f_M_writeFront_j36
  unfold sSz at hL ⊢
  simp only [List.length_append] at hL
  obtain ⟨o1, p1, p2, p3⟩ := M_writeCode (n := n) (ln := 2000) (cap := 90000) (m := c) (a := aCom S T true) (longs := o.1) (L := L) (out := out) hn (by omega) (by omega) h2 (by omega) (by omega) h
  rw [p1, obs, p2]
  generalize hX : L ++ (sVar (qsCode (aCom S T true) c).length ++ qsCode (aCom S T true) c) = X at *
  have hlX : X.length = L.length + ((sVar (qsCode (aCom S T true) c).length).length + (qsCode (aCom S T true) c).length) := by rw [← hX]; simp only [List.length_append]
  have main1 : ∃ o', lp (fun v => f_M_writeFront_l42 n 20000 1001 2000 (nI c) bytes frm v.1 v.2) n (o.1, (0 : Int32)) = some o' ∧ ∀ i, i < c → o'.1 i = aMor S T true i := by
    refine lp_inv (fun q u => ∃ i, i + q = c ∧ u.2 = nI i ∧ ∀ j, j < i → u.1 j = aMor S T true j) _ ?_ c n _ ⟨0, by omega, rfl, fun j hj => by omega⟩ (by omega)
    rintro q ⟨f, i'⟩ ⟨i, q1, q2, q3⟩
    simp only at q2 q3
    subst q2
    show (∃ w', f_M_writeFront_l42 n 20000 1001 2000 (nI c) bytes frm f (nI i) = _ ∧ _) ∨ (∃ x, f_M_writeFront_l42 n 20000 1001 2000 (nI c) bytes frm f (nI i) = _ ∧ _)
    unfold f_M_writeFront_l42
    rw [ifle (by omega) (by omega)]
    by_cases ci : c ≤ i
    · have : i = c := by omega
      subst this
      exact Or.inr ⟨_, by rw [if_pos ci], q3⟩
    · have b1 := S_mono hS.1 (i := i + 1) (j := c) (by omega) (by omega)
      have b3 := hS.1 i (by omega)
      have hcl := cm_le S T i
      rw [if_neg ci, M_lengthOf ht (show i < c by omega) (by omega) (by omega) b3 hM', obs, M_inCommon hn ht (show i < c by omega) hc1 hS hM', obs, bnd_eq, gd_nI (by omega) (by omega), qn_clamp (by omega), nI_sub hcl, lI64 (by omega)]
      refine Or.inl ⟨_, rfl, q - 1, by omega, i + 1, by omega, qn_add i 1, ?_⟩
      intro j hj
      show vp_updL f i (ql64 (S (i + 1) - S i - cm S T i)) j = _
      unfold vp_updL
      by_cases e : j = i
      · subst e; rw [if_pos rfl]; rfl
      · rw [if_neg e]; exact q3 j (by omega)
  obtain ⟨o2, h3, h4⟩ := main1
  rw [h3, obs]
  unfold f_M_writeFront_j74
  obtain ⟨o3, r1, r2, r3⟩ := M_writeCode (n := n) (ln := 2000) (cap := 90000) (m := c) (a := aMor S T true) (longs := o2.1) (L := X) (out := o1.2) hn (by omega) (by omega) h4 (by omega) (by omega) p3
  rw [r1, obs, r2]
  generalize hY : X ++ (sVar (qsCode (aMor S T true) c).length ++ qsCode (aMor S T true) c) = Y at *
  have hlY : Y.length = X.length + ((sVar (qsCode (aMor S T true) c).length).length + (qsCode (aMor S T true) c).length) := by rw [← hY]; simp only [List.length_append]
  have main2 : ∃ o', lp (fun v => f_M_writeFront_l80 n 20000 1001 90000 (nI c) (nI c) bytes frm o2.1 v.1 v.2.1 v.2.2) n (nI Y.length, o3.2, (0 : Int32)) = some o' ∧ QPM (Y ++ sTxs S T true c) (o'.1, o'.2.2.2) := by
    refine lp_inv (fun q u => ∃ i, i + q = c ∧ u.2.2 = nI i ∧ QPM (Y ++ cat (fun i => (tx S T i).drop (cmf S T true i)) i) (u.1, u.2.1)) _ ?_ c n _ ⟨0, by omega, rfl, by simp [cat, QPM, r3]⟩ (by omega)
    rintro q ⟨sz, ou, i'⟩ ⟨i, q1, q2, q3, q4⟩
    simp only at q2 q3 q4
    subst q2; subst q3
    show (∃ w', f_M_writeFront_l80 n 20000 1001 90000 (nI c) (nI c) bytes frm o2.1 (nI _) ou (nI i) = _ ∧ _) ∨ (∃ x, f_M_writeFront_l80 n 20000 1001 90000 (nI c) (nI c) bytes frm o2.1 (nI _) ou (nI i) = _ ∧ _)
    unfold f_M_writeFront_l80
    rw [ifle (by omega) (by omega)]
    by_cases ci : c ≤ i
    · have : i = c := by omega
      subst this
      refine Or.inr ⟨_, by rw [if_pos ci], ?_⟩
      exact ⟨rfl, q4⟩
    · have b1 := S_mono hS.1 (i := i + 1) (j := c) (by omega) (by omega)
      have b3 := hS.1 i (by omega)
      have hcl := cm_le S T i
      have hat := cat_len_at (fun i => (tx S T i).drop (cmf S T true i)) (show i < c by omega)
      unfold sTxs at hL
      simp only [List.length_drop, tx_len] at hat
      have hcmf : cmf S T true i = cm S T i := rfl
      rw [hcmf] at hat
      rw [if_neg ci, gd_nI (by omega) (by omega), M_inCommon hn ht (show i < c by omega) hc1 hS hM', obs, bnd_eq, qn_clamp (by omega), (g7 ht).1 i (by omega), qn_add]
      obtain ⟨o', s1, s2⟩ := M_txt_lp2 (n := n) (cap := 90000) (c := c) (i := i) (p0 := S i + cm S T i) (S := S) (T := T) (frm := frm) (bytes := bytes) (L := Y ++ cat (fun i => (tx S T i).drop (cmf S T true i)) i) (out := ou) hn (by omega) (by omega) ((g7 ht).1 _ (by omega)) (fun j hj => (g7 ht).2 j (by omega)) (by omega) (by omega) (by omega) (by rw [List.length_append]; omega) q4
      rw [s1, obs]
      refine Or.inl ⟨_, rfl, q - 1, by omega, i + 1, by omega, qn_add i 1, ?_⟩
      rw [List.append_assoc, ← tx_drop hcl] at s2
      exact s2
  obtain ⟨o', s1, s2⟩ := main2
  rw [s1, obs]
  refine ⟨_, rfl, ?_⟩
  rw [← hY, ← hX] at s2
  simp only [List.append_assoc] at s2 ⊢
  exact s2
