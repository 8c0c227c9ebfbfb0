theorem nI_byte {a : Nat} (h : a < 128) : (nI a).toInt8.toInt32 = nI a := by
  have : ∀ j : Fin 128, (nI j.val).toInt8.toInt32 = nI j.val := by decide
  exact this ⟨a, h⟩
theorem lI64 {a : Nat} (h : a < 2147483648) : (nI a).toInt64 = ql64 a := by
  apply lv_inj
  rw [lv_nI h, lv_l64 (by omega)]
theorem l64_toInt {a : Nat} (h : a < 9223372036854775808) : (ql64 a).toInt = (a : Int) := by
  rw [lv_toInt, lv_l64 (by omega), if_pos h]
theorem l64_mul (a b : Nat) : ql64 a * ql64 b = ql64 (a * b) := by simp [ql64, Int64.ofNat_mul]
theorem ql64_add (a b : Nat) : ql64 a + ql64 b = ql64 (a + b) := by simp [ql64, Int64.ofNat_add]
theorem l64_le {a b : Nat} (ha : a < 9223372036854775808) (hb : b < 9223372036854775808) : (ql64 a ≤ ql64 b) = (a ≤ b) := by
  apply propext
  rw [Int64.le_iff_toInt_le, l64_toInt ha, l64_toInt hb]; omega
theorem ql64_lt {a b : Nat} (ha : a < 9223372036854775808) (hb : b < 9223372036854775808) : (ql64 a < ql64 b) = (a < b) := by
  apply propext
  rw [Int64.lt_iff_toInt_lt, l64_toInt ha, l64_toInt hb]; omega
def LvC (d n : Nat) (rp df : Nat → Nat) (definitions repetitions valueNumbers : Nat → Int32) : Prop :=
  ∀ k, k < n → definitions k = nI (df k) ∧ repetitions k = nI (rp k) ∧ valueNumbers k = if df k = d then nI (cntD df d k) else -1
theorem P_addLevels {d n : Nat} {rp df : Nat → Nat} {defs reps vns : Nat → Int32} (hn : n < 1000) (hr : rp n < 128) (hd : df n < 128) (h : LvC d n rp df defs reps vns) :
    ∃ o, f_P_addLevels 1000 1000 1000 (nI n) (nI (cntD df d n)) defs reps vns (nI (rp n)) (nI (df n)) (nI (if df n = d then 1 else 0)) = some o ∧ o.1 = nI (n + 1) ∧ o.2.1 = nI (cntD df d (n + 1)) ∧ LvC d (n + 1) rp df o.2.2.1 o.2.2.2.1 o.2.2.2.2 := by
  unfold f_P_addLevels
  have i1 : (1000 : Int32) = nI 1000 := rfl
  have hx : LvC d (n + 1) rp df (upd defs n (nI (df n))) (upd reps n (nI (rp n))) (upd vns n (if df n = d then nI (cntD df d n) else -1)) := by
    intro k hk
    unfold upd
    by_cases e : k = n
    · subst e; simp
    · rw [if_neg e, if_neg e, if_neg e]; exact h k (by omega)
  rw [i1, ifl (by omega) (by omega), if_pos hn, gd_nI (by omega) (by omega), gd_nI (by omega) (by omega), qn_clamp (by omega), vp_nar_byte, vp_nar_byte, nI_byte hd, nI_byte hr, nI_byte hd, nI_byte hr]
  by_cases c : df n = d
  · rw [if_pos c, if_neg (show ¬ nI 1 = 0 by decide)]
    unfold f_P_addLevels_j53
    rw [gd_nI (by omega) (by omega)]
    simp only [bnd]
    rw [if_neg (show ¬ nI 1 = 0 by decide), qn_clamp (by omega)]
    refine ⟨_, rfl, qn_add n 1, ?_, ?_⟩
    · show nI (cntD df d n) + 1 = _
      simp only [cntD, if_pos c]; exact qn_add _ 1
    · have := hx
      rw [if_pos c] at this; exact this
  · rw [if_neg c, if_pos (show nI 0 = 0 by decide)]
    unfold f_P_addLevels_j53
    rw [gd_nI (by omega) (by omega)]
    simp only [bnd]
    rw [if_pos (show nI 0 = 0 by decide), qn_clamp (by omega)]
    refine ⟨_, rfl, qn_add n 1, ?_, ?_⟩
    · show nI (cntD df d n) = _
      simp only [cntD, if_neg c]; rfl
    · have := hx
      rw [if_neg c] at this; exact this
theorem V_addNumber {nm c : Nat} {numbers : Nat → Int64} (v : Int64) (hc : c < nm) (hm : nm < 2147483648) : f_V_addNumber nm (nI c) numbers v = some (1, nI (c + 1), vp_updL numbers c v) := by
  unfold f_V_addNumber
  rw [ifl (by omega) (by omega), if_pos hc, gd_nI (by omega) hc, qn_clamp (by omega)]
  simp only [bnd]
  have : nI c + 1 = nI (c + 1) := qn_add c 1
  rw [this]
theorem V_lastSize {sn c : Nat} {S : Nat → Nat} {starts : Nat → Int32} (hc : c < sn) (hsn : sn < 2147483648) (h : ∀ i, i ≤ c → starts i = nI (S i)) (hS : ∀ i, i < c → S i ≤ S (i + 1)) : f_V_lastSize sn (nI c) starts = some (nI (if c = 0 then 0 else S c - S (c - 1))) := by
  unfold f_V_lastSize
  rw [ife0 (by omega)]
  by_cases c0 : c = 0
  · rw [if_pos c0, if_pos c0]; rfl
  · have e1 : nI c - 1 = nI (c - 1) := nI_sub (show 1 ≤ c by omega)
    have := hS (c - 1) (by omega)
    have e2 : c - 1 + 1 = c := by omega
    rw [e2] at this
    rw [if_neg c0, if_neg c0, e1, gd_nI (by omega) (by omega), gd_nI (by omega) (by omega), qn_clamp (by omega), qn_clamp (by omega), h c (by omega), h (c - 1) (by omega), nI_sub this]
theorem V_addText {t c nm sn tn pn m a k : Nat} {num : Nat → Int64} {S S' : Nat → Nat} {T T' : Nat → UInt8} {ofTexts count : Int32} {numbers : Nat → Int64} {starts texts p2 : Nat → Int32}
    (ht : t = 3) (hC : VsC t c num S T ofTexts count numbers starts texts) (hS : ∀ i, i < c → S i ≤ S (i + 1)) (hnm : c < nm) (hsn : nm < sn) (hsn2 : sn < 2147483648) (htn : tn < 1000000) (hpn : pn < 1000000)
    (hm : m ≤ if c = 0 then 0 else S c - S (c - 1)) (hfit : S c + m + k ≤ tn) (ha : a + k ≤ pn)
    (aS : ∀ i, i ≤ c → S' i = S i) (aT : ∀ j, j < S c → T' j = T j) (nS : S' (c + 1) = S c + m + k) (h1 : ∀ i, i < m → T' (S c + i) = T (S (c - 1) + i)) (h2 : ∀ i, i < k → p2 (a + i) = qsb (T' (S c + m + i))) :
    ∃ o, f_V_addText nm sn tn pn count starts texts p2 (nI m) (nI a) (nI k) = some o ∧ o.1 = 1 ∧ VsC t (c + 1) num S' T' ofTexts o.2.1 numbers o.2.2.1 o.2.2.2 := by
  obtain ⟨e4, e5, e6, e7, e8⟩ := hC
  obtain ⟨e9, e10⟩ := e8 ht
  unfold f_V_addText
  have hlast : (if c = 0 then 0 else S c - S (c - 1)) ≤ S c := by split <;> omega
  rw [qif0 (by omega), e5, V_lastSize (by omega) hsn2 e9 hS, obs, ifl (by omega) (by omega), if_neg (show ¬ (if c = 0 then 0 else S c - S (c - 1)) < m by omega), qif0 (by omega), qif0 (by omega), show nI pn - nI a = nI (pn - a) from nI_sub (by omega), ifle (by omega) (by omega), if_pos (show k ≤ pn - a by omega), gd_nI (by omega) (by omega), qn_clamp (by omega), e9 c (by omega)]
  simp only [bnd]
  rw [ifle (by omega) (by omega), if_neg (show ¬ nm ≤ c by omega), qn_add, qn_add, qn_add, show nI tn - nI (S c) = nI (tn - S c) from nI_sub (by omega), ifle (by omega) (by omega), if_pos (show m + k ≤ tn - S c by omega), obs, nI_sub hlast]
  have hsrc : m = 0 ∨ S c - (if c = 0 then 0 else S c - S (c - 1)) = S (c - 1) ∧ S (c - 1) + m ≤ S c := by
    by_cases c0 : c = 0
    · rw [if_pos c0] at hm; exact Or.inl (by omega)
    · rw [if_neg c0] at hm ⊢
      have := hS (c - 1) (by omega)
      have e2 : c - 1 + 1 = c := by omega
      rw [e2] at this
      exact Or.inr ⟨by omega, by omega⟩
  have c1 : nI c + 1 = nI (c + 1) := qn_add c 1
  rw [gd_t (cpB_of (by omega) (by omega) (by omega) (by omega) (by
    intro i hi
    rcases hsrc with h | ⟨h, h'⟩
    · omega
    · rw [h, e10 _ (by omega)]; exact fits_sb _)), gd_t (cpB_of ha (by omega) (by omega) (by omega) (by intro i hi; rw [h2 i hi]; exact fits_sb _)), c1, gd_nI (by omega) (by omega), qn_clamp (by omega), qn_clamp (by omega), qn_clamp (by omega), qn_clamp (by omega), qn_clamp (by omega), qn_clamp (by omega), qn_clamp (by omega)]
  refine ⟨_, rfl, rfl, e4, rfl, fun h => absurd ht h, ?_, fun _ => ⟨?_, ?_⟩⟩
  · show upd starts (c + 1) (nI (S c + m + k)) 0 = _
    unfold upd; rw [if_neg (by omega)]; exact e7
  · intro i hi
    show upd starts (c + 1) (nI (S c + m + k)) i = _
    unfold upd
    by_cases e : i = c + 1
    · rw [if_pos e, e, nS]
    · rw [if_neg e, e9 i (by omega), aS i (by omega)]
  · intro j hj
    rw [nS] at hj
    show va_cpy p2 (va_cpy texts texts (S c - if c = 0 then 0 else S c - S (c - 1)) (S c) m) a (S c + m) k j = _
    unfold va_cpy
    by_cases j1 : S c + m ≤ j
    · rw [if_pos ⟨j1, hj⟩, h2 (j - (S c + m)) (by omega)]
      congr 2; omega
    · rw [if_neg (by omega)]
      by_cases j2 : S c ≤ j
      · rw [if_pos ⟨j2, by omega⟩]
        rcases hsrc with h | ⟨h, h'⟩
        · omega
        · rw [h, e10 _ (by omega)]
          have := h1 (j - S c) (by omega)
          rw [← this]
          congr 2; omega
      · rw [if_neg (by omega), e10 j (by omega), aT j (by omega)]
theorem C_holds (t : Nat) (ht : t ≤ 3) (v : Int64) : ∃ b : Bool, f_C_holds (nI t) v = some (nI b.toNat) ∧ f_M_isOne (nI t) v = some (nI b.toNat) ∧ (b = true ↔ holdsT t v) := by
  unfold f_C_holds f_M_isOne
  have i0 : (0 : Int32) = nI 0 := rfl
  have i1 : (1 : Int32) = nI 1 := rfl
  rw [ife0 (by omega)]
  by_cases c0 : t = 0
  · subst c0
    rw [if_pos rfl]
    by_cases v0 : v = 0
    · subst v0
      exact ⟨true, rfl, rfl, ⟨fun _ => ⟨fun _ => by decide, fun h => by omega⟩, fun _ => rfl⟩⟩
    · by_cases v1 : v = 1
      · subst v1
        exact ⟨true, rfl, rfl, ⟨fun _ => ⟨fun _ => by decide, fun h => by omega⟩, fun _ => rfl⟩⟩
      · refine ⟨false, ?_, ?_, ⟨fun h => (by cases h), fun h => ?_⟩⟩
        · rw [if_neg v0, if_neg v1]; rfl
        · rw [if_neg v0, if_neg v1]; rfl
        · exfalso
          have := h.1 rfl
          have h0 : lv v ≠ 0 := fun q => v0 (lv_inj q)
          have h1 : lv v ≠ 1 := fun q => v1 (lv_inj q)
          omega
  · rw [if_neg c0]
    have e1 : ∀ {α : Type} {x y : α}, (if nI t = 1 then x else y) = if t = 1 then x else y := fun {α x y} => ife (by omega) (by decide)
    rw [if_neg (show ¬ nI t = 0 by rw [i0, nI_inj (by omega) (by omega)]; exact c0), e1, e1]
    by_cases c1 : t = 1
    · rw [if_pos c1, if_pos c1]
      by_cases hv : v = v.toInt32.toInt64
      · refine ⟨true, by rw [if_pos hv]; rfl, by rw [if_pos hv]; rfl, ⟨fun _ => ⟨fun h => absurd h c0, fun _ => hv⟩, fun _ => rfl⟩⟩
      · refine ⟨false, by rw [if_neg hv]; rfl, by rw [if_neg hv]; rfl, ⟨fun h => (by cases h), fun h => absurd (h.2 c1) hv⟩⟩
    · rw [if_neg c1, if_neg c1]
      exact ⟨true, rfl, rfl, ⟨fun _ => ⟨fun h => absurd h c0, fun h => absurd h c1⟩, fun _ => rfl⟩⟩

theorem F_addValue {t c isn : Nat} {num num' : Nat → Int64} {S S' : Nat → Nat} {T T' : Nat → UInt8} {ofTexts count isz ty : Int32} {numbers : Nat → Int64} {starts texts irow : Nat → Int32} {L : List UInt8} (v : Int64)
    (hty : ty = nI t) (ht3 : t ≤ 3) (hc : c < 1000) (hL : L.length ≤ 30000) (hsz : isz = nI L.length) (hHC : HC L irow) (hC : VsC t c num S T ofTexts count numbers starts texts)
    (hS : t = 3 → (∀ i, i < c → S i ≤ S (i + 1)) ∧ S c + L.length ≤ 20000 ∧ (∀ i, i ≤ c → S' i = S i) ∧ (∀ j, j < S c → T' j = T j) ∧ S' (c + 1) = S c + L.length ∧ ∀ i (h : i < L.length), T' (S c + i) = L[i])
    (hN : t ≠ 3 → (∀ i, i < c → num' i = num i) ∧ num' c = v) :
    ∃ o, f_F_addValue 30000 1000 1001 20000 ty isz irow count numbers starts texts v = some o ∧ VsC t (c + 1) num' S' T' ofTexts o.1 o.2.1 o.2.2.1 o.2.2.2 := by
  unfold f_F_addValue
  have I3 : (3 : Int32) = nI 3 := rfl
  rw [hty, I3, ife (by omega) (by omega)]
  by_cases c3 : t = 3
  · obtain ⟨s1, s2, s3, s4, s5, s6⟩ := hS c3
    obtain ⟨o, h1, h2, h3⟩ := V_addText (nm := 1000) (sn := 1001) (tn := 20000) (pn := 30000) (m := 0) (a := 0) (k := L.length) (S' := S') (T' := T') (p2 := irow) c3 hC s1 hc (by omega) (by omega) (by omega) (by omega) (by omega) (by omega) (by omega) s3 s4 s5 (fun i hi => by omega) (fun i hi => by rw [Nat.zero_add, hHC i hi]; exact congrArg qsb (s6 i hi).symm)
    rw [if_pos c3, hsz]
    have h1' : f_V_addText 1000 1001 20000 30000 count starts texts irow 0 0 (nI L.length) = some o := h1
    rw [h1', obs]
    obtain ⟨a1, a2, a3, a4, a5⟩ := h3
    exact ⟨_, rfl, a1, a2, fun h => absurd c3 h, a4, a5⟩
  · rw [if_neg c3, hC.2.1, V_addNumber v hc (by omega), obs]
    refine ⟨_, rfl, hC.1, rfl, ?_, hC.2.2.2.1, fun h => absurd h c3⟩
    intro _ i hi
    obtain ⟨n1, n2⟩ := hN c3
    show vp_updL numbers c v i = num' i
    unfold vp_updL
    by_cases e : i = c
    · subst e; rw [if_pos rfl, n2]
    · rw [if_neg e, hC.2.2.1 c3 i (by omega), n1 i (by omega)]
theorem VsC_mono {t c : Nat} {num num' : Nat → Int64} {S S' : Nat → Nat} {T T' : Nat → UInt8} {ofTexts count : Int32} {numbers : Nat → Int64} {starts texts : Nat → Int32} (h : VsC t c num S T ofTexts count numbers starts texts)
    (hn : ∀ i, i < c → num' i = num i) (hS : ∀ i, i ≤ c → S' i = S i) (hT : ∀ j, j < S c → T' j = T j) : VsC t c num' S' T' ofTexts count numbers starts texts := by
  obtain ⟨a1, a2, a3, a4, a5⟩ := h
  refine ⟨a1, a2, fun h i hi => by rw [a3 h i hi, hn i hi], a4, fun h => ⟨fun i hi => by rw [(a5 h).1 i hi, hS i hi], fun j hj => ?_⟩⟩
  rw [hS c (Nat.le_refl _)] at hj
  rw [(a5 h).2 j hj, hT j hj]
theorem VsM_mono {t c : Nat} {num num' : Nat → Int64} {S S' : Nat → Nat} {T T' : Nat → UInt8} {values : Int32} {wholes : Nat → Int64} {frm bytes : Nat → Int32} (h : VsM t c num S T values wholes frm bytes)
    (hn : ∀ i, i < c → num' i = num i) (hS : ∀ i, i ≤ c → S' i = S i) (hT : ∀ j, j < S c → T' j = T j) : VsM t c num' S' T' values wholes frm bytes := by
  obtain ⟨a2, a3, a4, a5⟩ := h
  refine ⟨a2, fun h i hi => by rw [a3 h i hi, hn i hi], a4, fun h => ⟨fun i hi => by rw [(a5 h).1 i hi, hS i hi], fun j hj => ?_⟩⟩
  rw [hS c (Nat.le_refl _)] at hj
  rw [(a5 h).2 j hj, hT j hj]
/-- the functions behind an add: they don't depend on how often -/
def aF {α : Type} (n : Nat) (f : Nat → α) (x : α) : Nat → α := fun i => if i < n then f i else x
def aS (c : Nat) (S : Nat → Nat) (l : Nat) : Nat → Nat := fun i => if i ≤ c then S i else S c + (i - c) * l
def aT (s : Nat) (T : Nat → UInt8) (L : List UInt8) : Nat → UInt8 := fun j => if j < s then T j else L.getD ((j - s) % L.length) 0
theorem cntD_aF {df : Nat → Nat} {d n d0 : Nat} (k : Nat) : cntD (aF n df d0) d (n + k) = cntD df d n + if d0 = d then k else 0 := by
  induction k with
  | zero =>
    have : ∀ m, m ≤ n → cntD (aF n df d0) d m = cntD df d m := by
      intro m hm
      induction m with
      | zero => rfl
      | succ m ih =>
        simp only [cntD]
        rw [ih (by omega)]
        have : aF n df d0 m = df m := by unfold aF; rw [if_pos (by omega)]
        rw [this]
    rw [Nat.add_zero, this n (Nat.le_refl _)]; split <;> omega
  | succ k ih =>
    have h1 : n + (k + 1) = (n + k) + 1 := by omega
    have h2 : aF n df d0 (n + k) = d0 := by unfold aF; rw [if_neg (by omega)]
    rw [h1]
    simp only [cntD]
    rw [ih, h2]
    split <;> omega
theorem aT_at {s k i : Nat} {T : Nat → UInt8} {L : List UInt8} (h : i < L.length) : aT s T L (s + k * L.length + i) = L[i] := by
  unfold aT
  rw [if_neg (by omega)]
  have : s + k * L.length + i - s = i + k * L.length := by omega
  rw [this, Nat.add_mul_mod_self_right, Nat.mod_eq_of_lt h]
  simp [List.getD, h]
theorem F_add_lp {t r d n c : Nat} {rp df : Nat → Nat} {num : Nat → Int64} {S : Nat → Nat} {T : Nat → UInt8} {entries valued : Int32} {definitions repetitions valueNumbers : Nat → Int32} {ofTexts count : Int32} {numbers : Nat → Int64} {starts texts irow : Nat → Int32} {isz ty : Int32} {L : List UInt8} {fu r0 d0 m : Nat} (v : Int64)
    (hfu : 100000 < fu) (ht3 : t ≤ 3) (hr0 : r0 ≤ 16) (hd0 : d0 ≤ 16) (hm : n + m ≤ 1000) (hty : ty = nI t) (hV : PgV t r d n c rp df num S)
    (hL : L.length ≤ 30000) (hsz : isz = nI L.length) (hHC : HC L irow) (htx : t = 3 → d0 = d → L.length ≤ 255 ∧ S c + m * L.length ≤ 20000)
    (hC : PgC t d n c rp df num S T entries valued definitions repetitions valueNumbers ofTexts count numbers starts texts) :
    ∃ o, f_F_add_j91 fu 30000 1000 1000 1000 1000 1001 20000 ty isz irow entries valued definitions repetitions valueNumbers count numbers starts texts (nI r0) (nI d0) v (nI m) (nI (if d0 = d then 1 else 0)) = some o ∧ o.1 = 1 ∧
      PgC t d (n + m) (cntD (aF n df d0) d (n + m)) (aF n rp r0) (aF n df d0) (aF c num v) (aS c S L.length) (aT (S c) T L) o.2.1 o.2.2.1 o.2.2.2.1 o.2.2.2.2.1 o.2.2.2.2.2.1 ofTexts o.2.2.2.2.2.2.1 o.2.2.2.2.2.2.2.1 o.2.2.2.2.2.2.2.2.1 o.2.2.2.2.2.2.2.2.2 := by
  unfold f_F_add_j91
  have hcn := PgV_c hV
  have hSV := PgV_S hV
  have main : ∃ o, lp (fun v' => f_F_add_l94 30000 1000 1000 1000 1000 1001 20000 ty isz irow (nI r0) (nI d0) v (nI m) (nI (if d0 = d then 1 else 0)) v'.1 v'.2.1 v'.2.2.1 v'.2.2.2.1 v'.2.2.2.2.1 v'.2.2.2.2.2.1 v'.2.2.2.2.2.2.1 v'.2.2.2.2.2.2.2.1 v'.2.2.2.2.2.2.2.2.1 v'.2.2.2.2.2.2.2.2.2) fu (entries, valued, definitions, repetitions, valueNumbers, count, numbers, starts, texts, (0 : Int32)) = some o ∧ o.1 = 1 ∧
      PgC t d (n + m) (cntD (aF n df d0) d (n + m)) (aF n rp r0) (aF n df d0) (aF c num v) (aS c S L.length) (aT (S c) T L) o.2.1 o.2.2.1 o.2.2.2.1 o.2.2.2.2.1 o.2.2.2.2.2.1 ofTexts o.2.2.2.2.2.2.1 o.2.2.2.2.2.2.2.1 o.2.2.2.2.2.2.2.2.1 o.2.2.2.2.2.2.2.2.2 := by
    refine lp_inv (fun q w => ∃ k, k + q = m ∧ w.2.2.2.2.2.2.2.2.2 = nI k ∧ PgC t d (n + k) (cntD (aF n df d0) d (n + k)) (aF n rp r0) (aF n df d0) (aF c num v) (aS c S L.length) (aT (S c) T L) w.1 w.2.1 w.2.2.1 w.2.2.2.1 w.2.2.2.2.1 ofTexts w.2.2.2.2.2.1 w.2.2.2.2.2.2.1 w.2.2.2.2.2.2.2.1 w.2.2.2.2.2.2.2.2.1) _ ?_ m fu _ ⟨0, by omega, rfl, ?_⟩ (by omega)
    · rintro q ⟨en, va, de, re, vn, co, nu, st, tx, k'⟩ ⟨k, g1, g2, g3⟩
      simp only at g2 g3
      subst g2
      obtain ⟨p1, p2, p3, p4⟩ := g3
      subst p1; subst p2
      show (∃ w', f_F_add_l94 30000 1000 1000 1000 1000 1001 20000 ty isz irow (nI r0) (nI d0) v (nI m) (nI (if d0 = d then 1 else 0)) (nI (n + k)) (nI _) de re vn co nu st tx (nI k) = _ ∧ _) ∨ (∃ x, f_F_add_l94 30000 1000 1000 1000 1000 1001 20000 ty isz irow (nI r0) (nI d0) v (nI m) (nI (if d0 = d then 1 else 0)) (nI (n + k)) (nI _) de re vn co nu st tx (nI k) = _ ∧ _)
      unfold f_F_add_l94
      rw [ifle (by omega) (by omega)]
      by_cases ck : m ≤ k
      · have : k = m := by omega
        subst this
        exact Or.inr ⟨_, by rw [if_pos ck], rfl, rfl, rfl, p3, p4⟩
      · rw [if_neg ck]
        have er : aF n rp r0 (n + k) = r0 := by unfold aF; rw [if_neg (by omega)]
        have ed : aF n df d0 (n + k) = d0 := by unfold aF; rw [if_neg (by omega)]
        obtain ⟨o, h1, h2, h3, h4⟩ := P_addLevels (d := d) (n := n + k) (rp := aF n rp r0) (df := aF n df d0) (by omega) (by rw [er]; omega) (by rw [ed]; omega) p3
        rw [er, ed] at h1
        rw [h1, obs, ife0 (by split <;> omega)]
        by_cases cd : d0 = d
        · rw [if_pos cd, if_neg (show ¬ 1 = 0 by omega)]
          have hcnt := cntD_aF (df := df) (d := d) (n := n) (d0 := d0) k
          rw [if_pos cd, ← hV.2.1] at hcnt
          have hcnt1 := cntD_aF (df := df) (d := d) (n := n) (d0 := d0) (k + 1)
          rw [if_pos cd, ← hV.2.1] at hcnt1
          rw [hcnt] at p4
          have hck : c + k ≤ n + k := by omega
          obtain ⟨o', f1, f2⟩ := F_addValue (isn := 0) (num' := aF c num v) (S' := aS c S L.length) (T' := aT (S c) T L) v hty ht3 (show c + k < 1000 by omega) hL hsz hHC p4 (by
            intro h3'
            obtain ⟨x1, x2⟩ := htx h3' cd
            obtain ⟨y1, y2⟩ := hSV h3'
            have eS : ∀ i, aS c S L.length (c + i) = S c + i * L.length := by
              intro i
              unfold aS
              by_cases e : c + i ≤ c
              · rw [if_pos e]
                have : i = 0 := by omega
                subst this; simp
              · rw [if_neg e]; congr 2; omega
            have hle : (k + 1) * L.length ≤ m * L.length := Nat.mul_le_mul_right _ (by omega)
            rw [Nat.add_mul] at hle
            refine ⟨?_, ?_, fun _ _ => rfl, fun _ _ => rfl, ?_, ?_⟩
            · intro i hi
              by_cases e : i < c
              · unfold aS; rw [if_pos (by omega), if_pos (by omega)]; exact y1 i e
              · obtain ⟨j, rfl⟩ : ∃ j, i = c + j := ⟨i - c, by omega⟩
                have : c + j + 1 = c + (j + 1) := by omega
                rw [this, eS, eS, Nat.add_mul]; omega
            · rw [eS]; omega
            · have : c + k + 1 = c + (k + 1) := by omega
              rw [this, eS, eS, Nat.add_mul]; omega
            · intro i hi
              rw [eS]; exact aT_at hi) (by
            intro _
            refine ⟨fun _ _ => rfl, ?_⟩
            unfold aF; rw [if_neg (by omega)])
          rw [f1, obs]
          refine Or.inl ⟨_, rfl, q - 1, by omega, k + 1, by omega, qn_add k 1, h2, h3, h4, ?_⟩
          have e1 : n + (k + 1) = n + k + 1 := by omega
          rw [hcnt1]
          exact f2
        · rw [if_neg cd, if_pos rfl]
          refine Or.inl ⟨_, rfl, q - 1, by omega, k + 1, by omega, qn_add k 1, h2, h3, h4, ?_⟩
          have hcnt := cntD_aF (df := df) (d := d) (n := n) (d0 := d0) k
          have hcnt1 := cntD_aF (df := df) (d := d) (n := n) (d0 := d0) (k + 1)
          rw [if_neg cd] at hcnt hcnt1
          rw [hcnt1, ← hcnt]
          exact p4
    · obtain ⟨p1, p2, p3, p4⟩ := hC
      have hcnt := cntD_aF (df := df) (d := d) (n := n) (d0 := d0) 0
      have e0 : cntD df d n + (if d0 = d then 0 else 0) = c := by rw [hV.2.1]; split <;> rfl
      rw [e0] at hcnt
      rw [hcnt]
      refine ⟨p1, p2, ?_, VsC_mono p4 (fun i hi => by unfold aF; rw [if_pos hi]) (fun i hi => by unfold aS; rw [if_pos hi]) (fun j hj => by unfold aT; rw [if_pos hj])⟩
      intro k hk
      have hk' : k < n := by omega
      have e1 : aF n df d0 k = df k := by unfold aF; rw [if_pos hk']
      have e2 : aF n rp r0 k = rp k := by unfold aF; rw [if_pos hk']
      have e3 : cntD (aF n df d0) d k = cntD df d k := by
        have : ∀ m, m ≤ n → cntD (aF n df d0) d m = cntD df d m := by
          intro m hm
          induction m with
          | zero => rfl
          | succ m ih =>
            simp only [cntD]
            rw [ih (by omega)]
            have : aF n df d0 m = df m := by unfold aF; rw [if_pos (by omega)]
            rw [this]
        exact this k (by omega)
      rw [e1, e2, e3]
      exact p3 k hk'
  obtain ⟨o, h1, h2⟩ := main
  rw [h1]
  exact ⟨o, rfl, h2⟩
