/-- in common with the one before -/
def cm (S : Nat → Nat) (T : Nat → UInt8) (i : Nat) : Nat := if i = 0 then 0 else comm (fun k => T (S i + k)) (fun k => T (S (i - 1) + k)) (min (S (i + 1) - S i) (S (i - 1 + 1) - S (i - 1)))
def cmf (S : Nat → Nat) (T : Nat → UInt8) (two : Bool) (i : Nat) : Nat := if two then cm S T i else 0
theorem cm_le (S : Nat → Nat) (T : Nat → UInt8) (i : Nat) : cm S T i ≤ S (i + 1) - S i := by
  unfold cm
  split
  · omega
  · have := comm_le (fun k => T (S i + k)) (fun k => T (S (i - 1) + k)) (min (S (i + 1) - S i) (S (i - 1 + 1) - S (i - 1)))
    omega
theorem cmf_le (S : Nat → Nat) (T : Nat → UInt8) (two : Bool) (i : Nat) : cmf S T two i ≤ S (i + 1) - S i := by
  unfold cmf
  split
  · exact cm_le S T i
  · omega
def sSz (a : Nat → Int64) (c : Nat) : List UInt8 := sVar (qsCode a c).length ++ qsCode a c
def aCom (S : Nat → Nat) (T : Nat → UInt8) (two : Bool) (i : Nat) : Int64 := ql64 (cmf S T two i)
def aMor (S : Nat → Nat) (T : Nat → UInt8) (two : Bool) (i : Nat) : Int64 := ql64 (S (i + 1) - S i - cmf S T two i)
def sTxs (S : Nat → Nat) (T : Nat → UInt8) (two : Bool) (c : Nat) : List UInt8 := cat (fun i => (tx S T i).drop (cmf S T two i)) c
def lastC (t : Nat) : Nat := if t = 0 then 1 else if t = 3 then 3 else 2
def sDic (t c : Nat) (num : Nat → Int64) (S : Nat → Nat) (T : Nat → UInt8) : List UInt8 :=
  sVar (dn (ky t num S T) c) ++ sDict (sItem t num S T) (ky t num S T) c ++ [UInt8.ofNat (wd (dn (ky t num S T) c - 1))] ++ sRuns (dk (ky t num S T)) c (wd (dn (ky t num S T) c - 1)) 0
/-- the values in a coding -/
def sVals (t c : Nat) (num : Nat → Int64) (S : Nat → Nat) (T : Nat → UInt8) (how : Nat) : List UInt8 :=
  if t = 0 then (if how = 0 then sBits (pbit (fun i => lv (num i)) c 1) ((c + 7) / 8) else sRuns (fun i => lv (num i)) c 1 0)
  else if how = 0 then cat (sItem t num S T) c
  else if how = lastC t then sDic t c num S T
  else if t = 3 then (if how = 2 then sSz (aCom S T true) c else []) ++ sSz (aMor S T (decide (how = 2))) c ++ sTxs S T (decide (how = 2)) c
  else qsCode num c
theorem sText_len {S : Nat → Nat} {T : Nat → UInt8} {i : Nat} (h : S (i + 1) ≤ S i + 255) : (sText S T i).length ≤ 2 + (S (i + 1) - S i) := by
  unfold sText
  rw [List.length_append, tx_len]
  have := sVar2 (v := S (i + 1) - S i) (by omega)
  omega
theorem items_len {t c : Nat} {num : Nat → Int64} {S : Nat → Nat} {T : Nat → UInt8} (hc : c ≤ 1000) (hS : t = 3 → (∀ i, i < c → S i ≤ S (i + 1) ∧ S (i + 1) ≤ S i + 255) ∧ S c ≤ 20000) : (cat (sItem t num S T) c).length ≤ 22000 := by
  by_cases c3 : t = 3
  · obtain ⟨h1, h2⟩ := hS c3
    have : ∀ k, k ≤ c → (cat (sItem t num S T) k).length ≤ 2 * k + S k := by
      intro k
      induction k with
      | zero => intro _; simp [cat]
      | succ k ih =>
        intro hk
        have h3 := ih (by omega)
        have h4 := h1 k (by omega)
        have h5 := sText_len (T := T) h4.2
        simp only [cat, List.length_append]
        have h6 : sItem t num S T k = sText S T k := by unfold sItem; rw [if_pos c3]
        rw [h6]; omega
    have := this c (Nat.le_refl _)
    omega
  · have : ∀ k, (cat (sItem t num S T) k).length ≤ 8 * k := by
      intro k
      induction k with
      | zero => simp [cat]
      | succ k ih =>
        simp only [cat, List.length_append]
        have h6 : sItem t num S T k = sFix (lv (num k)) (qwide t) := by unfold sItem; rw [if_neg c3]
        have h7 : qwide t ≤ 8 := by unfold qwide; split <;> omega
        rw [h6, sFix_len]; omega
    have := this c
    omega
theorem sDict_le_cat (item : Nat → List UInt8) (K : Nat → List Nat) (k : Nat) : (sDict item K k).length ≤ (cat item k).length := by
  induction k with
  | zero => simp [sDict, cat]
  | succ k ih =>
    simp only [sDict, cat, List.length_append]
    split
    · omega
    · simp; omega
theorem wd_dn {K : Nat → List Nat} {c : Nat} (hc : c ≤ 1000) : wd (dn K c - 1) ≤ 10 := wd_le (by have := dn_le K c; omega)
theorem dk_lt {K : Nat → List Nat} {c i : Nat} (hi : i < c) : dk K i < dn K c := by
  unfold dk
  have := fi_le K i
  exact dn_lt (by omega) (fi_fi K i)
theorem sDic_len {t c : Nat} {num : Nat → Int64} {S : Nat → Nat} {T : Nat → UInt8} (hc : c ≤ 1000) (hS : t = 3 → (∀ i, i < c → S i ≤ S (i + 1) ∧ S (i + 1) ≤ S i + 255) ∧ S c ≤ 20000) : (sDic t c num S T).length ≤ 23753 := by
  unfold sDic
  simp only [List.length_append, List.length_cons, List.length_nil]
  have h1 := dn_le (ky t num S T) c
  have h2 := sVar2 (v := dn (ky t num S T) c) (by omega)
  have h3 := sDict_le_cat (sItem t num S T) (ky t num S T) c
  have h4 := items_len (t := t) (num := num) (S := S) (T := T) hc hS
  have h5 := wd_dn (K := ky t num S T) hc
  have h6 := sRuns_len (f := dk (ky t num S T)) (m := c) (w := wd (dn (ky t num S T) c - 1)) hc (by omega) c 0 (by omega)
  have h7 : (4 + wd (dn (ky t num S T) c - 1)) * ((c - 0 + 7) / 8) ≤ 14 * 125 := Nat.mul_le_mul (by omega) (by omega)
  omega
theorem sCode_len {a : Nat → Int64} {m V W : Nat} (hm : m ≤ 1000) (h0 : 0 < m → (sVar (lv (zz (a 0)))).length ≤ V) (hV : ∀ s, s < m - 1 → (sVar (lv (zz (qlst a s (min (s + 64) (m - 1) - s))))).length ≤ V) (hW : ∀ s q, s < m - 1 → pw a (qlst a s (min (s + 64) (m - 1) - s)) s (min (s + 64) (m - 1)) q ≤ W) :
    (qsCode a m).length ≤ 2 + V + (V + 4 + 8 * W) * 16 := by
  unfold qsCode
  rw [List.length_append]
  have h1 := sVar2 (v := m) (by omega)
  by_cases c : m = 0
  · rw [if_pos c]; simp; omega
  · rw [if_neg c, List.length_append]
    have h2 := h0 (by omega)
    have h3 := sBlks_len hV hW m 0 (by omega)
    have h4 : (V + 4 + 8 * W) * ((m - 1 - 0 + 63) / 64) ≤ (V + 4 + 8 * W) * 16 := Nat.mul_le_mul_left _ (by omega)
    omega
theorem sCode_len64 {a : Nat → Int64} {m : Nat} (hm : m ≤ 1000) : (qsCode a m).length ≤ 8428 := by
  have := sCode_len (a := a) (m := m) (V := 10) (W := 64) hm (fun _ => sVar10 _) (fun s _ => sVar10 _) (fun s q _ => pw_le64 _ _ _ _ _)
  omega
theorem l64_sub_toInt {a b : Nat} (ha : a < 1000) (hb : b < 1000) : (ql64 a - ql64 b).toInt = (a : Int) - b := by
  rw [Int64.toInt_sub, l64_toInt (by omega), l64_toInt (by omega), Int.bmod]
  omega
theorem lst_mem (a : Nat → Int64) (s : Nat) : ∀ c, ∃ j, (j = 0 ∨ j < c) ∧ qlst a s c = dif a (s + j) := by
  intro c
  induction c with
  | zero => exact ⟨0, Or.inl rfl, rfl⟩
  | succ c ih =>
    obtain ⟨j, hj, he⟩ := ih
    simp only [qlst]
    split
    · exact ⟨c, Or.inr (by omega), rfl⟩
    · exact ⟨j, hj.imp id (fun h => by omega), he⟩
theorem lst_le (a : Nat → Int64) (s : Nat) : ∀ c i, i < c → (qlst a s c).toInt ≤ (dif a (s + i)).toInt := by
  intro c
  induction c with
  | zero => intro i h; omega
  | succ c ih =>
    intro i hi
    simp only [qlst]
    by_cases e : i = c
    · subst e
      split
      · exact Int.le_refl _
      · rename_i h
        rw [Int64.lt_iff_toInt_lt] at h; omega
    · have h1 := ih i (by omega)
      split
      · rename_i h
        rw [Int64.lt_iff_toInt_lt] at h; omega
      · exact h1
theorem zz_small {v : Int64} {B : Nat} (h1 : -(B : Int) ≤ v.toInt) (h2 : v.toInt ≤ B) (hB : B < 8000) : lv (zz v) < 16384 := by
  have hz := M_zigzag v
  unfold f_M_zigzag at hz
  have z0 : (0 : Int64).toInt = 0 := rfl
  by_cases c : 0 ≤ v
  · rw [if_pos c] at hz
    rw [Int64.le_iff_toInt_le, z0] at c
    rw [← Option.some.inj hz]
    have : (2 * v : Int64).toInt = 2 * v.toInt := by
      rw [Int64.toInt_mul]
      have : (2 : Int64).toInt = 2 := rfl
      rw [this, Int.bmod]; omega
    have h3 := lv_toInt (2 * v)
    rw [this] at h3
    have := qlv_lt (2 * v)
    split at h3 <;> omega
  · rw [if_neg c] at hz
    rw [Int64.le_iff_toInt_le, z0] at c
    rw [← Option.some.inj hz]
    have : (-2 * v - 1 : Int64).toInt = -2 * v.toInt - 1 := by
      rw [Int64.toInt_sub, Int64.toInt_mul]
      have e1 : (-2 : Int64).toInt = -2 := rfl
      have e2 : (1 : Int64).toInt = 1 := rfl
      rw [e1, e2]
      simp only [Int.bmod]; omega
    have h3 := lv_toInt (-2 * v - 1)
    rw [this] at h3
    have := qlv_lt (-2 * v - 1)
    split at h3 <;> omega
/-- lengths of texts are small numbers -/
theorem sCode_small {f : Nat → Nat} {m : Nat} (hm : m ≤ 1000) (hf : ∀ i, i < m → f i ≤ 255) : (qsCode (fun i => ql64 (f i)) m).length ≤ 1252 := by
  have hd : ∀ k, k + 1 < m → -(255 : Int) ≤ (dif (fun i => ql64 (f i)) k).toInt ∧ (dif (fun i => ql64 (f i)) k).toInt ≤ 255 := by
    intro k hk
    have h1 := hf k (by omega)
    have h2 := hf (k + 1) hk
    show _ ≤ (ql64 (f (k + 1)) - ql64 (f k)).toInt ∧ (ql64 (f (k + 1)) - ql64 (f k)).toInt ≤ _
    rw [l64_sub_toInt (by omega) (by omega)]
    omega
  have hl : ∀ s c, s + c ≤ m - 1 → 0 < c → -(255 : Int) ≤ (qlst (fun i => ql64 (f i)) s c).toInt ∧ (qlst (fun i => ql64 (f i)) s c).toInt ≤ 255 := by
    intro s c hs hc
    obtain ⟨j, hj, he⟩ := lst_mem (fun i => ql64 (f i)) s c
    rw [he]
    exact hd (s + j) (by rcases hj with h | h <;> omega)
  have := sCode_len (a := fun i => ql64 (f i)) (m := m) (V := 2) (W := 9) hm (by
    intro h0
    apply sVar2
    have h1 := hf 0 h0
    exact zz_small (B := 255) (by show _ ≤ (ql64 (f 0)).toInt; rw [l64_toInt (by omega)]; omega) (by show (ql64 (f 0)).toInt ≤ _; rw [l64_toInt (by omega)]; omega) (by omega)) (by
    intro s hs
    apply sVar2
    have h1 := hl s (min (s + 64) (m - 1) - s) (by omega) (by omega)
    exact zz_small (B := 255) h1.1 h1.2 (by omega)) (by
    intro s q hs
    apply mw_le
    intro i hi
    have hi2 : s + 16 * q + i < min (s + 64) (m - 1) := by unfold pc at hi; omega
    have h1 := hl s (min (s + 64) (m - 1) - s) (by omega) (by omega)
    have h2 := hd (s + 16 * q + i) (by omega)
    have h3 := lst_le (fun i => ql64 (f i)) s (min (s + 64) (m - 1) - s) (16 * q + i) (by omega)
    rw [← Nat.add_assoc] at h3
    unfold ab
    generalize qlst (fun i => ql64 (f i)) s (min (s + 64) (m - 1) - s) = le at h1 h3 ⊢
    generalize dif (fun i => ql64 (f i)) (s + 16 * q + i) = di at h2 h3 ⊢
    have h4 : (di - le).toInt = di.toInt - le.toInt := by
      rw [Int64.toInt_sub, Int.bmod]; omega
    have h5 := lv_toInt (di - le)
    have h6 := qlv_lt (di - le)
    rw [h4] at h5
    show lv (di - le) < 512
    split at h5 <;> omega)
  omega
theorem sTxs_len {S : Nat → Nat} {T : Nat → UInt8} {two : Bool} {c : Nat} (h1 : ∀ i, i < c → S i ≤ S (i + 1)) : (sTxs S T two c).length ≤ S c := by
  unfold sTxs
  have : ∀ k, k ≤ c → (cat (fun i => (tx S T i).drop (cmf S T two i)) k).length ≤ S k := by
    intro k
    induction k with
    | zero => intro _; simp [cat]
    | succ k ih =>
      intro hk
      have h3 := ih (by omega)
      have h4 := h1 k (by omega)
      simp only [cat, List.length_append, List.length_drop, tx_len]
      omega
  exact this c (Nat.le_refl _)
theorem sSz_len {a : Nat → Int64} {c : Nat} (h : (qsCode a c).length ≤ 1252) : (sSz a c).length ≤ 1254 := by
  unfold sSz
  rw [List.length_append]
  have := sVar2 (v := (qsCode a c).length) (by omega)
  omega
theorem aCom_small {S : Nat → Nat} {T : Nat → UInt8} {two : Bool} {c : Nat} (hc : c ≤ 1000) (h : ∀ i, i < c → S i ≤ S (i + 1) ∧ S (i + 1) ≤ S i + 255) : (qsCode (aCom S T two) c).length ≤ 1252 :=
  sCode_small hc (fun i hi => by have := h i hi; have := cmf_le S T two i; omega)
theorem aMor_small {S : Nat → Nat} {T : Nat → UInt8} {two : Bool} {c : Nat} (hc : c ≤ 1000) (h : ∀ i, i < c → S i ≤ S (i + 1) ∧ S (i + 1) ≤ S i + 255) : (qsCode (aMor S T two) c).length ≤ 1252 :=
  sCode_small hc (fun i hi => by have := h i hi; omega)
theorem sVals_len {t c how : Nat} {num : Nat → Int64} {S : Nat → Nat} {T : Nat → UInt8} (hc : c ≤ 1000) (hS : t = 3 → (∀ i, i < c → S i ≤ S (i + 1) ∧ S (i + 1) ≤ S i + 255) ∧ S c ≤ 20000) : (sVals t c num S T how).length ≤ 23753 := by
  unfold sVals
  by_cases c0 : t = 0
  · rw [if_pos c0]
    split
    · rw [sBits_len]; omega
    · have h6 := sRuns_len (f := fun i => lv (num i)) (m := c) (w := 1) hc (by omega) c 0 (by omega)
      omega
  · rw [if_neg c0]
    split
    · have := items_len (t := t) (num := num) (S := S) (T := T) hc hS; omega
    · split
      · exact sDic_len hc hS
      · split
        · rename_i c3
          obtain ⟨h1, h2⟩ := hS c3
          have a1 := sSz_len (aMor_small (T := T) (two := decide (how = 2)) hc h1)
          have a2 := sSz_len (aCom_small (T := T) (two := true) hc h1)
          have a3 := sTxs_len (T := T) (two := decide (how = 2)) (fun i hi => (h1 i hi).1)
          simp only [List.length_append]
          split
          · omega
          · simp only [List.length_nil]; omega
        · have := sCode_len64 (a := num) hc; omega
