def leT (f g : Nat → UInt8) (a b p : Nat) : Prop := p ≤ a ∧ p ≤ b ∧ (∀ i, i < p → f i = g i) ∧ ((p = a ∧ a ≤ b) ∨ (p < a ∧ p < b ∧ (f p).toNat < (g p).toNat))
theorem u8_ne {a b : UInt8} (h : a ≠ b) : a.toNat ≠ b.toNat := fun e => h (UInt8.toNat_inj.mp e)
theorem cmpT_le {f g : Nat → UInt8} {a b : Nat} : cmpT f g a b ≤ 0 ↔ ∃ p, leT f g a b p := by
  have h1 := comm_le f g (min a b)
  have h2 := comm_eq f g (min a b)
  have h3 := comm_ne f g (min a b)
  constructor
  · intro h
    unfold cmpT at h
    refine ⟨comm f g (min a b), by omega, by omega, h2, ?_⟩
    by_cases c : comm f g (min a b) = min a b
    · rw [if_pos c] at h
      exact Or.inl ⟨by omega, by omega⟩
    · rw [if_neg c] at h
      have := u8_ne (h3 (by omega))
      exact Or.inr ⟨by omega, by omega, by omega⟩
  · rintro ⟨p, q1, q2, q3, q4⟩
    unfold cmpT
    rcases q4 with ⟨q5, q6⟩ | ⟨q5, q6, q7⟩
    · have e : p = comm f g (min a b) := comm_uniq (by omega) q3 (fun hx => absurd hx (by omega))
      rw [← e, if_pos (by omega)]
      omega
    · have e : p = comm f g (min a b) := comm_uniq (by omega) q3 (fun _ hx => by rw [hx] at q7; omega)
      rw [← e, if_neg (by omega)]
      omega
theorem cmpT_anti {f g : Nat → UInt8} {a b : Nat} : cmpT g f b a = - cmpT f g a b := by
  have h1 := comm_le f g (min a b)
  have h2 := comm_eq f g (min a b)
  have h3 := comm_ne f g (min a b)
  have e : comm f g (min a b) = comm g f (min a b) := comm_uniq h1 (fun i hi => (h2 i hi).symm) (fun hx hy => h3 hx hy.symm)
  unfold cmpT
  rw [Nat.min_comm b a, ← e]
  by_cases c : comm f g (min a b) = min a b
  · rw [if_pos c, if_pos c]; omega
  · rw [if_neg c, if_neg c]; omega
theorem cmpT_trans {f g h : Nat → UInt8} {a b c : Nat} (h1 : cmpT f g a b ≤ 0) (h2 : cmpT g h b c ≤ 0) : cmpT f h a c ≤ 0 := by
  obtain ⟨p, p1, p2, p3, p4⟩ := cmpT_le.mp h1
  obtain ⟨q, q1, q2, q3, q4⟩ := cmpT_le.mp h2
  apply cmpT_le.mpr
  rcases Nat.lt_trichotomy p q with hpq | hpq | hpq
  · refine ⟨p, p1, by omega, fun i hi => (p3 i hi).trans (q3 i (by omega)), ?_⟩
    rcases p4 with ⟨p5, p6⟩ | ⟨p5, p6, p7⟩
    · exact Or.inl ⟨p5, by omega⟩
    · refine Or.inr ⟨p5, by omega, ?_⟩
      rw [← q3 p hpq]; exact p7
  · subst hpq
    refine ⟨p, p1, q2, fun i hi => (p3 i hi).trans (q3 i hi), ?_⟩
    rcases p4 with ⟨p5, p6⟩ | ⟨p5, p6, p7⟩
    · rcases q4 with ⟨q5, q6⟩ | ⟨q5, q6, q7⟩
      · exact Or.inl ⟨p5, by omega⟩
      · exact Or.inl ⟨p5, by omega⟩
    · rcases q4 with ⟨q5, q6⟩ | ⟨q5, q6, q7⟩
      · omega
      · exact Or.inr ⟨p5, q6, by omega⟩
  · rcases q4 with ⟨q5, q6⟩ | ⟨q5, q6, q7⟩
    · omega
    · refine ⟨q, by omega, q2, fun i hi => (p3 i (by omega)).trans (q3 i hi), Or.inr ⟨by omega, q6, ?_⟩⟩
      rw [p3 q hpq]; exact q7
theorem cmpZ_anti {t : Nat} {num num' : Nat → Int64} {S S' : Nat → Nat} {T T' : Nat → UInt8} {i j : Nat} : cmpZ t num' num S' S T' T j i = - cmpZ t num num' S S' T T' i j := by
  unfold cmpZ
  by_cases h : t = 3
  · rw [if_pos h, if_pos h, cmpT_anti]
  · rw [if_neg h, if_neg h]; omega
theorem cmpZ_trans {t : Nat} {num num' num'' : Nat → Int64} {S S' S'' : Nat → Nat} {T T' T'' : Nat → UInt8} {i j k : Nat} (h1 : cmpZ t num num' S S' T T' i j ≤ 0) (h2 : cmpZ t num' num'' S' S'' T' T'' j k ≤ 0) : cmpZ t num num'' S S'' T T'' i k ≤ 0 := by
  unfold cmpZ at *
  by_cases h : t = 3
  · rw [if_pos h] at *
    exact cmpT_trans h1 h2
  · rw [if_neg h] at *
    omega
theorem most_least {t : Nat} {num : Nat → Int64} {S : Nat → Nat} {T : Nat → UInt8} : ∀ c j, j < c → cmpZ t num num S S T T (mostA (cmpZ t num num S S T T) false c) j ≤ 0 := by
  intro c
  have refl : ∀ i, cmpZ t num num S S T T i i ≤ 0 := by
    intro i
    have := cmpZ_anti (t := t) (num := num) (num' := num) (S := S) (S' := S) (T := T) (T' := T) (i := i) (j := i)
    omega
  induction c with
  | zero => intro j hj; omega
  | succ k ih =>
    intro j hj
    simp only [mostA]
    by_cases k0 : k = 0
    · rw [if_pos k0, show j = 0 by omega]; exact refl 0
    · rw [if_neg k0, if_neg (show ¬ false = true by decide)]
      by_cases hz : 0 ≤ cmpZ t num num S S T T k (mostA (cmpZ t num num S S T T) false k)
      · rw [if_pos hz]
        by_cases jk : j = k
        · subst jk
          rw [cmpZ_anti]; omega
        · exact ih j (by omega)
      · rw [if_neg hz]
        by_cases jk : j = k
        · subst jk; exact refl j
        · exact cmpZ_trans (show cmpZ t num num S S T T k (mostA (cmpZ t num num S S T T) false k) ≤ 0 by omega) (ih j (by omega))
theorem most_great {t : Nat} {num : Nat → Int64} {S : Nat → Nat} {T : Nat → UInt8} : ∀ c j, j < c → cmpZ t num num S S T T j (mostA (cmpZ t num num S S T T) true c) ≤ 0 := by
  intro c
  have refl : ∀ i, cmpZ t num num S S T T i i ≤ 0 := by
    intro i
    have := cmpZ_anti (t := t) (num := num) (num' := num) (S := S) (S' := S) (T := T) (T' := T) (i := i) (j := i)
    omega
  induction c with
  | zero => intro j hj; omega
  | succ k ih =>
    intro j hj
    simp only [mostA]
    by_cases k0 : k = 0
    · rw [if_pos k0, show j = 0 by omega]; exact refl 0
    · rw [if_neg k0, if_pos trivial]
      by_cases hz : cmpZ t num num S S T T k (mostA (cmpZ t num num S S T T) true k) ≤ 0
      · rw [if_pos hz]
        by_cases jk : j = k
        · subst jk; exact hz
        · exact ih j (by omega)
      · rw [if_neg hz]
        by_cases jk : j = k
        · subst jk; exact refl j
        · refine cmpZ_trans (ih j (by omega)) ?_
          rw [cmpZ_anti]; omega
/-- is the told one (number i of it) the least, or the greatest -/
def ToldIs (t c : Nat) (num tn : Nat → Int64) (S tS' : Nat → Nat) (T tT' : Nat → UInt8) (g : Bool) (i : Nat) : Prop := cmpZ t tn num tS' S tT' T i (mostA (cmpZ t num num S S T T) g c) = 0
theorem told_least {t c i : Nat} {num tn : Nat → Int64} {S tS' : Nat → Nat} {T tT' : Nat → UInt8} (hc : 0 < c) : ToldIs t c num tn S tS' T tT' false i ↔ ((∃ k, k < c ∧ cmpZ t num tn S tS' T tT' k i = 0) ∧ ∀ k, k < c → ¬ cmpZ t num tn S tS' T tT' k i < 0) := by
  have hm := mostA_lt (cmpZ t num num S S T T) false c hc
  have hl := most_least (t := t) (num := num) (S := S) (T := T) c
  unfold ToldIs
  constructor
  · intro h0
    refine ⟨⟨_, hm, by rw [cmpZ_anti]; omega⟩, fun k hk hx => ?_⟩
    have h1 := cmpZ_trans (show cmpZ t tn num tS' S tT' T i (mostA (cmpZ t num num S S T T) false c) ≤ 0 by omega) (hl k hk)
    have h2 := cmpZ_anti (t := t) (num := num) (num' := tn) (S := S) (S' := tS') (T := T) (T' := tT') (i := k) (j := i)
    omega
  · rintro ⟨⟨k, hk, hk0⟩, hall⟩
    have h1 := hall _ hm
    have h2 := cmpZ_trans (hl k hk) (show cmpZ t num tn S tS' T tT' k i ≤ 0 by omega)
    rw [cmpZ_anti]; omega
theorem told_great {t c i : Nat} {num tn : Nat → Int64} {S tS' : Nat → Nat} {T tT' : Nat → UInt8} (hc : 0 < c) : ToldIs t c num tn S tS' T tT' true i ↔ ((∃ k, k < c ∧ cmpZ t num tn S tS' T tT' k i = 0) ∧ ∀ k, k < c → ¬ 0 < cmpZ t num tn S tS' T tT' k i) := by
  have hm := mostA_lt (cmpZ t num num S S T T) true c hc
  have hl := most_great (t := t) (num := num) (S := S) (T := T) c
  unfold ToldIs
  constructor
  · intro h0
    refine ⟨⟨_, hm, by rw [cmpZ_anti]; omega⟩, fun k hk hx => ?_⟩
    have h3 := cmpZ_anti (t := t) (num := tn) (num' := num) (S := tS') (S' := S) (T := tT') (T' := T) (i := i) (j := mostA (cmpZ t num num S S T T) true c)
    have h1 := cmpZ_trans (hl k hk) (show cmpZ t num tn S tS' T tT' (mostA (cmpZ t num num S S T T) true c) i ≤ 0 by omega)
    omega
  · rintro ⟨⟨k, hk, hk0⟩, hall⟩
    have h1 := hall _ hm
    have h3 := cmpZ_anti (t := t) (num := num) (num' := tn) (S := S) (S' := tS') (T := T) (T' := tT') (i := k) (j := i)
    have h2 := cmpZ_trans (show cmpZ t tn num tS' S tT' T i k ≤ 0 by omega) (hl k hk)
    have h4 := cmpZ_anti (t := t) (num := num) (num' := tn) (S := S) (S' := tS') (T := T) (T' := tT') (i := mostA (cmpZ t num num S S T T) true c) (j := i)
    omega
