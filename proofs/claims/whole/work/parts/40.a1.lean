theorem nI_def (n : Nat) : nI n = Int32.ofNat n := rfl
theorem qn_toInt {n : Nat} (h : n < 2147483648) : (nI n).toInt = (n : Int) := by
  rw [nI_def, Int32.toInt_ofNat']
  simp [Int.bmod]
  omega
theorem qn_clamp {n : Nat} (h : n < 2147483648) : (nI n).toNatClampNeg = n := by
  unfold Int32.toNatClampNeg
  rw [qn_toInt h]; simp
theorem nI_inj {a b : Nat} (ha : a < 2147483648) (hb : b < 2147483648) : (nI a = nI b) = (a = b) := by
  apply propext
  constructor
  · intro h
    have := congrArg Int32.toInt h
    rw [qn_toInt ha, qn_toInt hb] at this
    omega
  · intro h; rw [h]
theorem qn_lt {a b : Nat} (ha : a < 2147483648) (hb : b < 2147483648) : (nI a < nI b) = (a < b) := by
  apply propext
  rw [Int32.lt_iff_toInt_lt, qn_toInt ha, qn_toInt hb]; omega
theorem qn_le {a b : Nat} (ha : a < 2147483648) (hb : b < 2147483648) : (nI a ≤ nI b) = (a ≤ b) := by
  apply propext
  rw [Int32.le_iff_toInt_le, qn_toInt ha, qn_toInt hb]; omega
theorem qn_add (a b : Nat) : nI a + nI b = nI (a + b) := by simp [nI_def, Int32.ofNat_add]
theorem nI_mul (a b : Nat) : nI a * nI b = nI (a * b) := by simp [nI_def, Int32.ofNat_mul]
theorem nI_sub {a b : Nat} (h : b ≤ a) : nI a - nI b = nI (a - b) := by
  have : nI a = nI (a - b) + nI b := by rw [qn_add]; congr 1; omega
  rw [this]; simp
theorem inB_nI {i n : Nat} (hi : i < 2147483648) : inB (nI i) n = decide (i < n) := by
  unfold inB
  have h0 : ¬ (nI i < 0) := by
    have : (0 : Int32) = nI 0 := rfl
    rw [this, qn_lt hi (by omega)]; omega
  rw [qn_clamp hi]
  simp only [h0, decide_false, Bool.false_or]
  by_cases h : i < n
  · simp [h]
  · simp [h]; omega
theorem gd_nI {α : Type} {i n : Nat} {t : Option α} (hi : i < 2147483648) (h : i < n) : gd (inB (nI i) n) t = t := gd_t (by rw [inB_nI hi]; simpa using h)
theorem QI0 : (0 : Int32) = nI 0 := rfl
/-- a loop that ends: k bounds the turns that are left -/
theorem lp_inv {V E : Type} {B : V → Option (V ⊕ E)} (I : Nat → V → Prop) (Q : E → Prop)
    (step : ∀ k v, I k v → (∃ w, B v = some (.inl w) ∧ ∃ j, j < k ∧ I j w) ∨ (∃ e, B v = some (.inr e) ∧ Q e)) :
    ∀ (k : Nat) (n : Nat) (v : V), I k v → k < n → ∃ e, lp B n v = some e ∧ Q e := by
  intro k
  induction k using Nat.strongRecOn with
  | ind k ih =>
    intro n v hI hk
    cases n with
    | zero => omega
    | succ n =>
      rcases step k v hI with ⟨w, hw, j, hj, hIj⟩ | ⟨e, he, hQ⟩
      · obtain ⟨e, h1, h2⟩ := ih j hj n w hIj (by omega)
        exact ⟨e, by rw [lp, hw]; exact h1, h2⟩
      · exact ⟨e, by rw [lp, he], hQ⟩
/-- bytes: as PageForm holds them (with a sign), as the reference does -/
def qsb (b : UInt8) : Int32 := b.toInt8.toInt32
def um (b : UInt8) : Int32 := b.toUInt32.toInt32
def by8 (v : Int32) : UInt8 := v.toInt8.toUInt8
theorem sb_by8 (v : Int32) : v.toInt8.toInt32 = qsb (by8 v) := by simp [qsb, by8]
theorem um_nI (b : UInt8) : um b = nI b.toNat := by
  unfold um nI
  apply Int32.toBitVec_inj.mp
  apply BitVec.eq_of_toNat_eq
  simp
theorem um_by8 (v : Int32) : v &&& 255 = um (by8 v) := by
  apply Int32.toBitVec_inj.mp
  apply BitVec.eq_of_getLsbD_eq
  intro i hi
  have h255 : (255#32).getLsbD i = decide (i < 8) := by
    have : ∀ j : Fin 32, (255#32).getLsbD j.val = decide (j.val < 8) := by decide
    exact this ⟨i, hi⟩
  have h255' : (255#32)[i] = decide (i < 8) := by rw [← h255, BitVec.getLsbD_eq_getElem hi]
  by_cases h : i < 8
  · simp [um, by8, h255, h, hi, BitVec.getElem_signExtend]
  · simp [um, by8, h255, h255', h, hi, BitVec.getLsbD_signExtend]
theorem oct_sb (b : UInt8) : qsb b &&& 255 = um b := by
  rw [um_by8]
  simp [by8, qsb]
theorem fits_sb (b : UInt8) : fits .byte (.int (qsb b)) = true := by
  have h1 : (-128 : Int32) ≤ qsb b := by
    rw [Int32.le_iff_toInt_le, qsb, Int8.toInt_toInt32]
    have := Int8.minValue_le_toInt b.toInt8
    exact this
  have h2 : qsb b ≤ (127 : Int32) := by
    rw [Int32.le_iff_toInt_le, qsb, Int8.toInt_toInt32]
    have := Int8.toInt_le b.toInt8
    exact this
  simp [fits, h1, h2]
theorem u8_lt (b : UInt8) : b.toNat < 256 := b.toNat_lt

def HC (L : List UInt8) (row : Nat → Int32) : Prop := ∀ j (h : j < L.length), row j = qsb L[j]
def QHM (L : List UInt8) (row : Nat → Int32) : Prop := ∀ j (h : j < L.length), row j = um L[j]
theorem HC_app {L : List UInt8} {row : Nat → Int32} (h : HC L row) (b : UInt8) : HC (L ++ [b]) (upd row L.length (qsb b)) := by
  intro j hj
  unfold upd
  by_cases e : j = L.length
  · subst e; simp
  · have hj' : j < L.length := by simp at hj; omega
    rw [if_neg e, h j hj', List.getElem_append_left hj']
theorem HM_app {L : List UInt8} {row : Nat → Int32} (h : QHM L row) (b : UInt8) : QHM (L ++ [b]) (upd row L.length (um b)) := by
  intro j hj
  unfold upd
  by_cases e : j = L.length
  · subst e; simp
  · have hj' : j < L.length := by simp at hj; omega
    rw [if_neg e, h j hj', List.getElem_append_left hj']
/-- the bytes l have come behind L, in PageForm's row, in the reference's -/
def QPC (L : List UInt8) (o : Int32 × (Nat → Int32)) : Prop := o.1 = nI L.length ∧ HC L o.2
def QPM (L : List UInt8) (o : Int32 × (Nat → Int32)) : Prop := o.1 = nI L.length ∧ QHM L o.2
theorem B_put {cap : Nat} {L : List UInt8} {row : Nat → Int32} (v : Int32) (hc : cap < 2147483648) (hL : L.length < cap) (h : HC L row) :
    ∃ o, f_B_put cap (nI L.length) row v = some o ∧ QPC (L ++ [by8 v]) o := by
  unfold f_B_put
  rw [if_neg (by rw [qn_le hc (by omega)]; omega), gd_nI (by omega) hL]
  refine ⟨_, rfl, ?_, ?_⟩
  · show nI L.length + 1 = _
    simp only [List.length_append, List.length_cons, List.length_nil]
    exact qn_add _ 1
  · show HC _ (upd row (nI L.length).toNatClampNeg (vp_nar .byte v.toInt8.toInt32))
    rw [qn_clamp (by omega), vp_nar_byte]
    have : v.toInt8.toInt32.toInt8.toInt32 = qsb (by8 v) := by rw [sb_by8 v]; simp [qsb, by8]
    rw [this]
    exact HC_app h _
