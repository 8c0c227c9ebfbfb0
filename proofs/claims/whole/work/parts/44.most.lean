theorem M_level_lp {n dn d k : Nat} {df : Nat → Nat} {md : Nat → Int32} (hn : 100000 < n) (hk : k ≤ 1000) (hdn : k ≤ dn) (hd : d ≤ 16) (hdf : ∀ i, i < k → df i ≤ d) (h : ∀ i, i < k → md i = nI (df i)) :
    ∃ e, lp (fun v => f_M_level_l56 dn (nI d) md (nI k) v.1 v.2) n ((0 : Int32), (0 : Int32)) = some e ∧ e.1 = nI (cntD df d k) := by
  refine lp_inv (fun q w => ∃ j, j + q = k ∧ w.2 = nI j ∧ w.1 = nI (cntD df d j)) _ ?_ k n _ ⟨0, by omega, rfl, rfl⟩ (by omega)
  rintro q ⟨f, j'⟩ ⟨j, g1, g2, g3⟩
  simp only at g2 g3
  subst g2; subst g3
  show (∃ w', f_M_level_l56 dn (nI d) md (nI k) (nI (cntD df d j)) (nI j) = _ ∧ _) ∨ (∃ x, f_M_level_l56 dn (nI d) md (nI k) (nI (cntD df d j)) (nI j) = _ ∧ _)
  unfold f_M_level_l56
  rw [ifle (by omega) (by omega)]
  by_cases c : k ≤ j
  · have : j = k := by omega
    subst this
    exact Or.inr ⟨_, by rw [if_pos c], rfl⟩
  · have hc := cntD_le df d j
    have hdj := hdf j (by omega)
    rw [if_neg c, gd_nI (by omega) (by omega), qn_clamp (by omega), h j (by omega), ife (by omega) (by omega)]
    by_cases e : df j = d
    · rw [if_pos e]
      exact Or.inl ⟨_, rfl, q - 1, by omega, j + 1, by omega, qn_add j 1, by simp only [cntD, if_pos e]; exact qn_add _ 1⟩
    · rw [if_neg e]
      exact Or.inl ⟨_, rfl, q - 1, by omega, j + 1, by omega, qn_add j 1, by simp only [cntD, if_neg e]; exact qn_add _ 0⟩
theorem p_level {n t d r nn c : Nat} {rp df : Nat → Nat} {num : Nat → Int64} {S : Nat → Nat} {T : Nat → UInt8} {entries valued : Int32} {definitions repetitions valueNumbers : Nat → Int32} {ofTexts count : Int32} {numbers : Nat → Int64} {starts texts : Nat → Int32} {mentries values mD : Int32} {mdef mrep : Nat → Int32} {wholes : Nat → Int64} {frm bytes : Nat → Int32}
    (v1 v2 : Int32) (hn : 100000 < n) (hd : d ≤ 16) (hD : mD = nI d) (hV : PgV t r d nn c rp df num S) (hC : PgC t d nn c rp df num S T entries valued definitions repetitions valueNumbers ofTexts count numbers starts texts) (hM : PgM t nn c rp df num S T mentries values mdef mrep wholes frm bytes) :
    ∃ o1 o2, f_F_level 1000 1000 1000 entries definitions repetitions valueNumbers v1 v2 = some o1 ∧ f_M_level n 1000 1000 mD mentries mdef mrep v1 v2 = some o2 ∧ o1 = o2.1 := by
  obtain ⟨e1, e2, e3, -⟩ := hC
  obtain ⟨g1, g2, -⟩ := hM
  obtain ⟨w1, w2, w3, w4, w5, w6⟩ := hV
  subst hD
  unfold f_F_level f_M_level
  rcases I_cases v1 with h | ⟨k, hk, rfl⟩
  · exact ⟨-1, (-1, 0), by rw [if_pos h], by rw [if_pos h], rfl⟩
  rw [qif0 hk, qif0 hk, e1, g1, ifl hk (by omega), ifle (by omega) hk]
  by_cases cn : k < nn
  · rw [if_pos cn, if_neg (show ¬ nn ≤ k by omega)]
    by_cases c0 : v2 = 0
    · subst c0
      rw [if_pos rfl, if_neg (show ¬ (0 : Int32) < 0 by decide), if_pos (show (0 : Int32) ≤ 2 by decide), if_pos rfl, gd_nI hk (by omega), gd_nI hk (by omega), qn_clamp hk]
      exact ⟨_, _, rfl, rfl, by show repetitions k = mrep k; rw [(e3 k cn).2.1, (g2 k cn).2]⟩
    rw [if_neg c0]
    by_cases c1 : v2 = 1
    · subst c1
      rw [if_pos rfl, if_neg (show ¬ (1 : Int32) < 0 by decide), if_pos (show (1 : Int32) ≤ 2 by decide), if_neg c0, if_pos rfl, gd_nI hk (by omega), gd_nI hk (by omega), qn_clamp hk]
      exact ⟨_, _, rfl, rfl, by show definitions k = mdef k; rw [(e3 k cn).1, (g2 k cn).1]⟩
    rw [if_neg c1]
    by_cases c2 : v2 = 2
    · subst c2
      rw [if_pos rfl, if_neg (show ¬ (2 : Int32) < 0 by decide), if_pos (show (2 : Int32) ≤ 2 by decide), if_neg c0, if_neg c1, gd_nI hk (by omega), qn_clamp hk]
      obtain ⟨e, h1, h2⟩ := M_level_lp (n := n) (dn := 1000) (d := d) (k := k) (df := df) (md := mdef) hn (by omega) (by omega) hd (fun i hi => (w3 i (by omega)).2) (fun i hi => (g2 i (by omega)).1)
      have hdk := (w3 k cn).2
      rw [h1, obs]
      unfold f_M_level_j90
      rw [gd_nI hk (by omega), qn_clamp hk, (g2 k cn).1, ife (by omega) (by omega), (e3 k cn).2.2, h2]
      by_cases ed : df k = d
      · rw [if_pos ed, if_pos ed]; exact ⟨_, _, rfl, rfl, rfl⟩
      · rw [if_neg ed, if_neg ed]; exact ⟨_, _, rfl, rfl, rfl⟩
    · rw [if_neg c2]
      refine ⟨-1, (-1, 0), rfl, ?_, rfl⟩
      by_cases cc : v2 < 0
      · rw [if_pos cc]
      · rw [if_neg cc]
        by_cases cd : v2 ≤ 2
        · exfalso
          rw [Int32.le_iff_toInt_le] at cd
          rw [Int32.lt_iff_toInt_lt] at cc
          have a0 : v2.toInt ≠ 0 := fun q => c0 (Int32.toInt_inj.mp q)
          have a1 : v2.toInt ≠ 1 := fun q => c1 (Int32.toInt_inj.mp q)
          have a2 : v2.toInt ≠ 2 := fun q => c2 (Int32.toInt_inj.mp q)
          have z0 : (0 : Int32).toInt = 0 := rfl
          have z2 : (2 : Int32).toInt = 2 := rfl
          omega
        · rw [if_neg cd]
  · rw [if_neg cn, if_pos (show nn ≤ k by omega)]
    exact ⟨-1, (-1, 0), rfl, rfl, rfl⟩
theorem s_level (n : Nat) (hn : 100000 < n) : H_level QSim n := by
  intro x_lastCoding x_lastBody x_column_type x_column_mostR x_column_mostD x_input_size x_input_row x_output_size x_output_row x_page_entries x_page_valued x_page_definitions x_page_repetitions x_page_valueNumbers x_page_values_ofTexts x_page_values_count x_page_values_numbers x_page_values_starts x_page_values_texts x_reader_entries x_reader_count x_reader_bodyTold x_reader_check x_reader_coding x_reader_bodySize x_reader_commons x_reader_dictionary_ofTexts x_reader_dictionary_count x_reader_dictionary_numbers x_reader_dictionary_starts x_reader_dictionary_texts x_reader_numbers x_reader_source_at x_reader_source_to x_reader_source_fault x_reader_source_widths x_reader_told_ofTexts x_reader_told_count x_reader_told_numbers x_reader_told_starts x_reader_told_texts x_spare_entries x_spare_valued x_spare_definitions x_spare_repetitions x_spare_valueNumbers x_spare_values_ofTexts x_spare_values_count x_spare_values_numbers x_spare_values_starts x_spare_values_texts x_tape_size x_tape_row x_writer_entries x_writer_levelBytes x_writer_body_size x_writer_body_row x_writer_commons x_writer_dictionary_count x_writer_dictionary_firsts x_writer_dictionary_slots x_writer_numbers x_writer_piece_size x_writer_piece_row m_code m_type m_mostR m_mostD m_entries m_values m_coding m_bodySize m_newCount m_words m_taped m_inputSize m_outSize m_at m_stop m_fault m_longCount m_body m_bytes m_common m_definitions m_from m_input m_longs m_more m_newBytes m_newDefinitions m_newFrom m_newRepetitions m_newWholes m_numbers m_out m_repetitions m_tape m_told2 m_toldBytes m_toldSize m_wholes m_wordBytes m_wordFrom m_words8 v1 v2 hs
  have hs' := hs
  obtain ⟨t, r, d, nn, c, rp, df, num, S, T, ⟨ht3, hrd, hd16⟩, hV, hCx, hCm, hPC, hPM, hTp, hIn, hOu, hlc, hlb, hz⟩ := hs
  obtain ⟨o1, o2, h1, h2, h3⟩ := p_level v1 v2 hn hd16 hCm.2.2 hV hPC hPM
  exact ⟨o1, o2, h1, h2, h3, hs'⟩
/-- how far two rows agree, below m -/
def comm {α : Type} [DecidableEq α] (f g : Nat → α) : Nat → Nat
  | 0 => 0
  | m + 1 => if comm f g m = m ∧ f m = g m then m + 1 else comm f g m
theorem comm_le {α : Type} [DecidableEq α] (f g : Nat → α) (m : Nat) : comm f g m ≤ m := by
  induction m with
  | zero => simp [comm]
  | succ m ih => simp only [comm]; split <;> omega
theorem comm_eq {α : Type} [DecidableEq α] (f g : Nat → α) (m : Nat) : ∀ i, i < comm f g m → f i = g i := by
  induction m with
  | zero => intro i h; simp [comm] at h
  | succ m ih =>
    intro i h
    simp only [comm] at h
    split at h
    · rename_i c
      by_cases e : i = m
      · subst e; exact c.2
      · exact ih i (by omega)
    · exact ih i h
theorem comm_ne {α : Type} [DecidableEq α] (f g : Nat → α) (m : Nat) : comm f g m < m → f (comm f g m) ≠ g (comm f g m) := by
  induction m with
  | zero => intro h; omega
  | succ m ih =>
    intro h
    simp only [comm] at h ⊢
    split at h
    · omega
    · rename_i c
      rw [if_neg c]
      have := comm_le f g m
      by_cases e : comm f g m = m
      · rw [e]; exact fun q => c ⟨e, q⟩
      · exact ih (by omega)
theorem comm_uniq {α : Type} [DecidableEq α] {f g : Nat → α} {m k : Nat} (h1 : k ≤ m) (h2 : ∀ i, i < k → f i = g i) (h3 : k < m → f k ≠ g k) : k = comm f g m := by
  have a := comm_le f g m
  rcases Nat.lt_trichotomy k (comm f g m) with h | h | h
  · exact absurd (comm_eq f g m k h) (h3 (by omega))
  · exact h
  · exact absurd (h2 _ h) (comm_ne f g m (by omega))
def cmpT (f g : Nat → UInt8) (a b : Nat) : Int := if comm f g (min a b) = min a b then (a : Int) - b else ((f (comm f g (min a b))).toNat : Int) - (g (comm f g (min a b))).toNat
def sg (o : Int32) (z : Int) : Prop := (0 ≤ o ↔ 0 ≤ z) ∧ (o ≤ 0 ↔ z ≤ 0)
theorem sg_JI {a b : Nat} (ha : a < 2147483648) (hb : b < 2147483648) : ∃ o, f_JI_compare (nI a) (nI b) = some o ∧ sg o ((a : Int) - b) := by
  unfold f_JI_compare
  rw [ifle hb ha, ife ha hb]
  by_cases c1 : b ≤ a
  · rw [if_pos c1]
    by_cases c2 : a = b
    · rw [if_pos c2]
      exact ⟨0, rfl, by constructor <;> constructor <;> intro h <;> first | omega | decide⟩
    · rw [if_neg c2]
      refine ⟨1, rfl, ⟨fun _ => by omega, fun _ => by decide⟩, ⟨fun h => absurd h (by decide), fun h => by omega⟩⟩
  · rw [if_neg c1]
    refine ⟨-1, rfl, ⟨fun h => absurd h (by decide), fun h => by omega⟩, ⟨fun _ => by omega, fun _ => by decide⟩⟩
theorem sg_JL (a b : Int64) : ∃ o, f_JL_compare a b = some o ∧ sg o (a.toInt - b.toInt) := by
  unfold f_JL_compare
  by_cases c1 : b ≤ a
  · rw [if_pos c1]
    rw [Int64.le_iff_toInt_le] at c1
    by_cases c2 : a = b
    · rw [if_pos c2]; subst c2
      exact ⟨0, rfl, by constructor <;> constructor <;> intro h <;> first | omega | decide⟩
    · rw [if_neg c2]
      have c3 : a.toInt ≠ b.toInt := fun q => c2 (Int64.toInt_inj.mp q)
      refine ⟨1, rfl, ⟨fun _ => by omega, fun _ => by decide⟩, ⟨fun h => absurd h (by decide), fun h => by omega⟩⟩
  · rw [if_neg c1]
    rw [Int64.le_iff_toInt_le] at c1
    refine ⟨-1, rfl, ⟨fun h => absurd h (by decide), fun h => by omega⟩, ⟨fun _ => by omega, fun _ => by decide⟩⟩
theorem sb_inj {a b : UInt8} : qsb a = qsb b ↔ a = b := by
  constructor
  · intro h
    have : by8 (qsb a) = by8 (qsb b) := by rw [h]
    simpa [by8, qsb] using this
  · intro h; rw [h]
theorem um_inj {a b : UInt8} : um a = um b ↔ a = b := by
  constructor
  · intro h
    rw [um_nI, um_nI, nI_inj (by have := u8_lt a; omega) (by have := u8_lt b; omega)] at h
    exact UInt8.toNat_inj.mp h
  · intro h; rw [h]
theorem V_octetOf {t c : Nat} {num : Nat → Int64} {S : Nat → Nat} {T : Nat → UInt8} {ofTexts count : Int32} {numbers : Nat → Int64} {starts texts : Nat → Int32} {m tn i k : Nat}
    (ht : t = 3) (hi : i < c) (hcm : c < m) (hm : m < 2147483648) (htn : S c ≤ tn) (htn2 : tn < 2147483648) (hk : S i + k < S c) (hC : VsC t c num S T ofTexts count numbers starts texts) :
    f_V_octetOf m tn starts texts (nI i) (nI k) = some (nI (T (S i + k)).toNat) := by
  obtain ⟨e4, e5, e6, e7, e8⟩ := hC
  unfold f_V_octetOf
  rw [gd_nI (by omega) (by omega), qn_clamp (by omega), (e8 ht).1 i (by omega), qn_add, gd_nI (by omega) (by omega), qn_clamp (by omega), (e8 ht).2 _ hk, oct_sb, um_nI]
theorem V_inCommon {n t c c' : Nat} {num num' : Nat → Int64} {S S' : Nat → Nat} {T T' : Nat → UInt8} {ofTexts count ofTexts' count' : Int32} {numbers numbers' : Nat → Int64} {starts texts starts' texts' : Nat → Int32} {m tn m' tn' i j : Nat}
    (hn : 100000 < n) (ht : t = 3) (hi : i < c) (hcm : c < m) (hm : m < 1000000) (htn : S c ≤ tn) (htn2 : tn ≤ 20000) (hS : ∀ i, i < c → S i ≤ S (i + 1))
    (hi' : j < c') (hcm' : c' < m') (hm' : m' < 1000000) (htn' : S' c' ≤ tn') (htn2' : tn' ≤ 20000) (hS' : ∀ i, i < c' → S' i ≤ S' (i + 1))
    (hC : VsC t c num S T ofTexts count numbers starts texts) (hC' : VsC t c' num' S' T' ofTexts' count' numbers' starts' texts') :
    f_V_inCommon n m tn m' tn' starts texts starts' texts' (nI i) (nI j) = some (nI (comm (fun k => T (S i + k)) (fun k => T' (S' j + k)) (min (S (i + 1) - S i) (S' (j + 1) - S' j)))) := by
  unfold f_V_inCommon
  have b1 := S_mono hS (i := i + 1) (j := c) (by omega) (by omega)
  have b2 := S_mono hS' (i := j + 1) (j := c') (by omega) (by omega)
  have b3 := hS i hi
  have b4 := hS' j hi'
  rw [V_sizeOf ht hi hcm (by omega) b3 hC, obs, V_sizeOf ht hi' hcm' (by omega) b4 hC', obs]
  simp only [bnd]
  have hmin : (if nI (S' (j + 1) - S' j) < nI (S (i + 1) - S i) then nI (S' (j + 1) - S' j) else nI (S (i + 1) - S i)) = nI (min (S (i + 1) - S i) (S' (j + 1) - S' j)) := by
    rw [ifl (by omega) (by omega)]
    split <;> congr 1 <;> omega
  rw [hmin]
  have hle1 : min (S (i + 1) - S i) (S' (j + 1) - S' j) ≤ S (i + 1) - S i := Nat.min_le_left _ _
  have hle2 : min (S (i + 1) - S i) (S' (j + 1) - S' j) ≤ S' (j + 1) - S' j := Nat.min_le_right _ _
  generalize hM : min (S (i + 1) - S i) (S' (j + 1) - S' j) = M at hle1 hle2
  have main : ∃ e, lp (fun v => f_V_inCommon_l18 m tn m' tn' starts texts starts' texts' (nI i) (nI j) (nI M) v) n (0 : Int32) = some e ∧ e = nI (comm (fun k => T (S i + k)) (fun k => T' (S' j + k)) M) := by
    refine lp_inv (fun q w => ∃ k, k + q = M ∧ w = nI k ∧ ∀ x, x < k → T (S i + x) = T' (S' j + x)) _ ?_ M n _ ⟨0, by omega, rfl, fun x h => by omega⟩ (by omega)
    rintro q w ⟨k, g1, g2, g3⟩
    subst g2
    obtain ⟨e4, e5, e6, e7, e8⟩ := hC
    obtain ⟨d4, d5, d6, d7, d8⟩ := hC'
    unfold f_V_inCommon_l18
    rw [ifle (by omega) (by omega)]
    by_cases c1 : M ≤ k
    · have : k = M := by omega
      subst this
      exact Or.inr ⟨_, by rw [if_pos c1], by rw [← comm_uniq (Nat.le_refl k) g3 (fun h => by omega)]⟩
    · rw [if_neg c1, gd_nI (by omega) (by omega), qn_clamp (by omega), (e8 ht).1 i (by omega), qn_add, gd_nI (by omega) (by omega), gd_nI (by omega) (by omega), qn_clamp (show j < 2147483648 by omega), (d8 ht).1 j (by omega), qn_add, gd_nI (by omega) (by omega), qn_clamp (by omega), qn_clamp (by omega), (e8 ht).2 _ (by omega), (d8 ht).2 _ (by omega)]
      by_cases c2 : T (S i + k) = T' (S' j + k)
      · rw [if_pos (sb_inj.mpr c2)]
        refine Or.inl ⟨_, rfl, q - 1, by omega, k + 1, by omega, qn_add k 1, ?_⟩
        intro x hx
        by_cases ex : x = k
        · subst ex; exact c2
        · exact g3 x (by omega)
      · rw [if_neg (fun h => c2 (sb_inj.mp h))]
        exact Or.inr ⟨_, rfl, by rw [← comm_uniq (show k ≤ M by omega) g3 (fun _ => c2)]⟩
  obtain ⟨e, h1, h2⟩ := main
  rw [h1, obs, h2]
