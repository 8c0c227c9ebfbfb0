/-- how many of the first entries have a value -/
def cntD (df : Nat → Nat) (d : Nat) : Nat → Nat
  | 0 => 0
  | k + 1 => cntD df d k + (if df k = d then 1 else 0)
def holdsT (t : Nat) (v : Int64) : Prop := (t = 0 → lv v ≤ 1) ∧ (t = 1 → v = v.toInt32.toInt64)
/-- a page as it is meant: t, r, d the column; n entries, c values; levels; numbers; texts from S i on, their bytes T -/
def PgV (t r d n c : Nat) (rp df : Nat → Nat) (num : Nat → Int64) (S : Nat → Nat) : Prop :=
  n ≤ 1000 ∧ c = cntD df d n ∧ (∀ k, k < n → rp k ≤ r ∧ df k ≤ d) ∧ (t ≠ 3 → ∀ i, i < c → holdsT t (num i)) ∧ S 0 = 0 ∧ (t = 3 → (∀ i, i < c → S i ≤ S (i + 1) ∧ S (i + 1) ≤ S i + 255) ∧ S c ≤ 20000)
def Col (t r d : Nat) (ty R D : Int32) : Prop := ty = nI t ∧ R = nI r ∧ D = nI d
def VsC (t c : Nat) (num : Nat → Int64) (S : Nat → Nat) (T : Nat → UInt8) (ofTexts count : Int32) (numbers : Nat → Int64) (starts texts : Nat → Int32) : Prop :=
  ofTexts = nI (if t = 3 then 1 else 0) ∧ count = nI c ∧ (t ≠ 3 → ∀ i, i < c → numbers i = num i) ∧ starts 0 = nI 0 ∧ (t = 3 → (∀ i, i ≤ c → starts i = nI (S i)) ∧ ∀ j, j < S c → texts j = qsb (T j))
def VsM (t c : Nat) (num : Nat → Int64) (S : Nat → Nat) (T : Nat → UInt8) (values : Int32) (wholes : Nat → Int64) (frm bytes : Nat → Int32) : Prop :=
  values = nI c ∧ (t ≠ 3 → ∀ i, i < c → wholes i = num i) ∧ frm 0 = nI 0 ∧ (t = 3 → (∀ i, i ≤ c → frm i = nI (S i)) ∧ ∀ j, j < S c → bytes j = um (T j))
def PgC (t d n c : Nat) (rp df : Nat → Nat) (num : Nat → Int64) (S : Nat → Nat) (T : Nat → UInt8) (entries valued : Int32) (definitions repetitions valueNumbers : Nat → Int32) (ofTexts count : Int32) (numbers : Nat → Int64) (starts texts : Nat → Int32) : Prop :=
  entries = nI n ∧ valued = nI c ∧ (∀ k, k < n → definitions k = nI (df k) ∧ repetitions k = nI (rp k) ∧ valueNumbers k = if df k = d then nI (cntD df d k) else -1) ∧ VsC t c num S T ofTexts count numbers starts texts
def PgM (t n c : Nat) (rp df : Nat → Nat) (num : Nat → Int64) (S : Nat → Nat) (T : Nat → UInt8) (entries values : Int32) (definitions repetitions : Nat → Int32) (wholes : Nat → Int64) (frm bytes : Nat → Int32) : Prop :=
  entries = nI n ∧ (∀ k, k < n → definitions k = nI (df k) ∧ repetitions k = nI (rp k)) ∧ VsM t c num S T values wholes frm bytes
/-- bytes: the same in both -/
def QBy (cap : Nat) (size : Int32) (row : Nat → Int32) (msize : Int32) (mrow : Nat → Int32) : Prop :=
  ∃ L : List UInt8, L.length ≤ cap ∧ size = nI L.length ∧ HC L row ∧ msize = nI L.length ∧ QHM L mrow
def QSim : SimT := fun x_lastCoding x_lastBody x_column_type x_column_mostR x_column_mostD x_input_size x_input_row x_output_size x_output_row x_page_entries x_page_valued x_page_definitions x_page_repetitions x_page_valueNumbers x_page_values_ofTexts x_page_values_count x_page_values_numbers x_page_values_starts x_page_values_texts _ _ _ _ _ _ _ _ _ _ x_reader_dictionary_starts _ _ _ _ _ _ _ _ _ x_reader_told_starts _ _ _ _ _ _ _ _ _ x_spare_values_starts _ x_tape_size x_tape_row _ _ _ _ _ _ _ _ _ _ _ _ m_type m_mostR m_mostD m_entries m_values m_coding m_bodySize _ _ m_taped m_inputSize m_outSize _ _ _ _ _ m_bytes _ m_definitions m_from m_input _ _ _ _ m_newFrom _ _ _ m_out m_repetitions m_tape _ _ _ m_wholes _ _ _ =>
  ∃ (t r d n c : Nat) (rp df : Nat → Nat) (num : Nat → Int64) (S : Nat → Nat) (T : Nat → UInt8),
    (t ≤ 3 ∧ r ≤ d ∧ d ≤ 16) ∧ PgV t r d n c rp df num S ∧
    Col t r d x_column_type x_column_mostR x_column_mostD ∧ Col t r d m_type m_mostR m_mostD ∧
    PgC t d n c rp df num S T x_page_entries x_page_valued x_page_definitions x_page_repetitions x_page_valueNumbers x_page_values_ofTexts x_page_values_count x_page_values_numbers x_page_values_starts x_page_values_texts ∧
    PgM t n c rp df num S T m_entries m_values m_definitions m_repetitions m_wholes m_from m_bytes ∧
    QBy 30000 x_tape_size x_tape_row m_taped m_tape ∧ QBy 30000 x_input_size x_input_row m_inputSize m_input ∧ QBy 32000 x_output_size x_output_row m_outSize m_out ∧
    x_lastCoding = m_coding ∧ x_lastBody = m_bodySize ∧
    (x_spare_values_starts 0 = nI 0 ∧ x_reader_told_starts 0 = nI 0 ∧ x_reader_dictionary_starts 0 = nI 0 ∧ m_newFrom 0 = nI 0)
