def cat (f : Nat → List UInt8) : Nat → List UInt8
  | 0 => []
  | k + 1 => cat f k ++ f k
theorem cat_len_mono (f : Nat → List UInt8) {j k : Nat} (h : j ≤ k) : (cat f j).length ≤ (cat f k).length := by
  induction k with
  | zero => have : j = 0 := by omega
            subst this; exact Nat.le_refl _
  | succ k ih =>
    by_cases e : j = k + 1
    · subst e; exact Nat.le_refl _
    · have := ih (by omega); simp only [cat, List.length_append]; omega
theorem cat_len_at (f : Nat → List UInt8) {j k : Nat} (h : j < k) : (cat f j).length + (f j).length ≤ (cat f k).length := by
  have := cat_len_mono f (show j + 1 ≤ k by omega)
  simp only [cat, List.length_append] at this; exact this
def tx (S : Nat → Nat) (T : Nat → UInt8) (i : Nat) : List UInt8 := (List.range (S (i + 1) - S i)).map (fun k => T (S i + k))
theorem tx_len (S : Nat → Nat) (T : Nat → UInt8) (i : Nat) : (tx S T i).length = S (i + 1) - S i := by simp [tx]
theorem tx_get {S : Nat → Nat} {T : Nat → UInt8} {i k : Nat} (h : k < (tx S T i).length) : (tx S T i)[k] = T (S i + k) := by simp [tx]
def qwide (t : Nat) : Nat := if t = 1 then 4 else 8
def sText (S : Nat → Nat) (T : Nat → UInt8) (i : Nat) : List UInt8 := sVar (S (i + 1) - S i) ++ tx S T i
def sItem (t : Nat) (num : Nat → Int64) (S : Nat → Nat) (T : Nat → UInt8) (i : Nat) : List UInt8 := if t = 3 then sText S T i else sFix (lv (num i)) (qwide t)
def sDict (item : Nat → List UInt8) (K : Nat → List Nat) : Nat → List UInt8
  | 0 => []
  | k + 1 => sDict item K k ++ (if fi K k = k then item k else [])
theorem sDict_len_mono (item : Nat → List UInt8) (K : Nat → List Nat) {j k : Nat} (h : j ≤ k) : (sDict item K j).length ≤ (sDict item K k).length := by
  induction k with
  | zero => have : j = 0 := by omega
            subst this; exact Nat.le_refl _
  | succ k ih =>
    by_cases e : j = k + 1
    · subst e; exact Nat.le_refl _
    · have := ih (by omega); simp only [sDict, List.length_append]; omega
theorem sDict_const {item : Nat → List UInt8} {K : Nat → List Nat} {j k : Nat} (h : j ≤ k) (hd : dn K j = dn K k) : sDict item K j = sDict item K k := by
  induction k with
  | zero => have : j = 0 := by omega
            subst this; rfl
  | succ k ih =>
    by_cases e : j = k + 1
    · subst e; rfl
    · have h1 := dn_mono K (show j ≤ k by omega)
      have h2 := dn_mono K (show k ≤ k + 1 by omega)
      have h3 : dn K (k + 1) = dn K k := by omega
      have h4 : ¬ fi K k = k := by
        intro hf
        simp only [dn] at h3
        rw [if_pos hf] at h3; omega
      rw [ih (by omega) (by omega)]
      simp only [sDict]; rw [if_neg h4, List.append_nil]
/-- what PageForm needs to know of a text -/
theorem C_text {n cap sn tn t c : Nat} {num : Nat → Int64} {S : Nat → Nat} {T : Nat → UInt8} {ofTexts count : Int32} {numbers : Nat → Int64} {starts texts : Nat → Int32} {L : List UInt8} {row : Nat → Int32} {i : Nat}
    (hn : 100000 < n) (ht : t = 3) (hi : i < c) (hsn : c < sn) (hsn2 : sn < 100000) (htn : S c ≤ tn) (htn2 : tn < 100000) (hS : ∀ i, i < c → S i ≤ S (i + 1)) (hC : VsC t c num S T ofTexts count numbers starts texts)
    (hc : cap < 100000) (hL : L.length + (sText S T i).length ≤ cap) (h : HC L row) :
    ∃ o, f_W_putText n sn tn cap starts texts (nI L.length) row (nI i) = some o ∧ QPC (L ++ sText S T i) o := by
  have b1 := S_mono hS (i := i + 1) (j := c) (by omega) (by omega)
  have b3 := hS i hi
  unfold f_W_putText
  simp only [sText, List.length_append, tx_len] at hL
  have hlv : lv (nI (S (i + 1) - S i)).toInt64 = S (i + 1) - S i := lv_nI (by omega)
  rw [V_sizeOf ht hi hsn (by omega) b3 hC, obs]
  obtain ⟨o1, p1, p2, p3⟩ := B_varint (n := n) (cap := cap) (L := L) (row := row) (nI (S (i + 1) - S i)).toInt64 (by omega) (by omega) (by rw [hlv]; omega) h
  rw [hlv] at p2 p3
  have hC' := hC
  obtain ⟨e4, e5, e6, e7, e8⟩ := hC
  rw [p1, obs, gd_nI (by omega) (by omega), obs, p2, qn_clamp (by omega), (e8 ht).1 i (by omega)]
  obtain ⟨o2, r1, r2⟩ := B_append (cap := cap) (pn := tn) (a := S i) (L := L ++ sVar (S (i + 1) - S i)) (l := tx S T i) (row := o1.2) (p1 := texts) (by omega) (by omega) p3 (fun k hk => by rw [tx_get hk]; rw [tx_len] at hk; exact (e8 ht).2 _ (by omega)) (by simp only [List.length_append, tx_len]; omega) (by rw [tx_len]; omega)
  rw [tx_len] at r1
  rw [r1, obs]
  rw [List.append_assoc] at r2
  exact ⟨_, rfl, r2⟩
theorem C_item {n cap nm sn tn t c : Nat} {num : Nat → Int64} {S : Nat → Nat} {T : Nat → UInt8} {ty ofTexts count : Int32} {numbers : Nat → Int64} {starts texts : Nat → Int32} {L : List UInt8} {row : Nat → Int32} {i : Nat}
    (hn : 100000 < n) (hty : ty = nI t) (ht3 : t ≤ 3) (hi : i < c) (hnm : c ≤ nm) (hsn : c < sn) (hsn2 : sn < 100000) (htn : t = 3 → S c ≤ tn) (htn2 : tn < 100000) (hS : t = 3 → ∀ i, i < c → S i ≤ S (i + 1)) (hC : VsC t c num S T ofTexts count numbers starts texts)
    (hc : cap < 100000) (hL : L.length + (sItem t num S T i).length ≤ cap) (h : HC L row) :
    ∃ o, f_W_putPlain n cap nm sn tn (nI L.length) row ty numbers starts texts (nI i) = some o ∧ QPC (L ++ sItem t num S T i) o := by
  unfold f_W_putPlain
  have I3 : (3 : Int32) = nI 3 := rfl
  rw [hty, I3, ife (by omega) (by omega)]
  unfold sItem at hL ⊢
  by_cases c3 : t = 3
  · rw [if_pos c3] at hL
    obtain ⟨o, p1, p2⟩ := C_text (n := n) (cap := cap) (sn := sn) (tn := tn) (i := i) hn c3 hi hsn hsn2 (htn c3) htn2 (hS c3) hC hc hL h
    rw [if_pos c3, if_pos c3, p1, obs]
    exact ⟨_, rfl, p2⟩
  · rw [if_neg c3, sFix_len] at hL
    have I1 : ∀ {α : Type} {x y : α}, (if nI t = 1 then x else y) = if t = 1 then x else y := fun {α x y} => ife (by omega) (by decide)
    rw [if_neg c3, if_neg c3, gd_nI (by omega) (by omega), qn_clamp (by omega), hC.2.2.1 c3 i hi, I1]
    have key : ∀ q, q ≤ 8 → q = qwide t → ∃ o, f_W_putPlain_j53 n cap (nI L.length) row (nI q) (num i) = some o ∧ QPC (L ++ sFix (lv (num i)) (qwide t)) o := by
      intro q hq hw
      unfold f_W_putPlain_j53
      obtain ⟨o, p1, p2⟩ := B_lowestFirst (n := n) (cap := cap) (L := L) (row := row) (num i) (q := q) hq (by omega) (by omega) (by rw [hw]; exact hL) h
      rw [p1, obs]
      rw [hw] at p2
      exact ⟨_, rfl, p2⟩
    by_cases c1 : t = 1
    · rw [if_pos c1]
      exact key 4 (by omega) (by unfold qwide; rw [if_pos c1])
    · rw [if_neg c1]
      exact key 8 (by omega) (by unfold qwide; rw [if_neg c1])
theorem B_sized {n cap pcap : Nat} {L P : List UInt8} {row prow : Nat → Int32} (hn : 100000 < n) (hc : cap < 100000) (hpc : pcap < 100000) (hP : P.length ≤ pcap) (hL : L.length + (sVar P.length).length + P.length ≤ cap) (h : HC L row) (hp : HC P prow) :
    ∃ o, f_B_sized n cap pcap (nI L.length) row (nI P.length) prow = some o ∧ QPC (L ++ (sVar P.length ++ P)) o := by
  unfold f_B_sized
  have hlv : lv (nI P.length).toInt64 = P.length := lv_nI (by omega)
  obtain ⟨o1, p1, p2, p3⟩ := B_varint (n := n) (cap := cap) (L := L) (row := row) (nI P.length).toInt64 (by omega) (by omega) (by rw [hlv]; omega) h
  rw [hlv] at p2 p3
  rw [p1, obs, p2]
  obtain ⟨o2, r1, r2⟩ := B_append (cap := cap) (pn := pcap) (a := 0) (L := L ++ sVar P.length) (l := P) (row := o1.2) (p1 := prow) (by omega) (by omega) p3 (fun k hk => by rw [Nat.zero_add]; exact hp k hk) (by simp only [List.length_append]; omega) (by omega)
  have r1' : f_B_append cap pcap (nI (L ++ sVar P.length).length) o1.2 prow 0 (nI P.length) = some o2 := r1
  rw [r1', obs]
  rw [List.append_assoc] at r2
  exact ⟨_, rfl, r2⟩
/-- levels: nothing for 0, else how many bytes and RUNS -/
def sLev (f : Nat → Nat) (n most : Nat) : List UInt8 := if most = 0 then [] else sVar (sRuns f n (wd most) 0).length ++ sRuns f n (wd most) 0
theorem wd5 {m : Nat} (h : m ≤ 16) : wd m ≤ 5 := wd_le (by omega)
theorem sRuns_lev {f : Nat → Nat} {n most : Nat} (hn : n ≤ 1000) (hm : most ≤ 16) : (sRuns f n (wd most) 0).length ≤ 1125 := by
  have h1 := wd5 hm
  have h2 := sRuns_len (f := f) (m := n) (w := wd most) hn (by omega) n 0 (by omega)
  have h3 : (4 + wd most) * ((n - 0 + 7) / 8) ≤ 9 * 125 := Nat.mul_le_mul (by omega) (by omega)
  omega
theorem sLev_len {f : Nat → Nat} {n most : Nat} (hn : n ≤ 1000) (hm : most ≤ 16) : (sLev f n most).length ≤ 1127 := by
  unfold sLev
  have h1 := sRuns_lev (f := f) hn hm
  have h2 := sVar2 (v := (sRuns f n (wd most) 0).length) (by omega)
  split
  · simp
  · rw [List.length_append]; omega
theorem W_putLevelsOf {n nn most : Nat} {f : Nat → Nat} {L : List UInt8} {brow prow lev : Nat → Int32} {nums : Nat → Int64} (psz : Int32) (hn : 100000 < n) (hnn : nn ≤ 1000) (hm : most ≤ 16) (hf : ∀ k, k < nn → f k ≤ most ∧ lev k = nI (f k)) (hL : L.length ≤ 10000) (h : HC L brow) :
    ∃ o, f_W_putLevelsOf n 32000 1000 4000 1000 (nI nn) (nI L.length) brow nums psz prow lev (nI most) = some o ∧ QPC (L ++ sLev f nn most) (o.1, o.2.1) := by
  unfold f_W_putLevelsOf
  rw [ife0 (by omega)]
  unfold sLev
  by_cases c0 : most = 0
  · rw [if_pos c0, if_pos c0, List.append_nil]
    exact ⟨_, rfl, rfl, h⟩
  rw [if_neg c0, if_neg c0]
  have main : ∃ o, lp (fun v => f_W_putLevelsOf_l7 1000 1000 (nI nn) lev v.1 v.2) n (nums, (0 : Int32)) = some o ∧ ∀ k, k < nn → o.1 k = ql64 (f k) := by
    refine lp_inv (fun q u => ∃ j, j + q = nn ∧ u.2 = nI j ∧ ∀ k, k < j → u.1 k = ql64 (f k)) _ ?_ nn n _ ⟨0, by omega, rfl, fun k hk => by omega⟩ (by omega)
    rintro q ⟨g, j'⟩ ⟨j, g1, g2, g3⟩
    simp only at g2 g3
    subst g2
    show (∃ w', f_W_putLevelsOf_l7 1000 1000 (nI nn) lev g (nI j) = _ ∧ _) ∨ (∃ y, f_W_putLevelsOf_l7 1000 1000 (nI nn) lev g (nI j) = _ ∧ _)
    unfold f_W_putLevelsOf_l7
    rw [ifle (by omega) (by omega)]
    by_cases c : nn ≤ j
    · have : j = nn := by omega
      subst this
      exact Or.inr ⟨_, by rw [if_pos c], g3⟩
    · have hfj := hf j (by omega)
      rw [if_neg c, gd_nI (by omega) (by omega), bnd_eq, gd_nI (by omega) (by omega), qn_clamp (by omega), hfj.2, lI64 (by omega)]
      refine Or.inl ⟨_, rfl, q - 1, by omega, j + 1, by omega, qn_add j 1, ?_⟩
      intro k hk
      show vp_updL g j (ql64 (f j)) k = _
      unfold vp_updL
      by_cases e : k = j
      · subst e; rw [if_pos rfl]
      · rw [if_neg e]; exact g3 k (by omega)
  obtain ⟨o, h1, h2⟩ := main
  rw [h1, obs]
  unfold f_W_putLevelsOf_j31
  have hw := wd5 hm
  have hlv : lv (nI most).toInt64 = most := lv_nI (by omega)
  have hrl := sRuns_lev (f := f) (n := nn) hnn hm
  rw [show f_B_cut 0 = some (0 : Int32) from rfl, obs, F_widthOf _ (by omega), obs, hlv]
  obtain ⟨o1, p1, p2, p3⟩ := B_runs (n := n) (cap := 4000) (pn := 1000) (m := nn) (w := wd most) (f := f) (numbers := o.1) (L := []) (row := prow) hn hnn (by omega) (by omega) (fun i hi => Nat.lt_of_le_of_lt (hf i hi).1 (wd_lt most)) h2 (by omega) (by simp only [List.length_nil]; omega) (fun j hj => by simp at hj)
  have p1' : f_B_runs n 4000 1000 0 prow o.1 (nI nn) (nI (wd most)) = some o1 := p1
  rw [List.nil_append] at p2 p3
  rw [p1', obs, p2]
  have h2' := sVar2 (v := (sRuns f nn (wd most) 0).length) (by omega)
  obtain ⟨o2, r1, r2⟩ := B_sized (n := n) (cap := 32000) (pcap := 4000) (L := L) (P := sRuns f nn (wd most) 0) (row := brow) (prow := o1.2) hn (by omega) (by omega) (by omega) (by omega) h p3
  rw [r1, obs]
  exact ⟨_, rfl, r2⟩
theorem W_putLevels {n nn r d : Nat} {rp df : Nat → Nat} {brow prow defs reps : Nat → Int32} {nums : Nat → Int64} (psz : Int32) (hn : 100000 < n) (hnn : nn ≤ 1000) (hr : r ≤ 16) (hd : d ≤ 16) (hf : ∀ k, k < nn → rp k ≤ r ∧ df k ≤ d ∧ reps k = nI (rp k) ∧ defs k = nI (df k)) :
    ∃ o, f_W_putLevels n 32000 1000 4000 1000 1000 brow (nI r) (nI d) nums psz prow (nI nn) defs reps = some o ∧ o.1 = nI nn ∧ o.2.1 = nI (sLev rp nn r ++ sLev df nn d).length ∧ o.2.2.1 = nI (sLev rp nn r ++ sLev df nn d).length ∧ HC (sLev rp nn r ++ sLev df nn d) o.2.2.2.1 := by
  unfold f_W_putLevels
  have l1 := sLev_len (f := rp) hnn hr
  obtain ⟨o1, p1, p2, p3⟩ := W_putLevelsOf (n := n) (nn := nn) (most := r) (f := rp) (L := []) (brow := brow) (prow := prow) (lev := reps) (nums := nums) psz hn hnn hr (fun k hk => ⟨(hf k hk).1, (hf k hk).2.2.1⟩) (by simp) (fun j hj => by simp at hj)
  have p1' : f_W_putLevelsOf n 32000 1000 4000 1000 (nI nn) 0 brow nums psz prow reps (nI r) = some o1 := p1
  rw [List.nil_append] at p2 p3
  simp only at p2 p3
  rw [show f_B_cut 0 = some (0 : Int32) from rfl, obs, p1', obs, p2]
  obtain ⟨o2, r1, r2, r3⟩ := W_putLevelsOf (n := n) (nn := nn) (most := d) (f := df) (L := sLev rp nn r) (brow := o1.2.1) (prow := o1.2.2.2.2) (lev := defs) (nums := o1.2.2.1) o1.2.2.2.1 hn hnn hd (fun k hk => ⟨(hf k hk).2.1, (hf k hk).2.2.2⟩) (by omega) p3
  rw [r1, obs]
  exact ⟨_, rfl, rfl, r2, r2, r3⟩
