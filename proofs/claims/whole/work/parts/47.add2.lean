theorem M_add_txt {n c : Nat} {S : Nat → Nat} {frm bytes input : Nat → Int32} {L : List UInt8} (hn : 100000 < n) (hc : c < 1001) (hL : L.length ≤ 30000) (hf : frm c = nI (S c)) (hfit : S c + L.length ≤ 20000) (h : QHM L input) :
    ∃ e, lp (fun v => f_M_add_l209 20000 1001 30000 (nI c) (nI L.length) frm input v.1 v.2) n (bytes, (0 : Int32)) = some e ∧ (∀ i (h : i < L.length), e.1 (S c + i) = um L[i]) ∧ (∀ j, j < S c → e.1 j = bytes j) := by
  refine lp_inv (fun q w => ∃ k, k + q = L.length ∧ w.2 = nI k ∧ (∀ i (h : i < L.length), i < k → w.1 (S c + i) = um L[i]) ∧ (∀ j, j < S c → w.1 j = bytes j)) _ ?_ L.length n _ ⟨0, by omega, rfl, fun i _ hi => by omega, fun _ _ => rfl⟩ (by omega)
  rintro q ⟨f, k'⟩ ⟨k, g1, g2, g3, g4⟩
  simp only at g2 g3 g4
  subst g2
  show (∃ w', f_M_add_l209 20000 1001 30000 (nI c) (nI L.length) frm input f (nI k) = _ ∧ _) ∨ (∃ x, f_M_add_l209 20000 1001 30000 (nI c) (nI L.length) frm input f (nI k) = _ ∧ _)
  unfold f_M_add_l209
  rw [ifle (by omega) (by omega)]
  by_cases ck : L.length ≤ k
  · exact Or.inr ⟨_, by rw [if_pos ck], fun i hi => g3 i hi (by omega), g4⟩
  · rw [if_neg ck, gd_nI (by omega) (by omega), gd_nI (by omega) (by omega)]
    simp only [bnd]
    rw [qn_clamp (show c < 2147483648 by omega), hf, qn_add, gd_nI (by omega) (by omega), qn_clamp (by omega), qn_clamp (by omega), h k (by omega)]
    refine Or.inl ⟨_, rfl, q - 1, by omega, k + 1, by omega, qn_add k 1, ?_, ?_⟩
    · intro i hi hik
      show upd f (S c + k) (um L[k]) (S c + i) = _
      unfold upd
      by_cases e : i = k
      · subst e; rw [if_pos rfl]
      · rw [if_neg (by omega)]; exact g3 i hi (by omega)
    · intro j hj
      show upd f (S c + k) (um L[k]) j = _
      unfold upd
      rw [if_neg (by omega)]; exact g4 j hj
theorem cntD_aF0 {df : Nat → Nat} {d n d0 : Nat} {m : Nat} (hm : m ≤ n) : cntD (aF n df d0) d m = cntD df d m := by
  induction m with
  | zero => rfl
  | succ m ih =>
    simp only [cntD]
    rw [ih (by omega)]
    have : aF n df d0 m = df m := by unfold aF; rw [if_pos (by omega)]
    rw [this]
theorem aS_at {c l : Nat} {S : Nat → Nat} (i : Nat) : aS c S l (c + i) = S c + i * l := by
  unfold aS
  by_cases e : c + i ≤ c
  · rw [if_pos e]
    have : i = 0 := by omega
    subst this; simp
  · rw [if_neg e]; congr 2; omega
theorem M_add_lp {t r d n c : Nat} {rp df : Nat → Nat} {num : Nat → Int64} {S : Nat → Nat} {T : Nat → UInt8} {entries values : Int32} {definitions repetitions : Nat → Int32} {wholes : Nat → Int64} {frm bytes input : Nat → Int32} {isz ty : Int32} {L : List UInt8} {fu r0 d0 m : Nat} (v : Int64) (code : Int32)
    (hfu : 100000 < fu) (ht3 : t ≤ 3) (hr0 : r0 ≤ 16) (hd0 : d0 ≤ 16) (hm : n + m ≤ 1000) (hty : ty = nI t) (hV : PgV t r d n c rp df num S)
    (hL : L.length ≤ 30000) (hsz : isz = nI L.length) (hHM : QHM L input) (htx : t = 3 → d0 = d → L.length ≤ 255 ∧ S c + m * L.length ≤ 20000)
    (hC : PgM t n c rp df num S T entries values definitions repetitions wholes frm bytes) :
    ∃ o, f_M_add_j140 fu 20000 1000 1001 30000 1000 1000 code ty entries values isz bytes definitions frm input repetitions wholes (nI r0) (nI d0) v (nI m) (nI (if d0 = d then 1 else 0)) = some o ∧ o.1 = 1 ∧
      PgM t (n + m) (cntD (aF n df d0) d (n + m)) (aF n rp r0) (aF n df d0) (aF c num v) (aS c S L.length) (aT (S c) T L) o.2.2.1 o.2.2.2.1 o.2.2.2.2.2.1 o.2.2.2.2.2.2.2.1 o.2.2.2.2.2.2.2.2 o.2.2.2.2.2.2.1 o.2.2.2.2.1 := by
  unfold f_M_add_j140
  have hcn := PgV_c hV
  have hSV := PgV_S hV
  have main : ∃ o, lp (fun w => f_M_add_l143 fu 20000 1000 1001 30000 1000 1000 code ty isz input (nI r0) (nI d0) v (nI m) (nI (if d0 = d then 1 else 0)) w.1 w.2.1 w.2.2.1 w.2.2.2.1 w.2.2.2.2.1 w.2.2.2.2.2.1 w.2.2.2.2.2.2.1 w.2.2.2.2.2.2.2) fu (entries, values, bytes, definitions, frm, repetitions, wholes, (0 : Int32)) = some o ∧ o.1 = 1 ∧
      PgM t (n + m) (cntD (aF n df d0) d (n + m)) (aF n rp r0) (aF n df d0) (aF c num v) (aS c S L.length) (aT (S c) T L) o.2.2.1 o.2.2.2.1 o.2.2.2.2.2.1 o.2.2.2.2.2.2.2.1 o.2.2.2.2.2.2.2.2 o.2.2.2.2.2.2.1 o.2.2.2.2.1 := by
    refine lp_inv (fun q w => ∃ k, k + q = m ∧ w.2.2.2.2.2.2.2 = nI k ∧ PgM t (n + k) (cntD (aF n df d0) d (n + k)) (aF n rp r0) (aF n df d0) (aF c num v) (aS c S L.length) (aT (S c) T L) w.1 w.2.1 w.2.2.2.1 w.2.2.2.2.2.1 w.2.2.2.2.2.2.1 w.2.2.2.2.1 w.2.2.1) _ ?_ m fu _ ⟨0, by omega, rfl, ?_⟩ (by omega)
    · rintro q ⟨en, va, by', de, fr, re, wh, k'⟩ ⟨k, g1, g2, g3⟩
      simp only at g2 g3
      subst g2
      obtain ⟨p1, p3, p4⟩ := g3
      subst p1
      show (∃ w', f_M_add_l143 fu 20000 1000 1001 30000 1000 1000 code ty isz input (nI r0) (nI d0) v (nI m) (nI (if d0 = d then 1 else 0)) (nI (n + k)) va by' de fr re wh (nI k) = _ ∧ _) ∨ (∃ x, f_M_add_l143 fu 20000 1000 1001 30000 1000 1000 code ty isz input (nI r0) (nI d0) v (nI m) (nI (if d0 = d then 1 else 0)) (nI (n + k)) va by' de fr re wh (nI k) = _ ∧ _)
      unfold f_M_add_l143
      rw [ifle (by omega) (by omega)]
      by_cases ck : m ≤ k
      · have : k = m := by omega
        subst this
        exact Or.inr ⟨_, by rw [if_pos ck], rfl, rfl, p3, p4⟩
      · rw [if_neg ck, gd_nI (by omega) (by omega), gd_nI (by omega) (by omega)]
        simp only [bnd]
        have er : aF n rp r0 (n + k) = r0 := by unfold aF; rw [if_neg (by omega)]
        have ed : aF n df d0 (n + k) = d0 := by unfold aF; rw [if_neg (by omega)]
        have hlv : ∀ x, x < n + (k + 1) → upd de (n + k) (nI d0) x = nI (aF n df d0 x) ∧ upd re (n + k) (nI r0) x = nI (aF n rp r0 x) := by
          intro x hx
          unfold upd
          by_cases e : x = n + k
          · subst e; rw [if_pos rfl, if_pos rfl, er, ed]; exact ⟨rfl, rfl⟩
          · rw [if_neg e, if_neg e]; exact p3 x (by omega)
        have c1 : nI (n + k) + 1 = nI (n + (k + 1)) := qn_add (n + k) 1
        have c2 : nI k + 1 = nI (k + 1) := qn_add k 1
        rw [ife0 (by split <;> omega), qn_clamp (by omega)]
        by_cases cd : d0 = d
        · rw [if_neg (by rw [if_pos cd]; omega)]
          have hcnt := cntD_aF (df := df) (d := d) (n := n) (d0 := d0) k
          rw [if_pos cd, ← hV.2.1] at hcnt
          have hcnt1 := cntD_aF (df := df) (d := d) (n := n) (d0 := d0) (k + 1)
          rw [if_pos cd, ← hV.2.1] at hcnt1
          rw [hcnt] at p4
          obtain ⟨b1, b2, b3, b4⟩ := p4
          have I3 : (3 : Int32) = nI 3 := rfl
          rw [b1, gd_nI (by omega) (by omega), qn_clamp (by omega), hty, I3, ife (by omega) (by omega)]
          have c3' : nI (c + k) + 1 = nI (c + (k + 1)) := qn_add (c + k) 1
          by_cases c3 : t = 3
          · rw [if_pos c3, hsz]
            obtain ⟨x1, x2⟩ := htx c3 cd
            obtain ⟨y1, y2⟩ := hSV c3
            have hle : (k + 1) * L.length ≤ m * L.length := Nat.mul_le_mul_right _ (by omega)
            rw [Nat.add_mul] at hle
            obtain ⟨e, e1, e2, e3⟩ := M_add_txt (n := fu) (c := c + k) (S := aS c S L.length) (frm := fr) (bytes := by') (input := input) (L := L) hfu (by omega) hL ((b4 c3).1 _ (by omega)) (by rw [aS_at]; omega) hHM
            rw [e1, obs]
            unfold f_M_add_j248 f_M_add_j273
            simp only [bnd]
            rw [gd_nI (by omega) (by omega), qn_clamp (by omega), c3', gd_nI (by omega) (by omega), qn_clamp (by omega), (b4 c3).1 _ (Nat.le_refl _), qn_add]
            refine Or.inl ⟨_, rfl, q - 1, by omega, k + 1, by omega, c2, c1, hlv, ?_⟩
            rw [hcnt1]
            refine ⟨rfl, fun h => absurd c3 h, ?_, fun _ => ⟨?_, ?_⟩⟩
            · show upd fr (c + (k + 1)) (nI (aS c S L.length (c + k) + L.length)) 0 = _
              unfold upd; rw [if_neg (by omega)]; exact b3
            · intro i hi
              show upd fr (c + (k + 1)) (nI (aS c S L.length (c + k) + L.length)) i = _
              unfold upd
              by_cases ei : i = c + (k + 1)
              · rw [if_pos ei, ei, aS_at, aS_at, Nat.add_mul]; congr 1; omega
              · rw [if_neg ei]; exact (b4 c3).1 i (by omega)
            · intro j hj
              rw [aS_at, Nat.add_mul] at hj
              show e.1 j = _
              by_cases ej : j < aS c S L.length (c + k)
              · rw [e3 j ej]; exact (b4 c3).2 j ej
              · rw [aS_at] at ej
                have := e2 (j - aS c S L.length (c + k)) (by rw [aS_at]; omega)
                have e4 : aS c S L.length (c + k) + (j - aS c S L.length (c + k)) = j := by rw [aS_at]; omega
                rw [e4] at this
                rw [this]
                have h5 := aT_at (s := S c) (k := k) (T := T) (L := L) (i := j - aS c S L.length (c + k)) (by rw [aS_at]; omega)
                rw [← h5]
                congr 2
                rw [aS_at]; omega
          · rw [if_neg c3]
            unfold f_M_add_j273
            simp only [bnd]
            refine Or.inl ⟨_, rfl, q - 1, by omega, k + 1, by omega, c2, c1, hlv, ?_⟩
            rw [hcnt1]
            refine ⟨c3', ?_, b3, fun h => absurd h c3⟩
            intro _ i hi
            show vp_updL wh (c + k) v i = _
            unfold vp_updL
            by_cases ei : i = c + k
            · rw [if_pos ei, ei]; unfold aF; rw [if_neg (by omega)]
            · rw [if_neg ei]; exact b2 c3 i (by omega)
        · rw [if_pos (by rw [if_neg cd])]
          refine Or.inl ⟨_, rfl, q - 1, by omega, k + 1, by omega, c2, c1, hlv, ?_⟩
          have hcnt := cntD_aF (df := df) (d := d) (n := n) (d0 := d0) k
          have hcnt1 := cntD_aF (df := df) (d := d) (n := n) (d0 := d0) (k + 1)
          rw [if_neg cd] at hcnt hcnt1
          rw [hcnt1, ← hcnt]
          exact p4
    · obtain ⟨p1, p3, p4⟩ := hC
      rw [Nat.add_zero, cntD_aF0 (Nat.le_refl _), ← hV.2.1]
      refine ⟨p1, ?_, VsM_mono p4 (fun i hi => by unfold aF; rw [if_pos hi]) (fun i hi => by unfold aS; rw [if_pos hi]) (fun j hj => by unfold aT; rw [if_pos hj])⟩
      intro k hk
      have e1 : aF n df d0 k = df k := by unfold aF; rw [if_pos hk]
      have e2 : aF n rp r0 k = rp k := by unfold aF; rw [if_pos hk]
      rw [e1, e2]
      exact p3 k hk
  obtain ⟨o, h1, h2⟩ := main
  rw [h1]
  exact ⟨o, rfl, h2⟩
theorem PgV_add {t r d n c : Nat} {rp df : Nat → Nat} {num : Nat → Int64} {S : Nat → Nat} {l r0 d0 m : Nat} {v : Int64} (hV : PgV t r d n c rp df num S) (hm : n + m ≤ 1000) (hr : r0 ≤ r) (hd : d0 ≤ d) (hh : t ≠ 3 → d0 = d → holdsT t v) (htx : t = 3 → d0 = d → l ≤ 255 ∧ S c + m * l ≤ 20000) :
    PgV t r d (n + m) (cntD (aF n df d0) d (n + m)) (aF n rp r0) (aF n df d0) (aF c num v) (aS c S l) := by
  obtain ⟨w1, w2, w3, w4, w5, w6⟩ := hV
  have hcnt := cntD_aF (df := df) (d := d) (n := n) (d0 := d0) m
  refine ⟨hm, rfl, ?_, ?_, ?_, ?_⟩
  · intro k hk
    unfold aF
    by_cases e : k < n
    · rw [if_pos e, if_pos e]; exact w3 k e
    · rw [if_neg e, if_neg e]; exact ⟨hr, hd⟩
  · intro h3 i hi
    unfold aF
    by_cases e : i < c
    · rw [if_pos e]; exact w4 h3 i e
    · rw [if_neg e]
      by_cases cd : d0 = d
      · exact hh h3 cd
      · rw [hcnt, if_neg cd] at hi; omega
  · unfold aS; rw [if_pos (by omega)]; exact w5
  · intro h3
    obtain ⟨y1, y2⟩ := w6 h3
    rw [hcnt, ← w2]
    by_cases cd : d0 = d
    · obtain ⟨x1, x2⟩ := htx h3 cd
      rw [if_pos cd, aS_at]
      refine ⟨?_, by omega⟩
      intro i hi
      by_cases e : i < c
      · unfold aS; rw [if_pos (by omega), if_pos (by omega)]; exact y1 i e
      · obtain ⟨j, rfl⟩ : ∃ j, i = c + j := ⟨i - c, by omega⟩
        have : c + j + 1 = c + (j + 1) := by omega
        rw [this, aS_at, aS_at, Nat.add_mul]; omega
    · rw [if_neg cd, aS_at]
      refine ⟨?_, by omega⟩
      intro i hi
      unfold aS; rw [if_pos (by omega), if_pos (by omega)]; exact y1 i (by omega)

theorem p_add {n t r d nn c : Nat} {rp df : Nat → Nat} {num : Nat → Int64} {S : Nat → Nat} {T : Nat → UInt8} {entries valued : Int32} {definitions repetitions valueNumbers : Nat → Int32} {ofTexts count : Int32} {numbers : Nat → Int64} {starts texts irow : Nat → Int32} {isz ty R D mty mR mD misz : Int32} {mentries values : Int32} {mdef mrep : Nat → Int32} {wholes : Nat → Int64} {frm bytes input : Nat → Int32}
    (v1 v2 : Int32) (v3 : Int64) (v5 : Int32) (hn : 100000 < n) (ht3 : t ≤ 3) (hrd : r ≤ d) (hd16 : d ≤ 16) (hV : PgV t r d nn c rp df num S) (hCx : Col t r d ty R D) (hCm : Col t r d mty mR mD)
    (hC : PgC t d nn c rp df num S T entries valued definitions repetitions valueNumbers ofTexts count numbers starts texts) (hM : PgM t nn c rp df num S T mentries values mdef mrep wholes frm bytes) (hI : QBy 30000 isz irow misz input) :
    ∃ o1 o2, f_F_add n 30000 1000 1000 1000 1000 1001 20000 ty R D isz irow entries valued definitions repetitions valueNumbers count numbers starts texts v1 v2 v3 v5 = some o1 ∧ f_M_add n 20000 1000 1001 30000 1000 1000 mty mR mD mentries values misz bytes mdef frm input mrep wholes v1 v2 v3 v5 = some o2 ∧ o1.1 = o2.1 ∧
      ∃ (nn' c' : Nat) (rp' df' : Nat → Nat) (num' : Nat → Int64) (S' : Nat → Nat) (T' : Nat → UInt8), PgV t r d nn' c' rp' df' num' S' ∧ PgC t d nn' c' rp' df' num' S' T' o1.2.1 o1.2.2.1 o1.2.2.2.1 o1.2.2.2.2.1 o1.2.2.2.2.2.1 ofTexts o1.2.2.2.2.2.2.1 o1.2.2.2.2.2.2.2.1 o1.2.2.2.2.2.2.2.2.1 o1.2.2.2.2.2.2.2.2.2 ∧
        PgM t nn' c' rp' df' num' S' T' o2.2.2.1 o2.2.2.2.1 o2.2.2.2.2.2.1 o2.2.2.2.2.2.2.2.1 o2.2.2.2.2.2.2.2.2 o2.2.2.2.2.2.2.1 o2.2.2.2.2.1 := by
  have stay : ∃ (nn' c' : Nat) (rp' df' : Nat → Nat) (num' : Nat → Int64) (S' : Nat → Nat) (T' : Nat → UInt8), PgV t r d nn' c' rp' df' num' S' ∧ PgC t d nn' c' rp' df' num' S' T' entries valued definitions repetitions valueNumbers ofTexts count numbers starts texts ∧ PgM t nn' c' rp' df' num' S' T' mentries values mdef mrep wholes frm bytes := ⟨nn, c, rp, df, num, S, T, hV, hC, hM⟩
  have hcn := PgV_c hV
  have hSV := PgV_S hV
  obtain ⟨a1, a2, a3⟩ := hCx
  obtain ⟨b1, b2, b3⟩ := hCm
  subst a1; subst a2; subst a3; subst b1; subst b2; subst b3
  obtain ⟨L, q0, q1, q2, q3, q4⟩ := hI
  have hC' := hC
  have hM' := hM
  obtain ⟨e1, e2, e3, e4, e5, e6, e7, e8⟩ := hC
  obtain ⟨g1, g2, g4, g5, g6, g7⟩ := hM
  subst e1; subst g1; subst e5; subst g4; subst q1; subst q3
  unfold f_F_add f_M_add
  rcases I_cases v1 with h | ⟨r0, hr0, rfl⟩
  · rw [if_pos h, if_pos h]; exact ⟨_, _, rfl, rfl, rfl, stay⟩
  rw [qif0 hr0, qif0 hr0, ifl (by omega) hr0, ifl (by omega) hr0]
  by_cases cr : r < r0
  · rw [if_pos cr, if_pos cr]; exact ⟨_, _, rfl, rfl, rfl, stay⟩
  rw [if_neg cr, if_neg cr]
  rcases I_cases v2 with h | ⟨d0, hd0, rfl⟩
  · rw [if_pos h, if_pos h]; exact ⟨_, _, rfl, rfl, rfl, stay⟩
  rw [qif0 hd0, qif0 hd0, ifle hd0 (by omega), ifl (by omega) hd0]
  by_cases cd : d0 ≤ d
  · rw [if_pos cd, if_neg (show ¬ d < d0 by omega)]
    have i1 : (1 : Int32) = nI 1 := rfl
    have i1000 : (1000 : Int32) = nI 1000 := rfl
    rcases I_cases v5 with h | ⟨m, hm, rfl⟩
    · have : v5 < 1 := by
        rw [Int32.lt_iff_toInt_lt] at h ⊢
        have z0 : (0 : Int32).toInt = 0 := rfl
        have z1 : (1 : Int32).toInt = 1 := rfl
        omega
      rw [if_pos this, if_pos this]; exact ⟨_, _, rfl, rfl, rfl, stay⟩
    have il : ∀ {α : Type} {x y : α}, (if nI m < 1 then x else y) = if m < 1 then x else y := fun {α x y} => ifl hm (by decide)
    rw [il, il]
    by_cases cm : m < 1
    · rw [if_pos cm, if_pos cm]; exact ⟨_, _, rfl, rfl, rfl, stay⟩
    rw [if_neg cm, if_neg cm, i1000, show nI 1000 - nI nn = nI (1000 - nn) from nI_sub (by omega), ifle hm (by omega), ifle hm (by omega)]
    by_cases cn : m ≤ 1000 - nn
    · rw [if_pos cn, if_pos cn, ife hd0 (by omega), ife hd0 (by omega)]
      -- what happens when the entries come
      have go : (t ≠ 3 → d0 = d → holdsT t v3) → (t = 3 → d0 = d → L.length ≤ 255 ∧ S c + m * L.length ≤ 20000) →
          ∃ o1 o2, f_F_add_j91 n 30000 1000 1000 1000 1000 1001 20000 (nI t) (nI L.length) irow (nI nn) valued definitions repetitions valueNumbers (nI c) numbers starts texts (nI r0) (nI d0) v3 (nI m) (nI (if d0 = d then 1 else 0)) = some o1 ∧ f_M_add_j140 n 20000 1000 1001 30000 1000 1000 0 (nI t) (nI nn) (nI c) (nI L.length) bytes mdef frm input mrep wholes (nI r0) (nI d0) v3 (nI m) (nI (if d0 = d then 1 else 0)) = some o2 ∧ o1.1 = o2.1 ∧
            ∃ (nn' c' : Nat) (rp' df' : Nat → Nat) (num' : Nat → Int64) (S' : Nat → Nat) (T' : Nat → UInt8), PgV t r d nn' c' rp' df' num' S' ∧ PgC t d nn' c' rp' df' num' S' T' o1.2.1 o1.2.2.1 o1.2.2.2.1 o1.2.2.2.2.1 o1.2.2.2.2.2.1 ofTexts o1.2.2.2.2.2.2.1 o1.2.2.2.2.2.2.2.1 o1.2.2.2.2.2.2.2.2.1 o1.2.2.2.2.2.2.2.2.2 ∧
              PgM t nn' c' rp' df' num' S' T' o2.2.2.1 o2.2.2.2.1 o2.2.2.2.2.2.1 o2.2.2.2.2.2.2.2.1 o2.2.2.2.2.2.2.2.2 o2.2.2.2.2.2.2.1 o2.2.2.2.2.1 := by
        intro hh htx
        obtain ⟨o1, x1, x2, x3⟩ := F_add_lp (r0 := r0) (d0 := d0) (m := m) v3 hn ht3 (by omega) (by omega) (by omega) rfl hV q0 rfl q2 htx hC'
        obtain ⟨o2, y1, y2, y3⟩ := M_add_lp (r0 := r0) (d0 := d0) (m := m) v3 0 hn ht3 (by omega) (by omega) (by omega) rfl hV q0 rfl q4 htx hM'
        exact ⟨o1, o2, x1, y1, by rw [x2, y2], _, _, _, _, _, _, _, PgV_add hV (by omega) (by omega) cd hh htx, x3, y3⟩
      by_cases ced : d0 = d
      · rw [if_pos ced, if_pos ced]
        unfold f_F_add_j72 f_M_add_j63
        rw [if_neg (show ¬ (1 : Int32) = 0 by decide), if_neg (show ¬ (1 : Int32) = 0 by decide)]
        unfold f_F_takesValue
        have I3 : (3 : Int32) = nI 3 := rfl
        rw [I3, ife (by omega) (by omega), ife (by omega) (by omega)]
        rw [if_pos ced] at go
        by_cases c3 : t = 3
        · rw [if_pos c3, if_pos c3]
          have i255 : (255 : Int32) = nI 255 := rfl
          rw [i255, ifl (by omega) (by omega), ifl (by omega) (by omega)]
          by_cases cl : 255 < L.length
          · rw [if_pos cl, if_pos cl, obs, if_pos rfl]; exact ⟨_, _, rfl, rfl, rfl, stay⟩
          · obtain ⟨y1, y2⟩ := hSV c3
            rw [if_neg cl, if_neg cl]
            unfold f_V_textBytes
            have hml : m * L.length ≤ 1000 * 255 := Nat.mul_le_mul (by omega) (by omega)
            have i2 : (20000 : Int32) = nI 20000 := rfl
            rw [gd_nI (by omega) (by omega), gd_nI (by omega) (by omega), qn_clamp (by omega), obs, (e8 c3).1 c (by omega), (g7 c3).1 c (by omega), i2, show nI 20000 - nI (S c) = nI (20000 - S c) from nI_sub (by omega), lI64 (show 20000 - S c < 2147483648 by omega), lI64 (show m < 2147483648 by omega), lI64 (show L.length < 2147483648 by omega), l64_mul]
            by_cases cf : m * L.length ≤ 20000 - S c
            · rw [if_neg (show ¬ ql64 (20000 - S c) < ql64 (m * L.length) by rw [ql64_lt (by omega) (by omega)]; omega), if_pos (show ql64 (m * L.length) ≤ ql64 (20000 - S c) by rw [l64_le (by omega) (by omega)]; exact cf), obs, if_neg (show ¬ (1 : Int32) = 0 by decide)]
              unfold f_M_add_j117
              rw [if_neg (show ¬ (1 : Int32) = 0 by decide), I3, ife (by omega) (by omega), if_pos c3]
              exact go (fun h => absurd c3 h) (fun _ _ => ⟨by omega, by omega⟩)
            · rw [if_pos (show ql64 (20000 - S c) < ql64 (m * L.length) by rw [ql64_lt (by omega) (by omega)]; omega), if_neg (show ¬ ql64 (m * L.length) ≤ ql64 (20000 - S c) by rw [l64_le (by omega) (by omega)]; exact cf), obs, if_pos rfl]
              exact ⟨_, _, rfl, rfl, rfl, stay⟩
        · rw [if_neg c3, if_neg c3]
          obtain ⟨b, hb1, hb2, hb3⟩ := C_holds t ht3 v3
          unfold f_M_add_j117
          rw [if_neg (show ¬ (1 : Int32) = 0 by decide), I3, ife (by omega) (by omega), if_neg c3, hb1, hb2, obs, obs]
          cases b with
          | true =>
            rw [gd_t (show isB (nI true.toNat) = true by decide), obs, if_neg (show ¬ nI true.toNat = 0 by decide), if_neg (show ¬ nI true.toNat = 0 by decide)]
            exact go (fun _ _ => hb3.mp rfl) (fun h => absurd h c3)
          | false =>
            rw [gd_t (show isB (nI false.toNat) = true by decide), obs, if_pos (show nI false.toNat = 0 by decide), if_pos (show nI false.toNat = 0 by decide)]
            exact ⟨_, _, rfl, rfl, rfl, stay⟩
      · rw [if_neg ced, if_neg ced]
        rw [if_neg ced] at go
        unfold f_F_add_j72 f_M_add_j63 f_M_add_j117
        rw [if_pos rfl, if_pos rfl, if_pos rfl]
        exact go (fun _ h => absurd h ced) (fun _ h => absurd h ced)
    · rw [if_neg cn, if_neg cn]
      exact ⟨_, _, rfl, rfl, rfl, stay⟩
  · rw [if_neg cd, if_pos (show d < d0 by omega)]; exact ⟨_, _, rfl, rfl, rfl, stay⟩
theorem s_add (n : Nat) (hn : 100000 < n) : H_add QSim n := by
  intro x_lastCoding x_lastBody x_column_type x_column_mostR x_column_mostD x_input_size x_input_row x_output_size x_output_row x_page_entries x_page_valued x_page_definitions x_page_repetitions x_page_valueNumbers x_page_values_ofTexts x_page_values_count x_page_values_numbers x_page_values_starts x_page_values_texts x_reader_entries x_reader_count x_reader_bodyTold x_reader_check x_reader_coding x_reader_bodySize x_reader_commons x_reader_dictionary_ofTexts x_reader_dictionary_count x_reader_dictionary_numbers x_reader_dictionary_starts x_reader_dictionary_texts x_reader_numbers x_reader_source_at x_reader_source_to x_reader_source_fault x_reader_source_widths x_reader_told_ofTexts x_reader_told_count x_reader_told_numbers x_reader_told_starts x_reader_told_texts x_spare_entries x_spare_valued x_spare_definitions x_spare_repetitions x_spare_valueNumbers x_spare_values_ofTexts x_spare_values_count x_spare_values_numbers x_spare_values_starts x_spare_values_texts x_tape_size x_tape_row x_writer_entries x_writer_levelBytes x_writer_body_size x_writer_body_row x_writer_commons x_writer_dictionary_count x_writer_dictionary_firsts x_writer_dictionary_slots x_writer_numbers x_writer_piece_size x_writer_piece_row m_code m_type m_mostR m_mostD m_entries m_values m_coding m_bodySize m_newCount m_words m_taped m_inputSize m_outSize m_at m_stop m_fault m_longCount m_body m_bytes m_common m_definitions m_from m_input m_longs m_more m_newBytes m_newDefinitions m_newFrom m_newRepetitions m_newWholes m_numbers m_out m_repetitions m_tape m_told2 m_toldBytes m_toldSize m_wholes m_wordBytes m_wordFrom m_words8 v1 v2 v3 v5 hs
  obtain ⟨t, r, d, nn, c, rp, df, num, S, T, ⟨ht3, hrd, hd16⟩, hV, hCx, hCm, hPC, hPM, hTp, hIn, hOu, hlc, hlb, hz⟩ := hs
  obtain ⟨o1, o2, h1, h2, h3, nn', c', rp', df', num', S', T', h4, h5, h6⟩ := p_add v1 v2 v3 v5 hn ht3 hrd hd16 hV hCx hCm hPC hPM hIn
  exact ⟨o1, o2, h1, h2, h3, t, r, d, nn', c', rp', df', num', S', T', ⟨ht3, hrd, hd16⟩, h4, hCx, hCm, h5, h6, hTp, hIn, hOu, hlc, hlb, hz⟩
