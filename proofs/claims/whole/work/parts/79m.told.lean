def pTv (I : List UInt8) (e a t : Nat) : Nat ⊕ (Nat × Int64) :=
  if t = 0 then (match pOct I e a with | .inl x => .inl x | .inr (a', b) => .inr (a', ql64 b)) else (match pVar I e a with | .inl x => .inl x | .inr (a', z) => .inr (a', uz (ql64 z)))
def pTold (I : List UInt8) (e a t i : Nat) (r : (Nat → Int64) × (Nat → Nat) × (Nat → UInt8)) : Nat ⊕ (Nat × (Nat → Int64) × (Nat → Nat) × (Nat → UInt8)) :=
  if t = 3 then (match pVar I e a with
    | .inl x => .inl x
    | .inr (a1, v) => match pText I e 510 a1 i r.2.1 r.2.2 0 v with
      | .inl x => .inl x
      | .inr (a', S', T') => .inr (a', r.1, S', T'))
  else (match pTv I e a t with
    | .inl x => .inl x
    | .inr (a', v) => if holdsD t v then .inr (a', (fun j => if j = i then v else r.1 j), r.2.1, r.2.2) else .inl 7)
theorem R_takeTextF2 {cap k : Nat} {row : Nat → Int32} {starts texts : Nat → Int32} {at' to' f : Int32} (hf : ¬ f = 0) (hk : k ≤ 2) : f_R_takeText cap 2 3 510 at' to' f row (nI k) starts texts 0 0 = some (at', f, nI k, starts, texts) := by
  have hl : ∃ x, f_V_lastSize 3 (nI k) starts = some x := by
    unfold f_V_lastSize
    rw [ife0 (by omega)]
    by_cases c0 : k = 0
    · rw [if_pos c0]; exact ⟨_, rfl⟩
    · have e1 : nI k - 1 = nI (k - 1) := nI_sub (show 1 ≤ k by omega)
      rw [if_neg c0, e1, gd_nI (by omega) (by omega), gd_nI (by omega) (by omega)]
      exact ⟨_, rfl⟩
  obtain ⟨x, hx⟩ := hl
  unfold f_R_takeText f_R_takeText_j38 f_R_takeText_j39
  rw [hx, obs, S_failF _ hf, obs, S_thereF _ hf, obs, if_neg (show ¬ (1 : Int32) = 0 by decide), if_pos rfl, if_pos rfl, ite_self, ite_self, ite_self, ite_self]
theorem R_number2 {t c : Nat} {ofTexts cnt : Int32} {numbers f : Nat → Int64} {starts texts : Nat → Int32} {S : Nat → Nat} {T : Nat → UInt8} (v : Int64) (ht : t ≤ 2) (hc : c < 2) (hv : f c = v) (hC : VsC t c f S T ofTexts cnt numbers starts texts) :
    f_R_takeNumber 2 (nI t) 0 cnt numbers v = some ((if holdsD t v then 0 else 7), nI (c + 1), vp_updL numbers c v) ∧ VsC t (c + 1) f S T ofTexts (nI (c + 1)) (vp_updL numbers c v) starts texts := by
  obtain ⟨c1, c2, c3, c4, c5⟩ := hC
  constructor
  · obtain ⟨b, b1, b2, b3⟩ := C_holds t (by omega) v
    unfold f_R_takeNumber f_R_takeNumber_j20
    rw [b1, obs, c2, V_addNumber _ hc (by omega), obs, S_fail0, obs, obs]
    cases b with
    | false =>
      have hn : ¬ holdsD t v := fun hh => by have := b3.mpr hh; cases this
      rw [if_neg hn, if_pos (show nI (false.toNat) = 0 from rfl)]
    | true =>
      rw [if_pos (show holdsD t v from b3.mp rfl), if_neg (show ¬ nI (true.toNat) = 0 by decide)]
  · refine ⟨c1, rfl, fun h3 i hi => ?_, c4, fun h3 => absurd h3 (by omega)⟩
    unfold vp_updL
    by_cases ei : i = c
    · rw [if_pos ei, ei, hv]
    · rw [if_neg ei]; exact c3 h3 i (by omega)
theorem R_numberF {t k : Nat} {f : Int32} {numbers : Nat → Int64} (v : Int64) (ht : t ≤ 3) (hk : k ≤ 2) (hf : ¬ f = 0) : ∃ o, f_R_takeNumber 2 (nI t) f (nI k) numbers v = some o ∧ o.1 = f ∧ ∃ k', k' ≤ 2 ∧ o.2.1 = nI k' := by
  obtain ⟨b, b1, b2, b3⟩ := C_holds t ht v
  have hadd : ∃ x k' nu, f_V_addNumber 2 (nI k) numbers v = some (x, nI k', nu) ∧ k' ≤ 2 := by
    unfold f_V_addNumber
    rw [ifl (by omega) (by omega)]
    by_cases c : k < 2
    · have e1 : nI k + 1 = nI (k + 1) := qn_add k 1
      rw [if_pos c, gd_nI (by omega) (by omega), bnd_eq, e1]
      exact ⟨_, _, _, rfl, by omega⟩
    · rw [if_neg c]; exact ⟨_, _, _, rfl, hk⟩
  obtain ⟨x, k', nu, h1, h2⟩ := hadd
  unfold f_R_takeNumber f_R_takeNumber_j20
  rw [b1, obs, S_failF _ hf, obs, h1, obs, ite_self]
  exact ⟨_, rfl, rfl, k', h2, rfl⟩
theorem R_takeToldF {n cap t k : Nat} {row : Nat → Int32} {tNum : Nat → Int64} {tSt tTx : Nat → Int32} {at' to' f : Int32} (hn : 100000 < n) (ht : t ≤ 3) (hk : k ≤ 2) (hf : ¬ f = 0) :
    ∃ o, f_R_takeTold n cap 2 3 510 (nI t) at' to' f row (nI k) tNum tSt tTx = some o ∧ o.2.1 = f ∧ o.2.2.2.2.1 = tSt ∧ ∃ k', k' ≤ 2 ∧ o.2.2.1 = nI k' := by
  unfold f_R_takeTold f_R_takeTold_j59
  rw [S_varintF (by omega) hf, S_octetF hf, obs, obs, obs, R_takeTextF2 hf hk, obs, F_unzigzag, obs, ife3 (by omega), ife0 (by omega)]
  by_cases t3 : t = 3
  · rw [if_pos t3]; exact ⟨_, rfl, rfl, rfl, k, hk, rfl⟩
  · rw [if_neg t3]
    by_cases t0 : t = 0
    · obtain ⟨o, h1, h2, h3⟩ := R_numberF (numbers := tNum) (f := f) (0 : Int32).toInt64 ht hk hf
      rw [if_pos t0, h1, obs]
      exact ⟨_, rfl, h2, rfl, h3⟩
    · obtain ⟨o, h1, h2, h3⟩ := R_numberF (numbers := tNum) (f := f) (uz 0) ht hk hf
      rw [if_neg t0, h1, obs]
      exact ⟨_, rfl, h2, rfl, h3⟩
theorem R_takeTold {n cap e a t i : Nat} {I : List UInt8} {row : Nat → Int32} {r : (Nat → Int64) × (Nat → Nat) × (Nat → UInt8)} {tOf tCnt : Int32} {tNum : Nat → Int64} {tSt tTx : Nat → Int32}
    (hn : 100000 < n) (hcap : cap < 100000) (hI : I.length ≤ cap) (he : e ≤ I.length) (ha : a ≤ e) (ht : t ≤ 3) (hi : i < 2) (h : HC I row) (hS : t = 3 → TxI i r.2.1 510) (hC : VsC t i r.1 r.2.1 r.2.2 tOf tCnt tNum tSt tTx) :
    ∃ o, f_R_takeTold n cap 2 3 510 (nI t) (nI a) (nI e) 0 row tCnt tNum tSt tTx = some o ∧ o.2.2.2.2.1 0 = nI 0 ∧ (∃ k', k' ≤ 2 ∧ o.2.2.1 = nI k') ∧
      ((∃ x, pTold I e a t i r = .inl x ∧ o.2.1 = nI x ∧ ¬ nI x = 0) ∨ (∃ a' r', pTold I e a t i r = .inr (a', r') ∧ a' ≤ e ∧ o.1 = nI a' ∧ o.2.1 = 0 ∧ (t = 3 → TxI (i + 1) r'.2.1 510) ∧ VsC t (i + 1) r'.1 r'.2.1 r'.2.2 tOf o.2.2.1 o.2.2.2.1 o.2.2.2.2.1 o.2.2.2.2.2)) := by
  have hs0 := hC.2.2.2.1
  have hcnt := hC.2.1
  unfold f_R_takeTold f_R_takeTold_j59 pTold
  rw [ife3 (by omega), ife0 (by omega)]
  by_cases t3 : t = 3
  · rw [if_pos t3, if_pos t3]
    subst t3
    obtain ⟨o, p1, p2⟩ := S_varint (n := n) (cap := cap) (e := e) (a := a) (I := I) (row := row) (by omega) hcap hI he ha h
    rw [p1, obs]
    cases hp : pVar I e a with
    | inl x =>
      rw [hp] at p2
      obtain ⟨q1, q2, q3⟩ := p2
      have hF : ¬ o.2.2 = 0 := by rw [q2]; exact q3
      rw [q1, hcnt, R_takeTextF2 hF (by omega), obs]
      exact ⟨_, rfl, hs0, ⟨i, by omega, rfl⟩, Or.inl ⟨x, rfl, q2, q3⟩⟩
    | inr av =>
      obtain ⟨a1, v⟩ := av
      rw [hp] at p2
      obtain ⟨q1, q2, q3⟩ := p2
      obtain ⟨v1, v2, v3⟩ := pVar_a hp
      obtain ⟨ot, t1, t2, t2', t3⟩ := R_takeText (cap := cap) (nm := 2) (sn := 3) (tn := 510) (e := e) (a := a1) (c := i) (cm := 0) (mo := v) (I := I) (row := row) (num := r.1) (S := r.2.1) (T := r.2.2) (ofTexts := tOf) (count := tCnt) (numbers := tNum) (starts := tSt) (texts := tTx) hcap hI he v2 (by omega) (by omega) (by omega) (by omega) (by omega) v3 hC (hS rfl) h
      have t1' : f_R_takeText cap 2 3 510 (nI a1) (nI e) 0 row tCnt tSt tTx 0 (ql64 v) = some ot := t1
      obtain ⟨k', k1, k2⟩ := t2'
      rw [q1, q2, q3, t1', obs]
      simp only
      rcases t3 with ⟨x, t3, t4, t5⟩ | ⟨a', S', T', t3, t4, t5, t6, t7, t8⟩
      · rw [t3]
        exact ⟨_, rfl, t2, ⟨k', by omega, k2⟩, Or.inl ⟨x, rfl, t4, t5⟩⟩
      · rw [t3]
        exact ⟨_, rfl, t2, ⟨k', by omega, k2⟩, Or.inr ⟨a', _, rfl, t4, t5, t6, fun _ => t7, t8⟩⟩
  · rw [if_neg t3, if_neg t3]
    have hfin : ∀ (a' : Nat) (v : Int64), a' ≤ e → ∃ o, Option.bind (f_R_takeNumber 2 (nI t) 0 tCnt tNum v) (fun o7 => some (nI a', o7.1, o7.2.1, o7.2.2, tSt, tTx)) = some o ∧ o.2.2.2.2.1 0 = nI 0 ∧ (∃ k', k' ≤ 2 ∧ o.2.2.1 = nI k') ∧
        ((∃ x, (if holdsD t v then .inr (a', (fun j => if j = i then v else r.1 j), r.2.1, r.2.2) else .inl 7) = (Sum.inl x : Nat ⊕ (Nat × (Nat → Int64) × (Nat → Nat) × (Nat → UInt8))) ∧ o.2.1 = nI x ∧ ¬ nI x = 0) ∨ (∃ a'' r', (if holdsD t v then .inr (a', (fun j => if j = i then v else r.1 j), r.2.1, r.2.2) else .inl 7) = (Sum.inr (a'', r') : Nat ⊕ (Nat × (Nat → Int64) × (Nat → Nat) × (Nat → UInt8))) ∧ a'' ≤ e ∧ o.1 = nI a'' ∧ o.2.1 = 0 ∧ (t = 3 → TxI (i + 1) r'.2.1 510) ∧ VsC t (i + 1) r'.1 r'.2.1 r'.2.2 tOf o.2.2.1 o.2.2.2.1 o.2.2.2.2.1 o.2.2.2.2.2)) := by
      intro a' v ha'
      have hC2 : VsC t i (fun j => if j = i then v else r.1 j) r.2.1 r.2.2 tOf tCnt tNum tSt tTx := VsC_mono hC (fun j hj => by rw [if_neg (by omega)]) (fun _ _ => rfl) (fun _ _ => rfl)
      obtain ⟨y1, y2⟩ := R_number2 v (by omega) hi (by rw [if_pos rfl]) hC2
      rw [y1, obs]
      by_cases hh : holdsD t v
      · rw [if_pos hh, if_pos hh]
        exact ⟨_, rfl, hs0, ⟨i + 1, by omega, rfl⟩, Or.inr ⟨a', _, rfl, ha', rfl, rfl, fun h3 => absurd h3 t3, y2⟩⟩
      · rw [if_neg hh, if_neg hh]
        exact ⟨_, rfl, hs0, ⟨i + 1, by omega, rfl⟩, Or.inl ⟨7, rfl, rfl, by decide⟩⟩
    unfold pTv
    by_cases t0 : t = 0
    · rw [if_pos t0, if_pos t0]
      unfold pOct
      by_cases ce : e ≤ a
      · rw [if_pos ce, S_octet1 (by omega) (by omega), obs]
        obtain ⟨o, h1, h2, k', k1, k2⟩ := R_numberF (numbers := tNum) (f := 1) (0 : Int32).toInt64 ht (show i ≤ 2 by omega) (by decide)
        rw [hcnt, h1, obs]
        exact ⟨_, rfl, hs0, ⟨k', k1, k2⟩, Or.inl ⟨1, rfl, h2, by decide⟩⟩
      · have hB := u8_lt (I.getD a 0)
        rw [if_neg ce, S_octet0 hcap hI he (by omega) h, obs]
        simp only
        rw [lI64 (by omega)]
        exact hfin (a + 1) _ (by omega)
    · rw [if_neg t0, if_neg t0]
      obtain ⟨o, p1, p2⟩ := S_varint (n := n) (cap := cap) (e := e) (a := a) (I := I) (row := row) (by omega) hcap hI he ha h
      rw [p1, obs, F_unzigzag, obs]
      cases hp : pVar I e a with
      | inl x =>
        rw [hp] at p2
        obtain ⟨q1, q2, q3⟩ := p2
        have hF : ¬ o.2.2 = 0 := by rw [q2]; exact q3
        obtain ⟨on, h1, h2, k', k1, k2⟩ := R_numberF (numbers := tNum) (f := o.2.2) (uz o.1) ht (show i ≤ 2 by omega) hF
        rw [hcnt, h1, obs]
        exact ⟨_, rfl, hs0, ⟨k', k1, k2⟩, Or.inl ⟨x, rfl, h2.trans q2, q3⟩⟩
      | inr av =>
        obtain ⟨a1, v⟩ := av
        rw [hp] at p2
        obtain ⟨q1, q2, q3⟩ := p2
        obtain ⟨v1, v2, v3⟩ := pVar_a hp
        rw [q1, q2, q3]
        exact hfin a1 _ v2
theorem M_readTold {n cap e a t i : Nat} {I : List UInt8} {inp : Nat → Int32} {r : (Nat → Int64) × (Nat → Nat) × (Nat → UInt8)} {told2 : Nat → Int64} {toldBytes toldSize : Nat → Int32}
    (hn : 100000 < n) (hcap : cap < 100000) (hI : I.length ≤ cap) (he : e ≤ I.length) (ha : a ≤ e) (ht : t ≤ 3) (hi : i < 2) (h : QHM I inp) (hS : t = 3 → TxI i r.2.1 510) (hT : MT t i r.1 r.2.1 r.2.2 told2 toldBytes toldSize) :
    ∃ o, f_M_readTold n cap 2 512 2 (nI t) (nI a) (nI e) 0 inp told2 toldBytes toldSize (nI i) = some o ∧
      ((∃ x, pTold I e a t i r = .inl x ∧ o.2.1 = nI x ∧ ¬ nI x = 0) ∨ (∃ a' r', pTold I e a t i r = .inr (a', r') ∧ a' ≤ e ∧ o.1 = nI a' ∧ o.2.1 = 0 ∧ (t = 3 → TxI (i + 1) r'.2.1 510) ∧ MT t (i + 1) r'.1 r'.2.1 r'.2.2 o.2.2.1 o.2.2.2.1 o.2.2.2.2)) := by
  unfold f_M_readTold pTold
  have g0 : ∀ {α : Type} {t : Option α}, gd (inB (nI i) 2) t = t := fun {α t} => gd_nI (by omega) (by omega)
  have hcl : (nI i).toNatClampNeg = i := qn_clamp (by omega)
  have hupd : ∀ v : Int64, vp_updL told2 i v i = v := by intro v; unfold vp_updL; rw [if_pos rfl]
  rw [ife0 (by omega), ife3 (by omega)]
  have hMT : ∀ v : Int64, t ≠ 3 → MT t (i + 1) (fun j => if j = i then v else r.1 j) r.2.1 r.2.2 (vp_updL told2 i v) toldBytes toldSize := by
    intro v h3
    refine ⟨fun _ j hj => ?_, fun h => absurd h h3⟩
    show vp_updL told2 i v j = if j = i then v else r.1 j
    unfold vp_updL
    by_cases ej : j = i
    · rw [if_pos ej, if_pos ej]
    · rw [if_neg ej, if_neg ej]; exact hT.1 h3 j (by omega)
  by_cases t3 : t = 3
  · rw [if_neg (show ¬ t = 0 by omega), if_pos t3, if_pos t3]
    obtain ⟨o, p1, p2⟩ := M_varint (n := n) (cap := cap) (e := e) (a := a) (I := I) (inp := inp) (by omega) hcap hI he ha h
    rw [p1, obs]
    unfold f_M_readTold_j133 f_M_readTold_j139 f_M_readTold_j166
    cases hp : pVar I e a with
    | inl x =>
      rw [hp] at p2
      obtain ⟨q1, q2, q3⟩ := p2
      have hF : ¬ o.2.2 = 0 := by rw [q2]; exact q3
      rw [if_neg hF, if_neg hF, if_neg hF]
      exact ⟨_, rfl, Or.inl ⟨x, rfl, q2, q3⟩⟩
    | inr av =>
      obtain ⟨a1, v⟩ := av
      rw [hp] at p2
      obtain ⟨q1, q2, q3⟩ := p2
      obtain ⟨v1, v2, v3⟩ := pVar_a hp
      have e255 : (255 : Int64) = ql64 255 := rfl
      have z7 : ¬ (7 : Int32) = 0 := by decide
      have z1 : ¬ (1 : Int32) = 0 := by decide
      rw [q1, q2, q3, if_pos rfl, e255, lrange v3 (by omega), if_neg z7, if_neg z7, if_pos rfl]
      simp only
      rw [pText_plain]
      by_cases c7 : 255 < v
      · rw [if_pos c7, if_pos c7]
        exact ⟨_, rfl, Or.inl ⟨7, rfl, rfl, by decide⟩⟩
      · have hsi := (hS t3).2.2
        have hs0 : r.2.1 i ≤ 255 := by
          obtain ⟨u1, u2, u3⟩ := hS t3
          by_cases i0 : i = 0
          · rw [i0, u1]; omega
          · have := u2 0 (by omega)
            have e1 : i = 1 := by omega
            have h1 : r.2.1 1 ≤ r.2.1 0 + 255 := this.2
            rw [e1]; rw [u1] at h1; omega
        rw [if_neg c7, if_neg c7, nI_sub v2, lI64 (by omega), qifc (show (ql64 v ≤ ql64 (e - a1)) ↔ v ≤ e - a1 from by rw [l64_le (by omega) (by omega)]), if_neg z1]
        unfold pTake
        by_cases c1 : e - a1 < v
        · rw [if_pos c1, if_neg (by omega)]
          exact ⟨_, rfl, Or.inl ⟨1, rfl, rfl, by decide⟩⟩
        · have ev : (ql64 v).toInt32 = nI v := l64_i32 (by omega)
          rw [if_neg c1, if_pos (by omega), if_neg (show ¬ 510 < r.2.1 i + 0 + v by omega), if_pos trivial, g0, hcl, ev]
          have e256 : (256 : Int32) * nI i = nI (256 * i) := nI_mul 256 i
          have l1 : ∃ o, lp (fun u => f_M_readTold_l185 cap 512 (nI a1) inp (nI i) (ql64 v) u.1 u.2) n (toldBytes, (0 : Int32)) = some o ∧ (∀ j, j < 256 * i → o.1 j = toldBytes j) ∧ ∀ k, k < v → o.1 (256 * i + k) = um (I.getD (a1 + k) 0) := by
            refine lp_inv (fun q u => ∃ k, k + q = v ∧ u.2 = nI k ∧ (∀ j, j < 256 * i → u.1 j = toldBytes j) ∧ ∀ x, x < k → u.1 (256 * i + x) = um (I.getD (a1 + x) 0)) _ ?_ v n _ ⟨0, by omega, rfl, fun _ _ => rfl, fun x hx => absurd hx (by omega)⟩ (by omega)
            rintro q ⟨b, k'⟩ ⟨k, g1, g2, g3, g4⟩
            simp only at g2 g3 g4
            subst g2
            show (∃ w', f_M_readTold_l185 cap 512 (nI a1) inp (nI i) (ql64 v) b (nI k) = _ ∧ _) ∨ (∃ y, f_M_readTold_l185 cap 512 (nI a1) inp (nI i) (ql64 v) b (nI k) = _ ∧ _)
            unfold f_M_readTold_l185
            rw [lI64 (show k < 2147483648 by omega), qifc (show (ql64 v ≤ ql64 k) ↔ v ≤ k from by rw [l64_le (by omega) (by omega)])]
            by_cases ck : v ≤ k
            · have : k = v := by omega
              subst this
              rw [if_pos ck]
              exact Or.inr ⟨_, rfl, g3, g4⟩
            · have e1 : nI k + 1 = nI (k + 1) := qn_add k 1
              rw [if_neg ck, qn_add, gd_nI (by omega) (by omega), bnd_eq, e256, qn_add, gd_nI (by omega) (by omega), bnd_eq, qn_clamp (by omega), qn_clamp (by omega), e1, h (a1 + k) (by omega)]
              refine Or.inl ⟨_, rfl, q - 1, by omega, k + 1, by omega, rfl, ?_, ?_⟩
              · intro j hj
                show upd b (256 * i + k) _ j = _
                unfold upd; rw [if_neg (by omega)]; exact g3 j hj
              · intro x hx
                show upd b (256 * i + k) (um I[a1 + k]) (256 * i + x) = _
                unfold upd
                by_cases ex : x = k
                · rw [if_pos (by omega), ex, List.getD_eq_getElem?_getD, List.getElem?_eq_getElem (show a1 + k < I.length by omega)]; rfl
                · rw [if_neg (by omega)]; exact g4 x (by omega)
          obtain ⟨ol, l2, l3, l4⟩ := l1
          rw [l2, obs]
          unfold f_M_readTold_j224
          rw [bnd_eq, ev, qn_add]
          refine ⟨_, rfl, Or.inr ⟨_, _, rfl, by omega, rfl, rfl, fun _ => TxI_step (hS t3) (show 0 + v ≤ 255 by omega) (by omega), fun h0 => absurd t3 h0, fun _ j hj => ?_⟩⟩
          show upd toldSize i (nI v) j = nI (tS r.2.1 i (0 + v) (j + 1) - tS r.2.1 i (0 + v) j) ∧ ∀ k, k < tS r.2.1 i (0 + v) (j + 1) - tS r.2.1 i (0 + v) j → ol.1 (256 * j + k) = um (tT I r.2.1 r.2.2 i a1 0 (tS r.2.1 i (0 + v) j + k))
          by_cases ej : j = i
          · subst ej
            have s1 : tS r.2.1 j (0 + v) (j + 1) = r.2.1 j + (0 + v) := by unfold tS; rw [if_neg (by omega)]
            have s2 : tS r.2.1 j (0 + v) j = r.2.1 j := by unfold tS; rw [if_pos (by omega)]
            rw [s1, s2]
            refine ⟨?_, fun k hk => ?_⟩
            · unfold upd; rw [if_pos rfl]; congr 1; omega
            · rw [l4 k (by omega)]
              unfold tT
              rw [if_neg (by omega), if_neg (by omega), show a1 + (r.2.1 j + k - r.2.1 j - 0) = a1 + k by omega]
          · have s1 : tS r.2.1 i (0 + v) (j + 1) = r.2.1 (j + 1) := by unfold tS; rw [if_pos (by omega)]
            have s2 : tS r.2.1 i (0 + v) j = r.2.1 j := by unfold tS; rw [if_pos (by omega)]
            obtain ⟨m1, m2⟩ := hT.2 t3 j (by omega)
            have hmon := S_mono (fun x hx => ((hS t3).2.1 x hx).1) (i := j + 1) (j := i) (by omega) (by omega)
            have hm2 := (hS t3).2.1 j (by omega)
            rw [s1, s2]
            refine ⟨?_, fun k hk => ?_⟩
            · unfold upd; rw [if_neg ej]; exact m1
            · rw [l3 (256 * j + k) (by omega), m2 k hk]
              unfold tT
              rw [if_pos (by omega)]
  · rw [if_neg t3, if_neg t3]
    unfold pTv
    by_cases t0 : t = 0
    · rw [if_pos t0, if_pos t0]
      obtain ⟨of, f1, f2⟩ := M_fixed (n := n) (cap := cap) (e := e) (a := a) (q := 1) (I := I) (inp := inp) (by omega) hcap hI he ha (by omega) h
      have f1' : f_M_fixed n cap (nI a) 0 inp 1 (nI e) = some of := f1
      rw [pFix_oct] at f2
      rw [f1', obs, g0, g0, hcl, hupd]
      unfold pOct at f2 ⊢
      by_cases ce : e ≤ a
      · rw [if_pos ce] at f2 ⊢
        obtain ⟨s1, s2, s3⟩ := f2
        rw [if_neg (by rw [s2]; exact s3)]
        exact ⟨_, rfl, Or.inl ⟨1, rfl, s2, s3⟩⟩
      · rw [if_neg ce] at f2 ⊢
        obtain ⟨s1, s2, s3⟩ := f2
        have hB := u8_lt (I.getD a 0)
        have i1 : (1 : Int64) = ql64 1 := rfl
        rw [s1, s2, s3, if_pos rfl, i1, qifc (show (ql64 (I.getD a 0).toNat ≤ ql64 1) ↔ (I.getD a 0).toNat ≤ 1 from by rw [l64_le (by omega) (by omega)])]
        simp only
        have hh : holdsD t (ql64 (I.getD a 0).toNat) ↔ (I.getD a 0).toNat ≤ 1 := by
          constructor
          · intro hx
            have := hx.1 t0
            rw [lv_l64 (by omega)] at this; exact this
          · intro hx
            exact ⟨fun _ => by rw [lv_l64 (by omega)]; exact hx, fun h1 => absurd h1 (by omega)⟩
        by_cases hb : (I.getD a 0).toNat ≤ 1
        · rw [if_pos hb, if_pos (hh.mpr hb)]
          exact ⟨_, rfl, Or.inr ⟨a + 1, _, rfl, by omega, rfl, rfl, fun h3 => absurd h3 t3, hMT _ t3⟩⟩
        · rw [if_neg hb, if_neg (fun hx => hb (hh.mp hx))]
          exact ⟨_, rfl, Or.inl ⟨7, rfl, rfl, by decide⟩⟩
    · rw [if_neg t0, if_neg t0]
      obtain ⟨o, p1, p2⟩ := M_varint (n := n) (cap := cap) (e := e) (a := a) (I := I) (inp := inp) (by omega) hcap hI he ha h
      rw [p1, obs, M_unzigzag, obs, g0, g0, hcl, hupd]
      cases hp : pVar I e a with
      | inl x =>
        rw [hp] at p2
        obtain ⟨q1, q2, q3⟩ := p2
        rw [if_neg (by rw [q2]; exact q3)]
        exact ⟨_, rfl, Or.inl ⟨x, rfl, q2, q3⟩⟩
      | inr av =>
        obtain ⟨a1, v⟩ := av
        rw [hp] at p2
        obtain ⟨q1, q2, q3⟩ := p2
        obtain ⟨v1, v2, v3⟩ := pVar_a hp
        obtain ⟨b, b1, b2, b3⟩ := C_holds t ht (uz (ql64 v))
        rw [q1, q2, q3, if_pos rfl, b2, obs]
        simp only
        cases b with
        | false =>
          have hn' : ¬ holdsD t (uz (ql64 v)) := fun hh => by have := b3.mpr hh; cases this
          rw [if_pos (show nI (false.toNat) = 0 from rfl), if_neg hn']
          exact ⟨_, rfl, Or.inl ⟨7, rfl, rfl, by decide⟩⟩
        | true =>
          rw [if_neg (show ¬ nI (true.toNat) = 0 by decide), if_pos (show holdsD t (uz (ql64 v)) from b3.mp rfl)]
          exact ⟨_, rfl, Or.inr ⟨a1, _, rfl, v2, rfl, rfl, fun h3 => absurd h3 t3, hMT _ t3⟩⟩
