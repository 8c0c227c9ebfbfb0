def pTail (I : List UInt8) (e a : Nat) : Nat ⊕ (Nat × Nat × Nat) :=
  match pVar I e a with
  | .inl x => .inl x
  | .inr (a6, size) =>
    match pFix I e a6 4 with
    | .inl x => .inl x
    | .inr (a7, chk) => .inr (size, a7, chk)
def r00 : (Nat → Int64) × (Nat → Nat) × (Nat → UInt8) := (fun _ => 0, fun _ => 0, fun _ => 0)
def pTolds (I : List UInt8) (e a t c : Nat) : Nat ⊕ (Nat × (Nat → Int64) × (Nat → Nat) × (Nat → UInt8)) :=
  if c = 0 then .inr (a, r00) else
  match pTold I e a t 0 r00 with
  | .inl x => .inl x
  | .inr (a', r1) => pTold I e a' t 1 r1
def pHead2 (I : List UInt8) (e a t c : Nat) : Nat ⊕ (((Nat → Int64) × (Nat → Nat) × (Nat → UInt8)) × Nat × Nat × Nat) :=
  match pTolds I e a t c with
  | .inl x => .inl x
  | .inr (a5, r) =>
    match pTail I e a5 with
    | .inl x => .inl x
    | .inr s => .inr (r, s)
def pHead (I : List UInt8) (t : Nat) : Nat ⊕ (Nat × Nat × Nat × ((Nat → Int64) × (Nat → Nat) × (Nat → UInt8)) × Nat × Nat × Nat) :=
  match pVar I I.length 0 with
  | .inl x => .inl x
  | .inr (a1, m) => if m = 0 then .inl 3 else if 1000 < m then .inl 4 else
    match pVar I I.length a1 with
    | .inl x => .inl x
    | .inr (a2, z) => if m < z then .inl 7 else
      match pOct I I.length a2 with
      | .inl x => .inl x
      | .inr (a3, how) => if lastC t < how then .inl 7 else
        match pHead2 I I.length a3 t (m - z) with
        | .inl x => .inl x
        | .inr s => .inr (m, z, how, s)
theorem R_100F {n cap : Nat} {row : Nat → Int32} {en ct cod at' to' f tOf tc : Int32} {tn : Nat → Int64} {ts tt : Nat → Int32} (hn : 100000 < n) (hf : ¬ f = 0) :
    ∃ bt ck, f_R_takeHead_j100 n cap en ct cod at' to' f row tOf tc tn ts tt = some (en, ct, bt, ck, cod, at', to', f, tOf, tc, tn, ts, tt) := by
  unfold f_R_takeHead_j100
  rw [S_varintF (by omega) hf, obs, S_lowestFirstF hf, obs]
  exact ⟨_, _, rfl⟩
theorem R_100 {n cap e a : Nat} {I : List UInt8} {row : Nat → Int32} {en ct cod tOf tc : Int32} {tn : Nat → Int64} {ts tt : Nat → Int32} (hn : 100000 < n) (hcap : cap < 100000) (hI : I.length ≤ cap) (he : e ≤ I.length) (ha : a ≤ e) (h : HC I row) :
    (∃ x bt ck at', f_R_takeHead_j100 n cap en ct cod (nI a) (nI e) 0 row tOf tc tn ts tt = some (en, ct, bt, ck, cod, at', nI e, nI x, tOf, tc, tn, ts, tt) ∧ pTail I e a = .inl x ∧ ¬ nI x = 0) ∨
    (∃ size a7 chk, f_R_takeHead_j100 n cap en ct cod (nI a) (nI e) 0 row tOf tc tn ts tt = some (en, ct, ql64 size, (ql64 chk).toInt32, cod, nI a7, nI e, 0, tOf, tc, tn, ts, tt) ∧ pTail I e a = .inr (size, a7, chk) ∧ a7 ≤ e ∧ size < 18446744073709551616) := by
  unfold f_R_takeHead_j100 pTail
  obtain ⟨o, p1, p2⟩ := S_varint (n := n) (cap := cap) (e := e) (a := a) (I := I) (row := row) (by omega) hcap hI he ha h
  rw [p1, obs]
  cases hp : pVar I e a with
  | inl x =>
    rw [hp] at p2
    obtain ⟨q1, q2, q3⟩ := p2
    have hF : ¬ o.2.2 = 0 := by rw [q2]; exact q3
    rw [S_lowestFirstF hF, obs, q2]
    exact Or.inl ⟨x, _, _, _, rfl, rfl, q3⟩
  | inr az =>
    obtain ⟨a6, size⟩ := az
    rw [hp] at p2
    obtain ⟨q1, q2, q3⟩ := p2
    obtain ⟨v1, v2, v3⟩ := pVar_a hp
    obtain ⟨of, f1, f2⟩ := S_lowestFirst (n := n) (cap := cap) (e := e) (a := a6) (q := 4) (I := I) (row := row) (by omega) hcap hI he v2 (by omega) h
    have f1' : f_S_lowestFirst n cap (nI a6) (nI e) 0 row 4 = some of := f1
    rw [q1, q2, q3, f1', obs]
    simp only
    cases hq : pFix I e a6 4 with
    | inl x =>
      rw [hq] at f2
      obtain ⟨s1, s2, s3⟩ := f2
      rw [s2]
      exact Or.inl ⟨x, _, _, _, rfl, rfl, s3⟩
    | inr ac =>
      obtain ⟨a7, chk⟩ := ac
      have hle := pFix_a v2 hq
      rw [hq] at f2
      obtain ⟨s1, s2, s3⟩ := f2
      rw [s1, s2, s3]
      exact Or.inr ⟨size, a7, chk, rfl, rfl, hle, v3⟩
theorem R_62eq {n cap t : Nat} {row : Nat → Int32} {en ct cod at' to' f : Int32} {tn : Nat → Int64} {ts tt : Nat → Int32} (ht : t ≤ 3) : f_R_takeHead_j62 n cap 2 3 510 en ct cod (nI t) at' to' f row tn ts tt = (if ct ≤ 0 then f_R_takeHead_j100 n cap en ct cod at' to' f row (nI (if t = 3 then 1 else 0)) 0 tn ts tt else Option.bind (f_R_takeTold n cap 2 3 510 (nI t) at' to' f row 0 tn ts tt) (fun o15 => Option.bind (f_R_takeTold n cap 2 3 510 (nI t) o15.1 to' o15.2.1 row o15.2.2.1 o15.2.2.2.1 o15.2.2.2.2.1 o15.2.2.2.2.2) (fun o16 => f_R_takeHead_j100 n cap en ct cod o16.1 to' o16.2.1 row (nI (if t = 3 then 1 else 0)) o16.2.2.1 o16.2.2.2.1 o16.2.2.2.2.1 o16.2.2.2.2.2))) := by
  unfold f_R_takeHead_j62 f_R_takeHead_j82
  rw [ife3 (by omega)]
  split <;> rfl
theorem R_62F {n cap t : Nat} {row : Nat → Int32} {en ct cod at' to' f : Int32} {tn : Nat → Int64} {ts tt : Nat → Int32} (hn : 100000 < n) (ht : t ≤ 3) (hf : ¬ f = 0) (hs : ts 0 = nI 0) :
    ∃ bt ck at2 tOf tc tn' ts' tt', f_R_takeHead_j62 n cap 2 3 510 en ct cod (nI t) at' to' f row tn ts tt = some (en, ct, bt, ck, cod, at2, to', f, tOf, tc, tn', ts', tt') ∧ ts' 0 = nI 0 := by
  rw [R_62eq ht]
  by_cases c0 : ct ≤ 0
  · rw [if_pos c0]
    obtain ⟨bt, ck, h1⟩ := R_100F (n := n) (cap := cap) (row := row) (en := en) (ct := ct) (cod := cod) (at' := at') (to' := to') (f := f) (tOf := nI (if t = 3 then 1 else 0)) (tc := 0) (tn := tn) (ts := ts) (tt := tt) hn hf
    exact ⟨_, _, _, _, _, _, _, _, h1, hs⟩
  · rw [if_neg c0]
    obtain ⟨o1, y1, y2, y3, k1, k2, k3⟩ := R_takeToldF (n := n) (cap := cap) (t := t) (k := 0) (row := row) (tNum := tn) (tSt := ts) (tTx := tt) (at' := at') (to' := to') (f := f) hn ht (by omega) hf
    have y1' : f_R_takeTold n cap 2 3 510 (nI t) at' to' f row 0 tn ts tt = some o1 := y1
    rw [y1', obs]
    obtain ⟨o2, z1, z2, z3, k4, k5, k6⟩ := R_takeToldF (n := n) (cap := cap) (t := t) (k := k1) (row := row) (tNum := o1.2.2.2.1) (tSt := o1.2.2.2.2.1) (tTx := o1.2.2.2.2.2) (at' := o1.1) (to' := to') (f := o1.2.1) hn ht k2 (by rw [y2]; exact hf)
    rw [k3, z1, obs]
    obtain ⟨bt, ck, h1⟩ := R_100F (n := n) (cap := cap) (row := row) (en := en) (ct := ct) (cod := cod) (at' := o2.1) (to' := to') (f := o2.2.1) (tOf := nI (if t = 3 then 1 else 0)) (tc := o2.2.2.1) (tn := o2.2.2.2.1) (ts := o2.2.2.2.2.1) (tt := o2.2.2.2.2.2) hn (by rw [z2, y2]; exact hf)
    rw [h1, z2, y2]
    exact ⟨_, _, _, _, _, _, _, _, rfl, by rw [z3, y3]; exact hs⟩
theorem R_62 {n cap e a t c : Nat} {I : List UInt8} {row : Nat → Int32} {en cod : Int32} {tn : Nat → Int64} {ts tt : Nat → Int32} (hn : 100000 < n) (hcap : cap < 100000) (hI : I.length ≤ cap) (he : e ≤ I.length) (ha : a ≤ e) (ht : t ≤ 3) (hc : c ≤ 1000) (h : HC I row) (hs : ts 0 = nI 0) :
    (∃ x bt ck at2 tOf tc tn' ts' tt', f_R_takeHead_j62 n cap 2 3 510 en (nI c) cod (nI t) (nI a) (nI e) 0 row tn ts tt = some (en, nI c, bt, ck, cod, at2, nI e, nI x, tOf, tc, tn', ts', tt') ∧ pHead2 I e a t c = .inl x ∧ ¬ nI x = 0 ∧ ts' 0 = nI 0) ∨
    (∃ r size a7 chk tc tn' ts' tt', f_R_takeHead_j62 n cap 2 3 510 en (nI c) cod (nI t) (nI a) (nI e) 0 row tn ts tt = some (en, nI c, ql64 size, (ql64 chk).toInt32, cod, nI a7, nI e, 0, nI (if t = 3 then 1 else 0), tc, tn', ts', tt') ∧ pHead2 I e a t c = .inr (r, size, a7, chk) ∧ a7 ≤ e ∧ size < 18446744073709551616 ∧ ts' 0 = nI 0 ∧ (0 < c → (t = 3 → TxI 2 r.2.1 510) ∧ VsC t 2 r.1 r.2.1 r.2.2 (nI (if t = 3 then 1 else 0)) tc tn' ts' tt')) := by
  rw [R_62eq ht]
  unfold pHead2 pTolds
  have hle0 : (nI c ≤ 0) ↔ c = 0 := by rw [QI0, qn_le (by omega) (by omega)]; omega
  rw [qifc hle0]
  by_cases c0 : c = 0
  · rw [if_pos c0, if_pos c0]
    simp only
    rcases R_100 (n := n) (cap := cap) (e := e) (a := a) (I := I) (row := row) (en := en) (ct := nI c) (cod := cod) (tOf := nI (if t = 3 then 1 else 0)) (tc := 0) (tn := tn) (ts := ts) (tt := tt) hn hcap hI he ha h with ⟨x, bt, ck, at', h1, h2, h3⟩ | ⟨size, a7, chk, h1, h2, h3, h4⟩
    · rw [h1, h2]
      exact Or.inl ⟨x, _, _, _, _, _, _, _, _, rfl, rfl, h3, hs⟩
    · rw [h1, h2]
      exact Or.inr ⟨r00, size, a7, chk, _, _, _, _, rfl, rfl, h3, h4, hs, fun hx => absurd hx (by omega)⟩
  · rw [if_neg c0, if_neg c0]
    have hC0 : VsC t 0 r00.1 r00.2.1 r00.2.2 (nI (if t = 3 then 1 else 0)) 0 tn ts tt := ⟨rfl, rfl, fun _ i hi => absurd hi (by omega), hs, fun _ => ⟨fun i hi => by rw [show i = 0 by omega]; exact hs, fun j hj => absurd hj (Nat.not_lt_zero j)⟩⟩
    obtain ⟨o1, y1, y2, y3, y4⟩ := R_takeTold (n := n) (cap := cap) (e := e) (a := a) (t := t) (i := 0) (I := I) (row := row) (r := r00) (tOf := nI (if t = 3 then 1 else 0)) (tCnt := 0) (tNum := tn) (tSt := ts) (tTx := tt) hn hcap hI he ha ht (by omega) h (fun _ => TxI_0 _) hC0
    rw [y1, obs]
    rcases y4 with ⟨x, z1, z2, z3⟩ | ⟨a4, r1, z1, z2, z3, z4, z5, z6⟩
    · obtain ⟨k1, k2, k3⟩ := y3
      obtain ⟨o2, w1, w2, w3, k4, k5, k6⟩ := R_takeToldF (n := n) (cap := cap) (t := t) (k := k1) (row := row) (tNum := o1.2.2.2.1) (tSt := o1.2.2.2.2.1) (tTx := o1.2.2.2.2.2) (at' := o1.1) (to' := nI e) (f := o1.2.1) hn ht k2 (by rw [z2]; exact z3)
      rw [k3, w1, obs]
      obtain ⟨bt, ck, h1⟩ := R_100F (n := n) (cap := cap) (row := row) (en := en) (ct := nI c) (cod := cod) (at' := o2.1) (to' := nI e) (f := o2.2.1) (tOf := nI (if t = 3 then 1 else 0)) (tc := o2.2.2.1) (tn := o2.2.2.2.1) (ts := o2.2.2.2.2.1) (tt := o2.2.2.2.2.2) hn (by rw [w2, z2]; exact z3)
      rw [h1, w2, z2, z1]
      exact Or.inl ⟨x, _, _, _, _, _, _, _, _, rfl, rfl, z3, by rw [w3]; exact y2⟩
    · obtain ⟨o2, w1, w2, w3, w4⟩ := R_takeTold (n := n) (cap := cap) (e := e) (a := a4) (t := t) (i := 1) (I := I) (row := row) (r := r1) (tOf := nI (if t = 3 then 1 else 0)) (tCnt := o1.2.2.1) (tNum := o1.2.2.2.1) (tSt := o1.2.2.2.2.1) (tTx := o1.2.2.2.2.2) hn hcap hI he z2 ht (by omega) h z5 z6
      rw [z3, z4, w1, obs, z1]
      simp only
      rcases w4 with ⟨x, u1, u2, u3⟩ | ⟨a5, r2, u1, u2, u3, u4, u5, u6⟩
      · obtain ⟨bt, ck, h1⟩ := R_100F (n := n) (cap := cap) (row := row) (en := en) (ct := nI c) (cod := cod) (at' := o2.1) (to' := nI e) (f := o2.2.1) (tOf := nI (if t = 3 then 1 else 0)) (tc := o2.2.2.1) (tn := o2.2.2.2.1) (ts := o2.2.2.2.2.1) (tt := o2.2.2.2.2.2) hn (by rw [u2]; exact u3)
        rw [h1, u2, u1]
        exact Or.inl ⟨x, _, _, _, _, _, _, _, _, rfl, rfl, u3, w2⟩
      · rw [u3, u4, u1]
        simp only
        rcases R_100 (n := n) (cap := cap) (e := e) (a := a5) (I := I) (row := row) (en := en) (ct := nI c) (cod := cod) (tOf := nI (if t = 3 then 1 else 0)) (tc := o2.2.2.1) (tn := o2.2.2.2.1) (ts := o2.2.2.2.2.1) (tt := o2.2.2.2.2.2) hn hcap hI he u2 h with ⟨x, bt, ck, at', h1, h2, h3⟩ | ⟨size, a7, chk, h1, h2, h3, h4⟩
        · rw [h1, h2]
          exact Or.inl ⟨x, _, _, _, _, _, _, _, _, rfl, rfl, h3, w2⟩
        · rw [h1, h2]
          exact Or.inr ⟨r2, size, a7, chk, _, _, _, _, rfl, rfl, h3, h4, w2, fun _ => ⟨u5, u6⟩⟩
theorem R_entF {at' f : Int32} {v : Int64} (hf : ¬ f = 0) : f_R_takeEntries_j22 at' f v = some (0, at', f) := by
  unfold f_R_takeEntries_j22 f_R_takeEntries_j36 f_R_takeEntries_j44
  rw [S_failF _ hf, obs, if_neg hf, ite_self, ite_self]
theorem R_nonesF {n cap k : Nat} {row : Nat → Int32} {at' to' f : Int32} (hn : 100000 < n) (hf : ¬ f = 0) : f_R_takeNones n cap (nI k) at' to' f row = some (0, at', f) := by
  unfold f_R_takeNones f_R_takeNones_j24 f_R_takeNones_j33
  rw [S_varintF (by omega) hf, obs, S_failF _ hf, obs, if_neg hf, ite_self, ite_self]
theorem R_takeHead {n cap t : Nat} {I : List UInt8} {row : Nat → Int32} {tn : Nat → Int64} {ts tt : Nat → Int32} (hn : 100000 < n) (hcap : cap < 100000) (hI : I.length ≤ cap) (ht : t ≤ 3) (h : HC I row) (hs : ts 0 = nI 0) :
    (∃ x k ct bt ck cod at2 tOf tc tn' ts' tt', f_R_takeHead n cap 2 3 510 (nI t) (nI I.length) row tn ts tt = some (nI k, ct, bt, ck, cod, at2, nI I.length, nI x, tOf, tc, tn', ts', tt') ∧ pHead I t = .inl x ∧ ¬ nI x = 0 ∧ k ≤ 1000 ∧ ts' 0 = nI 0) ∨
    (∃ m z how r size a7 chk tc tn' ts' tt', f_R_takeHead n cap 2 3 510 (nI t) (nI I.length) row tn ts tt = some (nI m, nI (m - z), ql64 size, (ql64 chk).toInt32, nI how, nI a7, nI I.length, 0, nI (if t = 3 then 1 else 0), tc, tn', ts', tt') ∧ pHead I t = .inr (m, z, how, r, size, a7, chk) ∧ 1 ≤ m ∧ m ≤ 1000 ∧ z ≤ m ∧ how ≤ lastC t ∧ a7 ≤ I.length ∧ size < 18446744073709551616 ∧ ts' 0 = nI 0 ∧ (0 < m - z → (t = 3 → TxI 2 r.2.1 510) ∧ VsC t 2 r.1 r.2.1 r.2.2 (nI (if t = 3 then 1 else 0)) tc tn' ts' tt')) := by
  unfold f_R_takeHead pHead f_R_takeEntries
  have hop : f_S_open (nI I.length) = some (0, nI I.length, 0) := rfl
  have hlc : lastC t ≤ 3 := by unfold lastC; split; omega; split <;> omega
  rw [hop, obs]
  obtain ⟨o, p1, p2⟩ := S_varint (n := n) (cap := cap) (e := I.length) (a := 0) (I := I) (row := row) (by omega) hcap hI (Nat.le_refl _) (by omega) h
  have p1' : f_S_varint n cap 0 (nI I.length) 0 row = some o := p1
  rw [p1', obs, C_lastCoding ht]
  have hrest : ∀ (at' f : Int32), ¬ f = 0 → ∃ ct bt ck cod at2 tOf tc tn' ts' tt', (Option.bind (some ((0 : Int32), at', f)) (fun o18 => Option.bind (f_R_takeNones n cap o18.1 o18.2.1 (nI I.length) o18.2.2 row) (fun o19 => bnd (o18.1 - o19.1) (fun x20 => Option.bind (f_S_octet cap o19.2.1 (nI I.length) o19.2.2 row) (fun o21 => Option.bind (some (nI (lastC t))) (fun o22 => (if o21.1 ≤ o22 then f_R_takeHead_j62 n cap 2 3 510 o18.1 x20 o21.1 (nI t) o21.2.1 (nI I.length) o21.2.2 row tn ts tt else Option.bind (f_S_fail o21.2.2 (7 : Int32)) (fun o23 => f_R_takeHead_j62 n cap 2 3 510 o18.1 x20 o21.1 (nI t) o21.2.1 (nI I.length) o23 row tn ts tt)))))))) = some (nI 0, ct, bt, ck, cod, at2, nI I.length, f, tOf, tc, tn', ts', tt') ∧ ts' 0 = nI 0 := by
    intro at' f hf
    have hnon : f_R_takeNones n cap 0 at' (nI I.length) f row = some (0, at', f) := R_nonesF (k := 0) hn hf
    rw [obs, hnon, obs, bnd_eq, S_octetF hf, obs, obs, S_failF _ hf, obs, ite_self]
    obtain ⟨bt, ck, at2, tOf, tc, tn', ts', tt', h1, h2⟩ := R_62F (n := n) (cap := cap) (t := t) (row := row) (en := 0) (ct := 0 - 0) (cod := 0) (at' := at') (to' := nI I.length) (f := f) (tn := tn) (ts := ts) (tt := tt) hn ht hf hs
    exact ⟨_, bt, ck, _, at2, tOf, tc, tn', ts', tt', h1, h2⟩
  cases hp : pVar I I.length 0 with
  | inl x =>
    rw [hp] at p2
    obtain ⟨q1, q2, q3⟩ := p2
    have hF : ¬ o.2.2 = 0 := by rw [q2]; exact q3
    rw [S_failF _ hF, obs, R_entF hF, ite_self]
    obtain ⟨ct, bt, ck, cod, at2, tOf, tc, tn', ts', tt', h1, h2⟩ := hrest o.2.1 o.2.2 hF
    rw [h1, q2]
    exact Or.inl ⟨x, 0, _, _, _, _, _, _, _, _, _, _, rfl, rfl, q3, by omega, h2⟩
  | inr am =>
    obtain ⟨a1, m⟩ := am
    rw [hp] at p2
    obtain ⟨q1, q2, q3⟩ := p2
    obtain ⟨v1, v2, v3⟩ := pVar_a hp
    rw [q1, q2, q3, S_fail0, obs, R_entF (show ¬ (3 : Int32) = 0 by decide), qifc (show (ql64 m = 0) ↔ m = 0 from by rw [show (0 : Int64) = ql64 0 from rfl, l64_inj (by omega) (by omega)])]
    simp only
    by_cases m0 : m = 0
    · rw [if_pos m0, if_pos m0]
      obtain ⟨ct, bt, ck, cod, at2, tOf, tc, tn', ts', tt', h1, h2⟩ := hrest (nI a1) 3 (by decide)
      rw [h1]
      exact Or.inl ⟨3, 0, _, _, _, _, _, _, _, _, _, _, rfl, rfl, by decide, by omega, h2⟩
    · rw [if_neg m0, if_neg m0]
      unfold f_R_takeEntries_j22 f_R_takeEntries_j36 f_R_takeEntries_j44
      have i1000 : (1000 : Int64) = ql64 1000 := rfl
      rw [S_fail0, obs, if_neg (show ¬ (4 : Int32) = 0 by decide), if_pos rfl, i1000, lrange v3 (by omega)]
      by_cases m4 : 1000 < m
      · rw [if_pos m4, if_pos m4]
        obtain ⟨ct, bt, ck, cod, at2, tOf, tc, tn', ts', tt', h1, h2⟩ := hrest (nI a1) 4 (by decide)
        rw [h1]
        exact Or.inl ⟨4, 0, _, _, _, _, _, _, _, _, _, _, rfl, rfl, by decide, by omega, h2⟩
      · have em : (ql64 m).toInt32 = nI m := l64_i32 (by omega)
        rw [if_neg m4, if_neg m4, em, obs]
        have hrest2 : ∀ (at' f : Int32), ¬ f = 0 → ∃ ct bt ck cod at2 tOf tc tn' ts' tt', (Option.bind (some ((0 : Int32), at', f)) (fun o19 => bnd (nI m - o19.1) (fun x20 => Option.bind (f_S_octet cap o19.2.1 (nI I.length) o19.2.2 row) (fun o21 => Option.bind (some (nI (lastC t))) (fun o22 => (if o21.1 ≤ o22 then f_R_takeHead_j62 n cap 2 3 510 (nI m) x20 o21.1 (nI t) o21.2.1 (nI I.length) o21.2.2 row tn ts tt else Option.bind (f_S_fail o21.2.2 (7 : Int32)) (fun o23 => f_R_takeHead_j62 n cap 2 3 510 (nI m) x20 o21.1 (nI t) o21.2.1 (nI I.length) o23 row tn ts tt))))))) = some (nI m, ct, bt, ck, cod, at2, nI I.length, f, tOf, tc, tn', ts', tt') ∧ ts' 0 = nI 0 := by
          intro at' f hf
          rw [obs, bnd_eq, S_octetF hf, obs, obs, S_failF _ hf, obs, ite_self]
          obtain ⟨bt, ck, at2, tOf, tc, tn', ts', tt', h1, h2⟩ := R_62F (n := n) (cap := cap) (t := t) (row := row) (en := nI m) (ct := nI m - 0) (cod := 0) (at' := at') (to' := nI I.length) (f := f) (tn := tn) (ts := ts) (tt := tt) hn ht hf hs
          exact ⟨_, bt, ck, _, at2, tOf, tc, tn', ts', tt', h1, h2⟩
        unfold f_R_takeNones f_R_takeNones_j24
        obtain ⟨o2, p3, p4⟩ := S_varint (n := n) (cap := cap) (e := I.length) (a := a1) (I := I) (row := row) (by omega) hcap hI (Nat.le_refl _) v2 h
        rw [p3, obs]
        cases hp2 : pVar I I.length a1 with
        | inl x =>
          rw [hp2] at p4
          obtain ⟨r1, r2, r3⟩ := p4
          have hF : ¬ o2.2.2 = 0 := by rw [r2]; exact r3
          unfold f_R_takeNones_j33
          rw [S_failF _ hF, obs, if_neg hF, ite_self, ite_self]
          obtain ⟨ct, bt, ck, cod, at2, tOf, tc, tn', ts', tt', h1, h2⟩ := hrest2 o2.2.1 o2.2.2 hF
          rw [h1, r2]
          exact Or.inl ⟨x, m, _, _, _, _, _, _, _, _, _, _, rfl, rfl, r3, by omega, h2⟩
        | inr az =>
          obtain ⟨a2, z⟩ := az
          rw [hp2] at p4
          obtain ⟨r1, r2, r3⟩ := p4
          obtain ⟨v4, v5, v6⟩ := pVar_a hp2
          unfold f_R_takeNones_j33
          rw [r1, r2, r3, S_fail0, obs, if_neg (show ¬ (7 : Int32) = 0 by decide), if_pos rfl, lI64 (by omega), lrange v6 (by omega)]
          simp only
          by_cases z7 : m < z
          · rw [if_pos z7, if_pos z7]
            obtain ⟨ct, bt, ck, cod, at2, tOf, tc, tn', ts', tt', h1, h2⟩ := hrest2 (nI a2) 7 (by decide)
            rw [h1]
            exact Or.inl ⟨7, m, _, _, _, _, _, _, _, _, _, _, rfl, rfl, by decide, by omega, h2⟩
          · have ez : (ql64 z).toInt32 = nI z := l64_i32 (by omega)
            rw [if_neg z7, if_neg z7, ez, obs, bnd_eq, nI_sub (by omega)]
            unfold pOct
            by_cases ce : I.length ≤ a2
            · rw [if_pos ce, S_octet1 (by omega) (by omega), obs, obs, S_failF _ (show ¬ (1 : Int32) = 0 by decide), obs, ite_self]
              obtain ⟨bt, ck, at2, tOf, tc, tn', ts', tt', h1, h2⟩ := R_62F (n := n) (cap := cap) (t := t) (row := row) (en := nI m) (ct := nI (m - z)) (cod := 0) (at' := nI a2) (to' := nI I.length) (f := 1) (tn := tn) (ts := ts) (tt := tt) hn ht (by decide) hs
              rw [h1]
              exact Or.inl ⟨1, m, _, _, _, _, _, _, _, _, _, _, rfl, rfl, by decide, by omega, h2⟩
            · have hB := u8_lt (I.getD a2 0)
              rw [if_neg ce, S_octet0 hcap hI (Nat.le_refl _) (by omega) h, obs, obs, ifle (by omega) (by omega), S_fail0, obs]
              simp only
              by_cases c7 : lastC t < (I.getD a2 0).toNat
              · rw [if_pos c7, if_neg (by omega)]
                obtain ⟨bt, ck, at2, tOf, tc, tn', ts', tt', h1, h2⟩ := R_62F (n := n) (cap := cap) (t := t) (row := row) (en := nI m) (ct := nI (m - z)) (cod := nI (I.getD a2 0).toNat) (at' := nI (a2 + 1)) (to' := nI I.length) (f := 7) (tn := tn) (ts := ts) (tt := tt) hn ht (by decide) hs
                rw [h1]
                exact Or.inl ⟨7, m, _, _, _, _, _, _, _, _, _, _, rfl, rfl, by decide, by omega, h2⟩
              · rw [if_neg c7, if_pos (by omega)]
                rcases R_62 (n := n) (cap := cap) (e := I.length) (a := a2 + 1) (t := t) (c := m - z) (I := I) (row := row) (en := nI m) (cod := nI (I.getD a2 0).toNat) (tn := tn) (ts := ts) (tt := tt) hn hcap hI (Nat.le_refl _) (by omega) ht (by omega) h hs with ⟨x, bt, ck, at2, tOf, tc, tn', ts', tt', h1, h2, h3, h4⟩ | ⟨r, size, a7, chk, tc, tn', ts', tt', h1, h2, h3, h4, h5, h6⟩
                · rw [h1, h2]
                  exact Or.inl ⟨x, m, _, _, _, _, _, _, _, _, _, _, rfl, rfl, h3, by omega, h4⟩
                · rw [h1, h2]
                  exact Or.inr ⟨m, z, _, r, size, a7, chk, _, _, _, _, rfl, rfl, by omega, by omega, by omega, by omega, h3, h4, h5, h6⟩
