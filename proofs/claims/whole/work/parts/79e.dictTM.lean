theorem M_pick1 {n d i x : Nat} {S S1 : Nat → Nat} {T T1 : Nat → UInt8} {cnt v5 : Int32} {num wholes : Nat → Int64} {nb nf wb wf : Nat → Int32}
    (hn : 100000 < n) (hi : i < 1000) (hd : d ≤ 1000) (hx : x < d) (hwf : ∀ k, k ≤ d → wf k = nI (S k)) (hwb : ∀ j, j < S d → wb j = um (T j)) (hDS : TxI d S 20000) (hC : VsM 3 i num S1 T1 cnt wholes nf nb) (hS1 : TxI i S1 20000) :
    (20000 < S1 i + (S (x + 1) - S x) → f_M_readDictionary_j288 n 20000 1001 20000 1001 cnt nb nf wb wf v5 (nI x) 1 = some (Sum.inr (Sum.inl (cnt, nb, nf, v5)))) ∧
    (¬ 20000 < S1 i + (S (x + 1) - S x) → ∃ nb' nf', f_M_readDictionary_j288 n 20000 1001 20000 1001 cnt nb nf wb wf v5 (nI x) 1 = some (Sum.inl (nI (i + 1), nb', nf', v5 + 1)) ∧ VsM 3 (i + 1) num (tS S1 i (S (x + 1) - S x)) (fun j => if j < S1 i then T1 j else T (S x + (j - S1 i))) (nI (i + 1)) wholes nf' nb') := by
  obtain ⟨l1, l2⟩ := hDS.2.1 x hx
  have hmono : S (x + 1) ≤ S d := S_mono (fun j hj => (hDS.2.1 j hj).1) (by omega) (by omega)
  have hSd := hDS.2.2
  have hS1i := hS1.2.2
  obtain ⟨c1, c2, c3, c4⟩ := hC
  obtain ⟨c5, c6⟩ := c4 rfl
  subst c1
  have e1 : nI x + 1 = nI (x + 1) := qn_add x 1
  have e20 : (20000 : Int32) = nI 20000 := rfl
  have hj : f_M_readDictionary_j288 n 20000 1001 20000 1001 (nI i) nb nf wb wf v5 (nI x) 1 = (if S1 i + (S (x + 1) - S x) ≤ 20000 then Option.bind (lp (fun v => f_M_readDictionary_l351 20000 1001 20000 1001 (nI i) nf wb wf (nI x) (nI (S (x + 1) - S x)) v.1 v.2) n (nb, (0 : Int32))) (fun o => f_M_readDictionary_j396 1001 (nI i) o.1 nf v5 (nI (S (x + 1) - S x))) else some (Sum.inr (Sum.inl (nI i, nb, nf, v5)))) := by
    unfold f_M_readDictionary_j288 f_M_readDictionary_j316
    rw [if_neg (show ¬ (1 : Int32) = 0 by decide), if_neg (show ¬ (1 : Int32) = 0 by decide), e1, gd_nI (by omega) (by omega), gd_nI (by omega) (by omega), gd_nI (by omega) (by omega), qn_clamp (by omega), qn_clamp (by omega), qn_clamp (by omega), hwf _ (by omega), hwf _ (by omega), nI_sub l1, c5 i (by omega), qn_add, e20, ifle (by omega) (by omega)]
  rw [hj]
  constructor
  · intro h7
    rw [if_neg (by omega)]
  · intro h7
    rw [if_pos (by omega)]
    have l1' : ∃ o, lp (fun v => f_M_readDictionary_l351 20000 1001 20000 1001 (nI i) nf wb wf (nI x) (nI (S (x + 1) - S x)) v.1 v.2) n (nb, (0 : Int32)) = some o ∧ ∀ j, j < S1 i + (S (x + 1) - S x) → o.1 j = um (if j < S1 i then T1 j else T (S x + (j - S1 i))) := by
      refine lp_inv (fun q u => ∃ k, k + q = S (x + 1) - S x ∧ u.2 = nI k ∧ ∀ j, j < S1 i + k → u.1 j = um (if j < S1 i then T1 j else T (S x + (j - S1 i)))) _ ?_ (S (x + 1) - S x) n _ ⟨0, by omega, rfl, fun j hj => by rw [if_pos (by omega)]; exact c6 j (by omega)⟩ (by omega)
      rintro q ⟨b, k'⟩ ⟨k, g1, g2, g3⟩
      simp only at g2 g3
      subst g2
      show (∃ w', f_M_readDictionary_l351 20000 1001 20000 1001 (nI i) nf wb wf (nI x) (nI (S (x + 1) - S x)) b (nI k) = _ ∧ _) ∨ (∃ y, f_M_readDictionary_l351 20000 1001 20000 1001 (nI i) nf wb wf (nI x) (nI (S (x + 1) - S x)) b (nI k) = _ ∧ _)
      unfold f_M_readDictionary_l351
      rw [ifle (by omega) (by omega)]
      by_cases ck : S (x + 1) - S x ≤ k
      · have : k = S (x + 1) - S x := by omega
        rw [if_pos ck]
        exact Or.inr ⟨_, rfl, fun j hj => g3 j (by omega)⟩
      · have ek : nI k + 1 = nI (k + 1) := qn_add k 1
        rw [if_neg ck, gd_nI (by omega) (by omega), gd_nI (by omega) (by omega), qn_clamp (by omega), qn_clamp (by omega), hwf _ (by omega), c5 i (by omega), qn_add, qn_add, gd_nI (by omega) (by omega), bnd_eq, gd_nI (by omega) (by omega), bnd_eq, qn_clamp (by omega), qn_clamp (by omega), ek, hwb _ (by omega)]
        refine Or.inl ⟨_, rfl, q - 1, by omega, k + 1, by omega, rfl, ?_⟩
        intro j hj
        show upd b (S1 i + k) (um (T (S x + k))) j = _
        unfold upd
        by_cases ej : j = S1 i + k
        · rw [if_pos ej, if_neg (by omega), show S x + (j - S1 i) = S x + k by omega]
        · rw [if_neg ej]; exact g3 j (by omega)
    obtain ⟨o, y1, y2⟩ := l1'
    rw [y1, obs]
    unfold f_M_readDictionary_j396
    have ei : nI i + 1 = nI (i + 1) := qn_add i 1
    have em : nI (i + 1) - 1 = nI i := by rw [show (1 : Int32) = nI 1 from rfl, nI_sub (by omega)]; congr 1
    rw [bnd_eq, ei, em, gd_nI (by omega) (by omega), bnd_eq, gd_nI (by omega) (by omega), bnd_eq, qn_clamp (by omega), qn_clamp (by omega), c5 i (by omega), qn_add]
    refine ⟨_, _, rfl, rfl, fun h0 => absurd rfl h0, ?_, fun _ => ⟨?_, ?_⟩⟩
    · show upd nf (i + 1) (nI (S1 i + (S (x + 1) - S x))) 0 = _
      unfold upd; rw [if_neg (by omega)]; exact c3
    · intro k hk
      show upd nf (i + 1) (nI (S1 i + (S (x + 1) - S x))) k = _
      unfold upd tS
      by_cases ek : k = i + 1
      · rw [if_pos ek, if_neg (by omega)]
      · rw [if_neg ek, if_pos (by omega)]; exact c5 k (by omega)
    · intro j hj
      apply y2 j
      unfold tS at hj
      rw [if_neg (by omega)] at hj
      exact hj
theorem M_pickT {n c d : Nat} {g : Nat → Nat} {S S0 : Nat → Nat} {T T0 : Nat → UInt8} {at' : Int32} {num wholes : Nat → Int64} {nb nf nums wb wf : Nat → Int32}
    (hn : 100000 < n) (hc : c ≤ 1000) (hd : d ≤ c) (hwf : ∀ k, k ≤ d → wf k = nI (S k)) (hwb : ∀ j, j < S d → wb j = um (T j)) (hDS : TxI d S 20000) (hg : ∀ j, j < c → nums j = nI (g j) ∧ g j < 4294967296) (hC : VsM 3 0 num S0 T0 0 wholes nf nb) (hS0 : TxI 0 S0 20000) :
    ∃ o, f_M_readDictionary_j244 n 20000 1001 1008 20000 1001 0 (nI d) at' 0 nb nf nums wb wf (nI c) = some o ∧ o.2.2.1 = at' ∧ o.2.2.2.2.2.1 0 = nI 0 ∧ ((∃ x, pkT d S T g c 0 S0 T0 = .inl x ∧ o.2.2.2.1 = nI x ∧ ¬ nI x = 0) ∨ (∃ r, pkT d S T g c 0 S0 T0 = .inr r ∧ o.2.2.2.1 = 0 ∧ TxI c r.1 20000 ∧ VsM 3 c num r.1 r.2 o.1 wholes o.2.2.2.2.2.1 o.2.2.2.2.1)) := by
  unfold f_M_readDictionary_j244
  have main : ∃ o, lp (fun v => f_M_readDictionary_l247 n 20000 1001 1008 20000 1001 (nI d) at' 0 nums wb wf (nI c) v.1 v.2.1 v.2.2.1 v.2.2.2) n ((0 : Int32), nb, nf, (0 : Int32)) = some o ∧
      ((∃ p, o = Sum.inl p ∧ pkT d S T g c 0 S0 T0 = .inl 7 ∧ p.2.2.1 0 = nI 0) ∨ (∃ cn b2 f2, o = Sum.inr (cn, nI d, at', 0, b2, f2, nums, wb, wf) ∧ f2 0 = nI 0 ∧ ∃ r, pkT d S T g c 0 S0 T0 = .inr r ∧ TxI c r.1 20000 ∧ VsM 3 c num r.1 r.2 cn wholes f2 b2)) := by
    refine lp_inv (fun q u => ∃ i S1 T1, i + q = c + 1 ∧ i ≤ c ∧ u.2.2.2 = nI i ∧ TxI i S1 20000 ∧ VsM 3 i num S1 T1 u.1 wholes u.2.2.1 u.2.1 ∧ pkT d S T g (c - i) i S1 T1 = pkT d S T g c 0 S0 T0) _ ?_ (c + 1) n _ ⟨0, S0, T0, by omega, by omega, rfl, hS0, hC, rfl⟩ (by omega)
    rintro q ⟨cnt, b, f, i'⟩ ⟨i, S1, T1, g1, g2, g3, g5, g6, g7⟩
    simp only at g3 g6
    subst g3
    show (∃ w', f_M_readDictionary_l247 n 20000 1001 1008 20000 1001 (nI d) at' 0 nums wb wf (nI c) cnt b f (nI i) = _ ∧ _) ∨ (∃ y, f_M_readDictionary_l247 n 20000 1001 1008 20000 1001 (nI d) at' 0 nums wb wf (nI c) cnt b f (nI i) = _ ∧ _)
    unfold f_M_readDictionary_l247
    rw [ifle (by omega) (by omega)]
    by_cases ci : c ≤ i
    · have : i = c := by omega
      subst this
      rw [if_pos ci]
      rw [Nat.sub_self] at g7
      exact Or.inr ⟨_, rfl, Or.inr ⟨cnt, b, f, rfl, g6.2.2.1, (S1, T1), g7.symm, g5, g6⟩⟩
    · have e1 : nI i + 1 = nI (i + 1) := qn_add i 1
      obtain ⟨n1, n2⟩ := hg i (by omega)
      rw [pkT_step (by omega)] at g7
      have h287 : f_M_readDictionary_j287 n 20000 1001 20000 1001 cnt b f wb wf (nI i) (nI (g i)) = some (Sum.inr (Sum.inl (cnt, b, f, nI i))) := by
        unfold f_M_readDictionary_j287 f_M_readDictionary_j288 f_M_readDictionary_j316
        rw [if_pos rfl, if_pos rfl]
      rw [if_neg ci, if_pos rfl, gd_nI (by omega) (by omega), bnd_eq, qn_clamp (by omega), n1, qifc (nI_neg32 n2), h287]
      by_cases cd : d ≤ g i
      · rw [if_pos (Or.inl cd)] at g7
        have hsel : (if 2147483648 ≤ g i then some (Sum.inr (Sum.inl (cnt, b, f, nI i))) else if nI d ≤ nI (g i) then some (Sum.inr (Sum.inl (cnt, b, f, nI i))) else f_M_readDictionary_j288 n 20000 1001 20000 1001 cnt b f wb wf (nI i) (nI (g i)) 1) = some (Sum.inr (Sum.inl (cnt, b, f, nI i))) := by
          by_cases k : 2147483648 ≤ g i
          · rw [if_pos k]
          · rw [if_neg k, ifle (by omega) (by omega), if_pos cd]
        rw [hsel]
        exact Or.inr ⟨_, rfl, Or.inl ⟨_, rfl, g7.symm, g6.2.2.1⟩⟩
      · obtain ⟨m1, m2⟩ := M_pick1 (n := n) (d := d) (i := i) (x := g i) (S := S) (S1 := S1) (T := T) (T1 := T1) (cnt := cnt) (v5 := nI i) (num := num) (wholes := wholes) (nb := b) (nf := f) (wb := wb) (wf := wf) hn (by omega) (by omega) (by omega) hwf hwb hDS g6 g5
        rw [if_neg (show ¬ 2147483648 ≤ g i by omega), ifle (by omega) (by omega), if_neg cd]
        have hl := hDS.2.1 (g i) (by omega)
        by_cases c7 : 20000 < S1 i + (S (g i + 1) - S (g i))
        · rw [if_pos (Or.inr c7)] at g7
          rw [m1 c7]
          exact Or.inr ⟨_, rfl, Or.inl ⟨_, rfl, g7.symm, g6.2.2.1⟩⟩
        · rw [if_neg (fun hx => by rcases hx with hx | hx; exact cd hx; exact c7 hx)] at g7
          obtain ⟨nb', nf', y1, y2⟩ := m2 c7
          rw [y1, e1]
          exact Or.inl ⟨_, rfl, q - 1, by omega, i + 1, _, _, by omega, by omega, rfl, TxI_step g5 (by omega) (by omega), y2, g7⟩
  obtain ⟨o, h1, h2⟩ := main
  rw [h1, obs]
  rcases h2 with ⟨p, rfl, y2, y3⟩ | ⟨cn, b2, f2, rfl, y2, r, y3, y4, y5⟩
  · exact ⟨_, rfl, rfl, y3, Or.inl ⟨7, y2, rfl, by decide⟩⟩
  · exact ⟨_, rfl, rfl, y2, Or.inr ⟨r, y3, rfl, y4, y5⟩⟩
theorem M_d244F {n : Nat} {nc ws at' f c : Int32} {nb nf nums wb wf : Nat → Int32} (hn : 100 < n) (hf : ¬ f = 0) : f_M_readDictionary_j244 n 20000 1001 1008 20000 1001 nc ws at' f nb nf nums wb wf c = some (nc, ws, at', f, nb, nf, nums, wb, wf) := by
  unfold f_M_readDictionary_j244
  obtain ⟨y, rfl⟩ : ∃ y, n = y + 1 := ⟨n - 1, by omega⟩
  have : f_M_readDictionary_l247 (y + 1) 20000 1001 1008 20000 1001 ws at' f nums wb wf c nc nb nf 0 = some (Sum.inr (Sum.inr (nc, ws, at', f, nb, nf, nums, wb, wf))) := by
    unfold f_M_readDictionary_l247
    rw [if_neg hf, ite_self]
  simp only [lp, this]; rfl
theorem M_cpF {n d : Nat} {S : Nat → Nat} {nf wf : Nat → Int32} (hn : 100000 < n) (hd : d ≤ 1000) (hS : ∀ k, k ≤ d → nf k = nI (S k)) :
    ∃ o, lp (fun v => f_M_readDictionary_l67 1001 1001 (nI d) nf v.1 v.2) n (wf, (0 : Int32)) = some o ∧ ∀ k, k ≤ d → o.1 k = nI (S k) := by
  refine lp_inv (fun q u => ∃ i, i + q = d + 1 ∧ u.2 = nI i ∧ ∀ k, k < i → u.1 k = nI (S k)) _ ?_ (d + 1) n _ ⟨0, by omega, rfl, fun k hk => absurd hk (by omega)⟩ (by omega)
  rintro q ⟨b, i'⟩ ⟨i, g1, g2, g3⟩
  simp only at g2 g3
  subst g2
  show (∃ w', f_M_readDictionary_l67 1001 1001 (nI d) nf b (nI i) = _ ∧ _) ∨ (∃ y, f_M_readDictionary_l67 1001 1001 (nI d) nf b (nI i) = _ ∧ _)
  unfold f_M_readDictionary_l67
  rw [ifl (by omega) (by omega)]
  by_cases ci : d < i
  · rw [if_pos ci]
    exact Or.inr ⟨_, rfl, fun k hk => g3 k (by omega)⟩
  · have e1 : nI i + 1 = nI (i + 1) := qn_add i 1
    rw [if_neg ci, gd_nI (by omega) (by omega), bnd_eq, gd_nI (by omega) (by omega), bnd_eq, qn_clamp (by omega), hS i (by omega), e1]
    refine Or.inl ⟨_, rfl, q - 1, by omega, i + 1, by omega, rfl, ?_⟩
    intro k hk
    show upd b i (nI (S i)) k = _
    unfold upd
    by_cases ek : k = i
    · rw [if_pos ek, ek]
    · rw [if_neg ek]; exact g3 k (by omega)
theorem M_cpB {n d : Nat} {S : Nat → Nat} {T : Nat → UInt8} {nb wf wb : Nat → Int32} (hn : 100000 < n) (hd : d ≤ 1000) (hS : wf d = nI (S d)) (hSd : S d ≤ 20000) (hb : ∀ j, j < S d → nb j = um (T j)) :
    ∃ o, lp (fun v => f_M_readDictionary_l99 20000 20000 1001 (nI d) nb wf v.1 v.2) n (wb, (0 : Int32)) = some o ∧ ∀ j, j < S d → o.1 j = um (T j) := by
  refine lp_inv (fun q u => ∃ i, i + q = S d ∧ u.2 = nI i ∧ ∀ k, k < i → u.1 k = um (T k)) _ ?_ (S d) n _ ⟨0, by omega, rfl, fun k hk => absurd hk (by omega)⟩ (by omega)
  rintro q ⟨b, i'⟩ ⟨i, g1, g2, g3⟩
  simp only at g2 g3
  subst g2
  show (∃ w', f_M_readDictionary_l99 20000 20000 1001 (nI d) nb wf b (nI i) = _ ∧ _) ∨ (∃ y, f_M_readDictionary_l99 20000 20000 1001 (nI d) nb wf b (nI i) = _ ∧ _)
  unfold f_M_readDictionary_l99
  rw [gd_nI (by omega) (by omega), qn_clamp (by omega), hS, ifle (by omega) (by omega)]
  by_cases ci : S d ≤ i
  · rw [if_pos ci]
    exact Or.inr ⟨_, rfl, fun k hk => g3 k (by omega)⟩
  · have e1 : nI i + 1 = nI (i + 1) := qn_add i 1
    rw [if_neg ci, gd_nI (by omega) (by omega), bnd_eq, gd_nI (by omega) (by omega), bnd_eq, qn_clamp (by omega), hb i (by omega), e1]
    refine Or.inl ⟨_, rfl, q - 1, by omega, i + 1, by omega, rfl, ?_⟩
    intro k hk
    show upd b i (um (T i)) k = _
    unfold upd
    by_cases ek : k = i
    · rw [if_pos ek, ek]
    · rw [if_neg ek]; exact g3 k (by omega)
theorem M_readDictionary {n cap e a c : Nat} {I : List UInt8} {inp : Nat → Int32} {num wholes : Nat → Int64} {nb nf nums wb wf : Nat → Int32} {ws : Int32}
    (hn : 100000 < n) (hcap : cap < 100000) (hI : I.length ≤ cap) (he : e ≤ I.length) (ha : a ≤ e) (hc : c ≤ 1000) (h : QHM I inp) (hnf : nf 0 = nI 0) :
    ∃ o, f_M_readDictionary n cap 20000 1001 1008 20000 1001 0 ws (nI a) (nI e) 0 inp nb nf nums wb wf (nI c) = some o ∧ o.2.2.2.2.2.1 0 = nI 0 ∧
      ((∃ x, pDictT I e a c = .inl x ∧ o.2.2.2.1 = nI x ∧ ¬ nI x = 0) ∨ (∃ r, pDictT I e a c = .inr r ∧ o.2.2.1 = nI e ∧ o.2.2.2.1 = 0 ∧ TxI c r.1 20000 ∧ VsM 3 c num r.1 r.2 o.1 wholes o.2.2.2.2.2.1 o.2.2.2.2.1)) := by
  unfold f_M_readDictionary f_M_readDictionary_j29 pDictT pDictG
  obtain ⟨o, p1, p2⟩ := M_varint (n := n) (cap := cap) (e := e) (a := a) (I := I) (inp := inp) (by omega) hcap hI he ha h
  rw [p1, obs]
  cases hp : pVar I e a with
  | inl x =>
    rw [hp] at p2
    obtain ⟨q1, q2, q3⟩ := p2
    have hF : ¬ o.2.2 = 0 := by rw [q2]; exact q3
    unfold f_M_readDictionary_j34
    rw [if_neg hF, if_neg hF]
    exact ⟨_, rfl, hnf, Or.inl ⟨x, rfl, q2, q3⟩⟩
  | inr ad =>
    obtain ⟨a1, d⟩ := ad
    rw [hp] at p2
    obtain ⟨q1, q2, q3⟩ := p2
    obtain ⟨v1, v2, v3⟩ := pVar_a hp
    rw [q1, q2, q3, if_pos rfl, lI64 (by omega), lrange v3 (by omega)]
    simp only
    unfold f_M_readDictionary_j34
    by_cases c4 : c < d
    · rw [if_pos c4, if_pos c4, if_neg (show ¬ (4 : Int32) = 0 by decide)]
      exact ⟨_, rfl, hnf, Or.inl ⟨4, rfl, rfl, by decide⟩⟩
    · have ed : (ql64 d).toInt32 = nI d := l64_i32 (by omega)
      obtain ⟨op, y1, y2, y3⟩ := M_readPlain (n := n) (cap := cap) (e := e) (a := a1) (m := d) (I := I) (inp := inp) (num := num) (S := fun _ => 0) (T := fun _ => 0) (wholes := wholes) (frm := nf) (bytes := nb) hn hcap hI he v2 (by omega) ⟨rfl, fun h0 => absurd rfl h0, hnf, fun _ => ⟨fun i hi => by rw [show i = 0 by omega]; exact hnf, fun j hj => absurd hj (Nat.not_lt_zero j)⟩⟩ (TxI_0 _) h
      rw [if_neg c4, if_neg c4, if_pos rfl, ed, y1, obs]
      rcases y3 with ⟨x, z1, z2, z3⟩ | ⟨a2, S, T, z1, z2, z3, z4, z5, z6⟩
      · have hF : ¬ op.2.2.1 = 0 := by rw [z2]; exact z3
        rw [if_neg hF, z1]
        exact ⟨_, rfl, y2, Or.inl ⟨x, rfl, z2, z3⟩⟩
      · obtain ⟨w1, w2, w3, w4⟩ := id z6
        obtain ⟨w5, w6⟩ := w4 rfl
        obtain ⟨of, f1, f2⟩ := M_cpF (n := n) (d := d) (S := S) (nf := op.2.2.2.2) (wf := wf) hn (by omega) w5
        obtain ⟨ob, b1, b2⟩ := M_cpB (n := n) (d := d) (S := S) (T := T) (nb := op.2.2.2.1) (wf := of.1) (wb := wb) hn (by omega) (f2 d (by omega)) z5.2.2 w6
        rw [z4, if_pos rfl, w1, f1, obs, z1, z3]
        unfold f_M_readDictionary_j96
        rw [b1, obs]
        unfold f_M_readDictionary_j133 f_M_readDictionary_j176
        simp only
        unfold pOct
        rw [ifl (by omega) (by omega)]
        by_cases ce : e ≤ a2
        · rw [if_pos ce, if_neg (by omega), if_neg (show ¬ (1 : Int32) = 0 by decide)]
          exact ⟨_, rfl, y2, Or.inl ⟨1, rfl, rfl, by decide⟩⟩
        · have hB := u8_lt (I.getD a2 0)
          have i32 : (32 : Int32) = nI 32 := rfl
          have g0 : ∀ {α : Type} {t : Option α}, gd (inB (nI a2) cap) t = t := fun {α t} => gd_nI (by omega) (by omega)
          have ea : nI a2 + 1 = nI (a2 + 1) := qn_add a2 1
          simp only [g0, qn_clamp (show a2 < 2147483648 by omega), octm h (show a2 < I.length by omega)]
          rw [if_neg ce, if_pos (by omega), i32, ifle (by omega) (by omega), if_neg (show ¬ (5 : Int32) = 0 by decide)]
          simp only
          by_cases cw : 32 < (I.getD a2 0).toNat
          · rw [if_pos cw, if_neg (by omega)]
            exact ⟨_, rfl, y2, Or.inl ⟨5, rfl, rfl, by decide⟩⟩
          · rw [if_neg cw, if_pos (by omega), if_pos trivial, bnd_eq, bnd_eq, ea]
            obtain ⟨orn, r1, r2⟩ := M_readRuns (n := n) (cap := cap) (pn := 1008) (e := e) (a := a2 + 1) (m := c) (w := (I.getD a2 0).toNat) (I := I) (inp := inp) (p1 := nums) hn hcap hI he (by omega) (by omega) hc (by omega) h
            rw [r1, obs]
            rcases r2 with ⟨x, t1, t2, t3⟩ | ⟨b, g, t1, t2, t3, t4, t5⟩
            · have hF : ¬ orn.2.1 = 0 := by rw [t2]; exact t3
              have hE : pRunsE I e c (I.getD a2 0).toNat (a2 + 1) = .inl x := by unfold pRunsE; rw [t1]
              rw [if_neg hF, M_d244F (by omega) hF, hE]
              exact ⟨_, rfl, y2, Or.inl ⟨x, rfl, t2, t3⟩⟩
            · rw [t3, t4, if_pos rfl, ifle (by omega) (by omega)]
              by_cases cb : b < e
              · have hE : pRunsE I e c (I.getD a2 0).toNat (a2 + 1) = .inl 6 := by
                  unfold pRunsE; rw [t1]
                  show (if b < e then _ else _) = _
                  rw [if_pos cb]
                rw [if_neg (by omega), M_d244F (by omega) (show ¬ (6 : Int32) = 0 by decide), hE]
                exact ⟨_, rfl, y2, Or.inl ⟨6, rfl, rfl, by decide⟩⟩
              · have hE : pRunsE I e c (I.getD a2 0).toNat (a2 + 1) = .inr g := by
                  unfold pRunsE; rw [t1]
                  show (if b < e then _ else _) = _
                  rw [if_neg cb]
                have hp32 : 2 ^ (I.getD a2 0).toNat ≤ 2 ^ 32 := Nat.pow_le_pow_right (by omega) (by omega)
                obtain ⟨ok, k1, k2, k2', k3⟩ := M_pickT (n := n) (c := c) (d := d) (g := g) (S := S) (S0 := fun _ => 0) (T := T) (T0 := fun _ => 0) (at' := nI b) (num := num) (wholes := wholes) (nb := op.2.2.2.1) (nf := op.2.2.2.2) (nums := orn.2.2) (wb := ob.1) (wf := of.1) hn hc (by omega) f2 b2 z5 (fun j hj => ⟨(t5 j hj).1, by have := (t5 j hj).2; omega⟩) ⟨rfl, fun h0 => absurd rfl h0, y2, fun _ => ⟨fun i hi => by rw [show i = 0 by omega]; exact y2, fun j hj => absurd hj (Nat.not_lt_zero j)⟩⟩ (TxI_0 _)
                rw [if_pos (by omega), k1, hE]
                refine ⟨_, rfl, k2', ?_⟩
                rcases k3 with ⟨x, w1, w2, w3⟩ | ⟨r, w1, w2, w3⟩
                · exact Or.inl ⟨x, w1, w2, w3⟩
                · exact Or.inr ⟨r, w1, by rw [k2, show b = e by omega], w2, w3⟩
