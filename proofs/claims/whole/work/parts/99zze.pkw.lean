/-! ===== what was read: the code of the class, the row of the reference ===== -/
def teE (E : List Ent) (e : Nat) : Nat := en_te (E.getD e dE)
def owN (ow : Nat → Int32) (l : Nat) : Nat := if ow l = -1 then 4 else ix (ow l)
def LK (K : Nat → Nat → Int32) (E : List Ent) (AL : List Act) (SL : List Nat) (st : Nat) (lb mb mk dn : Int32) : Prop :=
  (K 10 10 = nI E.length ∧ K 10 11 = nI SL.length ∧ K 10 12 = nI AL.length ∧ K 10 13 = nI st ∧ K 10 14 = lb ∧ K 10 15 = mb ∧ K 10 16 = mk ∧ K 10 17 = dn) ∧
  (∀ e, e < E.length → K 0 e = nI (en_op (E.getD e dE)) ∧ K 1 e = en_tl (E.getD e dE) ∧ K 2 e = en_bs (E.getD e dE) ∧ K 3 e = en_dg (E.getD e dE) ∧ K 4 e = en_ob (E.getD e dE) ∧ (∀ y, en_jp (E.getD e dE) = some y → K 5 e = nI y) ∧ K 6 e = en_nu (E.getD e dE)) ∧
  (∀ t, t < SL.length → K 7 t = nI (SL.getD t 0)) ∧ ∀ m, m < AL.length → K 8 m = nI (AL.getD m dA).2.2.2.2 ∧ K 9 m = nI (AL.getD m dA).1
def LF (F : Nat → Int32) (E : List Ent) (AL : List Act) (SL : List Nat) (st : Nat) (lb mb mk : Int32) : Prop :=
  (F 6 = nI AL.length ∧ F 7 = nI SL.length ∧ F 8 = nI st ∧ F 9 = lb ∧ F 10 = mb ∧ F 11 = mk ∧ F 12 = nI (RN SL E).length) ∧ (∀ t, t < SL.length → F (13 + t) = nI (rxl E (SL.getD t 0))) ∧
  (∀ m, m < AL.length → F (18 + 4 * m) = nI (AL.getD m dA).1 ∧ F (18 + 4 * m + 1) = nI (AL.getD m dA).2.1 ∧ F (18 + 4 * m + 2) = (AL.getD m dA).2.2.1 ∧ F (18 + 4 * m + 3) = (AL.getD m dA).2.2.2.1) ∧
  (∀ e, e < E.length → en_op (E.getD e dE) ≠ 9 → IR E F (rxl E e) (E.getD e dE)) ∧ ∀ i, i < (RN SL E).length → F (400 + i) = nI ((RN SL E).getD i 0)
/-- what holds of the lists alone -/
def LL (E : List Ent) (AL : List Act) (SL : List Nat) (ow kd : Nat → Int32) (st : Nat) (lb mb mk dn : Int32) : Prop :=
  LV SL.length E AL SL ow mk dn kd ∧ (∀ x, x ∈ E → npE x) ∧ (E.length ≤ 64 ∧ AL.length ≤ 8 ∧ SL.length ≤ 4 ∧ 0 < SL.length ∧ st ≤ 20 ∧ (RN SL E).length ≤ 480) ∧ (∃ w, w < 32 ∧ lb = nI w) ∧ mbI mb ∧ nst E = some 0 ∧ TN E SL
section
variable {K : Nat → Nat → Int32} {F : Nat → Int32} {E : List Ent} {AL : List Act} {SL : List Nat} {st : Nat} {lb mb mk dn : Int32} {ow kd : Nat → Int32}
theorem np_i (h : ∀ x, x ∈ E → npE x) {e : Nat} (he : e < E.length) : npE (E.getD e dE) := by
  rw [List.getD_eq_getElem?_getD, List.getElem?_eq_getElem he]
  exact h _ (List.getElem_mem _)
theorem ow_N {l t : Nat} (ht : t < 8) (h : ow l = nI t) : owN ow l = t := by
  unfold owN
  rw [if_neg (by rw [h]; exact nI_ne1 (by omega)), h, ix_nI (by omega)]
theorem ll_te (L : LL E AL SL ow kd st lb mb mk dn) {e : Nat} (he : e < E.length) : teE E e < SL.length := (L.1.1 e he).1.1.1
theorem kw_of (L : LL E AL SL ow kd st lb mb mk dn) (H : LK K E AL SL st lb mb mk dn) : KW K (teE E) (owN ow) AL.length SL.length E.length := by
  have L' := L
  obtain ⟨⟨va, vb, vc, vd, vo⟩, NP, ⟨b64, b8, b4, b0, -, -⟩, -, -⟩ := L
  obtain ⟨⟨n10, n11, n12, n13, n14, n15, n16, n17⟩, he, ht, hm⟩ := H
  have inj : ∀ a b : Nat, a < 1000 → b < 1000 → nI a = nI b → a = b := fun a b h1 h2 h => (nI_eq (by omega) (by omega)).mp h
  refine ⟨b8, b4, b64, n12, n11, fun t h4 => ⟨SL.getD t 0, ht t h4, (vc t h4).2.2 h4, (vc t h4).2.1 ((vc t h4).2.2 h4)⟩, fun m h8 => ?_, fun e h64 => ?_, fun e e' m m' h1 h2 h3 h4 h5 h6 => ?_, ?_⟩
  · obtain ⟨q1, q2, q3, q4, q5, q6, q7⟩ := vb.1 m h8
    refine ⟨_, (hm m h8).1, q1, by rw [(he _ q1).2.2.2.2.2.2]; exact q2, by rw [(hm m h8).2]; unfold teE; rw [q5], _, (he _ q1).1, by rw [q3]; exact q4⟩
  · obtain ⟨k0, k1, k2, k3, k4, k5, k6⟩ := he e h64
    obtain ⟨⟨⟨s1, s2, s3⟩, s4, s5, s6, s7⟩, f1, f2, f3, f4, f5, f6, f7, f8, f9, f10⟩ := va e h64
    have np := np_i NP h64
    have own : ∀ b, ow b = nI (en_te (E.getD e dE)) → owN ow b = teE E e := fun b hb => ow_N (t := en_te (E.getD e dE)) (Nat.lt_of_lt_of_le s1 (Nat.le_trans b4 (by decide))) hb
    refine ⟨s1, _, k0, f1, fun o => ?_, fun o => by rw [k6]; exact f3 o, fun o => s4 s1 o, fun o => ?_, fun o => ?_, fun o => ?_, fun o => ?_, fun o => ⟨?_, ?_⟩, fun o => ?_, fun o => ?_, fun o => s6 o⟩
    · obtain ⟨m, m1, m2, m3⟩ := f2 o
      exact ⟨m, m1, by rw [k6]; exact m2, by rw [(hm m m1).1, m3]⟩
    · obtain ⟨c, c1, c2, -⟩ := f4 o
      exact ⟨c, c1, by rw [k4]; exact c2⟩
    · obtain ⟨c, c1, c2⟩ := f5 o
      exact ⟨c, c1, by rw [k4]; exact c2⟩
    · obtain ⟨l, l1, l2, l3⟩ := f6 o
      exact ⟨l, l1, by rw [k1]; exact l2, own l l3⟩
    · obtain ⟨l, l1, l2, l3⟩ := f7 o
      exact ⟨l, l1, by rw [k2]; exact l2, own l l3⟩
    · rw [k2]
      exact (f8 o).1.imp id (fun ⟨b, b1, b2, b3⟩ => ⟨b, b1, b2, own b b3⟩)
    · rw [k3]; exact (f8 o).2.1
    · obtain ⟨d, d1, d2⟩ := f9 o
      exact ⟨d, d1, by rw [k3]; exact d2⟩
    · cases hj : en_jp (E.getD e dE) with
      | none => exact absurd hj (np o)
      | some y =>
        obtain ⟨y1, y2, y3, y4⟩ := s7 o y hj
        exact ⟨y, k5 y hj, y2, y3, y4⟩
  · have key : ∀ e m, e < E.length → K 6 e = nI m → m < AL.length → (AL.getD m dA).2.2.2.2 = e := fun e m h64 h6 h8 => by
      obtain ⟨f1, f2, f3, -⟩ := (va e h64).2
      rw [(he e h64).2.2.2.2.2.2] at h6
      by_cases o : en_op (E.getD e dE) ≤ 5
      · obtain ⟨m', m1, m2, m3⟩ := f2 o
        have : m = m' := inj _ _ (by omega) (by omega) (h6.symm.trans m2)
        rw [this]; exact m3
      · rw [f3 (by omega)] at h6
        exact absurd h6.symm (nI_ne1 (by omega))
    have q1 := key e m (by omega) h3 h5
    have q2 := key e' m' h2 h4 h6
    by_cases c : m < m'
    · exact c
    · by_cases c2 : m = m'
      · rw [c2] at q1; omega
      · have := vb.2 m' m (by omega) h5
        omega
  · obtain ⟨-, -, e1 | ⟨d, d1, d2, d3, d4, d5⟩⟩ := vd
    · exact Or.inl (n17.trans e1)
    · right
      obtain ⟨q1, q2, q3, q4, q5, q6, q7⟩ := vb.1 d d1
      have tl := ll_te L' q1
      have hte : teE E (AL.getD d dA).2.2.2.2 = (AL.getD d dA).1 := q5
      rw [hte] at tl
      refine ⟨d, (AL.getD d dA).1, (AL.getD d dA).2.2.2.2, n17.trans d2, d1, n16.trans d4, tl, (hm d d1).1, q1, (hm d d1).2, by rw [(he _ q1).1, q3, d3], fun s h1 h2 => ?_, fun e j op h1 h2 h3 h4 h5 h6 => ?_⟩
      · rw [ht _ tl] at h1
        have hs := (vc _ tl).1
        have : SL.getD (AL.getD d dA).1 0 = s := inj _ _ (by omega) (by omega) h1
        rw [← this]
        have := (va _ q1).1.1.2.2
        rw [q5] at this
        exact this
      · have h64 : e < E.length := by omega
        have hop := (va e h64).2.1
        rw [(he e h64).1] at h3
        have eo : en_op (E.getD e dE) = op := inj _ _ (by omega) (by omega) h3
        obtain ⟨y, y1, y2⟩ := d5 e h1 h2 (by rw [eo]; exact h4)
        rw [(he e h64).2.2.2.2.2.1 y y1] at h5
        have : y = j := inj _ _ (by omega) (by omega) h5
        omega
theorem rxl_9 {e : Nat} (he : e < E.length) (h9 : en_op (E.getD e dE) = 9) : rxl E (e + 1) = rxl E e := by
  unfold rxl
  rw [List.take_add_one, List.filter_append, List.length_append]
  have : E.getD e dE = E[e] := by rw [List.getD_eq_getElem?_getD, List.getElem?_eq_getElem he]; rfl
  rw [List.getElem?_eq_getElem he]
  rw [this] at h9
  simp [h9]
theorem pr_of {V : Nat → Bool} {mo : Int32} (L : LL E AL SL ow kd st lb mb mk dn) (H : LK K E AL SL st lb mb mk dn) (G : LF F E AL SL st lb mb mk) (hV : ∀ c, c < 6 → (V c = true ↔ F c = 1 ∨ (mo >>> (nI c &&& 31)) &&& (1 : Int32) = 1))
    (hf : ∀ e c, e < E.length → en_op (E.getD e dE) = 2 → c < 6 → en_ob (E.getD e dE) = nI c → V c = false) : PR F K (teE E) (owN ow) (rxl E) AL.length SL.length E.length V mo := by
  have Kw := kw_of L H
  obtain ⟨⟨va, vb, vc, vd, vo⟩, NP, ⟨b64, b8, b4, b0, -, -⟩, -, -⟩ := L
  obtain ⟨⟨n10, n11, n12, n13, n14, n15, n16, n17⟩, he, ht, hm⟩ := H
  obtain ⟨⟨g6, g7, g8, g9, g10, g11, g12⟩, gt, gm, ge, gk⟩ := G
  have inj : ∀ a b : Nat, a < 1000 → b < 1000 → nI a = nI b → a = b := fun a b h1 h2 h => (nI_eq (by omega) (by omega)).mp h
  have k0 : ∀ e op, e < E.length → op < 1000 → (K 0 e = nI op ↔ en_op (E.getD e dE) = op) := fun e op h1 h2 => by
    have := (va e h1).2.1
    rw [(he e h1).1]
    exact nI_eq (by omega) (by omega)
  have ent : ∀ m e, m < AL.length → K 8 m = nI e → e < E.length → e = (AL.getD m dA).2.2.2.2 := fun m e h1 h2 h3 => by
    rw [(hm m h1).1] at h2
    have := (vb.1 m h1).1
    exact (inj _ _ (by omega) (by omega) h2).symm
  refine ⟨Kw, g6, g7, fun t s h4 h7 hs => ?_, fun m e h8 h9 hs => ?_, fun e h64 => ?_, fun e _ => rxl_le, hV, g11.trans n16.symm, fun e c h64 h2 hc h4 => ?_, fun e h64 h5 => ?_⟩
  · rw [ht t h4] at h7
    have := (vc t h4).1
    rw [gt t h4, inj _ _ (by omega) (by omega) h7]
  · have e1 := ent m e h8 h9 hs
    subst e1
    obtain ⟨q1, q2, q3, q4, q5, q6, q7⟩ := vb.1 m h8
    obtain ⟨r1, r2, r3, -⟩ := gm m h8
    refine ⟨by rw [r1]; unfold teE; rw [q5], by rw [r2, (he _ q1).1, q3], by rw [r3, (he _ q1).2.2.2.2.1, q6]⟩
  · obtain ⟨x0, x1, x2, x3, x4, x5, x6⟩ := he e h64
    have o0 := fun op hop => k0 e op h64 hop
    have jj : ∀ j, (en_op (E.getD e dE) = 7 ∨ en_op (E.getD e dE) = 8) → K 5 e = nI j → j < E.length → en_jq (E.getD e dE) = some j := fun j o h5 hj => by
      have np := np_i NP h64 o
      cases hy : en_jp (E.getD e dE) with
      | none => exact absurd hy np
      | some y =>
        obtain ⟨y1, y2, y3, -⟩ := (va e h64).1.2.2.2.2 o y hy
        rw [x5 y hy] at h5
        rw [inj _ _ (by omega) (by omega) h5] at y1
        exact y1
    refine ⟨fun o => rxl_9 h64 ((o0 9 (by omega)).mp o), fun o => ?_, fun o => ?_, fun o => ?_, fun o => ?_, fun o => ?_, fun o => ?_, fun o => ?_, fun o => ?_, fun o j hj hl => ?_⟩
    · have o9 : en_op (E.getD e dE) ≠ 9 := fun z => o ((o0 9 (by omega)).mpr z)
      refine ⟨(rxl_lt h64 o9).symm, ?_⟩
      rw [(ge e h64 o9).1]
      by_cases q : en_op (E.getD e dE) = 10
      · rw [if_pos q, if_pos (show K 0 e = 10 from (o0 10 (by omega)).mpr q)]
      · rw [if_neg q, if_neg (show ¬ K 0 e = 10 from fun z => q ((o0 10 (by omega)).mp z)), x0]
    · have o' : en_op (E.getD e dE) = 0 ∨ en_op (E.getD e dE) = 2 := o.imp (fun z => (o0 0 (by omega)).mp z) (fun z => (o0 2 (by omega)).mp z)
      rw [x6, x4, x1]
      exact (ge e h64 (by omega)).2.1 o'
    · have o' := (o0 2 (by omega)).mp o
      rw [x2]
      exact (ge e h64 (by omega)).2.2.1 o'
    · have o' := (o0 1 (by omega)).mp o
      rw [x6, x4, x2, x3]
      exact (ge e h64 (by omega)).2.2.2.1 o'
    · have o' : en_op (E.getD e dE) = 3 ∨ en_op (E.getD e dE) = 4 := o.imp (fun z => (o0 3 (by omega)).mp z) (fun z => (o0 4 (by omega)).mp z)
      rw [x6, x4]
      exact (ge e h64 (by omega)).2.2.2.2.1 o'
    · have o' := (o0 5 (by omega)).mp o
      rw [x6]
      exact (ge e h64 (by omega)).2.2.2.2.2.1 o'
    · have o' := (o0 6 (by omega)).mp o
      rw [x1, x2, x3]
      exact (ge e h64 (by omega)).2.2.2.2.2.2.1 o'
    · have o' := (o0 7 (by omega)).mp o
      rw [x1, x3]
      obtain ⟨q1, q2, q3⟩ := (ge e h64 (by omega)).2.2.2.2.2.2.2.1 o'
      exact ⟨q1, q2, fun j hj hl => q3 j (jj j (Or.inl o') hj hl)⟩
    · have o' := (o0 8 (by omega)).mp o
      exact (ge e h64 (by omega)).2.2.2.2.2.2.2.2 o' j (jj j (Or.inr o') hj hl)
  · rw [(he e h64).2.2.2.2.1] at h4
    exact hf e c h64 ((k0 e 2 h64 (by omega)).mp h2) hc h4
  · rw [(he e h64).2.2.2.2.2.2, n17]
    exact (va e h64).2.2.2.2.2.2.2.2.2.2 ((k0 e 5 h64 (by omega)).mp h5)
end
section
variable {Z Z2 : Nat → Nat → Int32} {tp : Nat → Nat} {n cnt B j0 : Nat} {kd : Nat → Int32} {A A2 : Nat → Nat → Int32} {tc j st : Nat} {E : List Ent} {AL : List Act} {SL : List Nat} {ow : Nat → Int32} {lb mb mk dn : Int32}
/-- the code's rows in the heap -/
def kof (A : Nat → Nat → Int32) (B : Nat) : Nat → Nat → Int32 := fun i => if i = 10 then A B else A (B + 1 + i)
theorem tln_l {tp : Nat → Nat} {n j0 tc : Nat} : (TLn tp n j0 tc).length = tc := by
  unfold TLn
  rw [List.length_map, List.length_range]
theorem tln_g {tp : Nat → Nat} {n j0 tc i : Nat} (h : i < tc) : (TLn tp n j0 tc).getD i 0 = (tk tp n (j0 + i)).1 := by
  unfold TLn
  rw [List.getD_eq_getElem?_getD, List.getElem?_map, List.getElem?_range h]
  rfl
theorem ts_ll (T : TSt Z Z2 tp n cnt B j0 kd A A2 tc j st E AL SL ow lb mb mk dn) (h0 : 0 < SL.length) : LL E AL SL ow kd st lb mb mk dn := by
  obtain ⟨X, X2, I, V, ⟨b1, b2, b4, b20⟩, NP, hT, ej, NT, TH⟩ := T
  have S := X2 0 0 (by omega) (by omega)
  have bC := S.2.2.2.2.2.2.2.2.2
  refine ⟨V, NP, ⟨bC.1, bC.2.2.1, b4, h0, b20, ?_⟩, I.1, S.2.2.2.1.2.2.2.2.1.2, NT, TH⟩
  rw [← hT, tln_l]
  omega
theorem ts_lk (hB : 126 ≤ B) (T : TSt Z Z2 tp n cnt B j0 kd A A2 tc j st E AL SL ow lb mb mk dn) : LK (kof A B) E AL SL st lb mb mk dn ∧ ∀ c, c < 8 → A (B + 12) c = kd c := by
  obtain ⟨X, -⟩ := T
  obtain ⟨-, -, -, c, d, e, f, g, -⟩ := X 0 0 (by omega) (by omega)
  have k : ∀ r q, B ≤ r → up_2 (up_2 A 68 6 (nI 0)) 68 7 (nI 0) r q = A r q := fun r q hr => by rw [u2 (by omega), u2 (by omega)]
  rw [k _ _ (by omega), k _ _ (by omega), k _ _ (by omega), k _ _ (by omega), k _ _ (by omega), k _ _ (by omega), k _ _ (by omega), k _ _ (by omega)] at c
  refine ⟨⟨c, fun q hq => ?_, fun t ht => ?_, fun m hm => ?_⟩, fun q hq => by have := g q hq; rw [k _ _ (by omega)] at this; exact this⟩
  · have := d q hq
    unfold EC at this
    rw [k _ _ (by omega), k _ _ (by omega), k _ _ (by omega), k _ _ (by omega), k _ _ (by omega), k _ _ (by omega), k _ _ (by omega)] at this
    exact this
  · have := e t ht
    rw [k _ _ (by omega)] at this
    exact this
  · have := f m hm
    rw [k _ _ (by omega), k _ _ (by omega)] at this
    exact this
theorem ts_lf (T : TSt Z Z2 tp n cnt B j0 kd A A2 tc j st E AL SL ow lb mb mk dn) : LF (A2 107) E AL SL st lb mb mk ∧ ∀ c, c < 6 → A2 107 c = kd c := by
  obtain ⟨-, X2, I, V, -, NP, hT, ej, -⟩ := T
  obtain ⟨-, -, -, d, e, f, g, i, ⟨-, -, -, q⟩, -⟩ := X2 0 0 (by omega) (by omega)
  have k : ∀ q, up_2 (up_2 (up_2 (up_2 A2 102 17 (nI 0)) 102 18 (nI 0)) 102 19 (nI 0)) 102 20 (if dn ≠ -1 ∧ mk = nI 0 then 1 else 0) 107 q = A2 107 q := fun q => by
    rw [u2 (by omega), u2 (by omega), u2 (by omega), u2 (by omega)]
  have k7 : up_2 (up_2 (up_2 (up_2 A2 102 17 (nI 0)) 102 18 (nI 0)) 102 19 (nI 0)) 102 20 (if dn ≠ -1 ∧ mk = nI 0 then 1 else 0) 107 = A2 107 := funext k
  rw [k7] at d e f g i q
  have hl : (RN SL E).length = tc := by rw [← hT, tln_l]
  refine ⟨⟨⟨d.1, d.2.1, d.2.2.1, d.2.2.2.1, d.2.2.2.2.1.1, d.2.2.2.2.2.1, by rw [hl]; exact d.2.2.2.2.2.2⟩, fun t ht => (f t ht).1, g, fun x hx h9 => (i x hx).1 h9, fun m hm => ?_⟩, e⟩
  rw [hl] at hm
  rw [q m hm, ← hT, tln_g hm]
end
