/-! ===== the two readers together: the threads ===== -/
section
variable {Z : Nat → Nat → Int32} {tp : Nat → Nat} {n cnt B : Nat} {h : AH} {A A' : Nat → Nat → Int32} {j th hd ne st : Nat} {E : List Ent} {AL : List Act} {SL : List Nat} {ow : Nat → Int32} {lb mb mk dn : Int32} {kd : Nat → Int32}
theorem cs_th {th' hd' : Nat} (hB : 126 ≤ B) (S : CS Z tp n cnt B A j th hd ne st E AL SL ow lb mb mk dn kd) (hk : ∀ r k, ¬ (r = 68 ∧ (k = 6 ∨ k = 7)) → A' r k = A r k) (h6 : A' 68 6 = nI th') (h7 : A' 68 7 = nI hd') (l6 : th' < 4) (l7 : hd' < 4) : CS Z tp n cnt B A' j th' hd' ne st E AL SL ow lb mb mk dn kd := by
  obtain ⟨⟨s1, s2, s3, s4, s5, s6, s7⟩, ⟨a1, a2, a3⟩, b, ⟨c1, c2, c3, c4, c5, c6, c7, c8⟩, d, e, f, g, i1, i2, i3, i4, i5, i6, i7⟩ := S
  have e69 : A' 69 = A 69 := by funext k; exact hk 69 k (by omega)
  have e70 : A' 70 = A 70 := by funext k; exact hk 70 k (by omega)
  refine ⟨⟨by rw [e69]; exact s1, by rw [e70]; exact s2, s3, s4, fun k hk' => by rw [hk 65 k (by omega)]; exact s5 k hk', s6, fun r k hr => by rw [hk r k (by omega)]; exact s7 r k hr⟩, ⟨h6, h7, by rw [hk 68 8 (by omega)]; exact a3⟩, fun l hl => by rw [hk 71 l (by omega)]; exact b l hl, ?_, fun x hx => ?_, fun t ht => by rw [hk _ _ (by omega)]; exact e t ht, fun m hm => by rw [hk _ _ (by omega), hk _ _ (by omega)]; exact f m hm, fun c hc => by rw [hk _ _ (by omega)]; exact g c hc, i1, i2, i3, i4, l6, l7, i7⟩
  · rw [hk _ _ (by omega), hk _ _ (by omega), hk _ _ (by omega), hk _ _ (by omega), hk _ _ (by omega), hk _ _ (by omega), hk _ _ (by omega), hk _ _ (by omega)]
    exact ⟨c1, c2, c3, c4, c5, c6, c7, c8⟩
  · unfold EC
    rw [hk _ _ (by omega), hk _ _ (by omega), hk _ _ (by omega), hk _ _ (by omega), hk _ _ (by omega), hk _ _ (by omega), hk _ _ (by omega)]
    exact d x hx
theorem cs_open (hB : 126 ≤ B) (S : CS Z tp n cnt B A j th hd ne st E AL SL ow lb mb mk dn kd) (h4 : SL.length < 4) (hk : ∀ r k, ¬ (r = B + 8 ∧ k = SL.length) → ¬ (r = B ∧ k = 11) → A' r k = A r k) (h8 : A' (B + 8) SL.length = nI E.length) (h11 : A' B 11 = nI (SL.length + 1)) : CS Z tp n cnt B A' j th hd ne st E AL (SL ++ [E.length]) ow lb mb mk dn kd := by
  obtain ⟨⟨s1, s2, s3, s4, s5, s6, s7⟩, ⟨a1, a2, a3⟩, b, ⟨c1, c2, c3, c4, c5, c6, c7, c8⟩, d, e, f, g, i1, i2, i3⟩ := S
  have e69 : A' 69 = A 69 := by funext k; exact hk 69 k (by omega) (by omega)
  have e70 : A' 70 = A 70 := by funext k; exact hk 70 k (by omega) (by omega)
  refine ⟨⟨by rw [e69]; exact s1, by rw [e70]; exact s2, s3, s4, fun k hk' => by rw [hk 65 k (by omega) (by omega)]; exact s5 k hk', s6, fun r k hr => by rw [hk r k (by omega) (by omega)]; exact s7 r k hr⟩, ⟨by rw [hk 68 6 (by omega) (by omega)]; exact a1, by rw [hk 68 7 (by omega) (by omega)]; exact a2, by rw [hk 68 8 (by omega) (by omega)]; exact a3⟩, fun l hl => by rw [hk 71 l (by omega) (by omega)]; exact b l hl, ?_, fun x hx => ?_, fun t ht => ?_, fun m hm => by rw [hk _ _ (by omega) (by omega), hk _ _ (by omega) (by omega)]; exact f m hm, fun c hc => by rw [hk _ _ (by omega) (by omega)]; exact g c hc, i1, by rw [ln_a]; omega, i3⟩
  · rw [hk _ 10 (by omega) (by omega), h11, hk _ 12 (by omega) (by omega), hk _ 13 (by omega) (by omega), hk _ 14 (by omega) (by omega), hk _ 15 (by omega) (by omega), hk _ 16 (by omega) (by omega), hk _ 17 (by omega) (by omega), ln_a]
    exact ⟨c1, rfl, c3, c4, c5, c6, c7, c8⟩
  · unfold EC
    rw [hk _ _ (by omega) (by omega), hk _ _ (by omega) (by omega), hk _ _ (by omega) (by omega), hk _ _ (by omega) (by omega), hk _ _ (by omega) (by omega), hk _ _ (by omega) (by omega), hk _ _ (by omega) (by omega)]
    exact d x hx
  · rw [ln_a] at ht
    by_cases q : t = SL.length
    · rw [q, gd_e, h8]
    · rw [gd_l (by omega), hk _ _ (by omega) (by omega)]; exact e t (by omega)
/-- between two threads -/
def CXt (Z : Nat → Nat → Int32) (tp : Nat → Nat) (n cnt B : Nat) (A : Nat → Nat → Int32) (j st : Nat) (E : List Ent) (AL : List Act) (SL : List Nat) (ow : Nat → Int32) (lb mb mk dn : Int32) (kd : Nat → Int32) : Prop :=
  ∀ th hd, th < 4 → hd < 4 → CS Z tp n cnt B (up_2 (up_2 A 68 6 (nI th)) 68 7 (nI hd)) j th hd 0 st E AL SL ow lb mb mk dn kd
theorem cs_cx (hB : 126 ≤ B) (S : CS Z tp n cnt B A j th hd 0 st E AL SL ow lb mb mk dn kd) : CXt Z tp n cnt B A j st E AL SL ow lb mb mk dn kd := fun th' hd' l6 l7 =>
  cs_th hB S (fun r k hk => by rw [u2 (by omega), u2 (by omega)]) (by rw [u2 (by omega), u2s]) u2s l6 l7
theorem cx_ct (hB : 126 ≤ B) (X : CXt Z tp n cnt B A j st E AL SL ow lb mb mk dn kd) : CT_ Z B tp n cnt A j := by
  obtain ⟨⟨s1, s2, s3, s4, s5, s6, s7⟩, -⟩ := X 0 0 (by omega) (by omega)
  rw [u2r (by omega), u2r (by omega)] at s1 s2
  exact ⟨s1, s2, s3, s4, fun k hk => by have := s5 k hk; rw [u2 (by omega), u2 (by omega)] at this; exact this, s6, fun r k hr => by have := s7 r k hr; rw [u2 (by omega), u2 (by omega)] at this; exact this⟩
theorem cx_n (hB : 126 ≤ B) (X : CXt Z tp n cnt B A j st E AL SL ow lb mb mk dn kd) : A B 11 = nI SL.length ∧ A B 10 = nI E.length := by
  obtain ⟨-, -, -, ⟨c1, c2, -⟩, -⟩ := X 0 0 (by omega) (by omega)
  rw [u2 (by omega), u2 (by omega)] at c1 c2
  exact ⟨c2, c1⟩
/-- openThread -/
theorem c_open (Q : CQ h B) (X : CXt Z tp n cnt B A j st E AL SL ow lb mb mk dn kd) (h4 : SL.length < 4) (hj : j + 1 < 2 ^ 20) : ∃ A', f_X6_openThread 68 (sA h A) = some (1, sA h A') ∧ CS Z tp n cnt B A' (j + 1) SL.length 0 0 st E AL (SL ++ [E.length]) ow lb mb mk dn kd := by
  have hB := Q.2.2.2.2.2.1
  have okB := Q.2.2.2.2.1.1
  have ok7 := (Q.2.2.2.2.1.2 7 (by omega)).2.1
  have len7 : hp_l h (B + 1 + 7) = 4 := by rw [(Q.2.2.2.2.1.2 7 (by omega)).2.2]; rfl
  obtain ⟨n1, n2⟩ := cx_n hB X
  have S := X SL.length 0 h4 (by omega)
  have S2 := cs_open (A' := up_2 (up_2 (up_2 (up_2 A 68 6 (nI SL.length)) (B + 8) SL.length (nI E.length)) B 11 (nI (SL.length + 1))) 68 7 0) hB S h4 (fun r k k1 k2 => by
    by_cases q : r = 68 ∧ k = 7
    · rw [q.1, q.2, u2s, u2s]; rfl
    · rw [u2 (by omega), u2 (by omega), u2 (by omega)]; exact (u2 (by omega)).symm) (by rw [u2 (by omega), u2 (by omega), u2s]) (by rw [u2 (by omega), u2s])
  obtain ⟨A', x1, x2, -⟩ := c_adv Q S2 hj
  refine ⟨A', ?_, x2⟩
  unfold f_X6_openThread b_X6_openThread_0
  rw [q_co Q, Option.bind_some, q_i okB, Option.bind_some, n1, if_pos (show nI SL.length < (4 : Int32) from nI_lt (b := 4) h4 (by omega))]
  unfold b_X6_openThread_24
  rw [q_co Q, Option.bind_some, q_i okB, Option.bind_some, n1, q_p Q.1.1, Option.bind_some, q_co Q, Option.bind_some, q_cr Q (by omega), Option.bind_some, q_i Q.1.1, Option.bind_some, u2s, Option.bind_some, q_i okB, Option.bind_some, u2 (by omega), n2, q_s ok7 (by omega) (by omega), Option.bind_some, q_co Q, Option.bind_some, q_i okB, Option.bind_some, u2 (by omega), u2 (by omega), n1, da, q_p okB, Option.bind_some, q_p Q.1.1, Option.bind_some, q_68 Q, Option.bind_some, q_v Q.2.2.2.2.2.2.1, Option.bind_some]
  rw [show f_X7_advance 69 (sA h (up_2 (up_2 (up_2 (up_2 A 68 6 (nI SL.length)) (B + 1 + 7) SL.length (nI E.length)) B 11 (nI (SL.length + 1))) 68 7 0)) = _ from x1, Option.bind_some]
  exact ok_z_1
theorem c_full (Q : CQ h B) (X : CXt Z tp n cnt B A j st E AL SL ow lb mb mk dn kd) (h4 : SL.length = 4) : ∃ A', f_X6_openThread 68 (sA h A) = some (0, sA h A') ∧ CF Z B A' 4 (tk tp n j).2.1 := by
  have hB := Q.2.2.2.2.2.1
  have okB := Q.2.2.2.2.1.1
  have T := cx_ct hB X
  obtain ⟨n1, -⟩ := cx_n hB X
  obtain ⟨A3, f1, f2⟩ := c_refuse (A := A) (k := 4) (p := (tk tp n j).2.1) Q T.2.2.2.2.2.2
  refine ⟨A3, ?_, f2⟩
  unfold f_X6_openThread b_X6_openThread_0
  rw [q_co Q, Option.bind_some, q_i okB, Option.bind_some, n1, if_neg (show ¬ nI SL.length < (4 : Int32) from nI_nlt (b := 4) (by omega) (by omega))]
  unfold b_X6_openThread_11
  rw [q_68 Q, Option.bind_some, c_pl Q, Option.bind_some, T.1.2.2.1, q_v Q.1.1, Option.bind_some]
  exact bz (v := 0) f1 (Or.inl rfl)
theorem an63 (v : Int32) : ∃ k, k < 64 ∧ v &&& (63 : Int32) = nI k := by
  refine ⟨(v &&& (63 : Int32)).toBitVec.toNat, ?_, ?_⟩
  · have : (v &&& (63 : Int32)).toBitVec = v.toBitVec &&& 63#32 := rfl
    rw [this, BitVec.toNat_and]
    exact Nat.lt_of_le_of_lt Nat.and_le_right (by decide)
  · apply Int32.toBitVec_inj.mp
    have : ∀ b : BitVec 32, b.toNat < 64 → b = (nI b.toNat).toBitVec := fun b hb => by
      apply BitVec.eq_of_toNat_eq
      show _ = ((Int32.ofNat b.toNat).toBitVec).toNat
      rw [Int32.toBitVec_ofNat', BitVec.toNat_ofNat, Nat.mod_eq_of_lt (by omega)]
    refine this _ ?_
    have e : (v &&& (63 : Int32)).toBitVec = v.toBitVec &&& 63#32 := rfl
    rw [e, BitVec.toNat_and]
    exact Nat.lt_of_le_of_lt Nat.and_le_right (by decide)
/-- an entry more, after a fault -/
theorem c_addF {K p : Nat} {op tl bs dg ob : Int32} (Q : CQ h B) (F : CF Z B A K p) : ∃ v A', f_X0_add B op tl bs dg ob (sA h A) = some (v, sA h A') ∧ CF Z B A' K p := by
  have hB := Q.2.2.2.2.2.1
  have okB := Q.2.2.2.2.1.1
  have okR : ∀ i, i < 10 → ok_o h (B + 1 + i) 100 := fun i hi => (Q.2.2.2.2.1.2 i hi).2.1
  have lenR : ∀ i, i < 7 → hp_l h (B + 1 + i) = 64 := fun i hi => by rw [(Q.2.2.2.2.1.2 i (by omega)).2.2]; unfold m_len; rw [if_pos hi]
  obtain ⟨e, e1, e2⟩ := an63 (A B 10)
  refine ⟨nI e, up_2 (up_2 (up_2 (up_2 (up_2 (up_2 (up_2 A (B + 1) e op) (B + 2) e tl) (B + 3) e bs) (B + 4) e dg) (B + 5) e ob) (B + 7) e (-1)) B 10 (mn_i (A B 10 + 1) 64), ?_, ⟨?_, ?_⟩, fun r k hr => ?_⟩
  · unfold f_X0_add b_X0_add_0
    rw [q_i okB, Option.bind_some, e2, q_cr Q (by omega), Option.bind_some, q_s (okR 0 (by omega)) (by rw [lenR 0 (by omega)]; omega) (by omega), Option.bind_some, q_cr Q (by omega), Option.bind_some, q_s (okR 1 (by omega)) (by rw [lenR 1 (by omega)]; omega) (by omega), Option.bind_some, q_cr Q (by omega), Option.bind_some, q_s (okR 2 (by omega)) (by rw [lenR 2 (by omega)]; omega) (by omega), Option.bind_some, q_cr Q (by omega), Option.bind_some, q_s (okR 3 (by omega)) (by rw [lenR 3 (by omega)]; omega) (by omega), Option.bind_some, q_cr Q (by omega), Option.bind_some, q_s (okR 4 (by omega)) (by rw [lenR 4 (by omega)]; omega) (by omega), Option.bind_some, q_cr Q (by omega), Option.bind_some, q_s (okR 6 (by omega)) (by rw [lenR 6 (by omega)]; omega) (by omega), Option.bind_some, q_i okB, Option.bind_some, u2 (by omega), u2 (by omega), u2 (by omega), u2 (by omega), u2 (by omega), u2 (by omega), q_p okB, Option.bind_some]
  · rw [u2 (by omega), u2 (by omega), u2 (by omega), u2 (by omega), u2 (by omega), u2 (by omega), u2 (by omega)]; exact F.1.1
  · rw [u2 (by omega), u2 (by omega), u2 (by omega), u2 (by omega), u2 (by omega), u2 (by omega), u2 (by omega)]; exact F.1.2
  · rw [u2 (by omega), u2 (by omega), u2 (by omega), u2 (by omega), u2 (by omega), u2 (by omega), u2 (by omega)]; exact F.2 r k hr
end
section
variable {Z : Nat → Nat → Int32} {tp : Nat → Nat} {n : Nat} {g : AH} {A A' : Nat → Nat → Int32} {j0 tc j th hd ne st : Nat} {E : List Ent} {AL : List Act} {SL : List Nat} {ow : Nat → Int32} {lb mb mk dn : Int32} {kd : Nat → Int32}
theorem rr_th {th' hd' : Nat} (S : RR Z tp n A j0 tc j th hd ne st E AL SL ow lb mb mk dn kd) (hk : ∀ r k, ¬ (r = 102 ∧ 17 ≤ k ∧ k ≤ 20) → A' r k = A r k) (h17 : A' 102 17 = nI th') (h18 : A' 102 18 = nI hd') (h19 : A' 102 19 = nI 0) (h20 : A' 102 20 = if dn ≠ -1 ∧ mk = nI th' then 1 else 0) (l6 : th' < 4) (l7 : hd' < 4) : RR Z tp n A' j0 tc j th' hd' 0 st E AL SL ow lb mb mk dn kd := by
  obtain ⟨a, ⟨w1, w2, w3, w4, w5, w6⟩, c, ⟨d1, d2, d3, d4, d5, d6, d7⟩, e', f, g, i, kk, l1, l2, l3, l4, l5, l6', l7'⟩ := S
  refine ⟨rt_cg a (fun r k k1 k2 k3 => hk r k (by omega)), ⟨by rw [hk _ _ (by omega)]; exact w1, by rw [hk _ _ (by omega)]; exact w2, h17, h18, h19, h20⟩, fun l hl => by rw [hk _ _ (by omega)]; exact c l hl, ?_, fun q hq => by rw [hk _ _ (by omega)]; exact e' q hq, fun t ht => by rw [hk _ _ (by omega)]; exact f t ht, fun m hm => by rw [hk _ _ (by omega), hk _ _ (by omega), hk _ _ (by omega), hk _ _ (by omega)]; exact g m hm, fun x hx => ⟨fun h9 => ir_F (fun q hq => hk _ _ (by omega)) ((i x hx).1 h9), (i x hx).2⟩, ⟨kk.1, kk.2.1, kk.2.2.1, fun q hq => by rw [hk _ _ (by omega)]; exact kk.2.2.2 q hq⟩, l1, l2, l3, l4, l6, l7, by omega⟩
  rw [hk _ 6 (by omega), hk _ 7 (by omega), hk _ 8 (by omega), hk _ 9 (by omega), hk _ 10 (by omega), hk _ 11 (by omega), hk _ 12 (by omega)]
  exact ⟨d1, d2, d3, d4, d5, d6, d7⟩
theorem rr_open (S : RR Z tp n A j0 tc j th hd ne st E AL SL ow lb mb mk dn kd) (h4 : SL.length < 4) (hj : j = j0 + tc) (hk : ∀ r k, ¬ (r = 107 ∧ (k = 7 ∨ k = 13 + SL.length)) → A' r k = A r k) (h7 : A' 107 7 = nI (SL.length + 1)) (h13 : A' 107 (13 + SL.length) = nI (rxl E E.length)) : RR Z tp n A' j0 tc j th hd ne st E AL (SL ++ [E.length]) ow lb mb mk dn kd := by
  obtain ⟨a, ⟨w1, w2, w3, w4, w5, w6⟩, c, ⟨d1, d2, d3, d4, d5, d6, d7⟩, e', f, g, i, kk, l1, l2, l3⟩ := S
  refine ⟨rt_cg a (fun r k k1 k2 k3 => hk r k (by omega)), ⟨by rw [hk _ _ (by omega)]; exact w1, by rw [hk _ _ (by omega)]; exact w2, by rw [hk _ _ (by omega)]; exact w3, by rw [hk _ _ (by omega)]; exact w4, by rw [hk _ _ (by omega)]; exact w5, by rw [hk _ _ (by omega)]; exact w6⟩, fun l hl => by rw [hk _ _ (by omega)]; exact c l hl, ?_, fun q hq => by rw [hk _ _ (by omega)]; exact e' q hq, fun t ht => ?_, fun m hm => by rw [hk _ _ (by omega), hk _ _ (by omega), hk _ _ (by omega), hk _ _ (by omega)]; exact g m hm, fun x hx => ⟨fun h9 => ir_F (fun q hq => hk _ _ (by omega)) ((i x hx).1 h9), (i x hx).2⟩, ⟨fun z => absurd z (by rw [ln_a]; omega), fun _ => hj, kk.2.2.1, fun q hq => by rw [hk _ _ (by omega)]; exact kk.2.2.2 q hq⟩, l1, by rw [ln_a]; omega, l3⟩
  · rw [hk _ 6 (by omega), h7, hk _ 8 (by omega), hk _ 9 (by omega), hk _ 10 (by omega), hk _ 11 (by omega), hk _ 12 (by omega), ln_a]
    exact ⟨d1, rfl, d3, d4, d5, d6, d7⟩
  · rw [ln_a] at ht
    by_cases q : t = SL.length
    · rw [q, gd_e, h13]; exact ⟨rfl, Nat.le_refl _⟩
    · rw [gd_l (by omega), hk _ _ (by omega)]; exact f t (by omega)
def RX (Z : Nat → Nat → Int32) (tp : Nat → Nat) (n : Nat) (A : Nat → Nat → Int32) (j0 tc j st : Nat) (E : List Ent) (AL : List Act) (SL : List Nat) (ow : Nat → Int32) (lb mb mk dn : Int32) (kd : Nat → Int32) : Prop :=
  ∀ th hd, th < 4 → hd < 4 → RR Z tp n (up_2 (up_2 (up_2 (up_2 A 102 17 (nI th)) 102 18 (nI hd)) 102 19 (nI 0)) 102 20 (if dn ≠ -1 ∧ mk = nI th then 1 else 0)) j0 tc j th hd 0 st E AL SL ow lb mb mk dn kd
theorem rr_rx (S : RR Z tp n A j0 tc j th hd ne st E AL SL ow lb mb mk dn kd) : RX Z tp n A j0 tc j st E AL SL ow lb mb mk dn kd := fun th' hd' l6 l7 =>
  rr_th S (fun r k hk => by rw [u2 (by omega), u2 (by omega), u2 (by omega), u2 (by omega)]) (by rw [u2 (by omega), u2 (by omega), u2 (by omega), u2s]) (by rw [u2 (by omega), u2 (by omega), u2s]) (by rw [u2 (by omega), u2s]) u2s l6 l7
theorem rx_f (X : RX Z tp n A j0 tc j st E AL SL ow lb mb mk dn kd) : RT Z tp n A j ∧ A 102 11 = 0 ∧ A 102 15 = nI (rxl E E.length) ∧ A 107 7 = nI SL.length := by
  obtain ⟨a, ⟨w1, w2, -⟩, -, ⟨-, d2, -⟩, -⟩ := X 0 0 (by omega) (by omega)
  rw [u2 (by omega), u2 (by omega), u2 (by omega), u2 (by omega)] at w1 w2 d2
  exact ⟨rt_cg a (fun r k k1 k2 k3 => by rw [u2 (by omega), u2 (by omega), u2 (by omega), u2 (by omega)]), w1, w2, d2⟩
theorem rx_wb {p : Nat} (X : RX Z tp n A j0 tc j st E AL SL ow lb mb mk dn kd) : WB Z tp n 0 p A j 64 :=
  wb_cg (rr_wb (p := p) (X 0 0 (by omega) (by omega))) (fun r k k1 k2 k3 => by rw [u2 (by omega), u2 (by omega), u2 (by omega), u2 (by omega)])
theorem rx_bad {k q : Nat} (R : RZ g) (X : RX Z tp n A j0 tc j st E AL SL ow lb mb mk dn kd) (hq : q ≤ 1000) (h0 : 0 < k) (h8 : k < 8) : ∃ A', f_X11_bad 102 (nI k) (nI q) (sA g A) = some (sA g A') ∧ FT Z tp n k q A' := by
  obtain ⟨A', x1, x2, x3⟩ := w_bg (k := k) (p := q) (q := q) R (rx_wb X) (Or.inl rfl) hq h0 h8
  rw [bqq_e] at x2
  have : bd 0 k = k := rfl
  rw [this] at x2
  exact ⟨A', x1, h0, _, _, x2⟩
/-- the reference opens a thread -/
theorem r_open {r122 : Nat → AH → Option (Int32 × AH)} (R : RZ g) (X : RX Z tp n A j0 tc j st E AL SL ow lb mb mk dn kd) (h4 : SL.length < 4) (hj : j = j0 + tc) (htc : tc < 480) (hd : ¬ (dn ≠ -1 ∧ mk = nI SL.length)) : ∃ A', b_X11_reads_154 r122 102 (sA g A) = ((f_X11_block dp_ 102 (-1 : Int32) (sA g A')).bind fun q17 => if q17.1 = 0 then b_X11_reads_219 q17.2 else b_X11_reads_221 r122 102 q17.2) ∧ RR Z tp n A' j0 (tc + 1) (j + 1) SL.length 0 0 st E AL (SL ++ [E.length]) ow lb mb mk dn kd := by
  obtain ⟨-, n1, n2, n3⟩ := rx_f X
  have S := X SL.length 0 h4 (by omega)
  rw [if_neg hd] at S
  have S2 := rr_open (A' := up_2 (up_2 (up_2 (up_2 (up_2 (up_2 A 102 17 (nI SL.length)) 107 7 (nI (SL.length + 1))) 107 (13 + SL.length) (nI (rxl E E.length))) 102 18 0) 102 19 0) 102 20 0) S h4 hj (fun r k hk => by
    by_cases q : r = 102 ∧ (k = 18 ∨ k = 19 ∨ k = 20)
    · obtain ⟨rfl, rfl | rfl | rfl⟩ := q
      · rw [u2 (by omega), u2 (by omega), u2s, u2 (by omega), u2 (by omega), u2s]; rfl
      · rw [u2 (by omega), u2s, u2 (by omega), u2s]; rfl
      · rw [u2s, u2s]
    · rw [u2 (by omega), u2 (by omega), u2 (by omega), u2 (by omega), u2 (by omega)]
      rw [u2 (A := up_2 (up_2 (up_2 A 102 17 (nI SL.length)) 102 18 (nI 0)) 102 19 (nI 0)) (by omega), u2 (A := up_2 (up_2 A 102 17 (nI SL.length)) 102 18 (nI 0)) (by omega), u2 (A := up_2 A 102 17 (nI SL.length)) (by omega)]) (by rw [u2 (by omega), u2 (by omega), u2 (by omega), u2 (by omega), u2s]) (by rw [u2 (by omega), u2 (by omega), u2 (by omega), u2s])
  obtain ⟨A', x1, x2, -⟩ := r_next R S2 (by rw [ln_a]; omega) htc
  refine ⟨A', ?_, x2⟩
  unfold b_X11_reads_154
  rw [v_r7 R, Option.bind_some, show l_i (sA g A) 107 (7 : Int32) = _ from v_l7 (k := 7) R (by omega), Option.bind_some, n3, v_p R, Option.bind_some, v_r7 R, Option.bind_some, show l_i (sA g (up_2 A 102 17 (nI SL.length))) 107 (7 : Int32) = _ from v_l7 (k := 7) R (by omega), Option.bind_some, u2 (by omega), n3, da, show s_i (sA g (up_2 A 102 17 (nI SL.length))) 107 (7 : Int32) (nI (SL.length + 1)) = _ from v_s7 (k := 7) R (by omega), Option.bind_some, v_r7 R, Option.bind_some, v_g R, Option.bind_some, v_g R, Option.bind_some, u2 (by omega), u2s, u2 (by omega), u2 (by omega), n2, ad, v_s7 R (by omega), Option.bind_some, v_p R, Option.bind_some, v_p R, Option.bind_some, show ∀ A3 : Nat → Nat → Int32, p_z (sA g A3) 102 11 20 0 = some (sA g (up_2 A3 102 20 0)) from fun A3 => if_pos ⟨R.1, Or.inl rfl⟩, Option.bind_some, v_v R, Option.bind_some, x1, Option.bind_some, v_v R, Option.bind_some]
end
section
variable {E : List Ent} {AL : List Act} {SL : List Nat} {ow kd : Nat → Int32} {mk dn : Int32}
/-- a thread is opened -/
theorem lv_open (V : LV SL.length E AL SL ow mk dn kd) : LV SL.length E AL (SL ++ [E.length]) ow mk dn kd := by
  obtain ⟨a, b, c, d, o⟩ := V
  refine ⟨fun e he => ?_, b, fun t ht => ?_, ⟨d.1, d.2.1.imp id (fun ⟨t, t1, t2⟩ => ⟨t, by rw [ln_a]; omega, t2⟩), d.2.2⟩, fun l hl => (o l hl).imp id (fun ⟨t, t1, t2⟩ => ⟨t, by rw [ln_a]; omega, t2⟩)⟩
  · obtain ⟨⟨s1, s2, s3, s4, s5⟩, f⟩ := a e he
    refine ⟨⟨⟨by rw [ln_a]; omega, s1.2.1, ?_⟩, s2, s3, s4, s5⟩, f⟩
    rw [gd_l s1.1]; exact s1.2.2
  · rw [ln_a] at ht
    by_cases q : t = SL.length
    · rw [q, gd_e]
      exact ⟨Nat.le_refl _, fun z => absurd z (Nat.lt_irrefl _), fun z => absurd z (Nat.lt_irrefl _)⟩
    · rw [gd_l (by omega)]; exact c t (by omega)
theorem lv_dn0 (V : LV SL.length E AL SL ow mk dn kd) (h4 : SL.length < 4) : ¬ (dn ≠ -1 ∧ mk = nI SL.length) := by
  obtain ⟨a, b, c, d, o⟩ := V
  rintro ⟨z1, z2⟩
  obtain e | ⟨d', d1, d2, d3, d4, -⟩ := d.2.2
  · exact z1 e
  · have hb := b.1 d' d1
    have ha := (a _ hb.1).1.1.1
    rw [hb.2.2.2.2.1] at ha
    rw [d4] at z2
    exact absurd ((nI_eq (by omega) (by omega)).mp z2) (by omega)
theorem lv_sl (V : LV SL.length E AL SL ow mk dn kd) : ∀ s, s ∈ SL → s < E.length := fun s hs => by
  obtain ⟨i, p, e⟩ := List.mem_iff_getElem.mp hs
  have := (V.2.2.1 i p).2.2 p
  rw [List.getD_eq_getElem?_getD, List.getElem?_eq_getElem p] at this
  rw [← e]
  exact this
end
theorem cd_0 {c : Nat} (h : codes c) : c / 100 = 0 ↔ c = 0 := by
  unfold codes at h
  omega
/-- the threads lie one after another, each to its stop -/
def TN (E : List Ent) (SL : List Nat) : Prop := (SL = [] → E = []) ∧ (0 < SL.length → SL.getD 0 0 = 0) ∧ ∀ t, t < SL.length → ∃ z, SL.getD t 0 ≤ z ∧ z < E.length ∧ en_op (E.getD z dE) = 10 ∧ (∀ e, SL.getD t 0 ≤ e → e < z → en_op (E.getD e dE) ≠ 10) ∧ (t + 1 < SL.length → SL.getD (t + 1) 0 = z + 1) ∧ (t + 1 = SL.length → E.length = z + 1)
theorem tn_s {E E' X : List Ent} {AL : List Act} {SL : List Nat} {ow kd : Nat → Int32} {mk dn : Int32} {x : Ent} (T : TN E SL) (e : E' = E ++ X) (V : LV SL.length E' AL (SL ++ [E.length]) ow mk dn kd) (hx : en_op x = 10) : TN (E' ++ [x]) (SL ++ [E.length]) := by
  obtain ⟨t1, t2, t3⟩ := T
  have ls : (SL ++ [E.length]).length = SL.length + 1 := ln_a
  have lE : E.length ≤ E'.length := by rw [e, List.length_append]; omega
  have gE : ∀ i, i < E.length → (E' ++ [x]).getD i dE = E.getD i dE := fun i hi => by
    rw [gd_l (by omega), e]; exact gd_ap hi
  have gS : ∀ i, i < SL.length → (SL ++ [E.length]).getD i 0 = SL.getD i 0 := fun i hi => by
    rw [List.getD_eq_getElem?_getD, List.getD_eq_getElem?_getD, List.getElem?_append_left hi]
  have gL : (SL ++ [E.length]).getD SL.length 0 = E.length := by
    rw [List.getD_eq_getElem?_getD, List.getElem?_append_right (Nat.le_refl _), Nat.sub_self]; rfl
  refine ⟨fun z => by have := congrArg List.length z; rw [ls] at this; exact absurd this (by show ¬ _ = 0; omega), fun _ => ?_, fun t ht => ?_⟩
  · by_cases c : SL = []
    · rw [c]; show E.length = 0; rw [t1 c]; rfl
    · have : 0 < SL.length := List.length_pos_iff.mpr c
      rw [gS 0 this]; exact t2 this
  · by_cases c : t < SL.length
    · obtain ⟨z, z1, z2, z3, z4, z5, z6⟩ := t3 t c
      rw [gS t c]
      refine ⟨z, z1, by rw [ln_a]; omega, by rw [gE z z2]; exact z3, fun i h1 h2 => by rw [gE i (by omega)]; exact z4 i h1 h2, fun h1 => ?_, fun h1 => by omega⟩
      by_cases c' : t + 1 < SL.length
      · rw [gS _ c']; exact z5 c'
      · have : t + 1 = SL.length := by omega
        rw [this, gL]; exact z6 this
    · have et : t = SL.length := by omega
      rw [et, gL]
      refine ⟨E'.length, lE, by rw [ln_a]; omega, by rw [gd_e]; exact hx, fun i h1 h2 => ?_, fun h1 => by omega, fun _ => by rw [ln_a]⟩
      have key : ∀ k, E.length + k < E'.length → en_te (E'.getD (E.length + k) dE) = SL.length := by
        intro k
        induction k with
        | zero =>
          intro hk
          have := (V.2.2.1 SL.length (by omega)).2.1
          rw [gL] at this
          exact this hk
        | succ k ih =>
          intro hk
          have := (V.1 (E.length + k) (by omega)).1.2.2.1 (ih (by omega))
          exact this.2 hk
      rw [gd_l h2]
      obtain ⟨k, rfl⟩ : ∃ k, i = E.length + k := ⟨i - E.length, by omega⟩
      exact ((V.1 _ h2).1.2.2.1 (key k h2)).1
/-- between two threads, or at the end -/
def TSt (Z Z2 : Nat → Nat → Int32) (tp : Nat → Nat) (n cnt B j0 : Nat) (kd : Nat → Int32) (A A2 : Nat → Nat → Int32) (tc j st : Nat) (E : List Ent) (AL : List Act) (SL : List Nat) (ow : Nat → Int32) (lb mb mk dn : Int32) : Prop :=
  CXt Z tp n cnt B A j st E AL SL ow lb mb mk dn kd ∧ RX Z2 tp n A2 j0 tc j st E AL SL ow lb mb mk dn kd ∧ lbI ow lb ∧ LV SL.length E AL SL ow mk dn kd ∧ (E.length ≤ 3 * st + SL.length ∧ tc ≤ 9 * st + 3 * SL.length ∧ SL.length ≤ 4 ∧ st ≤ 20) ∧ (∀ x, x ∈ E → npE x) ∧ TLn tp n j0 tc = RN SL E ∧ j = j0 + tc ∧ nst E = some 0 ∧ TN E SL
/-- both have read a program -/
def PG (Z Z2 : Nat → Nat → Int32) (tp : Nat → Nat) (n cnt B j0 : Nat) (h g : AH) (kd : Nat → Int32) (rC : Option (Nat × AH)) (rR : Option (Int32 × AH)) : Prop :=
  ∃ A' A2' tc j st E AL SL ow lb mb mk dn, rC = some (B + 11, sA h A') ∧ rR = some (1, sA g A2') ∧ TSt Z Z2 tp n cnt B j0 kd A' A2' tc j st E AL SL ow lb mb mk dn ∧ 0 < SL.length
/-- both have found the same fault -/
def PBd (Z Z2 : Nat → Nat → Int32) (B : Nat) (h g : AH) (tp : Nat → Nat) (n : Nat) (rC : Option (Nat × AH)) (rR : Option (Int32 × AH)) : Prop :=
  ∃ K p A' A2', rC = some (B + 11, sA h A') ∧ CF Z B A' K p ∧ rR = some (0, sA g A2') ∧ FT Z2 tp n K p A2'
section
variable {Z Z2 : Nat → Nat → Int32} {tp : Nat → Nat} {n cnt B : Nat} {h g : AH} {A A2 : Nat → Nat → Int32} {j0 : Nat} {kd : Nat → Int32}
theorem c_126 (Q : CQ h B) : b_X6_read_126 68 (sA h A) = some (B + 11, sA h A) := by
  unfold b_X6_read_126
  rw [q_pr Q, Option.bind_some]
/-- after a fault -/
theorem c_r76 (Q : CQ h B) : b_X6_read_76 68 0 (sA h A) = some (B + 11, sA h A) := by
  unfold b_X6_read_76 b_X6_read_98
  rw [if_pos rfl, if_pos rfl]
  exact c_126 Q
theorem c_r54 {K p m f : Nat} (Q : CQ h B) (F : CF Z B A K p) : ∃ A', b_X6_read_54 (l_X6_read_14 (f + 1)) 68 (nI m) (sA h A) = some (B + 11, sA h A') ∧ CF Z B A' K p := by
  have okB := Q.2.2.2.2.1.1
  obtain ⟨v, A1, x1, x2⟩ := c_addF (op := 10) (tl := -1) (bs := -1) (dg := -1) (ob := -1) Q F
  refine ⟨A1, ?_, x2⟩
  unfold b_X6_read_54 b_X6_read_55
  rw [q_co Q, Option.bind_some, q_v okB, Option.bind_some, x1, Option.bind_some]
  show b_X6_read_14 (l_X6_read_14 f) 68 0 (nI m + 1) (sA h A1) = _
  unfold b_X6_read_14 b_X6_read_20
  rw [if_pos rfl, ite_self]
  exact c_r76 Q
theorem thr (Q : CQ h B) (R : RZ g) (hj0 : j0 ≤ 1000) : ∀ r f1 f2 A A2 tc j st E AL SL ow lb mb mk dn, 4 - SL.length < r → r < f1 → r < f2 → TSt Z Z2 tp n cnt B j0 kd A A2 tc j st E AL SL ow lb mb mk dn →
    PG Z Z2 tp n cnt B j0 h g kd (l_X6_read_14 f1 68 1 (nI SL.length) (sA h A)) (l_X11_reads_122 f2 102 (sA g A2)) ∨ PBd Z Z2 B h g tp n (l_X6_read_14 f1 68 1 (nI SL.length) (sA h A)) (l_X11_reads_122 f2 102 (sA g A2)) := by
  intro r
  induction r with
  | zero => intro f1 f2 A A2 tc j st E AL SL ow lb mb mk dn h1; omega
  | succ r ih =>
    intro f1 f2 A A2 tc j st E AL SL ow lb mb mk dn h1 h2 h3 T
    obtain ⟨f1, rfl⟩ : ∃ f, f1 = f + 2 := ⟨f1 - 2, by omega⟩
    obtain ⟨f2, rfl⟩ : ∃ f, f2 = f + 1 := ⟨f2 - 1, by omega⟩
    have T0 := T
    obtain ⟨X, X2, I, V, ⟨b1, b2, b4, b20⟩, NP, hT, ej, NT, TH⟩ := T
    have hB := Q.2.2.2.2.2.1
    have okB := Q.2.2.2.2.1.1
    obtain ⟨n1, n2⟩ := cx_n hB X
    obtain ⟨m0, m1, m2, m3⟩ := rx_f X2
    have CT := cx_ct hB X
    have C := tk_code (tp := tp) (n := n) (j := j)
    have C3 := cd_3 C
    have hn := m0.2.1
    have P := tk_pl (tp := tp) (n := n) (j := j) hn
    have t5 : A 69 0 = (5 : Int32) ↔ (tk tp n j).1 = 203 := (t_tok (k := 5) CT (by omega)).trans (ckd_all C).2.2.2.2.1
    have t0 : A 69 0 = (0 : Int32) ↔ (tk tp n j).1 = 0 := (t_tok (k := 0) CT (by omega)).trans (ckd_all C).1
    show PG Z Z2 tp n cnt B j0 h g kd (b_X6_read_14 (l_X6_read_14 (f1 + 1)) 68 1 (nI SL.length) (sA h A)) (b_X11_reads_122 (l_X11_reads_122 f2) 102 (sA g A2)) ∨ PBd Z Z2 B h g tp n (b_X6_read_14 (l_X6_read_14 (f1 + 1)) 68 1 (nI SL.length) (sA h A)) (b_X11_reads_122 (l_X11_reads_122 f2) 102 (sA g A2))
    unfold b_X6_read_14 b_X6_read_20 b_X6_read_24 b_X11_reads_122
    rw [if_neg (show ¬ (4 : Int32) < nI SL.length from nI_nlt (a := 4) (by omega) (by omega)), if_neg n10, q_68 Q, Option.bind_some, c_k Q, Option.bind_some, v_g R, Option.bind_some, m0.1.2.2.1]
    by_cases c : (tk tp n j).1 = 203
    · rw [if_pos (t5.mpr c), if_pos (show nI (tk tp n j).1 = (203 : Int32) by rw [c]; rfl)]
      have jl := t_j CT (by omega)
      unfold b_X6_read_35 b_X11_reads_132
      rw [q_v Q.1.1, Option.bind_some, v_r7 R, Option.bind_some, show l_i (sA g A2) 107 (7 : Int32) = _ from v_l7 (k := 7) R (by omega), Option.bind_some, m3]
      by_cases k4 : SL.length = 4
      · right
        rw [if_pos (show nI SL.length = (4 : Int32) by rw [k4]; rfl)]
        obtain ⟨A3, x1, x2⟩ := c_full Q X k4
        obtain ⟨A4, x3, x4⟩ := c_r54 (m := SL.length) (f := f1) Q x2
        obtain ⟨B3, y1, y2⟩ := rx_bad (k := 4) (q := (tk tp n j).2.1) R X2 (by omega) (by omega) (by omega)
        refine ⟨4, _, A4, B3, ?_, x4, ?_, y2⟩
        · rw [x1, Option.bind_some, if_pos rfl]; exact x3
        · unfold b_X11_reads_143
          rw [v_g R, Option.bind_some, v_v R, Option.bind_some, m0.1.2.2.2, show f_X11_bad 102 (4 : Int32) (nI (tk tp n j).2.1) (sA g A2) = _ from y1, Option.bind_some]
          exact ok_z_0
      · rw [if_neg (show ¬ nI SL.length = (4 : Int32) from fun z => k4 ((nI_eq (b := 4) (by omega) (by omega)).mp z))]
        obtain ⟨A3, x1, x2⟩ := c_open Q X (by omega) (by omega)
        obtain ⟨B3, y1, y2⟩ := r_open (r122 := l_X11_reads_122 f2) R X2 (by omega) ej (by omega) (lv_dn0 V (by omega))
        have lt := lv_sl V
        have V2 := lv_open V
        have J : JP Z Z2 B tp n cnt j0 SL.length 0 (SL ++ [E.length]) kd A3 B3 (tc + 1) (j + 1) 0 st E AL ow lb mb mk dn := ⟨x2, y2, I, V2, ⟨ln_a, by rw [ln_a]; omega, by rw [ln_a]; omega⟩, fun _ => NP, fun s hs => by
          rcases List.mem_append.mp hs with hs | hs
          · exact Nat.le_of_lt (lt s hs)
          · rw [List.mem_singleton.mp hs]; exact Nat.le_refl _, NT⟩
        have T2 : TLn tp n j0 (tc + 1) ++ [705] = RN (SL ++ [E.length]) E := by
          rw [rn_o (fun z => absurd (lt _ z) (Nat.lt_irrefl _)), tln_s, hT, ← ej, c, List.append_assoc]
          rfl
        rw [x1, Option.bind_some, if_neg n10, y1]
        unfold b_X6_read_42
        rw [q_v Q.1.1, Option.bind_some]
        obtain ⟨A4, B4, tc', j', hd', st', E', AL', ow', lb', mb', mk', dn', e1, e2, ⟨S, S2, I', V', ⟨d1, d2, d3⟩, NP', SLb', NT'⟩, T', -, ⟨-, ⟨XX, hXX, -⟩, -⟩⟩ | ⟨K0, p0, A4, B4, e1, e2, e3, e4⟩ := blkT (d := dp_) (d' := dp_) Q R (by omega) (by unfold dp_; omega) (by unfold dp_; omega) J T2 (by rw [ln_a]; omega)
        · have bC := S2.2.2.2.2.2.2.2.2.2
          have b8 : AL'.length ≤ 8 := bC.2.2.1
          have s20 : st' ≤ 20 := bC.2.2.2.1
          have ls : (SL ++ [E.length]).length = SL.length + 1 := ln_a
          have ej' : j' = j0 + tc' := S2.2.2.2.2.2.2.2.2.1.2.1 (by omega)
          obtain ⟨A5, u1, u2', -⟩ := c_add (op := 10) (tl := -1) (bs := -1) (dg := -1) (ob := -1) Q S (by omega)
          obtain ⟨B5, w1, w2, -⟩ := s_emit (x := (10, -1, -1, -1, -1, none, none, -1, SL.length)) (a0 := 9) (a1 := 0) (a2 := 0) (a3 := 0) (a4 := 0) R S2 (by omega) (by show (10 : Nat) ≠ 9; decide) rfl (fun F f1 f2 f3 f4 f5 => ⟨f1, fun (z : 10 = 0 ∨ 10 = 2) => absurd z (by decide), fun (z : 10 = 2) => absurd z (by decide), fun (z : 10 = 1) => absurd z (by decide), fun (z : 10 = 3 ∨ 10 = 4) => absurd z (by decide), fun (z : 10 = 5) => absurd z (by decide), fun (z : 10 = 6) => absurd z (by decide), fun (z : 10 = 7) => absurd z (by decide), fun (z : 10 = 8) => absurd z (by decide)⟩)
          have V3 := lv_stop V' d1 (by omega) b8
          rw [e1, Option.bind_some, if_neg n10, e2, Option.bind_some, if_neg n10]
          unfold b_X6_read_50 b_X6_read_55 b_X11_reads_221
          rw [q_co Q, Option.bind_some, q_v okB, Option.bind_some, show f_X0_add B (10 : Int32) (-1 : Int32) (-1 : Int32) (-1 : Int32) (-1 : Int32) (sA h A4) = _ from u1, Option.bind_some, v_v R, Option.bind_some, show f_X11_emit 102 (9 : Int32) (0 : Int32) (0 : Int32) (0 : Int32) (0 : Int32) (sA g B4) = _ from w1, Option.bind_some, da, ← ls]
          refine ih (f1 + 1) f2 A5 B5 tc' j' st' _ AL' (SL ++ [E.length]) ow' lb' mb' mk' dn' (by omega) (by omega) (by omega) ⟨cs_cx hB u2', rr_rx w2, I', by rw [ls]; exact V3, ⟨by rw [ln_a]; omega, by omega, by omega, s20⟩, fun x hx => ?_, ?_, ej', by rw [nst_af rfl, NT']; rfl, tn_s TH hXX V' rfl⟩
          · rcases List.mem_append.mp hx with hx | hx
            · exact NP' rfl x hx
            · rw [List.mem_singleton.mp hx]; exact np_9 (Or.inr (Or.inl rfl))
          · rw [T', rn_a SLb']; rfl
        · right
          rw [e1, Option.bind_some, if_pos rfl, e3, Option.bind_some, if_pos rfl]
          obtain ⟨A5, x3, x4⟩ := c_r54 (m := SL.length) (f := f1) Q e2
          exact ⟨K0, p0, A5, B4, x3, x4, ok_z_0, e4⟩
    · rw [if_neg (fun z => c (t5.mp z)), if_neg (show ¬ nI (tk tp n j).1 = (203 : Int32) from fun z => c ((nI_eq (b := 203) (by omega) (by omega)).mp z))]
      unfold b_X6_read_76 b_X6_read_80 b_X11_reads_235
      rw [if_neg n10, q_68 Q, Option.bind_some, c_k Q, Option.bind_some, v_v R, Option.bind_some, w_kind R m0, Option.bind_some]
      have z274 : ∀ K p (B3 : Nat → Nat → Int32), FT Z2 tp n K p B3 → b_X11_reads_274 102 (sA g B3) = some (0, sA g B3) := fun K p B3 F => by
        unfold b_X11_reads_274
        rw [v_g R, Option.bind_some, if_neg (ft_n0 F)]
        exact ok_z_0
      by_cases c0 : (tk tp n j).1 = 0
      · rw [if_pos (t0.mpr c0), if_pos (show nI ((tk tp n j).1 / 100) = 0 by rw [c0]; rfl)]
        unfold b_X6_read_98 b_X6_read_102 b_X11_reads_254
        rw [if_neg n10, q_co Q, Option.bind_some, q_i okB, Option.bind_some, n1, v_r7 R, Option.bind_some, show l_i (sA g A2) 107 (7 : Int32) = _ from v_l7 (k := 7) R (by omega), Option.bind_some, m3]
        by_cases k0 : SL.length = 0
        · right
          rw [if_pos (show nI SL.length = 0 by rw [k0]; rfl), if_pos (show nI SL.length = 0 by rw [k0]; rfl)]
          have pn : (tk tp n j).2.1 = n := Nat.le_antisymm P.1 ((lx_code (tp := tp) (n := n)).2 c0)
          obtain ⟨A3, f1', f2'⟩ := c_refuse (A := A) (k := 7) (p := n) Q CT.2.2.2.2.2.2
          obtain ⟨B3, y1, y2⟩ := rx_bad (k := 7) (q := n) R X2 hn (by omega) (by omega)
          refine ⟨7, _, A3, B3, ?_, f2', ?_, y2⟩
          · unfold b_X6_read_112
            rw [q_68 Q, Option.bind_some, c_pl Q, Option.bind_some, CT.1.2.2.1, pn, q_v Q.1.1, Option.bind_some, show f_X6_refuse 68 (7 : Int32) (nI n) (sA h A) = _ from f1', Option.bind_some]
            exact c_126 Q
          · unfold b_X11_reads_264
            rw [v_g R, Option.bind_some, v_v R, Option.bind_some, m0.1.1, show f_X11_bad 102 (7 : Int32) (nI n) (sA g A2) = _ from y1, Option.bind_some]
            exact z274 _ _ _ y2
        · left
          have k0' : ¬ nI SL.length = 0 := fun z => k0 ((nI_eq (b := 0) (by omega) (by omega)).mp z)
          rw [if_neg k0', if_neg k0']
          refine ⟨A, A2, tc, j, st, E, AL, SL, ow, lb, mb, mk, dn, c_126 Q, ?_, T0, by omega⟩
          unfold b_X11_reads_274
          rw [v_g R, Option.bind_some, m1, if_pos rfl]
          exact ok_z_1
      · right
        rw [if_neg (fun z => c0 (t0.mp z)), if_neg (show ¬ nI ((tk tp n j).1 / 100) = 0 from fun z => c0 ((cd_0 C).mp ((nI_eq (b := 0) (by omega) (by omega)).mp z)))]
        obtain ⟨A3, f1', f2'⟩ := t_rt Q CT
        obtain ⟨B3, y1, y2⟩ := rx_bad (k := 1) (q := (tk tp n j).2.1) R X2 (by omega) (by omega) (by omega)
        refine ⟨1, _, A3, B3, ?_, f2', ?_, y2⟩
        · unfold b_X6_read_90
          rw [q_v Q.1.1, Option.bind_some, f1', Option.bind_some]
          exact c_126 Q
        · unfold b_X11_reads_242
          rw [v_g R, Option.bind_some, v_v R, Option.bind_some, m0.1.2.2.2, show f_X11_bad 102 (1 : Int32) (nI (tk tp n j).2.1) (sA g A2) = _ from y1, Option.bind_some]
          exact z274 _ _ _ y2
end
