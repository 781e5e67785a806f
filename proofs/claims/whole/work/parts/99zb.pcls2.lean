/-! ===== the class's reader: locals, the maker, entries ===== -/
theorem gd_l {α : Type} {L : List α} {x d : α} {i : Nat} (h : i < L.length) : (L ++ [x]).getD i d = L.getD i d := by
  rw [List.getD_eq_getElem?_getD, List.getD_eq_getElem?_getD, List.getElem?_append_left h]
theorem gd_e {α : Type} {L : List α} {x d : α} : (L ++ [x]).getD L.length d = x := by
  rw [List.getD_eq_getElem?_getD, List.getElem?_append_right (Nat.le_refl _), Nat.sub_self]
  rfl
theorem ln_a {α : Type} {L : List α} {x : α} : (L ++ [x]).length = L.length + 1 := by rw [List.length_append]; rfl
/-- the owners after a look at local l -/
def owL (ow : Nat → Int32) (l th : Nat) : Nat → Int32 := if ow l = -1 then up_1 ow l (nI th) else ow
def lbL (lb : Int32) (l : Nat) : Int32 := lb ||| ((1 : Int32) <<< (nI l &&& 31))
/-- an owned local's bit is set -/
def lbI (ow : Nat → Int32) (lb : Int32) : Prop := (∃ w, w < 32 ∧ lb = nI w) ∧ ∀ l, l < 5 → ow l ≠ -1 → lbL lb l = lb
def mbI (mb : Int32) : Prop := ∃ w, w < 4 ∧ mb = nI w
theorem lbL5 : ∀ w, w < 32 → ∀ l, l < 5 → lbL (nI w) l = nI (w ||| (1 <<< l)) ∧ (w ||| (1 <<< l)) < 32 := by decide
theorem lbL2 : ∀ w, w < 4 → ∀ l, l < 2 → lbL (nI w) l = nI (w ||| (1 <<< l)) ∧ (w ||| (1 <<< l)) < 4 := by decide
theorem mb_L {mb : Int32} {m : Nat} (hm : m < 2) (I : mbI mb) : mbI (lbL mb m) := by
  obtain ⟨w, w1, rfl⟩ := I
  exact ⟨_, (lbL2 w w1 m hm).2, (lbL2 w w1 m hm).1⟩
def mkL (mk : Int32) (th : Nat) : Int32 := if mk = -1 then nI th else mk
theorem or_id3 (a b : Int32) : (a ||| b) ||| b = a ||| b := by
  rw [Int32.or_assoc, Int32.or_self]
theorem lbI_L {ow : Nat → Int32} {lb : Int32} {l th : Nat} (hl : l < 5) (I : lbI ow lb) : lbI (owL ow l th) (lbL lb l) := by
  obtain ⟨⟨w, w1, w2⟩, I⟩ := I
  refine ⟨⟨_, (lbL5 w w1 l hl).2, by rw [w2]; exact (lbL5 w w1 l hl).1⟩, ?_⟩
  clear w1 w2 hl
  intro l' hl' ho
  unfold lbL
  by_cases e : l' = l
  · rw [e]; exact or_id3 _ _
  · have : ow l' ≠ -1 := fun x => ho (by
      unfold owL
      split
      · rw [up_ne e]; exact x
      · exact x)
    have h1 := I l' hl' this
    unfold lbL at h1
    rw [Int32.or_assoc, Int32.or_comm (1 <<< (nI l &&& 31)), ← Int32.or_assoc, h1]
section
variable {Z : Nat → Nat → Int32} {tp : Nat → Nat} {n cnt B : Nat} {h : AH} {A A' : Nat → Nat → Int32} {j th hd ne st : Nat} {E : List Ent} {AL : List Act} {SL : List Nat} {ow : Nat → Int32} {lb mb mk dn : Int32} {kd : Nat → Int32}
/-- CS after a change of some cells of the code's own fields, of owners, of the reader's fields -/
theorem cs_fld {ow' : Nat → Int32} {lb' mb' mk' dn' : Int32} {hd' ne' : Nat} (hB : 126 ≤ B) (S : CS Z tp n cnt B A j th hd ne st E AL SL ow lb mb mk dn kd) (hk : ∀ r k, ¬ (r = 71 ∧ k < 5) → ¬ (r = 68 ∧ (k = 7 ∨ k = 8)) → ¬ (r = B ∧ 14 ≤ k ∧ k < 18) → (r ≠ 68 ∨ k = 6 ∨ k ≤ 1) → A' r k = A r k)
    (h1 : ∀ l, l < 5 → A' 71 l = ow' l) (h2 : A' 68 7 = nI hd') (h3 : A' 68 8 = nI ne') (h4 : A' B 14 = lb') (h5 : A' B 15 = mb') (h6 : A' B 16 = mk') (h7 : A' B 17 = dn') (hh : hd' < 4) (hn : ne' ≤ 4) : CS Z tp n cnt B A' j th hd' ne' st E AL SL ow' lb' mb' mk' dn' kd := by
  obtain ⟨⟨s1, s2, s3, s4, s5, s6⟩, ⟨a1, a2, a3⟩, b, ⟨c1, c2, c3, c4, c5, c6, c7, c8⟩, d, e, f, g, i1, i2, i3, i4, i5, i6, i7⟩ := S
  have e69 : A' 69 = A 69 := by funext k; exact hk 69 k (by omega) (by omega) (by omega) (by omega)
  have e70 : A' 70 = A 70 := by funext k; exact hk 70 k (by omega) (by omega) (by omega) (by omega)
  have kk : ∀ i q, 1 ≤ i → A' (B + i) q = A (B + i) q := fun i q hi => hk _ _ (by omega) (by omega) (by omega) (by omega)
  refine ⟨⟨by rw [e69]; exact s1, by rw [e70]; exact s2, s3, s4, fun k hk' => by rw [hk 65 k (by omega) (by omega) (by omega) (by omega)]; exact s5 k hk', s6.1, fun r k hr => by rw [hk r k (by omega) (by omega) (by omega) (by omega)]; exact s6.2 r k hr⟩, ⟨by rw [hk 68 6 (by omega) (by omega) (by omega) (by omega)]; exact a1, h2, h3⟩, h1, ?_, fun x hx => ?_, fun t ht => by rw [kk _ _ (by omega)]; exact e t ht, fun m hm => by rw [kk _ _ (by omega), kk _ _ (by omega)]; exact f m hm, fun c hc => by rw [kk _ _ (by omega)]; exact g c hc, i1, i2, i3, i4, i5, hh, hn⟩
  · rw [hk B 10 (by omega) (by omega) (by omega) (by omega), hk B 11 (by omega) (by omega) (by omega) (by omega), hk B 12 (by omega) (by omega) (by omega) (by omega), hk B 13 (by omega) (by omega) (by omega) (by omega)]
    exact ⟨c1, c2, c3, c4, h4, h5, h6, h7⟩
  · unfold EC
    rw [kk _ _ (by omega), kk _ _ (by omega), kk _ _ (by omega), kk _ _ (by omega), kk _ _ (by omega), kk _ _ (by omega), kk _ _ (by omega)]
    exact d x hx
theorem c_loc {l : Nat} (Q : CQ h B) (S : CS Z tp n cnt B A j th hd ne st E AL SL ow lb mb mk dn kd) (I : lbI ow lb) (hl : l < 5) (hx : cw1 (tk tp n j).1 = l + 1) :
    (owL ow l th l = nI th ∧ ∃ A', f_X6_checkLocal 68 (sA h A) = some (1, sA h A') ∧ CS Z tp n cnt B A' j th hd ne st E AL SL (owL ow l th) (lbL lb l) mb mk dn kd ∧ A' 68 = A 68) ∨ (¬ owL ow l th l = nI th ∧ ∃ A', f_X6_checkLocal 68 (sA h A) = some (0, sA h A') ∧ CF Z B A' 3 (tk tp n j).2.1) := by
  have hB := Q.2.2.2.2.2.1
  have S' := S
  obtain ⟨s0, ⟨a1, a2, a3⟩, b, ⟨c1, c2, c3, c4, c5, c6, c7, c8⟩, d, e, f, g, i1, i2, i3, i4, i5, i6, i7⟩ := S
  have fault : ∀ A1 : Nat → Nat → Int32, A1 69 2 = nI (tk tp n j).2.1 → FC Z B A1 → ∃ A', b_X6_checkLocal_59 68 (sA h A1) = some (0, sA h A') ∧ CF Z B A' 3 (tk tp n j).2.1 := fun A1 hA1 hz => by
    obtain ⟨A', x1, x2⟩ := c_refuse (A := A1) (k := 3) (p := (tk tp n j).2.1) Q hz
    unfold b_X6_checkLocal_59
    rw [q_68 Q, Option.bind_some, c_pl Q, Option.bind_some, hA1, q_v Q.1.1, Option.bind_some, show f_X6_refuse 68 (3 : Int32) (nI (tk tp n j).2.1) (sA h A1) = _ from x1, Option.bind_some, if_pos rfl]
    exact ⟨A', ok_z_0, x2⟩
  unfold f_X6_checkLocal b_X6_checkLocal_0
  rw [q_68 Q, Option.bind_some, c_w Q, Option.bind_some, c_wh S' hx, and7 (by omega), q_ow Q, Option.bind_some, q_l Q.2.1.1 (by rw [Q.2.1.2]; omega) (by omega), Option.bind_some, b l hl]
  by_cases e1 : ow l = -1
  · rw [if_pos e1]
    have eo : owL ow l th = up_1 ow l (nI th) := if_pos e1
    left
    rw [eo, up_same]
    refine ⟨rfl, up_2 (up_2 A 71 l (nI th)) B 14 (lbL lb l), ?_, ?_, ?_⟩
    · unfold b_X6_checkLocal_21
      rw [q_ow Q, Option.bind_some, q_i Q.1.1, Option.bind_some, a1, q_s Q.2.1.1 (by rw [Q.2.1.2]; omega) (by omega), Option.bind_some, q_co Q, Option.bind_some, q_i Q.2.2.2.2.1.1, Option.bind_some, u2 (by omega), c5, q_p Q.2.2.2.2.1.1, Option.bind_some]
      unfold b_X6_checkLocal_46
      rw [q_ow Q, Option.bind_some, q_l Q.2.1.1 (by rw [Q.2.1.2]; omega) (by omega), Option.bind_some, q_i Q.1.1, Option.bind_some, u2 (by omega), u2s, u2 (by omega), u2 (by omega), a1, if_pos rfl]
      exact ok_z_1
    · refine cs_fld hB S' (fun r k k1 k2 k3 k4 => ?_) (fun l' hl' => ?_) ?_ ?_ u2s ?_ ?_ ?_ i6 i7
      · rw [u2 (by omega), u2 (by omega)]
      · rw [u2 (by omega)]
        by_cases el : l' = l
        · subst el; rw [u2s, up_same]
        · rw [u2 (by omega), up_ne el]; exact b l' hl'
      · rw [u2 (by omega), u2 (by omega)]; exact a2
      · rw [u2 (by omega), u2 (by omega)]; exact a3
      · rw [u2 (by omega), u2 (by omega)]; exact c6
      · rw [u2 (by omega), u2 (by omega)]; exact c7
      · rw [u2 (by omega), u2 (by omega)]; exact c8
    · rw [u2r (by omega), u2r (by omega)]
  · rw [if_neg e1]
    have eo : owL ow l th = ow := if_neg e1
    have el : lbL lb l = lb := I.2 l hl e1
    rw [eo, el]
    unfold b_X6_checkLocal_46
    rw [q_ow Q, Option.bind_some, q_l Q.2.1.1 (by rw [Q.2.1.2]; omega) (by omega), Option.bind_some, q_i Q.1.1, Option.bind_some, b l hl, a1]
    by_cases e2 : ow l = nI th
    · left
      rw [if_pos e2]
      exact ⟨e2, A, ok_z_1, S', rfl⟩
    · right
      rw [if_neg e2]
      exact ⟨e2, fault A s0.1.2.2.1 s0.2.2.2.2.2.2⟩
theorem c_mk (Q : CQ h B) (S : CS Z tp n cnt B A j th hd ne st E AL SL ow lb mb mk dn kd) :
    ((mkL mk th = nI th ∧ ne = 0 ∧ dn = -1) ∧ ∃ A', f_X6_checkMaker 68 (sA h A) = some (1, sA h A') ∧ CS Z tp n cnt B A' j th hd ne st E AL SL ow lb mb (mkL mk th) dn kd) ∨ (¬ (mkL mk th = nI th ∧ ne = 0 ∧ dn = -1) ∧ ∃ A', f_X6_checkMaker 68 (sA h A) = some (0, sA h A') ∧ CF Z B A' 6 (tk tp n j).2.1) := by
  have hB := Q.2.2.2.2.2.1
  have S' := S
  obtain ⟨s0, ⟨a1, a2, a3⟩, b, ⟨c1, c2, c3, c4, c5, c6, c7, c8⟩, d, e, f, g, i1, i2, i3, i4, i5, i6, i7⟩ := S
  have b22 : ∀ A1 : Nat → Nat → Int32, CS Z tp n cnt B A1 j th hd ne st E AL SL ow lb mb (mkL mk th) dn kd → ((mkL mk th = nI th ∧ ne = 0 ∧ dn = -1) ∧ ∃ A', b_X6_checkMaker_22 68 (sA h A1) = some (1, sA h A') ∧ CS Z tp n cnt B A' j th hd ne st E AL SL ow lb mb (mkL mk th) dn kd) ∨ (¬ (mkL mk th = nI th ∧ ne = 0 ∧ dn = -1) ∧ ∃ A', b_X6_checkMaker_22 68 (sA h A1) = some (0, sA h A') ∧ CF Z B A' 6 (tk tp n j).2.1) := fun A1 S1 => by
    have fault : ∃ A', b_X6_checkMaker_58 68 (sA h A1) = some (0, sA h A') ∧ CF Z B A' 6 (tk tp n j).2.1 := by
      obtain ⟨A', x1, x2⟩ := c_refuse (A := A1) (k := 6) (p := (tk tp n j).2.1) Q S1.1.2.2.2.2.2.2
      unfold b_X6_checkMaker_58 b_X6_checkMaker_59
      rw [if_pos rfl]
      unfold b_X6_checkMaker_64
      rw [q_68 Q, Option.bind_some, c_pl Q, Option.bind_some, (c_sv S1).2.2, q_v Q.1.1, Option.bind_some, show f_X6_refuse 68 (6 : Int32) (nI (tk tp n j).2.1) (sA h A1) = _ from x1, Option.bind_some, if_pos rfl]
      exact ⟨A', ok_z_0, x2⟩
    have ne0 : nI ne = 0 ↔ ne = 0 := nI_eq (b := 0) (by omega) (by omega)
    unfold b_X6_checkMaker_22
    rw [q_co Q, Option.bind_some, q_i Q.2.2.2.2.1.1, Option.bind_some, q_i Q.1.1, Option.bind_some, S1.2.2.2.1.2.2.2.2.2.2.1, S1.2.1.1]
    by_cases k1 : mkL mk th = nI th
    · rw [if_pos k1]
      unfold b_X6_checkMaker_36
      rw [q_i Q.1.1, Option.bind_some, S1.2.1.2.2]
      by_cases k2 : ne = 0
      · rw [if_pos (ne0.mpr k2)]
        unfold b_X6_checkMaker_43
        rw [q_co Q, Option.bind_some, q_i Q.2.2.2.2.1.1, Option.bind_some, S1.2.2.2.1.2.2.2.2.2.2.2]
        by_cases k3 : dn = -1
        · rw [if_pos k3]
          unfold b_X6_checkMaker_54 b_X6_checkMaker_59
          rw [if_neg n10]
          exact Or.inl ⟨⟨k1, k2, k3⟩, A1, ok_z_1, S1⟩
        · rw [if_neg k3]
          exact Or.inr ⟨fun x => k3 x.2.2, fault⟩
      · rw [if_neg (fun x => k2 (ne0.mp x))]
        exact Or.inr ⟨fun x => k2 x.2.1, fault⟩
    · rw [if_neg k1]
      exact Or.inr ⟨fun x => k1 x.1, fault⟩
  unfold f_X6_checkMaker b_X6_checkMaker_0
  rw [q_co Q, Option.bind_some, q_i Q.2.2.2.2.1.1, Option.bind_some, c7]
  by_cases e1 : mk = -1
  · rw [if_pos e1]
    unfold b_X6_checkMaker_11
    have em : mkL mk th = nI th := if_pos e1
    rw [q_co Q, Option.bind_some, q_i Q.1.1, Option.bind_some, a1, q_p Q.2.2.2.2.1.1, Option.bind_some]
    refine b22 _ (cs_fld hB S' (fun r k k1 k2 k3 k4 => ?_) (fun l' hl' => ?_) ?_ ?_ ?_ ?_ ?_ ?_ i6 i7)
    · rw [u2 (by omega)]
    · rw [u2 (by omega)]; exact b l' hl'
    · rw [u2 (by omega)]; exact a2
    · rw [u2 (by omega)]; exact a3
    · rw [u2 (by omega)]; exact c5
    · rw [u2 (by omega)]; exact c6
    · rw [u2s, em]
    · rw [u2 (by omega)]; exact c8
  · rw [if_neg e1]
    have em : mkL mk th = mk := if_neg e1
    have := b22 A (by rw [em]; exact S')
    exact this
theorem and63 {x : Nat} (hx : x < 64) : nI x &&& (63 : Int32) = nI x := by
  rw [pk_andN (m := 63) (by omega) 6 (by decide)]
  congr 1
  omega
theorem c_add {op : Nat} {tl bs dg ob : Int32} (Q : CQ h B) (S : CS Z tp n cnt B A j th hd ne st E AL SL ow lb mb mk dn kd) (hE : E.length < 64) :
    ∃ A', f_X0_add B (nI op) tl bs dg ob (sA h A) = some (nI E.length, sA h A') ∧ CS Z tp n cnt B A' j th hd ne st (E ++ [(op, tl, bs, dg, ob, none, none, -1, th)]) AL SL ow lb mb mk dn kd ∧ A' 68 = A 68 := by
  have hB := Q.2.2.2.2.2.1
  obtain ⟨s0, ⟨a1, a2, a3⟩, b, ⟨c1, c2, c3, c4, c5, c6, c7, c8⟩, d, e, f, g, i1, i2, i3, i4, i5, i6, i7⟩ := S
  have okB := Q.2.2.2.2.1.1
  have okR : ∀ i, i < 10 → ok_o h (B + 1 + i) 100 := fun i hi => (Q.2.2.2.2.1.2 i hi).2.1
  have lenR : ∀ i, i < 7 → hp_l h (B + 1 + i) = 64 := fun i hi => by rw [(Q.2.2.2.2.1.2 i (by omega)).2.2]; unfold m_len; rw [if_pos hi]
  have mn : mn_i (nI (E.length + 1)) (64 : Int32) = nI (E.length + 1) := by
    unfold mn_i
    by_cases c : E.length = 63
    · rw [c, if_neg (by decide)]
    · rw [if_neg (show ¬ (64 : Int32) < nI (E.length + 1) from nI_nlt (a := 64) (by omega) (by omega))]
  refine ⟨up_2 (up_2 (up_2 (up_2 (up_2 (up_2 (up_2 A (B + 1) E.length (nI op)) (B + 2) E.length tl) (B + 3) E.length bs) (B + 4) E.length dg) (B + 5) E.length ob) (B + 7) E.length (-1)) B 10 (nI (E.length + 1)), ?_, ?_, ?_⟩
  · unfold f_X0_add b_X0_add_0
    rw [q_i okB, Option.bind_some, c1, and63 hE, q_cr Q (by omega), Option.bind_some, q_s (okR 0 (by omega)) (by rw [lenR 0 (by omega)]; omega) (by omega), Option.bind_some, q_cr Q (by omega), Option.bind_some, q_s (okR 1 (by omega)) (by rw [lenR 1 (by omega)]; omega) (by omega), Option.bind_some, q_cr Q (by omega), Option.bind_some, q_s (okR 2 (by omega)) (by rw [lenR 2 (by omega)]; omega) (by omega), Option.bind_some, q_cr Q (by omega), Option.bind_some, q_s (okR 3 (by omega)) (by rw [lenR 3 (by omega)]; omega) (by omega), Option.bind_some, q_cr Q (by omega), Option.bind_some, q_s (okR 4 (by omega)) (by rw [lenR 4 (by omega)]; omega) (by omega), Option.bind_some, q_cr Q (by omega), Option.bind_some, q_s (okR 6 (by omega)) (by rw [lenR 6 (by omega)]; omega) (by omega), Option.bind_some, q_i okB, Option.bind_some, u2 (by omega), u2 (by omega), u2 (by omega), u2 (by omega), u2 (by omega), u2 (by omega), c1, da, mn, q_p okB, Option.bind_some]
  · have kk : ∀ r k, ¬ (r = B ∧ k = 10) → ¬ (B + 1 ≤ r ∧ r ≤ B + 7 ∧ k = E.length) → up_2 (up_2 (up_2 (up_2 (up_2 (up_2 (up_2 A (B + 1) E.length (nI op)) (B + 2) E.length tl) (B + 3) E.length bs) (B + 4) E.length dg) (B + 5) E.length ob) (B + 7) E.length (-1)) B 10 (nI (E.length + 1)) r k = A r k := fun r k k1 k2 => by
      rw [u2 (by omega), u2 (by omega), u2 (by omega), u2 (by omega), u2 (by omega), u2 (by omega), u2 (by omega)]
    have e69 : up_2 (up_2 (up_2 (up_2 (up_2 (up_2 (up_2 A (B + 1) E.length (nI op)) (B + 2) E.length tl) (B + 3) E.length bs) (B + 4) E.length dg) (B + 5) E.length ob) (B + 7) E.length (-1)) B 10 (nI (E.length + 1)) 69 = A 69 := by funext k; exact kk 69 k (by omega) (by omega)
    have e70 : up_2 (up_2 (up_2 (up_2 (up_2 (up_2 (up_2 A (B + 1) E.length (nI op)) (B + 2) E.length tl) (B + 3) E.length bs) (B + 4) E.length dg) (B + 5) E.length ob) (B + 7) E.length (-1)) B 10 (nI (E.length + 1)) 70 = A 70 := by funext k; exact kk 70 k (by omega) (by omega)
    refine ⟨⟨by rw [e69]; exact s0.1, by rw [e70]; exact s0.2.1, s0.2.2.1, s0.2.2.2.1, fun k hk' => by rw [kk 65 k (by omega) (by omega)]; exact s0.2.2.2.2.1 k hk', s0.2.2.2.2.2.1, fun r k hr => by rw [kk r k (by omega) (by omega)]; exact s0.2.2.2.2.2.2 r k hr⟩, ⟨by rw [kk 68 6 (by omega) (by omega)]; exact a1, by rw [kk 68 7 (by omega) (by omega)]; exact a2, by rw [kk 68 8 (by omega) (by omega)]; exact a3⟩, fun l hl => by rw [kk 71 l (by omega) (by omega)]; exact b l hl, ?_, fun x hx => ?_, fun t ht => by rw [kk _ _ (by omega) (by omega)]; exact e t ht, fun m hm => by rw [kk _ _ (by omega) (by omega), kk _ _ (by omega) (by omega)]; exact f m hm, fun c hc => by rw [kk _ _ (by omega) (by omega)]; exact g c hc, by rw [ln_a]; omega, i2, i3, i4, i5, i6, i7⟩
    · rw [u2s, ln_a, kk _ 11 (by omega) (by omega), kk _ 12 (by omega) (by omega), kk _ 13 (by omega) (by omega), kk _ 14 (by omega) (by omega), kk _ 15 (by omega) (by omega), kk _ 16 (by omega) (by omega), kk _ 17 (by omega) (by omega)]
      exact ⟨rfl, c2, c3, c4, c5, c6, c7, c8⟩
    · rw [ln_a] at hx
      by_cases ex : x = E.length
      · subst ex
        rw [gd_e]
        refine ⟨?_, ?_, ?_, ?_, ?_, (fun y hy => by cases hy), ?_⟩
        · rw [u2 (by omega), u2 (by omega), u2 (by omega), u2 (by omega), u2 (by omega), u2 (by omega), u2s]; rfl
        · rw [u2 (by omega), u2 (by omega), u2 (by omega), u2 (by omega), u2 (by omega), u2s]; rfl
        · rw [u2 (by omega), u2 (by omega), u2 (by omega), u2 (by omega), u2s]; rfl
        · rw [u2 (by omega), u2 (by omega), u2 (by omega), u2s]; rfl
        · rw [u2 (by omega), u2 (by omega), u2s]; rfl
        · rw [u2 (by omega), u2s]; rfl
      · rw [gd_l (by omega)]
        unfold EC
        rw [kk _ _ (by omega) (by omega), kk _ _ (by omega) (by omega), kk _ _ (by omega) (by omega), kk _ _ (by omega) (by omega), kk _ _ (by omega) (by omega), kk _ _ (by omega) (by omega), kk _ _ (by omega) (by omega)]
        exact d x (by omega)
  · rw [u2r (by omega), u2r (by omega), u2r (by omega), u2r (by omega), u2r (by omega), u2r (by omega), u2r (by omega)]
theorem c_act {op : Nat} {tl bs dg ob : Int32} (Q : CQ h B) (S : CS Z tp n cnt B A j th hd ne st E AL SL ow lb mb mk dn kd) (hE : E.length < 64) (hA : AL.length < 8) :
    ∃ A', f_X0_addAction B (nI th) (nI op) tl bs dg ob (sA h A) = some (sA h A') ∧ CS Z tp n cnt B A' j th hd ne st (E ++ [(op, tl, bs, dg, ob, none, none, nI AL.length, th)]) (AL ++ [(th, op, ob, tl, E.length)]) SL ow lb mb mk dn kd := by
  have hB := Q.2.2.2.2.2.1
  obtain ⟨A1, x1, x2, x3⟩ := c_add (op := op) (tl := tl) (bs := bs) (dg := dg) (ob := ob) Q S hE
  obtain ⟨s0, ⟨a1, a2, a3⟩, b, ⟨c1, c2, c3, c4, c5, c6, c7, c8⟩, d, e, f, g, i1, i2, i3, i4, i5, i6, i7⟩ := x2
  have okB := Q.2.2.2.2.1.1
  have okR : ∀ i, i < 10 → ok_o h (B + 1 + i) 100 := fun i hi => (Q.2.2.2.2.1.2 i hi).2.1
  have len6 : hp_l h (B + 1 + 6) = 64 := by rw [(Q.2.2.2.2.1.2 6 (by omega)).2.2]; rfl
  have len8 : hp_l h (B + 1 + 8) = 8 := by rw [(Q.2.2.2.2.1.2 8 (by omega)).2.2]; rfl
  have len9 : hp_l h (B + 1 + 9) = 8 := by rw [(Q.2.2.2.2.1.2 9 (by omega)).2.2]; rfl
  refine ⟨up_2 (up_2 (up_2 (up_2 A1 (B + 7) E.length (nI AL.length)) (B + 9) AL.length (nI E.length)) (B + 10) AL.length (nI th)) B 12 (nI (AL.length + 1)), ?_, ?_⟩
  · unfold f_X0_addAction b_X0_addAction_0
    rw [q_v okB, Option.bind_some, x1, Option.bind_some, q_i okB, Option.bind_some, c3, if_neg (show ¬ (8 : Int32) ≤ nI AL.length from nI_ge (b := 8) (by omega) (by omega))]
    unfold b_X0_addAction_23
    rw [q_cr Q (by omega), Option.bind_some, q_i okB, Option.bind_some, c3, q_s (okR 6 (by omega)) (by rw [len6]; omega) (by omega), Option.bind_some, q_cr Q (by omega), Option.bind_some, q_i okB, Option.bind_some, u2 (by omega), c3, q_s (okR 8 (by omega)) (by rw [len8]; omega) (by omega), Option.bind_some, q_cr Q (by omega), Option.bind_some, q_i okB, Option.bind_some, u2 (by omega), u2 (by omega), c3, q_s (okR 9 (by omega)) (by rw [len9]; omega) (by omega), Option.bind_some, q_i okB, Option.bind_some, u2 (by omega), u2 (by omega), u2 (by omega), c3, da, q_p okB, Option.bind_some]
    rfl
  · have kk : ∀ r k, ¬ (r = B ∧ k = 12) → ¬ (r = B + 7 ∧ k = E.length) → ¬ (r = B + 9 ∧ k = AL.length) → ¬ (r = B + 10 ∧ k = AL.length) → up_2 (up_2 (up_2 (up_2 A1 (B + 7) E.length (nI AL.length)) (B + 9) AL.length (nI E.length)) (B + 10) AL.length (nI th)) B 12 (nI (AL.length + 1)) r k = A1 r k := fun r k k1 k2 k3 k4 => by
      rw [u2 (by omega), u2 (by omega), u2 (by omega), u2 (by omega)]
    have e69 : up_2 (up_2 (up_2 (up_2 A1 (B + 7) E.length (nI AL.length)) (B + 9) AL.length (nI E.length)) (B + 10) AL.length (nI th)) B 12 (nI (AL.length + 1)) 69 = A1 69 := by funext k; exact kk 69 k (by omega) (by omega) (by omega) (by omega)
    have e70 : up_2 (up_2 (up_2 (up_2 A1 (B + 7) E.length (nI AL.length)) (B + 9) AL.length (nI E.length)) (B + 10) AL.length (nI th)) B 12 (nI (AL.length + 1)) 70 = A1 70 := by funext k; exact kk 70 k (by omega) (by omega) (by omega) (by omega)
    rw [ln_a] at i1 c1 d
    refine ⟨⟨by rw [e69]; exact s0.1, by rw [e70]; exact s0.2.1, s0.2.2.1, s0.2.2.2.1, fun k hk' => by rw [kk 65 k (by omega) (by omega) (by omega) (by omega)]; exact s0.2.2.2.2.1 k hk', s0.2.2.2.2.2.1, fun r k hr => by rw [kk r k (by omega) (by omega) (by omega) (by omega)]; exact s0.2.2.2.2.2.2 r k hr⟩, ⟨by rw [kk 68 6 (by omega) (by omega) (by omega) (by omega)]; exact a1, by rw [kk 68 7 (by omega) (by omega) (by omega) (by omega)]; exact a2, by rw [kk 68 8 (by omega) (by omega) (by omega) (by omega)]; exact a3⟩, fun l hl => by rw [kk 71 l (by omega) (by omega) (by omega) (by omega)]; exact b l hl, ?_, fun x hx => ?_, fun t ht => by rw [kk _ _ (by omega) (by omega) (by omega) (by omega)]; exact e t ht, fun m hm => ?_, fun c hc => by rw [kk _ _ (by omega) (by omega) (by omega) (by omega)]; exact g c hc, by rw [ln_a]; omega, i2, by rw [ln_a]; omega, i4, i5, i6, i7⟩
    · rw [kk _ 10 (by omega) (by omega) (by omega) (by omega), kk _ 11 (by omega) (by omega) (by omega) (by omega), u2s, ln_a, ln_a, kk _ 13 (by omega) (by omega) (by omega) (by omega), kk _ 14 (by omega) (by omega) (by omega) (by omega), kk _ 15 (by omega) (by omega) (by omega) (by omega), kk _ 16 (by omega) (by omega) (by omega) (by omega), kk _ 17 (by omega) (by omega) (by omega) (by omega)]
      exact ⟨c1, c2, rfl, c4, c5, c6, c7, c8⟩
    · rw [ln_a] at hx
      have dx := d x (by omega)
      by_cases ex : x = E.length
      · subst ex
        rw [gd_e] at dx ⊢
        obtain ⟨d1, d2, d3, d4, d5, d6, d7⟩ := dx
        refine ⟨?_, ?_, ?_, ?_, ?_, (fun y hy => by cases hy), ?_⟩
        · rw [kk _ _ (by omega) (by omega) (by omega) (by omega)]; exact d1
        · rw [kk _ _ (by omega) (by omega) (by omega) (by omega)]; exact d2
        · rw [kk _ _ (by omega) (by omega) (by omega) (by omega)]; exact d3
        · rw [kk _ _ (by omega) (by omega) (by omega) (by omega)]; exact d4
        · rw [kk _ _ (by omega) (by omega) (by omega) (by omega)]; exact d5
        · rw [u2 (by omega), u2 (by omega), u2 (by omega), u2s]; rfl
      · rw [gd_l (by omega)] at dx ⊢
        unfold EC
        rw [kk _ _ (by omega) (by omega) (by omega) (by omega), kk _ _ (by omega) (by omega) (by omega) (by omega), kk _ _ (by omega) (by omega) (by omega) (by omega), kk _ _ (by omega) (by omega) (by omega) (by omega), kk _ _ (by omega) (by omega) (by omega) (by omega), kk _ _ (by omega) (by omega) (by omega) (by omega), kk _ _ (by omega) (by omega) (by omega) (by omega)]
        exact dx
    · rw [ln_a] at hm
      by_cases em : m = AL.length
      · subst em
        rw [gd_e, u2 (by omega), u2 (by omega), u2s, u2 (by omega), u2s]
        exact ⟨rfl, rfl⟩
      · rw [gd_l (by omega), kk _ _ (by omega) (by omega) (by omega) (by omega), kk _ _ (by omega) (by omega) (by omega) (by omega)]
        exact f m (by omega)
end
