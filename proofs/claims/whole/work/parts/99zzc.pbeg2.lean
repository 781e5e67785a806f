/-! ===== the class's reader: begin ===== -/
/-- what the class's reader stands on -/
def CH (h : AH) : Prop := (ok_o h 68 6 ∧ hp_r h 68 2 = 69 ∧ hp_r h 68 3 = 71) ∧ (ok_o h 71 100 ∧ hp_l h 71 = 8) ∧ ok_o h 69 7 ∧ (hp_r h 69 6 = 70 ∧ ok_o h 70 100 ∧ hp_l h 70 = 1001) ∧ (ok_o h 65 100 ∧ hp_l h 65 = 1000) ∧ 126 ≤ hp_n h
/-- what begin leaves alone, and the new program -/
def GB (h H : AH) (B : Nat) : Prop :=
  (hp_n H = B + 13 ∧ hp_s H = hp_s h + 504) ∧ (∀ r, r < B → hp_k H r = hp_k h r ∧ hp_l H r = hp_l h r ∧ hp_j H r = hp_j h r) ∧ (∀ r, r < B → r ≠ 68 → r ≠ 69 → hp_r H r = hp_r h r) ∧ (∀ k, k ≠ 4 → k ≠ 5 → hp_r H 68 k = hp_r h 68 k) ∧ (∀ k, k ≠ 3 → hp_r H 69 k = hp_r h 69 k) ∧
  (hp_r H (B + 11) 0 = B ∧ hp_r H (B + 11) 7 = 0 ∧ hp_r H (B + 11) 8 = 0 ∧ hp_r H (B + 11) 9 = 0) ∧ hp_j H (B + 11) 2 = 0 ∧ hp_j H (B + 11) 3 = 0 ∧ hp_j H (B + 11) 4 = 0 ∧ hp_j H (B + 11) 5 = 0
def zB (h : AH) : Nat → Nat → Int32 := up_2 (up_2 (hp_i h) 68 0 0) 68 1 (-1)
def zC (h H : AH) : Nat → Nat → Int32 := fun r k => if r = hp_n h + 11 then hp_i H r k else zB h r k
theorem ok_mv {g g' : AH} {r c : Nat} (hn : hp_n g ≤ hp_n g') (hk : hp_k g' r = hp_k g r) (ok : ok_o g r c) : ok_o g' r c := ⟨ok.1, Nat.lt_of_lt_of_le ok.2.1 hn, hk.trans ok.2.2⟩
theorem c_begin {h : AH} {tp : Nat → Nat} {n : Nat} (C : CH h) (hn : n ≤ 1000) (hb : ∀ k, k < n → tp k < 256) (ht : ∀ k, k < n → hp_i h 65 k = nI (tp k)) :
    ∃ H cnt, f_X6_begin 68 65 (nI n) h = some H ∧ CQ H (hp_n h) ∧ CT_ (zC h H) (hp_n h) tp n cnt (hp_i H) 0 ∧ (hp_i H 68 8 = 0 ∧ (∀ l, l < 8 → hp_i H 71 l = -1) ∧ (∀ c, c < 8 → hp_i H (hp_n h + 12) c = -1) ∧ hp_i H (hp_n h + 11) 6 = 0) ∧
      (hp_i H (hp_n h) 10 = 0 ∧ hp_i H (hp_n h) 11 = 0 ∧ hp_i H (hp_n h) 12 = 0 ∧ hp_i H (hp_n h) 13 = 0 ∧ hp_i H (hp_n h) 14 = 0 ∧ hp_i H (hp_n h) 15 = 0 ∧ hp_i H (hp_n h) 16 = -1 ∧ hp_i H (hp_n h) 17 = -1) ∧ GB h H (hp_n h) := by
  obtain ⟨⟨o68, c2, c3⟩, ⟨o71, l71⟩, o69, ⟨c6, o70, l70⟩, ⟨o65, l65⟩, hB⟩ := C
  obtain ⟨h1, e1, w1⟩ := w1_i (k := 0) (v := 0) o68
  obtain ⟨h2, e2, w2⟩ := w1_i (k := 1) (v := -1) (w1_ok w1 o68)
  have w2 := w1_t w1 w2
  rw [w1.2.2.2.2.1, w1.2.2.2.2.2.1, w1.2.2.2.2.2.2] at w2
  obtain ⟨v1, v2, v3, v4, v5, v6, v7⟩ := w2
  have v5' : hp_i h2 = zB h := v5
  obtain ⟨h5, e5, ⟨a1, a2, oB, a4, a5⟩, z10, z11, z12, z13, z14, z15, z16, z17⟩ := x0_init (h := h2) (by rw [v1]; exact hB)
  unfold f_X6_begin b_X6_begin_0
  rw [e1, e2, show ok_h (hp_n h2) = some () from if_pos (by omega), Option.bind_some, e5, Option.bind_some]
  rw [v1] at a1 oB a4 a5 z10 z11 z12 z13 z14 z15 z16 z17 ⊢
  generalize hp : hp_n h = B at *
  have b5 : ∀ r, r < B → hp_k h5 r = hp_k h r ∧ hp_l h5 r = hp_l h r ∧ hp_i h5 r = zB h r ∧ hp_j h5 r = hp_j h r ∧ hp_r h5 r = hp_r h r := fun r hr => by
    obtain ⟨q1, q2, q3, q4, q5⟩ := a5 r hr
    exact ⟨by rw [q1, v3], by rw [q2, v4], by rw [q3, v5'], by rw [q4, v6], by rw [q5, v7]⟩
  have o68a : ok_o h5 68 6 := ok_mv (by omega) (b5 68 (by omega)).1 o68
  obtain ⟨h6, e6, u1, u2', u3, u4, u5, u6, u7⟩ := w1_r (k := 5) (v := B) o68a
  rw [e6]
  have n6 : hp_n h6 = B + 11 := by rw [u1, a1]
  have o68b : ok_o (st_n h6 5 10) 68 6 := ⟨by omega, by show 68 < hp_n h6 + 1; omega, (if_neg (by omega)).trans (by rw [u3]; exact o68a.2.2)⟩
  have r68 : hp_r (st_n h6 5 10) 68 5 = B := by
    have : hp_r (st_n h6 5 10) 68 = hp_r h6 68 := if_neg (by omega)
    rw [this, u7, up2_same]
  rw [g_rk o68b, Option.bind_some, r68, show ok_h (hp_n h6) = some () from if_pos (by omega), Option.bind_some]
  obtain ⟨h10, e10, d1, d2, d3, d4, d5, ⟨d6, d7, d8⟩, d9, d10, d11, d12, ⟨d13, d14, d15, d16⟩, d17⟩ := x5_init (h := h6) (co := B) (by omega)
  rw [e10, Option.bind_some]
  rw [n6] at d1 d3 d4 d5 d6 d7 d8 d9 d10 d11 d12 d13 d14 d15 d16 d17 ⊢
  have o68c : ok_o h10 68 6 := ok_mv (by omega) (by rw [(d17 68 (by omega)).1, u3]) o68a
  obtain ⟨h11, e11, w11⟩ := w1_r (k := 4) (v := B + 11) o68c
  obtain ⟨h12, e12, w12⟩ := w1_i (k := 8) (v := 0) (w1_ok w11 o68c)
  have w12 := w1_t w11 w12
  rw [w11.2.2.2.2.1, w11.2.2.2.2.2.1, w11.2.2.2.2.2.2] at w12
  have o68d := w1_ok w12 o68c
  obtain ⟨y1, y2, y3, y4, y5, y6, y7⟩ := w12
  rw [e11, e12]
  have r10 : ∀ r, r < B → hp_k h10 r = hp_k h r ∧ hp_l h10 r = hp_l h r ∧ hp_i h10 r = zB h r ∧ hp_j h10 r = hp_j h r := fun r hr => by
    obtain ⟨q1, q2, q3, q4, -⟩ := d17 r (by omega)
    obtain ⟨s1, s2, s3, s4, -⟩ := b5 r hr
    exact ⟨by rw [q1, u3, s1], by rw [q2, u4, s2], by rw [q3, u5, s3], by rw [q4, u6, s4]⟩
  have rr10 : ∀ r k, r < B → ¬ (r = 68 ∧ k = 5) → hp_r h10 r k = hp_r h r k := fun r k hr hk => by
    rw [(d17 r (by omega)).2.2.2.2, u7]
    have : up_2 (hp_r h5) 68 5 B r k = hp_r h5 r k := if_neg hk
    rw [this, (b5 r hr).2.2.2.2]
  have rr12 : ∀ r k, r < B → ¬ (r = 68 ∧ (k = 4 ∨ k = 5)) → hp_r h12 r k = hp_r h r k := fun r k hr hk => by
    rw [y7]
    have : up_2 (hp_r h10) 68 4 (B + 11) r k = hp_r h10 r k := if_neg (by omega)
    rw [this, rr10 r k hr (by omega)]
  rw [g_rk o68d, Option.bind_some, rr12 68 3 (by omega) (by omega), c3]
  have o71d : ok_o h12 71 100 := ok_mv (by rw [y1, d1]; omega) (by rw [y3, (r10 71 (by omega)).1]) o71
  have l71d : hp_l h12 71 = 8 := by rw [y4, (r10 71 (by omega)).2.1, l71]
  obtain ⟨h14, e14, ⟨f1, f2, f3, f4, f5, f6, f7⟩, f8⟩ := e_fil (g := h12) (r := 71) (v := -1) o71d (by omega)
  rw [e14, Option.bind_some]
  have n14 : hp_n h14 = B + 13 := by rw [f1, y1, d1]
  have k14 : ∀ r, hp_k h14 r = hp_k h10 r := fun r => by rw [f3, y3]
  have l14 : ∀ r, hp_l h14 r = hp_l h10 r := fun r => by rw [f4, y4]
  have o68e : ok_o h14 68 6 := ok_mv (by omega) (by rw [k14, (r10 68 (by omega)).1]) o68
  have o69e : ok_o h14 69 7 := ok_mv (by omega) (by rw [k14, (r10 69 (by omega)).1]) o69
  have rr14 : ∀ r k, r < B → ¬ (r = 68 ∧ (k = 4 ∨ k = 5)) → hp_r h14 r k = hp_r h r k := fun r k hr hk => by rw [f6]; exact rr12 r k hr hk
  have i14 : ∀ r k, r < B → r ≠ 71 → ¬ (r = 68 ∧ k = 8) → hp_i h14 r k = zB h r k := fun r k hr h71 h8 => by
    rw [f7 r h71, y5]
    have : up_2 (hp_i h10) 68 8 0 r k = hp_i h10 r k := if_neg h8
    rw [this, (r10 r hr).2.2.1]
  rw [g_rk o68e, Option.bind_some, rr14 68 2 (by omega) (by omega), c2, show ok_v h14 69 7 = some () from if_pos o69e, Option.bind_some]
  have z65 : ∀ k, zB h 65 k = hp_i h 65 k := fun k => by unfold zB; rw [u2 (by omega), u2 (by omega)]
  have XX : XC (st_r h14 69 3 65) n tp := by
    refine ⟨o69e, str_s, ⟨?_, ok_mv (g := h) (by show _ ≤ hp_n h14; omega) (by show hp_k h14 70 = _; rw [k14, (r10 70 (by omega)).1]) o70, by show hp_l h14 70 = _; rw [l14, (r10 70 (by omega)).2.1, l70]⟩, ⟨ok_mv (g := h) (by show _ ≤ hp_n h14; omega) (by show hp_k h14 65 = _; rw [k14, (r10 65 (by omega)).1]) o65, by show hp_l h14 65 = _; rw [l14, (r10 65 (by omega)).2.1, l65]⟩, hn, hb, fun k hk => ?_⟩
    · rw [str_k (by omega), rr14 69 6 (by omega) (by omega), c6]
    · show hp_i h14 65 k = _
      rw [i14 65 k (by omega) (by omega) (by omega), z65]; exact ht k hk
  obtain ⟨f, t, cnt, x1, x2, x3⟩ := z_begin (h := h14) XX
  rw [x1, Option.bind_some]
  have I69 : ∀ r, r ≠ 69 → r ≠ 70 → hp_i (sI (sI (st_r h14 69 3 65) 70 t) 69 f) r = hp_i h14 r := fun r q1 q2 => by
    funext k
    show (if r = 69 then f k else if r = 70 then t k else hp_i h14 r k) = _
    rw [if_neg q1, if_neg q2]
  have I1 : hp_i (sI (sI (st_r h14 69 3 65) 70 t) 69 f) 69 = f := by
    funext k
    show (if 69 = 69 then f k else if 69 = 70 then t k else hp_i h14 69 k) = _
    rw [if_pos rfl]
  have I2 : hp_i (sI (sI (st_r h14 69 3 65) 70 t) 69 f) 70 = t := by
    funext k
    show (if 70 = 69 then f k else if 70 = 70 then t k else hp_i h14 70 k) = _
    rw [if_neg (by omega), if_pos rfl]
  have Hn : hp_n (sI (sI (st_r h14 69 3 65) 70 t) 69 f) = B + 13 := n14
  have Hs : hp_s (sI (sI (st_r h14 69 3 65) 70 t) 69 f) = hp_s h14 := rfl
  have Hk : ∀ r, hp_k (sI (sI (st_r h14 69 3 65) 70 t) 69 f) r = hp_k h10 r := k14
  have Hl : ∀ r, hp_l (sI (sI (st_r h14 69 3 65) 70 t) 69 f) r = hp_l h10 r := l14
  have Hj : hp_j (sI (sI (st_r h14 69 3 65) 70 t) 69 f) = hp_j h10 := f5.trans y6
  have Hr : hp_r (sI (sI (st_r h14 69 3 65) 70 t) 69 f) = up_2 (hp_r h14) 69 3 65 := rfl
  generalize sI (sI (st_r h14 69 3 65) 70 t) 69 f = H at *
  have rP : ∀ r k, B ≤ r → hp_r H r k = hp_r h10 r k := fun r k hr => by
    rw [Hr, up2_r (by omega), f6, y7, up2_r (by omega)]
  have iP : ∀ r, B ≤ r → hp_i H r = hp_i h10 r := fun r hr => by
    rw [I69 r (by omega) (by omega), f7 r (by omega), y5, u2r (by omega)]
  have rB : ∀ i, i < 10 → hp_r h10 B i = B + 1 + i ∧ ok_o H (B + 1 + i) 100 ∧ hp_l H (B + 1 + i) = m_len i := fun i hi => by
    obtain ⟨q1, q2, q3⟩ := a4 i hi
    obtain ⟨p1, p2, -, -, p5⟩ := d17 (B + 1 + i) (by omega)
    refine ⟨?_, ok_mv (g := h5) (by omega) (by rw [Hk, p1, u3]) q2, by rw [Hl, p2, u4, q3]⟩
    rw [(d17 B (by omega)).2.2.2.2, u7, up2_r (by omega)]; exact q1
  have iB : ∀ k, hp_i H B k = hp_i h5 B k := fun k => by
    rw [iP B (by omega), (d17 B (by omega)).2.2.1, u5]
  refine ⟨H, cnt, rfl, ?_, ?_, ⟨?_, fun l hl => ?_, fun c hc => ?_, ?_⟩, ⟨?_, ?_, ?_, ?_, ?_, ?_, ?_, ?_⟩, ⟨Hn, ?_⟩, fun r hr => ⟨?_, ?_, ?_⟩, fun r hr h8 h9 => ?_, fun k k4 k5 => ?_, fun k k3 => ?_, ⟨?_, ?_, ?_, ?_⟩, ?_, ?_, ?_, ?_⟩
  · refine ⟨⟨ok_mv (g := h14) (by omega) (by rw [Hk, k14]) o68e, ?_, ?_, ?_, ?_⟩, ⟨ok_mv (g := h) (by omega) (by rw [Hk, (r10 71 (by omega)).1]) o71, by rw [Hl, (r10 71 (by omega)).2.1, l71]⟩, ⟨ok_mv (g := h10) (by omega) (Hk _) d3, ?_⟩, ⟨ok_mv (g := h10) (by omega) (Hk _) d9, by rw [Hl]; exact d10⟩, ⟨ok_mv (g := h5) (by omega) (by rw [Hk, (d17 B (by omega)).1, u3]) oB, fun i hi => ⟨by rw [rP B i (by omega)]; exact (rB i hi).1, (rB i hi).2⟩⟩, by omega, ok_mv (g := h14) (by omega) (by rw [Hk, k14]) o69e, ?_, ⟨?_, ok_mv (g := h) (by omega) (by rw [Hk, (r10 70 (by omega)).1]) o70, by rw [Hl, (r10 70 (by omega)).2.1, l70]⟩, ⟨ok_mv (g := h) (by omega) (by rw [Hk, (r10 65 (by omega)).1]) o65, by rw [Hl, (r10 65 (by omega)).2.1, l65]⟩⟩
    · rw [Hr, up2_r (by omega), rr14 68 2 (by omega) (by omega), c2]
    · rw [Hr, up2_r (by omega), rr14 68 3 (by omega) (by omega), c3]
    · rw [Hr, up2_r (by omega), f6, y7, up2_same]
    · rw [Hr, up2_r (by omega), f6, y7, up2_k (by omega), (d17 68 (by omega)).2.2.2.2, u7, up2_same]
    · rw [rP _ _ (by omega)]; exact d5
    · rw [Hr, up2_same]
    · rw [Hr, up2_k (by omega), rr14 69 6 (by omega) (by omega), c6]
  · refine ⟨by rw [I1]; exact x3, by rw [I2]; exact x2, hn, hb, fun k hk => ?_, by omega, fun r k hr => ?_⟩
    · rw [I69 65 (by omega) (by omega), i14 65 k (by omega) (by omega) (by omega), z65]; exact ht k hk
    · unfold zC
      rw [hp]
      by_cases c11 : r = B + 11
      · rw [if_pos c11]
      · rw [if_neg c11, I69 r (by omega) (by omega), i14 r k (by omega) (by omega) (by omega)]
  · rw [I69 68 (by omega) (by omega), f7 68 (by omega), y5, up2_same]
  · rw [I69 71 (by omega) (by omega)]; exact f8 l (by omega)
  · rw [iP _ (by omega)]; exact d11 c hc
  · rw [iP _ (by omega)]; exact d12
  · rw [iB]; exact z10
  · rw [iB]; exact z11
  · rw [iB]; exact z12
  · rw [iB]; exact z13
  · rw [iB]; exact z14
  · rw [iB]; exact z15
  · rw [iB]; exact z16
  · rw [iB]; exact z17
  · rw [Hs, f2, y2, d2, u2', a2, v2]
  · rw [Hk, (r10 r hr).1]
  · rw [Hl, (r10 r hr).2.1]
  · rw [Hj, (r10 r hr).2.2.2]
  · funext k
    rw [Hr, up2_r (by omega), rr14 r k hr (by omega)]
  · rw [Hr, up2_r (by omega), rr14 68 k (by omega) (by omega)]
  · rw [Hr, up2_k (by omega), rr14 69 k (by omega) (by omega)]
  · rw [rP _ _ (by omega)]; exact d4
  · rw [rP _ _ (by omega)]; exact d6
  · rw [rP _ _ (by omega)]; exact d7
  · rw [rP _ _ (by omega)]; exact d8
  · rw [Hj]; exact d13
  · rw [Hj]; exact d14
  · rw [Hj]; exact d15
  · rw [Hj]; exact d16
