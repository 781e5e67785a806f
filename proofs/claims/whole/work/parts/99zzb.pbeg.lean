/-! ===== the two readers together: the beginning ===== -/
theorem sA_eta {H : AH} : sA H (hp_i H) = H := rfl
theorem na_k {g : AH} {l : Nat} {i : Int32} (e : i = nI l) (hl : l ≤ 64) : n_a g 100 i = some (st_n g 100 l) := by
  have e1 : n_a g 100 (nI l) = some (st_n g 100 (nI l).toNatClampNeg) := if_pos ⟨nI_pos (by omega), by rw [nI_clamp (by omega)]; omega⟩
  rw [e, e1, nI_clamp (by omega)]
/-- a new code, i of its rows made -/
def NC (h : AH) (B s : Nat) (g : AH) (i : Nat) : Prop :=
  hp_n g = B + 1 + i ∧ hp_s g = s ∧ ok_o g B 0 ∧ (∀ i', i' < i → hp_r g B i' = B + 1 + i' ∧ ok_o g (B + 1 + i') 100 ∧ hp_l g (B + 1 + i') = m_len i') ∧ ∀ r, r < B → hp_k g r = hp_k h r ∧ hp_l g r = hp_l h r ∧ hp_i g r = hp_i h r ∧ hp_j g r = hp_j h r ∧ hp_r g r = hp_r h r
section
variable {h g : AH} {B s i l : Nat}
theorem nc_s (hB : 64 ≤ B) (N : NC h B s g i) (hl : m_len i = l) : NC h B (s + l) (st_r (st_n g 100 l) B i (hp_n g)) (i + 1) ∧ ok_o (st_n g 100 l) B 0 := by
  obtain ⟨a1, a2, ⟨b1, b2, b3⟩, c, d⟩ := N
  have hn : hp_n (st_n g 100 l) = B + 1 + i + 1 := by show hp_n g + 1 = _; rw [a1]
  have k1 : ∀ r, r ≠ hp_n g → hp_k (st_n g 100 l) r = hp_k g r := fun r hr => if_neg hr
  have l1 : ∀ r, r ≠ hp_n g → hp_l (st_n g 100 l) r = hp_l g r := fun r hr => if_neg hr
  have i1 : ∀ r, r ≠ hp_n g → hp_i (st_n g 100 l) r = hp_i g r := fun r hr => if_neg hr
  have j1 : ∀ r, r ≠ hp_n g → hp_j (st_n g 100 l) r = hp_j g r := fun r hr => if_neg hr
  have r1 : ∀ r, r ≠ hp_n g → hp_r (st_n g 100 l) r = hp_r g r := fun r hr => if_neg hr
  have okB : ok_o (st_n g 100 l) B 0 := ⟨b1, by rw [hn]; omega, by rw [k1 _ (by omega)]; exact b3⟩
  refine ⟨⟨hn, by show hp_s g + l = _; rw [a2], okB, fun i' hi' => ?_, fun r hr => ?_⟩, okB⟩
  · by_cases q : i' = i
    · subst q
      refine ⟨?_, ⟨by omega, by show B + 1 + i' < hp_n (st_n g 100 l); rw [hn]; omega, ?_⟩, ?_⟩
      · rw [str_s, a1]
      · show hp_k (st_n g 100 l) (B + 1 + i') = 100
        rw [← a1]; exact if_pos rfl
      · show hp_l (st_n g 100 l) (B + 1 + i') = m_len i'
        rw [← a1, hl]; exact if_pos rfl
    · obtain ⟨c1, ⟨c2, c3, c4⟩, c5⟩ := c i' (by omega)
      refine ⟨?_, ⟨by omega, by show B + 1 + i' < hp_n (st_n g 100 l); rw [hn]; omega, ?_⟩, ?_⟩
      · rw [str_k (by omega), r1 _ (by omega)]; exact c1
      · show hp_k (st_n g 100 l) (B + 1 + i') = 100
        rw [k1 _ (by omega)]; exact c4
      · show hp_l (st_n g 100 l) (B + 1 + i') = m_len i'
        rw [l1 _ (by omega)]; exact c5
  · obtain ⟨d1, d2, d3, d4, d5⟩ := d r hr
    refine ⟨(k1 r (by omega)).trans d1, (l1 r (by omega)).trans d2, (i1 r (by omega)).trans d3, (j1 r (by omega)).trans d4, ?_⟩
    rw [str_r (by omega), r1 _ (by omega)]; exact d5
theorem p_rk {r c k v : Nat} (ok : ok_o g r c) : p_r g r c k v = some (st_r g r k v) := if_pos ok
theorem p_ik {r c k : Nat} {v : Int32} (ok : ok_o g r c) : p_i g r c k v = some (st_i g r k v) := if_pos ok
theorem p_jk {r c k : Nat} {v : Int64} (ok : ok_o g r c) : p_j g r c k v = some (st_j g r k v) := if_pos ok
theorem g_rk {r c k : Nat} (ok : ok_o g r c) : g_r g r c k = some (hp_r g r k) := if_pos ok
theorem nc_t (hB : 64 ≤ B) (N : NC h B s g i) (hl : m_len i = l) (h64 : l ≤ 64) : ∃ g', (∀ K : AH → Option AH, ((n_a g 100 (nI l)).bind fun h2 => (p_r h2 B 0 i (hp_n g)).bind K) = K g') ∧ NC h B (s + l) g' (i + 1) := by
  obtain ⟨N1, o1⟩ := nc_s hB N hl
  refine ⟨_, fun K => ?_, N1⟩
  rw [na_k rfl h64, Option.bind_some, p_rk o1, Option.bind_some]
/-- a new Code -/
theorem x0_init (hB : 126 ≤ hp_n h) : ∃ H, f_X0_init (hp_n h) (st_n h 0 18) = some H ∧ NC h (hp_n h) (hp_s h + 486) H 10 ∧ hp_i H (hp_n h) 10 = 0 ∧ hp_i H (hp_n h) 11 = 0 ∧ hp_i H (hp_n h) 12 = 0 ∧ hp_i H (hp_n h) 13 = 0 ∧ hp_i H (hp_n h) 14 = 0 ∧ hp_i H (hp_n h) 15 = 0 ∧ hp_i H (hp_n h) 16 = -1 ∧ hp_i H (hp_n h) 17 = -1 := by
  generalize hp : hp_n h = B at *
  have N0 : NC h B (hp_s h + 18) (st_n h 0 18) 0 := by
    refine ⟨by show hp_n h + 1 = _; rw [hp], rfl, ⟨by omega, by show B < hp_n h + 1; omega, by rw [← hp]; exact if_pos rfl⟩, fun i' hi' => absurd hi' (by omega), fun r hr => ⟨if_neg (by omega), if_neg (by omega), if_neg (by omega), if_neg (by omega), if_neg (by omega)⟩⟩
  unfold f_X0_init b_X0_init_0
  rw [show ok_h B = some () from if_pos (by omega), Option.bind_some]
  generalize st_n h 0 18 = g0 at *
  obtain ⟨g1, e1, N1⟩ := nc_t (by omega) N0 (l := 64) rfl (by omega)
  obtain ⟨g2, e2, N2⟩ := nc_t (by omega) N1 (l := 64) rfl (by omega)
  obtain ⟨g3, e3, N3⟩ := nc_t (by omega) N2 (l := 64) rfl (by omega)
  obtain ⟨g4, e4, N4⟩ := nc_t (by omega) N3 (l := 64) rfl (by omega)
  obtain ⟨g5, e5, N5⟩ := nc_t (by omega) N4 (l := 64) rfl (by omega)
  obtain ⟨g6, e6, N6⟩ := nc_t (by omega) N5 (l := 64) rfl (by omega)
  obtain ⟨g7, e7, N7⟩ := nc_t (by omega) N6 (l := 64) rfl (by omega)
  obtain ⟨g8, e8, N8⟩ := nc_t (by omega) N7 (l := 4) rfl (by omega)
  obtain ⟨g9, e9, N9⟩ := nc_t (by omega) N8 (l := 8) rfl (by omega)
  obtain ⟨G, e10, N10⟩ := nc_t (by omega) N9 (l := 8) rfl (by omega)
  refine Exists.imp (fun H (y : (_ = some H) ∧ _) => ⟨(e1 _).trans ((e2 _).trans ((e3 _).trans ((e4 _).trans ((e5 _).trans ((e6 _).trans ((e7 _).trans ((e8 _).trans ((e9 _).trans ((e10 _).trans y.1))))))))), y.2⟩) ?_
  have hs : hp_s h + 18 + 64 + 64 + 64 + 64 + 64 + 64 + 64 + 4 + 8 + 8 = hp_s h + 486 := by omega
  rw [hs] at N10
  obtain ⟨a1, a2, ok, c, d⟩ := N10
  have P : ∀ (A : Nat → Nat → Int32) (k : Nat) (v : Int32), p_i (sA G A) B 0 k v = some (sA G (up_2 A B k v)) := fun A k v => if_pos ok
  have e0 : G = sA G (hp_i G) := rfl
  rw [e0, P, Option.bind_some, P, Option.bind_some, P, Option.bind_some, P, Option.bind_some, P, Option.bind_some, P, Option.bind_some, P, Option.bind_some, P, Option.bind_some]
  refine ⟨_, rfl, ⟨a1, a2, ok, c, fun r hr => ⟨(d r hr).1, (d r hr).2.1, ?_, (d r hr).2.2.2⟩⟩, ?_, ?_, ?_, ?_, ?_, ?_, ?_, ?_⟩
  · rw [sA_i, u2r (by omega), u2r (by omega), u2r (by omega), u2r (by omega), u2r (by omega), u2r (by omega), u2r (by omega), u2r (by omega)]
    exact (d r hr).2.2.1
  · rw [sA_i, u2 (by omega), u2 (by omega), u2 (by omega), u2 (by omega), u2 (by omega), u2 (by omega), u2 (by omega), u2s]
  · rw [sA_i, u2 (by omega), u2 (by omega), u2 (by omega), u2 (by omega), u2 (by omega), u2 (by omega), u2s]
  · rw [sA_i, u2 (by omega), u2 (by omega), u2 (by omega), u2 (by omega), u2 (by omega), u2s]
  · rw [sA_i, u2 (by omega), u2 (by omega), u2 (by omega), u2 (by omega), u2s]
  · rw [sA_i, u2 (by omega), u2 (by omega), u2 (by omega), u2s]
  · rw [sA_i, u2 (by omega), u2 (by omega), u2s]
  · rw [sA_i, u2 (by omega), u2s]
  · rw [sA_i, u2s]
theorem p_zk {r c k : Nat} (ok : ok_o g r c) : p_z g r c k 0 = some (st_i g r k 0) := if_pos ⟨ok, Or.inl rfl⟩
theorem sj_s {r k : Nat} {v : Int64} : hp_j (st_j g r k v) r k = v := up2_same
theorem sj_k {r k k' : Nat} {v : Int64} (hk : k' ≠ k) : hp_j (st_j g r k v) r k' = hp_j g r k' := up2_k hk
/-- the heap h below n -/
def BL (h g : AH) (n : Nat) : Prop := ∀ r, r < n → hp_k g r = hp_k h r ∧ hp_l g r = hp_l h r ∧ hp_i g r = hp_i h r ∧ hp_j g r = hp_j h r ∧ hp_r g r = hp_r h r
/-- one step that writes -/
def W1 (g g' : AH) (I : Nat → Nat → Int32) (J : Nat → Nat → Int64) (X : Nat → Nat → Nat) : Prop := hp_n g' = hp_n g ∧ hp_s g' = hp_s g ∧ hp_k g' = hp_k g ∧ hp_l g' = hp_l g ∧ hp_i g' = I ∧ hp_j g' = J ∧ hp_r g' = X
theorem w1_ok {g' : AH} {r c : Nat} {I : Nat → Nat → Int32} {J : Nat → Nat → Int64} {X : Nat → Nat → Nat} (w : W1 g g' I J X) (ok : ok_o g r c) : ok_o g' r c := ⟨ok.1, by rw [w.1]; exact ok.2.1, by rw [w.2.2.1]; exact ok.2.2⟩
theorem w1_r {r c k v : Nat} (ok : ok_o g r c) : ∃ g', (∀ K : AH → Option AH, (p_r g r c k v).bind K = K g') ∧ W1 g g' (hp_i g) (hp_j g) (up_2 (hp_r g) r k v) := ⟨st_r g r k v, fun K => by rw [p_rk ok, Option.bind_some], rfl, rfl, rfl, rfl, rfl, rfl, rfl⟩
theorem w1_j {r c k : Nat} {v : Int64} (ok : ok_o g r c) : ∃ g', (∀ K : AH → Option AH, (p_j g r c k v).bind K = K g') ∧ W1 g g' (hp_i g) (up_2 (hp_j g) r k v) (hp_r g) := ⟨st_j g r k v, fun K => by rw [p_jk ok, Option.bind_some], rfl, rfl, rfl, rfl, rfl, rfl, rfl⟩
theorem w1_i {r c k : Nat} {v : Int32} (ok : ok_o g r c) : ∃ g', (∀ K : AH → Option AH, (p_i g r c k v).bind K = K g') ∧ W1 g g' (up_2 (hp_i g) r k v) (hp_j g) (hp_r g) := ⟨st_i g r k v, fun K => by rw [p_ik ok, Option.bind_some], rfl, rfl, rfl, rfl, rfl, rfl, rfl⟩
theorem w1_z {r c k : Nat} (ok : ok_o g r c) : ∃ g', (∀ K : AH → Option AH, (p_z g r c k 0).bind K = K g') ∧ W1 g g' (up_2 (hp_i g) r k 0) (hp_j g) (hp_r g) := ⟨st_i g r k 0, fun K => by rw [p_zk ok, Option.bind_some], rfl, rfl, rfl, rfl, rfl, rfl, rfl⟩
theorem w1_t {g' g2 : AH} {I I2 : Nat → Nat → Int32} {J J2 : Nat → Nat → Int64} {X X2 : Nat → Nat → Nat} (w : W1 g g' I J X) (w2 : W1 g' g2 I2 J2 X2) : W1 g g2 I2 J2 X2 := ⟨w2.1.trans w.1, w2.2.1.trans w.2.1, w2.2.2.1.trans w.2.2.1, w2.2.2.2.1.trans w.2.2.2.1, w2.2.2.2.2⟩
/-- a new Program -/
theorem x5_init {co : Nat} (hB : 126 ≤ hp_n h) : ∃ H, f_X5_init (hp_n h) co (st_n h 5 10) = some H ∧ hp_n H = hp_n h + 2 ∧ hp_s H = hp_s h + 18 ∧ ok_o H (hp_n h) 5 ∧ hp_r H (hp_n h) 0 = co ∧ hp_r H (hp_n h) 1 = hp_n h + 1 ∧ (hp_r H (hp_n h) 7 = 0 ∧ hp_r H (hp_n h) 8 = 0 ∧ hp_r H (hp_n h) 9 = 0) ∧ ok_o H (hp_n h + 1) 100 ∧ hp_l H (hp_n h + 1) = 8 ∧ (∀ c, c < 8 → hp_i H (hp_n h + 1) c = -1) ∧ hp_i H (hp_n h) 6 = 0 ∧ (hp_j H (hp_n h) 2 = 0 ∧ hp_j H (hp_n h) 3 = 0 ∧ hp_j H (hp_n h) 4 = 0 ∧ hp_j H (hp_n h) 5 = 0) ∧ BL h H (hp_n h) := by
  generalize hp : hp_n h = P at *
  have n0 : hp_n (st_n h 5 10) = P + 1 := by show hp_n h + 1 = _; rw [hp]
  unfold f_X5_init b_X5_init_0
  rw [show ok_h P = some () from if_pos (by omega), Option.bind_some, show n_a (st_n h 5 10) 100 (8 : Int32) = _ from na_k (l := 8) rfl (by omega), Option.bind_some, n0]
  have k0 : ∀ r, r ≠ P + 1 → hp_k (st_n (st_n h 5 10) 100 8) r = hp_k (st_n h 5 10) r := fun r hr => if_neg (by rw [n0]; exact hr)
  have l0 : ∀ r, r ≠ P + 1 → hp_l (st_n (st_n h 5 10) 100 8) r = hp_l (st_n h 5 10) r := fun r hr => if_neg (by rw [n0]; exact hr)
  have i0 : ∀ r, r ≠ P + 1 → hp_i (st_n (st_n h 5 10) 100 8) r = hp_i (st_n h 5 10) r := fun r hr => if_neg (by rw [n0]; exact hr)
  have j0 : ∀ r, r ≠ P + 1 → hp_j (st_n (st_n h 5 10) 100 8) r = hp_j (st_n h 5 10) r := fun r hr => if_neg (by rw [n0]; exact hr)
  have r0 : ∀ r, r ≠ P + 1 → hp_r (st_n (st_n h 5 10) 100 8) r = hp_r (st_n h 5 10) r := fun r hr => if_neg (by rw [n0]; exact hr)
  have n1 : hp_n (st_n (st_n h 5 10) 100 8) = P + 2 := by show hp_n (st_n h 5 10) + 1 = _; rw [n0]
  have s1 : hp_s (st_n (st_n h 5 10) 100 8) = hp_s h + 18 := rfl
  have kP : hp_k (st_n (st_n h 5 10) 100 8) P = 5 := by rw [k0 _ (by omega), ← hp]; exact if_pos rfl
  have ok : ok_o (st_n (st_n h 5 10) 100 8) P 5 := ⟨by omega, by rw [n1]; omega, kP⟩
  have ok2 : ok_o (st_n (st_n h 5 10) 100 8) (P + 1) 100 := ⟨by omega, by rw [n1]; omega, by rw [← n0]; exact if_pos rfl⟩
  have len : hp_l (st_n (st_n h 5 10) 100 8) (P + 1) = 8 := by rw [← n0]; exact if_pos rfl
  have bl : BL h (st_n (st_n h 5 10) 100 8) P := fun r hr => ⟨(k0 r (by omega)).trans (if_neg (by omega)), (l0 r (by omega)).trans (if_neg (by omega)), (i0 r (by omega)).trans (if_neg (by omega)), (j0 r (by omega)).trans (if_neg (by omega)), (r0 r (by omega)).trans (if_neg (by omega))⟩
  generalize st_n (st_n h 5 10) 100 8 = G at *
  obtain ⟨g1, e1, w1⟩ := w1_r (k := 1) (v := P + 1) ok
  obtain ⟨g2, e2, w2⟩ := w1_j (k := 2) (v := 0) (w1_ok w1 ok)
  have w2 := w1_t w1 w2
  rw [w1.2.2.2.2.1, w1.2.2.2.2.2.1, w1.2.2.2.2.2.2] at w2
  obtain ⟨g3, e3, w3⟩ := w1_j (k := 3) (v := 0) (w1_ok w2 ok)
  have w3 := w1_t w2 w3
  rw [w2.2.2.2.2.1, w2.2.2.2.2.2.1, w2.2.2.2.2.2.2] at w3
  obtain ⟨g4, e4, w4⟩ := w1_j (k := 4) (v := 0) (w1_ok w3 ok)
  have w4 := w1_t w3 w4
  rw [w3.2.2.2.2.1, w3.2.2.2.2.2.1, w3.2.2.2.2.2.2] at w4
  obtain ⟨g5, e5, w5⟩ := w1_j (k := 5) (v := 0) (w1_ok w4 ok)
  have w5 := w1_t w4 w5
  rw [w4.2.2.2.2.1, w4.2.2.2.2.2.1, w4.2.2.2.2.2.2] at w5
  obtain ⟨g6, e6, w6⟩ := w1_z (k := 6) (w1_ok w5 ok)
  have w6 := w1_t w5 w6
  rw [w5.2.2.2.2.1, w5.2.2.2.2.2.1, w5.2.2.2.2.2.2] at w6
  obtain ⟨g7, e7, w7⟩ := w1_r (k := 7) (v := 0) (w1_ok w6 ok)
  have w7 := w1_t w6 w7
  rw [w6.2.2.2.2.1, w6.2.2.2.2.2.1, w6.2.2.2.2.2.2] at w7
  obtain ⟨g8, e8, w8⟩ := w1_r (k := 8) (v := 0) (w1_ok w7 ok)
  have w8 := w1_t w7 w8
  rw [w7.2.2.2.2.1, w7.2.2.2.2.2.1, w7.2.2.2.2.2.2] at w8
  obtain ⟨g9, e9, w9⟩ := w1_r (k := 9) (v := 0) (w1_ok w8 ok)
  have w9 := w1_t w8 w9
  rw [w8.2.2.2.2.1, w8.2.2.2.2.2.1, w8.2.2.2.2.2.2] at w9
  obtain ⟨ga, ea, wa⟩ := w1_r (k := 0) (v := co) (w1_ok w9 ok)
  have wa := w1_t w9 wa
  rw [w9.2.2.2.2.1, w9.2.2.2.2.2.1, w9.2.2.2.2.2.2] at wa
  rw [e1, e2, e3, e4, e5, e6, e7, e8, e9, ea, g_rk (w1_ok wa ok), Option.bind_some]
  clear e1 e2 e3 e4 e5 e6 e7 e8 e9 ea w1 w2 w3 w4 w5 w6 w7 w8 w9
  have okA := w1_ok wa ok
  have ok2A := w1_ok wa ok2
  obtain ⟨v1, v2, v3, v4, v5, v6, v7⟩ := wa
  have hr1 : hp_r ga P 1 = P + 1 := by
    rw [v7, up2_k (by omega), up2_k (by omega), up2_k (by omega), up2_k (by omega), up2_same]
  rw [hr1]
  obtain ⟨H, x1, ⟨f1, f2, f3, f4, f5, f6, f7⟩, x3⟩ := e_fil (g := ga) (r := P + 1) (v := -1) ok2A (by rw [v4, len]; omega)
  refine ⟨H, ?_, f1.trans (v1.trans n1), f2.trans (v2.trans s1), ?_, ?_, ?_, ⟨?_, ?_, ?_⟩, ?_, ?_, fun c hc => x3 c (by rw [v4, len]; exact hc), ?_, ⟨?_, ?_, ?_, ?_⟩, fun r hr => ?_⟩
  · rw [x1, Option.bind_some]
  · exact ⟨by omega, by rw [f1, v1]; omega, by rw [f3, v3]; exact kP⟩
  · rw [f6, v7, up2_same]
  · rw [f6]; exact hr1
  · rw [f6, v7, up2_k (by omega), up2_k (by omega), up2_k (by omega), up2_same]
  · rw [f6, v7, up2_k (by omega), up2_k (by omega), up2_same]
  · rw [f6, v7, up2_k (by omega), up2_same]
  · exact ⟨by omega, by rw [f1, v1]; omega, by rw [f3, v3]; exact ok2.2.2⟩
  · rw [f4, v4]; exact len
  · rw [f7 P (by omega), v5, up2_same]
  · rw [f5, v6, up2_k (by omega), up2_k (by omega), up2_k (by omega), up2_same]
  · rw [f5, v6, up2_k (by omega), up2_k (by omega), up2_same]
  · rw [f5, v6, up2_k (by omega), up2_same]
  · rw [f5, v6, up2_same]
  · obtain ⟨b1, b2, b3, b4, b5⟩ := bl r hr
    refine ⟨by rw [f3, v3]; exact b1, by rw [f4, v4]; exact b2, ?_, ?_, ?_⟩
    · rw [f7 r (by omega), v5, u2r (by omega)]; exact b3
    · rw [f5, v6, ← b4]
      funext k
      rw [up2_r (by omega), up2_r (by omega), up2_r (by omega), up2_r (by omega)]
    · rw [f6, v7, ← b5]
      funext k
      rw [up2_r (by omega), up2_r (by omega), up2_r (by omega), up2_r (by omega), up2_r (by omega)]
end
