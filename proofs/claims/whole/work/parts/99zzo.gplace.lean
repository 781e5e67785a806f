/-! ===== a place gets another program; drop ===== -/
theorem raC_cg {F F' : Nat → Int32} {na : Nat} (hn : na ≤ 8) (e : ∀ k, k < 900 → F' k = F k) (hc : ∀ i, i < na → (F (18 + 4 * i + 1) = 0 ∨ F (18 + 4 * i + 1) = 1 ∨ F (18 + 4 * i + 1) = 2) → ∃ c, c < 6 ∧ F (18 + 4 * i + 2) = nI c) {z : AS} {i j : Nat} (hi : i < na) (hj : j < na) : raC F' z i j ↔ raC F z i j := by
  have e1 : ∀ i k, i < na → k < 4 → F' (18 + 4 * i + k) = F (18 + 4 * i + k) := fun i k h1 h2 => e _ (by omega)
  have e0 : ∀ i, i < na → F' (18 + 4 * i) = F (18 + 4 * i) := fun i h1 => e _ (by omega)
  have cl : clF F' i j ↔ clF F i j := by
    unfold clF rdF
    rw [e1 i 1 hi (by omega), e1 j 1 hj (by omega), e1 i 2 hi (by omega), e1 j 2 hj (by omega), e0 i hi, e0 j hj]
    constructor
    · rintro ⟨q1, q2, q3, q4, q5, q6⟩
      obtain ⟨c, c1, c2⟩ := hc i hi (by
        rcases q1 with (z | z) | z
        · exact Or.inl z
        · exact Or.inr (Or.inr z)
        · exact Or.inr (Or.inl z))
      refine ⟨q1, q2, q3, q4, q5, ?_⟩
      rw [c2, ix_nI (by omega)] at q6 ⊢
      rw [← e c (by omega)]
      exact q6
    · rintro ⟨q1, q2, q3, q4, q5, q6⟩
      obtain ⟨c, c1, c2⟩ := hc i hi (by
        rcases q1 with (z | z) | z
        · exact Or.inl z
        · exact Or.inr (Or.inr z)
        · exact Or.inr (Or.inl z))
      refine ⟨q1, q2, q3, q4, q5, ?_⟩
      rw [c2, ix_nI (by omega)] at q6 ⊢
      rw [e c (by omega)]
      exact q6
  unfold raC
  rw [cl]
section
variable {h h' h1 H : AH} {g g' : SG} {m p q : Nat} {a b c : Int32} {d : PD} {A : Nat → Nat → Int32}
/-- the cells of d's actions -/
theorem lf_cell {F : Nat → Int32} (P : PDk d) (L : LF F (pE d) (pA d) (pS d) (pst d) (plb d) (pmb d) (pmk d)) : ∀ i, i < (pA d).length → (F (18 + 4 * i + 1) = 0 ∨ F (18 + 4 * i + 1) = 1 ∨ F (18 + 4 * i + 1) = 2) → ∃ c, c < 6 ∧ F (18 + 4 * i + 2) = nI c := fun i hi ho => by
  obtain ⟨⟨va, vb, -⟩, -⟩ := P.1
  obtain ⟨q1, q2, q3, q4, q5, q6, q7⟩ := vb.1 i hi
  obtain ⟨-, r2, r3, -⟩ := L.2.2.1 i hi
  rw [r2] at ho
  have o : en_op ((pE d).getD ((pA d).getD i dA).2.2.2.2 dE) = 0 ∨ en_op ((pE d).getD ((pA d).getD i dA).2.2.2.2 dE) = 1 ∨ en_op ((pE d).getD ((pA d).getD i dA).2.2.2.2 dE) = 2 := by
    rw [q3]
    rcases ho with z | z | z
    · exact Or.inl ((nI_eq (b := 0) (by omega) (by omega)).mp z)
    · exact Or.inr (Or.inl ((nI_eq (b := 1) (by omega) (by omega)).mp z))
    · exact Or.inr (Or.inr ((nI_eq (b := 2) (by omega) (by omega)).mp z))
  obtain ⟨c, c1, c2, -⟩ := (va _ q1).2.2.2.2.1 o
  exact ⟨c, c1, by rw [r3, ← q6, c2]⟩
theorem lf_cg {F F' : Nat → Int32} (P : PDk d) (e : ∀ k, k < 900 → F' k = F k) (L : LF F (pE d) (pA d) (pS d) (pst d) (plb d) (pmb d) (pmk d)) : LF F' (pE d) (pA d) (pS d) (pst d) (plb d) (pmb d) (pmk d) := by
  obtain ⟨-, -, ⟨b64, b8, b4, -, -, b480⟩, -⟩ := P.1
  obtain ⟨⟨l1, l2, l3, l4, l5, l6, l7⟩, l8, l9, l10, l11⟩ := L
  refine ⟨⟨(e _ (by omega)).trans l1, (e _ (by omega)).trans l2, (e _ (by omega)).trans l3, (e _ (by omega)).trans l4, (e _ (by omega)).trans l5, (e _ (by omega)).trans l6, (e _ (by omega)).trans l7⟩, fun t ht => (e _ (by omega)).trans (l8 t ht), fun n hn => ?_, fun x hx h9 => ir_F (fun i hi => e _ (by have := rxl_le (E := pE d) (e := x); omega)) (l10 x hx h9), fun i hi => (e _ (by omega)).trans (l11 i hi)⟩
  obtain ⟨r1, r2, r3, r4⟩ := l9 n hn
  exact ⟨(e _ (by omega)).trans r1, (e _ (by omega)).trans r2, (e _ (by omega)).trans r3, (e _ (by omega)).trans r4⟩
/-- place q when another place changes -/
def QK (A : Nat → Nat → Int32) (h : AH) (q : Nat) : Prop := (∀ k, k < 900 → A 106 (900 * q + k) = hp_i h 106 (900 * q + k)) ∧ (∀ o, o < 3 → A 111 (3 * q + o) = hp_i h 111 (3 * q + o)) ∧ (∀ o k, o < 3 → k < 2048 → A 110 (2048 * (3 * q + o) + k) = hp_i h 110 (2048 * (3 * q + o) + k)) ∧ A 115 q = hp_i h 115 q ∧ (∀ k, k < 64 → A 116 (64 * q + k) = hp_i h 116 (64 * q + k)) ∧ A 118 q = hp_i h 118 q ∧ ∀ k, k < 64 → A 119 (64 * q + k) = hp_i h 119 (64 * q + k)
theorem rp_fr (K : QK A h q) (P : (sD g q = none ∧ hp_i h 106 (900 * q + 7) = 0) ∨ ∃ d, sD g q = some d ∧ RPl h q d ∧ RCk h q d ∧ PDk d) : (sD g q = none ∧ hp_i (sA h A) 106 (900 * q + 7) = 0) ∨ ∃ d, sD g q = some d ∧ RPl (sA h A) q d ∧ RCk (sA h A) q d ∧ PDk d := by
  obtain ⟨k1, k2, k3, k4, k5, k6, k7⟩ := K
  refine P.imp (fun ⟨x, y⟩ => ⟨x, (k1 7 (by omega)).trans y⟩) (fun ⟨d, x, ⟨y1, y2⟩, z, w⟩ => ⟨d, x, ⟨lf_cg w k1 y1, fun c hc => (k1 c (by omega)).trans (y2 c hc)⟩, ?_, w⟩)
  have b8 := w.1.2.2.1.2.1
  exact rc_cg (h := h) (h' := sA h A) k1 k2 k3 k4 k5 k6 k7 b8 z (fun z i j hi hj => raC_cg b8 k1 (lf_cell w y1) hi hj)
/-- the reference's place p changes -/
theorem gr_P (G : GR h g) (hp : p < 8) (hq : ∀ q, q < 8 → q ≠ p → QK A h q ∧ sD g' q = sD g q) (V : RVA A g') (N : (sD g' p = none ∧ A 106 (900 * p + 7) = 0) ∨ ∃ d, sD g' p = some d ∧ RPl (sA h A) p d ∧ RCk (sA h A) p d ∧ PDk d) : GR (sA h A) g' := by
  obtain ⟨a, b, c⟩ := G
  refine ⟨a, V, fun q hq' => ?_⟩
  by_cases e : q = p
  · subst e; exact N
  · obtain ⟨K, e2⟩ := hq q hq' e
    rw [e2]
    exact rp_fr K (c q hq')
/-- the class's place p changes -/
theorem gc_P {v : Nat} {x : Option PD} (G : GC h g m) (hp : p < 8) (hx : (x = none ∧ v = 0) ∨ ∃ d, x = some d ∧ CPl h v d ∧ ∀ q, q < 8 → hp_r h 66 q ≠ v) : GC (st_r h 66 p v) (up_1 (sD g) p x, g.2) m ∧ CLF h (st_r h 66 p v) := by
  obtain ⟨a, b, c, ⟨d1, d2⟩, r, tn, t1, t2⟩ := G
  have er : ∀ r, r ≠ 66 → hp_r (st_r h 66 p v) r = hp_r h r := fun r hr => str_r hr
  have Q : SQ h (st_r h 66 p v) 0 := sq_of (Nat.le_refl _) (fun r hr _ => ⟨rfl, rfl, rfl, er r (by omega), rfl⟩) (by rw [er 90 (by omega)]) (by rw [er 95 (by omega)])
  have e66 : ∀ q, hp_r (st_r h 66 p v) 66 q = if q = p then v else hp_r h 66 q := fun q => by
    by_cases e : q = p
    · rw [if_pos e, e, str_s]
    · rw [if_neg e, str_k e]
  have dis : ∀ q, q < 8 → hp_r h 66 q = v → v = 0 := fun q hq e => by
    rcases hx with ⟨-, z⟩ | ⟨-, -, -, z⟩
    · exact z
    · exact absurd e (z q hq)
  refine ⟨⟨a, ?_, c, ⟨fun q hq => ?_, fun q q' h1 h2 h3 h4 => ?_⟩, ?_, tn, t1, ?_⟩, ⟨Nat.le_refl _, fun r h1 h2 => ⟨rfl, rfl, fun h3 => ⟨rfl, rfl, er r (by omega)⟩⟩⟩⟩
  · unfold GH CH at *
    rw [er 64 (by omega), er 68 (by omega), er 69 (by omega), er 72 (by omega), er 99 (by omega), er 90 (by omega), er 95 (by omega)]
    exact b
  · rw [e66]
    show (up_1 (sD g) p x q = none ∧ _) ∨ ∃ d, up_1 (sD g) p x q = some d ∧ _
    unfold up_1
    by_cases e : q = p
    · rw [if_pos e, if_pos e]
      refine hx.imp id (fun ⟨d, y1, y2, _⟩ => ⟨d, y1, cpl_fr Q (fun z => ?_) y2⟩)
      have := y2.1.1.1
      omega
    · rw [if_neg e, if_neg e]
      refine (d1 q hq).imp id (fun ⟨d, y1, y2⟩ => ⟨d, y1, cpl_fr Q (fun z => ?_) y2⟩)
      have := y2.1.1.1
      omega
  · rw [e66, e66] at h4
    rw [e66]
    by_cases e : q = p
    · rw [if_pos e] at h4 ⊢
      rw [if_neg (by omega)] at h4
      exact dis q' h2 h4.symm
    · rw [if_neg e] at h4 ⊢
      by_cases e' : q' = p
      · rw [if_pos e'] at h4
        rw [h4]; exact dis q h1 h4
      · rw [if_neg e'] at h4
        exact d2 q q' h1 h2 h3 h4
  · unfold GRm pot pot8 at *
    rw [er 90 (by omega), er 95 (by omega)]
    exact r
  · have e74 := er 74 (by omega)
    have e75 := er 75 (by omega)
    have e90 := er 90 (by omega)
    have e95 := er 95 (by omega)
    unfold HB SI0 OI TB at *
    rw [e74, e75, e90, e95]
    exact t2
/-- the reference forgets what it knows of place p -/
theorem r_fg (Z : RZ h) (hp : p < 8) : ∃ A', f_X11_forget 102 (nI p) (sA h A) = some (sA h A') ∧ A' = up_2 (up_2 (up_2 (up_2 (up_2 A 111 (3 * p + 0) (-1)) 111 (3 * p + 1) (-1)) 111 (3 * p + 2) (-1)) 115 p (-1)) 118 p 0 := by
  refine ⟨_, ?_, rfl⟩
  have r30 : ∀ A : Nat → Nat → Int32, g_r (sA h A) 102 11 30 = some 111 := fun A => rz_r (f := 30) (r := 111) (l := 25) (sA_rz Z) (by decide)
  have s30 : ∀ (A : Nat → Nat → Int32) (k : Nat) (v : Int32), k < 25 → s_i (sA h A) 111 (nI k) v = some (sA h (up_2 A 111 k v)) := fun A k v hk => rz_s (f := 30) (r := 111) (l := 25) (sA_rz Z) (by decide) hk (by omega)
  unfold f_X11_forget b_X11_forget_0
  obtain ⟨f, hf⟩ : ∃ f, fu_ = f + 1 + 1 + 1 + 1 := ⟨199996, rfl⟩
  have st : ∀ (f k : Nat) (A : Nat → Nat → Int32), k < 3 → l_X11_forget_2 (f + 1) 102 (nI p) (nI k) (sA h A) = l_X11_forget_2 f 102 (nI p) (nI (k + 1)) (sA h (up_2 A 111 (3 * p + k) (-1))) := fun f k A hk => by
    show b_X11_forget_2 (l_X11_forget_2 f) 102 (nI p) (nI k) (sA h A) = _
    unfold b_X11_forget_2
    rw [if_neg (show ¬ (3 : Int32) ≤ nI k from nI_ge (b := 3) hk (by omega))]
    unfold b_X11_forget_7
    rw [r30, Option.bind_some, mu, nI_add, s30 _ _ _ (by omega), Option.bind_some, da]
  rw [hf, show l_X11_forget_2 (f + 1 + 1 + 1 + 1) 102 (nI p) (0 : Int32) (sA h A) = _ from st (f + 1 + 1 + 1) 0 A (by omega), st (f + 1 + 1) 1 _ (by omega), st (f + 1) 2 _ (by omega)]
  show b_X11_forget_2 (l_X11_forget_2 f) 102 (nI p) (nI 3) _ = _
  unfold b_X11_forget_2
  rw [if_pos (show (3 : Int32) ≤ nI 3 by decide)]
  unfold b_X11_forget_24
  rw [rz_r (f := 37) (r := 115) (l := 8) (sA_rz Z) (by decide), Option.bind_some, show ∀ A : Nat → Nat → Int32, s_i (sA h A) 115 (nI p) (-1 : Int32) = some (sA h (up_2 A 115 p (-1))) from fun A => rz_s (f := 37) (r := 115) (l := 8) (sA_rz Z) (by decide) hp (by omega), Option.bind_some, rz_r (f := 40) (r := 118) (l := 8) (sA_rz Z) (by decide), Option.bind_some, show ∀ A : Nat → Nat → Int32, s_i (sA h A) 118 (nI p) (0 : Int32) = some (sA h (up_2 A 118 p 0)) from fun A => rz_s (f := 40) (r := 118) (l := 8) (sA_rz Z) (by decide) hp (by omega), Option.bind_some]
def lgb (b : Int32) : Int64 := if b = 0 then 0 else 1
theorem s_drop (G : GC h g m) (R : GR h g) : TSP lgb (f_L_drop 64 a 125) (f_X11_drop 102 a) h m := by
  have GHh := G.2.1
  have e66 : g_r h 64 10 1 = some 66 := (if_pos GHh.1.1).trans (by rw [GHh.1.2.2.1])
  rcases p_cs a with ca | ⟨p, hp, rfl⟩
  · refine tsp_bad (k := 1) (c := 12) G R (by decide) ?_ (fun H RH => ?_)
    · have e0 : b_L_drop_0 64 a 125 h = none := by
        unfold b_L_drop_0 f_X10_drop b_X10_drop_0
        rw [ov64 GHh, Option.bind_some, (c_np ca).1]; rfl
      unfold f_L_drop x_X10_drop
      rw [e0, ov64 GHh, Option.bind_some, (c_np ca).2]; rfl
    · obtain ⟨H2, e0, R0, L0, t0, -⟩ := r_thr (v := 1) RH
      refine ⟨0, H2, ?_, R0, L0, t0⟩
      unfold f_X11_drop b_X11_drop_0
      rw [r_np ca, Option.bind_some, if_neg n10]
      unfold b_X11_drop_8 b_X11_drop_13
      rw [e0, Option.bind_some, rz_g R0.1, Option.bind_some, t0, if_neg n10]
      exact ok_z_0
  · have s66 : s_r h 66 (nI p) 0 = some (st_r h 66 p 0) := by
      have e : s_r h 66 (nI p) 0 = some (st_r h 66 (nI p).toNatClampNeg 0) := if_pos ⟨⟨GHh.2.2.1.1, nI_pos (by omega), by rw [nI_clamp (by omega), GHh.2.2.1.2]; omega⟩, Or.inl rfl⟩
      rw [e, nI_clamp (by omega)]
    obtain ⟨G1, F1⟩ := gc_P (p := p) (v := 0) (x := none) G hp (Or.inl ⟨rfl, rfl⟩)
    have eC : ∀ v : Int32, (v = if hp_r h 66 p = 0 then 0 else 1) → f_L_drop 64 (nI p) 125 h = some (0, st_j (st_r h 66 p 0) 125 0 (lgb v)) := fun v hv => by
      unfold f_L_drop b_L_drop_0 f_X10_drop b_X10_drop_0
      rw [ov64 GHh, Option.bind_some, (c_dp hp).1, Option.bind_some, e66, Option.bind_some, l_r66 GHh hp, Option.bind_some, hv]
      by_cases c : hp_r h 66 p = 0
      · rw [if_pos c, if_pos c]
        unfold b_X10_drop_17 b_X10_drop_18
        rw [e66, Option.bind_some, s66, Option.bind_some, ok_z_0, Option.bind_some, if_pos rfl]
        unfold b_L_drop_14 b_L_drop_15 b_L_drop_22
        rw [sj125 G1.2.1, Option.bind_some]
        rfl
      · rw [if_neg c, if_neg c]
        unfold b_X10_drop_13 b_X10_drop_18
        rw [e66, Option.bind_some, s66, Option.bind_some, ok_z_1, Option.bind_some, if_neg n10]
        unfold b_L_drop_10 b_L_drop_15 b_L_drop_22
        rw [sj125 G1.2.1, Option.bind_some]
        rfl
    have rC : ∀ H, GR H g → ∃ H0, GR H0 g ∧ RLF H H0 ∧ hp_i H0 102 0 = 0 ∧ f_X11_drop 102 (nI p) H = b_X11_drop_23 102 (nI p) H0 := fun H RH => by
      obtain ⟨H2, e0, R0, L0, t0, -⟩ := r_thr (v := 0) RH
      refine ⟨H2, R0, L0, t0, ?_⟩
      unfold f_X11_drop b_X11_drop_0
      rw [r_pl hp, Option.bind_some, if_pos rfl]
      unfold b_X11_drop_12 b_X11_drop_13
      rw [e0, Option.bind_some, rz_g R0.1, Option.bind_some, t0, if_pos rfl]
    rcases G.2.2.2.1.1 p hp with ⟨d1, d2⟩ | ⟨d, d1, d2⟩
    · have eg : (up_1 (sD g) p none, g.2) = g := by
        have : up_1 (sD g) p none = sD g := by
          funext q
          unfold up_1
          by_cases e : q = p
          · rw [if_pos e, e, d1]
          · rw [if_neg e]
        rw [this]
        rfl
      rw [eg] at G1
      refine tsp_ok (g' := g) (v := 0) (h1 := st_r h 66 p 0) (eC 0 (by rw [if_pos d2])) (gc_up G1) F1 R (fun H RH _ => ?_)
      obtain ⟨H0, R0, L0, t0, e0⟩ := rC H RH
      refine ⟨H0, ?_, R0, L0, t0⟩
      rw [e0]
      unfold b_X11_drop_23
      rw [rz_v R0.1, Option.bind_some, r_em R0 hp, Option.bind_some, if_pos d1, if_neg n10]
      exact ok_z_0
    · have h0 : hp_r h 66 p ≠ 0 := by have := d2.1.1.1; omega
      have nn : ¬ sD g p = none := by rw [d1]; exact Option.some_ne_none _
      refine tsp_ok (g' := (up_1 (sD g) p none, g.2)) (v := 1) (h1 := st_r h 66 p 0) (eC 1 (by rw [if_neg h0])) (gc_up G1) F1 R (fun H RH _ => ?_)
      obtain ⟨H0, R0, L0, t0, e0⟩ := rC H RH
      obtain ⟨A', x1, x2⟩ := r_fg (p := p) (A := up_2 (hp_i H0) 106 (900 * p + 7) 0) R0.1 hp
      have kk : ∀ r k, ¬ (r = 106 ∧ k = 900 * p + 7) → ¬ (r = 111 ∧ 3 * p ≤ k ∧ k < 3 * p + 3) → ¬ (r = 115 ∧ k = p) → ¬ (r = 118 ∧ k = p) → A' r k = hp_i H0 r k := fun r k h1 h2 h3 h4 => by
        rw [x2, u2 (by omega), u2 (by omega), u2 (by omega), u2 (by omega), u2 (by omega), u2 (by omega)]
      refine ⟨sA H0 A', ?_, gr_P R0 hp (fun q hq e => ⟨⟨fun k hk => kk _ _ (by omega) (by omega) (by omega) (by omega), fun o ho => kk _ _ (by omega) (by omega) (by omega) (by omega), fun o k _ _ => kk _ _ (by omega) (by omega) (by omega) (by omega), kk _ _ (by omega) (by omega) (by omega) (by omega), fun k _ => kk _ _ (by omega) (by omega) (by omega) (by omega), kk _ _ (by omega) (by omega) (by omega) (by omega), fun k _ => kk _ _ (by omega) (by omega) (by omega) (by omega)⟩, if_neg e⟩) ?_ (Or.inl ⟨if_pos rfl, ?_⟩), rlf_tr L0 (rl_A (fun r k hr => kk _ _ (by omega) (by omega) (by omega) (by omega))), (kk 102 0 (by omega) (by omega) (by omega) (by omega)).trans t0⟩
      · rw [e0]
        unfold b_X11_drop_23
        rw [rz_v R0.1, Option.bind_some, r_em R0 hp, Option.bind_some, if_neg nn, if_pos rfl]
        unfold b_X11_drop_33
        rw [rz_r (f := 9) (r := 106) (l := 7200) R0.1 (by decide), Option.bind_some, mu, da, show s_i H0 106 (nI (900 * p + 7)) (0 : Int32) = some (sA H0 (up_2 (hp_i H0) 106 (900 * p + 7) 0)) from rz_s (f := 9) (r := 106) (l := 7200) R0.1 (by decide) (by omega) (by omega), Option.bind_some, v_v R0.1, Option.bind_some, x1, Option.bind_some]
        exact ok_z_1
      · obtain ⟨-, ⟨⟨a1, a2⟩, ⟨b1, b2⟩, ⟨c1, c2⟩, d, ⟨e1, e2⟩, f, l, l1, l2⟩, -⟩ := R0
        have uu : ∀ r k, r ≠ 106 → r ≠ 111 → r ≠ 115 → r ≠ 118 → A' r k = hp_i H0 r k := fun r k h1 h2 h3 h4 => kk r k (by omega) (by omega) (by omega) (by omega)
        exact ⟨⟨(uu _ _ (by omega) (by omega) (by omega) (by omega)).trans a1, fun q hq => (uu _ _ (by omega) (by omega) (by omega) (by omega)).trans (a2 q hq)⟩, ⟨(uu _ _ (by omega) (by omega) (by omega) (by omega)).trans b1, (uu _ _ (by omega) (by omega) (by omega) (by omega)).trans b2⟩, ⟨(uu _ _ (by omega) (by omega) (by omega) (by omega)).trans c1, fun k hk => (uu _ _ (by omega) (by omega) (by omega) (by omega)).trans (c2 k hk)⟩, fun l hl => (uu _ _ (by omega) (by omega) (by omega) (by omega)).trans (d l hl), ⟨(uu _ _ (by omega) (by omega) (by omega) (by omega)).trans e1, fun k hk => (uu _ _ (by omega) (by omega) (by omega) (by omega)).trans (e2 k hk)⟩, (uu _ _ (by omega) (by omega) (by omega) (by omega)).trans f, l, l1, (uu _ _ (by omega) (by omega) (by omega) (by omega)).trans l2⟩
      · rw [x2, u2 (by omega), u2 (by omega), u2 (by omega), u2 (by omega), u2 (by omega), u2s]
end
