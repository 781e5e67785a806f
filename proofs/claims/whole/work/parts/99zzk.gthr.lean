/-! ===== calls that may throw: the frame ===== -/
section
variable {h h' : AH} {g g' : SG} {m : Nat} {a : Int32}
theorem hb_new {c n tn : Nat} (N : NA h h' c n) (H : HB h tn) : HB h' tn := by
  obtain ⟨n1, n2, n3, n4, n5⟩ := N
  obtain ⟨⟨t1, t2, t3, t4, t5, t6⟩, ⟨u1, ⟨u2, u3, u4⟩, ⟨u5, u6, u7⟩, u8, u9, u10⟩, ⟨L, s0, ⟨s1, s1'⟩, ⟨s2, s2'⟩, ⟨s3, s3'⟩, ⟨s4, s4'⟩, s5⟩, ⟨M, o1, o2, o3⟩, ⟨p1, p2⟩, ⟨w1, w2⟩, d⟩ := H
  have ok : ∀ {r c}, ok_o h r c → ok_o h' r c := fun o => ⟨o.1, by have := o.2.1; omega, by rw [(n3 _ o.2.1).1]; exact o.2.2⟩
  have l : ∀ {r c}, ok_o h r c → hp_l h' r = hp_l h r := fun o => (n3 _ o.2.1).2.1
  have i : ∀ {r c}, ok_o h r c → hp_i h' r = hp_i h r := fun o => (n3 _ o.2.1).2.2.1
  have rr : ∀ {r c}, ok_o h r c → hp_r h' r = hp_r h r := fun o => (n3 _ o.2.1).2.2.2.2
  unfold HB SI0 OI TB at *
  rw [rr t1, rr u1, rr s0, rr o1, l u3, l u6, l u9, l s1, l s2, l s3, l s4, l o2, l p1, l w1, i o1, i o2, i s0, i s4]
  exact ⟨⟨ok t1, t2, t3, t4, t5, t6⟩, ⟨ok u1, ⟨u2, ok u3, u4⟩, ⟨u5, ok u6, u7⟩, u8, ok u9, u10⟩, ⟨L, ok s0, ⟨ok s1, s1'⟩, ⟨ok s2, s2'⟩, ⟨ok s3, s3'⟩, ⟨ok s4, s4'⟩, s5⟩, ⟨M, ok o1, ok o2, o3⟩, ⟨ok p1, p2⟩, ⟨ok w1, w2⟩, d⟩
theorem gh_lt (G : GH h) : 126 ≤ hp_n h := G.2.1.2.2.2.2.2
/-- a new cell -/
theorem gc_new {c n : Nat} (N : NA h h' c n) (hs : n ≤ 2000) (G : GC h g m) : GC h' g (m + 1) ∧ CLF h h' := by
  have N' := N
  obtain ⟨n1, n2, n3, n4, n5⟩ := N
  obtain ⟨a, b, c', d, ⟨r1, r2⟩, tn, t1, t2⟩ := G
  have B := gh_lt b
  have ok : ∀ {r c}, ok_o h r c → ok_o h' r c := fun o => ⟨o.1, by have := o.2.1; omega, by rw [(n3 _ o.2.1).1]; exact o.2.2⟩
  have l : ∀ r, r < 126 → hp_l h' r = hp_l h r := fun r hr => (n3 _ (by omega)).2.1
  have i : ∀ r, r < 126 → hp_i h' r = hp_i h r := fun r hr => (n3 _ (by omega)).2.2.1
  have rr : ∀ r, r < 126 → hp_r h' r = hp_r h r := fun r hr => (n3 _ (by omega)).2.2.2.2
  have o90 := t2.2.2.1.choose_spec.2.2.2.2.1.1
  have o95 := t2.2.2.2.1.choose_spec.2.1
  have e90 : hp_l h' (hp_r h 90 3) = hp_l h (hp_r h 90 3) := (n3 _ o90.2.1).2.1
  have e95 : hp_l h' (hp_r h 95 0) = hp_l h (hp_r h 95 0) := (n3 _ o95.2.1).2.1
  refine ⟨⟨a, ?_, ?_, ?_, ⟨?_, ?_⟩, tn, by omega, hb_new N' t2⟩, ⟨by omega, fun r h1 h2 => ⟨(n3 r (by omega)).1, l r (by omega), fun _ => ⟨i r (by omega), (n3 r (by omega)).2.2.2.1, rr r (by omega)⟩⟩⟩⟩
  · obtain ⟨⟨q1, q2⟩, ⟨⟨c1, c2⟩, ⟨c3, c4⟩, c5, ⟨c6, c7, c8⟩, ⟨c9, c10⟩, c11⟩, ⟨q3, q4⟩, ⟨q5, q6⟩, ⟨q7, q8, q9, q10⟩, ⟨q11, q12, q13, q14, q15, q16, q17⟩, ⟨q18, q19⟩, q20⟩ := b
    unfold GH CH
    rw [rr 64 (by omega), rr 68 (by omega), rr 69 (by omega), rr 72 (by omega), rr 99 (by omega), rr 90 (by omega), rr 95 (by omega), l 71 (by omega), l 70 (by omega), l 65 (by omega), l 66 (by omega), l 67 (by omega), l 73 (by omega), l 100 (by omega), l 101 (by omega), l 125 (by omega)]
    exact ⟨⟨ok q1, q2⟩, ⟨⟨ok c1, c2⟩, ⟨ok c3, c4⟩, ok c5, ⟨c6, ok c7, c8⟩, ⟨ok c9, c10⟩, by omega⟩, ⟨ok q3, q4⟩, ⟨ok q5, q6⟩, ⟨ok q7, q8, ok q9, q10⟩, ⟨ok q11, q12, q13, ok q14, q15, ok q16, q17⟩, ⟨ok q18, q19⟩, q20⟩
  · unfold GVl GVA at *
    rw [i 64 (by omega), i 65 (by omega), i 72 (by omega), i 73 (by omega), i 67 (by omega), i 74 (by omega), i 98 (by omega)]
    exact c'
  · obtain ⟨d1, d2⟩ := d
    unfold GPl
    rw [rr 66 (by omega)]
    refine ⟨fun p hp => (d1 p hp).imp id (fun ⟨x, x1, x2⟩ => ⟨x, x1, cpl_fr (x := 0) (sq_na N' (by omega)) (fun z => ?_) x2⟩), d2⟩
    have := x2.1.1.1
    omega
  · unfold pot at *
    rw [rr 90 (by omega), rr 95 (by omega), e90, e95]
    omega
  · unfold pot8 at *
    rw [rr 90 (by omega), rr 95 (by omega), e90, e95]
    omega
/-- the law's own long -/
theorem gc_j {v : Int64} (G : GC h g m) : GC (st_j h 125 0 v) g m ∧ CLF h (st_j h 125 0 v) ∧ hp_j (st_j h 125 0 v) 125 0 = v := by
  obtain ⟨a, b, c, d, r, tn, t1, t2⟩ := G
  have ej : ∀ r, r ≠ 125 → hp_j (st_j h 125 0 v) r = hp_j h r := fun r hr => funext (fun k => up2_r hr)
  refine ⟨⟨a, b, c, ?_, r, tn, t1, t2⟩, ⟨Nat.le_refl _, fun r h1 h2 => ⟨rfl, rfl, fun h3 => ⟨rfl, ej r (by omega), rfl⟩⟩⟩, (show up_2 (hp_j h) 125 0 v 125 0 = v from up2_same)⟩
  obtain ⟨d1, d2⟩ := d
  refine ⟨fun p hp => (d1 p hp).imp id (fun ⟨x, x1, x2⟩ => ⟨x, x1, cpl_fr (h := h) (h' := st_j h 125 0 v) (x := 0) (sq_of (Nat.le_refl _) (fun r hr _ => ⟨rfl, rfl, rfl, rfl, ej r (by omega)⟩) rfl rfl) (fun z => ?_) x2⟩), d2⟩
  have := x2.1.1.1
  have z' : hp_r h 66 p = 0 := z
  omega
/-- a call that may throw -/
def TSP (lg : Int32 → Int64) (rL rR : AH → Option (Int32 × AH)) (h : AH) (m : Nat) : Prop := ∃ k h1 b h2 g', rL h = some (k, h1) ∧ rR h1 = some (b, h2) ∧ hp_i h2 102 0 = k ∧ (k = 0 → hp_j h2 125 0 = lg b) ∧ GC h2 g' (m + 1) ∧ GR h2 g' ∧ ok_o h1 102 11
theorem tsp_bad {lg : Int32 → Int64} {rL rR : AH → Option (Int32 × AH)} {k : Int32} {c : Nat} (G : GC h g m) (R : GR h g) (k0 : k ≠ 0) (eL : rL h = some (k, st_n h c 6)) (eR : ∀ H, GR H g → ∃ b H2, rR H = some (b, H2) ∧ GR H2 g ∧ RLF H H2 ∧ hp_i H2 102 0 = k) : TSP lg rL rR h m := by
  obtain ⟨G1, F1⟩ := gc_new (na_n (c := c) (n := 6)) (by omega) G
  obtain ⟨b, H2, x1, x2, x3, x4⟩ := eR _ (gr_cl F1 R)
  exact ⟨k, _, b, H2, g, eL, x1, x4, fun z => absurd z k0, gc_rl x3 G1, x2, (gr_cl F1 R).1.1⟩
theorem clf_tr {h1 h2 h3 : AH} (a : CLF h1 h2) (b : CLF h2 h3) : CLF h1 h3 := ⟨Nat.le_trans a.1 b.1, fun r x y => by
  obtain ⟨a1, a2, a3⟩ := a.2 r x y
  obtain ⟨b1, b2, b3⟩ := b.2 r x y
  exact ⟨b1.trans a1, b2.trans a2, fun z => ⟨(b3 z).1.trans (a3 z).1, (b3 z).2.1.trans (a3 z).2.1, (b3 z).2.2.trans (a3 z).2.2⟩⟩⟩
theorem tsp_ok {lg : Int32 → Int64} {rL rR : AH → Option (Int32 × AH)} {v : Int32} {h1 : AH} (eL : rL h = some (0, st_j h1 125 0 (lg v))) (G : GC h1 g' (m + 1)) (F : CLF h h1) (R : GR h g) (eR : ∀ H, GR H g → RLF (st_j h1 125 0 (lg v)) H ∨ True → ∃ H2, rR H = some (v, H2) ∧ GR H2 g' ∧ RLF H H2 ∧ hp_i H2 102 0 = 0) : TSP lg rL rR h m := by
  obtain ⟨G1, F1, e1⟩ := gc_j (v := lg v) G
  obtain ⟨H2, x1, x2, x3, x4⟩ := eR _ (gr_cl (clf_tr F F1) R) (Or.inr trivial)
  exact ⟨0, _, v, H2, g', eL, x1, x4, fun _ => by rw [x3.2.2.2.2.1]; exact e1, gc_rl x3 G1, x2, (gr_cl (clf_tr F F1) R).1.1⟩
/-- the class's test of a place -/
theorem c_np (ha : a < 0 ∨ ¬ a < 8) : f_X10_demandPlace a h = none ∧ x_X10_demandPlace a h = some (12, st_n h 12 6) := by
  constructor
  · unfold f_X10_demandPlace b_X10_demandPlace_0 b_X10_demandPlace_4
    by_cases c : a < 0
    · rw [if_pos c]; rfl
    · rw [if_neg c, if_neg (ha.resolve_left c)]; rfl
  · unfold x_X10_demandPlace
    rw [if_pos ha]
theorem c_dp {p : Nat} (hp : p < 8) : f_X10_demandPlace (nI p) h = some h ∧ x_X10_demandPlace (nI p) h = none := by
  have k0 : ¬ nI p < 0 := nI_pos (by omega)
  have k8 : nI p < (8 : Int32) := nI_lt (b := 8) hp (by omega)
  constructor
  · unfold f_X10_demandPlace b_X10_demandPlace_0 b_X10_demandPlace_4
    rw [if_neg k0, if_pos k8]; rfl
  · unfold x_X10_demandPlace
    rw [if_neg (fun z => z.elim k0 (fun y => y k8))]
theorem p_cs (a : Int32) : (a < 0 ∨ ¬ a < 8) ∨ ∃ p, p < 8 ∧ a = nI p := by
  rcases i_cs a with c | ⟨k, k1, rfl⟩
  · exact Or.inl (Or.inl c)
  · by_cases c : k < 8
    · exact Or.inr ⟨k, c, rfl⟩
    · exact Or.inl (Or.inr (show ¬ nI k < (8 : Int32) from nI_nlt (b := 8) (by omega) (by omega)))
theorem l_r66 {p : Nat} (G : GH h) (hp : p < 8) : l_r h 66 (nI p) = some (hp_r h 66 p) := by
  have o := G.2.2.1.1
  have l := G.2.2.1.2
  have e : l_r h 66 (nI p) = some (hp_r h 66 (nI p).toNatClampNeg) := if_pos ⟨o, nI_pos (by omega), by rw [nI_clamp (by omega)]; omega⟩
  rw [e, nI_clamp (by omega)]
theorem c_pa {p : Nat} (G : GH h) (hp : p < 8) (h0 : hp_r h 66 p ≠ 0) : f_X10_programAt 64 (nI p) h = some (hp_r h 66 p, h) := by
  unfold f_X10_programAt b_X10_programAt_0
  rw [(c_dp hp).1, Option.bind_some, show g_r h 64 10 1 = some 66 from (if_pos G.1.1).trans (by rw [G.1.2.2.1]), Option.bind_some, l_r66 G hp, Option.bind_some, if_neg h0]
  rfl
theorem c_pn (G : GH h) (ha : a < 0 ∨ ¬ a < 8) : f_X10_programAt 64 a h = none ∧ x_X10_programAt 64 a h = some (12, st_n h 12 6) := by
  constructor
  · unfold f_X10_programAt b_X10_programAt_0
    rw [(c_np ha).1]; rfl
  · unfold x_X10_programAt
    rw [(c_np ha).2]; rfl
theorem c_p0 {p : Nat} (G : GH h) (hp : p < 8) (h0 : hp_r h 66 p = 0) : f_X10_programAt 64 (nI p) h = none ∧ x_X10_programAt 64 (nI p) h = some (13, st_n h 13 6) := by
  have e1 : g_r h 64 10 1 = some 66 := (if_pos G.1.1).trans (by rw [G.1.2.2.1])
  constructor
  · unfold f_X10_programAt b_X10_programAt_0
    rw [(c_dp hp).1, Option.bind_some, e1, Option.bind_some, l_r66 G hp, Option.bind_some, if_pos h0]; rfl
  · unfold x_X10_programAt x_X10_pnull
    rw [(c_dp hp).2, (c_dp hp).1, Option.bind_some, e1, Option.bind_some, l_r66 G hp, Option.bind_some, if_pos h0]; rfl
/-- the reference's test of a place -/
theorem r_np (ha : a < 0 ∨ ¬ a < 8) : f_X11_noPlace a h = some (1, h) := by
  unfold f_X11_noPlace b_X11_noPlace_0
  have e : (if a < 0 then (0 : Int32) else if 7 < a then 0 else 1) = 0 := by
    by_cases c : a < 0
    · rw [if_pos c]
    · rw [if_neg c, if_pos]
      have := ha.resolve_left c
      rcases i_cs a with z | ⟨k, k1, rfl⟩
      · exact absurd z c
      · have : ¬ k < 8 := fun z => this (nI_lt (b := 8) z (by omega))
        exact nI_lt (a := 7) (by omega) (by omega)
  rw [isin_e, Option.bind_some, e, if_pos rfl]
  exact ok_z_1
theorem r_pl {p : Nat} (hp : p < 8) : f_X11_noPlace (nI p) h = some (0, h) := by
  unfold f_X11_noPlace b_X11_noPlace_0
  rw [isin_e, Option.bind_some, if_neg (nI_pos (by omega)), if_neg (show ¬ (7 : Int32) < nI p from nI_nlt (a := 7) (by omega) (by omega)), if_neg n10]
  exact ok_z_0
theorem r_em {p : Nat} (R : GR h g) (hp : p < 8) : f_X11_isEmpty 102 (nI p) h = some (if sD g p = none then 1 else 0, h) := by
  unfold f_X11_isEmpty b_X11_isEmpty_0
  rw [rz_r (f := 9) (r := 106) (l := 7200) R.1 (by decide), Option.bind_some, mu, da, rz_l (f := 9) (r := 106) (l := 7200) R.1 (by decide) (by omega) (by omega), Option.bind_some]
  rcases R.2.2 p hp with ⟨e1, e2⟩ | ⟨d, e1, ⟨⟨⟨-, e2, -⟩, -⟩, -⟩, -, P⟩
  · rw [e2, if_pos rfl, if_pos e1]; exact ok_z_1
  · have e2' : hp_i h 106 (900 * p + 7) = nI (pS d).length := e2
    have L := P.1.2.2.1
    have nn : ¬ sD g p = none := by rw [e1]; exact Option.some_ne_none _
    rw [e2', if_neg (show ¬ nI (pS d).length = 0 from fun z => absurd ((nI_eq (b := 0) (by omega) (by omega)).mp z) (by omega)), if_neg nn]; exact ok_z_0
theorem r_24 {p : Nat} (R : GR h g) : GR (sA h (up_2 (hp_i h) 102 24 (nI p))) g ∧ RLF h (sA h (up_2 (hp_i h) 102 24 (nI p))) := by
  refine ⟨gr_A R (fun r k hr => u2 (by omega)) ?_ rfl, rl_A (fun r k hr => u2 (by omega))⟩
  have uu : ∀ r q, ¬ (r = 102 ∧ q = 24) → up_2 (hp_i h) 102 24 (nI p) r q = hp_i h r q := fun r q hq => u2 (by omega)
  obtain ⟨-, ⟨⟨a1, a2⟩, ⟨b1, b2⟩, ⟨c1, c2⟩, d, ⟨e1, e2⟩, f, l, l1, l2⟩, -⟩ := R
  exact ⟨⟨(uu _ _ (by omega)).trans a1, fun k hk => (uu _ _ (by omega)).trans (a2 k hk)⟩, ⟨(uu _ _ (by omega)).trans b1, (uu _ _ (by omega)).trans b2⟩, ⟨(uu _ _ (by omega)).trans c1, fun k hk => (uu _ _ (by omega)).trans (c2 k hk)⟩, fun l hl => (uu _ _ (by omega)).trans (d l hl), ⟨(uu _ _ (by omega)).trans e1, fun k hk => (uu _ _ (by omega)).trans (e2 k hk)⟩, (uu _ _ (by omega)).trans f, l, l1, (uu _ _ (by omega)).trans l2⟩
theorem r_same24 (R : GR h g) : sA h (up_2 (hp_i h) 102 24 (hp_i h 102 24)) = h := by
  have : up_2 (hp_i h) 102 24 (hp_i h 102 24) = hp_i h := by
    funext r k
    by_cases c : r = 102 ∧ k = 24
    · rw [c.1, c.2, u2s]
    · rw [u2 (by omega)]
  rw [this]
  rfl
/-- fails -/
theorem r_fl1 (R : GR h g) (ha : a < 0 ∨ ¬ a < 8) : ∃ H, f_X11_fails 102 a h = some (1, H) ∧ GR H g ∧ RLF h H ∧ hp_i H 102 0 = 1 := by
  obtain ⟨H, e0, R0, L0, t0, -⟩ := r_thr (v := 1) R
  refine ⟨H, ?_, R0, L0, t0⟩
  unfold f_X11_fails b_X11_fails_0
  rw [r_np ha, Option.bind_some, if_neg n10]
  unfold b_X11_fails_8 b_X11_fails_25
  rw [e0, Option.bind_some, rz_g R0.1, Option.bind_some, t0, if_neg n10]
  unfold b_X11_fails_40 b_X11_fails_44
  rw [rz_g R0.1, Option.bind_some, show p_i H 102 11 24 (hp_i H 102 24) = some (sA H (up_2 (hp_i H) 102 24 (hp_i H 102 24))) from v_p (A := hp_i H) R0.1, Option.bind_some, r_same24 R0, rz_g R0.1, Option.bind_some, t0, if_neg n10]
  exact ok_z_1
theorem r_fl2 {p : Nat} (R : GR h g) (hp : p < 8) (hd : sD g p = none) : ∃ H, f_X11_fails 102 (nI p) h = some (1, H) ∧ GR H g ∧ RLF h H ∧ hp_i H 102 0 = 2 := by
  obtain ⟨H, e0, R0, L0, t0, -⟩ := r_thr (v := 2) R
  have n20 : ¬ (2 : Int32) = 0 := by decide
  refine ⟨H, ?_, R0, L0, t0⟩
  unfold f_X11_fails b_X11_fails_0
  rw [r_pl hp, Option.bind_some, if_pos rfl]
  unfold b_X11_fails_12
  rw [rz_v R.1, Option.bind_some, r_em R hp, Option.bind_some, if_pos hd, if_neg n10]
  unfold b_X11_fails_20 b_X11_fails_25
  rw [e0, Option.bind_some, rz_g R0.1, Option.bind_some, t0, if_neg n20]
  unfold b_X11_fails_40 b_X11_fails_44
  rw [rz_g R0.1, Option.bind_some, show p_i H 102 11 24 (hp_i H 102 24) = some (sA H (up_2 (hp_i H) 102 24 (hp_i H 102 24))) from v_p (A := hp_i H) R0.1, Option.bind_some, r_same24 R0, rz_g R0.1, Option.bind_some, t0, if_neg n20]
  exact ok_z_1
theorem r_fl0 {p : Nat} {d : PD} (R : GR h g) (hp : p < 8) (hd : sD g p = some d) : ∃ H, f_X11_fails 102 (nI p) h = some (0, H) ∧ GR H g ∧ RLF h H ∧ hp_i H 102 0 = 0 ∧ hp_i H 102 24 = nI p := by
  obtain ⟨H, e0, R0, L0, t0, -⟩ := r_thr (v := 0) R
  obtain ⟨R1, L1⟩ := r_24 (p := p) R0
  refine ⟨_, ?_, R1, rlf_tr L0 L1, (show up_2 (hp_i H) 102 24 (nI p) 102 0 = 0 from (u2 (by omega)).trans t0), (show up_2 (hp_i H) 102 24 (nI p) 102 24 = nI p from u2s)⟩
  have nn : ¬ sD g p = none := by rw [hd]; exact Option.some_ne_none _
  unfold f_X11_fails b_X11_fails_0
  rw [r_pl hp, Option.bind_some, if_pos rfl]
  unfold b_X11_fails_12
  rw [rz_v R.1, Option.bind_some, r_em R hp, Option.bind_some, if_neg nn, if_pos rfl]
  unfold b_X11_fails_24 b_X11_fails_25
  rw [e0, Option.bind_some, rz_g R0.1, Option.bind_some, t0, if_pos rfl]
  unfold b_X11_fails_36 b_X11_fails_44
  rw [show p_i H 102 11 24 (nI p) = some (sA H (up_2 (hp_i H) 102 24 (nI p))) from v_p (A := hp_i H) R0.1, Option.bind_some, v_g R0.1, Option.bind_some, u2 (by omega), t0, if_pos rfl]
  exact ok_z_0
/-- a call whose first deed is to ask for the program -/
theorem tsp_pl {lg : Int32 → Int64} {rL rR : AH → Option (Int32 × AH)} (G : GC h g m) (R : GR h g) (e1 : (a < 0 ∨ ¬ a < 8) → rL h = some (1, st_n h 12 6)) (e2 : ∀ p, p < 8 → a = nI p → hp_r h 66 p = 0 → rL h = some (2, st_n h 13 6)) (e3 : ∀ H H', RZ H → f_X11_fails 102 a H = some (1, H') → rR H = some (0, H'))
    (ok : ∀ p d, p < 8 → a = nI p → sD g p = some d → CPl h (hp_r h 66 p) d → TSP lg rL rR h m) : TSP lg rL rR h m := by
  rcases p_cs a with c | ⟨p, hp, rfl⟩
  · refine tsp_bad G R (by decide) (e1 c) (fun H RH => ?_)
    obtain ⟨H2, x1, x2, x3, x4⟩ := r_fl1 RH c
    exact ⟨0, H2, e3 H H2 RH.1 x1, x2, x3, x4⟩
  · rcases G.2.2.2.1.1 p hp with ⟨d1, d2⟩ | ⟨d, d1, d2⟩
    · refine tsp_bad G R (by decide) (e2 p hp rfl d2) (fun H RH => ?_)
      obtain ⟨H2, x1, x2, x3, x4⟩ := r_fl2 RH hp d1
      exact ⟨0, H2, e3 H H2 RH.1 x1, x2, x3, x4⟩
    · exact ok p d hp rfl d1 d2
end
