/-! ===== load ===== -/
section
variable {h h2 : AH} {g g' : SG} {m p : Nat} {a : Int32} {d : PD} {A : Nat → Nat → Int32}
/-- the class's heap grows -/
theorem gc_gr (G : GC h g m) (hn : hp_n h ≤ hp_n h2) (hn2 : hp_n h2 ≤ hp_n h + 20) (hs2 : hp_s h2 ≤ hp_s h + 2000) (kl : ∀ r, r < hp_n h → hp_k h2 r = hp_k h r ∧ hp_l h2 r = hp_l h r) (rr : ∀ r, (r = 64 ∨ r = 66 ∨ r = 72 ∨ r = 74 ∨ r = 75 ∨ r = 90 ∨ r = 95 ∨ r = 99) ∨ (126 ≤ r ∧ r < hp_n h) → hp_r h2 r = hp_r h r)
    (r68 : hp_r h2 68 2 = hp_r h 68 2 ∧ hp_r h2 68 3 = hp_r h 68 3) (r69 : hp_r h2 69 6 = hp_r h 69 6) (ii : ∀ r, (r = 90 ∨ r = 94 ∨ r = 95 ∨ r = 96) ∨ (126 ≤ r ∧ r < hp_n h) → hp_i h2 r = hp_i h r) (jj : ∀ r, 126 ≤ r → r < hp_n h → hp_j h2 r = hp_j h r) (S : SGI g') (V : GVA (hp_i h2) g') (e : sD g' = sD g) : GC h2 g' (m + 1) := by
  obtain ⟨a, b, c', d, ⟨r1, r2⟩, tn, t1, t2⟩ := G
  have B := gh_lt b
  have ok : ∀ {r c}, ok_o h r c → ok_o h2 r c := fun o => ⟨o.1, Nat.lt_of_lt_of_le o.2.1 hn, by rw [(kl _ o.2.1).1]; exact o.2.2⟩
  have l : ∀ {r c}, ok_o h r c → hp_l h2 r = hp_l h r := fun o => (kl _ o.2.1).2
  have w1 := b.2.2.2.2.2.2.2.1
  have w2 := b.2.2.2.2.2.2.2.2
  have o90 := t2.2.2.1.choose_spec.2.2.2.2.1.1
  have o95 := t2.2.2.2.1.choose_spec.2.1
  have e90 : hp_l h2 (hp_r h 90 3) = hp_l h (hp_r h 90 3) := (kl _ o90.2.1).2
  have e95 : hp_l h2 (hp_r h 95 0) = hp_l h (hp_r h 95 0) := (kl _ o95.2.1).2
  have i90 : hp_i h2 (hp_r h 90 3) = hp_i h (hp_r h 90 3) := ii _ (w1.elim (fun z => Or.inl (Or.inr (Or.inl z))) (fun z => Or.inr ⟨z, o90.2.1⟩))
  have i95 : hp_i h2 (hp_r h 95 0) = hp_i h (hp_r h 95 0) := ii _ (w2.elim (fun z => Or.inl (Or.inr (Or.inr (Or.inr z)))) (fun z => Or.inr ⟨z, o95.2.1⟩))
  have f90 := rr 90 (by omega)
  have f95 := rr 95 (by omega)
  refine ⟨S, ?_, V, ?_, ⟨?_, ?_⟩, tn, by omega, ?_⟩
  · obtain ⟨⟨q1, q2⟩, ⟨⟨c1, c2, c2'⟩, ⟨c3, c4⟩, c5, ⟨c6, c7, c8⟩, ⟨c9, c10⟩, c11⟩, ⟨q3, q4⟩, ⟨q5, q6⟩, ⟨q7, q8, q9, q10⟩, ⟨q11, q12, q13, q14, q15, q16, q17⟩, ⟨q18, q19⟩, q20⟩ := b
    unfold GH CH
    rw [rr 64 (by omega), r68.1, r68.2, r69, rr 72 (by omega), rr 99 (by omega), f90, f95, l c3, l c7, l c9, l q3, l q5, l q9, l q14, l q16, l q18]
    exact ⟨⟨ok q1, q2⟩, ⟨⟨ok c1, c2, c2'⟩, ⟨ok c3, c4⟩, ok c5, ⟨c6, ok c7, c8⟩, ⟨ok c9, c10⟩, by omega⟩, ⟨ok q3, q4⟩, ⟨ok q5, q6⟩, ⟨ok q7, q8, ok q9, q10⟩, ⟨ok q11, q12, q13, ok q14, q15, ok q16, q17⟩, ⟨ok q18, q19⟩, q20⟩
  · obtain ⟨d1, d2⟩ := d
    unfold GPl
    rw [rr 66 (by omega), e]
    have Q : SQ h h2 0 := sq_of hn (fun r h1 h2' => ⟨(kl r h2').1, (kl r h2').2, ii r (Or.inr ⟨h1, h2'⟩), rr r (Or.inr ⟨h1, h2'⟩), jj r h1 h2'⟩) (by rw [f90]) (by rw [f95])
    refine ⟨fun p hp => (d1 p hp).imp id (fun ⟨x, x1, x2⟩ => ⟨x, x1, cpl_fr Q (fun z => ?_) x2⟩), d2⟩
    have := x2.1.1.1
    omega
  · unfold pot at *
    rw [f90, f95, e90, e95]
    omega
  · unfold pot8 at *
    rw [f90, f95, e90, e95]
    omega
  · obtain ⟨⟨t1, t2, t3, t4, t5, t6⟩, ⟨u1, ⟨u2, u3, u4⟩, ⟨u5, u6, u7⟩, u8, u9, u10⟩, ⟨L, s0, ⟨s1, s1'⟩, ⟨s2, s2'⟩, ⟨s3, s3'⟩, ⟨s4, s4'⟩, s5⟩, ⟨M, o1, o2, o3⟩, ⟨p1, p2⟩, ⟨v1, v2⟩, d⟩ := t2
    unfold HB SI0 OI TB at *
    rw [rr 74 (by omega), rr 75 (by omega), f90, f95, l u3, l u6, l u9, l s1, l s2, l s3, l s4, l o2, l p1, l v1, ii 95 (by omega), i95, ii 90 (by omega), i90]
    exact ⟨⟨ok t1, t2, t3, t4, t5, t6⟩, ⟨ok u1, ⟨u2, ok u3, u4⟩, ⟨u5, ok u6, u7⟩, u8, ok u9, u10⟩, ⟨L, ok s0, ⟨ok s1, s1'⟩, ⟨ok s2, s2'⟩, ⟨ok s3, s3'⟩, ⟨ok s4, s4'⟩, s5⟩, ⟨M, ok o1, ok o2, o3⟩, ⟨ok p1, p2⟩, ⟨ok v1, v2⟩, d⟩
theorem gr_tp (S : SGI g) (R : GR h g) : RTp (hp_i h) (stpe g) (sn g) := ⟨R.2.1.1.1, S.1.1, S.1.2, R.2.1.1.2, R.2.1.2.2.2.2.2.2⟩
theorem kdi_cg {kd kd' : Nat → Int32} (e : ∀ c, c < 6 → kd' c = kd c) (K : KDI kd) : KDI kd' := by
  refine ⟨?_, fun c hc => by rw [e c hc]; exact K.2 c hc⟩
  have := K.1
  rw [dcn_e] at *
  unfold dcf at *
  rw [e 0 (by omega), e 1 (by omega), e 2 (by omega), e 3 (by omega), e 4 (by omega), e 5 (by omega)]
  exact this
/-- the reference copies what it has read -/
theorem r_cp {Z : RZ h} (hp : p < 8) : ∀ j f (A : Nat → Nat → Int32), j ≤ 900 → j < f → ∃ A', l_X11_load_90 f 102 (nI p) (nI (900 - j)) (sA h A) = b_X11_load_121 102 (nI p) (sA h A') ∧ (∀ r q, ¬ (r = 106 ∧ 900 * p + (900 - j) ≤ q ∧ q < 900 * p + 900) → A' r q = A r q) ∧ ∀ k, 900 - j ≤ k → k < 900 → A' 106 (900 * p + k) = A 107 k := by
  intro j
  induction j with
  | zero =>
    intro f A _ hf
    obtain ⟨f, rfl⟩ : ∃ f', f = f' + 1 := ⟨f - 1, by omega⟩
    refine ⟨A, ?_, fun _ _ _ => rfl, fun k h1 h2 => by omega⟩
    show b_X11_load_90 (l_X11_load_90 f) 102 (nI p) (nI 900) (sA h A) = _
    unfold b_X11_load_90
    rw [if_pos (show (900 : Int32) ≤ nI 900 by decide)]
  | succ j ih =>
    intro f A hj hf
    obtain ⟨f, rfl⟩ : ∃ f', f = f' + 1 := ⟨f - 1, by omega⟩
    have e6 : 900 - (j + 1) + 1 = 900 - j := by omega
    obtain ⟨A', x1, x2, x3⟩ := ih f (up_2 A 106 (900 * p + (900 - (j + 1))) (A 107 (900 - (j + 1)))) (by omega) (by omega)
    refine ⟨A', ?_, fun r q hq => by rw [x2 r q (by omega), u2 (by omega)], fun k h1 h2 => ?_⟩
    · show b_X11_load_90 (l_X11_load_90 f) 102 (nI p) (nI (900 - (j + 1))) (sA h A) = _
      unfold b_X11_load_90
      rw [if_neg (show ¬ (900 : Int32) ≤ nI (900 - (j + 1)) from nI_ge (b := 900) (by omega) (by omega))]
      unfold b_X11_load_97
      rw [rz_r (f := 9) (r := 106) (l := 7200) (sA_rz Z) (by decide), Option.bind_some, v_r7 Z, Option.bind_some, v_l7 Z (by omega), Option.bind_some, mu, nI_add, show ∀ v, s_i (sA h A) 106 (nI (900 * p + (900 - (j + 1)))) v = some (sA h (up_2 A 106 (900 * p + (900 - (j + 1))) v)) from fun v => rz_s (f := 9) (r := 106) (l := 7200) (sA_rz Z) (by decide) (by omega) (by omega), Option.bind_some, da, e6]
      exact x1
    · by_cases q0 : k = 900 - (j + 1)
      · rw [q0, x2 _ _ (by omega), u2s]
      · rw [x3 k (by omega) h2, u2 (by omega)]
/-- the class's load, as far as the fault -/
theorem c_ld {H : AH} {n : Nat} (G : GC h g m) (hp : p < 8) (GBh : GB h H (hp_n h)) (hn : sn g = n) (e : f_X6_read 68 65 (nI n) h = some (hp_n h + 11, sA H A)) :
    f_X10_load 64 (nI p) h = if A 68 0 = 0 then b_X10_load_56 64 (nI p) (hp_n h + 11) (sA H (up_2 (up_2 (up_2 A 64 7 0) 64 8 (A 68 0)) 64 9 (A 68 1))) else b_X10_load_54 (sA H (up_2 (up_2 (up_2 A 64 7 0) 64 8 (A 68 0)) 64 9 (A 68 1))) := by
  obtain ⟨⟨n1, n2⟩, kl, rr, -⟩ := GBh
  have GHh := G.2.1
  have B := gh_lt GHh
  have o64 : ok_o H 64 10 := ⟨by omega, by rw [n1]; omega, by rw [(kl 64 (by omega)).1]; exact GHh.1.1.2.2⟩
  have o68 : ok_o H 68 6 := ⟨by omega, by rw [n1]; omega, by rw [(kl 68 (by omega)).1]; exact GHh.2.1.1.1.2.2⟩
  have r3 : hp_r H 64 3 = 68 := by rw [rr 64 (by omega) (by omega) (by omega)]; exact GHh.1.2.2.2.2.1
  have g7 : g_i h 64 10 7 = some (nI n) := by rw [(gc_n G).2, hn]
  unfold f_X10_load b_X10_load_0
  rw [(c_dp hp).1, Option.bind_some, show g_r h 64 10 3 = some 68 from (if_pos GHh.1.1).trans (by rw [GHh.1.2.2.2.2.1]), Option.bind_some, show g_r h 64 10 0 = some 65 from (if_pos GHh.1.1).trans (by rw [GHh.1.2.1]), Option.bind_some, g7, Option.bind_some, show ok_v h 68 6 = some () from if_pos GHh.2.1.1.1, Option.bind_some, e, Option.bind_some, q_p o64, Option.bind_some, q_r o64 r3, Option.bind_some, q_i o68, Option.bind_some, u2 (by omega), q_p o64, Option.bind_some, q_r o64 r3, Option.bind_some, q_i o68, Option.bind_some, u2 (by omega), u2 (by omega), q_p o64, Option.bind_some, q_i o64, Option.bind_some, u2 (by omega), u2s]
theorem zC_e {H : AH} {r k : Nat} (h1 : r ≠ hp_n h + 11) (h2 : ¬ (r = 68 ∧ k ≤ 1)) : zC h H r k = hp_i h r k := by
  unfold zC zB
  rw [if_neg h1, u2 (by omega), u2 (by omega)]
/-- the reference's load, up to the reading -/
theorem r_ld0 (R : GR h g) (hp : p < 8) : ∃ H, GR H g ∧ RLF h H ∧ hp_i H 102 0 = 0 ∧ f_X11_load 102 (nI p) h = (f_X11_reads 102 (sA H (hp_i H))).bind fun q2 => if q2.1 = 0 then b_X11_load_43 102 (nI p) q2.2 else b_X11_load_32 102 (nI p) q2.2 := by
  obtain ⟨H, e0, R0, L0, t0, -⟩ := r_thr (v := 0) R
  refine ⟨H, R0, L0, t0, ?_⟩
  unfold f_X11_load b_X11_load_0
  rw [r_pl hp, Option.bind_some, if_pos rfl]
  unfold b_X11_load_12 b_X11_load_13
  rw [e0, Option.bind_some, rz_g R0.1, Option.bind_some, t0, if_pos rfl]
  unfold b_X11_load_25
  rw [rz_v R0.1, Option.bind_some]
  rfl
/-- what the reading leaves of the reference's values -/
theorem rv_ld {A4 : Nat → Nat → Int32} {x : Option PD} {fk fp : Int32} (R : GR h g) (hk : ∀ r k, r ≠ 106 → r ≠ 107 → r ≠ 108 → r ≠ 111 → r ≠ 115 → r ≠ 118 → ¬ (r = 102 ∧ (k = 3 ∨ k = 5 ∨ k = 6 ∨ k = 7 ∨ (11 ≤ k ∧ k ≤ 15) ∨ (17 ≤ k ∧ k ≤ 23))) → A4 r k = hp_i h r k) (h3 : A4 102 3 = nI 0) (h13 : A4 102 13 = fk) (h14 : A4 102 14 = fp) (h22 : ∃ l, l < 5 ∧ A4 102 22 = nI l) : RVA A4 (up_1 (sD g) p x, stpe g, 0, fk, fp, spt g, spm g, swi g, sws g, swm g) := by
  obtain ⟨-, ⟨⟨a1, a2⟩, ⟨b1, b2⟩, ⟨c1, c2⟩, d, ⟨e1, e2⟩, f, l, l1, l2⟩, -⟩ := R
  have uu : ∀ r k, (r = 103 ∨ r = 104 ∨ r = 112 ∨ r = 113) ∨ (r = 102 ∧ (k = 4 ∨ k = 27 ∨ k = 35)) → A4 r k = hp_i h r k := fun r k hr => hk r k (by omega) (by omega) (by omega) (by omega) (by omega) (by omega) (by omega)
  exact ⟨⟨h3, fun k (hk : k < 0) => absurd hk (by omega)⟩, ⟨h13, h14⟩, ⟨(uu _ _ (by omega)).trans c1, fun k hk => (uu _ _ (by omega)).trans (c2 k hk)⟩, fun l hl => (uu _ _ (by omega)).trans (d l hl), ⟨(uu _ _ (by omega)).trans e1, fun k hk => (uu _ _ (by omega)).trans (e2 k hk)⟩, (uu _ _ (by omega)).trans f, h22⟩
theorem s_load (G : GC h g m) (R : GR h g) : TSP Int32.toInt64 (f_L_load 64 a 125) (f_X11_load 102 a) h m := by
  have GHh := G.2.1
  have B := gh_lt GHh
  rcases p_cs a with ca | ⟨p, hp, rfl⟩
  · refine tsp_bad (k := 1) (c := 12) G R (by decide) ?_ (fun H RH => ?_)
    · have e0 : b_L_load_0 64 a 125 h = none := by
        unfold b_L_load_0 f_X10_load b_X10_load_0
        rw [ov64 GHh, Option.bind_some, (c_np ca).1]; rfl
      unfold f_L_load x_X10_load
      rw [e0, ov64 GHh, Option.bind_some, (c_np ca).2]; rfl
    · obtain ⟨H2, e0, R0, L0, t0, -⟩ := r_thr (v := 1) RH
      refine ⟨0, H2, ?_, R0, L0, t0⟩
      unfold f_X11_load b_X11_load_0
      rw [r_np ca, Option.bind_some, if_neg n10]
      unfold b_X11_load_8 b_X11_load_13
      rw [e0, Option.bind_some, rz_g R0.1, Option.bind_some, t0, if_neg n10]; rfl
  · obtain ⟨H, cnt, j0, kd, Q, GBh, i6, res⟩ := parse (tp := stpe g) (n := sn g) (h := h) (g := h) (A2 := hp_i h) GHh.2.1 R.1 G.1.1.1 G.1.1.2 G.2.2.1.1.2 (gr_tp G.1 R)
    obtain ⟨A, eA, FA⟩ : ∃ A, f_X6_read 68 65 (nI (sn g)) h = some (hp_n h + 11, sA H A) ∧ FC0 (zC h H) (hp_n h) A := by
      rcases res with ⟨⟨A', _, _, _, _, _, _, _, _, _, _, _, _, e1, _, T, _⟩, _⟩ | ⟨_, _, A', _, e1, F, _⟩
      · exact ⟨A', e1, fun r k hr => (cx_ct (by omega) T.1).2.2.2.2.2.2 r k (by omega)⟩
      · exact ⟨A', e1, F.2⟩
    clear res
    have eC := c_ld G hp GBh rfl eA
    have GB' := GBh
    obtain ⟨⟨n1, n2⟩, kl, rr, r68, r69, ⟨p0, p7, p8, p9⟩, j2, j3, j4, j5⟩ := GBh
    have fa : ∀ r k, r < 68 ∨ (71 < r ∧ r < hp_n h) → A r k = hp_i h r k := fun r k hr => (FA r k hr).trans (zC_e (by omega) (by omega))
    have a3 : ∀ r k, ¬ (r = 64 ∧ (k = 7 ∨ k = 8 ∨ k = 9)) → up_2 (up_2 (up_2 A 64 7 0) 64 8 (A 68 0)) 64 9 (A 68 1) r k = A r k := fun r k hk => by rw [u2 (by omega), u2 (by omega), u2 (by omega)]
    have a37 : up_2 (up_2 (up_2 A 64 7 0) 64 8 (A 68 0)) 64 9 (A 68 1) 64 7 = nI 0 := by rw [u2 (by omega), u2 (by omega), u2s]; rfl
    have a38 : up_2 (up_2 (up_2 A 64 7 0) 64 8 (A 68 0)) 64 9 (A 68 1) 64 8 = A 68 0 := by rw [u2 (by omega), u2s]
    have a39 : up_2 (up_2 (up_2 A 64 7 0) 64 8 (A 68 0)) 64 9 (A 68 1) 64 9 = A 68 1 := u2s
    generalize up_2 (up_2 (up_2 A 64 7 0) 64 8 (A 68 0)) 64 9 (A 68 1) = A3 at *
    have a3h : ∀ r k, r < 68 ∨ (71 < r ∧ r < hp_n h) → ¬ (r = 64 ∧ (k = 7 ∨ k = 8 ∨ k = 9)) → A3 r k = hp_i h r k := fun r k h1 h2 => (a3 r k h2).trans (fa r k h1)
    have F1 : CLF h (sA H A3) := ⟨by show hp_n h ≤ hp_n H; omega, fun r h1 h2 => ⟨(kl r (by omega)).1, (kl r (by omega)).2.1, fun h3 => ⟨funext (fun k => a3h r k (by omega) (by omega)), (kl r (by omega)).2.2, rr r (by omega) (by omega) (by omega)⟩⟩⟩
    have GF : GC (sA H A3) (sD g, stpe g, 0, A 68 0, A 68 1, spt g, spm g, swi g, sws g, swm g) (m + 1) := by
      refine gc_gr (g' := (sD g, stpe g, 0, A 68 0, A 68 1, spt g, spm g, swi g, sws g, swm g)) G (by show hp_n h ≤ hp_n H; omega) (by show hp_n H ≤ _; omega) (by show hp_s H ≤ _; omega) (fun r hr => ⟨(kl r hr).1, (kl r hr).2.1⟩) (fun r hr => rr r (by omega) (by omega) (by omega)) ⟨r68 2 (by omega) (by omega), r68 3 (by omega) (by omega)⟩ (r69 6 (by omega)) (fun r hr => funext (fun k => a3h r k (by omega) (by omega))) (fun r h1 h2 => (kl r h2).2.2) ⟨⟨by show 0 ≤ 1000; omega, fun k (hk : k < 0) => absurd hk (by omega)⟩, G.1.2⟩ ?_ rfl
      obtain ⟨-, -, ⟨c1, c2⟩, d, e1, e2⟩ := G.2.2.1
      exact ⟨⟨a37, fun k (hk : k < 0) => absurd hk (by omega)⟩, ⟨a38, a39⟩, ⟨(a3h _ _ (by omega) (by omega)).trans c1, fun k hk => (a3h _ _ (by omega) (by omega)).trans (c2 k hk)⟩, fun l hl => (a3h _ _ (by omega) (by omega)).trans (d l hl), (a3h _ _ (by omega) (by omega)).trans e1, fun k hk => (a3h _ _ (by omega) (by omega)).trans (e2 k hk)⟩
    by_cases f0 : A 68 0 = 0
    · -- both read a program
      rw [if_pos f0] at eC
      have o64 : ok_o H 64 10 := ⟨by omega, by omega, by rw [(kl 64 (by omega)).1]; exact GHh.1.1.2.2⟩
      have o66 : ok_o H 66 102 := ⟨by omega, by omega, by rw [(kl 66 (by omega)).1]; exact GHh.2.2.1.1.2.2⟩
      have l66 : hp_l H 66 = 8 := by rw [(kl 66 (by omega)).2.1]; exact GHh.2.2.1.2
      have oB := Q.2.2.2.2.1.1
      have o5 := Q.2.2.1.1
      have eL : f_L_load 64 (nI p) 125 h = some (0, st_j (st_r (sA H A3) 66 p (hp_n h + 11)) 125 0 (A3 (hp_n h) 12).toInt64) := by
        have s66 : s_r (sA H A3) 66 (nI p) (hp_n h + 11) = some (st_r (sA H A3) 66 p (hp_n h + 11)) := by
          have e : s_r (sA H A3) 66 (nI p) (hp_n h + 11) = some (st_r (sA H A3) 66 (nI p).toNatClampNeg (hp_n h + 11)) := if_pos ⟨⟨o66, nI_pos (by omega), by show _ < hp_l H 66; rw [nI_clamp (by omega), l66]; omega⟩, Or.inr o5⟩
          rw [e, nI_clamp (by omega)]
        have sj : ∀ x, s_j (st_r (sA H A3) 66 p (hp_n h + 11)) 125 (0 : Int32) x = some (st_j (st_r (sA H A3) 66 p (hp_n h + 11)) 125 0 x) := fun x => by
          have o := GF.2.1.2.2.2.2.2.2.1.1
          have l := GF.2.1.2.2.2.2.2.2.1.2
          have e : s_j (st_r (sA H A3) 66 p (hp_n h + 11)) 125 (nI 0) x = some (st_j (st_r (sA H A3) 66 p (hp_n h + 11)) 125 (nI 0).toNatClampNeg x) := if_pos ⟨o, nI_pos (by omega), by show _ < hp_l (sA H A3) 125; rw [nI_clamp (by omega)]; omega⟩
          rw [show (0 : Int32) = nI 0 from rfl, e, nI_clamp (by omega)]
        unfold f_L_load b_L_load_0 b_L_load_15
        rw [ov64 GHh, Option.bind_some, eC]
        unfold b_X10_load_56
        rw [q_r (x := 66) o64 (show hp_r H 64 1 = 66 by rw [rr 64 (by omega) (by omega) (by omega)]; exact GHh.1.2.2.1), Option.bind_some, s66, Option.bind_some, show g_r (st_r (sA H A3) 66 p (hp_n h + 11)) (hp_n h + 11) 5 0 = some (hp_n h) from (if_pos o5).trans (by rw [str_r (by omega)]; exact congrArg some p0), Option.bind_some, show g_i (st_r (sA H A3) 66 p (hp_n h + 11)) (hp_n h) 0 12 = some (A3 (hp_n h) 12) from if_pos oB, Option.bind_some, Option.bind_some, sj, Option.bind_some]
        rfl
      have F2 : CLF h (st_j (st_r (sA H A3) 66 p (hp_n h + 11)) 125 0 (A3 (hp_n h) 12).toInt64) := by
        refine clf_tr F1 ⟨Nat.le_refl _, fun r h1 h2 => ⟨rfl, rfl, fun h3 => ⟨rfl, funext (fun k => up2_r (by omega)), str_r (by omega)⟩⟩⟩
      have R1 := gr_cl F2 R
      obtain ⟨H1, R0, L0, t0, e0⟩ := r_ld0 R1 hp
      obtain ⟨H', cnt', j0', kd', Q', GB'', i6', res⟩ := parse (tp := stpe g) (n := sn g) (h := h) (g := H1) (A2 := hp_i H1) GHh.2.1 R0.1 G.1.1.1 G.1.1.2 G.2.2.1.1.2 (gr_tp G.1 R0)
      rcases res with ⟨⟨A', A2, tc, j, st, E, AL, SL, ow, lb, mb, mk, dn, e1, e2, T, h0⟩, KD⟩ | ⟨K, P, A', A2, e1, F, e2, FTT⟩
      · have eq0 := (Prod.mk.inj (Option.some.inj (e1.symm.trans eA))).2
        have eq : A' = A := congrArg hp_i eq0
        subst eq
        have CTT := cx_ct (B := hp_n h) (by omega) T.1
        have f1 : A' 68 1 = -1 := by
          rw [CTT.2.2.2.2.2.2 68 1 (by omega)]
          unfold zC zB
          rw [if_neg (by omega), u2s]
        have z6 : A' (hp_n h + 11) 6 = 0 := by
          rw [CTT.2.2.2.2.2.2 (hp_n h + 11) 6 (by omega)]
          unfold zC
          rw [if_pos rfl]; exact i6'
        obtain ⟨LKk, kdk⟩ := ts_lk (B := hp_n h) (by omega) T
        obtain ⟨LFf, kdf⟩ := ts_lf T
        have LLl := ts_ll T h0
        obtain ⟨RTt, w11, -, -⟩ := rx_f T.2.1
        have b8 := LLl.2.2.1.2.1
        have FDd := RTt.2.2.2.2.1
        have kB12 : A3 (hp_n h) 12 = nI AL.length := by
          rw [a3 _ _ (by omega)]
          exact LKk.1.2.2.1
        -- the data
        have kdA : ∀ c, c < 6 → A3 (hp_n h + 12) c = kd' c := fun c hc => (a3 _ _ (by omega)).trans (kdk c (by omega))
        have ekh : ∀ i, i ≤ 10 → kh (sA H A3) (hp_n h) i = kof A' (hp_n h) i := fun i hi => by
          unfold kh kof
          by_cases c : i < 10
          · rw [if_pos c, if_neg (by omega)]
            show A3 (hp_r H (hp_n h) i) = _
            rw [(Q.2.2.2.2.1.2 i c).1]
            funext k
            exact a3 _ _ (by omega)
          · rw [if_neg c, if_pos (by omega)]
            funext k
            exact a3 _ _ (by omega)
        generalize hd : ((E, AL, SL, ow, A3 (hp_n h + 12), st, lb, mb, mk, dn, kh (sA H A3) (hp_n h)) : PD) = dd
        have PK : PDk dd := by
          rw [← hd]
          exact ⟨ll_kd (fun c hc z => (kdA c hc).trans z) LLl, lk_cg ekh LKk, kdi_cg kdA KD⟩
        have o90 := G.2.2.2.2.2.choose_spec.2.2.2.1.choose_spec.2.2.2.2.1.1.2.1
        have o95 := G.2.2.2.2.2.choose_spec.2.2.2.2.1.choose_spec.2.1.2.1
        have srB : ∀ r, hp_n h ≤ r → r < hp_n h + 13 → hp_k H r ≠ 101 → SR (sA H A3) r := fun r h1 h2 h3 => ⟨by omega, by show r < hp_n H; omega, by show r ≠ hp_r H 90 3; rw [rr 90 (by omega) (by omega) (by omega)]; omega, by show r ≠ hp_r H 95 0; rw [rr 95 (by omega) (by omega) (by omega)]; omega, h3⟩
        have CP : CPl (sA H A3) (hp_n h + 11) dd := by
          rw [← hd]
          have r0 : hp_r (sA H A3) (hp_n h + 11) 0 = hp_n h := p0
          have r1 : hp_r (sA H A3) (hp_n h + 11) 1 = hp_n h + 12 := Q.2.2.1.2
          have ri : ∀ i, i < 10 → hp_r (sA H A3) (hp_n h) i = hp_n h + 1 + i := fun i hi => (Q.2.2.2.2.1.2 i hi).1
          have k12 := Q.2.2.2.1.1.2.2
          refine ⟨⟨srB _ (by omega) (by omega) (by rw [o5.2.2]; decide), o5.2.2⟩, by rw [r0]; exact ⟨srB _ (by omega) (by omega) (by rw [oB.2.2]; decide), oB.2.2⟩, fun i hi => ?_, by rw [r1]; exact ⟨srB _ (by omega) (by omega) (by rw [k12]; decide), k12, Q.2.2.2.1.2, rfl⟩, ⟨by rw [r0]; rfl, by rw [hd]; exact PK⟩, fun o ho => ?_, fun _ => ⟨j2, j3, j4⟩, fun z => ?_, Or.inl ?_⟩
          · rw [r0, ri i hi]
            obtain ⟨-, q2, q3⟩ := Q.2.2.2.2.1.2 i hi
            exact ⟨srB _ (by omega) (by omega) (by rw [q2.2.2]; decide), q2.2.2, q3⟩
          · left
            obtain z | z | z : o = 0 ∨ o = 1 ∨ o = 2 := by omega
            · rw [z]; exact p7
            · rw [z]; exact p8
            · rw [z]; exact p9
          · exact absurd p9 z
          · exact (a3 _ _ (by omega)).trans z6
        obtain ⟨G3, -⟩ := gc_P (p := p) (v := hp_n h + 11) (x := some dd) GF hp (Or.inr ⟨dd, rfl, CP, fun q hq z => by
          have z' : hp_r H 66 q = hp_n h + 11 := z
          rw [rr 66 (by omega) (by omega) (by omega)] at z'
          rcases G.2.2.2.1.1 q hq with ⟨_, y⟩ | ⟨_, _, y⟩
          · omega
          · have := y.1.1.2.1
            omega⟩)
        obtain ⟨G4, -, eJ⟩ := gc_j (v := (A3 (hp_n h) 12).toInt64) G3
        -- the reference
        generalize hA4 : up_2 (up_2 (up_2 A2 102 13 0) 102 14 (-1)) 102 3 0 = A4
        have a4 : ∀ r k, ¬ (r = 102 ∧ (k = 3 ∨ k = 13 ∨ k = 14)) → A4 r k = A2 r k := fun r k hk => by rw [← hA4, u2 (by omega), u2 (by omega), u2 (by omega)]
        obtain ⟨A5, x1, x2, x3⟩ := r_cp (Z := R0.1) hp 900 fu_ A4 (Nat.le_refl _) (by unfold fu_; omega)
        obtain ⟨A6, y1, y2⟩ := r_fg (p := p) (A := A5) R0.1 hp
        have a6 : ∀ r k, ¬ (r = 111 ∧ 3 * p ≤ k ∧ k < 3 * p + 3) → ¬ (r = 115 ∧ k = p) → ¬ (r = 118 ∧ k = p) → A6 r k = A5 r k := fun r k h2 h3 h4 => by rw [y2, u2 (by omega), u2 (by omega), u2 (by omega), u2 (by omega), u2 (by omega)]
        have a56 : ∀ r k, r ≠ 106 → A5 r k = A4 r k := fun r k h1 => x2 r k (by omega)
        have nw : ∀ k, k < 900 → A6 106 (900 * p + k) = A2 107 k := fun k hk => by rw [a6 _ _ (by omega) (by omega) (by omega), x3 k (by omega) hk, a4 _ _ (by omega)]
        have kk : ∀ r k, r ≠ 107 → r ≠ 108 → ¬ (r = 102 ∧ (k = 3 ∨ k = 13 ∨ k = 14 ∨ k = 5 ∨ k = 6 ∨ k = 7 ∨ k = 11 ∨ k = 12 ∨ k = 15 ∨ (17 ≤ k ∧ k ≤ 23))) → ¬ (r = 106 ∧ 900 * p ≤ k ∧ k < 900 * p + 900) → ¬ (r = 111 ∧ 3 * p ≤ k ∧ k < 3 * p + 3) → ¬ (r = 115 ∧ k = p) → ¬ (r = 118 ∧ k = p) → A6 r k = hp_i H1 r k := fun r k h1 h2 h3 h4 h5 h6 h7 => by
          rw [a6 r k h5 h6 h7, x2 r k (by omega), a4 r k (by omega)]
          exact FDd r k h1 h2 (by omega)
        have FDkk : ∀ q, q < 8 → q ≠ p → QK A6 H1 q := fun q hq e => ⟨fun k hk => kk _ _ (by omega) (by omega) (by omega) (by omega) (by omega) (by omega) (by omega), fun o ho => kk _ _ (by omega) (by omega) (by omega) (by omega) (by omega) (by omega) (by omega), fun o k _ _ => kk _ _ (by omega) (by omega) (by omega) (by omega) (by omega) (by omega) (by omega), kk _ _ (by omega) (by omega) (by omega) (by omega) (by omega) (by omega) (by omega), fun k _ => kk _ _ (by omega) (by omega) (by omega) (by omega) (by omega) (by omega) (by omega), kk _ _ (by omega) (by omega) (by omega) (by omega) (by omega) (by omega) (by omega), fun k _ => kk _ _ (by omega) (by omega) (by omega) (by omega) (by omega) (by omega) (by omega)⟩
        have eR : f_X11_load 102 (nI p) (st_j (st_r (sA H A3) 66 p (hp_n h + 11)) 125 0 (A3 (hp_n h) 12).toInt64) = some (A3 (hp_n h) 12, sA H1 A6) := by
          rw [e0, e2, Option.bind_some, if_neg n10]
          unfold b_X11_load_32
          rw [v_g R0.1, Option.bind_some, w11, if_pos rfl]
          unfold b_X11_load_39 b_X11_load_44
          rw [if_neg n10]
          unfold b_X11_load_50 b_X11_load_58
          rw [v_p R0.1, Option.bind_some, if_neg n10]
          unfold b_X11_load_66 b_X11_load_74
          rw [v_p R0.1, Option.bind_some, v_p R0.1, Option.bind_some, if_neg n10, hA4]
          unfold b_X11_load_88
          rw [show l_X11_load_90 fu_ 102 (nI p) (0 : Int32) (sA H1 A4) = _ from x1]
          unfold b_X11_load_121
          rw [v_v R0.1, Option.bind_some, y1, Option.bind_some, v_r7 R0.1, Option.bind_some, show l_i (sA H1 A6) 107 (6 : Int32) = _ from v_l7 (k := 6) R0.1 (by omega), Option.bind_some, a6 _ _ (by omega) (by omega) (by omega), a56 _ _ (by omega), a4 _ _ (by omega), LFf.1.1, kB12]
        have RP : RPl (sA H1 A6) p dd := by
          rw [← hd]
          refine ⟨lf_cg (d := (E, AL, SL, ow, A3 (hp_n h + 12), st, lb, mb, mk, dn, kh (sA H A3) (hp_n h))) (by rw [hd]; exact PK) nw LFf, fun c hc => ?_⟩
          show A6 106 (900 * p + c) = A3 (hp_n h + 12) c
          rw [nw c (by omega), kdf c hc, kdA c hc]
        have RK : RCk (sA H1 A6) p dd := by
          refine ⟨fun o ho => Or.inl ?_, Or.inl ?_, Or.inl ?_⟩
          · show A6 111 (3 * p + o) = -1
            rw [y2, u2 (by omega), u2 (by omega)]
            obtain z | z | z : o = 0 ∨ o = 1 ∨ o = 2 := by omega
            · subst z; rw [u2 (by omega), u2 (by omega), u2s]
            · subst z; rw [u2 (by omega), u2s]
            · subst z; rw [u2s]
          · show A6 115 p = -1
            rw [y2, u2 (by omega), u2s]
          · show A6 118 p = 0
            rw [y2, u2s]
        have V6 : RVA A6 (up_1 (sD g) p (some dd), stpe g, 0, 0, -1, spt g, spm g, swi g, sws g, swm g) := by
          refine rv_ld R0 (fun r k h1 h2 h3 h4 h5 h6 h7 => kk r k (by omega) (by omega) (by omega) (by omega) (by omega) (by omega) (by omega)) ?_ ?_ ?_ ?_
          · rw [a6 _ _ (by omega) (by omega) (by omega), a56 _ _ (by omega), ← hA4, u2s]; rfl
          · rw [a6 _ _ (by omega) (by omega) (by omega), a56 _ _ (by omega), ← hA4, u2 (by omega), u2 (by omega), u2s]
          · rw [a6 _ _ (by omega) (by omega) (by omega), a56 _ _ (by omega), ← hA4, u2 (by omega), u2s]
          · obtain ⟨l, l1, l2⟩ := RTt.2.2.2.2.2
            exact ⟨l, l1, by rw [a6 _ _ (by omega) (by omega) (by omega), a56 _ _ (by omega), a4 _ _ (by omega)]; exact l2⟩
        have GRn : GR (sA H1 A6) (up_1 (sD g) p (some dd), stpe g, 0, 0, -1, spt g, spm g, swi g, sws g, swm g) := gr_P R0 hp (fun q hq e => ⟨FDkk q hq e, if_neg e⟩) V6 (Or.inr ⟨dd, if_pos rfl, RP, RK, PK⟩)
        have L1 : RLF H1 (sA H1 A6) := rl_A (fun r k hr => kk r k (by omega) (by omega) (by omega) (by omega) (by omega) (by omega) (by omega))
        have LL := rlf_tr L0 L1
        rw [f0, f1] at G4
        refine ⟨0, _, _, _, _, eL, eR, ?_, fun _ => by rw [LL.2.2.2.2.1]; exact eJ, gc_rl LL G4, GRn, R1.1.1⟩
        show A6 102 0 = 0
        rw [kk 102 0 (by omega) (by omega) (by omega) (by omega) (by omega) (by omega) (by omega)]
        exact t0
      · exfalso
        have eq : A' = A := congrArg hp_i (Prod.mk.inj (Option.some.inj (e1.symm.trans eA))).2
        subst eq
        obtain ⟨hK, j, b, W⟩ := FTT
        obtain ⟨z, -⟩ | ⟨-, -, z2, z3, -⟩ := W.2.1
        · omega
        · rw [F.1.1] at f0
          exact absurd ((nI_eq (b := 0) (by omega) (by omega)).mp f0) (by omega)
    · -- both find a fault
      rw [if_neg f0] at eC
      have eL : f_L_load 64 (nI p) 125 h = some (0, st_j (sA H A3) 125 0 (-1 : Int32).toInt64) := by
        unfold f_L_load b_L_load_0 b_L_load_15
        rw [ov64 GHh, Option.bind_some, eC, show b_X10_load_54 (sA H A3) = some (-1, sA H A3) from rfl, Option.bind_some, sj125 GF.2.1, Option.bind_some]; rfl
      refine tsp_ok (g' := (sD g, stpe g, 0, A 68 0, A 68 1, spt g, spm g, swi g, sws g, swm g)) (v := -1) eL GF F1 R (fun HH RH _ => ?_)
      obtain ⟨H1, R0, L0, t0, e0⟩ := r_ld0 RH hp
      obtain ⟨H', cnt', j0', kd', Q', GB'', i6', res⟩ := parse (tp := stpe g) (n := sn g) (h := h) (g := H1) (A2 := hp_i H1) GHh.2.1 R0.1 G.1.1.1 G.1.1.2 G.2.2.1.1.2 (gr_tp G.1 R0)
      rcases res with ⟨⟨A', A2, tc, j, st, E, AL, SL, ow, lb, mb, mk, dn, e1, e2, T, h0⟩, KD⟩ | ⟨K, P, A', A2, e1, F, e2, FTT⟩
      · exfalso
        have eq : A' = A := congrArg hp_i (Prod.mk.inj (Option.some.inj (e1.symm.trans eA))).2
        subst eq
        have CTT := cx_ct (B := hp_n h) (by omega) T.1
        apply f0
        rw [CTT.2.2.2.2.2.2 68 0 (by omega)]
        unfold zC zB
        rw [if_neg (by omega), u2 (by omega), u2s]
      · have eq : A' = A := congrArg hp_i (Prod.mk.inj (Option.some.inj (e1.symm.trans eA))).2
        subst eq
        obtain ⟨hK, j, b, W⟩ := FTT
        have RF : RFt A2 K P := by
          obtain ⟨z, -⟩ | z := W.2.1
          · omega
          · exact z
        have FDd := W.1.2.2.2.2.1
        generalize hA4 : up_2 (up_2 (up_2 A2 102 13 (nI K)) 102 14 (nI P)) 102 3 0 = A4
        have a4 : ∀ r k, ¬ (r = 102 ∧ (k = 3 ∨ k = 13 ∨ k = 14)) → A4 r k = A2 r k := fun r k hk => by rw [← hA4, u2 (by omega), u2 (by omega), u2 (by omega)]
        have kk : ∀ r k, r ≠ 107 → r ≠ 108 → ¬ (r = 102 ∧ (k = 3 ∨ k = 13 ∨ k = 14 ∨ k = 5 ∨ k = 6 ∨ k = 7 ∨ k = 11 ∨ k = 12 ∨ k = 15 ∨ (17 ≤ k ∧ k ≤ 23))) → A4 r k = hp_i H1 r k := fun r k h1 h2 h3 => by
          rw [a4 r k (by omega)]
          exact FDd r k h1 h2 (by omega)
        have V4 : RVA A4 (sD g, stpe g, 0, A' 68 0, A' 68 1, spt g, spm g, swi g, sws g, swm g) := by
          have : RVA A4 (up_1 (sD g) 0 (sD g 0), stpe g, 0, A' 68 0, A' 68 1, spt g, spm g, swi g, sws g, swm g) := by
            refine rv_ld R0 (fun r k h1 h2 h3 h4 h5 h6 h7 => kk r k h2 h3 (by omega)) ?_ ?_ ?_ ?_
            · rw [← hA4, u2s]; rfl
            · rw [← hA4, u2 (by omega), u2 (by omega), u2s, F.1.1]
            · rw [← hA4, u2 (by omega), u2s, F.1.2]
            · obtain ⟨l, l1, l2⟩ := W.1.2.2.2.2.2
              exact ⟨l, l1, by rw [a4 _ _ (by omega)]; exact l2⟩
          exact this
        refine ⟨sA H1 A4, ?_, gr_A R0 (fun r k hr => kk r k (by omega) (by omega) (by omega)) V4 rfl, rlf_tr L0 (rl_A (fun r k hr => kk r k (by omega) (by omega) (by omega))), ?_⟩
        · rw [e0, e2, Option.bind_some, if_pos rfl]
          unfold b_X11_load_43 b_X11_load_44
          rw [if_pos rfl]
          unfold b_X11_load_54 b_X11_load_58
          rw [v_g R0.1, Option.bind_some, RF.1, v_p R0.1, Option.bind_some, if_pos rfl]
          unfold b_X11_load_70 b_X11_load_74
          rw [v_g R0.1, Option.bind_some, u2 (by omega), RF.2.1, v_p R0.1, Option.bind_some, v_p R0.1, Option.bind_some, if_pos rfl, hA4]
          rfl
        · show A4 102 0 = 0
          rw [kk 102 0 (by omega) (by omega) (by omega)]
          exact t0
end
