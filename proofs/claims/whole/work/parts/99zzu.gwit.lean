/-! ===== witness ===== -/
theorem mtw_cg {ow : Nat → Nat} {nt : Nat} {w w' : Nat → Int32} (e : ∀ l, l < 5 → w' l = w l) : mtw ow nt w' = mtw ow nt w := by
  funext s
  unfold mtw
  have : (∀ l, l < 5 → w' l = -1 ∨ w' l = nI (av ow nt s l)) ↔ ∀ l, l < 5 → w l = -1 ∨ w l = nI (av ow nt s l) := ⟨fun z l hl => by rw [← e l hl]; exact z l hl, fun z l hl => by rw [e l hl]; exact z l hl⟩
  by_cases c : ∀ l, l < 5 → w l = -1 ∨ w l = nI (av ow nt s l)
  · rw [@decide_eq_true _ (Classical.propDecidable _) c, @decide_eq_true _ (Classical.propDecidable _) (this.mpr c)]
  · rw [@decide_eq_false _ (Classical.propDecidable _) c, @decide_eq_false _ (Classical.propDecidable _) (fun z => c (this.mp z))]
section
variable {h h' h2 H : AH} {g g' : SG} {m p pr o : Nat} {d : PD} {a : Int32}
theorem cc_same (Q : SQ2 h h' pr) (er : hp_r h' pr = hp_r h pr) (ei : hp_i h' pr = hp_i h pr) (ej : hp_j h' pr = hp_j h pr) (C : CC h pr d) : CC h' pr d := by
  obtain ⟨q1, q2, q3, q4⟩ := C
  refine ⟨fun o ho => ?_, fun z => ?_, fun z => ?_, ?_⟩
  · rw [er]; exact (q1 o ho).imp id (cr_fr Q)
  · rw [er] at z
    rw [ej]
    exact q2 z
  · rw [er] at z
    rw [ej]
    exact q3 z
  · rw [ei, ej]
    exact q4
theorem s_witness (G : GC h g m) (R : GR h g) (hm : m ≤ 600) : TSP Int32.toInt64 (f_L_witness 64 a 125) (f_X11_witness 102 a) h m := by
  refine tp_witness G R (fun p d hp ha hd C h0 => ?_)
  have GHh := G.2.1
  have C0 := C
  obtain ⟨⟨S, k5⟩, -, -, -, ⟨-, PK⟩, CCh⟩ := C
  obtain ⟨tn, t1, HBh⟩ := G.2.2.2.2.2
  have o67 := GHh.2.2.2.1.1
  have w1 := GHh.2.2.2.2.2.2.2.1
  have w2 := GHh.2.2.2.2.2.2.2.2
  obtain ⟨v, h1, h2, x1, H1, F, ej, -, x2⟩ := r_wit (rw' := 67) (pdk_kw PK) HBh (by omega) (cpl_pb C0) o67 (fun z => by
    rcases z with z | z | z | z | z | z | z
    · exact absurd z (by decide)
    · exact absurd z (by decide)
    · exact absurd z (by decide)
    · exact absurd z (by decide)
    · exact absurd z (by decide)
    · omega
    · omega) GHh.2.2.2.1.2
  have W1 := G.2.2.1.2.2.2.1
  rw [mtw_cg (w := swi g) (w' := hp_i h 67) W1] at x2
  have Q : SQ2 h h1 (hp_r h 66 p) := sq2_of (sq_fq HBh F S)
  have CP : CPl h1 (hp_r h 66 p) d := cpl_self Q k5 C0 (by rw [F.2.2.2.1.1]) (by rw [F.2.2.2.1.1]) (cc_same Q F.2.2.2.1.1 F.2.2.2.1.2 ej CCh)
  obtain ⟨y1, y2, y3, y4, y5⟩ := fq_p GHh HBh R.1 S F
  have P1 : GPl h1 g := gpl_s2 G.2.2.2.1 hp hd Q y3 CP
  have ref : ∀ H2, GR H2 g → hp_i H2 102 24 = nI p → ∃ v' h', b_X11_witness_10 102 H2 = some (v', h') ∧ FRi AWt H2 h' ∧ ((wT (KP (pR d)) (fun _ => false) (mtw (owN (pO d)) (pS d).length (swi g)) 17 (xa_0 (KP (pR d))) [] none = none ∧ v' = -1 ∧ hp_i h' 113 = hp_i H2 113 ∧ hp_i h' 102 35 = hp_i H2 102 35) ∨ ∃ q, wT (KP (pR d)) (fun _ => false) (mtw (owN (pO d)) (pS d).length (swi g)) 17 (xa_0 (KP (pR d))) [] none = some q ∧ q.length ≤ 8 ∧ v' = nI q.length ∧ hp_i h' 102 35 = nI q.length ∧ ∀ k, k < q.length → hp_i h' 113 k = nI (q.getD k 0)) := fun H2 R2 h24 => by
    obtain ⟨RP, RK, PK'⟩ := r_dd R2 hp hd
    have := r_witR (s := p) (pr_0 RP PK') R2.1 hp h24 R2.2.1.2.2.2.2.2.1 (fun k _ => rfl)
    rw [mtw_cg (w := swi g) (w' := hp_i H2 112) R2.2.1.2.2.2.1] at this
    exact this
  have eC : f_X10_witness 64 (nI p) h = some (v, h2) := by
    unfold f_X10_witness b_X10_witness_0
    rw [show g_r h 64 10 5 = some 74 from (if_pos GHh.1.1).trans (by rw [GHh.1.2.2.2.2.2.2.1]), Option.bind_some, ov64 GHh, Option.bind_some, c_pa GHh hp h0, Option.bind_some, show g_r h 64 10 2 = some 67 from (if_pos GHh.1.1).trans (by rw [GHh.1.2.2.2.1]), Option.bind_some, show ok_v h 74 8 = some () from if_pos HBh.1.1, Option.bind_some, x1, Option.bind_some]
  have frR : ∀ H2 h', FRi AWt H2 h' → (∀ r k, r ≠ 109 → r ≠ 113 → r ≠ 114 → ¬ (r = 102 ∧ (k = 26 ∨ k = 28 ∨ k = 35 ∨ k = 36)) → hp_i h' r k = hp_i H2 r k) ∧ h' = sA H2 (hp_i h') := fun H2 h' F => ⟨fun r k h1 h2 h3 h4 => F.2.2.2.2.2.2 r k (fun z => by
    unfold AWt A114 at z
    omega), fri_sA F⟩
  have rvR : ∀ H2 h' ws wm, GR H2 g → FRi AWt H2 h' → hp_i h' 102 35 = nI wm → (∀ k, k < wm → hp_i h' 113 k = nI (ws k)) → GR h' (sD g, stpe g, sn g, sfk g, sfp g, spt g, spm g, swi g, ws, wm) ∧ RLF H2 h' ∧ hp_i h' 102 0 = hp_i H2 102 0 := fun H2 h' ws wm R2 FR e35 e113 => by
    obtain ⟨kk, e⟩ := frR H2 h' FR
    refine ⟨?_, ⟨FR.1, FR.2.1, FR.2.2.1, FR.2.2.2.1, FR.2.2.2.2.1, FR.2.2.2.2.2.1, fun r k hr => kk r k (by omega) (by omega) (by omega) (by omega)⟩, kk 102 0 (by omega) (by omega) (by omega) (by omega)⟩
    rw [e]
    refine gr_A R2 (fun r k hr => kk r k (by omega) (by omega) (by omega) (by omega)) ?_ rfl
    obtain ⟨-, ⟨⟨a1, a2⟩, ⟨b1, b2⟩, ⟨c1, c2⟩, dd, -, f, l, l1, l2⟩, -⟩ := R2
    have uu : ∀ r k, (r = 103 ∨ r = 104 ∨ r = 112) ∨ (r = 102 ∧ k ≠ 26 ∧ k ≠ 28 ∧ k ≠ 35 ∧ k ≠ 36) → hp_i h' r k = hp_i H2 r k := fun r k hr => kk r k (by omega) (by omega) (by omega) (by omega)
    exact ⟨⟨(uu _ _ (by omega)).trans a1, fun k hk => (uu _ _ (by omega)).trans (a2 k hk)⟩, ⟨(uu _ _ (by omega)).trans b1, (uu _ _ (by omega)).trans b2⟩, ⟨(uu _ _ (by omega)).trans c1, fun k hk => (uu _ _ (by omega)).trans (c2 k hk)⟩, fun l hl => (uu _ _ (by omega)).trans (dd l hl), ⟨e35, e113⟩, (uu _ _ (by omega)).trans f, l, l1, (uu _ _ (by omega)).trans l2⟩
  rcases x2 with ⟨z1, z2, z3, z4⟩ | ⟨q, z1, z2, z3, z4, z5⟩
  · have pm := G.1.2.2.2
    obtain ⟨X1, F1, -⟩ := gc0_fq (gc0_of G) R.1 S F H1 (by omega) (fun k hk => z4 k (by omega))
    refine ⟨v, h2, g, eC, by rw [z3]; exact gc0_to X1 P1 (by omega) (by omega) (by omega), by rw [z3]; exact F1, fun H2 R2 h24 t0 => ?_⟩
    obtain ⟨v', h', u1, u2, u3⟩ := ref H2 R2 h24
    rcases u3 with ⟨_, s2, s3, s4⟩ | ⟨q', s1, _⟩
    · obtain ⟨g1, g2, g3⟩ := rvR H2 h' (sws g) (swm g) R2 u2 (by rw [s4]; exact R2.2.1.2.2.2.2.1.1) (fun k hk => by rw [s3]; exact R2.2.1.2.2.2.2.1.2 k hk)
      exact ⟨h', by rw [u1, s2, z2], g1, g2, g3.trans t0⟩
    · rw [z1] at s1; cases s1
  · obtain ⟨H9, _, R9, _, _, h249⟩ := r_fl0 R hp hd
    have q8 : q.length ≤ 8 := by
      obtain ⟨v', h', _, _, u3⟩ := ref H9 R9 h249
      rcases u3 with ⟨s1, _⟩ | ⟨q', s1, s2, _⟩
      · rw [z1] at s1; cases s1
      · rw [z1] at s1; cases s1; exact s2
    have r12 := G.2.2.2.2.1
    obtain ⟨-, -, -, -, -, -, -, f8, f9⟩ := F
    have GCn : GC (sA h1 (up_2 (hp_i h1) 74 5 (nI q.length))) (sD g, stpe g, sn g, sfk g, sfp g, spt g, spm g, swi g, fun k => q.getD k 0, q.length) (m + 1) := by
      have B1 := gh_lt y1
      have v1 := y1.2.2.2.2.2.2.2.1
      have v2 := y1.2.2.2.2.2.2.2.2
      have eI : ∀ r, r ≠ 74 → hp_i (sA h1 (up_2 (hp_i h1) 74 5 (nI q.length))) r = hp_i h1 r := fun r hr => u2r hr
      have V2 : GVA (up_2 (hp_i h1) 74 5 (nI q.length)) (sD g, stpe g, sn g, sfk g, sfp g, spt g, spm g, swi g, fun k => q.getD k 0, q.length) := by
        obtain ⟨⟨a1, a2⟩, ⟨b1, b2⟩, ⟨c1, c2⟩, dd, -, -⟩ := G.2.2.1
        have uu : ∀ r k, r = 64 ∨ r = 65 ∨ r = 67 ∨ r = 72 ∨ r = 73 → up_2 (hp_i h1) 74 5 (nI q.length) r k = hp_i h r k := fun r k hr => by rw [u2 (by omega), y4 r hr]
        exact ⟨⟨(uu _ _ (by omega)).trans a1, fun k hk => (uu _ _ (by omega)).trans (a2 k hk)⟩, ⟨(uu _ _ (by omega)).trans b1, (uu _ _ (by omega)).trans b2⟩, ⟨(uu _ _ (by omega)).trans c1, fun k hk => (uu _ _ (by omega)).trans (c2 k hk)⟩, fun l hl => (uu _ _ (by omega)).trans (dd l hl), u2s, fun k hk => by rw [u2 (by omega)]; exact z5 k hk⟩
      have P2 : GPl (sA h1 (up_2 (hp_i h1) 74 5 (nI q.length))) (sD g, stpe g, sn g, sfk g, sfp g, spt g, spm g, swi g, fun k => q.getD k 0, q.length) := by
        refine ⟨fun q' hq => ?_, P1.2⟩
        refine (P1.1 q' hq).imp id (fun ⟨y, a1, a2⟩ => ⟨y, a1, cpl_fr (h := h1) (h' := sA h1 (up_2 (hp_i h1) 74 5 (nI q.length))) (x := 0) (sq_of (Nat.le_refl _) (fun r hr _ => ⟨rfl, rfl, eI r (by omega), rfl, rfl⟩) rfl rfl) (fun z => ?_) a2⟩)
        have z' : hp_r h1 66 q' = 0 := z
        have := a2.1.1.1
        omega
      have rm1 := r12.1
      have rm2 := r12.2
      exact ⟨⟨G.1.1, G.1.2.1, G.1.2.2.1, q8⟩, y1, V2, P2, ⟨show hp_n h1 ≤ 126 + 20 * (m + 1) + pot h1 by omega, show hp_s h1 ≤ 100000 + 2000 * (m + 1) + pot8 h1 by omega⟩, tn + 1, by omega, hb_eq (h := h1) (h' := sA h1 (up_2 (hp_i h1) 74 5 (nI q.length))) rfl rfl rfl rfl (eI 90 (by omega)) (eI 95 (by omega)) (eI _ (by omega)) (eI _ (by omega)) H1⟩
    refine ⟨v, h2, _, eC, by rw [z4]; exact GCn, ?_, fun H2 R2 h24 t0 => ?_⟩
    · rw [z4]
      exact clf_tr y2 (cl_A (fun r k h1 h2 => u2 (by omega)))
    · obtain ⟨v', h', u1, u2, u3⟩ := ref H2 R2 h24
      rcases u3 with ⟨s1, _⟩ | ⟨q', s1, s2, s3, s4, s5⟩
      · rw [z1] at s1; cases s1
      · rw [z1] at s1
        cases s1
        obtain ⟨g1, g2, g3⟩ := rvR H2 h' (fun k => q.getD k 0) q.length R2 u2 s4 s5
        exact ⟨h', by rw [u1, s3, z3], g1, g2, g3.trans t0⟩
end
