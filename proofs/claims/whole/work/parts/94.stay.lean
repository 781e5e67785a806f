/-! ===== staysWithin(), findRaces() ===== -/
section
variable {g h : AH} {K0 : Nat → Nat → Int32} {te ow : Nat → Nat} {na nt sz oc co pr goal tn : Nat} {kd : Nat → Int32}
/-- search cells apart from what HB and PB speak of -/
theorem hb_7 {h' : AH} (e : EQ7 h h') (r74 : ∀ k, k < 5 → hp_r h' 74 k = hp_r h 74 k) (i95 : hp_i h' 95 = hp_i h 95) (H : HB h tn) : HB h' tn := by
  obtain ⟨⟨t1, t2, t3, t4, t5, t6⟩, ⟨u1, u2, u3, u4⟩, ⟨L, S⟩, ⟨M, O⟩, ⟨p1, p2⟩, ⟨w1, w2⟩, d1, d2, d3, d12, d13, d14⟩ := H
  obtain ⟨e1, e2, e3, e4, e5, e6, e7, e8⟩ := e
  have ok : ∀ r c, ok_o h r c → ok_o h' r c := fun r c o => ⟨o.1, by rw [e1]; exact o.2.1, by rw [e3]; exact o.2.2⟩
  have r75 := e7 75 (by decide)
  have r90 := e7 90 (by decide)
  have r95 := e7 95 (by decide)
  have i90 := e5 90 (by decide) (by decide)
  have kt : hp_k h (hp_r h 90 3) = 100 := S.2.2.2.2.1.1.2.2
  have kr : hp_k h (hp_r h 95 0) = 100 := O.2.1.2.2
  have it : hp_i h' (hp_r h 90 3) = hp_i h (hp_r h 90 3) := e5 _ (fun e => by rw [e, t1.2.2] at kt; omega) (fun e => by rw [e, O.1.2.2] at kt; omega)
  have ir : hp_i h' (hp_r h 95 0) = hp_i h (hp_r h 95 0) := e5 _ (fun e => by rw [e, t1.2.2] at kr; omega) (fun e => by rw [e, O.1.2.2] at kr; omega)
  refine ⟨⟨ok _ _ t1, by rw [r74 0 (by omega)]; exact t2, by rw [r74 1 (by omega)]; exact t3, by rw [r74 2 (by omega)]; exact t4, by rw [r74 3 (by omega)]; exact t5, by rw [r74 4 (by omega)]; exact t6⟩, ?_, ⟨L, ?_⟩, ⟨M, ?_⟩, ⟨ok _ _ p1, by rw [e4]; exact p2⟩, ⟨ok _ _ w1, by rw [e4]; exact w2⟩, by rw [r90, r95]; exact d1, by rw [r90]; exact d2, by rw [r95]; exact d3, by rw [i90]; exact d12, d13, ?_⟩
  · rw [r75, e4]
    exact ⟨ok _ _ u1, ⟨u2.1, ok _ _ u2.2.1, u2.2.2⟩, ⟨u3.1, ok _ _ u3.2.1, u3.2.2⟩, ⟨u4.1, ok _ _ u4.2.1, u4.2.2⟩⟩
  · obtain ⟨s1, s2, s3, s4, s5, s6, s7, s8, s9⟩ := S
    rw [SI0, r90, e4]
    exact ⟨ok _ _ s1, ⟨ok _ _ s2.1, s2.2⟩, ⟨ok _ _ s3.1, s3.2⟩, ⟨ok _ _ s4.1, s4.2⟩, ⟨ok _ _ s5.1, s5.2⟩, s6, s7, s8, s9⟩
  · obtain ⟨o1, o2, o3, o4, o5, o6, o7, o8⟩ := O
    rw [OI, r95, e4, ir, i95]
    exact ⟨ok _ _ o1, ok _ _ o2, o3, o4, o5, o6, o7, o8⟩
  · unfold TB at d14 ⊢
    rw [r90, e4, it]
    exact d14
theorem pb_7 {h' : AH} (e : EQ7 h h') (H : HB h tn) (P : PB h pr co K0 kd) : PB h' pr co K0 kd := by
  obtain ⟨r1, r2, V, nr, k1, k2, k3, k4⟩ := P
  obtain ⟨M, O⟩ := H.2.2.2.1
  obtain ⟨e1, e2, e3, e4, e5, e6, e7, e8⟩ := e
  have t1 := H.1.1
  have ok : ∀ r c, ok_o h r c → ok_o h' r c := fun r c o => ⟨o.1, by rw [e1]; exact o.2.1, by rw [e3]; exact o.2.2⟩
  have n74 : ∀ r c, hp_k h r = c → c ≠ 8 → r ≠ 74 := fun r c hk hc x => by rw [x, t1.2.2] at hk; omega
  have n95 : ∀ r c, hp_k h r = c → c ≠ 3 → r ≠ 95 := fun r c hk hc x => by rw [x, O.1.2.2] at hk; omega
  have rp := e7 pr (n74 pr 5 r1.2.2 (by omega))
  have rc := e7 co (n74 co 0 V.1.2.2 (by omega))
  have ic := e5 co (n74 co 0 V.1.2.2 (by omega)) (n95 co 0 V.1.2.2 (by omega))
  have nre : ∀ r, NR h' r ↔ NR h r := fun r => by unfold NR; rw [e7 90 (by decide), e7 95 (by decide)]
  refine ⟨ok _ _ r1, by rw [rp]; exact r2, ⟨ok _ _ V.1, fun i hi => ?_, by rw [ic]; exact V.2.2⟩, fun i hi => by rw [rc, nre]; exact nr i hi, ?_⟩
  · obtain ⟨a, b, c⟩ := V.2.1 i hi
    rw [rc, e4, e5 _ (n74 _ 100 a.2.2 (by omega)) (n95 _ 100 a.2.2 (by omega))]
    exact ⟨ok _ _ a, b, c⟩
  · rw [rp, e4, nre, e5 _ (n74 _ 100 k1.2.2 (by omega)) (n95 _ 100 k1.2.2 (by omega))]
    exact ⟨ok _ _ k1, k2, k3, k4⟩
theorem eq7_r {k v : Nat} : EQ7 h (st_r h 74 k v) := ⟨str_n, str_sz, str_kk, str_l, fun r _ _ => by rw [str_i], fun r _ => by rw [str_j], fun r h7 => str_r h7, fun k _ => by rw [str_i]⟩
theorem eq7_j {k : Nat} {v : Int64} : EQ7 h (st_j h 74 k v) := ⟨stj_n, stj_sz, stj_kk, stj_l, fun r _ _ => by rw [stj_i], fun r h7 => stj_r h7, fun r _ => by rw [stj_rr], fun k _ => by rw [stj_i]⟩
/-- volatile: by kind, or by the set -/
def Vc (kd : Nat → Int32) (cells : Nat) (c : Nat) : Bool := decide (kd c = 1) || cells.testBit c
theorem r_stay {due cells : Nat} {Ld : List Int32} (Z : KW K0 te ow na nt sz) (H : HB h tn) (htn : tn + 2 < 2 ^ 30) (P : PB h pr co K0 kd) (hoc : oc = 1 ∨ oc = 2) (hc : cells < 64) (d1 : ok_o h due 100) (d2 : ¬ NR h due) (d3 : RowIs (hp_i h due) Ld) (d4 : Ld.length = hp_l h due) (d5 : Ld.length ≤ 2 ^ 20) (d6 : srt Ld) :
    ∃ b h2, f_X8_staysWithin 74 pr (nI oc) (nI cells) due h = some (b, h2) ∧ HB h2 (tn + 1) ∧ FQ h h2 pr ∧ hp_j h2 pr = hp_j h pr ∧ hp_j h2 74 = hp_j h 74 ∧ hp_i h2 74 6 = hp_i h 74 6 ∧ hp_i h2 98 = hp_i h 98 ∧ (b = 0 ∨ b = 1) ∧ (b = 1 ↔ ∀ s, Ends (KP K0) (Vc kd cells) oc s → oN ow nt s ∈ Ld) := by
  have E7 := eq7_r (h := h) (k := 10) (v := due)
  have H1 : HB (st_r h 74 10 due) tn := hb_7 E7 (fun k hk => str_k (by omega)) (by rw [str_i]) H
  have P1 := pb_7 E7 H P
  obtain ⟨-, p74, p75, p95⟩ := pb_95 H P
  obtain ⟨w, w1, w2, w3⟩ := e_cok (g := st_r h 74 10 due) (k := 1) P1.1 P1.2.2.2.2.1 P1.2.2.2.2.2.1 P1.2.2.2.2.2.2.1
  have hwc : w ||| cells < 64 := Nat.or_lt_two_pow (n := 6) w1 hc
  obtain ⟨g, b1, b2, b3, b4, b5, b6, b7⟩ := e_bg8 (oc := oc) (goal := 1) (v := nI (w ||| cells)) Z H1 P1 (by omega) (by omega)
  have kx : ∀ i, i ≤ 10 → KX K0 g (nI oc) (nI (w ||| cells)) i = K0 i := fun i hi => by
    unfold KX
    rw [if_neg (by omega), if_neg (by omega), if_neg (by omega), if_neg (by omega)]
  have ZX := kw_cg kx Z
  have PX := kp_cg kx
  have hao : ao oc = oc := if_neg (by omega)
  have hkv : ∀ c, c < 6 → kv (KX K0 g (nI oc) (nI (w ||| cells))) c = Vc kd cells c := fun c hc => by
    rw [kv_w (by omega) (by omega), Nat.testBit_or]
    unfold Vc
    congr 1
    cases hb : w.testBit c with
    | true => exact (decide_eq_true ((w3 c hc).mp hb)).symm
    | false => exact (decide_eq_false (fun e => by rw [(w3 c hc).mpr e] at hb; cases hb)).symm
  have eI : ∀ s, Ends (KP (KX K0 g (nI oc) (nI (w ||| cells)))) (kv (KX K0 g (nI oc) (nI (w ||| cells)))) (ao oc) s ↔ Ends (KP K0) (Vc kd cells) oc s := fun s => by
    rw [PX, hao]
    exact ⟨ends_vol Z hkv, ends_vol Z (fun c hc => (hkv c hc).symm)⟩
  generalize hs1 : sT g (m_bg (KX K0 g (nI oc) (nI (w ||| cells))) nt 0 0) 0 0 = s1 at b1 b2 b4 b5 b6 b7
  have kdue := d1.2.2
  have t1 := H.1.1
  have du74 : due ≠ 74 ∧ due ≠ 75 ∧ due ≠ 90 ∧ due ≠ 95 ∧ due ≠ pr := by
    obtain ⟨M, O⟩ := H.2.2.2.1
    obtain ⟨L, S⟩ := H.2.2.1
    refine ⟨fun e => ?_, fun e => ?_, fun e => ?_, fun e => ?_, fun e => ?_⟩
    · rw [e, t1.2.2] at kdue; omega
    · rw [e, H.2.1.1.2.2] at kdue; omega
    · rw [e, S.1.2.2] at kdue; omega
    · rw [e, O.1.2.2] at kdue; omega
    · rw [e, P.1.2.2] at kdue; omega
  have nr76 : due ≠ 76 ∧ due ≠ 77 ∧ due ≠ 78 ∧ due ≠ 97 ∧ due ≠ 98 ∧ due ≠ hp_r h 90 3 ∧ due ≠ hp_r h 95 0 := ⟨fun e => d2 (Or.inl e), fun e => d2 (Or.inr (Or.inl e)), fun e => d2 (Or.inr (Or.inr (Or.inl e))), fun e => d2 (Or.inr (Or.inr (Or.inr (Or.inl e)))), fun e => d2 (Or.inr (Or.inr (Or.inr (Or.inr (Or.inl e))))), fun e => d2 (Or.inr (Or.inr (Or.inr (Or.inr (Or.inr (Or.inl e)))))), fun e => d2 (Or.inr (Or.inr (Or.inr (Or.inr (Or.inr (Or.inr e))))))⟩
  have r10 : hp_r s1 74 10 = due := by rw [b4.2.2.2.2.2.2.2.1 10 (by decide), str_s]
  have r90 : hp_r s1 90 = hp_r h 90 := by rw [b4.2.2.2.2.2.2.1 90 (by decide) (by decide), str_r (show (90 : Nat) ≠ 74 by decide)]
  have r95 : hp_r s1 95 = hp_r h 95 := by rw [b4.2.2.2.2.2.2.1 95 (by decide) (by decide), str_r (show (95 : Nat) ≠ 74 by decide)]
  have odue : ok_o s1 due 100 := ⟨d1.1, by rw [b4.1, str_n]; exact d1.2.1, by rw [b4.2.2.1, str_kk]; exact d1.2.2⟩
  have ldue : hp_l s1 due = hp_l h due := by rw [b4.2.2.2.1, str_l]
  have idue : hp_i s1 due = hp_i h due := by rw [b4.2.2.2.2.1 due du74.1 du74.2.1 nr76.1 nr76.2.1 nr76.2.2.1 du74.2.2.1, str_i]
  have nsw : ¬ SW s1 pr due := by
    obtain ⟨L, S⟩ := H.2.2.1
    unfold SW S4
    rw [r90, r95]
    rintro (e | e | e | e | e | e | (e | e | e | e | e) | e)
    · exact du74.1 e
    · exact du74.2.1 e
    · exact du74.2.2.2.1 e
    · exact nr76.2.2.2.1 e
    · exact nr76.2.2.2.2.1 e
    · exact du74.2.2.2.2 e
    · exact du74.2.2.1 e
    · rw [e, S.2.1.1.2.2] at kdue; omega
    · rw [e, S.2.2.1.1.2.2] at kdue; omega
    · rw [e, S.2.2.2.1.1.2.2] at kdue; omega
    · exact nr76.2.2.2.2.2.1 e
    · exact nr76.2.2.2.2.2.2 e
  obtain ⟨Mo, Ob⟩ := b2.2.2.2.1
  have G0 : GCo s1 pr Mo s1 false := ⟨cg_0 b2 Ob, by rw [b5]; rfl, rfl, rfl, rfl, rfl⟩
  have B := vbm_C (M0 := Mo) (Ld := Ld) (ow := ow) ZX b3 b2 (by rw [r10]; exact odue) (by rw [r10]; exact nsw) (by rw [r10, idue]; exact d3) (by rw [r10, ldue]; exact d4) d5 d6
  obtain ⟨h2, v1, v2⟩ := v_run ZX B G0 b7
  rw [cT_any (fin := fnC (KX K0 g (nI oc) (nI (w ||| cells))) Ld) (q := fun x => !decide (m_out (KX K0 g (nI oc) (nI (w ||| cells))) x.1 ∈ Ld)) (fun _ _ _ _ => rfl), Bool.false_or] at v2
  obtain ⟨l1, l2⟩ := lv_ends (ow := ow) (goal := 1) ZX b3
  have hany : (lv (KX K0 g (nI oc) (nI (w ||| cells))) nt 1 17 (m_bg (KX K0 g (nI oc) (nI (w ||| cells))) nt 0 0, 0, 0)).any (fun x => !decide (m_out (KX K0 g (nI oc) (nI (w ||| cells))) x.1 ∈ Ld)) = false ↔ ∀ s, Ends (KP K0) (Vc kd cells) oc s → oN ow nt s ∈ Ld := by
    rw [List.any_eq_false]
    constructor
    · intro hh s hs
      obtain ⟨y, y1, y2, y3⟩ := l2 s ((eI s).mpr hs)
      have := hh y y1
      have e := (q_out ZX y3 y2).1
      unfold oN
      rw [← e]
      simpa using this
    · intro hh y hy
      obtain ⟨s, e1, e2, e3⟩ := l1 y hy
      have := hh s ((eI s).mp e1)
      have e := (q_out ZX e3 e2).1
      unfold oN at this
      rw [← e] at this
      simpa using this
  generalize hA : (lv (KX K0 g (nI oc) (nI (w ||| cells))) nt 1 17 (m_bg (KX K0 g (nI oc) (nI (w ||| cells))) nt 0 0, 0, 0)).any (fun x => !decide (m_out (KX K0 g (nI oc) (nI (w ||| cells))) x.1 ∈ Ld)) = A at v2 hany
  obtain ⟨c1, c2, c3, c4, c5, c6⟩ := v2
  obtain ⟨HB2, FQ2⟩ := hb_after H1 htn b4 b6 b2 c1
  have s2 := fs_sf b2 c1.1
  have pre : f_X8_staysWithin 74 pr (nI oc) (nI cells) due h = (if (if A = true then (1 : Int32) else 0) = 0 then b_X8_staysWithin_53 h2 else b_X8_staysWithin_57 h2) := by
    unfold f_X8_staysWithin b_X8_staysWithin_0
    have v74 : ok_v (st_r h 74 10 due) 74 8 = some () := if_pos t1
    have sB := b2.2.1
    have v1' : f_X8_visit dp_ 74 (m_bg (KX K0 g (nI oc) (nI (w ||| cells))) nt 0 0) 0 0 (0 : Int32) s1 = some h2 := v1
    have Ms := b2.1
    have b1' : f_X8_begin 74 pr (nI oc) (nI (w ||| cells)) (1 : Int32) (st_r h 74 10 due) = some s1 := b1
    have j0 : g_j s1 75 2 0 = some (m_bg (KX K0 g (nI oc) (nI (w ||| cells))) nt 0 0) := by
      have e : g_j s1 75 2 0 = some (hp_j s1 75 0) := if_pos Ms.1
      rw [e, ← hs1, sT_0]
    have j1 : g_j s1 75 2 1 = some 0 := by
      have e : g_j s1 75 2 1 = some (hp_j s1 75 1) := if_pos Ms.1
      rw [e, ← hs1, sT_1]
    have j2 : g_j s1 75 2 2 = some 0 := by
      have e : g_j s1 75 2 2 = some (hp_j s1 75 2) := if_pos Ms.1
      rw [e, ← hs1, sT_2]
    have i11 : g_i h2 74 8 11 = some (if A = true then 1 else 0) := by
      have e : g_i h2 74 8 11 = some (hp_i h2 74 11) := if_pos s2.1
      rw [e, c2]
    rw [show p_r h 74 8 10 due = some (st_r h 74 10 due) from if_pos t1, Option.bind_some, show ok_v (st_r h 74 10 due) pr 5 = some () from if_pos P1.1, Option.bind_some, w2, Option.bind_some, v74, Option.bind_some, nI_or (by omega) (by omega), b1', Option.bind_some, sf_r0 sB, Option.bind_some, j0, Option.bind_some, Option.bind_some, j1, Option.bind_some, Option.bind_some, j2, Option.bind_some, sf_v sB, Option.bind_some, v1', Option.bind_some, i11, Option.bind_some]
  have jpr : hp_j h2 pr = hp_j h pr := by rw [c3, b4.2.2.2.2.2.1 pr p75, str_j]
  have j74 : hp_j h2 74 = hp_j h 74 := by rw [c4, b4.2.2.2.2.2.1 74 (by decide), str_j]
  have i6 : hp_i h2 74 6 = hp_i h 74 6 := by rw [c5, b4.2.2.2.2.2.2.2.2 6 (by decide) (by decide), str_i]
  have i98 : hp_i h2 98 = hp_i h 98 := by rw [c6, b4.2.2.2.2.1 98 (by decide) (by decide) (by decide) (by decide) (by decide) (by decide), str_i]
  rw [pre]
  cases A with
  | true =>
    refine ⟨0, h2, ?_, HB2, fq_eq E7 p74 p95 FQ2, jpr, j74, i6, i98, Or.inl rfl, ?_⟩
    · rw [if_pos rfl, if_neg (show ¬ (1 : Int32) = 0 by decide)]
      exact ok_z_0
    · exact ⟨fun e => absurd e (by decide), fun e => absurd (hany.mpr e) (by decide)⟩
  | false =>
    refine ⟨1, h2, ?_, HB2, fq_eq E7 p74 p95 FQ2, jpr, j74, i6, i98, Or.inr rfl, ?_⟩
    · rw [if_neg Bool.false_ne_true, if_pos rfl]
      exact ok_z_1
    · exact ⟨fun _ => hany.mp rfl, fun _ => rfl⟩
end
