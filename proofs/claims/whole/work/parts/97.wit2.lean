/-! ===== findWitness() ===== -/
section
variable {g h : AH} {K0 : Nat → Nat → Int32} {te ow : Nat → Nat} {na nt sz oc co pr goal tn : Nat} {kd : Nat → Int32}
theorem eq7_i {v : Int32} : EQ7 h (st_i h 74 6 v) := ⟨sti_n, sti_sz, sti_kk, sti_l, fun r h7 _ => sti_r h7, fun r _ => by rw [sti_j], fun r _ => by rw [sti_rr], fun k hk => sti_k hk⟩
theorem kv_0 {o : Int32} : kv (KX K0 g o 0) = fun _ => false := by
  funext c
  have e14 : KX K0 g o 0 14 1 = 0 := rfl
  unfold kv m_vo
  rw [e14]
  simp
theorem r_wit {rw' : Nat} (Z : KW K0 te ow na nt sz) (H : HB h tn) (htn : tn + 2 < 2 ^ 30) (P : PB h pr co K0 kd) (d1 : ok_o h rw' 100) (d2 : ¬ NR h rw') (d4 : hp_l h rw' = 5) :
    ∃ v h1 h2, f_X8_findWitness 74 pr rw' h = some (v, h2) ∧ HB h1 (tn + 1) ∧ FQ h h1 pr ∧ hp_j h1 pr = hp_j h pr ∧ hp_j h1 74 = hp_j h 74 ∧
      ((wT (KP K0) (fun _ => false) (mtw ow nt (hp_i h rw')) 17 (xa_0 (KP K0)) [] none = none ∧ v = -1 ∧ h2 = h1 ∧ ∀ k, k < 17 → hp_i h1 98 k = hp_i h 98 k) ∨
       ∃ q, wT (KP K0) (fun _ => false) (mtw ow nt (hp_i h rw')) 17 (xa_0 (KP K0)) [] none = some q ∧ q.length ≤ 16 ∧ v = nI q.length ∧ h2 = st_i h1 74 5 (nI q.length) ∧ ∀ k, k < q.length → hp_i h1 98 k = nI (q.getD k 0)) := by
  have E7 := eq7_r (h := h) (k := 9) (v := rw')
  have H1 : HB (st_r h 74 9 rw') tn := hb_7 E7 (fun k hk => str_k (by omega)) (by rw [str_i]) H
  have P1 := pb_7 E7 H P
  have E8 := eq7_i (h := st_r h 74 9 rw') (v := 17)
  have H2 : HB (st_i (st_r h 74 9 rw') 74 6 17) tn := hb_7 E8 (fun k hk => by rw [sti_rr]) (sti_r (by decide)) H1
  have P2 := pb_7 E8 H1 P1
  obtain ⟨-, p74, p75, p95⟩ := pb_95 H P
  obtain ⟨g, b1, b2, b3, b4, b5, b6, b7⟩ := e_bg8 (oc := 0) (goal := 2) (v := 0) Z H2 P2 (by omega) (by omega)
  have kx : ∀ i, i ≤ 10 → KX K0 g (nI 0) 0 i = K0 i := fun i hi => by
    unfold KX
    rw [if_neg (by omega), if_neg (by omega), if_neg (by omega), if_neg (by omega)]
  have ZX := kw_cg kx Z
  have PX := kp_cg kx
  have VX : kv (KX K0 g (nI 0) 0) = fun _ => false := kv_0
  generalize hs1 : sT g (m_bg (KX K0 g (nI 0) 0) nt 0 0) 0 0 = s1 at b1 b2 b4 b5 b6 b7
  have kdue := d1.2.2
  have t1 := H.1.1
  have du74 : rw' ≠ 74 ∧ rw' ≠ 75 ∧ rw' ≠ 90 ∧ rw' ≠ 95 ∧ rw' ≠ pr := by
    obtain ⟨M, O⟩ := H.2.2.2.1
    obtain ⟨L, S⟩ := H.2.2.1
    refine ⟨fun e => ?_, fun e => ?_, fun e => ?_, fun e => ?_, fun e => ?_⟩
    · rw [e, t1.2.2] at kdue; omega
    · rw [e, H.2.1.1.2.2] at kdue; omega
    · rw [e, S.1.2.2] at kdue; omega
    · rw [e, O.1.2.2] at kdue; omega
    · rw [e, P.1.2.2] at kdue; omega
  have nr76 : rw' ≠ 76 ∧ rw' ≠ 77 ∧ rw' ≠ 78 ∧ rw' ≠ 97 ∧ rw' ≠ 98 ∧ rw' ≠ hp_r h 90 3 ∧ rw' ≠ hp_r h 95 0 := ⟨fun e => d2 (Or.inl e), fun e => d2 (Or.inr (Or.inl e)), fun e => d2 (Or.inr (Or.inr (Or.inl e))), fun e => d2 (Or.inr (Or.inr (Or.inr (Or.inl e)))), fun e => d2 (Or.inr (Or.inr (Or.inr (Or.inr (Or.inl e))))), fun e => d2 (Or.inr (Or.inr (Or.inr (Or.inr (Or.inr (Or.inl e)))))), fun e => d2 (Or.inr (Or.inr (Or.inr (Or.inr (Or.inr (Or.inr e))))))⟩
  have r9 : hp_r s1 74 9 = rw' := by rw [b4.2.2.2.2.2.2.2.1 9 (by decide), sti_rr, str_s]
  have r90 : hp_r s1 90 = hp_r h 90 := by rw [b4.2.2.2.2.2.2.1 90 (by decide) (by decide), sti_rr, str_r (show (90 : Nat) ≠ 74 by decide)]
  have r95 : hp_r s1 95 = hp_r h 95 := by rw [b4.2.2.2.2.2.2.1 95 (by decide) (by decide), sti_rr, str_r (show (95 : Nat) ≠ 74 by decide)]
  have odue : ok_o s1 rw' 100 := ⟨d1.1, by rw [b4.1, sti_n, str_n]; exact d1.2.1, by rw [b4.2.2.1, sti_kk, str_kk]; exact d1.2.2⟩
  have ldue : hp_l s1 rw' = hp_l h rw' := by rw [b4.2.2.2.1, sti_l, str_l]
  have idue : hp_i s1 rw' = hp_i h rw' := by rw [b4.2.2.2.2.1 rw' du74.1 du74.2.1 nr76.1 nr76.2.1 nr76.2.2.1 du74.2.2.1, sti_r du74.1, str_i]
  have i98 : hp_i s1 98 = hp_i h 98 := by rw [b4.2.2.2.2.1 98 (by decide) (by decide) (by decide) (by decide) (by decide) (by decide), sti_r (show (98 : Nat) ≠ 74 by decide), str_i]
  have i6 : hp_i s1 74 6 = nI 17 := by rw [b4.2.2.2.2.2.2.2.2 6 (by decide) (by decide), sti_s]; rfl
  have nsw : ¬ SW s1 pr rw' := by
    obtain ⟨L, S⟩ := H.2.2.1
    unfold SW S4
    rw [r90, r95]
    rintro (e | e | e | e | e | e | (e | e | e | e | e) | e)
    · exact du74.1 e
    · exact du74.2.1 e
    · exact du74.2.2.2.1 e
    · exact nr76.2.2.2.1 e
    · exact nr76.2.2.2.2.1 e
    · exact du74.2.2.2.2 e
    · exact du74.2.2.1 e
    · rw [e, S.2.1.1.2.2] at kdue; omega
    · rw [e, S.2.2.1.1.2.2] at kdue; omega
    · rw [e, S.2.2.2.1.1.2.2] at kdue; omega
    · exact nr76.2.2.2.2.2.1 e
    · exact nr76.2.2.2.2.2.2 e
  obtain ⟨Mo, Ob⟩ := b2.2.2.2.1
  have G0 : GWi s1 pr Mo s1 (17, hp_i h 98) := ⟨cg_0 b2 Ob, b5, rfl, rfl, i6, Nat.le_refl 17, fun k _ => by rw [i98]⟩
  have B := vbm_W (M0 := Mo) (w := hp_i h rw') (ow := ow) ZX b3 b2 (by rw [r9]; exact odue) (by rw [r9]; exact nsw) (fun k _ => by rw [r9, idue]) (by rw [r9, ldue]; exact d4)
  obtain ⟨h2, v1, v2⟩ := v_run ZX B G0 b7
  have W := wT_c (w := hp_i h rw') (ow := ow) (p0 := hp_i h 98) ZX b3 17 (m_bg (KX K0 g (nI 0) 0) nt 0 0, 0, 0) (xa_0 (KP (KX K0 g (nI 0) 0))) [] 0 (hp_i s1 97) [] (17, hp_i h 98) none (ra_0 ZX) (rc_0 ZX).2 rfl rfl (fun k hk => absurd hk (Nat.not_lt_zero k)) ⟨rfl, rfl⟩
  generalize hA : cT (KX K0 g (nI 0) 0) nt 2 (fnW (KX K0 g (nI 0) 0) (hp_i h rw')) (fun _ => false) 17 (m_bg (KX K0 g (nI 0) 0) nt 0 0, 0, 0) 0 (hp_i s1 97) (17, hp_i h 98) = A at v2 W
  rw [PX, VX] at W
  obtain ⟨c1, c2, c3, c4, c5, c6, c7⟩ := v2
  obtain ⟨HB2, FQ2⟩ := hb_after H2 htn b4 b6 b2 c1
  have s2 := fs_sf b2 c1.1
  have pre : f_X8_findWitness 74 pr rw' h = (if nI A.1 ≤ (16 : Int32) then b_X8_findWitness_56 74 h2 else b_X8_findWitness_54 h2) := by
    unfold f_X8_findWitness b_X8_findWitness_0
    have v74 : ok_v (st_i (st_r h 74 9 rw') 74 6 17) 74 8 = some () := if_pos t1
    have sB := b2.2.1
    have v1' : f_X8_visit dp_ 74 (m_bg (KX K0 g (nI 0) 0) nt 0 0) 0 0 (0 : Int32) s1 = some h2 := v1
    have Ms := b2.1
    have b1' : f_X8_begin 74 pr (0 : Int32) (0 : Int32) (2 : Int32) (st_i (st_r h 74 9 rw') 74 6 17) = some s1 := b1
    have j0 : g_j s1 75 2 0 = some (m_bg (KX K0 g (nI 0) 0) nt 0 0) := by
      have e : g_j s1 75 2 0 = some (hp_j s1 75 0) := if_pos Ms.1
      rw [e, ← hs1, sT_0]
    have j1 : g_j s1 75 2 1 = some 0 := by
      have e : g_j s1 75 2 1 = some (hp_j s1 75 1) := if_pos Ms.1
      rw [e, ← hs1, sT_1]
    have j2 : g_j s1 75 2 2 = some 0 := by
      have e : g_j s1 75 2 2 = some (hp_j s1 75 2) := if_pos Ms.1
      rw [e, ← hs1, sT_2]
    have i11 : g_i h2 74 8 6 = some (nI A.1) := by
      have e : g_i h2 74 8 6 = some (hp_i h2 74 6) := if_pos s2.1
      rw [e, c5]
    rw [show p_r h 74 8 9 rw' = some (st_r h 74 9 rw') from if_pos t1, Option.bind_some, show p_i (st_r h 74 9 rw') 74 8 6 17 = some (st_i (st_r h 74 9 rw') 74 6 17) from if_pos t1, Option.bind_some, v74, Option.bind_some, b1', Option.bind_some, sf_r0 sB, Option.bind_some, j0, Option.bind_some, Option.bind_some, j1, Option.bind_some, Option.bind_some, j2, Option.bind_some, sf_v sB, Option.bind_some, v1', Option.bind_some, i11, Option.bind_some]
  have le16 : ∀ n, n ≤ 17 → (nI n ≤ (16 : Int32) ↔ n ≤ 16) := by decide
  have jpr : hp_j h2 pr = hp_j h pr := by rw [c3, b4.2.2.2.2.2.1 pr p75, sti_j, str_j]
  have j74 : hp_j h2 74 = hp_j h 74 := by rw [c4, b4.2.2.2.2.2.1 74 (by decide), sti_j, str_j]
  have FQ3 := fq_eq E7 p74 p95 (fq_eq E8 p74 p95 FQ2)
  rw [pre]
  cases hw : wT (KP K0) (fun _ => false) (mtw ow nt (hp_i h rw')) 17 (xa_0 (KP K0)) [] none with
  | none =>
    rw [hw] at W
    obtain ⟨w1, w2⟩ := W
    refine ⟨-1, h2, h2, ?_, HB2, FQ3, jpr, j74, Or.inl ⟨rfl, rfl, rfl, fun k hk => by rw [c7 k hk, w2]⟩⟩
    rw [if_neg (fun e => by have := (le16 A.1 c6).mp e; omega)]
    rfl
  | some q =>
    rw [hw] at W
    obtain ⟨w1, w2, w3⟩ := W
    refine ⟨nI q.length, h2, st_i h2 74 5 (nI q.length), ?_, HB2, FQ3, jpr, j74, Or.inr ⟨q, rfl, w2, rfl, rfl, fun k hk => by rw [c7 k (by omega), w3 k hk]⟩⟩
    rw [if_pos ((le16 A.1 c6).mpr (by omega))]
    unfold b_X8_findWitness_56
    have e6 : g_i h2 74 8 6 = some (nI q.length) := by
      have e : g_i h2 74 8 6 = some (hp_i h2 74 6) := if_pos s2.1
      rw [e, c5, w1]
    have e5 : g_i (st_i h2 74 5 (nI q.length)) 74 8 5 = some (nI q.length) := by
      have e : g_i (st_i h2 74 5 (nI q.length)) 74 8 5 = some (hp_i (st_i h2 74 5 (nI q.length)) 74 5) := if_pos s2.1
      rw [e, sti_s]
    rw [e6, Option.bind_some, show p_i h2 74 8 5 (nI q.length) = some (st_i h2 74 5 (nI q.length)) from if_pos s2.1, Option.bind_some, e5, Option.bind_some]
end
