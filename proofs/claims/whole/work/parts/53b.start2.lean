theorem st_ar {args : Array Value} {s : State} {ty : FieldType} (hp : (match ty with | .object _ => False | _ => True)) (h : (Cond.arrayClass ty).before args s = true) : ∃ cA : ClassId, ArrOfT s cA ty ∧ va_RA s cA ty := by
  obtain ⟨cA, kA, comp, h1, h2, h3⟩ := Cond.arrayClass_spec h
  refine ⟨cA, fun n z => ⟨fun k h => (by cases h), kA, h2, comp, h3⟩, ?_⟩
  cases ty with
  | object C => exact hp.elim
  | _ => exact h1
set_option maxHeartbeats 4000000 in
set_option maxRecDepth 100000 in
theorem st_cl {args : Array Value} {s : State} (hts : ∀ w ∈ lw_tbl, w.before args s = true) : ∃ (dC : Nat → ClassId) (dI : Nat → Nat → Nat), ∀ (k : Nat) (q : vw_C), am_cl[k]? = some q → u_Kn s q.1 q.2.1 q.2.2 (dC k) (dI k) := by
  have htg : ∀ w ∈ lw_gd, w.before args s = true := fun w hw => hts w (List.mem_filter.mp hw).1
  obtain ⟨c0, i0, k0⟩ := u_known (C := RX0) (T := TX0) (N := 18) (n := 18) htg fcX0.2.1 (htg _ wm_152)
  obtain ⟨c1, i1, k1⟩ := u_known (C := RX1) (T := TX1) (N := 2) (n := 2) htg fcX1.2.1 (htg _ wm_214)
  obtain ⟨c2, i2, k2⟩ := u_known (C := RX2) (T := TX2) (N := 9) (n := 9) htg fcX2.2.1 (htg _ wm_175)
  obtain ⟨c3, i3, k3⟩ := u_known (C := RX3) (T := TX3) (N := 2) (n := 2) htg fcX3.2.1 (htg _ wm_183)
  obtain ⟨c4, i4, k4⟩ := u_known (C := RX4) (T := TX4) (N := 3) (n := 3) htg fcX4.2.1 (htg _ wm_206)
  obtain ⟨c5, i5, k5⟩ := u_known (C := RX5) (T := TX5) (N := 10) (n := 10) htg fcX5.2.1 (htg _ wm_985)
  obtain ⟨c6, i6, k6⟩ := u_known (C := RX6) (T := TX6) (N := 11) (n := 11) htg fcX6.2.1 (htg _ wm_202)
  obtain ⟨c7, i7, k7⟩ := u_known (C := RX7) (T := TX7) (N := 9) (n := 9) htg fcX7.2.1 (htg _ wm_130)
  obtain ⟨c8, i8, k8⟩ := u_known (C := RX8) (T := TX8) (N := 13) (n := 13) htg fcX8.2.1 (htg _ wm_210)
  obtain ⟨c9, i9, k9⟩ := u_known (C := RX9) (T := TX9) (N := 6) (n := 6) htg fcX9.2.1 (htg _ wm_179)
  obtain ⟨c10, i10, k10⟩ := u_known (C := RX10) (T := TX10) (N := 10) (n := 10) htg fcX10.2.1 (htg _ wm_1443)
  obtain ⟨c11, i11, k11⟩ := u_known (C := RX11) (T := TX11) (N := 47) (n := 47) htg fcX11.2.1 (htg _ wm_1447)
  obtain ⟨c12, i12, k12⟩ := u_known (C := R_xi) (T := T_xx) (N := 0) (n := 6) hts (fun w hw => by cases hw) (hts _ nt_yi)
  obtain ⟨c13, i13, k13⟩ := u_known (C := R_xn) (T := T_xx) (N := 0) (n := 6) hts (fun w hw => by cases hw) (hts _ nt_yn)
  refine ⟨fun k => [c0, c1, c2, c3, c4, c5, c6, c7, c8, c9, c10, c11, c12, c13].getD k c0, fun k => [i0, i1, i2, i3, i4, i5, i6, i7, i8, i9, i10, i11, i12, i13].getD k i0, ?_⟩
  intro k q hq
  match k, hq with
  | 0, hq => cases hq; exact k0
  | 1, hq => cases hq; exact k1
  | 2, hq => cases hq; exact k2
  | 3, hq => cases hq; exact k3
  | 4, hq => cases hq; exact k4
  | 5, hq => cases hq; exact k5
  | 6, hq => cases hq; exact k6
  | 7, hq => cases hq; exact k7
  | 8, hq => cases hq; exact k8
  | 9, hq => cases hq; exact k9
  | 10, hq => cases hq; exact k10
  | 11, hq => cases hq; exact k11
  | 12, hq => cases hq; exact k12
  | 13, hq => cases hq; exact k13
  | k + 14, hq => simp [am_cl] at hq
set_option maxHeartbeats 4000000 in
set_option maxRecDepth 100000 in
theorem st_gv {s : State} {b : Nat} (l : Launch) (hfl : l.stackTraces = false) (hts : ∀ w ∈ lw_tbl, w.before #[Value.ref b] s = true) (hgv : (Jvm.Cond.and given_1 narrow_1).before #[Value.ref b] s = true) : ∃ g : GT, g.1 = l ∧ g.2.1 = s.heap ∧ ad_r g 31 = b ∧ GV g s := by
  have hn : ∀ w ∈ nw_F, w.before #[Value.ref b] s = true := flat_of_before _ hgv
  have hA : ∀ a : Nat, a < s.heap.size → ¬ (fun q : Nat => s.heap.size ≤ q) a := fun a h => Nat.not_le.mpr h
  obtain ⟨dC, dI, hcl⟩ := st_cl hts
  obtain ⟨cI, hI⟩ := st_ar (ty := .int) trivial (hts _ nt_aI)
  obtain ⟨cL, hJ⟩ := st_ar (ty := .long) trivial (hts _ nt_aJ)
  obtain ⟨comp, cP, kP, p1, -, p3, p4, p5⟩ := Cond.arrayOver_spec (hts _ nt_ao)
  obtain ⟨adK, adV, hvS, hev⟩ := vk_Sof (args := #[Value.ref b]) (s := s) (N := 17) (tm := js_m) (len := js_l) (byt := js_b) (A := fun q : Nat => s.heap.size ≤ q) (by decide +kernel) (fun i hi => hn _ (nw_ex i hi)) (fun i hi => hn _ (nw_co i hi)) (fun i hi => hn _ (nw_ar i hi)) (fun i hi => hn _ (nw_le i hi)) (fun i hi j hj => hn _ (nw_el i hi j hj)) (fun i j hi hj hij => (nw_ne i hi j hj hij).imp (hn _) (hn _)) hA
  obtain ⟨t17, hz⟩ : ∃ t : Nat, va_Z "jdk/internal/util/Preconditions" "SIOOBE_FORMATTER" "Ljava/util/function/BiFunction;" .null (fun q : Nat => s.heap.size ≤ q) s s.heap ∨ va_Z "jdk/internal/util/Preconditions" "SIOOBE_FORMATTER" "Ljava/util/function/BiFunction;" (.ref t) (fun q : Nat => s.heap.size ≤ q) s s.heap := by
    rcases va_Zqof (A := fun q : Nat => s.heap.size ≤ q) (hts _ nt_l4) (hts _ nt_i4) (hn _ nn_z4) hA with z | ⟨t, z⟩
    · exact ⟨0, Or.inl z⟩
    · exact ⟨t, Or.inr z⟩
  have hKe : ∀ i, i < 17 → (fun r => if r = 31 then b else adK (r - 1)) (i + 1) = adK i := fun i hi => by
    show (if i + 1 = 31 then b else adK (i + 1 - 1)) = adK i
    rw [if_neg (by omega)]; rfl
  have hVe : ∀ i, i < 17 → (fun r => if r = 17 then t17 else adV r) i = adV i := fun i hi => by
    show (if i = 17 then t17 else adV i) = adV i
    rw [if_neg (by omega)]
  refine ⟨(l, s.heap, (dC, dI), (cI, cL, cP), (fun r => if r = 31 then b else adK (r - 1)), (fun r => if r = 17 then t17 else adV r)), rfl, rfl, rfl, ⟨hcl, ?_⟩, ⟨?_, ?_⟩, ⟨?_, ?_, hfl, ?_, ?_⟩, ?_⟩
  · intro k q hq
    match k, hq with
    | 0, hq => cases hq; exact hI
    | 1, hq => cases hq; exact hJ
    | 2, hq => cases hq; exact ⟨fun n z => ⟨fun k h => (by cases h), kP, p3, comp, p4⟩, kP, comp, p3, p4, p1, p5⟩
    | k + 3, hq => simp [ty_s] at hq
  · intro i q hq
    have hi : i < 24 := (List.getElem?_eq_some_iff.mp hq).1
    have hg : js_k.getD i ("", 0, 0) = q := by rw [List.getD_eq_getElem?_getD, hq]; rfl
    have h1 := nw_sr i hi
    have h2 := nw_eq i hi
    have h3 : ∀ i, i < 24 → (js_k.getD i ("", 0, 0)).2.2 < 17 := by decide
    have h4 := h3 i hi
    rw [hg] at h1 h2 h4
    refine vk_R.of (A := #[Value.ref b]) (hts _ h1) ?_
    show _ = some (Value.ref ((fun r => if r = 31 then b else adK (r - 1)) (q.2.2 + 1)))
    rw [hKe _ h4]
    have h5 := hev _ h4
    rcases h2 with h2 | h2
    · exact va_eqR (hn _ h2) h5
    · rw [h2] at h5
      exact h5
  · exact vk_S.as hvS hKe hVe
  · exact vx_Zqof (hts _ nt_l1) (hts _ nt_i1) (hn _ nn_z1) hA
  · exact vx_Zqof (hts _ nt_l2) (hts _ nt_i1) (hn _ nn_z2) hA
  · exact va_Zof (hts _ nt_l3) (hts _ nt_i3) (va_eqi (hn _ nn_z3)) hA
  · exact hz
  · refine ⟨?_, va_AO.of (hts _ nt_ao), va_Nw.of rfl (hts _ nt_xi), va_Nw.of rfl (hts _ nt_xn), va_Nc.of (hn _ nn_nc), va_Nw.of rfl (hts _ nt_cl), fun x hx => va_Nw.of rfl (hts _ (nw_dc x hx))⟩
    intro i q hq
    have hi : i < ns_L.length := (List.getElem?_eq_some_iff.mp hq).1
    have hg : ns_L.getD i ("", 0, ⟨"", "", ""⟩, "") = q := by rw [List.getD_eq_getElem?_getD, hq]; rfl
    have h1 := nw_ns i hi
    rw [hg] at h1
    exact va_Nw.of rfl (hts _ h1)
