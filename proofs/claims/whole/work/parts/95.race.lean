/-! ===== findRaces() ===== -/
section
variable {g h : AH} {K K0 : Nat → Nat → Int32} {te ow : Nat → Nat} {na nt sz oc co pr goal tn : Nat} {kd : Nat → Int32} {T E : Int64}
theorem zb {k : Nat} (hk : k < 64) : lg_cmp (us_j T (nI k) &&& (1 : Int64)) (0 : Int64) = 0 ↔ fd T k 1 = 0 := by
  have e : us_j T (nI k) &&& (1 : Int64) = lN (fd T k 1) := by
    have hb : (us_j T (nI k) &&& (1 : Int64)).toBitVec.toNat = fd T k 1 := by
      show ((us_j T (nI k)).toBitVec &&& (1 : Int64).toBitVec).toNat = _
      rw [BitVec.toNat_and, us_toNat (by omega), show (1 : Int64).toBitVec.toNat = 2 ^ 1 - 1 from by decide, Nat.and_two_pow_sub_one_eq_mod]
      rfl
    apply Int64.toBitVec_inj.mp
    apply BitVec.eq_of_toNat_eq
    rw [hb]
    show _ = (BitVec.ofNat 64 (fd T k 1)).toNat
    have := fd_lt (T := T) (k := k) (w := 1)
    rw [BitVec.toNat_ofNat]
    omega
  rw [e]
  obtain h0 | h0 := fd_b (T := T) (k := k)
  · rw [h0]; exact ⟨fun _ => rfl, fun _ => by decide⟩
  · rw [h0]; exact ⟨fun h => absurd h (by decide), fun h => by omega⟩
def rcnd (K : Nat → Nat → Int32) (kd : Nat → Int32) (T E : Int64) (i j : Nat) : Prop := d_do T i = 1 ∧ d_do T j = 1 ∧ m_mr K kd i j = true ∧ ¬ d_ea E j i = 1 ∧ ¬ d_ea E i j = 1
theorem two_b {a i j : Nat} (ha : a < 256) (hi : i < 8) (hj : j < 8) : (((nI a >>> (nI i &&& 31)) &&& (nI a >>> (nI j &&& 31))) &&& (1 : Int32)) = 0 ↔ ¬ (a.testBit i = true ∧ a.testBit j = true) := by
  have d1 : a / 2 ^ i ≤ a := Nat.div_le_self _ _
  have d2 : a / 2 ^ j ≤ a := Nat.div_le_self _ _
  rw [pk_shrN (by omega) _ i (sh_32 i (by omega)), pk_shrN (by omega) _ j (sh_32 j (by omega)), nI_and (by omega) (by omega)]
  have d3 : a / 2 ^ i &&& a / 2 ^ j ≤ a / 2 ^ i := Nat.and_le_left
  rw [pk_andN (by omega) 1 (by decide), show (0 : Int32) = nI 0 from rfl, nI_eq (by omega) (by omega)]
  have e : (a / 2 ^ i &&& a / 2 ^ j).testBit 0 = (a.testBit i && a.testBit j) := by
    rw [Nat.testBit_and, Nat.testBit_div_two_pow, Nat.testBit_div_two_pow, Nat.zero_add, Nat.zero_add]
  rw [Nat.testBit_zero] at e
  constructor
  · intro h0 ⟨c1, c2⟩
    rw [c1, c2] at e
    have := of_decide_eq_true e
    omega
  · intro hn
    have : ¬ (a.testBit i && a.testBit j) = true := fun hh => hn (by rw [Bool.and_eq_true] at hh; exact hh)
    rw [← e] at this
    have h1 : ¬ (a / 2 ^ i &&& a / 2 ^ j) % 2 = 1 := fun hh => this (decide_eq_true hh)
    omega
theorem rc1_b {i j k : Nat} (hi : i < 8) (hj : j < 8) (hk : k < 64) (x : Int64) : fd (m_rc1 K kd (m_do T) E i j x) k 1 = 1 ↔ fd x k 1 = 1 ∨ (k = 8 * i + j ∧ rcnd K kd T E i j) := by
  have hf := fd_lt (T := T) (k := 47) (w := 8)
  have hbit : ∀ i, i < 8 → ((fd T 47 8).testBit i = true ↔ d_do T i = 1) := fun i hi => fd_1 hi
  unfold m_rc1 rcnd
  rw [q_do, show (8 : Int32) * nI j + nI i = nI (8 * j + i) from by rw [show (8 : Int32) = nI 8 from rfl, pk_mul, nI_add], show (8 : Int32) * nI i + nI j = nI (8 * i + j) from by rw [show (8 : Int32) = nI 8 from rfl, pk_mul, nI_add]]
  have no : ∀ P : Prop, ¬ P → (fd x k 1 = 1 ↔ fd x k 1 = 1 ∨ (k = 8 * i + j ∧ P)) := fun P hP => ⟨Or.inl, fun e => e.elim id (fun e => absurd e.2 hP)⟩
  by_cases c1 : (fd T 47 8).testBit i = true ∧ (fd T 47 8).testBit j = true
  · rw [if_neg (fun e => (two_b hf hi hj).mp e c1)]
    cases c2 : m_mr K kd i j with
    | false =>
      rw [if_pos rfl]
      exact no _ (fun e => Bool.noConfusion e.2.2.1)
    | true =>
      rw [if_neg (show ¬ true = false by decide)]
      have zz : ∀ a, fd E a 1 = 0 ↔ ¬ fd E a 1 = 1 := fun a => by obtain e | e := fd_b (T := E) (k := a) <;> omega
      by_cases c3 : fd E (8 * j + i) 1 = 0
      · rw [if_pos ((zb (by omega)).mpr c3)]
        by_cases c4 : fd E (8 * i + j) 1 = 0
        · rw [if_pos ((zb (by omega)).mpr c4)]
          by_cases ek : k = 8 * i + j
          · subst ek
            rw [or_b1 (by omega)]
            exact ⟨fun _ => Or.inr ⟨rfl, (hbit i hi).mp c1.1, (hbit j hj).mp c1.2, rfl, (zz _).mp c3, (zz _).mp c4⟩, fun _ => rfl⟩
          · rw [fd_or_ne (w := 1) (by decide) (by omega) (by omega)]
            exact ⟨Or.inl, fun e => e.elim id (fun e => absurd e.1 ek)⟩
        · rw [if_neg (fun e => c4 ((zb (by omega)).mp e))]
          exact no _ (fun e => c4 ((zz _).mpr e.2.2.2.2))
      · rw [if_neg (fun e => c3 ((zb (by omega)).mp e))]
        exact no _ (fun e => c3 ((zz _).mpr e.2.2.2.1))
  · rw [if_pos ((two_b hf hi hj).mpr c1)]
    exact no _ (fun e => c1 ⟨(hbit i hi).mpr e.1, (hbit j hj).mpr e.2.1⟩)
theorem ri_b {j k : Nat} (hj : j < 8) (hk : k < 64) : ∀ (n : Nat), n ≤ j → ∀ x, fd (m_ri K kd (m_do T) E j n (j - n) x) k 1 = 1 ↔ fd x k 1 = 1 ∨ ∃ i, j - n ≤ i ∧ i < j ∧ k = 8 * i + j ∧ rcnd K kd T E i j := by
  intro n
  induction n with
  | zero => intro _ x; exact ⟨Or.inl, fun e => e.elim id (fun ⟨i, h1, h2, _⟩ => by omega)⟩
  | succ n ih =>
    intro hn x
    unfold m_ri
    rw [show j - (n + 1) + 1 = j - n by omega, ih (by omega), rc1_b (by omega) hj hk]
    constructor
    · rintro ((e | e) | ⟨i, h1, h2, h3⟩)
      · exact Or.inl e
      · exact Or.inr ⟨j - (n + 1), Nat.le_refl _, by omega, e⟩
      · exact Or.inr ⟨i, by omega, h2, h3⟩
    · rintro (e | ⟨i, h1, h2, h3⟩)
      · exact Or.inl (Or.inl e)
      · by_cases ei : i = j - (n + 1)
        · subst ei; exact Or.inl (Or.inr h3)
        · exact Or.inr ⟨i, by omega, h2, h3⟩
theorem rj_b {k : Nat} (hk : k < 64) : ∀ (n : Nat), n ≤ 7 → ∀ x, fd (m_rj K kd (m_do T) E n (8 - n) x) k 1 = 1 ↔ fd x k 1 = 1 ∨ ∃ i j, 8 - n ≤ j ∧ j < 8 ∧ i < j ∧ k = 8 * i + j ∧ rcnd K kd T E i j := by
  intro n
  induction n with
  | zero => intro _ x; exact ⟨Or.inl, fun e => e.elim id (fun ⟨i, j, h1, h2, _⟩ => by omega)⟩
  | succ n ih =>
    intro hn x
    unfold m_rj
    have r := ri_b (K := K) (kd := kd) (T := T) (E := E) (j := 8 - (n + 1)) (k := k) (by omega) hk (8 - (n + 1)) (Nat.le_refl _) x
    rw [Nat.sub_self] at r
    rw [show 8 - (n + 1) + 1 = 8 - n by omega, ih (by omega), r]
    constructor
    · rintro ((e | ⟨i, h1, h2, h3⟩) | ⟨i, j, h1, h2, h3⟩)
      · exact Or.inl e
      · exact Or.inr ⟨i, 8 - (n + 1), Nat.le_refl _, by omega, h2, h3⟩
      · exact Or.inr ⟨i, j, by omega, h2, h3⟩
    · rintro (e | ⟨i, j, h1, h2, h3, h4⟩)
      · exact Or.inl (Or.inl e)
      · by_cases ej : j = 8 - (n + 1)
        · subst ej; exact Or.inl (Or.inr ⟨i, Nat.zero_le _, h3, h4⟩)
        · exact Or.inr ⟨i, j, by omega, h2, h3, h4⟩
theorem fold_R {k : Nat} (hk : k < 64) : ∀ (l : List KY) (a : Int64), fd (l.foldl (fun a x => fnR K kd a x 0 (fun _ => 0)) a) k 1 = 1 ↔ fd a k 1 = 1 ∨ ∃ y, y ∈ l ∧ ∃ i j, j < 8 ∧ i < j ∧ k = 8 * i + j ∧ rcnd K kd y.1 y.2.2 i j := by
  intro l
  induction l with
  | nil => intro a; exact ⟨Or.inl, fun e => e.elim id (fun ⟨y, h, _⟩ => nomatch h)⟩
  | cons x l ih =>
    intro a
    show fd (l.foldl _ (fnR K kd a x 0 (fun _ => 0))) k 1 = 1 ↔ _
    rw [ih]
    have r := rj_b (K := K) (kd := kd) (T := x.1) (E := x.2.2) hk 7 (Nat.le_refl 7) a
    rw [show fnR K kd a x 0 (fun _ => 0) = m_rj K kd (m_do x.1) x.2.2 7 (8 - 7) a from rfl, r]
    constructor
    · rintro ((e | ⟨i, j, h1, h2, h3⟩) | ⟨y, h1, h2⟩)
      · exact Or.inl e
      · exact Or.inr ⟨x, List.mem_cons_self, i, j, h2, h3⟩
      · exact Or.inr ⟨y, List.mem_cons_of_mem _ h1, h2⟩
    · rintro (e | ⟨y, h1, i, j, h2, h3, h4, h5⟩)
      · exact Or.inl (Or.inl e)
      · obtain h1 | h1 := List.mem_cons.mp h1
        · subst h1; exact Or.inl (Or.inr ⟨i, j, by omega, h2, h3, h4, h5⟩)
        · exact Or.inr ⟨y, h1, i, j, h2, h3, h4, h5⟩
theorem r_races (Z : KW K0 te ow na nt sz) (H : HB h tn) (htn : tn + 2 < 2 ^ 30) (P : PB h pr co K0 kd) :
    ∃ R h2, f_X8_findRaces 74 pr h = some (R, h2) ∧ HB h2 (tn + 1) ∧ FQ h h2 pr ∧ hp_j h2 pr = hp_j h pr ∧ hp_i h2 74 6 = hp_i h 74 6 ∧ hp_i h2 98 = hp_i h 98 ∧
      ∀ k, k < 64 → (fd R k 1 = 1 ↔ ∃ i j, j < 8 ∧ i < j ∧ k = 8 * i + j ∧ m_mr K0 kd i j = true ∧ ∃ s, Ends (KP K0) (Vk kd) 0 s ∧ as_do s i ∧ as_do s j ∧ ¬ as_ea s j i ∧ ¬ as_ea s i j) := by
  have E7 := eq7_j (h := h) (k := 12) (v := 0)
  have H1 : HB (st_j h 74 12 0) tn := hb_7 E7 (fun k hk => by rw [stj_rr]) (by rw [stj_i]) H
  have P1 := pb_7 E7 H P
  obtain ⟨-, p74, p75, p95⟩ := pb_95 H P
  obtain ⟨w, w1, w2, w3⟩ := e_cok (g := st_j h 74 12 0) (k := 1) P1.1 P1.2.2.2.2.1 P1.2.2.2.2.2.1 P1.2.2.2.2.2.2.1
  obtain ⟨g, b1, b2, b3, b4, b5, b6, b7⟩ := e_bg8 (oc := 3) (goal := 3) (v := nI w) Z H1 P1 (by omega) (by omega)
  have kx : ∀ i, i ≤ 10 → KX K0 g (nI 3) (nI w) i = K0 i := fun i hi => by
    unfold KX
    rw [if_neg (by omega), if_neg (by omega), if_neg (by omega), if_neg (by omega)]
  have ZX := kw_cg kx Z
  have PX := kp_cg kx
  have hao : ao 3 = 0 := rfl
  have hkv : ∀ c, c < 6 → kv (KX K0 g (nI 3) (nI w)) c = Vk kd c := fun c hc => by
    rw [kv_w (by omega) (by omega)]
    unfold Vk
    cases hb : w.testBit c with
    | true => exact (decide_eq_true ((w3 c hc).mp hb)).symm
    | false => exact (decide_eq_false (fun e => by rw [(w3 c hc).mpr e] at hb; cases hb)).symm
  have eI : ∀ s, Ends (KP (KX K0 g (nI 3) (nI w))) (kv (KX K0 g (nI 3) (nI w))) (ao 3) s ↔ Ends (KP K0) (Vk kd) 0 s := fun s => by
    rw [PX, hao]
    exact ⟨ends_vol Z hkv, ends_vol Z (fun c hc => (hkv c hc).symm)⟩
  have emr : ∀ i j, m_mr (KX K0 g (nI 3) (nI w)) kd i j = m_mr K0 kd i j := fun i j => by
    unfold m_mr m_cel m_ent
    rw [kx 9 (by omega), kx 8 (by omega), kx 0 (by omega), kx 4 (by omega)]
  generalize hs1 : sT g (m_bg (KX K0 g (nI 3) (nI w)) nt 0 0) 0 0 = s1 at b1 b2 b4 b5 b6 b7
  have t1 := H.1.1
  obtain ⟨Mo, Ob⟩ := b2.2.2.2.1
  have j12 : hp_j s1 74 12 = 0 := by rw [b4.2.2.2.2.2.1 74 (by decide), stj_s]
  have G0 : GRa s1 pr Mo s1 0 := ⟨cg_0 b2 Ob, b5, rfl, j12, rfl, rfl⟩
  have rpr : hp_r s1 pr = hp_r h pr := by rw [b4.2.2.2.2.2.2.1 pr p74 p75, stj_rr]
  have r90 : hp_r s1 90 = hp_r h 90 := by rw [b4.2.2.2.2.2.2.1 90 (by decide) (by decide), stj_rr]
  have r95 : hp_r s1 95 = hp_r h 95 := by rw [b4.2.2.2.2.2.2.1 95 (by decide) (by decide), stj_rr]
  obtain ⟨k1, k2, k3, k4⟩ := P.2.2.2.2
  have kk := k1.2.2
  obtain ⟨L, S⟩ := H.2.2.1
  obtain ⟨Mh, Oh⟩ := H.2.2.2.1
  have x74 : hp_r h pr 1 ≠ 74 := fun e => by rw [e, t1.2.2] at kk; omega
  have x75 : hp_r h pr 1 ≠ 75 := fun e => by rw [e, H.2.1.1.2.2] at kk; omega
  have x90 : hp_r h pr 1 ≠ 90 := fun e => by rw [e, S.1.2.2] at kk; omega
  have x95 : hp_r h pr 1 ≠ 95 := fun e => by rw [e, Oh.1.2.2] at kk; omega
  have xpr : hp_r h pr 1 ≠ pr := fun e => by rw [e, P.1.2.2] at kk; omega
  have o1 : ok_o s1 (hp_r s1 pr 1) 100 := by rw [rpr]; exact ⟨k1.1, by rw [b4.1, stj_n]; exact k1.2.1, by rw [b4.2.2.1, stj_kk]; exact k1.2.2⟩
  have o2 : hp_l s1 (hp_r s1 pr 1) = 8 := by rw [rpr, b4.2.2.2.1, stj_l]; exact k2
  have o3 : hp_i s1 (hp_r s1 pr 1) = kd := by
    rw [rpr, b4.2.2.2.2.1 _ x74 x75 (fun e => k4 (Or.inl e)) (fun e => k4 (Or.inr (Or.inl e))) (fun e => k4 (Or.inr (Or.inr (Or.inl e)))) x90, stj_i]; exact k3
  have nsw : ¬ SW s1 pr (hp_r s1 pr 1) := by
    unfold SW S4
    rw [r90, r95, rpr]
    rintro (e | e | e | e | e | e | (e | e | e | e | e) | e)
    · exact x74 e
    · exact x75 e
    · exact x95 e
    · exact k4 (Or.inr (Or.inr (Or.inr (Or.inl e))))
    · exact k4 (Or.inr (Or.inr (Or.inr (Or.inr (Or.inl e)))))
    · exact xpr e
    · exact x90 e
    · rw [e, S.2.1.1.2.2] at kk; omega
    · rw [e, S.2.2.1.1.2.2] at kk; omega
    · rw [e, S.2.2.2.1.1.2.2] at kk; omega
    · exact k4 (Or.inr (Or.inr (Or.inr (Or.inr (Or.inr (Or.inl e))))))
    · exact k4 (Or.inr (Or.inr (Or.inr (Or.inr (Or.inr (Or.inr e))))))
  have B := vbm_R (M0 := Mo) (ow := ow) ZX b3 b2 o1 nsw o3 o2
  obtain ⟨h2, v1, v2⟩ := v_run ZX B G0 b7
  rw [cT_lv (fin := fnR (KX K0 g (nI 3) (nI w)) kd) (ad := fun a x => fnR (KX K0 g (nI 3) (nI w)) kd a x 0 (fun _ => 0)) (fun _ _ _ _ => rfl)] at v2
  obtain ⟨l1, l2⟩ := lv_ends (ow := ow) (goal := 3) ZX b3
  have fr := fun k hk => fold_R (K := KX K0 g (nI 3) (nI w)) (kd := kd) (k := k) hk (lv (KX K0 g (nI 3) (nI w)) nt 3 17 (m_bg (KX K0 g (nI 3) (nI w)) nt 0 0, 0, 0)) 0
  generalize hA : (lv (KX K0 g (nI 3) (nI w)) nt 3 17 (m_bg (KX K0 g (nI 3) (nI w)) nt 0 0, 0, 0)).foldl (fun a x => fnR (KX K0 g (nI 3) (nI w)) kd a x 0 (fun _ => 0)) 0 = A at v2 fr
  obtain ⟨c1, c2, c3, c4, c5, c6⟩ := v2
  obtain ⟨HB2, FQ2⟩ := hb_after H1 htn b4 b6 b2 c1
  have s2 := fs_sf b2 c1.1
  refine ⟨A, h2, ?_, HB2, fq_eq E7 p74 p95 FQ2, by rw [c3, b4.2.2.2.2.2.1 pr p75, stj_r p74], by rw [c5, b4.2.2.2.2.2.2.2.2 6 (by decide) (by decide), stj_i], by rw [c6, b4.2.2.2.2.1 98 (by decide) (by decide) (by decide) (by decide) (by decide) (by decide), stj_i], fun k hk => ?_⟩
  · unfold f_X8_findRaces b_X8_findRaces_0
    have v74 : ok_v (st_j h 74 12 0) 74 8 = some () := if_pos t1
    have sB := b2.2.1
    have v1' : f_X8_visit dp_ 74 (m_bg (KX K0 g (nI 3) (nI w)) nt 0 0) 0 0 (0 : Int32) s1 = some h2 := v1
    have Ms := b2.1
    have b1' : f_X8_begin 74 pr (3 : Int32) (nI w) (3 : Int32) (st_j h 74 12 0) = some s1 := b1
    have j0 : g_j s1 75 2 0 = some (m_bg (KX K0 g (nI 3) (nI w)) nt 0 0) := by
      have e : g_j s1 75 2 0 = some (hp_j s1 75 0) := if_pos Ms.1
      rw [e, ← hs1, sT_0]
    have j1 : g_j s1 75 2 1 = some 0 := by
      have e : g_j s1 75 2 1 = some (hp_j s1 75 1) := if_pos Ms.1
      rw [e, ← hs1, sT_1]
    have j2 : g_j s1 75 2 2 = some 0 := by
      have e : g_j s1 75 2 2 = some (hp_j s1 75 2) := if_pos Ms.1
      rw [e, ← hs1, sT_2]
    have jr : g_j h2 74 8 12 = some A := by
      have e : g_j h2 74 8 12 = some (hp_j h2 74 12) := if_pos s2.1
      rw [e, c4]
    rw [show p_j h 74 8 12 0 = some (st_j h 74 12 0) from if_pos t1, Option.bind_some, show ok_v (st_j h 74 12 0) pr 5 = some () from if_pos P1.1, Option.bind_some, w2, Option.bind_some, v74, Option.bind_some, b1', Option.bind_some, sf_r0 sB, Option.bind_some, j0, Option.bind_some, Option.bind_some, j1, Option.bind_some, Option.bind_some, j2, Option.bind_some, sf_v sB, Option.bind_some, v1', Option.bind_some, jr, Option.bind_some]
  · rw [fr k hk, fd_0]
    constructor
    · rintro (e | ⟨y, y1, i, j, h1, h2', h3, q1, q2, q3, q4, q5⟩)
      · omega
      · obtain ⟨s, e1, e2, e3⟩ := l1 y y1
        have D := e2.2.2.2.2
        have D9 := (e2.2.2.2.2.2.2.2.2 (by omega)).2.2
        exact ⟨i, j, h1, h2', h3, by rw [← emr]; exact q3, s, (eI s).mp e1, (D.1 i (by omega)).mp q1, (D.1 j h1).mp q2, fun e => q4 ((D9 j i h1 (by omega)).mpr e), fun e => q5 ((D9 i j (by omega) h1).mpr e)⟩
    · rintro ⟨i, j, h1, h2', h3, q3, s, e1, q1, q2, q4, q5⟩
      obtain ⟨y, y1, y2, y3⟩ := l2 s ((eI s).mpr e1)
      have D := y2.2.2.2.2
      have D9 := (y2.2.2.2.2.2.2.2.2 (by omega)).2.2
      exact Or.inr ⟨y, y1, i, j, h1, h2', h3, (D.1 i (by omega)).mpr q1, (D.1 j h1).mpr q2, by rw [emr]; exact q3, fun e => q4 ((D9 j i h1 (by omega)).mp e), fun e => q5 ((D9 i j (by omega) h1).mp e)⟩
end
