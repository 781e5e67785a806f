/-! ===== fence: the reference ===== -/
section
variable {h h' h2 H : AH} {g g' : SG} {m p pr o : Nat} {d : PD} {a b t : Nat} {a1 b1 : Int32} {A : Nat → Nat → Int32}
theorem gr_all (G : GR h g) (hq : ∀ q, q < 8 → QK A h q) (V : RVA A g) : GR (sA h A) g := by
  obtain ⟨a, b, c⟩ := G
  exact ⟨a, V, fun q hq' => rp_fr (hq q hq') (c q hq')⟩
theorem gr_f24 (G : GR H g) (F : FRi (AFl 24) H h') (h27 : hp_i h' 102 27 = 0) : GR h' g ∧ RLF H h' ∧ (∀ k, k ≠ 26 → k ≠ 27 → k ≠ 28 → k ≠ 31 → hp_i h' 102 k = hp_i H 102 k) ∧ (∀ k, k < 49152 → hp_i h' 110 k = hp_i H 110 k) ∧ ∀ k, k < 24 → hp_i h' 111 k = hp_i H 111 k := by
  have e := fri_sA F
  have K := F.2.2.2.2.2.2
  have kk : ∀ r k, r ≠ 109 → ¬ (r = 110 ∧ 2048 * 24 ≤ k ∧ k < 2048 * 24 + 2048) → ¬ (r = 111 ∧ k = 24) → ¬ (r = 102 ∧ (k = 26 ∨ k = 27 ∨ k = 28 ∨ k = 31)) → hp_i h' r k = hp_i H r k := fun r k h1 h2 h3 h4 => K r k (fun z => by
    rcases z with z | (z | z) | z
    · exact h1 z
    · exact h2 z
    · exact h3 z
    · exact h4 z)
  refine ⟨?_, ⟨F.1, F.2.1, F.2.2.1, F.2.2.2.1, F.2.2.2.2.1, F.2.2.2.2.2.1, fun r k hr => kk r k (by omega) (by omega) (by omega) (by omega)⟩, fun k h1 h2 h3 h4 => kk 102 k (by omega) (by omega) (by omega) (by omega), fun k hk => kk _ _ (by omega) (by omega) (by omega) (by omega), fun k hk => kk _ _ (by omega) (by omega) (by omega) (by omega)⟩
  rw [e]
  refine gr_all G (fun q hq => ⟨fun k _ => kk _ _ (by omega) (by omega) (by omega) (by omega), fun o' ho' => kk _ _ (by omega) (by omega) (by omega) (by omega), fun o' k ho' hk => kk _ _ (by omega) (by omega) (by omega) (by omega), kk _ _ (by omega) (by omega) (by omega) (by omega), fun k _ => kk _ _ (by omega) (by omega) (by omega) (by omega), kk _ _ (by omega) (by omega) (by omega) (by omega), fun k _ => kk _ _ (by omega) (by omega) (by omega) (by omega)⟩) ?_
  obtain ⟨-, ⟨⟨a1, a2⟩, ⟨b1, b2⟩, ⟨c1, c2⟩, dd, ⟨e1, e2⟩, f, l, l1, l2⟩, -⟩ := G
  have uu : ∀ r k, (r = 103 ∨ r = 104 ∨ r = 112 ∨ r = 113) ∨ (r = 102 ∧ k ≠ 26 ∧ k ≠ 27 ∧ k ≠ 28 ∧ k ≠ 31) → hp_i h' r k = hp_i H r k := fun r k hr => kk r k (by omega) (by omega) (by omega) (by omega)
  exact ⟨⟨(uu _ _ (by omega)).trans a1, fun k hk => (uu _ _ (by omega)).trans (a2 k hk)⟩, ⟨(uu _ _ (by omega)).trans b1, (uu _ _ (by omega)).trans b2⟩, ⟨(uu _ _ (by omega)).trans c1, fun k hk => (uu _ _ (by omega)).trans (c2 k hk)⟩, fun l hl => (uu _ _ (by omega)).trans (dd l hl), ⟨(uu _ _ (by omega)).trans e1, fun k hk => (uu _ _ (by omega)).trans (e2 k hk)⟩, h27, l, l1, (uu _ _ (by omega)).trans l2⟩
theorem pr_S {S : Nat} (R : RPl H p d) (P : PDk d) (hS : S < 64) (hz : ∀ c, c < 6 → S.testBit c = true → pK d c = 0) : PR (fun k => hp_i H 106 (900 * p + k)) (pR d) (teE (pE d)) (owN (pO d)) (rxl (pE d)) (pA d).length (pS d).length (pE d).length (Vc (pK d) S) (nI S) := by
  refine pr_of P.1 P.2.1 R.1 (fun c hc => ?_) (fun e c he ho hc hb => ?_)
  · show Vc (pK d) S c = true ↔ hp_i H 106 (900 * p + c) = 1 ∨ _
    rw [R.2 c hc, (bt6 S hS c hc).1]
    unfold Vc
    rw [Bool.or_eq_true, decide_eq_true_iff]
  · have k2 := vk_hf P e c he ho hc hb
    unfold Vc
    rw [k2, Bool.or_eq_false_iff]
    refine ⟨by decide, ?_⟩
    cases hb' : S.testBit c
    · rfl
    · rw [hz c hc hb'] at k2
      exact absurd k2 (by decide)
/-- the reference compares two lists -/
theorem r_lq {li : Nat} {M M0 : List Int32} (Z : RZ H) (hli : li < 24) (L : LI H 24 M) (L0 : LI H li M0) (hl : M.length = M0.length) : ∀ j f, j ≤ M0.length → j < f → ((∀ i, M0.length - j ≤ i → i < M0.length → M.getD i 0 = M0.getD i 0) → l_X11_isSequential_40 f 102 (nI li) (1 : Int32) (nI (M0.length - j)) H = some (1, H)) ∧ ((¬ ∀ i, M0.length - j ≤ i → i < M0.length → M.getD i 0 = M0.getD i 0) → l_X11_isSequential_40 f 102 (nI li) (1 : Int32) (nI (M0.length - j)) H = some (0, H)) := by
  obtain ⟨m1, m2, m3, m4⟩ := L
  obtain ⟨l1, l2, l3, l4⟩ := L0
  have g30 : g_r H 102 11 30 = some 111 := rz_r (f := 30) (r := 111) (l := 25) Z (by decide)
  have l30 : l_i H 111 (nI li) = some (nI M0.length) := by rw [rz_l (f := 30) (r := 111) (l := 25) Z (by decide) (by omega) (by omega), l1]
  have g29 : g_r H 102 11 29 = some 110 := rz_r (f := 29) (r := 110) (l := 51200) Z (by decide)
  intro j
  induction j with
  | zero =>
    intro f _ hf
    obtain ⟨f, rfl⟩ : ∃ f', f = f' + 1 := ⟨f - 1, by omega⟩
    refine ⟨fun _ => ?_, fun z => absurd (fun i h1 h2 => by omega) z⟩
    show b_X11_isSequential_40 (l_X11_isSequential_40 f) 102 (nI li) 1 (nI M0.length) H = _
    unfold b_X11_isSequential_40
    rw [g30, Option.bind_some, l30, Option.bind_some, if_pos (nI_le (Nat.le_refl _) (by omega))]
    exact ok_z_1
  | succ j ih =>
    intro f hj hf
    obtain ⟨f, rfl⟩ : ∃ f', f = f' + 1 := ⟨f - 1, by omega⟩
    have ej : M0.length - j = M0.length - (j + 1) + 1 := by omega
    obtain ⟨i1, i2⟩ := ih f (by omega) (by omega)
    rw [ej] at i1 i2
    generalize hi : M0.length - (j + 1) = i at *
    have hin : i < M0.length := by omega
    have st : l_X11_isSequential_40 (f + 1) 102 (nI li) (1 : Int32) (nI i) H = if M.getD i 0 = M0.getD i 0 then l_X11_isSequential_40 f 102 (nI li) (1 : Int32) (nI (i + 1)) H else l_X11_isSequential_40 f 102 (nI li) (0 : Int32) (nI (i + 1)) H := by
      show b_X11_isSequential_40 (l_X11_isSequential_40 f) 102 (nI li) 1 (nI i) H = _
      unfold b_X11_isSequential_40
      rw [g30, Option.bind_some, l30, Option.bind_some, if_neg (nI_ge hin (by omega))]
      unfold b_X11_isSequential_51
      rw [if_neg n10]
      unfold b_X11_isSequential_56 b_X11_isSequential_83 b_X11_isSequential_87 b_X11_isSequential_88
      have e1 : hp_i H 110 (49152 + i) = M.getD i 0 := m2 i (by omega)
      have e2 : hp_i H 110 (2048 * li + i) = M0.getD i 0 := l2 i hin
      rw [g29, Option.bind_some, ad, rz_l (f := 29) (r := 110) (l := 51200) Z (by decide) (by omega) (by omega), Option.bind_some, Option.bind_some, mu, nI_add, rz_l (f := 29) (r := 110) (l := 51200) Z (by decide) (by omega) (by omega), Option.bind_some, e1, e2, da]
    have z0 : ∀ f k, f ≠ 0 → l_X11_isSequential_40 f 102 (nI li) (0 : Int32) k H = some (0, H) := fun f k hf => by
      obtain ⟨f, rfl⟩ : ∃ f', f = f' + 1 := ⟨f - 1, by omega⟩
      show b_X11_isSequential_40 (l_X11_isSequential_40 f) 102 (nI li) 0 k H = _
      unfold b_X11_isSequential_40
      rw [g30, Option.bind_some, l30, Option.bind_some]
      by_cases c : nI M0.length ≤ k
      · rw [if_pos c]; exact ok_z_0
      · rw [if_neg c]
        unfold b_X11_isSequential_51
        rw [if_pos rfl]; exact ok_z_0
    by_cases c : M.getD i 0 = M0.getD i 0
    · rw [if_pos c] at st
      have eq : (∀ k, i ≤ k → k < M0.length → M.getD k 0 = M0.getD k 0) ↔ ∀ k, i + 1 ≤ k → k < M0.length → M.getD k 0 = M0.getD k 0 := ⟨fun z k h1 h2 => z k (by omega) h2, fun z k h1 h2 => by
        by_cases e : k = i
        · rw [e]; exact c
        · exact z k (by omega) h2⟩
      exact ⟨fun z => st.trans (i1 (eq.mp z)), fun z => st.trans (i2 (fun y => z (eq.mpr y)))⟩
    · rw [if_neg c] at st
      exact ⟨fun z => absurd (z i (Nat.le_refl _) hin) c, fun _ => st.trans (z0 f _ (by omega))⟩
theorem li_ext {M M0 : List Int32} (hl : M.length = M0.length) (e : ∀ i, i < M0.length → M.getD i 0 = M0.getD i 0) : M = M0 := by
  apply List.ext_getElem hl
  intro i h1 h2
  have := e i h2
  rw [List.getD_eq_getElem?_getD, List.getD_eq_getElem?_getD, List.getElem?_eq_getElem h1, List.getElem?_eq_getElem h2] at this
  exact this
theorem r_isq {S : Nat} (G : GR H g) (hp : p < 8) (hd : sD g p = some d) (h24 : hp_i H 102 24 = nI p) (t0 : hp_i H 102 0 = 0) (ho : o = 1 ∨ o = 2) (hS : S < 64) (hz : ∀ c, c < 6 → S.testBit c = true → pK d c = 0) : ∃ v H', f_X11_isSequential 102 (nI o) (nI S) H = some (v, H') ∧ GR H' g ∧ RLF H H' ∧ hp_i H' 102 24 = nI p ∧ hp_i H' 102 0 = 0 ∧ (v = 0 ∨ v = 1) ∧ (v = 1 ↔ gS d o S) := by
  obtain ⟨H1, M0, x1, G1, L1, x4, x5, x6, x7⟩ := r_kn (o := 0) G hp hd (by omega) h24 t0
  obtain ⟨RP, RK, PK⟩ := r_dd G1 hp hd
  obtain ⟨H2, M, y1, y2, y3, y4, y5, y6⟩ := x_fills (li := 24) (o := o) (s := p) (pr_S RP PK hS hz) G1.1 (by omega) (by omega) hp x4 (fun k _ => rfl)
  obtain ⟨G2, L2, k2, k110, k111⟩ := gr_f24 G1 y2 y5
  have e9 := en9 G1 hp hd (o := 0) (by omega) x4
  have hnt : (pS d).length ≤ 4 := PK.1.2.2.1.2.2.1
  have hs : ∀ s, ast s (pS d).length < 16 := fun s => by
    have := ast_lt s (pS d).length
    have := Nat.pow_le_pow_right (n := 2) (by omega) hnt
    omega
  have LI0 : LI H2 (3 * p + 0) M0 := by
    obtain ⟨m1, m2, m3, m4⟩ := x6
    refine ⟨(k111 _ (by omega)).trans m1, fun i hi => ?_, m3, m4⟩
    exact (k110 _ (by omega)).trans (m2 i hi)
  have cmp : ∀ s u, Ends (KP (pR d)) (Vc (pK d) S) o s → EN d 0 u → (oN (owN (pO d)) (pS d).length s = oN (owN (pO d)) (pS d).length u ↔ oR (owN (pO d)) (pS d).length s = oR (owN (pO d)) (pS d).length u) := fun s u es eu => by
    have hv := y6 s es
    have hw := e9 u eu
    obtain ⟨-, k⟩ := n16_dec hv hw (hs s) (hs u)
    have b1 : n16 (av (owN (pO d)) (pS d).length s) (ast s (pS d).length) < 2 ^ 31 ∧ nd10 (av (owN (pO d)) (pS d).length s) (ast s (pS d).length) < 2 ^ 31 := by
      have h0 := hv 0 (by omega); have h1 := hv 1 (by omega); have h2 := hv 2 (by omega); have h3 := hv 3 (by omega); have h4 := hv 4 (by omega)
      have := hs s
      unfold n16 nd10
      omega
    have b2 : n16 (av (owN (pO d)) (pS d).length u) (ast u (pS d).length) < 2 ^ 31 ∧ nd10 (av (owN (pO d)) (pS d).length u) (ast u (pS d).length) < 2 ^ 31 := by
      have h0 := hw 0 (by omega); have h1 := hw 1 (by omega); have h2 := hw 2 (by omega); have h3 := hw 3 (by omega); have h4 := hw 4 (by omega)
      have := hs u
      unfold n16 nd10
      omega
    unfold oN oR
    exact (nI_eq b1.1 b2.1).trans (k.trans (nI_eq b1.2 b2.2).symm)
  have W := kp_wf (pdk_kw PK)
  have eqv : M = M0 ↔ gS d o S := by
    constructor
    · intro e s es
      have : oR (owN (pO d)) (pS d).length s ∈ M := (y4 _).mpr ⟨s, es, rfl⟩
      rw [e] at this
      obtain ⟨u, u1, u2⟩ := (x7 _).mp this
      exact ⟨u, u1, (cmp s u es u1).mpr u2⟩
    · intro gs
      refine srt_eq _ _ y3.2.2.1 LI0.2.2.1 (fun z => ?_)
      rw [y4 z, x7 z]
      constructor
      · rintro ⟨s, s1, s2⟩
        obtain ⟨u, u1, u2⟩ := gs s s1
        exact ⟨u, u1, by rw [s2]; exact (cmp s u s1 u1).mp u2⟩
      · rintro ⟨u, ⟨q, u1, u2⟩, u3⟩
        obtain ⟨q', z', w1, w2, w3⟩ := xs_any (V' := Vc (pK d) S) W ho u1 u2
        refine ⟨z', ⟨q', w1, w2⟩, ?_⟩
        rw [u3]
        unfold oR
        rw [av_th w3, ast_th w3]
  have fin : ∀ v, f_X11_isSequential 102 (nI o) (nI S) H = some (v, H2) → (v = 0 ∨ v = 1) → (v = 1 ↔ M = M0) → ∃ v H', f_X11_isSequential 102 (nI o) (nI S) H = some (v, H') ∧ GR H' g ∧ RLF H H' ∧ hp_i H' 102 24 = nI p ∧ hp_i H' 102 0 = 0 ∧ (v = 0 ∨ v = 1) ∧ (v = 1 ↔ gS d o S) := fun v e1 e2 e3 => ⟨v, H2, e1, G2, rlf_tr L1 L2, (k2 24 (by omega) (by omega) (by omega) (by omega)).trans x4, (k2 0 (by omega) (by omega) (by omega) (by omega)).trans x5, e2, e3.trans eqv⟩
  have ml := y3.2.2.2
  have m0l := LI0.2.2.2
  have e0 : f_X11_isSequential 102 (nI o) (nI S) H = if nI M.length = nI M0.length then b_X11_isSequential_30 102 (nI (3 * p + 0)) H2 else b_X11_isSequential_34 102 (nI (3 * p + 0)) H2 := by
    unfold f_X11_isSequential b_X11_isSequential_0
    rw [rz_v G.1, Option.bind_some, show f_X11_known 102 (0 : Int32) H = _ from x1, Option.bind_some, rz_v G1.1, Option.bind_some, show f_X11_fills 102 (24 : Int32) (nI o) (nI S) H1 = _ from y1, Option.bind_some, rz_r (f := 30) (r := 111) (l := 25) G2.1 (by decide), Option.bind_some, show l_i H2 111 (24 : Int32) = some (hp_i H2 111 24) from rz_l (f := 30) (r := 111) (l := 25) (k := 24) G2.1 (by decide) (by omega) (by omega), Option.bind_some, Option.bind_some, rz_l (f := 30) (r := 111) (l := 25) G2.1 (by decide) (by omega) (by omega), Option.bind_some, y3.1, LI0.1]
  by_cases c : M.length = M0.length
  · obtain ⟨q1, q2⟩ := r_lq (li := 3 * p + 0) G2.1 (by omega) y3 LI0 c M0.length fu_ (Nat.le_refl _) (by unfold fu_; omega)
    rw [if_pos (by rw [c])] at e0
    unfold b_X11_isSequential_30 b_X11_isSequential_35 at e0
    rw [Nat.sub_self] at q1 q2
    by_cases al : ∀ i, 0 ≤ i → i < M0.length → M.getD i 0 = M0.getD i 0
    · exact fin 1 (e0.trans (q1 al)) (Or.inr rfl) ⟨fun _ => li_ext c (fun i hi => al i (Nat.zero_le _) hi), fun _ => rfl⟩
    · exact fin 0 (e0.trans (q2 al)) (Or.inl rfl) ⟨fun z => absurd z (by decide), fun z => absurd (fun i _ _ => by rw [z]) al⟩
  · rw [if_neg (fun z => c ((nI_eq (by omega) (by omega)).mp z))] at e0
    refine fin 0 (e0.trans ?_) (Or.inl rfl) ⟨fun z => absurd z (by decide), fun z => absurd (by rw [z]) c⟩
    unfold b_X11_isSequential_34 b_X11_isSequential_35
    obtain ⟨f, hf⟩ : ∃ f, fu_ = f + 1 := ⟨199999, rfl⟩
    rw [hf]
    show b_X11_isSequential_40 (l_X11_isSequential_40 f) 102 (nI (3 * p + 0)) 0 (0 : Int32) H2 = _
    unfold b_X11_isSequential_40
    rw [rz_r (f := 30) (r := 111) (l := 25) G2.1 (by decide), Option.bind_some, rz_l (f := 30) (r := 111) (l := 25) G2.1 (by decide) (by omega) (by omega), Option.bind_some]
    by_cases c' : hp_i H2 111 (3 * p + 0) ≤ (0 : Int32)
    · rw [if_pos c']; exact ok_z_0
    · rw [if_neg c']
      unfold b_X11_isSequential_51
      rw [if_pos rfl]; exact ok_z_0
/-- the reference's search for a fence -/
theorem r_fnc {w : Nat} (G : GR H g) (hp : p < 8) (hd : sD g p = some d) (h24 : hp_i H 102 24 = nI p) (t0 : hp_i H 102 0 = 0) (ho : o = 1 ∨ o = 2) (hw : w < 64) (w3 : ∀ c, c < 6 → (w.testBit c = true ↔ pK d c = 0)) : ∃ v H', l_X11_fence_95 fu_ 102 (nI o) (nI w) (0 : Int32) H = some (v, H') ∧ GR H' g ∧ RLF H H' ∧ hp_i H' 102 0 = 0 ∧ FND (fun s => sbs s w ∧ gS d o s) v := by
  have key := fout_l (O := fun f n h' => l_X11_fence_95 f 102 (nI o) (nI w) (nI n) h') (L := fun f0 n f s h' => l_X11_fence_105 (l_X11_fence_95 f0) f 102 (nI o) (nI w) (nI n) (nI s) h')
    (I := fun _ _ h' => GR h' g ∧ RLF H h' ∧ hp_i h' 102 24 = nI p ∧ hp_i h' 102 0 = 0) (Q := fun s => sbs s w ∧ gS d o s) (N := 7)
    (fun f h' => ?_) (fun f n h' hn => ?_) (fun n h' hn z => z) (fun f0 n f h' hn => ?_) (fun f0 n f s h' hn hs z => ?_) 7 fu_ H (Nat.le_refl _) (by unfold fu_; omega) ⟨G, rlf_rf, h24, t0⟩
  · obtain ⟨H2, v, x1, ⟨n, s, n1, s1, i1, i2, i3, i4⟩, x3⟩ := key
    refine ⟨v, H2, x1, i1, i2, i4, ?_⟩
    rcases x3 with ⟨s, y1, y2, y3, y4, y5⟩ | ⟨y1, y2⟩
    · exact Or.inl ⟨s, y1, y3, fun s' h1 h2 => y4 s' h1 (by omega) h2, y5⟩
    · exact Or.inr ⟨fun s h1 h2 => y1 s h1 (by omega) (pc_63 s h1).1 h2, y2⟩
  · show b_X11_fence_95 (l_X11_fence_95 f) 102 (nI o) (nI w) (nI 7) h' = _
    unfold b_X11_fence_95
    rw [if_pos (show (6 : Int32) < nI 7 by decide)]; rfl
  · show b_X11_fence_95 (l_X11_fence_95 f) 102 (nI o) (nI w) (nI n) h' = _
    unfold b_X11_fence_95
    rw [if_neg (show ¬ (6 : Int32) < nI n from nI_nlt (a := 6) (by omega) (by omega))]; rfl
  · show b_X11_fence_105 (l_X11_fence_95 f0) (l_X11_fence_105 (l_X11_fence_95 f0) f) 102 (nI o) (nI w) (nI n) (nI 64) h' = l_X11_fence_95 f0 102 (nI o) (nI w) (nI (n + 1)) h'
    unfold b_X11_fence_105
    rw [if_pos (show (64 : Int32) ≤ nI 64 by decide)]
    unfold b_X11_fence_151
    rw [da]
  · obtain ⟨z1, z2, z3, z4⟩ := z
    have st : l_X11_fence_105 (l_X11_fence_95 f0) (f + 1) 102 (nI o) (nI w) (nI n) (nI s) h' = if nI (pc6 s) = nI n then (if (nI s &&& (nI w ^^^ (-1 : Int32))) = 0 then b_X11_fence_132 (l_X11_fence_95 f0) (l_X11_fence_105 (l_X11_fence_95 f0) f) 102 (nI o) (nI w) (nI n) (nI s) h' else l_X11_fence_105 (l_X11_fence_95 f0) f 102 (nI o) (nI w) (nI n) (nI (s + 1)) h') else l_X11_fence_105 (l_X11_fence_95 f0) f 102 (nI o) (nI w) (nI n) (nI (s + 1)) h' := by
      show b_X11_fence_105 (l_X11_fence_95 f0) (l_X11_fence_105 (l_X11_fence_95 f0) f) 102 (nI o) (nI w) (nI n) (nI s) h' = _
      unfold b_X11_fence_105
      rw [if_neg (show ¬ (64 : Int32) ≤ nI s from nI_ge (b := 64) (by omega) (by omega))]
      unfold b_X11_fence_112 b_X11_fence_122 b_X11_fence_145
      rw [bits_6 hs, Option.bind_some, da]
    by_cases cn' : pc6 s = n
    · rw [if_pos (by rw [cn'])] at st
      by_cases cs : (nI s &&& (nI w ^^^ (-1 : Int32))) = 0
      · rw [if_pos cs] at st
        have sb := (sb_iff hs hw).mp cs
        obtain ⟨v, H2, x1, x2, x3, x4, x5, x6, x7⟩ := r_isq (S := s) z1 hp hd z3 z4 ho hs (fun c hc e => (w3 c hc).mp (sb c hc e))
        have st2 : l_X11_fence_105 (l_X11_fence_95 f0) (f + 1) 102 (nI o) (nI w) (nI n) (nI s) h' = if v = 0 then l_X11_fence_105 (l_X11_fence_95 f0) f 102 (nI o) (nI w) (nI n) (nI (s + 1)) H2 else some (nI s, H2) := by
          rw [st]
          unfold b_X11_fence_132 b_X11_fence_145 b_X11_fence_142
          rw [rz_v z1.1, Option.bind_some, x1, Option.bind_some, da]
        refine ⟨H2, ⟨x2, rlf_tr z2 x3, x4, x5⟩, ?_⟩
        rcases x6 with y | y
        · rw [if_pos y] at st2
          refine Or.inr ⟨fun w => ?_, st2⟩
          have := x7.mpr w.2.2
          rw [y] at this
          exact absurd this (by decide)
        · rw [if_neg (by rw [y]; decide)] at st2
          exact Or.inl ⟨⟨cn', sb, x7.mp y⟩, st2⟩
      · rw [if_neg cs] at st
        exact ⟨h', ⟨z1, z2, z3, z4⟩, Or.inr ⟨fun y => cs ((sb_iff hs hw).mpr y.2.1), st⟩⟩
    · rw [if_neg (fun y => cn' ((nI_eq (by have := (pc_63 s hs).1; omega) (by omega)).mp y))] at st
      exact ⟨h', ⟨z1, z2, z3, z4⟩, Or.inr ⟨fun y => cn' y.1, st⟩⟩
/-- the reference looks at the kinds -/
theorem r_f18 (G : GR H g) (hp : p < 8) (hd : sD g p = some d) (h24 : hp_i H 102 24 = nI p) : ∀ j f x, j ≤ 6 → j < f → x < 64 → ∀ fl : Int32, fl = 0 ∨ fl = 1 → ∃ fl' w, w < 64 ∧ l_X11_fence_18 f 102 b1 fl (nI x) (nI (6 - j)) H = b_X11_fence_77 102 b1 fl' (nI w) H ∧ (fl' = 0 ↔ fl = 0 ∧ ∀ c, 6 - j ≤ c → c < 6 → ¬ pK d c = 2) ∧ ∀ c, c < 6 → (w.testBit c = true ↔ x.testBit c = true ∨ (6 - j ≤ c ∧ pK d c = 0)) := by
  have P := (r_dd G hp hd).1.2
  intro j
  induction j with
  | zero =>
    intro f x _ hf hx fl hfl
    obtain ⟨f, rfl⟩ : ∃ f', f = f' + 1 := ⟨f - 1, by omega⟩
    refine ⟨fl, x, hx, ?_, ⟨fun z => ⟨z, fun c h1 h2 => by omega⟩, fun z => z.1⟩, fun c hc => ⟨Or.inl, fun z => z.elim id (fun y => by omega)⟩⟩
    show b_X11_fence_18 (l_X11_fence_18 f) 102 b1 fl (nI x) (nI 6) H = _
    unfold b_X11_fence_18
    rw [if_pos (show (6 : Int32) ≤ nI 6 by decide)]
  | succ j ih =>
    intro f x hj hf hx fl hfl
    obtain ⟨f, rfl⟩ : ∃ f', f = f' + 1 := ⟨f - 1, by omega⟩
    have ej : 6 - j = 6 - (j + 1) + 1 := by omega
    have ih' := fun x => ih f x (by omega) (by omega)
    rw [ej] at ih'
    generalize hi : 6 - (j + 1) = i at *
    have oi : f_X11_of 102 ((0 : Int32) + nI i) H = some (pK d i, H) := by rw [ad, Nat.zero_add, r_of G hp h24 (by omega), P i (by omega)]
    obtain ⟨o1, o2, o3⟩ := or_2 x hx i (by omega)
    -- the second half of a step
    have s46 : ∀ s0 : Int32, s0 = 0 ∨ s0 = 1 → ∃ fl' w, w < 64 ∧ b_X11_fence_46 (l_X11_fence_18 f) 102 b1 (nI x) (nI i) s0 H = b_X11_fence_77 102 b1 fl' (nI w) H ∧ (fl' = 0 ↔ s0 = 0 ∧ ∀ c, i + 1 ≤ c → c < 6 → ¬ pK d c = 2) ∧ ∀ c, c < 6 → (w.testBit c = true ↔ x.testBit c = true ∨ (i ≤ c ∧ pK d c = 0)) := fun s0 hs0 => by
      by_cases k0 : pK d i = 0
      · obtain ⟨fl', w, w1, w2, w3, w4⟩ := ih' (x ||| 2 ^ i) o2 s0 hs0
        refine ⟨fl', w, w1, ?_, w3, fun c hc => ?_⟩
        · unfold b_X11_fence_46
          rw [rz_v G.1, Option.bind_some, oi, Option.bind_some, if_pos k0]
          unfold b_X11_fence_60 b_X11_fence_68
          rw [o1, da]
          exact w2
        · rw [w4 c hc, o3 c hc]
          constructor
          · rintro ((z | z) | z)
            · exact Or.inl z
            · exact Or.inr ⟨by omega, by rw [z]; exact k0⟩
            · exact Or.inr ⟨by omega, z.2⟩
          · rintro (z | z)
            · exact Or.inl (Or.inl z)
            · by_cases e : c = i
              · exact Or.inl (Or.inr e)
              · exact Or.inr ⟨by omega, z.2⟩
      · obtain ⟨fl', w, w1, w2, w3, w4⟩ := ih' x hx s0 hs0
        refine ⟨fl', w, w1, ?_, w3, fun c hc => ?_⟩
        · unfold b_X11_fence_46
          rw [rz_v G.1, Option.bind_some, oi, Option.bind_some, if_neg k0]
          unfold b_X11_fence_67 b_X11_fence_68
          rw [Int32.or_zero, da]
          exact w2
        · rw [w4 c hc]
          constructor
          · rintro (z | z)
            · exact Or.inl z
            · exact Or.inr ⟨by omega, z.2⟩
          · rintro (z | z)
            · exact Or.inl z
            · by_cases e : c = i
              · rw [e] at z; exact absurd z.2 k0
              · exact Or.inr ⟨by omega, z.2⟩
    have st : l_X11_fence_18 (f + 1) 102 b1 fl (nI x) (nI i) H = b_X11_fence_46 (l_X11_fence_18 f) 102 b1 (nI x) (nI i) (if fl = 0 then (if pK d i = 2 then 1 else 0) else 1) H := by
      show b_X11_fence_18 (l_X11_fence_18 f) 102 b1 fl (nI x) (nI i) H = _
      unfold b_X11_fence_18
      rw [if_neg (show ¬ (6 : Int32) ≤ nI i from nI_ge (b := 6) (by omega) (by omega))]
      unfold b_X11_fence_25
      by_cases c0 : fl = 0
      · rw [if_pos c0, if_pos c0]
        unfold b_X11_fence_29
        rw [rz_v G.1, Option.bind_some, oi, Option.bind_some]
        by_cases c2 : pK d i = 2
        · rw [if_pos c2, if_pos c2]; rfl
        · rw [if_neg c2, if_neg c2]; rfl
      · rw [if_neg c0, if_neg c0]; rfl
    obtain ⟨fl', w, w1, w2, w3, w4⟩ := s46 (if fl = 0 then (if pK d i = 2 then 1 else 0) else 1) (by
      by_cases c0 : fl = 0
      · rw [if_pos c0]
        by_cases c2 : pK d i = 2
        · rw [if_pos c2]; exact Or.inr rfl
        · rw [if_neg c2]; exact Or.inl rfl
      · rw [if_neg c0]; exact Or.inr rfl)
    refine ⟨fl', w, w1, st.trans w2, w3.trans ?_, w4⟩
    by_cases c0 : fl = 0
    · rw [if_pos c0]
      by_cases c2 : pK d i = 2
      · rw [if_pos c2]
        exact ⟨fun z => absurd z.1 (by decide), fun z => absurd c2 (z.2 i (Nat.le_refl _) (by omega))⟩
      · rw [if_neg c2]
        exact ⟨fun z => ⟨c0, fun c h1 h2 => by
          by_cases e : c = i
          · rw [e]; exact c2
          · exact z.2 c (by omega) h2⟩, fun z => ⟨rfl, fun c h1 h2 => z.2 c (by omega) h2⟩⟩
    · rw [if_neg c0]
      exact ⟨fun z => absurd z.1 (by decide), fun z => absurd z.1 c0⟩
theorem s_fence (G : GC h g m) (R : GR h g) (hm : m ≤ 600) : TSP Int32.toInt64 (f_L_fence 64 a1 b1 125) (f_X11_fence 102 a1 b1) h m := by
  refine tp_fence G R (fun p d hp ha hd C h0 => ?_)
  have GHh := G.2.1
  have C0 := C
  obtain ⟨⟨S, k5⟩, -, -, ⟨e1, e2, e3, e4⟩, ⟨-, PK⟩, -⟩ := C
  obtain ⟨w2, v1, v2, v3⟩ := e_cok (k := 2) (kd := pK d) (g := h) (pr := hp_r h 66 p) (sr_ok S k5) (sr_ok e1 e2) e3 e4
  have z2 : nI w2 = 0 ↔ ∀ c, c < 6 → ¬ pK d c = 2 := by
    have z0 : nI w2 = 0 ↔ w2 = 0 := nI_eq (b := 0) (by omega) (by omega)
    rw [z0]
    constructor
    · intro z c hc e
      have := (v3 c hc).mpr e
      rw [z, Nat.zero_testBit] at this
      cases this
    · intro z
      exact tb6_ext v1 (by omega) (fun c hc => ⟨fun y => absurd ((v3 c hc).mp y) (z c hc), fun y => by rw [Nat.zero_testBit] at y; cases y⟩)
  have c16 : b_X10_fence_16 64 b1 (hp_r h 66 p) h = if nI w2 = 0 then b_X10_fence_26 64 b1 (hp_r h 66 p) h else b_X10_fence_24 h := by
    unfold b_X10_fence_16
    rw [show ok_v h (hp_r h 66 p) 5 = some () from if_pos (sr_ok S k5), Option.bind_some, show f_X5_cellsOfKind (hp_r h 66 p) (2 : Int32) h = _ from v2, Option.bind_some]
  have cC : f_X10_fence 64 (nI p) b1 h = if b1 = (1 : Int32) then b_X10_fence_16 64 b1 (hp_r h 66 p) h else if b1 = (2 : Int32) then b_X10_fence_16 64 b1 (hp_r h 66 p) h else b_X10_fence_24 h := by
    unfold f_X10_fence b_X10_fence_0 b_X10_fence_11
    rw [ov64 GHh, Option.bind_some, c_pa GHh hp h0, Option.bind_some]
  have rC : ∀ H2, GR H2 g → hp_i H2 102 24 = nI p → ∃ fl w, w < 64 ∧ b_X11_fence_10 102 b1 H2 = b_X11_fence_77 102 b1 fl (nI w) H2 ∧ (fl = 0 ↔ ∀ c, c < 6 → ¬ pK d c = 2) ∧ ∀ c, c < 6 → (w.testBit c = true ↔ pK d c = 0) := fun H2 R2 h24 => by
    obtain ⟨fl, w, x1, x2, x3, x4⟩ := r_f18 (b1 := b1) R2 hp hd h24 6 fu_ 0 (Nat.le_refl _) (by unfold fu_; omega) (by omega) 0 (Or.inl rfl)
    refine ⟨fl, w, x1, x2, x3.trans ⟨fun z c hc => z.2 c (by omega) hc, fun z => ⟨rfl, fun c _ hc => z c hc⟩⟩, fun c hc => (x4 c hc).trans ⟨fun z => ?_, fun z => Or.inr ⟨by omega, z⟩⟩⟩
    rcases z with z | z
    · rw [Nat.zero_testBit] at z; cases z
    · exact z.2
  have bad : f_X10_fence 64 (nI p) b1 h = some (-1, h) → (∀ H2, GR H2 g → hp_i H2 102 24 = nI p → b_X11_fence_10 102 b1 H2 = some (-1, H2)) → ∃ v h1 g', f_X10_fence 64 (nI p) b1 h = some (v, h1) ∧ GC h1 g' (m + 1) ∧ CLF h h1 ∧ ∀ H2, GR H2 g → hp_i H2 102 24 = nI p → hp_i H2 102 0 = 0 → ∃ H3, b_X11_fence_10 102 b1 H2 = some (v, H3) ∧ GR H3 g' ∧ RLF H2 H3 ∧ hp_i H3 102 0 = 0 :=
    fun x y => ⟨-1, h, g, x, gc_up G, clf_rf, fun H2 R2 h24 t0 => ⟨H2, y H2 R2 h24, R2, rlf_rf, t0⟩⟩
  by_cases ok : b1 = 1 ∨ b1 = 2
  · obtain ⟨o, ho, rfl⟩ : ∃ o, (o = 1 ∨ o = 2) ∧ b1 = nI o := by
      rcases ok with z | z
      · exact ⟨1, Or.inl rfl, z⟩
      · exact ⟨2, Or.inr rfl, z⟩
    have cC' : f_X10_fence 64 (nI p) (nI o) h = b_X10_fence_16 64 (nI o) (hp_r h 66 p) h := by
      rw [cC]
      rcases ok with z | z
      · rw [if_pos z]
      · rw [if_neg (by rw [z]; decide), if_pos z]
    have i12 : ∀ H2, f_X11_isIn (nI o) (1 : Int32) (2 : Int32) H2 = some (1, H2) := fun H2 => by
      rw [isin_e]
      rcases ok with z | z
      · rw [z, if_neg (show ¬ (1 : Int32) < 1 by decide), if_neg (show ¬ (2 : Int32) < 1 by decide)]
      · rw [z, if_neg (show ¬ (2 : Int32) < 1 by decide), if_neg (show ¬ (2 : Int32) < 2 by decide)]
    by_cases fin : ∀ c, c < 6 → ¬ pK d c = 2
    · obtain ⟨r, h1, x1, x2, x3, x4, x5, x6, -⟩ := c_oof (o := 0) (gc0_of G) G.2.2.2.1 R.1 hp hd (by omega) (by omega)
      have C1 := gp_cp x3 hp hd
      rw [x5] at C1
      have C1' := C1
      obtain ⟨⟨S1, k51⟩, ⟨d1, d2⟩, -, ⟨f1, f2, f3, f4⟩, -, -⟩ := C1'
      obtain ⟨w, w1, w2', w3⟩ := e_cok (k := 0) (kd := pK d) (g := h1) (pr := hp_r h 66 p) (sr_ok S1 k51) (sr_ok f1 f2) f3 f4
      obtain ⟨T, t1, t2, t3⟩ := c_tc C1
      have uT : w &&& T < 64 := Nat.lt_of_le_of_lt Nat.and_le_left w1
      have ub : ∀ c, (w &&& T).testBit c = (w.testBit c && T.testBit c) := fun c => Nat.testBit_and ..
      have p5 : ∀ s, s < 64 → sbs s w → pc6 s < 6 := fun s hs sb => by
        rcases (pc_63 s hs).2 with z | z
        · exact z
        · exfalso
          have all : ∀ c, c < 6 → pK d c = 0 := fun c hc => (w3 c hc).mp (sb c hc (by
            rw [z]
            have : ∀ c, c < 6 → Nat.testBit 63 c = true := by decide
            exact this c hc))
          have := PK.2.2.1
          rw [dcn_e] at this
          unfold dcf at this
          rw [all 0 (by omega), all 1 (by omega), all 2 (by omega), all 3 (by omega), all 4 (by omega), all 5 (by omega)] at this
          exact absurd this (by decide)
      have subw : ∀ s, sbs s (w &&& T) → sbs s w := fun s sb c hc e => by
        have := sb c hc e
        rw [ub, Bool.and_eq_true] at this
        exact this.1
      obtain ⟨v, h2, y1, y2, y3, y4, y5⟩ := c_fnc (r := r) (u := w &&& T) x2 x3 (rz_cl x4 R.1) hp hd (by omega) ho uT x6 (fun s hs sb => p5 s hs (subw s sb))
      rw [x5] at y1
      refine ⟨v, h2, g, ?_, gc0_to y2 y3 (by omega) (by omega) (by omega), clf_tr x4 y4, fun H2 R2 h24 t0 => ?_⟩
      · rw [cC', c16, if_pos (z2.mpr fin)]
        unfold b_X10_fence_26
        rw [ov64 GHh, Option.bind_some, show f_X10_outcomesOf 64 (hp_r h 66 p) (0 : Int32) h = some (r, h1) from x1, Option.bind_some, show ok_v h1 (hp_r h 66 p) 5 = some () from if_pos (sr_ok S1 k51), Option.bind_some, show f_X5_cellsOfKind (hp_r h 66 p) (0 : Int32) h1 = _ from w2', Option.bind_some, show g_r h1 (hp_r h 66 p) 5 0 = some (hp_r h1 (hp_r h 66 p) 0) from if_pos (sr_ok S1 k51), Option.bind_some, show ok_v h1 (hp_r h1 (hp_r h 66 p) 0) 0 = some () from if_pos (sr_ok d1 d2), Option.bind_some, t2, Option.bind_some, nI_and (by omega) (by omega)]
        exact y1
      · obtain ⟨fl, w', q1, q2, q3, q4⟩ := rC H2 R2 h24
        have ew : w' = w := tb6_ext q1 w1 (fun c hc => (q4 c hc).trans (w3 c hc).symm)
        rw [ew] at q2
        obtain ⟨v', H3, u1, u2, u3, u4, u5⟩ := r_fnc (w := w) R2 hp hd h24 t0 ho w1 w3
        have ev : v = v' := fnd_eq y5 u5 (fun s hs z => ⟨subw s z.1, z.2⟩) (fun s hs z => by
          refine ⟨s &&& T, Nat.lt_of_le_of_lt Nat.and_le_left hs, ⟨fun c hc e => ?_, gs_t PK (fun c hc ht => ?_) z.2⟩, pc_an s hs T t1⟩
          · rw [Nat.testBit_and, Bool.and_eq_true] at e
            rw [ub, Bool.and_eq_true]
            exact ⟨z.1 c hc e.1, e.2⟩
          · rw [Nat.testBit_and, (t3 c hc).mpr ht, Bool.and_true])
        refine ⟨H3, ?_, u2, u3, u4⟩
        rw [q2]
        unfold b_X11_fence_77
        rw [i12, Option.bind_some, if_neg n10]
        unfold b_X11_fence_86
        rw [if_pos (q3.mpr fin), ev]
        exact u1
    · refine bad ?_ (fun H2 R2 h24 => ?_)
      · rw [cC', c16, if_neg (fun z => fin (z2.mp z))]; rfl
      · obtain ⟨fl, w', q1, q2, q3, q4⟩ := rC H2 R2 h24
        rw [q2]
        unfold b_X11_fence_77
        rw [i12, Option.bind_some, if_neg n10]
        unfold b_X11_fence_86
        rw [if_neg (fun z => fin (q3.mp z))]; rfl
  · refine bad ?_ (fun H2 R2 h24 => ?_)
    · rw [cC, if_neg (fun z => ok (Or.inl z)), if_neg (fun z => ok (Or.inr z))]; rfl
    · obtain ⟨fl, w', q1, q2, q3, q4⟩ := rC H2 R2 h24
      rw [q2]
      unfold b_X11_fence_77
      have : (if b1 < 1 then (0 : Int32) else if 2 < b1 then 0 else 1) = 0 := by
        by_cases c1 : b1 < 1
        · rw [if_pos c1]
        · rw [if_neg c1]
          rcases i_cs b1 with z | ⟨k, k1, rfl⟩
          · exact absurd (Int32.lt_of_lt_of_le z (by decide)) c1
          · by_cases k2 : k < 3
            · obtain rfl | rfl | rfl : k = 0 ∨ k = 1 ∨ k = 2 := by omega
              · exact absurd (by decide) c1
              · exact absurd (Or.inl rfl) ok
              · exact absurd (Or.inr rfl) ok
            · rw [if_pos (show (2 : Int32) < nI k from nI_lt (a := 2) (by omega) (by omega))]
      rw [isin_e, Option.bind_some, this, if_pos rfl]; rfl
end
