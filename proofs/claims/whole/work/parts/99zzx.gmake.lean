/-! ===== make ===== -/
theorem bt6 : ∀ v, v < 64 → ∀ c, c < 6 → ((nI v >>> (nI c &&& 31)) &&& (1 : Int32) = 1 ↔ v.testBit c = true) ∧ ((nI v >>> (nI c &&& 31)) &&& (1 : Int32) = 0 ↔ v.testBit c = false) := by decide +kernel
theorem sub6 {a : Int32} {w : Nat} (hw : w < 64) : (a &&& (nI w ^^^ (-1 : Int32))) = 0 ↔ ∃ v, v < 64 ∧ a = nI v ∧ ∀ c, c < 6 → v.testBit c = true → w.testBit c = true := by
  have hm : (-1 : Int32).toBitVec = BitVec.allOnes 32 := by decide
  have hi : ∀ i, i < 32 → (a &&& (nI w ^^^ (-1 : Int32))).toBitVec.getLsbD i = (a.toBitVec.getLsbD i && !(w.testBit i)) := fun i hi => by
    show (a.toBitVec &&& ((BitVec.ofNat 32 w) ^^^ (-1 : Int32).toBitVec)).getLsbD i = _
    rw [hm, BitVec.getLsbD_and, BitVec.getLsbD_xor, BitVec.getLsbD_allOnes, BitVec.getLsbD_ofNat, decide_eq_true hi, Bool.true_and, Bool.xor_true]
  have w0 : ∀ i, 6 ≤ i → w.testBit i = false := fun i h6 => Nat.testBit_lt_two_pow (Nat.lt_of_lt_of_le hw (Nat.pow_le_pow_right (n := 2) (by omega) h6))
  constructor
  · intro z
    have zi : ∀ i, i < 32 → (a.toBitVec.getLsbD i && !(w.testBit i)) = false := fun i h32 => by
      rw [← hi i h32, z]
      show (0#32).getLsbD i = false
      exact BitVec.getLsbD_zero
    have tb : ∀ i, a.toBitVec.toNat.testBit i = a.toBitVec.getLsbD i := fun i => BitVec.testBit_toNat _
    have al : ∀ i, a.toBitVec.toNat.testBit i = true → w.testBit i = true := fun i e => by
      by_cases h32 : i < 32
      · have := zi i h32
        rw [← tb, e, Bool.true_and] at this
        cases hb : w.testBit i
        · rw [hb] at this; exact absurd this (by decide)
        · rfl
      · rw [Nat.testBit_lt_two_pow (Nat.lt_of_lt_of_le a.toBitVec.isLt (Nat.pow_le_pow_right (n := 2) (by omega) (by omega)))] at e
        exact absurd e (by decide)
    refine ⟨a.toBitVec.toNat, ?_, ?_, fun c _ e => al c e⟩
    · refine Nat.lt_pow_two_of_testBit (n := 6) _ (fun i h6 => ?_)
      cases hb : a.toBitVec.toNat.testBit i
      · rfl
      · have := al i hb
        rw [w0 i h6] at this
        exact absurd this (by decide)
    · apply Int32.toBitVec_inj.mp
      show _ = BitVec.ofNat 32 a.toBitVec.toNat
      rw [BitVec.ofNat_toNat, BitVec.setWidth_eq]
  · rintro ⟨v, v1, rfl, v3⟩
    apply Int32.toBitVec_inj.mp
    apply BitVec.eq_of_getLsbD_eq
    intro i h32
    rw [hi i h32]
    show (((BitVec.ofNat 32 v)).getLsbD i && _) = (0#32).getLsbD i
    rw [BitVec.getLsbD_ofNat, decide_eq_true h32, Bool.true_and, BitVec.getLsbD_zero]
    by_cases h6 : i < 6
    · cases hb : v.testBit i
      · rfl
      · rw [v3 i h6 hb]; rfl
    · rw [Nat.testBit_lt_two_pow (Nat.lt_of_lt_of_le v1 (Nat.pow_le_pow_right (n := 2) (i := 6) (j := i) (by omega) (by omega)))]; rfl
section
variable {h h1 H : AH} {g g' : SG} {m p q : Nat} {a1 a2 a3 : Int32} {d : PD} {A : Nat → Nat → Int32} {v : Nat}
/-- the class's kinds row of the new program -/
theorem c_wv {pr n kr : Nat} (hv : v < 64) (o1 : ok_o H pr 5) (r1 : hp_r H pr 1 = kr) (ok : ok_o H kr 100) (lk : 6 ≤ hp_l H kr) (o2 : ok_o H n 5) (r2 : hp_r H n 1 = n + 1) (o3 : ok_o H (n + 1) 100) (l3 : hp_l H (n + 1) = 8) (ne : kr ≠ n + 1) : ∀ j f (A : Nat → Nat → Int32), j ≤ 6 → j < f → ∃ A', l_X5_withVolatile_14 f pr (nI v) n (nI (6 - j)) (sA H A) = some (n, sA H A') ∧ (∀ r k, ¬ (r = n + 1 ∧ 6 - j ≤ k ∧ k < 6) → A' r k = A r k) ∧ ∀ c, 6 - j ≤ c → c < 6 → A' (n + 1) c = if v.testBit c then 1 else A kr c := by
  intro j
  induction j with
  | zero =>
    intro f A _ hf
    obtain ⟨f, rfl⟩ : ∃ f', f = f' + 1 := ⟨f - 1, by omega⟩
    refine ⟨A, ?_, fun _ _ _ => rfl, fun k h1 h2 => by omega⟩
    show b_X5_withVolatile_14 (l_X5_withVolatile_14 f) pr (nI v) n (nI 6) (sA H A) = _
    unfold b_X5_withVolatile_14
    rw [if_pos (show (6 : Int32) ≤ nI 6 by decide)]
    rfl
  | succ j ih =>
    intro f A hj hf
    obtain ⟨f, rfl⟩ : ∃ f', f = f' + 1 := ⟨f - 1, by omega⟩
    have e6 : 6 - j = 6 - (j + 1) + 1 := by omega
    obtain ⟨A', x1, x2, x3⟩ := ih f (up_2 A (n + 1) (6 - (j + 1)) (if v.testBit (6 - (j + 1)) then 1 else A kr (6 - (j + 1)))) (by omega) (by omega)
    rw [e6] at x1 x2 x3
    generalize hi : 6 - (j + 1) = i at *
    have si : ∀ u, s_i (sA H A) (n + 1) (nI i) u = some (sA H (up_2 A (n + 1) i u)) := fun u => s_iN (h := sA H A) o3 (by show i < hp_l H (n + 1); omega) (by omega)
    refine ⟨A', ?_, fun r k hk => by rw [x2 r k (by omega), u2 (by omega)], fun c h1 h2 => ?_⟩
    · show b_X5_withVolatile_14 (l_X5_withVolatile_14 f) pr (nI v) n (nI i) (sA H A) = _
      unfold b_X5_withVolatile_14
      rw [if_neg (show ¬ (6 : Int32) ≤ nI i from nI_ge (b := 6) (by omega) (by omega))]
      unfold b_X5_withVolatile_20
      rw [show g_r (sA H A) n 5 1 = some (n + 1) from (if_pos o2).trans (congrArg some r2), Option.bind_some]
      cases hb : v.testBit i
      · rw [hb] at x1
        rw [if_pos ((bt6 v hv i (by omega)).2.mpr hb)]
        unfold b_X5_withVolatile_37 b_X5_withVolatile_43
        rw [show g_r (sA H A) pr 5 1 = some kr from (if_pos o1).trans (congrArg some r1), Option.bind_some, show l_i (sA H A) kr (nI i) = some (A kr i) from l_iN (h := sA H A) ok (by show i < hp_l H kr; omega) (by omega), Option.bind_some, si, Option.bind_some, da]
        exact x1
      · rw [hb] at x1
        rw [if_neg (fun z => by have := (bt6 v hv i (by omega)).2.mp z; rw [hb] at this; cases this)]
        unfold b_X5_withVolatile_33 b_X5_withVolatile_43
        rw [si, Option.bind_some, da]
        exact x1
    · by_cases e : c = i
      · rw [e, x2 _ _ (by omega), u2s]
      · rw [x3 c (by omega) h2, u2 (by omega)]
/-- the reference's test of the cells -/
theorem r_m64 {a3 : Int32} (R : GR H g) (hp : p < 8) (hd : sD g p = some d) (h24 : hp_i H 102 24 = nI p) (hv : v < 64) : ∀ j f, j ≤ 6 → j < f → ((∀ c, 6 - j ≤ c → c < 6 → v.testBit c = true → pK d c = 0) → l_X11_make_64 f 102 (nI p) (nI v) a3 (nI (6 - j)) H = b_X11_make_100 102 (nI p) (nI v) a3 H) ∧ ((¬ ∀ c, 6 - j ≤ c → c < 6 → v.testBit c = true → pK d c = 0) → l_X11_make_64 f 102 (nI p) (nI v) a3 (nI (6 - j)) H = some (-1, H)) := by
  have P := (r_dd R hp hd).1.2
  intro j
  induction j with
  | zero =>
    intro f _ hf
    obtain ⟨f, rfl⟩ : ∃ f', f = f' + 1 := ⟨f - 1, by omega⟩
    refine ⟨fun _ => ?_, fun z => absurd (fun c h1 h2 => by omega) z⟩
    show b_X11_make_64 (l_X11_make_64 f) 102 (nI p) (nI v) a3 (nI 6) H = _
    unfold b_X11_make_64
    rw [if_pos (show (6 : Int32) ≤ nI 6 by decide)]
  | succ j ih =>
    intro f hj hf
    obtain ⟨f, rfl⟩ : ∃ f', f = f' + 1 := ⟨f - 1, by omega⟩
    have e6 : 6 - j = 6 - (j + 1) + 1 := by omega
    obtain ⟨i1, i2⟩ := ih f (by omega) (by omega)
    rw [e6] at i1 i2
    generalize hi : 6 - (j + 1) = i at *
    have st : l_X11_make_64 (f + 1) 102 (nI p) (nI v) a3 (nI i) H = if ((nI v >>> (nI i &&& 31)) &&& (1 : Int32)) = (1 : Int32) then (if pK d i = 0 then l_X11_make_64 f 102 (nI p) (nI v) a3 (nI (i + 1)) H else some (-1, H)) else l_X11_make_64 f 102 (nI p) (nI v) a3 (nI (i + 1)) H := by
      show b_X11_make_64 (l_X11_make_64 f) 102 (nI p) (nI v) a3 (nI i) H = _
      unfold b_X11_make_64
      rw [if_neg (show ¬ (6 : Int32) ≤ nI i from nI_ge (b := 6) (by omega) (by omega))]
      unfold b_X11_make_71 b_X11_make_81 b_X11_make_94 b_X11_make_92
      rw [rz_v R.1, Option.bind_some, ad, Nat.zero_add, r_of R hp h24 (by omega), Option.bind_some, P i (by omega), da]
    have t := bt6 v hv i (by omega)
    cases hb : v.testBit i
    · have nn : ¬ ((nI v >>> (nI i &&& 31)) &&& (1 : Int32)) = (1 : Int32) := fun z => by
        have := t.1.mp z
        rw [hb] at this
        cases this
      rw [if_neg nn] at st
      have eq : (∀ c, i ≤ c → c < 6 → v.testBit c = true → pK d c = 0) ↔ ∀ c, i + 1 ≤ c → c < 6 → v.testBit c = true → pK d c = 0 := ⟨fun z c h1 h2 h3 => z c (by omega) h2 h3, fun z c h1 h2 h3 => by
        by_cases e : c = i
        · rw [e, hb] at h3; cases h3
        · exact z c (by omega) h2 h3⟩
      exact ⟨fun z => st.trans (i1 (eq.mp z)), fun z => st.trans (i2 (fun y => z (eq.mpr y)))⟩
    · rw [if_pos (t.1.mpr hb)] at st
      by_cases k0 : pK d i = 0
      · rw [if_pos k0] at st
        have eq : (∀ c, i ≤ c → c < 6 → v.testBit c = true → pK d c = 0) ↔ ∀ c, i + 1 ≤ c → c < 6 → v.testBit c = true → pK d c = 0 := ⟨fun z c h1 h2 h3 => z c (by omega) h2 h3, fun z c h1 h2 h3 => by
          by_cases e : c = i
          · rw [e]; exact k0
          · exact z c (by omega) h2 h3⟩
        exact ⟨fun z => st.trans (i1 (eq.mp z)), fun z => st.trans (i2 (fun y => z (eq.mpr y)))⟩
      · rw [if_neg k0] at st
        exact ⟨fun z => absurd (z i (Nat.le_refl _) (by omega) hb) k0, fun _ => st⟩
/-- the reference copies a program -/
theorem r_m103 (Z : RZ h) (hp : p < 8) (hq : q < 8) {a2 : Int32} : ∀ j f (A : Nat → Nat → Int32), j ≤ 900 → j < f → ∃ A', l_X11_make_103 f 102 (nI p) a2 (nI q) (nI (900 - j)) (sA h A) = b_X11_make_143 102 a2 (nI q) (sA h A') ∧ (∀ r k, ¬ (r = 106 ∧ 900 * q + (900 - j) ≤ k ∧ k < 900 * q + 900) → A' r k = A r k) ∧ ∀ k, 900 - j ≤ k → k < 900 → A' 106 (900 * q + k) = A 106 (900 * p + k) := by
  intro j
  induction j with
  | zero =>
    intro f A _ hf
    obtain ⟨f, rfl⟩ : ∃ f', f = f' + 1 := ⟨f - 1, by omega⟩
    refine ⟨A, ?_, fun _ _ _ => rfl, fun k h1 h2 => by omega⟩
    show b_X11_make_103 (l_X11_make_103 f) 102 (nI p) a2 (nI q) (nI 900) (sA h A) = _
    unfold b_X11_make_103
    rw [if_pos (show (900 : Int32) ≤ nI 900 by decide)]
  | succ j ih =>
    intro f A hj hf
    obtain ⟨f, rfl⟩ : ∃ f', f = f' + 1 := ⟨f - 1, by omega⟩
    have e6 : 900 - j = 900 - (j + 1) + 1 := by omega
    obtain ⟨A', x1, x2, x3⟩ := ih f (up_2 A 106 (900 * q + (900 - (j + 1))) (A 106 (900 * p + (900 - (j + 1))))) (by omega) (by omega)
    rw [e6] at x1 x2 x3
    generalize hi : 900 - (j + 1) = i at *
    refine ⟨A', ?_, fun r k hk => by rw [x2 r k (by omega), u2 (by omega)], fun k h1 h2 => ?_⟩
    · show b_X11_make_103 (l_X11_make_103 f) 102 (nI p) a2 (nI q) (nI i) (sA h A) = _
      unfold b_X11_make_103
      rw [if_neg (show ¬ (900 : Int32) ≤ nI i from nI_ge (b := 900) (by omega) (by omega))]
      unfold b_X11_make_111
      rw [rz_r (f := 9) (r := 106) (l := 7200) (sA_rz Z) (by decide), Option.bind_some, Option.bind_some, mu, nI_add, rz_l (f := 9) (r := 106) (l := 7200) (sA_rz Z) (by decide) (by omega) (by omega), Option.bind_some, mu, nI_add, show ∀ u, s_i (sA h A) 106 (nI (900 * q + i)) u = some (sA h (up_2 A 106 (900 * q + i) u)) from fun u => rz_s (f := 9) (r := 106) (l := 7200) (sA_rz Z) (by decide) (by omega) (by omega), Option.bind_some, da]
      exact x1
    · by_cases e : k = i
      · rw [e, x2 _ _ (by omega), u2s]
      · rw [x3 k (by omega) h2, u2 (by omega)]
/-- the reference sets the kinds -/
theorem r_m146 (Z : RZ h) (hq : q < 8) (hv : v < 64) : ∀ j f (A : Nat → Nat → Int32), j ≤ 6 → j < f → ∃ A', l_X11_make_146 f 102 (nI v) (nI q) (nI (6 - j)) (sA h A) = b_X11_make_185 102 (nI v) (nI q) (sA h A') ∧ (∀ r k, ¬ (r = 106 ∧ 900 * q + (6 - j) ≤ k ∧ k < 900 * q + 6) → A' r k = A r k) ∧ ∀ c, 6 - j ≤ c → c < 6 → A' 106 (900 * q + c) = if v.testBit c then 1 else A 106 (900 * q + c) := by
  intro j
  induction j with
  | zero =>
    intro f A _ hf
    obtain ⟨f, rfl⟩ : ∃ f', f = f' + 1 := ⟨f - 1, by omega⟩
    refine ⟨A, ?_, fun _ _ _ => rfl, fun k h1 h2 => by omega⟩
    show b_X11_make_146 (l_X11_make_146 f) 102 (nI v) (nI q) (nI 6) (sA h A) = _
    unfold b_X11_make_146
    rw [if_pos (show (6 : Int32) ≤ nI 6 by decide)]
  | succ j ih =>
    intro f A hj hf
    obtain ⟨f, rfl⟩ : ∃ f', f = f' + 1 := ⟨f - 1, by omega⟩
    have e6 : 6 - j = 6 - (j + 1) + 1 := by omega
    have ih' := fun A => ih f A (by omega) (by omega)
    rw [e6] at ih'
    generalize hi : 6 - (j + 1) = i at *
    have t := bt6 v hv i (by omega)
    cases hb : v.testBit i
    · obtain ⟨A', x1, x2, x3⟩ := ih' A
      refine ⟨A', ?_, fun r k hk => x2 r k (by omega), fun c h1 h2 => ?_⟩
      · show b_X11_make_146 (l_X11_make_146 f) 102 (nI v) (nI q) (nI i) (sA h A) = _
        unfold b_X11_make_146
        rw [if_neg (show ¬ (6 : Int32) ≤ nI i from nI_ge (b := 6) (by omega) (by omega))]
        unfold b_X11_make_153 b_X11_make_179
        rw [if_neg (fun z => by have := t.1.mp z; rw [hb] at this; cases this), da]
        exact x1
      · by_cases e : c = i
        · rw [e, hb, x2 _ _ (by omega)]; rfl
        · exact x3 c (by omega) h2
    · obtain ⟨A', x1, x2, x3⟩ := ih' (up_2 A 106 (900 * q + i) 1)
      refine ⟨A', ?_, fun r k hk => by rw [x2 r k (by omega), u2 (by omega)], fun c h1 h2 => ?_⟩
      · show b_X11_make_146 (l_X11_make_146 f) 102 (nI v) (nI q) (nI i) (sA h A) = _
        unfold b_X11_make_146
        rw [if_neg (show ¬ (6 : Int32) ≤ nI i from nI_ge (b := 6) (by omega) (by omega))]
        unfold b_X11_make_153 b_X11_make_163 b_X11_make_179
        rw [if_pos (t.1.mpr hb), rz_r (f := 9) (r := 106) (l := 7200) (sA_rz Z) (by decide), Option.bind_some, mu, da, Nat.add_zero, nI_add, show ∀ u, s_i (sA h A) 106 (nI (900 * q + i)) u = some (sA h (up_2 A 106 (900 * q + i) u)) from fun u => rz_s (f := 9) (r := 106) (l := 7200) (sA_rz Z) (by decide) (by omega) (by omega), Option.bind_some, da]
        exact x1
      · by_cases e : c = i
        · rw [e, hb, x2 _ _ (by omega), u2s]; rfl
        · rw [x3 c (by omega) h2, u2 (by omega)]
theorem lf_cg6 {F F' : Nat → Int32} (P : PDk d) (e : ∀ k, 6 ≤ k → k < 900 → F' k = F k) (L : LF F (pE d) (pA d) (pS d) (pst d) (plb d) (pmb d) (pmk d)) : LF F' (pE d) (pA d) (pS d) (pst d) (plb d) (pmb d) (pmk d) := by
  obtain ⟨-, -, ⟨b64, b8, b4, -, -, b480⟩, -⟩ := P.1
  obtain ⟨⟨l1, l2, l3, l4, l5, l6, l7⟩, l8, l9, l10, l11⟩ := L
  refine ⟨⟨(e _ (by omega) (by omega)).trans l1, (e _ (by omega) (by omega)).trans l2, (e _ (by omega) (by omega)).trans l3, (e _ (by omega) (by omega)).trans l4, (e _ (by omega) (by omega)).trans l5, (e _ (by omega) (by omega)).trans l6, (e _ (by omega) (by omega)).trans l7⟩, fun t ht => (e _ (by omega) (by omega)).trans (l8 t ht), fun n hn => ?_, fun x hx h9 => ir_F (fun i hi => e _ (by omega) (by have := rxl_le (E := pE d) (e := x); omega)) (l10 x hx h9), fun i hi => (e _ (by omega) (by omega)).trans (l11 i hi)⟩
  obtain ⟨r1, r2, r3, r4⟩ := l9 n hn
  exact ⟨(e _ (by omega) (by omega)).trans r1, (e _ (by omega) (by omega)).trans r2, (e _ (by omega) (by omega)).trans r3, (e _ (by omega) (by omega)).trans r4⟩
def mkd (d : PD) (kd : Nat → Int32) : PD := (pE d, pA d, pS d, pO d, kd, pst d, plb d, pmb d, pmk d, pdn d, pR d)
theorem mkd_k {kd : Nat → Int32} (P : PDk d) (hk : ∀ c, c < 6 → kd c = if v.testBit c then 1 else pK d c) (h0 : ∀ c, c < 6 → v.testBit c = true → pK d c = 0) : PDk (mkd d kd) := by
  obtain ⟨a, b, c1, c2⟩ := P
  refine ⟨ll_kd (fun c hc z => ?_) a, b, ?_, fun c hc => ?_⟩
  · show kd c = 2
    rw [hk c hc]
    cases hb : v.testBit c
    · exact z
    · rw [h0 c hc hb] at z; exact absurd z (by decide)
  · show dcn kd ≤ 5
    have e : ∀ c, c < 6 → dcf kd c = dcf (pK d) c := fun c hc => by
      unfold dcf
      rw [hk c hc]
      cases hb : v.testBit c
      · rfl
      · rw [h0 c hc hb]; rfl
    rw [dcn_e] at *
    rw [e 0 (by omega), e 1 (by omega), e 2 (by omega), e 3 (by omega), e 4 (by omega), e 5 (by omega)]
    exact c1
  · show kd c = -1 ∨ ∃ k, k < 3 ∧ kd c = nI k
    rw [hk c hc]
    cases hb : v.testBit c
    · exact c2 c hc
    · exact Or.inr ⟨1, by omega, rfl⟩
/-- the class makes -/
theorem c_mkv (G : GC h g m) (hp : p < 8) (hq : q < 8) (hd : sD g p = some d) (hv : v < 64) (h0 : ∀ c, c < 6 → v.testBit c = true → pK d c = 0) : ∃ h1 kd, b_X10_make_30 64 (nI v) (nI q) (hp_r h 66 p) h = some (nI (pc6 v), h1) ∧ (∀ c, c < 6 → kd c = if v.testBit c then 1 else pK d c) ∧ GC h1 (up_1 (sD g) q (some (mkd d kd)), g.2) (m + 1) ∧ CLF h h1 := by
  have C := gp_cp G.2.2.2.1 hp hd
  have C0 := C
  obtain ⟨⟨S, k5⟩, ⟨b1, b2⟩, c, ⟨e1, e2, e3, e4⟩, ⟨ek, PK⟩, -⟩ := C
  have GHh := G.2.1
  have B := gh_lt GHh
  have Sn := S.2.1
  obtain ⟨H, x1, x2, x3, x4, x5, x6, ⟨x7, x8, x9⟩, x10, x11, x12, x13, ⟨x14, x15, x16, x17⟩, bl⟩ := x5_init (h := h) (co := hp_r h (hp_r h 66 p) 0) B
  have bl' := fun r hr => bl r hr
  have okH : ∀ {r c}, ok_o h r c → ok_o H r c := fun o => ⟨o.1, by have := o.2.1; omega, by rw [(bl _ o.2.1).1]; exact o.2.2⟩
  have okp := sr_ok S k5
  have oke := sr_ok e1 e2
  have e1n := e1.2.1
  obtain ⟨A', y1, y2, y3⟩ := c_wv (H := H) (pr := hp_r h 66 p) (n := hp_n h) (kr := hp_r h (hp_r h 66 p) 1) hv (okH okp) (by rw [(bl _ Sn).2.2.2.2]) (okH oke) (by rw [(bl _ e1n).2.1, e3]; omega) x4 x6 x10 x11 (by omega) 6 fu_ (hp_i H) (Nat.le_refl _) (by unfold fu_; omega)
  have kd6 : ∀ c, c < 6 → A' (hp_n h + 1) c = if v.testBit c then 1 else pK d c := fun c hc => by
    rw [y3 c (by omega) hc, (bl _ e1n).2.2.1, e4]
  have sm : ∀ r, r < hp_n h → A' r = hp_i h r := fun r hr => by
    funext k
    rw [y2 r k (by omega), (bl r hr).2.2.1]
  have G2 : GC (sA H A') g (m + 1) := by
    refine gc_gr (h2 := sA H A') G (show hp_n h ≤ hp_n H by omega) (show hp_n H ≤ hp_n h + 20 by omega) (show hp_s H ≤ hp_s h + 2000 by omega) (fun r hr => ⟨(bl r hr).1, (bl r hr).2.1⟩) (fun r hr => (bl r (by omega)).2.2.2.2) ⟨show hp_r H 68 2 = _ by rw [(bl 68 (by omega)).2.2.2.2], show hp_r H 68 3 = _ by rw [(bl 68 (by omega)).2.2.2.2]⟩ (show hp_r H 69 6 = _ by rw [(bl 69 (by omega)).2.2.2.2]) (fun r hr => sm r (by omega)) (fun r _ hr => (bl r hr).2.2.2.1) G.1 ?_ rfl
    show GVA A' g
    have V := G.2.2.1
    unfold GVl GVA at *
    rw [sm 64 (by omega), sm 65 (by omega), sm 72 (by omega), sm 73 (by omega), sm 67 (by omega), sm 74 (by omega), sm 98 (by omega)]
    exact V
  have F2 : CLF h (sA H A') := ⟨show hp_n h ≤ hp_n H by omega, fun r h1 h2 => ⟨(bl r (by omega)).1, (bl r (by omega)).2.1, fun h3 => ⟨sm r (by omega), (bl r (by omega)).2.2.2.1, (bl r (by omega)).2.2.2.2⟩⟩⟩
  have f90 : hp_r H 90 = hp_r h 90 := (bl 90 (by omega)).2.2.2.2
  have f95 : hp_r H 95 = hp_r h 95 := (bl 95 (by omega)).2.2.2.2
  obtain ⟨tn, -, HBh⟩ := G.2.2.2.2.2
  have o90 := HBh.2.2.1.choose_spec.2.2.2.2.1.1.2.1
  have o95 := HBh.2.2.2.1.choose_spec.2.1.2.1
  have Q : SQ h (sA H A') 0 := sq_of (show hp_n h ≤ hp_n H by omega) (fun r _ hr => ⟨(bl r hr).1, (bl r hr).2.1, sm r hr, (bl r hr).2.2.2.2, (bl r hr).2.2.2.1⟩) (show hp_r H 90 3 = _ by rw [f90]) (show hp_r H 95 0 = _ by rw [f95])
  have CPn : CPl (sA H A') (hp_n h) (mkd d (A' (hp_n h + 1))) := by
    have srn : ∀ r, hp_n h ≤ r → r < hp_n h + 2 → hp_k H r ≠ 101 → SR (sA H A') r := fun r h1 h2 h3 => ⟨by omega, by show r < hp_n H; omega, by show r ≠ hp_r H 90 3; rw [f90]; omega, by show r ≠ hp_r H 95 0; rw [f95]; omega, h3⟩
    have r0 : hp_r (sA H A') (hp_n h) 0 = hp_r h (hp_r h 66 p) 0 := x5
    have r1 : hp_r (sA H A') (hp_n h) 1 = hp_n h + 1 := x6
    obtain ⟨B1, B2, B3, B4, B5, -⟩ := Q.2 _ b1
    have ekn : kh (sA H A') (hp_r h (hp_r h 66 p) 0) = kh h (hp_r h (hp_r h 66 p) 0) := by
      funext i
      unfold kh
      by_cases ci : i < 10
      · rw [if_pos ci, if_pos ci, B5]
        exact (Q.2 _ (c i ci).1).2.2.2.1
      · rw [if_neg ci, if_neg ci, B4]
    refine ⟨⟨srn _ (by omega) (by omega) (by rw [x4.2.2]; decide), x4.2.2⟩, by rw [r0]; exact ⟨B1, by rw [B2]; exact b2⟩, fun i hi => ?_, by rw [r1]; exact ⟨srn _ (by omega) (by omega) (by rw [x10.2.2]; decide), x10.2.2, x11, rfl⟩, ⟨by rw [r0, ekn]; exact ek, mkd_k PK kd6 h0⟩, fun o ho => Or.inl ?_, fun _ => ⟨x14, x15, x16⟩, fun z => absurd x9 z, Or.inl ?_⟩
    · obtain ⟨F1, F2, F3, -⟩ := Q.2 _ (c i hi).1
      rw [r0, B5]
      exact ⟨F1, by rw [F2]; exact (c i hi).2.1, by rw [F3]; exact (c i hi).2.2⟩
    · obtain z | z | z : o = 0 ∨ o = 1 ∨ o = 2 := by omega
      · rw [z]; exact x7
      · rw [z]; exact x8
      · rw [z]; exact x9
    · show A' (hp_n h) 6 = 0
      rw [y2 _ _ (by omega)]; exact x13
  obtain ⟨G3, F3⟩ := gc_P (p := q) (v := hp_n h) (x := some (mkd d (A' (hp_n h + 1)))) G2 hq (Or.inr ⟨_, rfl, CPn, fun q' hq' z => by
    have z' : hp_r H 66 q' = hp_n h := z
    rw [(bl 66 (by omega)).2.2.2.2] at z'
    rcases G.2.2.2.1.1 q' hq' with ⟨_, y⟩ | ⟨_, _, y⟩
    · omega
    · have := y.1.1.2.1
      omega⟩)
  refine ⟨st_r (sA H A') 66 q (hp_n h), A' (hp_n h + 1), ?_, kd6, G3, clf_tr F2 F3⟩
  have g0 : g_r (st_n h 5 10) (hp_r h 66 p) 5 0 = some (hp_r h (hp_r h 66 p) 0) := by
    have o : ok_o (st_n h 5 10) (hp_r h 66 p) 5 := ⟨okp.1, by show _ < hp_n h + 1; omega, by
      have : hp_k (st_n h 5 10) (hp_r h 66 p) = hp_k h (hp_r h 66 p) := if_neg (by omega)
      rw [this]; exact k5⟩
    have e : hp_r (st_n h 5 10) (hp_r h 66 p) = hp_r h (hp_r h 66 p) := if_neg (by omega)
    exact (if_pos o).trans (by rw [e])
  have s66 : s_r (sA H A') 66 (nI q) (hp_n h) = some (st_r (sA H A') 66 q (hp_n h)) := by
    have o66 := G2.2.1.2.2.1.1
    have l66 := G2.2.1.2.2.1.2
    have e : s_r (sA H A') 66 (nI q) (hp_n h) = some (st_r (sA H A') 66 (nI q).toNatClampNeg (hp_n h)) := if_pos ⟨⟨o66, nI_pos (by omega), by rw [nI_clamp (by omega), l66]; omega⟩, Or.inr x4⟩
    rw [e, nI_clamp (by omega)]
  unfold b_X10_make_30 f_X5_withVolatile b_X5_withVolatile_0
  rw [show g_r h 64 10 1 = some 66 from (if_pos GHh.1.1).trans (by rw [GHh.1.2.2.1]), Option.bind_some, show ok_v h (hp_r h 66 p) 5 = some () from if_pos okp, Option.bind_some, g0, Option.bind_some, show ok_h (hp_n h) = some () from if_pos (by omega), Option.bind_some, x1, Option.bind_some, show l_X5_withVolatile_14 fu_ (hp_r h 66 p) (nI v) (hp_n h) (0 : Int32) H = some (hp_n h, sA H A') from y1, Option.bind_some, s66, Option.bind_some, bc_6 hv, Option.bind_some]
theorem s_make (G : GC h g m) (R : GR h g) : TSP Int32.toInt64 (f_L_make 64 a1 a2 a3 125) (f_X11_make 102 a1 a2 a3) h m := by
  have GHh := G.2.1
  rcases p_cs a1 with ca | ⟨p, hp, rfl⟩
  · refine tsp_bad (k := 1) (c := 12) G R (by decide) ?_ (fun H RH => ?_)
    · have e0 : b_L_make_0 64 a1 a2 a3 125 h = none := by
        unfold b_L_make_0 f_X10_make b_X10_make_0
        rw [ov64 GHh, Option.bind_some, (c_np ca).1]; rfl
      unfold f_L_make x_X10_make
      rw [e0, ov64 GHh, Option.bind_some, (c_np ca).2]; rfl
    · obtain ⟨H2, e0, R0, L0, t0, -⟩ := r_thr (v := 1) RH
      refine ⟨0, H2, ?_, R0, L0, t0⟩
      unfold f_X11_make b_X11_make_0
      rw [r_np ca, Option.bind_some, if_neg n10]
      unfold b_X11_make_15 b_X11_make_32
      rw [e0, Option.bind_some, rz_g R0.1, Option.bind_some, t0, if_neg n10]
      rfl
  · rcases p_cs a3 with ca | ⟨q, hq, rfl⟩
    · refine tsp_bad (k := 1) (c := 12) G R (by decide) ?_ (fun H RH => ?_)
      · have e0 : b_L_make_0 64 (nI p) a2 a3 125 h = none := by
          unfold b_L_make_0 f_X10_make b_X10_make_0
          rw [ov64 GHh, Option.bind_some, (c_dp hp).1, Option.bind_some, (c_np ca).1]; rfl
        unfold f_L_make x_X10_make
        rw [e0, ov64 GHh, Option.bind_some, (c_dp hp).2, (c_dp hp).1, Option.bind_some, (c_np ca).2]; rfl
      · obtain ⟨H2, e0, R0, L0, t0, -⟩ := r_thr (v := 1) RH
        refine ⟨0, H2, ?_, R0, L0, t0⟩
        unfold f_X11_make b_X11_make_0
        rw [r_pl hp, Option.bind_some, if_pos rfl]
        unfold b_X11_make_8
        rw [r_np ca, Option.bind_some, if_neg n10]
        unfold b_X11_make_15 b_X11_make_32
        rw [e0, Option.bind_some, rz_g R0.1, Option.bind_some, t0, if_neg n10]
        rfl
    · rcases G.2.2.2.1.1 p hp with ⟨d1, d2⟩ | ⟨d, hd, C⟩
      · refine tsp_bad (k := 2) (c := 13) G R (by decide) ?_ (fun H RH => ?_)
        · have e0 : b_L_make_0 64 (nI p) a2 (nI q) 125 h = none := by
            unfold b_L_make_0 f_X10_make b_X10_make_0
            rw [ov64 GHh, Option.bind_some, (c_dp hp).1, Option.bind_some, (c_dp hq).1, Option.bind_some, ov64 GHh, Option.bind_some, (c_p0 GHh hp d2).1]; rfl
          unfold f_L_make x_X10_make
          rw [e0, ov64 GHh, Option.bind_some, (c_dp hp).2, (c_dp hp).1, Option.bind_some, (c_dp hq).2, Option.bind_some, (c_dp hq).1, Option.bind_some, ov64 GHh, Option.bind_some, (c_p0 GHh hp d2).2]; rfl
        · obtain ⟨H2, e0, R0, L0, t0, -⟩ := r_thr (v := 2) RH
          refine ⟨0, H2, ?_, R0, L0, t0⟩
          unfold f_X11_make b_X11_make_0
          rw [r_pl hp, Option.bind_some, if_pos rfl]
          unfold b_X11_make_8
          rw [r_pl hq, Option.bind_some, if_pos rfl]
          unfold b_X11_make_19
          rw [rz_v RH.1, Option.bind_some, r_em RH hp, Option.bind_some, if_pos d1, if_neg n10]
          unfold b_X11_make_27 b_X11_make_32
          rw [e0, Option.bind_some, rz_g R0.1, Option.bind_some, t0, if_neg (by decide)]
          rfl
      · have C0 := C
        obtain ⟨⟨S, k5⟩, -, -, ⟨e1, e2, e3, e4⟩, ⟨-, PK⟩, -⟩ := C
        have h0 : hp_r h 66 p ≠ 0 := by have := S.1; omega
        obtain ⟨w, w1, w2, w3⟩ := e_cok (k := 0) (kd := pK d) (g := h) (pr := hp_r h 66 p) (sr_ok S k5) (sr_ok e1 e2) e3 e4
        have cC : f_X10_make 64 (nI p) a2 (nI q) h = if (a2 &&& (nI w ^^^ (-1 : Int32))) = 0 then b_X10_make_30 64 a2 (nI q) (hp_r h 66 p) h else b_X10_make_28 h := by
          unfold f_X10_make b_X10_make_0
          rw [(c_dp hp).1, Option.bind_some, (c_dp hq).1, Option.bind_some, ov64 GHh, Option.bind_some, c_pa GHh hp h0, Option.bind_some, show ok_v h (hp_r h 66 p) 5 = some () from if_pos (sr_ok S k5), Option.bind_some, w2, Option.bind_some]
        have nn : ¬ sD g p = none := by rw [hd]; exact Option.some_ne_none _
        have rC : ∀ H, GR H g → ∃ H0, GR H0 g ∧ RLF H H0 ∧ hp_i H0 102 0 = 0 ∧ hp_i H0 102 24 = nI p ∧ f_X11_make 102 (nI p) a2 (nI q) H = (f_X11_isIn a2 (0 : Int32) (63 : Int32) H0).bind fun q2 => if q2.1 = 0 then b_X11_make_59 q2.2 else b_X11_make_61 102 (nI p) a2 (nI q) q2.2 := fun H RH => by
          obtain ⟨H2, e0, R0, L0, t0, -⟩ := r_thr (v := 0) RH
          obtain ⟨R1, L1⟩ := r_24 (p := p) R0
          refine ⟨_, R1, rlf_tr L0 L1, (show up_2 (hp_i H2) 102 24 (nI p) 102 0 = 0 from (u2 (by omega)).trans t0), (show up_2 (hp_i H2) 102 24 (nI p) 102 24 = nI p from u2s), ?_⟩
          unfold f_X11_make b_X11_make_0
          rw [r_pl hp, Option.bind_some, if_pos rfl]
          unfold b_X11_make_8
          rw [r_pl hq, Option.bind_some, if_pos rfl]
          unfold b_X11_make_19
          rw [rz_v RH.1, Option.bind_some, r_em RH hp, Option.bind_some, if_neg nn, if_pos rfl]
          unfold b_X11_make_31 b_X11_make_32
          rw [e0, Option.bind_some, rz_g R0.1, Option.bind_some, t0, if_pos rfl]
          unfold b_X11_make_44
          rw [show p_i H2 102 11 24 (nI p) = some (sA H2 (up_2 (hp_i H2) 102 24 (nI p))) from v_p (A := hp_i H2) R0.1, Option.bind_some]
        by_cases cs : (a2 &&& (nI w ^^^ (-1 : Int32))) = 0
        · obtain ⟨v, v1, rfl, v3⟩ := (sub6 w1).mp cs
          have hz : ∀ c, c < 6 → v.testBit c = true → pK d c = 0 := fun c hc e => (w3 c hc).mp (v3 c hc e)
          obtain ⟨h1, kd, x1, x2, x3, x4⟩ := c_mkv (q := q) G hp hq hd v1 hz
          refine tsp_ok (v := nI (pc6 v)) (h1 := h1) ?_ x3 x4 R (fun H RH _ => ?_)
          · unfold f_L_make b_L_make_0 b_L_make_23
            rw [ov64 GHh, Option.bind_some, cC, if_pos cs, x1, Option.bind_some, sj125 x3.2.1, Option.bind_some]; rfl
          · obtain ⟨H0, R0, L0, t0, h24, e0⟩ := rC H RH
            obtain ⟨A1, y1, y2, y3⟩ := r_m103 (h := H0) (a2 := nI v) R0.1 hp hq 900 fu_ (hp_i H0) (Nat.le_refl _) (by unfold fu_; omega)
            obtain ⟨A2, z1, z2, z3⟩ := r_m146 (h := H0) R0.1 hq v1 6 fu_ A1 (Nat.le_refl _) (by unfold fu_; omega)
            obtain ⟨A3, u1, u2'⟩ := r_fg (p := q) (A := A2) R0.1 hq
            have a3 : ∀ r k, ¬ (r = 111 ∧ 3 * q ≤ k ∧ k < 3 * q + 3) → ¬ (r = 115 ∧ k = q) → ¬ (r = 118 ∧ k = q) → A3 r k = A2 r k := fun r k h2 h3 h4 => by rw [u2', u2 (by omega), u2 (by omega), u2 (by omega), u2 (by omega), u2 (by omega)]
            have kk : ∀ r k, ¬ (r = 106 ∧ 900 * q ≤ k ∧ k < 900 * q + 900) → ¬ (r = 111 ∧ 3 * q ≤ k ∧ k < 3 * q + 3) → ¬ (r = 115 ∧ k = q) → ¬ (r = 118 ∧ k = q) → A3 r k = hp_i H0 r k := fun r k h1 h2 h3 h4 => by
              rw [a3 r k h2 h3 h4, z2 r k (by omega), y2 r k (by omega)]
            have n6 : ∀ k, 6 ≤ k → k < 900 → A3 106 (900 * q + k) = hp_i H0 106 (900 * p + k) := fun k h1 h2 => by
              rw [a3 _ _ (by omega) (by omega) (by omega), z2 _ _ (by omega), y3 k (by omega) h2]
            have nc : ∀ c, c < 6 → A3 106 (900 * q + c) = kd c := fun c hc => by
              rw [a3 _ _ (by omega) (by omega) (by omega), z3 c (by omega) hc, y3 c (by omega) (by omega), (r_dd R0 hp hd).1.2 c hc, x2 c hc]
            have PKn := mkd_k PK x2 hz
            have RP : RPl (sA H0 A3) q (mkd d kd) := by
              refine ⟨?_, nc⟩
              exact lf_cg6 (d := d) (F' := fun k => A3 106 (900 * q + k)) PK n6 (r_dd R0 hp hd).1.1
            have RK : RCk (sA H0 A3) q (mkd d kd) := by
              refine ⟨fun o ho => Or.inl ?_, Or.inl ?_, Or.inl ?_⟩
              · show A3 111 (3 * q + o) = -1
                rw [u2', u2 (by omega), u2 (by omega)]
                obtain z | z | z : o = 0 ∨ o = 1 ∨ o = 2 := by omega
                · subst z; rw [u2 (by omega), u2 (by omega), u2s]
                · subst z; rw [u2 (by omega), u2s]
                · subst z; rw [u2s]
              · show A3 115 q = -1
                rw [u2', u2 (by omega), u2s]
              · show A3 118 q = 0
                rw [u2', u2s]
            refine ⟨sA H0 A3, ?_, ?_, rlf_tr L0 (rl_A (fun r k hr => kk _ _ (by omega) (by omega) (by omega) (by omega))), (kk 102 0 (by omega) (by omega) (by omega) (by omega)).trans t0⟩
            · have n0 : ¬ nI v < 0 := nI_pos (by omega)
              have n63 : ¬ (63 : Int32) < nI v := nI_nlt (a := 63) (by omega) (by omega)
              rw [e0, isin_e, Option.bind_some, if_neg n0, if_neg n63, if_neg n10]
              unfold b_X11_make_61
              rw [show l_X11_make_64 fu_ 102 (nI p) (nI v) (nI q) (0 : Int32) H0 = _ from (r_m64 R0 hp hd h24 v1 6 fu_ (Nat.le_refl _) (by unfold fu_; omega)).1 (fun c _ hc e => hz c hc e)]
              unfold b_X11_make_100
              rw [show l_X11_make_103 fu_ 102 (nI p) (nI v) (nI q) (0 : Int32) H0 = _ from y1]
              unfold b_X11_make_143
              rw [show l_X11_make_146 fu_ 102 (nI v) (nI q) (0 : Int32) (sA H0 A1) = _ from z1]
              unfold b_X11_make_185
              rw [v_v R0.1, Option.bind_some, u1, Option.bind_some, bits_6 v1, Option.bind_some]
            · refine gr_P R0 hq (fun q' hq' e => ⟨⟨fun k hk => kk _ _ (by omega) (by omega) (by omega) (by omega), fun o ho => kk _ _ (by omega) (by omega) (by omega) (by omega), fun o k _ _ => kk _ _ (by omega) (by omega) (by omega) (by omega), kk _ _ (by omega) (by omega) (by omega) (by omega), fun k _ => kk _ _ (by omega) (by omega) (by omega) (by omega), kk _ _ (by omega) (by omega) (by omega) (by omega), fun k _ => kk _ _ (by omega) (by omega) (by omega) (by omega)⟩, if_neg e⟩) ?_ (Or.inr ⟨mkd d kd, if_pos rfl, RP, RK, PKn⟩)
              obtain ⟨-, ⟨⟨a1, a2⟩, ⟨b1, b2⟩, ⟨c1, c2⟩, dd, ⟨e1, e2⟩, f, l, l1, l2⟩, -⟩ := R0
              have uu : ∀ r k, (r = 102 ∨ r = 103 ∨ r = 104 ∨ r = 112 ∨ r = 113) → A3 r k = hp_i H0 r k := fun r k hr => kk r k (by omega) (by omega) (by omega) (by omega)
              exact ⟨⟨(uu _ _ (by omega)).trans a1, fun k hk => (uu _ _ (by omega)).trans (a2 k hk)⟩, ⟨(uu _ _ (by omega)).trans b1, (uu _ _ (by omega)).trans b2⟩, ⟨(uu _ _ (by omega)).trans c1, fun k hk => (uu _ _ (by omega)).trans (c2 k hk)⟩, fun l hl => (uu _ _ (by omega)).trans (dd l hl), ⟨(uu _ _ (by omega)).trans e1, fun k hk => (uu _ _ (by omega)).trans (e2 k hk)⟩, (uu _ _ (by omega)).trans f, l, l1, (uu _ _ (by omega)).trans l2⟩
        · have eL : f_L_make 64 (nI p) a2 (nI q) 125 h = some (0, st_j h 125 0 (-1 : Int32).toInt64) := by
            unfold f_L_make b_L_make_0 b_L_make_23
            rw [ov64 GHh, Option.bind_some, cC, if_neg cs, show b_X10_make_28 h = some (-1, h) from rfl, Option.bind_some, sj125 GHh, Option.bind_some]; rfl
          refine tsp_ok (g' := g) (v := -1) (h1 := h) eL (gc_up G) clf_rf R (fun H RH _ => ?_)
          obtain ⟨H0, R0, L0, t0, h24, e0⟩ := rC H RH
          refine ⟨H0, ?_, R0, L0, t0⟩
          rw [e0]
          rcases rd_cs (a := a2) (M := 64) (by omega) with ⟨v, v1, rfl, e⟩ | ⟨-, e⟩
          · rw [show f_X11_isIn (nI v) (0 : Int32) (63 : Int32) H0 = some (1, H0) from e H0, Option.bind_some, if_neg n10]
            unfold b_X11_make_61
            exact (r_m64 R0 hp hd h24 v1 6 fu_ (Nat.le_refl _) (by unfold fu_; omega)).2 (fun z => cs ((sub6 w1).mpr ⟨v, v1, rfl, fun c hc e => (w3 c hc).mpr (z c (by omega) hc e)⟩))
          · rw [show f_X11_isIn a2 (0 : Int32) (63 : Int32) H0 = some (0, H0) from e H0, Option.bind_some, if_pos rfl]; rfl
end
