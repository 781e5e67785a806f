/-! ===== same: both say the same ===== -/
section
variable {d d' : PD} {t u row : Nat}
theorem tml_t (P : PDk d) (P' : PDk d') (ht : t < (pS d).length) (hu : u < (pS d').length) : (TMl d d' (thx d t) (thx d' u) ↔ TMt d d' t u) ∧ (TMt d d' t u → tk_ d t = tk_ d' u ∧ ∀ z, z ∈ segp (thx d t) (thx d' u) ↔ z ∈ tpr d d' ((pS d).getD t 0) ((pS d').getD u 0) 0 (tk_ d t)) := by
  have D := dcd (d := d) (d' := d') _ _ (stl_t P ht) (stl_t P' hu)
  obtain ⟨-, f2, f3, -, -⟩ := tk_f P ht
  obtain ⟨-, g2, g3, -, -⟩ := tk_f P' hu
  obtain ⟨h1, h2⟩ := sml_g f2 f3 g2 g3 (tk_ d t) 0 (tk_ d' u) (by omega) (by omega)
  refine ⟨⟨fun z i hi => h1.mp (D.1.mp z.2.2) i (Nat.zero_le _) hi, fun w => ⟨m_0 (by decide), m_0 (by decide), D.1.mpr (h1.mpr (fun m _ h2 => w m h2))⟩⟩, fun w => ?_⟩
  have S := h1.mpr (fun m _ h2 => w m h2)
  obtain ⟨y1, y2⟩ := h2 S
  refine ⟨y1, fun z => ?_⟩
  have e : segp (thx d t) (thx d' u) = segp (flt (sgl (fun i => (pE d).getD ((pS d).getD t 0 + i) dE) 0 (tk_ d t))) (flt (sgl (fun i => (pE d').getD ((pS d').getD u 0 + i) dE) 0 (tk_ d' u))) := by
    show (segp _ _ ++ []) ++ [] = _
    rw [List.append_nil, List.append_nil]
  rw [e, D.2 S z, y2]
theorem fpr_0 : fpr d d' row 0 = [] := by rw [fpr]
theorem fpr_s {j : Nat} : fpr d d' row (j + 1) = fpr d d' row j ++ tpr d d' ((pS d).getD ((pS d).length - (j + 1)) 0) ((pS d').getD (piR row ((pS d).length - (j + 1))) 0) 0 (tk_ d ((pS d).length - (j + 1))) := by rw [fpr]
theorem fpr_m {z : Nat × Nat} : ∀ j, j ≤ (pS d).length → (z ∈ fpr d d' row j ↔ ∃ t, (pS d).length - j ≤ t ∧ t < (pS d).length ∧ z ∈ tpr d d' ((pS d).getD t 0) ((pS d').getD (piR row t) 0) 0 (tk_ d t)) := by
  intro j
  induction j with
  | zero => intro _; rw [fpr_0]; exact ⟨fun w => (by cases w), fun ⟨t, h1, h2, _⟩ => by omega⟩
  | succ j ih =>
    intro hj
    rw [fpr_s, List.mem_append, ih (by omega)]
    constructor
    · rintro (⟨t, h1, h2, h3⟩ | w)
      · exact ⟨t, by omega, h2, h3⟩
      · exact ⟨_, Nat.le_refl _, by omega, w⟩
    · rintro ⟨t, h1, h2, h3⟩
      by_cases c : t = (pS d).length - (j + 1)
      · rw [← c]; exact Or.inr h3
      · exact Or.inl ⟨t, by omega, h2, h3⟩
theorem fit_r (P : PDk d) (P' : PDk d') (nt : (pS d).length = (pS d').length) (hp : prm row (pS d).length) : FIT d d' row ↔ RFT d d' (piR row) := by
  have tt := fun t ht => tml_t (t := t) (u := piR row t) P P' ht (by rw [← nt]; exact hp.1 t ht)
  have mm : (∀ t, t < (pS d).length → TMt d d' t (piR row t)) → ∀ z, z ∈ fpr d d' row (pS d).length ↔ z ∈ rpr d d' (piR row) (pS d).length := fun h z => by
    rw [fpr_m _ (Nat.le_refl _), rpr_m]
    exact ⟨fun ⟨t, _, h2, h3⟩ => ⟨t, h2, (((tt t h2).2 (h t h2)).2 z).mpr h3⟩, fun ⟨t, h2, h3⟩ => ⟨t, by omega, h2, (((tt t h2).2 (h t h2)).2 z).mp h3⟩⟩
  constructor
  · intro z
    exact ⟨fun k hk => (tt k hk).1.mpr (z.1 k hk), okM_s (fun x hx => (mm z.1 x).mpr hx) z.2⟩
  · intro z
    have z1 : ∀ t, t < (pS d).length → TMt d d' t (piR row t) := fun k hk => (tt k hk).1.mp (z.1 k hk)
    exact ⟨z1, okM_s (fun x hx => (mm z1 x).mp hx) z.2⟩
def sumn (f : Nat → Nat) : Nat → Nat
  | 0 => 0
  | k + 1 => sumn f k + f k
theorem sumn_0 {f : Nat → Nat} : sumn f 0 = 0 := by rw [sumn]
theorem sumn_s {f : Nat → Nat} {k : Nat} : sumn f (k + 1) = sumn f k + f k := by rw [sumn]
theorem sumn_c {f g : Nat → Nat} : ∀ n, (∀ k, k < n → f k = g k) → sumn f n = sumn g n := by
  intro n
  induction n with
  | zero => intro _; rw [sumn_0, sumn_0]
  | succ n ih => intro h; rw [sumn_s, sumn_s, ih (fun k hk => h k (by omega)), h n (by omega)]
theorem len_s (P : PDk d) : (pE d).length = sumn (fun t => tk_ d t + 1) (pS d).length := by
  have n0 : 0 < (pS d).length := P.1.2.2.1.2.2.2.1
  have st : ∀ t, t < (pS d).length → (pS d).getD t 0 = sumn (fun t => tk_ d t + 1) t := by
    intro t
    induction t with
    | zero => intro ht; rw [sumn_0]; exact P.1.2.2.2.2.2.2.2.1 ht
    | succ t ih =>
      intro ht
      obtain ⟨-, -, -, f4, -⟩ := tk_f P (t := t) (by omega)
      rw [f4 ht, ih (by omega), sumn_s]; omega
  obtain ⟨k, hk⟩ : ∃ k, (pS d).length = k + 1 := ⟨(pS d).length - 1, by omega⟩
  obtain ⟨-, -, -, -, f5⟩ := tk_f P (t := k) (by omega)
  rw [f5 hk.symm, st k (by omega), hk, sumn_s]; omega
theorem sum_p {f σ : Nat → Nat} : ∀ n, n ≤ 4 → (∀ k, k < n → σ k < n) → (∀ k, k < n → ∀ l, l < n → σ k = σ l → k = l) → sumn (fun k => f (σ k)) n = sumn f n := by
  intro n hn hs inj
  have ne : ∀ k, k < n → ∀ l, l < n → k ≠ l → σ k ≠ σ l := fun k hk l hl h z => h (inj k hk l hl z)
  have c : n = 0 ∨ n = 1 ∨ n = 2 ∨ n = 3 ∨ n = 4 := by omega
  rcases c with rfl | rfl | rfl | rfl | rfl
  · rw [sumn_0, sumn_0]
  · rw [sumn_s, sumn_0, sumn_s, sumn_0]
    have h0 := hs 0 (by omega)
    have e : σ 0 = 0 := by omega
    show 0 + f (σ 0) = 0 + f 0
    rw [e]
  · have h0 := hs 0 (by omega)
    have h1 := hs 1 (by omega)
    have e1 := ne 0 (by omega) 1 (by omega) (by omega)
    rw [sumn_s, sumn_s, sumn_0, sumn_s, sumn_s, sumn_0]
    show 0 + f (σ 0) + f (σ 1) = 0 + f 0 + f 1
    generalize σ 0 = a at *
    generalize σ 1 = b at *
    have ca : a = 0 ∨ a = 1 := by omega
    have cb : b = 0 ∨ b = 1 := by omega
    clear hs inj ne
    rcases ca with rfl | rfl <;> rcases cb with rfl | rfl <;> omega
  · have h0 := hs 0 (by omega)
    have h1 := hs 1 (by omega)
    have h2 := hs 2 (by omega)
    have e1 := ne 0 (by omega) 1 (by omega) (by omega)
    have e2 := ne 0 (by omega) 2 (by omega) (by omega)
    have e3 := ne 1 (by omega) 2 (by omega) (by omega)
    rw [sumn_s, sumn_s, sumn_s, sumn_0, sumn_s, sumn_s, sumn_s, sumn_0]
    show 0 + f (σ 0) + f (σ 1) + f (σ 2) = 0 + f 0 + f 1 + f 2
    generalize σ 0 = a at *
    generalize σ 1 = b at *
    generalize σ 2 = c at *
    have ca : a = 0 ∨ a = 1 ∨ a = 2 := by omega
    have cb : b = 0 ∨ b = 1 ∨ b = 2 := by omega
    have cc : c = 0 ∨ c = 1 ∨ c = 2 := by omega
    clear hs inj ne
    rcases ca with rfl | rfl | rfl <;> rcases cb with rfl | rfl | rfl <;> rcases cc with rfl | rfl | rfl <;> omega
  · have h0 := hs 0 (by omega)
    have h1 := hs 1 (by omega)
    have h2 := hs 2 (by omega)
    have h3 := hs 3 (by omega)
    have e1 := ne 0 (by omega) 1 (by omega) (by omega)
    have e2 := ne 0 (by omega) 2 (by omega) (by omega)
    have e3 := ne 1 (by omega) 2 (by omega) (by omega)
    have e4 := ne 0 (by omega) 3 (by omega) (by omega)
    have e5 := ne 1 (by omega) 3 (by omega) (by omega)
    have e6 := ne 2 (by omega) 3 (by omega) (by omega)
    rw [sumn_s, sumn_s, sumn_s, sumn_s, sumn_0, sumn_s, sumn_s, sumn_s, sumn_s, sumn_0]
    show 0 + f (σ 0) + f (σ 1) + f (σ 2) + f (σ 3) = 0 + f 0 + f 1 + f 2 + f 3
    generalize σ 0 = a at *
    generalize σ 1 = b at *
    generalize σ 2 = c at *
    generalize σ 3 = e at *
    have ca : a = 0 ∨ a = 1 ∨ a = 2 ∨ a = 3 := by omega
    have cb : b = 0 ∨ b = 1 ∨ b = 2 ∨ b = 3 := by omega
    have cc : c = 0 ∨ c = 1 ∨ c = 2 ∨ c = 3 := by omega
    have ce : e = 0 ∨ e = 1 ∨ e = 2 ∨ e = 3 := by omega
    clear hs inj ne
    rcases ca with rfl | rfl | rfl | rfl <;> rcases cb with rfl | rfl | rfl | rfl <;> first
      | omega
      | (rcases cc with rfl | rfl | rfl | rfl <;> first
          | omega
          | (rcases ce with rfl | rfl | rfl | rfl <;> omega))
theorem row_e : ∀ n (s : Nat → Nat), (∀ k, k < n → s k < 4) → ∃ row, row < 4 ^ n ∧ ∀ t, t < n → piR row t = s t := by
  intro n
  induction n with
  | zero => intro s _; exact ⟨0, by decide, fun t ht => absurd ht (by omega)⟩
  | succ n ih =>
    intro s hs
    obtain ⟨r, r1, r2⟩ := ih (fun k => s (k + 1)) (fun k hk => hs (k + 1) (by omega))
    have h0 := hs 0 (by omega)
    refine ⟨s 0 + 4 * r, ?_, fun t ht => ?_⟩
    · rw [Nat.pow_succ]
      omega
    · cases t with
      | zero =>
        unfold piR
        rw [Nat.pow_zero, Nat.div_one]
        omega
      | succ t =>
        have := r2 t (by omega)
        unfold piR at *
        rw [Nat.pow_succ, Nat.mul_comm (4 ^ t) 4, ← Nat.div_div_eq_div_mul, show (s 0 + 4 * r) / 4 = r by omega]
        exact this
theorem same_q (P : PDk d) (P' : PDk d') : ((pS d).length = (pS d').length ∧ (pE d).length = (pE d').length ∧ ∃ row, row < 4 ^ (pS d).length ∧ prm row (pS d).length ∧ FIT d d' row) ↔ ((pS d).length = (pS d').length ∧ EXt d d' (fun _ => 0) 0 (fun _ => True)) := by
  have n4 : (pS d).length ≤ 4 := P.1.2.2.1.2.2.1
  constructor
  · rintro ⟨nt, -, row, -, h2, h3⟩
    exact ⟨nt, piR row, fun k hk => absurd hk (by omega), h2.1, h2.2, trivial, (fit_r P P' nt h2).mp h3⟩
  · rintro ⟨nt, σ, -, s2, s3, -, s5⟩
    obtain ⟨row, r1, r2⟩ := row_e (pS d).length σ (fun k hk => by have := s2 k hk; omega)
    have pm : prm row (pS d).length := ⟨fun t ht => by rw [r2 t ht]; exact s2 t ht, fun t ht u hu z => s3 t ht u hu (by rw [← r2 t ht, ← r2 u hu]; exact z)⟩
    refine ⟨nt, ?_, row, r1, pm, (fit_r P P' nt pm).mpr ((rft_c r2).mpr s5)⟩
    have tq : ∀ k, k < (pS d).length → tk_ d k + 1 = tk_ d' (σ k) + 1 := fun k hk => by
      obtain ⟨a, b⟩ := tml_t (t := k) (u := σ k) P P' hk (by rw [← nt]; exact s2 k hk)
      rw [(b (a.mp (s5.1 k hk))).1]
    rw [len_s P, len_s P', ← nt, sumn_c (g := fun k => (fun t => tk_ d' t + 1) (σ k)) _ tq]
    exact sum_p (f := fun t => tk_ d' t + 1) _ n4 s2 s3
end
/-- the reference's answer -/
theorem r_same {H : AH} {p q : Nat} {d d' : PD} (T : TwR H p q d d') (nt : (pS d).length = (pS d').length) : ∃ v A', b_X11_same_81 102 (nI p) (nI q) H = some (v, sA H A') ∧ (v = 0 ∨ v = 1) ∧ (v = 1 ↔ EXt d d' (fun _ => 0) 0 (fun _ => True)) ∧ ∀ r k, r < 120 ∨ 124 < r → A' r k = hp_i H r k := by
  obtain ⟨Z, hp, hq, RP, RQ, P, P'⟩ := id T
  have n4 : (pS d).length ≤ 4 := P.1.2.2.1.2.2.1
  obtain ⟨A1, a1, a2, a3⟩ := r_first (r := 122) Z hp RP P (Z.2.1 (44, 122, 4) (by decide)).2.1 (Z.2.1 (44, 122, 4) (by decide)).2.2 (by omega) (hp_i H) (fun _ => rfl)
  obtain ⟨A2, b1, b2, b3⟩ := r_first (r := 123) Z hq RQ P' (Z.2.1 (45, 123, 4) (by decide)).2.1 (Z.2.1 (45, 123, 4) (by decide)).2.2 (by omega) A1 (fun k => a3 106 k (by omega))
  have K : AKs H d d' A2 := ⟨fun k => (b3 106 k (by omega)).trans (a3 106 k (by omega)), fun t ht => (b3 122 t (by omega)).trans (a2 t ht), b2⟩
  obtain ⟨v, A', x1, x2, x3, x4, -⟩ := r_alk T nt (pS d).length 0 dp_ 0 (fun _ => 0) A2 (by omega) (by unfold dp_; omega) K (fun k hk => absurd hk (by omega)) (fun k hk => absurd hk (by omega)) ⟨by omega, fun i hi => ⟨fun z => by rw [Nat.zero_div] at z; exact absurd z (by decide), fun ⟨k, hk, _⟩ => absurd hk (by omega)⟩⟩
  refine ⟨v, A', ?_, x2, x3, fun r k hr => ?_⟩
  · unfold b_X11_same_81
    rw [rz_r (f := 44) (r := 122) (l := 4) Z (by decide), Option.bind_some, show ok_v H 102 11 = some () from if_pos Z.1, Option.bind_some, show f_X11_firsts 102 (nI p) 122 H = some (sA H A1) from a1, Option.bind_some, rz_r (f := 45) (r := 123) (l := 4) (sA_rz Z) (by decide), Option.bind_some, q_v Z.1, Option.bind_some, b1, Option.bind_some, q_v Z.1, Option.bind_some, show f_X11_alike dp_ 102 (nI p) (nI q) (0 : Int32) (0 : Int32) (sA H A2) = some (v, sA H A') from x1, Option.bind_some]
    exact ok_zv x2
  · rw [x4 r k (by omega) (by omega) (by omega), b3 r k (by omega), a3 r k (by omega)]
section
variable {h : AH} {g : SG} {m : Nat}
theorem gc_L {A : Nat → Nat → Int32} (G : GC h g m) (hA : Fm h A) : GC (sA h A) g m ∧ CLF h (sA h A) := by
  obtain ⟨a, b, c, d, r, tn, t1, t2⟩ := G
  have eA : ∀ r, r ≠ 100 → r ≠ 101 → hp_i (sA h A) r = hp_i h r := fun r h1 h2 => funext (fun k => hA r k h1 h2)
  refine ⟨⟨a, b, ?_, ?_, r, tn, t1, ?_⟩, cl_A (fun r k h1 h2 => hA r k (by omega) (by omega))⟩
  · unfold GVl GVA at *
    rw [eA 64 (by omega) (by omega), eA 65 (by omega) (by omega), eA 72 (by omega) (by omega), eA 73 (by omega) (by omega), eA 67 (by omega) (by omega), eA 74 (by omega) (by omega), eA 98 (by omega) (by omega)]
    exact c
  · obtain ⟨d1, d2⟩ := d
    refine ⟨fun p hp => ?_, d2⟩
    refine (d1 p hp).imp id (fun ⟨x, x1, x2⟩ => ⟨x, x1, cpl_fr (h := h) (h' := sA h A) (x := 0) (sq_of (Nat.le_refl _) (fun r hr _ => ⟨rfl, rfl, eA r (by omega) (by omega), rfl, rfl⟩) rfl rfl) (fun z => ?_) x2⟩)
    have := x2.1.1.1
    have z' : hp_r h 66 p = 0 := z
    omega
  · have w1 := b.2.2.2.2.2.2.2.1
    have w2 := b.2.2.2.2.2.2.2.2
    exact hb_eq (h := h) (h' := sA h A) rfl rfl rfl rfl (eA 90 (by omega) (by omega)) (eA 95 (by omega) (by omega)) (eA _ (by omega) (by omega)) (eA _ (by omega) (by omega)) t2
theorem s_same {a1 a2 : Int32} (G : GC h g m) (R : GR h g) : TSP lgb (f_L_same 64 a1 a2 125) (f_X11_same 102 a1 a2) h m := by
  have GHh := G.2.1
  have e99 : g_r h 64 10 6 = some 99 := (if_pos GHh.1.1).trans (by rw [GHh.1.2.2.2.2.2.2.2])
  rcases p_cs a1 with ca | ⟨p, hp, rfl⟩
  · refine tsp_bad (k := 1) (c := 12) G R (by decide) ?_ (fun H RH => ?_)
    · have e0 : b_L_same_0 64 a1 a2 125 h = none := by
        unfold b_L_same_0 f_X10_same b_X10_same_0
        rw [ov64 GHh, Option.bind_some, (c_np ca).1]; rfl
      unfold f_L_same x_X10_same
      rw [e0, ov64 GHh, Option.bind_some, (c_np ca).2]; rfl
    · obtain ⟨H2, e0, R0, L0, t0, -⟩ := r_thr (v := 1) RH
      refine ⟨0, H2, ?_, R0, L0, t0⟩
      unfold f_X11_same b_X11_same_0
      rw [r_np ca, Option.bind_some, if_neg n10]
      unfold b_X11_same_15 b_X11_same_40
      rw [e0, Option.bind_some, rz_g R0.1, Option.bind_some, t0, if_neg n10]
      exact ok_z_0
  · rcases p_cs a2 with ca | ⟨q, hq, rfl⟩
    · refine tsp_bad (k := 1) (c := 12) G R (by decide) ?_ (fun H RH => ?_)
      · have e0 : b_L_same_0 64 (nI p) a2 125 h = none := by
          unfold b_L_same_0 f_X10_same b_X10_same_0
          rw [ov64 GHh, Option.bind_some, (c_dp hp).1, Option.bind_some, (c_np ca).1]; rfl
        unfold f_L_same x_X10_same
        rw [e0, ov64 GHh, Option.bind_some, (c_dp hp).2, (c_dp hp).1, Option.bind_some, (c_np ca).2]; rfl
      · obtain ⟨H2, e0, R0, L0, t0, -⟩ := r_thr (v := 1) RH
        refine ⟨0, H2, ?_, R0, L0, t0⟩
        unfold f_X11_same b_X11_same_0
        rw [r_pl hp, Option.bind_some, if_pos rfl]
        unfold b_X11_same_8
        rw [r_np ca, Option.bind_some, if_neg n10]
        unfold b_X11_same_15 b_X11_same_40
        rw [e0, Option.bind_some, rz_g R0.1, Option.bind_some, t0, if_neg n10]
        exact ok_z_0
    · rcases G.2.2.2.1.1 p hp with ⟨d1, d2⟩ | ⟨d, hd, C⟩
      · refine tsp_bad (k := 2) (c := 13) G R (by decide) ?_ (fun H RH => ?_)
        · have e0 : b_L_same_0 64 (nI p) (nI q) 125 h = none := by
            unfold b_L_same_0 f_X10_same b_X10_same_0
            rw [ov64 GHh, Option.bind_some, (c_dp hp).1, Option.bind_some, (c_dp hq).1, Option.bind_some, e99, Option.bind_some, ov64 GHh, Option.bind_some, (c_p0 GHh hp d2).1]; rfl
          unfold f_L_same x_X10_same
          rw [e0, ov64 GHh, Option.bind_some, (c_dp hp).2, (c_dp hp).1, Option.bind_some, (c_dp hq).2, Option.bind_some, (c_dp hq).1, Option.bind_some, e99, Option.bind_some, ov64 GHh, Option.bind_some, (c_p0 GHh hp d2).2]; rfl
        · obtain ⟨H2, e0, R0, L0, t0, -⟩ := r_thr (v := 2) RH
          refine ⟨0, H2, ?_, R0, L0, t0⟩
          unfold f_X11_same b_X11_same_0
          rw [r_pl hp, Option.bind_some, if_pos rfl]
          unfold b_X11_same_8
          rw [r_pl hq, Option.bind_some, if_pos rfl]
          unfold b_X11_same_19
          rw [rz_v RH.1, Option.bind_some, r_em RH hp, Option.bind_some, if_pos d1, if_neg n10]
          unfold b_X11_same_35 b_X11_same_40
          rw [e0, Option.bind_some, rz_g R0.1, Option.bind_some, t0, if_neg (by decide)]
          exact ok_z_0
      · have h0 : hp_r h 66 p ≠ 0 := by have := C.1.1.1; omega
        have nn : ¬ sD g p = none := by rw [hd]; exact Option.some_ne_none _
        rcases G.2.2.2.1.1 q hq with ⟨d1, d2⟩ | ⟨d', hd', C'⟩
        · refine tsp_bad (k := 2) (c := 13) G R (by decide) ?_ (fun H RH => ?_)
          · have e0 : b_L_same_0 64 (nI p) (nI q) 125 h = none := by
              unfold b_L_same_0 f_X10_same b_X10_same_0
              rw [ov64 GHh, Option.bind_some, (c_dp hp).1, Option.bind_some, (c_dp hq).1, Option.bind_some, e99, Option.bind_some, ov64 GHh, Option.bind_some, c_pa GHh hp h0, Option.bind_some, ov64 GHh, Option.bind_some, (c_p0 GHh hq d2).1]; rfl
            have x0 : x_X10_programAt 64 (nI p) h = none := by
              unfold x_X10_programAt x_X10_pnull
              rw [(c_dp hp).2, (c_dp hp).1, Option.bind_some, show g_r h 64 10 1 = some 66 from (if_pos GHh.1.1).trans (by rw [GHh.1.2.2.1]), Option.bind_some, l_r66 GHh hp, Option.bind_some, if_neg h0]; rfl
            unfold f_L_same x_X10_same
            rw [e0, ov64 GHh, Option.bind_some, (c_dp hp).2, (c_dp hp).1, Option.bind_some, (c_dp hq).2, Option.bind_some, (c_dp hq).1, Option.bind_some, e99, Option.bind_some, ov64 GHh, Option.bind_some, x0, Option.bind_some, (c_dp hq).1, Option.bind_some, e99, Option.bind_some, ov64 GHh, Option.bind_some, c_pa GHh hp h0, Option.bind_some, ov64 GHh, Option.bind_some, (c_p0 GHh hq d2).2]; rfl
          · obtain ⟨H2, e0, R0, L0, t0, -⟩ := r_thr (v := 2) RH
            refine ⟨0, H2, ?_, R0, L0, t0⟩
            unfold f_X11_same b_X11_same_0
            rw [r_pl hp, Option.bind_some, if_pos rfl]
            unfold b_X11_same_8
            rw [r_pl hq, Option.bind_some, if_pos rfl]
            unfold b_X11_same_19
            rw [rz_v RH.1, Option.bind_some, r_em RH hp, Option.bind_some, if_neg nn, if_pos rfl]
            unfold b_X11_same_27
            rw [rz_v RH.1, Option.bind_some, r_em RH hq, Option.bind_some, if_pos d1, if_neg n10]
            unfold b_X11_same_35 b_X11_same_40
            rw [e0, Option.bind_some, rz_g R0.1, Option.bind_some, t0, if_neg (by decide)]
            exact ok_z_0
        · have h0' : hp_r h 66 q ≠ 0 := by have := C'.1.1.1; omega
          have nn' : ¬ sD g q = none := by rw [hd']; exact Option.some_ne_none _
          have P := C.2.2.2.2.1.2
          have P' := C'.2.2.2.2.1.2
          have GL : GLk h := GHh.2.2.2.2.2.1
          obtain ⟨v, A', c1, c2, c3, c4⟩ := c_holds (h := h) (pr := hp_r h 66 p) (pr' := hp_r h 66 q) ⟨GL, C, C'⟩
          obtain ⟨G1, F1⟩ := gc_L G c4
          have eC : f_L_same 64 (nI p) (nI q) 125 h = some (0, st_j (sA h A') 125 0 (lgb v)) := by
            unfold f_L_same b_L_same_0 f_X10_same b_X10_same_0
            rw [ov64 GHh, Option.bind_some, (c_dp hp).1, Option.bind_some, (c_dp hq).1, Option.bind_some, e99, Option.bind_some, ov64 GHh, Option.bind_some, c_pa GHh hp h0, Option.bind_some, ov64 GHh, Option.bind_some, c_pa GHh hq h0', Option.bind_some, show ok_v h 99 1 = some () from if_pos GL.1, Option.bind_some, c1, Option.bind_some, ok_zv c2, Option.bind_some]
            unfold lgb
            rcases c2 with z | z
            · rw [if_pos z, if_pos z]
              unfold b_L_same_15 b_L_same_16 b_L_same_28
              rw [sj125 G1.2.1, Option.bind_some]
              rfl
            · have nz : ¬ v = 0 := by rw [z]; decide
              rw [if_neg nz, if_neg nz]
              unfold b_L_same_11 b_L_same_16 b_L_same_28
              rw [sj125 G1.2.1, Option.bind_some]
              rfl
          refine tsp_ok (g' := g) (v := v) (h1 := sA h A') eC (gc_up G1) F1 R (fun H RH _ => ?_)
          obtain ⟨H2, e0, R0, L0, t0, -⟩ := r_thr (v := 0) RH
          obtain ⟨RP, RCp⟩ : RPl H2 p d ∧ PDk d := by
            rcases R0.2.2 p hp with ⟨z, -⟩ | ⟨d2, z, y1, -, y2⟩
            · exact absurd z nn
            · have : d2 = d := Option.some.inj (z.symm.trans hd)
              rw [this] at y1
              exact ⟨y1, P⟩
          have RQ : RPl H2 q d' := by
            rcases R0.2.2 q hq with ⟨z, -⟩ | ⟨d2, z, y1, -, y2⟩
            · exact absurd z nn'
            · have : d2 = d' := Option.some.inj (z.symm.trans hd')
              rw [this] at y1
              exact y1
          have eR : f_X11_same 102 (nI p) (nI q) H = b_X11_same_50 102 (nI p) (nI q) H2 := by
            unfold f_X11_same b_X11_same_0
            rw [r_pl hp, Option.bind_some, if_pos rfl]
            unfold b_X11_same_8
            rw [r_pl hq, Option.bind_some, if_pos rfl]
            unfold b_X11_same_19
            rw [rz_v RH.1, Option.bind_some, r_em RH hp, Option.bind_some, if_neg nn, if_pos rfl]
            unfold b_X11_same_27
            rw [rz_v RH.1, Option.bind_some, r_em RH hq, Option.bind_some, if_neg nn', if_pos rfl]
            unfold b_X11_same_39 b_X11_same_40
            rw [e0, Option.bind_some, rz_g R0.1, Option.bind_some, t0, if_pos rfl]
          have n4 : (pS d).length ≤ 4 := P.1.2.2.1.2.2.1
          have n4' : (pS d').length ≤ 4 := P'.1.2.2.1.2.2.1
          have e50 : b_X11_same_50 102 (nI p) (nI q) H2 = if nI (pS d).length = nI (pS d').length then b_X11_same_81 102 (nI p) (nI q) H2 else b_X11_same_79 H2 := by
            have f7 : hp_i H2 106 (900 * p + 7) = nI (pS d).length := RP.1.1.2.1
            have f7' : hp_i H2 106 (900 * q + 7) = nI (pS d').length := RQ.1.1.2.1
            unfold b_X11_same_50
            rw [rz_r (f := 9) (r := 106) (l := 7200) R0.1 (by decide), Option.bind_some, mu, da, rz_l (f := 9) (r := 106) (l := 7200) R0.1 (by decide) (by omega) (by omega), Option.bind_some, Option.bind_some, mu, da, rz_l (f := 9) (r := 106) (l := 7200) R0.1 (by decide) (by omega) (by omega), Option.bind_some, f7, f7']
          by_cases nt : (pS d).length = (pS d').length
          · rw [if_pos (by rw [nt])] at e50
            obtain ⟨u, B, b1, b2, b3, b4⟩ := r_same (H := H2) (p := p) (q := q) (d := d) (d' := d') ⟨R0.1, hp, hq, RP, RQ, P, P'⟩ nt
            have uv : u = v := by
              have w : u = 1 ↔ v = 1 := b3.trans (c3.trans ((same_q P P').trans ⟨fun z => z.2, fun z => ⟨nt, z⟩⟩)).symm
              rcases b2 with z | z
              · rcases c2 with y | y
                · rw [z, y]
                · have := w.mpr y
                  rw [z] at this; exact absurd this (by decide)
              · rw [z, w.mp z]
            have eB : ∀ r, r < 120 ∨ 124 < r → hp_i (sA H2 B) r = hp_i H2 r := fun r hr => funext (fun k => b4 r k hr)
            refine ⟨sA H2 B, by rw [eR, e50, b1, uv], gr_A R0 (fun r k hr => b4 r k (by omega)) ?_ rfl, rlf_tr L0 (rl_A (fun r k hr => b4 r k (by omega))), (b4 102 0 (by omega)).trans t0⟩
            have V := R0.2.1
            unfold RVl at V
            unfold RVA at *
            have e2 : ∀ r, r < 120 ∨ 124 < r → B r = hp_i H2 r := fun r hr => funext (fun k => b4 r k hr)
            rw [e2 102 (by omega), e2 103 (by omega), e2 104 (by omega), e2 112 (by omega), e2 113 (by omega)]
            exact V
          · rw [if_neg (fun z => nt ((nI_eq (by omega) (by omega)).mp z))] at e50
            have v0 : v = 0 := c2.resolve_right (fun z => nt (c3.mp z).1)
            exact ⟨H2, by rw [eR, e50, v0]; exact ok_z_0, R0, L0, t0⟩
end
