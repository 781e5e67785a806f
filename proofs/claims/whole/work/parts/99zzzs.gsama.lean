/-! ===== same: the reference's permutations ===== -/
def rpr (d d' : PD) (σ : Nat → Nat) : Nat → MP
  | 0 => []
  | k + 1 => segp (thx d k) (thx d' (σ k)) ++ rpr d d' σ k
theorem rpr_0 {d d' : PD} {σ : Nat → Nat} : rpr d d' σ 0 = [] := by rw [rpr]
theorem rpr_s {d d' : PD} {σ : Nat → Nat} {k : Nat} : rpr d d' σ (k + 1) = segp (thx d k) (thx d' (σ k)) ++ rpr d d' σ k := by rw [rpr]
def RFT (d d' : PD) (σ : Nat → Nat) : Prop := (∀ k, k < (pS d).length → TMl d d' (thx d k) (thx d' (σ k))) ∧ okM (rpr d d' σ (pS d).length)
theorem rpr_c {d d' : PD} {σ τ : Nat → Nat} : ∀ n, (∀ k, k < n → σ k = τ k) → rpr d d' σ n = rpr d d' τ n := by
  intro n
  induction n with
  | zero => intro _; rw [rpr_0, rpr_0]
  | succ n ih => intro h; rw [rpr_s, rpr_s, ih (fun k hk => h k (by omega)), h n (by omega)]
theorem rpr_m {d d' : PD} {σ : Nat → Nat} {z : Nat × Nat} : ∀ n, z ∈ rpr d d' σ n ↔ ∃ t, t < n ∧ z ∈ segp (thx d t) (thx d' (σ t)) := by
  intro n
  induction n with
  | zero => rw [rpr_0]; exact ⟨fun w => (by cases w), fun ⟨t, h, _⟩ => absurd h (by omega)⟩
  | succ n ih =>
    rw [rpr_s, List.mem_append, ih]
    constructor
    · rintro (w | ⟨t, h1, h2⟩)
      · exact ⟨n, by omega, w⟩
      · exact ⟨t, by omega, h2⟩
    · rintro ⟨t, h1, h2⟩
      by_cases c : t = n
      · rw [c] at h2; exact Or.inl h2
      · exact Or.inr ⟨t, by omega, h2⟩
theorem rft_c {d d' : PD} {σ τ : Nat → Nat} (h : ∀ k, k < (pS d).length → σ k = τ k) : RFT d d' σ ↔ RFT d d' τ := by
  unfold RFT
  rw [rpr_c _ h]
  exact ⟨fun z => ⟨fun k hk => by rw [← h k hk]; exact z.1 k hk, z.2⟩, fun z => ⟨fun k hk => by rw [h k hk]; exact z.1 k hk, z.2⟩⟩
def BM (m : Nat) (τ : Nat → Nat) (t : Nat) : Prop := m < 16 ∧ ∀ i, i < 4 → (m / 2 ^ i % 2 = 1 ↔ ∃ k, k < t ∧ τ k = i)
theorem bm_t : ∀ m, m < 16 → ∀ i, i < 4 → ((((nI m >>> (nI i &&& 31)) &&& (1 : Int32)) = (1 : Int32)) ↔ m / 2 ^ i % 2 = 1) := by decide +kernel
theorem bm_o : ∀ m, m < 16 → ∀ i, i < 4 → nI m ||| ((1 : Int32) <<< (nI i &&& 31)) = nI (m ||| 2 ^ i) ∧ m ||| 2 ^ i < 16 ∧ ∀ k, k < 4 → ((m ||| 2 ^ i) / 2 ^ k % 2 = 1 ↔ k = i ∨ m / 2 ^ k % 2 = 1) := by decide +kernel
section
variable {H : AH} {p q : Nat} {d d' : PD}
def AKs (H : AH) (d d' : PD) (A : Nat → Nat → Int32) : Prop := (∀ k, A 106 k = hp_i H 106 k) ∧ (∀ t, t < (pS d).length → A 122 t = nI (off d t)) ∧ ∀ u, u < (pS d').length → A 123 u = nI (off d' u)
theorem aks_f {A A' : Nat → Nat → Int32} (K : AKs H d d' A) (h : ∀ r k, r ≠ 120 → r ≠ 121 → r ≠ 124 → A' r k = A r k) : AKs H d d' A' := ⟨fun k => (h 106 k (by omega) (by omega) (by omega)).trans (K.1 k), fun t ht => (h 122 t (by omega) (by omega) (by omega)).trans (K.2.1 t ht), fun t ht => (h 123 t (by omega) (by omega) (by omega)).trans (K.2.2 t ht)⟩
/-- the names are forgotten -/
theorem r_clr {rc : Nat → Int32 → Int32 → Int32 → Int32 → AH → Option (Int32 × AH)} {n : Int32} (Z : RZ H) : ∀ j fu (A : Nat → Nat → Int32), j ≤ 800 → j < fu → ∃ A', l_X11_alike_24 rc fu 102 (nI p) (nI q) n (nI (800 - j)) (sA H A) = b_X11_alike_54 rc 102 (nI p) (nI q) n (sA H A') ∧ (∀ k, 800 - j ≤ k → k < 800 → A' 120 k = -1 ∧ A' 121 k = -1) ∧ ∀ r k, ((r ≠ 120 ∧ r ≠ 121) ∨ k < 800 - j) → A' r k = A r k := by
  intro j
  induction j with
  | zero =>
    intro fu A _ hf
    obtain ⟨fu, rfl⟩ : ∃ f', fu = f' + 1 := ⟨fu - 1, by omega⟩
    refine ⟨A, ?_, fun k h1 h2 => by omega, fun _ _ _ => rfl⟩
    show b_X11_alike_24 rc (l_X11_alike_24 rc fu) 102 (nI p) (nI q) n (nI 800) (sA H A) = _
    unfold b_X11_alike_24
    rw [if_pos (show (800 : Int32) ≤ nI 800 from nI_le (b := 800) (a := 800) (by omega) (by omega))]
  | succ j ih =>
    intro fu A hj hf
    obtain ⟨fu, rfl⟩ : ∃ f', fu = f' + 1 := ⟨fu - 1, by omega⟩
    have ej : 800 - j = 800 - (j + 1) + 1 := by omega
    obtain ⟨A', x1, x2, x3⟩ := ih fu (up_2 (up_2 A 120 (800 - (j + 1)) (-1)) 121 (800 - (j + 1)) (-1)) (by omega) (by omega)
    rw [ej] at x1 x2 x3
    generalize hi : 800 - (j + 1) = i at *
    refine ⟨A', ?_, fun k h1 h2 => ?_, fun r k h => ?_⟩
    · show b_X11_alike_24 rc (l_X11_alike_24 rc fu) 102 (nI p) (nI q) n (nI i) (sA H A) = _
      unfold b_X11_alike_24
      rw [if_neg (show ¬ (800 : Int32) ≤ nI i from nI_ge (b := 800) (by omega) (by omega))]
      unfold b_X11_alike_32
      rw [rz_r (f := 42) (r := 120) (l := 800) (sA_rz Z) (by decide), Option.bind_some, show s_i (sA H A) 120 (nI i) (-1 : Int32) = some (sA H (up_2 A 120 i (-1))) from rz_s (f := 42) (r := 120) (l := 800) (sA_rz Z) (by decide) (by omega) (by omega), Option.bind_some, rz_r (f := 43) (r := 121) (l := 800) (sA_rz Z) (by decide), Option.bind_some, show s_i (sA H (up_2 A 120 i (-1))) 121 (nI i) (-1 : Int32) = some (sA H (up_2 (up_2 A 120 i (-1)) 121 i (-1))) from rz_s (f := 43) (r := 121) (l := 800) (sA_rz Z) (by decide) (by omega) (by omega), Option.bind_some, da]
      exact x1
    · by_cases c : k = i
      · rw [c, x3 120 i (Or.inr (by omega)), x3 121 i (Or.inr (by omega)), u2s, u2 (Or.inl (by omega)), u2s]
        exact ⟨rfl, rfl⟩
      · exact x2 k (by omega) h2
    · rw [x3 r k (h.imp id (fun z => by omega)), u2 (h.elim (fun z => Or.inl z.2) (fun z => Or.inr (by omega))), u2 (h.elim (fun z => Or.inl z.1) (fun z => Or.inr (by omega)))]
/-- the threads one after another -/
theorem r_loop {rc : Nat → Int32 → Int32 → Int32 → Int32 → AH → Option (Int32 × AH)} {σ : Nat → Nat} (T : TwR H p q d d') (nt : (pS d).length = (pS d').length) (hσ : ∀ k, k < (pS d).length → σ k < (pS d).length) : ∀ j k fu (A : Nat → Nat → Int32), k + j = (pS d).length → j + 1 < fu → AKs H d d' A → (∀ i, i < (pS d).length → A 124 i = nI (σ i)) → NSt (fun z => z) A 120 121 (rpr d d' σ k) → okM (rpr d d' σ k) →
    ∃ v A', l_X11_alike_60 rc fu 102 (nI p) (nI q) (nI (pS d).length) 1 (nI k) (sA H A) = some (v, sA H A') ∧ (v = 0 ∨ v = 1) ∧ (v = 1 ↔ (∀ i, k ≤ i → i < (pS d).length → TMl d d' (thx d i) (thx d' (σ i))) ∧ okM (rpr d d' σ (pS d).length)) ∧ ∀ r k, r ≠ 120 → r ≠ 121 → A' r k = A r k := by
  obtain ⟨Z, hp, hq, RP, RQ, P, P'⟩ := id T
  have n4 : (pS d).length ≤ 4 := P.1.2.2.1.2.2.1
  intro j
  induction j with
  | zero =>
    intro k fu A hk hf K h124 N O
    obtain ⟨fu, rfl⟩ : ∃ f', fu = f' + 1 := ⟨fu - 1, by omega⟩
    have ek : k = (pS d).length := by omega
    rw [ek] at O
    refine ⟨1, A, ?_, Or.inr rfl, ⟨fun _ => ⟨fun i h1 h2 => by omega, O⟩, fun _ => rfl⟩, fun _ _ _ _ => rfl⟩
    show b_X11_alike_60 rc (l_X11_alike_60 rc fu) 102 (nI p) (nI q) (nI (pS d).length) 1 (nI k) (sA H A) = _
    unfold b_X11_alike_60
    rw [if_pos (nI_le (by omega) (by omega))]
    exact ok_z_1
  | succ j ih =>
    intro k fu A hk hf K h124 N O
    obtain ⟨fu, rfl⟩ : ∃ f', fu = f' + 1 := ⟨fu - 1, by omega⟩
    have hs := hσ k (by omega)
    have e0 : l_X11_alike_60 rc (fu + 1) 102 (nI p) (nI q) (nI (pS d).length) 1 (nI k) (sA H A) = (f_X11_tokensAlike 102 (nI p) (nI (off d k)) (nI q) (nI (off d' (σ k))) (sA H A)).bind fun q8 => l_X11_alike_60 rc fu 102 (nI p) (nI q) (nI (pS d).length) q8.1 (nI (k + 1)) q8.2 := by
      show b_X11_alike_60 rc (l_X11_alike_60 rc fu) 102 (nI p) (nI q) (nI (pS d).length) 1 (nI k) (sA H A) = _
      unfold b_X11_alike_60
      rw [if_neg (nI_ge (by omega) (by omega))]
      unfold b_X11_alike_67
      rw [if_neg n10]
      unfold b_X11_alike_72
      rw [rz_r (f := 44) (r := 122) (l := 4) (sA_rz Z) (by decide), Option.bind_some, show l_i (sA H A) 122 (nI k) = some (A 122 k) from rz_l (f := 44) (r := 122) (l := 4) (sA_rz Z) (by decide) (by omega) (by omega), Option.bind_some, rz_r (f := 45) (r := 123) (l := 4) (sA_rz Z) (by decide), Option.bind_some, rz_r (f := 46) (r := 124) (l := 4) (sA_rz Z) (by decide), Option.bind_some, show l_i (sA H A) 124 (nI k) = some (A 124 k) from rz_l (f := 46) (r := 124) (l := 4) (sA_rz Z) (by decide) (by omega) (by omega), Option.bind_some, h124 k (by omega), show l_i (sA H A) 123 (nI (σ k)) = some (A 123 (σ k)) from rz_l (f := 45) (r := 123) (l := 4) (sA_rz Z) (by decide) (by omega) (by omega), Option.bind_some, q_v Z.1, Option.bind_some, K.2.1 k (by omega), K.2.2 (σ k) (by omega), da]
    rcases r_two (t := k) (u := σ k) T (by omega) (by omega) K.1 N O with ⟨⟨t1, t2⟩, A1, t3, t4, t5⟩ | ⟨t1, A1, t4, t5⟩
    · rw [← rpr_s] at t2 t3
      obtain ⟨v, A', x1, x2, x3, x4⟩ := ih (k + 1) fu A1 (by omega) (by omega) (aks_f K (fun r k h1 h2 _ => t4 r k h1 h2)) (fun i hi => by rw [t4 124 i (by omega) (by omega)]; exact h124 i hi) t3 t2
      refine ⟨v, A', ?_, x2, x3.trans ⟨fun w => ⟨fun i h1 h2 => ?_, w.2⟩, fun w => ⟨fun i h1 h2 => w.1 i (by omega) h2, w.2⟩⟩, fun r k h1 h2 => (x4 r k h1 h2).trans (t4 r k h1 h2)⟩
      · rw [e0, t5, Option.bind_some]
        exact x1
      · by_cases c : i = k
        · rw [c]; exact t1
        · exact w.1 i (by omega) h2
    · refine ⟨0, A1, ?_, Or.inl rfl, ⟨fun w => absurd w (by decide), fun w => ?_⟩, t4⟩
      · rw [e0, t5, Option.bind_some]
        obtain ⟨fu, rfl⟩ : ∃ f', fu = f' + 1 := ⟨fu - 1, by omega⟩
        show b_X11_alike_60 rc (l_X11_alike_60 rc fu) 102 (nI p) (nI q) (nI (pS d).length) 0 (nI (k + 1)) (sA H A1) = _
        unfold b_X11_alike_60
        by_cases c : nI (pS d).length ≤ nI (k + 1)
        · rw [if_pos c]; exact ok_z_0
        · rw [if_neg c]
          unfold b_X11_alike_67
          rw [if_pos rfl]; exact ok_z_0
      · refine absurd ⟨w.1 k (by omega) (by omega), ?_⟩ t1
        rw [← rpr_s]
        refine okM_s (fun x hx => ?_) w.2
        obtain ⟨t, h1, h2⟩ := (rpr_m _).mp hx
        exact (rpr_m _).mpr ⟨t, by omega, h2⟩
/-- what alike says from thread t on -/
def EXt (d d' : PD) (τ : Nat → Nat) (t : Nat) (Q : Nat → Prop) : Prop := ∃ σ : Nat → Nat, (∀ k, k < t → σ k = τ k) ∧ (∀ k, k < (pS d).length → σ k < (pS d).length) ∧ (∀ k, k < (pS d).length → ∀ l, l < (pS d).length → σ k = σ l → k = l) ∧ Q (σ t) ∧ RFT d d' σ
theorem r_alk (T : TwR H p q d d') (nt : (pS d).length = (pS d').length) : ∀ j t D m τ (A : Nat → Nat → Int32), t + j = (pS d).length → j < D → AKs H d d' A → (∀ k, k < t → τ k < (pS d).length ∧ A 124 k = nI (τ k)) → (∀ k, k < t → ∀ l, l < t → τ k = τ l → k = l) → BM m τ t →
    ∃ v A', f_X11_alike D 102 (nI p) (nI q) (nI t) (nI m) (sA H A) = some (v, sA H A') ∧ (v = 0 ∨ v = 1) ∧ (v = 1 ↔ EXt d d' τ t (fun _ => True)) ∧ (∀ r k, r ≠ 120 → r ≠ 121 → r ≠ 124 → A' r k = A r k) ∧ ∀ k, k < t → A' 124 k = A 124 k := by
  obtain ⟨Z, hp, hq, RP, RQ, P, P'⟩ := id T
  have n4 : (pS d).length ≤ 4 := P.1.2.2.1.2.2.1
  have g9 : ∀ B : Nat → Nat → Int32, g_r (sA H B) 102 11 9 = some 106 := fun B => rz_r (f := 9) (r := 106) (l := 7200) (sA_rz Z) (by decide)
  have l106 : ∀ (B : Nat → Nat → Int32) k, k < 7200 → l_i (sA H B) 106 (nI k) = some (B 106 k) := fun B k hk => rz_l (f := 9) (r := 106) (l := 7200) (sA_rz Z) (by decide) hk (by omega)
  have f7 : hp_i H 106 (900 * p + 7) = nI (pS d).length := RP.1.1.2.1
  intro j
  induction j with
  | zero =>
    intro t D m τ A ht hD K hτ inj hm
    obtain ⟨D, rfl⟩ : ∃ f', D = f' + 1 := ⟨D - 1, by omega⟩
    have et : t = (pS d).length := by omega
    obtain ⟨A1, y1, y2, y3⟩ := r_clr (rc := f_X11_alike D) (p := p) (q := q) (n := nI (pS d).length) Z 800 fu_ A (Nat.le_refl _) (by unfold fu_; omega)
    rw [Nat.sub_self] at y1
    have fr1 : ∀ r k, r ≠ 120 → r ≠ 121 → A1 r k = A r k := fun r k h1 h2 => y3 r k (Or.inl ⟨h1, h2⟩)
    have vn8 : ∀ a, VN a → a < 800 := fun a va => by unfold VN at va; omega
    obtain ⟨v, A', x1, x2, x3, x4⟩ := r_loop (rc := f_X11_alike D) (σ := τ) T nt (fun k hk => (hτ k (by omega)).1) (pS d).length 0 fu_ A1 (by omega) (by unfold fu_; omega) (aks_f K (fun r k h1 h2 _ => fr1 r k h1 h2)) (fun i hi => by rw [fr1 124 i (by omega) (by omega)]; exact (hτ i (by omega)).2) (by
      rw [rpr_0]
      exact ⟨fun x hx => (by cases hx), fun a va _ => (y2 a (Nat.zero_le _) (vn8 a va)).1, fun a va _ => (y2 a (Nat.zero_le _) (vn8 a va)).2⟩) (by rw [rpr_0]; exact fun x hx => (by cases hx))
    refine ⟨v, A', ?_, x2, x3.trans ⟨fun w => ⟨τ, fun _ _ => rfl, fun k hk => (hτ k (by omega)).1, fun k hk l hl => inj k (by omega) l (by omega), trivial, fun k hk => w.1 k (Nat.zero_le _) hk, w.2⟩, fun ⟨σ, s1, _, _, _, s5⟩ => ?_⟩, fun r k h1 h2 _ => (x4 r k h1 h2).trans (fr1 r k h1 h2), fun k hk => (x4 124 k (by omega) (by omega)).trans (fr1 124 k (by omega) (by omega))⟩
    · show b_X11_alike_0 (f_X11_alike D) 102 (nI p) (nI q) (nI t) (nI m) (sA H A) = _
      unfold b_X11_alike_0
      rw [g9, Option.bind_some, mu, da, l106 A _ (by omega), Option.bind_some, K.1, f7, if_pos (by rw [et])]
      exact y1.trans x1
    · have := (rft_c (fun k hk => s1 k (by omega))).mp s5
      exact ⟨fun i _ hi => this.1 i hi, this.2⟩
  | succ j ih =>
    intro t D m τ A ht hD K hτ inj hm
    obtain ⟨D, rfl⟩ : ∃ f', D = f' + 1 := ⟨D - 1, by omega⟩
    have e0 : f_X11_alike (D + 1) 102 (nI p) (nI q) (nI t) (nI m) (sA H A) = l_X11_alike_111 (f_X11_alike D) fu_ 102 (nI p) (nI q) (nI t) (nI m) (nI (pS d).length) (nI 0) (sA H A) := by
      show b_X11_alike_0 (f_X11_alike D) 102 (nI p) (nI q) (nI t) (nI m) (sA H A) = _
      unfold b_X11_alike_0
      rw [g9, Option.bind_some, mu, da, l106 A _ (by omega), Option.bind_some, K.1, f7, if_neg (fun z => by have := (nI_eq (by omega) (by omega)).mp z; omega)]
      rfl
    have key : ∀ jj i fu (B : Nat → Nat → Int32), i + jj = (pS d).length → jj < fu → AKs H d d' B → (∀ k, k < t → B 124 k = nI (τ k)) →
        ∃ v A', l_X11_alike_111 (f_X11_alike D) fu 102 (nI p) (nI q) (nI t) (nI m) (nI (pS d).length) (nI i) (sA H B) = some (v, sA H A') ∧ (v = 0 ∨ v = 1) ∧ (v = 1 ↔ EXt d d' τ t (fun s => i ≤ s)) ∧ (∀ r k, r ≠ 120 → r ≠ 121 → r ≠ 124 → A' r k = B r k) ∧ ∀ k, k < t → A' 124 k = B 124 k := by
      intro jj
      induction jj with
      | zero =>
        intro i fu B hi hf KB hB
        obtain ⟨fu, rfl⟩ : ∃ f', fu = f' + 1 := ⟨fu - 1, by omega⟩
        refine ⟨0, B, ?_, Or.inl rfl, ⟨fun w => absurd w (by decide), fun ⟨σ, _, s2, _, s4, _⟩ => ?_⟩, fun _ _ _ _ _ => rfl, fun _ _ => rfl⟩
        · show b_X11_alike_111 (f_X11_alike D) (l_X11_alike_111 (f_X11_alike D) fu) 102 (nI p) (nI q) (nI t) (nI m) (nI (pS d).length) (nI i) (sA H B) = _
          unfold b_X11_alike_111
          rw [if_pos (nI_le (by omega) (by omega))]
          exact ok_z_0
        · have := s2 t (by omega)
          omega
      | succ jj ih2 =>
        intro i fu B hi hf KB hB
        obtain ⟨fu, rfl⟩ : ∃ f', fu = f' + 1 := ⟨fu - 1, by omega⟩
        have e1 : l_X11_alike_111 (f_X11_alike D) (fu + 1) 102 (nI p) (nI q) (nI t) (nI m) (nI (pS d).length) (nI i) (sA H B) = if ((nI m >>> (nI i &&& 31)) &&& (1 : Int32)) = (1 : Int32) then b_X11_alike_129 (f_X11_alike D) (l_X11_alike_111 (f_X11_alike D) fu) 102 (nI p) (nI q) (nI t) (nI m) (nI (pS d).length) (nI i) (sA H B) else b_X11_alike_132 (f_X11_alike D) (l_X11_alike_111 (f_X11_alike D) fu) 102 (nI p) (nI q) (nI t) (nI m) (nI (pS d).length) (nI i) (sA H B) := by
          show b_X11_alike_111 (f_X11_alike D) (l_X11_alike_111 (f_X11_alike D) fu) 102 (nI p) (nI q) (nI t) (nI m) (nI (pS d).length) (nI i) (sA H B) = _
          unfold b_X11_alike_111
          rw [if_neg (nI_ge (by omega) (by omega))]
          rfl
        by_cases hb : m / 2 ^ i % 2 = 1
        · obtain ⟨k0, k1, k2⟩ := (hm.2 i (by omega)).mp hb
          obtain ⟨v, A', x1, x2, x3, x4, x5⟩ := ih2 (i + 1) fu B (by omega) (by omega) KB hB
          refine ⟨v, A', ?_, x2, x3.trans ⟨fun ⟨σ, s1, s2, s3, s4, s5⟩ => ⟨σ, s1, s2, s3, by omega, s5⟩, fun ⟨σ, s1, s2, s3, s4, s5⟩ => ⟨σ, s1, s2, s3, ?_, s5⟩⟩, x4, x5⟩
          · rw [e1, if_pos ((bm_t m hm.1 i (by omega)).mpr hb)]
            unfold b_X11_alike_129 b_X11_alike_161
            rw [da]
            exact x1
          · have : σ t ≠ i := fun z => by
              have := s3 t (by omega) k0 (by omega) (by rw [z, s1 k0 k1, k2])
              omega
            omega
        · obtain ⟨o1, o2, o3⟩ := bm_o m hm.1 i (by omega)
          have nb : ∀ k, k < t → τ k ≠ i := fun k hk z => hb ((hm.2 i (by omega)).mpr ⟨k, hk, z⟩)
          obtain ⟨v, A1, x1, x2, x3, x4, x5⟩ := ih (t + 1) D (m ||| 2 ^ i) (fun k => if k = t then i else τ k) (up_2 B 124 t (nI i)) (by omega) (by omega) (aks_f KB (fun r k h1 h2 h3 => u2 (Or.inl h3))) (fun k hk => by
            by_cases c : k = t
            · rw [c, if_pos rfl, u2s]
              exact ⟨by omega, rfl⟩
            · rw [if_neg c, u2 (Or.inr c)]
              exact ⟨(hτ k (by omega)).1, hB k (by omega)⟩) (fun k hk l hl z => by
            by_cases c : k = t
            · by_cases c' : l = t
              · omega
              · rw [if_pos c, if_neg c'] at z
                exact absurd z.symm (nb l (by omega))
            · by_cases c' : l = t
              · rw [if_neg c, if_pos c'] at z
                exact absurd z (nb k (by omega))
              · rw [if_neg c, if_neg c'] at z
                exact inj k (by omega) l (by omega) z) ⟨o2, fun k hk => (o3 k hk).trans ⟨fun w => by
              rcases w with w | w
              · exact ⟨t, by omega, (if_pos rfl).trans w.symm⟩
              · obtain ⟨k1, k2, k3⟩ := (hm.2 k hk).mp w
                exact ⟨k1, by omega, (if_neg (show ¬ k1 = t by omega)).trans k3⟩, fun ⟨k1, k2, k3⟩ => by
              have k3 : (if k1 = t then i else τ k1) = k := k3
              by_cases c : k1 = t
              · rw [if_pos c] at k3; exact Or.inl k3.symm
              · rw [if_neg c] at k3; exact Or.inr ((hm.2 k hk).mpr ⟨k1, by omega, k3⟩)⟩⟩
          have e2 : l_X11_alike_111 (f_X11_alike D) (fu + 1) 102 (nI p) (nI q) (nI t) (nI m) (nI (pS d).length) (nI i) (sA H B) = if v = 0 then l_X11_alike_111 (f_X11_alike D) fu 102 (nI p) (nI q) (nI t) (nI m) (nI (pS d).length) (nI (i + 1)) (sA H A1) else ok_z 1 (sA H A1) := by
            rw [e1, if_neg (fun z => hb ((bm_t m hm.1 i (by omega)).mp z))]
            unfold b_X11_alike_132
            rw [rz_r (f := 46) (r := 124) (l := 4) (sA_rz Z) (by decide), Option.bind_some, show s_i (sA H B) 124 (nI t) (nI i) = some (sA H (up_2 B 124 t (nI i))) from rz_s (f := 46) (r := 124) (l := 4) (sA_rz Z) (by decide) (by omega) (by omega), Option.bind_some, q_v Z.1, Option.bind_some, da, o1, x1, Option.bind_some]
            unfold b_X11_alike_161 b_X11_alike_159
            rw [da]
          have fr1 : ∀ r k, r ≠ 120 → r ≠ 121 → r ≠ 124 → A1 r k = B r k := fun r k h1 h2 h3 => (x4 r k h1 h2 h3).trans (u2 (Or.inl h3))
          have fr2 : ∀ k, k < t → A1 124 k = B 124 k := fun k hk => (x5 k (by omega)).trans (u2 (Or.inr (by omega)))
          rcases x2 with z | z
          · obtain ⟨v', A', y1, y2, y3, y4, y5⟩ := ih2 (i + 1) fu A1 (by omega) (by omega) (aks_f KB fr1) (fun k hk => (fr2 k hk).trans (hB k hk))
            refine ⟨v', A', by rw [e2, if_pos z]; exact y1, y2, y3.trans ⟨fun ⟨σ, s1, s2, s3, s4, s5⟩ => ⟨σ, s1, s2, s3, by omega, s5⟩, fun ⟨σ, s1, s2, s3, s4, s5⟩ => ⟨σ, s1, s2, s3, ?_, s5⟩⟩, fun r k h1 h2 h3 => (y4 r k h1 h2 h3).trans (fr1 r k h1 h2 h3), fun k hk => (y5 k hk).trans (fr2 k hk)⟩
            have : σ t ≠ i := fun w => by
              have := x3.mpr ⟨σ, fun k hk => (by
                show σ k = if k = t then i else τ k
                by_cases c : k = t
                · rw [if_pos c, c]; exact w
                · rw [if_neg c]; exact s1 k (by omega)), s2, s3, trivial, s5⟩
              rw [z] at this
              exact absurd this (by decide)
            omega
          · refine ⟨1, A1, by rw [e2, if_neg (show ¬ v = 0 by rw [z]; decide)]; exact ok_z_1, Or.inr rfl, ⟨fun _ => ?_, fun _ => rfl⟩, fr1, fr2⟩
            obtain ⟨σ, s1, s2, s3, -, s5⟩ := x3.mp z
            refine ⟨σ, fun k hk => (s1 k (by omega)).trans (if_neg (by omega)), s2, s3, ?_, s5⟩
            have : σ t = if t = t then i else τ t := s1 t (by omega)
            rw [if_pos rfl] at this
            show i ≤ σ t
            omega
    obtain ⟨v, A', x1, x2, x3, x4, x5⟩ := key (pS d).length 0 fu_ A (by omega) (by unfold fu_; omega) K (fun k hk => (hτ k hk).2)
    exact ⟨v, A', e0.trans x1, x2, x3.trans ⟨fun ⟨σ, s1, s2, s3, _, s5⟩ => ⟨σ, s1, s2, s3, trivial, s5⟩, fun ⟨σ, s1, s2, s3, _, s5⟩ => ⟨σ, s1, s2, s3, Nat.zero_le _, s5⟩⟩, x4, x5⟩
end
