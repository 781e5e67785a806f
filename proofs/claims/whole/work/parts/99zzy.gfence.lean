/-! ===== fence ===== -/
def FND (Q : Nat → Prop) (v : Int32) : Prop := (∃ s, s < 64 ∧ Q s ∧ (∀ s', s' < 64 → Q s' → pc6 s < pc6 s' ∨ (pc6 s = pc6 s' ∧ s ≤ s')) ∧ v = nI s) ∨ ((∀ s, s < 64 → ¬ Q s) ∧ v = -1)
theorem fnd_eq {Q Q' : Nat → Prop} {v v' : Int32} (h1 : FND Q v) (h2 : FND Q' v') (a : ∀ s, s < 64 → Q s → Q' s) (b : ∀ s, s < 64 → Q' s → ∃ s2, s2 < 64 ∧ Q s2 ∧ (s2 = s ∨ pc6 s2 < pc6 s)) : v = v' := by
  rcases h1 with ⟨s, s1, s2, s3, s4⟩ | ⟨s1, s2⟩
  · rcases h2 with ⟨t, t1, t2, t3, t4⟩ | ⟨t1, t2⟩
    · obtain ⟨u, u1, u2, u3⟩ := b t t1 t2
      have hu := t3 u u1 (a u u1 u2)
      have ut : u = t := by
        rcases u3 with z | z
        · exact z
        · omega
      rw [ut] at u2
      have h1 := s3 t t1 u2
      have h2 := t3 s s1 (a s s1 s2)
      have : s = t := by omega
      rw [s4, t4, this]
    · exact absurd (a s s1 s2) (t1 s s1)
  · rcases h2 with ⟨t, t1, t2, t3, t4⟩ | ⟨t1, t2⟩
    · obtain ⟨u, u1, u2, -⟩ := b t t1 t2
      exact absurd u2 (s1 u u1)
    · rw [s2, t2]
theorem fin_l {L : Nat → Nat → AH → Option (Int32 × AH)} {K : AH → Option (Int32 × AH)} {I : Nat → AH → Prop} {Q : Nat → Prop} (hz : ∀ f h, L (f + 1) 64 h = K h)
    (hs : ∀ f s h, s < 64 → I s h → ∃ h', I (s + 1) h' ∧ ((Q s ∧ L (f + 1) s h = some (nI s, h')) ∨ (¬ Q s ∧ L (f + 1) s h = L f (s + 1) h'))) :
    ∀ j f h, j ≤ 64 → j < f → I (64 - j) h → ∃ h', ((∃ s, 64 - j ≤ s ∧ s < 64 ∧ Q s ∧ (∀ s', 64 - j ≤ s' → s' < s → ¬ Q s') ∧ L f (64 - j) h = some (nI s, h') ∧ I (s + 1) h') ∨ ((∀ s, 64 - j ≤ s → s < 64 → ¬ Q s) ∧ L f (64 - j) h = K h' ∧ I 64 h')) := by
  intro j
  induction j with
  | zero =>
    intro f h _ hf Ih
    obtain ⟨f, rfl⟩ : ∃ f', f = f' + 1 := ⟨f - 1, by omega⟩
    exact ⟨h, Or.inr ⟨fun s h1 h2 => by omega, hz f h, Ih⟩⟩
  | succ j ih =>
    intro f h hj hf Ih
    obtain ⟨f, rfl⟩ : ∃ f', f = f' + 1 := ⟨f - 1, by omega⟩
    have ej : 64 - j = 64 - (j + 1) + 1 := by omega
    have ih' := fun h => ih f h (by omega) (by omega)
    rw [ej] at ih'
    generalize hi : 64 - (j + 1) = i at *
    obtain ⟨h', x1, x2⟩ := hs f i h (by omega) Ih
    rcases x2 with ⟨x2, x3⟩ | ⟨x2, x3⟩
    · exact ⟨h', Or.inl ⟨i, Nat.le_refl _, by omega, x2, fun s' h1 h2 => by omega, x3, x1⟩⟩
    · obtain ⟨h2, y⟩ := ih' h' x1
      rcases y with ⟨s, y1, y2, y3, y4, y5, y6⟩ | ⟨y1, y2, y3⟩
      · refine ⟨h2, Or.inl ⟨s, by omega, y2, y3, fun s' h1 h2 => ?_, x3.trans y5, y6⟩⟩
        by_cases e : s' = i
        · rw [e]; exact x2
        · exact y4 s' (by omega) h2
      · refine ⟨h2, Or.inr ⟨fun s h1 h2 => ?_, x3.trans y2, y3⟩⟩
        by_cases e : s = i
        · rw [e]; exact x2
        · exact y1 s (by omega) h2
theorem fout_l {O : Nat → Nat → AH → Option (Int32 × AH)} {L : Nat → Nat → Nat → Nat → AH → Option (Int32 × AH)} {I : Nat → Nat → AH → Prop} {Q : Nat → Prop} {N : Nat} (he : ∀ f h, O (f + 1) N h = some (-1, h)) (ho : ∀ f n h, n < N → O (f + 1) n h = L f n fu_ 0 h) (hI : ∀ n h, n < N → I n 64 h → I (n + 1) 0 h)
    (hz : ∀ f0 n f h, n < N → L f0 n (f + 1) 64 h = O f0 (n + 1) h)
    (hs : ∀ f0 n f s h, n < N → s < 64 → I n s h → ∃ h', I n (s + 1) h' ∧ (((pc6 s = n ∧ Q s) ∧ L f0 n (f + 1) s h = some (nI s, h')) ∨ (¬ (pc6 s = n ∧ Q s) ∧ L f0 n (f + 1) s h = L f0 n f (s + 1) h'))) :
    ∀ j f h, j ≤ N → j < f → I (N - j) 0 h → ∃ h' v, O f (N - j) h = some (v, h') ∧ (∃ n s, n ≤ N ∧ s ≤ 64 ∧ I n s h') ∧ ((∃ s, s < 64 ∧ (N - j ≤ pc6 s ∧ pc6 s < N) ∧ Q s ∧ (∀ s', s' < 64 → N - j ≤ pc6 s' → Q s' → pc6 s < pc6 s' ∨ (pc6 s = pc6 s' ∧ s ≤ s')) ∧ v = nI s) ∨ ((∀ s, s < 64 → N - j ≤ pc6 s → pc6 s < N → ¬ Q s) ∧ v = -1)) := by
  intro j
  induction j with
  | zero =>
    intro f h _ hf Ih
    obtain ⟨f, rfl⟩ : ∃ f', f = f' + 1 := ⟨f - 1, by omega⟩
    exact ⟨h, -1, he f h, ⟨N, 0, Nat.le_refl _, Nat.zero_le _, Ih⟩, Or.inr ⟨fun s _ h1 h2 => by omega, rfl⟩⟩
  | succ j ih =>
    intro f h hj hf Ih
    obtain ⟨f, rfl⟩ : ∃ f', f = f' + 1 := ⟨f - 1, by omega⟩
    have ej : N - j = N - (j + 1) + 1 := by omega
    have ih' := fun h => ih f h (by omega) (by omega)
    rw [ej] at ih'
    generalize hi : N - (j + 1) = n at *
    have nN : n < N := by omega
    obtain ⟨h', x⟩ := fin_l (L := L f n) (K := O f (n + 1)) (I := I n) (Q := fun s => pc6 s = n ∧ Q s) (fun f' h => hz f n f' h nN) (fun f' s h h1 h2 => hs f n f' s h nN h1 h2) 64 fu_ h (Nat.le_refl _) (by unfold fu_; omega) Ih
    rw [Nat.sub_self] at x
    rcases x with ⟨s, -, x2, x3, x4, x5, x6⟩ | ⟨x1, x2, x3⟩
    · refine ⟨h', nI s, (ho f n h nN).trans x5, ⟨n, s + 1, by omega, by omega, x6⟩, Or.inl ⟨s, x2, by omega, x3.2, fun s' h1 h2 h3 => ?_, rfl⟩⟩
      by_cases e : pc6 s' = n
      · by_cases l : s' < s
        · exact absurd ⟨e, h3⟩ (x4 s' (Nat.zero_le _) l)
        · exact Or.inr ⟨by omega, by omega⟩
      · exact Or.inl (by omega)
    · obtain ⟨h2, v, y1, y2, y3⟩ := ih' h' (hI n h' nN x3)
      refine ⟨h2, v, ((ho f n h nN).trans x2).trans y1, y2, ?_⟩
      rcases y3 with ⟨s, z1, z2, z3, z4, z5⟩ | ⟨z1, z2⟩
      · refine Or.inl ⟨s, z1, by omega, z3, fun s' h1 h2 h3 => ?_, z5⟩
        by_cases e : pc6 s' = n
        · exact absurd ⟨e, h3⟩ (x1 s' (Nat.zero_le _) h1)
        · exact z4 s' h1 (by omega) h3
      · refine Or.inr ⟨fun s h1 h2 h3 h4 => ?_, z2⟩
        by_cases e : pc6 s = n
        · exact x1 s (Nat.zero_le _) h1 ⟨e, h4⟩
        · exact z1 s h1 (by omega) h3 h4
def tst (n s : Nat) : Nat := ((List.range 64).filter (fun s' => decide (pc6 s' < n ∨ (pc6 s' = n ∧ s' < s)))).length
theorem tst_s : ∀ n, n < 7 → ∀ s, s < 64 → tst n (s + 1) = tst n s + (if pc6 s = n then 1 else 0) := by decide +kernel
theorem tst_n : ∀ n, n < 7 → tst (n + 1) 0 = tst n 64 := by decide +kernel
theorem tst_64 {n s : Nat} : tst n s ≤ 64 := by
  unfold tst
  exact Nat.le_trans (List.length_filter_le _ _) (by rw [List.length_range]; exact Nat.le_refl _)
theorem pc_an : ∀ s, s < 64 → ∀ T, T < 64 → s &&& T = s ∨ pc6 (s &&& T) < pc6 s := by decide +kernel
theorem pc_63 : ∀ s, s < 64 → pc6 s < 7 ∧ (pc6 s < 6 ∨ s = 63) := by decide +kernel
theorem or_2 : ∀ x, x < 64 → ∀ c, c < 6 → nI x ||| ((1 : Int32) <<< (nI c &&& 31)) = nI (x ||| 2 ^ c) ∧ x ||| 2 ^ c < 64 ∧ ∀ e, e < 6 → ((x ||| 2 ^ c).testBit e = true ↔ x.testBit e = true ∨ e = c) := by decide +kernel
theorem tb6_ext {x y : Nat} (hx : x < 64) (hy : y < 64) (e : ∀ c, c < 6 → (x.testBit c = true ↔ y.testBit c = true)) : x = y := by
  apply Nat.eq_of_testBit_eq
  intro i
  by_cases h6 : i < 6
  · have := e i h6
    cases h1 : x.testBit i <;> cases h2 : y.testBit i
    · rfl
    · rw [h1, h2] at this; exact absurd (this.mpr rfl) (by decide)
    · rw [h1, h2] at this; exact absurd (this.mp rfl) (by decide)
    · rfl
  · have p : (64 : Nat) ≤ 2 ^ i := Nat.pow_le_pow_right (n := 2) (i := 6) (j := i) (by omega) (by omega)
    rw [Nat.testBit_lt_two_pow (Nat.lt_of_lt_of_le hx p), Nat.testBit_lt_two_pow (Nat.lt_of_lt_of_le hy p)]
def sbs (s u : Nat) : Prop := ∀ c, c < 6 → s.testBit c = true → u.testBit c = true
theorem sb_iff {s u : Nat} (hs : s < 64) (hu : u < 64) : (nI s &&& (nI u ^^^ (-1 : Int32))) = 0 ↔ sbs s u := by
  rw [sub6 hu]
  constructor
  · rintro ⟨v, v1, v2, v3⟩
    have : s = v := (nI_eq (by omega) (by omega)).mp v2
    rw [this]; exact v3
  · intro z
    exact ⟨s, hs, rfl, z⟩
/-- the cells that the program's actions touch -/
def tch (d : PD) (c : Nat) : Prop := ∃ n, n < (pA d).length ∧ m_cel (pR d) (m_ent (pR d) n) = true ∧ pR d 4 (m_ent (pR d) n) = nI c
/-- all that can come of making S volatile can come sequentially -/
def gS (d : PD) (o S : Nat) : Prop := ∀ s, Ends (KP (pR d)) (Vc (pK d) S) o s → ∃ s0, EN d 0 s0 ∧ oN (owN (pO d)) (pS d).length s = oN (owN (pO d)) (pS d).length s0
theorem ast_th {z z' : AS} (e : as_th z' = as_th z) : ∀ t, ast z' t = ast z t := by
  intro t
  induction t with
  | zero => rfl
  | succ t ih =>
    show ast z' t + (if xa_nx z' t = 8 then 0 else 2 ^ t) = ast z t + if xa_nx z t = 8 then 0 else 2 ^ t
    rw [ih, xs_nx e]
theorem av_th {ow : Nat → Nat} {nt : Nat} {z z' : AS} (e : as_th z' = as_th z) : av ow nt z' = av ow nt z := by
  funext l
  unfold av
  rw [xs_lm e]
section
variable {h h' h2 H : AH} {g g' : SG} {m p pr o : Nat} {d : PD} {a b t : Nat} {a1 b1 : Int32}
theorem ends_tv {V V' : Nat → Bool} {z : AS} (P : PDk d) (hV : ∀ c, c < 6 → tch d c → V c = V' c) (E : Ends (KP (pR d)) V o z) : Ends (KP (pR d)) V' o z := by
  have Z := pdk_kw P
  have hna := Z.1
  have hsz := Z.2.2.1
  have W := kp_wf Z
  have hv : ∀ n, n < pa_na (KP (pR d)) → (xa_op (KP (pR d)) n = 0 ∨ xa_op (KP (pR d)) n = 1 ∨ xa_op (KP (pR d)) n = 2) → V (xa_ob (KP (pR d)) n) = V' (xa_ob (KP (pR d)) n) := by
    intro n hn ho
    rw [kp_na Z] at hn
    obtain ⟨e, op, c1, c2, c3, c4, c5, c6, c7, c8, c9, c10⟩ := kp_act Z hn
    obtain ⟨-, op', f1, f2, f3, f4, f5, f6, -⟩ := Z.2.2.2.2.2.2.2.1 e c1
    have hop : op' = op := by rw [c5, nI_eq (by omega) (by omega)] at f1; exact f1.symm
    obtain ⟨c, d1, d2⟩ := f6 (by rw [hop, ← c9]; exact ho)
    rw [(q_kv Z c3 d1 d2).1]
    have me : m_ent (pR d) n = e := by
      unfold m_ent
      rw [c2, and63 (by omega), ix_nI (by omega)]
    refine hV c d1 ⟨n, hn, ?_, by rw [me]; exact d2⟩
    rw [me]
    unfold m_cel
    rw [c5]
    apply decide_eq_true
    rw [c9] at ho
    rcases ho with z | z | z
    · rw [z]; exact Or.inl rfl
    · rw [z]; exact Or.inr (Or.inl rfl)
    · rw [z]; exact Or.inr (Or.inr rfl)
  obtain ⟨p, h1, h2⟩ := E
  exact ⟨p, xs_vol W hv p _ _ (xa_in_0 W) h1, xs_vol_end hv h2⟩
theorem gs_t {S S' : Nat} (P : PDk d) (e : ∀ c, c < 6 → tch d c → S.testBit c = S'.testBit c) (G : gS d o S) : gS d o S' := fun s hs => G s (ends_tv P (fun c hc ht => by unfold Vc; rw [e c hc ht]) hs)
/-- touchedCells -/
theorem c_tc (C : CPl h pr d) : ∃ T, T < 64 ∧ f_X0_touchedCells (hp_r h pr 0) h = some (nI T, h) ∧ ∀ c, c < 6 → (T.testBit c = true ↔ tch d c) := by
  have C0 := C
  obtain ⟨-, ⟨d1, d2⟩, -, -, ⟨ek, P⟩, -⟩ := C
  have Z := pdk_kw P
  have hsz := Z.2.2.1
  have b8 := P.1.2.2.1.2.1
  have oc := sr_ok d1 d2
  have g12 : g_i h (hp_r h pr 0) 0 12 = some (nI (pA d).length) := by
    have : hp_i h (hp_r h pr 0) 12 = pR d 10 12 := by rw [← ek]; rfl
    exact (if_pos oc).trans (by rw [this, P.2.1.1.2.2.1])
  have key : ∀ j f x, j ≤ (pA d).length → j < f → x < 64 → ∃ T, T < 64 ∧ l_X0_touchedCells_4 f (hp_r h pr 0) (nI x) (nI ((pA d).length - j)) h = some (nI T, h) ∧ ∀ c, c < 6 → (T.testBit c = true ↔ x.testBit c = true ∨ ∃ n, (pA d).length - j ≤ n ∧ n < (pA d).length ∧ m_cel (pR d) (m_ent (pR d) n) = true ∧ pR d 4 (m_ent (pR d) n) = nI c) := by
    intro j
    induction j with
    | zero =>
      intro f x _ hf hx
      obtain ⟨f, rfl⟩ : ∃ f', f = f' + 1 := ⟨f - 1, by omega⟩
      refine ⟨x, hx, ?_, fun c hc => ⟨Or.inl, fun z => z.elim id (fun ⟨n, h1, h2, _⟩ => by omega)⟩⟩
      show b_X0_touchedCells_4 (l_X0_touchedCells_4 f) (hp_r h pr 0) (nI x) (nI ((pA d).length)) h = _
      unfold b_X0_touchedCells_4
      rw [g12, Option.bind_some, if_pos (nI_le (Nat.le_refl _) (by omega))]
      rfl
    | succ j ih =>
      intro f x hj hf hx
      obtain ⟨f, rfl⟩ : ∃ f', f = f' + 1 := ⟨f - 1, by omega⟩
      have ej : (pA d).length - j = (pA d).length - (j + 1) + 1 := by omega
      have ih' := fun x => ih f x (by omega) (by omega)
      rw [ej] at ih'
      generalize hi : (pA d).length - (j + 1) = i at *
      have hin : i < (pA d).length := by omega
      obtain ⟨e, op, c1, c2, c3, c4, c5, c6, c7, c8, c9, c10⟩ := kp_act Z hin
      obtain ⟨-, op', f1, f2, f3, f4, f5, f6, -⟩ := Z.2.2.2.2.2.2.2.1 e c1
      have hop : op' = op := by rw [c5, nI_eq (by omega) (by omega)] at f1; exact f1.symm
      have me : m_ent (pR d) i = e := by
        unfold m_ent
        rw [c2, and63 (by omega), ix_nI (by omega)]
      obtain ⟨r8, l8⟩ := cpl_row C0 (i := 8) (k := i) (by omega) (by show i < 8; omega)
      obtain ⟨r0, l0⟩ := cpl_row C0 (i := 0) (k := e) (by omega) (by show e < 64; omega)
      obtain ⟨r4, l4⟩ := cpl_row C0 (i := 4) (k := e) (by omega) (by show e < 64; omega)
      have cel : f_X0_isCellAction (hp_r h pr 0) (nI e) h = some ((if m_cel (pR d) e = true then 1 else 0), h) := by
        unfold f_X0_isCellAction b_X0_isCellAction_0
        rw [r0, Option.bind_some, and63 (by omega), l0, Option.bind_some]
        unfold m_cel
        by_cases q0 : pR d 0 e = 0
        · rw [if_pos q0, decide_eq_true (Or.inl q0), if_pos rfl]; exact ok_z_1
        · rw [if_neg q0]
          unfold b_X0_isCellAction_14
          by_cases q1 : pR d 0 e = 1
          · rw [if_pos q1, decide_eq_true (Or.inr (Or.inl q1)), if_pos rfl]; exact ok_z_1
          · rw [if_neg q1]
            unfold b_X0_isCellAction_19
            by_cases q2 : pR d 0 e = 2
            · rw [if_pos q2, decide_eq_true (Or.inr (Or.inr q2)), if_pos rfl]; exact ok_z_1
            · rw [if_neg q2, decide_eq_false (by rintro (c | c | c); exact q0 c; exact q1 c; exact q2 c), if_neg Bool.false_ne_true]; exact ok_z_0
      have st : l_X0_touchedCells_4 (f + 1) (hp_r h pr 0) (nI x) (nI i) h = if (if m_cel (pR d) e = true then (1 : Int32) else 0) = 0 then l_X0_touchedCells_4 f (hp_r h pr 0) (nI x) (nI (i + 1)) h else l_X0_touchedCells_4 f (hp_r h pr 0) (nI x ||| ((1 : Int32) <<< (pR d 4 e &&& 31))) (nI (i + 1)) h := by
        show b_X0_touchedCells_4 (l_X0_touchedCells_4 f) (hp_r h pr 0) (nI x) (nI i) h = _
        unfold b_X0_touchedCells_4
        rw [g12, Option.bind_some, if_neg (nI_ge hin (by omega))]
        unfold b_X0_touchedCells_12
        rw [if_neg (show ¬ (8 : Int32) ≤ nI i from nI_ge (b := 8) (by omega) (by omega))]
        unfold b_X0_touchedCells_18 b_X0_touchedCells_36 b_X0_touchedCells_47
        rw [r8, Option.bind_some, l8, Option.bind_some, show ok_v h (hp_r h pr 0) 0 = some () from if_pos oc, Option.bind_some, c2, and63 (by omega), cel, Option.bind_some, r4, Option.bind_some, l4, Option.bind_some, da]
      by_cases mc : m_cel (pR d) e = true
      · rw [if_pos mc, if_neg n10] at st
        have ho : op = 0 ∨ op = 1 ∨ op = 2 := by
          unfold m_cel at mc
          have := of_decide_eq_true mc
          rw [c5] at this
          rcases this with z | z | z
          · exact Or.inl ((nI_eq (b := 0) (by omega) (by omega)).mp z)
          · exact Or.inr (Or.inl ((nI_eq (b := 1) (by omega) (by omega)).mp z))
          · exact Or.inr (Or.inr ((nI_eq (b := 2) (by omega) (by omega)).mp z))
        obtain ⟨c, k1, k2⟩ := f6 (by rw [hop]; exact ho)
        obtain ⟨o1, o2, o3⟩ := or_2 x hx c k1
        rw [k2, o1] at st
        obtain ⟨T, t1, t2, t3⟩ := ih' (x ||| 2 ^ c) o2
        refine ⟨T, t1, st.trans t2, fun c' hc' => ?_⟩
        rw [t3 c' hc', o3 c' hc']
        constructor
        · rintro ((z | z) | ⟨n, z1, z2, z3⟩)
          · exact Or.inl z
          · exact Or.inr ⟨i, Nat.le_refl _, hin, by rw [me]; exact mc, by rw [me, z]; exact k2⟩
          · exact Or.inr ⟨n, by omega, z2, z3⟩
        · rintro (z | ⟨n, z1, z2, z3, z4⟩)
          · exact Or.inl (Or.inl z)
          · by_cases e' : n = i
            · rw [e', me, k2] at z4
              exact Or.inl (Or.inr ((nI_eq (by omega) (by omega)).mp z4).symm)
            · exact Or.inr ⟨n, by omega, z2, z3, z4⟩
      · rw [if_neg mc, if_pos rfl] at st
        obtain ⟨T, t1, t2, t3⟩ := ih' x hx
        refine ⟨T, t1, st.trans t2, fun c' hc' => ?_⟩
        rw [t3 c' hc']
        constructor
        · rintro (z | ⟨n, z1, z2, z3⟩)
          · exact Or.inl z
          · exact Or.inr ⟨n, by omega, z2, z3⟩
        · rintro (z | ⟨n, z1, z2, z3, z4⟩)
          · exact Or.inl z
          · by_cases e' : n = i
            · rw [e', me] at z3
              exact absurd z3 mc
            · exact Or.inr ⟨n, by omega, z2, z3, z4⟩
  obtain ⟨T, t1, t2, t3⟩ := key (pA d).length fu_ 0 (Nat.le_refl _) (by unfold fu_; omega) (by omega)
  rw [Nat.sub_self] at t2
  refine ⟨T, t1, t2, fun c hc => ?_⟩
  rw [t3 c hc]
  constructor
  · rintro (z | ⟨n, _, z2, z3, z4⟩)
    · rw [Nat.zero_testBit] at z; cases z
    · exact ⟨n, z2, z3, z4⟩
  · rintro ⟨n, z2, z3, z4⟩
    exact Or.inr ⟨n, by omega, z2, z3, z4⟩
/-- staysWithin -/
theorem c_sw {r S : Nat} (X : GC0 h g a b t) (P : GPl h g) (R : RZ h) (hp : p < 8) (hd : sD g p = some d) (ht : t + 2 < 2 ^ 30) (ho : o = 1 ∨ o = 2) (hS : S < 64) (K : CR h r d 0) : ∃ v h2, f_X8_staysWithin 74 (hp_r h 66 p) (nI o) (nI S) r h = some (v, h2) ∧ GC0 h2 g a b (t + 1) ∧ GPl h2 g ∧ CLF h h2 ∧ hp_r h2 66 = hp_r h 66 ∧ CR h2 r d 0 ∧ (v = 0 ∨ v = 1) ∧ (v = 1 ↔ gS d o S) := by
  have C := gp_cp P hp hd
  have C0 := C
  obtain ⟨⟨Sr, k5⟩, -, -, -, ⟨-, PK⟩, CCh⟩ := C
  obtain ⟨tn, t1, HBh⟩ := X.2.2.2.2
  have K0 := K
  obtain ⟨y1, y2, L, y3, y4, y5, y6, y7⟩ := K
  obtain ⟨v, h2, x1, H2, F, ej, ej74, e6, e98, x2, x3⟩ := r_stay (oc := o) (cells := S) (due := r) (Ld := L) (pdk_kw PK) HBh (by omega) (cpl_pb C0) ho hS (sr_ok y1 y2) (sr_nr y1) y3 y4 (by omega) y5
  obtain ⟨X2, F2, e2⟩ := gc0_fq X R Sr F H2 (by omega) (fun k _ => by rw [e98])
  have Q : SQ2 h h2 (hp_r h 66 p) := sq2_of (sq_fq HBh F Sr)
  have CP : CPl h2 (hp_r h 66 p) d := cpl_self Q k5 C0 (by rw [F.2.2.2.1.1]) (by rw [F.2.2.2.1.1]) (cc_same Q F.2.2.2.1.1 F.2.2.2.1.2 ej CCh)
  refine ⟨v, h2, x1, X2, gpl_s2 P hp hd Q e2 CP, F2, e2, cr_fr Q K0, x2, x3.trans ?_⟩
  exact ⟨fun z s hs => (y7 _).mp (z s hs), fun z s hs => (y7 _).mpr (z s hs)⟩
/-- the class's search for a fence -/
theorem c_fnc {r u : Nat} (X : GC0 h g a b t) (P : GPl h g) (R : RZ h) (hp : p < 8) (hd : sD g p = some d) (ht : t + 100 < 2 ^ 30) (ho : o = 1 ∨ o = 2) (hu : u < 64) (K : CR h r d 0) (h6 : ∀ s, s < 64 → sbs s u → pc6 s < 6) : ∃ v h2, l_X10_fence_52 fu_ 64 (nI o) (hp_r h 66 p) r (nI u) (0 : Int32) h = some (v, h2) ∧ GC0 h2 g a b (t + 64) ∧ GPl h2 g ∧ CLF h h2 ∧ FND (fun s => sbs s u ∧ gS d o s) v := by
  have key := fout_l (O := fun f n h' => l_X10_fence_52 f 64 (nI o) (hp_r h 66 p) r (nI u) (nI n) h') (L := fun f0 n f s h' => l_X10_fence_61 (l_X10_fence_52 f0) f 64 (nI o) (hp_r h 66 p) r (nI u) (nI n) (nI s) h')
    (I := fun n s h' => GC0 h' g a b (t + tst n s) ∧ GPl h' g ∧ CLF h h' ∧ hp_r h' 66 = hp_r h 66 ∧ CR h' r d 0) (Q := fun s => sbs s u ∧ gS d o s) (N := 6)
    (fun f h' => ?_) (fun f n h' hn => ?_) (fun n h' hn z => ?_) (fun f0 n f h' hn => ?_) (fun f0 n f s h' hn hs z => ?_) 6 fu_ h (Nat.le_refl _) (by unfold fu_; omega) ?_
  · obtain ⟨h2, v, x1, ⟨n, s, n1, s1, i1, i2, i3, i4, i5⟩, x3⟩ := key
    have t64 := tst_64 (n := n) (s := s)
    refine ⟨v, h2, x1, gc0_le i1 (Nat.le_refl _) (Nat.le_refl _) (by omega), i2, i3, ?_⟩
    rcases x3 with ⟨s, y1, y2, y3, y4, y5⟩ | ⟨y1, y2⟩
    · exact Or.inl ⟨s, y1, y3, fun s' h1 h2 => y4 s' h1 (by omega) h2, y5⟩
    · exact Or.inr ⟨fun s h1 h2 => y1 s h1 (by omega) (h6 s h1 h2.1) h2, y2⟩
  · show b_X10_fence_52 (l_X10_fence_52 f) 64 (nI o) (hp_r h 66 p) r (nI u) (nI 6) h' = _
    unfold b_X10_fence_52
    rw [if_pos (show (5 : Int32) < nI 6 by decide)]; rfl
  · show b_X10_fence_52 (l_X10_fence_52 f) 64 (nI o) (hp_r h 66 p) r (nI u) (nI n) h' = _
    unfold b_X10_fence_52
    rw [if_neg (show ¬ (5 : Int32) < nI n from nI_nlt (a := 5) (by omega) (by omega))]; rfl
  · show GC0 h' g a b (t + tst (n + 1) 0) ∧ _
    rw [tst_n n (by omega)]; exact z
  · show b_X10_fence_61 (l_X10_fence_52 f0) (l_X10_fence_61 (l_X10_fence_52 f0) f) 64 (nI o) (hp_r h 66 p) r (nI u) (nI n) (nI 64) h' = l_X10_fence_52 f0 64 (nI o) (hp_r h 66 p) r (nI u) (nI (n + 1)) h'
    unfold b_X10_fence_61
    rw [if_pos (show (64 : Int32) ≤ nI 64 by decide)]
    unfold b_X10_fence_113
    rw [da]
  · obtain ⟨z1, z2, z3, z4, z5⟩ := z
    have GHh := z1.2.1
    have t64 := tst_64 (n := n) (s := s)
    have ts := tst_s n (by omega) s hs
    have st : l_X10_fence_61 (l_X10_fence_52 f0) (f + 1) 64 (nI o) (hp_r h 66 p) r (nI u) (nI n) (nI s) h' = if (nI s &&& (nI u ^^^ (-1 : Int32))) = 0 then (if nI (pc6 s) = nI n then b_X10_fence_88 (l_X10_fence_52 f0) (l_X10_fence_61 (l_X10_fence_52 f0) f) 64 (nI o) (hp_r h 66 p) r (nI u) (nI n) (nI s) h' else l_X10_fence_61 (l_X10_fence_52 f0) f 64 (nI o) (hp_r h 66 p) r (nI u) (nI n) (nI (s + 1)) h') else l_X10_fence_61 (l_X10_fence_52 f0) f 64 (nI o) (hp_r h 66 p) r (nI u) (nI n) (nI (s + 1)) h' := by
      show b_X10_fence_61 (l_X10_fence_52 f0) (l_X10_fence_61 (l_X10_fence_52 f0) f) 64 (nI o) (hp_r h 66 p) r (nI u) (nI n) (nI s) h' = _
      unfold b_X10_fence_61
      rw [if_neg (show ¬ (64 : Int32) ≤ nI s from nI_ge (b := 64) (by omega) (by omega))]
      unfold b_X10_fence_68 b_X10_fence_78 b_X10_fence_107
      rw [bc_6 hs, Option.bind_some, da]
    have skip : ¬ (pc6 s = n ∧ sbs s u ∧ gS d o s) → l_X10_fence_61 (l_X10_fence_52 f0) (f + 1) 64 (nI o) (hp_r h 66 p) r (nI u) (nI n) (nI s) h' = l_X10_fence_61 (l_X10_fence_52 f0) f 64 (nI o) (hp_r h 66 p) r (nI u) (nI n) (nI (s + 1)) h' → ∃ h'', (GC0 h'' g a b (t + tst n (s + 1)) ∧ GPl h'' g ∧ CLF h h'' ∧ hp_r h'' 66 = hp_r h 66 ∧ CR h'' r d 0) ∧ (((pc6 s = n ∧ sbs s u ∧ gS d o s) ∧ l_X10_fence_61 (l_X10_fence_52 f0) (f + 1) 64 (nI o) (hp_r h 66 p) r (nI u) (nI n) (nI s) h' = some (nI s, h'')) ∨ (¬ (pc6 s = n ∧ sbs s u ∧ gS d o s) ∧ l_X10_fence_61 (l_X10_fence_52 f0) (f + 1) 64 (nI o) (hp_r h 66 p) r (nI u) (nI n) (nI s) h' = l_X10_fence_61 (l_X10_fence_52 f0) f 64 (nI o) (hp_r h 66 p) r (nI u) (nI n) (nI (s + 1)) h'')) := fun h1 h2 =>
      ⟨h', ⟨gc0_le z1 (Nat.le_refl _) (Nat.le_refl _) (by omega), z2, z3, z4, z5⟩, Or.inr ⟨h1, h2⟩⟩
    by_cases cs : (nI s &&& (nI u ^^^ (-1 : Int32))) = 0
    · rw [if_pos cs] at st
      by_cases cn' : pc6 s = n
      · rw [if_pos (by rw [cn'])] at st
        obtain ⟨v, h2, x1, x2, x3, x4, x5, x6, x7, x8⟩ := c_sw (r := r) (S := s) z1 z2 (rz_cl z3 R) hp hd (by omega) ho hs z5
        rw [z4] at x1
        have st2 : l_X10_fence_61 (l_X10_fence_52 f0) (f + 1) 64 (nI o) (hp_r h 66 p) r (nI u) (nI n) (nI s) h' = if v = 0 then l_X10_fence_61 (l_X10_fence_52 f0) f 64 (nI o) (hp_r h 66 p) r (nI u) (nI n) (nI (s + 1)) h2 else some (nI s, h2) := by
          rw [st]
          unfold b_X10_fence_88 b_X10_fence_107 b_X10_fence_104
          rw [show g_r h' 64 10 5 = some 74 from (if_pos GHh.1.1).trans (by rw [GHh.1.2.2.2.2.2.2.1]), Option.bind_some, show ok_v h' 74 8 = some () from if_pos z1.2.2.2.2.choose_spec.2.1.1, Option.bind_some, x1, Option.bind_some, da]
        rw [if_pos cn'] at ts
        refine ⟨h2, ⟨gc0_le x2 (Nat.le_refl _) (Nat.le_refl _) (by omega), x3, clf_tr z3 x4, by rw [x5, z4], x6⟩, ?_⟩
        rcases x7 with y | y
        · rw [if_pos y] at st2
          refine Or.inr ⟨fun w => ?_, st2⟩
          have := x8.mpr w.2.2
          rw [y] at this
          exact absurd this (by decide)
        · rw [if_neg (by rw [y]; decide)] at st2
          exact Or.inl ⟨⟨cn', (sb_iff hs hu).mp cs, x8.mp y⟩, st2⟩
      · rw [if_neg (fun w => cn' ((nI_eq (by have := (pc_63 s hs).1; omega) (by omega)).mp w))] at st
        exact skip (fun w => cn' w.1) st
    · rw [if_neg cs] at st
      exact skip (fun w => cs ((sb_iff hs hu).mpr w.2.1)) st
  · show GC0 h g a b (t + tst 0 0) ∧ _
    exact ⟨X, P, clf_rf, rfl, K⟩
end
