/-! ===== same: names ===== -/
def VN (a : Nat) : Prop := (300 ≤ a ∧ a < 306) ∨ (400 ≤ a ∧ a < 405) ∨ (500 ≤ a ∧ a < 502)
def ph (a : Nat) : Nat := if a < 400 then a - 300 else if a < 500 then a - 400 + 8 else a - 500 + 13
theorem ph_v {a : Nat} (v : VN a) : (a < 400 ∧ ph a = a - 300) ∨ (400 ≤ a ∧ a < 500 ∧ ph a = a - 400 + 8) ∨ (500 ≤ a ∧ ph a = a - 500 + 13) := by
  unfold ph
  by_cases c : a < 400
  · rw [if_pos c]; exact Or.inl ⟨c, rfl⟩
  · rw [if_neg c]
    by_cases c2 : a < 500
    · rw [if_pos c2]; exact Or.inr (Or.inl ⟨by omega, c2, rfl⟩)
    · rw [if_neg c2]; exact Or.inr (Or.inr ⟨by omega, rfl⟩)
theorem ph_i {a b : Nat} (va : VN a) (vb : VN b) (e : ph a = ph b) : a = b := by
  have h1 := ph_v va
  have h2 := ph_v vb
  unfold VN at va vb
  omega
theorem ph_lt {a : Nat} (va : VN a) : ph a < 16 := by
  have h1 := ph_v va
  unfold VN at va
  omega
abbrev MP : Type := List (Nat × Nat)
/-- a partial bijection -/
def okM (M : MP) : Prop := ∀ x, x ∈ M → ∀ y, y ∈ M → (x.1 = y.1 ↔ x.2 = y.2)
theorem okM_s {M N : MP} (e : ∀ x, x ∈ N → x ∈ M) (O : okM M) : okM N := fun x hx y hy => O x (e x hx) y (e y hy)
def NSt (φ : Nat → Nat) (A : Nat → Nat → Int32) (r1 r2 : Nat) (M : MP) : Prop :=
  (∀ x, x ∈ M → VN x.1 ∧ VN x.2 ∧ A r1 (φ x.1) = nI (φ x.2) ∧ A r2 (φ x.2) = nI (φ x.1)) ∧ (∀ a, VN a → (∀ x, x ∈ M → x.1 ≠ a) → A r1 (φ a) = -1) ∧ ∀ b, VN b → (∀ x, x ∈ M → x.2 ≠ b) → A r2 (φ b) = -1
theorem ns_cg {φ : Nat → Nat} {A A' : Nat → Nat → Int32} {r1 r2 : Nat} {M : MP} (e : ∀ k, A' r1 k = A r1 k ∧ A' r2 k = A r2 k) (N : NSt φ A r1 r2 M) : NSt φ A' r1 r2 M := by
  obtain ⟨n1, n2, n3⟩ := N
  exact ⟨fun x hx => by rw [(e _).1, (e _).2]; exact n1 x hx, fun a va h => by rw [(e _).1]; exact n2 a va h, fun b vb h => by rw [(e _).2]; exact n3 b vb h⟩
theorem ns_m {φ : Nat → Nat} {A : Nat → Nat → Int32} {r1 r2 : Nat} {M M' : MP} (e : ∀ x, x ∈ M ↔ x ∈ M') (N : NSt φ A r1 r2 M) : NSt φ A r1 r2 M' := by
  obtain ⟨n1, n2, n3⟩ := N
  exact ⟨fun x hx => n1 x ((e x).mpr hx), fun a va h => n2 a va (fun x hx => h x ((e x).mp hx)), fun b vb h => n3 b vb (fun x hx => h x ((e x).mp hx))⟩
theorem ns_step {φ : Nat → Nat} {A : Nat → Nat → Int32} {r1 r2 a b : Nat} {M : MP} (hφ : ∀ a b, VN a → VN b → φ a = φ b → a = b) (hb : ∀ a, VN a → φ a < 1000) (rr : r1 ≠ r2) (N : NSt φ A r1 r2 M) (O : okM M) (va : VN a) (vb : VN b) :
    (A r1 (φ a) = nI (φ b) ∧ okM ((a, b) :: M) ∧ NSt φ A r1 r2 ((a, b) :: M)) ∨ (¬ A r1 (φ a) = nI (φ b) ∧ ¬ A r1 (φ a) = -1 ∧ ¬ okM ((a, b) :: M)) ∨ (A r1 (φ a) = -1 ∧ ¬ A r2 (φ b) = -1 ∧ ¬ okM ((a, b) :: M)) ∨
    (A r1 (φ a) = -1 ∧ A r2 (φ b) = -1 ∧ okM ((a, b) :: M) ∧ NSt φ (up_2 (up_2 A r1 (φ a) (nI (φ b))) r2 (φ b) (nI (φ a))) r1 r2 ((a, b) :: M)) := by
  obtain ⟨n1, n2, n3⟩ := N
  have ba := hb a va
  have bb := hb b vb
  by_cases ha : ∃ x, x ∈ M ∧ x.1 = a
  · obtain ⟨x, x1, x2⟩ := ha
    obtain ⟨v1, v2, v3, v4⟩ := n1 x x1
    have b2 := hb x.2 v2
    rw [x2] at v3
    by_cases e : x.2 = b
    · left
      have xe : x = (a, b) := Prod.ext x2 e
      rw [xe] at x1
      have mm : ∀ y, y ∈ M ↔ y ∈ (a, b) :: M := fun y => ⟨List.mem_cons_of_mem _, fun z => (List.mem_cons.mp z).elim (fun w => by rw [w]; exact x1) id⟩
      exact ⟨by rw [v3, e], okM_s (fun y hy => (mm y).mpr hy) O, ns_m mm ⟨n1, n2, n3⟩⟩
    · right; left
      refine ⟨fun z => e (hφ _ _ v2 vb ((nI_eq (by omega) (by omega)).mp (v3.symm.trans z))), fun z => nI_ne1 (by omega) (v3.symm.trans z), fun Q => e ?_⟩
      exact (Q x (List.mem_cons_of_mem _ x1) (a, b) (List.mem_cons_self ..)).mp x2
  · have na : ∀ x, x ∈ M → x.1 ≠ a := fun x hx z => ha ⟨x, hx, z⟩
    by_cases hb' : ∃ x, x ∈ M ∧ x.2 = b
    · obtain ⟨x, x1, x2⟩ := hb'
      obtain ⟨v1, v2, v3, v4⟩ := n1 x x1
      have b1 := hb x.1 v1
      rw [x2] at v4
      right; right; left
      refine ⟨n2 a va na, fun z => nI_ne1 (by omega) (v4.symm.trans z), fun Q => na x x1 ?_⟩
      exact (Q x (List.mem_cons_of_mem _ x1) (a, b) (List.mem_cons_self ..)).mpr x2
    · have nb : ∀ x, x ∈ M → x.2 ≠ b := fun x hx z => hb' ⟨x, hx, z⟩
      right; right; right
      refine ⟨n2 a va na, n3 b vb nb, fun x hx y hy => ?_, fun x hx => ?_, fun a' va' h => ?_, fun b' vb' h => ?_⟩
      · rcases List.mem_cons.mp hx with z | z
        · rcases List.mem_cons.mp hy with w | w
          · rw [z, w]; exact ⟨fun _ => rfl, fun _ => rfl⟩
          · rw [z]; exact ⟨fun q => absurd q.symm (na y w), fun q => absurd q.symm (nb y w)⟩
        · rcases List.mem_cons.mp hy with w | w
          · rw [w]; exact ⟨fun q => absurd q (na x z), fun q => absurd q (nb x z)⟩
          · exact O x z y w
      · rcases List.mem_cons.mp hx with z | z
        · rw [z]
          exact ⟨va, vb, by show up_2 (up_2 A r1 (φ a) (nI (φ b))) r2 (φ b) (nI (φ a)) r1 (φ a) = _; rw [u2 (Or.inl rr), u2s], u2s⟩
        · obtain ⟨v1, v2, v3, v4⟩ := n1 x z
          refine ⟨v1, v2, ?_, ?_⟩
          · rw [u2 (Or.inl rr), u2 (Or.inr (fun w => na x z (hφ _ _ v1 va w)))]; exact v3
          · rw [u2 (Or.inr (fun w => nb x z (hφ _ _ v2 vb w))), u2 (Or.inl rr.symm)]; exact v4
      · have h0 : a ≠ a' := h (a, b) (List.mem_cons_self ..)
        rw [u2 (Or.inl rr), u2 (Or.inr (fun w => h0 (hφ _ _ va va' w.symm)))]
        exact n2 a' va' (fun x hx => h x (List.mem_cons_of_mem _ hx))
      · have h0 : b ≠ b' := h (a, b) (List.mem_cons_self ..)
        rw [u2 (Or.inr (fun w => h0 (hφ _ _ vb vb' w.symm))), u2 (Or.inl rr.symm)]
        exact n3 b' vb' (fun x hx => h x (List.mem_cons_of_mem _ hx))
/-! ===== same: the class's entries ===== -/
def Fm (h : AH) (A : Nat → Nat → Int32) : Prop := ∀ r k, r ≠ 100 → r ≠ 101 → A r k = hp_i h r k
def GLk (h : AH) : Prop := ok_o h 99 1 ∧ hp_r h 99 0 = 100 ∧ hp_r h 99 1 = 101 ∧ ok_o h 100 100 ∧ hp_l h 100 = 16 ∧ ok_o h 101 100 ∧ hp_l h 101 = 16
def RSx (h : AH) (f : AH → Option (Int32 × AH)) (P : Prop) (N : MP) : Prop := ∀ A M, Fm h A → NSt ph A 100 101 M → okM M → ∃ v A', f (sA h A) = some (v, sA h A') ∧ (v = 0 ∨ v = 1) ∧ (v = 1 ↔ P ∧ okM (N ++ M)) ∧ (v = 1 → NSt ph A' 100 101 (N ++ M)) ∧ Fm h A'
section
variable {h : AH} {f f1 f2 : AH → Option (Int32 × AH)} {P P1 P2 c : Prop} {N N1 N2 : MP}
theorem rs_cg (F : RSx h f P1 N1) (e : P1 ↔ P2) (e' : N1 = N2) : RSx h f P2 N2 := by
  subst e'
  intro A M a b d
  obtain ⟨v, A', x1, x2, x3, x4⟩ := F A M a b d
  exact ⟨v, A', x1, x2, x3.trans ⟨fun z => ⟨e.mp z.1, z.2⟩, fun z => ⟨e.mpr z.1, z.2⟩⟩, x4⟩
theorem rs_eq (F : RSx h f P N) (e : ∀ H, f1 H = f H) : RSx h f1 P N := by
  have : f1 = f := funext e
  rw [this]; exact F
theorem rs_seq (F1 : RSx h f1 P1 N1) (F2 : P1 → RSx h f2 P2 N2) : RSx h (fun H => (f1 H).bind fun q => if q.1 = 0 then ok_z 0 q.2 else f2 q.2) (P1 ∧ P2) (N2 ++ N1) := by
  intro A M a b d
  obtain ⟨v, A1, x1, x2, x3, x4, x5⟩ := F1 A M a b d
  rcases x2 with z | z
  · refine ⟨0, A1, ?_, Or.inl rfl, ⟨fun w => absurd w (by decide), fun w => ?_⟩, fun w => absurd w (by decide), x5⟩
    · show (f1 (sA h A)).bind _ = _
      rw [x1, Option.bind_some, if_pos z]; exact ok_z_0
    · have := x3.mpr ⟨w.1.1, okM_s (fun x hx => by rw [List.append_assoc]; exact List.mem_append.mpr (Or.inr hx)) w.2⟩
      rw [z] at this; exact absurd this (by decide)
  · obtain ⟨p1, o1⟩ := x3.mp z
    obtain ⟨u, A2, y1, y2, y3, y4, y5⟩ := F2 p1 A1 (N1 ++ M) x5 (x4 z) o1
    refine ⟨u, A2, ?_, y2, y3.trans ?_, fun w => by rw [List.append_assoc]; exact y4 w, y5⟩
    · show (f1 (sA h A)).bind _ = _
      rw [x1, Option.bind_some, if_neg (show ¬ v = 0 by rw [z]; decide)]; exact y1
    · rw [List.append_assoc]
      exact ⟨fun w => ⟨⟨p1, w.1⟩, w.2⟩, fun w => ⟨w.1.2, w.2⟩⟩
theorem rs_one (F : RSx h f P N) : RSx h (fun H => (f H).bind fun q => if q.1 = 0 then ok_z 0 q.2 else ok_z 1 q.2) P N := by
  intro A M a b d
  obtain ⟨v, A1, x1, x2, x3⟩ := F A M a b d
  refine ⟨v, A1, ?_, x2, x3⟩
  show (f (sA h A)).bind _ = _
  rw [x1, Option.bind_some]
  rcases x2 with z | z
  · rw [if_pos z, z]; exact ok_z_0
  · rw [if_neg (show ¬ v = 0 by rw [z]; decide), z]; exact ok_z_1
theorem rs_z (F : RSx h f P N) : RSx h (fun H => (f H).bind fun q => ok_z q.1 q.2) P N := by
  intro A M a b d
  obtain ⟨v, A1, x1, x2, x3⟩ := F A M a b d
  refine ⟨v, A1, ?_, x2, x3⟩
  show (f (sA h A)).bind _ = _
  rw [x1, Option.bind_some]
  exact ok_zv x2
theorem rs_t : RSx h (ok_z 1) True [] := fun A M a b d => ⟨1, A, ok_z_1, Or.inr rfl, ⟨fun _ => ⟨trivial, d⟩, fun _ => rfl⟩, fun _ => b, a⟩
theorem rs_if [Decidable c] (F : c → RSx h f P N) : RSx h (fun H => if c then f H else ok_z 0 H) (c ∧ P) N := by
  by_cases q : c
  · refine rs_cg (rs_eq (F q) (fun H => if_pos q)) ⟨fun z => ⟨q, z⟩, fun z => z.2⟩ rfl
  · intro A M a b d
    refine ⟨0, A, ?_, Or.inl rfl, ⟨fun w => absurd w (by decide), fun w => absurd w.1.1 q⟩, fun w => absurd w (by decide), a⟩
    show (if c then f (sA h A) else ok_z 0 (sA h A)) = _
    rw [if_neg q]; exact ok_z_0
theorem rs_v {r k : Nat} (o : ok_o h r k) (F : RSx h f P N) : RSx h (fun H => (ok_v H r k).bind fun _ => f H) P N := by
  intro A M a b d
  obtain ⟨v, A1, x1, x2⟩ := F A M a b d
  refine ⟨v, A1, ?_, x2⟩
  show (ok_v (sA h A) r k).bind _ = _
  rw [q_v o, Option.bind_some]; exact x1
theorem rs_rd {g : Int32 → AH → Option (Int32 × AH)} {co e i : Nat} {d : PD} (C : CoR h co d) (hi : i < 10) (he : e < m_len i) (F : RSx h (g (pR d i e)) P N) : RSx h (fun H => (g_r H co 0 i).bind fun x => (l_i H x (nI e)).bind fun v => g v H) P N := by
  intro A M a b dd
  obtain ⟨v, A1, x1, x2⟩ := F A M a b dd
  refine ⟨v, A1, ?_, x2⟩
  obtain ⟨c1, c2, c3, c4⟩ := C
  obtain ⟨r1, r2, r3, r4⟩ := c2 i hi
  have l64 : m_len i ≤ 64 := by
    unfold m_len
    split
    · omega
    · split <;> omega
  show (g_r (sA h A) co 0 i).bind _ = _
  rw [q_r c1 rfl, Option.bind_some, show l_i (sA h A) (hp_r h co i) (nI e) = some (A (hp_r h co i) e) from l_iN (h := sA h A) r2 (by show e < hp_l h (hp_r h co i); omega) (by omega), Option.bind_some, a _ _ (by omega) (by omega), r4]
  exact x1
theorem rs_rk {g : Int32 → AH → Option (Int32 × AH)} {pr k : Nat} {d : PD} (o : ok_o h pr 5) (C : 126 ≤ hp_r h pr 1 ∧ ok_o h (hp_r h pr 1) 100 ∧ hp_l h (hp_r h pr 1) = 8 ∧ hp_i h (hp_r h pr 1) = pK d) (hk : k < 8) (F : RSx h (g (pK d k)) P N) : RSx h (fun H => (g_r H pr 5 1).bind fun x => (l_i H x (nI k)).bind fun v => g v H) P N := by
  intro A M a b dd
  obtain ⟨v, A1, x1, x2⟩ := F A M a b dd
  refine ⟨v, A1, ?_, x2⟩
  obtain ⟨c1, c2, c3, c4⟩ := C
  show (g_r (sA h A) pr 5 1).bind _ = _
  rw [q_r o rfl, Option.bind_some, show l_i (sA h A) (hp_r h pr 1) (nI k) = some (A (hp_r h pr 1) k) from l_iN (h := sA h A) c2 (by show k < hp_l h (hp_r h pr 1); omega) (by omega), Option.bind_some, a _ _ (by omega) (by omega), c4]
  exact x1
theorem rs_g {pr k : Nat} {f : Nat → AH → Option (Int32 × AH)} (o : ok_o h pr 5) (F : RSx h (f (hp_r h pr k)) P N) : RSx h (fun H => (g_r H pr 5 k).bind fun x => f x H) P N := by
  intro A M a b dd
  obtain ⟨v, A1, x1, x2⟩ := F A M a b dd
  refine ⟨v, A1, ?_, x2⟩
  show (g_r (sA h A) pr 5 k).bind _ = _
  rw [q_r o rfl, Option.bind_some]; exact x1
theorem an15 : ∀ k, k < 16 → nI k &&& (15 : Int32) = nI k := by decide
/-- a pair of names -/
def npr (b : Nat) (s s' : Int32) : MP := if s = -1 then [] else [(b + ix s, b + ix s')]
theorem rs_nf {gq bs : Nat} {s s' : Int32} (G : GLk h) (hb : (gq = 0 ∧ bs = 300) ∨ (gq = 8 ∧ bs = 400) ∨ (gq = 13 ∧ bs = 500)) (hs : s = -1 ∨ ∃ x, VN (bs + x) ∧ x < 10 ∧ s = nI x) (hs' : s' = -1 ∨ ∃ x, VN (bs + x) ∧ x < 10 ∧ s' = nI x) : RSx h (f_X1_nameFits 99 (nI gq) s s') (s = -1 ↔ s' = -1) (npr bs s s') := by
  obtain ⟨g1, g2, g3, g4, g5, g6, g7⟩ := G
  intro A M a b dd
  unfold f_X1_nameFits b_X1_nameFits_0 b_X1_nameFits_5
  rcases hs with z | ⟨x, x1, x10, x2⟩
  · rw [if_pos z]
    have e : npr bs s s' = [] := if_pos z
    rw [e, List.nil_append]
    unfold b_X1_nameFits_10
    by_cases q : s' = -1
    · refine ⟨1, A, ?_, Or.inr rfl, ⟨fun _ => ⟨⟨fun _ => q, fun _ => z⟩, dd⟩, fun _ => rfl⟩, fun _ => b, a⟩
      rw [if_pos (by rw [z, q])]; exact ok_z_1
    · refine ⟨0, A, ?_, Or.inl rfl, ⟨fun w => absurd w (by decide), fun w => absurd (w.1.mp z) q⟩, fun w => absurd w (by decide), a⟩
      rw [if_neg (fun w => q (by rw [← w]; exact z))]; exact ok_z_0
  · have ns : ¬ s = -1 := by rw [x2]; exact nI_ne1 (by omega)
    rw [if_neg ns]
    rcases hs' with z | ⟨y, y1, y10, y2⟩
    · rw [if_pos z]
      unfold b_X1_nameFits_10
      refine ⟨0, A, ?_, Or.inl rfl, ⟨fun w => absurd w (by decide), fun w => absurd (w.1.mpr z) ns⟩, fun w => absurd w (by decide), a⟩
      rw [if_neg (fun w => ns (w.trans z))]; exact ok_z_0
    · have ns' : ¬ s' = -1 := by rw [y2]; exact nI_ne1 (by omega)
      rw [if_neg ns']
      have e : npr bs s s' = [(bs + x, bs + y)] := by
        unfold npr
        rw [if_neg ns, x2, y2, ix_nI (by omega), ix_nI (by omega)]
      rw [e]
      have px : gq + x = ph (bs + x) := by
        have := ph_v x1
        unfold VN at x1
        omega
      have py : gq + y = ph (bs + y) := by
        have := ph_v y1
        unfold VN at y1
        omega
      have lx := ph_lt x1
      have ly := ph_lt y1
      have ex : (nI gq + s) &&& (15 : Int32) = nI (ph (bs + x)) := by rw [x2, nI_add, px, an15 _ lx]
      have ey : (nI gq + s') &&& (15 : Int32) = nI (ph (bs + y)) := by rw [y2, nI_add, py, an15 _ ly]
      unfold b_X1_nameFits_21
      rw [ex, ey]
      generalize bs + x = p at *
      generalize bs + y = q at *
      have l0 : ∀ B : Nat → Nat → Int32, l_i (sA h B) 100 (nI (ph p)) = some (B 100 (ph p)) := fun B => l_iN (h := sA h B) g4 (by show ph p < hp_l h 100; omega) (by omega)
      have l1 : ∀ B : Nat → Nat → Int32, l_i (sA h B) 101 (nI (ph q)) = some (B 101 (ph q)) := fun B => l_iN (h := sA h B) g6 (by show ph q < hp_l h 101; omega) (by omega)
      have e77 : ∀ B : Nat → Nat → Int32, b_X1_nameFits_77 99 (nI (ph p)) (nI (ph q)) (sA h B) = if B 100 (ph p) = nI (ph q) then some (1, sA h B) else some (0, sA h B) := fun B => by
        unfold b_X1_nameFits_77
        rw [q_r g1 g2, Option.bind_some, l0, Option.bind_some]
        by_cases w : B 100 (ph p) = nI (ph q)
        · rw [if_pos w, if_pos w]; exact ok_z_1
        · rw [if_neg w, if_neg w]; exact ok_z_0
      rw [q_r g1 g2, Option.bind_some, l0, Option.bind_some]
      have eqv : (s = -1 ↔ s' = -1) := ⟨fun w => absurd w ns, fun w => absurd w ns'⟩
      rcases ns_step (fun _ _ => ph_i) (fun a va => by have := ph_lt va; omega) (by decide) b dd x1 y1 with ⟨w1, w2, w3⟩ | ⟨w1, w2, w3⟩ | ⟨w1, w2, w3⟩ | ⟨w1, w2, w3, w4⟩
      · refine ⟨1, A, ?_, Or.inr rfl, ⟨fun _ => ⟨eqv, w2⟩, fun _ => rfl⟩, fun _ => w3, a⟩
        rw [if_neg (by rw [w1]; exact nI_ne1 (by omega)), e77, if_pos w1]
      · refine ⟨0, A, ?_, Or.inl rfl, ⟨fun u => absurd u (by decide), fun u => absurd u.2 w3⟩, fun u => absurd u (by decide), a⟩
        rw [if_neg w2, e77, if_neg w1]
      · refine ⟨0, A, ?_, Or.inl rfl, ⟨fun u => absurd u (by decide), fun u => absurd u.2 w3⟩, fun u => absurd u (by decide), a⟩
        rw [if_pos w1]
        unfold b_X1_nameFits_48
        rw [q_r g1 g3, Option.bind_some, l1, Option.bind_some, if_neg w2, e77, if_neg (by rw [w1]; exact fun u => nI_ne1 (by omega) u.symm)]
      · refine ⟨1, up_2 (up_2 A 100 (ph p) (nI (ph q))) 101 (ph q) (nI (ph p)), ?_, Or.inr rfl, ⟨fun _ => ⟨eqv, w3⟩, fun _ => rfl⟩, fun _ => w4, fun r k h1 h2 => by rw [u2 (by omega), u2 (by omega)]; exact a r k h1 h2⟩
        rw [if_pos w1]
        unfold b_X1_nameFits_48
        rw [q_r g1 g3, Option.bind_some, l1, Option.bind_some, if_pos w2]
        unfold b_X1_nameFits_59
        rw [q_r g1 g2, Option.bind_some, show s_i (sA h A) 100 (nI (ph p)) (nI (ph q)) = some (sA h (up_2 A 100 (ph p) (nI (ph q)))) from s_iN (h := sA h A) g4 (by show ph p < hp_l h 100; omega) (by omega), Option.bind_some, q_r g1 g3, Option.bind_some, show ∀ B : Nat → Nat → Int32, s_i (sA h B) 101 (nI (ph q)) (nI (ph p)) = some (sA h (up_2 B 101 (ph q) (nI (ph p)))) from fun B => s_iN (h := sA h B) g6 (by show ph q < hp_l h 101; omega) (by omega), Option.bind_some, e77, if_pos (by rw [u2 (by omega), u2s])]
end
