/-! ===== same: lists of tokens ===== -/
def TMl (d d' : PD) : List Nat → List Nat → Prop
  | [], [] => True
  | t :: X, u :: Y => tm d d' t u ∧ TMl d d' X Y
  | _, _ => False
def segp : List Nat → List Nat → MP
  | t :: X, u :: Y => segp X Y ++ tpn t u
  | _, _ => []
def opl (x : Int32) (X : List Nat) : Int32 := X.foldl opx x
section
variable {H : AH} {p q : Nat} {d d' : PD}
/-- tokens without a closing sign -/
theorem r_seg (T : TwR H p q d d') : ∀ (X Y : List Nat) (a b f : Nat) (A : Nat → Nat → Int32) (M : MP) (x : Int32), X.length = Y.length → (∀ k, A 106 k = hp_i H 106 k) → a + X.length ≤ (RN (pS d) (pE d)).length → b + Y.length ≤ (RN (pS d') (pE d')).length → (∀ i, i < X.length → (RN (pS d) (pE d)).getD (a + i) 0 = X.getD i 0) → (∀ i, i < Y.length → (RN (pS d') (pE d')).getD (b + i) 0 = Y.getD i 0) → (∀ t, t ∈ X → VTn t ∧ t ≠ 706) → (∀ u, u ∈ Y → VTn u) → NSt (fun z => z) A 120 121 M → okM M →
    ((TMl d d' X Y ∧ okM (segp X Y ++ M)) ∧ ∃ A', NSt (fun z => z) A' 120 121 (segp X Y ++ M) ∧ (∀ r k, r ≠ 120 → r ≠ 121 → A' r k = A r k) ∧ l_X11_tokensAlike_13 (f + X.length) 102 (nI p) (nI q) (nI a) (nI b) x (sA H A) = l_X11_tokensAlike_13 f 102 (nI p) (nI q) (nI (a + X.length)) (nI (b + X.length)) (opl x X) (sA H A')) ∨
    (¬ (TMl d d' X Y ∧ okM (segp X Y ++ M)) ∧ ∃ A', (∀ r k, r ≠ 120 → r ≠ 121 → A' r k = A r k) ∧ l_X11_tokensAlike_13 (f + X.length) 102 (nI p) (nI q) (nI a) (nI b) x (sA H A) = some (0, sA H A')) := by
  intro X
  induction X with
  | nil =>
    intro Y a b f A M x hl hA ha hb eX eY vX vY N O
    cases Y with
    | nil => exact Or.inl ⟨⟨trivial, O⟩, A, N, fun _ _ _ _ => rfl, rfl⟩
    | cons u Y => exact absurd hl (by simp)
  | cons t X ih =>
    intro Y a b f A M x hl hA ha hb eX eY vX vY N O
    cases Y with
    | nil => exact absurd hl (by simp)
    | cons u Y =>
      have lx : (t :: X).length = X.length + 1 := rfl
      have ly : (u :: Y).length = Y.length + 1 := rfl
      have hl' : X.length = Y.length := by omega
      have e0 := eX 0 (by omega)
      have e0' := eY 0 (by omega)
      have st := r_ts (f := f + X.length) (x := x) T hA (a := a) (b := b) (t := t) (u := u) (by omega) (by omega) e0 e0' (vX t (List.mem_cons_self ..)).1 (vY u (List.mem_cons_self ..)) N O
      have t6 : t ≠ 706 := (vX t (List.mem_cons_self ..)).2
      have t8 : t < 800 := by have := (vX t (List.mem_cons_self ..)).1.1; unfold VT at this; omega
      have eN : ∀ B, nxt p q a b x t (f + X.length) (sA H B) = l_X11_tokensAlike_13 (f + X.length) 102 (nI p) (nI q) (nI (a + 1)) (nI (b + 1)) (opx x t) (sA H B) := fun B => by
        unfold nxt
        by_cases c : 0 < opx x t
        · rw [if_pos c]
        · rw [if_neg c, if_neg (show ¬ nI t = (706 : Int32) from fun z => t6 ((nI_eq (b := 706) (by omega) (by omega)).mp z))]
      have sp : segp (t :: X) (u :: Y) ++ M = segp X Y ++ (tpn t u ++ M) := by
        show (segp X Y ++ tpn t u) ++ M = _
        rw [List.append_assoc]
      rw [sp]
      rcases st with ⟨⟨s1, s2⟩, A1, s3, s4, s5⟩ | ⟨s1, s2⟩
      · rw [eN] at s5
        have r := ih Y (a + 1) (b + 1) f A1 (tpn t u ++ M) (opx x t) hl' (fun k => by rw [s4 106 k (by omega) (by omega)]; exact hA k) (by omega) (by omega) (fun i hi => by
          have := eX (i + 1) (by omega)
          rw [show a + 1 + i = a + (i + 1) by omega, this]; rfl) (fun i hi => by
          have := eY (i + 1) (by omega)
          rw [show b + 1 + i = b + (i + 1) by omega, this]; rfl) (fun t' ht => vX t' (List.mem_cons_of_mem _ ht)) (fun t' ht => vY t' (List.mem_cons_of_mem _ ht)) s3 s2
        rcases r with ⟨⟨r1, r2⟩, A2, r3, r4, r5⟩ | ⟨r1, A2, r4, r5⟩
        · refine Or.inl ⟨⟨⟨s1, r1⟩, r2⟩, A2, r3, fun r k h1 h2 => (r4 r k h1 h2).trans (s4 r k h1 h2), ?_⟩
          rw [lx, show f + (X.length + 1) = f + X.length + 1 by omega, s5, r5, show a + 1 + X.length = a + (X.length + 1) by omega, show b + 1 + X.length = b + (X.length + 1) by omega]
          rfl
        · refine Or.inr ⟨fun z => r1 ⟨z.1.2, z.2⟩, A2, fun r k h1 h2 => (r4 r k h1 h2).trans (s4 r k h1 h2), ?_⟩
          rw [lx, show f + (X.length + 1) = f + X.length + 1 by omega, s5, r5]
      · refine Or.inr ⟨fun z => s1 ⟨z.1.1, okM_s (fun y hy => List.mem_append.mpr (Or.inr hy)) z.2⟩, A, fun _ _ _ _ => rfl, ?_⟩
        rw [lx, show f + (X.length + 1) = f + X.length + 1 by omega, s2]
end
/-! ===== same: the shapes of the entries ===== -/
/-- an entry that does not close: its tokens -/
def FOx (x : Ent) (X : List Nat) : Prop :=
  (∃ l c, l < 5 ∧ c < 6 ∧ en_op x = 0 ∧ en_tl x = nI l ∧ en_bs x = -1 ∧ en_dg x = -1 ∧ en_ob x = nI c ∧ X = [400 + l, 701, 300 + c, 700]) ∨
  (∃ c k, c < 6 ∧ k ≤ 9 ∧ en_op x = 1 ∧ en_tl x = -1 ∧ en_bs x = -1 ∧ en_dg x = nI k ∧ en_ob x = nI c ∧ X = [300 + c, 701, 600 + k, 700]) ∨
  (∃ c b, c < 6 ∧ b < 5 ∧ en_op x = 1 ∧ en_tl x = -1 ∧ en_bs x = nI b ∧ en_dg x = -1 ∧ en_ob x = nI c ∧ X = [300 + c, 701, 400 + b, 700]) ∨
  (∃ c b k, c < 6 ∧ b < 5 ∧ k ≤ 9 ∧ en_op x = 1 ∧ en_tl x = -1 ∧ en_bs x = nI b ∧ en_dg x = nI k ∧ en_ob x = nI c ∧ X = [300 + c, 701, 400 + b, 704, 600 + k, 700]) ∨
  (∃ l b c, l < 5 ∧ b < 5 ∧ c < 6 ∧ en_op x = 2 ∧ en_tl x = nI l ∧ en_bs x = nI b ∧ en_dg x = -1 ∧ en_ob x = nI c ∧ X = [400 + l, 701, 400 + b, 703, 300 + c, 700]) ∨
  (∃ m, m < 2 ∧ en_op x = 3 ∧ en_tl x = -1 ∧ en_bs x = -1 ∧ en_dg x = -1 ∧ en_ob x = nI m ∧ X = [204, 500 + m, 700]) ∨
  (∃ m, m < 2 ∧ en_op x = 4 ∧ en_tl x = -1 ∧ en_bs x = -1 ∧ en_dg x = -1 ∧ en_ob x = nI m ∧ X = [205, 500 + m, 700]) ∨
  (en_op x = 5 ∧ en_tl x = -1 ∧ en_bs x = -1 ∧ en_dg x = -1 ∧ en_ob x = -1 ∧ X = [206, 700]) ∨
  (∃ l k, l < 5 ∧ k ≤ 9 ∧ en_op x = 6 ∧ en_tl x = nI l ∧ en_bs x = -1 ∧ en_dg x = nI k ∧ en_ob x = -1 ∧ X = [400 + l, 701, 600 + k, 700]) ∨
  (∃ l b, l < 5 ∧ b < 5 ∧ en_op x = 6 ∧ en_tl x = nI l ∧ en_bs x = nI b ∧ en_dg x = -1 ∧ en_ob x = -1 ∧ X = [400 + l, 701, 400 + b, 700]) ∨
  (∃ l b k, l < 5 ∧ b < 5 ∧ k ≤ 9 ∧ en_op x = 6 ∧ en_tl x = nI l ∧ en_bs x = nI b ∧ en_dg x = nI k ∧ en_ob x = -1 ∧ X = [400 + l, 701, 400 + b, 704, 600 + k, 700]) ∨
  (∃ l k, l < 5 ∧ k ≤ 9 ∧ en_op x = 7 ∧ en_tl x = nI l ∧ en_bs x = -1 ∧ en_dg x = nI k ∧ en_ob x = -1 ∧ X = [207, 400 + l, 702, 600 + k, 705])
theorem op07 {n : Nat} (h : n ≤ 7) : n = 0 ∨ n = 1 ∨ n = 2 ∨ n = 3 ∨ n = 4 ∨ n = 5 ∨ n = 6 ∨ n = 7 := by omega
theorem fo_x {x : Ent} {AL : List Act} {ow kd : Nat → Int32} {dn : Int32} {i : Nat} (F : FX AL ow kd dn i x) (Zb : fzb x = true) (h7 : en_op x ≤ 7) : FOx x (rne x) := by
  obtain ⟨z0, z1, z2, z3, z5, z6, z7⟩ := of_decide_eq_true Zb
  obtain ⟨f1, -, -, f4, f5, f6, f7, f8, f9, -⟩ := F
  have o : en_op x = 0 ∨ en_op x = 1 ∨ en_op x = 2 ∨ en_op x = 3 ∨ en_op x = 4 ∨ en_op x = 5 ∨ en_op x = 6 ∨ en_op x = 7 := op07 h7
  unfold rne
  rcases o with o | o | o | o | o | o | o | o
  · obtain ⟨l, l1, l2, -⟩ := f6 (Or.inl o)
    obtain ⟨c, c1, c2, -⟩ := f4 (Or.inl o)
    refine Or.inl ⟨l, c, l1, c1, o, l2, (z0 o).1, (z0 o).2, c2, ?_⟩
    rw [if_pos o, l2, c2, ix_nI (by omega), ix_nI (by omega)]
  · obtain ⟨c, c1, c2, -⟩ := f4 (Or.inr (Or.inl o))
    obtain ⟨b1, b2, b3⟩ := f8 (Or.inl o)
    rw [if_neg (by omega), if_pos o, c2, ix_nI (by omega)]
    unfold rnx
    rcases b1 with zb | ⟨b, b4, b5, -⟩
    · obtain ⟨k, k1, k2⟩ := b2.resolve_left (b3 zb)
      refine Or.inr (Or.inl ⟨c, k, c1, k1, o, z1 o, zb, k2, c2, ?_⟩)
      rw [if_pos zb, k2, ix_nI (by omega)]; rfl
    · have nb : ¬ en_bs x = -1 := by rw [b5]; exact nI_ne1 (by omega)
      rcases b2 with zd | ⟨k, k1, k2⟩
      · refine Or.inr (Or.inr (Or.inl ⟨c, b, c1, b4, o, z1 o, b5, zd, c2, ?_⟩))
        rw [if_neg nb, if_pos zd, b5, ix_nI (by omega)]; rfl
      · refine Or.inr (Or.inr (Or.inr (Or.inl ⟨c, b, k, c1, b4, k1, o, z1 o, b5, k2, c2, ?_⟩)))
        rw [if_neg nb, if_neg (by rw [k2]; exact nI_ne1 (by omega)), b5, k2, ix_nI (by omega), ix_nI (by omega)]; rfl
  · obtain ⟨l, l1, l2, -⟩ := f6 (Or.inr (Or.inl o))
    obtain ⟨c, c1, c2, -⟩ := f4 (Or.inr (Or.inr o))
    obtain ⟨b, b1, b2, -⟩ := f7 o
    refine Or.inr (Or.inr (Or.inr (Or.inr (Or.inl ⟨l, b, c, l1, b1, c1, o, l2, b2, z2 o, c2, ?_⟩))))
    rw [if_neg (by omega), if_neg (by omega), if_pos o, l2, b2, c2, ix_nI (by omega), ix_nI (by omega), ix_nI (by omega)]
  · obtain ⟨m, m1, m2⟩ := f5 (Or.inl o)
    obtain ⟨y1, y2, y3⟩ := z3 (Or.inl o)
    refine Or.inr (Or.inr (Or.inr (Or.inr (Or.inr (Or.inl ⟨m, m1, o, y1, y2, y3, m2, ?_⟩)))))
    rw [if_neg (by omega), if_neg (by omega), if_neg (by omega), if_pos o, m2, ix_nI (by omega)]
  · obtain ⟨m, m1, m2⟩ := f5 (Or.inr o)
    obtain ⟨y1, y2, y3⟩ := z3 (Or.inr o)
    refine Or.inr (Or.inr (Or.inr (Or.inr (Or.inr (Or.inr (Or.inl ⟨m, m1, o, y1, y2, y3, m2, ?_⟩))))))
    rw [if_neg (by omega), if_neg (by omega), if_neg (by omega), if_neg (by omega), if_pos o, m2, ix_nI (by omega)]
  · obtain ⟨y1, y2, y3, y4⟩ := z5 (Or.inl o)
    refine Or.inr (Or.inr (Or.inr (Or.inr (Or.inr (Or.inr (Or.inr (Or.inl ⟨o, y1, y2, y3, y4, ?_⟩)))))))
    rw [if_neg (by omega), if_neg (by omega), if_neg (by omega), if_neg (by omega), if_neg (by omega), if_pos o]
  · obtain ⟨l, l1, l2, -⟩ := f6 (Or.inr (Or.inr (Or.inl o)))
    obtain ⟨b1, b2, b3⟩ := f8 (Or.inr o)
    rw [if_neg (by omega), if_neg (by omega), if_neg (by omega), if_neg (by omega), if_neg (by omega), if_neg (by omega), if_pos o, l2, ix_nI (by omega)]
    unfold rnx
    rcases b1 with zb | ⟨b, b4, b5, -⟩
    · obtain ⟨k, k1, k2⟩ := b2.resolve_left (b3 zb)
      refine Or.inr (Or.inr (Or.inr (Or.inr (Or.inr (Or.inr (Or.inr (Or.inr (Or.inl ⟨l, k, l1, k1, o, l2, zb, k2, z6 o, ?_⟩))))))))
      rw [if_pos zb, k2, ix_nI (by omega)]; rfl
    · have nb : ¬ en_bs x = -1 := by rw [b5]; exact nI_ne1 (by omega)
      rcases b2 with zd | ⟨k, k1, k2⟩
      · refine Or.inr (Or.inr (Or.inr (Or.inr (Or.inr (Or.inr (Or.inr (Or.inr (Or.inr (Or.inl ⟨l, b, l1, b4, o, l2, b5, zd, z6 o, ?_⟩)))))))))
        rw [if_neg nb, if_pos zd, b5, ix_nI (by omega)]; rfl
      · refine Or.inr (Or.inr (Or.inr (Or.inr (Or.inr (Or.inr (Or.inr (Or.inr (Or.inr (Or.inr (Or.inl ⟨l, b, k, l1, b4, k1, o, l2, b5, k2, z6 o, ?_⟩))))))))))
        rw [if_neg nb, if_neg (by rw [k2]; exact nI_ne1 (by omega)), b5, k2, ix_nI (by omega), ix_nI (by omega)]; rfl
  · obtain ⟨l, l1, l2, -⟩ := f6 (Or.inr (Or.inr (Or.inr o)))
    obtain ⟨k, k1, k2⟩ := f9 o
    refine Or.inr (Or.inr (Or.inr (Or.inr (Or.inr (Or.inr (Or.inr (Or.inr (Or.inr (Or.inr (Or.inr ⟨l, k, l1, k1, o, l2, (z7 o).1, k2, (z7 o).2, ?_⟩))))))))))
    rw [if_neg (by omega), if_neg (by omega), if_neg (by omega), if_neg (by omega), if_neg (by omega), if_neg (by omega), if_neg (by omega), if_pos o, l2, k2, ix_nI (by omega), ix_nI (by omega)]
/-- arithmetic part of tm -/
def tmA (t u : Nat) : Prop := ((t / 100 = 3 ∨ t / 100 = 4 ∨ t / 100 = 5) ∧ u / 100 = t / 100) ∨ (¬ (t / 100 = 3 ∨ t / 100 = 4 ∨ t / 100 = 5) ∧ t = u)
theorem tm_A {d d' : PD} {t u : Nat} (h : tm d d' t u) : tmA t u := h.imp (fun z => ⟨z.1, z.2.1⟩) id
