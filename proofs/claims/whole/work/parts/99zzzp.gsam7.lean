/-! ===== same: lists of entries ===== -/
def Gx (x : Ent) : Prop := en_op x ≤ 10 ∧ (en_op x ≤ 7 → FOx x (rne x)) ∧ (8 ≤ en_op x → en_tl x = -1 ∧ en_bs x = -1 ∧ en_dg x = -1 ∧ en_ob x = -1)
/-- entries up to a stop -/
def STL : List Ent → Prop
  | [] => False
  | x :: X => Gx x ∧ ((en_op x = 10 ∧ X = []) ∨ (en_op x ≠ 10 ∧ STL X))
def flt (X : List Ent) : List Nat := X.flatMap rne
def SMl (d d' : PD) : List Ent → List Ent → Prop
  | [], [] => True
  | x :: X, y :: Y => sm d d' x y ∧ SMl d d' X Y
  | _, _ => False
def epl : List Ent → List Ent → MP
  | x :: X, y :: Y => epl X Y ++ ep x y
  | _, _ => []
theorem flt_c {x : Ent} {X : List Ent} : flt (x :: X) = rne x ++ flt X := List.flatMap_cons
theorem r_8 {x : Ent} (h : en_op x = 8) : rne x = [706, 208, 705] := by
  unfold rne
  rw [if_neg (by omega), if_neg (by omega), if_neg (by omega), if_neg (by omega), if_neg (by omega), if_neg (by omega), if_neg (by omega), if_neg (by omega), if_pos h]
theorem r_9 {x : Ent} (h : 9 ≤ en_op x) : rne x = [706] := by
  unfold rne
  rw [if_neg (by omega), if_neg (by omega), if_neg (by omega), if_neg (by omega), if_neg (by omega), if_neg (by omega), if_neg (by omega), if_neg (by omega), if_neg (by omega)]
theorem r_6 {x : Ent} (h : 8 ≤ en_op x) : ∃ L, rne x = 706 :: L := by
  by_cases c : en_op x = 8
  · exact ⟨_, r_8 c⟩
  · exact ⟨_, r_9 (by omega)⟩
theorem fo_h {x : Ent} {X : List Nat} (F : FOx x X) : ∃ t ts, X = t :: ts ∧ t < 600 := by
  rcases F with ⟨l, c, h, h', -, -, -, -, -, rfl⟩ | ⟨c, k, h, h', -, -, -, -, -, rfl⟩ | ⟨c, b, h, h', -, -, -, -, -, rfl⟩ | ⟨c, b, k, h, h', h'', -, -, -, -, -, rfl⟩ | ⟨l, b, c, h, h', h'', -, -, -, -, -, rfl⟩ | ⟨m, h, -, -, -, -, -, rfl⟩ | ⟨m, h, -, -, -, -, -, rfl⟩ | ⟨-, -, -, -, -, rfl⟩ | ⟨l, k, h, h', -, -, -, -, -, rfl⟩ | ⟨l, b, h, h', -, -, -, -, -, rfl⟩ | ⟨l, b, k, h, h', h'', -, -, -, -, -, rfl⟩ | ⟨l, k, h, h', -, -, -, -, -, rfl⟩ <;> exact ⟨_, _, rfl, by omega⟩
section
variable {d d' : PD}
theorem tml_a : ∀ (P Q R S : List Nat), P.length = Q.length → (TMl d d' (P ++ R) (Q ++ S) ↔ TMl d d' P Q ∧ TMl d d' R S) := by
  intro P
  induction P with
  | nil =>
    intro Q R S h
    cases Q with
    | nil => exact ⟨fun z => ⟨trivial, z⟩, fun z => z.2⟩
    | cons u Q => exact absurd h (by simp)
  | cons t P ih =>
    intro Q R S h
    cases Q with
    | nil => exact absurd h (by simp)
    | cons u Q =>
      have ih' := ih Q R S (by simpa using h)
      exact ⟨fun z => ⟨⟨z.1, (ih'.mp z.2).1⟩, (ih'.mp z.2).2⟩, fun z => ⟨z.1.1, ih'.mpr ⟨z.1.2, z.2⟩⟩⟩
theorem sgp_a : ∀ (P Q R S : List Nat), P.length = Q.length → segp (P ++ R) (Q ++ S) = segp R S ++ segp P Q := by
  intro P
  induction P with
  | nil =>
    intro Q R S h
    cases Q with
    | nil => exact (List.append_nil _).symm
    | cons u Q => exact absurd h (by simp)
  | cons t P ih =>
    intro Q R S h
    cases Q with
    | nil => exact absurd h (by simp)
    | cons u Q =>
      have ih' := ih Q R S (by simpa using h)
      show segp (P ++ R) (Q ++ S) ++ tpn t u = segp R S ++ (segp P Q ++ tpn t u)
      rw [ih', List.append_assoc]
theorem flt_h {X : List Ent} (S : STL X) : ∃ t ts, flt X = t :: ts ∧ t ≠ 208 := by
  cases X with
  | nil => exact absurd S id
  | cons x X =>
    obtain ⟨t, ts, e1, e2⟩ := rne_h (x := x)
    exact ⟨t, ts ++ flt X, by rw [flt_c, e1]; rfl, e2⟩
def DCD (d d' : PD) (X Y : List Ent) : Prop := (TMl d d' (flt X) (flt Y) ↔ SMl d d' X Y) ∧ (SMl d d' X Y → ∀ z, z ∈ segp (flt X) (flt Y) ↔ z ∈ epl X Y)
theorem dc_y {x y : Ent} {X Y : List Ent} (hl : (rne x).length = (rne y).length) (h1 : TMl d d' (rne x) (rne y) ↔ sm d d' x y) (h2 : ∀ z, z ∈ segp (rne x) (rne y) ↔ z ∈ ep x y) (D : DCD d d' X Y) : DCD d d' (x :: X) (y :: Y) := by
  unfold DCD
  rw [flt_c, flt_c, sgp_a _ _ _ _ hl]
  refine ⟨(tml_a _ _ _ _ hl).trans ⟨fun z => ⟨h1.mp z.1, D.1.mp z.2⟩, fun z => ⟨h1.mpr z.1, D.1.mpr z.2⟩⟩, fun w z => ?_⟩
  show z ∈ segp (flt X) (flt Y) ++ segp (rne x) (rne y) ↔ z ∈ epl X Y ++ ep x y
  rw [List.mem_append, List.mem_append, D.2 w.2 z, h2 z]
theorem dc_n {x y : Ent} {X Y : List Ent} (n1 : TMl d d' (flt (x :: X)) (flt (y :: Y)) → False) (n2 : sm d d' x y → False) : DCD d d' (x :: X) (y :: Y) := ⟨⟨fun z => (n1 z).elim, fun z => (n2 z.1).elim⟩, fun z => (n2 z.1).elim⟩
theorem dcd0 : DCD d d' [] [] := ⟨⟨fun _ => trivial, fun _ => trivial⟩, fun _ z => ⟨fun w => (by cases w), fun w => (by cases w)⟩⟩
theorem m_lo {t : Nat} (h : t < 600) (z : tm d d' t 706) : False := by
  rcases z with z | z
  · have := z.2.1
    omega
  · have := z.2
    omega
theorem m_hi {t : Nat} (h : t < 600) (z : tm d d' 706 t) : False := by
  rcases z with z | z
  · rcases z.1 with w | w | w <;> exact absurd w (by decide)
  · have := z.2
    omega
theorem m_208 {t : Nat} (h : t ≠ 208) (z : tm d d' 208 t) : False := by
  rcases z with z | z
  · rcases z.1 with w | w | w <;> exact absurd w (by decide)
  · exact h z.2.symm
theorem m_802 {t : Nat} (h : t ≠ 208) (z : tm d d' t 208) : False := by
  rcases z with ⟨z, y, -⟩ | z
  · rcases z with w | w | w
    · rw [w] at y; exact absurd y (by decide)
    · rw [w] at y; exact absurd y (by decide)
    · rw [w] at y; exact absurd y (by decide)
  · exact h z.2
theorem dcd : ∀ (X Y : List Ent), STL X → STL Y → DCD d d' X Y := by
  intro X
  induction X with
  | nil => intro Y S; exact absurd S id
  | cons x X ih =>
    intro Y SX SY
    cases Y with
    | nil => exact absurd SY id
    | cons y Y =>
      obtain ⟨⟨x10, x7, x8⟩, sx⟩ := SX
      obtain ⟨⟨y10, y7, y8⟩, sy⟩ := SY
      by_cases cx : en_op x ≤ 7
      · have sx' : STL X := (sx.resolve_left (fun z => by omega)).2
        by_cases cy : en_op y ≤ 7
        · have sy' : STL Y := (sy.resolve_left (fun z => by omega)).2
          have F := x7 cx
          have G := y7 cy
          by_cases sh : en_op x = en_op y ∧ en_dg x = en_dg y ∧ (en_tl x = -1 ↔ en_tl y = -1) ∧ (en_bs x = -1 ↔ en_bs y = -1)
          · obtain ⟨s1, s2, s3⟩ := fo_s (d := d) (d' := d') F G sh.1 sh.2.1 sh.2.2.2
            exact dc_y s1 (s2.trans ⟨fun z => ⟨sh.1, sh.2.1, sh.2.2.1, sh.2.2.2, z⟩, fun z => z.2.2.2.2⟩) s3 (ih Y sx' sy')
          · refine dc_n (fun z => sh ?_) (fun z => sh ⟨z.1, z.2.1, z.2.2.1, z.2.2.2.1⟩)
            rw [flt_c, flt_c] at z
            have q := pq_T _ _ z
            rw [List.map_append, List.map_append] at q
            exact (dz (fo_z F) (fo_z G) (pq_a _ _ _ _ q)).2
        · obtain ⟨t, ts, e1, e2⟩ := fo_h (x7 cx)
          obtain ⟨L, e3⟩ := r_6 (x := y) (by omega)
          refine dc_n (fun z => ?_) (fun z => by have := z.1; omega)
          rw [flt_c, flt_c, e1, e3] at z
          exact m_lo e2 z.1
      · by_cases cy : en_op y ≤ 7
        · obtain ⟨t, ts, e1, e2⟩ := fo_h (y7 cy)
          obtain ⟨L, e3⟩ := r_6 (x := x) (by omega)
          refine dc_n (fun z => ?_) (fun z => by have := z.1; omega)
          rw [flt_c, flt_c, e1, e3] at z
          exact m_hi e2 z.1
        · obtain ⟨a1, a2, a3, a4⟩ := x8 (by omega)
          obtain ⟨b1, b2, b3, b4⟩ := y8 (by omega)
          by_cases eo : en_op x = en_op y
          · have tail : DCD d d' X Y := by
              by_cases c : en_op x = 10
              · have h1 := (sx.resolve_right (fun z => z.1 c)).2
                have h2 := (sy.resolve_right (fun z => z.1 (by omega))).2
                rw [h1, h2]; exact dcd0
              · exact ih Y (sx.resolve_left (fun z => c z.1)).2 (sy.resolve_left (fun z => c (by omega))).2
            have hs : sm d d' x y := ⟨eo, by rw [a3, b3], by rw [a1, b1], by rw [a2, b2], fun w => by omega⟩
            have he : ep x y = [] := by
              unfold ep
              rw [a1, a2, a4]
              rfl
            have key : (rne x).length = (rne y).length ∧ TMl d d' (rne x) (rne y) ∧ segp (rne x) (rne y) = [] := by
              by_cases c : en_op x = 8
              · rw [r_8 c, r_8 (x := y) (by omega)]
                exact ⟨rfl, ⟨m_0 (by decide), m_0 (by decide), m_0 (by decide), trivial⟩, rfl⟩
              · rw [r_9 (x := x) (by omega), r_9 (x := y) (by omega)]
                exact ⟨rfl, ⟨m_0 (by decide), trivial⟩, rfl⟩
            exact dc_y key.1 ⟨fun _ => hs, fun _ => key.2.1⟩ (fun z => by rw [key.2.2, he]) tail
          · refine dc_n (fun z => ?_) (fun z => eo z.1)
            rw [flt_c, flt_c] at z
            by_cases c8 : en_op x = 8
            · rw [r_8 c8, r_9 (x := y) (by omega)] at z
              have z2 : TMl d d' (208 :: 705 :: flt X) (flt Y) := z.2
              by_cases c : en_op y = 10
              · rw [(sy.resolve_right (fun z => z.1 c)).2] at z2
                exact z2
              · obtain ⟨t, ts, e1, e2⟩ := flt_h (sy.resolve_left (fun z => c z.1)).2
                rw [e1] at z2
                exact m_208 e2 z2.1
            · by_cases c8' : en_op y = 8
              · rw [r_9 (x := x) (by omega), r_8 c8'] at z
                have z2 : TMl d d' (flt X) (208 :: 705 :: flt Y) := z.2
                by_cases c : en_op x = 10
                · rw [(sx.resolve_right (fun z => z.1 c)).2] at z2
                  exact z2
                · obtain ⟨t, ts, e1, e2⟩ := flt_h (sx.resolve_left (fun z => c z.1)).2
                  rw [e1] at z2
                  exact m_802 e2 z2.1
              · rw [r_9 (x := x) (by omega), r_9 (x := y) (by omega)] at z
                have z2 : TMl d d' (flt X) (flt Y) := z.2
                by_cases c : en_op x = 10
                · obtain ⟨t, ts, e1, e2⟩ := flt_h (sy.resolve_left (fun z => by omega)).2
                  rw [(sx.resolve_right (fun z => z.1 c)).2, e1] at z2
                  exact z2
                · have c' : en_op y = 10 := by omega
                  obtain ⟨t, ts, e1, e2⟩ := flt_h (sx.resolve_left (fun z => c z.1)).2
                  rw [(sy.resolve_right (fun z => z.1 c')).2, e1] at z2
                  exact z2
/-! a thread's entries -/
def sgl (f : Nat → Ent) : Nat → Nat → List Ent
  | i, 0 => [f i]
  | i, j + 1 => f i :: sgl f (i + 1) j
theorem sgl_0 {f : Nat → Ent} {i : Nat} : sgl f i 0 = [f i] := by rw [sgl]
theorem sgl_s {f : Nat → Ent} {i j : Nat} : sgl f i (j + 1) = f i :: sgl f (i + 1) j := by rw [sgl]
theorem stl_g {f : Nat → Ent} {k : Nat} (hG : ∀ i, i ≤ k → Gx (f i)) (h10 : en_op (f k) = 10) (hn : ∀ i, i < k → en_op (f i) ≠ 10) : ∀ j i, i + j = k → STL (sgl f i j) := by
  intro j
  induction j with
  | zero =>
    intro i hi
    have e : i = k := by omega
    rw [sgl_0, e]
    exact ⟨hG k (Nat.le_refl _), Or.inl ⟨h10, rfl⟩⟩
  | succ j ih =>
    intro i hi
    rw [sgl_s]
    exact ⟨hG i (by omega), Or.inr ⟨hn i (by omega), ih (i + 1) (by omega)⟩⟩
theorem sml_g {s s' k k' : Nat} (h10 : en_op ((pE d).getD (s + k) dE) = 10) (hn : ∀ i, i < k → en_op ((pE d).getD (s + i) dE) ≠ 10) (h10' : en_op ((pE d').getD (s' + k') dE) = 10) (hn' : ∀ i, i < k' → en_op ((pE d').getD (s' + i) dE) ≠ 10) : ∀ j i j', i + j = k → i + j' = k' →
    (SMl d d' (sgl (fun i => (pE d).getD (s + i) dE) i j) (sgl (fun i => (pE d').getD (s' + i) dE) i j') ↔ ∀ m, i ≤ m → m ≤ k → sm d d' ((pE d).getD (s + m) dE) ((pE d').getD (s' + m) dE)) ∧
    (SMl d d' (sgl (fun i => (pE d).getD (s + i) dE) i j) (sgl (fun i => (pE d').getD (s' + i) dE) i j') → j = j' ∧ epl (sgl (fun i => (pE d).getD (s + i) dE) i j) (sgl (fun i => (pE d').getD (s' + i) dE) i j') = tpr d d' s s' i j) := by
  intro j
  induction j with
  | zero =>
    intro i j' hi hi'
    have e : i = k := by omega
    rw [sgl_0]
    cases j' with
    | zero =>
      rw [sgl_0, tpr_0]
      refine ⟨⟨fun z m h1 h2 => ?_, fun z => ⟨z i (Nat.le_refl _) (by omega), trivial⟩⟩, fun _ => ⟨rfl, List.nil_append _⟩⟩
      have : m = i := by omega
      rw [this]; exact z.1
    | succ j' =>
      rw [sgl_s]
      refine ⟨⟨fun z => absurd z.2 (by cases j' <;> (first | rw [sgl_0] | rw [sgl_s]) <;> exact id), fun z => ?_⟩, fun z => absurd z.2 (by cases j' <;> (first | rw [sgl_0] | rw [sgl_s]) <;> exact id)⟩
      have h := (z i (Nat.le_refl _) (by omega)).1
      exact absurd (h.symm.trans (by rw [e]; exact h10)) (hn' i (by omega))
  | succ j ih =>
    intro i j' hi hi'
    rw [sgl_s]
    cases j' with
    | zero =>
      rw [sgl_0]
      have e : i = k' := by omega
      refine ⟨⟨fun z => absurd z.2 (by cases j <;> (first | rw [sgl_0] | rw [sgl_s]) <;> exact id), fun z => ?_⟩, fun z => absurd z.2 (by cases j <;> (first | rw [sgl_0] | rw [sgl_s]) <;> exact id)⟩
      have h := (z i (Nat.le_refl _) (by omega)).1
      exact absurd (h.trans (by rw [e]; exact h10')) (hn i (by omega))
    | succ j' =>
      rw [sgl_s]
      obtain ⟨i1, i2⟩ := ih (i + 1) j' (by omega) (by omega)
      refine ⟨⟨fun z m h1 h2 => ?_, fun z => ⟨z i (Nat.le_refl _) (by omega), i1.mpr (fun m h1 h2 => z m (by omega) h2)⟩⟩, fun z => ?_⟩
      · by_cases c : m = i
        · rw [c]; exact z.1
        · exact i1.mp z.2 m (by omega) h2
      · obtain ⟨y1, y2⟩ := i2 z.2
        refine ⟨by omega, ?_⟩
        rw [tpr_s, ← y2]
        rfl
end
