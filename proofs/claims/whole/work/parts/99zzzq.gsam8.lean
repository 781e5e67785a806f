/-! ===== same: a thread's tokens ===== -/
def clz : Nat → List Nat → Prop
  | _, [] => False
  | c, t :: X => if t = 706 then (c = 1 ∧ X = []) ∨ (2 ≤ c ∧ clz (c - 1) X) else clz (if t = 705 then c + 1 else c) X
theorem clz_6 {c : Nat} {X : List Nat} : clz c (706 :: X) ↔ (c = 1 ∧ X = []) ∨ (2 ≤ c ∧ clz (c - 1) X) := by rw [clz, if_pos rfl]
theorem clz_5 {c : Nat} {X : List Nat} : clz c (705 :: X) = clz (c + 1) X := by rw [clz, if_neg (by decide), if_pos rfl]
theorem clz_s {c t : Nat} {X : List Nat} (h5 : t ≠ 705) (h6 : t ≠ 706) : clz c (t :: X) = clz c X := by rw [clz, if_neg h6, if_neg h5]
theorem fo_c {x : Ent} {X R : List Nat} {q : Nat} (F : FOx x X) : (en_op x ≤ 6 → clz q (X ++ R) = clz q R) ∧ (en_op x = 7 → clz q (X ++ R) = clz (q + 1) R) := by
  rcases F with ⟨l, c, hl, hc, o, -, -, -, -, rfl⟩ | ⟨c, k, hc, hk, o, -, -, -, -, rfl⟩ | ⟨c, b, hc, hb, o, -, -, -, -, rfl⟩ | ⟨c, b, k, hc, hb, hk, o, -, -, -, -, rfl⟩ | ⟨l, b, c, hl, hb, hc, o, -, -, -, -, rfl⟩ | ⟨m, hm, o, -, -, -, -, rfl⟩ | ⟨m, hm, o, -, -, -, -, rfl⟩ | ⟨o, -, -, -, -, rfl⟩ | ⟨l, k, hl, hk, o, -, -, -, -, rfl⟩ | ⟨l, b, hl, hb, o, -, -, -, -, rfl⟩ | ⟨l, b, k, hl, hb, hk, o, -, -, -, -, rfl⟩ | ⟨l, k, hl, hk, o, -, -, -, -, rfl⟩
  · refine ⟨fun _ => ?_, fun z => absurd (o.symm.trans z) (by decide)⟩
    show clz q ((400 + l) :: 701 :: (300 + c) :: 700 :: R) = _
    rw [clz_s (by omega) (by omega), clz_s (by omega) (by omega), clz_s (by omega) (by omega), clz_s (by omega) (by omega)]
  · refine ⟨fun _ => ?_, fun z => absurd (o.symm.trans z) (by decide)⟩
    show clz q ((300 + c) :: 701 :: (600 + k) :: 700 :: R) = _
    rw [clz_s (by omega) (by omega), clz_s (by omega) (by omega), clz_s (by omega) (by omega), clz_s (by omega) (by omega)]
  · refine ⟨fun _ => ?_, fun z => absurd (o.symm.trans z) (by decide)⟩
    show clz q ((300 + c) :: 701 :: (400 + b) :: 700 :: R) = _
    rw [clz_s (by omega) (by omega), clz_s (by omega) (by omega), clz_s (by omega) (by omega), clz_s (by omega) (by omega)]
  · refine ⟨fun _ => ?_, fun z => absurd (o.symm.trans z) (by decide)⟩
    show clz q ((300 + c) :: 701 :: (400 + b) :: 704 :: (600 + k) :: 700 :: R) = _
    rw [clz_s (by omega) (by omega), clz_s (by omega) (by omega), clz_s (by omega) (by omega), clz_s (by omega) (by omega), clz_s (by omega) (by omega), clz_s (by omega) (by omega)]
  · refine ⟨fun _ => ?_, fun z => absurd (o.symm.trans z) (by decide)⟩
    show clz q ((400 + l) :: 701 :: (400 + b) :: 703 :: (300 + c) :: 700 :: R) = _
    rw [clz_s (by omega) (by omega), clz_s (by omega) (by omega), clz_s (by omega) (by omega), clz_s (by omega) (by omega), clz_s (by omega) (by omega), clz_s (by omega) (by omega)]
  · refine ⟨fun _ => ?_, fun z => absurd (o.symm.trans z) (by decide)⟩
    show clz q (204 :: (500 + m) :: 700 :: R) = _
    rw [clz_s (by omega) (by omega), clz_s (by omega) (by omega), clz_s (by omega) (by omega)]
  · refine ⟨fun _ => ?_, fun z => absurd (o.symm.trans z) (by decide)⟩
    show clz q (205 :: (500 + m) :: 700 :: R) = _
    rw [clz_s (by omega) (by omega), clz_s (by omega) (by omega), clz_s (by omega) (by omega)]
  · refine ⟨fun _ => ?_, fun z => absurd (o.symm.trans z) (by decide)⟩
    show clz q (206 :: 700 :: R) = _
    rw [clz_s (by omega) (by omega), clz_s (by omega) (by omega)]
  · refine ⟨fun _ => ?_, fun z => absurd (o.symm.trans z) (by decide)⟩
    show clz q ((400 + l) :: 701 :: (600 + k) :: 700 :: R) = _
    rw [clz_s (by omega) (by omega), clz_s (by omega) (by omega), clz_s (by omega) (by omega), clz_s (by omega) (by omega)]
  · refine ⟨fun _ => ?_, fun z => absurd (o.symm.trans z) (by decide)⟩
    show clz q ((400 + l) :: 701 :: (400 + b) :: 700 :: R) = _
    rw [clz_s (by omega) (by omega), clz_s (by omega) (by omega), clz_s (by omega) (by omega), clz_s (by omega) (by omega)]
  · refine ⟨fun _ => ?_, fun z => absurd (o.symm.trans z) (by decide)⟩
    show clz q ((400 + l) :: 701 :: (400 + b) :: 704 :: (600 + k) :: 700 :: R) = _
    rw [clz_s (by omega) (by omega), clz_s (by omega) (by omega), clz_s (by omega) (by omega), clz_s (by omega) (by omega), clz_s (by omega) (by omega), clz_s (by omega) (by omega)]
  · refine ⟨fun z => absurd z (by rw [o]; decide), fun _ => ?_⟩
    show clz q (207 :: (400 + l) :: 702 :: (600 + k) :: 705 :: R) = _
    rw [clz_s (by omega) (by omega), clz_s (by omega) (by omega), clz_s (by omega) (by omega), clz_s (by omega) (by omega), clz_5]
theorem w_4 {l : Nat} (h : l < 5) : VTn (400 + l) ∧ 400 + l ≠ 203 := ⟨⟨vt_4 (by omega), fun _ => Or.inr (Or.inl ⟨by omega, by omega⟩)⟩, by omega⟩
theorem w_3 {l : Nat} (h : l < 6) : VTn (300 + l) ∧ 300 + l ≠ 203 := ⟨⟨vt_3 (by omega), fun _ => Or.inl ⟨by omega, by omega⟩⟩, by omega⟩
theorem w_5 {l : Nat} (h : l < 2) : VTn (500 + l) ∧ 500 + l ≠ 203 := ⟨⟨vt_5 (by omega), fun _ => Or.inr (Or.inr ⟨by omega, by omega⟩)⟩, by omega⟩
theorem w_6 {l : Nat} (h : l ≤ 9) : VTn (600 + l) ∧ 600 + l ≠ 203 := ⟨⟨vt_6 (by omega), fun z => absurd z (by unfold isn; omega)⟩, by omega⟩
theorem w_0 {t : Nat} (h : VT t) (n : ¬ (t / 100 = 3 ∨ t / 100 = 4 ∨ t / 100 = 5)) (h2 : t ≠ 203) : VTn t ∧ t ≠ 203 := ⟨⟨h, fun z => absurd z n⟩, h2⟩
theorem w_204 : VTn 204 ∧ 204 ≠ 203 := w_0 (by unfold VT; omega) (by omega) (by omega)
theorem w_205 : VTn 205 ∧ 205 ≠ 203 := w_0 (by unfold VT; omega) (by omega) (by omega)
theorem w_206 : VTn 206 ∧ 206 ≠ 203 := w_0 (by unfold VT; omega) (by omega) (by omega)
theorem w_207 : VTn 207 ∧ 207 ≠ 203 := w_0 (by unfold VT; omega) (by omega) (by omega)
theorem w_208 : VTn 208 ∧ 208 ≠ 203 := w_0 (by unfold VT; omega) (by omega) (by omega)
theorem w_700 : VTn 700 ∧ 700 ≠ 203 := w_0 (by unfold VT; omega) (by omega) (by omega)
theorem w_701 : VTn 701 ∧ 701 ≠ 203 := w_0 (by unfold VT; omega) (by omega) (by omega)
theorem w_702 : VTn 702 ∧ 702 ≠ 203 := w_0 (by unfold VT; omega) (by omega) (by omega)
theorem w_703 : VTn 703 ∧ 703 ≠ 203 := w_0 (by unfold VT; omega) (by omega) (by omega)
theorem w_704 : VTn 704 ∧ 704 ≠ 203 := w_0 (by unfold VT; omega) (by omega) (by omega)
theorem w_705 : VTn 705 ∧ 705 ≠ 203 := w_0 (by unfold VT; omega) (by omega) (by omega)
theorem w_706 : VTn 706 ∧ 706 ≠ 203 := w_0 (by unfold VT; omega) (by omega) (by omega)
theorem fo_v {x : Ent} {X : List Nat} (F : FOx x X) : ∀ t, t ∈ X → VTn t ∧ t ≠ 203 := by
  rcases F with ⟨l, c, hl, hc, -, -, -, -, -, rfl⟩ | ⟨c, k, hc, hk, -, -, -, -, -, rfl⟩ | ⟨c, b, hc, hb, -, -, -, -, -, rfl⟩ | ⟨c, b, k, hc, hb, hk, -, -, -, -, -, rfl⟩ | ⟨l, b, c, hl, hb, hc, -, -, -, -, -, rfl⟩ | ⟨m, hm, -, -, -, -, -, rfl⟩ | ⟨m, hm, -, -, -, -, -, rfl⟩ | ⟨-, -, -, -, -, rfl⟩ | ⟨l, k, hl, hk, -, -, -, -, -, rfl⟩ | ⟨l, b, hl, hb, -, -, -, -, -, rfl⟩ | ⟨l, b, k, hl, hb, hk, -, -, -, -, -, rfl⟩ | ⟨l, k, hl, hk, -, -, -, -, -, rfl⟩
  · exact (av1 (P := fun t => VTn t ∧ t ≠ 203) (w_4 hl) (av1 (P := fun t => VTn t ∧ t ≠ 203) w_701 (av1 (P := fun t => VTn t ∧ t ≠ 203) (w_3 hc) (av1 (P := fun t => VTn t ∧ t ≠ 203) w_700 av0))))
  · exact (av1 (P := fun t => VTn t ∧ t ≠ 203) (w_3 hc) (av1 (P := fun t => VTn t ∧ t ≠ 203) w_701 (av1 (P := fun t => VTn t ∧ t ≠ 203) (w_6 hk) (av1 (P := fun t => VTn t ∧ t ≠ 203) w_700 av0))))
  · exact (av1 (P := fun t => VTn t ∧ t ≠ 203) (w_3 hc) (av1 (P := fun t => VTn t ∧ t ≠ 203) w_701 (av1 (P := fun t => VTn t ∧ t ≠ 203) (w_4 hb) (av1 (P := fun t => VTn t ∧ t ≠ 203) w_700 av0))))
  · exact (av1 (P := fun t => VTn t ∧ t ≠ 203) (w_3 hc) (av1 (P := fun t => VTn t ∧ t ≠ 203) w_701 (av1 (P := fun t => VTn t ∧ t ≠ 203) (w_4 hb) (av1 (P := fun t => VTn t ∧ t ≠ 203) w_704 (av1 (P := fun t => VTn t ∧ t ≠ 203) (w_6 hk) (av1 (P := fun t => VTn t ∧ t ≠ 203) w_700 av0))))))
  · exact (av1 (P := fun t => VTn t ∧ t ≠ 203) (w_4 hl) (av1 (P := fun t => VTn t ∧ t ≠ 203) w_701 (av1 (P := fun t => VTn t ∧ t ≠ 203) (w_4 hb) (av1 (P := fun t => VTn t ∧ t ≠ 203) w_703 (av1 (P := fun t => VTn t ∧ t ≠ 203) (w_3 hc) (av1 (P := fun t => VTn t ∧ t ≠ 203) w_700 av0))))))
  · exact (av1 (P := fun t => VTn t ∧ t ≠ 203) w_204 (av1 (P := fun t => VTn t ∧ t ≠ 203) (w_5 hm) (av1 (P := fun t => VTn t ∧ t ≠ 203) w_700 av0)))
  · exact (av1 (P := fun t => VTn t ∧ t ≠ 203) w_205 (av1 (P := fun t => VTn t ∧ t ≠ 203) (w_5 hm) (av1 (P := fun t => VTn t ∧ t ≠ 203) w_700 av0)))
  · exact (av1 (P := fun t => VTn t ∧ t ≠ 203) w_206 (av1 (P := fun t => VTn t ∧ t ≠ 203) w_700 av0))
  · exact (av1 (P := fun t => VTn t ∧ t ≠ 203) (w_4 hl) (av1 (P := fun t => VTn t ∧ t ≠ 203) w_701 (av1 (P := fun t => VTn t ∧ t ≠ 203) (w_6 hk) (av1 (P := fun t => VTn t ∧ t ≠ 203) w_700 av0))))
  · exact (av1 (P := fun t => VTn t ∧ t ≠ 203) (w_4 hl) (av1 (P := fun t => VTn t ∧ t ≠ 203) w_701 (av1 (P := fun t => VTn t ∧ t ≠ 203) (w_4 hb) (av1 (P := fun t => VTn t ∧ t ≠ 203) w_700 av0))))
  · exact (av1 (P := fun t => VTn t ∧ t ≠ 203) (w_4 hl) (av1 (P := fun t => VTn t ∧ t ≠ 203) w_701 (av1 (P := fun t => VTn t ∧ t ≠ 203) (w_4 hb) (av1 (P := fun t => VTn t ∧ t ≠ 203) w_704 (av1 (P := fun t => VTn t ∧ t ≠ 203) (w_6 hk) (av1 (P := fun t => VTn t ∧ t ≠ 203) w_700 av0))))))
  · exact (av1 (P := fun t => VTn t ∧ t ≠ 203) w_207 (av1 (P := fun t => VTn t ∧ t ≠ 203) (w_4 hl) (av1 (P := fun t => VTn t ∧ t ≠ 203) w_702 (av1 (P := fun t => VTn t ∧ t ≠ 203) (w_6 hk) (av1 (P := fun t => VTn t ∧ t ≠ 203) w_705 av0)))))
theorem gx_v {x : Ent} (G : Gx x) : ∀ t, t ∈ rne x → VTn t ∧ t ≠ 203 := by
  by_cases c : en_op x ≤ 7
  · exact fo_v (G.2.1 c)
  · by_cases c8 : en_op x = 8
    · rw [r_8 c8]
      exact av1 (P := fun t => VTn t ∧ t ≠ 203) w_706 (av1 (P := fun t => VTn t ∧ t ≠ 203) w_208 (av1 (P := fun t => VTn t ∧ t ≠ 203) w_705 av0))
    · rw [r_9 (by omega)]
      exact av1 (P := fun t => VTn t ∧ t ≠ 203) w_706 av0
theorem gx_e {d : PD} (P : PDk d) {e : Nat} (he : e < (pE d).length) : Gx ((pE d).getD e dE) := by
  have F := (P.1.1.1 e he).2
  have Z := nst_fz P.1.2.2.2.2.2.1 he
  refine ⟨F.1, fun h => fo_x F Z h, fun h => ?_⟩
  obtain ⟨z0, z1, z2, z3, z5, z6, z7⟩ := of_decide_eq_true Z
  exact z5 (Or.inr h)
theorem stl_v : ∀ {X : List Ent}, STL X → ∀ t, t ∈ flt X → VTn t ∧ t ≠ 203 := by
  intro X
  induction X with
  | nil => intro S; exact absurd S id
  | cons x X ih =>
    intro S
    rw [flt_c]
    refine avA (P := fun t => VTn t ∧ t ≠ 203) (gx_v S.1) ?_
    rcases S.2 with z | z
    · rw [z.2]
      exact av0
    · exact ih z.2
theorem nd_nn : ∀ L : List (Nat × Bool), L.foldl nd2 none = none := by
  intro L
  induction L with
  | nil => rfl
  | cons c L ih =>
    have : nd2 none c = none := by
      unfold nd2 dso
      by_cases z : c.2 = true
      · rw [if_pos z]; rfl
      · rw [if_neg z]
    show L.foldl nd2 (nd2 none c) = none
    rw [this]; exact ih
theorem dso_i {k o k' : Nat} (h : dso (some k) o = some k') : (o = 7 ∧ k' = k + 1) ∨ (o = 8 ∧ k ≠ 0 ∧ k' = k) ∨ (o = 9 ∧ k ≠ 0 ∧ k' = k - 1) ∨ (o = 10 ∧ k = 0 ∧ k' = 0) ∨ (o ≠ 7 ∧ o ≠ 8 ∧ o ≠ 9 ∧ o ≠ 10 ∧ k' = k) := by
  change (if o = 7 then some (k + 1) else if o = 8 then (if k = 0 then none else some k) else if o = 9 then (if k = 0 then none else some (k - 1)) else if o = 10 then (if k = 0 then some 0 else none) else some k) = some k' at h
  by_cases c7 : o = 7
  · rw [if_pos c7] at h
    exact Or.inl ⟨c7, (Option.some.inj h).symm⟩
  rw [if_neg c7] at h
  by_cases c8 : o = 8
  · rw [if_pos c8] at h
    by_cases c : k = 0
    · rw [if_pos c] at h; cases h
    · rw [if_neg c] at h
      exact Or.inr (Or.inl ⟨c8, c, (Option.some.inj h).symm⟩)
  rw [if_neg c8] at h
  by_cases c9 : o = 9
  · rw [if_pos c9] at h
    by_cases c : k = 0
    · rw [if_pos c] at h; cases h
    · rw [if_neg c] at h
      exact Or.inr (Or.inr (Or.inl ⟨c9, c, (Option.some.inj h).symm⟩))
  rw [if_neg c9] at h
  by_cases c10 : o = 10
  · rw [if_pos c10] at h
    by_cases c : k = 0
    · rw [if_pos c] at h
      exact Or.inr (Or.inr (Or.inr (Or.inl ⟨c10, c, (Option.some.inj h).symm⟩)))
    · rw [if_neg c] at h; cases h
  rw [if_neg c10] at h
  exact Or.inr (Or.inr (Or.inr (Or.inr ⟨c7, c8, c9, c10, (Option.some.inj h).symm⟩)))
theorem cz : ∀ (X : List Ent) (k r : Nat), STL X → (X.map (fun x => (en_op x, fzb x))).foldl nd2 (some k) = some r → clz (k + 1) (flt X) ∧ r = 0 := by
  intro X
  induction X with
  | nil => intro k r S; exact absurd S id
  | cons x X ih =>
    intro k r S e
    obtain ⟨⟨x10, x7, x8⟩, sx⟩ := S
    change (X.map (fun x => (en_op x, fzb x))).foldl nd2 (nd2 (some k) (en_op x, fzb x)) = some r at e
    cases hq : nd2 (some k) (en_op x, fzb x) with
    | none => rw [hq, nd_nn] at e; cases e
    | some k' =>
      rw [hq] at e
      have hd : dso (some k) (en_op x) = some k' := by
        unfold nd2 at hq
        by_cases fz : (en_op x, fzb x).2 = true
        · rw [if_pos fz] at hq; exact hq
        · rw [if_neg fz] at hq; cases hq
      rw [flt_c]
      rcases dso_i hd with ⟨c, c2⟩ | ⟨c, c1, c2⟩ | ⟨c, c1, c2⟩ | ⟨c, c1, c2⟩ | ⟨a7, a8, a9, a10, c2⟩
      · have s : STL X := (sx.resolve_left (fun z => by omega)).2
        rw [(fo_c (x7 (by omega))).2 c]
        have := ih k' r s e
        rw [c2] at this
        exact this
      · have s : STL X := (sx.resolve_left (fun z => by omega)).2
        have := ih k' r s e
        rw [c2] at this
        rw [r_8 c]
        refine ⟨clz_6.mpr (Or.inr ⟨by omega, ?_⟩), this.2⟩
        show clz (k + 1 - 1) (208 :: 705 :: flt X)
        rw [show k + 1 - 1 = k by omega, clz_s (by decide) (by decide), clz_5]
        exact this.1
      · have s : STL X := (sx.resolve_left (fun z => by omega)).2
        have := ih k' r s e
        rw [c2, show k - 1 + 1 = k + 1 - 1 by omega] at this
        rw [r_9 (x := x) (by omega)]
        exact ⟨clz_6.mpr (Or.inr ⟨by omega, this.1⟩), this.2⟩
      · have s : X = [] := (sx.resolve_right (fun z => z.1 c)).2
        rw [s, c2] at e
        rw [r_9 (x := x) (by omega), s, c1]
        exact ⟨clz_6.mpr (Or.inl ⟨rfl, rfl⟩), (Option.some.inj e).symm⟩
      · have s : STL X := (sx.resolve_left (fun z => a10 z.1)).2
        rw [(fo_c (x7 (by omega))).1 (by omega)]
        have := ih k' r s e
        rw [c2] at this
        exact this
/-- the tokens of a thread -/
def thx (d : PD) (t : Nat) : List Nat := 203 :: 705 :: flt (sgl (fun i => (pE d).getD ((pS d).getD t 0 + i) dE) 0 (tk_ d t))
section
variable {d : PD} {t : Nat}
theorem stl_t (P : PDk d) (ht : t < (pS d).length) : STL (sgl (fun i => (pE d).getD ((pS d).getD t 0 + i) dE) 0 (tk_ d t)) := by
  obtain ⟨f1, f2, f3, -, -⟩ := tk_f P ht
  exact stl_g (f := fun i => (pE d).getD ((pS d).getD t 0 + i) dE) (fun i hi => gx_e P (by omega)) f2 f3 (tk_ d t) 0 (by omega)
theorem dr_1 {E : List Ent} {e : Nat} (h : e < E.length) : E.drop e = E.getD e dE :: E.drop (e + 1) := by
  rw [List.drop_eq_getElem_cons h, List.getD_eq_getElem?_getD, List.getElem?_eq_getElem h]
  rfl
theorem dr_g {E : List Ent} {s : Nat} : ∀ j i, s + i + j < E.length → E.drop (s + i) = sgl (fun i => E.getD (s + i) dE) i j ++ E.drop (s + i + j + 1) := by
  intro j
  induction j with
  | zero =>
    intro i h
    rw [sgl_0, dr_1 (by omega)]
    rfl
  | succ j ih =>
    intro i h
    have := ih (i + 1) (by omega)
    rw [sgl_s, dr_1 (by omega), show s + i + 1 = s + (i + 1) by omega, this, show s + (i + 1) + j + 1 = s + i + (j + 1) + 1 by omega]
    rfl
theorem nst_d (P : PDk d) : ∀ t, t < (pS d).length → (((pE d).drop ((pS d).getD t 0)).map (fun x => (en_op x, fzb x))).foldl nd2 (some 0) = some 0 ∧ ∃ r, ((sgl (fun i => (pE d).getD ((pS d).getD t 0 + i) dE) 0 (tk_ d t)).map (fun x => (en_op x, fzb x))).foldl nd2 (some 0) = some r := by
  have part : ∀ t, t < (pS d).length → (((pE d).drop ((pS d).getD t 0)).map (fun x => (en_op x, fzb x))).foldl nd2 (some 0) = some 0 → (∃ r, ((sgl (fun i => (pE d).getD ((pS d).getD t 0 + i) dE) 0 (tk_ d t)).map (fun x => (en_op x, fzb x))).foldl nd2 (some 0) = some r) ∧ (((pE d).drop ((pS d).getD t 0 + tk_ d t + 1)).map (fun x => (en_op x, fzb x))).foldl nd2 (some 0) = some 0 := fun t ht e => by
    have S := stl_t P ht
    obtain ⟨f1, -, -, -, -⟩ := tk_f P ht
    have dd := dr_g (E := pE d) (s := (pS d).getD t 0) (tk_ d t) 0 (by omega)
    rw [Nat.add_zero] at dd
    rw [dd, List.map_append, List.foldl_append] at e
    cases hq : ((sgl (fun i => (pE d).getD ((pS d).getD t 0 + i) dE) 0 (tk_ d t)).map (fun x => (en_op x, fzb x))).foldl nd2 (some 0) with
    | none => rw [hq, nd_nn] at e; cases e
    | some r =>
      have r0 := (cz _ 0 r S hq).2
      rw [hq, r0] at e
      exact ⟨⟨r, rfl⟩, e⟩
  intro t
  induction t with
  | zero =>
    intro ht
    have e : (((pE d).drop ((pS d).getD 0 0)).map (fun x => (en_op x, fzb x))).foldl nd2 (some 0) = some 0 := by
      rw [P.1.2.2.2.2.2.2.2.1 ht, List.drop_zero]
      exact P.1.2.2.2.2.2.1
    exact ⟨e, (part 0 ht e).1⟩
  | succ t ih =>
    intro ht
    have := (part t (by omega) (ih (by omega)).1).2
    obtain ⟨-, -, -, f4, -⟩ := tk_f P (t := t) (by omega)
    rw [← f4 ht] at this
    exact ⟨this, (part (t + 1) ht this).1⟩
theorem cz_t (P : PDk d) (ht : t < (pS d).length) : clz 0 (thx d t) := by
  obtain ⟨-, r, e⟩ := nst_d P t ht
  unfold thx
  rw [clz_s (by decide) (by decide), clz_5]
  exact (cz _ 0 r (stl_t P ht) e).1
theorem vt_t (P : PDk d) (ht : t < (pS d).length) : ∀ u, u ∈ thx d t → VTn u := by
  unfold thx
  exact av1 (P := VTn) ⟨by unfold VT; omega, fun z => absurd z (by unfold isn; omega)⟩ (av1 (P := VTn) w_705.1 (fun u hu => (stl_v (stl_t P ht) u hu).1))
def rt (d : PD) : Nat → Nat → List Nat
  | _, 0 => []
  | t, j + 1 => thx d t ++ rt d (t + 1) j
theorem rt_0 {t : Nat} : rt d t 0 = [] := by rw [rt]
theorem rt_s {t j : Nat} : rt d t (j + 1) = thx d t ++ rt d (t + 1) j := by rw [rt]
theorem rt_a : ∀ i t j, rt d t (i + j) = rt d t i ++ rt d (t + i) j := by
  intro i
  induction i with
  | zero => intro t j; rw [Nat.zero_add, rt_0]; rfl
  | succ i ih =>
    intro t j
    rw [show i + 1 + j = (i + j) + 1 by omega, rt_s, ih, rt_s, List.append_assoc, show t + 1 + i = t + (i + 1) by omega]
theorem rn_g {SL : List Nat} {E : List Ent} {s : Nat} : ∀ j i, (∀ m, i ≤ m → m ≤ i + j → ¬ s + m ∈ SL ∧ s + m < E.length) → RNe SL E (s + i) (j + 1) = flt (sgl (fun i => E.getD (s + i) dE) i j) := by
  have one : ∀ e, ¬ e ∈ SL → e < E.length → rnf SL E e = rne (E.getD e dE) := fun e h1 h2 => by
    unfold rnf
    rw [if_neg h1, if_pos h2]; rfl
  intro j
  induction j with
  | zero =>
    intro i h
    obtain ⟨h1, h2⟩ := h i (by omega) (by omega)
    rw [rne_s, one _ h1 h2, sgl_0, flt_c]
    rfl
  | succ j ih =>
    intro i h
    obtain ⟨h1, h2⟩ := h i (by omega) (by omega)
    have := ih (i + 1) (fun m h1 h2 => h m (by omega) (by omega))
    rw [rne_s, one _ h1 h2, sgl_s, flt_c, show s + i + 1 = s + (i + 1) by omega, this]
theorem rne_ap {SL : List Nat} {E : List Ent} : ∀ a e b, RNe SL E e (a + b) = RNe SL E e a ++ RNe SL E (e + a) b := by
  intro a
  induction a with
  | zero => intro e b; rw [Nat.zero_add]; rfl
  | succ a ih =>
    intro e b
    rw [show a + 1 + b = (a + b) + 1 by omega, rne_s, ih, rne_s, List.append_assoc, show e + 1 + a = e + (a + 1) by omega]
theorem rn_t (P : PDk d) (ht : t < (pS d).length) : RNe (pS d) (pE d) ((pS d).getD t 0) (tk_ d t + 1) = thx d t := by
  obtain ⟨f1, -, -, f4, -⟩ := tk_f P ht
  have T := P.1.2.2.2.2.2.2
  have out : ∀ m, 1 ≤ m → m ≤ tk_ d t → ¬ (pS d).getD t 0 + m ∈ pS d ∧ (pS d).getD t 0 + m < (pE d).length := fun m h1 h2 => ⟨tn_in (z := 0) T ht (by omega) (fun c => by rw [f4 c]; omega), by omega⟩
  have hd : rnf (pS d) (pE d) ((pS d).getD t 0) = 203 :: 705 :: rne ((pE d).getD ((pS d).getD t 0) dE) := by
    unfold rnf
    rw [if_pos (gd_mem ht), if_pos (by omega)]; rfl
  unfold thx
  rw [rne_s, hd]
  cases hk : tk_ d t with
  | zero =>
    rw [sgl_0, flt_c]
    rfl
  | succ j =>
    rw [hk] at out
    have := rn_g (SL := pS d) (E := pE d) (s := (pS d).getD t 0) j 1 (fun m h1 h2 => out m h1 (by omega))
    rw [this, sgl_s, flt_c]
    rfl
theorem rn_all (P : PDk d) : ∀ j t, t + (j + 1) = (pS d).length → RNe (pS d) (pE d) ((pS d).getD t 0) ((pE d).length - (pS d).getD t 0) = rt d t (j + 1) := by
  intro j
  induction j with
  | zero =>
    intro t h
    obtain ⟨f1, -, -, -, f5⟩ := tk_f P (t := t) (by omega)
    rw [show (pE d).length - (pS d).getD t 0 = tk_ d t + 1 by rw [f5 (by omega)]; omega, rn_t P (by omega), rt_s, rt_0, List.append_nil]
  | succ j ih =>
    intro t h
    obtain ⟨f1, -, -, f4, -⟩ := tk_f P (t := t) (by omega)
    have i := ih (t + 1) (by omega)
    rw [f4 (by omega)] at i
    rw [show (pE d).length - (pS d).getD t 0 = (tk_ d t + 1) + ((pE d).length - ((pS d).getD t 0 + tk_ d t + 1)) by omega, rne_ap, rn_t P (by omega), rt_s, ← i]
    rfl
theorem rn_rt (P : PDk d) : RN (pS d) (pE d) = rt d 0 (pS d).length := by
  have T := P.1.2.2.2.2.2.2
  have nE : ¬ (pE d).length ∈ pS d := fun hm => by
    obtain ⟨i, i1, i2⟩ := List.mem_iff_getElem.mp hm
    obtain ⟨z, z1, z2, -⟩ := T.2.2 i i1
    have gi : (pS d).getD i 0 = (pE d).length := by rw [List.getD_eq_getElem?_getD, List.getElem?_eq_getElem i1, ← i2]; rfl
    omega
  have e1 : RN (pS d) (pE d) = RNe (pS d) (pE d) 0 (pE d).length := by
    unfold RN RNe
    rw [List.range_succ, List.flatMap_append, List.flatMap_cons, List.flatMap_nil, List.append_nil]
    have : rnf (pS d) (pE d) (pE d).length = [] := by
      unfold rnf
      rw [if_neg nE, if_neg (Nat.lt_irrefl _)]; rfl
    rw [this, List.append_nil]
    refine fm_c _ (fun i _ => ?_)
    rw [Nat.zero_add]
  have n0 : 0 < (pS d).length := P.1.2.2.1.2.2.2.1
  have s0 : (pS d).getD 0 0 = 0 := T.2.1 n0
  have := rn_all P ((pS d).length - 1) 0 (by omega)
  rw [s0, show (pS d).length - 1 + 1 = (pS d).length by omega] at this
  rw [e1, ← this]
  rfl
/-- where a thread's tokens begin -/
def off (d : PD) (t : Nat) : Nat := (rt d 0 t).length
theorem gd_r2 {L X : List Nat} {i : Nat} : (L ++ X).getD (L.length + i) 0 = X.getD i 0 := by
  rw [List.getD_eq_getElem?_getD, List.getElem?_append_right (by omega), List.getD_eq_getElem?_getD, show L.length + i - L.length = i by omega]
theorem off_s {t : Nat} : off d (t + 1) = off d t + (thx d t).length := by
  unfold off
  rw [rt_a t 0 1, List.length_append, rt_s, rt_0, List.append_nil, Nat.zero_add]
theorem off_0 : off d 0 = 0 := by
  unfold off
  rw [rt_0]; rfl
theorem tok_t (P : PDk d) (ht : t < (pS d).length) : (∀ i, i < (thx d t).length → (RN (pS d) (pE d)).getD (off d t + i) 0 = (thx d t).getD i 0) ∧ off d t + (thx d t).length ≤ (RN (pS d) (pE d)).length := by
  have e : RN (pS d) (pE d) = rt d 0 t ++ (thx d t ++ rt d (t + 1) ((pS d).length - (t + 1))) := by
    rw [rn_rt P, show (pS d).length = t + (((pS d).length - (t + 1)) + 1) by omega, rt_a, rt_s, Nat.zero_add]
    congr 3
    omega
  refine ⟨fun i hi => ?_, ?_⟩
  · rw [e]
    unfold off
    rw [gd_r2]
    exact gd_ap hi
  · rw [e, List.length_append, List.length_append]
    unfold off
    omega
theorem off_n (P : PDk d) : off d (pS d).length = (RN (pS d) (pE d)).length := by
  rw [rn_rt P]
  rfl
end
