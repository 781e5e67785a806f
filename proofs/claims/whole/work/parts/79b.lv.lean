/-! ===== the leaves as a list ===== -/
def lv (K : Nat → Nat → Int32) (nt goal : Nat) : Nat → KY → List KY
  | 0, _ => []
  | f + 1, x => match (if goal = 2 then none else ky_hu K x nt 0) with
    | some t => (ky_as K x t).flatMap (fun c => lv K nt goal f c.2)
    | none => if ky_mv K x nt 0 = true then (ky_th K x nt 0).flatMap (fun c => lv K nt goal f c.2) else [x]
theorem fl_fm {α β γ : Type} {g : α → β → α} {k : γ → List β} {k' : α → γ → α} (h : ∀ a c, k' a c = (k c).foldl g a) : ∀ (l : List γ) (a : α), l.foldl k' a = (l.flatMap k).foldl g a := by
  intro l
  induction l with
  | nil => intro a; rfl
  | cons c l ih =>
    intro a
    rw [List.flatMap_cons, List.foldl_append, ← h]
    exact ih (k' a c)
section
variable {K : Nat → Nat → Int32} {te ow : Nat → Nat} {na nt sz oc goal : Nat}
theorem cT_lv {α : Type} {fin : α → KY → Nat → (Nat → Int32) → α} {ad : α → KY → α} (h : ∀ a x d p, fin a x d p = ad a x) : ∀ (f : Nat) (x : KY) (d : Nat) (p : Nat → Int32) (a : α), cT K nt goal fin (fun _ => false) f x d p a = (lv K nt goal f x).foldl ad a := by
  intro f
  induction f with
  | zero => intro x d p a; rfl
  | succ f ih =>
    intro x d p a
    unfold cT lv
    rw [if_neg (by decide)]
    cases hh : (if goal = 2 then none else ky_hu K x nt 0) with
    | some t => exact fl_fm (fun a (c : Nat × KY) => ih c.2 (d + 1) (pth p d c.1) a) _ a
    | none =>
      by_cases hm : ky_mv K x nt 0 = true
      · simp only [if_pos hm]
        exact fl_fm (fun a (c : Nat × KY) => ih c.2 (d + 1) (pth p d c.1) a) _ a
      · simp only [if_neg hm]
        exact h a x d p
theorem any_fm {β γ : Type} {q : β → Bool} {k : γ → List β} : ∀ l : List γ, (l.flatMap k).any q = l.any (fun c => (k c).any q) := by
  intro l
  induction l with
  | nil => rfl
  | cons c l ih => rw [List.flatMap_cons, List.any_append, List.any_cons, ih]
theorem fl_any {γ : Type} {q : γ → Bool} {k' : Bool → γ → Bool} (h : ∀ a c, k' a c = (a || q c)) : ∀ (l : List γ) (a : Bool), l.foldl k' a = (a || l.any q) := by
  intro l
  induction l with
  | nil => intro a; rw [List.any_nil, Bool.or_false]; rfl
  | cons c l ih =>
    intro a
    show l.foldl k' (k' a c) = _
    rw [ih, h, List.any_cons, Bool.or_assoc]
/-- with a stop: whether some leaf is bad -/
theorem cT_any {fin : Bool → KY → Nat → (Nat → Int32) → Bool} {q : KY → Bool} (h : ∀ a x d p, fin a x d p = (a || q x)) : ∀ (f : Nat) (x : KY) (d : Nat) (p : Nat → Int32) (a : Bool), cT K nt goal fin (fun b => b) f x d p a = (a || (lv K nt goal f x).any q) := by
  intro f
  induction f with
  | zero => intro x d p a; show a = (a || ([] : List KY).any q); rw [List.any_nil, Bool.or_false]
  | succ f ih =>
    intro x d p a
    unfold cT lv
    by_cases ha : a = true
    · rw [if_pos ha, ha, Bool.true_or]
    · rw [if_neg ha]
      cases hh : (if goal = 2 then none else ky_hu K x nt 0) with
      | some t =>
        show _ = (a || ((ky_as K x t).flatMap (fun c => lv K nt goal f c.2)).any q)
        rw [any_fm]
        exact fl_any (fun a (c : Nat × KY) => ih c.2 (d + 1) (pth p d c.1) a) _ a
      | none =>
        by_cases hm : ky_mv K x nt 0 = true
        · simp only [if_pos hm]
          rw [any_fm]
          exact fl_any (fun a (c : Nat × KY) => ih c.2 (d + 1) (pth p d c.1) a) _ a
        · simp only [if_neg hm]
          rw [h, List.any_cons, List.any_nil, Bool.or_false]
theorem ky_th_mem {x : KY} {c : Nat × KY} : ∀ (n i : Nat), c ∈ ky_th K x n i ↔ ∃ t, i ≤ t ∧ t < i + n ∧ (c ∈ ky_as K x t ∨ c ∈ ky_es K x t) := by
  intro n
  induction n with
  | zero => intro i; exact ⟨fun h => (nomatch h), fun ⟨t, h1, h2, _⟩ => by omega⟩
  | succ n ih =>
    intro i
    unfold ky_th
    rw [List.mem_append, List.mem_append, ih (i + 1)]
    constructor
    · rintro (h | h | ⟨t, h1, h2, h3⟩)
      · exact ⟨i, by omega, by omega, Or.inr h⟩
      · exact ⟨i, by omega, by omega, Or.inl h⟩
      · exact ⟨t, by omega, by omega, h3⟩
    · rintro ⟨t, h1, h2, h3⟩
      by_cases hti : t = i
      · subst hti
        obtain h3 | h3 := h3
        · exact Or.inr (Or.inl h3)
        · exact Or.inl h3
      · exact Or.inr (Or.inr ⟨t, by omega, by omega, h3⟩)
theorem ky_al_mem {x : KY} {t s : Nat} {si : Int32} (hb : ¬ ((si >>> (nI s &&& 31)) &&& (1 : Int32)) = 0) : ∀ (n i : Nat), i ≤ s → s < i + n → (t, ky_ac K x (nI t) (nI s)) ∈ ky_al K x t si n i := by
  intro n
  induction n with
  | zero => intro i h1 h2; omega
  | succ n ih =>
    intro i h1 h2
    unfold ky_al
    rw [List.mem_append]
    by_cases h : i = s
    · subst h; rw [if_neg hb]; exact Or.inl List.mem_cons_self
    · exact Or.inr (ih (i + 1) (by omega) (by omega))
theorem ky_mv_f {x : KY} : ∀ (n i : Nat), ky_mv K x n i = false ↔ ∀ t, i ≤ t → t < i + n → m_hq K x.1 (nI t) = 0 ∧ m_can K x.1 (nI t) = 0 := by
  intro n
  induction n with
  | zero => intro i; exact ⟨fun _ t h1 h2 => by omega, fun _ => rfl⟩
  | succ n ih =>
    intro i
    unfold ky_mv
    rw [Bool.or_eq_false_iff, Bool.or_eq_false_iff, ih (i + 1)]
    constructor
    · rintro ⟨⟨h1, h2⟩, h3⟩ t h4 h5
      by_cases hti : t = i
      · subst hti; exact ⟨by simpa using h1, by simpa using h2⟩
      · exact h3 t (by omega) (by omega)
    · intro h
      have := h i (by omega) (by omega)
      exact ⟨⟨by simpa using this.1, by simpa using this.2⟩, fun t h4 h5 => h t (by omega) (by omega)⟩
theorem ky_hu_s {x : KY} : ∀ (n i t : Nat), ky_hu K x n i = some t → ¬ m_hu K x.1 (nI t) = 0 := by
  intro n
  induction n with
  | zero => intro i t h; cases h
  | succ n ih =>
    intro i t h
    unfold ky_hu at h
    split at h
    · exact ih (i + 1) t h
    · rename_i hh; cases h; exact hh
/-- no thread can do a step: the end -/
theorem ra_end (Z : KW K te ow na nt sz) (S : KS K na nt oc) {x : KY} {a : AS} {p : List (Nat × Nat)} (R : RA K ow nt oc x a p) : ky_mv K x nt 0 = false ↔ xa_end (KP K) (kv K) a := by
  obtain ⟨I, hd⟩ := ra_in Z R
  have D := R.2
  rw [ky_mv_f]
  constructor
  · intro h t
    by_cases ht : t < nt
    · obtain ⟨h1, h2⟩ := h t (by omega) (by omega)
      constructor
      · obtain ⟨-, k⟩ | ⟨k, -⟩ := q_can Z S I D ht
        · exact k
        · rw [h2] at k; exact absurd k (by decide)
      · obtain ⟨-, k⟩ | ⟨k, -⟩ := q_fi Z S I D ht
        · exact k
        · rw [h1] at k; exact absurd k (by decide)
    · exact ⟨fun e => ht (by have := e.1; rw [kp_nt Z] at this; exact this), fun m e => ht (by have := e.1; rw [kp_nt Z] at this; exact this)⟩
  · intro h t _ ht
    have ht : t < nt := by omega
    constructor
    · obtain ⟨k, -⟩ | ⟨-, k, -⟩ := q_fi Z S I D ht
      · exact k
      · exact absurd k ((h t).2 _)
    · obtain ⟨k, -⟩ | ⟨-, k⟩ := q_can Z S I D ht
      · exact k
      · exact absurd k (h t).1
theorem lv_sound (Z : KW K te ow na nt sz) (S : KS K na nt oc) : ∀ (f : Nat) (x : KY) (a : AS) (p : List (Nat × Nat)), RA K ow nt oc x a p → ∀ y, y ∈ lv K nt goal f x → ∃ z q, RA K ow nt oc y z q ∧ xa_end (KP K) (kv K) z := by
  intro f
  induction f with
  | zero => intro x a p _ y h; cases h
  | succ f ih =>
    intro x a p R y h
    unfold lv at h
    split at h
    · rename_i t ht
      have htn : t < nt := by
        split at ht
        · cases ht
        · have := ky_hu_lt nt 0 t ht; omega
      obtain ⟨c, c1, c2⟩ := List.mem_flatMap.mp h
      obtain ⟨w, -, -, -, r, -⟩ := ra_as Z S R htn c1
      exact ih c.2 _ _ r y c2
    · split at h
      · obtain ⟨c, c1, c2⟩ := List.mem_flatMap.mp h
        obtain ⟨t, t1, t2, t3⟩ := (ky_th_mem nt 0).mp c1
        obtain t3 | t3 := t3
        · obtain ⟨w, -, -, -, r, -⟩ := ra_as Z S R (show t < nt by omega) t3
          exact ih c.2 _ _ r y c2
        · obtain ⟨m, -, r, -⟩ := ra_es Z S R (show t < nt by omega) t3
          exact ih c.2 _ _ r y c2
      · rename_i hm
        rw [List.mem_singleton.mp h]
        exact ⟨a, p, R, (ra_end Z S R).mp (Bool.eq_false_iff.mpr hm)⟩
/-- an action of a run is a child -/
theorem ra_mem (Z : KW K te ow na nt sz) (S : KS K na nt oc) {x : KY} {a : AS} {p : List (Nat × Nat)} (R : RA K ow nt oc x a p) {t w : Nat} (he : xa_en (KP K) (kv K) a t) (hs : xa_se (KP K) (kv K) (ao oc) a t w) : ∃ c, c ∈ ky_as K x t ∧ c.1 = t ∧ ∃ p', RA K ow nt oc c.2 (xa_ac (KP K) (kv K) (ao oc) a t w) p' := by
  obtain ⟨I, hd⟩ := ra_in Z R
  have D := R.2
  have hna := Z.1
  have hoc := S.2.1
  have ht : t < nt := by have := he.1; rw [kp_nt Z] at this; exact this
  have hn : xa_nx a t < na := by have := he.2.1; rw [kp_na Z] at this; exact this
  have hcan : ¬ m_can K x.1 (nI t) = 0 := by
    obtain ⟨-, k⟩ | ⟨k, -⟩ := q_can Z S I D ht
    · exact absurd he k
    · rw [k]; decide
  have hwlt : w < 10 := by
    by_cases h0 : w = 0
    · omega
    · have hdo := (xa_se_do (m := w - 1) I (by rw [show w - 1 + 1 = w by omega]; exact hs)).1
      have := (I.2.1 _ hdo).1
      rw [kp_na Z] at this
      omega
  obtain ⟨s, s1, s2, s3⟩ : ∃ s, s ≤ 8 ∧ ¬ ((m_si K x.1 x.2.1 x.2.2 (nI t) >>> (nI s &&& 31)) &&& (1 : Int32)) = 0 ∧ (2 ≤ oc → sw (nI s) w) := by
    by_cases ho : oc < 2
    · refine ⟨8, by omega, ?_, fun h => by omega⟩
      unfold m_si
      rw [S.1, if_pos (show nI oc < 2 from nI_lt (b := 2) ho (by omega))]
      decide
    · obtain ⟨X, x1, x2, x3⟩ := q_si Z S I hd D (by omega) ht hn
      by_cases h0 : w = 0
      · refine ⟨8, by omega, ?_, fun _ => Or.inl ⟨rfl, h0⟩⟩
        rw [x2, nI_bit0 (by omega) (by omega), (x3 8 (by omega)).mpr (by rw [if_pos rfl]; rw [h0] at hs; exact hs)]
        exact Bool.noConfusion
      · have hdo := (xa_se_do (m := w - 1) I (by rw [show w - 1 + 1 = w by omega]; exact hs)).1
        have hlt := (I.2.1 _ hdo).1
        rw [kp_na Z] at hlt
        refine ⟨w - 1, by omega, ?_, fun _ => Or.inr ⟨w - 1, by omega, rfl, by omega⟩⟩
        rw [x2, nI_bit0 (by omega) (by omega), (x3 (w - 1) (by omega)).mpr (by rw [if_neg (by omega), show w - 1 + 1 = w by omega]; exact hs)]
        exact Bool.noConfusion
  refine ⟨(t, ky_ac K x (nI t) (nI s)), ?_, rfl, p ++ [(t, w)], xa_ph_snoc p _ _ _ [(t, w)] R.1 (Or.inl ⟨hwlt, he, hs, rfl⟩), q_act Z S I hd D he hs s3⟩
  unfold ky_as
  rw [if_neg hcan]
  exact ky_al_mem s2 9 0 (by omega) (by omega)
theorem lv_complete (Z : KW K te ow na nt sz) (S : KS K na nt oc) : ∀ (f : Nat) (x : KY) (a : AS) (p : List (Nat × Nat)), RA K ow nt oc x a p → rk K oc x.1 + f = 17 → ∀ z q, xa_ph (KP K) (kv K) (ao oc) q a z → xa_end (KP K) (kv K) z → ∃ y p', y ∈ lv K nt goal f x ∧ RA K ow nt oc y z p' := by
  intro f
  induction f with
  | zero =>
    intro x a p R hr
    have := rc_16 (K := K) (ow := ow) (nt := nt) (oc := oc) (x := x) (d := rk K oc x.1) ⟨⟨a, p, R⟩, rfl⟩
    omega
  | succ f ih =>
    intro x a p R hr z q hq hz
    obtain ⟨I, hd⟩ := ra_in Z R
    have D := R.2
    have W := kp_wf Z
    unfold lv
    split
    · rename_i t ht
      have htn : t < nt := by
        split at ht
        · cases ht
        · have := ky_hu_lt nt 0 t ht; omega
      have hh : xa_hu (KP K) (kv K) (ao oc) a t := by
        have hne : ¬ m_hu K x.1 (nI t) = 0 := by
          split at ht
          · cases ht
          · exact ky_hu_s nt 0 t ht
        obtain ⟨k, -⟩ | ⟨-, k⟩ := q_hu Z S I D htn
        · exact absurd k hne
        · exact k
      obtain ⟨q', hq'⟩ := xa_por W q a z I hh hq hz
      obtain ⟨c, c1, c2, p', c3⟩ := ra_mem Z S R (xa_hu_en hh) (xa_hu_se hh)
      obtain ⟨w, -, -, -, -, c4, -⟩ := ra_as Z S R htn c1
      obtain ⟨y, p'', y1, y2⟩ := ih c.2 _ _ c3 (by omega) z q' hq' hz
      exact ⟨y, p'', List.mem_flatMap.mpr ⟨c, c1, y1⟩, y2⟩
    · by_cases hm : ky_mv K x nt 0 = true
      · rw [if_pos hm]
        cases q with
        | nil =>
          cases hq
          rw [(ra_end Z S R).mpr hz] at hm
          cases hm
        | cons s q =>
          obtain ⟨k1, k2, k3, k4⟩ | ⟨k1, k2, k3⟩ := hq
          · have htn : s.1 < nt := by have := k2.1; rw [kp_nt Z] at this; exact this
            obtain ⟨c, c1, c2, p', c3⟩ := ra_mem Z S R k2 k3
            obtain ⟨w, -, -, -, -, c4, -⟩ := ra_as Z S R htn c1
            obtain ⟨y, p'', y1, y2⟩ := ih c.2 _ _ c3 (by omega) z q k4 hz
            exact ⟨y, p'', List.mem_flatMap.mpr ⟨c, (ky_th_mem nt 0).mpr ⟨s.1, by omega, by omega, Or.inl c1⟩, y1⟩, y2⟩
          · have htn : s.1 < nt := by have := k2.1; rw [kp_nt Z] at this; exact this
            obtain ⟨-, g⟩ | ⟨g1, g2, g3⟩ := q_fi Z S I D htn
            · exact absurd k2 (g _)
            · have hmem : ((9, ky_em K x (nI s.1)) : Nat × KY) ∈ ky_es K x s.1 := by
                unfold ky_es
                rw [if_neg (by rw [g1]; decide)]
                exact List.mem_cons_self
              obtain ⟨m, m1, m2, m3⟩ := ra_es Z S R htn hmem
              have e : m = s.2 - 10 := (g3 m m1).trans (g3 _ k2).symm
              rw [e] at m2
              obtain ⟨y, p'', y1, y2⟩ := ih _ _ _ m2 (by omega) z q k3 hz
              exact ⟨y, p'', List.mem_flatMap.mpr ⟨_, (ky_th_mem nt 0).mpr ⟨s.1, by omega, by omega, Or.inr hmem⟩, y1⟩, y2⟩
      · rw [if_neg hm]
        have hend := (ra_end Z S R).mp (Bool.eq_false_iff.mpr hm)
        cases q with
        | nil => cases hq; exact ⟨x, p, List.mem_cons_self, R⟩
        | cons s q =>
          obtain ⟨k1, k2, k3, k4⟩ | ⟨k1, k2, k3⟩ := hq
          · exact absurd k2 (hend s.1).1
          · exact absurd k2 ((hend s.1).2 _)
end
