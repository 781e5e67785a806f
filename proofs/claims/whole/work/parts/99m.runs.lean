/-! ===== the reference's runs: the leaves of its tree are the ends ===== -/
/-- the ends that a state can come to -/
def LEn (P : PA) (V : Nat → Bool) (o : Nat) (a z : AS) : Prop := ∃ q, xa_ph P V o q a z ∧ xa_end P V z
/-- the leaves in their order (order 0) -/
noncomputable def lvp (P : PA) (V : Nat → Bool) : Nat → AS → List Nat → List (AS × List Nat)
  | 0, _, _ => []
  | f + 1, a, p => @ite _ (xa_end P V a) (Classical.propDecidable _) [(a, p)] ((List.range' 0 (pa_nt P)).flatMap (fun t => @ite _ (xa_en P V a t) (Classical.propDecidable _) (lvp P V f (xa_ac P V 0 a t (sqw P a t)) (p ++ [t])) []))
def ST3 (P : PA) (V : Nat → Bool) (o : Nat) (a : AS) : Prop := xa_in P o a ∧ xa_t P a ∧ (o = 1 → ∀ t, ¬ xa_hu P V 1 a t) ∧ ∃ q, xa_ph P V o q (xa_0 P) a
def VE (F : Nat → Int32) (K : Nat → Nat → Int32) (te ow rx : Nat → Nat) (na nt sz o s : Nat) (V : Nat → Bool) (mo : Int32) (U : AH → Prop) (Q : AH → List (AS × List Nat) → Prop) : Prop :=
  (∀ h, U h → RE h s F o mo) ∧ (∀ h d g, U h → U (sR h d g)) ∧ (∀ h d g L, Q h L → Q (sR h d g) L) ∧
  (∀ h d a p L, d < 20 → U h → Q h L → DR K te ow rx na nt sz o V (rowv h d) a p → ST3 (KP K) V o a → xa_end (KP K) V a → ∃ h', f_X11_ended 102 (nI d) h = some h' ∧ U h' ∧ Q h' (L ++ [(a, p)]) ∧ hp_i h' 109 = hp_i h 109)
/-- the rows up to d are the same -/
def SRw (d : Nat) (h h' : AH) : Prop := ∀ d', d' ≤ d → ∀ k, k < 142 → rowv h' d' k = rowv h d' k
def RUN (K : Nat → Nat → Int32) (te ow rx : Nat → Nat) (na nt sz o : Nat) (V : Nat → Bool) (U : AH → Prop) (Q : AH → List (AS × List Nat) → Prop) (rc : Nat → Int32 → AH → Option AH) (f : Nat) : Prop :=
  ∀ (d : Nat) (a : AS) (p : List Nat) (h : AH) (L : List (AS × List Nat)) (fa : Nat), fa ≤ f → rka (KP K) o a + fa = 17 → d + fa ≤ 17 → U h → Q h L → ST3 (KP K) V o a → DR K te ow rx na nt sz o V (rowv h d) a p →
    ∃ h' M, rc 102 (nI d) h = some h' ∧ U h' ∧ Q h' (L ++ M) ∧ SRw d h h' ∧ (∀ z, (∃ q, (z, q) ∈ M) ↔ LEn (KP K) V o a z) ∧ (o = 0 → M = lvp (KP K) V fa a p)
theorem srw_rf {d : Nat} {h : AH} : SRw d h h := fun _ _ _ _ => rfl
theorem srw_tr {d : Nat} {h h1 h2 : AH} (a : SRw d h h1) (b : SRw d h1 h2) : SRw d h h2 := fun d' hd k hk => (b d' hd k hk).trans (a d' hd k hk)
theorem srw_s {d e : Nat} {h h' : AH} {g : Nat → Int32} (he : d < e) (a : SRw e (sR h e g) h') : SRw d h h' := fun d' hd k hk => (a d' (by omega) k hk).trans (sR_ne (by omega) hk)
section
variable {P : PA} {V : Nat → Bool} {o : Nat} {a z : AS}
theorem se_10 {t w : Nat} (W : xa_wf P) (I : xa_in P o a) (hs : xa_se P V o a t w) : w ≤ 8 := by
  cases w with
  | zero => omega
  | succ m =>
    have := (I.2.1 m (xa_se_do I hs).1).1
    have := W.2.2.2.1
    omega
theorem ls_step (W : xa_wf P) (I : xa_in P o a) : LEn P V o a z ↔ (xa_end P V a ∧ z = a) ∨ ∃ t, (∃ m, xa_fi P a t m ∧ LEn P V o (xa_em P a m) z) ∨ (xa_en P V a t ∧ ∃ w, xa_se P V o a t w ∧ LEn P V o (xa_ac P V o a t w) z) := by
  constructor
  · rintro ⟨q, h1, h2⟩
    cases q with
    | nil => cases h1; exact Or.inl ⟨h2, rfl⟩
    | cons x q =>
      obtain ⟨-, y1, y2, y3⟩ | ⟨-, y1, y2⟩ := h1
      · exact Or.inr ⟨x.1, Or.inr ⟨y1, x.2, y2, q, y3, h2⟩⟩
      · exact Or.inr ⟨x.1, Or.inl ⟨x.2 - 10, y1, q, y2, h2⟩⟩
  · rintro (⟨h1, rfl⟩ | ⟨t, ⟨m, h1, q, h2, h3⟩ | ⟨h1, w, h2, q, h3, h4⟩⟩)
    · exact ⟨[], rfl, h1⟩
    · exact ⟨(t, 10 + m) :: q, Or.inr ⟨by show 10 ≤ 10 + m; omega, by show xa_fi P a t (10 + m - 10); rw [Nat.add_sub_cancel_left]; exact h1, by show xa_ph P V o q (xa_em P a (10 + m - 10)) z; rw [Nat.add_sub_cancel_left]; exact h2⟩, h3⟩
    · exact ⟨(t, w) :: q, Or.inl ⟨by have := se_10 W I h2; show w < 10; omega, h1, h2, h3⟩, h4⟩
theorem se_uq {t w w' : Nat} (hc : o ≠ 2 ∨ ¬ (xa_op P (xa_nx a t) = 0 ∨ xa_op P (xa_nx a t) = 2) ∨ V (xa_ob P (xa_nx a t)) = true) (ho : o ≤ 2) (h1 : xa_se P V o a t w) (h2 : xa_se P V o a t w') : w = w' := by
  unfold xa_se at h1 h2
  by_cases c0 : xa_op P (xa_nx a t) = 0 ∨ xa_op P (xa_nx a t) = 2
  · rw [if_pos c0] at h1 h2
    by_cases c1 : o = 0 ∨ (o = 2 ∧ V (xa_ob P (xa_nx a t)) = true)
    · rw [if_pos c1] at h1 h2
      omega
    · rw [if_neg c1] at h1 h2
      have c2 : o = 1 := by
        obtain x | x | x := hc
        · omega
        · exact absurd c0 x
        · apply Classical.byContradiction
          intro y
          exact c1 (by by_cases y0 : o = 0; exact Or.inl y0; exact Or.inr ⟨by omega, x⟩)
      rw [if_pos c2] at h1 h2
      obtain ⟨m, x1, x2, x3⟩ | ⟨x1, x2⟩ := h1
      · obtain ⟨m', y1, y2, y3⟩ | ⟨y1, y2⟩ := h2
        · have : m = m' := by
            apply Classical.byContradiction
            intro hne
            obtain h | h := Nat.lt_or_gt_of_ne hne
            · exact x3 m' h y2
            · exact y3 m h x2
          omega
        · exact absurd x2 (y1 m)
      · obtain ⟨m', y1, y2, y3⟩ | ⟨y1, y2⟩ := h2
        · exact absurd y2 (x1 m')
        · omega
  · rw [if_neg c0] at h1 h2
    omega
theorem se_ex1 {t : Nat} (W : xa_wf P) (I : xa_in P 1 a) : ∃ w, xa_se P V 1 a t w := by
  by_cases c0 : xa_op P (xa_nx a t) = 0 ∨ xa_op P (xa_nx a t) = 2
  · have key : ∀ w, xa_se P V 1 a t w ↔ ((∃ m, w = m + 1 ∧ xa_qc P a t (xa_ob P (xa_nx a t)) m ∧ ∀ m', m < m' → ¬ xa_qc P a t (xa_ob P (xa_nx a t)) m') ∨ ((∀ m, ¬ xa_qc P a t (xa_ob P (xa_nx a t)) m) ∧ w = as_me a (xa_ob P (xa_nx a t)))) := fun w => by
      unfold xa_se
      rw [if_pos c0, if_neg (by omega), if_pos rfl]
    by_cases c1 : ∃ m, xa_qc P a t (xa_ob P (xa_nx a t)) m
    · have h8 : ∀ m, xa_qc P a t (xa_ob P (xa_nx a t)) m → m < 8 := fun m hm => by
        have := (I.2.1 m (I.2.2.2.1 m hm.1).1).1
        have := W.2.2.2.1
        omega
      obtain ⟨m0, hm0⟩ := c1
      obtain ⟨k, ⟨m, k1, k2⟩, k3⟩ := nt_least (p := fun k => ∃ m, xa_qc P a t (xa_ob P (xa_nx a t)) m ∧ m + k = 8) (8 - m0) ⟨m0, hm0, by have := h8 m0 hm0; omega⟩
      exact ⟨m + 1, (key _).mpr (Or.inl ⟨m, rfl, k1, fun m' hm' hq => by
        have := h8 m' hq
        exact k3 (8 - m') (by omega) ⟨m', hq, by omega⟩⟩)⟩
    · exact ⟨_, (key _).mpr (Or.inr ⟨fun m hm => c1 ⟨m, hm⟩, rfl⟩)⟩
  · refine ⟨0, ?_⟩
    unfold xa_se
    rw [if_neg c0]
end
section
variable {h H : AH} {d s o t w f : Nat} {g F : Nat → Int32} {mo wI : Int32} {K : Nat → Nat → Int32} {te ow rx : Nat → Nat} {na nt sz : Nat} {V : Nat → Bool} {a : AS} {p : List Nat} {U : AH → Prop} {Q : AH → List (AS × List Nat) → Prop} {rc : Nat → Int32 → AH → Option AH} {L : List (AS × List Nat)}
theorem ve_cg (Z : KW K te ow na nt sz) (I : xa_in (KP K) o a) {h' : AH} (D : DR K te ow rx na nt sz o V (rowv h d) a p) (S : SRw d h h') : DR K te ow rx na nt sz o V (rowv h' d) a p :=
  dr_cg Z I (fun k hk => S d (Nat.le_refl _) k hk) D (p_len (dr_s D))
/-- acts and the run behind it -/
theorem run_ac (P : PR F K te ow rx na nt sz V mo) (VEx : VE F K te ow rx na nt sz o s V mo U Q) (R : RUN K te ow rx na nt sz o V U Q rc f) (hrk : rka (KP K) o a + (f + 1) = 17) (hd : d + (f + 1) ≤ 17) (u : U h) (q : Q h L) (S : ST3 (KP K) V o a) (D : DR K te ow rx na nt sz o V (rowv h d) a p) (ht : t < nt) (he : xa_en (KP K) V a t) (hs : xa_se (KP K) V o a t w) (hw1 : o = 1 → wI = -1) (hw2 : o ≠ 1 → wR wI w) :
    ∃ h2 h4 M, f_X11_acts 102 (nI d) (nI t) wI h = some h2 ∧ ok_v h2 102 11 = some () ∧ rc 102 (nI d + 1) h2 = some h4 ∧ U h4 ∧ Q h4 (L ++ M) ∧ SRw d h h4 ∧ (∀ z, (∃ q, (z, q) ∈ M) ↔ LEn (KP K) V o (xa_ac (KP K) V o a t w) z) ∧ (o = 0 → M = lvp (KP K) V f (xa_ac (KP K) V o a t w) (p ++ [t])) := by
  have Z := P.1
  have W := kp_wf Z
  obtain ⟨I, X, hh, q0, hq0⟩ := S
  have E := VEx.1 h u
  have I' := xa_in_ac W I he hs
  have X' := xa_t_ac W I X he hs
  obtain ⟨r1, r2, r3⟩ := rka_ac (w := w) W I he
  have w8 := se_10 W I hs
  have ph1 : xa_ph (KP K) V o [(t, w)] a (xa_ac (KP K) V o a t w) := Or.inl ⟨by show w < 10; omega, he, hs, rfl⟩
  by_cases c1 : o = 1
  · subst c1
    rw [hw1 rfl]
    obtain ⟨g', a', k, x1, x2, x3, x4⟩ := x_acts1 P E (by omega) I D ht he hs (hh rfl t)
    obtain ⟨w1, w2, q', w3⟩ := hur_in W k _ _ I' x3
    have rk := hur_rk W k _ _ I' x3
    have r16 := rka_le (P := KP K) (o := 1) (s := a')
    have S' : ST3 (KP K) V 1 a' := by
      refine ⟨w1, hur_t W k _ _ I' X' x3, fun _ t' x => ?_, q0 ++ [(t, w)] ++ q', xa_ph_snoc _ _ _ _ _ (xa_ph_snoc _ _ _ _ _ hq0 ph1) w3⟩
      by_cases et : t' = t
      · subst et; exact x4 x
      · refine hh rfl t' ?_
        unfold xa_hu xa_nx at x ⊢
        rw [w2 t' et, xa_ac_th, up_ne et] at x
        exact x
    obtain ⟨h4, M, y1, y2, y3, y4, y5, -⟩ := R (d + 1) a' (p ++ [t]) (sR h (d + 1) g') L (17 - rka (KP K) 1 a') (by omega) (by omega) (by omega) (VEx.2.1 _ _ _ u) (VEx.2.2.1 _ _ _ _ q) S' (dr_cg Z w1 (fun k hk => sR_row hk) x2 (p_len (dr_s x2)))
    refine ⟨_, h4, M, x1, x_ok (sR_re E), by rw [da]; exact y1, y2, y3, srw_s (by omega) y4, fun z => (y5 z).trans ?_, fun x => by omega⟩
    constructor
    · rintro ⟨q1, z1, z2⟩
      exact ⟨q' ++ q1, xa_ph_snoc _ _ _ _ _ w3 z1, z2⟩
    · rintro ⟨q1, z1, z2⟩
      obtain ⟨q2, z3⟩ := hur_por W k _ _ I' x3 q1 z z1 z2
      exact ⟨q2, z3, z2⟩
  · obtain ⟨g', x1, x2⟩ := x_acts P E (by omega) c1 I X D ht he hs (hw2 c1)
    obtain ⟨h4, M, y1, y2, y3, y4, y5, y6⟩ := R (d + 1) (xa_ac (KP K) V o a t w) (p ++ [t]) (sR h (d + 1) g') L f (Nat.le_refl _) (by omega) (by omega) (VEx.2.1 _ _ _ u) (VEx.2.2.1 _ _ _ _ q) ⟨I', X', fun x => absurd x c1, q0 ++ [(t, w)], xa_ph_snoc _ _ _ _ _ hq0 ph1⟩ (dr_cg Z I' (fun k hk => sR_row hk) x2 (p_len (dr_s x2)))
    exact ⟨_, h4, M, x1, x_ok (sR_re E), by rw [da]; exact y1, y2, y3, srw_s (by omega) y4, y5, y6⟩
def wi (j : Nat) : Int32 := if j = 0 then -1 else nI (j - 1)
theorem wi_1 {j : Nat} : wi j + 1 = wi (j + 1) := by
  unfold wi
  rw [if_neg (by omega : ¬ j + 1 = 0), Nat.add_sub_cancel]
  by_cases c : j = 0
  · rw [if_pos c, c]; rfl
  · rw [if_neg c, da, show j - 1 + 1 = j by omega]
theorem wi_r {j : Nat} (h : j ≤ 8) : wR (wi j) j := by
  unfold wi
  by_cases c : j = 0
  · rw [if_pos c]; exact Or.inl ⟨c, rfl⟩
  · rw [if_neg c]; exact Or.inr ⟨j - 1, by omega, by omega, rfl⟩
/-- the loop over the writes that may be seen (order 2) -/
theorem l_179 {r4 : Nat → Int32 → Int32 → Int32 → AH → Option AH} {c k : Nat} {set : Int32} (P : PR F K te ow rx na nt sz V mo) (VEx : VE F K te ow rx na nt sz o s V mo U Q) (R : RUN K te ow rx na nt sz o V U Q rc f) (hrk : rka (KP K) o a + (f + 1) = 17) (hd : d + (f + 1) ≤ 17) (S : ST3 (KP K) V o a) (ht : t < nt) (he : xa_en (KP K) V a t) (ho : o = 2) (hop : xa_op (KP K) (xa_nx a t) = 0 ∨ xa_op (KP K) (xa_nx a t) = 2) (hob : xa_ob (KP K) (xa_nx a t) = c) (hc : c < 6) (hV : V c = false) (hset : mk8 set (xa_ah (KP K) V o a t (xa_nx a t) 0)) (hk : k < 66) (hF2 : F (60 + 5 * k + 2) = nI c) :
    ∀ n j, j + n = na + 1 → ∀ fu, n < fu → ∀ h L, U h → Q h L → DR K te ow rx na nt sz o V (rowv h d) a p →
      ∃ h' M, l_X11_runs_179 rc r4 fu 102 (nI d) 1 (nI t) (nI k) set (wi j) h = r4 102 (nI d) 1 (nI (t + 1)) h' ∧ U h' ∧ Q h' (L ++ M) ∧ SRw d h h' ∧ (∀ z, (∃ q, (z, q) ∈ M) ↔ ∃ w, j ≤ w ∧ xa_se (KP K) V o a t w ∧ LEn (KP K) V o (xa_ac (KP K) V o a t w) z) := by
  have Z := P.1
  have W := kp_wf Z
  have hna := Z.1
  have hnt := Z.2.1
  have I := S.1
  have hn : xa_nx a t < na := by have := he.2.1; rw [kp_na Z] at this; exact this
  have hse : ∀ w, xa_se (KP K) V o a t w ↔ (w = 0 ∨ ∃ m, w = m + 1 ∧ as_do a m ∧ xa_wr (KP K) m c) ∧ ¬ xa_hid (KP K) V o a t (xa_nx a t) c w := fun w => by
    unfold xa_se
    rw [if_pos hop, if_neg (by rw [hob, hV]; rintro (x | ⟨-, x⟩); omega; cases x), if_neg (by omega), hob]
  have w8 : ∀ w, xa_se (KP K) V o a t w → w ≤ na := fun w hw => by
    cases w with
    | zero => omega
    | succ m =>
      have := (I.2.1 m (xa_se_do I hw).1).1
      rw [kp_na Z] at this
      omega
  intro n
  induction n with
  | zero =>
    intro j hj fu hf h L u q D
    obtain ⟨fu, rfl⟩ : ∃ x, fu = x + 1 := ⟨fu - 1, by omega⟩
    have E := VEx.1 h u
    refine ⟨h, [], ?_, u, by rw [List.append_nil]; exact q, srw_rf, fun z => ⟨fun ⟨_, x⟩ => (List.not_mem_nil x).elim, fun ⟨w, x1, x2, _⟩ => by have := w8 w x2; omega⟩⟩
    show b_X11_runs_179 rc r4 (l_X11_runs_179 rc r4 fu) 102 (nI d) 1 (nI t) (nI k) set (wi j) h = _
    unfold b_X11_runs_179
    rw [x_ok E, Option.bind_some, show f_X11_of 102 (6 : Int32) h = some (nI na, h) by rw [← P.2.1]; exact x_of (k := 6) E (by omega), Option.bind_some]
    have : nI na ≤ wi j := by
      unfold wi
      rw [if_neg (by omega)]
      exact (cmp_N (by omega) (by omega)).mpr (by omega)
    rw [if_pos this]
    unfold b_X11_runs_265
    rw [da]
  | succ n ih =>
    intro j hj fu hf h L u q D
    obtain ⟨fu, rfl⟩ : ∃ x, fu = x + 1 := ⟨fu - 1, by omega⟩
    have E := VEx.1 h u
    have wj := wi_r (j := j) (by omega)
    have nle : ¬ nI na ≤ wi j := by
      unfold wi
      by_cases c : j = 0
      · rw [if_pos c]
        intro x
        rw [Int32.le_iff_toInt_le] at x
        have e1 : (nI na).toInt = na := Int32.toInt_ofNat_of_lt (by omega)
        rw [e1, show (-1 : Int32).toInt = -1 from rfl] at x
        omega
      · rw [if_neg c]
        intro x
        have := (cmp_N (by omega) (by omega)).mp x
        omega
    -- the next turn
    have next : ∀ h L, U h → Q h L → DR K te ow rx na nt sz o V (rowv h d) a p → ∃ h' M, b_X11_runs_259 rc r4 (l_X11_runs_179 rc r4 fu) 102 (nI d) 1 (nI t) (nI k) set (wi j) h = r4 102 (nI d) 1 (nI (t + 1)) h' ∧ U h' ∧ Q h' (L ++ M) ∧ SRw d h h' ∧ (∀ z, (∃ q, (z, q) ∈ M) ↔ ∃ w, j + 1 ≤ w ∧ xa_se (KP K) V o a t w ∧ LEn (KP K) V o (xa_ac (KP K) V o a t w) z) := fun h L u q D => by
      unfold b_X11_runs_259
      rw [wi_1]
      exact ih (j + 1) (by omega) fu (by omega) h L u q D
    -- w is not seen
    have skip : ¬ xa_se (KP K) V o a t j → ∀ h' M, b_X11_runs_259 rc r4 (l_X11_runs_179 rc r4 fu) 102 (nI d) 1 (nI t) (nI k) set (wi j) h = r4 102 (nI d) 1 (nI (t + 1)) h' ∧ U h' ∧ Q h' (L ++ M) ∧ SRw d h h' ∧ (∀ z, (∃ q, (z, q) ∈ M) ↔ ∃ w, j + 1 ≤ w ∧ xa_se (KP K) V o a t w ∧ LEn (KP K) V o (xa_ac (KP K) V o a t w) z) → U h' ∧ Q h' (L ++ M) ∧ SRw d h h' ∧ (∀ z, (∃ q, (z, q) ∈ M) ↔ ∃ w, j ≤ w ∧ xa_se (KP K) V o a t w ∧ LEn (KP K) V o (xa_ac (KP K) V o a t w) z) := fun hns h' M ⟨_, y2, y3, y4, y5⟩ => by
      refine ⟨y2, y3, y4, fun z => (y5 z).trans ⟨fun ⟨w, z1, z2⟩ => ⟨w, by omega, z2⟩, fun ⟨w, z1, z2⟩ => ⟨w, ?_, z2⟩⟩⟩
      have : w ≠ j := fun x => hns (x ▸ z2.1)
      omega
    show ∃ h' M, b_X11_runs_179 rc r4 (l_X11_runs_179 rc r4 fu) 102 (nI d) 1 (nI t) (nI k) set (wi j) h = _ ∧ _
    unfold b_X11_runs_179
    rw [x_ok E, Option.bind_some, show f_X11_of 102 (6 : Int32) h = some (nI na, h) by rw [← P.2.1]; exact x_of (k := 6) E (by omega), Option.bind_some, if_neg nle]
    have i2 : f_X11_instr 102 (nI k) (2 : Int32) h = some (nI c, h) := by rw [← hF2]; exact x_ins (k := 2) E (by omega)
    -- once it is a write
    have b222 : (j = 0 ∨ ∃ m, j = m + 1 ∧ as_do a m ∧ xa_wr (KP K) m c) → ∃ h' M, b_X11_runs_222 rc r4 (l_X11_runs_179 rc r4 fu) 102 (nI d) 1 (nI t) (nI k) set (wi j) h = r4 102 (nI d) 1 (nI (t + 1)) h' ∧ U h' ∧ Q h' (L ++ M) ∧ SRw d h h' ∧ (∀ z, (∃ q, (z, q) ∈ M) ↔ ∃ w, j ≤ w ∧ xa_se (KP K) V o a t w ∧ LEn (KP K) V o (xa_ac (KP K) V o a t w) z) := fun hwr => by
      unfold b_X11_runs_222
      rw [x_ok E, Option.bind_some, i2, Option.bind_some, x_ok E, Option.bind_some]
      obtain ⟨s1, s2⟩ | ⟨s1, s2⟩ := x_seen (w := j) (wI := wi j) P E (by omega) I D hn (by omega) hc hob hset wj
      · rw [s2, Option.bind_some, if_neg n10]
        have hs := (hse j).mpr ⟨hwr, s1⟩
        unfold b_X11_runs_244
        obtain ⟨h2, h4, M1, y1, y2, y3, y4, y5, y6, y7, -⟩ := run_ac (wI := wi j) P VEx R hrk hd u q S D ht he hs (fun x => by omega) (fun _ => wj)
        rw [x_ok E, Option.bind_some, y1, Option.bind_some, y2, Option.bind_some, y3, Option.bind_some]
        obtain ⟨h', M2, z1, z2, z3, z4, z5⟩ := next h4 _ y4 y5 (ve_cg Z I D y6)
        refine ⟨h', M1 ++ M2, z1, z2, by rw [← List.append_assoc]; exact z3, srw_tr y6 z4, fun z => ?_⟩
        constructor
        · rintro ⟨q, hq⟩
          obtain hq | hq := List.mem_append.mp hq
          · exact ⟨j, Nat.le_refl _, hs, (y7 z).mp ⟨q, hq⟩⟩
          · obtain ⟨w, v1, v2⟩ := (z5 z).mp ⟨q, hq⟩
            exact ⟨w, by omega, v2⟩
        · rintro ⟨w, v1, v2, v3⟩
          by_cases ew : w = j
          · subst ew
            obtain ⟨q, hq⟩ := (y7 z).mpr v3
            exact ⟨q, List.mem_append.mpr (Or.inl hq)⟩
          · obtain ⟨q, hq⟩ := (z5 z).mpr ⟨w, by omega, v2, v3⟩
            exact ⟨q, List.mem_append.mpr (Or.inr hq)⟩
      · rw [s2, Option.bind_some, if_pos rfl]
        unfold b_X11_runs_241
        obtain ⟨h', M, y⟩ := next h L u q D
        exact ⟨h', M, y.1, skip (fun x => ((hse j).mp x).2 s1) h' M y⟩
    unfold b_X11_runs_190
    by_cases c0 : j = 0
    · rw [if_pos (by unfold wi; rw [if_pos c0])]
      exact b222 (Or.inl c0)
    · obtain ⟨m, rfl⟩ : ∃ m, j = m + 1 := ⟨j - 1, by omega⟩
      have ew : wi (m + 1) = nI m := by unfold wi; rw [if_neg (by omega), Nat.add_sub_cancel]
      have b196 : ∃ h' M, b_X11_runs_196 rc r4 (l_X11_runs_179 rc r4 fu) 102 (nI d) 1 (nI t) (nI k) set (nI m) h = r4 102 (nI d) 1 (nI (t + 1)) h' ∧ U h' ∧ Q h' (L ++ M) ∧ SRw d h h' ∧ (∀ z, (∃ q, (z, q) ∈ M) ↔ ∃ w, m + 1 ≤ w ∧ xa_se (KP K) V o a t w ∧ LEn (KP K) V o (xa_ac (KP K) V o a t w) z) := by
        unfold b_X11_runs_196
        rw [x_ok E, Option.bind_some, x_isd E (by omega), Option.bind_some]
        rw [ew] at b222 next skip
        have hdo := mk8_bit (k := m) (D.2.2.2.2.2.1 (by omega)).2.2.2.1 (by omega)
        by_cases c1 : as_do a m
        · rw [if_pos (hdo.mpr c1), if_neg n10]
          unfold b_X11_runs_206
          rw [x_ok E, Option.bind_some, i2, Option.bind_some, x_ok E, Option.bind_some, x_iw E (by omega), Option.bind_some]
          have hm : m < na := by omega
          have hwr : (F (18 + 4 * m + 1) = 1 ∧ F (18 + 4 * m + 2) = nI c) ↔ xa_wr (KP K) m c := by
            obtain ⟨el, opl, w1, w2, w3, w4, w5, w6, w7, w8, w9, w10, w11, w12⟩ := an_f P hm
            unfold xa_wr
            rw [w7, show (1 : Int32) = nI 1 from rfl, nI_eq (by omega) (by omega)]
            refine and_congr_right (fun h1 => ?_)
            obtain ⟨-, o1, g1, gb1, -, -, -, g2, -⟩ := Z.2.2.2.2.2.2.2.1 el w1
            have u1 : o1 = 1 := by rw [w3, ← w8, h1] at g1; exact ((nI_eq (by omega) (by omega)).mp g1).symm
            obtain ⟨cc, v1, v2⟩ := g2 (by omega)
            rw [w9, w10, v2, ix_nI (by omega), nI_eq (by omega) (by omega)]
          by_cases c2 : xa_wr (KP K) m c
          · rw [if_pos (hwr.mpr c2), if_neg n10]
            exact b222 (Or.inr ⟨m, rfl, c1, c2⟩)
          · rw [if_neg (fun x => c2 (hwr.mp x)), if_pos rfl]
            obtain ⟨h', M, y⟩ := next h L u q D
            refine ⟨h', M, y.1, skip (fun x => ?_) h' M y⟩
            obtain x | ⟨m', x1, x2, x3⟩ := ((hse _).mp x).1
            · omega
            · obtain rfl : m' = m := by omega
              exact c2 x3
        · rw [if_neg (fun x => c1 (hdo.mp x)), if_pos rfl]
          obtain ⟨h', M, y⟩ := next h L u q D
          refine ⟨h', M, y.1, skip (fun x => ?_) h' M y⟩
          obtain x | ⟨m', x1, x2, x3⟩ := ((hse _).mp x).1
          · omega
          · obtain rfl : m' = m := by omega
            exact c1 x2
      rw [ew, if_neg (nI_ne1 (by omega))]
      exact b196
end
