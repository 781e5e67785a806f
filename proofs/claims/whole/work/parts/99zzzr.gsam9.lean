/-! ===== same: the reference compares two threads ===== -/
theorem nI_mm {e : Nat} : nI (e + 1) + (-1 : Int32) = nI e := by
  rw [← nI_1, Int32.add_assoc, show (1 : Int32) + -1 = 0 from by decide, Int32.add_zero]
theorem tm_c {d d' : PD} {t u : Nat} (h : tm d d' t u) : (t = 705 → u = 705) ∧ (t = 706 → u = 706) ∧ (¬ t = 705 → ¬ u = 705) ∧ (¬ t = 706 → ¬ u = 706) := by
  rcases h with ⟨a, b, -⟩ | ⟨-, b⟩
  · unfold isn at a
    omega
  · omega
section
variable {H : AH} {p q : Nat} {d d' : PD}
theorem r_walk (T : TwR H p q d d') : ∀ (X Y : List Nat) (a b f c : Nat) (A : Nat → Nat → Int32) (M : MP), clz c X → clz c Y → c + X.length < 2000 → X.length ≤ f → (∀ k, A 106 k = hp_i H 106 k) → a + X.length ≤ (RN (pS d) (pE d)).length → b + Y.length ≤ (RN (pS d') (pE d')).length → (∀ i, i < X.length → (RN (pS d) (pE d)).getD (a + i) 0 = X.getD i 0) → (∀ i, i < Y.length → (RN (pS d') (pE d')).getD (b + i) 0 = Y.getD i 0) → (∀ t, t ∈ X → VTn t) → (∀ u, u ∈ Y → VTn u) → NSt (fun z => z) A 120 121 M → okM M →
    ((TMl d d' X Y ∧ okM (segp X Y ++ M)) ∧ ∃ A', NSt (fun z => z) A' 120 121 (segp X Y ++ M) ∧ (∀ r k, r ≠ 120 → r ≠ 121 → A' r k = A r k) ∧ l_X11_tokensAlike_13 f 102 (nI p) (nI q) (nI a) (nI b) (nI c) (sA H A) = some (1, sA H A')) ∨
    (¬ (TMl d d' X Y ∧ okM (segp X Y ++ M)) ∧ ∃ A', (∀ r k, r ≠ 120 → r ≠ 121 → A' r k = A r k) ∧ l_X11_tokensAlike_13 f 102 (nI p) (nI q) (nI a) (nI b) (nI c) (sA H A) = some (0, sA H A')) := by
  intro X
  induction X with
  | nil => intro Y a b f c A M z; exact absurd z id
  | cons t X ih =>
    intro Y a b f c A M cX cY hc hf hA ha hb eX eY vX vY N O
    cases Y with
    | nil => exact absurd cY id
    | cons u Y =>
      have lx : (t :: X).length = X.length + 1 := rfl
      have ly : (u :: Y).length = Y.length + 1 := rfl
      obtain ⟨f, rfl⟩ : ∃ f', f = f' + 1 := ⟨f - 1, by omega⟩
      have t8 : t < 800 := by have := (vX t (List.mem_cons_self ..)).1; unfold VT at this; omega
      have t6 : nI t = (706 : Int32) ↔ t = 706 := nI_eq (b := 706) (by omega) (by omega)
      have st := r_ts (f := f) (x := nI c) T hA (a := a) (b := b) (t := t) (u := u) (by omega) (by omega) (eX 0 (by omega)) (eY 0 (by omega)) (vX t (List.mem_cons_self ..)) (vY u (List.mem_cons_self ..)) N O
      have sp : segp (t :: X) (u :: Y) ++ M = segp X Y ++ (tpn t u ++ M) := by
        show (segp X Y ++ tpn t u) ++ M = _
        rw [List.append_assoc]
      rw [sp]
      rcases st with ⟨⟨s1, s2⟩, A1, s3, s4, s5⟩ | ⟨s1, s2⟩
      · obtain ⟨m5, m6, m7, m8⟩ := tm_c s1
        -- going on
        have go : ∀ c2, c2 ≤ c + 1 → clz c2 X → clz c2 Y → l_X11_tokensAlike_13 (f + 1) 102 (nI p) (nI q) (nI a) (nI b) (nI c) (sA H A) = l_X11_tokensAlike_13 f 102 (nI p) (nI q) (nI (a + 1)) (nI (b + 1)) (nI c2) (sA H A1) → ((TMl d d' (t :: X) (u :: Y) ∧ okM (segp X Y ++ (tpn t u ++ M))) ∧ ∃ A', NSt (fun z => z) A' 120 121 (segp X Y ++ (tpn t u ++ M)) ∧ (∀ r k, r ≠ 120 → r ≠ 121 → A' r k = A r k) ∧ l_X11_tokensAlike_13 (f + 1) 102 (nI p) (nI q) (nI a) (nI b) (nI c) (sA H A) = some (1, sA H A')) ∨
            (¬ (TMl d d' (t :: X) (u :: Y) ∧ okM (segp X Y ++ (tpn t u ++ M))) ∧ ∃ A', (∀ r k, r ≠ 120 → r ≠ 121 → A' r k = A r k) ∧ l_X11_tokensAlike_13 (f + 1) 102 (nI p) (nI q) (nI a) (nI b) (nI c) (sA H A) = some (0, sA H A')) := fun c2 hc2 z1 z2 e => by
          have r := ih Y (a + 1) (b + 1) f c2 A1 (tpn t u ++ M) z1 z2 (by omega) (by omega) (fun k => by rw [s4 106 k (by omega) (by omega)]; exact hA k) (by omega) (by omega) (fun i hi => by
            have := eX (i + 1) (by omega)
            rw [show a + 1 + i = a + (i + 1) by omega, this]; rfl) (fun i hi => by
            have := eY (i + 1) (by omega)
            rw [show b + 1 + i = b + (i + 1) by omega, this]; rfl) (fun t' ht => vX t' (List.mem_cons_of_mem _ ht)) (fun t' ht => vY t' (List.mem_cons_of_mem _ ht)) s3 s2
          rcases r with ⟨⟨r1, r2⟩, A2, r3, r4, r5⟩ | ⟨r1, A2, r4, r5⟩
          · exact Or.inl ⟨⟨⟨s1, r1⟩, r2⟩, A2, r3, fun r k h1 h2 => (r4 r k h1 h2).trans (s4 r k h1 h2), e.trans r5⟩
          · exact Or.inr ⟨fun z => r1 ⟨z.1.2, z.2⟩, A2, fun r k h1 h2 => (r4 r k h1 h2).trans (s4 r k h1 h2), e.trans r5⟩
        by_cases c6 : t = 706
        · have u6 := m6 c6
          rw [c6] at cX
          rw [u6] at cY
          rcases clz_6.mp cX with ⟨x1, x2⟩ | ⟨x1, x2⟩
          · rcases clz_6.mp cY with ⟨y1, y2⟩ | ⟨y1, y2⟩
            · left
              refine ⟨⟨⟨s1, by rw [x2, y2]; exact trivial⟩, by rw [x2, y2]; exact s2⟩, A1, by rw [x2, y2]; exact s3, s4, ?_⟩
              rw [s5]
              unfold nxt
              have e0 : opx (nI c) t = nI 0 := by
                unfold opx
                rw [if_neg (by omega), if_pos c6, x1]; exact nI_mm
              rw [e0, if_neg (show ¬ (0 : Int32) < nI 0 by decide), if_pos (t6.mpr c6)]
            · omega
          · rcases clz_6.mp cY with ⟨y1, y2⟩ | ⟨y1, y2⟩
            · omega
            · refine go (c - 1) (by omega) x2 y2 ?_
              rw [s5]
              unfold nxt
              have e0 : opx (nI c) t = nI (c - 1) := by
                unfold opx
                rw [if_neg (by omega), if_pos c6]
                obtain ⟨e, rfl⟩ : ∃ e, c = e + 1 := ⟨c - 1, by omega⟩
                exact nI_mm
              rw [e0, if_pos (show (0 : Int32) < nI (c - 1) from nI_lt (a := 0) (by omega) (by omega))]
        · have nx : nxt p q a b (nI c) t f (sA H A1) = l_X11_tokensAlike_13 f 102 (nI p) (nI q) (nI (a + 1)) (nI (b + 1)) (opx (nI c) t) (sA H A1) := by
            unfold nxt
            by_cases z : 0 < opx (nI c) t
            · rw [if_pos z]
            · rw [if_neg z, if_neg (fun w => c6 (t6.mp w))]
          by_cases c5 : t = 705
          · rw [c5, clz_5] at cX
            rw [m5 c5, clz_5] at cY
            refine go (c + 1) (by omega) cX cY ?_
            have e0 : opx (nI c) t = nI (c + 1) := by
              unfold opx
              rw [if_pos c5]; exact nI_1 c
            rw [s5, nx, e0]
          · rw [clz_s c5 c6] at cX
            rw [clz_s (m7 c5) (m8 c6)] at cY
            refine go c (by omega) cX cY ?_
            have e0 : opx (nI c) t = nI c := by
              unfold opx
              rw [if_neg c5, if_neg c6, Int32.add_zero]
            rw [s5, nx, e0]
      · exact Or.inr ⟨fun z => s1 ⟨z.1.1, okM_s (fun y hy => List.mem_append.mpr (Or.inr hy)) z.2⟩, A, fun _ _ _ _ => rfl, s2⟩
/-- two threads -/
theorem r_two {t u : Nat} {A : Nat → Nat → Int32} {M : MP} (T : TwR H p q d d') (ht : t < (pS d).length) (hu : u < (pS d').length) (hA : ∀ k, A 106 k = hp_i H 106 k) (N : NSt (fun z => z) A 120 121 M) (O : okM M) :
    ((TMl d d' (thx d t) (thx d' u) ∧ okM (segp (thx d t) (thx d' u) ++ M)) ∧ ∃ A', NSt (fun z => z) A' 120 121 (segp (thx d t) (thx d' u) ++ M) ∧ (∀ r k, r ≠ 120 → r ≠ 121 → A' r k = A r k) ∧ f_X11_tokensAlike 102 (nI p) (nI (off d t)) (nI q) (nI (off d' u)) (sA H A) = some (1, sA H A')) ∨
    (¬ (TMl d d' (thx d t) (thx d' u) ∧ okM (segp (thx d t) (thx d' u) ++ M)) ∧ ∃ A', (∀ r k, r ≠ 120 → r ≠ 121 → A' r k = A r k) ∧ f_X11_tokensAlike 102 (nI p) (nI (off d t)) (nI q) (nI (off d' u)) (sA H A) = some (0, sA H A')) := by
  obtain ⟨Z, hp, hq, RP, RQ, P, P'⟩ := id T
  have hT : (RN (pS d) (pE d)).length ≤ 480 := P.1.2.2.1.2.2.2.2.2
  obtain ⟨a1, a2⟩ := tok_t P ht
  obtain ⟨b1, b2⟩ := tok_t P' hu
  exact r_walk T (thx d t) (thx d' u) (off d t) (off d' u) fu_ 0 A M (cz_t P ht) (cz_t P' hu) (by omega) (by unfold fu_; omega) hA a2 b2 a1 b1 (vt_t P ht) (vt_t P' hu) N O
/-! where the threads begin -/
theorem r_first {r : Nat} (Z : RZ H) (hp : p < 8) (RP : RPl H p d) (P : PDk d) (ok : ok_o H r 100) (ol : hp_l H r = 4) (r6 : r ≠ 106) (A : Nat → Nat → Int32) (hA : ∀ k, A 106 k = hp_i H 106 k) : ∃ A', f_X11_firsts 102 (nI p) r (sA H A) = some (sA H A') ∧ (∀ t, t < (pS d).length → A' r t = nI (off d t)) ∧ ∀ r' k, r' ≠ r → A' r' k = A r' k := by
  have hT : (RN (pS d) (pE d)).length ≤ 480 := P.1.2.2.1.2.2.2.2.2
  have n4 : (pS d).length ≤ 4 := P.1.2.2.1.2.2.1
  have g9 : ∀ B : Nat → Nat → Int32, g_r (sA H B) 102 11 9 = some 106 := fun B => rz_r (f := 9) (r := 106) (l := 7200) (sA_rz Z) (by decide)
  have l106 : ∀ (B : Nat → Nat → Int32) k, k < 7200 → l_i (sA H B) 106 (nI k) = some (B 106 k) := fun B k hk => rz_l (f := 9) (r := 106) (l := 7200) (sA_rz Z) (by decide) hk (by omega)
  have f12 : hp_i H 106 (900 * p + 12) = nI (RN (pS d) (pE d)).length := RP.1.1.2.2.2.2.2.2
  have ftk : ∀ i, i < (RN (pS d) (pE d)).length → hp_i H 106 (900 * p + 400 + i) = nI ((RN (pS d) (pE d)).getD i 0) := fun i hi => by
    rw [show 900 * p + 400 + i = 900 * p + (400 + i) by omega]
    exact RP.1.2.2.2.2 i hi
  have st : ∀ (B : Nat → Nat → Int32) (c : Int32) (a f : Nat), (∀ k, B 106 k = hp_i H 106 k) → a < (RN (pS d) (pE d)).length → l_X11_firsts_5 (f + 1) 102 (nI p) r c (nI a) (sA H B) = if nI ((RN (pS d) (pE d)).getD a 0) = (203 : Int32) then b_X11_firsts_49 (l_X11_firsts_5 f) 102 (nI p) r c (nI a) (sA H B) else b_X11_firsts_46 (l_X11_firsts_5 f) 102 (nI p) r c (nI a) (sA H B) := fun B c a f hB ha => by
    show b_X11_firsts_5 (l_X11_firsts_5 f) 102 (nI p) r c (nI a) (sA H B) = _
    unfold b_X11_firsts_5
    rw [g9, Option.bind_some, mu, da, l106 B _ (by omega), Option.bind_some, hB, f12, if_neg (nI_ge ha (by omega))]
    unfold b_X11_firsts_23
    rw [g9, Option.bind_some, mu, da, nI_add, l106 B _ (by omega), Option.bind_some, hB, ftk a ha]
  have skip : ∀ (L : List Nat) (a f : Nat) (B : Nat → Nat → Int32) (c : Int32), (∀ k, B 106 k = hp_i H 106 k) → a + L.length ≤ (RN (pS d) (pE d)).length → (∀ i, i < L.length → (RN (pS d) (pE d)).getD (a + i) 0 = L.getD i 0) → (∀ t, t ∈ L → t < 800 ∧ t ≠ 203) → l_X11_firsts_5 (f + L.length) 102 (nI p) r c (nI a) (sA H B) = l_X11_firsts_5 f 102 (nI p) r c (nI (a + L.length)) (sA H B) := by
    intro L
    induction L with
    | nil => intro a f B c _ _ _ _; rfl
    | cons t L ih =>
      intro a f B c hB ha eL vL
      have ll : (t :: L).length = L.length + 1 := rfl
      have e0 : (RN (pS d) (pE d)).getD a 0 = t := eL 0 (by omega)
      obtain ⟨v1, v2⟩ := vL t (List.mem_cons_self ..)
      have i := ih (a + 1) f B c hB (by omega) (fun i hi => by
        have := eL (i + 1) (by omega)
        rw [show a + 1 + i = a + (i + 1) by omega, this]; rfl) (fun t' ht => vL t' (List.mem_cons_of_mem _ ht))
      rw [ll, show f + (L.length + 1) = (f + L.length) + 1 by omega, st B c a _ hB (by omega), e0, if_neg (show ¬ nI t = (203 : Int32) from fun z => v2 ((nI_eq (b := 203) (by omega) (by omega)).mp z)), show a + (L.length + 1) = a + 1 + L.length by omega, ← i]
      unfold b_X11_firsts_46 b_X11_firsts_57
      rw [da]
  have thr1 : ∀ t f (B : Nat → Nat → Int32), t < (pS d).length → (∀ k, B 106 k = hp_i H 106 k) → l_X11_firsts_5 (f + (thx d t).length) 102 (nI p) r (nI t) (nI (off d t)) (sA H B) = l_X11_firsts_5 f 102 (nI p) r (nI (t + 1)) (nI (off d (t + 1))) (sA H (up_2 B r t (nI (off d t)))) := fun t f B ht hB => by
    obtain ⟨a1, a2⟩ := tok_t P ht
    have vv : ∀ u, u ∈ 705 :: flt (sgl (fun i => (pE d).getD ((pS d).getD t 0 + i) dE) 0 (tk_ d t)) → u < 800 ∧ u ≠ 203 := av1 (P := fun u => u < 800 ∧ u ≠ 203) ⟨by omega, by omega⟩ (fun u hu => by
      obtain ⟨v1, v2⟩ := stl_v (stl_t P ht) u hu
      exact ⟨by have := v1.1; unfold VT at this; omega, v2⟩)
    have ex : thx d t = 203 :: 705 :: flt (sgl (fun i => (pE d).getD ((pS d).getD t 0 + i) dE) 0 (tk_ d t)) := rfl
    rw [off_s]
    generalize 705 :: flt (sgl (fun i => (pE d).getD ((pS d).getD t 0 + i) dE) 0 (tk_ d t)) = L at *
    rw [ex] at a1 a2
    have ll : (203 :: L).length = L.length + 1 := rfl
    have e0 : (RN (pS d) (pE d)).getD (off d t) 0 = 203 := a1 0 (by omega)
    have sk := skip L (off d t + 1) f (up_2 B r t (nI (off d t))) (nI (t + 1)) (fun k => by rw [u2 (Or.inl (fun z => r6 z.symm))]; exact hB k) (by omega) (fun i hi => by
      have := a1 (i + 1) (by omega)
      rw [show off d t + 1 + i = off d t + (i + 1) by omega, this]; rfl) vv
    rw [ex, ll, show f + (L.length + 1) = (f + L.length) + 1 by omega, st B _ _ _ hB (by omega), e0, if_pos (show nI 203 = (203 : Int32) from rfl), show off d t + (L.length + 1) = off d t + 1 + L.length by omega, ← sk]
    unfold b_X11_firsts_49 b_X11_firsts_57
    rw [show s_i (sA H B) r (nI t) (nI (off d t)) = some (sA H (up_2 B r t (nI (off d t)))) from s_iN (h := sA H B) ok (by show t < hp_l H r; omega) (by omega), Option.bind_some, da, da]
  have all : ∀ j t f (B : Nat → Nat → Int32), t + j = (pS d).length → (RN (pS d) (pE d)).length + 1 ≤ f + off d t → (∀ k, B 106 k = hp_i H 106 k) → ∃ A', l_X11_firsts_5 f 102 (nI p) r (nI t) (nI (off d t)) (sA H B) = some (sA H A') ∧ (∀ u, t ≤ u → u < (pS d).length → A' r u = nI (off d u)) ∧ ∀ r' k, (r' ≠ r ∨ k < t) → A' r' k = B r' k := by
    intro j
    induction j with
    | zero =>
      intro t f B ht hf hB
      have et : t = (pS d).length := by omega
      have eo := off_n P
      rw [← et] at eo
      obtain ⟨f, rfl⟩ : ∃ f', f = f' + 1 := ⟨f - 1, by omega⟩
      refine ⟨B, ?_, fun u h1 h2 => by omega, fun _ _ _ => rfl⟩
      show b_X11_firsts_5 (l_X11_firsts_5 f) 102 (nI p) r (nI t) (nI (off d t)) (sA H B) = _
      unfold b_X11_firsts_5
      rw [g9, Option.bind_some, mu, da, l106 B _ (by omega), Option.bind_some, hB, f12, if_pos (nI_le (by omega) (by omega))]
      rfl
    | succ j ih =>
      intro t f B ht hf hB
      obtain ⟨a1, a2⟩ := tok_t P (t := t) (by omega)
      obtain ⟨g, rfl⟩ : ∃ g, f = g + (thx d t).length := ⟨f - (thx d t).length, by omega⟩
      obtain ⟨A', x1, x2, x3⟩ := ih (t + 1) g (up_2 B r t (nI (off d t))) (by omega) (by rw [off_s]; omega) (fun k => by rw [u2 (Or.inl (fun z => r6 z.symm))]; exact hB k)
      refine ⟨A', by rw [thr1 t g B (by omega) hB]; exact x1, fun u h1 h2 => ?_, fun r' k h => ?_⟩
      · by_cases c : u = t
        · rw [c, x3 r t (Or.inr (by omega)), u2s]
        · exact x2 u (by omega) h2
      · rw [x3 r' k (h.imp id (fun z => by omega)), u2 (h.imp id (fun z => by omega))]
  obtain ⟨A', x1, x2, x3⟩ := all (pS d).length 0 fu_ A (by omega) (by unfold fu_; omega) hA
  rw [off_0] at x1
  exact ⟨A', x1, fun t ht => x2 t (Nat.zero_le _) ht, fun r' k h => x3 r' k (Or.inl h)⟩
end
