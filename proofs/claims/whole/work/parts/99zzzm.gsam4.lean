/-! ===== same: a token of the reference ===== -/
def isn (t : Nat) : Prop := t / 100 = 3 ∨ t / 100 = 4 ∨ t / 100 = 5
theorem isn_d (t : Nat) : isn t ∨ ¬ isn t := by
  by_cases c : t / 100 = 3 ∨ t / 100 = 4 ∨ t / 100 = 5
  · exact Or.inl c
  · exact Or.inr c
/-- two tokens go together -/
def tm (d d' : PD) (t u : Nat) : Prop := (isn t ∧ u / 100 = t / 100 ∧ (t / 100 = 3 → pK d (t % 100) = pK d' (u % 100))) ∨ (¬ isn t ∧ t = u)
def tpn (t u : Nat) : MP := if t / 100 = 3 ∨ t / 100 = 4 ∨ t / 100 = 5 then [(t, u)] else []
def opx (x : Int32) (t : Nat) : Int32 := x + (if t = 705 then 1 else if t = 706 then -1 else 0)
/-- the two programs of the reference -/
def TwR (H : AH) (p q : Nat) (d d' : PD) : Prop := RZ H ∧ p < 8 ∧ q < 8 ∧ RPl H p d ∧ RPl H q d' ∧ PDk d ∧ PDk d'
def VTn (t : Nat) : Prop := VT t ∧ (isn t → VN t)
/-- goes on after a token -/
def nxt (p q a b : Nat) (x : Int32) (t f : Nat) (h : AH) : Option (Int32 × AH) := if 0 < opx x t then l_X11_tokensAlike_13 f 102 (nI p) (nI q) (nI (a + 1)) (nI (b + 1)) (opx x t) h else if nI t = (706 : Int32) then some (1, h) else l_X11_tokensAlike_13 f 102 (nI p) (nI q) (nI (a + 1)) (nI (b + 1)) (opx x t) h
section
variable {H : AH} {p q a b f t u : Nat} {d d' : PD} {A : Nat → Nat → Int32} {M : MP} {x : Int32}
theorem r_ts (T : TwR H p q d d') (hA : ∀ k, A 106 k = hp_i H 106 k) (ha : a < (RN (pS d) (pE d)).length) (hb : b < (RN (pS d') (pE d')).length) (et : (RN (pS d) (pE d)).getD a 0 = t) (eu : (RN (pS d') (pE d')).getD b 0 = u) (vt : VTn t) (vu : VTn u) (N : NSt (fun z => z) A 120 121 M) (O : okM M) :
    ((tm d d' t u ∧ okM (tpn t u ++ M)) ∧ ∃ A', NSt (fun z => z) A' 120 121 (tpn t u ++ M) ∧ (∀ r k, r ≠ 120 → r ≠ 121 → A' r k = A r k) ∧ l_X11_tokensAlike_13 (f + 1) 102 (nI p) (nI q) (nI a) (nI b) x (sA H A) = nxt p q a b x t f (sA H A')) ∨
    (¬ (tm d d' t u ∧ okM (tpn t u ++ M)) ∧ l_X11_tokensAlike_13 (f + 1) 102 (nI p) (nI q) (nI a) (nI b) x (sA H A) = some (0, sA H A)) := by
  obtain ⟨Z, hp, hq, RP, RQ, P, P'⟩ := T
  have hT : (RN (pS d) (pE d)).length ≤ 480 := P.1.2.2.1.2.2.2.2.2
  have hT' : (RN (pS d') (pE d')).length ≤ 480 := P'.1.2.2.1.2.2.2.2.2
  have t8 : t < 800 := by have := vt.1; unfold VT at this; omega
  have u8 : u < 800 := by have := vu.1; unfold VT at this; omega
  have g9 : ∀ B : Nat → Nat → Int32, g_r (sA H B) 102 11 9 = some 106 := fun B => rz_r (f := 9) (r := 106) (l := 7200) (sA_rz Z) (by decide)
  have g42 : ∀ B : Nat → Nat → Int32, g_r (sA H B) 102 11 42 = some 120 := fun B => rz_r (f := 42) (r := 120) (l := 800) (sA_rz Z) (by decide)
  have g43 : ∀ B : Nat → Nat → Int32, g_r (sA H B) 102 11 43 = some 121 := fun B => rz_r (f := 43) (r := 121) (l := 800) (sA_rz Z) (by decide)
  have l106 : ∀ (B : Nat → Nat → Int32) k, k < 7200 → l_i (sA H B) 106 (nI k) = some (B 106 k) := fun B k hk => rz_l (f := 9) (r := 106) (l := 7200) (sA_rz Z) (by decide) hk (by omega)
  have tokP : A 106 (900 * p + 400 + a) = nI t := by
    rw [hA, show 900 * p + 400 + a = 900 * p + (400 + a) by omega]
    exact (RP.1.2.2.2.2 a ha).trans (by rw [et])
  have tokQ : A 106 (900 * q + 400 + b) = nI u := by
    rw [hA, show 900 * q + 400 + b = 900 * q + (400 + b) by omega]
    exact (RQ.1.2.2.2.2 b hb).trans (by rw [eu])
  have st : l_X11_tokensAlike_13 (f + 1) 102 (nI p) (nI q) (nI a) (nI b) x (sA H A) = if nI (t / 100) = (3 : Int32) then b_X11_tokensAlike_76 (l_X11_tokensAlike_13 f) 102 (nI p) (nI q) (nI a) (nI b) x (nI t) (nI u) (nI (t / 100)) (sA H A) else b_X11_tokensAlike_64 (l_X11_tokensAlike_13 f) 102 (nI p) (nI q) (nI a) (nI b) x (nI t) (nI u) (nI (t / 100)) (sA H A) := by
    show b_X11_tokensAlike_13 (l_X11_tokensAlike_13 f) 102 (nI p) (nI q) (nI a) (nI b) x (sA H A) = _
    unfold b_X11_tokensAlike_13
    rw [g9, Option.bind_some, mu, da, nI_add, l106 A _ (by omega), Option.bind_some, Option.bind_some, mu, da, nI_add, l106 A _ (by omega), Option.bind_some, tokP, tokQ, dv_h (by omega), Option.bind_some]
  -- the end of a step
  have e227 : ∀ (B : Nat → Nat → Int32), B 106 (900 * p + 400 + a) = nI t → b_X11_tokensAlike_227 (l_X11_tokensAlike_13 f) 102 (nI p) (nI q) (nI a) (nI b) 1 x (nI t) (sA H B) = nxt p q a b x t f (sA H B) := fun B hB => by
    have t5 : nI t = (705 : Int32) ↔ t = 705 := nI_eq (b := 705) (by omega) (by omega)
    have t6 : nI t = (706 : Int32) ↔ t = 706 := nI_eq (b := 706) (by omega) (by omega)
    have w254 : ∀ s1 : Int32, opx x t = x + s1 → b_X11_tokensAlike_254 (l_X11_tokensAlike_13 f) 102 (nI p) (nI q) (nI a) (nI b) 1 x s1 (sA H B) = nxt p q a b x t f (sA H B) := fun s1 e => by
      unfold b_X11_tokensAlike_254 nxt
      rw [if_neg n10, ← e, da, da]
      unfold b_X11_tokensAlike_268
      by_cases c : 0 < opx x t
      · rw [if_pos c, if_pos c]
      · rw [if_neg c, if_neg c]
        unfold b_X11_tokensAlike_273
        rw [g9, Option.bind_some, mu, da, nI_add, show nI (900 * p + 400 + (a + 1)) - (1 : Int32) = nI (900 * p + 400 + a) from by rw [← Nat.add_assoc, ← nI_1, Int32.add_sub_cancel], l106 B _ (by omega), Option.bind_some, hB]
        by_cases c6 : nI t = (706 : Int32)
        · rw [if_pos c6, if_pos c6]; exact ok_z_1
        · rw [if_neg c6, if_neg c6]
    unfold b_X11_tokensAlike_227
    by_cases c5 : t = 705
    · rw [if_pos (t5.mpr c5)]
      exact w254 1 (by unfold opx; rw [if_pos c5])
    · rw [if_neg (fun z => c5 (t5.mp z))]
      unfold b_X11_tokensAlike_241
      by_cases c6 : t = 706
      · rw [if_pos (t6.mpr c6)]
        exact w254 (-1) (by unfold opx; rw [if_neg c5, if_pos c6])
      · rw [if_neg (fun z => c6 (t6.mp z))]
        exact w254 0 (by unfold opx; rw [if_neg c5, if_neg c6])
  have z227 : b_X11_tokensAlike_227 (l_X11_tokensAlike_13 f) 102 (nI p) (nI q) (nI a) (nI b) 0 x (nI t) (sA H A) = some (0, sA H A) := by
    have w254 : ∀ s1 : Int32, b_X11_tokensAlike_254 (l_X11_tokensAlike_13 f) 102 (nI p) (nI q) (nI a) (nI b) 0 x s1 (sA H A) = some (0, sA H A) := fun s1 => by
      unfold b_X11_tokensAlike_254
      rw [if_pos rfl]; exact ok_z_0
    unfold b_X11_tokensAlike_227 b_X11_tokensAlike_241
    by_cases c5 : nI t = (705 : Int32)
    · rw [if_pos c5]; exact w254 1
    · rw [if_neg c5]
      by_cases c6 : nI t = (706 : Int32)
      · rw [if_pos c6]; exact w254 (-1)
      · rw [if_neg c6]; exact w254 0
  have q3 : nI (t / 100) = (3 : Int32) ↔ t / 100 = 3 := nI_eq (b := 3) (by omega) (by omega)
  have q4 : nI (t / 100) = (4 : Int32) ↔ t / 100 = 4 := nI_eq (b := 4) (by omega) (by omega)
  have q5 : nI (t / 100) = (5 : Int32) ↔ t / 100 = 5 := nI_eq (b := 5) (by omega) (by omega)
  rcases isn_d t with hn | hn
  · have st2 : l_X11_tokensAlike_13 (f + 1) 102 (nI p) (nI q) (nI a) (nI b) x (sA H A) = b_X11_tokensAlike_76 (l_X11_tokensAlike_13 f) 102 (nI p) (nI q) (nI a) (nI b) x (nI t) (nI u) (nI (t / 100)) (sA H A) := by
      rw [st]
      rcases hn with c | c | c
      · rw [if_pos (q3.mpr c)]
      · rw [if_neg (fun z => by have := q3.mp z; omega)]
        unfold b_X11_tokensAlike_64
        rw [if_pos (q4.mpr c)]
      · rw [if_neg (fun z => by have := q3.mp z; omega)]
        unfold b_X11_tokensAlike_64
        rw [if_neg (fun z => by have := q4.mp z; omega)]
        unfold b_X11_tokensAlike_70
        rw [if_pos (q5.mpr c)]
    have tp : tpn t u = [(t, u)] := if_pos hn
    -- not alike
    have e127 : b_X11_tokensAlike_127 (l_X11_tokensAlike_13 f) 102 (nI p) (nI q) (nI a) (nI b) x (nI t) (nI u) (nI (t / 100)) (sA H A) = some (0, sA H A) := by
      unfold b_X11_tokensAlike_127 b_X11_tokensAlike_128
      have e187 : b_X11_tokensAlike_187 (l_X11_tokensAlike_13 f) 102 (nI p) (nI q) (nI a) (nI b) 0 x (nI t) (nI u) (sA H A) = some (0, sA H A) := by
        unfold b_X11_tokensAlike_187
        rw [if_pos rfl]; exact z227
      by_cases c3 : nI (t / 100) = (3 : Int32)
      · rw [if_pos c3]
        unfold b_X11_tokensAlike_136
        rw [if_pos rfl]; exact e187
      · rw [if_neg c3]; exact e187
    have st3 : l_X11_tokensAlike_13 (f + 1) 102 (nI p) (nI q) (nI a) (nI b) x (sA H A) = if u / 100 = t / 100 then b_X11_tokensAlike_86 (l_X11_tokensAlike_13 f) 102 (nI p) (nI q) (nI a) (nI b) x (nI t) (nI u) (nI (t / 100)) (sA H A) else some (0, sA H A) := by
      rw [st2]
      unfold b_X11_tokensAlike_76
      rw [dv_h (by omega), Option.bind_some]
      by_cases c : u / 100 = t / 100
      · rw [if_pos (by rw [c]), if_pos c]
      · rw [if_neg (fun z => c ((nI_eq (by omega) (by omega)).mp z)), if_neg c]
        exact e127
    by_cases ck : u / 100 = t / 100
    · rw [if_pos ck] at st3
      have vn := vt.2 hn
      have vn' : VN u := vu.2 (by unfold isn; rw [ck]; exact hn)
      have l42 : l_i (sA H A) 120 (nI t) = some (A 120 t) := rz_l (f := 42) (r := 120) (l := 800) (sA_rz Z) (by decide) t8 (by omega)
      have l43 : l_i (sA H A) 121 (nI u) = some (A 121 u) := rz_l (f := 43) (r := 121) (l := 800) (sA_rz Z) (by decide) u8 (by omega)
      -- alike so far
      have e123 : okM ((t, u) :: M) → NSt (fun z => z) (up_2 (up_2 A 120 t (nI u)) 121 u (nI t)) 120 121 ((t, u) :: M) → l_X11_tokensAlike_13 (f + 1) 102 (nI p) (nI q) (nI a) (nI b) x (sA H A) = b_X11_tokensAlike_123 (l_X11_tokensAlike_13 f) 102 (nI p) (nI q) (nI a) (nI b) x (nI t) (nI u) (nI (t / 100)) (sA H A) → ((tm d d' t u ∧ okM (tpn t u ++ M)) ∧ ∃ A', NSt (fun z => z) A' 120 121 (tpn t u ++ M) ∧ (∀ r k, r ≠ 120 → r ≠ 121 → A' r k = A r k) ∧ l_X11_tokensAlike_13 (f + 1) 102 (nI p) (nI q) (nI a) (nI b) x (sA H A) = nxt p q a b x t f (sA H A')) ∨ (¬ (tm d d' t u ∧ okM (tpn t u ++ M)) ∧ l_X11_tokensAlike_13 (f + 1) 102 (nI p) (nI q) (nI a) (nI b) x (sA H A) = some (0, sA H A)) := fun o2 n2 e => by
        rw [tp]
        have e187 : b_X11_tokensAlike_187 (l_X11_tokensAlike_13 f) 102 (nI p) (nI q) (nI a) (nI b) 1 x (nI t) (nI u) (sA H A) = nxt p q a b x t f (sA H (up_2 (up_2 A 120 t (nI u)) 121 u (nI t))) := by
          unfold b_X11_tokensAlike_187
          rw [if_neg n10]
          unfold b_X11_tokensAlike_192
          rw [g42, Option.bind_some, show s_i (sA H A) 120 (nI t) (nI u) = some (sA H (up_2 A 120 t (nI u))) from rz_s (f := 42) (r := 120) (l := 800) (sA_rz Z) (by decide) t8 (by omega), Option.bind_some, g43, Option.bind_some, show s_i (sA H (up_2 A 120 t (nI u))) 121 (nI u) (nI t) = some (sA H (up_2 (up_2 A 120 t (nI u)) 121 u (nI t))) from rz_s (f := 43) (r := 121) (l := 800) (sA_rz Z) (by decide) u8 (by omega), Option.bind_some]
          exact e227 _ (by rw [u2 (by omega), u2 (by omega)]; exact tokP)
        have fr : ∀ r k, r ≠ 120 → r ≠ 121 → up_2 (up_2 A 120 t (nI u)) 121 u (nI t) r k = A r k := fun r k h1 h2 => by rw [u2 (by omega), u2 (by omega)]
        unfold b_X11_tokensAlike_123 b_X11_tokensAlike_128 at e
        by_cases c3 : t / 100 = 3
        · rw [if_pos (q3.mpr c3)] at e
          unfold b_X11_tokensAlike_136 at e
          rw [if_neg n10] at e
          unfold b_X11_tokensAlike_141 at e
          have tm10 : t % 100 < 6 := by unfold VN at vn; omega
          have um10 : u % 100 < 6 := by unfold VN at vn'; omega
          rw [g9, Option.bind_some, rm_h (by omega), Option.bind_some, mu, da, nI_add, l106 A _ (by omega), Option.bind_some, Option.bind_some, rm_h (by omega), Option.bind_some, mu, da, nI_add, l106 A _ (by omega), Option.bind_some, hA, hA, show hp_i H 106 (900 * p + 0 + t % 100) = pK d (t % 100) from RP.2 _ tm10, show hp_i H 106 (900 * q + 0 + u % 100) = pK d' (u % 100) from RQ.2 _ um10] at e
          by_cases ce : pK d (t % 100) = pK d' (u % 100)
          · rw [if_pos ce] at e
            left
            refine ⟨⟨Or.inl ⟨hn, ck, fun _ => ce⟩, o2⟩, _, n2, fr, ?_⟩
            rw [e]
            exact e187
          · rw [if_neg ce] at e
            right
            refine ⟨fun z => ?_, ?_⟩
            · rcases z.1 with y | y
              · exact ce (y.2.2 c3)
              · exact y.1 hn
            · rw [e]
              unfold b_X11_tokensAlike_184 b_X11_tokensAlike_185 b_X11_tokensAlike_187
              rw [if_pos rfl]; exact z227
        · rw [if_neg (fun z => c3 (q3.mp z))] at e
          left
          refine ⟨⟨Or.inl ⟨hn, ck, fun z => absurd z c3⟩, o2⟩, _, n2, fr, ?_⟩
          rw [e]
          exact e187
      have bad : ¬ okM ((t, u) :: M) → l_X11_tokensAlike_13 (f + 1) 102 (nI p) (nI q) (nI a) (nI b) x (sA H A) = b_X11_tokensAlike_127 (l_X11_tokensAlike_13 f) 102 (nI p) (nI q) (nI a) (nI b) x (nI t) (nI u) (nI (t / 100)) (sA H A) → ((tm d d' t u ∧ okM (tpn t u ++ M)) ∧ ∃ A', NSt (fun z => z) A' 120 121 (tpn t u ++ M) ∧ (∀ r k, r ≠ 120 → r ≠ 121 → A' r k = A r k) ∧ l_X11_tokensAlike_13 (f + 1) 102 (nI p) (nI q) (nI a) (nI b) x (sA H A) = nxt p q a b x t f (sA H A')) ∨ (¬ (tm d d' t u ∧ okM (tpn t u ++ M)) ∧ l_X11_tokensAlike_13 (f + 1) 102 (nI p) (nI q) (nI a) (nI b) x (sA H A) = some (0, sA H A)) := fun o2 e => Or.inr ⟨fun z => o2 (by rw [tp] at z; exact z.2), e.trans e127⟩
      have e86 : l_X11_tokensAlike_13 (f + 1) 102 (nI p) (nI q) (nI a) (nI b) x (sA H A) = if A 120 t = -1 then (if A 121 u = -1 then b_X11_tokensAlike_123 (l_X11_tokensAlike_13 f) 102 (nI p) (nI q) (nI a) (nI b) x (nI t) (nI u) (nI (t / 100)) (sA H A) else b_X11_tokensAlike_127 (l_X11_tokensAlike_13 f) 102 (nI p) (nI q) (nI a) (nI b) x (nI t) (nI u) (nI (t / 100)) (sA H A)) else (if A 120 t = nI u then b_X11_tokensAlike_123 (l_X11_tokensAlike_13 f) 102 (nI p) (nI q) (nI a) (nI b) x (nI t) (nI u) (nI (t / 100)) (sA H A) else b_X11_tokensAlike_127 (l_X11_tokensAlike_13 f) 102 (nI p) (nI q) (nI a) (nI b) x (nI t) (nI u) (nI (t / 100)) (sA H A)) := by
        rw [st3]
        unfold b_X11_tokensAlike_86 b_X11_tokensAlike_97 b_X11_tokensAlike_108 b_X11_tokensAlike_111
        rw [g42, Option.bind_some, l42, Option.bind_some, g43, Option.bind_some, l43, Option.bind_some, Option.bind_some, l42, Option.bind_some]
      rcases ns_step (φ := fun z => z) (fun _ _ _ _ z => z) (fun a va => by unfold VN at va; show a < 1000; omega) (show (120 : Nat) ≠ 121 by decide) N O vn vn' with ⟨w1, w2, w3⟩ | ⟨w1, w2, w3⟩ | ⟨w1, w2, w3⟩ | ⟨w1, w2, w3, w4⟩
      · have w1 : A 120 t = nI u := w1
        refine e123 w2 ?_ (by rw [e86, if_neg (by rw [w1]; exact nI_ne1 (by omega)), if_pos w1])
        obtain ⟨-, -, x3, x4⟩ := w3.1 (t, u) (List.mem_cons_self ..)
        refine ns_cg (fun k => ⟨?_, ?_⟩) w3
        · rw [u2 (by omega)]
          by_cases c : k = t
          · rw [c, u2s]; exact x3.symm
          · rw [u2 (by omega)]
        · by_cases c : k = u
          · rw [c, u2s]; exact x4.symm
          · rw [u2 (by omega), u2 (by omega)]
      · exact bad w3 (by rw [e86, if_neg w2, if_neg w1])
      · exact bad w3 (by rw [e86, if_pos w1, if_neg w2])
      · exact e123 w3 w4 (by rw [e86, if_pos w1, if_pos w2])
    · rw [if_neg ck] at st3
      right
      refine ⟨fun z => ?_, st3⟩
      rcases z.1 with y | y
      · exact ck y.2.1
      · exact y.1 hn
  · have tp : tpn t u = [] := if_neg hn
    have st2 : l_X11_tokensAlike_13 (f + 1) 102 (nI p) (nI q) (nI a) (nI b) x (sA H A) = b_X11_tokensAlike_213 (l_X11_tokensAlike_13 f) 102 (nI p) (nI q) (nI a) (nI b) x (nI t) (nI u) (sA H A) := by
      rw [st, if_neg (fun z => hn (Or.inl (q3.mp z)))]
      unfold b_X11_tokensAlike_64
      rw [if_neg (fun z => hn (Or.inr (Or.inl (q4.mp z))))]
      unfold b_X11_tokensAlike_70
      rw [if_neg (fun z => hn (Or.inr (Or.inr (q5.mp z))))]
    rw [tp, List.nil_append]
    unfold b_X11_tokensAlike_213 at st2
    by_cases c : t = u
    · left
      rw [if_pos (by rw [c])] at st2
      exact ⟨⟨Or.inr ⟨hn, c⟩, O⟩, A, N, fun _ _ _ _ => rfl, st2.trans (e227 A tokP)⟩
    · right
      rw [if_neg (fun z => c ((nI_eq (by omega) (by omega)).mp z))] at st2
      refine ⟨fun z => ?_, st2.trans z227⟩
      rcases z.1 with y | y
      · exact hn y.1
      · exact c y.2
end
