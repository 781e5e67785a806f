/-! ===== before ===== -/
theorem and_2p (n i : Nat) : n &&& 2 ^ i = (n.testBit i).toNat * 2 ^ i := by
  apply Nat.eq_of_testBit_eq
  intro j
  rw [Nat.testBit_and, Nat.testBit_two_pow]
  cases hb : n.testBit i
  · rw [show Bool.toNat false * 2 ^ i = 0 from Nat.zero_mul _, Nat.zero_testBit]
    by_cases e : i = j
    · rw [← e, hb]; rfl
    · rw [decide_eq_false e, Bool.and_false]
  · rw [show Bool.toNat true * 2 ^ i = 2 ^ i from Nat.one_mul _, Nat.testBit_two_pow]
    by_cases e : i = j
    · rw [← e, hb]; rfl
    · rw [decide_eq_false e, Bool.and_false]
theorem sh_1 : ∀ k, k < 64 → ((1 : Int64) <<< ((nI k).toInt64 &&& 63)).toBitVec.toNat = 2 ^ k := by decide +kernel
theorem lb_64 {x : Int64} {k : Nat} (hk : k < 64) : lg_cmp (x &&& ((1 : Int64) <<< ((nI k).toInt64 &&& 63))) (0 : Int64) = 0 ↔ ¬ bit1 x k := by
  have e : (x &&& ((1 : Int64) <<< ((nI k).toInt64 &&& 63))).toBitVec.toNat = (x.toBitVec.toNat.testBit k).toNat * 2 ^ k := by
    show (x.toBitVec &&& ((1 : Int64) <<< ((nI k).toInt64 &&& 63)).toBitVec).toNat = _
    rw [BitVec.toNat_and, sh_1 k hk, and_2p]
  have f : fd x k 1 = (x.toBitVec.toNat.testBit k).toNat := by
    unfold fd
    rw [Nat.pow_one, Nat.toNat_testBit]
  rw [lg0]
  unfold bit1
  rw [f]
  cases hb : x.toBitVec.toNat.testBit k
  · rw [hb] at e
    refine ⟨fun _ => by decide, fun _ => ?_⟩
    apply Int64.toBitVec_inj.mp
    apply BitVec.eq_of_toNat_eq
    rw [e]
    show 0 * 2 ^ k = _
    rw [Nat.zero_mul]; rfl
  · rw [hb] at e
    refine ⟨fun z => ?_, fun z => absurd rfl z⟩
    rw [z] at e
    have e' : (0 : Nat) = 1 * 2 ^ k := e
    have := Nat.two_pow_pos k
    omega
theorem mk8_t {x : Int32} {q : Nat → Prop} {k : Nat} (M : mk8 x q) (hk : k < 3) : x &&& nI (2 ^ k) = 0 ↔ ¬ q k := by
  obtain ⟨b, b1, b2, b3⟩ := M
  have p2 : 2 ^ k ≤ 2 ^ 2 := Nat.pow_le_pow_right (by omega) (by omega)
  rw [b2, nI_and (by omega) (by omega), and_2p, show (0 : Int32) = nI 0 from rfl]
  rw [← b3 k (by omega)]
  have := Nat.two_pow_pos k
  cases hb : b.testBit k
  · rw [show Bool.toNat false * 2 ^ k = 0 from Nat.zero_mul _]
    exact ⟨fun _ => by decide, fun _ => rfl⟩
  · rw [show Bool.toNat true * 2 ^ k = 2 ^ k from Nat.one_mul _, nI_eq (by omega) (by omega)]
    exact ⟨fun z => by omega, fun z => absurd rfl z⟩
section
variable {h h' h2 H : AH} {g g' : SG} {m p pr o : Nat} {d : PD} {a b1 b2 : Int32} {A : Nat → Nat → Prop}
theorem en_in {s : AS} (P : PDk d) (E : EN d o s) : xa_in (KP (pR d)) o s := by
  have W := kp_wf (pdk_kw P)
  obtain ⟨q, q1, -⟩ := E
  exact (xa_ph_in W q _ _ (xa_in_0 W) xa_rp_0 q1).1
/-- a search of the reference that fills races or before of place p -/
theorem gr_rb (G : GR H g) (hp : p < 8) (hd : sD g p = some d) (F : FRi A H h') (hA : ∀ r k, A r k → r = 109 ∨ r = 117 ∨ (r = 115 ∧ k = p) ∨ (r = 116 ∧ 64 * p ≤ k ∧ k < 64 * p + 64) ∨ (r = 118 ∧ k = p) ∨ (r = 119 ∧ 64 * p ≤ k ∧ k < 64 * p + 64) ∨ (r = 102 ∧ (k = 26 ∨ k = 28)))
    (c2 : hp_i h' 115 p = -1 ∨ ∃ f : Nat → Int32, hp_i h' 115 p = nI (RLf f 64).length ∧ (∀ k, k < (RLf f 64).length → hp_i h' 116 (64 * p + k) = nI ((RLf f 64).getD k 0)) ∧ ∀ k, k < 64 → (¬ f k = 0 ↔ ∃ i j, i < j ∧ j < (pA d).length ∧ k = 8 * i + j ∧ ∃ z, EN d 0 z ∧ raC (fun k => hp_i h' 106 (900 * p + k)) z i j))
    (c3 : hp_i h' 118 p = 0 ∨ (hp_i h' 118 p = 1 ∧ ∀ i j, i < (pA d).length → j < (pA d).length → mk8 (hp_i h' 119 (64 * p + 8 * i + j)) (bqE (KP (pR d)) (Vk (pK d)) i j))) : GR h' g ∧ RLF H h' ∧ ∀ k, k ≠ 26 → k ≠ 28 → hp_i h' 102 k = hp_i H 102 k := by
  have e := fri_sA F
  have K := F.2.2.2.2.2.2
  have kk : ∀ r k, r ≠ 109 → r ≠ 117 → ¬ (r = 115 ∧ k = p) → ¬ (r = 116 ∧ 64 * p ≤ k ∧ k < 64 * p + 64) → ¬ (r = 118 ∧ k = p) → ¬ (r = 119 ∧ 64 * p ≤ k ∧ k < 64 * p + 64) → ¬ (r = 102 ∧ (k = 26 ∨ k = 28)) → hp_i h' r k = hp_i H r k := fun r k h1 h2 h3 h4 h5 h6 h7 => K r k (fun z => by
    rcases hA r k z with z | z | z | z | z | z | z
    · exact h1 z
    · exact h2 z
    · exact h3 z
    · exact h4 z
    · exact h5 z
    · exact h6 z
    · exact h7 z)
  obtain ⟨RP, RK, PK⟩ := r_dd G hp hd
  refine ⟨?_, ⟨F.1, F.2.1, F.2.2.1, F.2.2.2.1, F.2.2.2.2.1, F.2.2.2.2.2.1, fun r k hr => kk r k (by omega) (by omega) (by omega) (by omega) (by omega) (by omega) (by omega)⟩, fun k h1 h2 => kk 102 k (by omega) (by omega) (by omega) (by omega) (by omega) (by omega) (by omega)⟩
  have sr : ∀ r, r = 106 ∨ r = 110 ∨ r = 111 → hp_i h' r = hp_i H r := fun r hr => funext (fun k => kk r k (by omega) (by omega) (by omega) (by omega) (by omega) (by omega) (by omega))
  have RKn : RCk h' p d := by
    refine ⟨?_, c2, c3⟩
    unfold LI
    rw [sr 110 (by omega), sr 111 (by omega)]
    exact RK.1
  have RPn : RPl h' p d := by
    unfold RPl
    rw [sr 106 (by omega)]
    exact RP
  rw [e]
  refine gr_P G hp (fun q hq ne => ⟨⟨fun k _ => kk _ _ (by omega) (by omega) (by omega) (by omega) (by omega) (by omega) (by omega), fun o' ho' => kk _ _ (by omega) (by omega) (by omega) (by omega) (by omega) (by omega) (by omega), fun o' k ho' hk => kk _ _ (by omega) (by omega) (by omega) (by omega) (by omega) (by omega) (by omega), kk _ _ (by omega) (by omega) (by omega) (by omega) (by omega) (by omega) (by omega), fun k _ => kk _ _ (by omega) (by omega) (by omega) (by omega) (by omega) (by omega) (by omega), kk _ _ (by omega) (by omega) (by omega) (by omega) (by omega) (by omega) (by omega), fun k _ => kk _ _ (by omega) (by omega) (by omega) (by omega) (by omega) (by omega) (by omega)⟩, rfl⟩) ?_ (Or.inr ⟨d, hd, RPn, RKn, PK⟩)
  obtain ⟨-, ⟨⟨a1, a2⟩, ⟨b1, b2⟩, ⟨c1, c2⟩, dd, ⟨e1, e2⟩, f, l, l1, l2⟩, -⟩ := G
  have uu : ∀ r k, (r = 103 ∨ r = 104 ∨ r = 112 ∨ r = 113) ∨ (r = 102 ∧ k ≠ 26 ∧ k ≠ 28) → hp_i h' r k = hp_i H r k := fun r k hr => kk r k (by omega) (by omega) (by omega) (by omega) (by omega) (by omega) (by omega)
  exact ⟨⟨(uu _ _ (by omega)).trans a1, fun k hk => (uu _ _ (by omega)).trans (a2 k hk)⟩, ⟨(uu _ _ (by omega)).trans b1, (uu _ _ (by omega)).trans b2⟩, ⟨(uu _ _ (by omega)).trans c1, fun k hk => (uu _ _ (by omega)).trans (c2 k hk)⟩, fun l hl => (uu _ _ (by omega)).trans (dd l hl), ⟨(uu _ _ (by omega)).trans e1, fun k hk => (uu _ _ (by omega)).trans (e2 k hk)⟩, (uu _ _ (by omega)).trans f, l, l1, (uu _ _ (by omega)).trans l2⟩
theorem r_bfx {i j : Nat} (G : GR H g) (hp : p < 8) (hd : sD g p = some d) (h24 : hp_i H 102 24 = nI p) (t0 : hp_i H 102 0 = 0) (hi : i < (pA d).length) (hj : j < (pA d).length) : ∃ H3, b_X11_before_49 102 (nI i) (nI j) H = b_X11_before_109 102 (nI i) (nI j) H3 ∧ GR H3 g ∧ RLF H H3 ∧ hp_i H3 102 24 = nI p ∧ hp_i H3 102 0 = 0 ∧ mk8 (hp_i H3 119 (64 * p + 8 * i + j)) (bqE (KP (pR d)) (Vk (pK d)) i j) := by
  obtain ⟨RP, RK, PK⟩ := r_dd G hp hd
  have e0 : b_X11_before_49 102 (nI i) (nI j) H = if hp_i H 118 p = 0 then b_X11_before_61 102 (nI i) (nI j) H else b_X11_before_109 102 (nI i) (nI j) H := by
    unfold b_X11_before_49
    rw [rz_r (f := 40) (r := 118) (l := 8) G.1 (by decide), Option.bind_some, rz_g G.1, Option.bind_some, h24, rz_l (f := 40) (r := 118) (l := 8) G.1 (by decide) hp (by omega), Option.bind_some]
  by_cases c : hp_i H 118 p = 0
  · obtain ⟨H3, x1, x2, x3, x4⟩ := r_before (s := p) (a2 := nI i) (a3 := nI j) (pr_0 RP PK) G.1 hp h24 G.2.1.2.2.2.2.2.1 (fun k _ => rfl)
    have K := x2.2.2.2.2.2.2
    have sr : ∀ r, r = 106 ∨ r = 115 ∨ r = 116 → hp_i H3 r = hp_i H r := fun r hr => funext (fun k => K r k (fun z => by
      unfold ABf A119 at z
      omega))
    obtain ⟨y1, y2, y3⟩ := gr_rb G hp hd x2 (fun r k z => by
      unfold ABf A119 at z
      omega) (by rw [sr 106 (by omega), sr 115 (by omega), sr 116 (by omega)]; exact RK.2.1) (Or.inr ⟨x4, x3⟩)
    refine ⟨H3, by rw [e0, if_pos c]; exact x1, y1, y2, (y3 24 (by omega) (by omega)).trans h24, (y3 0 (by omega) (by omega)).trans t0, x3 i j hi hj⟩
  · refine ⟨H, by rw [e0, if_neg c], G, rlf_rf, h24, t0, ?_⟩
    exact (RK.2.2.resolve_left c).2 i j hi hj
theorem s_before (G : GC h g m) (R : GR h g) (hm : m ≤ 600) : TSP Int32.toInt64 (f_L_before 64 a b1 b2 125) (f_X11_before 102 a b1 b2) h m := by
  refine tp_before G R (fun p d hp ha hd C h0 => ?_)
  have GHh := G.2.1
  have C' := C
  obtain ⟨⟨a1, a2⟩, ⟨d1, d2⟩, -, -, ⟨ek, P⟩, -⟩ := C
  have b8 := P.1.2.2.1.2.1
  have g12 : g_i h (hp_r h (hp_r h 66 p) 0) 0 12 = some (nI (pA d).length) := by
    have : hp_i h (hp_r h (hp_r h 66 p) 0) 12 = pR d 10 12 := by rw [← ek]; rfl
    exact (if_pos (sr_ok d1 d2)).trans (by rw [this, P.2.1.1.2.2.1])
  have cC : f_X10_before 64 (nI p) b1 b2 h = if b1 < 0 then b_X10_before_42 h else b_X10_before_21 64 b1 b2 (hp_r h 66 p) (nI (pA d).length) h := by
    unfold f_X10_before b_X10_before_0
    rw [ov64 GHh, Option.bind_some, c_pa GHh hp h0, Option.bind_some, show g_r h (hp_r h 66 p) 5 0 = some (hp_r h (hp_r h 66 p) 0) from if_pos (sr_ok a1 a2), Option.bind_some, g12, Option.bind_some]
  have o6 : ∀ H2, GR H2 g → hp_i H2 102 24 = nI p → f_X11_of 102 (6 : Int32) H2 = some (nI (pA d).length, H2) := fun H2 R2 h24 => (r_of (k := 6) R2 hp h24 (by omega)).trans (congrArg (fun z => some (z, H2)) (r_dd R2 hp hd).1.1.1.1)
  have bad : f_X10_before 64 (nI p) b1 b2 h = some (-1, h) → (∀ H2, GR H2 g → hp_i H2 102 24 = nI p → b_X11_before_10 102 b1 b2 H2 = some (-1, H2)) → ∃ v h1 g', f_X10_before 64 (nI p) b1 b2 h = some (v, h1) ∧ GC h1 g' (m + 1) ∧ CLF h h1 ∧ ∀ H2, GR H2 g → hp_i H2 102 24 = nI p → hp_i H2 102 0 = 0 → ∃ H3, b_X11_before_10 102 b1 b2 H2 = some (v, H3) ∧ GR H3 g' ∧ RLF H2 H3 ∧ hp_i H3 102 0 = 0 :=
    fun e1 e2 => ⟨-1, h, g, e1, gc_up G, clf_rf, fun H2 R2 h24 t0 => ⟨H2, e2 H2 R2 h24, R2, rlf_rf, t0⟩⟩
  rcases rd_cs (a := b1) (M := (pA d).length) (by omega) with ⟨i, i1, rfl, e⟩ | ⟨cb, e⟩
  · have r26 : ∀ H2, GR H2 g → hp_i H2 102 24 = nI p → b_X11_before_10 102 (nI i) b2 H2 = b_X11_before_26 102 (nI i) b2 H2 := fun H2 R2 h24 => by
      unfold b_X11_before_10
      rw [rz_v R2.1, Option.bind_some, o6 H2 R2 h24, Option.bind_some, e, Option.bind_some, if_neg n10]
    have c27 : f_X10_before 64 (nI p) (nI i) b2 h = b_X10_before_27 64 (nI i) b2 (hp_r h 66 p) (nI (pA d).length) h := by
      rw [cC, if_neg (nI_pos (by omega))]
      unfold b_X10_before_21
      rw [if_neg (nI_ge i1 (by omega))]
    rcases rd_cs (a := b2) (M := (pA d).length) (by omega) with ⟨j, j1, rfl, e'⟩ | ⟨cb, e'⟩
    · have r42 : ∀ H2, GR H2 g → hp_i H2 102 24 = nI p → b_X11_before_10 102 (nI i) (nI j) H2 = b_X11_before_42 102 (nI i) (nI j) H2 := fun H2 R2 h24 => by
        rw [r26 H2 R2 h24]
        unfold b_X11_before_26
        rw [rz_v R2.1, Option.bind_some, o6 H2 R2 h24, Option.bind_some, e', Option.bind_some, if_neg n10]
      have c37 : f_X10_before 64 (nI p) (nI i) (nI j) h = b_X10_before_37 64 (nI i) (nI j) (hp_r h 66 p) h := by
        rw [c27]
        unfold b_X10_before_27 b_X10_before_31
        rw [if_neg (nI_pos (by omega)), if_neg (nI_ge j1 (by omega))]
      by_cases ij : i = j
      · subst ij
        refine bad ?_ (fun H2 R2 h24 => ?_)
        · rw [c37]
          unfold b_X10_before_37
          rw [if_pos rfl]; rfl
        · rw [r42 H2 R2 h24]
          unfold b_X11_before_42
          rw [if_pos rfl]; rfl
      · have nij : ¬ nI i = nI j := fun z => ij ((nI_eq (by omega) (by omega)).mp z)
        obtain ⟨r, h1, x1, x2, x3, x4, x5, x6, x7⟩ := c_oof (o := 2) (gc0_of G) G.2.2.2.1 R.1 hp hd (by omega) (by omega)
        have C1 := gp_cp x3 hp hd
        rw [x5] at C1
        have r9 : hp_r h1 (hp_r h 66 p) 9 ≠ 0 := by
          have y1 : hp_r h1 (hp_r h 66 p) 9 = r := x7
          have := x6.1.1
          omega
        obtain ⟨k2, k3, k4⟩ := C1.2.2.2.2.2.2.2.1 r9 i j (by omega) (by omega)
        have ok1 := sr_ok C1.1.1 C1.1.2
        have gj : ∀ k, g_j h1 (hp_r h 66 p) 5 k = some (hp_j h1 (hp_r h 66 p) k) := fun k => if_pos ok1
        have q0 : bit1 (hp_j h1 (hp_r h 66 p) 2) (8 * j + i) ↔ bqE (KP (pR d)) (Vk (pK d)) i j 0 := by
          rw [k2]
          constructor
          · rintro ⟨s, s1, s2⟩
            exact Or.inl ⟨rfl, s, s1, s2⟩
          · rintro (⟨_, s, s1, s2⟩ | ⟨z, _⟩ | ⟨z, _⟩)
            · exact ⟨s, s1, s2⟩
            · omega
            · omega
        have q1 : bit1 (hp_j h1 (hp_r h 66 p) 3) (8 * j + i) ↔ bqE (KP (pR d)) (Vk (pK d)) i j 1 := by
          rw [k3]
          constructor
          · rintro ⟨s, s1, s2⟩
            have := (en_in P s1).2.2.1 j i s2
            exact Or.inr (Or.inl ⟨rfl, s, s1, this.2, this.1, s2⟩)
          · rintro (⟨z, _⟩ | ⟨_, s, s1, s2, s3, s4⟩ | ⟨z, _⟩)
            · omega
            · exact ⟨s, s1, s4⟩
            · omega
        have q2 : bit1 (hp_j h1 (hp_r h 66 p) 4) (8 * j + i) ↔ bqE (KP (pR d)) (Vk (pK d)) i j 2 := by
          rw [k4]
          constructor
          · rintro ⟨s, s1, s2, s3⟩
            exact Or.inr (Or.inr ⟨rfl, s, s1, s2.1, s2.2, s3⟩)
          · rintro (⟨z, _⟩ | ⟨z, _⟩ | ⟨_, s, s1, s2, s3, s4⟩)
            · omega
            · omega
            · exact ⟨s, s1, ⟨s2, s3⟩, s4⟩
        generalize hB : bqE (KP (pR d)) (Vk (pK d)) i j = B at *
        have cc : f_X10_before 64 (nI p) (nI i) (nI j) h = if lg_cmp (hp_j h1 (hp_r h 66 p) 2 &&& ((1 : Int64) <<< ((nI (8 * j + i)).toInt64 &&& 63))) (0 : Int64) = 0 then b_X10_before_75 h1 else b_X10_before_77 (hp_r h 66 p) ((1 : Int64) <<< ((nI (8 * j + i)).toInt64 &&& 63)) h1 := by
          rw [c37]
          unfold b_X10_before_37 b_X10_before_44
          rw [if_neg nij, ov64 GHh, Option.bind_some, show f_X10_outcomesOf 64 (hp_r h 66 p) (2 : Int32) h = some (r, h1) from x1, Option.bind_some, gj, Option.bind_some, mu, nI_add]
        have fin : ∀ v, f_X10_before 64 (nI p) (nI i) (nI j) h = some (v, h1) → (∀ H3 x, mk8 x B → (if (x &&& (1 : Int32)) = 0 then b_X11_before_137 H3 else b_X11_before_141 x H3) = some (v, H3)) → ∃ v h1 g', f_X10_before 64 (nI p) (nI i) (nI j) h = some (v, h1) ∧ GC h1 g' (m + 1) ∧ CLF h h1 ∧ ∀ H2, GR H2 g → hp_i H2 102 24 = nI p → hp_i H2 102 0 = 0 → ∃ H3, b_X11_before_10 102 (nI i) (nI j) H2 = some (v, H3) ∧ GR H3 g' ∧ RLF H2 H3 ∧ hp_i H3 102 0 = 0 := fun v e1 e2 => by
          refine ⟨v, h1, g, e1, gc0_to x2 x3 (by omega) (by omega) (by omega), x4, fun H2 R2 h24 t0 => ?_⟩
          obtain ⟨H3, y1, y2, y3, y4, y5, y6⟩ := r_bfx R2 hp hd h24 t0 i1 j1
          refine ⟨H3, ?_, y2, y3, y5⟩
          rw [r42 H2 R2 h24]
          unfold b_X11_before_42
          rw [if_neg nij, y1]
          unfold b_X11_before_109
          rw [rz_r (f := 41) (r := 119) (l := 512) y2.1 (by decide), Option.bind_some, rz_g y2.1, Option.bind_some, y4, mu, mu, nI_add, nI_add, rz_l (f := 41) (r := 119) (l := 512) y2.1 (by decide) (by omega) (by omega), Option.bind_some]
          exact e2 H3 _ (by rw [← hB]; exact y6)
        have t1 : ∀ x, mk8 x B → ((x &&& (1 : Int32)) = 0 ↔ ¬ B 0) := fun x M => mk8_t (k := 0) M (by omega)
        have t2 : ∀ x, mk8 x B → ((x &&& (2 : Int32)) = 0 ↔ ¬ B 1) := fun x M => mk8_t (k := 1) M (by omega)
        have t4 : ∀ x, mk8 x B → ((x &&& (4 : Int32)) = 0 ↔ ¬ B 2) := fun x M => mk8_t (k := 2) M (by omega)
        have l0 : ∀ x, lg_cmp (x &&& ((1 : Int64) <<< ((nI (8 * j + i)).toInt64 &&& 63))) (0 : Int64) = 0 ↔ ¬ bit1 x (8 * j + i) := fun x => lb_64 (by omega)
        by_cases B0 : B 0
        · rw [if_neg (fun z => (l0 _).mp z (q0.mpr B0))] at cc
          unfold b_X10_before_77 at cc
          rw [gj, Option.bind_some] at cc
          by_cases B2 : B 2
          · rw [if_neg (fun z => (l0 _).mp z (q2.mpr B2))] at cc
            unfold b_X10_before_92 at cc
            rw [gj, Option.bind_some] at cc
            by_cases B1 : B 1
            · rw [if_neg (fun z => (l0 _).mp z (q1.mpr B1))] at cc
              refine fin 2 cc (fun H3 x M => ?_)
              rw [if_neg (fun z => (t1 x M).mp z B0)]
              unfold b_X11_before_141 b_X11_before_152
              rw [if_neg (fun z => (t4 x M).mp z B2), if_neg (fun z => (t2 x M).mp z B1)]; rfl
            · rw [if_pos ((l0 _).mpr (fun z => B1 (q1.mp z)))] at cc
              refine fin 3 cc (fun H3 x M => ?_)
              rw [if_neg (fun z => (t1 x M).mp z B0)]
              unfold b_X11_before_141 b_X11_before_152
              rw [if_neg (fun z => (t4 x M).mp z B2), if_pos ((t2 x M).mpr B1)]; rfl
          · rw [if_pos ((l0 _).mpr (fun z => B2 (q2.mp z)))] at cc
            refine fin 1 cc (fun H3 x M => ?_)
            rw [if_neg (fun z => (t1 x M).mp z B0)]
            unfold b_X11_before_141
            rw [if_pos ((t4 x M).mpr B2)]; rfl
        · rw [if_pos ((l0 _).mpr (fun z => B0 (q0.mp z)))] at cc
          refine fin 0 cc (fun H3 x M => ?_)
          rw [if_pos ((t1 x M).mpr B0)]; rfl
    · refine bad ?_ (fun H2 R2 h24 => ?_)
      · rw [c27]
        unfold b_X10_before_27
        by_cases c0 : b2 < 0
        · rw [if_pos c0]; rfl
        · rw [if_neg c0]
          obtain ⟨k, k1, k2, rfl⟩ := cb.resolve_left c0
          unfold b_X10_before_31
          rw [if_pos (nI_le k1 k2)]; rfl
      · rw [r26 H2 R2 h24]
        unfold b_X11_before_26
        rw [rz_v R2.1, Option.bind_some, o6 H2 R2 h24, Option.bind_some, e', Option.bind_some, if_pos rfl]; rfl
  · refine bad ?_ (fun H2 R2 h24 => ?_)
    · rw [cC]
      by_cases c0 : b1 < 0
      · rw [if_pos c0]; rfl
      · rw [if_neg c0]
        obtain ⟨k, k1, k2, rfl⟩ := cb.resolve_left c0
        unfold b_X10_before_21
        rw [if_pos (nI_le k1 k2)]; rfl
    · unfold b_X11_before_10
      rw [rz_v R2.1, Option.bind_some, o6 H2 R2 h24, Option.bind_some, e, Option.bind_some, if_pos rfl]; rfl
end
