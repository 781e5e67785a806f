/-! ===== look, kind, action ===== -/
def bsm (a : Int32) : Nat → Int32 → Int32
  | 0, x => x
  | j + 1, x => bsm a j (x + ((a >>> (nI (8 - (j + 1)) &&& 31)) &&& (1 : Int32)))
theorem bits_l {a : Int32} {h : AH} : ∀ j f x, j ≤ 8 → j < f → l_X11_bits_4 f a x (nI (8 - j)) h = some (bsm a j x, h) := by
  intro j
  induction j with
  | zero =>
    intro f x _ hf
    obtain ⟨f, rfl⟩ : ∃ f', f = f' + 1 := ⟨f - 1, by omega⟩
    show b_X11_bits_4 (l_X11_bits_4 f) a x (nI 8) h = _
    unfold b_X11_bits_4
    rw [if_pos (show (8 : Int32) ≤ nI 8 by decide)]
    rfl
  | succ j ih =>
    intro f x hj hf
    obtain ⟨f, rfl⟩ : ∃ f', f = f' + 1 := ⟨f - 1, by omega⟩
    show b_X11_bits_4 (l_X11_bits_4 f) a x (nI (8 - (j + 1))) h = _
    unfold b_X11_bits_4
    rw [if_neg (show ¬ (8 : Int32) ≤ nI (8 - (j + 1)) from nI_ge (b := 8) (by omega) (by omega))]
    unfold b_X11_bits_10
    rw [da, show 8 - (j + 1) + 1 = 8 - j by omega, ih f _ (by omega) (by omega)]
    rfl
theorem bsm_6 : ∀ w, w < 64 → bsm (nI w) 8 0 = nI (pc6 w) := by decide
theorem bits_6 {w : Nat} {h : AH} (hw : w < 64) : f_X11_bits (nI w) h = some (nI (pc6 w), h) := by
  unfold f_X11_bits b_X11_bits_0
  rw [show l_X11_bits_4 fu_ (nI w) (0 : Int32) (0 : Int32) h = _ from bits_l 8 fu_ 0 (by omega) (by unfold fu_; omega), bsm_6 w hw]
section
variable {h h1 H : AH} {g g' : SG} {m p : Nat} {a b c : Int32} {d : PD}
theorem sj125 {x : Int64} (G : GH h) : s_j h 125 (0 : Int32) x = some (st_j h 125 0 x) := by
  have o := G.2.2.2.2.2.2.1.1
  have l := G.2.2.2.2.2.2.1.2
  have e : s_j h 125 (nI 0) x = some (st_j h 125 (nI 0).toNatClampNeg x) := if_pos ⟨o, nI_pos (by omega), by rw [nI_clamp (by omega)]; omega⟩
  rw [show (0 : Int32) = nI 0 from rfl, e, nI_clamp (by omega)]
theorem ov64 (G : GH h) : ok_v h 64 10 = some () := if_pos G.1.1
/-- declaredCells -/
theorem c_dcl {pr : Nat} (C : CPl h pr d) : f_X5_declaredCells pr h = some (nI (dcn (pK d)), h) := by
  obtain ⟨⟨a1, a2⟩, -, -, ⟨e1, e2, e3, e4⟩, -⟩ := C
  have o1 := sr_ok a1 a2
  obtain ⟨w, w1, w2, w3⟩ := e_cok (k := -1) (kd := pK d) (g := h) (pr := pr) o1 (sr_ok e1 e2) e3 e4
  have f : ∀ c, c < 6 → (if w.testBit c then 1 else 0) + dcf (pK d) c = 1 := fun c hc => by
    have := w3 c hc
    unfold dcf
    by_cases q : pK d c = -1
    · rw [if_pos q, if_pos (this.mpr q)]
    · rw [if_neg q, if_neg (fun z => q (this.mp z))]
  have f0 := f 0 (by omega)
  have f1 := f 1 (by omega)
  have f2 := f 2 (by omega)
  have f3 := f 3 (by omega)
  have f4 := f 4 (by omega)
  have f5 := f 5 (by omega)
  have e : pc6 w + dcn (pK d) = 6 := by
    rw [dcn_e]
    unfold pc6
    omega
  unfold f_X5_declaredCells b_X5_declaredCells_0
  rw [show ok_v h pr 5 = some () from if_pos o1, Option.bind_some, show f_X5_cellsOfKind pr (-1 : Int32) h = _ from w2, Option.bind_some, bc_6 w1, Option.bind_some]
  congr 2
  show (6 : Int32) - nI (pc6 w) = nI (dcn (pK d))
  have : (6 : Int32) = nI (dcn (pK d)) + nI (pc6 w) := by rw [nI_add, Nat.add_comm, e]; rfl
  rw [this, Int32.add_sub_cancel]
/-- the reference's program at p -/
theorem r_of {k : Nat} (R : GR H g) (hp : p < 8) (h24 : hp_i H 102 24 = nI p) (hk : k < 900) : f_X11_of 102 (nI k) H = some (hp_i H 106 (900 * p + k), H) := by
  unfold f_X11_of b_X11_of_0
  rw [rz_r (f := 9) (r := 106) (l := 7200) R.1 (by decide), Option.bind_some, rz_g R.1, Option.bind_some, h24, mu, nI_add, rz_l (f := 9) (r := 106) (l := 7200) R.1 (by decide) (by omega) (by omega), Option.bind_some]
theorem r_dd (R : GR H g) (hp : p < 8) (hd : sD g p = some d) : RPl H p d ∧ RCk H p d ∧ PDk d := by
  rcases R.2.2 p hp with ⟨e1, -⟩ | ⟨d', e1, e2, e3, e4⟩
  · rw [hd] at e1; cases e1
  · rw [hd] at e1
    cases e1
    exact ⟨e2, e3, e4⟩
theorem r_lk {a2 : Int32} (R : GR H g) (hp : p < 8) (hd : sD g p = some d) (h24 : hp_i H 102 24 = nI p) : ∀ j f s, j ≤ 6 → j < f → l_X11_look_15 f 102 a2 (nI s) (nI (6 - j)) H = b_X11_look_48 102 a2 (nI (s + dcr (pK d) j)) H := by
  have P := (r_dd R hp hd).1.2
  intro j
  induction j with
  | zero =>
    intro f s _ hf
    obtain ⟨f, rfl⟩ : ∃ f', f = f' + 1 := ⟨f - 1, by omega⟩
    show b_X11_look_15 (l_X11_look_15 f) 102 a2 (nI s) (nI 6) H = _
    unfold b_X11_look_15
    rw [if_pos (show (6 : Int32) ≤ nI 6 by decide)]
    rfl
  | succ j ih =>
    intro f s hj hf
    obtain ⟨f, rfl⟩ : ∃ f', f = f' + 1 := ⟨f - 1, by omega⟩
    show b_X11_look_15 (l_X11_look_15 f) 102 a2 (nI s) (nI (6 - (j + 1))) H = _
    unfold b_X11_look_15
    rw [if_neg (show ¬ (6 : Int32) ≤ nI (6 - (j + 1)) from nI_ge (b := 6) (by omega) (by omega))]
    unfold b_X11_look_22
    rw [rz_v R.1, Option.bind_some, ad, Nat.zero_add, r_of R hp h24 (by omega), Option.bind_some, P _ (by omega)]
    have e6 : 6 - (j + 1) + 1 = 6 - j := by omega
    show (if pK d (6 - (j + 1)) = -1 then _ else _) = b_X11_look_48 102 a2 (nI (s + (dcf (pK d) (6 - (j + 1)) + dcr (pK d) j))) H
    unfold dcf
    by_cases q : pK d (6 - (j + 1)) = -1
    · rw [if_pos q, if_pos q]
      unfold b_X11_look_35 b_X11_look_40
      rw [da, da, e6, ih f _ (by omega) (by omega), Nat.zero_add]
      rfl
    · rw [if_neg q, if_neg q]
      unfold b_X11_look_39 b_X11_look_40
      rw [da, da, e6, ih f _ (by omega) (by omega), ← Nat.add_assoc]
theorem s_look (G : GC h g m) (R : GR h g) : TSP Int32.toInt64 (f_L_look 64 a b 125) (f_X11_look 102 a b) h m := by
  have GHh := G.2.1
  refine tsp_pl (a := a) G R (fun ha => ?_) (fun p hp ha h0 => ?_) (fun H H' Z e => ?_) (fun p d hp ha hd C => ?_)
  · have e0 : b_L_look_0 64 a b 125 h = none := by
      unfold b_L_look_0 f_X10_look b_X10_look_0
      rw [ov64 GHh, Option.bind_some, Option.bind_some, (c_pn GHh ha).1]; rfl
    unfold f_L_look x_X10_look
    rw [e0, ov64 GHh, Option.bind_some, Option.bind_some, (c_pn GHh ha).2]; rfl
  · subst ha
    have e0 : b_L_look_0 64 (nI p) b 125 h = none := by
      unfold b_L_look_0 f_X10_look b_X10_look_0
      rw [ov64 GHh, Option.bind_some, Option.bind_some, (c_p0 GHh hp h0).1]; rfl
    unfold f_L_look x_X10_look
    rw [e0, ov64 GHh, Option.bind_some, Option.bind_some, (c_p0 GHh hp h0).2]; rfl
  · unfold f_X11_look b_X11_look_0
    rw [rz_v Z, Option.bind_some, e, Option.bind_some, if_neg n10]; rfl
  · subst ha
    have C' := C
    obtain ⟨⟨a1, a2⟩, ⟨b1, b2⟩, -, -, ⟨ek, P⟩, -⟩ := C
    have h0 : hp_r h 66 p ≠ 0 := by have := a1.1; omega
    have LK := P.2.1.1
    have kc : ∀ k, hp_i h (hp_r h (hp_r h 66 p) 0) k = pR d 10 k := fun k => by
      rw [← ek]; rfl
    have oc := sr_ok b1 b2
    have gc : ∀ k, g_i h (hp_r h (hp_r h 66 p) 0) 0 k = some (pR d 10 k) := fun k => (if_pos oc).trans (by rw [kc])
    obtain ⟨w, w1, w2⟩ := P.1.2.2.2.1
    obtain ⟨u, u1, u2'⟩ := P.1.2.2.2.2.1
    generalize hv : (if b = 0 then nI (pS d).length else if b = 1 then nI (pA d).length else if b = 2 then nI (dcn (pK d)) else if b = 3 then nI (pc6 w) else if b = 4 then nI (pc6 u) else if b = 5 then nI (pst d) else if b = 6 then pmk d else (-1 : Int32)) = v
    have eC : f_X10_look 64 (nI p) b h = some (v, h) := by
      unfold f_X10_look b_X10_look_0
      rw [ov64 GHh, Option.bind_some, c_pa GHh hp h0, Option.bind_some, show g_r h (hp_r h 66 p) 5 0 = some (hp_r h (hp_r h 66 p) 0) from if_pos (sr_ok a1 a2), Option.bind_some, ← hv]
      unfold b_X10_look_56 b_X10_look_62 b_X10_look_68 b_X10_look_73 b_X10_look_82 b_X10_look_91 b_X10_look_97 b_X10_look_103
      by_cases q0 : b = 0
      · rw [if_pos q0, if_pos q0, gc, Option.bind_some, LK.2.1]
      · rw [if_neg q0, if_neg q0]
        by_cases q1 : b = 1
        · rw [if_pos q1, if_pos q1, gc, Option.bind_some, LK.2.2.1]
        · rw [if_neg q1, if_neg q1]
          by_cases q2 : b = 2
          · rw [if_pos q2, if_pos q2, show ok_v h (hp_r h 66 p) 5 = some () from if_pos (sr_ok a1 a2), Option.bind_some, c_dcl C', Option.bind_some]
          · rw [if_neg q2, if_neg q2]
            by_cases q3 : b = 3
            · rw [if_pos q3, if_pos q3, gc, Option.bind_some, LK.2.2.2.2.1, w2, bc_6 (by omega), Option.bind_some]
            · rw [if_neg q3, if_neg q3]
              by_cases q4 : b = 4
              · rw [if_pos q4, if_pos q4, gc, Option.bind_some, LK.2.2.2.2.2.1, u2', bc_6 (by omega), Option.bind_some]
              · rw [if_neg q4, if_neg q4]
                by_cases q5 : b = 5
                · rw [if_pos q5, if_pos q5, gc, Option.bind_some, LK.2.2.2.1]
                · rw [if_neg q5, if_neg q5]
                  by_cases q6 : b = 6
                  · rw [if_pos q6, if_pos q6, gc, Option.bind_some, LK.2.2.2.2.2.2.1]
                  · rw [if_neg q6, if_neg q6]
    refine tsp_ok (g' := g) (v := v) (h1 := h) ?_ (gc_up G) clf_rf R (fun H RH _ => ?_)
    · unfold f_L_look b_L_look_0 b_L_look_21
      rw [ov64 GHh, Option.bind_some, eC, Option.bind_some, sj125 GHh, Option.bind_some]; rfl
    · obtain ⟨H2, x1, x2, x3, x4, x5⟩ := r_fl0 RH hp hd
      refine ⟨H2, ?_, x2, x3, x4⟩
      obtain ⟨⟨⟨f6, f7, f8, f9, f10, f11, -⟩, -⟩, -⟩ := (r_dd x2 hp hd).1
      unfold f_X11_look b_X11_look_0
      rw [rz_v RH.1, Option.bind_some, x1, Option.bind_some, if_pos rfl]
      unfold b_X11_look_10
      rw [show l_X11_look_15 fu_ 102 b (0 : Int32) (0 : Int32) H2 = _ from r_lk x2 hp hd x5 6 fu_ 0 (by omega) (by unfold fu_; omega), Nat.zero_add, show dcr (pK d) 6 = dcn (pK d) from rfl, ← hv]
      unfold b_X11_look_48 b_X11_look_92 b_X11_look_99 b_X11_look_106 b_X11_look_108 b_X11_look_118 b_X11_look_128 b_X11_look_135 b_X11_look_142
      have o6 : f_X11_of 102 (6 : Int32) H2 = some (nI (pA d).length, H2) := (r_of (k := 6) x2 hp x5 (by omega)).trans (congrArg (fun z => some (z, H2)) f6)
      have o7 : f_X11_of 102 (7 : Int32) H2 = some (nI (pS d).length, H2) := (r_of (k := 7) x2 hp x5 (by omega)).trans (congrArg (fun z => some (z, H2)) f7)
      have o8 : f_X11_of 102 (8 : Int32) H2 = some (nI (pst d), H2) := (r_of (k := 8) x2 hp x5 (by omega)).trans (congrArg (fun z => some (z, H2)) f8)
      have o9 : f_X11_of 102 (9 : Int32) H2 = some (plb d, H2) := (r_of (k := 9) x2 hp x5 (by omega)).trans (congrArg (fun z => some (z, H2)) f9)
      have o10 : f_X11_of 102 (10 : Int32) H2 = some (pmb d, H2) := (r_of (k := 10) x2 hp x5 (by omega)).trans (congrArg (fun z => some (z, H2)) f10)
      have o11 : f_X11_of 102 (11 : Int32) H2 = some (pmk d, H2) := (r_of (k := 11) x2 hp x5 (by omega)).trans (congrArg (fun z => some (z, H2)) f11)
      by_cases q0 : b = 0
      · rw [if_pos q0, if_pos q0, rz_v x2.1, Option.bind_some, o7, Option.bind_some]
      · rw [if_neg q0, if_neg q0]
        by_cases q1 : b = 1
        · rw [if_pos q1, if_pos q1, rz_v x2.1, Option.bind_some, o6, Option.bind_some]
        · rw [if_neg q1, if_neg q1]
          by_cases q2 : b = 2
          · rw [if_pos q2, if_pos q2]
          · rw [if_neg q2, if_neg q2]
            by_cases q3 : b = 3
            · rw [if_pos q3, if_pos q3, rz_v x2.1, Option.bind_some, o9, Option.bind_some, w2, bits_6 (by omega), Option.bind_some]
            · rw [if_neg q3, if_neg q3]
              by_cases q4 : b = 4
              · rw [if_pos q4, if_pos q4, rz_v x2.1, Option.bind_some, o10, Option.bind_some, u2', bits_6 (by omega), Option.bind_some]
              · rw [if_neg q4, if_neg q4]
                by_cases q5 : b = 5
                · rw [if_pos q5, if_pos q5, rz_v x2.1, Option.bind_some, o8, Option.bind_some]
                · rw [if_neg q5, if_neg q5]
                  by_cases q6 : b = 6
                  · rw [if_pos q6, if_pos q6, rz_v x2.1, Option.bind_some, o11, Option.bind_some]
                  · rw [if_neg q6, if_neg q6]
theorem s_kind (G : GC h g m) (R : GR h g) : TSP Int32.toInt64 (f_L_kind 64 a b 125) (f_X11_kind 102 a b) h m := by
  have GHh := G.2.1
  refine tsp_pl (a := a) G R (fun ha => ?_) (fun p hp ha h0 => ?_) (fun H H' Z e => ?_) (fun p d hp ha hd C => ?_)
  · have e0 : b_L_kind_0 64 a b 125 h = none := by
      unfold b_L_kind_0 f_X10_kind b_X10_kind_0
      rw [ov64 GHh, Option.bind_some, Option.bind_some, (c_pn GHh ha).1]; rfl
    unfold f_L_kind x_X10_kind
    rw [e0, ov64 GHh, Option.bind_some, Option.bind_some, (c_pn GHh ha).2]; rfl
  · subst ha
    have e0 : b_L_kind_0 64 (nI p) b 125 h = none := by
      unfold b_L_kind_0 f_X10_kind b_X10_kind_0
      rw [ov64 GHh, Option.bind_some, Option.bind_some, (c_p0 GHh hp h0).1]; rfl
    unfold f_L_kind x_X10_kind
    rw [e0, ov64 GHh, Option.bind_some, Option.bind_some, (c_p0 GHh hp h0).2]; rfl
  · unfold f_X11_kind b_X11_kind_0
    rw [rz_v Z, Option.bind_some, e, Option.bind_some, if_neg n10]; rfl
  · subst ha
    obtain ⟨⟨a1, a2⟩, -, -, ⟨e1, e2, e3, e4⟩, -, -⟩ := C
    have h0 : hp_r h 66 p ≠ 0 := by have := a1.1; omega
    have fin : ∀ v, f_X10_kind 64 (nI p) b h = some (v, h) → (∀ H2, GR H2 g → hp_i H2 102 24 = nI p → b_X11_kind_10 102 b H2 = some (v, H2)) → TSP Int32.toInt64 (f_L_kind 64 (nI p) b 125) (f_X11_kind 102 (nI p) b) h m := fun v eC eR => by
      refine tsp_ok (g' := g) (v := v) (h1 := h) ?_ (gc_up G) clf_rf R (fun H RH _ => ?_)
      · unfold f_L_kind b_L_kind_0 b_L_kind_21
        rw [ov64 GHh, Option.bind_some, eC, Option.bind_some, sj125 GHh, Option.bind_some]; rfl
      · obtain ⟨H2, x1, x2, x3, x4, x5⟩ := r_fl0 RH hp hd
        refine ⟨H2, ?_, x2, x3, x4⟩
        unfold f_X11_kind b_X11_kind_0
        rw [rz_v RH.1, Option.bind_some, x1, Option.bind_some, if_pos rfl]
        exact eR H2 x2 x5
    have cC : f_X10_kind 64 (nI p) b h = if b < 0 then b_X10_kind_16 h else b_X10_kind_10 b (hp_r h 66 p) h := by
      unfold f_X10_kind b_X10_kind_0
      rw [ov64 GHh, Option.bind_some, c_pa GHh hp h0, Option.bind_some]
    rcases i_cs b with cb | ⟨k, k1, rfl⟩
    · refine fin (-1) ?_ (fun H2 R2 _ => ?_)
      · rw [cC, if_pos cb]; rfl
      · unfold b_X11_kind_10
        rw [isin_e, Option.bind_some, if_pos cb, if_pos rfl]; rfl
    · have k0 : ¬ nI k < 0 := nI_pos k1
      by_cases k6 : k < 6
      · refine fin (pK d k) ?_ (fun H2 R2 h24 => ?_)
        · rw [cC, if_neg k0]
          unfold b_X10_kind_10 b_X10_kind_18
          rw [if_pos (show nI k < (6 : Int32) from nI_lt (b := 6) k6 (by omega)), show g_r h (hp_r h 66 p) 5 1 = some (hp_r h (hp_r h 66 p) 1) from if_pos (sr_ok a1 a2), Option.bind_some, l_iN (sr_ok e1 e2) (by omega) (by omega), Option.bind_some, e4]
        · unfold b_X11_kind_10
          rw [isin_e, Option.bind_some, if_neg k0, if_neg (show ¬ (5 : Int32) < nI k from nI_nlt (a := 5) (by omega) (by omega)), if_neg n10]
          unfold b_X11_kind_19 b_X11_kind_30
          rw [rz_v R2.1, Option.bind_some, ad, Nat.zero_add, r_of R2 hp h24 (by omega), Option.bind_some, (r_dd R2 hp hd).1.2 k k6]
      · refine fin (-1) ?_ (fun H2 R2 _ => ?_)
        · rw [cC, if_neg k0]
          unfold b_X10_kind_10
          rw [if_neg (show ¬ nI k < (6 : Int32) from nI_nlt (b := 6) (by omega) (by omega))]; rfl
        · unfold b_X11_kind_10
          rw [isin_e, Option.bind_some, if_neg k0, if_pos (show (5 : Int32) < nI k from nI_lt (a := 5) (by omega) (by omega)), if_pos rfl]; rfl
end
