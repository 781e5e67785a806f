/-! ===== listOutcomes(): what it lists ===== -/
theorem srt_nil : srt [] := trivial
def Vk (kd : Nat → Int32) (c : Nat) : Bool := decide (kd c = 1)
section
variable {g h : AH} {K0 : Nat → Nat → Int32} {te ow : Nat → Nat} {na nt sz oc co pr goal tn : Nat} {kd : Nat → Int32}
theorem ends_vol {V V' : Nat → Bool} {o : Nat} (Z : KW K0 te ow na nt sz) (hV : ∀ c, c < 6 → V c = V' c) {z : AS} (E : Ends (KP K0) V o z) : Ends (KP K0) V' o z := by
  have hna := Z.1
  have hsz := Z.2.2.1
  have W := kp_wf Z
  have hv : ∀ n, n < pa_na (KP K0) → (xa_op (KP K0) n = 0 ∨ xa_op (KP K0) n = 1 ∨ xa_op (KP K0) n = 2) → V (xa_ob (KP K0) n) = V' (xa_ob (KP K0) n) := by
    intro n hn ho
    rw [kp_na Z] at hn
    obtain ⟨e, op, c1, c2, c3, c4, c5, c6, c7, c8, c9, c10⟩ := kp_act Z hn
    obtain ⟨-, op', f1, f2, f3, f4, f5, f6, -⟩ := Z.2.2.2.2.2.2.2.1 e c1
    have hop : op' = op := by rw [c5, nI_eq (by omega) (by omega)] at f1; exact f1.symm
    obtain ⟨c, d1, d2⟩ := f6 (by rw [hop, ← c9]; exact ho)
    rw [(q_kv Z c3 d1 d2).1]
    exact hV c d1
  obtain ⟨p, h1, h2⟩ := E
  exact ⟨p, xs_vol W hv p _ _ (xa_in_0 W) h1, xs_vol_end hv h2⟩
/-- a search from its beginning -/
theorem v_run {α : Type} {K : Nat → Nat → Int32} {G : AH → α → Prop} {fin : α → KY → Nat → (Nat → Int32) → α} {st : α → Bool} {le : α → α → Prop} {s1 : AH} {a : α} (Z : KW K te ow na nt sz) (B : VB K nt goal co pr G VS fin st le (RC K ow nt oc)) (G0 : G s1 a) (hv : ∀ y, ¬ VS s1 y) : ∃ h2, f_X8_visit dp_ 74 (m_bg K nt 0 0) 0 0 0 s1 = some h2 ∧ G h2 (cT K nt goal fin st 17 (m_bg K nt 0 0, 0, 0) 0 (hp_i s1 97) a) := by
  obtain ⟨h2, q1, q2, -⟩ := v_visit B 17 0 dp_ (by omega) (by decide) (m_bg K nt 0 0, 0, 0) s1 a (hp_i s1 97) (rc_0 Z) G0 (fun y hy => absurd hy (hv y)) (fun k hk => by omega)
  exact ⟨h2, q1, q2⟩
theorem eq7_95 : EQ7 h (st_i h 95 1 0) := ⟨sti_n, sti_sz, sti_kk, sti_l, fun r _ h9 => sti_r h9, fun r _ => by rw [sti_j], fun r _ => by rw [sti_rr], fun k _ => by rw [sti_r (show (74 : Nat) ≠ 95 by decide)]⟩
theorem hb_95 (H : HB h tn) : HB (st_i h 95 1 0) tn ∧ OI (st_i h 95 1 0) [] := by
  obtain ⟨t, u, ⟨L, S⟩, ⟨M, O⟩, p, w, d1, d2, d3, d12, d13, d14⟩ := H
  have kt : hp_k h (hp_r h 90 3) = 100 := S.2.2.2.2.1.1.2.2
  have n95 : hp_r h 90 3 ≠ 95 := fun e => by rw [e, O.1.2.2] at kt; omega
  have O' : OI (st_i h 95 1 0) [] := by
    obtain ⟨o1, o2, o3, o4, o5, o6, o7, o8⟩ := O
    refine ⟨o1, o2, o3, o4, Nat.zero_le _, fun i hi => absurd hi (Nat.not_lt_zero i), ?_, trivial⟩
    rw [sti_s]; rfl
  refine ⟨⟨t, u, ⟨L, S⟩, ⟨[], O'⟩, p, w, d1, d2, d3, ?_, d13, ?_⟩, O'⟩
  · rw [sti_r (show (90 : Nat) ≠ 95 by decide)]; exact d12
  · unfold TB at d14 ⊢
    rw [sti_rr, sti_l, sti_r n95]
    exact d14
theorem pb_95 (H : HB h tn) (P : PB h pr co K0 kd) : PB (st_i h 95 1 0) pr co K0 kd ∧ pr ≠ 74 ∧ pr ≠ 75 ∧ pr ≠ 95 := by
  obtain ⟨r1, r2, V, nr, k1, k2, k3, k4⟩ := P
  obtain ⟨M, O⟩ := H.2.2.2.1
  have k95 : hp_k h 95 = 3 := O.1.2.2
  have kpr := r1.2.2
  have c95 : co ≠ 95 := fun e => by have := V.1.2.2; rw [e] at this; omega
  have a95 : ∀ r, hp_k h r = 100 → r ≠ 95 := fun r hk e => by rw [e] at hk; omega
  refine ⟨⟨r1, r2, ⟨V.1, fun i hi => ?_, by rw [sti_r c95]; exact V.2.2⟩, nr, k1, k2, by rw [sti_rr, sti_r (a95 _ k1.2.2)]; exact k3, k4⟩, fun e => ?_, fun e => ?_, fun e => ?_⟩
  · obtain ⟨a, b, c⟩ := V.2.1 i hi
    exact ⟨a, b, by rw [sti_rr, sti_r (a95 _ a.2.2)]; exact c⟩
  · rw [e, H.1.1.2.2] at kpr; omega
  · rw [e, H.2.1.1.2.2] at kpr; omega
  · rw [e] at kpr; omega
/-- the class's number of an end's outcome -/
def oN (ow : Nat → Nat) (nt : Nat) (s : AS) : Int32 := nI (n16 (av ow nt s) (ast s nt))
theorem r_list (Z : KW K0 te ow na nt sz) (H : HB h tn) (htn : tn + 2 < 2 ^ 30) (P : PB h pr co K0 kd) (hoc : oc ≤ 2) :
    ∃ h2 h3 L, f_X8_listOutcomes 74 pr (nI oc) h = some (hp_n h2, h3) ∧ NA h2 h3 100 L.length ∧ HB h2 (tn + 1) ∧ FQ h h2 pr ∧ srt L ∧ L.length ≤ 1024 ∧ RowIs (hp_i h3 (hp_n h2)) L ∧ (∀ z, z ∈ L ↔ ∃ s, Ends (KP K0) (Vk kd) oc s ∧ z = oN ow nt s) ∧
      (∀ k, k ≠ 2 → k ≠ 3 → k ≠ 4 → hp_j h2 pr k = hp_j h pr k) ∧ (oc ≠ 2 → hp_j h2 pr = hp_j h pr) ∧
      (oc = 2 → ∀ i j, i < 8 → j < 8 →
        (fd (hp_j h2 pr 2) (8 * j + i) 1 = 1 ↔ fd (hp_j h pr 2) (8 * j + i) 1 = 1 ∨ ∃ s, Ends (KP K0) (Vk kd) 2 s ∧ as_do s i ∧ as_do s j) ∧
        (fd (hp_j h2 pr 3) (8 * j + i) 1 = 1 ↔ fd (hp_j h pr 3) (8 * j + i) 1 = 1 ∨ ∃ s, Ends (KP K0) (Vk kd) 2 s ∧ as_ea s j i) ∧
        (fd (hp_j h2 pr 4) (8 * j + i) 1 = 1 ↔ fd (hp_j h pr 4) (8 * j + i) 1 = 1 ∨ ∃ s, Ends (KP K0) (Vk kd) 2 s ∧ (as_do s i ∧ as_do s j) ∧ ¬ as_ea s j i)) ∧
      hp_j h2 74 = hp_j h 74 ∧ hp_i h2 74 6 = hp_i h 74 6 ∧ hp_i h2 98 = hp_i h 98 := by
  obtain ⟨H1, O1⟩ := hb_95 H
  obtain ⟨P1, p74, p75, p95⟩ := pb_95 H P
  obtain ⟨w, w1, w2, w3⟩ := e_cok (g := st_i h 95 1 0) (k := 1) P1.1 P1.2.2.2.2.1 P1.2.2.2.2.2.1 P1.2.2.2.2.2.2.1
  obtain ⟨g, b1, b2, b3, b4, b5, b6, b7⟩ := e_bg8 (oc := oc) (goal := 0) (v := nI w) Z H1 P1 (by omega) (by omega)
  have kx : ∀ i, i ≤ 10 → KX K0 g (nI oc) (nI w) i = K0 i := fun i hi => by
    unfold KX
    rw [if_neg (by omega), if_neg (by omega), if_neg (by omega), if_neg (by omega)]
  have ZX := kw_cg kx Z
  have PX := kp_cg kx
  have hao : ao oc = oc := if_neg (by omega)
  have hkv : ∀ c, c < 6 → kv (KX K0 g (nI oc) (nI w)) c = Vk kd c := fun c hc => by
    rw [kv_w (by omega) (by omega)]
    unfold Vk
    cases hb : w.testBit c with
    | true => exact (decide_eq_true ((w3 c hc).mp hb)).symm
    | false => exact (decide_eq_false (fun e => by rw [(w3 c hc).mpr e] at hb; cases hb)).symm
  have eI : ∀ s, Ends (KP (KX K0 g (nI oc) (nI w))) (kv (KX K0 g (nI oc) (nI w))) (ao oc) s ↔ Ends (KP K0) (Vk kd) oc s := fun s => by
    rw [PX, hao]
    exact ⟨ends_vol Z hkv, ends_vol Z (fun c hc => (hkv c hc).symm)⟩
  -- the start
  have jpr : hp_j (sT g (m_bg (KX K0 g (nI oc) (nI w)) nt 0 0) 0 0) pr = hp_j h pr := by rw [b4.2.2.2.2.2.1 pr p75, sti_j]
  have OB : OI (sT g (m_bg (KX K0 g (nI oc) (nI w)) nt 0 0) 0 0) [] := by
    obtain ⟨Mo, Ob⟩ := b2.2.2.2.1
    obtain ⟨o1, o2, o3, o4, o5, o6, o7, o8⟩ := Ob
    refine ⟨o1, o2, o3, o4, Nat.zero_le _, fun i hi => absurd hi (Nat.not_lt_zero i), ?_, trivial⟩
    rw [b4.2.2.2.2.1 95 (by decide) (by decide) (by decide) (by decide) (by decide) (by decide), sti_s]; rfl
  have G0 : GL (KX K0 g (nI oc) (nI w)) ow nt oc (sT g (m_bg (KX K0 g (nI oc) (nI w)) nt 0 0) 0 0) pr (sT g (m_bg (KX K0 g (nI oc) (nI w)) nt 0 0) 0 0) (⟨[], srt_nil⟩, (hp_j h pr 2, hp_j h pr 3, hp_j h pr 4)) :=
    ⟨cg_0 b2 OB, b5, by rw [jpr], by rw [jpr], by rw [jpr], fun _ _ _ _ => rfl, rfl, rfl, rfl, fun z hz => nomatch hz⟩
  obtain ⟨h2, v1, v2⟩ := v_run (ow := ow) (oc := oc) (goal := 0) ZX (vb_L ZX b3 b2) G0 b7
  rw [cT_lv (fin := fnL (KX K0 g (nI oc) (nI w)) oc) (ad := fun a x => fnL (KX K0 g (nI oc) (nI w)) oc a x 0 (fun _ => 0)) (fun _ _ _ _ => rfl)] at v2
  obtain ⟨l1, l2⟩ := lv_ends (ow := ow) (goal := 0) ZX b3
  have fl := fold_L (K := KX K0 g (nI oc) (nI w)) (oc := oc) (lv (KX K0 g (nI oc) (nI w)) nt 0 17 (m_bg (KX K0 g (nI oc) (nI w)) nt 0 0, 0, 0)) (⟨[], srt_nil⟩, (hp_j h pr 2, hp_j h pr 3, hp_j h pr 4))
  have fl2 := fold_L2 (K := KX K0 g (nI oc) (nI w)) (lv (KX K0 g (nI oc) (nI w)) nt 0 17 (m_bg (KX K0 g (nI oc) (nI w)) nt 0 0, 0, 0)) (⟨[], srt_nil⟩, (hp_j h pr 2, hp_j h pr 3, hp_j h pr 4))
  have a2n : oc ≠ 2 → ∀ (l : List KY) (a : AL), (l.foldl (fun a x => fnL (KX K0 g (nI oc) (nI w)) oc a x 0 (fun _ => 0)) a).2 = a.2 := by
    intro ho l
    induction l with
    | nil => intro a; rfl
    | cons x l ih =>
      intro a
      show (l.foldl _ (fnL (KX K0 g (nI oc) (nI w)) oc a x 0 (fun _ => 0))).2 = a.2
      rw [ih]
      unfold fnL
      rw [if_neg ho]
  generalize hA : (lv (KX K0 g (nI oc) (nI w)) nt 0 17 (m_bg (KX K0 g (nI oc) (nI w)) nt 0 0, 0, 0)).foldl (fun a x => fnL (KX K0 g (nI oc) (nI w)) oc a x 0 (fun _ => 0)) ((⟨[], srt_nil⟩, (hp_j h pr 2, hp_j h pr 3, hp_j h pr 4)) : AL) = A at v2 fl
  obtain ⟨c1, c2, c3, c4, c5, c6, c7, c8, c9, c10⟩ := v2
  obtain ⟨HB2, FQ2⟩ := hb_after H1 htn b4 b6 b2 c1
  have lb := out_bnd ZX A.1.2 c10
  obtain ⟨o1, o2, o3, o4, o5, o6, o7, o8⟩ := c1.2.1
  obtain ⟨h3, n1, n2, n3⟩ := e_cpo (n := A.1.1.length) o2 o5 o4
  have eq := fun z => fl z
  refine ⟨h2, h3, A.1.1, ?_, n2, HB2, fq_eq eq7_95 p74 p95 FQ2, A.1.2, lb, ?_, ?_, ?_, ?_, ?_, ?_, ?_, ?_⟩
  · unfold f_X8_listOutcomes b_X8_listOutcomes_0
    have t1 := H.1
    have sB := b2.2.1
    have s2 := fs_sf b2 c1.1
    have x1 : g_r h 74 8 2 = some 95 := by
      have e : g_r h 74 8 2 = some (hp_r h 74 2) := if_pos t1.1
      rw [e, t1.2.2.2.1]
    have ok95 : ok_o h 95 3 := by obtain ⟨M, O⟩ := H.2.2.2.1; exact O.1
    have x2 : f_X3_clear 95 h = some (st_i h 95 1 0) := by
      unfold f_X3_clear b_X3_clear_0
      rw [show p_i h 95 3 1 0 = some (st_i h 95 1 0) from if_pos ok95, Option.bind_some]
    have v74 : ok_v (st_i h 95 1 0) 74 8 = some () := if_pos t1.1
    have x3 : g_r h2 74 8 2 = some 95 := by
      have e : g_r h2 74 8 2 = some (hp_r h2 74 2) := if_pos s2.1
      rw [e, HB2.1.2.2.2.1]
    have v1' : f_X8_visit dp_ 74 (m_bg (KX K0 g (nI oc) (nI w)) nt 0 0) 0 0 (0 : Int32) (sT g (m_bg (KX K0 g (nI oc) (nI w)) nt 0 0) 0 0) = some h2 := v1
    have Mg : MR g (KX K0 g (nI oc) (nI w)) co := b2.1
    have x4 : f_X3_copy 95 h2 = some (hp_n h2, h3) := by
      unfold f_X3_copy b_X3_copy_0
      rw [oi_r c1.2.1, Option.bind_some, oi_i c1.2.1, Option.bind_some, n1, Option.bind_some]
    have b1' : f_X8_begin 74 pr (nI oc) (nI w) (0 : Int32) (st_i h 95 1 0) = _ := b1
    rw [x1, Option.bind_some, show ok_v h 95 3 = some () from if_pos ok95, Option.bind_some, x2, Option.bind_some, show ok_v (st_i h 95 1 0) pr 5 = some () from if_pos P1.1, Option.bind_some, w2, Option.bind_some, v74, Option.bind_some, b1', Option.bind_some, sf_r0 sB, Option.bind_some, mg_j0 Mg, Option.bind_some, Option.bind_some, mg_j1 Mg, Option.bind_some, Option.bind_some, mg_j2 Mg, Option.bind_some, sf_v sB, Option.bind_some, v1', Option.bind_some, x3, Option.bind_some, show ok_v h2 95 3 = some () from if_pos o1, Option.bind_some, x4, Option.bind_some]
  · intro i hi
    rw [n3 i hi]
    exact o6 i hi
  · intro z
    rw [fl z]
    constructor
    · rintro (e | ⟨y, y1, y2⟩)
      · exact nomatch e
      · obtain ⟨s, e1, e2, e3⟩ := l1 y y1
        exact ⟨s, (eI s).mp e1, by rw [y2]; exact (q_out ZX e3 e2).1⟩
    · rintro ⟨s, e1, e2⟩
      obtain ⟨y, y1, y2, y3⟩ := l2 s ((eI s).mpr e1)
      exact Or.inr ⟨y, y1, by rw [e2]; exact (q_out ZX y3 y2).1.symm⟩
  · intro k k2 k3 k4
    rw [c6 k k2 k3 k4, jpr]
  · intro ho
    have e := a2n ho (lv (KX K0 g (nI oc) (nI w)) nt 0 17 (m_bg (KX K0 g (nI oc) (nI w)) nt 0 0, 0, 0)) (⟨[], srt_nil⟩, (hp_j h pr 2, hp_j h pr 3, hp_j h pr 4))
    rw [hA] at e
    funext k
    by_cases k2 : k = 2
    · rw [k2, c3, e]
    · by_cases k3 : k = 3
      · rw [k3, c4, e]
      · by_cases k4 : k = 4
        · rw [k4, c5, e]
        · rw [c6 k k2 k3 k4, jpr]
  · intro ho i j hi hj
    subst ho
    obtain ⟨q1, q2, q3⟩ := fl2 i j hi hj
    rw [hA] at q1 q2 q3
    have ex : ∀ (Q : KY → Prop) (R : AS → Prop), (∀ y s, DC (KX K0 g (nI 2) (nI w)) ow nt 2 y.1 y.2.1 y.2.2 s → (Q y ↔ R s)) → ((∃ y, y ∈ lv (KX K0 g (nI 2) (nI w)) nt 0 17 (m_bg (KX K0 g (nI 2) (nI w)) nt 0 0, 0, 0) ∧ Q y) ↔ ∃ s, Ends (KP K0) (Vk kd) 2 s ∧ R s) := by
      intro Q R hQ
      constructor
      · rintro ⟨y, y1, y2⟩
        obtain ⟨s, e1, e2, e3⟩ := l1 y y1
        exact ⟨s, (eI s).mp e1, (hQ y s e2).mp y2⟩
      · rintro ⟨s, e1, e2⟩
        obtain ⟨y, y1, y2, y3⟩ := l2 s ((eI s).mpr e1)
        exact ⟨y, y1, (hQ y s y2).mpr e2⟩
    refine ⟨?_, ?_, ?_⟩
    · rw [c3, q1, ex (fun y => d_do y.1 i = 1 ∧ d_do y.1 j = 1) (fun s => as_do s i ∧ as_do s j) (fun y s D => by rw [D.2.2.2.2.1 i hi, D.2.2.2.2.1 j hj])]
    · rw [c4, q2, ex (fun y => d_ea y.2.2 j i = 1) (fun s => as_ea s j i) (fun y s D => (D.2.2.2.2.2.2.2.2 (by omega)).2.2 j i hj hi)]
    · rw [c5, q3, ex (fun y => (d_do y.1 i = 1 ∧ d_do y.1 j = 1) ∧ ¬ d_ea y.2.2 j i = 1) (fun s => (as_do s i ∧ as_do s j) ∧ ¬ as_ea s j i) (fun y s D => by rw [D.2.2.2.2.1 i hi, D.2.2.2.2.1 j hj, (D.2.2.2.2.2.2.2.2 (by omega)).2.2 j i hj hi])]
  · rw [c7, b4.2.2.2.2.2.1 74 (by decide), sti_j]
  · rw [c8, b4.2.2.2.2.2.2.2.2 6 (by decide) (by decide), sti_r (show (74 : Nat) ≠ 95 by decide)]
  · rw [c9, b4.2.2.2.2.1 98 (by decide) (by decide) (by decide) (by decide) (by decide) (by decide), sti_r (show (98 : Nat) ≠ 95 by decide)]
end
