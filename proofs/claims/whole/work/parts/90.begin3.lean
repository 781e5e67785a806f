/-! ===== the beginning of a search: the house ===== -/
def SI0 (h : AH) (L : Nat) : Prop :=
  ok_o h 90 9 ∧ (ok_o h (hp_r h 90 0) 101 ∧ hp_l h (hp_r h 90 0) = L) ∧ (ok_o h (hp_r h 90 1) 101 ∧ hp_l h (hp_r h 90 1) = L) ∧ (ok_o h (hp_r h 90 2) 101 ∧ hp_l h (hp_r h 90 2) = L) ∧ (ok_o h (hp_r h 90 3) 100 ∧ hp_l h (hp_r h 90 3) = L) ∧
  hp_r h 90 0 ≠ hp_r h 90 1 ∧ hp_r h 90 0 ≠ hp_r h 90 2 ∧ hp_r h 90 1 ≠ hp_r h 90 2 ∧ (∃ k, L = 2 ^ k ∧ 8 ≤ k ∧ k ≤ 15)
/-- rows of ints that are the search's own -/
def NR (h : AH) (r : Nat) : Prop := r = 76 ∨ r = 77 ∨ r = 78 ∨ r = 97 ∨ r = 98 ∨ r = hp_r h 90 3 ∨ r = hp_r h 95 0
/-- the house's search, between calls -/
def HB (h : AH) (tn : Nat) : Prop :=
  (ok_o h 74 8 ∧ hp_r h 74 0 = 75 ∧ hp_r h 74 1 = 90 ∧ hp_r h 74 2 = 95 ∧ hp_r h 74 3 = 97 ∧ hp_r h 74 4 = 98) ∧
  (ok_o h 75 2 ∧ (hp_r h 75 4 = 76 ∧ ok_o h 76 100 ∧ hp_l h 76 = 8) ∧ (hp_r h 75 5 = 77 ∧ ok_o h 77 100 ∧ hp_l h 77 = 2) ∧ (hp_r h 75 6 = 78 ∧ ok_o h 78 100 ∧ hp_l h 78 = 4)) ∧
  (∃ L, SI0 h L) ∧ (∃ M, OI h M) ∧ (ok_o h 97 100 ∧ hp_l h 97 = 17) ∧ (ok_o h 98 100 ∧ hp_l h 98 = 17) ∧
  hp_r h 90 3 ≠ hp_r h 95 0 ∧ (hp_r h 90 3 ≠ 76 ∧ hp_r h 90 3 ≠ 77 ∧ hp_r h 90 3 ≠ 78 ∧ hp_r h 90 3 ≠ 97 ∧ hp_r h 90 3 ≠ 98) ∧ (hp_r h 95 0 ≠ 76 ∧ hp_r h 95 0 ≠ 77 ∧ hp_r h 95 0 ≠ 78 ∧ hp_r h 95 0 ≠ 97 ∧ hp_r h 95 0 ≠ 98) ∧
  hp_i h 90 4 = nI tn ∧ tn + 1 < 2 ^ 30 ∧ TB h tn
/-- a program: its code, its kinds -/
def PB (h : AH) (pr co : Nat) (K0 : Nat → Nat → Int32) (kd : Nat → Int32) : Prop :=
  ok_o h pr 5 ∧ hp_r h pr 0 = co ∧ CV h co K0 ∧ (∀ i, i < 10 → ¬ NR h (hp_r h co i)) ∧ (ok_o h (hp_r h pr 1) 100 ∧ hp_l h (hp_r h pr 1) = 8 ∧ hp_i h (hp_r h pr 1) = kd ∧ ¬ NR h (hp_r h pr 1))
/-- what begin() leaves alone -/
def FB (h g : AH) : Prop :=
  hp_n g = hp_n h ∧ hp_s g = hp_s h ∧ hp_k g = hp_k h ∧ hp_l g = hp_l h ∧
  (∀ r, r ≠ 74 → r ≠ 75 → r ≠ 76 → r ≠ 77 → r ≠ 78 → r ≠ 90 → hp_i g r = hp_i h r) ∧ (∀ r, r ≠ 75 → hp_j g r = hp_j h r) ∧ (∀ r, r ≠ 74 → r ≠ 75 → hp_r g r = hp_r h r) ∧
  (∀ k, k ≠ 7 → hp_r g 74 k = hp_r h 74 k) ∧ (∀ k, k ≠ 8 → k ≠ 11 → hp_i g 74 k = hp_i h 74 k)
theorem str_r {g : AH} {r k r' : Nat} {v : Nat} (hr : r' ≠ r) : hp_r (st_r g r k v) r' = hp_r g r' := by
  funext j
  exact up2_r hr
theorem str_k {g : AH} {r k k' : Nat} {v : Nat} (hk : k' ≠ k) : hp_r (st_r g r k v) r k' = hp_r g r k' := up2_k hk
theorem str_s {g : AH} {r k : Nat} {v : Nat} : hp_r (st_r g r k v) r k = v := up2_same
theorem str_i {g : AH} {r k : Nat} {v : Nat} : hp_i (st_r g r k v) = hp_i g := rfl
theorem str_j {g : AH} {r k : Nat} {v : Nat} : hp_j (st_r g r k v) = hp_j g := rfl
theorem str_n {g : AH} {r k : Nat} {v : Nat} : hp_n (st_r g r k v) = hp_n g := rfl
theorem str_sz {g : AH} {r k : Nat} {v : Nat} : hp_s (st_r g r k v) = hp_s g := rfl
theorem str_kk {g : AH} {r k : Nat} {v : Nat} : hp_k (st_r g r k v) = hp_k g := rfl
theorem str_l {g : AH} {r k : Nat} {v : Nat} : hp_l (st_r g r k v) = hp_l g := rfl
section
variable {h : AH} {K0 : Nat → Nat → Int32} {te ow : Nat → Nat} {na nt sz oc co pr goal : Nat} {v : Int32}
def hb3 (h : AH) (co : Nat) (o v : Int32) : AH := st_i (st_i (st_r h 75 7 co) 75 3 o) 75 8 v
theorem hb3_n {o : Int32} : hp_n (hb3 h co o v) = hp_n h ∧ hp_s (hb3 h co o v) = hp_s h ∧ hp_k (hb3 h co o v) = hp_k h ∧ hp_l (hb3 h co o v) = hp_l h ∧ hp_j (hb3 h co o v) = hp_j h := ⟨rfl, rfl, rfl, rfl, rfl⟩
theorem hb3_i {o : Int32} {r : Nat} (hr : r ≠ 75) : hp_i (hb3 h co o v) r = hp_i h r := by
  unfold hb3; rw [sti_r hr, sti_r hr, str_i]
theorem hb3_r {o : Int32} {r : Nat} (hr : r ≠ 75) : hp_r (hb3 h co o v) r = hp_r h r := by
  unfold hb3; rw [sti_rr, sti_rr, str_r hr]
theorem hb3_rk {o : Int32} {k : Nat} (hk : k ≠ 7) : hp_r (hb3 h co o v) 75 k = hp_r h 75 k := by
  unfold hb3; rw [sti_rr, sti_rr, str_k hk]
theorem hb3_r7 {o : Int32} : hp_r (hb3 h co o v) 75 7 = co := by
  unfold hb3; rw [sti_rr, sti_rr, str_s]
theorem hb3_38 {o : Int32} : hp_i (hb3 h co o v) 75 3 = o ∧ hp_i (hb3 h co o v) 75 8 = v := by
  have a : (3 : Nat) ≠ 8 := by decide
  unfold hb3
  exact ⟨by rw [sti_k a, sti_s], by rw [sti_s]⟩
theorem hb3_ok {o : Int32} {r c : Nat} (ok : ok_o h r c) : ok_o (hb3 h co o v) r c := ok
/-- Machine.begin() -/
theorem e_bg (Z : KW K0 te ow na nt sz) (V : CV h co K0) (o1 : ok_o h 75 2) (o2 : (hp_r h 75 4 = 76 ∧ ok_o h 76 100 ∧ hp_l h 76 = 8) ∧ (hp_r h 75 5 = 77 ∧ ok_o h 77 100 ∧ hp_l h 77 = 2) ∧ (hp_r h 75 6 = 78 ∧ ok_o h 78 100 ∧ hp_l h 78 = 4)) (nd : ∀ i, i < 10 → ¬ R3 (hp_r h co i)) (hoc : oc ≤ 3) :
    ∃ g, f_X2_begin 75 co (nI oc) v h = some (sT g (m_bg (KX K0 g (nI oc) v) nt 0 0) 0 0) ∧ MR g (KX K0 g (nI oc) v) co ∧ KS (KX K0 g (nI oc) v) na nt oc ∧ FI R3 (hb3 h co (nI oc) v) g := by
  have kco : hp_k h co = 0 := V.1.2.2
  have dco : ¬ R3 co := by
    rintro (e | e | e)
    · rw [e, o2.1.2.1.2.2] at kco; omega
    · rw [e, o2.2.1.2.1.2.2] at kco; omega
    · rw [e, o2.2.2.2.1.2.2] at kco; omega
  have c75 : co ≠ 75 := fun e => by rw [e, o1.2.2] at kco; omega
  have a75 : ∀ i, i < 10 → hp_r h co i ≠ 75 := fun i hi e => by
    have := (V.2.1 i hi).1.2.2
    rw [e, o1.2.2] at this
    omega
  have er : ∀ i, hp_r (hb3 h co (nI oc) v) co i = hp_r h co i := fun i => by rw [hb3_r c75]
  have V3 : CV (hb3 h co (nI oc) v) co K0 := by
    refine ⟨hb3_ok V.1, fun i hi => ?_, by rw [hb3_i c75]; exact V.2.2⟩
    obtain ⟨a, b, c⟩ := V.2.1 i hi
    rw [er]
    exact ⟨hb3_ok a, b, by rw [hb3_i (a75 i hi)]; exact c⟩
  have B3 : MB (hb3 h co (nI oc) v) co := by
    refine ⟨hb3_ok o1, hb3_r7, ⟨?_, hb3_ok o2.1.2.1, o2.1.2.2⟩, ⟨?_, hb3_ok o2.2.1.2.1, o2.2.1.2.2⟩, ⟨?_, hb3_ok o2.2.2.2.1, o2.2.2.2.2⟩⟩
    · rw [hb3_rk (show (4 : Nat) ≠ 7 by decide)]; exact o2.1.1
    · rw [hb3_rk (show (5 : Nat) ≠ 7 by decide)]; exact o2.2.1.1
    · rw [hb3_rk (show (6 : Nat) ≠ 7 by decide)]; exact o2.2.2.1
  have nd3 : ∀ i, i < 10 → ¬ R3 (hp_r (hb3 h co (nI oc) v) co i) := fun i hi => by rw [er]; exact nd i hi
  obtain ⟨g1, q1, q2, q3, q4, q5⟩ := bg_w Z dco nd3 6 (Nat.le_refl 6) fu_ (hb3 h co (nI oc) v) (by decide) FI_rf V3 B3 (fun c h => by omega)
  obtain ⟨g2, r1, r2, r3, r4, r5, r6⟩ := bg_u Z dco nd3 2 (Nat.le_refl 2) fu_ g1 (by decide) q2 q3 q4 q5 (fun c h => by omega)
  obtain ⟨g3, s1, s2, s3⟩ := e_fil (r := 78) (v := 0) r4.2.2.2.2.2.1 (by rw [r4.2.2.2.2.2.2]; omega)
  have s2' : FI R3 g2 g3 := FI_mono (fun r e => Or.inr (Or.inr e)) s2
  have F3 := FI_tr r2 s2'
  have V4 : CV g3 co K0 := cv_fi r3 s2' dco (fun i hi => by rw [r2.2.2.2.2.2.1]; exact nd3 i hi)
  have B4 := mb_fi r4 s2'
  have a76 : ¬ (76 : Nat) = 78 := by decide
  have a77 : ¬ (77 : Nat) = 78 := by decide
  have hna := Z.1
  obtain ⟨g, t1, t2, t3, t4, t5, t6, t7⟩ := bg_o Z dco nd3 na (Nat.le_refl na) fu_ g3 (by unfold fu_; omega) F3 V4 B4 (fun c hc => by rw [s2.2.2.2.2.2.2 76 a76]; exact r5 c hc) (fun c hc => by rw [s2.2.2.2.2.2.2 77 a77]; exact r6 c hc) (fun t ht => by
    refine ⟨0, ?_, by omega, fun m _ => ?_⟩
    · rw [s3 t (by rw [r4.2.2.2.2.2.2]; exact ht)]; rfl
    · rw [Nat.zero_testBit]
      exact ⟨fun e => Bool.noConfusion e, fun e => by omega⟩)
  have kx : ∀ i, i ≤ 10 → KX K0 g (nI oc) v i = K0 i := fun i hi => by
    unfold KX
    rw [if_neg (by omega), if_neg (by omega), if_neg (by omega), if_neg (by omega)]
  have ZX := kw_cg kx Z
  have PX := kp_cg kx
  have M : MR g (KX K0 g (nI oc) v) co := by
    have n75 : ¬ R3 75 := by rintro (e | e | e) <;> omega
    refine ⟨t4.1, t4.2.1, t3.1, fun i hi => ?_, ?_, ⟨t4.2.2.1.1, t4.2.2.1.2.1, t4.2.2.1.2.2, ?_⟩, ⟨t4.2.2.2.1.1, t4.2.2.2.1.2.1, t4.2.2.2.1.2.2, ?_⟩, ⟨t4.2.2.2.2.1, t4.2.2.2.2.2.1, t4.2.2.2.2.2.2, ?_⟩, ?_, ?_⟩
    · rw [kx i (by omega)]; exact t3.2.1 i hi
    · rw [kx 10 (by omega)]; exact t3.2.2
    · unfold KX; rw [if_pos rfl]
    · unfold KX; rw [if_neg (by decide), if_pos rfl]
    · unfold KX; rw [if_neg (by decide), if_neg (by decide), if_pos rfl]
    · rw [t2.2.2.2.2.2.2 75 n75, hb3_38.1]; rfl
    · rw [t2.2.2.2.2.2.2 75 n75, hb3_38.2]; rfl
  refine ⟨g, ?_, M, ⟨rfl, hoc, fun c hc => ?_, fun m hm => ?_, fun t ht => ?_⟩, t2⟩
  · unfold f_X2_begin b_X2_begin_0
    rw [show p_r h 75 2 7 co = some (st_r h 75 7 co) from if_pos o1, Option.bind_some, show p_i (st_r h 75 7 co) 75 2 3 (nI oc) = some (st_i (st_r h 75 7 co) 75 3 (nI oc)) from if_pos o1, Option.bind_some, show p_i (st_i (st_r h 75 7 co) 75 3 (nI oc)) 75 2 8 v = some (hb3 h co (nI oc) v) from if_pos o1, Option.bind_some]
    rw [show (0 : Int32) = nI (6 - 6) from rfl, q1]
    unfold b_X2_begin_48
    rw [show (0 : Int32) = nI (2 - 2) from rfl, r1]
    unfold b_X2_begin_80
    rw [show g_r g2 75 2 6 = some (hp_r g2 75 6) from if_pos r4.1, r4.2.2.2.2.1, Option.bind_some, s1, Option.bind_some]
    rw [Nat.sub_self] at t1
    rw [show (0 : Int32) = nI 0 from rfl, t1]
    unfold b_X2_begin_140
    rw [mr_v M, Option.bind_some, e_set0 M, Option.bind_some]
    have e := bg_t M ZX nt (Nat.le_refl nt) fu_ 0 (by unfold fu_; have := Z.2.1; omega)
    rw [Nat.sub_self] at e
    exact e
  · obtain ⟨w, w1, w2, w3⟩ := t5 c hc
    exact ⟨w, w1, w2, by rw [PX]; exact w3⟩
  · obtain ⟨w, w1, w2, w3⟩ := t6 m hm
    exact ⟨w, w1, w2, by rw [PX]; exact w3⟩
  · obtain ⟨w, w1, w2, w3⟩ := t7 t (by have := Z.2.1; omega)
    exact ⟨w, w1, w2, by rw [PX]; exact w3⟩
/-- Search.begin(): the heap at which the search starts -/
def h74 (h : AH) (pr goal : Nat) : AH := st_i (st_i (st_i (st_i (st_r h 74 7 pr) 74 8 (nI goal)) 74 11 0) 90 4 (hp_i h 90 4 + 1)) 90 5 0
theorem h74_n : hp_n (h74 h pr goal) = hp_n h ∧ hp_s (h74 h pr goal) = hp_s h ∧ hp_k (h74 h pr goal) = hp_k h ∧ hp_l (h74 h pr goal) = hp_l h ∧ hp_j (h74 h pr goal) = hp_j h := ⟨rfl, rfl, rfl, rfl, rfl⟩
theorem h74_ok {r c : Nat} (o : ok_o h r c) : ok_o (h74 h pr goal) r c := o
theorem h74_i {r : Nat} (h7 : r ≠ 74) (h9 : r ≠ 90) : hp_i (h74 h pr goal) r = hp_i h r := by
  unfold h74; rw [sti_r h9, sti_r h9, sti_r h7, sti_r h7, str_i]
theorem h74_r {r : Nat} (h7 : r ≠ 74) : hp_r (h74 h pr goal) r = hp_r h r := by
  unfold h74; rw [sti_rr, sti_rr, sti_rr, sti_rr, str_r h7]
theorem h74_rk {k : Nat} (hk : k ≠ 7) : hp_r (h74 h pr goal) 74 k = hp_r h 74 k := by
  unfold h74; rw [sti_rr, sti_rr, sti_rr, sti_rr, str_k hk]
theorem h74_r7 : hp_r (h74 h pr goal) 74 7 = pr := by
  unfold h74; rw [sti_rr, sti_rr, sti_rr, sti_rr, str_s]
theorem h74_74 : hp_i (h74 h pr goal) 74 8 = nI goal ∧ hp_i (h74 h pr goal) 74 11 = 0 ∧ ∀ k, k ≠ 8 → k ≠ 11 → hp_i (h74 h pr goal) 74 k = hp_i h 74 k := by
  have a : (74 : Nat) ≠ 90 := by decide
  have b : (8 : Nat) ≠ 11 := by decide
  unfold h74
  refine ⟨?_, ?_, fun k h8 h11 => ?_⟩
  · rw [sti_r a, sti_r a, sti_k b, sti_s]
  · rw [sti_r a, sti_r a, sti_s]
  · rw [sti_r a, sti_r a, sti_k h11, sti_k h8, str_i]
theorem h74_904 : hp_i (h74 h pr goal) 90 4 = hp_i h 90 4 + 1 := by
  have b : (4 : Nat) ≠ 5 := by decide
  unfold h74
  rw [sti_k b, sti_s]
theorem e_bg8 {tn : Nat} {kd : Nat → Int32} (Z : KW K0 te ow na nt sz) (H : HB h tn) (P : PB h pr co K0 kd) (hoc : oc ≤ 3) (hg : goal ≤ 3) :
    ∃ g, f_X8_begin 74 pr (nI oc) v (nI goal) h = some (sT g (m_bg (KX K0 g (nI oc) v) nt 0 0) 0 0) ∧ BS (sT g (m_bg (KX K0 g (nI oc) v) nt 0 0) 0 0) (KX K0 g (nI oc) v) co pr goal ∧ KS (KX K0 g (nI oc) v) na nt oc ∧ FB h (sT g (m_bg (KX K0 g (nI oc) v) nt 0 0) 0 0) ∧ hp_i (sT g (m_bg (KX K0 g (nI oc) v) nt 0 0) 0 0) 74 11 = 0 ∧ hp_i (sT g (m_bg (KX K0 g (nI oc) v) nt 0 0) 0 0) 90 4 = nI (tn + 1) ∧ ∀ y, ¬ VS (sT g (m_bg (KX K0 g (nI oc) v) nt 0 0) 0 0) y := by
  obtain ⟨⟨t1, t2, t3, t4, t5, t6⟩, ⟨u1, u2⟩, ⟨L, S⟩, ⟨M, O⟩, ⟨p1, p2⟩, ⟨w1, w2⟩, d1, ⟨d2, d3, d4, d5, d6⟩, ⟨d7, d8, d9, d10, d11⟩, d12, d13, d14⟩ := H
  obtain ⟨r1, r2, V, nr, k1, k2, k3, k4⟩ := P
  have kpr : hp_k h pr = 5 := r1.2.2
  have kco : hp_k h co = 0 := V.1.2.2
  have n74 : pr ≠ 74 := fun e => by rw [e, t1.2.2] at kpr; omega
  have n75 : pr ≠ 75 := fun e => by rw [e, u1.2.2] at kpr; omega
  have c74 : co ≠ 74 := fun e => by rw [e, t1.2.2] at kco; omega
  have c90 : co ≠ 90 := fun e => by rw [e, S.1.2.2] at kco; omega
  have c75 : co ≠ 75 := fun e => by rw [e, u1.2.2] at kco; omega
  have ka : ∀ i, i < 10 → hp_k h (hp_r h co i) = 100 := fun i hi => (V.2.1 i hi).1.2.2
  have a74 : ∀ i, i < 10 → hp_r h co i ≠ 74 ∧ hp_r h co i ≠ 75 ∧ hp_r h co i ≠ 90 ∧ hp_r h co i ≠ 95 ∧ hp_r h co i ≠ pr := fun i hi => by
    have := ka i hi
    refine ⟨fun e => ?_, fun e => ?_, fun e => ?_, fun e => ?_, fun e => ?_⟩
    · rw [e, t1.2.2] at this; omega
    · rw [e, u1.2.2] at this; omega
    · rw [e, S.1.2.2] at this; omega
    · rw [e, O.1.2.2] at this; omega
    · rw [e, kpr] at this; omega
  have x75 : (75 : Nat) ≠ 74 := by decide
  have x90 : (90 : Nat) ≠ 74 := by decide
  have V1 : CV (h74 h pr goal) co K0 := by
    refine ⟨h74_ok V.1, fun i hi => ?_, by rw [h74_i c74 c90]; exact V.2.2⟩
    obtain ⟨a, b, c⟩ := V.2.1 i hi
    rw [h74_r c74]
    exact ⟨h74_ok a, b, by rw [h74_i (a74 i hi).1 (a74 i hi).2.2.1]; exact c⟩
  obtain ⟨g, q1, q2, q3, q4⟩ := e_bg (h := h74 h pr goal) (oc := oc) (v := v) Z V1 (h74_ok u1) (by rw [h74_r x75]; exact u2) (fun i hi => by
    rw [h74_r c74]
    intro e
    exact nr i hi (by obtain e | e | e := e; exact Or.inl e; exact Or.inr (Or.inl e); exact Or.inr (Or.inr (Or.inl e)))) hoc
  -- the heap at the start, piece by piece
  have z90 : hp_r h 90 3 ≠ 75 := fun e => by have := S.2.2.2.2.1.1.2.2; rw [e, u1.2.2] at this; omega
  have gi : ∀ r, r ≠ 74 → r ≠ 75 → r ≠ 76 → r ≠ 77 → r ≠ 78 → r ≠ 90 → hp_i g r = hp_i h r := fun r e1 e2 e3 e4 e5 e6 => by
    rw [q4.2.2.2.2.2.2 r (by rintro (e | e | e); exact e3 e; exact e4 e; exact e5 e), hb3_i e2, h74_i e1 e6]
  have gr : ∀ r, r ≠ 74 → r ≠ 75 → hp_r g r = hp_r h r := fun r e1 e2 => by
    rw [q4.2.2.2.2.2.1, hb3_r e2, h74_r e1]
  have g74r : ∀ k, hp_r g 74 k = hp_r (h74 h pr goal) 74 k := fun k => by rw [q4.2.2.2.2.2.1, hb3_r (Ne.symm x75)]
  have r374 : ¬ R3 74 := by rintro (e | e | e) <;> omega
  have r390 : ¬ R3 90 := by rintro (e | e | e) <;> omega
  have g74i : ∀ k, hp_i g 74 k = hp_i (h74 h pr goal) 74 k := fun k => by rw [q4.2.2.2.2.2.2 74 r374, hb3_i (Ne.symm x75)]
  have g90i : ∀ k, hp_i g 90 k = hp_i (h74 h pr goal) 90 k := fun k => by rw [q4.2.2.2.2.2.2 90 r390, hb3_i (show (90 : Nat) ≠ 75 by decide)]
  have gn : hp_n g = hp_n h := q4.1
  have gs : hp_s g = hp_s h := q4.2.1
  have gk : hp_k g = hp_k h := q4.2.2.1
  have gl : hp_l g = hp_l h := q4.2.2.2.1
  have gj : hp_j g = hp_j h := q4.2.2.2.2.1
  have gok : ∀ r c, ok_o h r c → ok_o g r c := fun r c o => ⟨o.1, by rw [gn]; exact o.2.1, by rw [gk]; exact o.2.2⟩
  have e90 : hp_r g 90 = hp_r h 90 := gr 90 x90 (by decide)
  have e95 : hp_r g 95 = hp_r h 95 := gr 95 (by decide) (by decide)
  have krow : hp_k h (hp_r h 95 0) = 100 := O.2.1.2.2
  have rown : hp_r h 95 0 ≠ 74 ∧ hp_r h 95 0 ≠ 75 ∧ hp_r h 95 0 ≠ 90 := by
    refine ⟨fun e => ?_, fun e => ?_, fun e => ?_⟩
    · rw [e, t1.2.2] at krow; omega
    · rw [e, u1.2.2] at krow; omega
    · rw [e, S.1.2.2] at krow; omega
  have gtu : hp_i g (hp_r h 90 3) = hp_i h (hp_r h 90 3) := by
    have kt : hp_k h (hp_r h 90 3) = 100 := S.2.2.2.2.1.1.2.2
    refine gi _ (fun e => ?_) z90 d2 d3 d4 (fun e => ?_)
    · rw [e, t1.2.2] at kt; omega
    · rw [e, S.1.2.2] at kt; omega
  have SI1 : SI g L := by
    obtain ⟨s1, s2, s3, s4, s5, s6, s7, s8, s9⟩ := S
    rw [SI, e90, gl]
    exact ⟨gok _ _ s1, ⟨gok _ _ s2.1, s2.2⟩, ⟨gok _ _ s3.1, s3.2⟩, ⟨gok _ _ s4.1, s4.2⟩, ⟨gok _ _ s5.1, s5.2⟩, s6, s7, s8, s9, tn + 1, by rw [g90i, h74_904, d12, nI_1], by omega, d13, fun j hj => by
      rw [e90, gl] at hj
      obtain ⟨m, m1, m2⟩ := d14 j hj
      exact ⟨m, by omega, by rw [e90, gtu]; exact m2⟩⟩
  have OI1 : OI g M := by
    obtain ⟨o1, o2, o3, o4, o5, o6, o7, o8⟩ := O
    rw [OI, e95, gl, gi _ rown.1 rown.2.1 d7 d8 d9 rown.2.2, gi 95 (by decide) (by decide) (by decide) (by decide) (by decide) (by decide)]
    exact ⟨gok _ _ o1, gok _ _ o2, o3, o4, o5, o6, o7, o8⟩
  have SF1 : SF g pr co goal := by
    refine ⟨gok _ _ t1, ?_, ?_, gok _ _ S.1, ?_, gok _ _ p1, by rw [gl]; exact p2, ?_, gok _ _ r1, ?_, ?_⟩
    · rw [g74r, h74_rk (show (0 : Nat) ≠ 7 by decide)]; exact t2
    · rw [g74r, h74_rk (show (1 : Nat) ≠ 7 by decide)]; exact t3
    · rw [g74r, h74_rk (show (3 : Nat) ≠ 7 by decide)]; exact t5
    · rw [g74r, h74_r7]
    · rw [gr pr n74 n75]; exact r2
    · rw [g74i, h74_74.1]
  have hsw : ∀ r, (r = co ∨ (∃ i, i < 10 ∧ r = hp_r g co i) ∨ r = 76 ∨ r = 77 ∨ r = 78) → ¬ SW g pr r := by
    have lng : hp_k h (hp_r h 90 0) = 101 ∧ hp_k h (hp_r h 90 1) = 101 ∧ hp_k h (hp_r h 90 2) = 101 := ⟨S.2.1.1.2.2, S.2.2.1.1.2.2, S.2.2.2.1.1.2.2⟩
    have ktu : hp_k h (hp_r h 90 3) = 100 := S.2.2.2.2.1.1.2.2
    have big : ∀ r, hp_k h r = 100 → r ≠ 97 → r ≠ 98 → r ≠ hp_r h 90 3 → r ≠ hp_r h 95 0 → ¬ SW g pr r := by
      intro r hk e1 e2 e3 e4
      unfold SW S4
      rw [e90, e95]
      rintro (e | e | e | e | e | e | (e | e | e | e | e) | e)
      · rw [e, t1.2.2] at hk; omega
      · rw [e, u1.2.2] at hk; omega
      · rw [e, O.1.2.2] at hk; omega
      · exact e1 e
      · exact e2 e
      · rw [e, kpr] at hk; omega
      · rw [e, S.1.2.2] at hk; omega
      · rw [e, lng.1] at hk; omega
      · rw [e, lng.2.1] at hk; omega
      · rw [e, lng.2.2] at hk; omega
      · exact e3 e
      · exact e4 e
    rintro r (e | ⟨i, hi, e⟩ | e | e | e)
    · rw [e]
      unfold SW S4
      rw [e90, e95]
      rintro (e | e | e | e | e | e | (e | e | e | e | e) | e)
      · exact c74 e
      · exact c75 e
      · rw [e, O.1.2.2] at kco; omega
      · rw [e, p1.2.2] at kco; omega
      · rw [e, w1.2.2] at kco; omega
      · rw [e, kpr] at kco; omega
      · exact c90 e
      · rw [e, lng.1] at kco; omega
      · rw [e, lng.2.1] at kco; omega
      · rw [e, lng.2.2] at kco; omega
      · rw [e, ktu] at kco; omega
      · rw [e, krow] at kco; omega
    · rw [gr co c74 c75] at e
      rw [e]
      have n := nr i hi
      exact big _ (ka i hi) (fun e => n (Or.inr (Or.inr (Or.inr (Or.inl e))))) (fun e => n (Or.inr (Or.inr (Or.inr (Or.inr (Or.inl e)))))) (fun e => n (Or.inr (Or.inr (Or.inr (Or.inr (Or.inr (Or.inl e))))))) (fun e => n (Or.inr (Or.inr (Or.inr (Or.inr (Or.inr (Or.inr e)))))))
    · rw [e]; exact big _ u2.1.2.1.2.2 (by decide) (by decide) (Ne.symm d2) (Ne.symm d7)
    · rw [e]; exact big _ u2.2.1.2.1.2.2 (by decide) (by decide) (Ne.symm d3) (Ne.symm d8)
    · rw [e]; exact big _ u2.2.2.2.1.2.2 (by decide) (by decide) (Ne.symm d4) (Ne.symm d9)
  refine ⟨g, ?_, ?_, q3, ?_, ?_, ?_, ?_⟩
  · unfold f_X8_begin b_X8_begin_0
    have y1 : g_r (st_i (st_i (st_r h 74 7 pr) 74 8 (nI goal)) 74 11 0) 74 8 1 = some 90 := by
      have e : g_r (st_i (st_i (st_r h 74 7 pr) 74 8 (nI goal)) 74 11 0) 74 8 1 = some (hp_r (st_i (st_i (st_r h 74 7 pr) 74 8 (nI goal)) 74 11 0) 74 1) := if_pos t1
      rw [e, sti_rr, sti_rr, str_k (show (1 : Nat) ≠ 7 by decide), t3]
    have y2 : hp_i (st_i (st_i (st_r h 74 7 pr) 74 8 (nI goal)) 74 11 0) 90 4 = hp_i h 90 4 := by rw [sti_r x90, sti_r x90, str_i]
    rw [show p_r h 74 8 7 pr = some (st_r h 74 7 pr) from if_pos t1, Option.bind_some, show p_i (st_r h 74 7 pr) 74 8 8 (nI goal) = some (st_i (st_r h 74 7 pr) 74 8 (nI goal)) from if_pos t1, Option.bind_some, show p_z (st_i (st_r h 74 7 pr) 74 8 (nI goal)) 74 8 11 0 = some (st_i (st_i (st_r h 74 7 pr) 74 8 (nI goal)) 74 11 0) from if_pos ⟨t1, Or.inl rfl⟩, Option.bind_some, y1, Option.bind_some, show ok_v (st_i (st_i (st_r h 74 7 pr) 74 8 (nI goal)) 74 11 0) 90 9 = some () from if_pos S.1, Option.bind_some]
    have y3 : f_X9_clear 90 (st_i (st_i (st_r h 74 7 pr) 74 8 (nI goal)) 74 11 0) = some (h74 h pr goal) := by
      unfold f_X9_clear b_X9_clear_0
      rw [show g_i (st_i (st_i (st_r h 74 7 pr) 74 8 (nI goal)) 74 11 0) 90 9 4 = some (hp_i (st_i (st_i (st_r h 74 7 pr) 74 8 (nI goal)) 74 11 0) 90 4) from if_pos S.1, y2, Option.bind_some, show p_i (st_i (st_i (st_r h 74 7 pr) 74 8 (nI goal)) 74 11 0) 90 9 4 (hp_i h 90 4 + 1) = some (st_i (st_i (st_i (st_r h 74 7 pr) 74 8 (nI goal)) 74 11 0) 90 4 (hp_i h 90 4 + 1)) from if_pos S.1, Option.bind_some, show p_i (st_i (st_i (st_i (st_r h 74 7 pr) 74 8 (nI goal)) 74 11 0) 90 4 (hp_i h 90 4 + 1)) 90 9 5 0 = some (h74 h pr goal) from if_pos S.1, Option.bind_some]
    rw [y3, Option.bind_some]
    have y4 : g_r (h74 h pr goal) 74 8 0 = some 75 := by
      have e : g_r (h74 h pr goal) 74 8 0 = some (hp_r (h74 h pr goal) 74 0) := if_pos t1
      rw [e, h74_rk (show (0 : Nat) ≠ 7 by decide), t2]
    have y5 : g_r (h74 h pr goal) pr 5 0 = some co := by
      have e : g_r (h74 h pr goal) pr 5 0 = some (hp_r (h74 h pr goal) pr 0) := if_pos r1
      rw [e, h74_r n74, r2]
    rw [y4, Option.bind_some, y5, Option.bind_some, show ok_v (h74 h pr goal) 75 2 = some () from if_pos u1, Option.bind_some, q1, Option.bind_some]
  · refine ⟨mr_T q2, sf_T SF1, ⟨L, SI1⟩, ⟨M, OI1⟩, ⟨gok _ _ w1, by show hp_l g 98 = 17; rw [gl]; exact w2, ?_, ?_⟩, hsw, ?_, ?_, ?_, ?_, ?_⟩
    · show hp_r g 74 4 = 98
      rw [g74r, h74_rk (show (4 : Nat) ≠ 7 by decide)]; exact t6
    · show hp_r g 74 2 = 95
      rw [g74r, h74_rk (show (2 : Nat) ≠ 7 by decide)]; exact t4
    · show hp_r g 90 3 ≠ hp_r g 95 0
      rw [e90, e95]; exact d1
    · show hp_r g 90 3 ≠ 97
      rw [e90]; exact d5
    · show hp_r g 90 3 ≠ 98
      rw [e90]; exact d6
    · show hp_r g 95 0 ≠ 97
      rw [e95]; exact d10
    · show hp_r g 95 0 ≠ 98
      rw [e95]; exact d11
  · refine ⟨by rw [sT_n]; exact gn, by rw [sT_sz]; exact gs, by rw [sT_kk]; exact gk, by rw [sT_l]; exact gl, fun r e1 e2 e3 e4 e5 e6 => by rw [sT_i]; exact gi r e1 e2 e3 e4 e5 e6, fun r e => by rw [sT_j e, gj], fun r e1 e2 => by rw [sT_rr]; exact gr r e1 e2, fun k hk => by rw [sT_rr, g74r, h74_rk hk], fun k h8 h11 => by rw [sT_i, g74i, h74_74.2.2 k h8 h11]⟩
  · rw [sT_i, g74i, h74_74.2.1]
  · rw [sT_i, g90i, h74_904, d12, nI_1]
  · rintro y ⟨j, j1, j2, -⟩
    rw [sT_l, sT_rr, e90, gl] at j1
    rw [sT_i, sT_rr, e90, gtu, g90i, h74_904, d12, nI_1] at j2
    obtain ⟨m, m1, m2⟩ := d14 j j1
    rw [m2, nI_eq (by omega) (by omega)] at j2
    omega
end
