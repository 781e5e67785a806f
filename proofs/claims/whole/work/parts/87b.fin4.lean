/-! ===== the ends of runs: RACES, the heap ===== -/
section
variable {h1 h : AH} {K : Nat → Nat → Int32} {te ow : Nat → Nat} {na nt sz oc co pr goal : Nat} {kd : Nat → Int32} {T C E : Int64}
theorem sT_74 {v v' : Int64} : st_j (sT (st_j h 74 12 v) T C E) 74 12 v' = sT (st_j h 74 12 v') T C E := by
  unfold sT
  rw [st_j_comm (by decide), st_j_comm (h := st_j (st_j h 74 12 v) 75 0 T) (by decide), st_j_comm (h := st_j h 74 12 v) (by decide), st_j_over]
theorem st_j_id {g : AH} {r k : Nat} : st_j g r k (hp_j g r k) = g := by
  show (hp_n g, hp_s g, hp_k g, hp_l g, hp_i g, up_2 (hp_j g) r k (hp_j g r k), hp_r g) = g
  rw [show up_2 (hp_j g) r k (hp_j g r k) = hp_j g from by
    funext a b
    unfold up_2
    split
    · rename_i e; rw [e.1, e.2]
    · rfl]
  rfl
theorem mr_74 {v : Int64} (M : MR h K co) : MR (st_j h 74 12 v) K co := M
theorem sf_74 {v : Int64} (F : SF h pr co goal) : SF (st_j h 74 12 v) pr co goal := F
theorem nr_j {v : Int64} (F : SF h pr co goal) : g_j (sT (st_j h 74 12 v) T C E) 74 8 12 = some v := by
  have e : g_j (sT (st_j h 74 12 v) T C E) 74 8 12 = some (hp_j (sT (st_j h 74 12 v) T C E) 74 12) := if_pos F.1
  rw [e, sT_j (show (74 : Nat) ≠ 75 by decide)]
  show some (up_2 (hp_j h) 74 12 v 74 12) = _
  rw [up2_same]
theorem e_rc1 (M : MR h K co) (F : SF h pr co goal) (kk : ok_o h (hp_r h pr 1) 100) (kl : hp_l h (hp_r h pr 1) = 8) (kv' : hp_i h (hp_r h pr 1) = kd) {r10 : Nat → Int32 → Int32 → AH → Option AH} {dn : Int32} {v : Int64} {i j fu : Nat} (hi : i < j) (hj : j < 8) :
    l_X8_noteRaces_18 r10 (fu + 1) 74 dn (nI j) (nI i) (sT (st_j h 74 12 v) T C E) = l_X8_noteRaces_18 r10 fu 74 dn (nI j) (nI (i + 1)) (sT (st_j h 74 12 (m_rc1 K kd dn E i j v)) T C E) := by
  have M1 := mr_74 (v := v) M
  have F1 := sf_74 (v := v) F
  have F2 : SF (sT (st_j h 74 12 v) T C E) pr co goal := F
  show b_X8_noteRaces_18 r10 (l_X8_noteRaces_18 r10 fu) 74 dn (nI j) (nI i) _ = _
  unfold b_X8_noteRaces_18
  rw [if_neg (nI_ge hi (by omega))]
  unfold b_X8_noteRaces_23 m_rc1
  have stay : b_X8_noteRaces_103 r10 (l_X8_noteRaces_18 r10 fu) 74 dn (nI j) (nI i) (sT (st_j h 74 12 v) T C E) = l_X8_noteRaces_18 r10 fu 74 dn (nI j) (nI (i + 1)) (sT (st_j h 74 12 v) T C E) := by
    unfold b_X8_noteRaces_103
    rw [nI_1]
  by_cases c1 : (((dn >>> (nI i &&& 31)) &&& (dn >>> (nI j &&& 31))) &&& (1 : Int32)) = 0
  · rw [if_pos c1, if_pos c1]; exact stay
  · rw [if_neg c1, if_neg c1]
    unfold b_X8_noteRaces_35
    rw [sf_v F2, Option.bind_some, e_mr (kd := kd) M1 F1 kk kl kv' (by omega) hj, Option.bind_some]
    by_cases c2 : m_mr K kd i j = false
    · rw [c2, if_neg Bool.false_ne_true, if_pos rfl, if_pos rfl]; exact stay
    · have c2' : m_mr K kd i j = true := by cases hm : m_mr K kd i j with | true => rfl | false => exact absurd hm c2
      rw [c2', if_pos rfl, if_neg (show ¬ (1 : Int32) = 0 by decide), if_neg (show ¬ true = false by decide)]
      unfold b_X8_noteRaces_44
      rw [sf_r0 F2, Option.bind_some, mg_j2 M1, Option.bind_some]
      by_cases c3 : lg_cmp ((us_j E (((8 : Int32) * nI j) + nI i)) &&& (1 : Int64)) (0 : Int64) = 0
      · rw [if_pos c3, if_pos c3]
        unfold b_X8_noteRaces_65
        rw [sf_r0 F2, Option.bind_some, mg_j2 M1, Option.bind_some]
        by_cases c4 : lg_cmp ((us_j E (((8 : Int32) * nI i) + nI j)) &&& (1 : Int64)) (0 : Int64) = 0
        · rw [if_pos c4, if_pos c4]
          unfold b_X8_noteRaces_86
          rw [nr_j F, Option.bind_some]
          have e : p_j (sT (st_j h 74 12 v) T C E) 74 8 12 (v ||| ((1 : Int64) <<< ((((8 : Int32) * nI i) + nI j).toInt64 &&& 63))) = some (st_j (sT (st_j h 74 12 v) T C E) 74 12 (v ||| ((1 : Int64) <<< ((((8 : Int32) * nI i) + nI j).toInt64 &&& 63)))) := if_pos F.1
          rw [e, Option.bind_some, sT_74]
          unfold b_X8_noteRaces_103
          rw [nI_1]
          rfl
        · rw [if_neg c4, if_neg c4]; exact stay
      · rw [if_neg c3, if_neg c3]; exact stay
theorem e_ri (M : MR h K co) (F : SF h pr co goal) (kk : ok_o h (hp_r h pr 1) 100) (kl : hp_l h (hp_r h pr 1) = 8) (kv' : hp_i h (hp_r h pr 1) = kd) {r10 : Nat → Int32 → Int32 → AH → Option AH} {dn : Int32} {j : Nat} (hj : j < 8) : ∀ n, n ≤ j → ∀ (fu : Nat) (v : Int64), n < fu →
    l_X8_noteRaces_18 r10 fu 74 dn (nI j) (nI (j - n)) (sT (st_j h 74 12 v) T C E) = r10 74 dn (nI (j + 1)) (sT (st_j h 74 12 (m_ri K kd dn E j n (j - n) v)) T C E) := by
  intro n
  induction n with
  | zero =>
    intro _ fu v hf
    obtain ⟨fu, rfl⟩ : ∃ f, fu = f + 1 := ⟨fu - 1, by omega⟩
    show b_X8_noteRaces_18 r10 (l_X8_noteRaces_18 r10 fu) 74 dn (nI j) (nI (j - 0)) _ = _
    unfold b_X8_noteRaces_18
    rw [if_pos (nI_le (by omega) (by omega))]
    unfold b_X8_noteRaces_109
    rw [nI_1]
    rfl
  | succ n ih =>
    intro hn fu v hf
    obtain ⟨fu, rfl⟩ : ∃ f, fu = f + 1 := ⟨fu - 1, by omega⟩
    rw [e_rc1 M F kk kl kv' (by omega) hj, show j - (n + 1) + 1 = j - n by omega, ih (by omega) fu _ (by omega)]
    show _ = r10 74 dn (nI (j + 1)) (sT (st_j h 74 12 (m_ri K kd dn E j n (j - (n + 1) + 1) (m_rc1 K kd dn E (j - (n + 1)) j v))) T C E)
    rw [show j - (n + 1) + 1 = j - n by omega]
theorem e_rj (M : MR h K co) (F : SF h pr co goal) (kk : ok_o h (hp_r h pr 1) 100) (kl : hp_l h (hp_r h pr 1) = 8) (kv' : hp_i h (hp_r h pr 1) = kd) {dn : Int32} : ∀ n, n ≤ 7 → ∀ (fu : Nat) (v : Int64), n < fu →
    l_X8_noteRaces_10 fu 74 dn (nI (8 - n)) (sT (st_j h 74 12 v) T C E) = some (sT (st_j h 74 12 (m_rj K kd dn E n (8 - n) v)) T C E) := by
  intro n
  induction n with
  | zero =>
    intro _ fu v hf
    obtain ⟨fu, rfl⟩ : ∃ f, fu = f + 1 := ⟨fu - 1, by omega⟩
    show b_X8_noteRaces_10 (l_X8_noteRaces_10 fu) 74 dn (nI 8) _ = _
    unfold b_X8_noteRaces_10
    rw [if_pos (by decide)]
    rfl
  | succ n ih =>
    intro hn fu v hf
    obtain ⟨fu, rfl⟩ : ∃ f, fu = f + 1 := ⟨fu - 1, by omega⟩
    show b_X8_noteRaces_10 (l_X8_noteRaces_10 fu) 74 dn (nI (8 - (n + 1))) _ = _
    unfold b_X8_noteRaces_10
    rw [if_neg (show ¬ (8 : Int32) ≤ nI (8 - (n + 1)) from nI_ge (b := 8) (by omega) (by omega))]
    unfold b_X8_noteRaces_16
    have e := e_ri (T := T) (C := C) (E := E) (dn := dn) (r10 := l_X8_noteRaces_10 fu) M F kk kl kv' (j := 8 - (n + 1)) (by omega) (8 - (n + 1)) (Nat.le_refl _) fu_ v (by unfold fu_; omega)
    rw [Nat.sub_self] at e
    rw [show (0 : Int32) = nI 0 from rfl, e, show 8 - (n + 1) + 1 = 8 - n by omega, ih (by omega) fu _ (by omega)]
    show _ = some (sT (st_j h 74 12 (m_rj K kd dn E n (8 - (n + 1) + 1) (m_ri K kd dn E (8 - (n + 1)) (8 - (n + 1)) 0 v))) T C E)
    rw [show 8 - (n + 1) + 1 = 8 - n by omega]
def GRa (h1 : AH) (pr : Nat) (M0 : List Int32) (h : AH) (a : Int64) : Prop :=
  CG h1 h pr M0 ∧ hp_i h 74 11 = 0 ∧ hp_j h pr = hp_j h1 pr ∧ hp_j h 74 12 = a ∧ hp_i h 74 6 = hp_i h1 74 6 ∧ hp_i h 98 = hp_i h1 98
theorem stj_n {g : AH} {r k : Nat} {v : Int64} : hp_n (st_j g r k v) = hp_n g := rfl
theorem stj_sz {g : AH} {r k : Nat} {v : Int64} : hp_s (st_j g r k v) = hp_s g := rfl
theorem stj_kk {g : AH} {r k : Nat} {v : Int64} : hp_k (st_j g r k v) = hp_k g := rfl
theorem stj_l {g : AH} {r k : Nat} {v : Int64} : hp_l (st_j g r k v) = hp_l g := rfl
theorem stj_rr {g : AH} {r k : Nat} {v : Int64} : hp_r (st_j g r k v) = hp_r g := rfl
theorem stj_i {g : AH} {r k : Nat} {v : Int64} : hp_i (st_j g r k v) = hp_i g := rfl
theorem stj_r {g : AH} {r k r' : Nat} {v : Int64} (hr : r' ≠ r) : hp_j (st_j g r k v) r' = hp_j g r' := by
  funext j
  exact up2_r hr
theorem stj_s {g : AH} {r k : Nat} {v : Int64} : hp_j (st_j g r k v) r k = v := up2_same
theorem sT_n {g : AH} {T C E : Int64} : hp_n (sT g T C E) = hp_n g := rfl
theorem sT_sz {g : AH} {T C E : Int64} : hp_s (sT g T C E) = hp_s g := rfl
theorem sT_kk {g : AH} {T C E : Int64} : hp_k (sT g T C E) = hp_k g := rfl
theorem sT_l {g : AH} {T C E : Int64} : hp_l (sT g T C E) = hp_l g := rfl
theorem sT_rr {g : AH} {T C E : Int64} : hp_r (sT g T C E) = hp_r g := rfl
theorem gr_fin {M0 : List Int32} (B : BS h1 K co pr goal) (g : CG h1 h pr M0) (g2 : hp_i h 74 11 = 0) (g3 : hp_j h pr = hp_j h1 pr) (g5 : hp_i h 74 6 = hp_i h1 74 6) (g6 : hp_i h 98 = hp_i h1 98) {v : Int64} : GRa h1 pr M0 (sT (st_j h 74 12 v) T C E) v ∧ (∀ y, VS (sT (st_j h 74 12 v) T C E) y ↔ VS h y) ∧ hp_i (sT (st_j h 74 12 v) T C E) 97 = hp_i h 97 := by
  obtain ⟨b1, b2, b3, b4, b5, b6, b7, b8⟩ := bs_ne B
  have a74 : (74 : Nat) ≠ 75 := by decide
  obtain ⟨e1, e2⟩ := cg_own B g (h' := sT (st_j h 74 12 v) T C E) (by rw [sT_n, stj_n]) (by rw [sT_sz, stj_sz]) (by rw [sT_kk, stj_kk]) (by rw [sT_l, stj_l]) (by rw [sT_rr, stj_rr]) (fun r _ _ _ => by rw [sT_i, stj_i]) (fun r h7 h8 _ => by rw [sT_j h8, stj_r h7]) (fun k _ _ => by rw [sT_i, stj_i])
  refine ⟨⟨e1, ?_, ?_, ?_, ?_, ?_⟩, e2, ?_⟩
  · rw [sT_i, stj_i]; exact g2
  · rw [sT_j b2, stj_r b1]; exact g3
  · rw [sT_j a74, stj_s]
  · rw [sT_i, stj_i]; exact g5
  · rw [sT_i, stj_i]; exact g6
  · rw [sT_i, stj_i]
theorem vbm_R {M0 : List Int32} (Z : KW K te ow na nt sz) (S : KS K na nt oc) (B : BS h1 K co pr 3) (d1 : ok_o h1 (hp_r h1 pr 1) 100) (d2 : ¬ SW h1 pr (hp_r h1 pr 1)) (d3 : hp_i h1 (hp_r h1 pr 1) = kd) (d4 : hp_l h1 (hp_r h1 pr 1) = 8) :
    VB K nt 3 co pr (GRa h1 pr M0) VS (fnR K kd) (fun _ => false) (fun a b => a ||| b = b) (RC K ow nt oc) := by
  obtain ⟨b1, b2, b3, b4, b5, b6, b7, b8⟩ := bs_ne B
  have a74 : (74 : Nat) ≠ 75 := by decide
  have a97 : (74 : Nat) ≠ 97 := by decide
  have a98 : (98 : Nat) ≠ 97 := by decide
  refine ⟨fun h a g => ?_, fun h a T C E g => ?_, fun h a k v hk g => ?_, fun h a x g => ?_, fun h a x d g hst hx hm => ?_, oa_R, fun x d => rc_16, fun x d d' h h' => h.2.symm.trans h'.2, fun x d t c hx ht hc => rc_ch Z S hx ht hc, Z.2.1, Z.2.2.2.2.1, by omega, fun _ _ _ _ _ _ => rfl, Or.inr (fun _ _ _ _ _ => rfl)⟩
  · exact ⟨fs_mr B g.1.1, fs_sf B g.1.1, by rw [g.2.1]; rfl⟩
  · obtain ⟨g1, g2, g3, g4, g5, g6⟩ := g
    obtain ⟨c1, c2⟩ := cg_own B g1 (h' := sT h T C E) sT_n sT_sz sT_kk sT_l sT_rr (fun r _ _ _ => by rw [sT_i]) (fun r _ hr _ => sT_j hr) (fun _ _ _ => by rw [sT_i])
    exact ⟨⟨c1, by rw [sT_i]; exact g2, by rw [sT_j b2]; exact g3, by rw [sT_j a74]; exact g4, by rw [sT_i]; exact g5, by rw [sT_i]; exact g6⟩, c2⟩
  · obtain ⟨g1, g2, g3, g4, g5, g6⟩ := g
    obtain ⟨c1, c2⟩ := cg_own B g1 (h' := st_i h 97 k v) sti_n sti_sz sti_kk sti_l sti_rr (fun r _ hr _ => by rw [sti_r hr]) (fun _ _ _ _ => by rw [sti_j]) (fun k' _ _ => by rw [sti_r a97])
    exact ⟨⟨c1, by rw [sti_r a97]; exact g2, by rw [sti_j]; exact g3, by rw [sti_j]; exact g4, by rw [sti_r a97]; exact g5, by rw [sti_r a98]; exact g6⟩, c2⟩
  · obtain ⟨g1, g2, g3, g4, g5, g6⟩ := g
    obtain ⟨b, h', c1, c2, c3, c4, c5⟩ := cg_new B g1 x
    have c74 := c5 74 (Or.inl rfl)
    have cpr := c5 pr (Or.inr (Or.inr (Or.inr (Or.inr rfl))))
    have c98 := c5 98 (Or.inr (Or.inr (Or.inr (Or.inl rfl))))
    exact ⟨b, h', c1, ⟨c2, by rw [c74.1]; exact g2, by rw [cpr.2.1]; exact g3, by rw [c74.2.1]; exact g4, by rw [c74.1]; exact g5, by rw [c98.1]; exact g6⟩, c3, c4, (c5 97 (Or.inr (Or.inr (Or.inl rfl)))).1⟩
  · obtain ⟨g1, g2, g3, g4, g5, g6⟩ := g
    have M := fs_mr B g1.1
    have F := fs_sf B g1.1
    have F1 : SF (sT h x.1 x.2.1 x.2.2) pr co 3 := F
    have ekr : hp_r h pr 1 = hp_r h1 pr 1 := by rw [g1.1.2.2.2.2.2.1.1]
    have kk : ok_o h (hp_r h pr 1) 100 := by rw [ekr]; exact fs_k g1.1 d1
    have kl : hp_l h (hp_r h pr 1) = 8 := by rw [ekr, (g1.1.2.1 _ d1.2.1).2]; exact d4
    have kv' : hp_i h (hp_r h pr 1) = kd := by rw [ekr, (g1.1.2.2.1 _ d1.2.1 d2).1]; exact d3
    have fr : f_X8_finish 74 (nI d) (sT h x.1 x.2.1 x.2.2) = some (sT (st_j h 74 12 (fnR K kd a x d (hp_i h 97))) x.1 x.2.1 x.2.2) := by
      unfold f_X8_finish b_X8_finish_0
      rw [sf_r0 F1, Option.bind_some, mg_v M, Option.bind_some, e_out M nt Z.2.2.2.2.1 Z.2.1, Option.bind_some, sf_i8 F1, Option.bind_some, if_neg (show ¬ nI 3 = 0 by decide), if_neg (show ¬ nI 3 = 1 by decide), if_neg (show ¬ nI 3 = 2 by decide)]
      unfold b_X8_finish_159 b_X8_finish_163
      rw [sf_v F1, Option.bind_some]
      unfold f_X8_noteRaces b_X8_noteRaces_0
      rw [sf_r0 F1, Option.bind_some, mg_v M, Option.bind_some, e_do M, Option.bind_some]
      have e := e_rj (T := x.1) (C := x.2.1) (E := x.2.2) (dn := m_do x.1) M F kk kl kv' 7 (Nat.le_refl 7) fu_ a (by decide)
      rw [show st_j h 74 12 a = h from by rw [← g4]; exact st_j_id] at e
      have e' : l_X8_noteRaces_10 fu_ 74 (m_do x.1) 1 (sT h x.1 x.2.1 x.2.2) = _ := e
      rw [e', Option.bind_some]
      rfl
    rw [fr]
    exact ⟨_, rfl, gr_fin B g1 g2 g3 g5 g6⟩
end
