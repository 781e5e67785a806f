/-! ===== the ends of runs: COMPARE, WITNESS ===== -/
section
variable {h1 h : AH} {K : Nat → Nat → Int32} {te ow : Nat → Nat} {na nt sz oc co pr goal : Nat}
theorem sti_r {g : AH} {r k r' : Nat} {v : Int32} (hr : r' ≠ r) : hp_i (st_i g r k v) r' = hp_i g r' := by
  funext j
  exact up2_r hr
theorem sti_k {g : AH} {r k k' : Nat} {v : Int32} (hk : k' ≠ k) : hp_i (st_i g r k v) r k' = hp_i g r k' := up2_k hk
theorem sti_s {g : AH} {r k : Nat} {v : Int32} : hp_i (st_i g r k v) r k = v := up2_same
theorem sti_n {g : AH} {r k : Nat} {v : Int32} : hp_n (st_i g r k v) = hp_n g := rfl
theorem sti_sz {g : AH} {r k : Nat} {v : Int32} : hp_s (st_i g r k v) = hp_s g := rfl
theorem sti_kk {g : AH} {r k : Nat} {v : Int32} : hp_k (st_i g r k v) = hp_k g := rfl
theorem sti_l {g : AH} {r k : Nat} {v : Int32} : hp_l (st_i g r k v) = hp_l g := rfl
theorem sti_rr {g : AH} {r k : Nat} {v : Int32} : hp_r (st_i g r k v) = hp_r g := rfl
theorem sti_j {g : AH} {r k : Nat} {v : Int32} : hp_j (st_i g r k v) = hp_j g := rfl
theorem cpr_ne {g : AH} {a sp b dp n r : Nat} (hr : r ≠ b) : hp_i (cp_r g a sp b dp n) r = hp_i g r := up_ne hr
theorem cpr_b {g : AH} {a sp b dp n : Nat} : hp_i (cp_r g a sp b dp n) b = va_cpy (hp_i g a) (hp_i g b) sp dp n := up_same
theorem sT_i {g : AH} {T C E : Int64} : hp_i (sT g T C E) = hp_i g := rfl
theorem sT_j {g : AH} {T C E : Int64} {r : Nat} (hr : r ≠ 75) : hp_j (sT g T C E) r = hp_j g r := by
  funext k
  show up_2 (up_2 (up_2 (hp_j g) 75 0 T) 75 1 C) 75 2 E r k = _
  rw [up2_r hr, up2_r hr, up2_r hr]
def GCo (h1 : AH) (pr : Nat) (M0 : List Int32) (h : AH) (a : Bool) : Prop :=
  CG h1 h pr M0 ∧ hp_i h 74 11 = (if a = true then 1 else 0) ∧ hp_j h pr = hp_j h1 pr ∧ hp_j h 74 = hp_j h1 74 ∧ hp_i h 74 6 = hp_i h1 74 6 ∧ hp_i h 98 = hp_i h1 98
theorem gc_stp {M0 : List Int32} {T C E : Int64} (B : BS h1 K co pr goal) (c1 : CG h1 (sT h T C E) pr M0) (c2 : ∀ y, VS (sT h T C E) y ↔ VS h y) (g3 : hp_j h pr = hp_j h1 pr) (g4 : hp_j h 74 = hp_j h1 74) (g5 : hp_i h 74 6 = hp_i h1 74 6) (g6 : hp_i h 98 = hp_i h1 98) {v : Int32} {b : Bool} (hv : v = (if b = true then 1 else 0)) : GCo h1 pr M0 (st_i (sT h T C E) 74 11 v) b ∧ (∀ y, VS (st_i (sT h T C E) 74 11 v) y ↔ VS h y) ∧ hp_i (st_i (sT h T C E) 74 11 v) 97 = hp_i h 97 := by
  obtain ⟨b1, b2, b3, b4, b5, b6, b7, b8⟩ := bs_ne B
  have a97 : (97 : Nat) ≠ 74 := by decide
  have a98 : (98 : Nat) ≠ 74 := by decide
  have a74 : (74 : Nat) ≠ 75 := by decide
  have a6 : (6 : Nat) ≠ 11 := by decide
  obtain ⟨e1, e2⟩ := cg_own B c1 (h' := st_i (sT h T C E) 74 11 v) sti_n sti_sz sti_kk sti_l sti_rr (fun r hr _ _ => by rw [sti_r hr]) (fun _ _ _ _ => by rw [sti_j]) (fun k _ hk => by rw [sti_k hk])
  refine ⟨⟨e1, ?_, ?_, ?_, ?_, ?_⟩, fun y => (e2 y).trans (c2 y), ?_⟩
  · rw [sti_s]; exact hv
  · rw [sti_j, sT_j b2]; exact g3
  · rw [sti_j, sT_j a74]; exact g4
  · rw [sti_k a6, sT_i]; exact g5
  · rw [sti_r a98, sT_i]; exact g6
  · rw [sti_r a97, sT_i]
theorem vbm_C {M0 Ld : List Int32} (Z : KW K te ow na nt sz) (S : KS K na nt oc) (B : BS h1 K co pr 1) (d1 : ok_o h1 (hp_r h1 74 10) 100) (d2 : ¬ SW h1 pr (hp_r h1 74 10)) (d3 : RowIs (hp_i h1 (hp_r h1 74 10)) Ld) (d4 : Ld.length = hp_l h1 (hp_r h1 74 10)) (d5 : Ld.length ≤ 2 ^ 20) (d6 : srt Ld) :
    VB K nt 1 co pr (GCo h1 pr M0) VS (fnC K Ld) (fun b => b) (fun a b => a = true → b = true) (RC K ow nt oc) := by
  obtain ⟨b1, b2, b3, b4, b5, b6, b7, b8⟩ := bs_ne B
  refine ⟨fun h a g => ?_, fun h a T C E g => ?_, fun h a k v hk g => ?_, fun h a x g => ?_, fun h a x d g hst hx hm => ?_, oa_C, fun x d => rc_16, fun x d d' h h' => h.2.symm.trans h'.2, fun x d t c hx ht hc => rc_ch Z S hx ht hc, Z.2.1, Z.2.2.2.2.1, by omega, fun _ _ _ _ _ _ => rfl, Or.inr (fun _ _ _ _ _ => rfl)⟩
  · exact ⟨fs_mr B g.1.1, fs_sf B g.1.1, g.2.1⟩
  · obtain ⟨g1, g2, g3, g4, g5, g6⟩ := g
    have hj : ∀ r, r ≠ 75 → hp_j (sT h T C E) r = hp_j h r := fun r hr => by
      funext k
      show up_2 (up_2 (up_2 (hp_j h) 75 0 T) 75 1 C) 75 2 E r k = _
      rw [up2_r hr, up2_r hr, up2_r hr]
    obtain ⟨c1, c2⟩ := cg_own B g1 (h' := sT h T C E) rfl rfl rfl rfl rfl (fun _ _ _ _ => rfl) (fun r _ hr _ => hj r hr) (fun _ _ _ => rfl)
    exact ⟨⟨c1, g2, by rw [hj pr b2]; exact g3, by rw [hj 74 (by decide)]; exact g4, g5, g6⟩, c2⟩
  · obtain ⟨g1, g2, g3, g4, g5, g6⟩ := g
    have hi : ∀ r, r ≠ 97 → hp_i (st_i h 97 k v) r = hp_i h r := fun r hr => by
      funext j
      show up_2 (hp_i h) 97 k v r j = _
      rw [up2_r hr]
    obtain ⟨c1, c2⟩ := cg_own B g1 (h' := st_i h 97 k v) rfl rfl rfl rfl rfl (fun r _ hr _ => hi r hr) (fun _ _ _ _ => rfl) (fun k' _ _ => by rw [hi 74 (by decide)])
    exact ⟨⟨c1, by rw [hi 74 (by decide)]; exact g2, g3, g4, by rw [hi 74 (by decide)]; exact g5, by rw [hi 98 (by decide)]; exact g6⟩, c2⟩
  · obtain ⟨g1, g2, g3, g4, g5, g6⟩ := g
    obtain ⟨b, h', c1, c2, c3, c4, c5⟩ := cg_new B g1 x
    have c74 := c5 74 (Or.inl rfl)
    have cpr := c5 pr (Or.inr (Or.inr (Or.inr (Or.inr rfl))))
    have c98 := c5 98 (Or.inr (Or.inr (Or.inr (Or.inl rfl))))
    exact ⟨b, h', c1, ⟨c2, by rw [c74.1]; exact g2, by rw [cpr.2.1]; exact g3, by rw [c74.2.1]; exact g4, by rw [c74.1]; exact g5, by rw [c98.1]; exact g6⟩, c3, c4, (c5 97 (Or.inr (Or.inr (Or.inl rfl)))).1⟩
  · have hst' : a = false := hst
    subst hst'
    obtain ⟨g1, g2, g3, g4, g5, g6⟩ := g
    have M := fs_mr B g1.1
    have F := fs_sf B g1.1
    have F1 : SF (sT h x.1 x.2.1 x.2.2) pr co 1 := F
    have hj : ∀ r, r ≠ 75 → hp_j (sT h x.1 x.2.1 x.2.2) r = hp_j h r := fun r hr => by
      funext k
      show up_2 (up_2 (up_2 (hp_j h) 75 0 _) 75 1 _) 75 2 _ r k = _
      rw [up2_r hr, up2_r hr, up2_r hr]
    obtain ⟨c1, c2⟩ := cg_own B g1 (h' := sT h x.1 x.2.1 x.2.2) rfl rfl rfl rfl rfl (fun _ _ _ _ => rfl) (fun r _ hr _ => hj r hr) (fun _ _ _ => rfl)
    have hr10 : g_r (sT h x.1 x.2.1 x.2.2) 74 8 10 = some (hp_r h1 74 10) := by
      have e : g_r (sT h x.1 x.2.1 x.2.2) 74 8 10 = some (hp_r h 74 10) := if_pos F.1
      rw [e, g1.1.2.2.2.1.1]
    have hdu := g1.1.2.2.1 _ d1.2.1 d2
    have hdk := g1.1.2.1 _ d1.2.1
    have okd : ok_o (sT h x.1 x.2.1 x.2.2) (hp_r h1 74 10) 100 := fs_k g1.1 d1
    have hol := oc_holds (h := sT h x.1 x.2.1 x.2.2) (L := Ld) (x := m_out K x.1) okd (by show hp_l h _ ≤ _; rw [hdk.2, ← d4]; omega) (by show _ = hp_l h _; rw [hdk.2]; exact d4) (by show RowIs (hp_i h _) Ld; rw [hdu.1]; exact d3) d6
    have stp : ∀ v : Int32, (v = 0 ∨ v = 1) → p_z (sT h x.1 x.2.1 x.2.2) 74 8 11 v = some (st_i (sT h x.1 x.2.1 x.2.2) 74 11 v) := fun v hv => if_pos ⟨F.1, hv⟩
    have fino : ∀ (v : Int32) (b : Bool), v = (if b = true then 1 else 0) → GCo h1 pr M0 (st_i (sT h x.1 x.2.1 x.2.2) 74 11 v) b ∧ (∀ y, VS (st_i (sT h x.1 x.2.1 x.2.2) 74 11 v) y ↔ VS h y) ∧ hp_i (st_i (sT h x.1 x.2.1 x.2.2) 74 11 v) 97 = hp_i h 97 := fun v b hv => gc_stp B c1 c2 g3 g4 g5 g6 hv
    have nz : ¬ hp_r h1 74 10 = 0 := by have := d1.1; omega
    have i11 : g_i (sT h x.1 x.2.1 x.2.2) 74 8 11 = some 0 := by
      have e : g_i (sT h x.1 x.2.1 x.2.2) 74 8 11 = some (hp_i h 74 11) := if_pos F.1
      rw [e, g2]; rfl
    have pre : f_X8_finish 74 (nI d) (sT h x.1 x.2.1 x.2.2) = b_X8_finish_81 74 (m_out K x.1) 74 (sT h x.1 x.2.1 x.2.2) := by
      unfold f_X8_finish b_X8_finish_0
      rw [sf_r0 F1, Option.bind_some, mg_v M, Option.bind_some, e_out M nt Z.2.2.2.2.1 Z.2.1, Option.bind_some, sf_i8 F1, Option.bind_some, if_neg (show ¬ nI 1 = 0 by decide), if_pos (show nI 1 = 1 from rfl)]
      unfold b_X8_finish_66
      rw [i11, Option.bind_some, if_pos rfl]
      unfold b_X8_finish_74
      rw [hr10, Option.bind_some, if_neg nz]
    rw [pre]
    unfold b_X8_finish_81
    rw [hr10, Option.bind_some]
    obtain ⟨m1, m2⟩ | ⟨m1, m2⟩ := hol
    · rw [m2, Option.bind_some, if_neg (show ¬ (1 : Int32) = 0 by decide)]
      unfold b_X8_finish_96 b_X8_finish_97 b_X8_finish_163
      rw [stp 0 (Or.inl rfl), Option.bind_some]
      have ef : fnC K Ld false x d (hp_i h 97) = false := by unfold fnC; rw [decide_eq_true m1]; rfl
      rw [ef]
      exact ⟨_, rfl, fino 0 false rfl⟩
    · rw [m2, Option.bind_some, if_pos rfl]
      unfold b_X8_finish_92 b_X8_finish_97 b_X8_finish_163
      rw [stp 1 (Or.inr rfl), Option.bind_some]
      have ef : fnC K Ld false x d (hp_i h 97) = true := by unfold fnC; rw [decide_eq_false m1]; rfl
      rw [ef]
      exact ⟨_, rfl, fino 1 true rfl⟩
/-- meets() -/
theorem e_me {r : Nat} {w : Nat → Int32} {o : Int32} (ok : ok_o h r 100) (hl : hp_l h r = 5) (hw : ∀ k, k < 5 → hp_i h r k = w k) : ∀ n, n ≤ 5 → ∀ fu, n < fu → l_X3_meets_2 fu o r (nI (5 - n)) h = some ((if m_me o w n (5 - n) = true then 1 else 0), h) := by
  intro n
  induction n with
  | zero =>
    intro _ fu hf
    obtain ⟨fu, rfl⟩ : ∃ f, fu = f + 1 := ⟨fu - 1, by omega⟩
    show b_X3_meets_2 (l_X3_meets_2 fu) o r (nI 5) h = _
    unfold b_X3_meets_2
    rw [if_pos (by decide)]
    exact ok_z_1
  | succ n ih =>
    intro hn fu hf
    obtain ⟨fu, rfl⟩ : ∃ f, fu = f + 1 := ⟨fu - 1, by omega⟩
    have hs : nI (5 - (n + 1)) + 1 = nI (5 - n) := by rw [nI_1]; congr 1; omega
    have hs' : 5 - (n + 1) + 1 = 5 - n := by omega
    show b_X3_meets_2 (l_X3_meets_2 fu) o r (nI (5 - (n + 1))) h = _
    unfold b_X3_meets_2
    rw [if_neg (show ¬ (5 : Int32) ≤ nI (5 - (n + 1)) from nI_ge (b := 5) (by omega) (by omega))]
    unfold b_X3_meets_7
    rw [al_row ok, hl, Option.bind_some, if_neg (nI_ge (by omega) (by omega))]
    unfold b_X3_meets_13
    rw [li_row ok (by omega) (by omega), Option.bind_some, hw _ (by omega)]
    unfold m_me
    rw [hs']
    by_cases e1 : w (5 - (n + 1)) = -1
    · rw [if_pos e1, if_pos e1]
      unfold b_X3_meets_33
      rw [hs]
      exact ih (by omega) fu (by omega)
    · rw [if_neg e1, if_neg e1]
      unfold b_X3_meets_20
      rw [li_row ok (by omega) (by omega), Option.bind_some, hw _ (by omega), show f_X3_valueIn o (nI (5 - (n + 1))) h = some (m_vin o (5 - (n + 1)), h) from rfl, Option.bind_some]
      by_cases e2 : w (5 - (n + 1)) = m_vin o (5 - (n + 1))
      · rw [if_pos e2, if_pos e2]
        unfold b_X3_meets_33
        rw [hs]
        exact ih (by omega) fu (by omega)
      · rw [if_neg e2, if_neg e2]
        exact ok_z_0
def GWi (h1 : AH) (pr : Nat) (M0 : List Int32) (h : AH) (a : Nat × (Nat → Int32)) : Prop :=
  CG h1 h pr M0 ∧ hp_i h 74 11 = 0 ∧ hp_j h pr = hp_j h1 pr ∧ hp_j h 74 = hp_j h1 74 ∧ hp_i h 74 6 = nI a.1 ∧ a.1 ≤ 17 ∧ ∀ k, k < 17 → hp_i h 98 k = a.2 k
theorem gw_cpy {M0 : List Int32} {T C E : Int64} {d : Nat} {w : Nat → Int32} (B : BS h1 K co pr goal) (c1 : CG h1 (sT h T C E) pr M0) (c2 : ∀ y, VS (sT h T C E) y ↔ VS h y) (g2 : hp_i h 74 11 = 0) (g3 : hp_j h pr = hp_j h1 pr) (g4 : hp_j h 74 = hp_j h1 74) (hd : d ≤ 16) (g7 : ∀ k, k < 17 → hp_i h 98 k = w k) :
    GWi h1 pr M0 (cp_r (st_i (sT h T C E) 74 6 (nI d)) 97 0 98 0 d) (d, fun k => if k < d then hp_i h 97 k else w k) ∧ (∀ y, VS (cp_r (st_i (sT h T C E) 74 6 (nI d)) 97 0 98 0 d) y ↔ VS h y) ∧ hp_i (cp_r (st_i (sT h T C E) 74 6 (nI d)) 97 0 98 0 d) 97 = hp_i h 97 := by
  obtain ⟨b1, b2, b3, b4, b5, b6, b7, b8⟩ := bs_ne B
  have a97 : (97 : Nat) ≠ 98 := by decide
  have a97' : (97 : Nat) ≠ 74 := by decide
  have a98 : (98 : Nat) ≠ 74 := by decide
  have a74 : (74 : Nat) ≠ 75 := by decide
  have a74' : (74 : Nat) ≠ 98 := by decide
  have a11 : (11 : Nat) ≠ 6 := by decide
  obtain ⟨e1, e2⟩ := cg_own B c1 (h' := cp_r (st_i (sT h T C E) 74 6 (nI d)) 97 0 98 0 d) rfl rfl rfl rfl rfl (fun r h7 _ h9 => by rw [cpr_ne h9, sti_r h7]) (fun _ _ _ _ => rfl) (fun k h6 _ => by rw [cpr_ne a74', sti_k h6])
  have ej : hp_j (cp_r (st_i (sT h T C E) 74 6 (nI d)) 97 0 98 0 d) = hp_j (sT h T C E) := rfl
  refine ⟨⟨e1, ?_, ?_, ?_, ?_, ?_, fun k hk => ?_⟩, fun y => (e2 y).trans (c2 y), ?_⟩
  · rw [cpr_ne a74', sti_k a11, sT_i]; exact g2
  · rw [ej, sT_j b2]; exact g3
  · rw [ej, sT_j a74]; exact g4
  · rw [cpr_ne a74', sti_s]
  · show d ≤ 17
    omega
  · rw [cpr_b, sti_r a97', sti_r a98, sT_i]
    show _ = (if k < d then hp_i h 97 k else w k)
    by_cases hkd : k < d
    · rw [if_pos hkd, pk_cpy_in (by omega) (by omega)]
      congr 1
      omega
    · rw [if_neg hkd, pk_cpy_out (by omega)]
      exact g7 k hk
  · rw [cpr_ne a97, sti_r a97', sT_i]
theorem vbm_W {M0 : List Int32} {w : Nat → Int32} (Z : KW K te ow na nt sz) (S : KS K na nt 0) (B : BS h1 K co pr 2) (d1 : ok_o h1 (hp_r h1 74 9) 100) (d2 : ¬ SW h1 pr (hp_r h1 74 9)) (d3 : ∀ k, k < 5 → hp_i h1 (hp_r h1 74 9) k = w k) (d4 : hp_l h1 (hp_r h1 74 9) = 5) :
    VB K nt 2 co pr (GWi h1 pr M0) VS (fnW K w) (fun _ => false) (fun a b => b.1 ≤ a.1) (RC K ow nt 0) := by
  obtain ⟨b1, b2, b3, b4, b5, b6, b7, b8⟩ := bs_ne B
  refine ⟨fun h a g => ?_, fun h a T C E g => ?_, fun h a k v hk g => ?_, fun h a x g => ?_, fun h a x d g hst hx hm => ?_, oa_W, fun x d => rc_16, fun x d d' h h' => h.2.symm.trans h'.2, fun x d t c hx ht hc => rc_ch Z S hx ht hc, Z.2.1, Z.2.2.2.2.1, by omega, fun a x d p p' hp => ?_, Or.inl (fun x d t hx ht => ?_)⟩
  · exact ⟨fs_mr B g.1.1, fs_sf B g.1.1, by rw [g.2.1]; rfl⟩
  · obtain ⟨g1, g2, g3, g4, g5, g6, g7⟩ := g
    have hj : ∀ r, r ≠ 75 → hp_j (sT h T C E) r = hp_j h r := fun r hr => by
      funext k
      show up_2 (up_2 (up_2 (hp_j h) 75 0 T) 75 1 C) 75 2 E r k = _
      rw [up2_r hr, up2_r hr, up2_r hr]
    obtain ⟨c1, c2⟩ := cg_own B g1 (h' := sT h T C E) rfl rfl rfl rfl rfl (fun _ _ _ _ => rfl) (fun r _ hr _ => hj r hr) (fun _ _ _ => rfl)
    exact ⟨⟨c1, g2, by rw [hj pr b2]; exact g3, by rw [hj 74 (by decide)]; exact g4, g5, g6, g7⟩, c2⟩
  · obtain ⟨g1, g2, g3, g4, g5, g6, g7⟩ := g
    have hi : ∀ r, r ≠ 97 → hp_i (st_i h 97 k v) r = hp_i h r := fun r hr => by
      funext j
      show up_2 (hp_i h) 97 k v r j = _
      rw [up2_r hr]
    obtain ⟨c1, c2⟩ := cg_own B g1 (h' := st_i h 97 k v) rfl rfl rfl rfl rfl (fun r _ hr _ => hi r hr) (fun _ _ _ _ => rfl) (fun k' _ _ => by rw [hi 74 (by decide)])
    exact ⟨⟨c1, by rw [hi 74 (by decide)]; exact g2, g3, g4, by rw [hi 74 (by decide)]; exact g5, g6, by rw [hi 98 (by decide)]; exact g7⟩, c2⟩
  · obtain ⟨g1, g2, g3, g4, g5, g6, g7⟩ := g
    obtain ⟨b, h', c1, c2, c3, c4, c5⟩ := cg_new B g1 x
    have c74 := c5 74 (Or.inl rfl)
    have cpr := c5 pr (Or.inr (Or.inr (Or.inr (Or.inr rfl))))
    have c98 := c5 98 (Or.inr (Or.inr (Or.inr (Or.inl rfl))))
    exact ⟨b, h', c1, ⟨c2, by rw [c74.1]; exact g2, by rw [cpr.2.1]; exact g3, by rw [c74.2.1]; exact g4, by rw [c74.1]; exact g5, g6, by rw [c98.1]; exact g7⟩, c3, c4, (c5 97 (Or.inr (Or.inr (Or.inl rfl)))).1⟩
  · have hd16 := rc_16 hx
    obtain ⟨g1, g2, g3, g4, g5, g6, g7⟩ := g
    have M := fs_mr B g1.1
    have F := fs_sf B g1.1
    have F1 : SF (sT h x.1 x.2.1 x.2.2) pr co 2 := F
    have hj : ∀ r, r ≠ 75 → hp_j (sT h x.1 x.2.1 x.2.2) r = hp_j h r := fun r hr => by
      funext k
      show up_2 (up_2 (up_2 (hp_j h) 75 0 _) 75 1 _) 75 2 _ r k = _
      rw [up2_r hr, up2_r hr, up2_r hr]
    obtain ⟨c1, c2⟩ := cg_own B g1 (h' := sT h x.1 x.2.1 x.2.2) rfl rfl rfl rfl rfl (fun _ _ _ _ => rfl) (fun r _ hr _ => hj r hr) (fun _ _ _ => rfl)
    have i6 : g_i (sT h x.1 x.2.1 x.2.2) 74 8 6 = some (nI a.1) := by
      have e : g_i (sT h x.1 x.2.1 x.2.2) 74 8 6 = some (hp_i h 74 6) := if_pos F.1
      rw [e, g5]
    have r9 : g_r (sT h x.1 x.2.1 x.2.2) 74 8 9 = some (hp_r h1 74 9) := by
      have e : g_r (sT h x.1 x.2.1 x.2.2) 74 8 9 = some (hp_r h 74 9) := if_pos F.1
      rw [e, g1.1.2.2.2.1.1]
    have nz : ¬ hp_r h1 74 9 = 0 := by have := d1.1; omega
    have hwu := g1.1.2.2.1 _ d1.2.1 d2
    have hwk := g1.1.2.1 _ d1.2.1
    have okw : ok_o (sT h x.1 x.2.1 x.2.2) (hp_r h1 74 9) 100 := fs_k g1.1 d1
    have met : f_X3_meets (m_out K x.1) (hp_r h1 74 9) (sT h x.1 x.2.1 x.2.2) = some ((if m_me (m_out K x.1) w 5 0 = true then 1 else 0), sT h x.1 x.2.1 x.2.2) := e_me okw (by show hp_l h _ = 5; rw [hwk.2]; exact d4) (fun k hk => by show hp_i h _ k = _; rw [hwu.1]; exact d3 k hk) 5 (Nat.le_refl 5) fu_ (by decide)
    have pre : f_X8_finish 74 (nI d) (sT h x.1 x.2.1 x.2.2) = b_X8_finish_103 74 (nI d) (m_out K x.1) (sT h x.1 x.2.1 x.2.2) := by
      unfold f_X8_finish b_X8_finish_0
      rw [sf_r0 F1, Option.bind_some, mg_v M, Option.bind_some, e_out M nt Z.2.2.2.2.1 Z.2.1, Option.bind_some, sf_i8 F1, Option.bind_some, if_neg (show ¬ nI 2 = 0 by decide), if_neg (show ¬ nI 2 = 1 by decide), if_pos (show nI 2 = 2 from rfl)]
    have stay : fnW K w a x d (hp_i h 97) = a → ∃ h', some (sT h x.1 x.2.1 x.2.2) = some h' ∧ GWi h1 pr M0 h' (fnW K w a x d (hp_i h 97)) ∧ (∀ y, VS h' y ↔ VS h y) ∧ hp_i h' 97 = hp_i h 97 := by
      intro e
      rw [e]
      exact ⟨_, rfl, ⟨c1, g2, by rw [hj pr b2]; exact g3, by rw [hj 74 (by decide)]; exact g4, g5, g6, g7⟩, c2, rfl⟩
    rw [pre]
    unfold b_X8_finish_103 b_X8_finish_163
    rw [i6, Option.bind_some]
    by_cases hlt : d < a.1
    · rw [if_neg (nI_ge hlt (by omega))]
      unfold b_X8_finish_111
      rw [r9, Option.bind_some, if_neg nz]
      unfold b_X8_finish_118
      rw [r9, Option.bind_some, met, Option.bind_some]
      by_cases hme : m_me (m_out K x.1) w 5 0 = true
      · rw [if_pos hme, if_neg (show ¬ (1 : Int32) = 0 by decide)]
        unfold b_X8_finish_129 b_X8_finish_163
        have F2 : SF (st_i (sT h x.1 x.2.1 x.2.2) 74 6 (nI d)) pr co 2 := by
          obtain ⟨s1, s2, s3, s4, s5, s6, s7, s8, s9, s10, s11⟩ := F
          refine ⟨s1, s2, s3, s4, s5, s6, s7, s8, s9, s10, ?_⟩
          show up_2 (hp_i h) 74 6 (nI d) 74 8 = _
          rw [up2_k (by decide)]; exact s11
        have ok98 : ok_o h 98 100 := fs_k g1.1 B.2.2.2.2.1.1
        have l98 : hp_l h 98 = 17 := by rw [(g1.1.2.1 98 B.2.2.2.2.1.1.2.1).2]; exact B.2.2.2.2.1.2.1
        have r4 : g_r (st_i (sT h x.1 x.2.1 x.2.2) 74 6 (nI d)) 74 8 4 = some 98 := by
          have e : g_r (st_i (sT h x.1 x.2.1 x.2.2) 74 6 (nI d)) 74 8 4 = some (hp_r h 74 4) := if_pos F.1
          rw [e, g1.1.2.2.2.1.1, B.2.2.2.2.1.2.2.1]
        rw [show p_i (sT h x.1 x.2.1 x.2.2) 74 8 6 (nI d) = some (st_i (sT h x.1 x.2.1 x.2.2) 74 6 (nI d)) from if_pos F.1, Option.bind_some, sf_r3 F2, Option.bind_some, r4, Option.bind_some, Option.bind_some, sf_al F2, Option.bind_some]
        have mn : mn_i (nI d) 17 = nI d := by
          unfold mn_i
          rw [if_neg (show ¬ (17 : Int32) < nI d from nI_nlt (a := 17) (by omega) (by omega))]
        rw [mn]
        have cp : cp_a (st_i (sT h x.1 x.2.1 x.2.2) 74 6 (nI d)) 97 0 98 0 (nI d) = some (cp_r (st_i (sT h x.1 x.2.1 x.2.2) 74 6 (nI d)) 97 (0 : Int32).toNatClampNeg 98 (0 : Int32).toNatClampNeg (nI d).toNatClampNeg) := if_pos ⟨⟨F.2.2.2.2.2.1, ok98⟩, ⟨by decide, by decide, nI_pos (by omega)⟩, by rw [nI_clamp (by omega), show (0 : Int32).toNatClampNeg = 0 from rfl]; show 0 + d ≤ hp_l h 97; rw [F.2.2.2.2.2.2.1]; omega, by rw [nI_clamp (by omega), show (0 : Int32).toNatClampNeg = 0 from rfl]; show 0 + d ≤ hp_l h 98; rw [l98]; omega⟩
        rw [nI_clamp (by omega), show (0 : Int32).toNatClampNeg = 0 from rfl] at cp
        rw [cp, Option.bind_some]
        have ef : fnW K w a x d (hp_i h 97) = (d, fun k => if k < d then hp_i h 97 k else a.2 k) := by unfold fnW; rw [if_pos ⟨hlt, hme⟩]
        rw [ef]
        exact ⟨_, rfl, gw_cpy B c1 c2 g2 g3 g4 hd16 g7⟩
      · rw [if_neg hme, if_pos rfl]
        exact stay (by unfold fnW; rw [if_neg (fun e => hme e.2)])
    · rw [if_pos (nI_le (by omega) (by omega))]
      exact stay (by unfold fnW; rw [if_neg (fun e => hlt e.1)])
  · unfold fnW
    split
    · congr 1
      funext k
      split
      · rename_i hk; exact hp k hk
      · rfl
    · rfl
  · obtain ⟨⟨sA, q, R⟩, -⟩ := hx
    obtain ⟨I, -⟩ := ra_in Z R
    exact (q_hq Z S I R.2 ht).mpr (fun m hm _ => by have := (I.2.2.2.1 m hm).2.2; exact absurd this (by decide))
end
