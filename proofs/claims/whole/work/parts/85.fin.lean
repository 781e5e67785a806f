/-! ===== the ends of runs: LIST, COMPARE, WITNESS ===== -/
def m_pl (dn : Int32) : Nat → Nat → Int64 → Int64
  | 0, _, x => x
  | n + 1, i, x => m_pl dn n (i + 1) (if ((dn >>> (nI i &&& 31)) &&& (1 : Int32)) = 0 then x else m_or x dn.toInt64 ((8 : Int32) * nI i))
def m_prs (T : Int64) : Int64 := m_pl (m_do T) 8 0 0
abbrev AL : Type := { L : List Int32 // srt L } × (Int64 × Int64 × Int64)
def fnL (K : Nat → Nat → Int32) (oc : Nat) (a : AL) (x : KY) (_ : Nat) (_ : Nat → Int32) : AL :=
  (⟨rins (m_out K x.1) a.1.1, rins_srt _ a.1.2⟩, if oc = 2 then (a.2.1 ||| m_prs x.1, a.2.2.1 ||| x.2.2, a.2.2.2 ||| (m_prs x.1 &&& (x.2.2 ^^^ (-1 : Int64)))) else a.2)
def leL (a b : AL) : Prop := (∀ z, z ∈ a.1.1 → z ∈ b.1.1) ∧ a.2.1 ||| b.2.1 = b.2.1 ∧ a.2.2.1 ||| b.2.2.1 = b.2.2.1 ∧ a.2.2.2 ||| b.2.2.2 = b.2.2.2
theorem lo_tr {a b c : Int64} (h1 : a ||| b = b) (h2 : b ||| c = c) : a ||| c = c := by rw [← h2, ← Int64.or_assoc, h1]
theorem lo_le {a b : Int64} : a ||| (a ||| b) = a ||| b := by rw [← Int64.or_assoc, Int64.or_self]
theorem lo_ab {a b c : Int64} (h : (a ||| b) ||| c = c) : c ||| b = c := by
  rw [← h, Int64.or_comm, ← Int64.or_assoc]
  congr 1
  rw [Int64.or_comm a b, ← Int64.or_assoc, Int64.or_self]
theorem oa_L {K : Nat → Nat → Int32} {oc : Nat} : OA (fnL K oc) (fun _ => false) leL := by
  refine ⟨fun a => ⟨fun _ h => h, Int64.or_self, Int64.or_self, Int64.or_self⟩, fun a b c h1 h2 => ⟨fun z hz => h2.1 z (h1.1 z hz), lo_tr h1.2.1 h2.2.1, lo_tr h1.2.2.1 h2.2.2.1, lo_tr h1.2.2.2 h2.2.2.2⟩, fun a x d p => ?_, fun a a' x d p p' h => ?_, fun a a' h => by cases h⟩
  · refine ⟨fun z hz => (rins_mem _).mpr (Or.inr hz), ?_, ?_, ?_⟩
    all_goals
      unfold fnL
      by_cases ho : oc = 2
      · simp only [if_pos ho]; exact lo_le
      · simp only [if_neg ho]; exact Int64.or_self
  · obtain ⟨h1, h2, h3, h4⟩ := h
    unfold fnL at h1 h2 h3 h4 ⊢
    have hm : m_out K x.1 ∈ a'.1.1 := h1 _ ((rins_mem _).mpr (Or.inl rfl))
    have e1 : (⟨rins (m_out K x.1) a'.1.1, rins_srt _ a'.1.2⟩ : { L : List Int32 // srt L }) = a'.1 := Subtype.ext (rins_eq _ a'.1.2 hm)
    rw [e1]
    by_cases ho : oc = 2
    · simp only [if_pos ho] at h2 h3 h4 ⊢
      rw [lo_ab h2, lo_ab h3, lo_ab h4]
    · simp only [if_neg ho]
def fnC (K : Nat → Nat → Int32) (Ld : List Int32) (a : Bool) (x : KY) (_ : Nat) (_ : Nat → Int32) : Bool := a || !decide (m_out K x.1 ∈ Ld)
theorem oa_C {K : Nat → Nat → Int32} {Ld : List Int32} : OA (fnC K Ld) (fun b => b) (fun a b => a = true → b = true) := by
  refine ⟨fun _ h => h, fun _ _ _ h1 h2 h => h2 (h1 h), fun a x d p h => ?_, fun a a' x d p p' h => ?_, fun a a' h1 h2 => h2 h1⟩
  · unfold fnC; rw [h, Bool.true_or]
  · unfold fnC at h ⊢
    cases a' with
    | true => rfl
    | false =>
      cases hd : decide (m_out K x.1 ∈ Ld) with
      | true => rfl
      | false => rw [hd] at h; exact absurd (h (by cases a <;> rfl)) (by decide)
/-- does an outcome meet a wish -/
def m_vin (o : Int32) (l : Nat) : Int32 := (o >>> (((20 : Int32) - ((4 : Int32) * nI l)) &&& 31)) &&& (15 : Int32)
def m_me (o : Int32) (w : Nat → Int32) : Nat → Nat → Bool
  | 0, _ => true
  | n + 1, l => if w l = -1 then m_me o w n (l + 1) else if w l = m_vin o l then m_me o w n (l + 1) else false
def fnW (K : Nat → Nat → Int32) (w : Nat → Int32) (a : Nat × (Nat → Int32)) (x : KY) (d : Nat) (p : Nat → Int32) : Nat × (Nat → Int32) := if d < a.1 ∧ m_me (m_out K x.1) w 5 0 = true then (d, fun k => if k < d then p k else a.2 k) else a
theorem oa_W {K : Nat → Nat → Int32} {w : Nat → Int32} : OA (fnW K w) (fun _ => false) (fun a b => b.1 ≤ a.1) := by
  refine ⟨fun _ => Nat.le_refl _, fun _ _ _ h1 h2 => Nat.le_trans h2 h1, fun a x d p => ?_, fun a a' x d p p' h => ?_, fun a a' h => by cases h⟩
  · unfold fnW
    split
    · rename_i h; exact Nat.le_of_lt h.1
    · exact Nat.le_refl _
  · unfold fnW at h ⊢
    rw [if_neg]
    rintro ⟨h1, h2⟩
    by_cases h3 : d < a.1
    · rw [if_pos ⟨h3, h2⟩] at h
      have : a'.1 ≤ d := h
      omega
    · rw [if_neg (fun e => h3 e.1)] at h
      omega
section
variable {h1 h : AH} {K : Nat → Nat → Int32} {te ow : Nat → Nat} {na nt sz oc co pr goal : Nat}
theorem m_pl_e {F : SF h pr co goal} {rest : Int64 → Option AH} {dn : Int32} (hr : ∀ a2, b_X8_noteOrder_46 74 a2 h = rest a2) : ∀ (n : Nat), n ≤ 8 → ∀ (fu : Nat) (x : Int64), n < fu → l_X8_noteOrder_13 fu 74 dn x (nI (8 - n)) h = rest (m_pl dn n (8 - n) x) := by
  intro n
  induction n with
  | zero =>
    intro _ fu x hf
    obtain ⟨fu, rfl⟩ : ∃ f, fu = f + 1 := ⟨fu - 1, by omega⟩
    show b_X8_noteOrder_13 (l_X8_noteOrder_13 fu) 74 dn x (nI 8) h = _
    unfold b_X8_noteOrder_13
    rw [if_pos (by decide), hr]
    rfl
  | succ n ih =>
    intro hn fu x hf
    obtain ⟨fu, rfl⟩ : ∃ f, fu = f + 1 := ⟨fu - 1, by omega⟩
    have hs : nI (8 - (n + 1)) + 1 = nI (8 - n) := by rw [nI_1]; congr 1; omega
    have hs' : 8 - (n + 1) + 1 = 8 - n := by omega
    show b_X8_noteOrder_13 (l_X8_noteOrder_13 fu) 74 dn x (nI (8 - (n + 1))) h = _
    unfold b_X8_noteOrder_13
    rw [if_neg (show ¬ (8 : Int32) ≤ nI (8 - (n + 1)) from nI_ge (b := 8) (by omega) (by omega))]
    unfold b_X8_noteOrder_20 b_X8_noteOrder_29 b_X8_noteOrder_40 m_pl
    rw [hs, hs']
    split
    · exact ih (by omega) fu x (by omega)
    · exact ih (by omega) fu _ (by omega)
/-- noteOrder(): three longs of the program -/
theorem e_no (M : MR h K co) (F : SF h pr co goal) {T C E : Int64} (hT : hp_j h 75 0 = T) (hE : hp_j h 75 2 = E) (hp : pr ≠ 75) : f_X8_noteOrder 74 h = some (st_j (st_j (st_j h pr 2 (hp_j h pr 2 ||| m_prs T)) pr 3 (hp_j h pr 3 ||| E)) pr 4 (hp_j h pr 4 ||| (m_prs T &&& (E ^^^ (-1 : Int64))))) := by
  have kp := F.2.2.2.2.2.2.2.2.1
  have hd : f_X2_doneActions 75 h = some (m_do T, h) := by
    unfold f_X2_doneActions b_X2_doneActions_0
    rw [show g_j h 75 2 0 = some (hp_j h 75 0) from if_pos M.1, hT]
    rfl
  unfold f_X8_noteOrder b_X8_noteOrder_0
  rw [sf_r0 F, Option.bind_some, mr_v M, Option.bind_some, hd, Option.bind_some]
  have key : ∀ a2, b_X8_noteOrder_46 74 a2 h = some (st_j (st_j (st_j h pr 2 (hp_j h pr 2 ||| a2)) pr 3 (hp_j h pr 3 ||| E)) pr 4 (hp_j h pr 4 ||| (a2 &&& (E ^^^ (-1 : Int64))))) := by
    intro a2
    unfold b_X8_noteOrder_46
    have F1 : SF (st_j h pr 2 (hp_j h pr 2 ||| a2)) pr co goal := F
    have F2 : SF (st_j (st_j h pr 2 (hp_j h pr 2 ||| a2)) pr 3 (hp_j h pr 3 ||| E)) pr co goal := F
    have j1 : hp_j (st_j h pr 2 (hp_j h pr 2 ||| a2)) pr 3 = hp_j h pr 3 := up2_k (by decide)
    have j2 : hp_j (st_j h pr 2 (hp_j h pr 2 ||| a2)) 75 2 = E := by rw [← hE]; exact up2_r (Ne.symm hp)
    have j3 : hp_j (st_j (st_j h pr 2 (hp_j h pr 2 ||| a2)) pr 3 (hp_j h pr 3 ||| E)) pr 4 = hp_j h pr 4 := by
      show up_2 (up_2 (hp_j h) pr 2 _) pr 3 _ pr 4 = _
      rw [up2_k (by decide), up2_k (by decide)]
    have j4 : hp_j (st_j (st_j h pr 2 (hp_j h pr 2 ||| a2)) pr 3 (hp_j h pr 3 ||| E)) 75 2 = E := by
      rw [← hE]
      show up_2 (up_2 (hp_j h) pr 2 _) pr 3 _ 75 2 = _
      rw [up2_r (Ne.symm hp), up2_r (Ne.symm hp)]
    rw [sf_r7 F, Option.bind_some, show g_j h pr 5 2 = some (hp_j h pr 2) from if_pos kp, Option.bind_some, show p_j h pr 5 2 (hp_j h pr 2 ||| a2) = some (st_j h pr 2 (hp_j h pr 2 ||| a2)) from if_pos kp, Option.bind_some]
    rw [sf_r7 F1, Option.bind_some, show g_j (st_j h pr 2 (hp_j h pr 2 ||| a2)) pr 5 3 = some (hp_j (st_j h pr 2 (hp_j h pr 2 ||| a2)) pr 3) from if_pos kp, Option.bind_some, sf_r0 F1, Option.bind_some, show g_j (st_j h pr 2 (hp_j h pr 2 ||| a2)) 75 2 2 = some (hp_j (st_j h pr 2 (hp_j h pr 2 ||| a2)) 75 2) from if_pos M.1, Option.bind_some, j1, j2]
    rw [show p_j (st_j h pr 2 (hp_j h pr 2 ||| a2)) pr 5 3 (hp_j h pr 3 ||| E) = some (st_j (st_j h pr 2 (hp_j h pr 2 ||| a2)) pr 3 (hp_j h pr 3 ||| E)) from if_pos kp, Option.bind_some]
    rw [sf_r7 F2, Option.bind_some, show g_j (st_j (st_j h pr 2 (hp_j h pr 2 ||| a2)) pr 3 (hp_j h pr 3 ||| E)) pr 5 4 = some (hp_j (st_j (st_j h pr 2 (hp_j h pr 2 ||| a2)) pr 3 (hp_j h pr 3 ||| E)) pr 4) from if_pos kp, Option.bind_some, sf_r0 F2, Option.bind_some, show g_j (st_j (st_j h pr 2 (hp_j h pr 2 ||| a2)) pr 3 (hp_j h pr 3 ||| E)) 75 2 2 = some (hp_j (st_j (st_j h pr 2 (hp_j h pr 2 ||| a2)) pr 3 (hp_j h pr 3 ||| E)) 75 2) from if_pos M.1, Option.bind_some, j3, j4]
    rw [show p_j (st_j (st_j h pr 2 (hp_j h pr 2 ||| a2)) pr 3 (hp_j h pr 3 ||| E)) pr 5 4 (hp_j h pr 4 ||| (a2 &&& (E ^^^ (-1 : Int64)))) = some (st_j (st_j (st_j h pr 2 (hp_j h pr 2 ||| a2)) pr 3 (hp_j h pr 3 ||| E)) pr 4 (hp_j h pr 4 ||| (a2 &&& (E ^^^ (-1 : Int64))))) from if_pos kp, Option.bind_some]
  exact m_pl_e (F := F) (dn := m_do T) key 8 (Nat.le_refl 8) fu_ 0 (by decide)
/-- LIST: what the heap holds -/
def GL (K : Nat → Nat → Int32) (ow : Nat → Nat) (nt oc : Nat) (h1 : AH) (pr : Nat) (h : AH) (a : AL) : Prop :=
  CG h1 h pr a.1.1 ∧ hp_i h 74 11 = 0 ∧ hp_j h pr 2 = a.2.1 ∧ hp_j h pr 3 = a.2.2.1 ∧ hp_j h pr 4 = a.2.2.2 ∧ (∀ k, k ≠ 2 → k ≠ 3 → k ≠ 4 → hp_j h pr k = hp_j h1 pr k) ∧ hp_j h 74 = hp_j h1 74 ∧ hp_i h 74 6 = hp_i h1 74 6 ∧ hp_i h 98 = hp_i h1 98 ∧
  (∀ z, z ∈ a.1.1 → ∃ y s q, RA K ow nt oc y s q ∧ xa_end (KP K) (kv K) s ∧ z = m_out K y.1)
theorem out_bnd (Z : KW K te ow na nt sz) {L : List Int32} (hs : srt L) (hL : ∀ z, z ∈ L → ∃ y s q, RA K ow nt oc y s q ∧ xa_end (KP K) (kv K) s ∧ z = m_out K y.1) : L.length ≤ 1024 := by
  refine xa_bound (V := kv K) (o := ao oc) (kp_wf Z) (fun s => nI (n16 (av ow nt s) (ast s nt))) ?_ L (srt_nd L hs) (fun z hz => ?_)
  · intro s s' he
    rw [kp_nt Z] at he
    have e1 : av ow nt s = av ow nt s' := by
      funext l
      unfold av
      split
      · rename_i hl
        unfold xa_lm
        rw [he _ hl]
      · rfl
    have e2 : ∀ t, t ≤ nt → ast s t = ast s' t := by
      intro t
      induction t with
      | zero => intro _; rfl
      | succ t ih =>
        intro ht
        unfold ast xa_nx
        rw [ih (by omega), he t (by omega)]
    show nI (n16 (av ow nt s) (ast s nt)) = nI (n16 (av ow nt s') (ast s' nt))
    rw [e1, e2 nt (Nat.le_refl nt)]
  · obtain ⟨y, s, q, r1, r2, r3⟩ := hL z hz
    refine ⟨q, s, r1.1, r2, ?_⟩
    rw [r3]
    exact (q_out Z (ra_in Z r1).1 r1.2).1.symm
theorem vb_L (Z : KW K te ow na nt sz) (S : KS K na nt oc) (B : BS h1 K co pr 0) : VB K nt 0 co pr (GL K ow nt oc h1 pr) VS (fnL K oc) (fun _ => false) leL (RC K ow nt oc) := by
  obtain ⟨b1, b2, b3, b4, b5, b6, b7, b8⟩ := bs_ne B
  refine ⟨fun h a g => ?_, fun h a T C E g => ?_, fun h a k v hk g => ?_, fun h a x g => ?_, fun h a x d g _ hx hm => ?_, oa_L, fun x d => rc_16, fun x d d' h h' => h.2.symm.trans h'.2, fun x d t c hx ht hc => rc_ch Z S hx ht hc, Z.2.1, Z.2.2.2.2.1, by omega, fun _ _ _ _ _ _ => rfl, Or.inr (fun _ _ _ _ _ => rfl)⟩
  · exact ⟨fs_mr B g.1.1, fs_sf B g.1.1, by rw [g.2.1]; rfl⟩
  · obtain ⟨g1, g2, g3, g4, g5, g6, g7, g8, g9, g10⟩ := g
    have hj : ∀ r, r ≠ 75 → hp_j (sT h T C E) r = hp_j h r := fun r hr => by
      funext k
      show up_2 (up_2 (up_2 (hp_j h) 75 0 T) 75 1 C) 75 2 E r k = _
      rw [up2_r hr, up2_r hr, up2_r hr]
    obtain ⟨c1, c2⟩ := cg_own B g1 (h' := sT h T C E) rfl rfl rfl rfl rfl (fun _ _ _ _ => rfl) (fun r _ hr _ => hj r hr) (fun _ _ _ => rfl)
    exact ⟨⟨c1, g2, by rw [hj pr b2]; exact g3, by rw [hj pr b2]; exact g4, by rw [hj pr b2]; exact g5, by rw [hj pr b2]; exact g6, by rw [hj 74 (by decide)]; exact g7, g8, g9, g10⟩, c2⟩
  · obtain ⟨g1, g2, g3, g4, g5, g6, g7, g8, g9, g10⟩ := g
    have hi : ∀ r, r ≠ 97 → hp_i (st_i h 97 k v) r = hp_i h r := fun r hr => by
      funext j
      show up_2 (hp_i h) 97 k v r j = _
      rw [up2_r hr]
    obtain ⟨c1, c2⟩ := cg_own B g1 (h' := st_i h 97 k v) rfl rfl rfl rfl rfl (fun r _ hr _ => hi r hr) (fun _ _ _ _ => rfl) (fun k' _ _ => by rw [hi 74 (by decide)])
    exact ⟨⟨c1, by rw [hi 74 (by decide)]; exact g2, g3, g4, g5, g6, g7, by rw [hi 74 (by decide)]; exact g8, by rw [hi 98 (by decide)]; exact g9, g10⟩, c2⟩
  · obtain ⟨g1, g2, g3, g4, g5, g6, g7, g8, g9, g10⟩ := g
    obtain ⟨b, h', c1, c2, c3, c4, c5⟩ := cg_new B g1 x
    have c74 := c5 74 (Or.inl rfl)
    have cpr := c5 pr (Or.inr (Or.inr (Or.inr (Or.inr rfl))))
    have c98 := c5 98 (Or.inr (Or.inr (Or.inr (Or.inl rfl))))
    exact ⟨b, h', c1, ⟨c2, by rw [c74.1]; exact g2, by rw [cpr.2.1]; exact g3, by rw [cpr.2.1]; exact g4, by rw [cpr.2.1]; exact g5, by rw [cpr.2.1]; exact g6, by rw [c74.2.1]; exact g7, by rw [c74.1]; exact g8, by rw [c98.1]; exact g9, g10⟩, c3, c4, (c5 97 (Or.inr (Or.inr (Or.inl rfl)))).1⟩
  · obtain ⟨⟨sA, q, R⟩, -⟩ := hx
    have hend := (ra_end Z S R).mp hm
    have gb := out_bnd Z a.1.2 g.2.2.2.2.2.2.2.2.2
    obtain ⟨g1, g2, g3, g4, g5, g6, g7, g8, g9, g10⟩ := g
    have M := fs_mr B g1.1
    have F := fs_sf B g1.1
    have F1 : SF (sT h x.1 x.2.1 x.2.2) pr co 0 := F
    have hj : ∀ r, r ≠ 75 → hp_j (sT h x.1 x.2.1 x.2.2) r = hp_j h r := fun r hr => by
      funext k
      show up_2 (up_2 (up_2 (hp_j h) 75 0 _) 75 1 _) 75 2 _ r k = _
      rw [up2_r hr, up2_r hr, up2_r hr]
    obtain ⟨c1, c2⟩ := cg_own B g1 (h' := sT h x.1 x.2.1 x.2.2) rfl rfl rfl rfl rfl (fun _ _ _ _ => rfl) (fun r _ hr _ => hj r hr) (fun _ _ _ => rfl)
    obtain ⟨h', d1, d2, d3, d4⟩ := cg_add B c1 gb (m_out K x.1)
    have d74 := d4 74 (Or.inl rfl)
    have d75 := d4 75 (Or.inr (Or.inl rfl))
    have dpr := d4 pr (Or.inr (Or.inr (Or.inr (Or.inr rfl))))
    have d97 := d4 97 (Or.inr (Or.inr (Or.inl rfl)))
    have d98 := d4 98 (Or.inr (Or.inr (Or.inr (Or.inl rfl))))
    have M' := fs_mr B d2.1
    have F' := fs_sf B d2.1
    have h95 : hp_r h1 74 2 = 95 := B.2.2.2.2.1.2.2.2
    have r2 : g_r (sT h x.1 x.2.1 x.2.2) 74 8 2 = some 95 := by
      have e : g_r (sT h x.1 x.2.1 x.2.2) 74 8 2 = some (hp_r h 74 2) := if_pos F.1
      rw [e, g1.1.2.2.2.1.1, h95]
    have v95 : ok_v (sT h x.1 x.2.1 x.2.2) 95 3 = some () := if_pos g1.2.1.1
    have newz : ∀ z, z ∈ rins (m_out K x.1) a.1.1 → ∃ y s q, RA K ow nt oc y s q ∧ xa_end (KP K) (kv K) s ∧ z = m_out K y.1 := by
      intro z hz
      obtain e | e := (rins_mem _).mp hz
      · exact ⟨x, sA, q, R, hend, e⟩
      · exact g10 z e
    have i3 : g_i h' 75 2 3 = some (nI oc) := by
      have e : g_i h' 75 2 3 = some (hp_i h' 75 3) := if_pos M'.1
      rw [e, d75.1]
      show some (hp_i h 75 3) = _
      rw [M.2.2.2.2.2.2.2.2.1, S.1]
    have fin0 : f_X8_finish 74 (nI d) (sT h x.1 x.2.1 x.2.2) = (if oc = 2 then f_X8_noteOrder 74 h' else some h') := by
      unfold f_X8_finish b_X8_finish_0
      rw [sf_r0 F1, Option.bind_some, mg_v M, Option.bind_some, e_out M nt Z.2.2.2.2.1 Z.2.1, Option.bind_some, sf_i8 F1, Option.bind_some, if_pos (show nI 0 = 0 from rfl)]
      unfold b_X8_finish_40
      rw [r2, Option.bind_some, v95, Option.bind_some, d1, Option.bind_some, sf_r0 F', Option.bind_some, i3, Option.bind_some]
      have hoc := S.2.1
      by_cases ho : oc = 2
      · rw [if_pos (by rw [ho]; rfl), if_pos ho]
        unfold b_X8_finish_59
        rw [sf_v F', Option.bind_some]
        cases f_X8_noteOrder 74 h' with
        | none => rfl
        | some z => rfl
      · rw [if_neg (by rw [show (2 : Int32) = nI 2 from rfl, nI_eq (by omega) (by omega)]; exact ho), if_neg ho]
        rfl
    rw [fin0]
    by_cases ho : oc = 2
    · have t0 : hp_j h' 75 0 = x.1 := by rw [d75.2.1]; exact sT_0
      have t2 : hp_j h' 75 2 = x.2.2 := by rw [d75.2.1]; exact sT_2
      rw [if_pos ho, e_no (C := 0) M' F' t0 t2 b2]
      have hj' : ∀ r, r ≠ pr → hp_j (st_j (st_j (st_j h' pr 2 (hp_j h' pr 2 ||| m_prs x.1)) pr 3 (hp_j h' pr 3 ||| x.2.2)) pr 4 (hp_j h' pr 4 ||| (m_prs x.1 &&& (x.2.2 ^^^ (-1 : Int64))))) r = hp_j h' r := fun r hr => by
        funext k
        show up_2 (up_2 (up_2 (hp_j h') pr 2 _) pr 3 _) pr 4 _ r k = _
        rw [up2_r hr, up2_r hr, up2_r hr]
      obtain ⟨e1, e2⟩ := cg_own B d2 (h' := st_j (st_j (st_j h' pr 2 (hp_j h' pr 2 ||| m_prs x.1)) pr 3 (hp_j h' pr 3 ||| x.2.2)) pr 4 (hp_j h' pr 4 ||| (m_prs x.1 &&& (x.2.2 ^^^ (-1 : Int64))))) rfl rfl rfl rfl rfl (fun _ _ _ _ => rfl) (fun r _ _ hr => hj' r hr) (fun _ _ _ => rfl)
      have hpj : ∀ k, hp_j h' pr k = hp_j h pr k := fun k => by rw [dpr.2.1, hj pr b2]
      refine ⟨_, rfl, ⟨e1, ?_, ?_, ?_, ?_, ?_, ?_, ?_, ?_, newz⟩, fun y => (e2 y).trans ((d3 y).trans (c2 y)), d97.1⟩
      · show hp_i h' 74 11 = 0
        rw [d74.1]; exact g2
      · show up_2 (up_2 (up_2 (hp_j h') pr 2 (hp_j h' pr 2 ||| m_prs x.1)) pr 3 _) pr 4 _ pr 2 = (fnL K oc a x d _).2.1
        rw [up2_k (by decide), up2_k (by decide), up2_same, hpj, g3]
        unfold fnL
        simp only [if_pos ho]
      · show up_2 (up_2 (up_2 (hp_j h') pr 2 _) pr 3 (hp_j h' pr 3 ||| x.2.2)) pr 4 _ pr 3 = (fnL K oc a x d _).2.2.1
        rw [up2_k (by decide), up2_same, hpj, g4]
        unfold fnL
        simp only [if_pos ho]
      · show up_2 (up_2 (up_2 (hp_j h') pr 2 _) pr 3 _) pr 4 (hp_j h' pr 4 ||| (m_prs x.1 &&& (x.2.2 ^^^ (-1 : Int64)))) pr 4 = (fnL K oc a x d _).2.2.2
        rw [up2_same, hpj, g5]
        unfold fnL
        simp only [if_pos ho]
      · intro k k2 k3 k4
        show up_2 (up_2 (up_2 (hp_j h') pr 2 _) pr 3 _) pr 4 _ pr k = _
        rw [up2_k k4, up2_k k3, up2_k k2, hpj, g6 k k2 k3 k4]
      · rw [hj' 74 (Ne.symm b1), d74.2.1, hj 74 (by decide)]; exact g7
      · show hp_i h' 74 6 = _
        rw [d74.1]; exact g8
      · show hp_i h' 98 = _
        rw [d98.1]; exact g9
    · rw [if_neg ho]
      have hpj : ∀ k, hp_j h' pr k = hp_j h pr k := fun k => by rw [dpr.2.1, hj pr b2]
      have e2 : (fnL K oc a x d (hp_i h 97)).2 = a.2 := by unfold fnL; simp only [if_neg ho]
      refine ⟨h', rfl, ⟨d2, ?_, ?_, ?_, ?_, ?_, ?_, ?_, ?_, newz⟩, fun y => (d3 y).trans (c2 y), d97.1⟩
      · rw [d74.1]; exact g2
      · rw [hpj, e2]; exact g3
      · rw [hpj, e2]; exact g4
      · rw [hpj, e2]; exact g5
      · intro k k2 k3 k4
        rw [hpj]; exact g6 k k2 k3 k4
      · rw [d74.2.1, hj 74 (by decide)]; exact g7
      · rw [d74.1]; exact g8
      · rw [d98.1]; exact g9
end
