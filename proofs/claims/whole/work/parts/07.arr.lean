theorem w_a0 {g : GT} {h : AH} {r : Nat} (hk : hp_k h r = 100) : w_E g h r = .inl (g.2.2.2.1.1, hp_l h r, .inl (hp_i h r)) := by
  unfold w_E
  rw [if_pos hk]
theorem w_a1 {g : GT} {h : AH} {r : Nat} (hk : hp_k h r = 101) : w_E g h r = .inl (g.2.2.2.1.2.1, hp_l h r, .inr (.inl (hp_j h r))) := by
  unfold w_E
  rw [if_neg (by omega), if_pos hk]
theorem w_a2 {g : GT} {h : AH} {r : Nat} (hk : hp_k h r = 102) : w_E g h r = .inl (g.2.2.2.1.2.2, hp_l h r, .inr (.inr (.inr (.inr (fun j => op_r g (hp_r h r j)))))) := by
  unfold w_E
  rw [if_neg (by omega), if_neg (by omega), if_pos hk]
theorem in_of {i : Int32} {n : Nat} (h1 : ¬ i < 0) (h2 : i.toNatClampNeg < n) : vp_in i n := fun q => q.elim h1 (fun q => by omega)
section TJ3
variable {X : CX} {g : GT} {cc : ByteArray} {nL : Nat} {own : String} {ret : Option FieldType} {pc : Nat} {lv : List (Nat × TV)} {st : List Value} {h : AH}
theorem tj_iaload (ok : OkX X g cc nL own ret) (d : decode cc pc = .ok (.iaload, 1)) {r : Nat} {i v : Int32} (e : l_i h r i = some v) (kk : TJ X (pc + 1) lv (.int v :: st) h) : TJ X pc lv (.int i :: rf_v g r :: st) h := by
  obtain ⟨⟨⟨hr1, hr2, hr3⟩, hi1, hi2⟩, rfl⟩ := of_if e
  obtain ⟨p, e, R, s, m, args, below, meth, c, g', nL', n0, s0, Q⟩ := X
  obtain ⟨rfl, rfl, hx, hb, hml, hown, hts, hgv, hr, hlk, h0, hw0, hn0⟩ := ok
  intro H locs ls hG hl h1 h2
  have hat := hG.2.2.1 r hr1 hr2
  rw [w_a0 hr3] at hat
  show W _ _ _ _ _ _ _ _ _ _ _ _ _ _ _ (F0 m pc ls (.int i :: rf_v _ r :: st))
  rw [rf_h hr1]
  exact va_iald (D := g'.2.2.1) (cl := am_cl) (tys := ty_s g') hx hb hgv.1 (va_P1 hat) 0 0 rfl rfl (in_of hi1 hi2) d (kk H locs ls hG hl h1 h2)
theorem tj_laload (ok : OkX X g cc nL own ret) (d : decode cc pc = .ok (.laload, 1)) {r : Nat} {i : Int32} {v : Int64} (e : l_j h r i = some v) (kk : TJ X (pc + 1) lv (.long v :: st) h) : TJ X pc lv (.int i :: rf_v g r :: st) h := by
  obtain ⟨⟨⟨hr1, hr2, hr3⟩, hi1, hi2⟩, rfl⟩ := of_if e
  obtain ⟨p, e, R, s, m, args, below, meth, c, g', nL', n0, s0, Q⟩ := X
  obtain ⟨rfl, rfl, hx, hb, hml, hown, hts, hgv, hr, hlk, h0, hw0, hn0⟩ := ok
  intro H locs ls hG hl h1 h2
  have hat := hG.2.2.1 r hr1 hr2
  rw [w_a1 hr3] at hat
  show W _ _ _ _ _ _ _ _ _ _ _ _ _ _ _ (F0 m pc ls (.int i :: rf_v _ r :: st))
  rw [rf_h hr1]
  exact va_lald (D := g'.2.2.1) (cl := am_cl) (tys := ty_s g') hx hb hgv.1 (va_P1 hat) 0 1 rfl rfl (in_of hi1 hi2) d (kk H locs ls hG hl h1 h2)
theorem tj_aaload (ok : OkX X g cc nL own ret) (d : decode cc pc = .ok (.aaload, 1)) {r : Nat} {i : Int32} {v : Nat} (e : l_r h r i = some v) (kk : TJ X (pc + 1) lv (rf_v g v :: st) h) : TJ X pc lv (.int i :: rf_v g r :: st) h := by
  obtain ⟨⟨⟨hr1, hr2, hr3⟩, hi1, hi2⟩, rfl⟩ := of_if e
  obtain ⟨p, e, R, s, m, args, below, meth, c, g', nL', n0, s0, Q⟩ := X
  obtain ⟨rfl, rfl, hx, hb, hml, hown, hts, hgv, hr, hlk, h0, hw0, hn0⟩ := ok
  intro H locs ls hG hl h1 h2
  have hat := hG.2.2.1 r hr1 hr2
  rw [w_a2 hr3] at hat
  show W _ _ _ _ _ _ _ _ _ _ _ _ _ _ _ (F0 m pc ls (.int i :: rf_v _ r :: st))
  rw [rf_h hr1]
  refine va_aldq (D := g'.2.2.1) (cl := am_cl) (tys := ty_s g') hx hb hgv.1 (va_P1 hat) 0 2 rfl rfl (in_of hi1 hi2) d ?_
  rw [rf_op]
  exact kk H locs ls hG hl h1 h2
theorem tj_alen (ok : OkX X g cc nL own ret) (d : decode cc pc = .ok (.arraylength, 1)) {r : Nat} {v : Int32} (e : al_n h r = some v) (kk : TJ X (pc + 1) lv (.int v :: st) h) : TJ X pc lv (rf_v g r :: st) h := by
  obtain ⟨⟨hr1, hr2, hr3, hr4⟩, rfl⟩ := of_if e
  obtain ⟨p, e, R, s, m, args, below, meth, c, g', nL', n0, s0, Q⟩ := X
  obtain ⟨rfl, rfl, hx, hb, hml, hown, hts, hgv, hr, hlk, h0, hw0, hn0⟩ := ok
  intro H locs ls hG hl h1 h2
  have hat := hG.2.2.1 r hr1 hr2
  show W _ _ _ _ _ _ _ _ _ _ _ _ _ _ _ (F0 m pc ls (rf_v _ r :: st))
  rw [rf_h hr1]
  rcases (show hp_k h r = 100 ∨ hp_k h r = 101 ∨ hp_k h r = 102 by omega) with hk | hk | hk
  · rw [w_a0 hk] at hat
    exact va_alen (D := g'.2.2.1) (cl := am_cl) (tys := ty_s g') hx hb hgv.1 (va_P1 hat) 0 0 rfl rfl rfl d (kk H locs ls hG hl h1 h2)
  · rw [w_a1 hk] at hat
    exact va_alen (D := g'.2.2.1) (cl := am_cl) (tys := ty_s g') hx hb hgv.1 (va_P1 hat) 0 1 rfl rfl rfl d (kk H locs ls hG hl h1 h2)
  · rw [w_a2 hk] at hat
    exact va_alen (D := g'.2.2.1) (cl := am_cl) (tys := ty_s g') hx hb hgv.1 (va_P1 hat) 0 2 rfl rfl rfl d (kk H locs ls hG hl h1 h2)
theorem up_row {α : Type} {f : Nat → Nat → α} {r k : Nat} {v : α} : up_2 f r k v r = fun j => if j = k then v else f r j := by
  funext j
  unfold up_2
  simp
theorem tj_iastore (ok : OkX X g cc nL own ret) (d : decode cc pc = .ok (.iastore, 1)) {r : Nat} {i v : Int32} {h' : AH} (e : s_i h r i v = some h') (kk : TJ X (pc + 1) lv st h') : TJ X pc lv (.int v :: .int i :: rf_v g r :: st) h := by
  obtain ⟨⟨⟨hr1, hr2, hr3⟩, hi1, hi2⟩, rfl⟩ := of_if e
  obtain ⟨p, e, R, s, m, args, below, meth, c, g', nL', n0, s0, Q⟩ := X
  obtain ⟨rfl, rfl, hx, hb, hml, hown, hts, hgv, hr, hlk, h0, hw0, hn0⟩ := ok
  intro H locs ls hG hl h1 h2
  have hat := hG.2.2.1 r hr1 hr2
  rw [w_a0 hr3] at hat
  show W _ _ _ _ _ _ _ _ _ _ _ _ _ _ _ (F0 m pc ls (.int v :: .int i :: rf_v _ r :: st))
  rw [rf_h hr1]
  refine W.iast hx hb hat ((hgv.1.2 0 _ rfl).1 (hp_l h r) (fun j => .int (hp_i h r j))) (fun q => by cases q) (by show ¬ (i < 0 ∨ (arrV _ _ _).slots.size ≤ _); rw [arrV_size]; exact in_of hi1 hi2) rfl rfl d fun H1 e1 z oq => ?_
  refine kk H1 _ ls (GW.upd (h' := st_i h r i.toNatClampNeg v) hG hr1 rfl (fun a ha => w_si ha) ?_ z oq) hl h1 h2
  rw [w_a0 (h := st_i h r i.toNatClampNeg v) hr3]
  show H1[_]? = some (vp_cell _ _)
  rw [e1, vp_cell_i, vp_cell_i, arrV_store]
  congr 2
  funext q
  show _ = Value.int (up_2 _ _ _ _ _ _)
  rw [up_row]
  by_cases hq : q = i.toNatClampNeg
  · simp [updV, hq]
  · simp [updV, hq]
theorem tj_lastore (ok : OkX X g cc nL own ret) (d : decode cc pc = .ok (.lastore, 1)) {r : Nat} {i : Int32} {v : Int64} {h' : AH} (e : s_j h r i v = some h') (kk : TJ X (pc + 1) lv st h') : TJ X pc lv (.long v :: .int i :: rf_v g r :: st) h := by
  obtain ⟨⟨⟨hr1, hr2, hr3⟩, hi1, hi2⟩, rfl⟩ := of_if e
  obtain ⟨p, e, R, s, m, args, below, meth, c, g', nL', n0, s0, Q⟩ := X
  obtain ⟨rfl, rfl, hx, hb, hml, hown, hts, hgv, hr, hlk, h0, hw0, hn0⟩ := ok
  intro H locs ls hG hl h1 h2
  have hat := hG.2.2.1 r hr1 hr2
  rw [w_a1 hr3] at hat
  show W _ _ _ _ _ _ _ _ _ _ _ _ _ _ _ (F0 m pc ls (.long v :: .int i :: rf_v _ r :: st))
  rw [rf_h hr1]
  refine W.last hx hb hat ((hgv.1.2 1 _ rfl).1 (hp_l h r) (fun j => .long (hp_j h r j))) (fun q => by cases q) (by show ¬ (i < 0 ∨ (arrV _ _ _).slots.size ≤ _); rw [arrV_size]; exact in_of hi1 hi2) rfl rfl d fun H1 e1 z oq => ?_
  refine kk H1 _ ls (GW.upd (h' := st_j h r i.toNatClampNeg v) hG hr1 rfl (fun a ha => w_sj ha) ?_ z oq) hl h1 h2
  rw [w_a1 (h := st_j h r i.toNatClampNeg v) hr3]
  show H1[_]? = some (vp_cell _ _)
  rw [e1, vp_cell_l, vp_cell_l, arrV_store]
  congr 2
  funext q
  show _ = Value.long (up_2 _ _ _ _ _ _)
  rw [up_row]
  by_cases hq : q = i.toNatClampNeg
  · simp [updV, hq]
  · simp [updV, hq]
theorem tj_new (ok : OkX X g cc nL own ret) {ci idx N : Nat} {C : String} {T : u_T} {ty : Nat → FieldType} (F : Fc ci C T N ty) (hm : Cond.classLink own idx C ∈ lw_gd) (hm2 : Cond.instantiable C N ∈ lw_gd) (hm3 : Cond.initialized C ∈ lw_gd)
    (d : decode cc pc = .ok (.new idx, 3)) (hnf : ∀ j, ty j ≠ .float) (hnd : ∀ j, ty j ≠ .double) (ca : CaX X (st_n h ci N)) (kk : TJ X (pc + 3) lv (rf_v g (hp_n h) :: st) (st_n h ci N)) : TJ X pc lv st h := by
  obtain ⟨F1, F2, F3, F4, F5, F6, F7⟩ := F
  obtain ⟨p, e, R, s, m, args, below, meth, c, g', nL', n0, s0, Q⟩ := X
  obtain ⟨rfl, rfl, hx, hb, hml, hown, hts, hgv, hr, hlk, h0, hw0, hn0⟩ := ok
  intro H locs ls hG hl h1 h2
  have hKn := hgv.1.1 ci _ F1
  have ca1 : hp_n h + 1 - n0 ≤ R.cells := ca.1
  have ca2 : hp_s h + N - s0 ≤ R.slots := ca.2
  refine W.newcK hx hb hown (hts _ hm) (hts _ hm2) (hts _ hm3) rfl d (by omega) (by omega) hKn.2.1 (ad_new hG) fun H1 kC hkC e1 z1 o1 => ?_
  have hG1 : GW g' (st_n h ci N) H1 locs := by
    refine GW.push hG ?_ (by rw [z1, ← ad_new hG]) (fun q hq => o1 q (by rw [← ad_new hG]; exact hq))
    have hk1 : hp_k (st_n h ci N) (hp_n h) = ci := by show up_1 _ _ _ _ = _; unfold up_1; rw [if_pos rfl]
    rw [w_o hk1 F7]
    refine ⟨_, F1, (u_born ty hts F2 hKn hkC e1 F3).to (fun j hj => ?_)⟩
    unfold vp_V
    rw [List.getD_eq_getElem?_getD, fl_get hk1 (by rw [F5]; exact hj), F6]
    show _ = sl_v _ _ _ _ _
    unfold sl_v
    have i1 : hp_i (st_n h ci N) (hp_n h) j = 0 := by simp [hp_i, st_n, up_1]
    have i2 : hp_j (st_n h ci N) (hp_n h) j = 0 := by simp [hp_j, st_n, up_1]
    have i3 : hp_r (st_n h ci N) (hp_n h) j = 0 := by simp [hp_r, st_n, up_1]
    rw [i1, i2, i3]
    have hF3 := F3 j hj
    cases hty : ty j with
    | float => exact absurd hty (hnf j)
    | double => exact absurd hty (hnd j)
    | _ => rfl
  have z := kk H1 locs ls hG1 hl (by show n0 ≤ hp_n h + 1; omega) (by show s0 ≤ hp_s h + N; omega)
  have n1 : hp_n (st_n h ci N) - n0 = hp_n h - n0 + 1 := by show hp_n h + 1 - n0 = _; omega
  have n2 : hp_s (st_n h ci N) - s0 = hp_s h - s0 + N := by show hp_s h + N - s0 = _; omega
  rw [n1, n2, rf_h hG.2.1] at z
  exact z
theorem nw_k {h : AH} {c n : Nat} : hp_k (st_n h c n) (hp_n h) = c := by simp [hp_k, st_n, up_1]
theorem nw_l {h : AH} {c n : Nat} : hp_l (st_n h c n) (hp_n h) = n := by simp [hp_l, st_n, up_1]
theorem nw_i {h : AH} {c n : Nat} : hp_i (st_n h c n) (hp_n h) = fun _ => 0 := by simp [hp_i, st_n, up_1]
theorem nw_j {h : AH} {c n : Nat} : hp_j (st_n h c n) (hp_n h) = fun _ => 0 := by simp [hp_j, st_n, up_1]
theorem nw_r {h : AH} {c n : Nat} : hp_r (st_n h c n) (hp_n h) = fun _ => 0 := by simp [hp_r, st_n, up_1]
theorem tj_newI (ok : OkX X g cc nL own ret) (hm : Cond.arrayClass (newarray.typeOf .int) ∈ lw_gd) (d : decode cc pc = .ok (.newarray .int, 2)) {i : Int32} {h' : AH} (e : n_a h 100 i = some h') (ca : CaX X h') (kk : TJ X (pc + 2) lv (rf_v g (hp_n h) :: st) h') : TJ X pc lv (.int i :: st) h := by
  obtain ⟨⟨hi1, hi2⟩, rfl⟩ := of_if e
  obtain ⟨p, e, R, s, m, args, below, meth, c, g', nL', n0, s0, Q⟩ := X
  obtain ⟨rfl, rfl, hx, hb, hml, hown, hts, hgv, hr, hlk, h0, hw0, hn0⟩ := ok
  intro H locs ls hG hl h1 h2
  have ca1 : hp_n h + 1 - n0 ≤ R.cells := ca.1
  have ca2 : hp_s h + i.toNatClampNeg - s0 ≤ R.slots := ca.2
  refine va_newaK hx hb (hts _ hm) rfl d rfl hi1 rfl (by show _ * 4 ≤ _; omega) (by omega) (by omega) (ad_new hG) fun H1 cA e1 z1 o1 hAr hNm => ?_
  have hcA : cA = g'.2.2.2.1.1 := by
    have h3 : s.vm.findClass ("[" ++ FieldType.int.toString) = some g'.2.2.2.1.1 := (hgv.1.2 0 _ rfl).2
    exact Option.some.inj (hNm.symm.trans h3)
  subst hcA
  have hG1 : GW g' (st_n h 100 i.toNatClampNeg) H1 locs := by
    refine GW.push hG ?_ (by rw [z1, ← ad_new hG]) (fun q hq => o1 q (by rw [← ad_new hG]; exact hq))
    rw [w_a0 nw_k, nw_l, nw_i]
    exact e1
  have z := kk H1 locs ls hG1 hl (by show n0 ≤ hp_n h + 1; omega) (by show s0 ≤ hp_s h + i.toNatClampNeg; omega)
  have n1 : hp_n (st_n h 100 i.toNatClampNeg) - n0 = hp_n h - n0 + 1 := by show hp_n h + 1 - n0 = _; omega
  have n2 : hp_s (st_n h 100 i.toNatClampNeg) - s0 = hp_s h - s0 + i.toNatClampNeg := by show hp_s h + i.toNatClampNeg - s0 = _; omega
  rw [n1, n2, rf_h hG.2.1] at z
  exact z
theorem tj_newJ (ok : OkX X g cc nL own ret) (hm : Cond.arrayClass (newarray.typeOf .long) ∈ lw_gd) (d : decode cc pc = .ok (.newarray .long, 2)) {i : Int32} {h' : AH} (e : n_a h 101 i = some h') (ca : CaX X h') (kk : TJ X (pc + 2) lv (rf_v g (hp_n h) :: st) h') : TJ X pc lv (.int i :: st) h := by
  obtain ⟨⟨hi1, hi2⟩, rfl⟩ := of_if e
  obtain ⟨p, e, R, s, m, args, below, meth, c, g', nL', n0, s0, Q⟩ := X
  obtain ⟨rfl, rfl, hx, hb, hml, hown, hts, hgv, hr, hlk, h0, hw0, hn0⟩ := ok
  intro H locs ls hG hl h1 h2
  have ca1 : hp_n h + 1 - n0 ≤ R.cells := ca.1
  have ca2 : hp_s h + i.toNatClampNeg - s0 ≤ R.slots := ca.2
  refine va_newaK hx hb (hts _ hm) rfl d rfl hi1 rfl (by show _ * 8 ≤ _; omega) (by omega) (by omega) (ad_new hG) fun H1 cA e1 z1 o1 hAr hNm => ?_
  have hcA : cA = g'.2.2.2.1.2.1 := by
    have h3 : s.vm.findClass ("[" ++ FieldType.long.toString) = some g'.2.2.2.1.2.1 := (hgv.1.2 1 _ rfl).2
    exact Option.some.inj (hNm.symm.trans h3)
  subst hcA
  have hG1 : GW g' (st_n h 101 i.toNatClampNeg) H1 locs := by
    refine GW.push hG ?_ (by rw [z1, ← ad_new hG]) (fun q hq => o1 q (by rw [← ad_new hG]; exact hq))
    rw [w_a1 nw_k, nw_l, nw_j]
    exact e1
  have z := kk H1 locs ls hG1 hl (by show n0 ≤ hp_n h + 1; omega) (by show s0 ≤ hp_s h + i.toNatClampNeg; omega)
  have n1 : hp_n (st_n h 101 i.toNatClampNeg) - n0 = hp_n h - n0 + 1 := by show hp_n h + 1 - n0 = _; omega
  have n2 : hp_s (st_n h 101 i.toNatClampNeg) - s0 = hp_s h - s0 + i.toNatClampNeg := by show hp_s h + i.toNatClampNeg - s0 = _; omega
  rw [n1, n2, rf_h hG.2.1] at z
  exact z
theorem arrV_rep (cA : ClassId) (n : Nat) : ({ cls := cA, slots := Array.replicate n Value.null, vm := .none } : Cell) = arrV cA n (fun _ => .null) := by
  unfold arrV
  congr 1
  apply Array.ext
  · simp
  · intro i h1 h2
    simp
theorem tj_newR (ok : OkX X g cc nL own ret) {idx : Nat} (hm : Cond.classLink own idx RX5 ∈ lw_gd) (d : decode cc pc = .ok (.anewarray idx, 3)) {i : Int32} {h' : AH} (e : n_a h 102 i = some h') (ca : CaX X h') (kk : TJ X (pc + 3) lv (rf_v g (hp_n h) :: st) h') : TJ X pc lv (.int i :: st) h := by
  obtain ⟨⟨hi1, hi2⟩, rfl⟩ := of_if e
  obtain ⟨p, e, R, s, m, args, below, meth, c, g', nL', n0, s0, Q⟩ := X
  obtain ⟨rfl, rfl, hx, hb, hml, hown, hts, hgv, hr, hlk, h0, hw0, hn0⟩ := ok
  intro H locs ls hG hl h1 h2
  have ca1 : hp_n h + 1 - n0 ≤ R.cells := ca.1
  have ca2 : hp_s h + i.toNatClampNeg - s0 ≤ R.slots := ca.2
  refine W.anew hx hb hown (hts _ hm) hgv.2.2.2.2.1 rfl d rfl hi1 (by omega) (by omega) (by omega) fun cA kA comp f1 f2 f3 f4 => ?_
  have hcA : cA = g'.2.2.2.1.2.2 := by
    obtain ⟨_, _, _, _, _, h3⟩ := (hgv.1.2 2 _ rfl).2
    exact Option.some.inj (f1.symm.trans h3)
  subst hcA
  have hG1 : GW g' (st_n h 102 i.toNatClampNeg) (H.push { cls := g'.2.2.2.1.2.2, slots := Array.replicate i.toNatClampNeg .null, vm := .none }) locs := by
    refine GW.push hG ?_ (by simp) (fun q hq => by rw [Array.getElem?_push, if_neg (Nat.ne_of_lt hq)])
    rw [w_a2 nw_k, nw_l, nw_r, ← ad_new hG, arrV_rep]
    show (H.push _)[H.size]? = some (vp_cell _ _)
    rw [Array.getElem?_push, if_pos rfl]
    rfl
  have z := kk _ locs ls hG1 hl (by show n0 ≤ hp_n h + 1; omega) (by show s0 ≤ hp_s h + i.toNatClampNeg; omega)
  have n1 : hp_n (st_n h 102 i.toNatClampNeg) - n0 = hp_n h - n0 + 1 := by show hp_n h + 1 - n0 = _; omega
  have n2 : hp_s (st_n h 102 i.toNatClampNeg) - s0 = hp_s h - s0 + i.toNatClampNeg := by show hp_s h + i.toNatClampNeg - s0 = _; omega
  rw [n1, n2, rf_h hG.2.1, ← ad_new hG] at z
  exact z
theorem op_up {g : GT} {h : AH} {r k v : Nat} : (fun j => va_rf (op_r g (hp_r (st_r h r k v) r j))) = updV (fun j => va_rf (op_r g (hp_r h r j))) k (rf_v g v) := by
  funext q
  show va_rf (op_r g (up_2 _ _ _ _ _ _)) = _
  rw [up_row, rf_op]
  by_cases hq : q = k
  · simp [updV, hq]
  · simp [updV, hq, rf_op]
theorem tj_aastore (ok : OkX X g cc nL own ret) (d : decode cc pc = .ok (.aastore, 1)) {r : Nat} {i : Int32} {v : Nat} {h' : AH} (e : s_r h r i v = some h') (kk : TJ X (pc + 1) lv st h') : TJ X pc lv (rf_v g v :: .int i :: rf_v g r :: st) h := by
  obtain ⟨⟨⟨⟨hr1, hr2, hr3⟩, hi1, hi2⟩, hv⟩, rfl⟩ := of_if e
  obtain ⟨p, e, R, s, m, args, below, meth, c, g', nL', n0, s0, Q⟩ := X
  obtain ⟨rfl, rfl, hx, hb, hml, hown, hts, hgv, hr, hlk, h0, hw0, hn0⟩ := ok
  intro H locs ls hG hl h1 h2
  have hat := hG.2.2.1 r hr1 hr2
  rw [w_a2 hr3] at hat
  have fin : ∀ H1 : Heap, H1[ad_r g' r]? = some ((vp_cell g'.2.2.2.1.2.2 (hp_l h r, .inr (.inr (.inr (.inr (fun j => op_r g' (hp_r h r j))))))).setSlot i.toNatClampNeg (rf_v g' v)) → H1.size = H.size → (∀ q, q ≠ ad_r g' r → H1[q]? = H[q]?) → W p g'.1 e R s m args below meth c H1 (locs ++ [⟨ad_r g' r, i.toNatClampNeg⟩]) (hp_n h - n0) (hp_s h - s0) Q (F0 m (pc + 1) ls st) := by
    intro H1 e1 z oq
    refine kk H1 _ ls (GW.upd (h' := st_r h r i.toNatClampNeg v) hG hr1 rfl (fun a ha => w_sr ha) ?_ z oq) hl h1 h2
    rw [w_a2 (h := st_r h r i.toNatClampNeg v) hr3]
    show H1[_]? = some (vp_cell _ _)
    rw [e1, vp_cell_q, vp_cell_q, arrV_store]
    exact congrArg (fun f => some (arrV g'.2.2.2.1.2.2 (hp_l h r) f)) op_up.symm
  show W _ _ _ _ _ _ _ _ _ _ _ _ _ _ _ (F0 m pc ls (rf_v _ v :: .int i :: rf_v _ r :: st))
  rw [rf_h (r := r) hr1]
  rcases hv with rfl | ⟨hv1, hv2, hv3⟩
  · exact va_WaastN (C := RX5) hx hb hat ((hgv.1.2 2 _ rfl).1 (hp_l h r) (fun j => va_rf (op_r g' (hp_r h r j)))) (fun h => by cases h) (by show ¬ (i < 0 ∨ (arrV _ _ _).slots.size ≤ _); rw [arrV_size]; exact in_of hi1 hi2) rfl rfl d fin
  · have hav := hG.2.2.1 v hv1 hv2
    rw [w_o hv3 (by omega)] at hav
    obtain ⟨r', hr', cellV, g1, g2, g3, -⟩ := hav
    have hcls := (hgv.1.1 5 _ rfl).2
    obtain ⟨kA, comp, k1, k2, k3, -⟩ := (hgv.1.2 2 _ rfl).2
    have hcomp : comp = g'.2.2.1.1 5 := Option.some.inj (k3.symm.trans hcls.1)
    subst hcomp
    obtain ⟨kC, hkC, -⟩ := hcls.2
    rw [rf_h hv1] at fin ⊢
    exact W.aast hx hb hat (fun q h => by cases h) (fun h => by cases h) k1 k2 rfl hkC ⟨hi1, by show _ < (arrV _ _ _).slots.size; rw [arrV_size]; exact hi2⟩ g1 (fun q h => by rw [g3] at h; cases h) (by rw [g2]; exact hkC) (by rw [g2]; exact va_assign hcls) rfl rfl d fin
end TJ3
