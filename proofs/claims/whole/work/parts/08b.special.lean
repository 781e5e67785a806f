section TJ6
variable {X : CX} {g : GT} {cc : ByteArray} {nL : Nat} {own : String} {ret : Option FieldType} {pc : Nat} {lv : List (Nat × TV)} {rest st st0 st1 : List Value} {h : AH}
theorem GW.row {g : GT} {h : AH} {H : Heap} {locs : List Loc} (hG : GW g h H locs) {r : Nat} (hr : ok_o h r 100) : H[ad_r g r]? = some (vp_cell g.2.2.2.1.1 (hp_l h r, .inl (hp_i h r))) := by
  have hat := hG.2.2.1 r hr.1 hr.2.1
  rw [w_a0 hr.2.2] at hat
  exact hat
theorem GW.upds {g : GT} {h h' : AH} {H H' : Heap} {locs : List Loc} {r : Nat} {L : List Loc} (hG : GW g h H locs) (hr1 : 64 ≤ r) (hn : hp_n h' = hp_n h) (hw : ∀ a, a ≠ r → w_E g h' a = w_E g h a)
    (hat : va_at g.2.2.1 am_cl (ad_r g r, w_E g h' r) H') (hz : H'.size = H.size) (oq : ∀ q, q ≠ ad_r g r → H'[q]? = H[q]?) (hL : ∀ q ∈ L, q.base = ad_r g r) : GW g h' H' (locs ++ L) := by
  have z := GW.upd (k := 0) hG hr1 hn hw hat hz oq
  refine ⟨z.1, z.2.1, z.2.2.1, z.2.2.2.1, z.2.2.2.2.1, fun q hq => ?_⟩
  rcases List.mem_append.mp hq with q1 | q1
  · exact hG.2.2.2.2.2 q q1
  · rw [hL q q1]
    show g_B g ≤ _
    rw [ad_h hr1]
    omega
theorem tj_acopy (ok : OkX X g cc nL own ret) {K idx : Nat} (lev : LvX X K) (hk : 1 ≤ K) (hlink : Cond.methodLink own idx arraycopyName ∈ lw_gd) (hnat : Cond.native arraycopyName ∈ lw_gd) (hst : Cond.static arraycopyName ∈ lw_gd) (hi : Cond.initialized "java/lang/System" ∈ lw_gd) (hrest : (rest.map fun v => v.category).sum ≤ 8)
    {a b : Nat} {sp dp n : Int32} {h' : AH} (e : cp_a h a sp b dp n = some h') (d : decode cc pc = .ok (.invokestatic idx, 3)) (kk : TJ X (pc + 3) lv rest h') : TJ X pc lv (.int n :: .int dp :: rf_v g b :: .int sp :: rf_v g a :: rest) h := by
  obtain ⟨⟨⟨ha, hb'⟩, ⟨h1, h2, h3⟩, h4, h5⟩, rfl⟩ := of_if e
  obtain ⟨p, e, R, s, m, args, below, meth, c, g', nL', n0, s0, Q⟩ := X
  obtain ⟨rfl, rfl, hx, hb, hml, hown, hts, hgv, hr, hlk, h0, hw0, hn0⟩ := ok
  intro H locs ls hG hl q1 q2
  obtain ⟨l1, l2⟩ := lev
  show W _ _ _ _ _ _ _ _ _ _ _ _ _ _ _ (F0 m pc ls (.int n :: .int dp :: rf_v _ b :: .int sp :: rf_v _ a :: rest))
  rw [rf_h ha.1, rf_h hb'.1]
  have nn : ∀ z : Int32, ¬ z < 0 → z.toInt = (z.toNatClampNeg : Int) := by
    intro z hz
    have hz0 : (0 : Int) ≤ z.toInt := by
      have := Int32.not_lt.mp hz
      simpa using Int32.le_iff_toInt_le.mp this
    show z.toInt = ((z.toInt.toNat : Nat) : Int)
    omega
  have hnf : nativeFrameWords "java/lang/System" "arraycopy" 5 ≤ 30 := by decide +kernel
  intro T hT XS
  have hc0 := hG.row ha
  have hc1 := hG.row hb'
  obtain ⟨-, k0, hk0, cm0, hkk0⟩ := (hgv.1.2 0 _ rfl).1 (hp_l h a) (fun j => .int (hp_i h a j))
  obtain ⟨vm', X', step⟩ := XS.arraycopy hx hown (hts _ hlink) (hts _ hnat) (hts _ hst) (hts _ hi) (src := ad_r g' a) (dst := ad_r g' b) (cs := vp_cell g'.2.2.2.1.1 (hp_l h a, .inl (hp_i h a))) (cd := vp_cell g'.2.2.2.1.1 (hp_l h b, .inl (hp_i h b))) (srcPos := sp) (destPos := dp) (n := n) (by rw [hT]; exact hc0) (by rw [hT]; exact hc1)
    (fun _ h => by cases h) (fun _ h => by cases h) (fun h => by cases h) (fun h => by cases h) hk0 hk0 hkk0 hkk0 (by simp [refKind]) h1 h2 h3
    (by rw [nn sp h1, nn n h3]; show ¬ _ > ((arrV _ (hp_l h a) (fun j => .int (hp_i h a j))).slots.size : Int); rw [arrV_size]; omega)
    (by rw [nn dp h2, nn n h3]; show ¬ _ > ((arrV _ (hp_l h b) (fun j => .int (hp_i h b j))).slots.size : Int); rw [arrV_size]; omega)
    (fun vm₁ _ i hi => by
      have e : (vp_cell g'.2.2.2.1.1 (hp_l h a, .inl (hp_i h a))).slots.getD (sp.toNatClampNeg + i) .null = .int (hp_i h a (sp.toNatClampNeg + i)) := by
        show (arrV _ (hp_l h a) (fun j => .int (hp_i h a j))).slots.getD _ _ = _
        rw [Array.getD_eq_getD_getElem?, arrV_read _ _ (by omega)]
        rfl
      refine ⟨?_, ?_⟩
      · rw [e]; rfl
      · rw [e]
        exact trivial)
    (g := F0 m pc ls (.int n :: .int dp :: .ref (ad_r g' b) :: .int sp :: .ref (ad_r g' a) :: rest)) rfl (by rw [hl.1, hml]) (rest := rest) rfl (by rw [hb]; exact d) (by omega) (by show 2 * 0 + _ + _ ≤ _; omega)
  have e1 : copied (vp_cell g'.2.2.2.1.1 (hp_l h a, .inl (hp_i h a))) (vp_cell g'.2.2.2.1.1 (hp_l h b, .inl (hp_i h b))) sp dp n = vp_cell g'.2.2.2.1.1 (hp_l h b, .inl (va_cpy (hp_i h a) (hp_i h b) sp.toNatClampNeg dp.toNatClampNeg n.toNatClampNeg)) := va_copied (fun z => .int z) _ _ (hp_i h a) (hp_i h b) h4
  rw [e1] at X' step
  have hlt : ad_r g' b < H.size := (Array.getElem?_eq_some_iff.mp hc1).1
  obtain ⟨C1, hC1⟩ : ∃ C1, C1 = vp_cell g'.2.2.2.1.1 (hp_l h b, .inl (va_cpy (hp_i h a) (hp_i h b) sp.toNatClampNeg dp.toNatClampNeg n.toNatClampNeg)) := ⟨_, rfl⟩
  rw [← hC1] at X' step
  have hheap : ((T.setVm vm').setCell (ad_r g' b) C1).heap = H.setIfInBounds (ad_r g' b) C1 := by rw [← hT]; rfl
  have hG' : ∀ L : List Loc, (∀ q ∈ L, q.base = ad_r g' b) → GW g' (cp_r h a sp.toNatClampNeg b dp.toNatClampNeg n.toNatClampNeg) (H.setIfInBounds (ad_r g' b) C1) (locs ++ L) := by
    intro L hL
    refine GW.upds hG hb'.1 rfl (fun q hq => w_cg rfl rfl (up_1o hq) rfl rfl) ?_ (by simp) (fun q hq => by simp [Array.getElem?_setIfInBounds, Ne.symm hq]) hL
    · rw [w_a0 (h := cp_r h a sp.toNatClampNeg b dp.toNatClampNeg n.toNatClampNeg) hb'.2.2]
      show (H.setIfInBounds (ad_r g' b) C1)[_]? = some (vp_cell _ (_, .inl (up_1 (hp_i h) b _ b)))
      rw [show up_1 (hp_i h) b (va_cpy (hp_i h a) (hp_i h b) sp.toNatClampNeg dp.toNatClampNeg n.toNatClampNeg) b = va_cpy (hp_i h a) (hp_i h b) sp.toNatClampNeg dp.toNatClampNeg n.toNatClampNeg from if_pos rfl]
      simp [Array.getElem?_setIfInBounds, hlt, hC1]
      rfl
  obtain ⟨t, a1, b1⟩ := kk (H.setIfInBounds (ad_r g' b) C1) _ ls (hG' _ (fun q hq => by obtain ⟨z, -, hz⟩ := List.mem_map.mp hq; rw [← hz])) hl q1 q2 _ hheap X'
  exact ⟨t, step t a1, b1⟩
theorem tj_ldcS (ok : OkX X g cc nL own ret) {i idx r : Nat} (hj : js_k[i]? = some (own, idx, r - 1)) (hr : 1 ≤ r ∧ r ≤ 17) (d : decode cc pc = .ok (.ldc idx, 2)) (kk : TJ X (pc + 2) lv (rf_v g r :: st) h) : TJ X pc lv st h := by
  obtain ⟨p, e, R, s, m, args, below, meth, c, g', nL', n0, s0, Q⟩ := X
  obtain ⟨rfl, rfl, hx, hb, hml, hown, hts, hgv, hrr, hlk, h0, hw0, hn0⟩ := ok
  intro H locs ls hG hl q1 q2
  have hR := hgv.2.1.1 i _ hj
  refine va_ldcS hx hb hown hR d ?_
  have z := kk H locs ls hG hl q1 q2
  have e1 : rf_v g' r = .ref (g'.2.2.2.2.1 (r - 1 + 1)) := by
    unfold rf_v ad_r
    rw [if_neg (by omega), if_pos (by omega), if_pos (by omega), show r - 1 + 1 = r by omega]
  rw [e1] at z
  exact z
/-- the state at the method's own start and now: below the law's start nothing has changed -/
theorem ok_S {p : Program} {e : Env} {R : Room} {s : State} {h0 h : AH} {H : Heap} {locs : List Loc} (hw0 : GW g h0 s.heap []) (hn : hp_n h0 ≤ hp_n h) (hG : GW g h H locs) : va_S (G_A g) s.heap H locs := by
  refine ⟨?_, fun q hq hA => ?_, hG.2.2.2.2.2⟩
  · have h1 := hw0.1
    have h2 := hG.1
    omega
  · have hq2 : q < g.2.1.size := Nat.not_le.mp hA
    rw [hG.2.2.2.2.1 q hq2 hA, hw0.2.2.2.2.1 q hq2 hA]
theorem ok_k {s : State} {h0 : AH} (hw0 : GW g h0 s.heap []) : ∀ a : Nat, a < g.2.1.size → ¬ G_A g a → s.heap[a]? = g.2.1[a]? := fun a h1 h2 => hw0.2.2.2.2.1 a h1 h2
theorem tj_callT (ok : OkX X g cc nL own ret) {K k idx nL' : Nat} (lev : LvX X K) (hk : k + 1 ≤ K) {y : MethodName} {cc' : ByteArray} {ret' : Option FieldType} {as : List TV} {r : Nat} {h1 : AH} {v : Option TV} (hM : CM g k y cc' nL' ret' h (.inr (.inr r) :: as) h1 v) (ca : CaX X h1) (hr : 1 ≤ r ∧ r ≤ 17) (hkn : Kn y cc' nL' ret' as.length) (hyc : y.cls = "java/lang/String")
    (hlink : Cond.methodLink own idx y ∈ lw_gd) (hst : Cond.instanceMethod y ∈ lw_gd) (hsel : Cond.selects "java/lang/String" y y ∈ lw_gd) (hrest : (rest.map fun v => v.category).sum ≤ 8) (hs : st0 = (as.map (vl g)).reverse ++ rf_v g r :: rest) (hs1 : (v.map (vl g)).toList ++ rest = st1) (d : decode cc pc = .ok (.invokevirtual idx, 3)) (kk : TJ X (pc + 3) lv st1 h1) : TJ X pc lv st0 h := by
  obtain ⟨hcw, hini, hy, hn⟩ := hkn
  obtain ⟨hmono, hM⟩ := hM
  obtain ⟨p, e, R, s, m, args, below, meth, c, g', nL1, n0, s0, Q⟩ := X
  obtain ⟨rfl, rfl, hx, hb, hml, hown, hts, hgv, hr', hlk, h0, hw0, hn0⟩ := ok
  intro H locs ls hG hl q1 q2
  subst hs hs1
  obtain ⟨l1, l2⟩ := lev
  have cb := callB_of (R := R) (Ts := lw_gd) (own := own) (index := idx) (rm := { frames := k, cells := hp_n h1 - hp_n h, slots := hp_s h1 - hp_s h, locals := 60 * k }) as.length hts (gd_c hcw) rfl rfl rfl (hts _ hini) (hts _ hlink) hy ⟨by show k + 1 ≤ _; omega, by show 8 + (nL' + 11) + 60 * k ≤ _; omega⟩
  obtain ⟨ca1, ca2⟩ := ca
  have e1 : rf_v g' r = .ref (g'.2.2.2.2.1 (r - 1 + 1)) := by
    unfold rf_v ad_r
    rw [if_neg (by omega), if_pos (by omega), if_pos (by omega), show r - 1 + 1 = r by omega]
  rw [List.map_cons, show vl g' (.inr (.inr r)) = .ref (g'.2.2.2.2.1 (r - 1 + 1)) from e1] at hM
  show W _ _ _ _ _ _ _ _ _ _ _ _ _ _ _ (F0 m pc ls ((as.map (vl _)).reverse ++ rf_v _ r :: rest))
  rw [e1]
  have hS := ok_S (p := p) (e := e) (R := R) hw0 (by omega) hG
  have hrec := vk_recv (i := r - 1) (vk_S.kept hgv.2.1.2 (ok_k hw0)) (by omega) hS
  refine w_callY (W.runV (nL := nL1) (C := "java/lang/String") ⟨hx, hb, hml, hown, hts⟩ hM ⟨cb, hts _ hst, hts _ hsel⟩ ⟨pc_bl _ _ _, hrec, fun U hU hW => ⟨rfl, by rw [hU]; exact hG.nil, GV.moved hW hgv⟩⟩ rfl (by simp) hl.1 rfl (lv_room hrest) d ⟨by omega, by omega⟩) ?_
  intro v' st₀ t L e0 hL hq
  obtain ⟨ev, hG1⟩ := hq
  cases ev
  have z := kk t.heap (locs ++ L) ls (hG.app hG1 hL) hl (by omega) (by omega)
  rw [show hp_n h - n0 + (hp_n h1 - hp_n h) = hp_n h1 - n0 by omega, show hp_s h - s0 + (hp_s h1 - hp_s h) = hp_s h1 - s0 by omega]
  exact z
theorem tj_comp (ok : OkX X g cc nL own ret) {idx : Nat} (hm : Cond.fieldLink own idx "java/lang/String" "COMPACT_STRINGS" "Z" ∈ lw_gd) (d : decode cc pc = .ok (.getstatic idx, 3)) (kk : TJ X (pc + 3) lv (.int 1 :: st) h) : TJ X pc lv st h := by
  obtain ⟨p, e, R, s, m, args, below, meth, c, g', nL', n0, s0, Q⟩ := X
  obtain ⟨rfl, rfl, hx, hb, hml, hown, hts, hgv, hrr, hlk, h0, hw0, hn0⟩ := ok
  intro H locs ls hG hl q1 q2
  exact va_gets hx hb (va_Z.kept hgv.2.2.1.2.2.2.1 (ok_k hw0)) (ok_S (p := p) (e := e) (R := R) hw0 (by omega) hG) hown (hts _ hm) (fun _ h => h) d (kk H locs ls hG hl q1 q2)
theorem tj_sio (ok : OkX X g cc nL own ret) {idx : Nat} (hm : Cond.fieldLink own idx "jdk/internal/util/Preconditions" "SIOOBE_FORMATTER" "Ljava/util/function/BiFunction;" ∈ lw_gd) (d : decode cc pc = .ok (.getstatic idx, 3)) (kk : ∀ r, TJ X (pc + 3) lv (rf_v g r :: st) h) : TJ X pc lv st h := by
  obtain ⟨p, e, R, s, m, args, below, meth, c, g', nL', n0, s0, Q⟩ := X
  obtain ⟨rfl, rfl, hx, hb, hml, hown, hts, hgv, hrr, hlk, h0, hw0, hn0⟩ := ok
  intro H locs ls hG hl q1 q2
  rcases hgv.2.2.1.2.2.2.2 with hz | hz
  · exact va_gets hx hb (va_Z.kept hz (ok_k hw0)) (ok_S (p := p) (e := e) (R := R) hw0 (by omega) hG) hown (hts _ hm) (fun _ h => h) d (kk 0 H locs ls hG hl q1 q2)
  · exact va_gets hx hb (va_Z.kept hz (ok_k hw0)) (ok_S (p := p) (e := e) (R := R) hw0 (by omega) hG) hown (hts _ hm) (fun _ h => h) d (kk 50 H locs ls hG hl q1 q2)
theorem rf_s {g : GT} {r : Nat} (hr : 1 ≤ r ∧ r ≤ 17) : rf_v g r = .ref (g.2.2.2.2.1 (r - 1 + 1)) := by
  unfold rf_v ad_r
  rw [if_neg (by omega), if_pos (by omega), if_pos (by omega), show r - 1 + 1 = r by omega]
theorem rf_b {g : GT} {r : Nat} (hr : 1 ≤ r ∧ r ≤ 17) : rf_v g (r + 32) = .ref (g.2.2.2.2.2 (r - 1)) := by
  unfold rf_v ad_r
  rw [if_neg (by omega), if_pos (by omega), if_neg (by omega), show r + 32 - 33 = r - 1 by omega]
theorem tj_coder (ok : OkX X g cc nL own ret) {idx r : Nat} (hr : 1 ≤ r ∧ r ≤ 17) (hm : Cond.fieldLink own idx "java/lang/String" "coder" "B" ∈ lw_gd) (d : decode cc pc = .ok (.getfield idx, 3)) (kk : TJ X (pc + 3) lv (.int 0 :: st) h) : TJ X pc lv (rf_v g r :: st) h := by
  obtain ⟨p, e, R, s, m, args, below, meth, c, g', nL', n0, s0, Q⟩ := X
  obtain ⟨rfl, rfl, hx, hb, hml, hown, hts, hgv, hrr, hlk, h0, hw0, hn0⟩ := ok
  intro H locs ls hG hl q1 q2
  show W _ _ _ _ _ _ _ _ _ _ _ _ _ _ _ (F0 m pc ls (rf_v _ r :: st))
  rw [rf_s hr]
  exact vk_getf hx hb ((vk_S.kept hgv.2.1.2 (ok_k hw0)).1 (r - 1) (by omega)).2.1 (ok_S (p := p) (e := e) (R := R) hw0 (by omega) hG) hown (hts _ hm) (fun _ h => h) d (kk H locs ls hG hl q1 q2)
theorem tj_value (ok : OkX X g cc nL own ret) {idx r : Nat} (hr : 1 ≤ r ∧ r ≤ 17) (hm : Cond.fieldLink own idx "java/lang/String" "value" "[B" ∈ lw_gd) (d : decode cc pc = .ok (.getfield idx, 3)) (kk : TJ X (pc + 3) lv (rf_v g (r + 32) :: st) h) : TJ X pc lv (rf_v g r :: st) h := by
  obtain ⟨p, e, R, s, m, args, below, meth, c, g', nL', n0, s0, Q⟩ := X
  obtain ⟨rfl, rfl, hx, hb, hml, hown, hts, hgv, hrr, hlk, h0, hw0, hn0⟩ := ok
  intro H locs ls hG hl q1 q2
  show W _ _ _ _ _ _ _ _ _ _ _ _ _ _ _ (F0 m pc ls (rf_v _ r :: st))
  rw [rf_s hr]
  have z := kk H locs ls hG hl q1 q2
  rw [rf_b hr] at z
  exact vk_getf hx hb ((vk_S.kept hgv.2.1.2 (ok_k hw0)).1 (r - 1) (by omega)).2.2.1 (ok_S (p := p) (e := e) (R := R) hw0 (by omega) hG) hown (hts _ hm) (fun _ h => h) d z
theorem tj_blen (ok : OkX X g cc nL own ret) {r : Nat} (hr : 1 ≤ r ∧ r ≤ 17) (d : decode cc pc = .ok (.arraylength, 1)) (kk : TJ X (pc + 1) lv (.int (Int32.ofNat (js_l.getD (r - 1) 0)) :: st) h) : TJ X pc lv (rf_v g (r + 32) :: st) h := by
  obtain ⟨p, e, R, s, m, args, below, meth, c, g', nL', n0, s0, Q⟩ := X
  obtain ⟨rfl, rfl, hx, hb, hml, hown, hts, hgv, hrr, hlk, h0, hw0, hn0⟩ := ok
  intro H locs ls hG hl q1 q2
  show W _ _ _ _ _ _ _ _ _ _ _ _ _ _ _ (F0 m pc ls (rf_v _ (r + 32) :: st))
  rw [rf_b hr]
  obtain ⟨cell, t1, t2, t3, t4, t5, t6, t7⟩ := va_T.kept (H1 := H) (hgv.2.1.2.1 (r - 1) (by omega)).2.2.2 (fun a h1 h2 => hG.2.2.2.2.1 a h1 h2)
  exact W.alen (n := Int32.ofNat (js_l.getD (r - 1) 0)) hx hb t1 t2 t5 rfl rfl d (kk H locs ls hG hl q1 q2)
theorem tj_baload (ok : OkX X g cc nL own ret) {r : Nat} {i : Int32} (hr : 1 ≤ r ∧ r ≤ 17) (hi : ¬ i < 0 ∧ i.toNatClampNeg < js_l.getD (r - 1) 0) (d : decode cc pc = .ok (.baload, 1)) (kk : TJ X (pc + 1) lv (.int ((js_b.getD (r - 1) []).getD i.toNatClampNeg 0) :: st) h) : TJ X pc lv (.int i :: rf_v g (r + 32) :: st) h := by
  obtain ⟨p, e, R, s, m, args, below, meth, c, g', nL', n0, s0, Q⟩ := X
  obtain ⟨rfl, rfl, hx, hb, hml, hown, hts, hgv, hrr, hlk, h0, hw0, hn0⟩ := ok
  intro H locs ls hG hl q1 q2
  show W _ _ _ _ _ _ _ _ _ _ _ _ _ _ _ (F0 m pc ls (.int i :: rf_v _ (r + 32) :: st))
  rw [rf_b hr]
  obtain ⟨cell, t1, t2, t3, t4, t5, t6, t7⟩ := va_T.kept (H1 := H) (hgv.2.1.2.1 (r - 1) (by omega)).2.2.2 (fun a h1 h2 => hG.2.2.2.2.1 a h1 h2)
  exact W.bald hx hb t1 t2 t3 (fun q => q.elim hi.1 (fun q => by omega)) (t6 _ hi.2) rfl rfl d (kk H locs ls hG hl q1 q2)
theorem tj_i2c (ok : OkX X g cc nL own ret) {x : Int32} (d : decode cc pc = .ok (.i2c, 1)) (kk : TJ X (pc + 1) lv (.int (x.toUInt32 % 65536).toInt32 :: st) h) : TJ X pc lv (.int x :: st) h := by
  obtain ⟨p, e, R, s, m, args, below, meth, c, g', nL', n0, s0, Q⟩ := X
  obtain ⟨rfl, rfl, hx, hb, hml, hown, hts, hgv, hrr, hlk, h0, hw0, hn0⟩ := ok
  intro H locs ls hG hl q1 q2
  exact lv_i2c hx hb d rfl (kk H locs ls hG hl q1 q2)
theorem tj_nreturn {ty : FieldType} (ok : OkX X g cc nL own (some ty)) {v : Int32} (hn : narrow ty (.int v) = .int v) (en : EnX X h (some (.inl v))) (d : decode cc pc = .ok (.ireturn, 1)) : TJ X pc lv [.int v] h := by
  obtain ⟨p, e, R, s, m, args, below, meth, c, g', nL', n0, s0, Q⟩ := X
  obtain ⟨rfl, rfl, hx, hb, hml, hown, hts, hgv, hr, hlk, h0, hw0, hn0⟩ := ok
  intro H locs ls hG hl h1 h2
  obtain ⟨rfl, -, -⟩ := en
  exact W.zret hx hb hr hn (fun t ht _ => ⟨rfl, by rw [ht]; exact hG.nil⟩) (fun q hq => hG.2.2.2.2.2 q hq) d hlk
theorem GW.pushG {g : GT} {h h' : AH} {H H' : Heap} {locs : List Loc} (hG : GW g h H locs) (hn : hp_n h' = hp_n h + 1) (hw : ∀ a, a ≠ hp_n h → w_E g h' a = w_E g h a)
    (hat : va_at g.2.2.1 am_cl (ad_r g (hp_n h), w_E g h' (hp_n h)) H') (hz : H'.size = H.size + 1) (oq : ∀ q, q < H.size → H'[q]? = H[q]?) : GW g h' H' locs := by
  obtain ⟨g1, g2, g3, g4⟩ := hG
  have g5 : g.2.1.size ≤ H.size := g4.1
  refine ⟨by rw [hn]; omega, by rw [hn]; omega, fun a ha1 ha2 => ?_, Nat.le_trans g5 (by omega), fun q h1 h2 => (oq q (Nat.lt_of_lt_of_le h1 g5)).trans (g4.2.1 q h1 h2), g4.2.2⟩
  rw [hn] at ha2
  by_cases ha : a = hp_n h
  · subst ha; exact hat
  · rw [hw a ha]
    have hlt := g3 a ha1 (by omega)
    exact hlt.kept (oq _ hlt.lt)
theorem tj_clone (ok : OkX X g cc nL own ret) {K idx : Nat} (lev : LvX X K) (hk : 1 ≤ K) (hlink : Cond.methodLink own idx ⟨"[I", "clone", "()Ljava/lang/Object;"⟩ ∈ lw_gd) (hsame : Cond.sameMethod "[I" "java/lang/Object" "clone" "()Ljava/lang/Object;" ∈ lw_gd) (hnat : Cond.native ⟨"java/lang/Object", "clone", "()Ljava/lang/Object;"⟩ ∈ lw_gd) (hinst : Cond.instanceMethod ⟨"java/lang/Object", "clone", "()Ljava/lang/Object;"⟩ ∈ lw_gd) (hsel : Cond.selects "[I" ⟨"[I", "clone", "()Ljava/lang/Object;"⟩ ⟨"java/lang/Object", "clone", "()Ljava/lang/Object;"⟩ ∈ lw_gd)
    (hrest : (rest.map fun v => v.category).sum ≤ 8) {r : Nat} {h' : AH} (e : c_l h r = some h') (ca : CaX X h') (d : decode cc pc = .ok (.invokevirtual idx, 3)) (kk : TJ X (pc + 3) lv (rf_v g (hp_n h) :: rest) h') : TJ X pc lv (rf_v g r :: rest) h := by
  obtain ⟨hr, rfl⟩ := of_if e
  obtain ⟨p, e, R, s, m, args, below, meth, c, g', nL', n0, s0, Q⟩ := X
  obtain ⟨rfl, rfl, hx, hb, hml, hown, hts, hgv, hrr, hlk, h0, hw0, hn0⟩ := ok
  intro H locs ls hG hl q1 q2
  obtain ⟨l1, l2⟩ := lev
  have ca1 : hp_n h + 1 - n0 ≤ R.cells := ca.1
  have ca2 : hp_s h + hp_l h r - s0 ≤ R.slots := ca.2
  show W _ _ _ _ _ _ _ _ _ _ _ _ _ _ _ (F0 m pc ls (rf_v _ r :: rest))
  rw [rf_h hr.1]
  have hc0 := hG.row hr
  obtain ⟨C1, hC1⟩ : ∃ C1, C1 = vp_cell g'.2.2.2.1.1 (hp_l h r, .inl (hp_i h r)) := ⟨_, rfl⟩
  have hnm : s.vm.findClass "[I" = some g'.2.2.2.1.1 := (hgv.1.2 0 _ rfl).2
  obtain ⟨c0, t0', f1, f2, f3⟩ := Cond.castable_spec (va_Nw.use (A := args) rfl hgv.2.2.2.2.2.2.2.2.1)
  cases hnm.symm.trans f1
  intro T hT XS
  have hcellT : T.heap[ad_r g' r]? = some (vp_cell g'.2.2.2.1.1 (hp_l h r, .inl (hp_i h r))) := by rw [hT]; exact hc0
  obtain ⟨-, kA, hkA, comp, hkind⟩ := State.isArrayOf_alike XS.warmed.alike ((hgv.1.2 0 _ rfl).1 0 (fun _ => .null))
  obtain ⟨-, kS, hkS, compS, hkindS⟩ := (hgv.1.2 0 _ rfl).1 0 (fun _ => .null)
  have hsz : (vp_cell g'.2.2.2.1.1 (hp_l h r, .inl (hp_i h r))).slots.size = hp_l h r := arrV_size _ _ _
  obtain ⟨vm', X', st⟩ := XS.cloneArray hx hown (hts _ hlink) (hts _ hsame) (hts _ hnat) (hts _ hinst) (hts _ hsel) (a := ad_r g' r) (cell := vp_cell g'.2.2.2.1.1 (hp_l h r, .inl (hp_i h r))) hcellT (fun k h => by cases h) (fun h => by cases h) hnm f2 f3
    (fun i v hv => by
      have hk' : T.vm.classes[g'.2.2.2.1.1]? = some kA := hkA
      have hv' : (arrV g'.2.2.2.1.1 (hp_l h r) (fun j => .int (hp_i h r j))).slots[i]? = some v := hv
      have hlt := (Array.getElem?_eq_some_iff.mp hv').1
      rw [arrV_size] at hlt
      rw [arrV_read _ _ hlt] at hv'
      cases hv'
      show T.fitsSlot g'.2.2.2.1.1 _ _ _ = true
      simp [State.fitsSlot, State.slotType?, hk', hkind, fits]
      try rfl)
    (g := F0 m pc ls (.ref (ad_r g' r) :: rest)) rfl (by rw [hl.1, hml]) rfl (by rw [hb]; exact d) (by omega) (by show 2 * 0 + _ + 14 ≤ _; omega) (by omega) (by rw [hsz]; omega) (hloader := Vm.clonesLoader_of_array hkS hkindS)
  rw [hsz] at X'
  have hG1 : GW g' (cl_r h r) (H.push (vp_cell g'.2.2.2.1.1 (hp_l h r, .inl (hp_i h r)))) locs := by
    refine GW.pushG hG rfl (fun a ha => w_cg (up_1o ha) (up_1o ha) (up_1o ha) (up_1o ha) (up_1o ha)) ?_ (by rw [Array.size_push]) (fun q hq => by rw [Array.getElem?_push, if_neg (Nat.ne_of_lt hq)])
    have k1 : hp_k (cl_r h r) (hp_n h) = 100 := by simp [hp_k, cl_r, up_1]
    have k2 : hp_l (cl_r h r) (hp_n h) = hp_l h r := by simp [hp_l, cl_r, up_1]
    have k3 : hp_i (cl_r h r) (hp_n h) = hp_i h r := by simp [hp_i, cl_r, up_1]
    rw [w_a0 k1, k2, k3, ← ad_new hG]
    show (H.push _)[H.size]? = _
    rw [Array.getElem?_push_size]
  have z := kk _ locs ls hG1 hl (by show n0 ≤ hp_n h + 1; omega) (by show s0 ≤ hp_s h + hp_l h r; omega) ((T.setVm vm').pushCell (vp_cell g'.2.2.2.1.1 (hp_l h r, .inl (hp_i h r)))) (by rw [← hT]; rfl)
  have n1 : hp_n (cl_r h r) - n0 = hp_n h - n0 + 1 := by show hp_n h + 1 - n0 = _; omega
  have n2 : hp_s (cl_r h r) - s0 = hp_s h - s0 + hp_l h r := by show hp_s h + hp_l h r - s0 = _; omega
  rw [n1, n2, rf_h hG.2.1, ← ad_new hG] at z
  obtain ⟨t, b1, b2⟩ := z X'
  refine ⟨t, st t ?_, b2⟩
  rw [hT]
  exact b1
theorem tj_castI (ok : OkX X g cc nL own ret) {idx r : Nat} (hr : ok_o h r 100) (hm : Cond.classLink own idx "[I" ∈ lw_gd) (d : decode cc pc = .ok (.checkcast idx, 3)) (kk : TJ X (pc + 3) lv (rf_v g r :: st) h) : TJ X pc lv (rf_v g r :: st) h := by
  obtain ⟨p, e, R, s, m, args, below, meth, c, g', nL', n0, s0, Q⟩ := X
  obtain ⟨rfl, rfl, hx, hb, hml, hown, hts, hgv, hrr, hlk, h0, hw0, hn0⟩ := ok
  intro H locs ls hG hl q1 q2
  have z := kk H locs ls hG hl q1 q2
  show W _ _ _ _ _ _ _ _ _ _ _ _ _ _ _ (F0 m pc ls (rf_v _ r :: st))
  rw [rf_h hr.1] at z ⊢
  exact va_castA (D := g'.2.2.1) (cl := am_cl) (ws := [(ad_r g' r, .inl (g'.2.2.2.1.1, hp_l h r, .inl (hp_i h r)))]) hx hb hown (hts _ hm) (va_P1 (hG.row hr)) 0 rfl ((hgv.1.2 0 _ rfl).2) d z
end TJ6
