/-! ===== methods with a table of handlers ===== -/
def CW (g : GT) (k : Nat) (y : MethodName) (cc : ByteArray) (nL : Nat) (ret : Option FieldType) (hh : List (Nat × Nat × Nat × Nat)) (h : AH) (as : List TV) (h' : AH) (v : Option TV) : Prop :=
  (hp_n h ≤ hp_n h' ∧ hp_s h ≤ hp_s h') ∧
  Met g.1 y (Cond.codeWith y cc nL ret hh :: lw_gd) { frames := k, cells := hp_n h' - hp_n h, slots := hp_s h' - hp_s h, locals := 60 * k } (va_Pc (as.map (vl g)) (fun U => GW g h U.heap [] ∧ GV g U)) (Q_E g h' v) (hp_n h' - hp_n h) (hp_s h' - hp_s h) (G_A g)
def TbX (X : CX) (hh : List (Nat × Nat × Nat × Nat)) : Prop := match X with
  | (_, _, _, _, _, _, _, _, c, _, _, _, _, _) => c.exceptionTable.toList = tableOf hh
theorem xm_ofWH {l : Launch} {y : MethodName} {ws ws' : List Cond} {rm : Room} {Pc : Array Value → State → Prop} {Qc : Array Value → State → Outcome → State → Prop} {mc ms : Nat} {free : Addr → Prop} {cc : ByteArray} {maxL : Nat} {ret : Option FieldType} {hh : List (Nat × Nat × Nat × Nat)}
    (hy : plainName y.cls = true) (hw : ws = Cond.codeWith y cc maxL ret hh :: ws')
    (body : ∀ p e s m args below meth c s₁, BodyLoose p l y (headSpec ws rm) cc maxL ret e s m args below meth c s₁ → c.maxLocals = maxL → c.exceptionTable.toList = tableOf hh → Pc args s →
      W p l e (headSpec ws rm).room s m args below meth c s.heap [] 0 0 (MQ below Qc args s mc ms free) (entryFrame m args maxL)) : Met l y ws rm Pc Qc mc ms free := by
  refine MetFree.of_bodyS (code := cc) (maxLocals := maxL) (ret := ret) hy ?_ ?_
  · intro args s m h hn
    obtain ⟨m9, meth, c, hn9, h1, h2, h3, h4, -, h5, h6, -⟩ := Cond.codeWith_spec (atoms_spec (ws := ws) h _ (by rw [hw]; exact List.mem_cons_self))
    cases hn.symm.trans hn9
    exact ⟨meth, c, h1, h2, h3, h4, h5, h6⟩
  · intro p e s m args below meth c s₁ B hml hP _
    have hh0 : s₁.heap = s.heap := by rw [B.state]; rfl
    have htab := vx_table (x := y) (hh := hh) B (atoms_spec (ws := ws) B.pre _ (by rw [hw]; exact List.mem_cons_self))
    obtain ⟨t, a1, o, b1, b2, b3⟩ := body p e s m args below meth c s₁ B hml htab hP s₁ hh0 (Stand.of_body B)
    exact ⟨t, o, a1, b1, b2, ⟨b3.1, b3.2⟩⟩
theorem CW.of {g : GT} {k : Nat} {y : MethodName} {cc : ByteArray} {nL : Nat} {ret : Option FieldType} {hh : List (Nat × Nat × Nat × Nat)} {h : AH} {as : List TV} {h' : AH} {v : Option TV}
    (hy : plainName y.cls = true) (hn : tz_ as ≤ nL) (hm : hp_n h ≤ hp_n h' ∧ hp_s h ≤ hp_s h')
    (hT : ∀ X : CX, OkX X g cc nL y.cls ret → NmX X y.name → TbX X hh → LvX X k → EnX X h' v → TJ X 0 (ta_ 0 as) [] h) : CW g k y cc nL ret hh h as h' v := by
  refine ⟨hm, xm_ofWH (cc := cc) (maxL := nL) (ret := ret) hy rfl ?_⟩
  intro p e s m args below meth c s₁ B hml htab hv
  obtain ⟨rfl, hw, hgv⟩ := hv
  have hts := atoms_spec (ws := Cond.codeWith y cc nL ret hh :: lw_gd) B.pre
  have hT' := hT (p, e, { frames := k, cells := hp_n h' - hp_n h, slots := hp_s h' - hp_s h, locals := 60 * k }, s, m, (as.map (vl g)).toArray, below, meth, c, g, nL, hp_n h, hp_s h, MQ below (Q_E g h' v) (as.map (vl g)).toArray s (hp_n h' - hp_n h) (hp_s h' - hp_s h) (G_A g))
    ⟨rfl, rfl, B.exec, B.bytes, hml, findClass_of_methodNamed B.named, fun w hw => hts w (List.mem_cons_of_mem _ hw), hgv, B.returns, B.notSynchronized, h, hw, rfl⟩ (name_of_methodNamed B.named B.method).1 htab ⟨Nat.le_refl _, Nat.le_refl _⟩ ⟨rfl, rfl, rfl⟩
  have hl := lv_entry (as.map (vl g)) (n := nL) (by rw [tz_eq]; exact hn)
  rw [ta_eq] at hl
  rw [lg_entry_eq]
  have h1 := hT' s.heap [] _ hw hl (Nat.le_refl _) (Nat.le_refl _)
  rw [Nat.sub_self, Nat.sub_self] at h1
  exact h1
theorem CW.ofJ {lev : Nat} {y : MethodName} {cc : ByteArray} {nL : Nat} {ret : Option FieldType} {hh : List (Nat × Nat × Nat × Nat)} {h : AH} {as : List TV} {h' : AH} {v : Option TV} (hy : plainName y.cls = true) (hn : tz_ as ≤ nL) (hj : JD cc nL y.cls y.name ret lev 0 (ta_ 0 as) [] h h' v) (g : GT) : CW g lev y cc nL ret hh h as h' v :=
  CW.of hy hn hj.1 (fun X ok nm _ lv en => hj.2 X g lev ok nm lv (Nat.le_refl _) en)
def orE {α : Type} (a b : Option α) : Option α := match a with
  | some x => some x
  | none => b
theorem orE_of {α : Type} {a b : Option α} {r : α} (h : orE a b = some r) : a = some r ∨ b = some r := by
  cases a with
  | none => exact Or.inr h
  | some x => exact Or.inl h
theorem lv_drop {g : GT} {lv : List (Nat × TV)} {i nL q : Nat} {ls : Array Slot} (h : lv_has ls nL ((i, .ref q) :: (lvv g lv).filter (fun q => !(q.1 == i) && !(q.1 + 1 == i && q.2.category == 2)))) : lv_has ls nL (lvv g (lv.filter (fun q => !(q.1 == i) && !(q.1 + 1 == i && is_L q.2)))) := by
  refine ⟨h.1, h.2.1, fun q hq => ?_⟩
  obtain ⟨q0, hq0, rfl⟩ := List.mem_map.mp hq
  obtain ⟨a1, a2⟩ := List.mem_filter.mp hq0
  exact h.2.2 _ (List.mem_cons_of_mem _ (List.mem_filter.mpr ⟨List.mem_map.mpr ⟨q0, a1, rfl⟩, by rw [cat_L]; exact a2⟩))
section TJ8
variable {X : CX} {g : GT} {cc : ByteArray} {nL : Nat} {own : String} {ret : Option FieldType} {pc : Nat} {lv : List (Nat × TV)} {rest st st0 st1 : List Value} {h : AH}
/-- the handler's first instruction puts the exception away -/
def HaX (X : CX) (hpc : Nat) (lv : List (Nat × TV)) (h : AH) : Prop := match X with
  | (p, e, R, s, m, args, below, meth, c, g, nL, n0, s0, Q) => ∀ (H : Heap) (locs : List Loc) (ls : Array Slot) (q : Addr), GW g h H locs → lv_has ls nL (lvv g lv) → n0 ≤ hp_n h → s0 ≤ hp_s h → W p g.1 e R s m args below meth c H locs (hp_n h - n0) (hp_s h - s0) Q (F0 m hpc ls [.ref q])
theorem hx_n (ok : OkX X g cc nL own ret) {j : Fin 4} {i hpc : Nat} {lv' : List (Nat × TV)} (d : decode cc hpc = .ok (.astore_n j, 1)) (hi : (j : Nat) = i) (hn : i < nL) (hl' : lv.filter (fun q => !(q.1 == i) && !(q.1 + 1 == i && is_L q.2)) = lv') (k : TJ X (hpc + 1) lv' [] h) : HaX X hpc lv h := by
  obtain ⟨p, e, R, s, m, args, below, meth, c, g', nL', n0, s0, Q⟩ := X
  obtain ⟨rfl, rfl, hx, hb, hml, hown, hts, hgv, hr, hlk, h0, hw0, hn0⟩ := ok
  intro H locs ls q hG hl h1 h2
  subst hl'
  exact lv_astore_n hx hb d hi hl hn rfl (fun ls' hl2 => k H locs ls' hG (lv_drop hl2) h1 h2)
theorem hx_w (ok : OkX X g cc nL own ret) {i hpc : Nat} {lv' : List (Nat × TV)} (d : decode cc hpc = .ok (.astore i, 2)) (hn : i < nL) (hl' : lv.filter (fun q => !(q.1 == i) && !(q.1 + 1 == i && is_L q.2)) = lv') (k : TJ X (hpc + 2) lv' [] h) : HaX X hpc lv h := by
  obtain ⟨p, e, R, s, m, args, below, meth, c, g', nL', n0, s0, Q⟩ := X
  obtain ⟨rfl, rfl, hx, hb, hml, hown, hts, hgv, hr, hlk, h0, hw0, hn0⟩ := ok
  intro H locs ls q hG hl h1 h2
  subst hl'
  exact lv_astore hx hb d hl hn rfl (fun ls' hl2 => k H locs ls' hG (lv_drop hl2) h1 h2)
theorem tj_catV (ok : OkX X g cc nL own ret) {K k idx nL' E ci N : Nat} {hh : List (Nat × Nat × Nat × Nat)} (tb : TbX X hh) (lev : LvX X K) (hk : k + 1 ≤ K) {y : MethodName} {C : String} {T : u_T} {cc' : ByteArray} {ret' : Option FieldType} {as : List TV} {r : Nat} {h1 : AH} (hcl' : am_cl[ci]? = some (C, T, N)) (hci : ci < 100) (hyc : y.cls = C) (hro : ok_o h r ci) (hM : CT g k y cc' nL' ret' h (.inr (.inr r) :: as) h1 E) (ca : CaX X h1) (hkn : Kn y cc' nL' ret' as.length)
    (hlink : Cond.methodLink own idx y ∈ lw_gd) (hst : Cond.instanceMethod y ∈ lw_gd) (hsel : Cond.selects C y y ∈ lw_gd) (hrest : (rest.map fun v => v.category).sum ≤ 8) (hs : st0 = (as.map (vl g)).reverse ++ rf_v g r :: rest) (d : decode cc pc = .ok (.invokevirtual idx, 3))
    (hcase : (∃ (x : ExceptionTableEntry) (t : List ExceptionTableEntry), tableOf hh = x :: t ∧ covers x pc = true ∧ x.catchType ≠ 0 ∧ E = 12 ∧ Cond.classLink own x.catchType R_xi ∈ lw_gd ∧ HaX X x.handlerPc lv h1) ∨
      (∃ (z x : ExceptionTableEntry) (t : List ExceptionTableEntry), tableOf hh = z :: x :: t ∧ covers z pc = true ∧ z.catchType ≠ 0 ∧ Cond.classLink own z.catchType R_xi ∈ lw_gd ∧ covers x pc = true ∧ x.catchType ≠ 0 ∧ E = 13 ∧ Cond.classLink own x.catchType R_xn ∈ lw_gd ∧ HaX X x.handlerPc lv h1)) : TJ X pc lv st0 h := by
  obtain ⟨hcw, hini, hy, hn⟩ := hkn
  obtain ⟨hmono, hM⟩ := hM
  obtain ⟨hr0, hr2, hr3⟩ := hro
  obtain ⟨p, e, R, s, m, args, below, meth, c, g', nL1, n0, s0, Q⟩ := X
  obtain ⟨rfl, rfl, hx, hb, hml, hown, hts, hgv, hr, hlk, h0, hw0, hn0⟩ := ok
  intro H locs ls hG hl q1 q2
  subst hs
  obtain ⟨l1, l2⟩ := lev
  have tb : c.exceptionTable.toList = tableOf hh := tb
  have cb := callB_of (R := R) (Ts := lw_gd) (own := own) (index := idx) (rm := { frames := k, cells := hp_n h1 - hp_n h, slots := hp_s h1 - hp_s h, locals := 60 * k }) as.length hts (gd_c hcw) rfl rfl rfl (hts _ hini) (hts _ hlink) hy ⟨by show k + 1 ≤ _; omega, by show 8 + (nL' + 11) + 60 * k ≤ _; omega⟩
  obtain ⟨ca1, ca2⟩ := ca
  rw [List.map_cons, show vl g' (.inr (.inr r)) = .ref (ad_r g' r) from rf_h hr0] at hM
  show W _ _ _ _ _ _ _ _ _ _ _ _ _ _ _ (F0 m pc ls ((as.map (vl _)).reverse ++ rf_v _ r :: rest))
  rw [rf_h hr0]
  have hat := hG.2.2.1 r hr0 hr2
  rw [w_o hr3 hci] at hat
  have hrec := va_recv (q0 := 0) hgv.1 (va_P1 hat) hcl' rfl
  have hrun := vx_runV (C := C) (p := p) (e := e) (below := below) (meth := meth) (c := c) (cc := cc) (R := R) (locs := locs) (cells := hp_n h - n0) (slots := hp_s h - s0) (rest := rest) (nL := nL1) ⟨hx, hb, hml, hown, hts⟩ hM ⟨cb, hts _ hst, hts _ hsel⟩ (H := H) ⟨pc_bl _ _ _, hrec, fun U hU hW => ⟨rfl, by rw [hU]; exact hG.nil, GV.moved hW hgv⟩⟩ (g := F0 m pc ls ((as.map (vl g')).reverse ++ .ref (ad_r g' r) :: rest)) rfl (by simp) hl.1 rfl (lv_room hrest) d ⟨by omega, by omega⟩
  intro T hT XS
  rcases hrun T hT XS with ⟨v, st₀, t, T', L, e0, X', hL, e1, e2, hq, st⟩ | ⟨q, st₀, t, T', L, En, ce, e0, X', hL, e1, e2, ⟨hEn, hG1⟩, hce, hcv, hcl, st⟩
  · exact hq.elim
  · have hfin : ∀ (hpc : Nat) (vm' : Vm), HaX (p, e, R, s, m, args, below, meth, c, g', nL1, n0, s0, Q) hpc lv h1 → s.WarmedH vm' → xc_Fi e ((T'.setTop (F0 m pc ls rest)).pushFrame (.throwing q)) (F0 m pc ls rest) q hpc vm' → ∃ t, Steps p.tables e below (T.setTop (F0 m pc ls ((as.map (vl g')).reverse ++ .ref (ad_r g' r) :: rest))) t ∧ Q t := by
      intro hpc vm' hk hW hfi
      obtain ⟨X2, stp⟩ := xc_caught X' (g := F0 m pc ls rest) rfl hW hfi
      have X2' : Stand p g'.1 e R s m args below meth c (T'.setVm vm') (locs ++ L) (hp_n h1 - n0) (hp_s h1 - s0) := by
        have z := X2
        rw [show hp_n h - n0 + (hp_n h1 - hp_n h) = hp_n h1 - n0 by omega, show hp_s h - s0 + (hp_s h1 - hp_s h) = hp_s h1 - s0 by omega] at z
        exact z
      obtain ⟨t2, a1, b1⟩ := hk t.heap (locs ++ L) ls q (hG.app hG1 hL) hl (by omega) (by omega) (T'.setVm vm') e1 X2'
      exact ⟨t2, st.trans (stp t2 a1), b1⟩
    have hce' : T'.heap[q]? = some ce := by rw [e1]; exact hce
    rcases hcase with ⟨x, tl, h3, h4, h5, rfl, h6, h7⟩ | ⟨z, x, tl, h3, z4, z5, z6, h4, h5, rfl, h6, h7⟩
    · obtain ⟨vm', hW, hfi⟩ := xc_one X' (g := F0 m pc ls rest) rfl hce' hcv hown hcl (tb.trans h3) h4 h5 (hts _ h6) (by rw [show En = R_xi from hEn]; exact va_Nw.use rfl hgv.2.2.2.2.2.1)
      exact hfin _ vm' h7 hW hfi
    · obtain ⟨vm', hW, hfi⟩ := xc_two X' (g := F0 m pc ls rest) rfl hce' hcv hown hcl (tb.trans h3) z4 z5 (hts _ z6) (by rw [show En = R_xn from hEn]; exact hgv.2.2.2.2.2.2.2.1) h4 h5 (hts _ h6) (by rw [show En = R_xn from hEn]; exact va_Nw.use rfl hgv.2.2.2.2.2.2.1)
      exact hfin _ vm' h7 hW hfi
/-- what is known of a callee with a table -/
def Kw (y : MethodName) (cc' : ByteArray) (nL' : Nat) (ret' : Option FieldType) (hh : List (Nat × Nat × Nat × Nat)) (n : Nat) : Prop := Cond.codeWith y cc' nL' ret' hh ∈ lw_gd ∧ Cond.initialized y.cls ∈ lw_gd ∧ (y.cls ≠ "java/lang/invoke/MethodHandle" ∧ y.cls ≠ "java/lang/invoke/VarHandle" ∧ (parseMethodDescriptor y.desc).map (fun d => d.parameters.length) = some n) ∧ nL' ≤ 41
theorem tj_callW (ok : OkX X g cc nL own ret) {K k idx nL' : Nat} {hh : List (Nat × Nat × Nat × Nat)} (lev : LvX X K) (hk : k + 1 ≤ K) {y : MethodName} {cc' : ByteArray} {ret' : Option FieldType} {as : List TV} {h1 : AH} {v : Option TV} (hM : CW g k y cc' nL' ret' hh h as h1 v) (ca : CaX X h1) (hkn : Kw y cc' nL' ret' hh as.length)
    (hlink : Cond.methodLink own idx y ∈ lw_gd) (hst : Cond.static y ∈ lw_gd) (hrest : (rest.map fun v => v.category).sum ≤ 8) (hs : st0 = (as.map (vl g)).reverse ++ rest) (hs1 : (v.map (vl g)).toList ++ rest = st1) (d : decode cc pc = .ok (.invokestatic idx, 3)) (kk : TJ X (pc + 3) lv st1 h1) : TJ X pc lv st0 h := by
  obtain ⟨hcw, hini, hy, hn⟩ := hkn
  obtain ⟨hmono, hM⟩ := hM
  obtain ⟨p, e, R, s, m, args, below, meth, c, g', nL1, n0, s0, Q⟩ := X
  obtain ⟨rfl, rfl, hx, hb, hml, hown, hts, hgv, hr, hlk, h0, hw0, hn0⟩ := ok
  intro H locs ls hG hl q1 q2
  subst hs hs1
  obtain ⟨l1, l2⟩ := lev
  have hGi : GoodIn lw_gd (va_wsS own idx y (Cond.codeWith y cc' nL' ret' hh :: lw_gd)) := by
    intro w hw
    unfold va_wsS at hw
    rcases List.mem_append.mp hw with hw | hw
    · simp only [List.mem_cons, List.not_mem_nil, or_false] at hw
      rcases hw with rfl | rfl | rfl
      · exact gd_in _ hlink
      · exact gd_in _ hst
      · exact gd_in _ hini
    · rcases List.mem_cons.mp hw with rfl | hw
      · exact gd_in _ hcw
      · exact gd_in w hw
  have cb := vx_cwSW (R := R) (Ts := lw_gd) (own := own) (index := idx) (rm := { frames := k, cells := hp_n h1 - hp_n h, slots := hp_s h1 - hp_s h, locals := 60 * k }) as.length hts hGi rfl rfl rfl hy ⟨by show k + 1 ≤ _; omega, by show 8 + (nL' + 11) + 60 * k ≤ _; omega⟩
  obtain ⟨ca1, ca2⟩ := ca
  refine w_callZ (vx_runSW (nL := nL1) ⟨hx, hb, hml, hown, hts⟩ hM cb ⟨pc_bl _ _ _, fun U hU hW => ⟨rfl, by rw [hU]; exact hG.nil, GV.moved hW hgv⟩⟩ rfl (by simp) hl.1 rfl (lv_room hrest) d ⟨by omega, by omega⟩) ?_
  intro v' st₀ t L e0 hL hq
  obtain ⟨ev, hG1⟩ := hq
  cases ev
  have z := kk t.heap (locs ++ L) ls (hG.app hG1 hL) hl (by omega) (by omega)
  rw [show hp_n h - n0 + (hp_n h1 - hp_n h) = hp_n h1 - n0 by omega, show hp_s h - s0 + (hp_s h1 - hp_s h) = hp_s h1 - s0 by omega]
  exact z
end TJ8
