section XO2
variable {p : Program} {l : Launch} {e : Env} {R : Room} {s : State} {m : MethodId} {args : Array Value} {below : List Frame} {meth : Method} {c : Code} {H : Heap} {locs : List Loc} {cells slots : Nat} {Q : State → Prop}
variable {mc ms : Nat} {free : Addr → Prop} {A0 A1 : Nat → Prop} {H0 : Heap} {a : Array Value} {ls : Array Slot} {st0 rest : List Value}
variable {Qc : Array Value → State → Outcome → State → Prop} {XC : String → State → State → Prop}
set_option maxHeartbeats 4000000 in
theorem xo_throwS {cc : ByteArray} {pc : Nat} (hexec : p.tables.exec = Jvm.exec) (hb : c.code = cc) (hl : l.stackTraces = false) {own cls YY text : String} {names : List String} {ik is ic ix mc ms sa : Nat} {by_ : ByteArray} {A : Nat → Prop}
    (hown : s.vm.findClass own = some m.cls) (hcls : Bundle.fit cls = true) (hYf : Bundle.fit YY = true) (b0 : decode by_ 0 = .ok (.aload_n 0, 1)) (b1 : decode by_ 1 = .ok (.aload_n 1, 1)) (b2 : decode by_ 2 = .ok (.invokespecial ix, 3)) (b5 : decode by_ 5 = .ok (.return_, 1)) (hnames : ∀ n ∈ names, Bundle.fit n = true)
    (hk : (Cond.classLink own ik cls).before args s = true) (hini : (Cond.initialized cls).before args s = true) (hstr : vk_R own is text sa s) (hat : ∀ w ∈ (xo_At own ic cls YY names ix by_).filter vx_no, w.before args s = true)
    (hgood : ∀ w ∈ Cond.classLink own ik cls :: Cond.initialized cls :: (xo_At own ic cls YY names ix by_).filter vx_no, vx_ot w = true)
    (hU : vx_Zq Bundle.tN "UNASSIGNED_STACK" Bundle.steD A s s.heap) (hN : vx_Zq Bundle.tN "SUPPRESSED_SENTINEL" Bundle.listD A s s.heap) (hS : va_S A s.heap H locs) (hsize : ls.size = c.maxLocals)
    (d0 : decode cc pc = .ok (.new ik, 3)) (d3 : decode cc (pc + 3) = .ok (.dup, 1)) (d4 : decode cc (pc + 4) = .ok (.ldc is, 2)) (d6 : decode cc (pc + 6) = .ok (.invokespecial ic, 3)) (d9 : decode cc (pc + 9) = .ok (.athrow, 1))
    (hout : ∀ x ∈ c.exceptionTable.toList, covers x (pc + 9) = false)
    (hRframes : names.length + 4 < R.frames) (hRlocals : (rest.map fun v => v.category).sum + (13 * (names.length + 2) + 43) ≤ R.locals) (hRcells : cells + 1 ≤ R.cells) (hRslots : slots + 6 ≤ R.slots) (hlocks : meth.locks = false)
    (hx : ∀ t : State, s.vm.Alike t.vm → t.heap.size = H.size + 1 → (∀ q : Nat, q < H.size → t.heap[q]? = H[q]?) → (∃ ce : Cell, t.heap[H.size]? = some ce ∧ ce.vm = .none ∧ s.vm.findClass cls = some ce.cls) → XC cls s t)
    (hf : ∀ z ∈ locs, free z.base) (hc : cells + 1 ≤ mc) (hs : slots + 6 ≤ ms) :
    W p l e R s m args below meth c H locs cells slots (vx_MQ below Qc XC args s mc ms free) (F0 m pc ls rest) := by
  intro T hT X
  have htr : e.platform.stackTraces = false := (show e.platform.stackTraces = l.stackTraces by rw [X.admits.platform]).trans hl
  have Y := vx_rebase X (R' := { frames := R.frames, locals := R.locals, cells := 1, slots := 6 }) (Nat.le_refl _) (Nat.le_refl _) hRcells hRslots
  obtain ⟨s', hA⟩ : ∃ z, z = (T.setVm s.vm).setFrames (.invoking m args :: below) := ⟨_, rfl⟩
  rw [← hA] at Y
  have hvm : s'.vm = s.vm := by rw [hA]; rfl
  have hhp : s'.heap = H := by rw [hA]; exact hT
  have hW0 : s.WarmedH s'.vm := by rw [hvm]; exact State.WarmedH.refl s
  have hat' : ∀ w ∈ (xo_At own ic cls YY names ix by_).filter vx_no, w.before args s' = true := fun w hw => vx_ot_at hW0 hvm.symm (hgood w (List.mem_cons_of_mem _ (List.mem_cons_of_mem _ hw))) (hat w hw)
  have hk' : (Cond.classLink own ik cls).before args s' = true := vx_ot_at hW0 hvm.symm (hgood _ List.mem_cons_self) hk
  have hini' : (Cond.initialized cls).before args s' = true := vx_ot_at hW0 hvm.symm (hgood _ (List.mem_cons_of_mem _ List.mem_cons_self)) hini
  have hU' : vx_Zq Bundle.tN "UNASSIGNED_STACK" Bundle.steD A s' s'.heap := by rw [hhp]; exact vx_Zq.moved hW0.alike (hU.kept hS.2.1)
  have hN' : vx_Zq Bundle.tN "SUPPRESSED_SENTINEL" Bundle.listD A s' s'.heap := by rw [hhp]; exact vx_Zq.moved hW0.alike (hN.kept hS.2.1)
  have h : ∀ w ∈ xo_At own ic cls YY names ix by_, w.before args s' = true := vx_own hat' (vx_isRefq hU'.1) (vx_isRefq hN'.1) hU'.2.word hN'.2.word
  have hown' : s'.vm.findClass own = some m.cls := by rw [hvm]; exact hown
  have hins : (Cond.instantiable cls 6).before args s' = true := h _ (by simp [xo_At])
  obtain ⟨vm₁, cX, kX, hfX, hkX, -, -, X₁, st1⟩ := Y.newCold hexec (own := own) (C := cls) (index := ik) (n := 6) hown' hk' hins hini'
    (g := F0 m pc ls rest) rfl (by rw [hb]; exact d0) (Nat.le_refl _) (Nat.le_refl _)
  generalize hT1 : (T.setVm vm₁).pushCell { cls := cX, slots := kX.instanceTypes.map defaultValue, vm := .none } = T1 at X₁ st1
  have hcat : (Value.ref T.heap.size).category = 1 := rfl
  have hcellA : T1.heap[T.heap.size]? = some (freshCell cX kX) := by rw [← hT1]; exact State.heap_pushCell_size _ _
  have d3' : decode c.code (pc + 3) = .ok (.dup, 1) := by rw [hb]; exact d3
  have d4' : decode c.code (pc + 4) = .ok (.ldc is, 2) := by rw [hb]; exact d4
  have hstr' : vk_R own is text sa s' := vk_R.warm hW0 hstr
  obtain ⟨U, hsteps, hrun, hend, hW, hsame, ce, hce, hOv, hOc⟩ := xo_ctor X₁ hexec htr (own := own) (cls := cls) (names := names) (ic := ic) hown' hcls hYf b0 b1 b2 b5 hnames h (fun x hx => nomatch hx) hfX hkX hcellA (by rw [hhp, hT]; exact Nat.le_refl _) (msg := .ref sa) rfl
    (g := { method := m, pc := pc + 6, locals := ls, stack := .ref sa :: .ref T.heap.size :: .ref T.heap.size :: rest, locked := none }) rfl hsize rfl rfl (rest := rest) rfl
    (by rw [hb]; exact d6) (by rw [hb]; exact d9) hout hRframes (by simp only [List.map_cons, List.sum_cons, hcat]; omega) hlocks
  have hsz0 := hsame.2.2.1
  obtain ⟨f1, f2⟩ := vx_frame hsame
  rw [hhp] at f1 f2
  have hsz1 : U.heap.size = H.size + 1 := by
    have q1 : U.heap.size ≤ s'.heap.size + (0 + 1) := hsz0
    have q2 := (Array.getElem?_eq_some_iff.mp hce).1
    rw [hhp] at q1
    rw [hT] at q2
    omega
  have hWs : s.WarmedH U.vm := State.WarmedH.trans hW0 hW
  have hcl : s.vm.findClass cls = some ce.cls := by
    have h9 := hOc
    rw [hvm] at h9
    exact h9
  have hall : s.sameButNew ({ U with vm := s.vm } : State) locs mc ms := by
    subst hA
    obtain ⟨e1, e2⟩ := hsame
    rw [State.setFrames_setFrames] at e1
    have h2 : (T.setVm s.vm).sameButNew ({ U with vm := s.vm } : State) [] (0 + 1) (0 + 6) := ⟨e1, e2⟩
    have h3 := X.same.trans h2
    rw [List.append_nil] at h3
    exact h3.mono hc hs
  refine ⟨U, ?_, .threw T.heap.size, hrun, hend, Or.inr ⟨T.heap.size, rfl, cls, ce, locs, hx U hWs.alike hsz1 (fun q hq => f2 q hq (fun z hz => nomatch hz)) ⟨ce, by rw [← hT]; exact hce, hOv, hcl⟩, hce, hOv, hcl, hWs, hall, hf⟩⟩
  refine st1 _ ?_
  show Steps p.tables e below (T1.setTop { method := m, pc := pc + 3, locals := ls, stack := .ref T.heap.size :: rest, locked := none }) _
  jvm_step X₁.here [X₁.here.top, hexec, d3', Value.category]
  exact X₁.ldcString hexec (own := own) (text := text) (index := is) (a := sa) hown' hstr'.1 hstr'.2
    (g := { method := m, pc := pc + 4, locals := ls, stack := .ref T.heap.size :: .ref T.heap.size :: rest, locked := none }) rfl d4' _ hsteps
end XO2
def xn_ (E : Nat) : String := if E = 12 then R_xi else R_xn
def XC_E (g : GT) (hE : AH) (E : Nat) : String → State → State → Prop := fun n _ t => n = xn_ E ∧ GW g hE t.heap []
def NoQ : Array Value → State → Outcome → State → Prop := fun _ _ _ _ => False
/-- a method that throws -/
def CT (g : GT) (k : Nat) (y : MethodName) (cc : ByteArray) (nL : Nat) (ret : Option FieldType) (h : AH) (as : List TV) (h' : AH) (E : Nat) : Prop :=
  (hp_n h ≤ hp_n h' ∧ hp_s h ≤ hp_s h') ∧
  vx_Met g.1 y (Cond.code y cc nL ret :: lw_gd) { frames := k, cells := hp_n h' - hp_n h, slots := hp_s h' - hp_s h, locals := 60 * k } (va_Pc (as.map (vl g)) (fun U => GW g h U.heap [] ∧ GV g U)) NoQ (XC_E g h' E) (hp_n h' - hp_n h) (hp_s h' - hp_s h) (G_A g)
def ThX (X : CX) (hE : AH) (E : Nat) : Prop := match X with
  | (_, _, R, s, _, args, below, _, c, g, _, n0, s0, Q) => Q = vx_MQ below NoQ (XC_E g hE E) args s (hp_n hE - n0) (hp_s hE - s0) (G_A g) ∧ R.cells = hp_n hE - n0 ∧ R.slots = hp_s hE - s0 ∧ ∀ x ∈ c.exceptionTable.toList, False
theorem CaX.ofT {X : CX} {h hE : AH} {E : Nat} (e : ThX X hE E) (h1 : hp_n h ≤ hp_n hE ∧ hp_s h ≤ hp_s hE) : CaX X h := by
  obtain ⟨p, e', R, s, m, args, below, meth, c, g, nL, n0, s0, Q⟩ := X
  obtain ⟨-, e2, e3, -⟩ := e
  exact ⟨by rw [e2]; omega, by rw [e3]; omega⟩
theorem CT.of {g : GT} {k : Nat} {y : MethodName} {cc : ByteArray} {nL : Nat} {ret : Option FieldType} {h : AH} {as : List TV} {h' : AH} {E : Nat}
    (hy : plainName y.cls = true) (hn : tz_ as ≤ nL) (hm : hp_n h ≤ hp_n h' ∧ hp_s h ≤ hp_s h')
    (hT : ∀ X : CX, OkX X g cc nL y.cls ret → NmX X y.name → LvX X k → ThX X h' E → TJ X 0 (ta_ 0 as) [] h) : CT g k y cc nL ret h as h' E := by
  refine ⟨hm, vx_ofW (cc := cc) (maxL := nL) (ret := ret) hy rfl ?_⟩
  intro p e s m args below meth c s₁ B hml htab hv
  obtain ⟨rfl, hw, hgv⟩ := hv
  have hts := atoms_spec (ws := Cond.code y cc nL ret :: lw_gd) B.pre
  have hT' := hT (p, e, { frames := k, cells := hp_n h' - hp_n h, slots := hp_s h' - hp_s h, locals := 60 * k }, s, m, (as.map (vl g)).toArray, below, meth, c, g, nL, hp_n h, hp_s h, vx_MQ below NoQ (XC_E g h' E) (as.map (vl g)).toArray s (hp_n h' - hp_n h) (hp_s h' - hp_s h) (G_A g))
    ⟨rfl, rfl, B.exec, B.bytes, hml, findClass_of_methodNamed B.named, fun w hw => hts w (List.mem_cons_of_mem _ hw), hgv, B.returns, B.notSynchronized, h, hw, rfl⟩ (name_of_methodNamed B.named B.method).1 ⟨Nat.le_refl _, Nat.le_refl _⟩ ⟨rfl, rfl, rfl, htab⟩
  have hl := lv_entry (as.map (vl g)) (n := nL) (by rw [tz_eq]; exact hn)
  rw [ta_eq] at hl
  rw [lg_entry_eq]
  have h1 := hT' s.heap [] _ hw hl (Nat.le_refl _) (Nat.le_refl _)
  rw [Nat.sub_self, Nat.sub_self] at h1
  exact h1
/-- the words of a throw, at every state of the run -/
def wd_b (w : Cond) : Bool := goodWord w || decide (w = .castable R_xi R_xi) || decide (w = .castable R_xn R_xn) || (match w with | .declares x => decide (x ∈ dc_L) | _ => false)
theorem wd_ok {g : GT} {s : State} {args : Array Value} (hts : ∀ w ∈ lw_gd, w.before args s = true) (hgv : GV g s) {w : Cond} (hw : w ∈ lw_tbl) (hb : wd_b w = true) : w.before args s = true := by
  unfold wd_b at hb
  simp only [Bool.or_eq_true, decide_eq_true_eq] at hb
  rcases hb with ((hb | rfl) | rfl) | hb
  · exact hts w (List.mem_filter.mpr ⟨hw, hb⟩)
  · exact va_Nw.use rfl hgv.2.2.2.2.2.1
  · exact va_Nw.use rfl hgv.2.2.2.2.2.2.1
  · split at hb
    · exact va_Nw.use rfl (hgv.2.2.2.2.2.2.2.2.2 _ (of_decide_eq_true hb))
    · cases hb
section TJ7
variable {X : CX} {g : GT} {cc : ByteArray} {nL : Nat} {own : String} {ret : Option FieldType} {pc : Nat} {lv : List (Nat × TV)} {rest st st0 st1 : List Value} {h : AH}
theorem tj_throwS (ok : OkX X g cc nL own ret) {K E ik is ic ix i ti : Nat} (lev : LvX X K) (hK : 8 ≤ K) (th : ThX X (st_n h E 6) E) {cls : String} {by_ : ByteArray} (hcl : am_cl[E]? = some (cls, T_xx, 0)) (hE : E < 100) (hxn : xn_ E = cls)
    (hcls : Bundle.fit cls = true) (b0 : decode by_ 0 = .ok (.aload_n 0, 1)) (b1 : decode by_ 1 = .ok (.aload_n 1, 1)) (b2 : decode by_ 2 = .ok (.invokespecial ix, 3)) (b5 : decode by_ 5 = .ok (.return_, 1))
    (hk : Cond.classLink own ik cls ∈ lw_gd) (hini : Cond.initialized cls ∈ lw_gd) (hj : js_k[i]? = some (own, is, ti))
    (hat1 : ∀ w ∈ (xo_At own ic cls "java/lang/RuntimeException" ["java/lang/Exception"] ix by_).filter vx_no, w ∈ lw_tbl) (hat2 : ∀ w ∈ (xo_At own ic cls "java/lang/RuntimeException" ["java/lang/Exception"] ix by_).filter vx_no, wd_b w = true) (hat3 : ∀ w ∈ Cond.classLink own ik cls :: Cond.initialized cls :: (xo_At own ic cls "java/lang/RuntimeException" ["java/lang/Exception"] ix by_).filter vx_no, vx_ot w = true)
    (hrest : (st.map fun v => v.category).sum ≤ 8)
    (d0 : decode cc pc = .ok (.new ik, 3)) (d3 : decode cc (pc + 3) = .ok (.dup, 1)) (d4 : decode cc (pc + 4) = .ok (.ldc is, 2)) (d6 : decode cc (pc + 6) = .ok (.invokespecial ic, 3)) (d9 : decode cc (pc + 9) = .ok (.athrow, 1)) : TJ X pc lv st h := by
  obtain ⟨p, e, R, s, m, args, below, meth, c, g', nL', n0, s0, Q⟩ := X
  obtain ⟨rfl, rfl, hx, hb, hml, hown, hts, hgv, hrr, hlk, h0, hw0, hn0⟩ := ok
  intro H locs ls hG hl q1 q2
  obtain ⟨rfl, r1, r2, htab⟩ := th
  obtain ⟨l1, l2⟩ := lev
  have r1' : R.cells = hp_n h + 1 - n0 := r1
  have r2' : R.slots = hp_s h + 6 - s0 := r2
  refine xo_throwS (A := G_A g') hx hb hgv.2.2.1.2.2.1 (text := js_t.getD ti "") (names := ["java/lang/Exception"]) (YY := "java/lang/RuntimeException") hown hcls (by decide) b0 b1 b2 b5 (by decide) (hts _ hk) (hts _ hini) (hgv.2.1.1 i _ hj) (fun w hw => wd_ok hts hgv (hat1 w hw) (hat2 w hw)) hat3
    (vx_Zq.kept hgv.2.2.1.1 (ok_k hw0)) (vx_Zq.kept hgv.2.2.1.2.1 (ok_k hw0)) (ok_S (p := p) (e := e) (R := R) hw0 (by omega) hG) (by rw [hl.1, hml]) d0 d3 d4 d6 d9 (fun x hx => absurd (htab x hx) id) (by show 1 + 4 < _; omega) (by show _ + (13 * (1 + 2) + 43) ≤ _; omega) (by omega) (by omega) hlk ?_ (fun z hz => hG.2.2.2.2.2 z hz) (by show _ ≤ hp_n h + 1 - n0; omega) (by show _ ≤ hp_s h + 6 - s0; omega)
  intro t hal hsz hold hce
  obtain ⟨ce, c1, c2, c3⟩ := hce
  refine ⟨hxn.symm, GW.push hG.nil ?_ hsz hold⟩
  rw [w_o nw_k hE]
  have hK2 := (hgv.1.1 E _ hcl).2.1
  refine ⟨_, hcl, ce, ?_, Option.some.inj (c3.symm.trans hK2), c2, fun k hk => absurd hk (Nat.not_lt_zero _)⟩
  rw [← ad_new hG]
  exact c1
theorem tj_xS (ok : OkX X g cc nL own ret) {K k idx nL' E : Nat} (lev : LvX X K) (hk : k + 1 ≤ K) {y : MethodName} {cc' : ByteArray} {ret' : Option FieldType} {as : List TV} {h1 : AH} (hM : CT g k y cc' nL' ret' h as h1 E) (th : ThX X h1 E) (hkn : Kn y cc' nL' ret' as.length)
    (hlink : Cond.methodLink own idx y ∈ lw_gd) (hst : Cond.static y ∈ lw_gd) (hrest : (rest.map fun v => v.category).sum ≤ 8) (hs : st0 = (as.map (vl g)).reverse ++ rest) (d : decode cc pc = .ok (.invokestatic idx, 3)) : TJ X pc lv st0 h := by
  have ca : CaX X h1 := CaX.ofT th ⟨Nat.le_refl _, Nat.le_refl _⟩
  obtain ⟨hcw, hini, hy, hn⟩ := hkn
  obtain ⟨hmono, hM⟩ := hM
  obtain ⟨p, e, R, s, m, args, below, meth, c, g', nL1, n0, s0, Q⟩ := X
  obtain ⟨rfl, rfl, hx, hb, hml, hown, hts, hgv, hr, hlk, h0, hw0, hn0⟩ := ok
  intro H locs ls hG hl q1 q2
  subst hs
  obtain ⟨l1, l2⟩ := lev
  obtain ⟨rfl, r1, r2, htab⟩ := th
  have cb := callB_of (R := R) (Ts := lw_gd) (own := own) (index := idx) (rm := { frames := k, cells := hp_n h1 - hp_n h, slots := hp_s h1 - hp_s h, locals := 60 * k }) as.length hts (gd_c hcw) rfl rfl rfl (hts _ hini) (hts _ hlink) hy ⟨by show k + 1 ≤ _; omega, by show 8 + (nL' + 11) + 60 * k ≤ _; omega⟩
  obtain ⟨ca1, ca2⟩ := ca
  have hrun := vx_runS (p := p) (e := e) (below := below) (meth := meth) (c := c) (cc := cc) (R := R) (locs := locs) (cells := hp_n h - n0) (slots := hp_s h - s0) (rest := rest) (nL := nL1) ⟨hx, hb, hml, hown, hts⟩ hM ⟨cb, hts _ hst⟩ (H := H) ⟨pc_bl _ _ _, fun U hU hW => ⟨rfl, by rw [hU]; exact hG.nil, GV.moved hW hgv⟩⟩ (g := F0 m pc ls ((as.map (vl g')).reverse ++ rest)) rfl (by simp) hl.1 rfl (lv_room hrest) d ⟨by omega, by omega⟩
  intro T hT XS
  rcases hrun T hT XS with ⟨v, st₀, t, T', L, e0, X', hL, e1, e2, hq, st⟩ | ⟨q, st₀, t, T', L, En, ce, e0, X', hL, e1, e2, ⟨hEn, hG1⟩, hce, hcv, hcl, st⟩
  · exact hq.elim
  · obtain ⟨t2, a1, b1⟩ := vx_out (Qc := NoQ) (XC := XC_E g' h1 E) (ls := ls) (rest := rest) (pc := pc) (free := G_A g') (mc := hp_n h1 - n0) (ms := hp_s h1 - s0) (E := En) (fun x hx => absurd (htab x hx) id) hlk (by rw [e1]; exact hce) hcv hcl (fun t' ht' _ => ⟨hEn, by rw [ht', e1]; exact hG1⟩) (fun z hz => (List.mem_append.mp hz).elim (hG.2.2.2.2.2 z) (hL z)) (by omega) (by omega) T' rfl X'
    exact ⟨t2, st.trans a1, b1⟩
theorem tj_xV (ok : OkX X g cc nL own ret) {K k idx nL' E ci N : Nat} (lev : LvX X K) (hk : k + 1 ≤ K) {y : MethodName} {C : String} {T : u_T} {cc' : ByteArray} {ret' : Option FieldType} {as : List TV} {r : Nat} {h1 : AH} (hcl' : am_cl[ci]? = some (C, T, N)) (hci : ci < 100) (hyc : y.cls = C) (hro : ok_o h r ci) (hM : CT g k y cc' nL' ret' h (.inr (.inr r) :: as) h1 E) (th : ThX X h1 E) (hkn : Kn y cc' nL' ret' as.length)
    (hlink : Cond.methodLink own idx y ∈ lw_gd) (hst : Cond.instanceMethod y ∈ lw_gd) (hsel : Cond.selects C y y ∈ lw_gd) (hrest : (rest.map fun v => v.category).sum ≤ 8) (hs : st0 = (as.map (vl g)).reverse ++ rf_v g r :: rest) (d : decode cc pc = .ok (.invokevirtual idx, 3)) : TJ X pc lv st0 h := by
  have ca : CaX X h1 := CaX.ofT th ⟨Nat.le_refl _, Nat.le_refl _⟩
  obtain ⟨hcw, hini, hy, hn⟩ := hkn
  obtain ⟨hmono, hM⟩ := hM
  obtain ⟨hr0, hr2, hr3⟩ := hro
  obtain ⟨p, e, R, s, m, args, below, meth, c, g', nL1, n0, s0, Q⟩ := X
  obtain ⟨rfl, rfl, hx, hb, hml, hown, hts, hgv, hr, hlk, h0, hw0, hn0⟩ := ok
  intro H locs ls hG hl q1 q2
  subst hs
  obtain ⟨l1, l2⟩ := lev
  obtain ⟨rfl, r1, r2, htab⟩ := th
  have cb := callB_of (R := R) (Ts := lw_gd) (own := own) (index := idx) (rm := { frames := k, cells := hp_n h1 - hp_n h, slots := hp_s h1 - hp_s h, locals := 60 * k }) as.length hts (gd_c hcw) rfl rfl rfl (hts _ hini) (hts _ hlink) hy ⟨by show k + 1 ≤ _; omega, by show 8 + (nL' + 11) + 60 * k ≤ _; omega⟩
  obtain ⟨ca1, ca2⟩ := ca
  rw [List.map_cons, show vl g' (.inr (.inr r)) = .ref (ad_r g' r) from rf_h hr0] at hM
  show W _ _ _ _ _ _ _ _ _ _ _ _ _ _ _ (F0 m pc ls ((as.map (vl _)).reverse ++ rf_v _ r :: rest))
  rw [rf_h hr0]
  have hat := hG.2.2.1 r hr0 hr2
  rw [w_o hr3 hci] at hat
  have hrec := va_recv (q0 := 0) hgv.1 (va_P1 hat) hcl' rfl
  have hrun := vx_runV (C := C) (p := p) (e := e) (below := below) (meth := meth) (c := c) (cc := cc) (R := R) (locs := locs) (cells := hp_n h - n0) (slots := hp_s h - s0) (rest := rest) (nL := nL1) ⟨hx, hb, hml, hown, hts⟩ hM ⟨cb, hts _ hst, hts _ hsel⟩ (H := H) ⟨pc_bl _ _ _, hrec, fun U hU hW => ⟨rfl, by rw [hU]; exact hG.nil, GV.moved hW hgv⟩⟩ (g := F0 m pc ls ((as.map (vl g')).reverse ++ .ref (ad_r g' r) :: rest)) rfl (by simp) hl.1 rfl (lv_room hrest) d ⟨by omega, by omega⟩
  intro T hT XS
  rcases hrun T hT XS with ⟨v, st₀, t, T', L, e0, X', hL, e1, e2, hq, st⟩ | ⟨q, st₀, t, T', L, En, ce, e0, X', hL, e1, e2, ⟨hEn, hG1⟩, hce, hcv, hcl, st⟩
  · exact hq.elim
  · obtain ⟨t2, a1, b1⟩ := vx_out (Qc := NoQ) (XC := XC_E g' h1 E) (ls := ls) (rest := rest) (pc := pc) (free := G_A g') (mc := hp_n h1 - n0) (ms := hp_s h1 - s0) (E := En) (fun x hx => absurd (htab x hx) id) hlk (by rw [e1]; exact hce) hcv hcl (fun t' ht' _ => ⟨hEn, by rw [ht', e1]; exact hG1⟩) (fun z hz => (List.mem_append.mp hz).elim (hG.2.2.2.2.2 z) (hL z)) (by omega) (by omega) T' rfl X'
    exact ⟨t2, st.trans a1, b1⟩
end TJ7
