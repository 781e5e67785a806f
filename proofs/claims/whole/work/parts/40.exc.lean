section XC1
variable {e : Env} {s : State} {f : JFrame} {a : Addr}
/-- a row of the table that takes the thrown object -/
theorem xc_yes {x : ExceptionTableEntry} {t : List ExceptionTableEntry} {c : ClassId} {cell : Cell} (hx : covers x f.pc = true) (h0 : x.catchType ≠ 0)
    (hl : s.vm.ClassLinks e.platform f.method.cls x.catchType c) (hcell : s.heap[a]? = some cell) (hobj : ∀ k, cell.vm ≠ .statics k)
    (hk : ∃ k, s.vm.classes[cell.cls]? = some k) (hc : ∃ k, s.vm.classes[c]? = some k) (hfit : s.vm.assignable cell.cls c = true) (Q : Handler → Pre) (E : CtlPost) (d : Bool) (acts : List Action) :
    wp (findHandler.go f a (x :: t)) Q E e d acts s ↔ Q (.found x.handlerPc) d acts (s.setVm (s.vm.noted f.method.cls x.catchType (.cls c))) := by
  obtain ⟨ha, ht⟩ := (resolveClass_links e.toSetting hl).op (op := VmOp.resolveClass f.method.cls x.catchType) rfl
  have hal : s.vm.Alike (s.vm.noted f.method.cls x.catchType (.cls c)) := (Vm.Alike.refl s.vm).noted _ _ _
  obtain ⟨⟨k1, hk1⟩, ⟨k2, hk2⟩⟩ := And.intro hk hc
  obtain ⟨⟨k3, hk3, -⟩, ⟨k4, hk4, -⟩⟩ := And.intro (hal.2.2 _ _ hk1) (hal.2.2 _ _ hk2)
  have hf2 : (s.vm.noted f.method.cls x.catchType (.cls c)).assignable cell.cls c = true := (hal.assignable ..).trans hfit
  simp only [covers] at hx
  simp [findHandler.go, hx, h0, ha, ht, hcell, hobj, hk3, hk4, hf2, VmOp.dirties, VmOp.acts]
theorem xc_no {x : ExceptionTableEntry} {t : List ExceptionTableEntry} {c : ClassId} {cell : Cell} (hx : covers x f.pc = true) (h0 : x.catchType ≠ 0)
    (hl : s.vm.ClassLinks e.platform f.method.cls x.catchType c) (hcell : s.heap[a]? = some cell) (hobj : ∀ k, cell.vm ≠ .statics k)
    (hk : ∃ k, s.vm.classes[cell.cls]? = some k) (hc : ∃ k, s.vm.classes[c]? = some k) (hfit : s.vm.assignable cell.cls c = false) (Q : Handler → Pre) (E : CtlPost) (d : Bool) (acts : List Action) :
    wp (findHandler.go f a (x :: t)) Q E e d acts s ↔ wp (findHandler.go f a t) Q E e d acts (s.setVm (s.vm.noted f.method.cls x.catchType (.cls c))) := by
  obtain ⟨ha, ht⟩ := (resolveClass_links e.toSetting hl).op (op := VmOp.resolveClass f.method.cls x.catchType) rfl
  have hal : s.vm.Alike (s.vm.noted f.method.cls x.catchType (.cls c)) := (Vm.Alike.refl s.vm).noted _ _ _
  obtain ⟨⟨k1, hk1⟩, ⟨k2, hk2⟩⟩ := And.intro hk hc
  obtain ⟨⟨k3, hk3, -⟩, ⟨k4, hk4, -⟩⟩ := And.intro (hal.2.2 _ _ hk1) (hal.2.2 _ _ hk2)
  have hf2 : (s.vm.noted f.method.cls x.catchType (.cls c)).assignable cell.cls c = false := (hal.assignable ..).trans hfit
  simp only [covers] at hx
  simp [findHandler.go, hx, h0, ha, ht, hcell, hobj, hk3, hk4, hf2, VmOp.dirties, VmOp.acts]
/-- the search in a table of one row, or of two of which the first is passed -/
def xc_Fi (e : Env) (s : State) (f : JFrame) (a : Addr) (pc : Nat) (vm' : Vm) : Prop := ∀ (Q : Handler → Pre) (E : CtlPost) (d : Bool) (acts : List Action), wp (findHandler f a) Q E e d acts s ↔ Q (.found pc) d acts (s.setVm vm')
theorem xc_step {r : List Frame} {pc : Nat} {vm' : Vm} (hfind : xc_Fi e s f a pc vm') : (stepThrowing e s a (.java f :: r)).1 = (s.setVm vm').setFrames (.java { f with pc := pc, stack := [.ref a] } :: r) := by
  simp only [stepThrowing, searchFrame, vmDo]
  generalize hr : Sem.go _ e false [] s = res
  obtain ⟨as, rfl, ha⟩ := Sem.eq_ok_of hr (a := Handler.found pc) (s' := s.setVm vm') (acts' := []) (by simp [hfind _ _ _ _])
  rfl
end XC1
section XC2
variable {p : Program} {l : Launch} {e : Env} {R : Room} {s : State} {m : MethodId} {args : Array Value} {below : List Frame} {meth : Method} {c : Code} {T : State} {locs : List Loc} {cells slots : Nat}
theorem xc_caught (X : Stand p l e R s m args below meth c T locs cells slots) {g : JFrame} (hg : g.method = m) {a : Addr} {pc : Nat} {vm' : Vm} (hW : s.WarmedH vm') (hf : xc_Fi e ((T.setTop g).pushFrame (.throwing a)) g a pc vm') :
    Stand p l e R s m args below meth c (T.setVm vm') locs cells slots ∧ ∀ target, Steps p.tables e below ((T.setVm vm').setTop { g with pc := pc, stack := [.ref a] }) target → Steps p.tables e below ((T.setTop g).pushFrame (.throwing a)) target := by
  subst hg
  refine ⟨X.noted hW, fun target hrest => ?_⟩
  obtain ⟨hgo, hw⟩ := X.here.throwing a
  refine Steps.head hgo hw ?_
  rw [stepThread_throwing (frames_entered X.here.top _), xc_step (s := (T.setTop g).pushFrame (.throwing a)) hf]
  obtain ⟨g₀, hg0⟩ := Option.isSome_iff_exists.mp X.here.top
  obtain ⟨r, hr⟩ := State.topJava?_eq_some.mp hg0
  have hr' : (T.setVm vm').frames = .java g₀ :: r := hr
  rw [State.setTop_of_frames _ hr'] at hrest
  have sv : ∀ (u : State) (F G : List Frame), ((u.setFrames F).setVm vm').setFrames G = (u.setVm vm').setFrames G := by
    intro u F G
    have h1 : (u.setFrames F).setVm vm' = (u.setVm vm').setFrames F := rfl
    rw [h1, State.setFrames_setFrames]
  rw [hr, List.tail_cons, State.pushFrame, sv, State.setTop_of_frames _ hr, sv]
  exact hrest
/-- by the words: the class that a row of the table names -/
theorem xc_link (X : Stand p l e R s m args below meth c T locs cells slots) {own name : String} {i : Nat} (hown : s.vm.findClass own = some m.cls) (hlink : (Cond.classLink own i name).before args s = true) : ∃ c', s.vm.findClass name = some c' ∧ s.vm.ClassLinks e.platform m.cls i c' :=
  Cond.classLink_spec hown hlink e.platform (by rw [X.admits.platform])
theorem xc_one (X : Stand p l e R s m args below meth c T locs cells slots) {g : JFrame} (hg : g.method = m) {a : Addr} {cell : Cell} (hcell : T.heap[a]? = some cell) (hv : cell.vm = .none) {own E : String} (hown : s.vm.findClass own = some m.cls) (hE : s.vm.findClass E = some cell.cls)
    {x : ExceptionTableEntry} {t : List ExceptionTableEntry} (ht : c.exceptionTable.toList = x :: t) (hx : covers x g.pc = true) (h0 : x.catchType ≠ 0) {name : String} (hlink : (Cond.classLink own x.catchType name).before args s = true) (hcast : (Cond.castable E name).before args s = true) :
    ∃ vm', s.WarmedH vm' ∧ xc_Fi e ((T.setTop g).pushFrame (.throwing a)) g a x.handlerPc vm' := by
  subst hg
  obtain ⟨c4, hc4, hl⟩ := xc_link X hown hlink
  obtain ⟨c3, c5, hc3, hc5, hasg⟩ := Cond.castable_spec hcast
  cases Option.some.inj (hc3.symm.trans hE)
  cases Option.some.inj (hc5.symm.trans hc4)
  obtain ⟨dk, _, _, kt, hd, _, _, _, _, hkt, _, hopen⟩ := hl.here
  obtain ⟨kt', hkt', -⟩ := X.warmed.alike.2.2 _ _ hkt
  obtain ⟨k9, h9, -⟩ := Vm.findClass_spec hE
  obtain ⟨k9', h9', -⟩ := X.warmed.alike.2.2 _ _ h9
  refine ⟨_, X.warmed.noted hd hopen (State.rightAt_cls hl), fun Q E2 d acts => ?_⟩
  rw [W.findHandler_eq (s := (T.setTop g).pushFrame (.throwing a)) X.method' X.code, ht]
  exact xc_yes (s := (T.setTop g).pushFrame (.throwing a)) hx h0 (X.warmed.classLinks hl) hcell (fun k h => by rw [hv] at h; cases h) ⟨k9', h9'⟩ ⟨kt', hkt'⟩ ((X.warmed.alike.assignable ..).trans hasg) Q E2 d acts
theorem xc_two (X : Stand p l e R s m args below meth c T locs cells slots) {g : JFrame} (hg : g.method = m) {a : Addr} {cell : Cell} (hcell : T.heap[a]? = some cell) (hv : cell.vm = .none) {own E : String} (hown : s.vm.findClass own = some m.cls) (hE : s.vm.findClass E = some cell.cls)
    {z x : ExceptionTableEntry} {t : List ExceptionTableEntry} (ht : c.exceptionTable.toList = z :: x :: t) (hz : covers z g.pc = true) (hz0 : z.catchType ≠ 0) {nz : String} (hzl : (Cond.classLink own z.catchType nz).before args s = true) (hzn : va_Nc E nz s)
    (hx : covers x g.pc = true) (h0 : x.catchType ≠ 0) {name : String} (hlink : (Cond.classLink own x.catchType name).before args s = true) (hcast : (Cond.castable E name).before args s = true) :
    ∃ vm', s.WarmedH vm' ∧ xc_Fi e ((T.setTop g).pushFrame (.throwing a)) g a x.handlerPc vm' := by
  subst hg
  obtain ⟨c4, hc4, hl⟩ := xc_link X hown hlink
  obtain ⟨c3, c5, hc3, hc5, hasg⟩ := Cond.castable_spec hcast
  cases Option.some.inj (hc3.symm.trans hE)
  cases Option.some.inj (hc5.symm.trans hc4)
  obtain ⟨z4, hz4, hlz⟩ := xc_link X hown hzl
  obtain ⟨a8, b8, n1, n2, n3⟩ := hzn
  cases Option.some.inj (n1.symm.trans hE)
  cases Option.some.inj (n2.symm.trans hz4)
  obtain ⟨dk, _, _, kt, hd, _, _, _, _, hkt, _, hopen⟩ := hl.here
  obtain ⟨dz, _, _, kz, hdz, _, _, _, _, hkz, _, hopenz⟩ := hlz.here
  have hWz := X.warmed.noted hdz hopenz (State.rightAt_cls hlz)
  obtain ⟨kz', hkz', -⟩ := X.warmed.alike.2.2 _ _ hkz
  obtain ⟨kt', hkt', -⟩ := hWz.alike.2.2 _ _ hkt
  obtain ⟨k9, h9, -⟩ := Vm.findClass_spec hE
  obtain ⟨k9', h9', -⟩ := X.warmed.alike.2.2 _ _ h9
  obtain ⟨k8', h8', -⟩ := hWz.alike.2.2 _ _ h9
  refine ⟨_, hWz.noted hd hopen (State.rightAt_cls hl), fun Q E2 d acts => ?_⟩
  rw [W.findHandler_eq (s := (T.setTop g).pushFrame (.throwing a)) X.method' X.code, ht]
  rw [xc_no (s := (T.setTop g).pushFrame (.throwing a)) hz hz0 (X.warmed.classLinks hlz) hcell (fun k h => by rw [hv] at h; cases h) ⟨k9', h9'⟩ ⟨kz', hkz'⟩ ((X.warmed.alike.assignable ..).trans n3) Q E2 d acts]
  exact xc_yes (s := ((T.setTop g).pushFrame (.throwing a)).setVm _) hx h0 (hWz.classLinks hl) hcell (fun k h => by rw [hv] at h; cases h) ⟨k8', h8'⟩ ⟨kt', hkt'⟩ ((hWz.alike.assignable ..).trans hasg) Q E2 d acts
end XC2
