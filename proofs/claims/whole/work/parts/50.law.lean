/-! THE CLAIM OUT OF ONE WALK OF THE LAW'S BODY. Your part is whole_start (and what it stands on); all else here is the same for every law, but numbers. -/
def R_law : String := "LitmusHouseLaw"
def lw_P (b : Addr) (xs : List Int32) (args : Array Value) (s : State) : Prop := args = #[.ref b] ∧ s.IntsAt b xs ∧ xs.length ≤ 3072 ∧ (Jvm.Cond.and given_1 narrow_1).before args s = true
def lw_Q (_ : Array Value) (s : State) (o : Outcome) (t : State) : Prop := o = .returned (some (.int 1)) ∧ Framed s o t [] 601024 7293034
def lw_Z (below : List Frame) (a : Array Value) (s : State) : State → Prop := fun t => ∃ o, t.status = .running ∧ Ended t below o ∧ lw_Q a s o t
/-- the law's own end, with 1 on the stack, nothing written that was there before, its room as the claim has it -/
theorem lw_ret {p : Program} {l : Launch} {e : Env} {s : State} {m : MethodId} {below : List Frame} {meth : Method} {c : Code} {b : Nat} (hx : p.tables.exec = Jvm.exec) (hb : c.code = code) (hr : meth.sig.returnType = ret) (hlocks : meth.locks = false) {pc : Nat} {H : Heap} {ls : Array Slot} (hdg : decode code pc = .ok (.ireturn, 1)) : W p l e room_1 s m #[Value.ref b] below meth c H [] 601024 7293034 (lw_Z below #[Value.ref b] s) (F0 m pc ls [.int 1]) := by
  intro T hT X
  obtain ⟨fs, hret, hrun, hended, hW, hframe⟩ := X.leave (v := some (.int 1)) (hlocks := hlocks) (fun h => by rw [hr] at h; cases h)
  have hmeth' : T.vm.method? m = some meth := X.method'
  refine ⟨T.setFrames fs, ?_, .returned (some (.int 1)), hrun, hended, rfl, ⟨_, rfl⟩, hW, hframe⟩
  jvm_step X.here [X.here.top, hx, hb, hdg, hmeth', hr, ret, narrow_b1]
  (try refine ⟨rfl, ?_⟩); (try refine ⟨rfl, ?_⟩)
  first | (intro acts; rw [hret _ acts rfl rfl rfl]) | rw [hret _ _ rfl rfl rfl]
  exact Steps.refl _
/-- what holds at the law's entry: the machine, the code, the tables' words (any of lw_tbl by 'hts w (by decide +kernel)'), the script of L ints xs at the cell b, what the Statement gives of the start (any of its parts by flat_of_before) -/
def lw_At (p : Program) (s : State) (m : MethodId) (meth : Method) (c : Code) (b L : Nat) (xs : Nat → Int32) : Prop :=
  p.tables.exec = Jvm.exec ∧ c.code = code ∧ meth.sig.returnType = ret ∧ c.maxLocals = 7 ∧ s.vm.findClass R_law = some m.cls ∧ (∀ w ∈ lw_tbl, w.before #[Value.ref b] s = true) ∧ va_X b L xs s s.heap ∧ b < s.heap.size ∧ meth.locks = false ∧ (Jvm.Cond.and given_1 narrow_1).before #[Value.ref b] s = true
/-! ===== the law's own body: script reads, the end ===== -/
def EnL (X : CX) (L : Nat) (xs : Nat → Int32) (hE : AH) (v : Option TV) : Prop := match X with
  | (_, _, R, s, _, args, below, _, _, g, _, n0, s0, Q) => (args = #[Value.ref (ad_r g 31)] ∧ va_X (ad_r g 31) L xs s s.heap ∧ ad_r g 31 < s.heap.size ∧ g.2.1 = s.heap) ∧ Q = lw_Z below args s ∧ R = room_1 ∧ hp_n hE - n0 ≤ 601024 ∧ hp_s hE - s0 ≤ 7293034 ∧ v = some (.inl 1)
def JL (L : Nat) (xs : Nat → Int32) (cc : ByteArray) (nL : Nat) (own nm : String) (ret : Option FieldType) (lev pc : Nat) (lv : List (Nat × TV)) (st : List TV) (h hE : AH) (v : Option TV) : Prop :=
  (hp_n h ≤ hp_n hE ∧ hp_s h ≤ hp_s hE) ∧ ∀ (X : CX) (g : GT) (K : Nat), OkX X g cc nL own ret → NmX X nm → LvX X K → lev ≤ K → EnL X L xs hE v → TJ X pc lv (st.map (vl g)) h
theorem CaX.ofL {X : CX} {L : Nat} {xs : Nat → Int32} {h hE : AH} {v : Option TV} (e : EnL X L xs hE v) (h1 : hp_n h ≤ hp_n hE ∧ hp_s h ≤ hp_s hE) : CaX X h := by
  obtain ⟨p, e', R, s, m, args, below, meth, c, g, nL, n0, s0, Q⟩ := X
  obtain ⟨-, -, rfl, e2, e3, -⟩ := e
  exact ⟨by show _ ≤ 601024; omega, by show _ ≤ 7293034; omega⟩
def sc_n (L : Nat) (r : Nat) : Option Int32 := if r = 31 then some (Int32.ofNat L) else none
def sc_i (L : Nat) (xs : Nat → Int32) (r : Nat) (i : Int32) : Option Int32 := if r = 31 ∧ ¬ i < 0 ∧ i.toNatClampNeg < L then some (xs i.toNatClampNeg) else none
section TJ9
variable {X : CX} {g : GT} {cc : ByteArray} {nL : Nat} {own : String} {ret : Option FieldType} {pc : Nat} {lv : List (Nat × TV)} {rest st st0 st1 : List Value} {h : AH} {L : Nat} {xs : Nat → Int32}
theorem tj_slen (ok : OkX X g cc nL own ret) {hE : AH} {v' : Option TV} (en : EnL X L xs hE v') (d : decode cc pc = .ok (.arraylength, 1)) {r : Nat} {v : Int32} (e : sc_n L r = some v) (kk : TJ X (pc + 1) lv (.int v :: st) h) : TJ X pc lv (rf_v g r :: st) h := by
  obtain ⟨rfl, rfl⟩ := of_if e
  obtain ⟨p, e, R, s, m, args, below, meth, c, g', nL', n0, s0, Q⟩ := X
  obtain ⟨rfl, rfl, hx, hb, hml, hown, hts, hgv, hr, hlk, h0, hw0, hn0⟩ := ok
  obtain ⟨⟨-, hX, hbl, hs⟩, -⟩ := en
  intro H locs ls hG hl h1 h2
  have hS := hG.2.2.2
  have hbA : ¬ G_A g' (ad_r g' 31) := by
    show ¬ g'.2.1.size ≤ _
    rw [hs]
    exact Nat.not_le.mpr hbl
  rw [hs] at hS
  exact va_slen hx hb hX hbl hbA hS d (kk H locs ls hG hl h1 h2)
theorem tj_sld (ok : OkX X g cc nL own ret) {hE : AH} {v' : Option TV} (en : EnL X L xs hE v') (d : decode cc pc = .ok (.iaload, 1)) {r : Nat} {i v : Int32} (e : sc_i L xs r i = some v) (kk : TJ X (pc + 1) lv (.int v :: st) h) : TJ X pc lv (.int i :: rf_v g r :: st) h := by
  obtain ⟨⟨rfl, hi1, hi2⟩, rfl⟩ := of_if e
  obtain ⟨p, e, R, s, m, args, below, meth, c, g', nL', n0, s0, Q⟩ := X
  obtain ⟨rfl, rfl, hx, hb, hml, hown, hts, hgv, hr, hlk, h0, hw0, hn0⟩ := ok
  obtain ⟨⟨-, hX, hbl, hs⟩, -⟩ := en
  intro H locs ls hG hl h1 h2
  have hS := hG.2.2.2
  have hbA : ¬ G_A g' (ad_r g' 31) := by
    show ¬ g'.2.1.size ≤ _
    rw [hs]
    exact Nat.not_le.mpr hbl
  rw [hs] at hS
  exact va_sld hx hb hX hbl hbA hS (in_of hi1 hi2) d (kk H locs ls hG hl h1 h2)
theorem tj_lawret (ok : OkX X g code nL own (some .boolean)) {v v' : Int32} {hE : AH} (e : ok_z v h = some (v', hE)) (en : EnL X L xs hE (some (.inl v'))) (d : decode code pc = .ok (.ireturn, 1)) : TJ X pc lv [.int v] h := by
  obtain ⟨hz, e⟩ := of_if e
  cases e
  obtain ⟨p, e, R, s, m, args, below, meth, c, g', nL', n0, s0, Q⟩ := X
  obtain ⟨rfl, rfl, hx, hb, hml, hown, hts, hgv, hr, hlk, h0, hw0, hn0⟩ := ok
  obtain ⟨⟨rfl, hX, hbl, hs⟩, rfl, rfl, hc, hsl, hv⟩ := en
  cases hv
  intro H locs ls hG hl h1 h2
  refine va_forget (fun q hq => by have z := hG.2.2.2.2.2 q hq; rw [← hs]; exact z) ?_
  exact W.widen hc hsl (lw_ret hx hb hr hlk d)
end TJ9
