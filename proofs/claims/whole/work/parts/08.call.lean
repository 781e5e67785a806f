section TJ4
variable {p : Program} {l : Launch} {e : Env} {R : Room} {s : State} {m : MethodId} {args : Array Value} {below : List Frame} {meth : Method} {c : Code} {H : Heap} {locs : List Loc} {cells slots mc ms : Nat} {Q : State → Prop} {gf : JFrame} {rest : List Value} {free : Addr → Prop}
theorem w_callY {Qa : State → Outcome → State → Prop} (hr : CallRun p l e R s m args below meth c H locs cells slots mc ms gf rest Qa free)
    (kk : ∀ (v : Option Value) (st₀ t : State) (L : List Loc), st₀.heap = H → (∀ q ∈ L, free q.base) → Qa st₀ (.returned v) t → W p l e R s m args below meth c t.heap (locs ++ L) (cells + mc) (slots + ms) Q { gf with pc := gf.pc + 3, stack := v.toList ++ rest }) : W p l e R s m args below meth c H locs cells slots Q gf := by
  intro T hT X
  obtain ⟨v, st₀, t, T', L, h0, X', hL, e1, hq, st⟩ := hr T hT X
  obtain ⟨t2, a1, b1⟩ := kk v st₀ t L h0 hL hq T' e1 X'
  exact ⟨t2, st t2 a1, b1⟩
theorem w_callZ {Qa : State → Outcome → State → Prop} (hr : va_Run p l e R s m args below meth c H locs cells slots mc ms gf rest Qa free)
    (kk : ∀ (v : Option Value) (st₀ t : State) (L : List Loc), st₀.heap = H → (∀ q ∈ L, free q.base) → Qa st₀ (.returned v) t → W p l e R s m args below meth c t.heap (locs ++ L) (cells + mc) (slots + ms) Q { gf with pc := gf.pc + 3, stack := v.toList ++ rest }) : W p l e R s m args below meth c H locs cells slots Q gf := by
  intro T hT X
  obtain ⟨v, st₀, t, T', L, h0, X', hL, e1, e2, hq, st⟩ := hr T hT X
  obtain ⟨t2, a1, b1⟩ := kk v st₀ t L h0 hL hq T' e1 X'
  exact ⟨t2, st t2 a1, b1⟩
theorem GW.app {g : GT} {h h' : AH} {H' : Heap} {L : List Loc} (hG : GW g h H locs) (hG' : GW g h' H' []) (hL : ∀ q ∈ L, G_A g q.base) : GW g h' H' (locs ++ L) :=
  ⟨hG'.1, hG'.2.1, hG'.2.2.1, hG'.2.2.2.1, hG'.2.2.2.2.1, fun q hq => (List.mem_append.mp hq).elim (hG.2.2.2.2.2 q) (hL q)⟩
theorem pc_bl (g : GT) (h : AH) (as : List Value) : FrameBlind (va_Pc as (fun U => GW g h U.heap [] ∧ GV g U)) := fun a U gq mk q => ⟨q.1, q.2.1, GV.moved (State.WarmedH.refl U) q.2.2⟩
end TJ4
theorem rs_ok {g : GT} {L : List TV} (h : tz_ L ≤ 8) : ((L.map (vl g)).map fun v => v.category).sum ≤ 8 := by
  have e : ∀ L : List TV, ((L.map (vl g)).map fun v => v.category).sum = tz_ L := by
    intro L
    induction L with
    | nil => rfl
    | cons v t ih => rw [List.map_cons, List.map_cons, List.sum_cons, ih, vl_cat]; rfl
  rw [e]; exact h
section TJ5
variable {X : CX} {g : GT} {cc : ByteArray} {nL : Nat} {own : String} {ret : Option FieldType} {pc : Nat} {lv : List (Nat × TV)} {rest st0 st1 : List Value} {h : AH}
/-- what is known of a callee by the tables: its code, that it is initialised, its parameters, its locals -/
def Kn (y : MethodName) (cc' : ByteArray) (nL' : Nat) (ret' : Option FieldType) (n : Nat) : Prop := Cond.code y cc' nL' ret' ∈ lw_gd ∧ Cond.initialized y.cls ∈ lw_gd ∧ (y.cls ≠ "java/lang/invoke/MethodHandle" ∧ y.cls ≠ "java/lang/invoke/VarHandle" ∧ (parseMethodDescriptor y.desc).map (fun d => d.parameters.length) = some n) ∧ nL' ≤ 41
theorem tj_callS (ok : OkX X g cc nL own ret) {K k idx nL' : Nat} (lev : LvX X K) (hk : k + 1 ≤ K) {y : MethodName} {cc' : ByteArray} {ret' : Option FieldType} {as : List TV} {h1 : AH} {v : Option TV} (hM : CM g k y cc' nL' ret' h as h1 v) (ca : CaX X h1) (hkn : Kn y cc' nL' ret' as.length)
    (hlink : Cond.methodLink own idx y ∈ lw_gd) (hst : Cond.static y ∈ lw_gd) (hrest : (rest.map fun v => v.category).sum ≤ 8) (hs : st0 = (as.map (vl g)).reverse ++ rest) (hs1 : (v.map (vl g)).toList ++ rest = st1) (d : decode cc pc = .ok (.invokestatic idx, 3)) (kk : TJ X (pc + 3) lv st1 h1) : TJ X pc lv st0 h := by
  obtain ⟨hcw, hini, hy, hn⟩ := hkn
  obtain ⟨hmono, hM⟩ := hM
  obtain ⟨p, e, R, s, m, args, below, meth, c, g', nL1, n0, s0, Q⟩ := X
  obtain ⟨rfl, rfl, hx, hb, hml, hown, hts, hgv, hr, hlk, h0, hw0, hn0⟩ := ok
  intro H locs ls hG hl q1 q2
  subst hs hs1
  obtain ⟨l1, l2⟩ := lev
  have cb := callB_of (R := R) (Ts := lw_gd) (own := own) (index := idx) (rm := { frames := k, cells := hp_n h1 - hp_n h, slots := hp_s h1 - hp_s h, locals := 60 * k }) as.length hts (gd_c hcw) rfl rfl rfl (hts _ hini) (hts _ hlink) hy ⟨by show k + 1 ≤ _; omega, by show 8 + (nL' + 11) + 60 * k ≤ _; omega⟩
  obtain ⟨ca1, ca2⟩ := ca
  refine w_callY (W.runS (nL := nL1) ⟨hx, hb, hml, hown, hts⟩ hM ⟨cb, hts _ hst⟩ ⟨pc_bl _ _ _, fun U hU hW => ⟨rfl, by rw [hU]; exact hG.nil, GV.moved hW hgv⟩⟩ rfl (by simp) hl.1 rfl (lv_room hrest) d ⟨by omega, by omega⟩) ?_
  intro v' st₀ t L e0 hL hq
  obtain ⟨ev, hG1⟩ := hq
  cases ev
  have z := kk t.heap (locs ++ L) ls (hG.app hG1 hL) hl (by omega) (by omega)
  rw [show hp_n h - n0 + (hp_n h1 - hp_n h) = hp_n h1 - n0 by omega, show hp_s h - s0 + (hp_s h1 - hp_s h) = hp_s h1 - s0 by omega]
  exact z
theorem tj_callI (ok : OkX X g cc nL own ret) {K k idx nL' : Nat} (lev : LvX X K) (hk : k + 1 ≤ K) {y : MethodName} {cc' : ByteArray} {as : List TV} {r : Nat} {h1 : AH} (hr0 : 64 ≤ r) (hM : CM g k y cc' nL' none h (.inr (.inr r) :: as) h1 none) (ca : CaX X h1) (hkn : Kn y cc' nL' none as.length) (hy1 : y.name = "<init>")
    (hlink : Cond.methodLink own idx y ∈ lw_gd) (hst : Cond.instanceMethod y ∈ lw_gd) (hrest : (rest.map fun v => v.category).sum ≤ 8) (hs : st0 = (as.map (vl g)).reverse ++ rf_v g r :: rest) (d : decode cc pc = .ok (.invokespecial idx, 3)) (kk : TJ X (pc + 3) lv rest h1) : TJ X pc lv st0 h := by
  obtain ⟨hcw, hini, hy, hn⟩ := hkn
  obtain ⟨hmono, hM⟩ := hM
  obtain ⟨p, e, R, s, m, args, below, meth, c, g', nL1, n0, s0, Q⟩ := X
  obtain ⟨rfl, rfl, hx, hb, hml, hown, hts, hgv, hr, hlk, h0, hw0, hn0⟩ := ok
  intro H locs ls hG hl q1 q2
  subst hs
  obtain ⟨l1, l2⟩ := lev
  have cb := callB_of (R := R) (Ts := lw_gd) (own := own) (index := idx) (rm := { frames := k, cells := hp_n h1 - hp_n h, slots := hp_s h1 - hp_s h, locals := 60 * k }) as.length hts (gd_c hcw) rfl rfl rfl (hts _ hini) (hts _ hlink) hy ⟨by show k + 1 ≤ _; omega, by show 8 + (nL' + 11) + 60 * k ≤ _; omega⟩
  obtain ⟨ca1, ca2⟩ := ca
  rw [List.map_cons, show vl g' (.inr (.inr r)) = .ref (ad_r g' r) from rf_h hr0] at hM
  show W _ _ _ _ _ _ _ _ _ _ _ _ _ _ _ (F0 m pc ls ((as.map (vl _)).reverse ++ rf_v _ r :: rest))
  rw [rf_h hr0]
  refine w_callY (W.runI (nL := nL1) ⟨hx, hb, hml, hown, hts⟩ hM ⟨cb, hy1, hts _ hst⟩ ⟨pc_bl _ _ _, fun U hU hW => ⟨rfl, by rw [hU]; exact hG.nil, GV.moved hW hgv⟩⟩ rfl (by simp) hl.1 rfl (lv_room hrest) d ⟨by omega, by omega⟩) ?_
  intro v' st₀ t L e0 hL hq
  obtain ⟨ev, hG1⟩ := hq
  cases ev
  have z := kk t.heap (locs ++ L) ls (hG.app hG1 hL) hl (by omega) (by omega)
  rw [show hp_n h - n0 + (hp_n h1 - hp_n h) = hp_n h1 - n0 by omega, show hp_s h - s0 + (hp_s h1 - hp_s h) = hp_s h1 - s0 by omega]
  exact z
theorem tj_callN (ok : OkX X g cc nL own ret) {K k idx nL' i : Nat} (lev : LvX X K) (hk : k + 1 ≤ K) {y : MethodName} {host : String} {cc' : ByteArray} {as : List TV} {r : Nat} {h1 : AH} (hr0 : 64 ≤ r) (hM : CM g k y cc' nL' none h (.inr (.inr r) :: as) h1 none) (ca : CaX X h1) (hkn : Kn y cc' nL' none as.length) (hy1 : y.name = "<init>")
    (hlink : ns_L[i]? = some (own, idx, y, host)) (hst : Cond.instanceMethod y ∈ lw_gd) (hrest : (rest.map fun v => v.category).sum ≤ 8) (hs : st0 = (as.map (vl g)).reverse ++ rf_v g r :: rest) (d : decode cc pc = .ok (.invokespecial idx, 3)) (kk : TJ X (pc + 3) lv rest h1) : TJ X pc lv st0 h := by
  obtain ⟨hcw, hini, hy, hn⟩ := hkn
  obtain ⟨hmono, hM⟩ := hM
  obtain ⟨p, e, R, s, m, args, below, meth, c, g', nL1, n0, s0, Q⟩ := X
  obtain ⟨rfl, rfl, hx, hb, hml, hown, hts, hgv, hr, hlk, h0, hw0, hn0⟩ := ok
  intro H locs ls hG hl q1 q2
  subst hs
  obtain ⟨l1, l2⟩ := lev
  have cb := va_cnB (R := R) (Ts := lw_gd) (own := own) (index := idx) (rm := { frames := k, cells := hp_n h1 - hp_n h, slots := hp_s h1 - hp_s h, locals := 60 * k }) as.length hts (gd_c hcw) rfl rfl rfl (hgv.2.2.2.1 i _ hlink) (hts _ hini) hy ⟨by show k + 1 ≤ _; omega, by show 8 + (nL' + 11) + 60 * k ≤ _; omega⟩
  obtain ⟨ca1, ca2⟩ := ca
  rw [List.map_cons, show vl g' (.inr (.inr r)) = .ref (ad_r g' r) from rf_h hr0] at hM
  show W _ _ _ _ _ _ _ _ _ _ _ _ _ _ _ (F0 m pc ls ((as.map (vl _)).reverse ++ rf_v _ r :: rest))
  rw [rf_h hr0]
  refine w_callZ (va_runIN (nL := nL1) ⟨hx, hb, hml, hown, hts⟩ hM ⟨cb, hy1, hts _ hst⟩ ⟨pc_bl _ _ _, fun U hU hW => ⟨rfl, by rw [hU]; exact hG.nil, GV.moved hW hgv⟩⟩ rfl (by simp) hl.1 rfl (lv_room hrest) d ⟨by omega, by omega⟩) ?_
  intro v' st₀ t L e0 hL hq
  obtain ⟨ev, hG1⟩ := hq
  cases ev
  have z := kk t.heap (locs ++ L) ls (hG.app hG1 hL) hl (by omega) (by omega)
  rw [show hp_n h - n0 + (hp_n h1 - hp_n h) = hp_n h1 - n0 by omega, show hp_s h - s0 + (hp_s h1 - hp_s h) = hp_s h1 - s0 by omega]
  exact z
theorem tj_callV (ok : OkX X g cc nL own ret) {K k idx nL' ci N : Nat} (lev : LvX X K) (hk : k + 1 ≤ K) {y : MethodName} {C : String} {T : u_T} {cc' : ByteArray} {ret' : Option FieldType} {as : List TV} {r : Nat} {h1 : AH} {v : Option TV} (hcl : am_cl[ci]? = some (C, T, N)) (hci : ci < 100) (hyc : y.cls = C) (hro : ok_o h r ci) (hM : CM g k y cc' nL' ret' h (.inr (.inr r) :: as) h1 v) (ca : CaX X h1) (hkn : Kn y cc' nL' ret' as.length)
    (hlink : Cond.methodLink own idx y ∈ lw_gd) (hst : Cond.instanceMethod y ∈ lw_gd) (hsel : Cond.selects C y y ∈ lw_gd) (hrest : (rest.map fun v => v.category).sum ≤ 8) (hs : st0 = (as.map (vl g)).reverse ++ rf_v g r :: rest) (hs1 : (v.map (vl g)).toList ++ rest = st1) (d : decode cc pc = .ok (.invokevirtual idx, 3)) (kk : TJ X (pc + 3) lv st1 h1) : TJ X pc lv st0 h := by
  obtain ⟨hcw, hini, hy, hn⟩ := hkn
  obtain ⟨hmono, hM⟩ := hM
  obtain ⟨hr0, hr2, hr3⟩ := hro
  obtain ⟨p, e, R, s, m, args, below, meth, c, g', nL1, n0, s0, Q⟩ := X
  obtain ⟨rfl, rfl, hx, hb, hml, hown, hts, hgv, hr, hlk, h0, hw0, hn0⟩ := ok
  intro H locs ls hG hl q1 q2
  subst hs hs1
  obtain ⟨l1, l2⟩ := lev
  have cb := callB_of (R := R) (Ts := lw_gd) (own := own) (index := idx) (rm := { frames := k, cells := hp_n h1 - hp_n h, slots := hp_s h1 - hp_s h, locals := 60 * k }) as.length hts (gd_c hcw) rfl rfl rfl (hts _ hini) (hts _ hlink) hy ⟨by show k + 1 ≤ _; omega, by show 8 + (nL' + 11) + 60 * k ≤ _; omega⟩
  obtain ⟨ca1, ca2⟩ := ca
  rw [List.map_cons, show vl g' (.inr (.inr r)) = .ref (ad_r g' r) from rf_h hr0] at hM
  show W _ _ _ _ _ _ _ _ _ _ _ _ _ _ _ (F0 m pc ls ((as.map (vl _)).reverse ++ rf_v _ r :: rest))
  rw [rf_h hr0]
  have hat := hG.2.2.1 r hr0 hr2
  rw [w_o hr3 hci] at hat
  have hrec := va_recv (q0 := 0) hgv.1 (va_P1 hat) hcl rfl
  refine w_callY (W.runV (nL := nL1) (C := C) ⟨hx, hb, hml, hown, hts⟩ hM ⟨cb, hts _ hst, hts _ hsel⟩ ⟨pc_bl _ _ _, hrec, fun U hU hW => ⟨rfl, by rw [hU]; exact hG.nil, GV.moved hW hgv⟩⟩ rfl (by simp) hl.1 rfl (lv_room hrest) d ⟨by omega, by omega⟩) ?_
  intro v' st₀ t L e0 hL hq
  obtain ⟨ev, hG1⟩ := hq
  cases ev
  have z := kk t.heap (locs ++ L) ls (hG.app hG1 hL) hl (by omega) (by omega)
  rw [show hp_n h - n0 + (hp_n h1 - hp_n h) = hp_n h1 - n0 by omega, show hp_s h - s0 + (hp_s h1 - hp_s h) = hp_s h1 - s0 by omega]
  exact z
theorem tj_objInit (ok : OkX X g cc nL own ret) {K idx r : Nat} (lev : LvX X K) (hk : 1 ≤ K) (hr0 : 64 ≤ r) (hlink : Cond.methodLink own idx objectInit ∈ lw_gd) (hi : Cond.instanceMethod objectInit ∈ lw_gd) (hc : Cond.code objectInit ⟨#[0xb1]⟩ 1 none ∈ lw_gd) (hrest : (rest.map fun v => v.category).sum ≤ 8)
    (d : decode cc pc = .ok (.invokespecial idx, 3)) (kk : TJ X (pc + 3) lv rest h) : TJ X pc lv (rf_v g r :: rest) h := by
  obtain ⟨p, e, R, s, m, args, below, meth, c, g', nL1, n0, s0, Q⟩ := X
  obtain ⟨rfl, rfl, hx, hb, hml, hown, hts, hgv, hr, hlk, h0, hw0, hn0⟩ := ok
  intro H locs ls hG hl q1 q2
  obtain ⟨l1, l2⟩ := lev
  show W _ _ _ _ _ _ _ _ _ _ _ _ _ _ _ (F0 m pc ls (rf_v _ r :: rest))
  rw [rf_h hr0]
  exact W.objInit hx hb hown (hts _ hlink) (hts _ hi) (hts _ hc) rfl (by rw [hl.1, hml]) rfl d (by omega) (by show 2 * 0 + _ + 12 ≤ _; omega) (kk H locs ls hG hl q1 q2)
theorem tj_min (ok : OkX X g cc nL own ret) {K idx : Nat} (lev : LvX X K) (hk : 1 ≤ K) {x y : Int32} (ca : CaX X h) (hlink : Cond.methodLink own idx Lib.Math.min.name ∈ lw_gd) (hst : Cond.static Lib.Math.min.name ∈ lw_gd) (hi : Cond.initialized "java/lang/Math" ∈ lw_gd) (hc : Cond.code Lib.Math.min.name Lib.Math.min.code 2 (some .int) ∈ lw_gd) (hrest : (rest.map fun v => v.category).sum ≤ 8)
    (d : decode cc pc = .ok (.invokestatic idx, 3)) (kk : TJ X (pc + 3) lv (.int (if y < x then y else x) :: rest) h) : TJ X pc lv (.int y :: .int x :: rest) h := by
  obtain ⟨p, e, R, s, m, args, below, meth, c, g', nL1, n0, s0, Q⟩ := X
  obtain ⟨rfl, rfl, hx, hb, hml, hown, hts, hgv, hr, hlk, h0, hw0, hn0⟩ := ok
  intro H locs ls hG hl q1 q2
  obtain ⟨l1, l2⟩ := lev
  exact va_mmin hx hb (by rw [hl.1, hml]) hown (hts _ hlink) (hts _ hst) (hts _ hi) (hts _ hc) (by omega) (by omega) ca.1 ca.2 d (kk H locs ls hG hl q1 q2)
theorem tj_max (ok : OkX X g cc nL own ret) {K idx : Nat} (lev : LvX X K) (hk : 1 ≤ K) {x y : Int32} (ca : CaX X h) (hlink : Cond.methodLink own idx Lib.Math.max.name ∈ lw_gd) (hst : Cond.static Lib.Math.max.name ∈ lw_gd) (hi : Cond.initialized "java/lang/Math" ∈ lw_gd) (hc : Cond.code Lib.Math.max.name Lib.Math.max.code 2 (some .int) ∈ lw_gd) (hrest : (rest.map fun v => v.category).sum ≤ 8)
    (d : decode cc pc = .ok (.invokestatic idx, 3)) (kk : TJ X (pc + 3) lv (.int (if x < y then y else x) :: rest) h) : TJ X pc lv (.int y :: .int x :: rest) h := by
  obtain ⟨p, e, R, s, m, args, below, meth, c, g', nL1, n0, s0, Q⟩ := X
  obtain ⟨rfl, rfl, hx, hb, hml, hown, hts, hgv, hr, hlk, h0, hw0, hn0⟩ := ok
  intro H locs ls hG hl q1 q2
  obtain ⟨l1, l2⟩ := lev
  exact va_mmax hx hb (by rw [hl.1, hml]) hown (hts _ hlink) (hts _ hst) (hts _ hi) (hts _ hc) (by omega) (by omega) ca.1 ca.2 d (kk H locs ls hG hl q1 q2)
end TJ5
