theorem lvv_at {g : GT} {lv : List (Nat × TV)} {k i : Nat} {v : TV} (h : lv[k]? = some (i, v)) : (lvv g lv)[k]? = some (i, vl g v) := by
  unfold lvv
  rw [List.getElem?_map, h]
  rfl
theorem cat_L (g : GT) (v : TV) : ((vl g v).category == 2) = is_L v := by
  rw [vl_cat]
  match v with
  | .inl x => rfl
  | .inr (.inl x) => rfl
  | .inr (.inr r) => rfl
theorem lv_ins {g : GT} {lv : List (Nat × TV)} {i nL : Nat} {v : TV} {ls : Array Slot} (h : lv_has ls nL ((i, vl g v) :: (lvv g lv).filter (fun q => !(q.1 == i) && !(q.1 + 1 == i && q.2.category == 2)))) : lv_has ls nL (lvv g (ins_ i v (lv.filter (fun q => !(q.1 == i) && !(q.1 + 1 == i && is_L q.2))))) := by
  refine ⟨h.1, h.2.1, fun q hq => ?_⟩
  obtain ⟨q0, hq0, rfl⟩ := List.mem_map.mp hq
  rcases ins_mem hq0 with rfl | hq1
  · exact h.2.2 _ List.mem_cons_self
  · obtain ⟨a1, a2⟩ := List.mem_filter.mp hq1
    exact h.2.2 _ (List.mem_cons_of_mem _ (List.mem_filter.mpr ⟨List.mem_map.mpr ⟨q0, a1, rfl⟩, by rw [cat_L]; exact a2⟩))
theorem lv_insL {g : GT} {lv : List (Nat × TV)} {i nL : Nat} {v : TV} {ls : Array Slot} (h : lv_has ls nL ((i, vl g v) :: (lvv g lv).filter (fun q => !(q.1 == i) && (!(q.1 == i + 1) && !(q.1 + 1 == i && q.2.category == 2))))) : lv_has ls nL (lvv g (ins_ i v (lv.filter (fun q => !(q.1 == i) && (!(q.1 == i + 1) && !(q.1 + 1 == i && is_L q.2)))))) := by
  refine ⟨h.1, h.2.1, fun q hq => ?_⟩
  obtain ⟨q0, hq0, rfl⟩ := List.mem_map.mp hq
  rcases ins_mem hq0 with rfl | hq1
  · exact h.2.2 _ List.mem_cons_self
  · obtain ⟨a1, a2⟩ := List.mem_filter.mp hq1
    exact h.2.2 _ (List.mem_cons_of_mem _ (List.mem_filter.mpr ⟨List.mem_map.mpr ⟨q0, a1, rfl⟩, by rw [cat_L]; exact a2⟩))
def us_i (x y : Int32) : Int32 := (x.toUInt32 >>> (y.toUInt32 &&& Int32.toUInt32 31)).toInt32
def us_j (x : Int64) (y : Int32) : Int64 := (x.toUInt64 >>> (y.toInt64.toUInt64 &&& Int64.toUInt64 63)).toInt64
theorem rf_cat (g : GT) (r : Nat) : (rf_v g r).category = 1 := by
  unfold rf_v
  split <;> rfl
section TJ1
variable {X : CX} {g : GT} {cc : ByteArray} {nL : Nat} {own : String} {ret : Option FieldType} {pc : Nat} {lv : List (Nat × TV)} {st : List Value} {h : AH}
theorem tj_iadd (ok : OkX X g cc nL own ret) {x y : Int32} (d : decode cc pc = .ok (.iadd, 1)) (k : TJ X (pc + 1) lv (.int (x + y) :: st) h) : TJ X pc lv (.int y :: .int x :: st) h := by
  obtain ⟨p, e, R, s, m, args, below, meth, c, g', nL', n0, s0, Q⟩ := X
  obtain ⟨rfl, rfl, hx, hb, hml, hown, hts, hgv, hr, hlk, h0, hw0, hn0⟩ := ok
  intro H locs ls hG hl h1 h2
  exact lv_iadd hx hb d (k H locs ls hG hl h1 h2)
theorem tj_isub (ok : OkX X g cc nL own ret) {x y : Int32} (d : decode cc pc = .ok (.isub, 1)) (k : TJ X (pc + 1) lv (.int (x - y) :: st) h) : TJ X pc lv (.int y :: .int x :: st) h := by
  obtain ⟨p, e, R, s, m, args, below, meth, c, g', nL', n0, s0, Q⟩ := X
  obtain ⟨rfl, rfl, hx, hb, hml, hown, hts, hgv, hr, hlk, h0, hw0, hn0⟩ := ok
  intro H locs ls hG hl h1 h2
  exact lv_isub hx hb d (k H locs ls hG hl h1 h2)
theorem tj_imul (ok : OkX X g cc nL own ret) {x y : Int32} (d : decode cc pc = .ok (.imul, 1)) (k : TJ X (pc + 1) lv (.int (x * y) :: st) h) : TJ X pc lv (.int y :: .int x :: st) h := by
  obtain ⟨p, e, R, s, m, args, below, meth, c, g', nL', n0, s0, Q⟩ := X
  obtain ⟨rfl, rfl, hx, hb, hml, hown, hts, hgv, hr, hlk, h0, hw0, hn0⟩ := ok
  intro H locs ls hG hl h1 h2
  exact lv_imul hx hb d (k H locs ls hG hl h1 h2)
theorem tj_iand (ok : OkX X g cc nL own ret) {x y : Int32} (d : decode cc pc = .ok (.iand, 1)) (k : TJ X (pc + 1) lv (.int (x &&& y) :: st) h) : TJ X pc lv (.int y :: .int x :: st) h := by
  obtain ⟨p, e, R, s, m, args, below, meth, c, g', nL', n0, s0, Q⟩ := X
  obtain ⟨rfl, rfl, hx, hb, hml, hown, hts, hgv, hr, hlk, h0, hw0, hn0⟩ := ok
  intro H locs ls hG hl h1 h2
  exact lv_iand hx hb d (k H locs ls hG hl h1 h2)
theorem tj_ior (ok : OkX X g cc nL own ret) {x y : Int32} (d : decode cc pc = .ok (.ior, 1)) (k : TJ X (pc + 1) lv (.int (x ||| y) :: st) h) : TJ X pc lv (.int y :: .int x :: st) h := by
  obtain ⟨p, e, R, s, m, args, below, meth, c, g', nL', n0, s0, Q⟩ := X
  obtain ⟨rfl, rfl, hx, hb, hml, hown, hts, hgv, hr, hlk, h0, hw0, hn0⟩ := ok
  intro H locs ls hG hl h1 h2
  exact lv_ior hx hb d (k H locs ls hG hl h1 h2)
theorem tj_ixor (ok : OkX X g cc nL own ret) {x y : Int32} (d : decode cc pc = .ok (.ixor, 1)) (k : TJ X (pc + 1) lv (.int (x ^^^ y) :: st) h) : TJ X pc lv (.int y :: .int x :: st) h := by
  obtain ⟨p, e, R, s, m, args, below, meth, c, g', nL', n0, s0, Q⟩ := X
  obtain ⟨rfl, rfl, hx, hb, hml, hown, hts, hgv, hr, hlk, h0, hw0, hn0⟩ := ok
  intro H locs ls hG hl h1 h2
  exact lv_ixor hx hb d (k H locs ls hG hl h1 h2)
theorem tj_ishl (ok : OkX X g cc nL own ret) {x y : Int32} (d : decode cc pc = .ok (.ishl, 1)) (k : TJ X (pc + 1) lv (.int (x <<< (y &&& 31)) :: st) h) : TJ X pc lv (.int y :: .int x :: st) h := by
  obtain ⟨p, e, R, s, m, args, below, meth, c, g', nL', n0, s0, Q⟩ := X
  obtain ⟨rfl, rfl, hx, hb, hml, hown, hts, hgv, hr, hlk, h0, hw0, hn0⟩ := ok
  intro H locs ls hG hl h1 h2
  exact lv_ishl hx hb d (k H locs ls hG hl h1 h2)
theorem tj_ishr (ok : OkX X g cc nL own ret) {x y : Int32} (d : decode cc pc = .ok (.ishr, 1)) (k : TJ X (pc + 1) lv (.int (x >>> (y &&& 31)) :: st) h) : TJ X pc lv (.int y :: .int x :: st) h := by
  obtain ⟨p, e, R, s, m, args, below, meth, c, g', nL', n0, s0, Q⟩ := X
  obtain ⟨rfl, rfl, hx, hb, hml, hown, hts, hgv, hr, hlk, h0, hw0, hn0⟩ := ok
  intro H locs ls hG hl h1 h2
  exact lv_ishr hx hb d (k H locs ls hG hl h1 h2)
theorem tj_iushr (ok : OkX X g cc nL own ret) {x y : Int32} (d : decode cc pc = .ok (.iushr, 1)) (k : TJ X (pc + 1) lv (.int (us_i x y) :: st) h) : TJ X pc lv (.int y :: .int x :: st) h := by
  obtain ⟨p, e, R, s, m, args, below, meth, c, g', nL', n0, s0, Q⟩ := X
  obtain ⟨rfl, rfl, hx, hb, hml, hown, hts, hgv, hr, hlk, h0, hw0, hn0⟩ := ok
  intro H locs ls hG hl h1 h2
  exact lv_iushr hx hb d rfl (k H locs ls hG hl h1 h2)
theorem tj_ladd (ok : OkX X g cc nL own ret) {x y : Int64} (d : decode cc pc = .ok (.ladd, 1)) (k : TJ X (pc + 1) lv (.long (x + y) :: st) h) : TJ X pc lv (.long y :: .long x :: st) h := by
  obtain ⟨p, e, R, s, m, args, below, meth, c, g', nL', n0, s0, Q⟩ := X
  obtain ⟨rfl, rfl, hx, hb, hml, hown, hts, hgv, hr, hlk, h0, hw0, hn0⟩ := ok
  intro H locs ls hG hl h1 h2
  exact lv_ladd hx hb d (k H locs ls hG hl h1 h2)
theorem tj_lsub (ok : OkX X g cc nL own ret) {x y : Int64} (d : decode cc pc = .ok (.lsub, 1)) (k : TJ X (pc + 1) lv (.long (x - y) :: st) h) : TJ X pc lv (.long y :: .long x :: st) h := by
  obtain ⟨p, e, R, s, m, args, below, meth, c, g', nL', n0, s0, Q⟩ := X
  obtain ⟨rfl, rfl, hx, hb, hml, hown, hts, hgv, hr, hlk, h0, hw0, hn0⟩ := ok
  intro H locs ls hG hl h1 h2
  exact lv_lsub hx hb d (k H locs ls hG hl h1 h2)
theorem tj_lmul (ok : OkX X g cc nL own ret) {x y : Int64} (d : decode cc pc = .ok (.lmul, 1)) (k : TJ X (pc + 1) lv (.long (x * y) :: st) h) : TJ X pc lv (.long y :: .long x :: st) h := by
  obtain ⟨p, e, R, s, m, args, below, meth, c, g', nL', n0, s0, Q⟩ := X
  obtain ⟨rfl, rfl, hx, hb, hml, hown, hts, hgv, hr, hlk, h0, hw0, hn0⟩ := ok
  intro H locs ls hG hl h1 h2
  exact lv_lmul hx hb d (k H locs ls hG hl h1 h2)
theorem tj_land (ok : OkX X g cc nL own ret) {x y : Int64} (d : decode cc pc = .ok (.land, 1)) (k : TJ X (pc + 1) lv (.long (x &&& y) :: st) h) : TJ X pc lv (.long y :: .long x :: st) h := by
  obtain ⟨p, e, R, s, m, args, below, meth, c, g', nL', n0, s0, Q⟩ := X
  obtain ⟨rfl, rfl, hx, hb, hml, hown, hts, hgv, hr, hlk, h0, hw0, hn0⟩ := ok
  intro H locs ls hG hl h1 h2
  exact lv_land hx hb d (k H locs ls hG hl h1 h2)
theorem tj_lor (ok : OkX X g cc nL own ret) {x y : Int64} (d : decode cc pc = .ok (.lor, 1)) (k : TJ X (pc + 1) lv (.long (x ||| y) :: st) h) : TJ X pc lv (.long y :: .long x :: st) h := by
  obtain ⟨p, e, R, s, m, args, below, meth, c, g', nL', n0, s0, Q⟩ := X
  obtain ⟨rfl, rfl, hx, hb, hml, hown, hts, hgv, hr, hlk, h0, hw0, hn0⟩ := ok
  intro H locs ls hG hl h1 h2
  exact lv_lor hx hb d (k H locs ls hG hl h1 h2)
theorem tj_lxor (ok : OkX X g cc nL own ret) {x y : Int64} (d : decode cc pc = .ok (.lxor, 1)) (k : TJ X (pc + 1) lv (.long (x ^^^ y) :: st) h) : TJ X pc lv (.long y :: .long x :: st) h := by
  obtain ⟨p, e, R, s, m, args, below, meth, c, g', nL', n0, s0, Q⟩ := X
  obtain ⟨rfl, rfl, hx, hb, hml, hown, hts, hgv, hr, hlk, h0, hw0, hn0⟩ := ok
  intro H locs ls hG hl h1 h2
  exact lv_lxor hx hb d (k H locs ls hG hl h1 h2)
theorem tj_lshl (ok : OkX X g cc nL own ret) {x : Int64} {y : Int32} (d : decode cc pc = .ok (.lshl, 1)) (k : TJ X (pc + 1) lv (.long (x <<< (y.toInt64 &&& 63)) :: st) h) : TJ X pc lv (.int y :: .long x :: st) h := by
  obtain ⟨p, e, R, s, m, args, below, meth, c, g', nL', n0, s0, Q⟩ := X
  obtain ⟨rfl, rfl, hx, hb, hml, hown, hts, hgv, hr, hlk, h0, hw0, hn0⟩ := ok
  intro H locs ls hG hl h1 h2
  exact lv_lshl hx hb d rfl (k H locs ls hG hl h1 h2)
theorem tj_lshr (ok : OkX X g cc nL own ret) {x : Int64} {y : Int32} (d : decode cc pc = .ok (.lshr, 1)) (k : TJ X (pc + 1) lv (.long (x >>> (y.toInt64 &&& 63)) :: st) h) : TJ X pc lv (.int y :: .long x :: st) h := by
  obtain ⟨p, e, R, s, m, args, below, meth, c, g', nL', n0, s0, Q⟩ := X
  obtain ⟨rfl, rfl, hx, hb, hml, hown, hts, hgv, hr, hlk, h0, hw0, hn0⟩ := ok
  intro H locs ls hG hl h1 h2
  exact lv_lshr hx hb d rfl (k H locs ls hG hl h1 h2)
theorem tj_lushr (ok : OkX X g cc nL own ret) {x : Int64} {y : Int32} (d : decode cc pc = .ok (.lushr, 1)) (k : TJ X (pc + 1) lv (.long (us_j x y) :: st) h) : TJ X pc lv (.int y :: .long x :: st) h := by
  obtain ⟨p, e, R, s, m, args, below, meth, c, g', nL', n0, s0, Q⟩ := X
  obtain ⟨rfl, rfl, hx, hb, hml, hown, hts, hgv, hr, hlk, h0, hw0, hn0⟩ := ok
  intro H locs ls hG hl h1 h2
  exact lv_lushr hx hb d rfl (k H locs ls hG hl h1 h2)
theorem tj_i2l (ok : OkX X g cc nL own ret) {x : Int32} (d : decode cc pc = .ok (.i2l, 1)) (k : TJ X (pc + 1) lv (.long x.toInt64 :: st) h) : TJ X pc lv (.int x :: st) h := by
  obtain ⟨p, e, R, s, m, args, below, meth, c, g', nL', n0, s0, Q⟩ := X
  obtain ⟨rfl, rfl, hx, hb, hml, hown, hts, hgv, hr, hlk, h0, hw0, hn0⟩ := ok
  intro H locs ls hG hl h1 h2
  exact lv_i2l hx hb d rfl (k H locs ls hG hl h1 h2)
theorem tj_l2i (ok : OkX X g cc nL own ret) {x : Int64} (d : decode cc pc = .ok (.l2i, 1)) (k : TJ X (pc + 1) lv (.int x.toInt32 :: st) h) : TJ X pc lv (.long x :: st) h := by
  obtain ⟨p, e, R, s, m, args, below, meth, c, g', nL', n0, s0, Q⟩ := X
  obtain ⟨rfl, rfl, hx, hb, hml, hown, hts, hgv, hr, hlk, h0, hw0, hn0⟩ := ok
  intro H locs ls hG hl h1 h2
  exact lv_l2i hx hb d rfl (k H locs ls hG hl h1 h2)
theorem tj_lcmp (ok : OkX X g cc nL own ret) {x y : Int64} (d : decode cc pc = .ok (.lcmp, 1)) (k : TJ X (pc + 1) lv (.int (lg_cmp x y) :: st) h) : TJ X pc lv (.long y :: .long x :: st) h := by
  obtain ⟨p, e, R, s, m, args, below, meth, c, g', nL', n0, s0, Q⟩ := X
  obtain ⟨rfl, rfl, hx, hb, hml, hown, hts, hgv, hr, hlk, h0, hw0, hn0⟩ := ok
  intro H locs ls hG hl h1 h2
  exact W.lcmp hx hb d (k H locs ls hG hl h1 h2)
theorem tj_iconst (ok : OkX X g cc nL own ret) {n : Int} {v : Int32} (d : decode cc pc = .ok (.iconst n, 1)) (hv : Int32.ofInt n = v) (k : TJ X (pc + 1) lv (.int v :: st) h) : TJ X pc lv (st) h := by
  obtain ⟨p, e, R, s, m, args, below, meth, c, g', nL', n0, s0, Q⟩ := X
  obtain ⟨rfl, rfl, hx, hb, hml, hown, hts, hgv, hr, hlk, h0, hw0, hn0⟩ := ok
  intro H locs ls hG hl h1 h2
  exact lv_iconst hx hb d hv (k H locs ls hG hl h1 h2)
theorem tj_bipush (ok : OkX X g cc nL own ret) {n : Int} {v : Int32} (d : decode cc pc = .ok (.bipush n, 2)) (hv : (Int8.ofInt n).toInt32 = v) (k : TJ X (pc + 2) lv (.int v :: st) h) : TJ X pc lv (st) h := by
  obtain ⟨p, e, R, s, m, args, below, meth, c, g', nL', n0, s0, Q⟩ := X
  obtain ⟨rfl, rfl, hx, hb, hml, hown, hts, hgv, hr, hlk, h0, hw0, hn0⟩ := ok
  intro H locs ls hG hl h1 h2
  exact lv_bipush hx hb d hv (k H locs ls hG hl h1 h2)
theorem tj_sipush (ok : OkX X g cc nL own ret) {n : Int} {v : Int32} (d : decode cc pc = .ok (.sipush n, 3)) (hv : (Int16.ofInt n).toInt32 = v) (k : TJ X (pc + 3) lv (.int v :: st) h) : TJ X pc lv (st) h := by
  obtain ⟨p, e, R, s, m, args, below, meth, c, g', nL', n0, s0, Q⟩ := X
  obtain ⟨rfl, rfl, hx, hb, hml, hown, hts, hgv, hr, hlk, h0, hw0, hn0⟩ := ok
  intro H locs ls hG hl h1 h2
  exact lv_sipush hx hb d hv (k H locs ls hG hl h1 h2)
theorem tj_lconst (ok : OkX X g cc nL own ret) {n : Fin 2} {v : Int64} (d : decode cc pc = .ok (.lconst n, 1)) (hv : Int64.ofNat (n : Nat) = v) (k : TJ X (pc + 1) lv (.long v :: st) h) : TJ X pc lv (st) h := by
  obtain ⟨p, e, R, s, m, args, below, meth, c, g', nL', n0, s0, Q⟩ := X
  obtain ⟨rfl, rfl, hx, hb, hml, hown, hts, hgv, hr, hlk, h0, hw0, hn0⟩ := ok
  intro H locs ls hG hl h1 h2
  exact lv_lconst hx hb d hv (k H locs ls hG hl h1 h2)
theorem tj_ldc (ok : OkX X g cc nL own ret) {i : Nat} {v : Int32} (d : decode cc pc = .ok (.ldc i, 2)) (hm : Cond.constant own i v ∈ lw_gd) (k : TJ X (pc + 2) lv (.int v :: st) h) : TJ X pc lv (st) h := by
  obtain ⟨p, e, R, s, m, args, below, meth, c, g', nL', n0, s0, Q⟩ := X
  obtain ⟨rfl, rfl, hx, hb, hml, hown, hts, hgv, hr, hlk, h0, hw0, hn0⟩ := ok
  intro H locs ls hG hl h1 h2
  exact lv_ldc hx hb hown (hts _ hm) d (k H locs ls hG hl h1 h2)
theorem tj_ldcw (ok : OkX X g cc nL own ret) {i : Nat} {v : Int32} (d : decode cc pc = .ok (.ldc_w i, 3)) (hm : Cond.constant own i v ∈ lw_gd) (k : TJ X (pc + 3) lv (.int v :: st) h) : TJ X pc lv (st) h := by
  obtain ⟨p, e, R, s, m, args, below, meth, c, g', nL', n0, s0, Q⟩ := X
  obtain ⟨rfl, rfl, hx, hb, hml, hown, hts, hgv, hr, hlk, h0, hw0, hn0⟩ := ok
  intro H locs ls hG hl h1 h2
  exact lv_ldcw hx hb hown (hts _ hm) d (k H locs ls hG hl h1 h2)
theorem tj_ldc2 (ok : OkX X g cc nL own ret) {i : Nat} {v : Int64} (d : decode cc pc = .ok (.ldc2_w i, 3)) (hm : Cond.constantLong own i v ∈ lw_gd) (k : TJ X (pc + 3) lv (.long v :: st) h) : TJ X pc lv (st) h := by
  obtain ⟨p, e, R, s, m, args, below, meth, c, g', nL', n0, s0, Q⟩ := X
  obtain ⟨rfl, rfl, hx, hb, hml, hown, hts, hgv, hr, hlk, h0, hw0, hn0⟩ := ok
  intro H locs ls hG hl h1 h2
  exact lv_ldc2 hx hb hown (hts _ hm) d (k H locs ls hG hl h1 h2)
theorem tj_null (ok : OkX X g cc nL own ret)  (d : decode cc pc = .ok (.aconst_null, 1)) (k : TJ X (pc + 1) lv (rf_v g 0 :: st) h) : TJ X pc lv (st) h := by
  obtain ⟨p, e, R, s, m, args, below, meth, c, g', nL', n0, s0, Q⟩ := X
  obtain ⟨rfl, rfl, hx, hb, hml, hown, hts, hgv, hr, hlk, h0, hw0, hn0⟩ := ok
  intro H locs ls hG hl h1 h2
  exact lv_null hx hb d (k H locs ls hG hl h1 h2)
theorem tj_iload_n (ok : OkX X g cc nL own ret) {i : Fin 4} {q : Nat} {x : Int32} (q0 : Nat) (d : decode cc pc = .ok (.iload_n i, 1)) (hi : (i : Nat) = q) (hq : lv[q0]? = some (q, .inl x)) (k : TJ X (pc + 1) lv (.int x :: st) h) : TJ X pc lv (st) h := by
  obtain ⟨p, e, R, s, m, args, below, meth, c, g', nL', n0, s0, Q⟩ := X
  obtain ⟨rfl, rfl, hx, hb, hml, hown, hts, hgv, hr, hlk, h0, hw0, hn0⟩ := ok
  intro H locs ls hG hl h1 h2
  exact lv_iload_n hx hb d hi (lv_at hl q0 (lvv_at hq)) (k H locs ls hG hl h1 h2)
theorem tj_iload (ok : OkX X g cc nL own ret) {q : Nat} {x : Int32} (q0 : Nat) (d : decode cc pc = .ok (.iload q, 2)) (hq : lv[q0]? = some (q, .inl x)) (k : TJ X (pc + 2) lv (.int x :: st) h) : TJ X pc lv (st) h := by
  obtain ⟨p, e, R, s, m, args, below, meth, c, g', nL', n0, s0, Q⟩ := X
  obtain ⟨rfl, rfl, hx, hb, hml, hown, hts, hgv, hr, hlk, h0, hw0, hn0⟩ := ok
  intro H locs ls hG hl h1 h2
  exact lv_iload hx hb d (lv_at hl q0 (lvv_at hq)) (k H locs ls hG hl h1 h2)
theorem tj_lload_n (ok : OkX X g cc nL own ret) {i : Fin 4} {q : Nat} {x : Int64} (q0 : Nat) (d : decode cc pc = .ok (.lload_n i, 1)) (hi : (i : Nat) = q) (hq : lv[q0]? = some (q, .inr <| .inl x)) (k : TJ X (pc + 1) lv (.long x :: st) h) : TJ X pc lv (st) h := by
  obtain ⟨p, e, R, s, m, args, below, meth, c, g', nL', n0, s0, Q⟩ := X
  obtain ⟨rfl, rfl, hx, hb, hml, hown, hts, hgv, hr, hlk, h0, hw0, hn0⟩ := ok
  intro H locs ls hG hl h1 h2
  exact lv_lload_n hx hb d hi (lv_at hl q0 (lvv_at hq)) (k H locs ls hG hl h1 h2)
theorem tj_lload (ok : OkX X g cc nL own ret) {q : Nat} {x : Int64} (q0 : Nat) (d : decode cc pc = .ok (.lload q, 2)) (hq : lv[q0]? = some (q, .inr <| .inl x)) (k : TJ X (pc + 2) lv (.long x :: st) h) : TJ X pc lv (st) h := by
  obtain ⟨p, e, R, s, m, args, below, meth, c, g', nL', n0, s0, Q⟩ := X
  obtain ⟨rfl, rfl, hx, hb, hml, hown, hts, hgv, hr, hlk, h0, hw0, hn0⟩ := ok
  intro H locs ls hG hl h1 h2
  exact lv_lload hx hb d (lv_at hl q0 (lvv_at hq)) (k H locs ls hG hl h1 h2)
theorem tj_aload_n (ok : OkX X g cc nL own ret) {i : Fin 4} {q r : Nat} (q0 : Nat) (d : decode cc pc = .ok (.aload_n i, 1)) (hi : (i : Nat) = q) (hq : lv[q0]? = some (q, .inr (.inr r))) (k : TJ X (pc + 1) lv (rf_v g r :: st) h) : TJ X pc lv (st) h := by
  obtain ⟨p, e, R, s, m, args, below, meth, c, g', nL', n0, s0, Q⟩ := X
  obtain ⟨rfl, rfl, hx, hb, hml, hown, hts, hgv, hr, hlk, h0, hw0, hn0⟩ := ok
  intro H locs ls hG hl h1 h2
  have kk := k H locs ls hG hl h1 h2
  have hq' := lv_at hl q0 (lvv_at hq)
  have hq' : ls[q]? = some (.val (rf_v _ r)) := hq'
  unfold rf_v at kk hq'
  by_cases hz : r = 0
  · rw [if_pos hz] at kk hq'
    exact lv_aload_nN hx hb d hi hq' kk
  · rw [if_neg hz] at kk hq'
    exact lv_aload_n hx hb d hi hq' kk
theorem tj_aload (ok : OkX X g cc nL own ret) {q r : Nat} (q0 : Nat) (d : decode cc pc = .ok (.aload q, 2)) (hq : lv[q0]? = some (q, .inr (.inr r))) (k : TJ X (pc + 2) lv (rf_v g r :: st) h) : TJ X pc lv (st) h := by
  obtain ⟨p, e, R, s, m, args, below, meth, c, g', nL', n0, s0, Q⟩ := X
  obtain ⟨rfl, rfl, hx, hb, hml, hown, hts, hgv, hr, hlk, h0, hw0, hn0⟩ := ok
  intro H locs ls hG hl h1 h2
  have kk := k H locs ls hG hl h1 h2
  have hq' := lv_at hl q0 (lvv_at hq)
  have hq' : ls[q]? = some (.val (rf_v _ r)) := hq'
  unfold rf_v at kk hq'
  by_cases hz : r = 0
  · rw [if_pos hz] at kk hq'
    exact lv_aloadN hx hb d hq' kk
  · rw [if_neg hz] at kk hq'
    exact lv_aload hx hb d hq' kk
theorem tj_istore_n (ok : OkX X g cc nL own ret) {j : Fin 4} {i : Nat} {x : Int32} {lv' : List (Nat × TV)} (d : decode cc pc = .ok (.istore_n j, 1)) (hi : (j : Nat) = i) (hn : i < nL) (hl' : ins_ i (.inl x) (lv.filter (fun q => !(q.1 == i) && !(q.1 + 1 == i && is_L q.2))) = lv') (k : TJ X (pc + 1) lv' st h) : TJ X pc lv (.int x :: st) h := by
  obtain ⟨p, e, R, s, m, args, below, meth, c, g', nL', n0, s0, Q⟩ := X
  obtain ⟨rfl, rfl, hx, hb, hml, hown, hts, hgv, hr, hlk, h0, hw0, hn0⟩ := ok
  intro H locs ls hG hl h1 h2
  subst hl'
  exact lv_istore_n hx hb d hi hl hn rfl (fun ls' hl2 => k H locs ls' hG (lv_ins (v := .inl x) hl2) h1 h2)
theorem tj_istore (ok : OkX X g cc nL own ret) {i : Nat} {x : Int32} {lv' : List (Nat × TV)} (d : decode cc pc = .ok (.istore i, 2)) (hn : i < nL) (hl' : ins_ i (.inl x) (lv.filter (fun q => !(q.1 == i) && !(q.1 + 1 == i && is_L q.2))) = lv') (k : TJ X (pc + 2) lv' st h) : TJ X pc lv (.int x :: st) h := by
  obtain ⟨p, e, R, s, m, args, below, meth, c, g', nL', n0, s0, Q⟩ := X
  obtain ⟨rfl, rfl, hx, hb, hml, hown, hts, hgv, hr, hlk, h0, hw0, hn0⟩ := ok
  intro H locs ls hG hl h1 h2
  subst hl'
  exact lv_istore hx hb d hl hn rfl (fun ls' hl2 => k H locs ls' hG (lv_ins (v := .inl x) hl2) h1 h2)
theorem tj_lstore_n (ok : OkX X g cc nL own ret) {j : Fin 4} {i : Nat} {x : Int64} {lv' : List (Nat × TV)} (d : decode cc pc = .ok (.lstore_n j, 1)) (hi : (j : Nat) = i) (hn : i + 1 < nL) (hl' : ins_ i (.inr (.inl x)) (lv.filter (fun q => !(q.1 == i) && (!(q.1 == i + 1) && !(q.1 + 1 == i && is_L q.2)))) = lv') (k : TJ X (pc + 1) lv' st h) : TJ X pc lv (.long x :: st) h := by
  obtain ⟨p, e, R, s, m, args, below, meth, c, g', nL', n0, s0, Q⟩ := X
  obtain ⟨rfl, rfl, hx, hb, hml, hown, hts, hgv, hr, hlk, h0, hw0, hn0⟩ := ok
  intro H locs ls hG hl h1 h2
  subst hl'
  exact lv_lstore_n hx hb d hi hl hn rfl (fun ls' hl2 => k H locs ls' hG (lv_insL (v := .inr (.inl x)) hl2) h1 h2)
theorem tj_lstore (ok : OkX X g cc nL own ret) {i : Nat} {x : Int64} {lv' : List (Nat × TV)} (d : decode cc pc = .ok (.lstore i, 2)) (hn : i + 1 < nL) (hl' : ins_ i (.inr (.inl x)) (lv.filter (fun q => !(q.1 == i) && (!(q.1 == i + 1) && !(q.1 + 1 == i && is_L q.2)))) = lv') (k : TJ X (pc + 2) lv' st h) : TJ X pc lv (.long x :: st) h := by
  obtain ⟨p, e, R, s, m, args, below, meth, c, g', nL', n0, s0, Q⟩ := X
  obtain ⟨rfl, rfl, hx, hb, hml, hown, hts, hgv, hr, hlk, h0, hw0, hn0⟩ := ok
  intro H locs ls hG hl h1 h2
  subst hl'
  exact lv_lstore hx hb d hl hn rfl (fun ls' hl2 => k H locs ls' hG (lv_insL (v := .inr (.inl x)) hl2) h1 h2)
theorem tj_astore_n (ok : OkX X g cc nL own ret) {j : Fin 4} {i r : Nat} {lv' : List (Nat × TV)} (d : decode cc pc = .ok (.astore_n j, 1)) (hi : (j : Nat) = i) (hn : i < nL) (hl' : ins_ i (.inr (.inr r)) (lv.filter (fun q => !(q.1 == i) && !(q.1 + 1 == i && is_L q.2))) = lv') (k : TJ X (pc + 1) lv' st h) : TJ X pc lv (rf_v g r :: st) h := by
  obtain ⟨p, e, R, s, m, args, below, meth, c, g', nL', n0, s0, Q⟩ := X
  obtain ⟨rfl, rfl, hx, hb, hml, hown, hts, hgv, hr, hlk, h0, hw0, hn0⟩ := ok
  intro H locs ls hG hl h1 h2
  subst hl'
  show W _ _ _ _ _ _ _ _ _ _ _ _ _ _ _ (F0 m pc ls (rf_v _ r :: st))
  have kk : ∀ ls', lv_has ls' _ ((i, rf_v g' r) :: (lvv g' lv).filter (fun q => !(q.1 == i) && !(q.1 + 1 == i && q.2.category == 2))) → W p g'.1 e R s m args below meth c H locs (hp_n h - n0) (hp_s h - s0) Q (F0 m (pc + 1) ls' st) := fun ls' hl2 => k H locs ls' hG (lv_ins (v := .inr (.inr r)) hl2) h1 h2
  unfold rf_v at kk ⊢
  by_cases hz : r = 0
  · rw [if_pos hz] at kk ⊢
    exact lv_astore_nN hx hb d hi hl hn rfl kk
  · rw [if_neg hz] at kk ⊢
    exact lv_astore_n hx hb d hi hl hn rfl kk
theorem tj_astore (ok : OkX X g cc nL own ret) {i r : Nat} {lv' : List (Nat × TV)} (d : decode cc pc = .ok (.astore i, 2)) (hn : i < nL) (hl' : ins_ i (.inr (.inr r)) (lv.filter (fun q => !(q.1 == i) && !(q.1 + 1 == i && is_L q.2))) = lv') (k : TJ X (pc + 2) lv' st h) : TJ X pc lv (rf_v g r :: st) h := by
  obtain ⟨p, e, R, s, m, args, below, meth, c, g', nL', n0, s0, Q⟩ := X
  obtain ⟨rfl, rfl, hx, hb, hml, hown, hts, hgv, hr, hlk, h0, hw0, hn0⟩ := ok
  intro H locs ls hG hl h1 h2
  subst hl'
  show W _ _ _ _ _ _ _ _ _ _ _ _ _ _ _ (F0 m pc ls (rf_v _ r :: st))
  have kk : ∀ ls', lv_has ls' _ ((i, rf_v g' r) :: (lvv g' lv).filter (fun q => !(q.1 == i) && !(q.1 + 1 == i && q.2.category == 2))) → W p g'.1 e R s m args below meth c H locs (hp_n h - n0) (hp_s h - s0) Q (F0 m (pc + 2) ls' st) := fun ls' hl2 => k H locs ls' hG (lv_ins (v := .inr (.inr r)) hl2) h1 h2
  unfold rf_v at kk ⊢
  by_cases hz : r = 0
  · rw [if_pos hz] at kk ⊢
    exact lv_astoreN hx hb d hl hn rfl kk
  · rw [if_neg hz] at kk ⊢
    exact lv_astore hx hb d hl hn rfl kk
theorem tj_iinc (ok : OkX X g cc nL own ret) {i : Nat} (q0 : Nat) {n : Int} {x v : Int32} {lv' : List (Nat × TV)} (d : decode cc pc = .ok (.iinc i n, 3)) (hq : lv[q0]? = some (i, .inl x)) (hv : x + Int32.ofInt n = v) (hn : i < nL) (hl' : ins_ i (.inl v) (lv.filter (fun q => !(q.1 == i) && !(q.1 + 1 == i && is_L q.2))) = lv') (k : TJ X (pc + 3) lv' st h) : TJ X pc lv st h := by
  obtain ⟨p, e, R, s, m, args, below, meth, c, g', nL', n0, s0, Q⟩ := X
  obtain ⟨rfl, rfl, hx, hb, hml, hown, hts, hgv, hr, hlk, h0, hw0, hn0⟩ := ok
  intro H locs ls hG hl h1 h2
  subst hl'
  exact lv_iinc hx hb d hl (lvv_at hq) hv hn rfl (fun ls' hl2 => k H locs ls' hG (lv_ins (v := .inl v) hl2) h1 h2)
theorem tj_sub {lv' : List (Nat × TV)} (ks : List Nat) (hl' : ks.filterMap (fun k => lv[k]?) = lv') (k : TJ X pc lv' st h) : TJ X pc lv st h := by
  obtain ⟨p, e, R, s, m, args, below, meth, c, g', nL', n0, s0, Q⟩ := X
  intro H locs ls hG hl h1 h2
  refine k H locs ls hG ⟨hl.1, hl.2.1, fun q hq => ?_⟩ h1 h2
  subst hl'
  obtain ⟨q0, hq0, rfl⟩ := List.mem_map.mp hq
  obtain ⟨k0, -, hk0⟩ := List.mem_filterMap.mp hq0
  exact hl.2.2 _ (List.mem_map.mpr ⟨q0, List.mem_of_getElem? hk0, rfl⟩)
theorem tj_dupi (ok : OkX X g cc nL own ret) {x : Int32} (d : decode cc pc = .ok (.dup, 1)) (k : TJ X (pc + 1) lv (.int x :: .int x :: st) h) : TJ X pc lv (.int x :: st) h := by
  obtain ⟨p, e, R, s, m, args, below, meth, c, g', nL', n0, s0, Q⟩ := X
  obtain ⟨rfl, rfl, hx, hb, hml, hown, hts, hgv, hr, hlk, h0, hw0, hn0⟩ := ok
  intro H locs ls hG hl h1 h2
  exact lv_dup hx hb d rfl (k H locs ls hG hl h1 h2)
theorem tj_popi (ok : OkX X g cc nL own ret) {x : Int32} (d : decode cc pc = .ok (.pop, 1)) (k : TJ X (pc + 1) lv (st) h) : TJ X pc lv (.int x :: st) h := by
  obtain ⟨p, e, R, s, m, args, below, meth, c, g', nL', n0, s0, Q⟩ := X
  obtain ⟨rfl, rfl, hx, hb, hml, hown, hts, hgv, hr, hlk, h0, hw0, hn0⟩ := ok
  intro H locs ls hG hl h1 h2
  exact lv_pop hx hb d rfl (k H locs ls hG hl h1 h2)
theorem tj_dup2l (ok : OkX X g cc nL own ret) {x : Int64} (d : decode cc pc = .ok (.dup2, 1)) (k : TJ X (pc + 1) lv (.long x :: .long x :: st) h) : TJ X pc lv (.long x :: st) h := by
  obtain ⟨p, e, R, s, m, args, below, meth, c, g', nL', n0, s0, Q⟩ := X
  obtain ⟨rfl, rfl, hx, hb, hml, hown, hts, hgv, hr, hlk, h0, hw0, hn0⟩ := ok
  intro H locs ls hG hl h1 h2
  exact lv_dup2_2 hx hb d rfl (k H locs ls hG hl h1 h2)
theorem tj_dupa (ok : OkX X g cc nL own ret) {r : Nat} (d : decode cc pc = .ok (.dup, 1)) (k : TJ X (pc + 1) lv (rf_v g r :: rf_v g r :: st) h) : TJ X pc lv (rf_v g r :: st) h := by
  obtain ⟨p, e, R, s, m, args, below, meth, c, g', nL', n0, s0, Q⟩ := X
  obtain ⟨rfl, rfl, hx, hb, hml, hown, hts, hgv, hr, hlk, h0, hw0, hn0⟩ := ok
  intro H locs ls hG hl h1 h2
  exact lv_dup hx hb d (rf_cat _ _) (k H locs ls hG hl h1 h2)
theorem tj_popa (ok : OkX X g cc nL own ret) {r : Nat} (d : decode cc pc = .ok (.pop, 1)) (k : TJ X (pc + 1) lv (st) h) : TJ X pc lv (rf_v g r :: st) h := by
  obtain ⟨p, e, R, s, m, args, below, meth, c, g', nL', n0, s0, Q⟩ := X
  obtain ⟨rfl, rfl, hx, hb, hml, hown, hts, hgv, hr, hlk, h0, hw0, hn0⟩ := ok
  intro H locs ls hG hl h1 h2
  exact lv_pop hx hb d (rf_cat _ _) (k H locs ls hG hl h1 h2)
theorem tj_dup2ai (ok : OkX X g cc nL own ret) {r : Nat} {x : Int32} (d : decode cc pc = .ok (.dup2, 1)) (k : TJ X (pc + 1) lv (.int x :: rf_v g r :: .int x :: rf_v g r :: st) h) : TJ X pc lv (.int x :: rf_v g r :: st) h := by
  obtain ⟨p, e, R, s, m, args, below, meth, c, g', nL', n0, s0, Q⟩ := X
  obtain ⟨rfl, rfl, hx, hb, hml, hown, hts, hgv, hr, hlk, h0, hw0, hn0⟩ := ok
  intro H locs ls hG hl h1 h2
  exact lv_dup2_11 hx hb d rfl (rf_cat _ _) (k H locs ls hG hl h1 h2)
theorem tj_if_eq (ok : OkX X g cc nL own ret) {x : Int32} {off : Int} {tgt : Nat} (d : decode cc pc = .ok (.ifCond .eq off, 3)) (ht : (pc : Int) + off = (tgt : Int)) (kt : x = 0 → TJ X tgt lv st h) (kf : ¬ x = 0 → TJ X (pc + 3) lv st h) : TJ X pc lv (.int x :: st) h := by
  obtain ⟨p, e, R, s, m, args, below, meth, c, g', nL', n0, s0, Q⟩ := X
  obtain ⟨rfl, rfl, hx, hb, hml, hown, hts, hgv, hr, hlk, h0, hw0, hn0⟩ := ok
  intro H locs ls hG hl h1 h2
  exact lv_if_eq hx hb d ht (fun z => kt z H locs ls hG hl h1 h2) (fun z => kf z H locs ls hG hl h1 h2)
theorem tj_icmp_eq (ok : OkX X g cc nL own ret) {x y : Int32} {off : Int} {tgt : Nat} (d : decode cc pc = .ok (.if_icmp .eq off, 3)) (ht : (pc : Int) + off = (tgt : Int)) (kt : x = y → TJ X tgt lv st h) (kf : ¬ x = y → TJ X (pc + 3) lv st h) : TJ X pc lv (.int y :: .int x :: st) h := by
  obtain ⟨p, e, R, s, m, args, below, meth, c, g', nL', n0, s0, Q⟩ := X
  obtain ⟨rfl, rfl, hx, hb, hml, hown, hts, hgv, hr, hlk, h0, hw0, hn0⟩ := ok
  intro H locs ls hG hl h1 h2
  exact lv_icmp_eq hx hb d ht (fun z => kt z H locs ls hG hl h1 h2) (fun z => kf z H locs ls hG hl h1 h2)
theorem tj_if_ne (ok : OkX X g cc nL own ret) {x : Int32} {off : Int} {tgt : Nat} (d : decode cc pc = .ok (.ifCond .ne off, 3)) (ht : (pc : Int) + off = (tgt : Int)) (kt : ¬ x = 0 → TJ X tgt lv st h) (kf : x = 0 → TJ X (pc + 3) lv st h) : TJ X pc lv (.int x :: st) h := by
  obtain ⟨p, e, R, s, m, args, below, meth, c, g', nL', n0, s0, Q⟩ := X
  obtain ⟨rfl, rfl, hx, hb, hml, hown, hts, hgv, hr, hlk, h0, hw0, hn0⟩ := ok
  intro H locs ls hG hl h1 h2
  exact lv_if_ne hx hb d ht (fun z => kt z H locs ls hG hl h1 h2) (fun z => kf z H locs ls hG hl h1 h2)
theorem tj_icmp_ne (ok : OkX X g cc nL own ret) {x y : Int32} {off : Int} {tgt : Nat} (d : decode cc pc = .ok (.if_icmp .ne off, 3)) (ht : (pc : Int) + off = (tgt : Int)) (kt : ¬ x = y → TJ X tgt lv st h) (kf : x = y → TJ X (pc + 3) lv st h) : TJ X pc lv (.int y :: .int x :: st) h := by
  obtain ⟨p, e, R, s, m, args, below, meth, c, g', nL', n0, s0, Q⟩ := X
  obtain ⟨rfl, rfl, hx, hb, hml, hown, hts, hgv, hr, hlk, h0, hw0, hn0⟩ := ok
  intro H locs ls hG hl h1 h2
  exact lv_icmp_ne hx hb d ht (fun z => kt z H locs ls hG hl h1 h2) (fun z => kf z H locs ls hG hl h1 h2)
theorem tj_if_lt (ok : OkX X g cc nL own ret) {x : Int32} {off : Int} {tgt : Nat} (d : decode cc pc = .ok (.ifCond .lt off, 3)) (ht : (pc : Int) + off = (tgt : Int)) (kt : x < 0 → TJ X tgt lv st h) (kf : ¬ x < 0 → TJ X (pc + 3) lv st h) : TJ X pc lv (.int x :: st) h := by
  obtain ⟨p, e, R, s, m, args, below, meth, c, g', nL', n0, s0, Q⟩ := X
  obtain ⟨rfl, rfl, hx, hb, hml, hown, hts, hgv, hr, hlk, h0, hw0, hn0⟩ := ok
  intro H locs ls hG hl h1 h2
  exact lv_if_lt hx hb d ht (fun z => kt z H locs ls hG hl h1 h2) (fun z => kf z H locs ls hG hl h1 h2)
theorem tj_icmp_lt (ok : OkX X g cc nL own ret) {x y : Int32} {off : Int} {tgt : Nat} (d : decode cc pc = .ok (.if_icmp .lt off, 3)) (ht : (pc : Int) + off = (tgt : Int)) (kt : x < y → TJ X tgt lv st h) (kf : ¬ x < y → TJ X (pc + 3) lv st h) : TJ X pc lv (.int y :: .int x :: st) h := by
  obtain ⟨p, e, R, s, m, args, below, meth, c, g', nL', n0, s0, Q⟩ := X
  obtain ⟨rfl, rfl, hx, hb, hml, hown, hts, hgv, hr, hlk, h0, hw0, hn0⟩ := ok
  intro H locs ls hG hl h1 h2
  exact lv_icmp_lt hx hb d ht (fun z => kt z H locs ls hG hl h1 h2) (fun z => kf z H locs ls hG hl h1 h2)
theorem tj_if_ge (ok : OkX X g cc nL own ret) {x : Int32} {off : Int} {tgt : Nat} (d : decode cc pc = .ok (.ifCond .ge off, 3)) (ht : (pc : Int) + off = (tgt : Int)) (kt : 0 ≤ x → TJ X tgt lv st h) (kf : ¬ 0 ≤ x → TJ X (pc + 3) lv st h) : TJ X pc lv (.int x :: st) h := by
  obtain ⟨p, e, R, s, m, args, below, meth, c, g', nL', n0, s0, Q⟩ := X
  obtain ⟨rfl, rfl, hx, hb, hml, hown, hts, hgv, hr, hlk, h0, hw0, hn0⟩ := ok
  intro H locs ls hG hl h1 h2
  exact lv_if_ge hx hb d ht (fun z => kt z H locs ls hG hl h1 h2) (fun z => kf z H locs ls hG hl h1 h2)
theorem tj_icmp_ge (ok : OkX X g cc nL own ret) {x y : Int32} {off : Int} {tgt : Nat} (d : decode cc pc = .ok (.if_icmp .ge off, 3)) (ht : (pc : Int) + off = (tgt : Int)) (kt : y ≤ x → TJ X tgt lv st h) (kf : ¬ y ≤ x → TJ X (pc + 3) lv st h) : TJ X pc lv (.int y :: .int x :: st) h := by
  obtain ⟨p, e, R, s, m, args, below, meth, c, g', nL', n0, s0, Q⟩ := X
  obtain ⟨rfl, rfl, hx, hb, hml, hown, hts, hgv, hr, hlk, h0, hw0, hn0⟩ := ok
  intro H locs ls hG hl h1 h2
  exact lv_icmp_ge hx hb d ht (fun z => kt z H locs ls hG hl h1 h2) (fun z => kf z H locs ls hG hl h1 h2)
theorem tj_if_gt (ok : OkX X g cc nL own ret) {x : Int32} {off : Int} {tgt : Nat} (d : decode cc pc = .ok (.ifCond .gt off, 3)) (ht : (pc : Int) + off = (tgt : Int)) (kt : 0 < x → TJ X tgt lv st h) (kf : ¬ 0 < x → TJ X (pc + 3) lv st h) : TJ X pc lv (.int x :: st) h := by
  obtain ⟨p, e, R, s, m, args, below, meth, c, g', nL', n0, s0, Q⟩ := X
  obtain ⟨rfl, rfl, hx, hb, hml, hown, hts, hgv, hr, hlk, h0, hw0, hn0⟩ := ok
  intro H locs ls hG hl h1 h2
  exact lv_if_gt hx hb d ht (fun z => kt z H locs ls hG hl h1 h2) (fun z => kf z H locs ls hG hl h1 h2)
theorem tj_icmp_gt (ok : OkX X g cc nL own ret) {x y : Int32} {off : Int} {tgt : Nat} (d : decode cc pc = .ok (.if_icmp .gt off, 3)) (ht : (pc : Int) + off = (tgt : Int)) (kt : y < x → TJ X tgt lv st h) (kf : ¬ y < x → TJ X (pc + 3) lv st h) : TJ X pc lv (.int y :: .int x :: st) h := by
  obtain ⟨p, e, R, s, m, args, below, meth, c, g', nL', n0, s0, Q⟩ := X
  obtain ⟨rfl, rfl, hx, hb, hml, hown, hts, hgv, hr, hlk, h0, hw0, hn0⟩ := ok
  intro H locs ls hG hl h1 h2
  exact lv_icmp_gt hx hb d ht (fun z => kt z H locs ls hG hl h1 h2) (fun z => kf z H locs ls hG hl h1 h2)
theorem tj_if_le (ok : OkX X g cc nL own ret) {x : Int32} {off : Int} {tgt : Nat} (d : decode cc pc = .ok (.ifCond .le off, 3)) (ht : (pc : Int) + off = (tgt : Int)) (kt : x ≤ 0 → TJ X tgt lv st h) (kf : ¬ x ≤ 0 → TJ X (pc + 3) lv st h) : TJ X pc lv (.int x :: st) h := by
  obtain ⟨p, e, R, s, m, args, below, meth, c, g', nL', n0, s0, Q⟩ := X
  obtain ⟨rfl, rfl, hx, hb, hml, hown, hts, hgv, hr, hlk, h0, hw0, hn0⟩ := ok
  intro H locs ls hG hl h1 h2
  exact lv_if_le hx hb d ht (fun z => kt z H locs ls hG hl h1 h2) (fun z => kf z H locs ls hG hl h1 h2)
theorem tj_icmp_le (ok : OkX X g cc nL own ret) {x y : Int32} {off : Int} {tgt : Nat} (d : decode cc pc = .ok (.if_icmp .le off, 3)) (ht : (pc : Int) + off = (tgt : Int)) (kt : x ≤ y → TJ X tgt lv st h) (kf : ¬ x ≤ y → TJ X (pc + 3) lv st h) : TJ X pc lv (.int y :: .int x :: st) h := by
  obtain ⟨p, e, R, s, m, args, below, meth, c, g', nL', n0, s0, Q⟩ := X
  obtain ⟨rfl, rfl, hx, hb, hml, hown, hts, hgv, hr, hlk, h0, hw0, hn0⟩ := ok
  intro H locs ls hG hl h1 h2
  exact lv_icmp_le hx hb d ht (fun z => kt z H locs ls hG hl h1 h2) (fun z => kf z H locs ls hG hl h1 h2)
theorem tj_goto (ok : OkX X g cc nL own ret) {off : Int} {tgt : Nat} (d : decode cc pc = .ok (.goto off, 3)) (ht : (pc : Int) + off = (tgt : Int)) (k : TJ X tgt lv st h) : TJ X pc lv st h := by
  obtain ⟨p, e, R, s, m, args, below, meth, c, g', nL', n0, s0, Q⟩ := X
  obtain ⟨rfl, rfl, hx, hb, hml, hown, hts, hgv, hr, hlk, h0, hw0, hn0⟩ := ok
  intro H locs ls hG hl h1 h2
  exact lv_goto hx hb d ht (k H locs ls hG hl h1 h2)
theorem tj_ifnull (ok : OkX X g cc nL own ret) {r : Nat} {off : Int} {tgt : Nat} (d : decode cc pc = .ok (.ifnull off, 3)) (ht : (pc : Int) + off = (tgt : Int)) (kt : r = 0 → TJ X tgt lv st h) (kf : ¬ r = 0 → TJ X (pc + 3) lv st h) : TJ X pc lv (rf_v g r :: st) h := by
  obtain ⟨p, e, R, s, m, args, below, meth, c, g', nL', n0, s0, Q⟩ := X
  obtain ⟨rfl, rfl, hx, hb, hml, hown, hts, hgv, hr, hlk, h0, hw0, hn0⟩ := ok
  intro H locs ls hG hl h1 h2
  show W _ _ _ _ _ _ _ _ _ _ _ _ _ _ _ (F0 m pc ls (rf_v _ r :: st))
  unfold rf_v
  by_cases hz : r = 0
  · rw [if_pos hz]
    exact lv_ifnullN hx hb d ht (kt hz H locs ls hG hl h1 h2)
  · rw [if_neg hz]
    exact lv_ifnull hx hb d (kf hz H locs ls hG hl h1 h2)
theorem tj_ifnonnull (ok : OkX X g cc nL own ret) {r : Nat} {off : Int} {tgt : Nat} (d : decode cc pc = .ok (.ifnonnull off, 3)) (ht : (pc : Int) + off = (tgt : Int)) (kt : ¬ r = 0 → TJ X tgt lv st h) (kf : r = 0 → TJ X (pc + 3) lv st h) : TJ X pc lv (rf_v g r :: st) h := by
  obtain ⟨p, e, R, s, m, args, below, meth, c, g', nL', n0, s0, Q⟩ := X
  obtain ⟨rfl, rfl, hx, hb, hml, hown, hts, hgv, hr, hlk, h0, hw0, hn0⟩ := ok
  intro H locs ls hG hl h1 h2
  show W _ _ _ _ _ _ _ _ _ _ _ _ _ _ _ (F0 m pc ls (rf_v _ r :: st))
  unfold rf_v
  by_cases hz : r = 0
  · rw [if_pos hz]
    exact lv_ifnonnullN hx hb d (kf hz H locs ls hG hl h1 h2)
  · rw [if_neg hz]
    exact lv_ifnonnull hx hb d ht (kt hz H locs ls hG hl h1 h2)
theorem tj_idiv (ok : OkX X g cc nL own ret) {x y v : Int32} (d : decode cc pc = .ok (.idiv, 1)) (e : dv_i x y = some v) (k : TJ X (pc + 1) lv (.int v :: st) h) : TJ X pc lv (.int y :: .int x :: st) h := by
  unfold dv_i at e
  split at e
  · cases e
  cases e
  obtain ⟨p, e, R, s, m, args, below, meth, c, g', nL', n0, s0, Q⟩ := X
  obtain ⟨rfl, rfl, hx, hb, hml, hown, hts, hgv, hr, hlk, h0, hw0, hn0⟩ := ok
  intro H locs ls hG hl h1 h2
  exact lv_idiv hx hb d (by assumption) (k H locs ls hG hl h1 h2)
theorem tj_irem (ok : OkX X g cc nL own ret) {x y v : Int32} (d : decode cc pc = .ok (.irem, 1)) (e : rm_i x y = some v) (k : TJ X (pc + 1) lv (.int v :: st) h) : TJ X pc lv (.int y :: .int x :: st) h := by
  unfold rm_i at e
  split at e
  · cases e
  cases e
  obtain ⟨p, e, R, s, m, args, below, meth, c, g', nL', n0, s0, Q⟩ := X
  obtain ⟨rfl, rfl, hx, hb, hml, hown, hts, hgv, hr, hlk, h0, hw0, hn0⟩ := ok
  intro H locs ls hG hl h1 h2
  exact lv_irem hx hb d (by assumption) (k H locs ls hG hl h1 h2)
theorem tj_lookup (ok : OkX X g cc nL own ret) {dflt : Int} {ps : Array (Int × Int)} {len : Nat} {x : Int32} {off : Int} {tgt : Nat} (d : decode cc pc = .ok (.lookupswitch dflt ps, len)) (hp : (ps.toList.zip (ps.toList.drop 1)).all (fun (a, next) => a.1 < next.1) = true) (ho : Op.lookupswitch.offset ps.toList dflt x.toInt = off) (ht : (pc : Int) + off = (tgt : Int)) (k : TJ X tgt lv st h) : TJ X pc lv (.int x :: st) h := by
  obtain ⟨p, e, R, s, m, args, below, meth, c, g', nL', n0, s0, Q⟩ := X
  obtain ⟨rfl, rfl, hx, hb, hml, hown, hts, hgv, hr, hlk, h0, hw0, hn0⟩ := ok
  intro H locs ls hG hl h1 h2
  exact lv_lookup hx hb d hp ho ht (k H locs ls hG hl h1 h2)
theorem tj_tabOut (ok : OkX X g cc nL own ret) {dflt lo hi : Int} {offs : Array Int} {len : Nat} {x : Int32} {tgt : Nat} (d : decode cc pc = .ok (.tableswitch dflt lo hi offs, len)) (hh : x.toInt < lo ∨ hi < x.toInt) (ht : (pc : Int) + dflt = (tgt : Int)) (k : TJ X tgt lv st h) : TJ X pc lv (.int x :: st) h := by
  obtain ⟨p, e, R, s, m, args, below, meth, c, g', nL', n0, s0, Q⟩ := X
  obtain ⟨rfl, rfl, hx, hb, hml, hown, hts, hgv, hr, hlk, h0, hw0, hn0⟩ := ok
  intro H locs ls hG hl h1 h2
  exact lv_tableOut hx hb d hh ht (k H locs ls hG hl h1 h2)
theorem tj_tabIn (ok : OkX X g cc nL own ret) {dflt lo hi : Int} {offs : Array Int} {len : Nat} {x : Int32} {off : Int} {tgt : Nat} (d : decode cc pc = .ok (.tableswitch dflt lo hi offs, len)) (h3 : ¬ x.toInt < lo) (h4 : ¬ hi < x.toInt) (ho : offs[(x.toInt - lo).toNat]? = some off) (ht : (pc : Int) + off = (tgt : Int)) (k : TJ X tgt lv st h) : TJ X pc lv (.int x :: st) h := by
  obtain ⟨p, e, R, s, m, args, below, meth, c, g', nL', n0, s0, Q⟩ := X
  obtain ⟨rfl, rfl, hx, hb, hml, hown, hts, hgv, hr, hlk, h0, hw0, hn0⟩ := ok
  intro H locs ls hG hl h1 h2
  exact lv_tableIn hx hb d h3 h4 ho ht (k H locs ls hG hl h1 h2)
theorem tj_ireturn (ok : OkX X g cc nL own (some .int)) {v : Int32} (en : EnX X h (some (.inl v))) (d : decode cc pc = .ok (.ireturn, 1)) : TJ X pc lv [.int v] h := by
  obtain ⟨p, e, R, s, m, args, below, meth, c, g', nL', n0, s0, Q⟩ := X
  obtain ⟨rfl, rfl, hx, hb, hml, hown, hts, hgv, hr, hlk, h0, hw0, hn0⟩ := ok
  intro H locs ls hG hl h1 h2
  obtain ⟨rfl, -, -⟩ := en
  exact W.iret hx hb hr (fun t ht _ => ⟨rfl, by rw [ht]; exact hG.nil⟩) (fun q hq => hG.2.2.2.2.2 q hq) d hlk
theorem tj_lreturn (ok : OkX X g cc nL own (some .long)) {v : Int64} (en : EnX X h (some (.inr (.inl v)))) (d : decode cc pc = .ok (.lreturn, 1)) : TJ X pc lv [.long v] h := by
  obtain ⟨p, e, R, s, m, args, below, meth, c, g', nL', n0, s0, Q⟩ := X
  obtain ⟨rfl, rfl, hx, hb, hml, hown, hts, hgv, hr, hlk, h0, hw0, hn0⟩ := ok
  intro H locs ls hG hl h1 h2
  obtain ⟨rfl, -, -⟩ := en
  exact W.lret hx hb hr (fun t ht _ => ⟨rfl, by rw [ht]; exact hG.nil⟩) (fun q hq => hG.2.2.2.2.2 q hq) d hlk
theorem tj_zreturn (ok : OkX X g cc nL own (some .boolean)) {v v' : Int32} {hE : AH} (e : ok_z v h = some (v', hE)) (en : EnX X hE (some (.inl v'))) (d : decode cc pc = .ok (.ireturn, 1)) : TJ X pc lv [.int v] h := by
  obtain ⟨hz, e⟩ := of_if e
  cases e
  obtain ⟨p, e, R, s, m, args, below, meth, c, g', nL', n0, s0, Q⟩ := X
  obtain ⟨rfl, rfl, hx, hb, hml, hown, hts, hgv, hr, hlk, h0, hw0, hn0⟩ := ok
  intro H locs ls hG hl h1 h2
  obtain ⟨rfl, -, -⟩ := en
  exact W.zret hx hb hr (by rcases hz with rfl | rfl <;> rfl) (fun t ht _ => ⟨rfl, by rw [ht]; exact hG.nil⟩) (fun q hq => hG.2.2.2.2.2 q hq) d hlk
theorem tj_areturn {rt : FieldType} (ok : OkX X g cc nL own (some rt)) (hrt : (∃ n, rt = .object n) ∨ ∃ t, rt = .array t) {r : Nat} (en : EnX X h (some (.inr (.inr r)))) (d : decode cc pc = .ok (.areturn, 1)) : TJ X pc lv [rf_v g r] h := by
  obtain ⟨p, e, R, s, m, args, below, meth, c, g', nL', n0, s0, Q⟩ := X
  obtain ⟨rfl, rfl, hx, hb, hml, hown, hts, hgv, hr, hlk, h0, hw0, hn0⟩ := ok
  intro H locs ls hG hl h1 h2
  obtain ⟨rfl, -, -⟩ := en
  exact W.aret hx hb hr hrt (by unfold rf_v; split; exact Or.inl rfl; exact Or.inr ⟨_, rfl⟩) (fun t ht _ => ⟨rfl, by rw [ht]; exact hG.nil⟩) (fun q hq => hG.2.2.2.2.2 q hq) d hlk
theorem tj_return (ok : OkX X g cc nL own none) (en : EnX X h none) (d : decode cc pc = .ok (.return_, 1)) : TJ X pc lv [] h := by
  obtain ⟨p, e, R, s, m, args, below, meth, c, g', nL', n0, s0, Q⟩ := X
  obtain ⟨rfl, rfl, hx, hb, hml, hown, hts, hgv, hr, hlk, h0, hw0, hn0⟩ := ok
  intro H locs ls hG hl h1 h2
  obtain ⟨rfl, -, -⟩ := en
  exact W.vret hx hb hr (fun t ht _ => ⟨rfl, by rw [ht]; exact hG.nil⟩) (fun q hq => hG.2.2.2.2.2 q hq) d hlk
end TJ1
