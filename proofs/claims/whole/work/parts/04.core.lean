/-! ===== the abstract heap: n (next cell; cells are 64 .. n-1), slots made, kind of a cell, its length, ints, longs, references (0 null, 1 .. 63 constants: 1 .. 17 texts, 33 .. 49 their rows of bytes) ===== -/
abbrev AH : Type := Nat × Nat × (Nat → Nat) × (Nat → Nat) × (Nat → Nat → Int32) × (Nat → Nat → Int64) × (Nat → Nat → Nat)
def hp_n (h : AH) : Nat := h.1
def hp_s (h : AH) : Nat := h.2.1
def hp_k (h : AH) : Nat → Nat := h.2.2.1
def hp_l (h : AH) : Nat → Nat := h.2.2.2.1
def hp_i (h : AH) : Nat → Nat → Int32 := h.2.2.2.2.1
def hp_j (h : AH) : Nat → Nat → Int64 := h.2.2.2.2.2.1
def hp_r (h : AH) : Nat → Nat → Nat := h.2.2.2.2.2.2
def up_1 {α : Type} (f : Nat → α) (r : Nat) (v : α) : Nat → α := fun a => if a = r then v else f a
def up_2 {α : Type} (f : Nat → Nat → α) (r k : Nat) (v : α) : Nat → Nat → α := fun a j => if a = r ∧ j = k then v else f a j
def st_i (h : AH) (r k : Nat) (v : Int32) : AH := (hp_n h, hp_s h, hp_k h, hp_l h, up_2 (hp_i h) r k v, hp_j h, hp_r h)
def st_j (h : AH) (r k : Nat) (v : Int64) : AH := (hp_n h, hp_s h, hp_k h, hp_l h, hp_i h, up_2 (hp_j h) r k v, hp_r h)
def st_r (h : AH) (r k : Nat) (v : Nat) : AH := (hp_n h, hp_s h, hp_k h, hp_l h, hp_i h, hp_j h, up_2 (hp_r h) r k v)
/-- a new cell of kind c, len slots -/
def st_n (h : AH) (c len : Nat) : AH := (hp_n h + 1, hp_s h + len, up_1 (hp_k h) (hp_n h) c, up_1 (hp_l h) (hp_n h) len, up_1 (hp_i h) (hp_n h) (fun _ => 0), up_1 (hp_j h) (hp_n h) (fun _ => 0), up_1 (hp_r h) (hp_n h) (fun _ => 0))
abbrev ok_o (h : AH) (r c : Nat) : Prop := 64 ≤ r ∧ r < hp_n h ∧ hp_k h r = c
abbrev ok_a (h : AH) (r c : Nat) (i : Int32) : Prop := (64 ≤ r ∧ r < hp_n h ∧ hp_k h r = c) ∧ ¬ i < 0 ∧ i.toNatClampNeg < hp_l h r
def g_i (h : AH) (r c k : Nat) : Option Int32 := if ok_o h r c then some (hp_i h r k) else none
def g_j (h : AH) (r c k : Nat) : Option Int64 := if ok_o h r c then some (hp_j h r k) else none
def g_r (h : AH) (r c k : Nat) : Option Nat := if ok_o h r c then some (hp_r h r k) else none
def p_i (h : AH) (r c k : Nat) (v : Int32) : Option AH := if ok_o h r c then some (st_i h r k v) else none
def p_z (h : AH) (r c k : Nat) (v : Int32) : Option AH := if ok_o h r c ∧ (v = 0 ∨ v = 1) then some (st_i h r k v) else none
def p_j (h : AH) (r c k : Nat) (v : Int64) : Option AH := if ok_o h r c then some (st_j h r k v) else none
def p_r (h : AH) (r c k : Nat) (v : Nat) : Option AH := if ok_o h r c then some (st_r h r k v) else none
def l_i (h : AH) (r : Nat) (i : Int32) : Option Int32 := if ok_a h r 100 i then some (hp_i h r i.toNatClampNeg) else none
def l_j (h : AH) (r : Nat) (i : Int32) : Option Int64 := if ok_a h r 101 i then some (hp_j h r i.toNatClampNeg) else none
def l_r (h : AH) (r : Nat) (i : Int32) : Option Nat := if ok_a h r 102 i then some (hp_r h r i.toNatClampNeg) else none
def s_i (h : AH) (r : Nat) (i : Int32) (v : Int32) : Option AH := if ok_a h r 100 i then some (st_i h r i.toNatClampNeg v) else none
def s_j (h : AH) (r : Nat) (i : Int32) (v : Int64) : Option AH := if ok_a h r 101 i then some (st_j h r i.toNatClampNeg v) else none
def s_r (h : AH) (r : Nat) (i : Int32) (v : Nat) : Option AH := if ok_a h r 102 i ∧ (v = 0 ∨ ok_o h v 5) then some (st_r h r i.toNatClampNeg v) else none
def al_n (h : AH) (r : Nat) : Option Int32 := if 64 ≤ r ∧ r < hp_n h ∧ 100 ≤ hp_k h r ∧ hp_k h r ≤ 102 then some (Int32.ofNat (hp_l h r)) else none
def n_a (h : AH) (c : Nat) (i : Int32) : Option AH := if ¬ i < 0 ∧ i.toNatClampNeg ≤ 67108864 then some (st_n h c i.toNatClampNeg) else none
/-- a boolean's end -/
def ok_z (v : Int32) (h : AH) : Option (Int32 × AH) := if v = 0 ∨ v = 1 then some (v, h) else none
def dv_i (x y : Int32) : Option Int32 := if y = 0 then none else some (x / y)
def rm_i (x y : Int32) : Option Int32 := if y = 0 then none else some (x - x / y * y)
theorem bnd {α β : Type} {o : Option α} {f : α → Option β} {b : β} (h : Option.bind o f = some b) : ∃ a, o = some a ∧ f a = some b := by
  cases o with
  | none => cases h
  | some a => exact ⟨a, rfl, h⟩
theorem of_if {α : Type} {c : Prop} [Decidable c] {x y : α} (h : (if c then some x else none) = some y) : c ∧ x = y := by
  by_cases hc : c
  · rw [if_pos hc] at h; exact ⟨hc, Option.some.inj h⟩
  · rw [if_neg hc] at h; cases h
def ok_h (r : Nat) : Option Unit := if 64 ≤ r then some () else none
def ok_v (h : AH) (r c : Nat) : Option Unit := if ok_o h r c then some () else none
def mn_i (x y : Int32) : Int32 := if y < x then y else x
def mx_i (x y : Int32) : Int32 := if x < y then y else x
def fu_ : Nat := 200000
def dp_ : Nat := 24
theorem nn_n {h h' : AH} {c : Nat} {i : Int32} (e : n_a h c i = some h') : hp_n h ≤ hp_n h' ∧ hp_s h ≤ hp_s h' := by
  obtain ⟨-, rfl⟩ := of_if e
  exact ⟨Nat.le_succ _, Nat.le_add_right _ _⟩
theorem nn_o {h : AH} {c n : Nat} : hp_n h ≤ hp_n (st_n h c n) ∧ hp_s h ≤ hp_s (st_n h c n) := ⟨Nat.le_succ _, Nat.le_add_right _ _⟩
theorem nn_pi {h h' : AH} {r c k : Nat} {v : Int32} (e : p_i h r c k v = some h') : hp_n h ≤ hp_n h' ∧ hp_s h ≤ hp_s h' := by
  obtain ⟨-, rfl⟩ := of_if e
  exact ⟨Nat.le_refl _, Nat.le_refl _⟩
theorem nn_pz {h h' : AH} {r c k : Nat} {v : Int32} (e : p_z h r c k v = some h') : hp_n h ≤ hp_n h' ∧ hp_s h ≤ hp_s h' := by
  obtain ⟨-, rfl⟩ := of_if e
  exact ⟨Nat.le_refl _, Nat.le_refl _⟩
theorem nn_pj {h h' : AH} {r c k : Nat} {v : Int64} (e : p_j h r c k v = some h') : hp_n h ≤ hp_n h' ∧ hp_s h ≤ hp_s h' := by
  obtain ⟨-, rfl⟩ := of_if e
  exact ⟨Nat.le_refl _, Nat.le_refl _⟩
theorem nn_pr {h h' : AH} {r c k : Nat} {v : Nat} (e : p_r h r c k v = some h') : hp_n h ≤ hp_n h' ∧ hp_s h ≤ hp_s h' := by
  obtain ⟨-, rfl⟩ := of_if e
  exact ⟨Nat.le_refl _, Nat.le_refl _⟩
theorem nn_si {h h' : AH} {r : Nat} {i v : Int32} (e : s_i h r i v = some h') : hp_n h ≤ hp_n h' ∧ hp_s h ≤ hp_s h' := by
  obtain ⟨-, rfl⟩ := of_if e
  exact ⟨Nat.le_refl _, Nat.le_refl _⟩
theorem nn_sj {h h' : AH} {r : Nat} {i : Int32} {v : Int64} (e : s_j h r i v = some h') : hp_n h ≤ hp_n h' ∧ hp_s h ≤ hp_s h' := by
  obtain ⟨-, rfl⟩ := of_if e
  exact ⟨Nat.le_refl _, Nat.le_refl _⟩
theorem nn_sr {h h' : AH} {r : Nat} {i : Int32} {v : Nat} (e : s_r h r i v = some h') : hp_n h ≤ hp_n h' ∧ hp_s h ≤ hp_s h' := by
  obtain ⟨-, rfl⟩ := of_if e
  exact ⟨Nat.le_refl _, Nat.le_refl _⟩
/-- System.arraycopy of ints -/
def cp_r (h : AH) (a : Nat) (sp : Nat) (b : Nat) (dp n : Nat) : AH := (hp_n h, hp_s h, hp_k h, hp_l h, up_1 (hp_i h) b (va_cpy (hp_i h a) (hp_i h b) sp dp n), hp_j h, hp_r h)
def cp_a (h : AH) (a : Nat) (sp : Int32) (b : Nat) (dp n : Int32) : Option AH :=
  if (ok_o h a 100 ∧ ok_o h b 100) ∧ (¬ sp < 0 ∧ ¬ dp < 0 ∧ ¬ n < 0) ∧ sp.toNatClampNeg + n.toNatClampNeg ≤ hp_l h a ∧ dp.toNatClampNeg + n.toNatClampNeg ≤ hp_l h b then some (cp_r h a sp.toNatClampNeg b dp.toNatClampNeg n.toNatClampNeg) else none
theorem nn_cp {h h' : AH} {a b : Nat} {sp dp n : Int32} (e : cp_a h a sp b dp n = some h') : hp_n h ≤ hp_n h' ∧ hp_s h ≤ hp_s h' := by
  obtain ⟨-, rfl⟩ := of_if e
  exact ⟨Nat.le_refl _, Nat.le_refl _⟩
/-- clone of a row of ints -/
def cl_r (h : AH) (r : Nat) : AH := (hp_n h + 1, hp_s h + hp_l h r, up_1 (hp_k h) (hp_n h) 100, up_1 (hp_l h) (hp_n h) (hp_l h r), up_1 (hp_i h) (hp_n h) (hp_i h r), up_1 (hp_j h) (hp_n h) (fun _ => 0), up_1 (hp_r h) (hp_n h) (fun _ => 0))
def c_l (h : AH) (r : Nat) : Option AH := if ok_o h r 100 then some (cl_r h r) else none
theorem nn_cl {h h' : AH} {r : Nat} (e : c_l h r = some h') : hp_n h ≤ hp_n h' ∧ hp_s h ≤ hp_s h' := by
  obtain ⟨-, rfl⟩ := of_if e
  exact ⟨Nat.le_succ _, Nat.le_add_right _ _⟩
/-! ===== the words that every state of the run keeps ===== -/
def lw_gd : List Cond := lw_tbl.filter goodWord
theorem gd_in : GoodIn lw_gd lw_gd := fun w hw => ⟨hw, good_of_word (List.mem_filter.mp hw).2⟩
theorem gd_m {w : Cond} {i : Nat} (h : lw_tbl[i]? = some w) (hg : goodWord w = true) : w ∈ lw_gd := List.mem_filter.mpr ⟨List.mem_of_getElem? h, hg⟩
theorem gd_c {y : MethodName} {cc : ByteArray} {nL : Nat} {ret : Option FieldType} (h : Cond.code y cc nL ret ∈ lw_gd) : GoodIn lw_gd (Cond.code y cc nL ret :: lw_gd) := by
  intro w hw
  rcases List.mem_cons.mp hw with rfl | hw
  · exact gd_in _ h
  · exact gd_in w hw
def ns_L : List (String × Nat × MethodName × String) := [("LitmusHouse", 24, ⟨"LitmusHouse$Reader", "<init>", "()V"⟩, "LitmusHouse"), ("LitmusHouse$Reader", 20, ⟨"LitmusHouse$Scanner", "<init>", "()V"⟩, "LitmusHouse"), ("LitmusHouse", 31, ⟨"LitmusHouse$Printer", "<init>", "()V"⟩, "LitmusHouse"), ("LitmusHouse", 38, ⟨"LitmusHouse$Search", "<init>", "()V"⟩, "LitmusHouse"), ("LitmusHouse$Search", 11, ⟨"LitmusHouse$Machine", "<init>", "()V"⟩, "LitmusHouse"), ("LitmusHouse$Machine", 37, ⟨"LitmusHouse$Code", "<init>", "()V"⟩, "LitmusHouse"), ("LitmusHouse$Search", 20, ⟨"LitmusHouse$States", "<init>", "()V"⟩, "LitmusHouse"), ("LitmusHouse$Search", 27, ⟨"LitmusHouse$Outcomes", "<init>", "()V"⟩, "LitmusHouse"), ("LitmusHouse", 45, ⟨"LitmusHouse$Likeness", "<init>", "()V"⟩, "LitmusHouse"), ("LitmusHouse$Reader", 89, ⟨"LitmusHouse$Code", "<init>", "()V"⟩, "LitmusHouse")]
/-! ===== the classes' table; exceptions are kinds 12, 13 (no field of theirs is looked at) ===== -/
def R_xi : String := "java/lang/IndexOutOfBoundsException"
def R_xn : String := "java/util/NoSuchElementException"
def T_xx : u_T := fun _ => ("", "", "", false)
def am_cl : List vw_C := [(RX0, TX0, 18), (RX1, TX1, 2), (RX2, TX2, 9), (RX3, TX3, 2), (RX4, TX4, 3), (RX5, TX5, 10), (RX6, TX6, 11), (RX7, TX7, 9), (RX8, TX8, 13), (RX9, TX9, 6), (RX10, TX10, 10), (RX11, TX11, 47), (R_xi, T_xx, 0), (R_xn, T_xx, 0)]
def cl_N (c : Nat) : Nat := match c with
  | 0 => 18 | 1 => 2 | 2 => 9 | 3 => 2 | 4 => 3 | 5 => 10 | 6 => 11 | 7 => 9 | 8 => 13 | 9 => 6 | 10 => 10 | 11 => 47 | _ => 0
def cl_T (c : Nat) : Nat → FieldType := match c with
  | 0 => tyX0 | 1 => tyX1 | 2 => tyX2 | 3 => tyX3 | 4 => tyX4 | 5 => tyX5 | 6 => tyX6 | 7 => tyX7 | 8 => tyX8 | 9 => tyX9 | 10 => tyX10 | 11 => tyX11 | _ => fun _ => .int
/-- what a row needs to know of a class: its place in the table, its words, its types, its names -/
def Fc (ci : Nat) (C : String) (T : u_T) (N : Nat) (ty : Nat → FieldType) : Prop := am_cl[ci]? = some (C, T, N) ∧ (∀ w ∈ u_ws C T N, w ∈ lw_gd) ∧ (∀ k, k < N → parseFieldDescriptor (T k).2.2.1 = some (ty k)) ∧ (∀ a, a < N → ∀ b, b < N → a ≠ b → (T a).2.1 ≠ (T b).2.1) ∧ cl_N ci = N ∧ cl_T ci = ty ∧ ci < 100
/-! ===== what is the same in the whole run: the launch, the heap at the law's start, classes and slots, array classes, the String constants' cells and their rows of bytes ===== -/
abbrev GT : Type := Launch × Heap × va_G × (ClassId × ClassId × ClassId) × (Nat → Nat) × (Nat → Nat)
def g_B (g : GT) : Nat := g.2.1.size
def ad_r (g : GT) (r : Nat) : Nat := if r < 64 then (if r < 33 then g.2.2.2.2.1 r else g.2.2.2.2.2 (r - 33)) else g_B g + (r - 64)
def rf_v (g : GT) (r : Nat) : Value := if r = 0 then .null else .ref (ad_r g r)
def op_r (g : GT) (r : Nat) : Option Nat := if r = 0 then none else some (ad_r g r)
theorem rf_op (g : GT) (r : Nat) : va_rf (op_r g r) = rf_v g r := by
  unfold op_r rf_v
  split <;> rfl
def sl_v (g : GT) (ty : FieldType) (h : AH) (r k : Nat) : Value := match ty with
  | .long => .long (hp_j h r k)
  | .object _ => rf_v g (hp_r h r k)
  | .array _ => rf_v g (hp_r h r k)
  | _ => .int (hp_i h r k)
def fl_s (g : GT) (h : AH) (r : Nat) : List Value := (List.range (cl_N (hp_k h r))).map (fun k => sl_v g (cl_T (hp_k h r) k) h r k)
def w_E (g : GT) (h : AH) (r : Nat) : va_E :=
  if hp_k h r = 100 then .inl (g.2.2.2.1.1, hp_l h r, .inl (hp_i h r))
  else if hp_k h r = 101 then .inl (g.2.2.2.1.2.1, hp_l h r, .inr (.inl (hp_j h r)))
  else if hp_k h r = 102 then .inl (g.2.2.2.1.2.2, hp_l h r, .inr (.inr (.inr (.inr (fun j => op_r g (hp_r h r j))))))
  else .inr (hp_k h r, fl_s g h r)
def G_A (g : GT) : Nat → Prop := fun q => g_B g ≤ q
def GW (g : GT) (h : AH) (H : Heap) (locs : List Loc) : Prop :=
  H.size + 64 = g_B g + hp_n h ∧ 64 ≤ hp_n h ∧ (∀ r, 64 ≤ r → r < hp_n h → va_at g.2.2.1 am_cl (ad_r g r, w_E g h r) H) ∧ va_S (G_A g) g.2.1 H locs
def ty_s (g : GT) : List (ClassId × FieldType) := [(g.2.2.2.1.1, .int), (g.2.2.2.1.2.1, .long), (g.2.2.2.1.2.2, .object RX5)]
/-! the String constants: 17 texts; 24 places of the pools -/
def js_t : List String := ["no such place", "plain", "volatile", "final", "thread", "lock", "unlock", "done", "else", "no program there", "{", "if", "==", "} else {", "}", "=", "+"]
def js_b : List (List Int32) := [[110, 111, 32, 115, 117, 99, 104, 32, 112, 108, 97, 99, 101], [112, 108, 97, 105, 110], [118, 111, 108, 97, 116, 105, 108, 101], [102, 105, 110, 97, 108], [116, 104, 114, 101, 97, 100], [108, 111, 99, 107], [117, 110, 108, 111, 99, 107], [100, 111, 110, 101], [101, 108, 115, 101], [110, 111, 32, 112, 114, 111, 103, 114, 97, 109, 32, 116, 104, 101, 114, 101], [123], [105, 102], [61, 61], [125, 32, 101, 108, 115, 101, 32, 123], [125], [61], [43]]
def js_l : List Nat := [13, 5, 8, 5, 6, 4, 6, 4, 4, 16, 1, 2, 2, 8, 1, 1, 1]
def js_k : List (String × Nat × Nat) := [("LitmusHouse", 216, 0), ("LitmusHouse$Scanner", 74, 1), ("LitmusHouse$Scanner", 80, 2), ("LitmusHouse$Scanner", 82, 3), ("LitmusHouse$Scanner", 84, 4), ("LitmusHouse$Scanner", 86, 5), ("LitmusHouse$Scanner", 88, 6), ("LitmusHouse$Scanner", 90, 7), ("LitmusHouse$Scanner", 92, 8), ("LitmusHouse", 223, 9), ("LitmusHouse$Printer", 23, 1), ("LitmusHouse$Printer", 35, 2), ("LitmusHouse$Printer", 37, 3), ("LitmusHouse$Printer", 66, 4), ("LitmusHouse$Printer", 68, 10), ("LitmusHouse$Printer", 88, 5), ("LitmusHouse$Printer", 90, 6), ("LitmusHouse$Printer", 99, 7), ("LitmusHouse$Printer", 101, 11), ("LitmusHouse$Printer", 106, 12), ("LitmusHouse$Printer", 111, 13), ("LitmusHouse$Printer", 86, 14), ("LitmusHouse$Printer", 116, 15), ("LitmusHouse$Printer", 124, 16)]
def GS (g : GT) (U : State) : Prop := (∀ (i : Nat) (q : String × Nat × Nat), js_k[i]? = some q → vk_R q.1 q.2.1 (js_t.getD q.2.2 "") (g.2.2.2.2.1 (q.2.2 + 1)) U) ∧ vk_S 17 js_l js_b (fun i => g.2.2.2.2.1 (i + 1)) g.2.2.2.2.2 (G_A g) U g.2.1
def GX (g : GT) (U : State) : Prop := vx_Zq Bundle.tN "UNASSIGNED_STACK" Bundle.steD (G_A g) U g.2.1 ∧ vx_Zq Bundle.tN "SUPPRESSED_SENTINEL" Bundle.listD (G_A g) U g.2.1 ∧ g.1.stackTraces = false ∧ va_Z "java/lang/String" "COMPACT_STRINGS" "Z" (.int 1) (G_A g) U g.2.1 ∧ (va_Z "jdk/internal/util/Preconditions" "SIOOBE_FORMATTER" "Ljava/util/function/BiFunction;" .null (G_A g) U g.2.1 ∨ va_Z "jdk/internal/util/Preconditions" "SIOOBE_FORMATTER" "Ljava/util/function/BiFunction;" (.ref (g.2.2.2.2.2 17)) (G_A g) U g.2.1)
def dc_L : List MethodName := [⟨"java/lang/RuntimeException", "<init>", "(Ljava/lang/String;)V"⟩, ⟨"java/lang/Exception", "<init>", "(Ljava/lang/String;)V"⟩, ⟨"java/lang/Throwable", "<init>", "(Ljava/lang/String;)V"⟩]
def GN (U : State) : Prop := (∀ (i : Nat) (q : String × Nat × MethodName × String), ns_L[i]? = some q → va_Nw (.methodLinkNest q.1 q.2.1 q.2.2.1 q.2.2.2) U) ∧ va_AO RX5 U ∧ va_Nw (.castable R_xi R_xi) U ∧ va_Nw (.castable R_xn R_xn) U ∧ va_Nc R_xn R_xi U ∧ va_Nw (.castable "[I" "java/lang/Cloneable") U ∧ ∀ x ∈ dc_L, va_Nw (.declares x) U
theorem GN.moved {s U : State} (hW : s.WarmedH U.vm) (h : GN s) : GN U := ⟨fun i q hq => (h.1 i q hq).warmM hW, h.2.1.moved hW.alike, h.2.2.1.warmC hW, h.2.2.2.1.warmC hW, h.2.2.2.2.1.moved hW.alike, h.2.2.2.2.2.1.warmC hW, fun x hx => (h.2.2.2.2.2.2 x hx).warmD hW⟩
def GV (g : GT) (U : State) : Prop := va_K g.2.2.1 am_cl (ty_s g) U ∧ GS g U ∧ GX g U ∧ GN U
theorem GV.moved {g : GT} {s U : State} (hW : s.WarmedH U.vm) (h : GV g s) : GV g U :=
  ⟨va_K.moved hW.alike h.1, ⟨fun i q hq => vk_R.warm hW (h.2.1.1 i q hq), vk_S.moved hW.alike h.2.1.2⟩, ⟨vx_Zq.moved hW.alike h.2.2.1.1, vx_Zq.moved hW.alike h.2.2.1.2.1, h.2.2.1.2.2.1, va_Z.moved hW.alike h.2.2.1.2.2.2.1, h.2.2.1.2.2.2.2.imp (va_Z.moved hW.alike) (va_Z.moved hW.alike)⟩, h.2.2.2.moved hW⟩
/-! ===== typed values ===== -/
abbrev TV : Type := Int32 ⊕ Int64 ⊕ Nat
def vl (g : GT) (v : TV) : Value := match v with
  | .inl x => .int x
  | .inr (.inl x) => .long x
  | .inr (.inr r) => rf_v g r
def sz_v (v : TV) : Nat := match v with
  | .inr (.inl _) => 2
  | _ => 1
def is_L (v : TV) : Bool := match v with
  | .inr (.inl _) => true
  | _ => false
theorem vl_cat (g : GT) (v : TV) : (vl g v).category = sz_v v := by
  match v with
  | .inl x => rfl
  | .inr (.inl x) => rfl
  | .inr (.inr r) => show (rf_v g r).category = 1; unfold rf_v; split <;> rfl
def lvv (g : GT) (l : List (Nat × TV)) : List (Nat × Value) := l.map (fun q => (q.1, vl g q.2))
def ta_ : Nat → List TV → List (Nat × TV)
  | _, [] => []
  | n, v :: t => (n, v) :: ta_ (n + sz_v v) t
def tz_ : List TV → Nat
  | [] => 0
  | v :: t => sz_v v + tz_ t
theorem ta_eq (g : GT) (as : List TV) : ∀ n, lv_args n (as.map (vl g)) = lvv g (ta_ n as) := by
  induction as with
  | nil => intro n; rfl
  | cons v t ih =>
    intro n
    show (n, vl g v) :: lv_args (if (vl g v).category = 2 then n + 2 else n + 1) (t.map (vl g)) = (n, vl g v) :: lvv g (ta_ (n + sz_v v) t)
    rw [ih, vl_cat]
    congr 3
    unfold sz_v
    split <;> rfl
theorem tz_eq (g : GT) (as : List TV) : (lg_sl (as.map (vl g))).length = tz_ as := by
  induction as with
  | nil => rfl
  | cons v t ih =>
    show (lg_sl (vl g v :: t.map (vl g))).length = sz_v v + tz_ t
    rw [← ih, ← vl_cat g v]
    unfold lg_sl
    rw [List.flatMap_cons, List.length_append]
    congr 1
    by_cases h : (vl g v).category = 2
    · simp [h]
    · have h1 : (vl g v).category = 1 := by rw [vl_cat] at h ⊢; unfold sz_v at h ⊢; split at h <;> simp_all
      simp [h1]
/-- put in by the place -/
def ins_ (i : Nat) (v : TV) : List (Nat × TV) → List (Nat × TV)
  | [] => [(i, v)]
  | q :: t => if i < q.1 then (i, v) :: q :: t else q :: ins_ i v t
theorem ins_mem {i : Nat} {v : TV} {l : List (Nat × TV)} {q : Nat × TV} (h : q ∈ ins_ i v l) : q = (i, v) ∨ q ∈ l := by
  induction l with
  | nil => exact Or.inl (by simpa [ins_] using h)
  | cons a t ih =>
    unfold ins_ at h
    split at h
    · rcases List.mem_cons.mp h with h | h
      · exact Or.inl h
      · exact Or.inr h
    · rcases List.mem_cons.mp h with h | h
      · exact Or.inr (by rw [h]; exact List.mem_cons_self)
      · exact (ih h).imp_right (List.mem_cons_of_mem _)
/-! ===== a method's own context ===== -/
abbrev CX := Program × Env × Room × State × MethodId × Array Value × List Frame × Method × Code × GT × Nat × Nat × Nat × (State → Prop)
def TJ (X : CX) (pc : Nat) (lv : List (Nat × TV)) (st : List Value) (h : AH) : Prop := match X with
  | (p, e, R, s, m, args, below, meth, c, g, nL, n0, s0, Q) =>
    ∀ (H : Heap) (locs : List Loc) (ls : Array Slot), GW g h H locs → lv_has ls nL (lvv g lv) → n0 ≤ hp_n h → s0 ≤ hp_s h →
      W p g.1 e R s m args below meth c H locs (hp_n h - n0) (hp_s h - s0) Q (F0 m pc ls st)
def OkX (X : CX) (g : GT) (cc : ByteArray) (nL : Nat) (own : String) (ret : Option FieldType) : Prop := match X with
  | (p, _, _, s, m, args, _, meth, c, g', nL', n0, _, _) => g' = g ∧ nL' = nL ∧ p.tables.exec = Jvm.exec ∧ c.code = cc ∧ c.maxLocals = nL ∧ s.vm.findClass own = some m.cls ∧ (∀ w ∈ lw_gd, w.before args s = true) ∧ GV g s ∧ meth.sig.returnType = ret ∧ meth.locks = false ∧ ∃ h0, GW g h0 s.heap [] ∧ hp_n h0 = n0
def LvX (X : CX) (K : Nat) : Prop := match X with
  | (_, _, R, _, _, _, _, _, _, _, _, _, _, _) => K ≤ R.frames ∧ 60 * K ≤ R.locals
def NmX (X : CX) (nm : String) : Prop := match X with
  | (_, _, _, _, _, _, _, meth, _, _, _, _, _, _) => meth.name = nm
def Q_E (g : GT) (hE : AH) (v : Option TV) : Array Value → State → Outcome → State → Prop := fun _ _ o t => o = .returned (v.map (vl g)) ∧ GW g hE t.heap []
def EnX (X : CX) (hE : AH) (v : Option TV) : Prop := match X with
  | (_, _, R, s, _, args, below, _, _, g, _, n0, s0, Q) => Q = MQ below (Q_E g hE v) args s (hp_n hE - n0) (hp_s hE - s0) (G_A g) ∧ R.cells = hp_n hE - n0 ∧ R.slots = hp_s hE - s0
/-- room for a heap at a time before the end -/
def CaX (X : CX) (h : AH) : Prop := match X with
  | (_, _, R, _, _, _, _, _, _, _, _, n0, s0, _) => hp_n h - n0 ≤ R.cells ∧ hp_s h - s0 ≤ R.slots
theorem CaX.of {X : CX} {h hE : AH} {v : Option TV} (e : EnX X hE v) (h1 : hp_n h ≤ hp_n hE ∧ hp_s h ≤ hp_s hE) : CaX X h := by
  obtain ⟨p, e', R, s, m, args, below, meth, c, g, nL, n0, s0, Q⟩ := X
  obtain ⟨-, e2, e3⟩ := e
  exact ⟨by rw [e2]; omega, by rw [e3]; omega⟩
/-- the contract of a method: called with these, it returns this; k frames -/
def CM (g : GT) (k : Nat) (y : MethodName) (cc : ByteArray) (nL : Nat) (ret : Option FieldType) (h : AH) (as : List TV) (h' : AH) (v : Option TV) : Prop :=
  (hp_n h ≤ hp_n h' ∧ hp_s h ≤ hp_s h') ∧
  Met g.1 y (Cond.code y cc nL ret :: lw_gd) { frames := k, cells := hp_n h' - hp_n h, slots := hp_s h' - hp_s h, locals := 60 * k } (va_Pc (as.map (vl g)) (fun U => GW g h U.heap [] ∧ GV g U)) (Q_E g h' v) (hp_n h' - hp_n h) (hp_s h' - hp_s h) (G_A g)
theorem GW.nil {g : GT} {h : AH} {H : Heap} {locs : List Loc} (w : GW g h H locs) : GW g h H [] := ⟨w.1, w.2.1, w.2.2.1, w.2.2.2.1, w.2.2.2.2.1, fun _ h => by cases h⟩
theorem ad_h {g : GT} {r : Nat} (h : 64 ≤ r) : ad_r g r = g_B g + (r - 64) := by
  unfold ad_r
  rw [if_neg (by omega)]
theorem rf_h {g : GT} {r : Nat} (h : 64 ≤ r) : rf_v g r = .ref (ad_r g r) := by
  unfold rf_v
  rw [if_neg (by omega)]
theorem w_o {g : GT} {h : AH} {r c : Nat} (hk : hp_k h r = c) (hc : c < 100) : w_E g h r = .inr (c, fl_s g h r) := by
  unfold w_E
  rw [if_neg (by omega), if_neg (by omega), if_neg (by omega), hk]
theorem fl_get {g : GT} {h : AH} {r c k : Nat} (hk : hp_k h r = c) (hl : k < cl_N c) : (fl_s g h r)[k]? = some (sl_v g (cl_T c k) h r k) := by
  unfold fl_s
  subst hk
  rw [List.getElem?_map, List.getElem?_range hl]
  rfl
/-- entering -/
theorem CM.of {g : GT} {k : Nat} {y : MethodName} {cc : ByteArray} {nL : Nat} {ret : Option FieldType} {h : AH} {as : List TV} {h' : AH} {v : Option TV}
    (hy : plainName y.cls = true) (hn : tz_ as ≤ nL) (hm : hp_n h ≤ hp_n h' ∧ hp_s h ≤ hp_s h')
    (hT : ∀ X : CX, OkX X g cc nL y.cls ret → NmX X y.name → LvX X k → EnX X h' v → TJ X 0 (ta_ 0 as) [] h) : CM g k y cc nL ret h as h' v := by
  refine ⟨hm, Met.ofW (cc := cc) (maxL := nL) (ret := ret) hy rfl ?_⟩
  intro p e s m args below meth c s₁ B hml hv
  obtain ⟨rfl, hw, hgv⟩ := hv
  have hts := atoms_spec (ws := Cond.code y cc nL ret :: lw_gd) B.pre
  have hT' := hT (p, e, { frames := k, cells := hp_n h' - hp_n h, slots := hp_s h' - hp_s h, locals := 60 * k }, s, m, (as.map (vl g)).toArray, below, meth, c, g, nL, hp_n h, hp_s h, MQ below (Q_E g h' v) (as.map (vl g)).toArray s (hp_n h' - hp_n h) (hp_s h' - hp_s h) (G_A g))
    ⟨rfl, rfl, B.exec, B.bytes, hml, findClass_of_methodNamed B.named, fun w hw => hts w (List.mem_cons_of_mem _ hw), hgv, B.returns, B.notSynchronized, h, hw, rfl⟩ (name_of_methodNamed B.named B.method).1 ⟨Nat.le_refl _, Nat.le_refl _⟩ ⟨rfl, rfl, rfl⟩
  have hl := lv_entry (as.map (vl g)) (n := nL) (by rw [tz_eq]; exact hn)
  rw [ta_eq] at hl
  rw [lg_entry_eq]
  have h1 := hT' s.heap [] _ hw hl (Nat.le_refl _) (Nat.le_refl _)
  rw [Nat.sub_self, Nat.sub_self] at h1
  exact h1
/-- what is shown of a block: sizes only grow; the machine comes to the end -/
def JD (cc : ByteArray) (nL : Nat) (own nm : String) (ret : Option FieldType) (lev pc : Nat) (lv : List (Nat × TV)) (st : List TV) (h hE : AH) (v : Option TV) : Prop :=
  (hp_n h ≤ hp_n hE ∧ hp_s h ≤ hp_s hE) ∧ ∀ (X : CX) (g : GT) (K : Nat), OkX X g cc nL own ret → NmX X nm → LvX X K → lev ≤ K → EnX X hE v → TJ X pc lv (st.map (vl g)) h
theorem CM.ofJ {lev : Nat} {y : MethodName} {cc : ByteArray} {nL : Nat} {ret : Option FieldType} {h : AH} {as : List TV} {h' : AH} {v : Option TV} (hy : plainName y.cls = true) (hn : tz_ as ≤ nL) (hj : JD cc nL y.cls y.name ret lev 0 (ta_ 0 as) [] h h' v) (g : GT) : CM g lev y cc nL ret h as h' v :=
  CM.of hy hn hj.1 (fun X ok nm lv en => hj.2 X g lev ok nm lv (Nat.le_refl _) en)
