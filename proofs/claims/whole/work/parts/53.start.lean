/-! ===== the start: what the Statement gives of it ===== -/
def js_m (i : Nat) : Term := [Term.string "LitmusHouse" 216, Term.string "LitmusHouse$Scanner" 74, Term.string "LitmusHouse$Scanner" 80, Term.string "LitmusHouse$Scanner" 82, Term.string "LitmusHouse$Scanner" 84, Term.string "LitmusHouse$Scanner" 86, Term.string "LitmusHouse$Scanner" 88, Term.string "LitmusHouse$Scanner" 90, Term.string "LitmusHouse$Scanner" 92, Term.string "LitmusHouse" 223, Term.string "LitmusHouse$Printer" 68, Term.string "LitmusHouse$Printer" 101, Term.string "LitmusHouse$Printer" 106, Term.string "LitmusHouse$Printer" 111, Term.string "LitmusHouse$Printer" 86, Term.string "LitmusHouse$Printer" 116, Term.string "LitmusHouse$Printer" 124].getD i (Term.int 0)
theorem vk_S.as {N : Nat} {len : List Nat} {byt : List (List Int32)} {k1 v1 k2 v2 : Nat → Nat} {A : Nat → Prop} {U : State} {H : Heap} (h : vk_S N len byt k1 v1 A U H) (hk : ∀ i, i < N → k2 i = k1 i) (hv : ∀ i, i < N → v2 i = v1 i) : vk_S N len byt k2 v2 A U H :=
  ⟨fun i hi => by rw [hk i hi, hv i hi]; exact h.1 i hi, fun i j hi hj e => h.2 i j hi hj (by rw [← hk i hi, ← hk j hj]; exact e)⟩
def nw_F : List Cond := flatC (Jvm.Cond.and given_1 narrow_1)
set_option maxRecDepth 1000000 in
theorem nw_ex : ∀ i, i < 17 → Cond.exactly (js_m i) "java/lang/String" ∈ nw_F := by decide +kernel
set_option maxRecDepth 1000000 in
theorem nw_co : ∀ i, i < 17 → Cond.eq (.field (js_m i) "java/lang/String" "coder" "B") (.int 0) ∈ nw_F := by decide +kernel
set_option maxRecDepth 1000000 in
theorem nw_ar : ∀ i, i < 17 → Cond.arrayOf (.field (js_m i) "java/lang/String" "value" "[B") .byte ∈ nw_F := by decide +kernel
set_option maxRecDepth 1000000 in
theorem nw_le : ∀ i, i < 17 → Cond.eq (.length (.field (js_m i) "java/lang/String" "value" "[B")) (.int (Int32.ofNat (js_l.getD i 0))) ∈ nw_F := by decide +kernel
set_option maxRecDepth 1000000 in
theorem nw_el : ∀ i, i < 17 → ∀ j, j < js_l.getD i 0 → Cond.eq (.elem (.field (js_m i) "java/lang/String" "value" "[B") (.int (Int32.ofNat j))) (.int ((js_b.getD i []).getD j 0)) ∈ nw_F := by decide +kernel
set_option maxRecDepth 1000000 in
theorem nw_ne0 : ∀ j, j < 17 → 0 < j → Cond.not (Cond.eq (js_m 0) (js_m j)) ∈ nw_F := by decide +kernel
set_option maxRecDepth 1000000 in
theorem nw_ne1 : ∀ j, j < 17 → 1 < j → Cond.not (Cond.eq (js_m 1) (js_m j)) ∈ nw_F := by decide +kernel
set_option maxRecDepth 1000000 in
theorem nw_ne2 : ∀ j, j < 17 → 2 < j → Cond.not (Cond.eq (js_m 2) (js_m j)) ∈ nw_F := by decide +kernel
set_option maxRecDepth 1000000 in
theorem nw_ne3 : ∀ j, j < 17 → 3 < j → Cond.not (Cond.eq (js_m 3) (js_m j)) ∈ nw_F := by decide +kernel
set_option maxRecDepth 1000000 in
theorem nw_ne4 : ∀ j, j < 17 → 4 < j → Cond.not (Cond.eq (js_m 4) (js_m j)) ∈ nw_F := by decide +kernel
set_option maxRecDepth 1000000 in
theorem nw_ne5 : ∀ j, j < 17 → 5 < j → Cond.not (Cond.eq (js_m 5) (js_m j)) ∈ nw_F := by decide +kernel
set_option maxRecDepth 1000000 in
theorem nw_ne6 : ∀ j, j < 17 → 6 < j → Cond.not (Cond.eq (js_m 6) (js_m j)) ∈ nw_F := by decide +kernel
set_option maxRecDepth 1000000 in
theorem nw_ne7 : ∀ j, j < 17 → 7 < j → Cond.not (Cond.eq (js_m 7) (js_m j)) ∈ nw_F := by decide +kernel
set_option maxRecDepth 1000000 in
theorem nw_ne8 : ∀ j, j < 17 → 8 < j → Cond.not (Cond.eq (js_m 8) (js_m j)) ∈ nw_F := by decide +kernel
set_option maxRecDepth 1000000 in
theorem nw_ne9 : ∀ j, j < 17 → 9 < j → Cond.not (Cond.eq (js_m 9) (js_m j)) ∈ nw_F := by decide +kernel
set_option maxRecDepth 1000000 in
theorem nw_ne10 : ∀ j, j < 17 → 10 < j → Cond.not (Cond.eq (js_m 10) (js_m j)) ∈ nw_F := by decide +kernel
set_option maxRecDepth 1000000 in
theorem nw_ne11 : ∀ j, j < 17 → 11 < j → Cond.not (Cond.eq (js_m 11) (js_m j)) ∈ nw_F := by decide +kernel
set_option maxRecDepth 1000000 in
theorem nw_ne12 : ∀ j, j < 17 → 12 < j → Cond.not (Cond.eq (js_m 12) (js_m j)) ∈ nw_F := by decide +kernel
set_option maxRecDepth 1000000 in
theorem nw_ne13 : ∀ j, j < 17 → 13 < j → Cond.not (Cond.eq (js_m 13) (js_m j)) ∈ nw_F := by decide +kernel
set_option maxRecDepth 1000000 in
theorem nw_ne14 : ∀ j, j < 17 → 14 < j → Cond.not (Cond.eq (js_m 14) (js_m j)) ∈ nw_F := by decide +kernel
set_option maxRecDepth 1000000 in
theorem nw_ne15 : ∀ j, j < 17 → 15 < j → Cond.not (Cond.eq (js_m 15) (js_m j)) ∈ nw_F := by decide +kernel
theorem nw_nl : ∀ i, i < 17 → ∀ j, j < 17 → i < j → Cond.not (Cond.eq (js_m i) (js_m j)) ∈ nw_F := by
  intro i hi
  match i, hi with
  | 0, _ => exact nw_ne0
  | 1, _ => exact nw_ne1
  | 2, _ => exact nw_ne2
  | 3, _ => exact nw_ne3
  | 4, _ => exact nw_ne4
  | 5, _ => exact nw_ne5
  | 6, _ => exact nw_ne6
  | 7, _ => exact nw_ne7
  | 8, _ => exact nw_ne8
  | 9, _ => exact nw_ne9
  | 10, _ => exact nw_ne10
  | 11, _ => exact nw_ne11
  | 12, _ => exact nw_ne12
  | 13, _ => exact nw_ne13
  | 14, _ => exact nw_ne14
  | 15, _ => exact nw_ne15
  | 16, _ => intro j h1 h2; omega
  | k + 17, h => omega
theorem nw_ne (i : Nat) (hi : i < 17) (j : Nat) (hj : j < 17) (h : i ≠ j) : Cond.not (Cond.eq (js_m i) (js_m j)) ∈ nw_F ∨ Cond.not (Cond.eq (js_m j) (js_m i)) ∈ nw_F := by
  rcases Nat.lt_or_gt_of_ne h with h | h
  · exact Or.inl (nw_nl i hi j hj h)
  · exact Or.inr (nw_nl j hj i hi h)
set_option maxRecDepth 1000000 in
theorem nw_eq : ∀ i, i < 24 → Cond.eq (js_m (js_k.getD i ("", 0, 0)).2.2) (.string (js_k.getD i ("", 0, 0)).1 (js_k.getD i ("", 0, 0)).2.1) ∈ nw_F ∨ js_m (js_k.getD i ("", 0, 0)).2.2 = .string (js_k.getD i ("", 0, 0)).1 (js_k.getD i ("", 0, 0)).2.1 := by decide +kernel
set_option maxRecDepth 1000000 in
theorem nw_sr : ∀ i, i < 24 → Cond.stringRef (js_k.getD i ("", 0, 0)).1 (js_k.getD i ("", 0, 0)).2.1 (js_t.getD (js_k.getD i ("", 0, 0)).2.2 "") ∈ lw_tbl := by decide +kernel
set_option maxRecDepth 1000000 in
theorem nw_ns : ∀ i, i < ns_L.length → Cond.methodLinkNest (ns_L.getD i ("", 0, ⟨"", "", ""⟩, "")).1 (ns_L.getD i ("", 0, ⟨"", "", ""⟩, "")).2.1 (ns_L.getD i ("", 0, ⟨"", "", ""⟩, "")).2.2.1 (ns_L.getD i ("", 0, ⟨"", "", ""⟩, "")).2.2.2 ∈ lw_tbl := by decide +kernel
set_option maxRecDepth 1000000 in
theorem nw_dc : ∀ x ∈ dc_L, Cond.declares x ∈ lw_tbl := by decide +kernel
set_option maxRecDepth 1000000 in
theorem nt_xi : Cond.castable R_xi R_xi ∈ lw_tbl := by decide +kernel
set_option maxRecDepth 1000000 in
theorem nt_xn : Cond.castable R_xn R_xn ∈ lw_tbl := by decide +kernel
set_option maxRecDepth 1000000 in
theorem nt_cl : Cond.castable "[I" "java/lang/Cloneable" ∈ lw_tbl := by decide +kernel
set_option maxRecDepth 1000000 in
theorem nt_ao : Cond.arrayOver (.object RX5) ∈ lw_tbl := by decide +kernel
set_option maxRecDepth 1000000 in
theorem nt_l1 : Cond.laysStatic Bundle.tN "UNASSIGNED_STACK" Bundle.steD ∈ lw_tbl := by decide +kernel
set_option maxRecDepth 1000000 in
theorem nt_l2 : Cond.laysStatic Bundle.tN "SUPPRESSED_SENTINEL" Bundle.listD ∈ lw_tbl := by decide +kernel
set_option maxRecDepth 1000000 in
theorem nt_l3 : Cond.laysStatic "java/lang/String" "COMPACT_STRINGS" "Z" ∈ lw_tbl := by decide +kernel
set_option maxRecDepth 1000000 in
theorem nt_l4 : Cond.laysStatic "jdk/internal/util/Preconditions" "SIOOBE_FORMATTER" "Ljava/util/function/BiFunction;" ∈ lw_tbl := by decide +kernel
set_option maxRecDepth 1000000 in
theorem nt_i1 : Cond.initialized Bundle.tN ∈ lw_tbl := by decide +kernel
set_option maxRecDepth 1000000 in
theorem nt_i3 : Cond.initialized "java/lang/String" ∈ lw_tbl := by decide +kernel
set_option maxRecDepth 1000000 in
theorem nt_i4 : Cond.initialized "jdk/internal/util/Preconditions" ∈ lw_tbl := by decide +kernel
set_option maxRecDepth 1000000 in
theorem nt_aI : Cond.arrayClass .int ∈ lw_tbl := by decide +kernel
set_option maxRecDepth 1000000 in
theorem nt_aJ : Cond.arrayClass .long ∈ lw_tbl := by decide +kernel
set_option maxRecDepth 1000000 in
theorem nt_yi : Cond.instantiable R_xi 6 ∈ lw_tbl := by decide +kernel
set_option maxRecDepth 1000000 in
theorem nt_yn : Cond.instantiable R_xn 6 ∈ lw_tbl := by decide +kernel
set_option maxRecDepth 1000000 in
theorem nn_z1 : Cond.isRef (.static Bundle.tN "UNASSIGNED_STACK" Bundle.steD) ∈ nw_F := by decide +kernel
set_option maxRecDepth 1000000 in
theorem nn_z2 : Cond.isRef (.static Bundle.tN "SUPPRESSED_SENTINEL" Bundle.listD) ∈ nw_F := by decide +kernel
set_option maxRecDepth 1000000 in
theorem nn_z3 : Cond.eq (.static "java/lang/String" "COMPACT_STRINGS" "Z") (.int 1) ∈ nw_F := by decide +kernel
set_option maxRecDepth 1000000 in
theorem nn_z4 : Cond.isRef (.static "jdk/internal/util/Preconditions" "SIOOBE_FORMATTER" "Ljava/util/function/BiFunction;") ∈ nw_F := by decide +kernel
set_option maxRecDepth 1000000 in
theorem nn_nc : Cond.not (.castable R_xn R_xi) ∈ nw_F := by decide +kernel
