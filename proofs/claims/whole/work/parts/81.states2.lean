/-! ===== the class's memory of states: growing, looking ===== -/
def hg1 (h : AH) (c L k : Nat) : AH := st_r (st_n h c L) 90 k (hp_n h)
def hgr (h : AH) (L : Nat) : AH := st_i (hg1 (hg1 (hg1 (hg1 h 101 L 0) 101 L 1) 101 L 2) 100 L 3) 90 5 0
section
variable {h : AH} {L : Nat}
theorem hg1_n {c k : Nat} : hp_n (hg1 h c L k) = hp_n h + 1 := rfl
theorem hg1_k {c k r : Nat} (hr : r < hp_n h) : hp_k (hg1 h c L k) r = hp_k h r := up_ne (by omega)
theorem hg1_l {c k r : Nat} (hr : r < hp_n h) : hp_l (hg1 h c L k) r = hp_l h r := up_ne (by omega)
theorem hg1_i {c k r : Nat} (hr : r < hp_n h) : hp_i (hg1 h c L k) r = hp_i h r := up_ne (by omega)
theorem hg1_j {c k r : Nat} (hr : r < hp_n h) : hp_j (hg1 h c L k) r = hp_j h r := up_ne (by omega)
theorem hg1_r {c k r : Nat} (hr : r < hp_n h) (h90 : r ≠ 90) : hp_r (hg1 h c L k) r = hp_r h r := by
  funext x
  show up_2 (up_1 (hp_r h) (hp_n h) (fun _ => 0)) 90 k (hp_n h) r x = _
  rw [up2_r h90, up_ne (by omega)]
theorem hg1_90 {c k k' : Nat} (hr : 90 < hp_n h) (hk : k' ≠ k) : hp_r (hg1 h c L k) 90 k' = hp_r h 90 k' := by
  show up_2 (up_1 (hp_r h) (hp_n h) (fun _ => 0)) 90 k (hp_n h) 90 k' = _
  rw [up2_k hk, up_ne (by omega)]
theorem hg1_s {c k : Nat} : hp_r (hg1 h c L k) 90 k = hp_n h := up2_same
theorem hg1_nk {c k : Nat} : hp_k (hg1 h c L k) (hp_n h) = c := up_same
theorem hg1_nl {c k : Nat} : hp_l (hg1 h c L k) (hp_n h) = L := up_same
theorem hg1_ni {c k : Nat} : hp_i (hg1 h c L k) (hp_n h) = fun _ => 0 := up_same
def hA (h : AH) (L : Nat) : AH := hg1 h 101 L 0
def hB (h : AH) (L : Nat) : AH := hg1 (hA h L) 101 L 1
def hC (h : AH) (L : Nat) : AH := hg1 (hB h L) 101 L 2
def hD (h : AH) (L : Nat) : AH := hg1 (hC h L) 100 L 3
theorem hgr_D : hgr h L = st_i (hD h L) 90 5 0 := rfl
theorem hD_n : hp_n (hA h L) = hp_n h + 1 ∧ hp_n (hB h L) = hp_n h + 2 ∧ hp_n (hC h L) = hp_n h + 3 ∧ hp_n (hD h L) = hp_n h + 4 := ⟨rfl, rfl, rfl, rfl⟩
theorem hgr_old {r : Nat} (hr : r < hp_n h) (h90 : r ≠ 90) : hp_k (hgr h L) r = hp_k h r ∧ hp_l (hgr h L) r = hp_l h r ∧ hp_i (hgr h L) r = hp_i h r ∧ hp_j (hgr h L) r = hp_j h r ∧ hp_r (hgr h L) r = hp_r h r := by
  obtain ⟨n1, n2, n3, n4⟩ := hD_n (h := h) (L := L)
  refine ⟨?_, ?_, ?_, ?_, ?_⟩
  · show hp_k (hg1 (hC h L) 100 L 3) r = _
    rw [hg1_k (by omega)]; show hp_k (hg1 (hB h L) 101 L 2) r = _
    rw [hg1_k (by omega)]; show hp_k (hg1 (hA h L) 101 L 1) r = _
    rw [hg1_k (by omega)]; exact hg1_k hr
  · show hp_l (hg1 (hC h L) 100 L 3) r = _
    rw [hg1_l (by omega)]; show hp_l (hg1 (hB h L) 101 L 2) r = _
    rw [hg1_l (by omega)]; show hp_l (hg1 (hA h L) 101 L 1) r = _
    rw [hg1_l (by omega)]; exact hg1_l hr
  · funext x
    show up_2 (hp_i (hD h L)) 90 5 0 r x = _
    rw [up2_r h90]
    show hp_i (hg1 (hC h L) 100 L 3) r x = _
    rw [hg1_i (by omega)]; show hp_i (hg1 (hB h L) 101 L 2) r x = _
    rw [hg1_i (by omega)]; show hp_i (hg1 (hA h L) 101 L 1) r x = _
    rw [hg1_i (by omega)]; exact congrFun (hg1_i hr) x
  · show hp_j (hg1 (hC h L) 100 L 3) r = _
    rw [hg1_j (by omega)]; show hp_j (hg1 (hB h L) 101 L 2) r = _
    rw [hg1_j (by omega)]; show hp_j (hg1 (hA h L) 101 L 1) r = _
    rw [hg1_j (by omega)]; exact hg1_j hr
  · show hp_r (hg1 (hC h L) 100 L 3) r = _
    rw [hg1_r (by omega) h90]; show hp_r (hg1 (hB h L) 101 L 2) r = _
    rw [hg1_r (by omega) h90]; show hp_r (hg1 (hA h L) 101 L 1) r = _
    rw [hg1_r (by omega) h90]; exact hg1_r hr h90
theorem hgr_k90 (hr : 90 < hp_n h) : hp_k (hgr h L) 90 = hp_k h 90 ∧ hp_l (hgr h L) 90 = hp_l h 90 := by
  obtain ⟨n1, n2, n3, n4⟩ := hD_n (h := h) (L := L)
  constructor
  · show hp_k (hg1 (hC h L) 100 L 3) 90 = _
    rw [hg1_k (by omega)]; show hp_k (hg1 (hB h L) 101 L 2) 90 = _
    rw [hg1_k (by omega)]; show hp_k (hg1 (hA h L) 101 L 1) 90 = _
    rw [hg1_k (by omega)]; exact hg1_k hr
  · show hp_l (hg1 (hC h L) 100 L 3) 90 = _
    rw [hg1_l (by omega)]; show hp_l (hg1 (hB h L) 101 L 2) 90 = _
    rw [hg1_l (by omega)]; show hp_l (hg1 (hA h L) 101 L 1) 90 = _
    rw [hg1_l (by omega)]; exact hg1_l hr
theorem hgr_r (hr : 90 < hp_n h) : hp_r (hgr h L) 90 0 = hp_n h ∧ hp_r (hgr h L) 90 1 = hp_n h + 1 ∧ hp_r (hgr h L) 90 2 = hp_n h + 2 ∧ hp_r (hgr h L) 90 3 = hp_n h + 3 := by
  obtain ⟨n1, n2, n3, n4⟩ := hD_n (h := h) (L := L)
  refine ⟨?_, ?_, ?_, ?_⟩
  · show hp_r (hg1 (hC h L) 100 L 3) 90 0 = _
    rw [hg1_90 (by omega) (by decide)]; show hp_r (hg1 (hB h L) 101 L 2) 90 0 = _
    rw [hg1_90 (by omega) (by decide)]; show hp_r (hg1 (hA h L) 101 L 1) 90 0 = _
    rw [hg1_90 (by omega) (by decide)]; exact hg1_s
  · show hp_r (hg1 (hC h L) 100 L 3) 90 1 = _
    rw [hg1_90 (by omega) (by decide)]; show hp_r (hg1 (hB h L) 101 L 2) 90 1 = _
    rw [hg1_90 (by omega) (by decide)]; exact hg1_s
  · show hp_r (hg1 (hC h L) 100 L 3) 90 2 = _
    rw [hg1_90 (by omega) (by decide)]; exact hg1_s
  · exact hg1_s
theorem hgr_new : (hp_k (hgr h L) (hp_n h) = 101 ∧ hp_l (hgr h L) (hp_n h) = L) ∧ (hp_k (hgr h L) (hp_n h + 1) = 101 ∧ hp_l (hgr h L) (hp_n h + 1) = L) ∧ (hp_k (hgr h L) (hp_n h + 2) = 101 ∧ hp_l (hgr h L) (hp_n h + 2) = L) ∧ (hp_k (hgr h L) (hp_n h + 3) = 100 ∧ hp_l (hgr h L) (hp_n h + 3) = L) := by
  obtain ⟨n1, n2, n3, n4⟩ := hD_n (h := h) (L := L)
  refine ⟨⟨?_, ?_⟩, ⟨?_, ?_⟩, ⟨?_, ?_⟩, ?_, ?_⟩
  · show hp_k (hg1 (hC h L) 100 L 3) (hp_n h) = _
    rw [hg1_k (by omega)]; show hp_k (hg1 (hB h L) 101 L 2) (hp_n h) = _
    rw [hg1_k (by omega)]; show hp_k (hg1 (hA h L) 101 L 1) (hp_n h) = _
    rw [hg1_k (by omega)]; exact hg1_nk
  · show hp_l (hg1 (hC h L) 100 L 3) (hp_n h) = _
    rw [hg1_l (by omega)]; show hp_l (hg1 (hB h L) 101 L 2) (hp_n h) = _
    rw [hg1_l (by omega)]; show hp_l (hg1 (hA h L) 101 L 1) (hp_n h) = _
    rw [hg1_l (by omega)]; exact hg1_nl
  · show hp_k (hg1 (hC h L) 100 L 3) (hp_n h + 1) = _
    rw [hg1_k (by omega)]; show hp_k (hg1 (hB h L) 101 L 2) (hp_n h + 1) = _
    rw [hg1_k (by omega)]; exact hg1_nk (h := hA h L)
  · show hp_l (hg1 (hC h L) 100 L 3) (hp_n h + 1) = _
    rw [hg1_l (by omega)]; show hp_l (hg1 (hB h L) 101 L 2) (hp_n h + 1) = _
    rw [hg1_l (by omega)]; exact hg1_nl (h := hA h L)
  · show hp_k (hg1 (hC h L) 100 L 3) (hp_n h + 2) = _
    rw [hg1_k (by omega)]; exact hg1_nk (h := hB h L)
  · show hp_l (hg1 (hC h L) 100 L 3) (hp_n h + 2) = _
    rw [hg1_l (by omega)]; exact hg1_nl (h := hB h L)
  · exact hg1_nk (h := hC h L) (L := L) (k := 3)
  · exact hg1_nl (h := hC h L) (c := 100) (k := 3)
theorem hgr_4 (hr : 90 < hp_n h) : hp_i (hgr h L) 90 4 = hp_i h 90 4 := by
  obtain ⟨n1, n2, n3, n4⟩ := hD_n (h := h) (L := L)
  show up_2 (hp_i (hD h L)) 90 5 0 90 4 = _
  rw [up2_k (by decide)]
  show hp_i (hg1 (hC h L) 100 L 3) 90 4 = _
  rw [hg1_i (by omega)]; show hp_i (hg1 (hB h L) 101 L 2) 90 4 = _
  rw [hg1_i (by omega)]; show hp_i (hg1 (hA h L) 101 L 1) 90 4 = _
  rw [hg1_i (by omega)]; exact congrFun (hg1_i hr) 4
theorem hgr_t (hr : 90 < hp_n h) (j : Nat) : hp_i (hgr h L) (hp_n h + 3) j = 0 := by
  show up_2 (hp_i (hD h L)) 90 5 0 (hp_n h + 3) j = _
  rw [up2_r (by omega)]
  exact congrFun (hg1_ni (h := hC h L)) j
theorem hgr_si (I : SI h L) (hL : L < 32768) : SI (hgr h (2 * L)) (2 * L) ∧ (∀ y, ¬ VS (hgr h (2 * L)) y) ∧ FN h (hgr h (2 * L)) ∧ hp_n (hgr h (2 * L)) = hp_n h + 4 ∧ hp_s (hgr h (2 * L)) = hp_s h + 8 * L := by
  have h90 := I.1.2.1
  obtain ⟨r0, r1, r2, r3⟩ := hgr_r (h := h) (L := 2 * L) h90
  obtain ⟨⟨k0, l0⟩, ⟨k1, l1⟩, ⟨k2, l2⟩, ⟨k3, l3⟩⟩ := hgr_new (h := h) (L := 2 * L)
  have hn : hp_n (hgr h (2 * L)) = hp_n h + 4 := rfl
  have h64 := I.2.1.1.1
  have h64' := I.2.1.1.2.1
  obtain ⟨k, rfl, hk1, hk2⟩ := I.2.2.2.2.2.2.2.2.1
  have hk : k < 15 := by
    apply Nat.lt_of_not_le
    intro h15
    have : 2 ^ 15 ≤ 2 ^ k := Nat.pow_le_pow_right (by decide) h15
    omega
  refine ⟨⟨?_, ?_, ?_, ?_, ?_, ?_, ?_, ?_, ⟨k + 1, by rw [Nat.pow_succ, Nat.mul_comm], by omega, by omega⟩, ?_⟩, ?_, ?_, hn, ?_⟩
  · exact ⟨by decide, by rw [hn]; omega, by rw [(hgr_k90 h90).1]; exact I.1.2.2⟩
  · rw [r0]; exact ⟨⟨by omega, by omega, k0⟩, l0⟩
  · rw [r1]; exact ⟨⟨by omega, by omega, k1⟩, l1⟩
  · rw [r2]; exact ⟨⟨by omega, by omega, k2⟩, l2⟩
  · rw [r3]; exact ⟨⟨by omega, by omega, k3⟩, l3⟩
  · rw [r0, r1]; omega
  · rw [r0, r2]; omega
  · rw [r1, r2]; omega
  · obtain ⟨tn, t1, t2, t3, t4⟩ := I.2.2.2.2.2.2.2.2.2
    refine ⟨tn, by rw [hgr_4 h90]; exact t1, t2, t3, fun j _ => ⟨0, Nat.zero_le _, ?_⟩⟩
    rw [r3, hgr_t h90]; rfl
  · rintro y ⟨j, -, h2, -⟩
    rw [r3, hgr_t h90, hgr_4 h90] at h2
    exact tbx_ne I.2.2.2.2.2.2.2.2.2 h2.symm
  · refine ⟨by omega, fun r hr => ?_, fun r hr hs => ?_, fun i hi => ?_, hgr_4 h90⟩
    · by_cases h9 : r = 90
      · rw [h9]; exact hgr_k90 h90
      · exact ⟨(hgr_old hr h9).1, (hgr_old hr h9).2.1⟩
    · have h9 : r ≠ 90 := fun e => hs (Or.inl e)
      exact (hgr_old hr h9).2.2
    · have : i = 0 ∨ i = 1 ∨ i = 2 ∨ i = 3 := by omega
      obtain rfl | rfl | rfl | rfl := this <;> right <;> omega
  · show hp_s h + 2 * 2 ^ k + 2 * 2 ^ k + 2 * 2 ^ k + 2 * 2 ^ k = hp_s h + 8 * 2 ^ k
    omega
theorem FN_tr {h h1 h2 : AH} (N : hp_n h + 4 ≤ hp_n h1) (R : ∀ i, i < 4 → hp_n h ≤ hp_r h1 90 i) (F1 : FN h h1) (F2 : FN h1 h2) : FN h h2 := by
  obtain ⟨a1, a2, a3, a4, a5⟩ := F1
  obtain ⟨b1, b2, b3, b4, b5⟩ := F2
  refine ⟨by omega, fun r hr => ?_, fun r hr hs => ?_, fun i hi => ?_, b5.trans a5⟩
  · have := b2 r (by omega); have := a2 r hr; constructor <;> omega
  · have n4 : ¬ S4 h1 r := by
      rintro (e | e | e | e | e)
      · exact hs (Or.inl e)
      · have := R 0 (by omega); omega
      · have := R 1 (by omega); omega
      · have := R 2 (by omega); omega
      · have := R 3 (by omega); omega
    obtain ⟨c1, c2, c3⟩ := b3 r (by omega) n4
    obtain ⟨d1, d2, d3⟩ := a3 r hr hs
    exact ⟨c1.trans d1, c2.trans d2, c3.trans d3⟩
  · obtain e | e := b4 i hi
    · rw [e]; exact Or.inr (R i hi)
    · exact Or.inr (by omega)
theorem FN_sm {h h1 h2 : AH} (R : ∀ i, hp_r h1 90 i = hp_r h 90 i) (Nn : hp_n h1 = hp_n h) (F1 : FN h h1) (F2 : FN h1 h2) : FN h h2 := by
  obtain ⟨a1, a2, a3, a4, a5⟩ := F1
  obtain ⟨b1, b2, b3, b4, b5⟩ := F2
  refine ⟨by omega, fun r hr => ?_, fun r hr hs => ?_, fun i hi => ?_, b5.trans a5⟩
  · have := b2 r (by omega); have := a2 r hr; constructor <;> omega
  · have n4 : ¬ S4 h1 r := by
      unfold S4
      rw [R 0, R 1, R 2, R 3]
      exact hs
    obtain ⟨c1, c2, c3⟩ := b3 r (by omega) n4
    obtain ⟨d1, d2, d3⟩ := a3 r hr hs
    exact ⟨c1.trans d1, c2.trans d2, c3.trans d3⟩
  · obtain e | e := b4 i hi
    · rw [e]; exact Or.inl (R i)
    · exact Or.inr (by omega)
def FO (h g : AH) : Prop := ∀ r, r < hp_n h → r ≠ 90 → hp_i g r = hp_i h r ∧ hp_j g r = hp_j h r ∧ hp_r g r = hp_r h r
/-- the loop that carries the old states over -/
theorem st_grl (I : SI h L) {o0 o1 o2 ot : Nat} (eo : o0 = hp_r h 90 0 ∧ o1 = hp_r h 90 1 ∧ o2 = hp_r h 90 2 ∧ ot = hp_r h 90 3) {L' : Nat} : ∀ (n : Nat), n ≤ L → ∀ (fu : Nat) (g : AH), n < fu → SI g L' → (∀ i, i < 4 → hp_n h ≤ hp_r g 90 i) → FN h g → FO h g → (∀ y, VS g y → VS h y) →
    ∃ g', l_X9_grow_73 fu 90 o0 o1 o2 ot (nI (L - n)) g = some g' ∧ SI g' L' ∧ (∀ y, VS g' y → VS h y) ∧ FN g g' ∧ hp_n g' = hp_n g ∧ hp_s g' = hp_s g ∧ ∀ i, hp_r g' 90 i = hp_r g 90 i := by
  have hL := si_L I
  obtain ⟨rfl, rfl, rfl, rfl⟩ := eo
  have z90 : ∀ i, i < 4 → hp_r h 90 i ≠ 90 ∧ hp_r h 90 i < hp_n h := fun i hi => by
    have h9 := I.1.2.2
    have c : i = 0 ∨ i = 1 ∨ i = 2 ∨ i = 3 := by omega
    obtain rfl | rfl | rfl | rfl := c
    · exact ⟨fun e => by have := I.2.1.1.2.2; rw [e] at this; omega, I.2.1.1.2.1⟩
    · exact ⟨fun e => by have := I.2.2.1.1.2.2; rw [e] at this; omega, I.2.2.1.1.2.1⟩
    · exact ⟨fun e => by have := I.2.2.2.1.1.2.2; rw [e] at this; omega, I.2.2.2.1.1.2.1⟩
    · exact ⟨fun e => by have := I.2.2.2.2.1.1.2.2; rw [e] at this; omega, I.2.2.2.2.1.1.2.1⟩
  intro n
  induction n with
  | zero =>
    intro _ fu g hf S R F O V
    obtain ⟨fu, rfl⟩ : ∃ f, fu = f + 1 := ⟨fu - 1, by omega⟩
    refine ⟨g, ?_, S, V, FN_rf, rfl, rfl, fun _ => rfl⟩
    show b_X9_grow_73 (l_X9_grow_73 fu) 90 _ _ _ _ (nI (L - 0)) g = _
    have hk := F.2.1 (hp_r h 90 3) (z90 3 (by omega)).2
    have al : al_n g (hp_r h 90 3) = some (nI L) := by
      have e : al_n g (hp_r h 90 3) = some (Int32.ofNat (hp_l g (hp_r h 90 3))) := if_pos ⟨I.2.2.2.2.1.1.1, by have := F.1; have := (z90 3 (by omega)).2; omega, by rw [hk.1, I.2.2.2.2.1.1.2.2]; omega, by rw [hk.1, I.2.2.2.2.1.1.2.2]; omega⟩
      rw [e, hk.2, I.2.2.2.2.1.2]; rfl
    unfold b_X9_grow_73
    rw [al, Option.bind_some, if_pos (nI_le (by omega) (by omega))]
    rfl
  | succ n ih =>
    intro hn fu g hf S R F O V
    obtain ⟨fu, rfl⟩ : ∃ f, fu = f + 1 := ⟨fu - 1, by omega⟩
    have hs : nI (L - (n + 1)) + 1 = nI (L - n) := by rw [nI_1]; congr 1; omega
    have hin : m_in (nI (L - (n + 1))) L := m_in_nI (by omega) (by omega)
    have old : ∀ i, i < 4 → hp_k g (hp_r h 90 i) = hp_k h (hp_r h 90 i) ∧ hp_l g (hp_r h 90 i) = hp_l h (hp_r h 90 i) ∧ hp_r h 90 i < hp_n g := fun i hi => by
      have := F.2.1 (hp_r h 90 i) (z90 i hi).2
      exact ⟨this.1, this.2, by have := F.1; have := (z90 i hi).2; omega⟩
    have okj : ∀ i, i < 3 → ok_o h (hp_r h 90 i) 101 ∧ hp_l h (hp_r h 90 i) = L := fun i hi => by
      have c : i = 0 ∨ i = 1 ∨ i = 2 := by omega
      obtain rfl | rfl | rfl := c
      · exact I.2.1
      · exact I.2.2.1
      · exact I.2.2.2.1
    have lj : ∀ i, i < 3 → l_j g (hp_r h 90 i) (nI (L - (n + 1))) = some (hp_j h (hp_r h 90 i) (L - (n + 1))) := fun i hi => by
      have e : l_j g (hp_r h 90 i) (nI (L - (n + 1))) = some (hp_j g (hp_r h 90 i) (nI (L - (n + 1))).toNatClampNeg) := if_pos ⟨⟨(okj i hi).1.1, (old i (by omega)).2.2, by rw [(old i (by omega)).1]; exact (okj i hi).1.2.2⟩, hin.1, by rw [(old i (by omega)).2.1, (okj i hi).2]; exact hin.2⟩
      rw [e, nI_clamp (by omega), (O _ (z90 i (by omega)).2 (z90 i (by omega)).1).2.1]
    have li : l_i g (hp_r h 90 3) (nI (L - (n + 1))) = some (hp_i h (hp_r h 90 3) (L - (n + 1))) := by
      have e : l_i g (hp_r h 90 3) (nI (L - (n + 1))) = some (hp_i g (hp_r h 90 3) (nI (L - (n + 1))).toNatClampNeg) := if_pos ⟨⟨I.2.2.2.2.1.1.1, (old 3 (by omega)).2.2, by rw [(old 3 (by omega)).1]; exact I.2.2.2.2.1.1.2.2⟩, hin.1, by rw [(old 3 (by omega)).2.1, I.2.2.2.2.1.2]; exact hin.2⟩
      rw [e, nI_clamp (by omega), (O _ (z90 3 (by omega)).2 (z90 3 (by omega)).1).1]
    have al : al_n g (hp_r h 90 3) = some (nI L) := by
      have e : al_n g (hp_r h 90 3) = some (Int32.ofNat (hp_l g (hp_r h 90 3))) := if_pos ⟨I.2.2.2.2.1.1.1, (old 3 (by omega)).2.2, by rw [(old 3 (by omega)).1, I.2.2.2.2.1.1.2.2]; omega, by rw [(old 3 (by omega)).1, I.2.2.2.2.1.1.2.2]; omega⟩
      rw [e, (old 3 (by omega)).2.1, I.2.2.2.2.1.2]; rfl
    have tn : hp_i g 90 4 = hp_i h 90 4 := F.2.2.2.2
    show ∃ g', b_X9_grow_73 (l_X9_grow_73 fu) 90 _ _ _ _ (nI (L - (n + 1))) g = some g' ∧ _
    unfold b_X9_grow_73
    rw [al, Option.bind_some, if_neg (nI_ge (by omega) (by omega))]
    unfold b_X9_grow_81
    rw [li, Option.bind_some, si_gi S, Option.bind_some, tn]
    have stay : ∃ g', b_X9_grow_135 (l_X9_grow_73 fu) 90 (hp_r h 90 0) (hp_r h 90 1) (hp_r h 90 2) (hp_r h 90 3) (nI (L - (n + 1))) g = some g' ∧ SI g' L' ∧ (∀ y, VS g' y → VS h y) ∧ FN g g' ∧ hp_n g' = hp_n g ∧ hp_s g' = hp_s g ∧ ∀ i, hp_r g' 90 i = hp_r g 90 i := by
      unfold b_X9_grow_135
      rw [hs]
      exact ih (by omega) fu g (by omega) S R F O V
    by_cases ht : hp_i h (hp_r h 90 3) (L - (n + 1)) = hp_i h 90 4
    · rw [if_pos ht]
      unfold b_X9_grow_93
      rw [lj 0 (by omega), Option.bind_some, lj 1 (by omega), Option.bind_some, lj 2 (by omega), Option.bind_some, show ok_v g 90 9 = some () from if_pos S.1, Option.bind_some]
      obtain ⟨r, r1, r2⟩ := st_so S ((hp_j h (hp_r h 90 0) (L - (n + 1)), hp_j h (hp_r h 90 1) (L - (n + 1)), hp_j h (hp_r h 90 2) (L - (n + 1))) : KY)
      rw [r1, Option.bind_some]
      by_cases hr : r = -1
      · rw [if_pos hr]; exact stay
      · rw [if_neg hr]
        obtain e | ⟨r3, -⟩ := r2
        · exact absurd e hr
        rw [S.2.2.2.2.1.2] at r3
        unfold b_X9_grow_117
        rw [lj 0 (by omega), Option.bind_some, lj 1 (by omega), Option.bind_some, lj 2 (by omega), Option.bind_some, show ok_v g 90 9 = some () from if_pos S.1, Option.bind_some, st_put S ((hp_j h (hp_r h 90 0) (L - (n + 1)), hp_j h (hp_r h 90 1) (L - (n + 1)), hp_j h (hp_r h 90 2) (L - (n + 1))) : KY) r3, Option.bind_some]
        unfold b_X9_grow_135
        rw [hs]
        have P := put_fn (j := ix r) (y := ((hp_j h (hp_r h 90 0) (L - (n + 1)), hp_j h (hp_r h 90 1) (L - (n + 1)), hp_j h (hp_r h 90 2) (L - (n + 1))) : KY)) S
        have hF : FN h (hput g (ix r) ((hp_j h (hp_r h 90 0) (L - (n + 1)), hp_j h (hp_r h 90 1) (L - (n + 1)), hp_j h (hp_r h 90 2) (L - (n + 1))) : KY)) := by
          obtain ⟨a1, a2, a3, a4, a5⟩ := F
          refine ⟨a1, a2, fun x hx hsx => ?_, a4, P.2.2.2.2.trans a5⟩
          have n4 : ¬ S4 g x := by
            rintro (e | e | e | e | e)
            · exact hsx (Or.inl e)
            · have := R 0 (by omega); omega
            · have := R 1 (by omega); omega
            · have := R 2 (by omega); omega
            · have := R 3 (by omega); omega
          obtain ⟨c1, c2, c3⟩ := P.2.2.1 x (by omega) n4
          obtain ⟨d1, d2, d3⟩ := a3 x hx hsx
          exact ⟨c1.trans d1, c2.trans d2, c3.trans d3⟩
        have hO : FO h (hput g (ix r) ((hp_j h (hp_r h 90 0) (L - (n + 1)), hp_j h (hp_r h 90 1) (L - (n + 1)), hp_j h (hp_r h 90 2) (L - (n + 1))) : KY)) := by
          intro x hx hsx
          have n4 : ¬ S4 g x := by
            rintro (e | e | e | e | e)
            · exact hsx e
            · have := R 0 (by omega); omega
            · have := R 1 (by omega); omega
            · have := R 2 (by omega); omega
            · have := R 3 (by omega); omega
          obtain ⟨c1, c2, c3⟩ := P.2.2.1 x (by have := F.1; omega) n4
          obtain ⟨d1, d2, d3⟩ := O x hx hsx
          exact ⟨c1.trans d1, c2.trans d2, c3.trans d3⟩
        obtain ⟨g', q1, q2, q3, q4, q5, q6, q7⟩ := ih (by omega) fu _ (by omega) (put_si S) R hF hO (fun y hy => by
          obtain h1 | h1 := put_vs S hy
          · exact V y h1
          · rw [h1]
            exact ⟨L - (n + 1), by rw [I.2.2.2.2.1.2]; omega, ht, rfl, rfl, rfl⟩)
        exact ⟨g', q1, q2, q3, FN_sm (h1 := hput g (ix r) ((hp_j h (hp_r h 90 0) (L - (n + 1)), hp_j h (hp_r h 90 1) (L - (n + 1)), hp_j h (hp_r h 90 2) (L - (n + 1))) : KY)) (fun _ => rfl) rfl P q4, q5, q6, q7⟩
    · rw [if_neg ht]; exact stay
theorem st_grow (I : SI h L) (hL : L < 32768) : ∃ h', f_X9_grow 90 h = some h' ∧ SI h' (2 * L) ∧ (∀ y, VS h' y → VS h y) ∧ FN h h' ∧ hp_n h' = hp_n h + 4 ∧ hp_s h' = hp_s h + 8 * L := by
  have hLL := si_L I
  obtain ⟨S, V, F, N, M⟩ := hgr_si I hL
  have h90 := I.1.2.1
  obtain ⟨r0, r1, r2, r3⟩ := hgr_r (h := h) (L := 2 * L) h90
  have hR : ∀ i, i < 4 → hp_n h ≤ hp_r (hgr h (2 * L)) 90 i := fun i hi => by
    have c : i = 0 ∨ i = 1 ∨ i = 2 ∨ i = 3 := by omega
    obtain rfl | rfl | rfl | rfl := c <;> omega
  obtain ⟨g', q1, q2, q3, q4, q5, q6, q7⟩ := st_grl I ⟨rfl, rfl, rfl, rfl⟩ L (Nat.le_refl L) fu_ (hgr h (2 * L)) (by unfold fu_; omega) S hR F (fun r hr h9 => (hgr_old hr h9).2.2) (fun y hy => absurd hy (V y))
  refine ⟨g', ?_, q2, q3, FN_tr (by omega) hR F q4, by omega, by omega⟩
  rw [← q1, Nat.sub_self]
  have z3 := I.2.2.2.2.1.1.2.1
  have z90 : hp_r h 90 3 ≠ 90 := si_t90 I
  have two : (2 : Int32) * nI L = nI (2 * L) := pk_mul 2 L
  have al : ∀ (g : AH) (c k : Nat), hp_n h ≤ hp_n g → (∀ r, r < hp_n h → hp_k g r = hp_k h r ∧ hp_l g r = hp_l h r) → al_n g (hp_r h 90 3) = some (nI L) := fun g c k a b => by
    have e : al_n g (hp_r h 90 3) = some (Int32.ofNat (hp_l g (hp_r h 90 3))) := if_pos ⟨I.2.2.2.2.1.1.1, by omega, by rw [(b _ z3).1, I.2.2.2.2.1.1.2.2]; omega, by rw [(b _ z3).1, I.2.2.2.2.1.1.2.2]; omega⟩
    rw [e, (b _ z3).2, I.2.2.2.2.1.2]; rfl
  have na : ∀ (g : AH) (c : Nat), n_a g c (nI (2 * L)) = some (st_n g c (2 * L)) := fun g c => by
    have e : n_a g c (nI (2 * L)) = some (st_n g c (nI (2 * L)).toNatClampNeg) := if_pos ⟨nI_pos (by omega), by rw [nI_clamp (by omega)]; omega⟩
    rw [e, nI_clamp (by omega)]
  have k90 : ∀ (g : AH), 90 < hp_n g → hp_k g 90 = 9 → ∀ k v, p_r g 90 9 k v = some (st_r g 90 k v) := fun g a b k v => if_pos ⟨by decide, a, b⟩
  have o1 : ∀ r, r < hp_n h → hp_k (hA h (2 * L)) r = hp_k h r ∧ hp_l (hA h (2 * L)) r = hp_l h r := fun r hr => ⟨hg1_k hr, hg1_l hr⟩
  have o2 : ∀ r, r < hp_n h → hp_k (hB h (2 * L)) r = hp_k h r ∧ hp_l (hB h (2 * L)) r = hp_l h r := fun r hr => ⟨(hg1_k (h := hA h (2 * L)) (show r < hp_n h + 1 by omega)).trans (o1 r hr).1, (hg1_l (h := hA h (2 * L)) (show r < hp_n h + 1 by omega)).trans (o1 r hr).2⟩
  have o3 : ∀ r, r < hp_n h → hp_k (hC h (2 * L)) r = hp_k h r ∧ hp_l (hC h (2 * L)) r = hp_l h r := fun r hr => ⟨(hg1_k (h := hB h (2 * L)) (show r < hp_n h + 2 by omega)).trans (o2 r hr).1, (hg1_l (h := hB h (2 * L)) (show r < hp_n h + 2 by omega)).trans (o2 r hr).2⟩
  have o4 : ∀ r, r < hp_n h → hp_k (hD h (2 * L)) r = hp_k h r ∧ hp_l (hD h (2 * L)) r = hp_l h r := fun r hr => ⟨(hg1_k (h := hC h (2 * L)) (show r < hp_n h + 3 by omega)).trans (o3 r hr).1, (hg1_l (h := hC h (2 * L)) (show r < hp_n h + 3 by omega)).trans (o3 r hr).2⟩
  have kk : ∀ (g : AH) (c : Nat), 90 < hp_n g → hp_k g 90 = 9 → hp_k (st_n g c (2 * L)) 90 = 9 := fun g c a b => by
    show up_1 (hp_k g) (hp_n g) c 90 = 9
    rw [up_ne (by omega)]; exact b
  have b0 : hp_k h 90 = 9 := I.1.2.2
  unfold f_X9_grow b_X9_grow_0
  rw [si_g I, Option.bind_some, si_g I, Option.bind_some, si_g I, Option.bind_some, si_g I, Option.bind_some, si_al I, Option.bind_some, two, na, Option.bind_some]
  rw [k90 (st_n h 101 (2 * L)) (by show 90 < hp_n h + 1; omega) (kk h 101 h90 b0), Option.bind_some]
  rw [show st_r (st_n h 101 (2 * L)) 90 0 (hp_n h) = hA h (2 * L) from rfl, al (hA h (2 * L)) 0 0 (by show hp_n h ≤ hp_n h + 1; omega) o1, Option.bind_some, two, na, Option.bind_some]
  rw [k90 (st_n (hA h (2 * L)) 101 (2 * L)) (by show 90 < hp_n h + 2; omega) (kk _ 101 (by show 90 < hp_n h + 1; omega) ((o1 90 h90).1.trans b0)), Option.bind_some]
  rw [show st_r (st_n (hA h (2 * L)) 101 (2 * L)) 90 1 (hp_n (hA h (2 * L))) = hB h (2 * L) from rfl, al (hB h (2 * L)) 0 0 (by show hp_n h ≤ hp_n h + 2; omega) o2, Option.bind_some, two, na, Option.bind_some]
  rw [k90 (st_n (hB h (2 * L)) 101 (2 * L)) (by show 90 < hp_n h + 3; omega) (kk _ 101 (by show 90 < hp_n h + 2; omega) ((o2 90 h90).1.trans b0)), Option.bind_some]
  rw [show st_r (st_n (hB h (2 * L)) 101 (2 * L)) 90 2 (hp_n (hB h (2 * L))) = hC h (2 * L) from rfl, al (hC h (2 * L)) 0 0 (by show hp_n h ≤ hp_n h + 3; omega) o3, Option.bind_some, two, na, Option.bind_some]
  rw [k90 (st_n (hC h (2 * L)) 100 (2 * L)) (by show 90 < hp_n h + 4; omega) (kk _ 100 (by show 90 < hp_n h + 3; omega) ((o3 90 h90).1.trans b0)), Option.bind_some]
  rw [show st_r (st_n (hC h (2 * L)) 100 (2 * L)) 90 3 (hp_n (hC h (2 * L))) = hD h (2 * L) from rfl]
  rw [show p_i (hD h (2 * L)) 90 9 5 0 = some (hgr h (2 * L)) from if_pos ⟨by decide, by show 90 < hp_n h + 4; omega, (o4 90 h90).1.trans b0⟩, Option.bind_some]
  rfl
/-- a look at a state -/
theorem st_look (I : SI h L) (y : KY) : ∃ b h', b_X9_isNew_28 90 y.1 y.2.1 y.2.2 h = some (b, h') ∧ SI h' L ∧ (b = 0 → VS h y) ∧ (∀ z, VS h' z → VS h z ∨ z = y) ∧ FN h h' ∧ hp_n h' = hp_n h ∧ hp_s h' = hp_s h := by
  have hL := si_L I
  obtain ⟨r, r1, r2⟩ := st_so I y
  unfold b_X9_isNew_28
  rw [show ok_v h 90 9 = some () from if_pos I.1, Option.bind_some, r1, Option.bind_some]
  by_cases hr : r = -1
  · rw [if_pos hr]
    exact ⟨1, h, ok_z_1, I, fun e => absurd e (by decide), fun z hz => Or.inl hz, FN_rf, rfl, rfl⟩
  · rw [if_neg hr]
    obtain e | ⟨r3, r4⟩ := r2
    · exact absurd e hr
    have r3' := r3
    rw [I.2.2.2.2.1.2] at r3
    unfold b_X9_isNew_46
    rw [si_g I, Option.bind_some, si_li I r3, Option.bind_some, si_gi I, Option.bind_some]
    by_cases ht : hp_i h (hp_r h 90 3) (ix r) = hp_i h 90 4
    · rw [if_pos ht]
      obtain ⟨k1, k2, k3⟩ := r4 ht
      exact ⟨0, h, ok_z_0, I, fun _ => ⟨ix r, r3'.2, ht, k1, k2, k3⟩, fun z hz => Or.inl hz, FN_rf, rfl, rfl⟩
    · rw [if_neg ht]
      unfold b_X9_isNew_62
      rw [si_gi I, Option.bind_some, si_g I, Option.bind_some, si_al I, Option.bind_some, Option.bind_some, si_al I, Option.bind_some, show dv_i (nI L) 8 = some (nI L / 8) from if_neg (by decide), Option.bind_some]
      split
      · exact ⟨1, h, ok_z_1, I, fun e => absurd e (by decide), fun z hz => Or.inl hz, FN_rf, rfl, rfl⟩
      · unfold b_X9_isNew_83
        rw [show ok_v h 90 9 = some () from if_pos I.1, Option.bind_some, st_put I y r3, Option.bind_some]
        exact ⟨1, _, ok_z_1, put_si I, fun e => absurd e (by decide), fun z hz => put_vs I hz, put_fn I, rfl, rfl⟩
theorem st_new (I : SI h L) (y : KY) : ∃ b h' L', f_X9_isNew 90 y.1 y.2.1 y.2.2 h = some (b, h') ∧ SI h' L' ∧ (b = 0 → VS h y) ∧ (∀ z, VS h' z → VS h z ∨ z = y) ∧ FN h h' ∧ hp_n h' + L ≤ hp_n h + L' ∧ hp_s h' + 8 * L ≤ hp_s h + 8 * L' := by
  have hL := si_L I
  have look : ∃ b h' L', b_X9_isNew_28 90 y.1 y.2.1 y.2.2 h = some (b, h') ∧ SI h' L' ∧ (b = 0 → VS h y) ∧ (∀ z, VS h' z → VS h z ∨ z = y) ∧ FN h h' ∧ hp_n h' + L ≤ hp_n h + L' ∧ hp_s h' + 8 * L ≤ hp_s h + 8 * L' := by
    obtain ⟨b, h', a1, a2, a3, a4, a5, a6, a7⟩ := st_look I y
    exact ⟨b, h', L, a1, a2, a3, a4, a5, by omega, by omega⟩
  unfold f_X9_isNew b_X9_isNew_0
  rw [si_gi I, Option.bind_some, si_g I, Option.bind_some, si_al I, Option.bind_some, show dv_i (nI L) 2 = some (nI L / 2) from if_neg (by decide), Option.bind_some]
  split
  · exact look
  · unfold b_X9_isNew_14
    rw [si_g I, Option.bind_some, si_al I, Option.bind_some]
    split
    · exact look
    · rename_i h32
      have hlt : L < 32768 := by
        apply Nat.lt_of_not_le
        intro h
        exact h32 (nI_le (a := 32768) h (by omega))
      obtain ⟨g, g1, g2, g3, g4, g5, g6⟩ := st_grow I hlt
      unfold b_X9_isNew_24
      rw [show ok_v h 90 9 = some () from if_pos I.1, Option.bind_some, g1, Option.bind_some]
      obtain ⟨b, h', a1, a2, a3, a4, a5, a6, a7⟩ := st_look g2 y
      refine ⟨b, h', 2 * L, a1, a2, fun e => g3 y (a3 e), fun z hz => (a4 z hz).imp (g3 z) id, ?_, by omega, by omega⟩
      have hR : ∀ i, i < 4 → hp_r h' 90 i = hp_r g 90 i ∨ hp_n g ≤ hp_r h' 90 i := a5.2.2.2.1
      obtain ⟨b1, b2, b3, b4, b5⟩ := g4
      obtain ⟨c1, c2, c3, c4, c5⟩ := a5
      have gn : ∀ i, i < 4 → hp_n h ≤ hp_r g 90 i ∨ hp_r g 90 i = hp_r h 90 i := fun i hi => (b4 i hi).symm
      refine ⟨by omega, fun r hr => ⟨(c2 r (by omega)).1.trans (b2 r hr).1, (c2 r (by omega)).2.trans (b2 r hr).2⟩, fun r hr hs => ?_, fun i hi => ?_, c5.trans b5⟩
      · have n4 : ¬ S4 g r := by
          rintro (e | e | e | e | e)
          · exact hs (Or.inl e)
          · obtain h1 | h1 := gn 0 (by omega)
            · omega
            · exact hs (Or.inr (Or.inl (e.trans h1)))
          · obtain h1 | h1 := gn 1 (by omega)
            · omega
            · exact hs (Or.inr (Or.inr (Or.inl (e.trans h1))))
          · obtain h1 | h1 := gn 2 (by omega)
            · omega
            · exact hs (Or.inr (Or.inr (Or.inr (Or.inl (e.trans h1)))))
          · obtain h1 | h1 := gn 3 (by omega)
            · omega
            · exact hs (Or.inr (Or.inr (Or.inr (Or.inr (e.trans h1)))))
        obtain ⟨d1, d2, d3⟩ := c3 r (by omega) n4
        obtain ⟨f1, f2, f3⟩ := b3 r hr hs
        exact ⟨d1.trans f1, d2.trans f2, d3.trans f3⟩
      · obtain h1 | h1 := hR i hi
        · rw [h1]; exact b4 i hi
        · exact Or.inr (by omega)
end
