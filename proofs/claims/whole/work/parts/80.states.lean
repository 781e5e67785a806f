/-! ===== the class's memory of states ===== -/
/-- no slot bears a turn beyond the present one -/
def TB (h : AH) (b : Nat) : Prop := ∀ j, j < hp_l h (hp_r h 90 3) → ∃ m, m ≤ b ∧ hp_i h (hp_r h 90 3) j = nI m
def TBX (h : AH) : Prop := ∃ tn, hp_i h 90 4 = nI tn ∧ 0 < tn ∧ tn < 2 ^ 30 ∧ TB h tn
theorem tbx_ne {h : AH} (T : TBX h) : hp_i h 90 4 ≠ 0 := by
  obtain ⟨tn, e, h1, h2, -⟩ := T
  rw [e]; exact nI_ne0 h1 (by omega)
/-- the memory's rows: L slots -/
def SI (h : AH) (L : Nat) : Prop :=
  ok_o h 90 9 ∧ (ok_o h (hp_r h 90 0) 101 ∧ hp_l h (hp_r h 90 0) = L) ∧ (ok_o h (hp_r h 90 1) 101 ∧ hp_l h (hp_r h 90 1) = L) ∧ (ok_o h (hp_r h 90 2) 101 ∧ hp_l h (hp_r h 90 2) = L) ∧ (ok_o h (hp_r h 90 3) 100 ∧ hp_l h (hp_r h 90 3) = L) ∧
  hp_r h 90 0 ≠ hp_r h 90 1 ∧ hp_r h 90 0 ≠ hp_r h 90 2 ∧ hp_r h 90 1 ≠ hp_r h 90 2 ∧ (∃ k, L = 2 ^ k ∧ 8 ≤ k ∧ k ≤ 15) ∧ TBX h
def VS (h : AH) (y : KY) : Prop := ∃ j, j < hp_l h (hp_r h 90 3) ∧ hp_i h (hp_r h 90 3) j = hp_i h 90 4 ∧ hp_j h (hp_r h 90 0) j = y.1 ∧ hp_j h (hp_r h 90 1) j = y.2.1 ∧ hp_j h (hp_r h 90 2) j = y.2.2
def S4 (h : AH) (r : Nat) : Prop := r = 90 ∨ r = hp_r h 90 0 ∨ r = hp_r h 90 1 ∨ r = hp_r h 90 2 ∨ r = hp_r h 90 3
/-- what a call of the memory leaves alone -/
def FN (h h' : AH) : Prop :=
  hp_n h ≤ hp_n h' ∧ (∀ r, r < hp_n h → hp_k h' r = hp_k h r ∧ hp_l h' r = hp_l h r) ∧ (∀ r, r < hp_n h → ¬ S4 h r → hp_i h' r = hp_i h r ∧ hp_j h' r = hp_j h r ∧ hp_r h' r = hp_r h r) ∧
  (∀ i, i < 4 → hp_r h' 90 i = hp_r h 90 i ∨ hp_n h ≤ hp_r h' 90 i) ∧ hp_i h' 90 4 = hp_i h 90 4
theorem FN_rf {h : AH} : FN h h := ⟨Nat.le_refl _, fun _ _ => ⟨rfl, rfl⟩, fun _ _ _ => ⟨rfl, rfl, rfl⟩, fun _ _ => Or.inl rfl, rfl⟩
section
variable {h : AH} {L : Nat}
theorem si_L (I : SI h L) : 256 ≤ L ∧ L ≤ 32768 := by
  obtain ⟨k, rfl, h1, h2⟩ := I.2.2.2.2.2.2.2.2.1
  exact ⟨show 2 ^ 8 ≤ 2 ^ k from Nat.pow_le_pow_right (by decide) h1, show 2 ^ k ≤ 2 ^ 15 from Nat.pow_le_pow_right (by decide) h2⟩
theorem si_al (I : SI h L) : al_n h (hp_r h 90 3) = some (nI L) := by
  have e : al_n h (hp_r h 90 3) = some (Int32.ofNat (hp_l h (hp_r h 90 3))) := if_pos ⟨I.2.2.2.2.1.1.1, I.2.2.2.2.1.1.2.1, by rw [I.2.2.2.2.1.1.2.2]; omega, by rw [I.2.2.2.2.1.1.2.2]; omega⟩
  rw [e, I.2.2.2.2.1.2]; rfl
theorem si_in {x : Int32} (I : SI h L) : m_in (x &&& (nI L - 1)) L := by
  have hL := si_L I
  obtain ⟨k, rfl, h1, h2⟩ := I.2.2.2.2.2.2.2.2.1
  rw [show (1 : Int32) = nI 1 from rfl, pk_sub (by omega)]
  exact m_and x k (nI_tn (by omega)) (by omega)
theorem si_g (I : SI h L) (i : Nat) : g_r h 90 9 i = some (hp_r h 90 i) := if_pos I.1
theorem si_gi (I : SI h L) (i : Nat) : g_i h 90 9 i = some (hp_i h 90 i) := if_pos I.1
theorem si_lj0 (I : SI h L) {x : Int32} (hx : m_in x L) : l_j h (hp_r h 90 0) x = some (hp_j h (hp_r h 90 0) (ix x)) := if_pos ⟨I.2.1.1, hx.1, by rw [I.2.1.2]; exact hx.2⟩
theorem si_lj1 (I : SI h L) {x : Int32} (hx : m_in x L) : l_j h (hp_r h 90 1) x = some (hp_j h (hp_r h 90 1) (ix x)) := if_pos ⟨I.2.2.1.1, hx.1, by rw [I.2.2.1.2]; exact hx.2⟩
theorem si_lj2 (I : SI h L) {x : Int32} (hx : m_in x L) : l_j h (hp_r h 90 2) x = some (hp_j h (hp_r h 90 2) (ix x)) := if_pos ⟨I.2.2.2.1.1, hx.1, by rw [I.2.2.2.1.2]; exact hx.2⟩
theorem si_li (I : SI h L) {x : Int32} (hx : m_in x L) : l_i h (hp_r h 90 3) x = some (hp_i h (hp_r h 90 3) (ix x)) := if_pos ⟨I.2.2.2.2.1.1, hx.1, by rw [I.2.2.2.2.1.2]; exact hx.2⟩
theorem lg0 {x y : Int64} : lg_cmp x y = 0 ↔ x = y := by
  unfold lg_cmp
  constructor
  · intro e
    split at e
    · exact absurd e (by decide)
    · split at e
      · rename_i h; exact h
      · exact absurd e (by decide)
  · intro e
    subst e
    rw [if_neg (by exact Int64.lt_irrefl), if_pos rfl]
/-- a slot: free, or the state's own -/
def SO (h : AH) (y : KY) (x : Int32) : Prop := x = -1 ∨ (m_in x (hp_l h (hp_r h 90 3)) ∧ (hp_i h (hp_r h 90 3) (ix x) = hp_i h 90 4 → hp_j h (hp_r h 90 0) (ix x) = y.1 ∧ hp_j h (hp_r h 90 1) (ix x) = y.2.1 ∧ hp_j h (hp_r h 90 2) (ix x) = y.2.2))
theorem st_sol (I : SI h L) (y : KY) : ∀ (n : Nat), n ≤ L → ∀ (fu : Nat) (x : Int32), n < fu → m_in x L → ∃ r, l_X9_slotOf_49 fu 90 y.1 y.2.1 y.2.2 (nI L - 1) x (nI (L - n)) h = some (r, h) ∧ SO h y r := by
  have hL := si_L I
  intro n
  induction n with
  | zero =>
    intro _ fu x hf hx
    obtain ⟨fu, rfl⟩ : ∃ f, fu = f + 1 := ⟨fu - 1, by omega⟩
    refine ⟨-1, ?_, Or.inl rfl⟩
    show b_X9_slotOf_49 (l_X9_slotOf_49 fu) 90 y.1 y.2.1 y.2.2 (nI L - 1) x (nI (L - 0)) h = _
    unfold b_X9_slotOf_49
    rw [if_pos (by rw [show (1 : Int32) = nI 1 from rfl, pk_sub (by omega)]; exact nI_lt (by omega) (by omega))]
    rfl
  | succ n ih =>
    intro hn fu x hf hx
    obtain ⟨fu, rfl⟩ : ∃ f, fu = f + 1 := ⟨fu - 1, by omega⟩
    have hs : nI (L - (n + 1)) + 1 = nI (L - n) := by rw [nI_1]; congr 1; omega
    have next : ∃ r, b_X9_slotOf_110 (l_X9_slotOf_49 fu) 90 y.1 y.2.1 y.2.2 (nI L - 1) x (nI (L - (n + 1))) h = some (r, h) ∧ SO h y r := by
      unfold b_X9_slotOf_110
      rw [hs]
      exact ih (by omega) fu _ (by omega) (si_in I)
    show ∃ r, b_X9_slotOf_49 (l_X9_slotOf_49 fu) 90 y.1 y.2.1 y.2.2 (nI L - 1) x (nI (L - (n + 1))) h = _ ∧ _
    unfold b_X9_slotOf_49
    rw [if_neg (by rw [show (1 : Int32) = nI 1 from rfl, pk_sub (by omega)]; exact nI_nlt (by omega) (by omega))]
    unfold b_X9_slotOf_56
    rw [si_g I, Option.bind_some, si_li I hx, Option.bind_some, si_gi I, Option.bind_some]
    have hxL : m_in x (hp_l h (hp_r h 90 3)) := by rw [I.2.2.2.2.1.2]; exact hx
    by_cases h1 : hp_i h (hp_r h 90 3) (ix x) = hp_i h 90 4
    · rw [if_pos h1]
      unfold b_X9_slotOf_70
      rw [si_g I, Option.bind_some, si_lj0 I hx, Option.bind_some]
      by_cases h2 : hp_j h (hp_r h 90 0) (ix x) = y.1
      · rw [if_pos (lg0.mpr h2)]
        unfold b_X9_slotOf_82
        rw [si_g I, Option.bind_some, si_lj1 I hx, Option.bind_some]
        by_cases h3 : hp_j h (hp_r h 90 1) (ix x) = y.2.1
        · rw [if_pos (lg0.mpr h3)]
          unfold b_X9_slotOf_94
          rw [si_g I, Option.bind_some, si_lj2 I hx, Option.bind_some]
          by_cases h4 : hp_j h (hp_r h 90 2) (ix x) = y.2.2
          · rw [if_pos (lg0.mpr h4)]
            exact ⟨x, rfl, Or.inr ⟨hxL, fun _ => ⟨h2, h3, h4⟩⟩⟩
          · rw [if_neg (fun e => h4 (lg0.mp e))]; exact next
        · rw [if_neg (fun e => h3 (lg0.mp e))]; exact next
      · rw [if_neg (fun e => h2 (lg0.mp e))]; exact next
    · rw [if_neg h1]
      exact ⟨x, rfl, Or.inr ⟨hxL, fun e => absurd e h1⟩⟩
theorem st_so (I : SI h L) (y : KY) : ∃ r, f_X9_slotOf 90 y.1 y.2.1 y.2.2 h = some (r, h) ∧ SO h y r := by
  have hL := si_L I
  unfold f_X9_slotOf b_X9_slotOf_0
  rw [si_g I, Option.bind_some, si_al I, Option.bind_some]
  have := st_sol I y L (Nat.le_refl L) fu_
  rw [Nat.sub_self] at this
  exact this _ (by unfold fu_; omega) (si_in I)
def hput (h : AH) (j : Nat) (y : KY) : AH := st_i (st_j (st_j (st_j (st_i h (hp_r h 90 3) j (hp_i h 90 4)) (hp_r h 90 0) j y.1) (hp_r h 90 1) j y.2.1) (hp_r h 90 2) j y.2.2) 90 5 (hp_i (st_i h (hp_r h 90 3) j (hp_i h 90 4)) 90 5 + 1)
theorem st_put (I : SI h L) (y : KY) {x : Int32} (hx : m_in x L) : f_X9_put 90 x y.1 y.2.1 y.2.2 h = some (hput h (ix x) y) := by
  have h0 : ∀ (g : AH), hp_n g = hp_n h → hp_k g = hp_k h → hp_r g = hp_r h → ok_o g 90 9 := fun g a b c => by
    show 64 ≤ 90 ∧ 90 < hp_n g ∧ hp_k g 90 = 9
    rw [a, b]; exact I.1
  unfold f_X9_put b_X9_put_0
  rw [si_g I, Option.bind_some, si_gi I, Option.bind_some]
  rw [show s_i h (hp_r h 90 3) x (hp_i h 90 4) = some (st_i h (hp_r h 90 3) (ix x) (hp_i h 90 4)) from if_pos ⟨I.2.2.2.2.1.1, hx.1, by rw [I.2.2.2.2.1.2]; exact hx.2⟩, Option.bind_some]
  rw [show g_r (st_i h (hp_r h 90 3) (ix x) (hp_i h 90 4)) 90 9 0 = some (hp_r h 90 0) from if_pos I.1, Option.bind_some]
  rw [show s_j (st_i h (hp_r h 90 3) (ix x) (hp_i h 90 4)) (hp_r h 90 0) x y.1 = some (st_j (st_i h (hp_r h 90 3) (ix x) (hp_i h 90 4)) (hp_r h 90 0) (ix x) y.1) from if_pos ⟨I.2.1.1, hx.1, by show _ < hp_l h (hp_r h 90 0); rw [I.2.1.2]; exact hx.2⟩, Option.bind_some]
  rw [show g_r (st_j (st_i h (hp_r h 90 3) (ix x) (hp_i h 90 4)) (hp_r h 90 0) (ix x) y.1) 90 9 1 = some (hp_r h 90 1) from if_pos I.1, Option.bind_some]
  rw [show s_j (st_j (st_i h (hp_r h 90 3) (ix x) (hp_i h 90 4)) (hp_r h 90 0) (ix x) y.1) (hp_r h 90 1) x y.2.1 = some (st_j (st_j (st_i h (hp_r h 90 3) (ix x) (hp_i h 90 4)) (hp_r h 90 0) (ix x) y.1) (hp_r h 90 1) (ix x) y.2.1) from if_pos ⟨I.2.2.1.1, hx.1, by show _ < hp_l h (hp_r h 90 1); rw [I.2.2.1.2]; exact hx.2⟩, Option.bind_some]
  rw [show g_r (st_j (st_j (st_i h (hp_r h 90 3) (ix x) (hp_i h 90 4)) (hp_r h 90 0) (ix x) y.1) (hp_r h 90 1) (ix x) y.2.1) 90 9 2 = some (hp_r h 90 2) from if_pos I.1, Option.bind_some]
  rw [show s_j (st_j (st_j (st_i h (hp_r h 90 3) (ix x) (hp_i h 90 4)) (hp_r h 90 0) (ix x) y.1) (hp_r h 90 1) (ix x) y.2.1) (hp_r h 90 2) x y.2.2 = some (st_j (st_j (st_j (st_i h (hp_r h 90 3) (ix x) (hp_i h 90 4)) (hp_r h 90 0) (ix x) y.1) (hp_r h 90 1) (ix x) y.2.1) (hp_r h 90 2) (ix x) y.2.2) from if_pos ⟨I.2.2.2.1.1, hx.1, by show _ < hp_l h (hp_r h 90 2); rw [I.2.2.2.1.2]; exact hx.2⟩, Option.bind_some]
  rw [show g_i (st_j (st_j (st_j (st_i h (hp_r h 90 3) (ix x) (hp_i h 90 4)) (hp_r h 90 0) (ix x) y.1) (hp_r h 90 1) (ix x) y.2.1) (hp_r h 90 2) (ix x) y.2.2) 90 9 5 = some (hp_i (st_i h (hp_r h 90 3) (ix x) (hp_i h 90 4)) 90 5) from if_pos I.1, Option.bind_some]
  rw [show p_i (st_j (st_j (st_j (st_i h (hp_r h 90 3) (ix x) (hp_i h 90 4)) (hp_r h 90 0) (ix x) y.1) (hp_r h 90 1) (ix x) y.2.1) (hp_r h 90 2) (ix x) y.2.2) 90 9 5 (hp_i (st_i h (hp_r h 90 3) (ix x) (hp_i h 90 4)) 90 5 + 1) = some (hput h (ix x) y) from if_pos I.1, Option.bind_some]
theorem si_t90 (I : SI h L) : hp_r h 90 3 ≠ 90 := fun e => by
  have h1 := I.2.2.2.2.1.1.2.2
  rw [e, I.1.2.2] at h1
  omega
theorem put_t (I : SI h L) {j : Nat} {y : KY} {j' : Nat} : hp_i (hput h j y) (hp_r h 90 3) j' = if j' = j then hp_i h 90 4 else hp_i h (hp_r h 90 3) j' := by
  show up_2 (up_2 (hp_i h) (hp_r h 90 3) j (hp_i h 90 4)) 90 5 _ (hp_r h 90 3) j' = _
  rw [up2_r (si_t90 I)]
  by_cases e : j' = j
  · rw [if_pos e, e, up2_same]
  · rw [if_neg e, up2_k e]
theorem put_90 (I : SI h L) {j : Nat} {y : KY} : hp_i (hput h j y) 90 4 = hp_i h 90 4 := by
  show up_2 (up_2 (hp_i h) (hp_r h 90 3) j (hp_i h 90 4)) 90 5 (hp_i (st_i h (hp_r h 90 3) j (hp_i h 90 4)) 90 5 + 1) 90 4 = _
  rw [up2_k (by decide), up2_r (Ne.symm (si_t90 I))]
theorem put_j (I : SI h L) {j : Nat} {y : KY} {j' : Nat} : hp_j (hput h j y) (hp_r h 90 0) j' = (if j' = j then y.1 else hp_j h (hp_r h 90 0) j') ∧ hp_j (hput h j y) (hp_r h 90 1) j' = (if j' = j then y.2.1 else hp_j h (hp_r h 90 1) j') ∧ hp_j (hput h j y) (hp_r h 90 2) j' = (if j' = j then y.2.2 else hp_j h (hp_r h 90 2) j') := by
  obtain ⟨-, -, -, -, -, n1, n2, n3, -⟩ := I
  refine ⟨?_, ?_, ?_⟩
  · show up_2 (up_2 (up_2 (hp_j h) (hp_r h 90 0) j y.1) (hp_r h 90 1) j y.2.1) (hp_r h 90 2) j y.2.2 (hp_r h 90 0) j' = _
    rw [up2_r n2, up2_r n1]
    by_cases e : j' = j
    · rw [if_pos e, e, up2_same]
    · rw [if_neg e, up2_k e]
  · show up_2 (up_2 (up_2 (hp_j h) (hp_r h 90 0) j y.1) (hp_r h 90 1) j y.2.1) (hp_r h 90 2) j y.2.2 (hp_r h 90 1) j' = _
    rw [up2_r n3]
    by_cases e : j' = j
    · rw [if_pos e, e, up2_same]
    · rw [if_neg e, up2_k e, up2_r (Ne.symm n1)]
  · show up_2 (up_2 (up_2 (hp_j h) (hp_r h 90 0) j y.1) (hp_r h 90 1) j y.2.1) (hp_r h 90 2) j y.2.2 (hp_r h 90 2) j' = _
    by_cases e : j' = j
    · rw [if_pos e, e, up2_same]
    · rw [if_neg e, up2_k e, up2_r (Ne.symm n3), up2_r (Ne.symm n2)]
theorem put_si (I : SI h L) {j : Nat} {y : KY} : SI (hput h j y) L := by
  obtain ⟨a1, a2, a3, a4, a5, a6, a7, a8, a9, a10⟩ := I
  have I' : SI h L := ⟨a1, a2, a3, a4, a5, a6, a7, a8, a9, a10⟩
  obtain ⟨tn, t1, t2, t3, t4⟩ := a10
  refine ⟨a1, a2, a3, a4, a5, a6, a7, a8, a9, tn, by rw [put_90 I']; exact t1, t2, t3, fun j' hj => ?_⟩
  have e : hp_i (hput h j y) (hp_r (hput h j y) 90 3) j' = if j' = j then hp_i h 90 4 else hp_i h (hp_r h 90 3) j' := put_t I'
  rw [e]
  by_cases c : j' = j
  · rw [if_pos c]; exact ⟨tn, Nat.le_refl tn, t1⟩
  · rw [if_neg c]; exact t4 j' hj
theorem put_vs (I : SI h L) {j : Nat} {y z : KY} (H : VS (hput h j y) z) : VS h z ∨ z = y := by
  obtain ⟨j', h1, h2, h3, h4, h5⟩ := H
  have h2' : hp_i (hput h j y) (hp_r h 90 3) j' = hp_i (hput h j y) 90 4 := h2
  have h3' : hp_j (hput h j y) (hp_r h 90 0) j' = z.1 := h3
  have h4' : hp_j (hput h j y) (hp_r h 90 1) j' = z.2.1 := h4
  have h5' : hp_j (hput h j y) (hp_r h 90 2) j' = z.2.2 := h5
  obtain ⟨p1, p2, p3⟩ := put_j (j := j) (y := y) (j' := j') I
  rw [p1] at h3'; rw [p2] at h4'; rw [p3] at h5'; rw [put_t I, put_90 I] at h2'
  by_cases e : j' = j
  · rw [if_pos e] at h3' h4' h5'
    exact Or.inr (by rw [← Prod.eta z, ← Prod.eta y, ← Prod.eta z.2, ← Prod.eta y.2, h3', h4', h5'])
  · rw [if_neg e] at h2' h3' h4' h5'
    exact Or.inl ⟨j', h1, h2', h3', h4', h5'⟩
theorem put_fn (I : SI h L) {j : Nat} {y : KY} : FN h (hput h j y) := by
  refine ⟨Nat.le_refl _, fun _ _ => ⟨rfl, rfl⟩, fun r _ hr => ⟨?_, ?_, rfl⟩, fun _ _ => Or.inl rfl, put_90 I⟩
  · funext k
    show up_2 (up_2 (hp_i h) (hp_r h 90 3) j (hp_i h 90 4)) 90 5 _ r k = _
    rw [up2_r (fun e => hr (Or.inl e)), up2_r (fun e => hr (Or.inr (Or.inr (Or.inr (Or.inr e)))))]
  · funext k
    show up_2 (up_2 (up_2 (hp_j h) (hp_r h 90 0) j y.1) (hp_r h 90 1) j y.2.1) (hp_r h 90 2) j y.2.2 r k = _
    rw [up2_r (fun e => hr (Or.inr (Or.inr (Or.inr (Or.inl e))))), up2_r (fun e => hr (Or.inr (Or.inr (Or.inl e)))), up2_r (fun e => hr (Or.inr (Or.inl e)))]
end
