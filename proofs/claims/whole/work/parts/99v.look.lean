/-! ===== the reference's look0 reads the next token ===== -/
theorem up1_up1 {α : Type} {f : Nat → α} {k : Nat} {a b : α} : up_1 (up_1 f k a) k b = up_1 f k b := by
  funext j
  unfold up_1
  split <;> rfl
theorem up1_id {α : Type} {f : Nat → α} {k : Nat} {a : α} (h : f k = a) : up_1 f k a = f := by
  funext j
  unfold up_1
  split
  · rename_i c; rw [c, h]
  · rfl
theorem wbs_s {tp : Nat → Nat} {p q : Nat} (h : p ≤ q) : wbs tp p (q + 1) = wbs tp p q ++ [tp q] := by
  unfold wbs
  rw [show q + 1 - p = (q - p) + 1 by omega, List.range'_concat, List.map_append]
  congr 1
  show [tp (p + 1 * (q - p))] = [tp q]
  rw [Nat.one_mul, show p + (q - p) = q by omega]
theorem wbs_l {tp : Nat → Nat} {p q : Nat} : (wbs tp p q).length = q - p := by
  unfold wbs
  rw [List.length_map, List.length_range']
theorem wbs_g {tp : Nat → Nat} {p q k : Nat} (h : p + k < q) : (wbs tp p q).getD k 0 = tp (p + k) := by
  unfold wbs
  rw [List.getD_eq_getElem?_getD, List.getElem?_map, List.getElem?_range' (by omega)]
  show tp (p + 1 * k) = _
  rw [Nat.one_mul]
theorem wbs_m {tp : Nat → Nat} {p q b : Nat} (h : b ∈ wbs tp p q) : ∃ k, p ≤ k ∧ k < q ∧ b = tp k := by
  unfold wbs at h
  obtain ⟨k, h1, h2⟩ := List.mem_map.mp h
  rw [List.mem_range'_1] at h1
  exact ⟨k, h1.1, by omega, h2.symm⟩
theorem wf_no {bs : List Nat} : ∀ f k d, (∀ j, k ≤ j → j < k + f → ¬ wlist.getD j [] = bs) → wfind bs f k d = d := by
  intro f
  induction f with
  | zero => intro k d _; rfl
  | succ f ih =>
    intro k d h
    show wfind bs f (k + 1) (if wlist.getD k [] = bs then 200 + k else d) = d
    rw [if_neg (h k (Nat.le_refl _) (by omega))]
    exact ih (k + 1) d (fun j h1 h2 => h j (by omega) (by omega))
def small (b : Nat) : Bool := decide (97 ≤ b) && decide (b ≤ 122)
theorem wl_small : ∀ k, k < 9 → (wlist.getD k []).length ≤ 8 ∧ 1 < (wlist.getD k []).length ∧ ∀ b, b ∈ wlist.getD k [] → small b = true := by decide
section
variable {h : AH} {tp : Nat → Nat} {n : Nat} {f g : Nat → Int32} {i k : Nat}
theorem l_sk (R : RZ h) (T : TPr h n tp) (hf : f 3 = nI n) : ∀ m i, i ≤ n → n < i + m → ∀ fu, m < fu → l_X11_look0_0 fu 102 (sI h 102 (up_1 f 5 (nI i))) = b_X11_look0_39 102 (sI h 102 (up_1 f 5 (nI (lskip tp n m i)))) := by
  have hn := T.1
  intro m
  induction m with
  | zero => intro i h1 h2; omega
  | succ m ih =>
    intro i h1 h2 fu hfu
    obtain ⟨fu, rfl⟩ : ∃ x, fu = x + 1 := ⟨fu - 1, by omega⟩
    have f3 : up_1 f 5 (nI i) 3 = nI n := by rw [up_ne (by decide)]; exact hf
    have v5 : up_1 f 5 (nI i) 5 = nI i := up_same
    have go : b_X11_look0_26 (l_X11_look0_0 fu) 102 (sI h 102 (up_1 f 5 (nI i))) = l_X11_look0_0 fu 102 (sI h 102 (up_1 f 5 (nI (i + 1)))) := by
      unfold b_X11_look0_26
      rw [y_g R, Option.bind_some, v5, da, y_p R, Option.bind_some, up1_up1]
    have sv := y_see (k := i) R T f3 (by omega)
    show b_X11_look0_0 (l_X11_look0_0 fu) 102 (sI h 102 (up_1 f 5 (nI i))) = _
    unfold b_X11_look0_0
    rw [y_g R, Option.bind_some, v5, rz_v (rz_sI R), Option.bind_some, sv, Option.bind_some]
    have e13 : b_X11_look0_13 (l_X11_look0_0 fu) 102 (sI h 102 (up_1 f 5 (nI i))) = if (if i < n then nI (tp i) else -1) = 10 then b_X11_look0_26 (l_X11_look0_0 fu) 102 (sI h 102 (up_1 f 5 (nI i))) else b_X11_look0_39 102 (sI h 102 (up_1 f 5 (nI i))) := by
      unfold b_X11_look0_13
      rw [y_g R, Option.bind_some, v5, rz_v (rz_sI R), Option.bind_some, sv, Option.bind_some]
    have e13' : b_X11_look0_13 (l_X11_look0_0 fu) 102 ((if i < n then nI (tp i) else -1), sI h 102 (up_1 f 5 (nI i))).2 = if (if i < n then nI (tp i) else -1) = 10 then b_X11_look0_26 (l_X11_look0_0 fu) 102 (sI h 102 (up_1 f 5 (nI i))) else b_X11_look0_39 102 (sI h 102 (up_1 f 5 (nI i))) := e13
    rw [e13']
    unfold lskip
    by_cases c : i < n
    · rw [if_pos c]
      have hb := T.2.1 i c
      have e32 : nI (tp i) = 32 ↔ tp i = 32 := nI_eq (b := 32) (by omega) (by omega)
      have e10 : nI (tp i) = 10 ↔ tp i = 10 := nI_eq (b := 10) (by omega) (by omega)
      by_cases c1 : tp i = 32
      · rw [if_pos (e32.mpr c1), if_pos ⟨c, by unfold issp; rw [c1]; rfl⟩]
        exact go.trans (ih (i + 1) (by omega) (by omega) fu (by omega))
      · rw [if_neg (fun x => c1 (e32.mp x))]
        by_cases c2 : tp i = 10
        · rw [if_pos (e10.mpr c2), if_pos ⟨c, by unfold issp; rw [c2]; rfl⟩]
          exact go.trans (ih (i + 1) (by omega) (by omega) fu (by omega))
        · rw [if_neg (fun x => c2 (e10.mp x)), if_neg (fun x => by
            have := x.2
            unfold issp at this
            simp only [Bool.or_eq_true, decide_eq_true_iff] at this
            exact this.elim c1 c2)]
    · rw [if_neg c, if_neg (by decide), if_neg (by decide), if_neg (fun x => c x.1)]
/-- the loop over a word's signs -/
theorem l_wd {c d : Int32} {p : Nat} (R : RZ h) (T : TPr h n tp) (hg : g 3 = nI n) (hp : p ≤ n) : ∀ m q, p ≤ q → q ≤ n → n < q + m → ∀ fu, m < fu → ∀ sm, (sm = 0 ∨ sm = 1) → (sm = 1 ↔ ∀ b, b ∈ wbs tp p q → small b = true) →
    ∃ sm', l_X11_look0_101 fu 102 c d (nI (q - p)) (pk64 (wbs tp p q)) sm (sI h 102 (up_1 g 5 (nI q))) = b_X11_look0_174 102 c d (nI (lword tp n m q - p)) (pk64 (wbs tp p (lword tp n m q))) sm' (sI h 102 (up_1 g 5 (nI (lword tp n m q)))) ∧ (sm' = 0 ∨ sm' = 1) ∧ (sm' = 1 ↔ ∀ b, b ∈ wbs tp p (lword tp n m q) → small b = true) := by
  have hn := T.1
  intro m
  induction m with
  | zero => intro q h1 h2 h3; omega
  | succ m ih =>
    intro q h1 h2 h3 fu hfu sm hs1 hs2
    obtain ⟨fu, rfl⟩ : ∃ x, fu = x + 1 := ⟨fu - 1, by omega⟩
    have f3 : up_1 g 5 (nI q) 3 = nI n := by rw [up_ne (by decide)]; exact hg
    have v5 : up_1 g 5 (nI q) 5 = nI q := up_same
    have sv := y_see (k := q) R T f3 (by omega)
    show ∃ sm', b_X11_look0_101 (l_X11_look0_101 fu) 102 c d (nI (q - p)) (pk64 (wbs tp p q)) sm (sI h 102 (up_1 g 5 (nI q))) = _ ∧ _
    unfold b_X11_look0_101
    rw [y_g R, Option.bind_some, v5, rz_v (rz_sI R), Option.bind_some, sv, Option.bind_some]
    unfold lword
    by_cases cq : q < n
    · rw [if_pos cq]
      have hb := T.2.1 q cq
      rw [x_wly (by omega), Option.bind_some]
      by_cases cw : isw (tp q) = true
      · rw [if_pos cw, if_neg n10, if_pos ⟨cq, cw⟩]
        -- the step
        have b139 : ∀ s0 : Int32, b_X11_look0_139 (l_X11_look0_101 fu) 102 c d (nI (q - p)) (pk64 (wbs tp p q)) s0 (sI h 102 (up_1 g 5 (nI q))) = l_X11_look0_101 fu 102 c d (nI (q + 1 - p)) (pk64 (wbs tp p (q + 1))) s0 (sI h 102 (up_1 g 5 (nI (q + 1)))) := fun s0 => by
          unfold b_X11_look0_139
          rw [y_g R, Option.bind_some, v5, rz_v (rz_sI R), Option.bind_some, sv, Option.bind_some, if_pos cq, y_g R, Option.bind_some, v5, da, y_p R, Option.bind_some, up1_up1, da, show q - p + 1 = q + 1 - p by omega]
          have : pk64 (wbs tp p (q + 1)) = wpk (pk64 (wbs tp p q)) (tp q) := by
            rw [wbs_s h1]
            unfold pk64
            rw [List.foldl_append]
            rfl
          rw [this]
          rfl
        have mem : ∀ P : Nat → Prop, (∀ b, b ∈ wbs tp p (q + 1) → P b) ↔ (∀ b, b ∈ wbs tp p q → P b) ∧ P (tp q) := fun P => by
          rw [wbs_s h1]
          constructor
          · intro hP
            exact ⟨fun b hb => hP b (List.mem_append.mpr (Or.inl hb)), hP _ (List.mem_append.mpr (Or.inr (List.mem_singleton.mpr rfl)))⟩
          · rintro ⟨h1, h2⟩ b hb
            obtain hb | hb := List.mem_append.mp hb
            · exact h1 b hb
            · rw [List.mem_singleton] at hb; rw [hb]; exact h2
        have fin : ∀ s0 : Int32, (s0 = 0 ∨ s0 = 1) → (s0 = 1 ↔ sm = 1 ∧ small (tp q) = true) → ∃ sm', b_X11_look0_139 (l_X11_look0_101 fu) 102 c d (nI (q - p)) (pk64 (wbs tp p q)) s0 (sI h 102 (up_1 g 5 (nI q))) = b_X11_look0_174 102 c d (nI (lword tp n m (q + 1) - p)) (pk64 (wbs tp p (lword tp n m (q + 1)))) sm' (sI h 102 (up_1 g 5 (nI (lword tp n m (q + 1))))) ∧ (sm' = 0 ∨ sm' = 1) ∧ (sm' = 1 ↔ ∀ b, b ∈ wbs tp p (lword tp n m (q + 1)) → small b = true) := fun s0 a1 a2 => by
          rw [b139]
          exact ih (q + 1) (by omega) (by omega) (by omega) fu (by omega) s0 a1 (by rw [a2, mem, hs2])
        unfold b_X11_look0_115
        by_cases c0 : sm = 0
        · rw [if_pos c0]
          exact fin 0 (Or.inl rfl) ⟨fun x => absurd x (by decide), fun x => absurd (c0.symm.trans x.1) (by decide)⟩
        · rw [if_neg c0]
          have s1 : sm = 1 := hs1.elim (fun x => absurd x c0) id
          unfold b_X11_look0_120
          have hsm : f_X11_isSmall (nI (tp q)) (sI h 102 (up_1 g 5 (nI q))) = some (if 97 ≤ tp q ∧ tp q ≤ 122 then 1 else 0, sI h 102 (up_1 g 5 (nI q))) := by
            unfold f_X11_isSmall b_X11_isSmall_0
            rw [show f_X11_isIn (nI (tp q)) (97 : Int32) (122 : Int32) (sI h 102 (up_1 g 5 (nI q))) = _ from x_in (lo := 97) (hi := 122) (by omega) (by omega) (by omega), Option.bind_some]
            split
            · exact ok_z_1
            · exact ok_z_0
          have es : small (tp q) = true ↔ 97 ≤ tp q ∧ tp q ≤ 122 := by unfold small; rw [Bool.and_eq_true, decide_eq_true_iff, decide_eq_true_iff]
          rw [y_g R, Option.bind_some, v5, rz_v (rz_sI R), Option.bind_some, sv, Option.bind_some, if_pos cq, hsm, Option.bind_some]
          by_cases c1 : 97 ≤ tp q ∧ tp q ≤ 122
          · rw [if_pos c1, if_neg n10]
            exact fin 1 (Or.inr rfl) ⟨fun _ => ⟨s1, es.mpr c1⟩, fun _ => rfl⟩
          · rw [if_neg c1, if_pos rfl]
            exact fin 0 (Or.inl rfl) ⟨fun x => absurd x (by decide), fun x => absurd (es.mp x.2) c1⟩
      · rw [if_neg cw, if_pos rfl, if_neg (fun x => cw x.2)]
        exact ⟨sm, rfl, hs1, hs2⟩
    · rw [if_neg cq, x_wly1, Option.bind_some, if_pos rfl, if_neg (fun x => cq x.1)]
      exact ⟨sm, rfl, hs1, hs2⟩
theorem lg0 {x y : Int64} : lg_cmp x y = 0 ↔ x = y := by
  unfold lg_cmp
  constructor
  · intro hx
    apply Classical.byContradiction
    intro hne
    revert hx
    split
    · decide
    · split
      · rename_i _ e; intro _; exact hne e
      · decide
  · rintro rfl
    rw [if_neg (Int64.lt_irrefl _), if_pos rfl]
end
