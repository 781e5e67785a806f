/-! ===== sorted rows ===== -/
def rins (x : Int32) : List Int32 → List Int32
  | [] => [x]
  | y :: t => if x < y then x :: y :: t else if x = y then y :: t else y :: rins x t
def srt : List Int32 → Prop
  | [] => True
  | y :: t => (∀ z, z ∈ t → y < z) ∧ srt t
theorem rins_mem {x z : Int32} : ∀ L : List Int32, z ∈ rins x L ↔ z = x ∨ z ∈ L := by
  intro L
  induction L with
  | nil => unfold rins; rw [List.mem_singleton]; exact ⟨Or.inl, fun h => h.elim id (fun h => nomatch h)⟩
  | cons y t ih =>
    unfold rins
    split
    · rw [List.mem_cons]
    · split
      · rename_i h; subst h; exact ⟨Or.inr, fun h => h.elim (fun e => e ▸ List.mem_cons_self) id⟩
      · rw [List.mem_cons, List.mem_cons, ih]
        constructor
        · rintro (h | h | h)
          · exact Or.inr (Or.inl h)
          · exact Or.inl h
          · exact Or.inr (Or.inr h)
        · rintro (h | h | h)
          · exact Or.inr (Or.inl h)
          · exact Or.inl h
          · exact Or.inr (Or.inr h)
theorem i_lt {x y : Int32} : x < y ↔ x.toInt < y.toInt := Int32.lt_iff_toInt_lt
theorem i_le {x y : Int32} : x ≤ y ↔ x.toInt ≤ y.toInt := Int32.le_iff_toInt_le
theorem i_eq {x y : Int32} (h : x.toInt = y.toInt) : x = y := Int32.toInt_inj.mp h
theorem rins_srt {x : Int32} : ∀ L : List Int32, srt L → srt (rins x L) := by
  intro L
  induction L with
  | nil => intro _; exact ⟨fun z h => (nomatch h), trivial⟩
  | cons y t ih =>
    intro h
    unfold rins
    split
    · rename_i hxy
      refine ⟨fun z hz => ?_, h⟩
      obtain hz | hz := List.mem_cons.mp hz
      · rw [hz]; exact hxy
      · have := h.1 z hz; rw [i_lt] at *; omega
    · rename_i hxy
      split
      · exact h
      · rename_i hne
        refine ⟨fun z hz => ?_, ih h.2⟩
        obtain hz | hz := (rins_mem t).mp hz
        · rw [hz, i_lt]
          rw [i_lt] at hxy
          have : x.toInt ≠ y.toInt := fun e => hne (i_eq e)
          omega
        · exact h.1 z hz
theorem srt_nd : ∀ L : List Int32, srt L → L.Nodup := by
  intro L
  induction L with
  | nil => intro _; exact List.nodup_nil
  | cons y t ih =>
    intro h
    rw [List.nodup_cons]
    exact ⟨fun hm => by have := h.1 y hm; rw [i_lt] at this; omega, ih h.2⟩
/-- two sorted rows of the same things are one -/
theorem srt_eq : ∀ L M : List Int32, srt L → srt M → (∀ z, z ∈ L ↔ z ∈ M) → L = M := by
  intro L
  induction L with
  | nil =>
    intro M _ _ h
    cases M with
    | nil => rfl
    | cons y t => exact absurd ((h y).mpr List.mem_cons_self) (fun h => nomatch h)
  | cons x L ih =>
    intro M hL hM h
    cases M with
    | nil => exact absurd ((h x).mp List.mem_cons_self) (fun h => nomatch h)
    | cons y M =>
      have hxy : x = y := by
        obtain h1 | h1 := List.mem_cons.mp ((h x).mp List.mem_cons_self)
        · exact h1
        · obtain h2 | h2 := List.mem_cons.mp ((h y).mpr List.mem_cons_self)
          · exact h2.symm
          · have a := hM.1 x h1; have b := hL.1 y h2
            rw [i_lt] at a b; omega
      subst hxy
      rw [ih M hL.2 hM.2 (fun z => ?_)]
      constructor
      · intro hz
        obtain h1 | h1 := List.mem_cons.mp ((h z).mp (List.mem_cons_of_mem _ hz))
        · have := hL.1 z hz; rw [h1, i_lt] at this; omega
        · exact h1
      · intro hz
        obtain h1 | h1 := List.mem_cons.mp ((h z).mpr (List.mem_cons_of_mem _ hz))
        · have := hM.1 z hz; rw [h1, i_lt] at this; omega
        · exact h1
theorem rins_eq {x : Int32} : ∀ L : List Int32, srt L → x ∈ L → rins x L = L := by
  intro L h hx
  exact srt_eq _ _ (rins_srt L h) h (fun z => by rw [rins_mem]; exact ⟨fun e => e.elim (fun e => e ▸ hx) id, Or.inr⟩)
theorem gD {L : List Int32} {i : Nat} (h : i < L.length) : L.getD i 0 = L[i] := by
  rw [List.getD_eq_getElem?_getD, List.getElem?_eq_getElem h, Option.getD_some]
theorem srt_get : ∀ (L : List Int32), srt L → ∀ i j, i < j → j < L.length → L.getD i 0 < L.getD j 0 := by
  intro L
  induction L with
  | nil => intro _ i j _ h; exact absurd h (Nat.not_lt_zero _)
  | cons y t ih =>
    intro h i j hij hj
    cases j with
    | zero => omega
    | succ j =>
      rw [List.length_cons] at hj
      rw [List.getD_cons_succ]
      cases i with
      | zero =>
        rw [List.getD_cons_zero]
        refine h.1 _ ?_
        rw [gD (by omega)]
        exact List.getElem_mem _
      | succ i =>
        rw [List.getD_cons_succ]
        exact ih h.2 i j (by omega) (by omega)
theorem ls_getD_mem {L : List Int32} {x : Int32} : x ∈ L ↔ ∃ i, i < L.length ∧ L.getD i 0 = x := by
  rw [List.mem_iff_getElem]
  constructor
  · rintro ⟨i, h, e⟩; exact ⟨i, h, by rw [gD h]; exact e⟩
  · rintro ⟨i, h, e⟩; exact ⟨i, h, by rw [← gD h]; exact e⟩
/-- a row of the heap holds a list -/
def RowIs (f : Nat → Int32) (L : List Int32) : Prop := ∀ i, i < L.length → f i = L.getD i 0
theorem us_half {a : Nat} (h : a < 2 ^ 30) : us_i (nI a) (1 : Int32) = nI (a / 2) := by
  have := pk_ushrN (n := a) (by omega) (1 : Int32) 1 (by decide)
  rw [show a / 2 = a / 2 ^ 1 from rfl]
  exact this
/-- k of the sorted list are below x -/
def Bel (L : List Int32) (x : Int32) (k : Nat) : Prop := k ≤ L.length ∧ (∀ i, i < k → L.getD i 0 < x) ∧ ∀ i, k ≤ i → i < L.length → x ≤ L.getD i 0
theorem al_row {h : AH} {r : Nat} (ok : ok_o h r 100) : al_n h r = some (nI (hp_l h r)) := if_pos ⟨ok.1, ok.2.1, by rw [ok.2.2]; omega, by rw [ok.2.2]; omega⟩
theorem li_row {h : AH} {r i : Nat} (ok : ok_o h r 100) (hi : i < hp_l h r) (hl : hp_l h r ≤ 2 ^ 30) : l_i h r (nI i) = some (hp_i h r i) := by
  have e : l_i h r (nI i) = some (hp_i h r (nI i).toNatClampNeg) := if_pos ⟨ok, nI_pos (by omega), by rw [nI_clamp (by omega)]; exact hi⟩
  rw [e, nI_clamp (by omega)]
theorem cb_loop {h : AH} {r : Nat} {L : List Int32} {x : Int32} (ok : ok_o h r 100) (hl : hp_l h r ≤ 2 ^ 29) (hL : L.length ≤ hp_l h r) (R : RowIs (hp_i h r) L) (S : srt L) : ∀ (m lo hi : Nat), m ≤ 32 → lo ≤ hi → hi ≤ L.length → hi - lo < 2 ^ m → (∀ i, i < lo → L.getD i 0 < x) → (∀ i, hi ≤ i → i < L.length → x ≤ L.getD i 0) → ∀ fu, m < fu → ∃ k, l_X3_countBelow_13 fu r x (nI lo) (nI hi) (nI (32 - m)) h = some (nI k, h) ∧ Bel L x k := by
  intro m
  induction m with
  | zero =>
    intro lo hi _ h1 h2 h3 h4 h5 fu hf
    obtain ⟨fu, rfl⟩ : ∃ f, fu = f + 1 := ⟨fu - 1, by omega⟩
    have : lo = hi := by omega
    subst this
    refine ⟨lo, ?_, h2, h4, h5⟩
    show b_X3_countBelow_13 (l_X3_countBelow_13 fu) r x (nI lo) (nI lo) (nI 32) h = _
    unfold b_X3_countBelow_13
    rw [if_pos (by decide)]
    rfl
  | succ m ih =>
    intro lo hi hm h1 h2 h3 h4 h5 fu hf
    obtain ⟨fu, rfl⟩ : ∃ f, fu = f + 1 := ⟨fu - 1, by omega⟩
    show ∃ k, b_X3_countBelow_13 (l_X3_countBelow_13 fu) r x (nI lo) (nI hi) (nI (32 - (m + 1))) h = _ ∧ _
    unfold b_X3_countBelow_13
    rw [if_neg (show ¬ (32 : Int32) ≤ nI (32 - (m + 1)) from nI_ge (b := 32) (by omega) (by omega))]
    unfold b_X3_countBelow_20
    by_cases hlt : lo = hi
    · subst hlt
      rw [if_pos (nI_le (by omega) (by omega))]
      exact ⟨lo, rfl, h2, h4, h5⟩
    · have hs : nI (32 - (m + 1)) + 1 = nI (32 - m) := by rw [nI_1]; congr 1; omega
      rw [if_neg (nI_ge (by omega) (by omega))]
      unfold b_X3_countBelow_26
      rw [nI_add, us_half (by omega), li_row ok (by omega) (by omega), Option.bind_some, R _ (by omega)]
      have hp : 2 ^ (m + 1) = 2 * 2 ^ m := by rw [Nat.pow_succ, Nat.mul_comm]
      by_cases hx : x ≤ L.getD ((lo + hi) / 2) 0
      · rw [if_pos hx]
        unfold b_X3_countBelow_50 b_X3_countBelow_54
        rw [hs]
        refine ih lo ((lo + hi) / 2) (by omega) (by omega) (by omega) (by omega) h4 (fun i a b => ?_) fu (by omega)
        by_cases e : i = (lo + hi) / 2
        · rw [e]; exact hx
        · have := srt_get L S ((lo + hi) / 2) i (by omega) b
          rw [i_lt] at this
          rw [i_le] at hx ⊢
          omega
      · rw [if_neg hx]
        unfold b_X3_countBelow_42 b_X3_countBelow_54
        rw [hs, nI_1]
        have hx' : L.getD ((lo + hi) / 2) 0 < x := by
          rw [i_lt]
          rw [i_le] at hx
          omega
        refine ih ((lo + hi) / 2 + 1) hi (by omega) (by omega) (by omega) (by omega) (fun i a => ?_) h5 fu (by omega)
        by_cases e : i = (lo + hi) / 2
        · rw [e]; exact hx'
        · have := srt_get L S i ((lo + hi) / 2) (by omega) (by omega)
          rw [i_lt] at this hx' ⊢
          omega
theorem cb_eq {h : AH} {r : Nat} {L : List Int32} {x : Int32} (ok : ok_o h r 100) (hl : hp_l h r ≤ 2 ^ 29) (hL : L.length ≤ hp_l h r) (R : RowIs (hp_i h r) L) (S : srt L) : ∃ k, f_X3_countBelow r (nI L.length) x h = some (nI k, h) ∧ Bel L x k := by
  unfold f_X3_countBelow b_X3_countBelow_0
  rw [al_row ok, Option.bind_some]
  have hm : mn_i (nI L.length) (nI (hp_l h r)) = nI L.length := by
    unfold mn_i
    rw [if_neg (nI_nlt (by omega) (by omega))]
  rw [hm]
  exact cb_loop ok hl hL R S 32 0 L.length (Nat.le_refl _) (Nat.zero_le _) (Nat.le_refl _) (by omega) (fun i h => absurd h (Nat.not_lt_zero i)) (fun i a b => by omega) fu_ (by decide)
theorem bel_mem {L : List Int32} {x : Int32} {k : Nat} (S : srt L) (B : Bel L x k) : x ∈ L ↔ k < L.length ∧ L.getD k 0 = x := by
  rw [ls_getD_mem]
  constructor
  · rintro ⟨i, h1, h2⟩
    by_cases hi : i < k
    · have := B.2.1 i hi; rw [h2, i_lt] at this; omega
    · refine ⟨by omega, ?_⟩
      by_cases hik : i = k
      · rw [← hik]; exact h2
      · have a := srt_get L S k i (by omega) h1
        have b := B.2.2 k (Nat.le_refl k) (by omega)
        rw [h2, i_lt] at a; rw [i_le] at b; omega
  · rintro ⟨h1, h2⟩; exact ⟨k, h1, h2⟩
/-- where x comes in -/
theorem rins_get {x : Int32} : ∀ (L : List Int32) (k : Nat), Bel L x k → x ∉ L → (rins x L).length = L.length + 1 ∧ (∀ i, i < k → (rins x L).getD i 0 = L.getD i 0) ∧ (rins x L).getD k 0 = x ∧ ∀ i, k < i → i ≤ L.length → (rins x L).getD i 0 = L.getD (i - 1) 0 := by
  intro L
  induction L with
  | nil =>
    intro k B _
    have hk : k = 0 := by have := B.1; rw [List.length_nil] at this; omega
    subst hk
    exact ⟨rfl, fun i h => absurd h (Nat.not_lt_zero i), rfl, fun i h1 h2 => by rw [List.length_nil] at h2; omega⟩
  | cons y t ih =>
    intro k B hx
    have hxy : x ≠ y := fun e => hx (e ▸ List.mem_cons_self)
    have hxt : x ∉ t := fun h => hx (List.mem_cons_of_mem _ h)
    unfold rins
    cases k with
    | zero =>
      have h0 := B.2.2 0 (Nat.le_refl 0) (by rw [List.length_cons]; omega)
      rw [List.getD_cons_zero] at h0
      have hlt : x < y := by
        rw [i_lt]; rw [i_le] at h0
        have : x.toInt ≠ y.toInt := fun e => hxy (i_eq e)
        omega
      rw [if_pos hlt]
      refine ⟨rfl, fun i h => absurd h (Nat.not_lt_zero i), rfl, fun i h1 h2 => ?_⟩
      obtain ⟨j, rfl⟩ : ∃ j, i = j + 1 := ⟨i - 1, by omega⟩
      rw [List.getD_cons_succ, Nat.add_sub_cancel]
    | succ k =>
      have h0 := B.2.1 0 (by omega)
      rw [List.getD_cons_zero] at h0
      rw [if_neg (by rw [i_lt] at h0 ⊢; omega), if_neg hxy]
      obtain ⟨b1, b2, b3⟩ := B
      obtain ⟨c1, c2, c3, c4⟩ := ih k ⟨by rw [List.length_cons] at b1; omega, fun i hi => by have := b2 (i + 1) (by omega); rw [List.getD_cons_succ] at this; exact this, fun i h1 h2 => by have := b3 (i + 1) (by omega) (by rw [List.length_cons]; omega); rw [List.getD_cons_succ] at this; exact this⟩ hxt
      refine ⟨by rw [List.length_cons, c1, List.length_cons], fun i hi => ?_, by rw [List.getD_cons_succ]; exact c3, fun i h1 h2 => ?_⟩
      · cases i with
        | zero => rfl
        | succ i => rw [List.getD_cons_succ, List.getD_cons_succ]; exact c2 i (by omega)
      · obtain ⟨j, rfl⟩ : ∃ j, i = j + 1 := ⟨i - 1, by omega⟩
        rw [List.length_cons] at h2
        obtain ⟨j', rfl⟩ : ∃ j', j = j' + 1 := ⟨j - 1, by omega⟩
        rw [List.getD_cons_succ, Nat.add_sub_cancel, List.getD_cons_succ]
        have := c4 (j' + 1) (by omega) (by omega)
        rw [Nat.add_sub_cancel] at this
        exact this
