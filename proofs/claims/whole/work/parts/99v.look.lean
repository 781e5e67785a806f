/-! ===== the reference's look0 reads the next token ===== -/
theorem up1_up1 {α : Type} {f : Nat → α} {k : Nat} {a b : α} : up_1 (up_1 f k a) k b = up_1 f k b := by
  funext j
  unfold up_1
  split <;> rfl
theorem up1_id {α : Type} {f : Nat → α} {k : Nat} {a : α} (h : f k = a) : up_1 f k a = f := by
  funext j
  unfold up_1
  split
  · rename_i c; rw [c, h]
  · rfl
theorem wbs_s {tp : Nat → Nat} {p q : Nat} (h : p ≤ q) : wbs tp p (q + 1) = wbs tp p q ++ [tp q] := by
  unfold wbs
  rw [show q + 1 - p = (q - p) + 1 by omega, List.range'_concat, List.map_append]
  congr 1
  show [tp (p + 1 * (q - p))] = [tp q]
  rw [Nat.one_mul, show p + (q - p) = q by omega]
theorem wbs_l {tp : Nat → Nat} {p q : Nat} : (wbs tp p q).length = q - p := by
  unfold wbs
  rw [List.length_map, List.length_range']
theorem wbs_g {tp : Nat → Nat} {p q k : Nat} (h : p + k < q) : (wbs tp p q).getD k 0 = tp (p + k) := by
  unfold wbs
  rw [List.getD_eq_getElem?_getD, List.getElem?_map, List.getElem?_range' (by omega)]
  show tp (p + 1 * k) = _
  rw [Nat.one_mul]
theorem wbs_m {tp : Nat → Nat} {p q b : Nat} (h : b ∈ wbs tp p q) : ∃ k, p ≤ k ∧ k < q ∧ b = tp k := by
  unfold wbs at h
  obtain ⟨k, h1, h2⟩ := List.mem_map.mp h
  rw [List.mem_range'_1] at h1
  exact ⟨k, h1.1, by omega, h2.symm⟩
theorem wf_no {bs : List Nat} : ∀ f k d, (∀ j, k ≤ j → j < k + f → ¬ wlist.getD j [] = bs) → wfind bs f k d = d := by
  intro f
  induction f with
  | zero => intro k d _; rfl
  | succ f ih =>
    intro k d h
    show wfind bs f (k + 1) (if wlist.getD k [] = bs then 200 + k else d) = d
    rw [if_neg (h k (Nat.le_refl _) (by omega))]
    exact ih (k + 1) d (fun j h1 h2 => h j (by omega) (by omega))
def small (b : Nat) : Bool := decide (97 ≤ b) && decide (b ≤ 122)
theorem wl_small : ∀ k, k < 9 → (wlist.getD k []).length ≤ 8 ∧ 1 < (wlist.getD k []).length ∧ ∀ b, b ∈ wlist.getD k [] → small b = true := by decide
section
variable {h : AH} {tp : Nat → Nat} {n : Nat} {f g : Nat → Int32} {i k : Nat}
theorem l_sk (R : RZ h) (T : TPr h n tp) (hf : f 3 = nI n) : ∀ m i, i ≤ n → n < i + m → ∀ fu, m < fu → l_X11_look0_0 fu 102 (sI h 102 (up_1 f 5 (nI i))) = b_X11_look0_39 102 (sI h 102 (up_1 f 5 (nI (lskip tp n m i)))) := by
  have hn := T.1
  intro m
  induction m with
  | zero => intro i h1 h2; omega
  | succ m ih =>
    intro i h1 h2 fu hfu
    obtain ⟨fu, rfl⟩ : ∃ x, fu = x + 1 := ⟨fu - 1, by omega⟩
    have f3 : up_1 f 5 (nI i) 3 = nI n := by rw [up_ne (by decide)]; exact hf
    have v5 : up_1 f 5 (nI i) 5 = nI i := up_same
    have go : b_X11_look0_26 (l_X11_look0_0 fu) 102 (sI h 102 (up_1 f 5 (nI i))) = l_X11_look0_0 fu 102 (sI h 102 (up_1 f 5 (nI (i + 1)))) := by
      unfold b_X11_look0_26
      rw [y_g R, Option.bind_some, v5, da, y_p R, Option.bind_some, up1_up1]
    have sv := y_see (k := i) R T f3 (by omega)
    show b_X11_look0_0 (l_X11_look0_0 fu) 102 (sI h 102 (up_1 f 5 (nI i))) = _
    unfold b_X11_look0_0
    rw [y_g R, Option.bind_some, v5, rz_v (rz_sI R), Option.bind_some, sv, Option.bind_some]
    have e13 : b_X11_look0_13 (l_X11_look0_0 fu) 102 (sI h 102 (up_1 f 5 (nI i))) = if (if i < n then nI (tp i) else -1) = 10 then b_X11_look0_26 (l_X11_look0_0 fu) 102 (sI h 102 (up_1 f 5 (nI i))) else b_X11_look0_39 102 (sI h 102 (up_1 f 5 (nI i))) := by
      unfold b_X11_look0_13
      rw [y_g R, Option.bind_some, v5, rz_v (rz_sI R), Option.bind_some, sv, Option.bind_some]
    have e13' : b_X11_look0_13 (l_X11_look0_0 fu) 102 ((if i < n then nI (tp i) else -1), sI h 102 (up_1 f 5 (nI i))).2 = if (if i < n then nI (tp i) else -1) = 10 then b_X11_look0_26 (l_X11_look0_0 fu) 102 (sI h 102 (up_1 f 5 (nI i))) else b_X11_look0_39 102 (sI h 102 (up_1 f 5 (nI i))) := e13
    rw [e13']
    unfold lskip
    by_cases c : i < n
    · rw [if_pos c]
      have hb := T.2.1 i c
      have e32 : nI (tp i) = 32 ↔ tp i = 32 := nI_eq (b := 32) (by omega) (by omega)
      have e10 : nI (tp i) = 10 ↔ tp i = 10 := nI_eq (b := 10) (by omega) (by omega)
      by_cases c1 : tp i = 32
      · rw [if_pos (e32.mpr c1), if_pos ⟨c, by unfold issp; rw [c1]; rfl⟩]
        exact go.trans (ih (i + 1) (by omega) (by omega) fu (by omega))
      · rw [if_neg (fun x => c1 (e32.mp x))]
        by_cases c2 : tp i = 10
        · rw [if_pos (e10.mpr c2), if_pos ⟨c, by unfold issp; rw [c2]; rfl⟩]
          exact go.trans (ih (i + 1) (by omega) (by omega) fu (by omega))
        · rw [if_neg (fun x => c2 (e10.mp x)), if_neg (fun x => by
            have := x.2
            unfold issp at this
            simp only [Bool.or_eq_true, decide_eq_true_iff] at this
            exact this.elim c1 c2)]
    · rw [if_neg c, if_neg (show ¬ (-1 : Int32) = 32 by decide), if_neg (by decide), if_neg (fun x => c x.1)]
/-- the loop over a word's signs -/
theorem l_wd {c d : Int32} {p : Nat} (R : RZ h) (T : TPr h n tp) (hg : g 3 = nI n) (hp : p ≤ n) : ∀ m q, p ≤ q → q ≤ n → n < q + m → ∀ fu, m < fu → ∀ sm, (sm = 0 ∨ sm = 1) → (sm = 1 ↔ ∀ b, b ∈ wbs tp p q → small b = true) →
    ∃ sm', l_X11_look0_101 fu 102 c d (nI (q - p)) (pk64 (wbs tp p q)) sm (sI h 102 (up_1 g 5 (nI q))) = b_X11_look0_174 102 c d (nI (lword tp n m q - p)) (pk64 (wbs tp p (lword tp n m q))) sm' (sI h 102 (up_1 g 5 (nI (lword tp n m q)))) ∧ (sm' = 0 ∨ sm' = 1) ∧ (sm' = 1 ↔ ∀ b, b ∈ wbs tp p (lword tp n m q) → small b = true) := by
  have hn := T.1
  intro m
  induction m with
  | zero => intro q h1 h2 h3; omega
  | succ m ih =>
    intro q h1 h2 h3 fu hfu sm hs1 hs2
    obtain ⟨fu, rfl⟩ : ∃ x, fu = x + 1 := ⟨fu - 1, by omega⟩
    have f3 : up_1 g 5 (nI q) 3 = nI n := by rw [up_ne (by decide)]; exact hg
    have v5 : up_1 g 5 (nI q) 5 = nI q := up_same
    have sv := y_see (k := q) R T f3 (by omega)
    show ∃ sm', b_X11_look0_101 (l_X11_look0_101 fu) 102 c d (nI (q - p)) (pk64 (wbs tp p q)) sm (sI h 102 (up_1 g 5 (nI q))) = _ ∧ _
    unfold b_X11_look0_101
    rw [y_g R, Option.bind_some, v5, rz_v (rz_sI R), Option.bind_some, sv, Option.bind_some]
    unfold lword
    by_cases cq : q < n
    · rw [if_pos cq]
      have hb := T.2.1 q cq
      rw [x_wly (by omega), Option.bind_some]
      by_cases cw : isw (tp q) = true
      · rw [if_pos cw, if_neg n10, if_pos ⟨cq, cw⟩]
        -- the step
        have b139 : ∀ s0 : Int32, b_X11_look0_139 (l_X11_look0_101 fu) 102 c d (nI (q - p)) (pk64 (wbs tp p q)) s0 (sI h 102 (up_1 g 5 (nI q))) = l_X11_look0_101 fu 102 c d (nI (q + 1 - p)) (pk64 (wbs tp p (q + 1))) s0 (sI h 102 (up_1 g 5 (nI (q + 1)))) := fun s0 => by
          unfold b_X11_look0_139
          rw [y_g R, Option.bind_some, v5, rz_v (rz_sI R), Option.bind_some, sv, Option.bind_some, if_pos cq, y_g R, Option.bind_some, v5, da, y_p R, Option.bind_some, up1_up1, da, show q - p + 1 = q + 1 - p by omega]
          have : pk64 (wbs tp p (q + 1)) = wpk (pk64 (wbs tp p q)) (tp q) := by
            rw [wbs_s h1]
            unfold pk64
            rw [List.foldl_append]
            rfl
          rw [this]
          rfl
        have mem : ∀ P : Nat → Prop, (∀ b, b ∈ wbs tp p (q + 1) → P b) ↔ (∀ b, b ∈ wbs tp p q → P b) ∧ P (tp q) := fun P => by
          rw [wbs_s h1]
          constructor
          · intro hP
            exact ⟨fun b hb => hP b (List.mem_append.mpr (Or.inl hb)), hP _ (List.mem_append.mpr (Or.inr (List.mem_singleton.mpr rfl)))⟩
          · rintro ⟨h1, h2⟩ b hb
            obtain hb | hb := List.mem_append.mp hb
            · exact h1 b hb
            · rw [List.mem_singleton] at hb; rw [hb]; exact h2
        have fin : ∀ s0 : Int32, (s0 = 0 ∨ s0 = 1) → (s0 = 1 ↔ sm = 1 ∧ small (tp q) = true) → ∃ sm', b_X11_look0_139 (l_X11_look0_101 fu) 102 c d (nI (q - p)) (pk64 (wbs tp p q)) s0 (sI h 102 (up_1 g 5 (nI q))) = b_X11_look0_174 102 c d (nI (lword tp n m (q + 1) - p)) (pk64 (wbs tp p (lword tp n m (q + 1)))) sm' (sI h 102 (up_1 g 5 (nI (lword tp n m (q + 1))))) ∧ (sm' = 0 ∨ sm' = 1) ∧ (sm' = 1 ↔ ∀ b, b ∈ wbs tp p (lword tp n m (q + 1)) → small b = true) := fun s0 a1 a2 => by
          rw [b139]
          exact ih (q + 1) (by omega) (by omega) (by omega) fu (by omega) s0 a1 (by rw [a2, mem, hs2])
        unfold b_X11_look0_115
        by_cases c0 : sm = 0
        · rw [if_pos c0]
          exact fin 0 (Or.inl rfl) ⟨fun x => absurd x (by decide), fun x => absurd (c0.symm.trans x.1) (by decide)⟩
        · rw [if_neg c0]
          have s1 : sm = 1 := hs1.elim (fun x => absurd x c0) id
          unfold b_X11_look0_120
          have hsm : f_X11_isSmall (nI (tp q)) (sI h 102 (up_1 g 5 (nI q))) = some (if 97 ≤ tp q ∧ tp q ≤ 122 then 1 else 0, sI h 102 (up_1 g 5 (nI q))) := by
            unfold f_X11_isSmall b_X11_isSmall_0
            rw [show f_X11_isIn (nI (tp q)) (97 : Int32) (122 : Int32) (sI h 102 (up_1 g 5 (nI q))) = _ from x_in (lo := 97) (hi := 122) (by omega) (by omega) (by omega), Option.bind_some]
            split
            · exact ok_z_1
            · exact ok_z_0
          have es : small (tp q) = true ↔ 97 ≤ tp q ∧ tp q ≤ 122 := by unfold small; rw [Bool.and_eq_true, decide_eq_true_iff, decide_eq_true_iff]
          rw [y_g R, Option.bind_some, v5, rz_v (rz_sI R), Option.bind_some, sv, Option.bind_some, if_pos cq, hsm, Option.bind_some]
          by_cases c1 : 97 ≤ tp q ∧ tp q ≤ 122
          · rw [if_pos c1, if_neg n10]
            exact fin 1 (Or.inr rfl) ⟨fun _ => ⟨s1, es.mpr c1⟩, fun _ => rfl⟩
          · rw [if_neg c1, if_pos rfl]
            exact fin 0 (Or.inl rfl) ⟨fun x => absurd x (by decide), fun x => absurd (es.mp x.2) c1⟩
      · rw [if_neg cw, if_pos rfl, if_neg (fun x => cw x.2)]
        exact ⟨sm, rfl, hs1, hs2⟩
    · rw [if_neg cq, x_wly1, Option.bind_some, if_pos rfl, if_neg (fun x => cq x.1)]
      exact ⟨sm, rfl, hs1, hs2⟩
/-- the words of the reference -/
theorem wd_pk (R : RZ h) : ∀ k, k < 9 → hp_j h 105 k = pk64 (wlist.getD k []) := by
  obtain ⟨e0, e1, e2, e3, e4, e5, e6, e7, e8⟩ := R.2.2.2.2.2
  intro k hk
  have : k = 0 ∨ k = 1 ∨ k = 2 ∨ k = 3 ∨ k = 4 ∨ k = 5 ∨ k = 6 ∨ k = 7 ∨ k = 8 := by omega
  rcases this with rfl | rfl | rfl | rfl | rfl | rfl | rfl | rfl | rfl
  · rw [e0]; decide
  · rw [e1]; decide
  · rw [e2]; decide
  · rw [e3]; decide
  · rw [e4]; decide
  · rw [e5]; decide
  · rw [e6]; decide
  · rw [e7]; decide
  · rw [e8]; decide
theorem pk_eq2 {bs : List Nat} {k : Nat} (hk : k < 9) (hl : bs.length ≤ 8) (hb : ∀ b, b ∈ bs → small b = true) : pk64 (wlist.getD k []) = pk64 bs ↔ wlist.getD k [] = bs := by
  have sm : ∀ b, small b = true → 0 < b ∧ b < 256 := fun b hb => by
    unfold small at hb
    rw [Bool.and_eq_true, decide_eq_true_iff, decide_eq_true_iff] at hb
    omega
  constructor
  · intro e
    have w := wl_small k hk
    have e1 := pk64_n (wlist.getD k []) 0 0 (fun b hb => (sm b (w.2.2 b hb)).2) (by decide) (by omega)
    have e2 := pk64_n bs 0 0 (fun b hb' => (sm b (hb b hb')).2) (by decide) (by omega)
    have e3 : (pk64 (wlist.getD k [])).toBitVec.toNat = (pk64 bs).toBitVec.toNat := by rw [e]
    refine pkN_inj _ _ _ (Nat.le_refl _) (fun b hb => sm b (w.2.2 b hb)) (fun b hb' => sm b (hb b hb')) ?_
    unfold pkN
    have e0 : (0 : Int64).toBitVec.toNat = 0 := rfl
    rw [e0] at e1 e2
    rw [← e1, ← e2]
    exact e3
  · intro e; rw [e]
/-- the words: the last that fits -/
theorem l_310 {bs : List Nat} {sm : Int32} (R : RZ h) (hs1 : sm = 0 ∨ sm = 1) (hs2 : sm = 1 ↔ ∀ b, b ∈ bs → small b = true) (hbl : bs.length < 2 ^ 31) : ∀ m k, k + m = 9 → ∀ fu, m < fu → ∀ x, x < 2 ^ 31 → l_X11_look0_310 fu 102 (nI bs.length) (pk64 bs) sm (nI k) (sI h 102 (up_1 g 6 (nI x))) = some (sI h 102 (up_1 g 6 (nI (wfind bs m k x)))) := by
  intro m
  induction m with
  | zero =>
    intro k hk fu hfu x hx
    obtain ⟨fu, rfl⟩ : ∃ y, fu = y + 1 := ⟨fu - 1, by omega⟩
    have e : k = 9 := by omega
    subst e
    show b_X11_look0_310 (l_X11_look0_310 fu) 102 (nI bs.length) (pk64 bs) sm (nI 9) (sI h 102 (up_1 g 6 (nI x))) = _
    unfold b_X11_look0_310
    rw [if_pos (by decide)]
    rfl
  | succ m ih =>
    intro k hk fu hfu x hx
    obtain ⟨fu, rfl⟩ : ∃ y, fu = y + 1 := ⟨fu - 1, by omega⟩
    have stop : (¬ bs.length ≤ 8 ∨ ¬ sm = 1) → wfind bs (m + 1) k x = x := fun hno => wf_no (m + 1) k x (fun j h1 h2 e => by
      have w := wl_small j (by omega)
      rw [e] at w
      obtain c | c := hno
      · exact c w.1
      · exact c (hs2.mpr w.2.2))
    show b_X11_look0_310 (l_X11_look0_310 fu) 102 (nI bs.length) (pk64 bs) sm (nI k) (sI h 102 (up_1 g 6 (nI x))) = _
    unfold b_X11_look0_310
    rw [if_neg (fun e => by have := (cmp_N (a := 9) (by omega) (by omega)).mp e; omega)]
    unfold b_X11_look0_317
    by_cases c8 : bs.length ≤ 8
    · rw [if_neg (show ¬ (8 : Int32) < nI bs.length from nI_nlt (b := bs.length) (a := 8) c8 (by omega))]
      unfold b_X11_look0_323
      by_cases c0 : sm = 0
      · rw [if_pos c0, stop (Or.inr (by rw [c0]; decide))]
        rfl
      · rw [if_neg c0]
        have s1 : sm = 1 := hs1.elim (fun y => absurd y c0) id
        unfold b_X11_look0_328
        have lj : l_j (sI h 102 (up_1 g 6 (nI x))) 105 (nI k) = some (hp_j h 105 k) := by
          have e : l_j (sI h 102 (up_1 g 6 (nI x))) 105 (nI k) = some (hp_j (sI h 102 (up_1 g 6 (nI x))) 105 (nI k).toNatClampNeg) := if_pos ⟨R.2.2.2.1, nI_pos (by omega), by rw [nI_clamp (by omega)]; show k < hp_l h 105; rw [R.2.2.2.2.1]; omega⟩
          rw [e, nI_clamp (by omega)]
          rfl
        have gr : g_r (sI h 102 (up_1 g 6 (nI x))) 102 11 8 = some 105 := by
          have e : g_r (sI h 102 (up_1 g 6 (nI x))) 102 11 8 = some (hp_r h 102 8) := if_pos R.1
          rw [e, R.2.2.1]
        rw [gr, Option.bind_some, lj, Option.bind_some, wd_pk R k (by omega)]
        have nx : ∀ y, y < 2 ^ 31 → b_X11_look0_355 (l_X11_look0_310 fu) 102 (nI bs.length) (pk64 bs) sm (nI k) 102 (nI y) (sI h 102 (up_1 g 6 (nI x))) = some (sI h 102 (up_1 g 6 (nI (wfind bs m (k + 1) y)))) := fun y hy => by
          unfold b_X11_look0_355
          rw [y_p R, Option.bind_some, up1_up1, da]
          exact ih (k + 1) (by omega) fu (by omega) y hy
        show _ = some (sI h 102 (up_1 g 6 (nI (wfind bs m (k + 1) (if wlist.getD k [] = bs then 200 + k else x)))))
        have pe := pk_eq2 (bs := bs) (k := k) (by omega) c8 (hs2.mp s1)
        by_cases c1 : wlist.getD k [] = bs
        · rw [if_pos (lg0.mpr (pe.mpr c1)), if_pos c1]
          unfold b_X11_look0_342
          rw [ad]
          exact nx _ (by omega)
        · rw [if_neg (fun y => c1 (pe.mp (lg0.mp y))), if_neg c1]
          unfold b_X11_look0_351
          rw [y_g R, Option.bind_some, up_same]
          exact nx _ hx
    · rw [if_pos (show (8 : Int32) < nI bs.length from nI_lt (a := 8) (b := bs.length) (by omega) hbl), stop (Or.inl c8)]
      rfl
theorem wb_lt {bs : List Nat} : wbase bs < 1000 := by
  unfold wbase
  split
  · omega
  · split
    · omega
    · split
      · omega
      · split <;> omega
/-- a word's code -/
theorem x_174 {bs : List Nat} {c d : Nat} {dI w : Int32} {W : Int64} {sm : Int32} (R : RZ h) (hc : c < 256) (hg : g 6 = 100) (hbl : bs.length < 2 ^ 31) (h0 : bs.getD 0 0 = c) (h1 : bs.length = 2 → dI = nI (bs.getD 1 0) ∧ bs.getD 1 0 < 256) (hW : W = pk64 bs) (hs1 : sm = 0 ∨ sm = 1) (hs2 : sm = 1 ↔ ∀ b, b ∈ bs → small b = true) (hl : 1 ≤ bs.length) :
    b_X11_look0_174 102 (nI c) dI (nI bs.length) W sm (sI h 102 g) = some (sI h 102 (up_1 g 6 (nI (wcode bs)))) := by
  subst hW
  have fin : ∀ x, x < 2 ^ 31 → wbase bs = x → b_X11_look0_307 102 (nI bs.length) (pk64 bs) sm (sI h 102 (up_1 g 6 (nI x))) = some (sI h 102 (up_1 g 6 (nI (wcode bs)))) := fun x hx e => by
    unfold b_X11_look0_307 wcode
    rw [e]
    exact l_310 R hs1 hs2 hbl 9 0 (by omega) fu_ (by decide) x hx
  have fin0 : wbase bs = 100 → b_X11_look0_307 102 (nI bs.length) (pk64 bs) sm (sI h 102 g) = some (sI h 102 (up_1 g 6 (nI (wcode bs)))) := fun e => by
    have := fin 100 (by omega) e
    rw [up1_id (by rw [hg]; rfl)] at this
    exact this
  have l1 : nI bs.length = 1 ↔ bs.length = 1 := nI_eq (b := 1) hbl (by omega)
  have l2 : nI bs.length = 2 ↔ bs.length = 2 := nI_eq (b := 2) hbl (by omega)
  have sub : ∀ a b k : Nat, k ≤ b → (nI a + nI b) - nI k = nI (a + (b - k)) := fun a b k hk => by rw [nI_add, pk_sub (by omega)]; congr 1; omega
  have e114 : nI c = 114 ↔ c = 114 := nI_eq (b := 114) (by omega) (by omega)
  have e109 : nI c = 109 ↔ c = 109 := nI_eq (b := 109) (by omega) (by omega)
  -- the two-sign names
  have b273 : ¬ (bs.length = 1) → ¬ (bs.length = 2 ∧ c = 114 ∧ 48 ≤ bs.getD 1 0 ∧ bs.getD 1 0 ≤ 52) → b_X11_look0_273 102 (nI c) dI (nI bs.length) (pk64 bs) sm (sI h 102 g) = some (sI h 102 (up_1 g 6 (nI (wcode bs)))) := fun k1 k2 => by
    have base : ¬ (bs.length = 2 ∧ c = 109 ∧ 48 ≤ bs.getD 1 0 ∧ bs.getD 1 0 ≤ 49) → wbase bs = 100 := fun k3 => by
      unfold wbase
      rw [h0, if_neg (fun x => k1 x.1), if_neg (fun x => k1 x.1), if_neg k2, if_neg k3]
    unfold b_X11_look0_273
    by_cases c2 : bs.length = 2
    · obtain ⟨d1, d2⟩ := h1 c2
      rw [if_pos (l2.mpr c2)]
      unfold b_X11_look0_278
      by_cases c3 : c = 109
      · rw [if_pos (e109.mpr c3)]
        unfold b_X11_look0_284
        rw [d1, show f_X11_isIn (nI (bs.getD 1 0)) (48 : Int32) (49 : Int32) (sI h 102 g) = _ from x_in (lo := 48) (hi := 49) (by omega) (by omega) (by omega), Option.bind_some]
        by_cases c4 : 48 ≤ bs.getD 1 0 ∧ bs.getD 1 0 ≤ 49
        · rw [if_pos c4, if_neg n10]
          unfold b_X11_look0_295
          rw [show ((500 : Int32) + nI (bs.getD 1 0)) - (48 : Int32) = nI (500 + (bs.getD 1 0 - 48)) from sub 500 _ 48 c4.1, y_p R, Option.bind_some]
          refine fin _ (by omega) ?_
          unfold wbase
          rw [h0, if_neg (fun x => k1 x.1), if_neg (fun x => k1 x.1), if_neg k2, if_pos ⟨c2, c3, c4⟩]
        · rw [if_neg c4, if_pos rfl]
          exact fin0 (base (fun x => c4 x.2.2))
      · rw [if_neg (fun x => c3 (e109.mp x))]
        exact fin0 (base (fun x => c3 x.2.1))
    · rw [if_neg (fun x => c2 (l2.mp x))]
      exact fin0 (base (fun x => c2 x.1))
  have b236 : ¬ (bs.length = 1) → b_X11_look0_236 102 (nI c) dI (nI bs.length) (pk64 bs) sm (sI h 102 g) = some (sI h 102 (up_1 g 6 (nI (wcode bs)))) := fun k1 => by
    unfold b_X11_look0_236
    by_cases c2 : bs.length = 2
    · obtain ⟨d1, d2⟩ := h1 c2
      rw [if_pos (l2.mpr c2)]
      unfold b_X11_look0_241
      by_cases c3 : c = 114
      · rw [if_pos (e114.mpr c3)]
        unfold b_X11_look0_247
        rw [d1, show f_X11_isIn (nI (bs.getD 1 0)) (48 : Int32) (52 : Int32) (sI h 102 g) = _ from x_in (lo := 48) (hi := 52) (by omega) (by omega) (by omega), Option.bind_some]
        by_cases c4 : 48 ≤ bs.getD 1 0 ∧ bs.getD 1 0 ≤ 52
        · rw [if_pos c4, if_neg n10]
          unfold b_X11_look0_258
          rw [show ((400 : Int32) + nI (bs.getD 1 0)) - (48 : Int32) = nI (400 + (bs.getD 1 0 - 48)) from sub 400 _ 48 c4.1, y_p R, Option.bind_some]
          refine fin _ (by omega) ?_
          unfold wbase
          rw [h0, if_neg (fun x => k1 x.1), if_neg (fun x => k1 x.1), if_pos ⟨c2, c3, c4⟩]
        · rw [if_neg c4, if_pos rfl, ← d1]
          exact b273 k1 (fun x => c4 x.2.2)
      · rw [if_neg (fun x => c3 (e114.mp x))]
        exact b273 k1 (fun x => c3 x.2.1)
    · rw [if_neg (fun x => c2 (l2.mp x))]
      exact b273 k1 (fun x => c2 x.1)
  unfold b_X11_look0_174
  by_cases c1 : bs.length = 1
  · rw [if_pos (l1.mpr c1)]
    unfold b_X11_look0_179
    rw [show f_X11_isIn (nI c) (117 : Int32) (122 : Int32) (sI h 102 g) = _ from x_in (lo := 117) (hi := 122) (by omega) (by omega) (by omega), Option.bind_some]
    by_cases c2 : 117 ≤ c ∧ c ≤ 122
    · rw [if_pos c2, if_neg n10]
      unfold b_X11_look0_190
      rw [show ((300 : Int32) + nI c) - (117 : Int32) = nI (300 + (c - 117)) from sub 300 _ 117 c2.1, y_p R, Option.bind_some]
      refine fin _ (by omega) ?_
      unfold wbase
      rw [h0, if_pos ⟨c1, c2⟩]
    · rw [if_neg c2, if_pos rfl]
      unfold b_X11_look0_205
      rw [if_pos (l1.mpr c1)]
      unfold b_X11_look0_210
      rw [show f_X11_isIn (nI c) (48 : Int32) (57 : Int32) (sI h 102 g) = _ from x_in (lo := 48) (hi := 57) (by omega) (by omega) (by omega), Option.bind_some]
      by_cases c3 : 48 ≤ c ∧ c ≤ 57
      · rw [if_pos c3, if_neg n10]
        unfold b_X11_look0_221
        rw [show ((600 : Int32) + nI c) - (48 : Int32) = nI (600 + (c - 48)) from sub 600 _ 48 c3.1, y_p R, Option.bind_some]
        refine fin _ (by omega) ?_
        unfold wbase
        rw [h0, if_neg (fun x => c2 x.2), if_pos ⟨c1, c3⟩]
      · rw [if_neg c3, if_pos rfl]
        have base : wbase bs = 100 := by
          unfold wbase
          rw [h0, if_neg (fun x => c2 x.2), if_neg (fun x => c3 x.2), if_neg (fun x => by omega), if_neg (fun x => by omega)]
        unfold b_X11_look0_236
        rw [if_neg (fun x => by have := l2.mp x; omega)]
        unfold b_X11_look0_273
        rw [if_neg (fun x => by have := l2.mp x; omega)]
        exact fin0 base
  · rw [if_neg (fun x => c1 (l1.mp x))]
    unfold b_X11_look0_205
    rw [if_neg (fun x => c1 (l1.mp x))]
    exact b236 c1
/-- the reference reads the next token -/
theorem x_look (R : RZ h) (T : TPr h n tp) (hf : f 3 = nI n) (h5 : f 5 = nI i) (hi : i ≤ n) : ∃ f', f_X11_look0 102 (sI h 102 f) = some (sI h 102 f') ∧ f' 6 = nI (lx tp n i).1 ∧ f' 7 = nI (lx tp n i).2.1 ∧ f' 5 = nI (lx tp n i).2.2 ∧ ∀ k, k ≠ 5 → k ≠ 6 → k ≠ 7 → f' k = f k := by
  have hn := T.1
  obtain ⟨a1, a2, a3, a4⟩ := lskip_p (tp := tp) (n := n) 1001 i hi (by omega)
  have s0 := l_sk R T hf 1001 i hi (by omega) fu_ (by decide)
  rw [up1_id h5] at s0
  unfold f_X11_look0
  rw [s0]
  have elx : lx tp n i = if n ≤ lskip tp n 1001 i then (0, lskip tp n 1001 i, lskip tp n 1001 i)
    else if isw (tp (lskip tp n 1001 i)) = true then (wcode (wbs tp (lskip tp n 1001 i) (lword tp n 1001 (lskip tp n 1001 i))), lskip tp n 1001 i, lword tp n 1001 (lskip tp n 1001 i))
    else (scode (tp (lskip tp n 1001 i)) (decide (lskip tp n 1001 i + 1 < n) && decide (tp (lskip tp n 1001 i + 1) = 61)), lskip tp n 1001 i, lskip tp n 1001 i + if scode (tp (lskip tp n 1001 i)) (decide (lskip tp n 1001 i + 1 < n) && decide (tp (lskip tp n 1001 i + 1) = 61)) = 702 then 2 else 1) := rfl
  rw [elx]
  generalize lskip tp n 1001 i = p at a1 a2 a3 a4
  have v5 : up_1 f 5 (nI p) 5 = nI p := up_same
  have f3 : up_1 (up_1 f 5 (nI p)) 7 (nI p) 3 = nI n := by rw [up_ne (by decide), up_ne (by decide)]; exact hf
  have v5' : up_1 (up_1 f 5 (nI p)) 7 (nI p) 5 = nI p := by rw [up_ne (by decide)]; exact v5
  unfold b_X11_look0_39
  rw [y_g R, Option.bind_some, v5, y_p R, Option.bind_some, y_g R, Option.bind_some, v5', rz_v (rz_sI R), Option.bind_some, y_see (k := p) R T f3 (by omega), Option.bind_some, y_g R, Option.bind_some, v5', rz_v (rz_sI R), Option.bind_some, da, y_see (k := p + 1) R T f3 (by omega), Option.bind_some, y_p R, Option.bind_some]
  by_cases c : n ≤ p
  · rw [if_neg (show ¬ p < n by omega), if_pos rfl, if_pos c]
    unfold b_X11_look0_78
    rw [y_p R, Option.bind_some, up1_up1]
    refine ⟨_, rfl, up_same, ?_, ?_, fun k k5 k6 k7 => ?_⟩
    · rw [up_ne (by decide), up_same]
    · rw [up_ne (by decide), up_ne (by decide), up_same]
    · rw [up_ne k6, up_ne k7, up_ne k5]
  · have cp : p < n := by omega
    have hb := T.2.1 p cp
    rw [if_pos cp, if_neg (nI_ne1 (by omega)), if_neg c]
    unfold b_X11_look0_86
    rw [x_wly (by omega), Option.bind_some]
    by_cases cw : isw (tp p) = true
    · rw [if_pos cw, if_neg n10, if_pos cw]
      unfold b_X11_look0_93
      obtain ⟨b1, b2, b3, b4⟩ := lword_p (tp := tp) (n := n) 1001 p a2 (by omega)
      -- the loop
      obtain ⟨sm, x1, x2, x3⟩ := l_wd (c := nI (tp p)) (d := if p + 1 < n then nI (tp (p + 1)) else -1) (p := p) (g := up_1 (up_1 f 7 (nI p)) 6 100) R T (by rw [up_ne (by decide), up_ne (by decide)]; exact hf) a2 1001 p (Nat.le_refl _) a2 (by omega) fu_ (by decide) 1 (Or.inr rfl) ⟨fun _ b hb => by
        obtain ⟨k, k1, k2, -⟩ := wbs_m hb
        omega, fun _ => rfl⟩
      have e0 : wbs tp p p = [] := by unfold wbs; rw [Nat.sub_self]; rfl
      rw [e0, Nat.sub_self] at x1
      have ec : up_1 (up_1 (up_1 f 5 (nI p)) 7 (nI p)) 6 (100 : Int32) = up_1 (up_1 (up_1 f 7 (nI p)) 6 100) 5 (nI p) := by
        rw [up_comm (r := 5) (r' := 7) (by decide), up_comm (r := 5) (r' := 6) (by decide)]
      rw [ec]
      have x1' : l_X11_look0_101 fu_ 102 (nI (tp p)) (if p + 1 < n then nI (tp (p + 1)) else -1) (0 : Int32) (0 : Int64) (1 : Int32) (sI h 102 (up_1 (up_1 (up_1 f 7 (nI p)) 6 100) 5 (nI p))) = _ := x1
      rw [x1']
      generalize lword tp n 1001 p = q at b1 b2 b3 b4 x3
      have pq : p < q := by
        apply Classical.byContradiction
        intro hh
        have e : q = p := by omega
        have := b4 (by omega)
        rw [e, cw] at this
        cases this
      have bl : (wbs tp p q).length = q - p := wbs_l
      have := x_174 (g := up_1 (up_1 (up_1 f 7 (nI p)) 6 100) 5 (nI q)) (bs := wbs tp p q) (c := tp p) (d := 0) (w := 0) (dI := if p + 1 < n then nI (tp (p + 1)) else -1) (W := pk64 (wbs tp p q)) R hb (by rw [up_ne (by decide), up_same]) (by rw [bl]; omega) (by rw [wbs_g (by omega)]; rfl) (fun h2 => by
        rw [bl] at h2
        rw [if_pos (by omega), wbs_g (by omega)]
        exact ⟨rfl, T.2.1 _ (by omega)⟩) rfl x2 x3 (by rw [bl]; omega)
      rw [bl] at this
      rw [this]
      refine ⟨_, rfl, up_same, ?_, ?_, fun k k5 k6 k7 => ?_⟩
      · rw [up_ne (by decide), up_ne (by decide), up_ne (by decide), up_same]
      · rw [up_ne (by decide), up_same]
      · rw [up_ne k6, up_ne k5, up_ne k6, up_ne k7]
    · rw [if_neg cw, if_pos rfl, if_neg cw]
      generalize hG : up_1 (up_1 (up_1 f 5 (nI p)) 7 (nI p)) 6 (100 : Int32) = G
      have G5 : G 5 = nI p := by rw [← hG, up_ne (by decide)]; exact v5'
      have G6 : G 6 = 100 := by rw [← hG, up_same]
      have G7 : G 7 = nI p := by rw [← hG, up_ne (by decide), up_same]
      have Gk : ∀ k, k ≠ 5 → k ≠ 6 → k ≠ 7 → G k = f k := fun k k5 k6 k7 => by rw [← hG, up_ne k6, up_ne k7, up_ne k5]
      have fin : ∀ x, x < 2 ^ 31 → ∃ f', b_X11_look0_455 102 (nI x) (sI h 102 G) = some (sI h 102 f') ∧ f' 6 = nI x ∧ f' 7 = nI p ∧ f' 5 = nI (p + if x = 702 then 2 else 1) ∧ ∀ k, k ≠ 5 → k ≠ 6 → k ≠ 7 → f' k = f k := fun x hx => by
        have x7 : nI x = 702 ↔ x = 702 := nI_eq (b := 702) hx (by omega)
        unfold b_X11_look0_455
        rw [y_p R, Option.bind_some, y_g R, Option.bind_some, up_ne (by decide), G5]
        by_cases cx : x = 702
        · rw [if_pos (x7.mpr cx), if_pos cx]
          unfold b_X11_look0_473 b_X11_look0_478
          rw [da, y_p R, Option.bind_some]
          refine ⟨_, rfl, ?_, ?_, up_same, fun k k5 k6 k7 => ?_⟩
          · rw [up_ne (by decide), up_same]
          · rw [up_ne (by decide), up_ne (by decide)]; exact G7
          · rw [up_ne k5, up_ne k6]; exact Gk k k5 k6 k7
        · rw [if_neg (fun y => cx (x7.mp y)), if_neg cx]
          unfold b_X11_look0_477 b_X11_look0_478
          rw [da, y_p R, Option.bind_some]
          refine ⟨_, rfl, ?_, ?_, up_same, fun k k5 k6 k7 => ?_⟩
          · rw [up_ne (by decide), up_same]
          · rw [up_ne (by decide), up_ne (by decide)]; exact G7
          · rw [up_ne k5, up_ne k6]; exact Gk k k5 k6 k7
      have e59 : nI (tp p) = 59 ↔ tp p = 59 := nI_eq (b := 59) (by omega) (by omega)
      have e61 : nI (tp p) = 61 ↔ tp p = 61 := nI_eq (b := 61) (by omega) (by omega)
      have e46 : nI (tp p) = 46 ↔ tp p = 46 := nI_eq (b := 46) (by omega) (by omega)
      have e43 : nI (tp p) = 43 ↔ tp p = 43 := nI_eq (b := 43) (by omega) (by omega)
      have e123 : nI (tp p) = 123 ↔ tp p = 123 := nI_eq (b := 123) (by omega) (by omega)
      have e125 : nI (tp p) = 125 ↔ tp p = 125 := nI_eq (b := 125) (by omega) (by omega)
      have ed : (if p + 1 < n then nI (tp (p + 1)) else (-1 : Int32)) = 61 ↔ (decide (p + 1 < n) && decide (tp (p + 1) = 61)) = true := by
        rw [Bool.and_eq_true, decide_eq_true_iff, decide_eq_true_iff]
        by_cases c1 : p + 1 < n
        · rw [if_pos c1]
          have := T.2.1 _ c1
          rw [show (61 : Int32) = nI 61 from rfl, nI_eq (by omega) (by omega)]
          exact ⟨fun x => ⟨c1, x⟩, fun x => x.2⟩
        · rw [if_neg c1]
          exact ⟨fun x => absurd x (by decide), fun x => absurd x.1 c1⟩
      show ∃ f', b_X11_look0_367 102 (nI (tp p)) (if p + 1 < n then nI (tp (p + 1)) else -1) (sI h 102 G) = _ ∧ _
      unfold b_X11_look0_367 scode
      by_cases c1 : tp p = 59
      · rw [if_pos (e59.mpr c1), if_pos c1]
        exact fin 700 (by omega)
      · rw [if_neg (fun x => c1 (e59.mp x)), if_neg c1]
        unfold b_X11_look0_379
        by_cases c2 : tp p = 61
        · rw [if_pos (e61.mpr c2), if_pos c2]
          unfold b_X11_look0_385
          by_cases c3 : (decide (p + 1 < n) && decide (tp (p + 1) = 61)) = true
          · rw [if_pos (ed.mpr c3), if_pos c3]
            exact fin 702 (by omega)
          · rw [if_neg (fun x => c3 (ed.mp x)), if_neg c3]
            exact fin 701 (by omega)
        · rw [if_neg (fun x => c2 (e61.mp x)), if_neg c2]
          unfold b_X11_look0_403
          by_cases c3 : tp p = 46
          · rw [if_pos (e46.mpr c3), if_pos c3]
            exact fin 703 (by omega)
          · rw [if_neg (fun x => c3 (e46.mp x)), if_neg c3]
            unfold b_X11_look0_415
            by_cases c4 : tp p = 43
            · rw [if_pos (e43.mpr c4), if_pos c4]
              exact fin 704 (by omega)
            · rw [if_neg (fun x => c4 (e43.mp x)), if_neg c4]
              unfold b_X11_look0_427
              by_cases c5 : tp p = 123
              · rw [if_pos (e123.mpr c5), if_pos c5]
                exact fin 705 (by omega)
              · rw [if_neg (fun x => c5 (e123.mp x)), if_neg c5]
                unfold b_X11_look0_439
                by_cases c6 : tp p = 125
                · rw [if_pos (e125.mpr c6), if_pos c6]
                  exact fin 706 (by omega)
                · rw [if_neg (fun x => c6 (e125.mp x)), if_neg c6]
                  unfold b_X11_look0_451
                  rw [y_g R, Option.bind_some, G6]
                  exact fin 100 (by omega)
end
