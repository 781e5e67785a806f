/-! ===== the class's scanner reads the same tokens ===== -/
def ckd (c : Nat) : Nat := if c = 0 then 0 else if c = 100 then 1 else if c < 300 then c - 198 else if c < 400 then 11 else if c < 500 then 12 else if c < 600 then 13 else if c < 700 then 14 else if c = 700 then 15 else if c = 701 then 16 else if c = 702 then 17 else if c = 703 then 19 else if c = 704 then 18 else if c = 705 then 20 else 21
def cw1 (c : Nat) : Nat := if 300 ≤ c ∧ c < 700 then c % 100 + 1 else 0
/-- the number that the class keeps of a token -/
def enc (x : Nat × Nat × Nat) : Nat := x.2.1 * 65536 + cw1 x.1 * 256 + ckd x.1
section
variable {h : AH} {r r' k : Nat} {f : Nat → Int32} {v : Int32}
theorem sI_sn (hr : r' ≠ r) : st_i (sI h r f) r' k v = sI (st_i h r' k v) r f := by
  refine ah_i rfl rfl rfl rfl ?_ rfl rfl
  funext r2 j
  show (if r2 = r' ∧ j = k then v else (if r2 = r then f j else hp_i h r2 j)) = (if r2 = r then f j else (if r2 = r' ∧ j = k then v else hp_i h r2 j))
  by_cases c : r2 = r
  · rw [if_pos c, if_pos c, if_neg (fun x => hr (x.1.symm.trans c))]
  · rw [if_neg c, if_neg c]
theorem wc_a {bs : List Nat} : wcode bs = if wlist.getD 8 [] = bs then 208 else if wlist.getD 7 [] = bs then 207 else if wlist.getD 6 [] = bs then 206 else if wlist.getD 5 [] = bs then 205 else if wlist.getD 4 [] = bs then 204 else if wlist.getD 3 [] = bs then 203 else if wlist.getD 2 [] = bs then 202 else if wlist.getD 1 [] = bs then 201 else if wlist.getD 0 [] = bs then 200 else wbase bs := rfl
theorem wc_1 {bs : List Nat} (h1 : bs.length = 1) : wcode bs = wbase bs := wf_no 9 0 _ (fun j _ h2 e => by
  have := (wl_small j (by omega)).2.1
  rw [e] at this
  omega)
theorem wc_2 {bs : List Nat} (h2 : bs.length = 2) : wcode bs = if [105, 102] = bs then 207 else wbase bs := by
  have ne : ∀ k, k < 9 → k ≠ 7 → ¬ wlist.getD k [] = bs := fun k hk h7 e => by
    have : ∀ k, k < 9 → k ≠ 7 → (wlist.getD k []).length ≠ 2 := by decide
    exact this k hk h7 (by rw [e]; exact h2)
  rw [wc_a, if_neg (ne 8 (by omega) (by omega)), if_neg (ne 6 (by omega) (by omega)), if_neg (ne 5 (by omega) (by omega)), if_neg (ne 4 (by omega) (by omega)), if_neg (ne 3 (by omega) (by omega)), if_neg (ne 2 (by omega) (by omega)), if_neg (ne 1 (by omega) (by omega)), if_neg (ne 0 (by omega) (by omega))]
  rfl
end
/-- the scanner stands, over the tape -/
def XC (h : AH) (n : Nat) (tp : Nat → Nat) : Prop := ok_o h 69 7 ∧ hp_r h 69 3 = 65 ∧ (hp_r h 69 6 = 70 ∧ ok_o h 70 100 ∧ hp_l h 70 = 1001) ∧ (ok_o h 65 100 ∧ hp_l h 65 = 1000) ∧ n ≤ 1000 ∧ (∀ k, k < n → tp k < 256) ∧ ∀ k, k < n → hp_i h 65 k = nI (tp k)
section
variable {h : AH} {tp : Nat → Nat} {n : Nat} {f t : Nat → Int32} {k p q : Nat}
theorem z_g (X : XC h n tp) : g_i (sI (sI h 70 t) 69 f) 69 7 k = some (f k) := by
  have e : g_i (sI (sI h 70 t) 69 f) 69 7 k = some (hp_i (sI (sI h 70 t) 69 f) 69 k) := if_pos X.1
  rw [e, sI_s]
theorem z_p {v : Int32} (X : XC h n tp) : p_i (sI (sI h 70 t) 69 f) 69 7 k v = some (sI (sI h 70 t) 69 (up_1 f k v)) := by
  have e : p_i (sI (sI h 70 t) 69 f) 69 7 k v = some (st_i (sI (sI h 70 t) 69 f) 69 k v) := if_pos X.1
  rw [e, sI_st]
theorem z_v (X : XC h n tp) : ok_v (sI (sI h 70 t) 69 f) 69 7 = some () := if_pos X.1
theorem z_r3 (X : XC h n tp) : g_r (sI (sI h 70 t) 69 f) 69 7 3 = some 65 := by
  have e : g_r (sI (sI h 70 t) 69 f) 69 7 3 = some (hp_r h 69 3) := if_pos X.1
  rw [e, X.2.1]
theorem z_r6 (X : XC h n tp) : g_r (sI (sI h 70 t) 69 f) 69 7 6 = some 70 := by
  have e : g_r (sI (sI h 70 t) 69 f) 69 7 6 = some (hp_r h 69 6) := if_pos X.1
  rw [e, X.2.2.1.1]
theorem z_t (X : XC h n tp) (hk : k < n) : l_i (sI (sI h 70 t) 69 f) 65 (nI k) = some (nI (tp k)) := by
  have hn := X.2.2.2.2.1
  rw [l_iN (h := sI (sI h 70 t) 69 f) (r := 65) (n := k) X.2.2.2.1.1 (by show k < hp_l h 65; rw [X.2.2.2.1.2]; omega) (by omega), sI_n (by decide), sI_n (by decide), X.2.2.2.2.2.2 k hk]
theorem z_ws {b : Nat} {H : AH} (hb : b < 256) : f_X7_isWordSign (nI b) H = some (if isw b = true then 1 else 0, H) := by
  have e : isw b = true ↔ (97 ≤ b ∧ b ≤ 122) ∨ (65 ≤ b ∧ b ≤ 90) ∨ (48 ≤ b ∧ b ≤ 57) := by
    unfold isw
    simp only [Bool.or_eq_true, Bool.and_eq_true, decide_eq_true_iff, or_assoc]
  have yes : isw b = true → b_X7_isWordSign_36 H = some (if isw b = true then 1 else 0, H) := fun x => by rw [if_pos x]; exact ok_z_1
  have no : ¬ isw b = true → b_X7_isWordSign_40 H = some (if isw b = true then 1 else 0, H) := fun x => by rw [if_neg x]; exact ok_z_0
  have lt : ∀ k : Nat, k < 256 → (nI b < nI k ↔ b < k) := fun k hk => nI_ltI (by omega) (by omega)
  have le : ∀ k : Nat, k < 256 → (nI b ≤ nI k ↔ b ≤ k) := fun k hk => nI_leI (by omega) (by omega)
  have l97 : nI b < 97 ↔ b < 97 := lt 97 (by omega)
  have l122 : nI b ≤ 122 ↔ b ≤ 122 := le 122 (by omega)
  have l65 : nI b < 65 ↔ b < 65 := lt 65 (by omega)
  have l90 : nI b ≤ 90 ↔ b ≤ 90 := le 90 (by omega)
  have l48 : nI b < 48 ↔ b < 48 := lt 48 (by omega)
  have l57 : (57 : Int32) < nI b ↔ 57 < b := nI_ltI (a := 57) (by omega) (by omega)
  have b24 : ¬ (65 ≤ b ∧ b ≤ 90) → ¬ (97 ≤ b ∧ b ≤ 122) → b_X7_isWordSign_24 (nI b) H = some (if isw b = true then 1 else 0, H) := fun k1 k2 => by
    unfold b_X7_isWordSign_24
    by_cases c : b < 48
    · rw [if_pos (l48.mpr c)]
      exact no (fun x => by have := e.mp x; omega)
    · rw [if_neg (fun x => c (l48.mp x))]
      unfold b_X7_isWordSign_30
      by_cases c2 : 57 < b
      · rw [if_pos (l57.mpr c2)]
        exact no (fun x => by have := e.mp x; omega)
      · rw [if_neg (fun x => c2 (l57.mp x))]
        exact yes (e.mpr (by omega))
  have b12 : ¬ (97 ≤ b ∧ b ≤ 122) → b_X7_isWordSign_12 (nI b) H = some (if isw b = true then 1 else 0, H) := fun k1 => by
    unfold b_X7_isWordSign_12
    by_cases c : b < 65
    · rw [if_pos (l65.mpr c)]
      exact b24 (by omega) k1
    · rw [if_neg (fun x => c (l65.mp x))]
      unfold b_X7_isWordSign_18
      by_cases c2 : b ≤ 90
      · rw [if_pos (l90.mpr c2)]
        exact yes (e.mpr (by omega))
      · rw [if_neg (fun x => c2 (l90.mp x))]
        exact b24 (by omega) k1
  unfold f_X7_isWordSign b_X7_isWordSign_0
  by_cases c : b < 97
  · rw [if_pos (l97.mpr c)]
    exact b12 (by omega)
  · rw [if_neg (fun x => c (l97.mp x))]
    unfold b_X7_isWordSign_6
    by_cases c2 : b ≤ 122
    · rw [if_pos (l122.mpr c2)]
      exact yes (e.mpr (by omega))
    · rw [if_neg (fun x => c2 (l122.mp x))]
      exact b12 (by omega)
theorem l_swd (X : XC h n tp) (h4 : f 4 = nI n) : ∀ m q, q ≤ n → n < q + m → ∀ fu, m < fu → l_X7_scanWord_0 fu 69 (sI (sI h 70 t) 69 (up_1 f 5 (nI q))) = b_X7_scanWord_39 69 (sI (sI h 70 t) 69 (up_1 f 5 (nI (lword tp n m q)))) := by
  have hn := X.2.2.2.2.1
  intro m
  induction m with
  | zero => intro q h1 h2; omega
  | succ m ih =>
    intro q h1 h2 fu hfu
    obtain ⟨fu, rfl⟩ : ∃ x, fu = x + 1 := ⟨fu - 1, by omega⟩
    have v4 : up_1 f 5 (nI q) 4 = nI n := by rw [up_ne (by decide)]; exact h4
    show b_X7_scanWord_0 (l_X7_scanWord_0 fu) 69 (sI (sI h 70 t) 69 (up_1 f 5 (nI q))) = _
    unfold b_X7_scanWord_0 lword
    rw [z_g X, Option.bind_some, up_same, z_g X, Option.bind_some, v4]
    by_cases c : q < n
    · rw [if_neg (nI_ge c (by omega))]
      unfold b_X7_scanWord_11
      rw [z_r3 X, Option.bind_some, z_g X, Option.bind_some, up_same, z_t X c, Option.bind_some, z_ws (X.2.2.2.2.2.1 q c), Option.bind_some]
      by_cases cw : isw (tp q) = true
      · rw [if_pos cw, if_neg n10, if_pos ⟨c, cw⟩]
        unfold b_X7_scanWord_26
        rw [z_g X, Option.bind_some, up_same, da, z_p X, Option.bind_some, up1_up1]
        exact ih (q + 1) (by omega) (by omega) fu (by omega)
      · rw [if_neg cw, if_pos rfl, if_neg (fun x => cw x.2)]
    · rw [if_pos (nI_le (by omega) (by omega)), if_neg (fun x => c x.1)]
/-- a word of the class -/
theorem l_isw {r : Nat} {W : List Nat} (X : XC h n tp) (h2 : f 2 = nI p) (h4 : f 4 = nI n) (hr : 1 ≤ r ∧ r ≤ 17) (hl : js_l.getD (r - 1) 0 = W.length) (hW : ∀ i, i < W.length → (js_b.getD (r - 1) []).getD i 0 = nI (W.getD i 0)) (hWb : ∀ i, i < W.length → W.getD i 0 < 256) (hp : p + W.length ≤ n) : ∀ m i, i + m = W.length → ∀ fu, m < fu → ∃ r', l_X7_isWord_20 fu 69 r (nI i) (sI (sI h 70 t) 69 f) = some (r', sI (sI h 70 t) 69 f) ∧ (r' = 0 ∨ r' = 1) ∧ (r' = 1 ↔ ∀ j, i ≤ j → j < W.length → tp (p + j) = W.getD j 0) := by
  have hn := X.2.2.2.2.1
  have el : ∀ G, f_J0_length r G = some (nI W.length, G) := fun G => by unfold f_J0_length; rw [if_pos hr, hl]; rfl
  intro m
  induction m with
  | zero =>
    intro i hi fu hfu
    obtain ⟨fu, rfl⟩ : ∃ x, fu = x + 1 := ⟨fu - 1, by omega⟩
    show ∃ r', b_X7_isWord_20 (l_X7_isWord_20 fu) 69 r (nI i) (sI (sI h 70 t) 69 f) = _ ∧ _
    unfold b_X7_isWord_20
    rw [el, Option.bind_some, if_pos (nI_le (by omega) (by omega))]
    exact ⟨1, ok_z_1, Or.inr rfl, fun _ j h1 h2 => by omega, fun _ => rfl⟩
  | succ m ih =>
    intro i hi fu hfu
    obtain ⟨fu, rfl⟩ : ∃ x, fu = x + 1 := ⟨fu - 1, by omega⟩
    show ∃ r', b_X7_isWord_20 (l_X7_isWord_20 fu) 69 r (nI i) (sI (sI h 70 t) 69 f) = _ ∧ _
    unfold b_X7_isWord_20
    rw [el, Option.bind_some, if_neg (nI_ge (by omega) (by omega))]
    unfold b_X7_isWord_28
    rw [z_g X, Option.bind_some, h2, z_g X, Option.bind_some, h4, nI_add, if_neg (nI_ge (by omega) (by omega))]
    unfold b_X7_isWord_41
    have ch : f_J0_charAt r (nI i) (sI (sI h 70 t) 69 f) = some (nI (W.getD i 0), sI (sI h 70 t) 69 f) := by
      have e : f_J0_charAt r (nI i) (sI (sI h 70 t) 69 f) = some ((js_b.getD (r - 1) []).getD (nI i).toNatClampNeg 0, sI (sI h 70 t) 69 f) := if_pos ⟨hr, nI_pos (by omega), by rw [nI_clamp (by omega), hl]; omega⟩
      rw [e, nI_clamp (by omega), hW i (by omega)]
    rw [z_r3 X, Option.bind_some, z_g X, Option.bind_some, h2, nI_add, z_t X (by omega), Option.bind_some, ch, Option.bind_some]
    have hb1 := X.2.2.2.2.2.1 (p + i) (by omega)
    have hb2 := hWb i (by omega)
    have ee : nI (tp (p + i)) = nI (W.getD i 0) ↔ tp (p + i) = W.getD i 0 := nI_eq (by omega) (by omega)
    by_cases c : tp (p + i) = W.getD i 0
    · rw [if_pos (ee.mpr c)]
      unfold b_X7_isWord_62
      obtain ⟨r', r1, r2, r3⟩ := ih (i + 1) (by omega) fu (by omega)
      rw [da]
      refine ⟨r', r1, r2, r3.trans ⟨fun x j h1 h2 => ?_, fun x j h1 h2 => x j (by omega) h2⟩⟩
      by_cases e : j = i
      · rw [e]; exact c
      · exact x j (by omega) h2
    · rw [if_neg (fun x => c (ee.mp x))]
      exact ⟨0, ok_z_0, Or.inl rfl, fun x => absurd x (by decide), fun x => absurd (x i (Nat.le_refl _) (by omega)) c⟩
theorem z_isw {r : Nat} {W : List Nat} (X : XC h n tp) (h2 : f 2 = nI p) (h4 : f 4 = nI n) (h5 : f 5 = nI q) (hpq : p ≤ q) (hq : q ≤ n) (hr : 1 ≤ r ∧ r ≤ 17) (hl : js_l.getD (r - 1) 0 = W.length) (hW : ∀ i, i < W.length → (js_b.getD (r - 1) []).getD i 0 = nI (W.getD i 0)) (hWb : ∀ i, i < W.length → W.getD i 0 < 256) :
    (W = wbs tp p q ∧ f_X7_isWord 69 r (sI (sI h 70 t) 69 f) = some (1, sI (sI h 70 t) 69 f)) ∨ (¬ W = wbs tp p q ∧ f_X7_isWord 69 r (sI (sI h 70 t) 69 f) = some (0, sI (sI h 70 t) 69 f)) := by
  have hn := X.2.2.2.2.1
  have hwl : W.length < 100 := by
    have : ∀ r, r ≤ 16 → js_l.getD r 0 < 100 := by decide
    rw [← hl]
    exact this _ (by omega)
  have el : f_J0_length r (sI (sI h 70 t) 69 f) = some (nI W.length, sI (sI h 70 t) 69 f) := by unfold f_J0_length; rw [if_pos hr, hl]; rfl
  unfold f_X7_isWord b_X7_isWord_0
  rw [el, Option.bind_some, z_g X, Option.bind_some, h5, z_g X, Option.bind_some, h2, pk_sub hpq]
  by_cases c : W.length = q - p
  · rw [if_pos (by rw [c])]
    unfold b_X7_isWord_18
    obtain ⟨r', r1, r2, r3⟩ := l_isw (t := t) X h2 h4 hr hl hW hWb (by omega) W.length 0 (by omega) fu_ (by unfold fu_; omega)
    have key : W = wbs tp p q ↔ r' = 1 := by
      rw [r3]
      constructor
      · intro e j _ hj
        rw [e, wbs_g (by omega)]
      · intro hx
        refine List.ext_getElem (by rw [wbs_l, c]) (fun i h1 h2 => ?_)
        have := hx i (by omega) h1
        have g := wbs_g (tp := tp) (p := p) (q := q) (k := i) (by omega)
        rw [← g, List.getD_eq_getElem?_getD, List.getD_eq_getElem?_getD, List.getElem?_eq_getElem h1, List.getElem?_eq_getElem h2] at this
        exact this.symm
    obtain rfl | rfl := r2
    · exact Or.inr ⟨fun x => absurd (key.mp x) (by decide), r1⟩
    · exact Or.inl ⟨key.mpr rfl, r1⟩
  · rw [if_neg (fun x => c ((nI_eq (by omega) (by omega)).mp x))]
    refine Or.inr ⟨fun x => c ?_, ok_z_0⟩
    rw [x, wbs_l]
/-- the words of three and more signs -/
theorem z_long (X : XC h n tp) (h2 : f 2 = nI p) (h4 : f 4 = nI n) (h5 : f 5 = nI q) (hpq : p ≤ q) (hq : q ≤ n) (h3 : 3 ≤ q - p) : f_X7_longWord 69 (sI (sI h 70 t) 69 f) = some (nI (ckd (wcode (wbs tp p q))), sI (sI h 70 t) 69 f) ∧ cw1 (wcode (wbs tp p q)) = 0 := by
  have hlen : (wbs tp p q).length = q - p := wbs_l
  have wb : wbase (wbs tp p q) = 100 := by
    unfold wbase
    rw [hlen, if_neg (by omega), if_neg (by omega), if_neg (by omega), if_neg (by omega)]
  have ne7 : ¬ wlist.getD 7 [] = wbs tp p q := fun e => by
    have : (wlist.getD 7 []).length = q - p := by rw [e, hlen]
    have e2 : (wlist.getD 7 []).length = 2 := rfl
    omega
  rw [wc_a, wb, if_neg ne7]
  have dist : ∀ i, i < 9 → ∀ j, j < 9 → i ≠ j → ¬ wlist.getD i [] = wlist.getD j [] := by decide
  have wd : ∀ r k, k < 9 → 1 ≤ r ∧ r ≤ 17 → js_l.getD (r - 1) 0 = (wlist.getD k []).length → (∀ i, i < (wlist.getD k []).length → (js_b.getD (r - 1) []).getD i 0 = nI ((wlist.getD k []).getD i 0)) → (∀ i, i < (wlist.getD k []).length → (wlist.getD k []).getD i 0 < 256) → (wlist.getD k [] = wbs tp p q ∧ f_X7_isWord 69 r (sI (sI h 70 t) 69 f) = some (1, sI (sI h 70 t) 69 f)) ∨ (¬ wlist.getD k [] = wbs tp p q ∧ f_X7_isWord 69 r (sI (sI h 70 t) 69 f) = some (0, sI (sI h 70 t) 69 f)) := fun r k _ a b c d => z_isw X h2 h4 h5 hpq hq a b c d
  unfold f_X7_longWord b_X7_longWord_0
  rw [z_v X, Option.bind_some]
  obtain ⟨c, e⟩ | ⟨c0, e⟩ := wd 2 0 (by omega) (by omega) (by decide) (by decide) (by decide)
  · rw [e, Option.bind_some, if_neg n10, ← c, if_neg (dist 8 (by omega) 0 (by omega) (by omega)), if_neg (dist 6 (by omega) 0 (by omega) (by omega)), if_neg (dist 5 (by omega) 0 (by omega) (by omega)), if_neg (dist 4 (by omega) 0 (by omega) (by omega)), if_neg (dist 3 (by omega) 0 (by omega) (by omega)), if_neg (dist 2 (by omega) 0 (by omega) (by omega)), if_neg (dist 1 (by omega) 0 (by omega) (by omega)), if_pos rfl]
    exact ⟨rfl, rfl⟩
  · rw [e, Option.bind_some, if_pos rfl]
    unfold b_X7_longWord_11
    rw [z_v X, Option.bind_some]
    obtain ⟨c, e⟩ | ⟨c1, e⟩ := wd 3 1 (by omega) (by omega) (by decide) (by decide) (by decide)
    · rw [e, Option.bind_some, if_neg n10, ← c, if_neg (dist 8 (by omega) 1 (by omega) (by omega)), if_neg (dist 6 (by omega) 1 (by omega) (by omega)), if_neg (dist 5 (by omega) 1 (by omega) (by omega)), if_neg (dist 4 (by omega) 1 (by omega) (by omega)), if_neg (dist 3 (by omega) 1 (by omega) (by omega)), if_neg (dist 2 (by omega) 1 (by omega) (by omega)), if_pos rfl]
      exact ⟨rfl, rfl⟩
    · rw [e, Option.bind_some, if_pos rfl]
      unfold b_X7_longWord_22
      rw [z_v X, Option.bind_some]
      obtain ⟨c, e⟩ | ⟨c2, e⟩ := wd 4 2 (by omega) (by omega) (by decide) (by decide) (by decide)
      · rw [e, Option.bind_some, if_neg n10, ← c, if_neg (dist 8 (by omega) 2 (by omega) (by omega)), if_neg (dist 6 (by omega) 2 (by omega) (by omega)), if_neg (dist 5 (by omega) 2 (by omega) (by omega)), if_neg (dist 4 (by omega) 2 (by omega) (by omega)), if_neg (dist 3 (by omega) 2 (by omega) (by omega)), if_pos rfl]
        exact ⟨rfl, rfl⟩
      · rw [e, Option.bind_some, if_pos rfl]
        unfold b_X7_longWord_33
        rw [z_v X, Option.bind_some]
        obtain ⟨c, e⟩ | ⟨c3, e⟩ := wd 5 3 (by omega) (by omega) (by decide) (by decide) (by decide)
        · rw [e, Option.bind_some, if_neg n10, ← c, if_neg (dist 8 (by omega) 3 (by omega) (by omega)), if_neg (dist 6 (by omega) 3 (by omega) (by omega)), if_neg (dist 5 (by omega) 3 (by omega) (by omega)), if_neg (dist 4 (by omega) 3 (by omega) (by omega)), if_pos rfl]
          exact ⟨rfl, rfl⟩
        · rw [e, Option.bind_some, if_pos rfl]
          unfold b_X7_longWord_44
          rw [z_v X, Option.bind_some]
          obtain ⟨c, e⟩ | ⟨c4, e⟩ := wd 6 4 (by omega) (by omega) (by decide) (by decide) (by decide)
          · rw [e, Option.bind_some, if_neg n10, ← c, if_neg (dist 8 (by omega) 4 (by omega) (by omega)), if_neg (dist 6 (by omega) 4 (by omega) (by omega)), if_neg (dist 5 (by omega) 4 (by omega) (by omega)), if_pos rfl]
            exact ⟨rfl, rfl⟩
          · rw [e, Option.bind_some, if_pos rfl]
            unfold b_X7_longWord_56
            rw [z_v X, Option.bind_some]
            obtain ⟨c, e⟩ | ⟨c5, e⟩ := wd 7 5 (by omega) (by omega) (by decide) (by decide) (by decide)
            · rw [e, Option.bind_some, if_neg n10, ← c, if_neg (dist 8 (by omega) 5 (by omega) (by omega)), if_neg (dist 6 (by omega) 5 (by omega) (by omega)), if_pos rfl]
              exact ⟨rfl, rfl⟩
            · rw [e, Option.bind_some, if_pos rfl]
              unfold b_X7_longWord_68
              rw [z_v X, Option.bind_some]
              obtain ⟨c, e⟩ | ⟨c6, e⟩ := wd 8 6 (by omega) (by omega) (by decide) (by decide) (by decide)
              · rw [e, Option.bind_some, if_neg n10, ← c, if_neg (dist 8 (by omega) 6 (by omega) (by omega)), if_pos rfl]
                exact ⟨rfl, rfl⟩
              · rw [e, Option.bind_some, if_pos rfl]
                unfold b_X7_longWord_80
                rw [z_v X, Option.bind_some]
                obtain ⟨c, e⟩ | ⟨c8, e⟩ := wd 9 8 (by omega) (by omega) (by decide) (by decide) (by decide)
                · rw [e, Option.bind_some, if_neg n10, ← c, if_pos rfl]
                  exact ⟨rfl, rfl⟩
                · rw [e, Option.bind_some, if_pos rfl, if_neg c8, if_neg c6, if_neg c5, if_neg c4, if_neg c3, if_neg c2, if_neg c1, if_neg c0]
                  exact ⟨rfl, rfl⟩
end
