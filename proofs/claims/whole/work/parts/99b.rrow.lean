/-! ===== the reference's states as rows: a heap with one row set ===== -/
def rowv (h : AH) (d : Nat) : Nat → Int32 := fun k => hp_i h 109 (142 * d + k)
def sR (h : AH) (d : Nat) (g : Nat → Int32) : AH := (hp_n h, hp_s h, hp_k h, hp_l h, (fun r k => if r = 109 ∧ 142 * d ≤ k ∧ k < 142 * d + 142 then g (k - 142 * d) else hp_i h r k), hp_j h, hp_r h)
/-- the reference with program F in slot s, order o, the set mo -/
def RE (h : AH) (s : Nat) (F : Nat → Int32) (o : Nat) (mo : Int32) : Prop :=
  RH h ∧ s < 8 ∧ o ≤ 2 ∧ hp_i h 102 24 = nI s ∧ hp_i h 102 26 = nI o ∧ hp_i h 102 27 = mo ∧ ∀ k, k < 900 → hp_i h 106 (900 * s + k) = F k
section
variable {h H : AH} {d e s o k : Nat} {g g' F : Nat → Int32} {mo : Int32}
theorem sR_i {r : Nat} (hr : r ≠ 109) : hp_i (sR h d g) r = hp_i h r := by
  funext k
  exact if_neg (fun e => hr e.1)
theorem sR_row (hk : k < 142) : rowv (sR h d g) d k = g k := by
  show (if 109 = 109 ∧ 142 * d ≤ 142 * d + k ∧ 142 * d + k < 142 * d + 142 then g (142 * d + k - 142 * d) else hp_i h 109 (142 * d + k)) = g k
  rw [if_pos ⟨rfl, by omega, by omega⟩, Nat.add_sub_cancel_left]
theorem sR_ne {d' : Nat} (hd : d' ≠ d) (hk : k < 142) : rowv (sR h d g) d' k = rowv h d' k := by
  show (if 109 = 109 ∧ 142 * d ≤ 142 * d' + k ∧ 142 * d' + k < 142 * d + 142 then g (142 * d' + k - 142 * d) else hp_i h 109 (142 * d' + k)) = _
  rw [if_neg (by omega)]
  rfl
theorem ah_i {h h' : AH} (h1 : hp_n h = hp_n h') (h2 : hp_s h = hp_s h') (h3 : hp_k h = hp_k h') (h4 : hp_l h = hp_l h') (h5 : hp_i h = hp_i h') (h6 : hp_j h = hp_j h') (h7 : hp_r h = hp_r h') : h = h' := by
  obtain ⟨a1, a2, a3, a4, a5, a6, a7⟩ := h
  obtain ⟨b1, b2, b3, b4, b5, b6, b7⟩ := h'
  simp only [hp_n, hp_s, hp_k, hp_l, hp_i, hp_j, hp_r] at h1 h2 h3 h4 h5 h6 h7
  subst h1 h2 h3 h4 h5 h6 h7
  rfl
theorem sR_eta : sR h d (rowv h d) = h := by
  refine ah_i rfl rfl rfl rfl ?_ rfl rfl
  funext r k
  show (if r = 109 ∧ 142 * d ≤ k ∧ k < 142 * d + 142 then hp_i h 109 (142 * d + (k - 142 * d)) else hp_i h r k) = _
  split
  · rename_i c
    rw [c.1, show 142 * d + (k - 142 * d) = k by omega]
  · rfl
theorem sR_sR : sR (sR h d g) d g' = sR h d g' := by
  refine ah_i rfl rfl rfl rfl ?_ rfl rfl
  funext r k
  show (if r = 109 ∧ 142 * d ≤ k ∧ k < 142 * d + 142 then g' (k - 142 * d) else (if r = 109 ∧ 142 * d ≤ k ∧ k < 142 * d + 142 then g (k - 142 * d) else hp_i h r k)) = (if r = 109 ∧ 142 * d ≤ k ∧ k < 142 * d + 142 then g' (k - 142 * d) else hp_i h r k)
  split
  · rfl
  · rfl
theorem sR_cg (hg : ∀ k, k < 142 → g k = g' k) : sR h d g = sR h d g' := by
  refine ah_i rfl rfl rfl rfl ?_ rfl rfl
  funext r k
  show (if r = 109 ∧ 142 * d ≤ k ∧ k < 142 * d + 142 then g (k - 142 * d) else hp_i h r k) = (if r = 109 ∧ 142 * d ≤ k ∧ k < 142 * d + 142 then g' (k - 142 * d) else hp_i h r k)
  split
  · exact hg _ (by omega)
  · rfl
theorem sR_up {v : Int32} (hk : k < 142) : st_i (sR h d g) 109 (142 * d + k) v = sR h d (up_1 g k v) := by
  refine ah_i rfl rfl rfl rfl ?_ rfl rfl
  funext r j
  show (if r = 109 ∧ j = 142 * d + k then v else (if r = 109 ∧ 142 * d ≤ j ∧ j < 142 * d + 142 then g (j - 142 * d) else hp_i h r j)) = (if r = 109 ∧ 142 * d ≤ j ∧ j < 142 * d + 142 then (if j - 142 * d = k then v else g (j - 142 * d)) else hp_i h r j)
  by_cases c : r = 109 ∧ 142 * d ≤ j ∧ j < 142 * d + 142
  · rw [if_pos c, if_pos c]
    by_cases c2 : j = 142 * d + k
    · rw [if_pos ⟨c.1, c2⟩, if_pos (by omega)]
    · rw [if_neg (fun x => c2 x.2), if_neg (by omega)]
  · rw [if_neg c, if_neg c, if_neg (fun x => c ⟨x.1, by omega, by omega⟩)]
theorem sR_rh (R : RH h) : RH (sR h d g) := R
theorem sR_re (E : RE h s F o mo) : RE (sR h d g) s F o mo := by
  obtain ⟨a, b, c, e1, e2, e3, e4⟩ := E
  exact ⟨a, b, c, by rw [sR_i (by decide)]; exact e1, by rw [sR_i (by decide)]; exact e2, by rw [sR_i (by decide)]; exact e3, fun k hk => by rw [sR_i (by decide)]; exact e4 k hk⟩
theorem x_ok (E : RE H s F o mo) : ok_v H 102 11 = some () := if_pos E.1.1
theorem x_o (E : RE H s F o mo) : g_i H 102 11 26 = some (nI o) := by
  rw [← E.2.2.2.2.1]
  exact if_pos E.1.1
theorem x_st (E : RE H s F o mo) (hd : d < 20) (hk : k < 142) : f_X11_st 102 (nI d) (nI k) H = some (rowv H d k, H) := e_st E.1 hd hk
theorem x_sg (E : RE h s F o mo) (hd : d < 20) (hk : k < 142) : f_X11_st 102 (nI d) (nI k) (sR h d g) = some (g k, sR h d g) := by
  rw [e_st (sR_rh E.1) hd hk]
  show some (rowv (sR h d g) d k, _) = _
  rw [sR_row hk]
theorem x_so {d' : Nat} (E : RE h s F o mo) (hd : d' < 20) (hk : k < 142) (hne : d' ≠ d) : f_X11_st 102 (nI d') (nI k) (sR h d g) = some (rowv h d' k, sR h d g) := by
  rw [e_st (sR_rh E.1) hd hk]
  show some (rowv (sR h d g) d' k, _) = _
  rw [sR_ne hne hk]
theorem x_put {v : Int32} (E : RE h s F o mo) (hd : d < 20) (hk : k < 142) : f_X11_put 102 (nI d) (nI k) v (sR h d g) = some (sR h d (up_1 g k v)) := by
  rw [e_put (sR_rh E.1) hd hk, sR_up hk]
theorem x_of (E : RE H s F o mo) (hk : k < 900) : f_X11_of 102 (nI k) H = some (F k, H) := by
  rw [e_of E.1 E.2.2.2.1 E.2.1 hk, E.2.2.2.2.2.2 k hk]
theorem x_ins {x : Nat} (E : RE H s F o mo) (hk : 60 + 5 * x + k < 900) : f_X11_instr 102 (nI x) (nI k) H = some (F (60 + 5 * x + k), H) := by
  rw [e_ins E.1 E.2.2.2.1 E.2.1 hk, E.2.2.2.2.2.2 _ hk]
theorem x_isd {n : Nat} (E : RE H s F o mo) (hd : d < 20) : f_X11_isDone 102 (nI d) (nI n) H = some (if (rowv H d 129 >>> (nI n &&& 31)) &&& (1 : Int32) = 1 then 1 else 0, H) := e_isd E.1 hd
theorem x_with {n : Nat} (E : RE H s F o mo) (hd : d < 20) (hn : n < 24) : f_X11_with 102 (nI d) (nI n) H = some (rowv H d (105 + n) ||| ((1 : Int32) <<< (nI n &&& 31)), H) := e_with E.1 hd hn
theorem x_vol {c : Nat} {V : Nat → Bool} (E : RE H s F o mo) (hc : c < 6) (hV : V c = true ↔ F c = 1 ∨ (mo >>> (nI c &&& 31)) &&& (1 : Int32) = 1) : f_X11_isVolatile 102 (nI c) H = some (if V c = true then 1 else 0, H) := by
  have hr : rv H s c ↔ V c = true := by
    unfold rv
    rw [E.2.2.2.2.2.2 c (by omega), E.2.2.2.2.2.1, hV]
  obtain ⟨a, b⟩ | ⟨a, b⟩ := e_vol (c := c) E.1 E.2.2.2.1 E.2.1 hc
  · rw [b, if_pos (hr.mp a)]
  · rw [b, if_neg (fun x => a (hr.mpr x))]
theorem x_worth {b l c v : Nat} (E : RE H s F o mo) (hd : d < 20) (hl : l < 5) (hb : b < 2) (hc : c ≤ 9) (hv : rowv H d (4 + l) = nI v) (v9 : v ≤ 9) : f_X11_worth 102 (nI d) (nI b) (nI l) (nI c) H = some (nI (if b = 0 then c else (v + c) % 10), H) := e_worth E.1 hd hl hb hc hv v9
theorem x_worth0 {l c : Int32} : f_X11_worth 102 (nI d) (nI 0) l c H = some (c, H) := e_worth0
theorem n10 : ¬ (1 : Int32) = 0 := by decide
theorem ad (k a : Nat) : (OfNat.ofNat k : Int32) + nI a = nI (@OfNat.ofNat Nat k (instOfNatNat k) + a) := nI_add k a
theorem da (k a : Nat) : nI a + (OfNat.ofNat k : Int32) = nI (a + @OfNat.ofNat Nat k (instOfNatNat k)) := nI_add a k
theorem mu (k a : Nat) : (OfNat.ofNat k : Int32) * nI a = nI (@OfNat.ofNat Nat k (instOfNatNat k) * a) := pk_mul k a
end
