/-! ===== the reference's program beside the class's code; settle ===== -/
/-- E's local and digit: in the class k2, k3 (-1 none); in the reference b (a local or not), l, dg -/
def exR (k2 k3 : Int32) (b l : Nat) (dg : Int32) : Prop := ∃ c, c ≤ 9 ∧ dg = nI c ∧ ((b = 0 ∧ k2 = -1 ∧ k3 = nI c) ∨ (b = 1 ∧ k2 = nI l ∧ ((k3 = -1 ∧ c = 0) ∨ k3 = nI c)))
/-- entry e of the class's code is instruction rx e -/
def rxI (F : Nat → Int32) (K : Nat → Nat → Int32) (rx : Nat → Nat) (sz e : Nat) : Prop :=
  (K 0 e = 9 → rx (e + 1) = rx e) ∧ (¬ K 0 e = 9 → rx (e + 1) = rx e + 1 ∧ F (60 + 5 * rx e + 0) = if K 0 e = 10 then 9 else K 0 e) ∧
  (K 0 e = 0 ∨ K 0 e = 2 → F (60 + 5 * rx e + 1) = K 6 e ∧ F (60 + 5 * rx e + 2) = K 4 e ∧ F (60 + 5 * rx e + 3) = K 1 e) ∧
  (K 0 e = 2 → F (60 + 5 * rx e + 4) = K 2 e) ∧
  (K 0 e = 1 → F (60 + 5 * rx e + 1) = K 6 e ∧ F (60 + 5 * rx e + 2) = K 4 e ∧ ∃ b l, b < 2 ∧ l < 5 ∧ F (60 + 5 * rx e + 3) = nI (2 * l + b) ∧ exR (K 2 e) (K 3 e) b l (F (60 + 5 * rx e + 4))) ∧
  (K 0 e = 3 ∨ K 0 e = 4 → F (60 + 5 * rx e + 1) = K 6 e ∧ F (60 + 5 * rx e + 2) = K 4 e) ∧
  (K 0 e = 5 → F (60 + 5 * rx e + 1) = K 6 e) ∧
  (K 0 e = 6 → F (60 + 5 * rx e + 1) = K 1 e ∧ ∃ b l, b < 2 ∧ l < 5 ∧ F (60 + 5 * rx e + 2) = nI b ∧ F (60 + 5 * rx e + 3) = nI l ∧ exR (K 2 e) (K 3 e) b l (F (60 + 5 * rx e + 4))) ∧
  (K 0 e = 7 → F (60 + 5 * rx e + 1) = K 1 e ∧ F (60 + 5 * rx e + 2) = K 3 e ∧ ∀ j, K 5 e = nI j → j < sz → F (60 + 5 * rx e + 3) = nI (rx j)) ∧
  (K 0 e = 8 → ∀ j, K 5 e = nI j → j < sz → F (60 + 5 * rx e + 1) = nI (rx j))
def PR (F : Nat → Int32) (K : Nat → Nat → Int32) (te ow rx : Nat → Nat) (na nt sz : Nat) (V : Nat → Bool) (mo : Int32) : Prop :=
  KW K te ow na nt sz ∧ F 6 = nI na ∧ F 7 = nI nt ∧ (∀ t s, t < nt → K 7 t = nI s → s < sz → F (13 + t) = nI (rx s)) ∧
  (∀ n e, n < na → K 8 n = nI e → e < sz → F (18 + 4 * n) = nI (te e) ∧ F (18 + 4 * n + 1) = K 0 e ∧ F (18 + 4 * n + 2) = K 4 e) ∧
  (∀ e, e < sz → rxI F K rx sz e) ∧ (∀ e, e ≤ sz → rx e ≤ e) ∧
  (∀ c, c < 6 → (V c = true ↔ F c = 1 ∨ (mo >>> (nI c &&& 31)) &&& (1 : Int32) = 1)) ∧ F 11 = K 10 16 ∧
  (∀ e c, e < sz → K 0 e = 2 → c < 6 → K 4 e = nI c → V c = false) ∧ (∀ e, e < sz → K 0 e = 5 → K 6 e = K 10 17)
/-- the write that was seen, as the reference has it -/
def wR (x : Int32) (w : Nat) : Prop := (w = 0 ∧ x = -1) ∨ ∃ m, m < 8 ∧ w = m + 1 ∧ x = nI m
def srcR (g : Nat → Int32) (dn : Nat → Prop) (lm : LM) (l : Nat) : Prop := (g (9 + l) = -1 ∧ lm.2 l = 0) ∨ ∃ n, n < 8 ∧ dn n ∧ g (9 + l) = nI n ∧ wR (g (113 + n)) (lm.2 l)
/-- the row shows thread t at entry e with the locals lm -/
def TR (K : Nat → Nat → Int32) (te ow rx : Nat → Nat) (sz o : Nat) (dn : Nat → Prop) (g : Nat → Int32) (t : Nat) (lm : LM) (e : Nat) : Prop :=
  g t = nI (rx e) ∧ e < sz ∧ te e = t ∧ (∀ l, l < 5 → ow l = t → g (4 + l) = lm.1 l ∧ ∃ v, v ≤ 9 ∧ lm.1 l = nI v) ∧ (o ≠ 1 → ∀ l, l < 5 → ow l = t → srcR g dn lm l)
/-- what settle leaves alone -/
def GK (ow : Nat → Nat) (t : Nat) (g g' : Nat → Int32) : Prop := ∀ k, k ≠ t → (∀ l, l < 5 → ow l = t → k ≠ 4 + l ∧ k ≠ 9 + l) → g' k = g k
section
variable {h : AH} {d s o t : Nat} {g F : Nat → Int32} {mo : Int32} {K : Nat → Nat → Int32} {te ow rx : Nat → Nat} {na nt sz : Nat} {V : Nat → Bool} {dn : Nat → Prop}
theorem gk_rf : GK ow t g g := fun _ _ _ => rfl
theorem gk_tr {g1 g2 : Nat → Int32} (a : GK ow t g g1) (b : GK ow t g1 g2) : GK ow t g g2 := fun k h1 h2 => (b k h1 h2).trans (a k h1 h2)
theorem op_lt {x : Int32} {op : Nat} (h : x = nI op) (h2 : op ≤ 10) : x = 0 ∨ x = 1 ∨ x = 2 ∨ x = 3 ∨ x = 4 ∨ x = 5 ∨ x = 6 ∨ x = 7 ∨ x = 8 ∨ x = 9 ∨ x = 10 := by
  subst h
  have : op = 0 ∨ op = 1 ∨ op = 2 ∨ op = 3 ∨ op = 4 ∨ op = 5 ∨ op = 6 ∨ op = 7 ∨ op = 8 ∨ op = 9 ∨ op = 10 := by omega
  rcases this with rfl | rfl | rfl | rfl | rfl | rfl | rfl | rfl | rfl | rfl | rfl <;> decide
theorem m10_9 : ∀ n, n < 19 → m_m10 (nI n) = nI (n % 10) := by decide
/-- worth in both -/
theorem x_wo {H : AH} {k2 k3 dg : Int32} {b l : Nat} {lm : LM} (E : RE H s F o mo) (hd : d < 20) (hl : l < 5) (hb : b < 2) (X : exR k2 k3 b l dg) (hw : b = 1 → rowv H d (4 + l) = lm.1 l ∧ ∃ v, v ≤ 9 ∧ lm.1 l = nI v) :
    ∃ v, v ≤ 9 ∧ f_X11_worth 102 (nI d) (nI b) (nI l) dg H = some (nI v, H) ∧ m_m10 (if k2 = -1 then (if k3 = -1 then 0 else k3) else (if k3 = -1 then 0 else k3) + lm.1 (ix k2)) = nI v := by
  obtain ⟨c, c9, rfl, ⟨rfl, rfl, rfl⟩ | ⟨rfl, rfl, hk⟩⟩ := X
  · refine ⟨c, c9, x_worth0, ?_⟩
    rw [if_pos rfl, if_neg (nI_ne1 (by omega)), m10_9 _ (by omega), Nat.mod_eq_of_lt (by omega)]
  · obtain ⟨h1, v, v9, h2⟩ := hw rfl
    refine ⟨(v + c) % 10, by omega, ?_, ?_⟩
    · rw [x_worth (v := v) E hd hl (by omega) c9 (h1.trans h2) v9, if_neg (by omega)]
    · rw [if_neg (nI_ne1 (by omega)), ix_nI (by omega), h2]
      have e3 : (if k3 = -1 then (0 : Int32) else k3) = nI c := by
        obtain ⟨rfl, rfl⟩ | rfl := hk
        · rfl
        · rw [if_neg (nI_ne1 (by omega))]
      rw [e3, nI_add, m10_9 _ (by omega), Nat.add_comm]
/-- one turn of settle's loop, as far as it is asked whether it goes on -/
theorem se_head {k : Nat} {op : Int32} {f : Nat} (E : RE h s F o mo) (hd : d < 20) (ht : t < 4) (hk : g t = nI k) (h64 : k < 66) (hop : F (60 + 5 * k + 0) = op) :
    l_X11_settle_2 (f + 1) 102 (nI d) (nI t) 1 (sR h d g) =
      if op = 6 ∨ op = 7 ∨ op = 8 ∨ (o = 1 ∧ (op = 1 ∨ op = 5)) then b_X11_settle_79 (l_X11_settle_2 f) 102 (nI d) (nI t) 1 (nI k) op (sR h d g) else l_X11_settle_2 f 102 (nI d) (nI t) 0 (sR h d g) := by
  have E' : RE (sR h d g) s F o mo := sR_re E
  have z : (0 : Int32) + nI t = nI t := by rw [ad, Nat.zero_add]
  have ei : f_X11_instr 102 (nI k) (0 : Int32) (sR h d g) = some (op, sR h d g) := by rw [← hop]; exact x_ins (k := 0) E' (by omega)
  show b_X11_settle_2 (l_X11_settle_2 f) 102 (nI d) (nI t) 1 (sR h d g) = _
  unfold b_X11_settle_2
  rw [if_neg (by decide)]
  unfold b_X11_settle_6
  rw [x_ok E', Option.bind_some, z, x_sg E hd (by omega), Option.bind_some, hk, x_ok E', Option.bind_some, ei, Option.bind_some]
  have b66 : b_X11_settle_66 (l_X11_settle_2 f) 102 (nI d) (nI t) (nI k) op (sR h d g) = b_X11_settle_79 (l_X11_settle_2 f) 102 (nI d) (nI t) 1 (nI k) op (sR h d g) := by
    unfold b_X11_settle_66 b_X11_settle_71
    rw [if_neg (by decide)]
  have b70 : b_X11_settle_70 (l_X11_settle_2 f) 102 (nI d) (nI t) (nI k) op (sR h d g) = l_X11_settle_2 f 102 (nI d) (nI t) 0 (sR h d g) := by
    unfold b_X11_settle_70 b_X11_settle_71
    rw [if_pos rfl]
    rfl
  unfold b_X11_settle_32 b_X11_settle_39 b_X11_settle_46 b_X11_settle_54 b_X11_settle_60
  rw [b66, b70, x_o E', Option.bind_some]
  have o1 : (nI o = 1) ↔ o = 1 := nI_eq (b := 1) (by have := E.2.2.1; omega) (by omega)
  by_cases c6 : op = 6
  · rw [if_pos c6, if_pos (Or.inl c6)]
  · rw [if_neg c6]
    by_cases c7 : op = 7
    · rw [if_pos c7, if_pos (Or.inr (Or.inl c7))]
    · rw [if_neg c7]
      by_cases c8 : op = 8
      · rw [if_pos c8, if_pos (Or.inr (Or.inr (Or.inl c8)))]
      · rw [if_neg c8]
        by_cases co : o = 1
        · rw [if_pos (o1.mpr co)]
          by_cases c1 : op = 1
          · rw [if_pos c1, if_pos (Or.inr (Or.inr (Or.inr ⟨co, Or.inl c1⟩)))]
          · rw [if_neg c1]
            by_cases c5 : op = 5
            · rw [if_pos c5, if_pos (Or.inr (Or.inr (Or.inr ⟨co, Or.inr c5⟩)))]
            · rw [if_neg c5, if_neg (by rintro (x | x | x | ⟨-, x | x⟩) <;> contradiction)]
        · rw [if_neg (fun x => co (o1.mp x)), if_neg (by rintro (x | x | x | ⟨x, -⟩) <;> contradiction)]
theorem se_315 {f : Nat} {x : Int32} (E : RE h s F o mo) (hd : d < 20) (ht : t < 4) : b_X11_settle_315 (l_X11_settle_2 f) 102 (nI d) (nI t) 1 x (sR h d g) = l_X11_settle_2 f 102 (nI d) (nI t) 1 (sR h d (up_1 g t x)) := by
  have z : (0 : Int32) + nI t = nI t := by rw [ad, Nat.zero_add]
  unfold b_X11_settle_315
  rw [x_ok (sR_re E), Option.bind_some, z, x_put E hd (by omega), Option.bind_some]
theorem se_stop {k : Nat} {op : Int32} {f : Nat} (E : RE h s F o mo) (hd : d < 20) (ht : t < 4) (hk : g t = nI k) (h64 : k < 66) (hop : F (60 + 5 * k + 0) = op) (hn : ¬ (op = 6 ∨ op = 7 ∨ op = 8 ∨ (o = 1 ∧ (op = 1 ∨ op = 5)))) :
    l_X11_settle_2 (f + 2) 102 (nI d) (nI t) 1 (sR h d g) = some (sR h d g) := by
  rw [se_head E hd ht hk h64 hop, if_neg hn]
  rfl
/-- a set: one turn -/
theorem se_let {e f : Nat} {lm : LM} (P : PR F K te ow rx na nt sz V mo) (E : RE h s F o mo) (hd : d < 20) (ht : t < nt) (T : TR K te ow rx sz o dn g t lm e) (hop : K 0 e = 6) :
    ∃ g', l_X11_settle_2 (f + 1) 102 (nI d) (nI t) 1 (sR h d g) = l_X11_settle_2 f 102 (nI d) (nI t) 1 (sR h d g') ∧ TR K te ow rx sz o dn g' t (w_lm K lm e) (e + 1) ∧ GK ow t g g' := by
  obtain ⟨Z, -, -, -, -, pI, pB, -⟩ := P
  obtain ⟨t1, t2, t3, t4, t5⟩ := T
  have hsz := Z.2.2.1
  have hnt := Z.2.1
  obtain ⟨-, op, a1, a2, a3, a4, a5, -, -, a6, -⟩ := Z.2.2.2.2.2.2.2.1 e t2
  have o6 : op = 6 := by rw [a1, show (6 : Int32) = nI 6 from rfl, nI_eq (by omega) (by omega)] at hop; exact hop
  obtain ⟨b1, b2⟩ := a5 (by omega)
  obtain ⟨l0, l5, l6, l7⟩ := a6 (by omega)
  obtain ⟨-, r2, -, -, -, -, -, r8, -⟩ := pI e t2
  obtain ⟨r3, r4⟩ := r2 (by rw [hop]; decide)
  obtain ⟨r5, b, l, hb, hl, r6, r7, X⟩ := r8 hop
  have rb := pB e (by omega)
  have E' : RE (sR h d g) s F o mo := sR_re E
  have hbl : b = 1 → ow l = t := fun hb1 => by
    obtain ⟨c, -, -, ⟨x, -, -⟩ | ⟨-, x, -⟩⟩ := X
    · omega
    · obtain ⟨-, op', a1', a2', -, -, -, -, -, -, -, a8, -⟩ := Z.2.2.2.2.2.2.2.1 e t2
      have : op' = 6 := by rw [a1, o6, nI_eq (by omega) (by omega)] at a1'; exact a1'.symm
      obtain ⟨y | ⟨b', y1, y2, y3⟩, -⟩ := a8 (Or.inr this)
      · rw [x] at y; exact absurd y (nI_ne1 (by omega))
      · rw [x, nI_eq (by omega) (by omega)] at y2
        rw [y2, y3, t3]
  obtain ⟨v, v9, x1, x2⟩ := x_wo (H := sR h d g) (lm := lm) E' hd hl hb X (fun hb1 => by
    have := t4 l hl (hbl hb1)
    rw [sR_row (by omega)]
    exact this)
  have su : w_su K lm e = nI v := x2
  have ins : ∀ i, i < 5 → ∀ G, f_X11_instr 102 (nI (rx e)) (nI i) (sR h d G) = some (F (60 + 5 * rx e + i), sR h d G) := fun i hi G => x_ins (sR_re E) (by omega)
  refine ⟨up_1 (up_1 (up_1 g (4 + l0) (nI v)) (9 + l0) (-1)) t (nI (rx e + 1)), ?_, ?_, ?_⟩
  · have r4' : F (60 + 5 * rx e + 0) = 6 := by rw [r4, hop, if_neg (by decide)]
    rw [se_head E hd (by omega) t1 (by omega) r4', if_pos (Or.inl rfl)]
    unfold b_X11_settle_79
    rw [if_pos rfl]
    unfold b_X11_settle_92
    have i1 := ins 1 (by omega); have i2 := ins 2 (by omega); have i3 := ins 3 (by omega); have i4 := ins 4 (by omega)
    rw [r5, l6] at i1
    rw [r6] at i2
    rw [r7] at i3
    rw [x_ok E', Option.bind_some, show (1 : Int32) = nI 1 from rfl, i1, Option.bind_some, x_ok E', Option.bind_some, show (2 : Int32) = nI 2 from rfl, i2, Option.bind_some, x_ok E', Option.bind_some, show (3 : Int32) = nI 3 from rfl, i3, Option.bind_some, x_ok E', Option.bind_some, show (4 : Int32) = nI 4 from rfl, i4, Option.bind_some, x_ok E', Option.bind_some]
    rw [x1, Option.bind_some, x_ok E', Option.bind_some, nI_add, x_put E hd (by omega), Option.bind_some, x_ok (sR_re E), Option.bind_some, i1, Option.bind_some, x_ok (sR_re E), Option.bind_some, ad, x_put E hd (by omega), Option.bind_some, nI_add]
    exact se_315 E hd (by omega)
  · have tl : ∀ l, l < 5 → t ≠ 4 + l ∧ t ≠ 9 + l := fun l _ => by omega
    refine ⟨by rw [up_same, r3], b1, b2.trans t3, fun l hl ho => ?_, fun ho l hl hol => ?_⟩
    · rw [up_ne (by omega), up_ne (by omega)]
      unfold w_lm
      rw [if_pos hop, l6, ix_nI (by omega), su]
      show up_1 g (4 + l0) (nI v) (4 + l) = up_1 lm.1 l0 (nI v) l ∧ ∃ v', v' ≤ 9 ∧ up_1 lm.1 l0 (nI v) l = nI v'
      by_cases e0 : l = l0
      · subst e0
        rw [up_same, up_same]
        exact ⟨rfl, v, v9, rfl⟩
      · rw [up_ne (by omega), up_ne e0]
        exact t4 l hl ho
    · unfold srcR w_lm
      rw [if_pos hop, l6, ix_nI (by omega)]
      show (_ ∧ up_1 lm.2 l0 0 l = 0) ∨ ∃ n, n < 8 ∧ dn n ∧ _ ∧ wR _ (up_1 lm.2 l0 0 l)
      by_cases e0 : l = l0
      · subst e0
        left
        rw [up_ne (by omega), up_same, up_same]
        exact ⟨rfl, rfl⟩
      · obtain ⟨q1, q2⟩ | ⟨n, q1, q2, q3, q4⟩ := t5 ho l hl hol
        · left
          rw [up_ne (by omega), up_ne (by omega), up_ne (by omega), up_ne e0]
          exact ⟨q1, q2⟩
        · refine Or.inr ⟨n, q1, q2, ?_, ?_⟩
          · rw [up_ne (by omega), up_ne (by omega), up_ne (by omega)]; exact q3
          · rw [up_ne (by omega), up_ne (by omega), up_ne (by omega), up_ne e0]; exact q4
  · intro k k1 k2
    have := k2 l0 l5 (by rw [l7, t3])
    rw [up_ne k1, up_ne this.2, up_ne this.1]
/-- the thread goes to another entry -/
theorem tr_pc {e e' : Nat} {lm : LM} (T : TR K te ow rx sz o dn g t lm e) (ht : t < 4) (h1 : e' < sz) (h2 : te e' = te e) : TR K te ow rx sz o dn (up_1 g t (nI (rx e'))) t lm e' := by
  obtain ⟨t1, t2, t3, t4, t5⟩ := T
  refine ⟨up_same, h1, h2.trans t3, fun l hl ho => ?_, fun ho l hl hol => ?_⟩
  · rw [up_ne (by omega)]; exact t4 l hl ho
  · obtain ⟨q1, q2⟩ | ⟨n, q1, q2, q3, q4⟩ := t5 ho l hl hol
    · left; rw [up_ne (by omega)]; exact ⟨q1, q2⟩
    · right; exact ⟨n, q1, q2, by rw [up_ne (by omega)]; exact q3, by rw [up_ne (by omega)]; exact q4⟩
theorem gk_pc {x : Int32} : GK ow t g (up_1 g t x) := fun k h1 _ => up_ne h1
/-- an if or a jump: one turn -/
theorem se_go {e f : Nat} {lm : LM} (P : PR F K te ow rx na nt sz V mo) (E : RE h s F o mo) (hd : d < 20) (ht : t < nt) (T : TR K te ow rx sz o dn g t lm e) (hop : K 0 e = 7 ∨ K 0 e = 8) :
    ∃ g', l_X11_settle_2 (f + 1) 102 (nI d) (nI t) 1 (sR h d g) = l_X11_settle_2 f 102 (nI d) (nI t) 1 (sR h d g') ∧ TR K te ow rx sz o dn g' t lm (w_nx K lm e) ∧ GK ow t g g' := by
  obtain ⟨Z, -, -, -, -, pI, pB, -⟩ := P
  have T' := T
  obtain ⟨t1, t2, t3, t4, t5⟩ := T
  have hsz := Z.2.2.1
  have hnt := Z.2.1
  obtain ⟨-, op, a1, a2, a3, a4, a5, -, -, a6, -, -, a7, a8, -⟩ := Z.2.2.2.2.2.2.2.1 e t2
  have o7 : op = 7 ∨ op = 8 := by
    rw [a1, show (7 : Int32) = nI 7 from rfl, show (8 : Int32) = nI 8 from rfl, nI_eq (by omega) (by omega), nI_eq (by omega) (by omega)] at hop
    exact hop
  obtain ⟨b1, b2⟩ := a5 (by omega)
  obtain ⟨j, j1, j2, j3, j4⟩ := a8 o7
  have rb := pB e (by omega)
  obtain ⟨-, r2, -, -, -, -, -, -, r8, r9⟩ := pI e t2
  obtain ⟨r3, r4⟩ := r2 (by obtain c | c := hop <;> rw [c] <;> decide)
  have E' : RE (sR h d g) s F o mo := sR_re E
  have ins : ∀ i, i < 5 → f_X11_instr 102 (nI (rx e)) (nI i) (sR h d g) = some (F (60 + 5 * rx e + i), sR h d g) := fun i hi => x_ins E' (by omega)
  obtain c | c := hop
  · obtain ⟨r5, r6, r7⟩ := r8 c
    have oo : op = 7 := by rw [a1, show (7 : Int32) = nI 7 from rfl, nI_eq (by omega) (by omega)] at c; exact c
    obtain ⟨l, l1, l2, l3⟩ := a6 (by omega)
    have hl := t4 l l1 (l3.trans t3)
    have i1 := ins 1 (by omega); have i2 := ins 2 (by omega); have i3 := ins 3 (by omega)
    rw [r5, l2] at i1
    rw [r6] at i2
    rw [r7 j j1 j3] at i3
    have nx : w_nx K lm e = if lm.1 l = K 3 e then e + 1 else j := by
      unfold w_nx
      rw [if_neg (by rw [c]; decide), if_pos c, l2, ix_nI (by omega), j1, ix_nI (by omega)]
    have pre : l_X11_settle_2 (f + 1) 102 (nI d) (nI t) 1 (sR h d g) = if lm.1 l = K 3 e then l_X11_settle_2 f 102 (nI d) (nI t) 1 (sR h d (up_1 g t (nI (rx e + 1)))) else l_X11_settle_2 f 102 (nI d) (nI t) 1 (sR h d (up_1 g t (nI (rx j)))) := by
      have r4' : F (60 + 5 * rx e + 0) = 7 := by rw [r4, c, if_neg (by decide)]
      rw [se_head E hd (by omega) t1 (by omega) r4', if_pos (Or.inr (Or.inl rfl))]
      unfold b_X11_settle_79
      rw [if_neg (by decide)]
      unfold b_X11_settle_151
      rw [if_pos rfl]
      unfold b_X11_settle_158
      rw [x_ok E', Option.bind_some, show (1 : Int32) = nI 1 from rfl, i1, Option.bind_some, x_ok E', Option.bind_some, ad, x_sg E hd (by omega), Option.bind_some, x_ok E', Option.bind_some, show (2 : Int32) = nI 2 from rfl, i2, Option.bind_some, hl.1, nI_add]
      unfold b_X11_settle_182 b_X11_settle_187 b_X11_settle_194
      rw [x_ok E', Option.bind_some, show (3 : Int32) = nI 3 from rfl, i3, Option.bind_some]
      rw [show nI 1 = (1 : Int32) from rfl, se_315 E hd (by omega), se_315 E hd (by omega)]
    rw [pre, nx]
    by_cases q : lm.1 l = K 3 e
    · rw [if_pos q, if_pos q]
      exact ⟨_, rfl, by rw [← r3]; exact tr_pc T' (by omega) b1 b2, gk_pc⟩
    · rw [if_neg q, if_neg q]
      exact ⟨_, rfl, tr_pc T' (by omega) j3 j4, gk_pc⟩
  · have i1 := ins 1 (by omega)
    rw [r9 c j j1 j3] at i1
    have nx : w_nx K lm e = j := by
      unfold w_nx
      rw [if_pos c, j1, ix_nI (by omega)]
    rw [nx]
    refine ⟨_, ?_, tr_pc T' (by omega) j3 j4, gk_pc⟩
    have r4' : F (60 + 5 * rx e + 0) = 8 := by rw [r4, c, if_neg (by decide)]
    rw [se_head E hd (by omega) t1 (by omega) r4', if_pos (Or.inr (Or.inr (Or.inl rfl)))]
    unfold b_X11_settle_79
    rw [if_neg (by decide)]
    unfold b_X11_settle_151
    rw [if_neg (by decide)]
    unfold b_X11_settle_199
    rw [if_pos rfl]
    unfold b_X11_settle_206
    rw [x_ok E', Option.bind_some, show (1 : Int32) = nI 1 from rfl, i1, Option.bind_some, show nI 1 = (1 : Int32) from rfl, se_315 E hd (by omega)]
/-- settle up to the next action or the end -/
theorem se_seg (P : PR F K te ow rx na nt sz V mo) (E : RE h s F o mo) (hd : d < 20) (ht : t < nt) : ∀ (n : Nat) (lm : LM) (e : Nat) (g : Nat → Int32) (fu : Nat), TR K te ow rx sz o dn g t lm e → sz ≤ e + n → n < fu →
    ∃ g' e' fu', l_X11_settle_2 fu 102 (nI d) (nI t) 1 (sR h d g) = l_X11_settle_2 fu' 102 (nI d) (nI t) 1 (sR h d g') ∧ fu + e ≤ fu' + e' ∧ e ≤ e' ∧ TR K te ow rx sz o dn g' t (w_go K n lm e).1 e' ∧ GK ow t g g' ∧
      ((K 0 e' = 10 ∧ (w_go K n lm e).2 = 8) ∨ ((w_go K n lm e).2 < na ∧ K 6 e' = nI (w_go K n lm e).2 ∧ K 8 (w_go K n lm e).2 = nI e')) := by
  have Z := P.1
  intro n
  induction n with
  | zero => intro lm e g fu T h1; have := T.2.1; omega
  | succ n ih =>
    intro lm e g fu T h1 h2
    have he := T.2.1
    obtain ⟨-, op, a1, a2, a3, a4, -⟩ := Z.2.2.2.2.2.2.2.1 e he
    by_cases c10 : K 0 e = 10
    · have w : w_go K (n + 1) lm e = (lm, 8) := by unfold w_go; rw [if_pos c10]
      rw [w]
      exact ⟨g, e, fu, rfl, Nat.le_refl _, Nat.le_refl _, T, gk_rf, Or.inl ⟨c10, rfl⟩⟩
    · by_cases c5 : op ≤ 5
      · obtain ⟨q, q1, q2, q3⟩ := a3 c5
        have := Z.1
        have w : w_go K (n + 1) lm e = (lm, q) := by
          unfold w_go
          rw [if_neg c10, if_neg (by rw [q2]; exact nI_ne1 (by omega)), q2, ix_nI (by omega)]
        rw [w]
        exact ⟨g, e, fu, rfl, Nat.le_refl _, Nat.le_refl _, T, gk_rf, Or.inr ⟨q1, q2, q3⟩⟩
      · have c6 := a4 (by omega)
        obtain ⟨s1, s2, s3⟩ := w_step Z (lm := lm) he c10 c6
        have w : w_go K (n + 1) lm e = w_go K n (w_lm K lm e) (w_nx K lm e) := by
          show (if K 0 e = 10 then (lm, 8) else if K 6 e = -1 then w_go K n (w_lm K lm e) (w_nx K lm e) else (lm, ix (K 6 e))) = _
          rw [if_neg c10, if_pos c6]
        rw [w]
        have step : ∃ g' fu', l_X11_settle_2 fu 102 (nI d) (nI t) 1 (sR h d g) = l_X11_settle_2 fu' 102 (nI d) (nI t) 1 (sR h d g') ∧ fu ≤ fu' + 1 ∧ TR K te ow rx sz o dn g' t (w_lm K lm e) (w_nx K lm e) ∧ GK ow t g g' := by
          obtain ⟨f, rfl⟩ : ∃ f, fu = f + 1 := ⟨fu - 1, by omega⟩
          have h10 : op ≠ 10 := fun x => c10 (by rw [a1, x]; rfl)
          have : op = 6 ∨ op = 7 ∨ op = 8 ∨ op = 9 := by omega
          obtain rfl | rfl | rfl | rfl := this
          · obtain ⟨g', x1, x2, x3⟩ := se_let (f := f) P E hd ht T a1
            have wn : w_nx K lm e = e + 1 := by
              unfold w_nx
              rw [if_neg (by rw [a1]; decide), if_neg (by rw [a1]; decide)]
            rw [wn]
            exact ⟨g', f, x1, Nat.le_refl _, x2, x3⟩
          · obtain ⟨g', x1, x2, x3⟩ := se_go (f := f) P E hd ht T (Or.inl a1)
            have wl : w_lm K lm e = lm := by unfold w_lm; rw [if_neg (by rw [a1]; decide)]
            rw [wl]
            exact ⟨g', f, x1, Nat.le_refl _, x2, x3⟩
          · obtain ⟨g', x1, x2, x3⟩ := se_go (f := f) P E hd ht T (Or.inr a1)
            have wl : w_lm K lm e = lm := by unfold w_lm; rw [if_neg (by rw [a1]; decide)]
            rw [wl]
            exact ⟨g', f, x1, Nat.le_refl _, x2, x3⟩
          · have wl : w_lm K lm e = lm := by unfold w_lm; rw [if_neg (by rw [a1]; decide)]
            have wn : w_nx K lm e = e + 1 := by
              unfold w_nx
              rw [if_neg (by rw [a1]; decide), if_neg (by rw [a1]; decide)]
            rw [wl, wn]
            rw [wn] at s1 s2
            refine ⟨g, f + 1, rfl, by omega, ⟨?_, s1, s2.trans T.2.2.1, T.2.2.2⟩, gk_rf⟩
            rw [T.1, ((P.2.2.2.2.2.1 e he).1 a1)]
        obtain ⟨g1, fu1, x1, x2, x3, x4⟩ := step
        obtain ⟨g', e', fu', y1, y2, y3, y4, y5, y6⟩ := ih _ _ g1 fu1 x3 (by omega) (by omega)
        exact ⟨g', e', fu', x1.trans y1, by omega, by omega, y4, gk_tr x4 y5, y6⟩
end
