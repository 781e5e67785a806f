/-! ===== the class's machine: its functions over three longs (written by gen/mkmach.py) ===== -/
def ix (x : Int32) : Nat := x.toNatClampNeg
def m_in (x : Int32) (n : Nat) : Prop := ¬ x < 0 ∧ x.toNatClampNeg < n
def m_len (i : Nat) : Nat := if i < 7 then 64 else if i = 7 then 4 else 8
def sT (h : AH) (T C E : Int64) : AH := st_j (st_j (st_j h 75 0 T) 75 1 C) 75 2 E
/-- rows 0 .. 9 the code's rows, 10 its numbers, 11 writes, 12 unlocks, 13 own, 14 order and volatiles -/
def MR (h : AH) (K : Nat → Nat → Int32) (co : Nat) : Prop :=
  ok_o h 75 2 ∧ hp_r h 75 7 = co ∧ ok_o h co 0 ∧ (∀ i, i < 10 → ok_o h (hp_r h co i) 100 ∧ hp_l h (hp_r h co i) = m_len i ∧ hp_i h (hp_r h co i) = K i) ∧ hp_i h co = K 10 ∧
  (hp_r h 75 4 = 76 ∧ ok_o h 76 100 ∧ hp_l h 76 = 8 ∧ hp_i h 76 = K 11) ∧ (hp_r h 75 5 = 77 ∧ ok_o h 77 100 ∧ hp_l h 77 = 2 ∧ hp_i h 77 = K 12) ∧ (hp_r h 75 6 = 78 ∧ ok_o h 78 100 ∧ hp_l h 78 = 4 ∧ hp_i h 78 = K 13) ∧
  hp_i h 75 3 = K 14 0 ∧ hp_i h 75 8 = K 14 1
theorem up2_same {α : Type} {f : Nat → Nat → α} {r k : Nat} {v : α} : up_2 f r k v r k = v := if_pos ⟨rfl, rfl⟩
theorem up2_k {α : Type} {f : Nat → Nat → α} {r k k' : Nat} {v : α} (h : k' ≠ k) : up_2 f r k v r k' = f r k' := if_neg (fun e => h e.2)
theorem up2_r {α : Type} {f : Nat → Nat → α} {r r' k k' : Nat} {v : α} (h : r' ≠ r) : up_2 f r k v r' k' = f r' k' := if_neg (fun e => h e.1)
theorem up2_over {α : Type} {f : Nat → Nat → α} {r k : Nat} {v v' : α} : up_2 (up_2 f r k v) r k v' = up_2 f r k v' := by
  funext a b
  unfold up_2
  by_cases h : a = r ∧ b = k
  · rw [if_pos h, if_pos h]
  · rw [if_neg h, if_neg h, if_neg h]
theorem up2_comm {α : Type} {f : Nat → Nat → α} {r k r' k' : Nat} {v v' : α} (h : ¬ (r = r' ∧ k = k')) : up_2 (up_2 f r k v) r' k' v' = up_2 (up_2 f r' k' v') r k v := by
  funext a b
  unfold up_2
  by_cases h1 : a = r ∧ b = k
  · obtain ⟨rfl, rfl⟩ := h1
    rw [if_neg h, if_pos ⟨rfl, rfl⟩, if_pos ⟨rfl, rfl⟩]
  · rw [if_neg h1, if_neg h1]
theorem st_j_over {h : AH} {r k : Nat} {v v' : Int64} : st_j (st_j h r k v) r k v' = st_j h r k v' := by
  show (hp_n h, hp_s h, hp_k h, hp_l h, hp_i h, up_2 (up_2 (hp_j h) r k v) r k v', hp_r h) = (hp_n h, hp_s h, hp_k h, hp_l h, hp_i h, up_2 (hp_j h) r k v', hp_r h)
  rw [up2_over]
theorem st_j_comm {h : AH} {r k r' k' : Nat} {v v' : Int64} (hn : ¬ (r = r' ∧ k = k')) : st_j (st_j h r k v) r' k' v' = st_j (st_j h r' k' v') r k v := by
  show (hp_n h, hp_s h, hp_k h, hp_l h, hp_i h, up_2 (up_2 (hp_j h) r k v) r' k' v', hp_r h) = (hp_n h, hp_s h, hp_k h, hp_l h, hp_i h, up_2 (up_2 (hp_j h) r' k' v') r k v, hp_r h)
  rw [up2_comm hn]
theorem m_and (x : Int32) {m : Int32} (k : Nat) (hm : m.toBitVec.toNat = 2 ^ k - 1) (hk : k ≤ 30) : m_in (x &&& m) (2 ^ k) := by
  obtain ⟨j, h1, h2⟩ := pk_andE x k hm
  have : 2 ^ k ≤ 2 ^ 30 := Nat.pow_le_pow_right (by decide) hk
  rw [h2]
  exact ⟨nI_pos (by omega), by rw [nI_clamp (by omega)]; exact h1⟩
theorem m_in_63 (x : Int32) : m_in (x &&& 63) 64 := m_and x 6 (by decide) (by decide)
theorem m_in_7 (x : Int32) : m_in (x &&& 7) 8 := m_and x 3 (by decide) (by decide)
theorem m_in_3 (x : Int32) : m_in (x &&& 3) 4 := m_and x 2 (by decide) (by decide)
theorem m_in_1 (x : Int32) : m_in (x &&& 1) 2 := m_and x 1 (by decide) (by decide)
theorem m_in_nI {a n : Nat} (h : a < n) (hn : n ≤ 100000) : m_in (nI a) n := ⟨nI_pos (by omega), by rw [nI_clamp (by omega)]; exact h⟩
section
variable {h : AH} {K : Nat → Nat → Int32} {co : Nat} {T C E : Int64}
theorem mg_r7 (M : MR h K co) : g_r (sT h T C E) 75 2 7 = some co := by
  rw [← M.2.1]; exact if_pos M.1
theorem mg_r4 (M : MR h K co) : g_r (sT h T C E) 75 2 4 = some 76 := by
  rw [← M.2.2.2.2.2.1.1]; exact if_pos M.1
theorem mg_r5 (M : MR h K co) : g_r (sT h T C E) 75 2 5 = some 77 := by
  rw [← M.2.2.2.2.2.2.1.1]; exact if_pos M.1
theorem mg_r6 (M : MR h K co) : g_r (sT h T C E) 75 2 6 = some 78 := by
  rw [← M.2.2.2.2.2.2.2.1.1]; exact if_pos M.1
theorem mg_co (M : MR h K co) (i : Nat) : g_r (sT h T C E) co 0 i = some (hp_r h co i) := if_pos M.2.2.1
theorem mg_ci (M : MR h K co) (i : Nat) : g_i (sT h T C E) co 0 i = some (K 10 i) := by
  rw [← M.2.2.2.2.1]; exact if_pos M.2.2.1
theorem mg_i3 (M : MR h K co) : g_i (sT h T C E) 75 2 3 = some (K 14 0) := by
  rw [← M.2.2.2.2.2.2.2.2.1]; exact if_pos M.1
theorem mg_i8 (M : MR h K co) : g_i (sT h T C E) 75 2 8 = some (K 14 1) := by
  rw [← M.2.2.2.2.2.2.2.2.2]; exact if_pos M.1
theorem mg_v (M : MR h K co) : ok_v (sT h T C E) 75 2 = some () := if_pos M.1
theorem mg_vc (M : MR h K co) : ok_v (sT h T C E) co 0 = some () := if_pos M.2.2.1
theorem sT_0 : hp_j (sT h T C E) 75 0 = T := by
  show up_2 (up_2 (up_2 (hp_j h) 75 0 T) 75 1 C) 75 2 E 75 0 = T
  rw [up2_k (by decide), up2_k (by decide), up2_same]
theorem sT_1 : hp_j (sT h T C E) 75 1 = C := by
  show up_2 (up_2 (up_2 (hp_j h) 75 0 T) 75 1 C) 75 2 E 75 1 = C
  rw [up2_k (by decide), up2_same]
theorem sT_2 : hp_j (sT h T C E) 75 2 = E := by
  show up_2 (up_2 (up_2 (hp_j h) 75 0 T) 75 1 C) 75 2 E 75 2 = E
  rw [up2_same]
theorem mg_j0 (M : MR h K co) : g_j (sT h T C E) 75 2 0 = some T := by
  rw [show g_j (sT h T C E) 75 2 0 = some (hp_j (sT h T C E) 75 0) from if_pos M.1, sT_0]
theorem mg_j1 (M : MR h K co) : g_j (sT h T C E) 75 2 1 = some C := by
  rw [show g_j (sT h T C E) 75 2 1 = some (hp_j (sT h T C E) 75 1) from if_pos M.1, sT_1]
theorem mg_j2 (M : MR h K co) : g_j (sT h T C E) 75 2 2 = some E := by
  rw [show g_j (sT h T C E) 75 2 2 = some (hp_j (sT h T C E) 75 2) from if_pos M.1, sT_2]
theorem sT_w0 {x : Int64} : st_j (sT h T C E) 75 0 x = sT h x C E :=
  (st_j_comm (by decide)).trans (congrArg (fun z => st_j z 75 2 E) ((st_j_comm (by decide)).trans (congrArg (fun z => st_j z 75 1 C) st_j_over)))
theorem sT_w1 {x : Int64} : st_j (sT h T C E) 75 1 x = sT h T x E :=
  (st_j_comm (by decide)).trans (congrArg (fun z => st_j z 75 2 E) st_j_over)
theorem sT_w2 {x : Int64} : st_j (sT h T C E) 75 2 x = sT h T C x := st_j_over
theorem mp_j0 (M : MR h K co) {x : Int64} : p_j (sT h T C E) 75 2 0 x = some (sT h x C E) := by
  rw [show p_j (sT h T C E) 75 2 0 x = some (st_j (sT h T C E) 75 0 x) from if_pos M.1, sT_w0]
theorem mp_j1 (M : MR h K co) {x : Int64} : p_j (sT h T C E) 75 2 1 x = some (sT h T x E) := by
  rw [show p_j (sT h T C E) 75 2 1 x = some (st_j (sT h T C E) 75 1 x) from if_pos M.1, sT_w1]
theorem mp_j2 (M : MR h K co) {x : Int64} : p_j (sT h T C E) 75 2 2 x = some (sT h T C x) := by
  rw [show p_j (sT h T C E) 75 2 2 x = some (st_j (sT h T C E) 75 2 x) from if_pos M.1, sT_w2]
theorem ml_ (M : MR h K co) (i : Nat) (hi : i < 10) {x : Int32} (hx : m_in x (m_len i)) : l_i (sT h T C E) (hp_r h co i) x = some (K i (ix x)) := by
  obtain ⟨h1, h2, h3⟩ := M.2.2.2.1 i hi
  rw [← h3]
  exact if_pos ⟨h1, hx.1, by show _ < hp_l h (hp_r h co i); rw [h2]; exact hx.2⟩
theorem ml_w (M : MR h K co) {x : Int32} (hx : m_in x 8) : l_i (sT h T C E) 76 x = some (K 11 (ix x)) := by
  obtain ⟨h0, h1, h2, h3⟩ := M.2.2.2.2.2.1
  rw [← h3]
  exact if_pos ⟨h1, hx.1, by show _ < hp_l h 76; rw [h2]; exact hx.2⟩
theorem ml_u (M : MR h K co) {x : Int32} (hx : m_in x 2) : l_i (sT h T C E) 77 x = some (K 12 (ix x)) := by
  obtain ⟨h0, h1, h2, h3⟩ := M.2.2.2.2.2.2.1
  rw [← h3]
  exact if_pos ⟨h1, hx.1, by show _ < hp_l h 77; rw [h2]; exact hx.2⟩
theorem ml_o (M : MR h K co) {x : Int32} (hx : m_in x 4) : l_i (sT h T C E) 78 x = some (K 13 (ix x)) := by
  obtain ⟨h0, h1, h2, h3⟩ := M.2.2.2.2.2.2.2.1
  rw [← h3]
  exact if_pos ⟨h1, hx.1, by show _ < hp_l h 78; rw [h2]; exact hx.2⟩
theorem ml0 (M : MR h K co) {x : Int32} (hx : m_in x 64) : l_i (sT h T C E) (hp_r h co 0) x = some (K 0 (ix x)) := ml_ M 0 (by decide) hx
theorem ml1 (M : MR h K co) {x : Int32} (hx : m_in x 64) : l_i (sT h T C E) (hp_r h co 1) x = some (K 1 (ix x)) := ml_ M 1 (by decide) hx
theorem ml2 (M : MR h K co) {x : Int32} (hx : m_in x 64) : l_i (sT h T C E) (hp_r h co 2) x = some (K 2 (ix x)) := ml_ M 2 (by decide) hx
theorem ml3 (M : MR h K co) {x : Int32} (hx : m_in x 64) : l_i (sT h T C E) (hp_r h co 3) x = some (K 3 (ix x)) := ml_ M 3 (by decide) hx
theorem ml4 (M : MR h K co) {x : Int32} (hx : m_in x 64) : l_i (sT h T C E) (hp_r h co 4) x = some (K 4 (ix x)) := ml_ M 4 (by decide) hx
theorem ml5 (M : MR h K co) {x : Int32} (hx : m_in x 64) : l_i (sT h T C E) (hp_r h co 5) x = some (K 5 (ix x)) := ml_ M 5 (by decide) hx
theorem ml6 (M : MR h K co) {x : Int32} (hx : m_in x 64) : l_i (sT h T C E) (hp_r h co 6) x = some (K 6 (ix x)) := ml_ M 6 (by decide) hx
theorem ml7 (M : MR h K co) {x : Int32} (hx : m_in x 4) : l_i (sT h T C E) (hp_r h co 7) x = some (K 7 (ix x)) := ml_ M 7 (by decide) hx
theorem ml8 (M : MR h K co) {x : Int32} (hx : m_in x 8) : l_i (sT h T C E) (hp_r h co 8) x = some (K 8 (ix x)) := ml_ M 8 (by decide) hx
theorem ml9 (M : MR h K co) {x : Int32} (hx : m_in x 8) : l_i (sT h T C E) (hp_r h co 9) x = some (K 9 (ix x)) := ml_ M 9 (by decide) hx
end
theorem ok_z_0 {h : AH} : ok_z 0 h = some (0, h) := if_pos (Or.inl rfl)
theorem ok_z_1 {h : AH} : ok_z 1 h = some (1, h) := if_pos (Or.inr rfl)
def m_cl (T : Int64) (m : Int64) (s : Int32) : Int64 := T &&& ((m <<< (s.toInt64 &&& 63)) ^^^ (-1 : Int64))
def m_or (T : Int64) (v : Int64) (s : Int32) : Int64 := T ||| (v <<< (s.toInt64 &&& 63))
def m_nx (T : Int64) (t : Int32) : Int32 := ((us_j T ((4 : Int32) * t)).toInt32) &&& (15 : Int32)
def m_va (T : Int64) (l : Int32) : Int32 := ((us_j T ((16 : Int32) + ((4 : Int32) * l))).toInt32) &&& (15 : Int32)
def m_ho (T : Int64) (m : Int32) : Int32 := ((us_j T ((36 : Int32) + ((3 : Int32) * m))).toInt32) &&& (7 : Int32)
def m_do (T : Int64) : Int32 := ((us_j T (47 : Int32)).toInt32) &&& (255 : Int32)
def m_qu (K : Nat → Nat → Int32) (T : Int64) (t : Int32) : Int32 := ((us_j T (55 : Int32)).toInt32) &&& K 13 (ix (t &&& (3 : Int32)))
def m_vo (K : Nat → Nat → Int32) (c : Int32) : Int32 := if ((K 14 1 >>> (c &&& 31)) &&& (1 : Int32)) = 0 then 0 else 1
def m_ce (C : Int64) (c : Int32) : Int32 := ((us_j C ((4 : Int32) * c)).toInt32) &&& (15 : Int32)
def m_wb (C : Int64) (n : Int32) : Int32 := if (8 : Int32) ≤ n then 0 else ((us_j C ((24 : Int32) + ((4 : Int32) * n))).toInt32) &&& (15 : Int32)
def m_ea (E : Int64) (n : Int32) : Int32 := ((us_j E ((8 : Int32) * n)).toInt32) &&& (255 : Int32)
def m_pu (T : Int64) (l : Int32) : Int32 := if (lg_cmp ((us_j T ((42 : Int32) + l)) &&& (1 : Int64)) (0 : Int64)) = 0 then 0 else 1
def m_sl (T : Int64) (l v p : Int32) : Int64 := if p = 0 then m_cl (m_or (m_cl T 15 ((16 : Int32) + ((4 : Int32) * l))) v.toInt64 ((16 : Int32) + ((4 : Int32) * l))) 1 ((42 : Int32) + l) else m_or (m_cl (m_or (m_cl T 15 ((16 : Int32) + ((4 : Int32) * l))) v.toInt64 ((16 : Int32) + ((4 : Int32) * l))) 1 ((42 : Int32) + l)) 1 ((42 : Int32) + l)
def m_m10 (x : Int32) : Int32 := x - x / 10 * 10
def m_su (K : Nat → Nat → Int32) (T : Int64) (e : Int32) : Int32 := m_m10 (if K 2 (ix (e &&& 63)) = -1 then (if K 3 (ix (e &&& 63)) = -1 then 0 else K 3 (ix (e &&& 63))) else (if K 3 (ix (e &&& 63)) = -1 then 0 else K 3 (ix (e &&& 63))) + m_va T (K 2 (ix (e &&& 63))))
def m_fi (T : Int64) (t n : Int32) : Int64 := m_or (m_cl T 15 ((4 : Int32) * t)) n.toInt64 ((4 : Int32) * t)
def m_go (K : Nat → Nat → Int32) (t : Int32) : Nat → Int64 → Int32 → Int64
  | 0, T, _ => m_fi T t 8
  | n + 1, T, a => if K 0 (ix a) = 10 then m_fi T t 8 else if K 6 (ix a) = -1 then
      m_go K t n (if K 0 (ix a) = 6 then m_sl T (K 1 (ix a)) (m_su K T a) 0 else T) ((if K 0 (ix a) = 8 then K 5 (ix a) else if K 0 (ix a) = 7 then (if m_va T (K 1 (ix a)) = K 3 (ix a) then a + 1 else K 5 (ix a)) else a + 1) &&& 63)
    else m_fi T t (K 6 (ix a))
def m_lk (K : Nat → Nat → Int32) (T : Int64) (t a s : Int32) : Int32 :=
  if K 0 (ix (a &&& 63)) = 3 then (K 13 (ix (t &&& 3)) &&& m_do T) ||| (K 12 (ix (K 4 (ix (a &&& 63)) &&& 1)) &&& m_do T)
  else if K 0 (ix (a &&& 63)) = 0 then (if m_vo K (K 4 (ix (a &&& 63))) = 0 then K 13 (ix (t &&& 3)) &&& m_do T else if (8 : Int32) ≤ s then K 13 (ix (t &&& 3)) &&& m_do T else (K 13 (ix (t &&& 3)) &&& m_do T) ||| ((1 : Int32) <<< (s &&& 31)))
  else if K 0 (ix (a &&& 63)) = 2 then (if K 10 17 = -1 then K 13 (ix (t &&& 3)) &&& m_do T else if m_pu T (K 2 (ix (a &&& 63))) = 0 then K 13 (ix (t &&& 3)) &&& m_do T else (K 13 (ix (t &&& 3)) &&& m_do T) ||| ((1 : Int32) <<< (K 10 17 &&& 31)))
  else K 13 (ix (t &&& 3)) &&& m_do T
def m_al (E : Int64) (lk : Int32) : Nat → Nat → Int32 → Int32
  | 0, _, x => x
  | n + 1, i, x => m_al E lk n (i + 1) (if ((lk >>> (nI i &&& 31)) &&& (1 : Int32)) = 0 then x else x ||| m_ea E (nI i))
def m_ah (K : Nat → Nat → Int32) (T E : Int64) (t a s : Int32) : Int32 := m_al E (m_lk K T t a s) 8 0 (m_lk K T t a s)
def m_ip (K : Nat → Nat → Int32) (s : Int32) : Int32 := if K 14 0 = 2 ∧ ¬ (8 : Int32) ≤ s ∧ ¬ K 10 17 = -1 ∧ ¬ s ≤ K 10 17 ∧ K 9 (ix (s &&& 7)) = K 10 16 then 1 else 0
def m_sq (C : Int64) (c q : Int32) : Nat → Int32
  | 0 => m_ce C c
  | n + 1 => if ((q >>> (nI n &&& 31)) &&& (1 : Int32)) = 0 then m_sq C c q n else m_wb C (nI n)
def m_sv (K : Nat → Nat → Int32) (T C : Int64) (t c s : Int32) : Int32 := if K 14 0 < 2 then m_sq C c (m_qu K T t &&& K 11 (ix (c &&& 7))) 8 else m_wb C s
def m_pc (C : Int64) (c v : Int32) : Int64 := m_or (m_cl C 15 ((4 : Int32) * c)) v.toInt64 ((4 : Int32) * c)
def m_wT (K : Nat → Nat → Int32) (T : Int64) (n : Int32) : Int64 := if K 14 0 = 1 then m_or T 1 ((55 : Int32) + n) else T
def m_wC (K : Nat → Nat → Int32) (C : Int64) (n c v : Int32) : Int64 := if K 14 0 = 0 then m_pc C c v else if K 14 0 = 1 then m_or C v.toInt64 ((24 : Int32) + ((4 : Int32) * n)) else if K 14 0 = 3 ∨ ¬ m_vo K c = 0 then m_pc (m_or C v.toInt64 ((24 : Int32) + ((4 : Int32) * n))) c (n + 1) else m_or C v.toInt64 ((24 : Int32) + ((4 : Int32) * n))
/-- the action's number and its entry -/
def m_an (T : Int64) (t : Int32) : Int32 := m_nx T t &&& 7
def m_at (K : Nat → Nat → Int32) (T : Int64) (t : Int32) : Int32 := K 8 (ix (m_an T t)) &&& 63
def m_op (K : Nat → Nat → Int32) (T : Int64) (t : Int32) : Int32 := K 0 (ix (m_at K T t))
def m_aE (K : Nat → Nat → Int32) (T E : Int64) (t s : Int32) : Int64 := if K 14 0 < 2 then E else m_or E (m_ah K T E t (m_at K T t) s).toInt64 ((8 : Int32) * m_an T t)
def m_aC (K : Nat → Nat → Int32) (T C : Int64) (t : Int32) : Int64 := if m_op K T t = 1 then m_wC K C (m_an T t) (K 4 (ix (m_at K T t))) (m_su K T (m_at K T t)) else C
def m_a1 (K : Nat → Nat → Int32) (T C : Int64) (t s : Int32) : Int64 :=
  if m_op K T t = 0 then m_sl T (K 1 (ix (m_at K T t))) (m_sv K T C t (K 4 (ix (m_at K T t))) s) (m_ip K s)
  else if m_op K T t = 1 then m_wT K T (m_an T t)
  else if m_op K T t = 2 then m_sl T (K 1 (ix (m_at K T t))) (m_sv K T C t (K 4 (ix (m_at K T t))) s) 0
  else if m_op K T t = 3 then m_or T (t.toInt64 + 1) ((36 : Int32) + ((3 : Int32) * K 4 (ix (m_at K T t))))
  else if m_op K T t = 4 then m_cl T 7 ((36 : Int32) + ((3 : Int32) * K 4 (ix (m_at K T t))))
  else T
def m_aT (K : Nat → Nat → Int32) (T C : Int64) (t s : Int32) : Int64 := m_go K t 64 (m_or (m_a1 K T C t s) 1 ((47 : Int32) + m_an T t)) ((m_at K T t + 1) &&& 63)
def m_hq (K : Nat → Nat → Int32) (T : Int64) (t : Int32) : Int32 := if m_qu K T t = 0 then 0 else 1
def m_can (K : Nat → Nat → Int32) (T : Int64) (t : Int32) : Int32 :=
  if m_nx T t < K 10 12 then
    if m_op K T t = 0 then (if m_vo K (K 4 (ix (m_at K T t))) = 0 then 1 else if m_hq K T t = 0 then 1 else 0)
    else if m_op K T t = 1 then 1
    else if m_op K T t = 2 then (if m_va T (K 2 (ix (m_at K T t))) = 0 then 0 else 1)
    else if m_op K T t = 3 then (if m_ho T (K 4 (ix (m_at K T t))) = 0 then (if m_hq K T t = 0 then 1 else 0) else 0)
    else if m_op K T t = 4 then (if m_hq K T t = 0 then 1 else 0) else 1
  else 0
def m_hu (K : Nat → Nat → Int32) (T : Int64) (t : Int32) : Int32 :=
  if m_nx T t < K 10 12 then
    if m_op K T t = 1 then (if K 14 0 = 1 then 1 else if K 14 0 = 2 then (if m_vo K (K 4 (ix (m_at K T t))) = 0 then 1 else 0) else 0)
    else if m_op K T t = 5 then 1 else 0
  else 0
def m_sh (E : Int64) (wa : Int32) : Nat → Nat → Int32 → Int32
  | 0, _, x => x
  | n + 1, i, x => m_sh E wa n (i + 1) (if (wa &&& ((1 : Int32) <<< (nI i &&& 31))) = 0 then x else x ||| (m_ea E (nI i) ||| 256))
def m_si (K : Nat → Nat → Int32) (T C E : Int64) (t : Int32) : Int32 :=
  if K 14 0 < 2 then 256 else if m_op K T t = 0 ∨ m_op K T t = 2 then
    (if K 14 0 = 3 ∨ ¬ m_vo K (K 4 (ix (m_at K T t))) = 0 then (if m_ce C (K 4 (ix (m_at K T t))) = 0 then (1 : Int32) <<< ((8 : Int32) &&& 31) else (1 : Int32) <<< ((m_ce C (K 4 (ix (m_at K T t))) - 1) &&& 31))
     else ((K 11 (ix (K 4 (ix (m_at K T t)) &&& 7)) &&& m_do T) ||| 256) &&& ((m_sh E ((K 11 (ix (K 4 (ix (m_at K T t)) &&& 7)) &&& m_do T) &&& m_ah K T E t (m_at K T t) 8) 8 0 0) ^^^ (-1 : Int32)))
  else 256
def m_eq (q : Int32) : Nat → Nat → Nat
  | 0, i => i
  | n + 1, i => if ((q >>> (nI i &&& 31)) &&& (1 : Int32)) = 0 then m_eq q n (i + 1) else i
def m_eT (T : Int64) (n : Nat) : Int64 := if n < 8 then m_cl T 1 ((55 : Int32) + nI n) else T
def m_eC (K : Nat → Nat → Int32) (C : Int64) (n : Nat) : Int64 := if n < 8 then m_cl (m_pc C (K 4 (ix (K 8 n &&& 63))) (m_wb C (nI n))) 15 ((24 : Int32) + ((4 : Int32) * nI n)) else C
def m_o1 (T : Int64) : Nat → Nat → Int32 → Int32
  | 0, _, x => x
  | n + 1, i, x => m_o1 T n (i + 1) ((x <<< ((4 : Int32) &&& 31)) ||| m_va T (nI i))
def m_o2 (T : Int64) : Nat → Nat → Int32 → Int32
  | 0, _, x => x
  | n + 1, i, x => m_o2 T n (i + 1) (if m_nx T (nI i) = 8 then x else x ||| ((1 : Int32) <<< (nI i &&& 31)))
def m_out (K : Nat → Nat → Int32) (T : Int64) : Int32 := m_o2 T (ix (K 10 11)) 0 ((m_o1 T 5 0 0) <<< ((4 : Int32) &&& 31))
section
variable {h : AH} {K : Nat → Nat → Int32} {co : Nat} {T C E : Int64}
theorem e_nx (M : MR h K co) (t : Int32) : f_X2_nextOf 75 t (sT h T C E) = some (m_nx T t, (sT h T C E)) := by
  simp only [f_X2_nextOf, b_X2_nextOf_0, mg_r7 M, mg_r4 M, mg_r5 M, mg_r6 M, mg_co M, mg_ci M, mg_i3 M, mg_i8 M, mg_v M, mg_vc M, mg_j0 M, mg_j1 M, mg_j2 M, mp_j0 M, mp_j1 M, mp_j2 M, ml0 M, ml1 M, ml2 M, ml3 M, ml4 M, ml5 M, ml6 M, ml7 M, ml8 M, ml9 M, ml_w M, ml_u M, ml_o M, m_in_63, m_in_7, m_in_3, m_in_1, Option.bind_some, ok_z_0, ok_z_1]
  rfl
theorem e_va (M : MR h K co) (t : Int32) : f_X2_valueOf 75 t (sT h T C E) = some (m_va T t, (sT h T C E)) := by
  simp only [f_X2_valueOf, b_X2_valueOf_0, mg_r7 M, mg_r4 M, mg_r5 M, mg_r6 M, mg_co M, mg_ci M, mg_i3 M, mg_i8 M, mg_v M, mg_vc M, mg_j0 M, mg_j1 M, mg_j2 M, mp_j0 M, mp_j1 M, mp_j2 M, ml0 M, ml1 M, ml2 M, ml3 M, ml4 M, ml5 M, ml6 M, ml7 M, ml8 M, ml9 M, ml_w M, ml_u M, ml_o M, m_in_63, m_in_7, m_in_3, m_in_1, Option.bind_some, ok_z_0, ok_z_1]
  rfl
theorem e_ho (M : MR h K co) (t : Int32) : f_X2_holderOf 75 t (sT h T C E) = some (m_ho T t, (sT h T C E)) := by
  simp only [f_X2_holderOf, b_X2_holderOf_0, mg_r7 M, mg_r4 M, mg_r5 M, mg_r6 M, mg_co M, mg_ci M, mg_i3 M, mg_i8 M, mg_v M, mg_vc M, mg_j0 M, mg_j1 M, mg_j2 M, mp_j0 M, mp_j1 M, mp_j2 M, ml0 M, ml1 M, ml2 M, ml3 M, ml4 M, ml5 M, ml6 M, ml7 M, ml8 M, ml9 M, ml_w M, ml_u M, ml_o M, m_in_63, m_in_7, m_in_3, m_in_1, Option.bind_some, ok_z_0, ok_z_1]
  rfl
theorem e_do (M : MR h K co) : f_X2_doneActions 75 (sT h T C E) = some (m_do T, (sT h T C E)) := by
  simp only [f_X2_doneActions, b_X2_doneActions_0, mg_r7 M, mg_r4 M, mg_r5 M, mg_r6 M, mg_co M, mg_ci M, mg_i3 M, mg_i8 M, mg_v M, mg_vc M, mg_j0 M, mg_j1 M, mg_j2 M, mp_j0 M, mp_j1 M, mp_j2 M, ml0 M, ml1 M, ml2 M, ml3 M, ml4 M, ml5 M, ml6 M, ml7 M, ml8 M, ml9 M, ml_w M, ml_u M, ml_o M, m_in_63, m_in_7, m_in_3, m_in_1, Option.bind_some, ok_z_0, ok_z_1]
  rfl
theorem e_qu (M : MR h K co) (t : Int32) : f_X2_queueOf 75 t (sT h T C E) = some (m_qu K T t, (sT h T C E)) := by
  simp only [f_X2_queueOf, b_X2_queueOf_0, mg_r7 M, mg_r4 M, mg_r5 M, mg_r6 M, mg_co M, mg_ci M, mg_i3 M, mg_i8 M, mg_v M, mg_vc M, mg_j0 M, mg_j1 M, mg_j2 M, mp_j0 M, mp_j1 M, mp_j2 M, ml0 M, ml1 M, ml2 M, ml3 M, ml4 M, ml5 M, ml6 M, ml7 M, ml8 M, ml9 M, ml_w M, ml_u M, ml_o M, m_in_63, m_in_7, m_in_3, m_in_1, Option.bind_some, ok_z_0, ok_z_1]
  rfl
theorem e_ce (M : MR h K co) (t : Int32) : f_X2_inCell 75 t (sT h T C E) = some (m_ce C t, (sT h T C E)) := by
  simp only [f_X2_inCell, b_X2_inCell_0, mg_r7 M, mg_r4 M, mg_r5 M, mg_r6 M, mg_co M, mg_ci M, mg_i3 M, mg_i8 M, mg_v M, mg_vc M, mg_j0 M, mg_j1 M, mg_j2 M, mp_j0 M, mp_j1 M, mp_j2 M, ml0 M, ml1 M, ml2 M, ml3 M, ml4 M, ml5 M, ml6 M, ml7 M, ml8 M, ml9 M, ml_w M, ml_u M, ml_o M, m_in_63, m_in_7, m_in_3, m_in_1, Option.bind_some, ok_z_0, ok_z_1]
  rfl
theorem e_ea (M : MR h K co) (t : Int32) : f_X2_earlierThan 75 t (sT h T C E) = some (m_ea E t, (sT h T C E)) := by
  simp only [f_X2_earlierThan, b_X2_earlierThan_0, mg_r7 M, mg_r4 M, mg_r5 M, mg_r6 M, mg_co M, mg_ci M, mg_i3 M, mg_i8 M, mg_v M, mg_vc M, mg_j0 M, mg_j1 M, mg_j2 M, mp_j0 M, mp_j1 M, mp_j2 M, ml0 M, ml1 M, ml2 M, ml3 M, ml4 M, ml5 M, ml6 M, ml7 M, ml8 M, ml9 M, ml_w M, ml_u M, ml_o M, m_in_63, m_in_7, m_in_3, m_in_1, Option.bind_some, ok_z_0, ok_z_1]
  rfl
theorem e_vo (M : MR h K co) (t : Int32) : f_X2_isVolatile 75 t (sT h T C E) = some (m_vo K t, (sT h T C E)) := by
  simp only [f_X2_isVolatile, b_X2_isVolatile_0, b_X2_isVolatile_11, b_X2_isVolatile_15, b_X2_isVolatile_16, mg_r7 M, mg_r4 M, mg_r5 M, mg_r6 M, mg_co M, mg_ci M, mg_i3 M, mg_i8 M, mg_v M, mg_vc M, mg_j0 M, mg_j1 M, mg_j2 M, mp_j0 M, mp_j1 M, mp_j2 M, ml0 M, ml1 M, ml2 M, ml3 M, ml4 M, ml5 M, ml6 M, ml7 M, ml8 M, ml9 M, ml_w M, ml_u M, ml_o M, m_in_63, m_in_7, m_in_3, m_in_1, Option.bind_some, ok_z_0, ok_z_1]
  unfold m_vo
  split <;> rfl
theorem e_pu (M : MR h K co) (t : Int32) : f_X2_hasPublished 75 t (sT h T C E) = some (m_pu T t, (sT h T C E)) := by
  simp only [f_X2_hasPublished, b_X2_hasPublished_0, b_X2_hasPublished_16, b_X2_hasPublished_20, b_X2_hasPublished_21, mg_r7 M, mg_r4 M, mg_r5 M, mg_r6 M, mg_co M, mg_ci M, mg_i3 M, mg_i8 M, mg_v M, mg_vc M, mg_j0 M, mg_j1 M, mg_j2 M, mp_j0 M, mp_j1 M, mp_j2 M, ml0 M, ml1 M, ml2 M, ml3 M, ml4 M, ml5 M, ml6 M, ml7 M, ml8 M, ml9 M, ml_w M, ml_u M, ml_o M, m_in_63, m_in_7, m_in_3, m_in_1, Option.bind_some, ok_z_0, ok_z_1]
  unfold m_pu
  split <;> rfl
theorem e_wb (M : MR h K co) (t : Int32) : f_X2_writtenBy 75 t (sT h T C E) = some (m_wb C t, (sT h T C E)) := by
  simp only [f_X2_writtenBy, b_X2_writtenBy_0, b_X2_writtenBy_6, b_X2_writtenBy_24, b_X2_writtenBy_25, mg_r7 M, mg_r4 M, mg_r5 M, mg_r6 M, mg_co M, mg_ci M, mg_i3 M, mg_i8 M, mg_v M, mg_vc M, mg_j0 M, mg_j1 M, mg_j2 M, mp_j0 M, mp_j1 M, mp_j2 M, ml0 M, ml1 M, ml2 M, ml3 M, ml4 M, ml5 M, ml6 M, ml7 M, ml8 M, ml9 M, ml_w M, ml_u M, ml_o M, m_in_63, m_in_7, m_in_3, m_in_1, Option.bind_some, ok_z_0, ok_z_1]
  unfold m_wb
  split <;> rfl
theorem e_hq (M : MR h K co) (t : Int32) : f_X2_hasQueue 75 t (sT h T C E) = some (m_hq K T t, (sT h T C E)) := by
  simp only [f_X2_hasQueue, b_X2_hasQueue_0, b_X2_hasQueue_8, b_X2_hasQueue_12, b_X2_hasQueue_13, mg_r7 M, mg_r4 M, mg_r5 M, mg_r6 M, mg_co M, mg_ci M, mg_i3 M, mg_i8 M, mg_v M, mg_vc M, mg_j0 M, mg_j1 M, mg_j2 M, mp_j0 M, mp_j1 M, mp_j2 M, ml0 M, ml1 M, ml2 M, ml3 M, ml4 M, ml5 M, ml6 M, ml7 M, ml8 M, ml9 M, ml_w M, ml_u M, ml_o M, m_in_63, m_in_7, m_in_3, m_in_1, Option.bind_some, ok_z_0, ok_z_1, e_qu M]
  unfold m_hq
  split <;> rfl
theorem rm_10 (x : Int32) : rm_i x 10 = some (m_m10 x) := if_neg (by decide)
theorem e_su (M : MR h K co) (t : Int32) : f_X2_sumAt 75 t (sT h T C E) = some (m_su K T t, (sT h T C E)) := by
  simp only [f_X2_sumAt, b_X2_sumAt_0, b_X2_sumAt_31, b_X2_sumAt_35, b_X2_sumAt_36, b_X2_sumAt_43, b_X2_sumAt_63, mg_r7 M, mg_r4 M, mg_r5 M, mg_r6 M, mg_co M, mg_ci M, mg_i3 M, mg_i8 M, mg_v M, mg_vc M, mg_j0 M, mg_j1 M, mg_j2 M, mp_j0 M, mp_j1 M, mp_j2 M, ml0 M, ml1 M, ml2 M, ml3 M, ml4 M, ml5 M, ml6 M, ml7 M, ml8 M, ml9 M, ml_w M, ml_u M, ml_o M, m_in_63, m_in_7, m_in_3, m_in_1, Option.bind_some, ok_z_0, ok_z_1, rm_10]
  unfold m_su m_va
  split <;> split <;> rfl
theorem e_sl (M : MR h K co) (l v p : Int32) : f_X2_setLocal 75 l v p (sT h T C E) = some (sT h (m_sl T l v p) C E) := by
  simp only [f_X2_setLocal, b_X2_setLocal_0, b_X2_setLocal_56, b_X2_setLocal_71, mg_r7 M, mg_r4 M, mg_r5 M, mg_r6 M, mg_co M, mg_ci M, mg_i3 M, mg_i8 M, mg_v M, mg_vc M, mg_j0 M, mg_j1 M, mg_j2 M, mp_j0 M, mp_j1 M, mp_j2 M, ml0 M, ml1 M, ml2 M, ml3 M, ml4 M, ml5 M, ml6 M, ml7 M, ml8 M, ml9 M, ml_w M, ml_u M, ml_o M, m_in_63, m_in_7, m_in_3, m_in_1, Option.bind_some, ok_z_0, ok_z_1]
  unfold m_sl
  split <;> rfl
theorem e_pc (M : MR h K co) (l v : Int32) : f_X2_putInCell 75 l v (sT h T C E) = some (sT h T (m_pc C l v) E) := by
  simp only [f_X2_putInCell, b_X2_putInCell_0, mg_r7 M, mg_r4 M, mg_r5 M, mg_r6 M, mg_co M, mg_ci M, mg_i3 M, mg_i8 M, mg_v M, mg_vc M, mg_j0 M, mg_j1 M, mg_j2 M, mp_j0 M, mp_j1 M, mp_j2 M, ml0 M, ml1 M, ml2 M, ml3 M, ml4 M, ml5 M, ml6 M, ml7 M, ml8 M, ml9 M, ml_w M, ml_u M, ml_o M, m_in_63, m_in_7, m_in_3, m_in_1, Option.bind_some, ok_z_0, ok_z_1]
  rfl
theorem e_gol (M : MR h K co) (t : Int32) : ∀ (n : Nat), n ≤ 64 → ∀ (fu : Nat) (T : Int64) (a : Int32), n < fu → m_in a 64 → l_X2_goOn_12 fu 75 t a 8 (nI (64 - n)) (sT h T C E) = some (sT h (m_go K t n T a) C E) := by
  intro n
  induction n with
  | zero =>
    intro _ fu T a hf ha
    obtain ⟨fu, rfl⟩ : ∃ f, fu = f + 1 := ⟨fu - 1, by omega⟩
    simp only [l_X2_goOn_12, b_X2_goOn_12]
    rw [if_pos (by decide)]
    simp only [b_X2_goOn_183, mg_r7 M, mg_r4 M, mg_r5 M, mg_r6 M, mg_co M, mg_ci M, mg_i3 M, mg_i8 M, mg_v M, mg_vc M, mg_j0 M, mg_j1 M, mg_j2 M, mp_j0 M, mp_j1 M, mp_j2 M, ml0 M, ml1 M, ml2 M, ml3 M, ml4 M, ml5 M, ml6 M, ml7 M, ml8 M, ml9 M, ml_w M, ml_u M, ml_o M, m_in_63, m_in_7, m_in_3, m_in_1, Option.bind_some, ok_z_0, ok_z_1]
    rfl
  | succ n ih =>
    intro hn fu T a hf ha
    obtain ⟨fu, rfl⟩ : ∃ f, fu = f + 1 := ⟨fu - 1, by omega⟩
    have hs : nI (64 - (n + 1)) + 1 = nI (64 - n) := by rw [nI_1]; congr 1; omega
    have hlt : ¬ (64 : Int32) ≤ nI (64 - (n + 1)) := nI_ge (b := 64) (by omega) (by decide)
    simp only [l_X2_goOn_12, b_X2_goOn_12]
    rw [if_neg hlt]
    simp only [b_X2_goOn_19, b_X2_goOn_33, b_X2_goOn_46, b_X2_goOn_60, b_X2_goOn_74, b_X2_goOn_88, b_X2_goOn_113, b_X2_goOn_117, b_X2_goOn_118, b_X2_goOn_134, b_X2_goOn_153, b_X2_goOn_158, b_X2_goOn_170, b_X2_goOn_173, b_X2_goOn_183, mg_r7 M, mg_r4 M, mg_r5 M, mg_r6 M, mg_co M, mg_ci M, mg_i3 M, mg_i8 M, mg_v M, mg_vc M, mg_j0 M, mg_j1 M, mg_j2 M, mp_j0 M, mp_j1 M, mp_j2 M, ml0 M, ml1 M, ml2 M, ml3 M, ml4 M, ml5 M, ml6 M, ml7 M, ml8 M, ml9 M, ml_w M, ml_u M, ml_o M, m_in_63, m_in_7, m_in_3, m_in_1, Option.bind_some, ok_z_0, ok_z_1, ha, hs, e_va M, e_su M, e_sl M]
    unfold m_go
    by_cases h1 : K 0 (ix a) = 10
    · rw [if_pos h1, if_pos h1]; rfl
    · rw [if_neg h1, if_neg h1]
      by_cases h2 : K 6 (ix a) = -1
      · rw [if_pos h2, if_pos h2]
        by_cases h3 : K 0 (ix a) = 8
        · have h4 : ¬ K 0 (ix a) = 6 := by rw [h3]; decide
          simp only [if_pos h3, if_neg h4, if_neg (show ¬ (1 : Int32) = 0 by decide)]
          exact ih (by omega) fu T _ (by omega) (m_in_63 _)
        · by_cases h4 : K 0 (ix a) = 7
          · have h5 : ¬ K 0 (ix a) = 6 := by rw [h4]; decide
            by_cases h6 : m_va T (K 1 (ix a)) = K 3 (ix a)
            · simp only [if_neg h3, if_pos h4, if_neg h5, if_pos h6, if_true]
              exact ih (by omega) fu T _ (by omega) (m_in_63 _)
            · simp only [if_neg h3, if_pos h4, if_neg h5, if_neg h6, if_neg (show ¬ (1 : Int32) = 0 by decide)]
              exact ih (by omega) fu T _ (by omega) (m_in_63 _)
          · by_cases h5 : K 0 (ix a) = 6
            · simp only [if_neg h3, if_neg h4, if_pos h5, if_true]
              exact ih (by omega) fu _ _ (by omega) (m_in_63 _)
            · simp only [if_neg h3, if_neg h4, if_neg h5, if_true]
              exact ih (by omega) fu T _ (by omega) (m_in_63 _)
      · rw [if_neg h2, if_neg h2]; rfl
theorem e_go (M : MR h K co) (t a : Int32) : f_X2_goOn 75 t a (sT h T C E) = some (sT h (m_go K t 64 T (a &&& 63)) C E) := by
  unfold f_X2_goOn b_X2_goOn_0
  exact e_gol M t 64 (by omega) fu_ T _ (by decide) (m_in_63 _)
end
