/-! ===== same: the shapes go together ===== -/
def cls (t : Nat) : Nat := if t / 100 = 3 ∨ t / 100 = 4 ∨ t / 100 = 5 then t / 100 else t
theorem cl_t {t u : Nat} (h : tmA t u) : cls t = cls u := by
  rcases h with ⟨a, b⟩ | ⟨a, b⟩
  · unfold cls
    rw [b, if_pos a, if_pos a]
  · rw [b]
theorem cl_4 {l : Nat} (h : l < 5) : cls (400 + l) = 4 := by
  have e : (400 + l) / 100 = 4 := by omega
  unfold cls
  rw [e]; rfl
theorem cl_3 {l : Nat} (h : l < 6) : cls (300 + l) = 3 := by
  have e : (300 + l) / 100 = 3 := by omega
  unfold cls
  rw [e]; rfl
theorem cl_5 {l : Nat} (h : l < 2) : cls (500 + l) = 5 := by
  have e : (500 + l) / 100 = 5 := by omega
  unfold cls
  rw [e]; rfl
theorem cl_6 {l : Nat} (h : l ≤ 9) : cls (600 + l) = 600 + l := by
  have e : (600 + l) / 100 = 6 := by omega
  unfold cls
  rw [e]; rfl
def pq : List Nat → List Nat → Prop
  | a :: X, b :: Y => a = b ∧ pq X Y
  | _, _ => True
theorem pq_T {d d' : PD} : ∀ (X Y : List Nat), TMl d d' X Y → pq (X.map cls) (Y.map cls) := by
  intro X
  induction X with
  | nil => intro Y _; cases Y <;> exact trivial
  | cons t X ih =>
    intro Y h
    cases Y with
    | nil => exact trivial
    | cons u Y => exact ⟨cl_t (tm_A h.1), ih Y h.2⟩
theorem pq_a : ∀ (P Q R S : List Nat), pq (P ++ R) (Q ++ S) → pq P Q := by
  intro P
  induction P with
  | nil => intro Q R S _; cases Q <;> exact trivial
  | cons t P ih =>
    intro Q R S h
    cases Q with
    | nil => exact trivial
    | cons u Q => exact ⟨h.1, ih Q R S h.2⟩
def FOz (x : Ent) (Z : List Nat) : Prop :=
  (en_op x = 0 ∧ (en_tl x = -1 ↔ False) ∧ (en_bs x = -1 ↔ True) ∧ en_dg x = -1 ∧ Z = [4, 701, 3, 700]) ∨
  (∃ k, en_op x = 1 ∧ (en_tl x = -1 ↔ True) ∧ (en_bs x = -1 ↔ True) ∧ en_dg x = nI k ∧ Z = [3, 701, 600 + k, 700]) ∨
  (en_op x = 1 ∧ (en_tl x = -1 ↔ True) ∧ (en_bs x = -1 ↔ False) ∧ en_dg x = -1 ∧ Z = [3, 701, 4, 700]) ∨
  (∃ k, en_op x = 1 ∧ (en_tl x = -1 ↔ True) ∧ (en_bs x = -1 ↔ False) ∧ en_dg x = nI k ∧ Z = [3, 701, 4, 704, 600 + k, 700]) ∨
  (en_op x = 2 ∧ (en_tl x = -1 ↔ False) ∧ (en_bs x = -1 ↔ False) ∧ en_dg x = -1 ∧ Z = [4, 701, 4, 703, 3, 700]) ∨
  (en_op x = 3 ∧ (en_tl x = -1 ↔ True) ∧ (en_bs x = -1 ↔ True) ∧ en_dg x = -1 ∧ Z = [204, 5, 700]) ∨
  (en_op x = 4 ∧ (en_tl x = -1 ↔ True) ∧ (en_bs x = -1 ↔ True) ∧ en_dg x = -1 ∧ Z = [205, 5, 700]) ∨
  (en_op x = 5 ∧ (en_tl x = -1 ↔ True) ∧ (en_bs x = -1 ↔ True) ∧ en_dg x = -1 ∧ Z = [206, 700]) ∨
  (∃ k, en_op x = 6 ∧ (en_tl x = -1 ↔ False) ∧ (en_bs x = -1 ↔ True) ∧ en_dg x = nI k ∧ Z = [4, 701, 600 + k, 700]) ∨
  (en_op x = 6 ∧ (en_tl x = -1 ↔ False) ∧ (en_bs x = -1 ↔ False) ∧ en_dg x = -1 ∧ Z = [4, 701, 4, 700]) ∨
  (∃ k, en_op x = 6 ∧ (en_tl x = -1 ↔ False) ∧ (en_bs x = -1 ↔ False) ∧ en_dg x = nI k ∧ Z = [4, 701, 4, 704, 600 + k, 700]) ∨
  (∃ k, en_op x = 7 ∧ (en_tl x = -1 ↔ False) ∧ (en_bs x = -1 ↔ True) ∧ en_dg x = nI k ∧ Z = [207, 4, 702, 600 + k, 705])
theorem nn {s : Int32} {l : Nat} (h : l < 1000) (e : s = nI l) : s = -1 ↔ False := ⟨fun z => nI_ne1 (by omega) (e.symm.trans z), False.elim⟩
theorem nz {s : Int32} (e : s = -1) : s = -1 ↔ True := ⟨fun _ => trivial, fun _ => e⟩
theorem k64 {k : Nat} (h : 600 + k = 4) : False := by omega
theorem k46 {k : Nat} (h : 4 = 600 + k) : False := by omega
theorem k63 {k : Nat} (h : 600 + k = 3) : False := by omega
theorem k36 {k : Nat} (h : 3 = 600 + k) : False := by omega
theorem fo_z {x : Ent} {X : List Nat} (F : FOx x X) : FOz x (X.map cls) := by
  rcases F with ⟨l, c, hl, hc, o, t, b_, g, ob, rfl⟩ | ⟨c, k, hc, hk, o, t, b_, g, ob, rfl⟩ | ⟨c, b, hc, hb, o, t, b_, g, ob, rfl⟩ | ⟨c, b, k, hc, hb, hk, o, t, b_, g, ob, rfl⟩ | ⟨l, b, c, hl, hb, hc, o, t, b_, g, ob, rfl⟩ | ⟨m, hm, o, t, b_, g, ob, rfl⟩ | ⟨m, hm, o, t, b_, g, ob, rfl⟩ | ⟨o, t, b_, g, ob, rfl⟩ | ⟨l, k, hl, hk, o, t, b_, g, ob, rfl⟩ | ⟨l, b, hl, hb, o, t, b_, g, ob, rfl⟩ | ⟨l, b, k, hl, hb, hk, o, t, b_, g, ob, rfl⟩ | ⟨l, k, hl, hk, o, t, b_, g, ob, rfl⟩
  · refine Or.inl ⟨o, nn (by omega) t, nz b_, g, ?_⟩
    show [cls (400 + l), cls 701, cls (300 + c), cls 700] = _
    rw [cl_4 hl, cl_3 hc]; rfl
  · refine Or.inr (Or.inl ⟨k, o, nz t, nz b_, g, ?_⟩)
    show [cls (300 + c), cls 701, cls (600 + k), cls 700] = _
    rw [cl_3 hc, cl_6 hk]; rfl
  · refine Or.inr (Or.inr (Or.inl ⟨o, nz t, nn (by omega) b_, g, ?_⟩))
    show [cls (300 + c), cls 701, cls (400 + b), cls 700] = _
    rw [cl_3 hc, cl_4 hb]; rfl
  · refine Or.inr (Or.inr (Or.inr (Or.inl ⟨k, o, nz t, nn (by omega) b_, g, ?_⟩)))
    show [cls (300 + c), cls 701, cls (400 + b), cls 704, cls (600 + k), cls 700] = _
    rw [cl_3 hc, cl_4 hb, cl_6 hk]; rfl
  · refine Or.inr (Or.inr (Or.inr (Or.inr (Or.inl ⟨o, nn (by omega) t, nn (by omega) b_, g, ?_⟩))))
    show [cls (400 + l), cls 701, cls (400 + b), cls 703, cls (300 + c), cls 700] = _
    rw [cl_4 hl, cl_4 hb, cl_3 hc]; rfl
  · refine Or.inr (Or.inr (Or.inr (Or.inr (Or.inr (Or.inl ⟨o, nz t, nz b_, g, ?_⟩)))))
    show [cls 204, cls (500 + m), cls 700] = _
    rw [cl_5 hm]; rfl
  · refine Or.inr (Or.inr (Or.inr (Or.inr (Or.inr (Or.inr (Or.inl ⟨o, nz t, nz b_, g, ?_⟩))))))
    show [cls 205, cls (500 + m), cls 700] = _
    rw [cl_5 hm]; rfl
  · refine Or.inr (Or.inr (Or.inr (Or.inr (Or.inr (Or.inr (Or.inr (Or.inl ⟨o, nz t, nz b_, g, ?_⟩)))))))
    show [cls 206, cls 700] = _
    rfl
  · refine Or.inr (Or.inr (Or.inr (Or.inr (Or.inr (Or.inr (Or.inr (Or.inr (Or.inl ⟨k, o, nn (by omega) t, nz b_, g, ?_⟩))))))))
    show [cls (400 + l), cls 701, cls (600 + k), cls 700] = _
    rw [cl_4 hl, cl_6 hk]; rfl
  · refine Or.inr (Or.inr (Or.inr (Or.inr (Or.inr (Or.inr (Or.inr (Or.inr (Or.inr (Or.inl ⟨o, nn (by omega) t, nn (by omega) b_, g, ?_⟩)))))))))
    show [cls (400 + l), cls 701, cls (400 + b), cls 700] = _
    rw [cl_4 hl, cl_4 hb]; rfl
  · refine Or.inr (Or.inr (Or.inr (Or.inr (Or.inr (Or.inr (Or.inr (Or.inr (Or.inr (Or.inr (Or.inl ⟨k, o, nn (by omega) t, nn (by omega) b_, g, ?_⟩))))))))))
    show [cls (400 + l), cls 701, cls (400 + b), cls 704, cls (600 + k), cls 700] = _
    rw [cl_4 hl, cl_4 hb, cl_6 hk]; rfl
  · refine Or.inr (Or.inr (Or.inr (Or.inr (Or.inr (Or.inr (Or.inr (Or.inr (Or.inr (Or.inr (Or.inr (⟨k, o, nn (by omega) t, nz b_, g, ?_⟩)))))))))))
    show [cls 207, cls (400 + l), cls 702, cls (600 + k), cls 705] = _
    rw [cl_4 hl, cl_6 hk]; rfl
theorem dz {x y : Ent} {Z W : List Nat} (F : FOz x Z) (G : FOz y W) (h : pq Z W) : Z.length = W.length ∧ en_op x = en_op y ∧ en_dg x = en_dg y ∧ (en_tl x = -1 ↔ en_tl y = -1) ∧ (en_bs x = -1 ↔ en_bs y = -1) := by
  rcases F with ⟨o, t, b, g, rfl⟩ | ⟨k, o, t, b, g, rfl⟩ | ⟨o, t, b, g, rfl⟩ | ⟨k, o, t, b, g, rfl⟩ | ⟨o, t, b, g, rfl⟩ | ⟨o, t, b, g, rfl⟩ | ⟨o, t, b, g, rfl⟩ | ⟨o, t, b, g, rfl⟩ | ⟨k, o, t, b, g, rfl⟩ | ⟨o, t, b, g, rfl⟩ | ⟨k, o, t, b, g, rfl⟩ | ⟨k, o, t, b, g, rfl⟩ <;> rcases G with ⟨o', t', b', g', rfl⟩ | ⟨k', o', t', b', g', rfl⟩ | ⟨o', t', b', g', rfl⟩ | ⟨k', o', t', b', g', rfl⟩ | ⟨o', t', b', g', rfl⟩ | ⟨o', t', b', g', rfl⟩ | ⟨o', t', b', g', rfl⟩ | ⟨o', t', b', g', rfl⟩ | ⟨k', o', t', b', g', rfl⟩ | ⟨o', t', b', g', rfl⟩ | ⟨k', o', t', b', g', rfl⟩ | ⟨k', o', t', b', g', rfl⟩ <;> first
    | exact absurd h.1 (by decide)
    | exact ⟨rfl, o.trans o'.symm, g.trans g'.symm, t.trans t'.symm, b.trans b'.symm⟩
    | exact absurd h.2.2.1 (by decide)
    | exact absurd h.2.2.2.1 (by decide)
    | exact (k64 h.2.2.1).elim
    | exact (k46 h.2.2.1).elim
    | exact (k63 h.2.2.1).elim
    | exact (k36 h.2.2.1).elim
    | exact ⟨rfl, o.trans o'.symm, (g.trans (by rw [Nat.add_left_cancel h.2.2.1])).trans g'.symm, t.trans t'.symm, b.trans b'.symm⟩
    | exact ⟨rfl, o.trans o'.symm, (g.trans (by rw [Nat.add_left_cancel h.2.2.2.1])).trans g'.symm, t.trans t'.symm, b.trans b'.symm⟩
    | exact ⟨rfl, o.trans o'.symm, (g.trans (by rw [Nat.add_left_cancel h.2.2.2.2.1])).trans g'.symm, t.trans t'.symm, b.trans b'.symm⟩
section
variable {d d' : PD}
theorem m_4 {l l' : Nat} (h : l < 5) (h' : l' < 5) : tm d d' (400 + l) (400 + l') := Or.inl ⟨Or.inr (Or.inl (by omega)), by omega, fun z => absurd z (by omega)⟩
theorem m_5 {l l' : Nat} (h : l < 2) (h' : l' < 2) : tm d d' (500 + l) (500 + l') := Or.inl ⟨Or.inr (Or.inr (by omega)), by omega, fun z => absurd z (by omega)⟩
theorem m_0 {t : Nat} (h : ¬ (t / 100 = 3 ∨ t / 100 = 4 ∨ t / 100 = 5)) : tm d d' t t := Or.inr ⟨h, rfl⟩
theorem m_6 {k : Nat} (h : k ≤ 9) : tm d d' (600 + k) (600 + k) := m_0 (by omega)
theorem m_3 {c c' : Nat} (h : c < 6) (h' : c' < 6) : tm d d' (300 + c) (300 + c') ↔ pK d c = pK d' c' := by
  have e1 : (300 + c) % 100 = c := by omega
  have e2 : (300 + c') % 100 = c' := by omega
  constructor
  · intro z
    rcases z with z | z
    · have := z.2.2 (by omega)
      rw [e1, e2] at this
      exact this
    · exact absurd (Or.inl (by omega)) z.1
  · intro z
    exact Or.inl ⟨Or.inl (by omega), by omega, fun _ => by rw [e1, e2]; exact z⟩
theorem t_4 {l u : Nat} (h : l < 5) : tpn (400 + l) u = [(400 + l, u)] := if_pos (by omega)
theorem t_3 {l u : Nat} (h : l < 6) : tpn (300 + l) u = [(300 + l, u)] := if_pos (by omega)
theorem t_5 {l u : Nat} (h : l < 2) : tpn (500 + l) u = [(500 + l, u)] := if_pos (by omega)
theorem t_6 {l u : Nat} (h : l ≤ 9) : tpn (600 + l) u = [] := if_neg (by omega)
theorem np_n {b c c' : Nat} (h : c < 1000) (h' : c' < 1000) : npr b (nI c) (nI c') = [(b + c, b + c')] := by
  unfold npr
  rw [if_neg (nI_ne1 (by omega)), ix_nI (by omega), ix_nI (by omega)]
theorem np_0 {b : Nat} {s : Int32} : npr b (-1) s = [] := if_pos rfl
theorem nk_c {k k' : Nat} (h : k ≤ 9) (h' : k' ≤ 9) (e : nI k = nI k') : k = k' := (nI_eq (by omega) (by omega)).mp e
theorem mem2 {a b z : Nat × Nat} : z ∈ [a, b] ↔ z ∈ [b, a] := by
  rw [List.mem_cons, List.mem_cons, List.mem_cons, List.mem_cons]
  exact ⟨fun w => w.elim (fun x => Or.inr (Or.inl x)) (fun x => x.elim Or.inl (fun y => by cases y)), fun w => w.elim (fun x => Or.inr (Or.inl x)) (fun x => x.elim Or.inl (fun y => by cases y))⟩
theorem fo_s {x y : Ent} {X Y : List Nat} (F : FOx x X) (G : FOx y Y) (eo : en_op x = en_op y) (ed : en_dg x = en_dg y) (eb : en_bs x = -1 ↔ en_bs y = -1) : X.length = Y.length ∧ (TMl d d' X Y ↔ (en_op x ≤ 2 → pK d (ix (en_ob x)) = pK d' (ix (en_ob y)))) ∧ ∀ z, z ∈ segp X Y ↔ z ∈ ep x y := by
  rcases F with ⟨l, c, hl, hc, o, t, b_, g, ob, rfl⟩ | ⟨c, k, hc, hk, o, t, b_, g, ob, rfl⟩ | ⟨c, b, hc, hb, o, t, b_, g, ob, rfl⟩ | ⟨c, b, k, hc, hb, hk, o, t, b_, g, ob, rfl⟩ | ⟨l, b, c, hl, hb, hc, o, t, b_, g, ob, rfl⟩ | ⟨m, hm, o, t, b_, g, ob, rfl⟩ | ⟨m, hm, o, t, b_, g, ob, rfl⟩ | ⟨o, t, b_, g, ob, rfl⟩ | ⟨l, k, hl, hk, o, t, b_, g, ob, rfl⟩ | ⟨l, b, hl, hb, o, t, b_, g, ob, rfl⟩ | ⟨l, b, k, hl, hb, hk, o, t, b_, g, ob, rfl⟩ | ⟨l, k, hl, hk, o, t, b_, g, ob, rfl⟩
  · rcases G with ⟨l', c', hl', hc', o', t', b_', g', ob', rfl⟩ | ⟨c', k', hc', hk', o', t', b_', g', ob', rfl⟩ | ⟨c', b', hc', hb', o', t', b_', g', ob', rfl⟩ | ⟨c', b', k', hc', hb', hk', o', t', b_', g', ob', rfl⟩ | ⟨l', b', c', hl', hb', hc', o', t', b_', g', ob', rfl⟩ | ⟨m', hm', o', t', b_', g', ob', rfl⟩ | ⟨m', hm', o', t', b_', g', ob', rfl⟩ | ⟨o', t', b_', g', ob', rfl⟩ | ⟨l', k', hl', hk', o', t', b_', g', ob', rfl⟩ | ⟨l', b', hl', hb', o', t', b_', g', ob', rfl⟩ | ⟨l', b', k', hl', hb', hk', o', t', b_', g', ob', rfl⟩ | ⟨l', k', hl', hk', o', t', b_', g', ob', rfl⟩
    · skip
      refine ⟨rfl, ?_, fun z => ?_⟩
      · rw [ob, ob', ix_nI (by omega), ix_nI (by omega)]
        exact ⟨fun z _ => (m_3 hc hc').mp z.2.2.1, fun w => (fun z => ⟨m_4 hl hl', m_0 (by decide), (m_3 hc hc').mpr z, m_0 (by decide), trivial⟩) (w (by rw [o]; decide))⟩
      · have e1 : segp [400 + l, 701, 300 + c, 700] [400 + l', 701, 300 + c', 700] = [(300 + c, 300 + c'), (400 + l, 400 + l')] := by
          show (((([] ++ tpn 700 700) ++ tpn (300 + c) (300 + c')) ++ tpn 701 701) ++ tpn (400 + l) (400 + l')) = _
          rw [t_4 hl, t_3 hc]; rfl
        have e2 : ep x y = [(300 + c, 300 + c'), (400 + l, 400 + l')] := by
          unfold ep ocb
          rw [o, ob, b_, t, ob', t']
          show npr 300 (nI c) (nI c') ++ (npr 400 (-1) (en_bs y) ++ npr 400 (nI l) (nI l')) = _
          rw [np_n (c := c) (c' := c') (by omega) (by omega), np_0 (s := en_bs y), np_n (c := l) (c' := l') (by omega) (by omega)]; rfl
        rw [e1, e2]
    · exact absurd (o.symm.trans (eo.trans o')) (by decide)
    · exact absurd (o.symm.trans (eo.trans o')) (by decide)
    · exact absurd (o.symm.trans (eo.trans o')) (by decide)
    · exact absurd (o.symm.trans (eo.trans o')) (by decide)
    · exact absurd (o.symm.trans (eo.trans o')) (by decide)
    · exact absurd (o.symm.trans (eo.trans o')) (by decide)
    · exact absurd (o.symm.trans (eo.trans o')) (by decide)
    · exact absurd (o.symm.trans (eo.trans o')) (by decide)
    · exact absurd (o.symm.trans (eo.trans o')) (by decide)
    · exact absurd (o.symm.trans (eo.trans o')) (by decide)
    · exact absurd (o.symm.trans (eo.trans o')) (by decide)
  · rcases G with ⟨l', c', hl', hc', o', t', b_', g', ob', rfl⟩ | ⟨c', k', hc', hk', o', t', b_', g', ob', rfl⟩ | ⟨c', b', hc', hb', o', t', b_', g', ob', rfl⟩ | ⟨c', b', k', hc', hb', hk', o', t', b_', g', ob', rfl⟩ | ⟨l', b', c', hl', hb', hc', o', t', b_', g', ob', rfl⟩ | ⟨m', hm', o', t', b_', g', ob', rfl⟩ | ⟨m', hm', o', t', b_', g', ob', rfl⟩ | ⟨o', t', b_', g', ob', rfl⟩ | ⟨l', k', hl', hk', o', t', b_', g', ob', rfl⟩ | ⟨l', b', hl', hb', o', t', b_', g', ob', rfl⟩ | ⟨l', b', k', hl', hb', hk', o', t', b_', g', ob', rfl⟩ | ⟨l', k', hl', hk', o', t', b_', g', ob', rfl⟩
    · exact absurd (o.symm.trans (eo.trans o')) (by decide)
    · have ek := nk_c hk hk' (g.symm.trans (ed.trans g'))
      subst ek
      refine ⟨rfl, ?_, fun z => ?_⟩
      · rw [ob, ob', ix_nI (by omega), ix_nI (by omega)]
        exact ⟨fun z _ => (m_3 hc hc').mp z.1, fun w => (fun z => ⟨(m_3 hc hc').mpr z, m_0 (by decide), m_6 hk, m_0 (by decide), trivial⟩) (w (by rw [o]; decide))⟩
      · have e1 : segp [300 + c, 701, 600 + k, 700] [300 + c', 701, 600 + k, 700] = [(300 + c, 300 + c')] := by
          show (((([] ++ tpn 700 700) ++ tpn (600 + k) (600 + k)) ++ tpn 701 701) ++ tpn (300 + c) (300 + c')) = _
          rw [t_3 hc, t_6 hk]; rfl
        have e2 : ep x y = [(300 + c, 300 + c')] := by
          unfold ep ocb
          rw [o, ob, b_, t, ob']
          show npr 300 (nI c) (nI c') ++ (npr 400 (-1) (en_bs y) ++ npr 400 (-1) (en_tl y)) = _
          rw [np_n (c := c) (c' := c') (by omega) (by omega), np_0 (s := en_bs y), np_0 (s := en_tl y)]; rfl
        rw [e1, e2]
    · exact (nI_ne1 (by omega) (b_'.symm.trans (eb.mp b_))).elim
    · exact (nI_ne1 (by omega) (b_'.symm.trans (eb.mp b_))).elim
    · exact absurd (o.symm.trans (eo.trans o')) (by decide)
    · exact absurd (o.symm.trans (eo.trans o')) (by decide)
    · exact absurd (o.symm.trans (eo.trans o')) (by decide)
    · exact absurd (o.symm.trans (eo.trans o')) (by decide)
    · exact absurd (o.symm.trans (eo.trans o')) (by decide)
    · exact absurd (o.symm.trans (eo.trans o')) (by decide)
    · exact absurd (o.symm.trans (eo.trans o')) (by decide)
    · exact absurd (o.symm.trans (eo.trans o')) (by decide)
  · rcases G with ⟨l', c', hl', hc', o', t', b_', g', ob', rfl⟩ | ⟨c', k', hc', hk', o', t', b_', g', ob', rfl⟩ | ⟨c', b', hc', hb', o', t', b_', g', ob', rfl⟩ | ⟨c', b', k', hc', hb', hk', o', t', b_', g', ob', rfl⟩ | ⟨l', b', c', hl', hb', hc', o', t', b_', g', ob', rfl⟩ | ⟨m', hm', o', t', b_', g', ob', rfl⟩ | ⟨m', hm', o', t', b_', g', ob', rfl⟩ | ⟨o', t', b_', g', ob', rfl⟩ | ⟨l', k', hl', hk', o', t', b_', g', ob', rfl⟩ | ⟨l', b', hl', hb', o', t', b_', g', ob', rfl⟩ | ⟨l', b', k', hl', hb', hk', o', t', b_', g', ob', rfl⟩ | ⟨l', k', hl', hk', o', t', b_', g', ob', rfl⟩
    · exact absurd (o.symm.trans (eo.trans o')) (by decide)
    · exact (nI_ne1 (by omega) (b_.symm.trans (eb.mpr b_'))).elim
    · skip
      refine ⟨rfl, ?_, fun z => ?_⟩
      · rw [ob, ob', ix_nI (by omega), ix_nI (by omega)]
        exact ⟨fun z _ => (m_3 hc hc').mp z.1, fun w => (fun z => ⟨(m_3 hc hc').mpr z, m_0 (by decide), m_4 hb hb', m_0 (by decide), trivial⟩) (w (by rw [o]; decide))⟩
      · have e1 : segp [300 + c, 701, 400 + b, 700] [300 + c', 701, 400 + b', 700] = [(400 + b, 400 + b'), (300 + c, 300 + c')] := by
          show (((([] ++ tpn 700 700) ++ tpn (400 + b) (400 + b')) ++ tpn 701 701) ++ tpn (300 + c) (300 + c')) = _
          rw [t_3 hc, t_4 hb]; rfl
        have e2 : ep x y = [(300 + c, 300 + c'), (400 + b, 400 + b')] := by
          unfold ep ocb
          rw [o, ob, b_, t, ob', b_']
          show npr 300 (nI c) (nI c') ++ (npr 400 (nI b) (nI b') ++ npr 400 (-1) (en_tl y)) = _
          rw [np_n (c := c) (c' := c') (by omega) (by omega), np_n (c := b) (c' := b') (by omega) (by omega), np_0 (s := en_tl y)]; rfl
        rw [e1, e2]; exact mem2
    · exact (nI_ne1 (by omega) (g'.symm.trans (ed.symm.trans g))).elim
    · exact absurd (o.symm.trans (eo.trans o')) (by decide)
    · exact absurd (o.symm.trans (eo.trans o')) (by decide)
    · exact absurd (o.symm.trans (eo.trans o')) (by decide)
    · exact absurd (o.symm.trans (eo.trans o')) (by decide)
    · exact absurd (o.symm.trans (eo.trans o')) (by decide)
    · exact absurd (o.symm.trans (eo.trans o')) (by decide)
    · exact absurd (o.symm.trans (eo.trans o')) (by decide)
    · exact absurd (o.symm.trans (eo.trans o')) (by decide)
  · rcases G with ⟨l', c', hl', hc', o', t', b_', g', ob', rfl⟩ | ⟨c', k', hc', hk', o', t', b_', g', ob', rfl⟩ | ⟨c', b', hc', hb', o', t', b_', g', ob', rfl⟩ | ⟨c', b', k', hc', hb', hk', o', t', b_', g', ob', rfl⟩ | ⟨l', b', c', hl', hb', hc', o', t', b_', g', ob', rfl⟩ | ⟨m', hm', o', t', b_', g', ob', rfl⟩ | ⟨m', hm', o', t', b_', g', ob', rfl⟩ | ⟨o', t', b_', g', ob', rfl⟩ | ⟨l', k', hl', hk', o', t', b_', g', ob', rfl⟩ | ⟨l', b', hl', hb', o', t', b_', g', ob', rfl⟩ | ⟨l', b', k', hl', hb', hk', o', t', b_', g', ob', rfl⟩ | ⟨l', k', hl', hk', o', t', b_', g', ob', rfl⟩
    · exact absurd (o.symm.trans (eo.trans o')) (by decide)
    · exact (nI_ne1 (by omega) (b_.symm.trans (eb.mpr b_'))).elim
    · exact (nI_ne1 (by omega) (g.symm.trans (ed.trans g'))).elim
    · have ek := nk_c hk hk' (g.symm.trans (ed.trans g'))
      subst ek
      refine ⟨rfl, ?_, fun z => ?_⟩
      · rw [ob, ob', ix_nI (by omega), ix_nI (by omega)]
        exact ⟨fun z _ => (m_3 hc hc').mp z.1, fun w => (fun z => ⟨(m_3 hc hc').mpr z, m_0 (by decide), m_4 hb hb', m_0 (by decide), m_6 hk, m_0 (by decide), trivial⟩) (w (by rw [o]; decide))⟩
      · have e1 : segp [300 + c, 701, 400 + b, 704, 600 + k, 700] [300 + c', 701, 400 + b', 704, 600 + k, 700] = [(400 + b, 400 + b'), (300 + c, 300 + c')] := by
          show (((((([] ++ tpn 700 700) ++ tpn (600 + k) (600 + k)) ++ tpn 704 704) ++ tpn (400 + b) (400 + b')) ++ tpn 701 701) ++ tpn (300 + c) (300 + c')) = _
          rw [t_3 hc, t_4 hb, t_6 hk]; rfl
        have e2 : ep x y = [(300 + c, 300 + c'), (400 + b, 400 + b')] := by
          unfold ep ocb
          rw [o, ob, b_, t, ob', b_']
          show npr 300 (nI c) (nI c') ++ (npr 400 (nI b) (nI b') ++ npr 400 (-1) (en_tl y)) = _
          rw [np_n (c := c) (c' := c') (by omega) (by omega), np_n (c := b) (c' := b') (by omega) (by omega), np_0 (s := en_tl y)]; rfl
        rw [e1, e2]; exact mem2
    · exact absurd (o.symm.trans (eo.trans o')) (by decide)
    · exact absurd (o.symm.trans (eo.trans o')) (by decide)
    · exact absurd (o.symm.trans (eo.trans o')) (by decide)
    · exact absurd (o.symm.trans (eo.trans o')) (by decide)
    · exact absurd (o.symm.trans (eo.trans o')) (by decide)
    · exact absurd (o.symm.trans (eo.trans o')) (by decide)
    · exact absurd (o.symm.trans (eo.trans o')) (by decide)
    · exact absurd (o.symm.trans (eo.trans o')) (by decide)
  · rcases G with ⟨l', c', hl', hc', o', t', b_', g', ob', rfl⟩ | ⟨c', k', hc', hk', o', t', b_', g', ob', rfl⟩ | ⟨c', b', hc', hb', o', t', b_', g', ob', rfl⟩ | ⟨c', b', k', hc', hb', hk', o', t', b_', g', ob', rfl⟩ | ⟨l', b', c', hl', hb', hc', o', t', b_', g', ob', rfl⟩ | ⟨m', hm', o', t', b_', g', ob', rfl⟩ | ⟨m', hm', o', t', b_', g', ob', rfl⟩ | ⟨o', t', b_', g', ob', rfl⟩ | ⟨l', k', hl', hk', o', t', b_', g', ob', rfl⟩ | ⟨l', b', hl', hb', o', t', b_', g', ob', rfl⟩ | ⟨l', b', k', hl', hb', hk', o', t', b_', g', ob', rfl⟩ | ⟨l', k', hl', hk', o', t', b_', g', ob', rfl⟩
    · exact absurd (o.symm.trans (eo.trans o')) (by decide)
    · exact absurd (o.symm.trans (eo.trans o')) (by decide)
    · exact absurd (o.symm.trans (eo.trans o')) (by decide)
    · exact absurd (o.symm.trans (eo.trans o')) (by decide)
    · skip
      refine ⟨rfl, ?_, fun z => ?_⟩
      · rw [ob, ob', ix_nI (by omega), ix_nI (by omega)]
        exact ⟨fun z _ => (m_3 hc hc').mp z.2.2.2.2.1, fun w => (fun z => ⟨m_4 hl hl', m_0 (by decide), m_4 hb hb', m_0 (by decide), (m_3 hc hc').mpr z, m_0 (by decide), trivial⟩) (w (by rw [o]; decide))⟩
      · have e1 : segp [400 + l, 701, 400 + b, 703, 300 + c, 700] [400 + l', 701, 400 + b', 703, 300 + c', 700] = [(300 + c, 300 + c'), (400 + b, 400 + b'), (400 + l, 400 + l')] := by
          show (((((([] ++ tpn 700 700) ++ tpn (300 + c) (300 + c')) ++ tpn 703 703) ++ tpn (400 + b) (400 + b')) ++ tpn 701 701) ++ tpn (400 + l) (400 + l')) = _
          rw [t_4 hl, t_4 hb, t_3 hc]; rfl
        have e2 : ep x y = [(300 + c, 300 + c'), (400 + b, 400 + b'), (400 + l, 400 + l')] := by
          unfold ep ocb
          rw [o, ob, b_, t, ob', b_', t']
          show npr 300 (nI c) (nI c') ++ (npr 400 (nI b) (nI b') ++ npr 400 (nI l) (nI l')) = _
          rw [np_n (c := c) (c' := c') (by omega) (by omega), np_n (c := b) (c' := b') (by omega) (by omega), np_n (c := l) (c' := l') (by omega) (by omega)]; rfl
        rw [e1, e2]
    · exact absurd (o.symm.trans (eo.trans o')) (by decide)
    · exact absurd (o.symm.trans (eo.trans o')) (by decide)
    · exact absurd (o.symm.trans (eo.trans o')) (by decide)
    · exact absurd (o.symm.trans (eo.trans o')) (by decide)
    · exact absurd (o.symm.trans (eo.trans o')) (by decide)
    · exact absurd (o.symm.trans (eo.trans o')) (by decide)
    · exact absurd (o.symm.trans (eo.trans o')) (by decide)
  · rcases G with ⟨l', c', hl', hc', o', t', b_', g', ob', rfl⟩ | ⟨c', k', hc', hk', o', t', b_', g', ob', rfl⟩ | ⟨c', b', hc', hb', o', t', b_', g', ob', rfl⟩ | ⟨c', b', k', hc', hb', hk', o', t', b_', g', ob', rfl⟩ | ⟨l', b', c', hl', hb', hc', o', t', b_', g', ob', rfl⟩ | ⟨m', hm', o', t', b_', g', ob', rfl⟩ | ⟨m', hm', o', t', b_', g', ob', rfl⟩ | ⟨o', t', b_', g', ob', rfl⟩ | ⟨l', k', hl', hk', o', t', b_', g', ob', rfl⟩ | ⟨l', b', hl', hb', o', t', b_', g', ob', rfl⟩ | ⟨l', b', k', hl', hb', hk', o', t', b_', g', ob', rfl⟩ | ⟨l', k', hl', hk', o', t', b_', g', ob', rfl⟩
    · exact absurd (o.symm.trans (eo.trans o')) (by decide)
    · exact absurd (o.symm.trans (eo.trans o')) (by decide)
    · exact absurd (o.symm.trans (eo.trans o')) (by decide)
    · exact absurd (o.symm.trans (eo.trans o')) (by decide)
    · exact absurd (o.symm.trans (eo.trans o')) (by decide)
    · skip
      refine ⟨rfl, ?_, fun z => ?_⟩
      · exact ⟨fun _ w => absurd w (by rw [o]; decide), fun _ => ⟨m_0 (by decide), m_5 hm hm', m_0 (by decide), trivial⟩⟩
      · have e1 : segp [204, 500 + m, 700] [204, 500 + m', 700] = [(500 + m, 500 + m')] := by
          show ((([] ++ tpn 700 700) ++ tpn (500 + m) (500 + m')) ++ tpn 204 204) = _
          rw [t_5 hm]; rfl
        have e2 : ep x y = [(500 + m, 500 + m')] := by
          unfold ep ocb
          rw [o, ob, b_, t, ob']
          show npr 500 (nI m) (nI m') ++ (npr 400 (-1) (en_bs y) ++ npr 400 (-1) (en_tl y)) = _
          rw [np_n (c := m) (c' := m') (by omega) (by omega), np_0 (s := en_bs y), np_0 (s := en_tl y)]; rfl
        rw [e1, e2]
    · exact absurd (o.symm.trans (eo.trans o')) (by decide)
    · exact absurd (o.symm.trans (eo.trans o')) (by decide)
    · exact absurd (o.symm.trans (eo.trans o')) (by decide)
    · exact absurd (o.symm.trans (eo.trans o')) (by decide)
    · exact absurd (o.symm.trans (eo.trans o')) (by decide)
    · exact absurd (o.symm.trans (eo.trans o')) (by decide)
  · rcases G with ⟨l', c', hl', hc', o', t', b_', g', ob', rfl⟩ | ⟨c', k', hc', hk', o', t', b_', g', ob', rfl⟩ | ⟨c', b', hc', hb', o', t', b_', g', ob', rfl⟩ | ⟨c', b', k', hc', hb', hk', o', t', b_', g', ob', rfl⟩ | ⟨l', b', c', hl', hb', hc', o', t', b_', g', ob', rfl⟩ | ⟨m', hm', o', t', b_', g', ob', rfl⟩ | ⟨m', hm', o', t', b_', g', ob', rfl⟩ | ⟨o', t', b_', g', ob', rfl⟩ | ⟨l', k', hl', hk', o', t', b_', g', ob', rfl⟩ | ⟨l', b', hl', hb', o', t', b_', g', ob', rfl⟩ | ⟨l', b', k', hl', hb', hk', o', t', b_', g', ob', rfl⟩ | ⟨l', k', hl', hk', o', t', b_', g', ob', rfl⟩
    · exact absurd (o.symm.trans (eo.trans o')) (by decide)
    · exact absurd (o.symm.trans (eo.trans o')) (by decide)
    · exact absurd (o.symm.trans (eo.trans o')) (by decide)
    · exact absurd (o.symm.trans (eo.trans o')) (by decide)
    · exact absurd (o.symm.trans (eo.trans o')) (by decide)
    · exact absurd (o.symm.trans (eo.trans o')) (by decide)
    · skip
      refine ⟨rfl, ?_, fun z => ?_⟩
      · exact ⟨fun _ w => absurd w (by rw [o]; decide), fun _ => ⟨m_0 (by decide), m_5 hm hm', m_0 (by decide), trivial⟩⟩
      · have e1 : segp [205, 500 + m, 700] [205, 500 + m', 700] = [(500 + m, 500 + m')] := by
          show ((([] ++ tpn 700 700) ++ tpn (500 + m) (500 + m')) ++ tpn 205 205) = _
          rw [t_5 hm]; rfl
        have e2 : ep x y = [(500 + m, 500 + m')] := by
          unfold ep ocb
          rw [o, ob, b_, t, ob']
          show npr 500 (nI m) (nI m') ++ (npr 400 (-1) (en_bs y) ++ npr 400 (-1) (en_tl y)) = _
          rw [np_n (c := m) (c' := m') (by omega) (by omega), np_0 (s := en_bs y), np_0 (s := en_tl y)]; rfl
        rw [e1, e2]
    · exact absurd (o.symm.trans (eo.trans o')) (by decide)
    · exact absurd (o.symm.trans (eo.trans o')) (by decide)
    · exact absurd (o.symm.trans (eo.trans o')) (by decide)
    · exact absurd (o.symm.trans (eo.trans o')) (by decide)
    · exact absurd (o.symm.trans (eo.trans o')) (by decide)
  · rcases G with ⟨l', c', hl', hc', o', t', b_', g', ob', rfl⟩ | ⟨c', k', hc', hk', o', t', b_', g', ob', rfl⟩ | ⟨c', b', hc', hb', o', t', b_', g', ob', rfl⟩ | ⟨c', b', k', hc', hb', hk', o', t', b_', g', ob', rfl⟩ | ⟨l', b', c', hl', hb', hc', o', t', b_', g', ob', rfl⟩ | ⟨m', hm', o', t', b_', g', ob', rfl⟩ | ⟨m', hm', o', t', b_', g', ob', rfl⟩ | ⟨o', t', b_', g', ob', rfl⟩ | ⟨l', k', hl', hk', o', t', b_', g', ob', rfl⟩ | ⟨l', b', hl', hb', o', t', b_', g', ob', rfl⟩ | ⟨l', b', k', hl', hb', hk', o', t', b_', g', ob', rfl⟩ | ⟨l', k', hl', hk', o', t', b_', g', ob', rfl⟩
    · exact absurd (o.symm.trans (eo.trans o')) (by decide)
    · exact absurd (o.symm.trans (eo.trans o')) (by decide)
    · exact absurd (o.symm.trans (eo.trans o')) (by decide)
    · exact absurd (o.symm.trans (eo.trans o')) (by decide)
    · exact absurd (o.symm.trans (eo.trans o')) (by decide)
    · exact absurd (o.symm.trans (eo.trans o')) (by decide)
    · exact absurd (o.symm.trans (eo.trans o')) (by decide)
    · skip
      refine ⟨rfl, ?_, fun z => ?_⟩
      · exact ⟨fun _ w => absurd w (by rw [o]; decide), fun _ => ⟨m_0 (by decide), m_0 (by decide), trivial⟩⟩
      · have e1 : segp [206, 700] [206, 700] = [] := by
          show (([] ++ tpn 700 700) ++ tpn 206 206) = _
          rfl
        have e2 : ep x y = [] := by
          unfold ep ocb
          rw [o, ob, b_, t]
          show npr 500 (-1) (en_ob y) ++ (npr 400 (-1) (en_bs y) ++ npr 400 (-1) (en_tl y)) = _
          rw [np_0 (s := en_ob y), np_0 (s := en_bs y), np_0 (s := en_tl y)]; rfl
        rw [e1, e2]
    · exact absurd (o.symm.trans (eo.trans o')) (by decide)
    · exact absurd (o.symm.trans (eo.trans o')) (by decide)
    · exact absurd (o.symm.trans (eo.trans o')) (by decide)
    · exact absurd (o.symm.trans (eo.trans o')) (by decide)
  · rcases G with ⟨l', c', hl', hc', o', t', b_', g', ob', rfl⟩ | ⟨c', k', hc', hk', o', t', b_', g', ob', rfl⟩ | ⟨c', b', hc', hb', o', t', b_', g', ob', rfl⟩ | ⟨c', b', k', hc', hb', hk', o', t', b_', g', ob', rfl⟩ | ⟨l', b', c', hl', hb', hc', o', t', b_', g', ob', rfl⟩ | ⟨m', hm', o', t', b_', g', ob', rfl⟩ | ⟨m', hm', o', t', b_', g', ob', rfl⟩ | ⟨o', t', b_', g', ob', rfl⟩ | ⟨l', k', hl', hk', o', t', b_', g', ob', rfl⟩ | ⟨l', b', hl', hb', o', t', b_', g', ob', rfl⟩ | ⟨l', b', k', hl', hb', hk', o', t', b_', g', ob', rfl⟩ | ⟨l', k', hl', hk', o', t', b_', g', ob', rfl⟩
    · exact absurd (o.symm.trans (eo.trans o')) (by decide)
    · exact absurd (o.symm.trans (eo.trans o')) (by decide)
    · exact absurd (o.symm.trans (eo.trans o')) (by decide)
    · exact absurd (o.symm.trans (eo.trans o')) (by decide)
    · exact absurd (o.symm.trans (eo.trans o')) (by decide)
    · exact absurd (o.symm.trans (eo.trans o')) (by decide)
    · exact absurd (o.symm.trans (eo.trans o')) (by decide)
    · exact absurd (o.symm.trans (eo.trans o')) (by decide)
    · have ek := nk_c hk hk' (g.symm.trans (ed.trans g'))
      subst ek
      refine ⟨rfl, ?_, fun z => ?_⟩
      · exact ⟨fun _ w => absurd w (by rw [o]; decide), fun _ => ⟨m_4 hl hl', m_0 (by decide), m_6 hk, m_0 (by decide), trivial⟩⟩
      · have e1 : segp [400 + l, 701, 600 + k, 700] [400 + l', 701, 600 + k, 700] = [(400 + l, 400 + l')] := by
          show (((([] ++ tpn 700 700) ++ tpn (600 + k) (600 + k)) ++ tpn 701 701) ++ tpn (400 + l) (400 + l')) = _
          rw [t_4 hl, t_6 hk]; rfl
        have e2 : ep x y = [(400 + l, 400 + l')] := by
          unfold ep ocb
          rw [o, ob, b_, t, t']
          show npr 500 (-1) (en_ob y) ++ (npr 400 (-1) (en_bs y) ++ npr 400 (nI l) (nI l')) = _
          rw [np_0 (s := en_ob y), np_0 (s := en_bs y), np_n (c := l) (c' := l') (by omega) (by omega)]; rfl
        rw [e1, e2]
    · exact (nI_ne1 (by omega) (b_'.symm.trans (eb.mp b_))).elim
    · exact (nI_ne1 (by omega) (b_'.symm.trans (eb.mp b_))).elim
    · exact absurd (o.symm.trans (eo.trans o')) (by decide)
  · rcases G with ⟨l', c', hl', hc', o', t', b_', g', ob', rfl⟩ | ⟨c', k', hc', hk', o', t', b_', g', ob', rfl⟩ | ⟨c', b', hc', hb', o', t', b_', g', ob', rfl⟩ | ⟨c', b', k', hc', hb', hk', o', t', b_', g', ob', rfl⟩ | ⟨l', b', c', hl', hb', hc', o', t', b_', g', ob', rfl⟩ | ⟨m', hm', o', t', b_', g', ob', rfl⟩ | ⟨m', hm', o', t', b_', g', ob', rfl⟩ | ⟨o', t', b_', g', ob', rfl⟩ | ⟨l', k', hl', hk', o', t', b_', g', ob', rfl⟩ | ⟨l', b', hl', hb', o', t', b_', g', ob', rfl⟩ | ⟨l', b', k', hl', hb', hk', o', t', b_', g', ob', rfl⟩ | ⟨l', k', hl', hk', o', t', b_', g', ob', rfl⟩
    · exact absurd (o.symm.trans (eo.trans o')) (by decide)
    · exact absurd (o.symm.trans (eo.trans o')) (by decide)
    · exact absurd (o.symm.trans (eo.trans o')) (by decide)
    · exact absurd (o.symm.trans (eo.trans o')) (by decide)
    · exact absurd (o.symm.trans (eo.trans o')) (by decide)
    · exact absurd (o.symm.trans (eo.trans o')) (by decide)
    · exact absurd (o.symm.trans (eo.trans o')) (by decide)
    · exact absurd (o.symm.trans (eo.trans o')) (by decide)
    · exact (nI_ne1 (by omega) (b_.symm.trans (eb.mpr b_'))).elim
    · skip
      refine ⟨rfl, ?_, fun z => ?_⟩
      · exact ⟨fun _ w => absurd w (by rw [o]; decide), fun _ => ⟨m_4 hl hl', m_0 (by decide), m_4 hb hb', m_0 (by decide), trivial⟩⟩
      · have e1 : segp [400 + l, 701, 400 + b, 700] [400 + l', 701, 400 + b', 700] = [(400 + b, 400 + b'), (400 + l, 400 + l')] := by
          show (((([] ++ tpn 700 700) ++ tpn (400 + b) (400 + b')) ++ tpn 701 701) ++ tpn (400 + l) (400 + l')) = _
          rw [t_4 hl, t_4 hb]; rfl
        have e2 : ep x y = [(400 + b, 400 + b'), (400 + l, 400 + l')] := by
          unfold ep ocb
          rw [o, ob, b_, t, b_', t']
          show npr 500 (-1) (en_ob y) ++ (npr 400 (nI b) (nI b') ++ npr 400 (nI l) (nI l')) = _
          rw [np_0 (s := en_ob y), np_n (c := b) (c' := b') (by omega) (by omega), np_n (c := l) (c' := l') (by omega) (by omega)]; rfl
        rw [e1, e2]
    · exact (nI_ne1 (by omega) (g'.symm.trans (ed.symm.trans g))).elim
    · exact absurd (o.symm.trans (eo.trans o')) (by decide)
  · rcases G with ⟨l', c', hl', hc', o', t', b_', g', ob', rfl⟩ | ⟨c', k', hc', hk', o', t', b_', g', ob', rfl⟩ | ⟨c', b', hc', hb', o', t', b_', g', ob', rfl⟩ | ⟨c', b', k', hc', hb', hk', o', t', b_', g', ob', rfl⟩ | ⟨l', b', c', hl', hb', hc', o', t', b_', g', ob', rfl⟩ | ⟨m', hm', o', t', b_', g', ob', rfl⟩ | ⟨m', hm', o', t', b_', g', ob', rfl⟩ | ⟨o', t', b_', g', ob', rfl⟩ | ⟨l', k', hl', hk', o', t', b_', g', ob', rfl⟩ | ⟨l', b', hl', hb', o', t', b_', g', ob', rfl⟩ | ⟨l', b', k', hl', hb', hk', o', t', b_', g', ob', rfl⟩ | ⟨l', k', hl', hk', o', t', b_', g', ob', rfl⟩
    · exact absurd (o.symm.trans (eo.trans o')) (by decide)
    · exact absurd (o.symm.trans (eo.trans o')) (by decide)
    · exact absurd (o.symm.trans (eo.trans o')) (by decide)
    · exact absurd (o.symm.trans (eo.trans o')) (by decide)
    · exact absurd (o.symm.trans (eo.trans o')) (by decide)
    · exact absurd (o.symm.trans (eo.trans o')) (by decide)
    · exact absurd (o.symm.trans (eo.trans o')) (by decide)
    · exact absurd (o.symm.trans (eo.trans o')) (by decide)
    · exact (nI_ne1 (by omega) (b_.symm.trans (eb.mpr b_'))).elim
    · exact (nI_ne1 (by omega) (g.symm.trans (ed.trans g'))).elim
    · have ek := nk_c hk hk' (g.symm.trans (ed.trans g'))
      subst ek
      refine ⟨rfl, ?_, fun z => ?_⟩
      · exact ⟨fun _ w => absurd w (by rw [o]; decide), fun _ => ⟨m_4 hl hl', m_0 (by decide), m_4 hb hb', m_0 (by decide), m_6 hk, m_0 (by decide), trivial⟩⟩
      · have e1 : segp [400 + l, 701, 400 + b, 704, 600 + k, 700] [400 + l', 701, 400 + b', 704, 600 + k, 700] = [(400 + b, 400 + b'), (400 + l, 400 + l')] := by
          show (((((([] ++ tpn 700 700) ++ tpn (600 + k) (600 + k)) ++ tpn 704 704) ++ tpn (400 + b) (400 + b')) ++ tpn 701 701) ++ tpn (400 + l) (400 + l')) = _
          rw [t_4 hl, t_4 hb, t_6 hk]; rfl
        have e2 : ep x y = [(400 + b, 400 + b'), (400 + l, 400 + l')] := by
          unfold ep ocb
          rw [o, ob, b_, t, b_', t']
          show npr 500 (-1) (en_ob y) ++ (npr 400 (nI b) (nI b') ++ npr 400 (nI l) (nI l')) = _
          rw [np_0 (s := en_ob y), np_n (c := b) (c' := b') (by omega) (by omega), np_n (c := l) (c' := l') (by omega) (by omega)]; rfl
        rw [e1, e2]
    · exact absurd (o.symm.trans (eo.trans o')) (by decide)
  · rcases G with ⟨l', c', hl', hc', o', t', b_', g', ob', rfl⟩ | ⟨c', k', hc', hk', o', t', b_', g', ob', rfl⟩ | ⟨c', b', hc', hb', o', t', b_', g', ob', rfl⟩ | ⟨c', b', k', hc', hb', hk', o', t', b_', g', ob', rfl⟩ | ⟨l', b', c', hl', hb', hc', o', t', b_', g', ob', rfl⟩ | ⟨m', hm', o', t', b_', g', ob', rfl⟩ | ⟨m', hm', o', t', b_', g', ob', rfl⟩ | ⟨o', t', b_', g', ob', rfl⟩ | ⟨l', k', hl', hk', o', t', b_', g', ob', rfl⟩ | ⟨l', b', hl', hb', o', t', b_', g', ob', rfl⟩ | ⟨l', b', k', hl', hb', hk', o', t', b_', g', ob', rfl⟩ | ⟨l', k', hl', hk', o', t', b_', g', ob', rfl⟩
    · exact absurd (o.symm.trans (eo.trans o')) (by decide)
    · exact absurd (o.symm.trans (eo.trans o')) (by decide)
    · exact absurd (o.symm.trans (eo.trans o')) (by decide)
    · exact absurd (o.symm.trans (eo.trans o')) (by decide)
    · exact absurd (o.symm.trans (eo.trans o')) (by decide)
    · exact absurd (o.symm.trans (eo.trans o')) (by decide)
    · exact absurd (o.symm.trans (eo.trans o')) (by decide)
    · exact absurd (o.symm.trans (eo.trans o')) (by decide)
    · exact absurd (o.symm.trans (eo.trans o')) (by decide)
    · exact absurd (o.symm.trans (eo.trans o')) (by decide)
    · exact absurd (o.symm.trans (eo.trans o')) (by decide)
    · have ek := nk_c hk hk' (g.symm.trans (ed.trans g'))
      subst ek
      refine ⟨rfl, ?_, fun z => ?_⟩
      · exact ⟨fun _ w => absurd w (by rw [o]; decide), fun _ => ⟨m_0 (by decide), m_4 hl hl', m_0 (by decide), m_6 hk, m_0 (by decide), trivial⟩⟩
      · have e1 : segp [207, 400 + l, 702, 600 + k, 705] [207, 400 + l', 702, 600 + k, 705] = [(400 + l, 400 + l')] := by
          show ((((([] ++ tpn 705 705) ++ tpn (600 + k) (600 + k)) ++ tpn 702 702) ++ tpn (400 + l) (400 + l')) ++ tpn 207 207) = _
          rw [t_4 hl, t_6 hk]; rfl
        have e2 : ep x y = [(400 + l, 400 + l')] := by
          unfold ep ocb
          rw [o, ob, b_, t, t']
          show npr 500 (-1) (en_ob y) ++ (npr 400 (-1) (en_bs y) ++ npr 400 (nI l) (nI l')) = _
          rw [np_0 (s := en_ob y), np_0 (s := en_bs y), np_n (c := l) (c' := l') (by omega) (by omega)]; rfl
        rw [e1, e2]
end
