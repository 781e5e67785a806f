def x_X10_demandPlace (a0 : Int32) (h : AH) : Option (Nat × AH) := if a0 < 0 ∨ ¬ a0 < 8 then some (12, st_n h 12 6) else none
theorem cx_X10_demandPlace {a0 : Int32} {h hE : AH} {E : Nat} (hf : x_X10_demandPlace a0 h = some (E, hE)) : (E = 12 ∨ E = 13) ∧ ∀ g : GT, CT g 8 yX10_demandPlace cX10_demandPlace 1 none h [.inl (a0)] hE E := by
  obtain ⟨hp, q⟩ := of_if hf
  obtain ⟨e1, e2⟩ := Prod.mk.inj q
  subst e1
  subst e2
  exact ⟨Or.inl rfl, t_demandPlace hp⟩
def x_X10_pnull (a0 : Nat) (a1 : Int32) (h : AH) : Option (Nat × AH) := (f_X10_demandPlace a1 h).bind fun h1 => (g_r h1 a0 10 1).bind fun x2 => (l_r h1 x2 a1).bind fun x3 => if x3 = 0 then some (13, st_n h1 13 6) else none
def x_X10_programAt (a0 : Nat) (a1 : Int32) (h : AH) : Option (Nat × AH) := orE (x_X10_demandPlace a1 h) (x_X10_pnull a0 a1 h)
theorem cx_X10_programAt {a0 : Nat} {a1 : Int32} {h hE : AH} {E : Nat} (hf : x_X10_programAt a0 a1 h = some (E, hE)) : (E = 12 ∨ E = 13) ∧ ∀ g : GT, CT g 10 yX10_programAt cX10_programAt 3 (some (.object "LitmusHouse$Program")) h [.inr (.inr (a0)), .inl (a1)] hE E := by
  rcases orE_of hf with hf | hf
  · obtain ⟨k1, k2⟩ := cx_X10_demandPlace hf
    exact ⟨k1, t_X10_programAt_0 k2⟩
  · obtain ⟨h1, e1, hf⟩ := bnd hf
    obtain ⟨x2, e2, hf⟩ := bnd hf
    obtain ⟨x3, e3, hf⟩ := bnd hf
    obtain ⟨e0, q⟩ := of_if hf
    subst e0
    obtain ⟨q1, q2⟩ := Prod.mk.inj q
    subst q1
    subst q2
    exact ⟨Or.inr rfl, t_programAt e1 e2 e3⟩
def x_X10_action (a0 : Nat) (a1 : Int32) (a2 : Int32) (a3 : Int32) (h : AH) : Option (Nat × AH) := orE ((ok_v h a0 10).bind fun x1 => x_X10_programAt a0 a1 h) (none)
theorem cx_X10_action {a0 : Nat} {a1 : Int32} {a2 : Int32} {a3 : Int32} {h hE : AH} {E : Nat} (hf : x_X10_action a0 a1 a2 a3 h = some (E, hE)) : (E = 12 ∨ E = 13) ∧ ∀ g : GT, CT g 12 yX10_action cX10_action 6 (some .int) h [.inr (.inr (a0)), .inl (a1), .inl (a2), .inl (a3)] hE E := by
  rcases orE_of hf with hf | hf
  · obtain ⟨x1, e1, hf⟩ := bnd hf
    obtain ⟨k1, k2⟩ := cx_X10_programAt hf
    exact ⟨k1, t_X10_action_0 e1 k2⟩
  cases hf
def x_X10_allowed (a0 : Nat) (a1 : Int32) (a2 : Int32) (h : AH) : Option (Nat × AH) := orE ((ok_v h a0 10).bind fun x1 => x_X10_programAt a0 a1 h) (none)
theorem cx_X10_allowed {a0 : Nat} {a1 : Int32} {a2 : Int32} {h hE : AH} {E : Nat} (hf : x_X10_allowed a0 a1 a2 h = some (E, hE)) : (E = 12 ∨ E = 13) ∧ ∀ g : GT, CT g 12 yX10_allowed cX10_allowed 7 (some .int) h [.inr (.inr (a0)), .inl (a1), .inl (a2)] hE E := by
  rcases orE_of hf with hf | hf
  · obtain ⟨x1, e1, hf⟩ := bnd hf
    obtain ⟨k1, k2⟩ := cx_X10_programAt hf
    exact ⟨k1, t_X10_allowed_0 e1 k2⟩
  cases hf
def x_X10_before (a0 : Nat) (a1 : Int32) (a2 : Int32) (a3 : Int32) (h : AH) : Option (Nat × AH) := orE ((ok_v h a0 10).bind fun x1 => x_X10_programAt a0 a1 h) (none)
theorem cx_X10_before {a0 : Nat} {a1 : Int32} {a2 : Int32} {a3 : Int32} {h hE : AH} {E : Nat} (hf : x_X10_before a0 a1 a2 a3 h = some (E, hE)) : (E = 12 ∨ E = 13) ∧ ∀ g : GT, CT g 12 yX10_before cX10_before 8 (some .int) h [.inr (.inr (a0)), .inl (a1), .inl (a2), .inl (a3)] hE E := by
  rcases orE_of hf with hf | hf
  · obtain ⟨x1, e1, hf⟩ := bnd hf
    obtain ⟨k1, k2⟩ := cx_X10_programAt hf
    exact ⟨k1, t_X10_before_0 e1 k2⟩
  cases hf
def x_X10_drop (a0 : Nat) (a1 : Int32) (h : AH) : Option (Nat × AH) := orE (x_X10_demandPlace a1 h) (none)
theorem cx_X10_drop {a0 : Nat} {a1 : Int32} {h hE : AH} {E : Nat} (hf : x_X10_drop a0 a1 h = some (E, hE)) : (E = 12 ∨ E = 13) ∧ ∀ g : GT, CT g 12 yX10_drop cX10_drop 3 (some .boolean) h [.inr (.inr (a0)), .inl (a1)] hE E := by
  rcases orE_of hf with hf | hf
  · obtain ⟨k1, k2⟩ := cx_X10_demandPlace hf
    exact ⟨k1, t_X10_drop_0 k2⟩
  cases hf
def x_X10_fence (a0 : Nat) (a1 : Int32) (a2 : Int32) (h : AH) : Option (Nat × AH) := orE ((ok_v h a0 10).bind fun x1 => x_X10_programAt a0 a1 h) (none)
theorem cx_X10_fence {a0 : Nat} {a1 : Int32} {a2 : Int32} {h hE : AH} {E : Nat} (hf : x_X10_fence a0 a1 a2 h = some (E, hE)) : (E = 12 ∨ E = 13) ∧ ∀ g : GT, CT g 12 yX10_fence cX10_fence 8 (some .int) h [.inr (.inr (a0)), .inl (a1), .inl (a2)] hE E := by
  rcases orE_of hf with hf | hf
  · obtain ⟨x1, e1, hf⟩ := bnd hf
    obtain ⟨k1, k2⟩ := cx_X10_programAt hf
    exact ⟨k1, t_X10_fence_0 e1 k2⟩
  cases hf
def x_X10_kind (a0 : Nat) (a1 : Int32) (a2 : Int32) (h : AH) : Option (Nat × AH) := orE ((ok_v h a0 10).bind fun x1 => x_X10_programAt a0 a1 h) (none)
theorem cx_X10_kind {a0 : Nat} {a1 : Int32} {a2 : Int32} {h hE : AH} {E : Nat} (hf : x_X10_kind a0 a1 a2 h = some (E, hE)) : (E = 12 ∨ E = 13) ∧ ∀ g : GT, CT g 12 yX10_kind cX10_kind 4 (some .int) h [.inr (.inr (a0)), .inl (a1), .inl (a2)] hE E := by
  rcases orE_of hf with hf | hf
  · obtain ⟨x1, e1, hf⟩ := bnd hf
    obtain ⟨k1, k2⟩ := cx_X10_programAt hf
    exact ⟨k1, t_X10_kind_0 e1 k2⟩
  cases hf
def x_X10_load (a0 : Nat) (a1 : Int32) (h : AH) : Option (Nat × AH) := orE (x_X10_demandPlace a1 h) (none)
theorem cx_X10_load {a0 : Nat} {a1 : Int32} {h hE : AH} {E : Nat} (hf : x_X10_load a0 a1 h = some (E, hE)) : (E = 12 ∨ E = 13) ∧ ∀ g : GT, CT g 12 yX10_load cX10_load 3 (some .int) h [.inr (.inr (a0)), .inl (a1)] hE E := by
  rcases orE_of hf with hf | hf
  · obtain ⟨k1, k2⟩ := cx_X10_demandPlace hf
    exact ⟨k1, t_X10_load_0 k2⟩
  cases hf
def x_X10_look (a0 : Nat) (a1 : Int32) (a2 : Int32) (h : AH) : Option (Nat × AH) := orE ((ok_v h a0 10).bind fun x1 => x_X10_programAt a0 a1 h) (none)
theorem cx_X10_look {a0 : Nat} {a1 : Int32} {a2 : Int32} {h hE : AH} {E : Nat} (hf : x_X10_look a0 a1 a2 h = some (E, hE)) : (E = 12 ∨ E = 13) ∧ ∀ g : GT, CT g 12 yX10_look cX10_look 5 (some .int) h [.inr (.inr (a0)), .inl (a1), .inl (a2)] hE E := by
  rcases orE_of hf with hf | hf
  · obtain ⟨x1, e1, hf⟩ := bnd hf
    obtain ⟨k1, k2⟩ := cx_X10_programAt hf
    exact ⟨k1, t_X10_look_0 e1 k2⟩
  cases hf
def x_X10_make (a0 : Nat) (a1 : Int32) (a2 : Int32) (a3 : Int32) (h : AH) : Option (Nat × AH) := orE (x_X10_demandPlace a1 h) (orE ((f_X10_demandPlace a1 h).bind fun h1 => x_X10_demandPlace a3 h1) (orE ((f_X10_demandPlace a1 h).bind fun h1 => (f_X10_demandPlace a3 h1).bind fun h2 => (ok_v h2 a0 10).bind fun x3 => x_X10_programAt a0 a1 h2) (none)))
theorem cx_X10_make {a0 : Nat} {a1 : Int32} {a2 : Int32} {a3 : Int32} {h hE : AH} {E : Nat} (hf : x_X10_make a0 a1 a2 a3 h = some (E, hE)) : (E = 12 ∨ E = 13) ∧ ∀ g : GT, CT g 12 yX10_make cX10_make 5 (some .int) h [.inr (.inr (a0)), .inl (a1), .inl (a2), .inl (a3)] hE E := by
  rcases orE_of hf with hf | hf
  · obtain ⟨k1, k2⟩ := cx_X10_demandPlace hf
    exact ⟨k1, t_X10_make_0 k2⟩
  rcases orE_of hf with hf | hf
  · obtain ⟨h1, e1, hf⟩ := bnd hf
    obtain ⟨k1, k2⟩ := cx_X10_demandPlace hf
    exact ⟨k1, t_X10_make_1 e1 k2⟩
  rcases orE_of hf with hf | hf
  · obtain ⟨h1, e1, hf⟩ := bnd hf
    obtain ⟨h2, e2, hf⟩ := bnd hf
    obtain ⟨x3, e3, hf⟩ := bnd hf
    obtain ⟨k1, k2⟩ := cx_X10_programAt hf
    exact ⟨k1, t_X10_make_2 e1 e2 e3 k2⟩
  cases hf
def x_X10_outcomes (a0 : Nat) (a1 : Int32) (a2 : Int32) (h : AH) : Option (Nat × AH) := orE ((ok_v h a0 10).bind fun x1 => x_X10_programAt a0 a1 h) (none)
theorem cx_X10_outcomes {a0 : Nat} {a1 : Int32} {a2 : Int32} {h hE : AH} {E : Nat} (hf : x_X10_outcomes a0 a1 a2 h = some (E, hE)) : (E = 12 ∨ E = 13) ∧ ∀ g : GT, CT g 12 yX10_outcomes cX10_outcomes 4 (some .int) h [.inr (.inr (a0)), .inl (a1), .inl (a2)] hE E := by
  rcases orE_of hf with hf | hf
  · obtain ⟨x1, e1, hf⟩ := bnd hf
    obtain ⟨k1, k2⟩ := cx_X10_programAt hf
    exact ⟨k1, t_X10_outcomes_0 e1 k2⟩
  cases hf
def x_X10_print (a0 : Nat) (a1 : Int32) (h : AH) : Option (Nat × AH) := orE ((g_r h a0 10 4).bind fun x1 => (ok_v h a0 10).bind fun x2 => x_X10_programAt a0 a1 h) (none)
theorem cx_X10_print {a0 : Nat} {a1 : Int32} {h hE : AH} {E : Nat} (hf : x_X10_print a0 a1 h = some (E, hE)) : (E = 12 ∨ E = 13) ∧ ∀ g : GT, CT g 12 yX10_print cX10_print 2 (some .int) h [.inr (.inr (a0)), .inl (a1)] hE E := by
  rcases orE_of hf with hf | hf
  · obtain ⟨x1, e1, hf⟩ := bnd hf
    obtain ⟨x2, e2, hf⟩ := bnd hf
    obtain ⟨k1, k2⟩ := cx_X10_programAt hf
    exact ⟨k1, t_X10_print_0 e1 e2 k2⟩
  cases hf
def x_X10_race (a0 : Nat) (a1 : Int32) (a2 : Int32) (a3 : Int32) (h : AH) : Option (Nat × AH) := orE ((ok_v h a0 10).bind fun x1 => x_X10_programAt a0 a1 h) (none)
theorem cx_X10_race {a0 : Nat} {a1 : Int32} {a2 : Int32} {a3 : Int32} {h hE : AH} {E : Nat} (hf : x_X10_race a0 a1 a2 a3 h = some (E, hE)) : (E = 12 ∨ E = 13) ∧ ∀ g : GT, CT g 12 yX10_race cX10_race 8 (some .int) h [.inr (.inr (a0)), .inl (a1), .inl (a2), .inl (a3)] hE E := by
  rcases orE_of hf with hf | hf
  · obtain ⟨x1, e1, hf⟩ := bnd hf
    obtain ⟨k1, k2⟩ := cx_X10_programAt hf
    exact ⟨k1, t_X10_race_0 e1 k2⟩
  cases hf
def x_X10_races (a0 : Nat) (a1 : Int32) (h : AH) : Option (Nat × AH) := orE ((ok_v h a0 10).bind fun x1 => x_X10_programAt a0 a1 h) (none)
theorem cx_X10_races {a0 : Nat} {a1 : Int32} {h hE : AH} {E : Nat} (hf : x_X10_races a0 a1 h = some (E, hE)) : (E = 12 ∨ E = 13) ∧ ∀ g : GT, CT g 12 yX10_races cX10_races 2 (some .int) h [.inr (.inr (a0)), .inl (a1)] hE E := by
  rcases orE_of hf with hf | hf
  · obtain ⟨x1, e1, hf⟩ := bnd hf
    obtain ⟨k1, k2⟩ := cx_X10_programAt hf
    exact ⟨k1, t_X10_races_0 e1 k2⟩
  cases hf
def x_X10_same (a0 : Nat) (a1 : Int32) (a2 : Int32) (h : AH) : Option (Nat × AH) := orE (x_X10_demandPlace a1 h) (orE ((f_X10_demandPlace a1 h).bind fun h1 => x_X10_demandPlace a2 h1) (orE ((f_X10_demandPlace a1 h).bind fun h1 => (f_X10_demandPlace a2 h1).bind fun h2 => (g_r h2 a0 10 6).bind fun x3 => (ok_v h2 a0 10).bind fun x4 => x_X10_programAt a0 a1 h2) (orE ((f_X10_demandPlace a1 h).bind fun h1 => (f_X10_demandPlace a2 h1).bind fun h2 => (g_r h2 a0 10 6).bind fun x3 => (ok_v h2 a0 10).bind fun x4 => (f_X10_programAt a0 a1 h2).bind fun q5 => (ok_v q5.2 a0 10).bind fun x6 => x_X10_programAt a0 a2 q5.2) (none))))
theorem cx_X10_same {a0 : Nat} {a1 : Int32} {a2 : Int32} {h hE : AH} {E : Nat} (hf : x_X10_same a0 a1 a2 h = some (E, hE)) : (E = 12 ∨ E = 13) ∧ ∀ g : GT, CT g 12 yX10_same cX10_same 3 (some .boolean) h [.inr (.inr (a0)), .inl (a1), .inl (a2)] hE E := by
  rcases orE_of hf with hf | hf
  · obtain ⟨k1, k2⟩ := cx_X10_demandPlace hf
    exact ⟨k1, t_X10_same_0 k2⟩
  rcases orE_of hf with hf | hf
  · obtain ⟨h1, e1, hf⟩ := bnd hf
    obtain ⟨k1, k2⟩ := cx_X10_demandPlace hf
    exact ⟨k1, t_X10_same_1 e1 k2⟩
  rcases orE_of hf with hf | hf
  · obtain ⟨h1, e1, hf⟩ := bnd hf
    obtain ⟨h2, e2, hf⟩ := bnd hf
    obtain ⟨x3, e3, hf⟩ := bnd hf
    obtain ⟨x4, e4, hf⟩ := bnd hf
    obtain ⟨k1, k2⟩ := cx_X10_programAt hf
    exact ⟨k1, t_X10_same_2 e1 e2 e3 e4 k2⟩
  rcases orE_of hf with hf | hf
  · obtain ⟨h1, e1, hf⟩ := bnd hf
    obtain ⟨h2, e2, hf⟩ := bnd hf
    obtain ⟨x3, e3, hf⟩ := bnd hf
    obtain ⟨x4, e4, hf⟩ := bnd hf
    obtain ⟨⟨x5, h5⟩, e5, hf⟩ := bnd hf
    try dsimp only at hf
    obtain ⟨x6, e6, hf⟩ := bnd hf
    obtain ⟨k1, k2⟩ := cx_X10_programAt hf
    exact ⟨k1, t_X10_same_3 e1 e2 e3 e4 e5 e6 k2⟩
  cases hf
def x_X10_stuck (a0 : Nat) (a1 : Int32) (a2 : Int32) (a3 : Int32) (h : AH) : Option (Nat × AH) := orE ((ok_v h a0 10).bind fun x1 => x_X10_programAt a0 a1 h) (none)
theorem cx_X10_stuck {a0 : Nat} {a1 : Int32} {a2 : Int32} {a3 : Int32} {h hE : AH} {E : Nat} (hf : x_X10_stuck a0 a1 a2 a3 h = some (E, hE)) : (E = 12 ∨ E = 13) ∧ ∀ g : GT, CT g 12 yX10_stuck cX10_stuck 6 (some .int) h [.inr (.inr (a0)), .inl (a1), .inl (a2), .inl (a3)] hE E := by
  rcases orE_of hf with hf | hf
  · obtain ⟨x1, e1, hf⟩ := bnd hf
    obtain ⟨k1, k2⟩ := cx_X10_programAt hf
    exact ⟨k1, t_X10_stuck_0 e1 k2⟩
  cases hf
def x_X10_value (a0 : Nat) (a1 : Int32) (a2 : Int32) (a3 : Int32) (a4 : Int32) (h : AH) : Option (Nat × AH) := orE ((ok_v h a0 10).bind fun x1 => x_X10_programAt a0 a1 h) (none)
theorem cx_X10_value {a0 : Nat} {a1 : Int32} {a2 : Int32} {a3 : Int32} {a4 : Int32} {h hE : AH} {E : Nat} (hf : x_X10_value a0 a1 a2 a3 a4 h = some (E, hE)) : (E = 12 ∨ E = 13) ∧ ∀ g : GT, CT g 12 yX10_value cX10_value 7 (some .int) h [.inr (.inr (a0)), .inl (a1), .inl (a2), .inl (a3), .inl (a4)] hE E := by
  rcases orE_of hf with hf | hf
  · obtain ⟨x1, e1, hf⟩ := bnd hf
    obtain ⟨k1, k2⟩ := cx_X10_programAt hf
    exact ⟨k1, t_X10_value_0 e1 k2⟩
  cases hf
def x_X10_witness (a0 : Nat) (a1 : Int32) (h : AH) : Option (Nat × AH) := orE ((g_r h a0 10 5).bind fun x1 => (ok_v h a0 10).bind fun x2 => x_X10_programAt a0 a1 h) (none)
theorem cx_X10_witness {a0 : Nat} {a1 : Int32} {h hE : AH} {E : Nat} (hf : x_X10_witness a0 a1 h = some (E, hE)) : (E = 12 ∨ E = 13) ∧ ∀ g : GT, CT g 12 yX10_witness cX10_witness 2 (some .int) h [.inr (.inr (a0)), .inl (a1)] hE E := by
  rcases orE_of hf with hf | hf
  · obtain ⟨x1, e1, hf⟩ := bnd hf
    obtain ⟨x2, e2, hf⟩ := bnd hf
    obtain ⟨k1, k2⟩ := cx_X10_programAt hf
    exact ⟨k1, t_X10_witness_0 e1 e2 k2⟩
  cases hf
