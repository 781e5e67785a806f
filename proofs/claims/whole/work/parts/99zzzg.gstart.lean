/-! ===== the start: the heap as a list of writes ===== -/
abbrev Op : Type := Nat × Nat × Nat × Nat × Int32 × Int64
def den : List Op → AH
  | [] => h_0
  | o :: t => if o.1 = 0 then (o.2.1 + 1, hp_s (den t) + o.2.2.2.1, up_1 (hp_k (den t)) o.2.1 o.2.2.1, up_1 (hp_l (den t)) o.2.1 o.2.2.2.1, up_1 (hp_i (den t)) o.2.1 (fun _ => 0), up_1 (hp_j (den t)) o.2.1 (fun _ => 0), up_1 (hp_r (den t)) o.2.1 (fun _ => 0)) else if o.1 = 1 then st_i (den t) o.2.1 o.2.2.1 o.2.2.2.2.1 else if o.1 = 2 then st_j (den t) o.2.1 o.2.2.1 o.2.2.2.2.2 else st_r (den t) o.2.1 o.2.2.1 o.2.2.2.1
def lkn : List Op → Nat
  | [] => 64
  | o :: t => if o.1 = 0 then o.2.1 + 1 else lkn t
def lks : List Op → Nat
  | [] => 0
  | o :: t => if o.1 = 0 then lks t + o.2.2.2.1 else lks t
def lkk : List Op → Nat → Nat
  | [], _ => 0
  | o :: t, r => if o.1 = 0 then (if r = o.2.1 then o.2.2.1 else lkk t r) else lkk t r
def lkl : List Op → Nat → Nat
  | [], _ => 0
  | o :: t, r => if o.1 = 0 then (if r = o.2.1 then o.2.2.2.1 else lkl t r) else lkl t r
def lki : List Op → Nat → Nat → Int32
  | [], _, _ => 0
  | o :: t, r, k => if o.1 = 0 then (if r = o.2.1 then 0 else lki t r k) else if o.1 = 1 then (if r = o.2.1 ∧ k = o.2.2.1 then o.2.2.2.2.1 else lki t r k) else lki t r k
def lkj : List Op → Nat → Nat → Int64
  | [], _, _ => 0
  | o :: t, r, k => if o.1 = 0 then (if r = o.2.1 then 0 else lkj t r k) else if o.1 = 1 then lkj t r k else if o.1 = 2 then (if r = o.2.1 ∧ k = o.2.2.1 then o.2.2.2.2.2 else lkj t r k) else lkj t r k
def lkr : List Op → Nat → Nat → Nat
  | [], _, _ => 0
  | o :: t, r, k => if o.1 = 0 then (if r = o.2.1 then 0 else lkr t r k) else if o.1 = 1 then lkr t r k else if o.1 = 2 then lkr t r k else (if r = o.2.1 ∧ k = o.2.2.1 then o.2.2.2.1 else lkr t r k)
theorem den_all : ∀ t : List Op, hp_n (den t) = lkn t ∧ hp_s (den t) = lks t ∧ (∀ r, hp_k (den t) r = lkk t r) ∧ (∀ r, hp_l (den t) r = lkl t r) ∧ (∀ r k, hp_i (den t) r k = lki t r k) ∧ (∀ r k, hp_j (den t) r k = lkj t r k) ∧ ∀ r k, hp_r (den t) r k = lkr t r k := by
  intro t
  induction t with
  | nil => exact ⟨rfl, rfl, fun _ => rfl, fun _ => rfl, fun _ _ => rfl, fun _ _ => rfl, fun _ _ => rfl⟩
  | cons o t ih =>
    obtain ⟨i1, i2, i3, i4, i5, i6, i7⟩ := ih
    unfold den lkn lks lkk lkl lki lkj lkr
    by_cases c0 : o.1 = 0
    · simp only [if_pos c0]
      refine ⟨rfl, congrArg (· + o.2.2.2.1) i2, fun r => ?_, fun r => ?_, fun r k => ?_, fun r k => ?_, fun r k => ?_⟩
      · show (if r = o.2.1 then o.2.2.1 else hp_k (den t) r) = _
        rw [i3]
      · show (if r = o.2.1 then o.2.2.2.1 else hp_l (den t) r) = _
        rw [i4]
      · show (if r = o.2.1 then (fun _ => (0 : Int32)) else hp_i (den t) r) k = _
        by_cases c : r = o.2.1
        · rw [if_pos c, if_pos c]
        · rw [if_neg c, if_neg c, i5]
      · show (if r = o.2.1 then (fun _ => (0 : Int64)) else hp_j (den t) r) k = _
        by_cases c : r = o.2.1
        · rw [if_pos c, if_pos c]
        · rw [if_neg c, if_neg c, i6]
      · show (if r = o.2.1 then (fun _ => (0 : Nat)) else hp_r (den t) r) k = _
        by_cases c : r = o.2.1
        · rw [if_pos c, if_pos c]
        · rw [if_neg c, if_neg c, i7]
    · simp only [if_neg c0]
      by_cases c1 : o.1 = 1
      · simp only [if_pos c1]
        refine ⟨i1, i2, i3, i4, fun r k => ?_, i6, i7⟩
        show (if r = o.2.1 ∧ k = o.2.2.1 then o.2.2.2.2.1 else hp_i (den t) r k) = _
        rw [i5]
      · simp only [if_neg c1]
        by_cases c2 : o.1 = 2
        · simp only [if_pos c2]
          refine ⟨i1, i2, i3, i4, i5, fun r k => ?_, i7⟩
          show (if r = o.2.1 ∧ k = o.2.2.1 then o.2.2.2.2.2 else hp_j (den t) r k) = _
          rw [i6]
        · simp only [if_neg c2]
          refine ⟨i1, i2, i3, i4, i5, i6, fun r k => ?_⟩
          show (if r = o.2.1 ∧ k = o.2.2.1 then o.2.2.2.1 else hp_r (den t) r k) = _
          rw [i7]
section
variable {t : List Op} {r c k l v : Nat}
theorem lkn_e : hp_n (den t) = lkn t := (den_all t).1
def okb (t : List Op) (r c : Nat) : Bool := decide (64 ≤ r) && decide (r < lkn t) && decide (lkk t r = c)
theorem ok_b (h : okb t r c = true) : ok_o (den t) r c := by
  unfold okb at h
  rw [Bool.and_eq_true, Bool.and_eq_true, decide_eq_true_iff, decide_eq_true_iff, decide_eq_true_iff] at h
  exact ⟨h.1.1, by rw [lkn_e]; exact h.1.2, by rw [(den_all t).2.2.1]; exact h.2⟩
theorem den_n (e : lkn t = r) : st_n (den t) c l = den ((0, r, c, l, 0, 0) :: t) := by
  unfold st_n
  rw [lkn_e, e]
  rfl
theorem dn_n {i : Int32} (hi : nI l = i) (hl : l ≤ 67108864) (e : lkn t = r) : n_a (den t) c i = some (den ((0, r, c, l, 0, 0) :: t)) := by
  rw [← hi, ← den_n e]
  have : n_a (den t) c (nI l) = some (st_n (den t) c (nI l).toNatClampNeg) := if_pos ⟨nI_pos (by omega), by rw [nI_clamp (by omega)]; exact hl⟩
  rw [this, nI_clamp (by omega)]
theorem dp_r (h : okb t r c = true) : p_r (den t) r c k v = some (den ((3, r, k, v, 0, 0) :: t)) := if_pos (ok_b h)
theorem dp_i {i : Int32} (h : okb t r c = true) : p_i (den t) r c k i = some (den ((1, r, k, 0, i, 0) :: t)) := if_pos (ok_b h)
theorem dp_z {i : Int32} (h : okb t r c = true) (hi : i = 0 ∨ i = 1) : p_z (den t) r c k i = some (den ((1, r, k, 0, i, 0) :: t)) := if_pos ⟨ok_b h, hi⟩
theorem dp_j {j : Int64} (h : okb t r c = true) : p_j (den t) r c k j = some (den ((2, r, k, 0, 0, j) :: t)) := if_pos (ok_b h)
theorem dg_r (h : okb t r c = true) (e : lkr t r k = v) : g_r (den t) r c k = some v := (if_pos (ok_b h)).trans (by rw [(den_all t).2.2.2.2.2.2, e])
theorem ds_i {i x : Int32} (hi : nI k = i) (h : okb t r 100 = true) (hl : k < lkl t r ∧ lkl t r < 100000) : s_i (den t) r i x = some (den ((1, r, k, 0, x, 0) :: t)) := by
  rw [← hi]
  exact s_iN (ok_b h) (by rw [(den_all t).2.2.2.1]; exact hl.1) (by omega)
theorem ds_j {i : Int32} {x : Int64} (hi : nI k = i) (h : okb t r 101 = true) (hl : k < lkl t r ∧ lkl t r < 100000) : s_j (den t) r i x = some (den ((2, r, k, 0, 0, x) :: t)) := by
  rw [← hi]
  have : s_j (den t) r (nI k) x = some (st_j (den t) r (nI k).toNatClampNeg x) := if_pos ⟨ok_b h, nI_pos (by omega), by rw [nI_clamp (by omega), (den_all t).2.2.2.1]; exact hl.1⟩
  rw [this, nI_clamp (by omega)]
  rfl
end
def T_0 : List Op := []
def T_1 : List Op := (0, 64, 10, 10, 0, 0) :: T_0
def T_2 : List Op := (0, 65, 100, 1000, 0, 0) :: T_1
def T_3 : List Op := (3, 64, 0, 65, 0, 0) :: T_2
def T_4 : List Op := (0, 66, 102, 8, 0, 0) :: T_3
def T_5 : List Op := (3, 64, 1, 66, 0, 0) :: T_4
def T_6 : List Op := (0, 67, 100, 5, 0, 0) :: T_5
def T_7 : List Op := (3, 64, 2, 67, 0, 0) :: T_6
def T_8 : List Op := (0, 68, 6, 11, 0, 0) :: T_7
def T_9 : List Op := (1, 68, 0, 0, 0, 0) :: T_8
def T_10 : List Op := (1, 68, 1, 0, -1, 0) :: T_9
def T_11 : List Op := (0, 69, 7, 9, 0, 0) :: T_10
def T_12 : List Op := (1, 69, 0, 0, 0, 0) :: T_11
def T_13 : List Op := (1, 69, 1, 0, -1, 0) :: T_12
def T_14 : List Op := (1, 69, 2, 0, 0, 0) :: T_13
def T_15 : List Op := (3, 69, 3, 0, 0, 0) :: T_14
def T_16 : List Op := (1, 69, 4, 0, 0, 0) :: T_15
def T_17 : List Op := (1, 69, 5, 0, 0, 0) :: T_16
def T_18 : List Op := (0, 70, 100, 1001, 0, 0) :: T_17
def T_19 : List Op := (3, 69, 6, 70, 0, 0) :: T_18
def T_20 : List Op := (1, 69, 7, 0, 0, 0) :: T_19
def T_21 : List Op := (1, 69, 8, 0, 0, 0) :: T_20
def T_22 : List Op := (3, 68, 2, 69, 0, 0) :: T_21
def T_23 : List Op := (0, 71, 100, 8, 0, 0) :: T_22
def T_24 : List Op := (3, 68, 3, 71, 0, 0) :: T_23
def T_25 : List Op := (3, 68, 4, 0, 0, 0) :: T_24
def T_26 : List Op := (3, 68, 5, 0, 0, 0) :: T_25
def T_27 : List Op := (1, 68, 6, 0, 0, 0) :: T_26
def T_28 : List Op := (1, 68, 7, 0, 0, 0) :: T_27
def T_29 : List Op := (1, 68, 8, 0, 0, 0) :: T_28
def T_30 : List Op := (1, 68, 9, 0, -1, 0) :: T_29
def T_31 : List Op := (1, 68, 10, 0, -1, 0) :: T_30
def T_32 : List Op := (3, 64, 3, 68, 0, 0) :: T_31
def T_33 : List Op := (0, 72, 4, 3, 0, 0) :: T_32
def T_34 : List Op := (1, 72, 0, 0, 0, 0) :: T_33
def T_35 : List Op := (0, 73, 100, 1000, 0, 0) :: T_34
def T_36 : List Op := (3, 72, 1, 73, 0, 0) :: T_35
def T_37 : List Op := (1, 72, 2, 0, 1, 0) :: T_36
def T_38 : List Op := (3, 64, 4, 72, 0, 0) :: T_37
def T_39 : List Op := (0, 74, 8, 13, 0, 0) :: T_38
def T_40 : List Op := (0, 75, 2, 9, 0, 0) :: T_39
def T_41 : List Op := (2, 75, 0, 0, 0, 0) :: T_40
def T_42 : List Op := (2, 75, 1, 0, 0, 0) :: T_41
def T_43 : List Op := (2, 75, 2, 0, 0, 0) :: T_42
def T_44 : List Op := (1, 75, 3, 0, 0, 0) :: T_43
def T_45 : List Op := (0, 76, 100, 8, 0, 0) :: T_44
def T_46 : List Op := (3, 75, 4, 76, 0, 0) :: T_45
def T_47 : List Op := (0, 77, 100, 2, 0, 0) :: T_46
def T_48 : List Op := (3, 75, 5, 77, 0, 0) :: T_47
def T_49 : List Op := (0, 78, 100, 4, 0, 0) :: T_48
def T_50 : List Op := (3, 75, 6, 78, 0, 0) :: T_49
def T_51 : List Op := (0, 79, 0, 18, 0, 0) :: T_50
def T_52 : List Op := (0, 80, 100, 64, 0, 0) :: T_51
def T_53 : List Op := (3, 79, 0, 80, 0, 0) :: T_52
def T_54 : List Op := (0, 81, 100, 64, 0, 0) :: T_53
def T_55 : List Op := (3, 79, 1, 81, 0, 0) :: T_54
def T_56 : List Op := (0, 82, 100, 64, 0, 0) :: T_55
def T_57 : List Op := (3, 79, 2, 82, 0, 0) :: T_56
def T_58 : List Op := (0, 83, 100, 64, 0, 0) :: T_57
def T_59 : List Op := (3, 79, 3, 83, 0, 0) :: T_58
def T_60 : List Op := (0, 84, 100, 64, 0, 0) :: T_59
def T_61 : List Op := (3, 79, 4, 84, 0, 0) :: T_60
def T_62 : List Op := (0, 85, 100, 64, 0, 0) :: T_61
def T_63 : List Op := (3, 79, 5, 85, 0, 0) :: T_62
def T_64 : List Op := (0, 86, 100, 64, 0, 0) :: T_63
def T_65 : List Op := (3, 79, 6, 86, 0, 0) :: T_64
def T_66 : List Op := (0, 87, 100, 4, 0, 0) :: T_65
def T_67 : List Op := (3, 79, 7, 87, 0, 0) :: T_66
def T_68 : List Op := (0, 88, 100, 8, 0, 0) :: T_67
def T_69 : List Op := (3, 79, 8, 88, 0, 0) :: T_68
def T_70 : List Op := (0, 89, 100, 8, 0, 0) :: T_69
def T_71 : List Op := (3, 79, 9, 89, 0, 0) :: T_70
def T_72 : List Op := (1, 79, 10, 0, 0, 0) :: T_71
def T_73 : List Op := (1, 79, 11, 0, 0, 0) :: T_72
def T_74 : List Op := (1, 79, 12, 0, 0, 0) :: T_73
def T_75 : List Op := (1, 79, 13, 0, 0, 0) :: T_74
def T_76 : List Op := (1, 79, 14, 0, 0, 0) :: T_75
def T_77 : List Op := (1, 79, 15, 0, 0, 0) :: T_76
def T_78 : List Op := (1, 79, 16, 0, -1, 0) :: T_77
def T_79 : List Op := (1, 79, 17, 0, -1, 0) :: T_78
def T_80 : List Op := (3, 75, 7, 79, 0, 0) :: T_79
def T_81 : List Op := (1, 75, 8, 0, 0, 0) :: T_80
def T_82 : List Op := (3, 74, 0, 75, 0, 0) :: T_81
def T_83 : List Op := (0, 90, 9, 6, 0, 0) :: T_82
def T_84 : List Op := (0, 91, 101, 256, 0, 0) :: T_83
def T_85 : List Op := (3, 90, 0, 91, 0, 0) :: T_84
def T_86 : List Op := (0, 92, 101, 256, 0, 0) :: T_85
def T_87 : List Op := (3, 90, 1, 92, 0, 0) :: T_86
def T_88 : List Op := (0, 93, 101, 256, 0, 0) :: T_87
def T_89 : List Op := (3, 90, 2, 93, 0, 0) :: T_88
def T_90 : List Op := (0, 94, 100, 256, 0, 0) :: T_89
def T_91 : List Op := (3, 90, 3, 94, 0, 0) :: T_90
def T_92 : List Op := (1, 90, 4, 0, 0, 0) :: T_91
def T_93 : List Op := (1, 90, 5, 0, 0, 0) :: T_92
def T_94 : List Op := (3, 74, 1, 90, 0, 0) :: T_93
def T_95 : List Op := (0, 95, 3, 2, 0, 0) :: T_94
def T_96 : List Op := (0, 96, 100, 64, 0, 0) :: T_95
def T_97 : List Op := (3, 95, 0, 96, 0, 0) :: T_96
def T_98 : List Op := (1, 95, 1, 0, 0, 0) :: T_97
def T_99 : List Op := (3, 74, 2, 95, 0, 0) :: T_98
def T_100 : List Op := (0, 97, 100, 17, 0, 0) :: T_99
def T_101 : List Op := (3, 74, 3, 97, 0, 0) :: T_100
def T_102 : List Op := (0, 98, 100, 17, 0, 0) :: T_101
def T_103 : List Op := (3, 74, 4, 98, 0, 0) :: T_102
def T_104 : List Op := (1, 74, 5, 0, 0, 0) :: T_103
def T_105 : List Op := (1, 74, 6, 0, 0, 0) :: T_104
def T_106 : List Op := (3, 74, 7, 0, 0, 0) :: T_105
def T_107 : List Op := (1, 74, 8, 0, 0, 0) :: T_106
def T_108 : List Op := (3, 74, 9, 0, 0, 0) :: T_107
def T_109 : List Op := (3, 74, 10, 0, 0, 0) :: T_108
def T_110 : List Op := (1, 74, 11, 0, 0, 0) :: T_109
def T_111 : List Op := (2, 74, 12, 0, 0, 0) :: T_110
def T_112 : List Op := (3, 64, 5, 74, 0, 0) :: T_111
def T_113 : List Op := (0, 99, 1, 2, 0, 0) :: T_112
def T_114 : List Op := (0, 100, 100, 16, 0, 0) :: T_113
def T_115 : List Op := (3, 99, 0, 100, 0, 0) :: T_114
def T_116 : List Op := (0, 101, 100, 16, 0, 0) :: T_115
def T_117 : List Op := (3, 99, 1, 101, 0, 0) :: T_116
def T_118 : List Op := (3, 64, 6, 99, 0, 0) :: T_117
def T_119 : List Op := (1, 64, 7, 0, 0, 0) :: T_118
def T_120 : List Op := (1, 64, 8, 0, 0, 0) :: T_119
def T_121 : List Op := (1, 64, 9, 0, -1, 0) :: T_120
def T_122 : List Op := (1, 67, 0, 0, -1, 0) :: T_121
def T_123 : List Op := (1, 67, 1, 0, -1, 0) :: T_122
def T_124 : List Op := (1, 67, 2, 0, -1, 0) :: T_123
def T_125 : List Op := (1, 67, 3, 0, -1, 0) :: T_124
def T_126 : List Op := (1, 67, 4, 0, -1, 0) :: T_125
def T_127 : List Op := (0, 102, 11, 47, 0, 0) :: T_126
def T_128 : List Op := (0, 103, 100, 1000, 0, 0) :: T_127
def T_129 : List Op := (3, 102, 1, 103, 0, 0) :: T_128
def T_130 : List Op := (0, 104, 100, 2400, 0, 0) :: T_129
def T_131 : List Op := (3, 102, 2, 104, 0, 0) :: T_130
def T_132 : List Op := (0, 105, 101, 9, 0, 0) :: T_131
def T_133 : List Op := (2, 105, 0, 0, 0, 482854660462) :: T_132
def T_134 : List Op := (2, 105, 1, 0, 0, 8534158984711072869) :: T_133
def T_135 : List Op := (2, 105, 2, 0, 0, 439855505772) :: T_134
def T_136 : List Op := (2, 105, 3, 0, 0, 127991944667492) :: T_135
def T_137 : List Op := (2, 105, 4, 0, 0, 1819239275) :: T_136
def T_138 : List Op := (2, 105, 5, 0, 0, 129117126091627) :: T_137
def T_139 : List Op := (2, 105, 6, 0, 0, 1685024357) :: T_138
def T_140 : List Op := (2, 105, 7, 0, 0, 26982) :: T_139
def T_141 : List Op := (2, 105, 8, 0, 0, 1701606245) :: T_140
def T_142 : List Op := (3, 102, 8, 105, 0, 0) :: T_141
def T_143 : List Op := (0, 106, 100, 7200, 0, 0) :: T_142
def T_144 : List Op := (3, 102, 9, 106, 0, 0) :: T_143
def T_145 : List Op := (0, 107, 100, 900, 0, 0) :: T_144
def T_146 : List Op := (3, 102, 10, 107, 0, 0) :: T_145
def T_147 : List Op := (1, 102, 14, 0, -1, 0) :: T_146
def T_148 : List Op := (0, 108, 100, 5, 0, 0) :: T_147
def T_149 : List Op := (3, 102, 16, 108, 0, 0) :: T_148
def T_150 : List Op := (0, 109, 100, 2840, 0, 0) :: T_149
def T_151 : List Op := (3, 102, 25, 109, 0, 0) :: T_150
def T_152 : List Op := (0, 110, 100, 51200, 0, 0) :: T_151
def T_153 : List Op := (3, 102, 29, 110, 0, 0) :: T_152
def T_154 : List Op := (0, 111, 100, 25, 0, 0) :: T_153
def T_155 : List Op := (1, 111, 0, 0, -1, 0) :: T_154
def T_156 : List Op := (1, 111, 1, 0, -1, 0) :: T_155
def T_157 : List Op := (1, 111, 2, 0, -1, 0) :: T_156
def T_158 : List Op := (1, 111, 3, 0, -1, 0) :: T_157
def T_159 : List Op := (1, 111, 4, 0, -1, 0) :: T_158
def T_160 : List Op := (1, 111, 5, 0, -1, 0) :: T_159
def T_161 : List Op := (1, 111, 6, 0, -1, 0) :: T_160
def T_162 : List Op := (1, 111, 7, 0, -1, 0) :: T_161
def T_163 : List Op := (1, 111, 8, 0, -1, 0) :: T_162
def T_164 : List Op := (1, 111, 9, 0, -1, 0) :: T_163
def T_165 : List Op := (1, 111, 10, 0, -1, 0) :: T_164
def T_166 : List Op := (1, 111, 11, 0, -1, 0) :: T_165
def T_167 : List Op := (1, 111, 12, 0, -1, 0) :: T_166
def T_168 : List Op := (1, 111, 13, 0, -1, 0) :: T_167
def T_169 : List Op := (1, 111, 14, 0, -1, 0) :: T_168
def T_170 : List Op := (1, 111, 15, 0, -1, 0) :: T_169
def T_171 : List Op := (1, 111, 16, 0, -1, 0) :: T_170
def T_172 : List Op := (1, 111, 17, 0, -1, 0) :: T_171
def T_173 : List Op := (1, 111, 18, 0, -1, 0) :: T_172
def T_174 : List Op := (1, 111, 19, 0, -1, 0) :: T_173
def T_175 : List Op := (1, 111, 20, 0, -1, 0) :: T_174
def T_176 : List Op := (1, 111, 21, 0, -1, 0) :: T_175
def T_177 : List Op := (1, 111, 22, 0, -1, 0) :: T_176
def T_178 : List Op := (1, 111, 23, 0, -1, 0) :: T_177
def T_179 : List Op := (1, 111, 24, 0, -1, 0) :: T_178
def T_180 : List Op := (3, 102, 30, 111, 0, 0) :: T_179
def T_181 : List Op := (0, 112, 100, 5, 0, 0) :: T_180
def T_182 : List Op := (1, 112, 0, 0, -1, 0) :: T_181
def T_183 : List Op := (1, 112, 1, 0, -1, 0) :: T_182
def T_184 : List Op := (1, 112, 2, 0, -1, 0) :: T_183
def T_185 : List Op := (1, 112, 3, 0, -1, 0) :: T_184
def T_186 : List Op := (1, 112, 4, 0, -1, 0) :: T_185
def T_187 : List Op := (3, 102, 32, 112, 0, 0) :: T_186
def T_188 : List Op := (0, 113, 100, 8, 0, 0) :: T_187
def T_189 : List Op := (3, 102, 33, 113, 0, 0) :: T_188
def T_190 : List Op := (0, 114, 100, 8, 0, 0) :: T_189
def T_191 : List Op := (3, 102, 34, 114, 0, 0) :: T_190
def T_192 : List Op := (0, 115, 100, 8, 0, 0) :: T_191
def T_193 : List Op := (1, 115, 0, 0, -1, 0) :: T_192
def T_194 : List Op := (1, 115, 1, 0, -1, 0) :: T_193
def T_195 : List Op := (1, 115, 2, 0, -1, 0) :: T_194
def T_196 : List Op := (1, 115, 3, 0, -1, 0) :: T_195
def T_197 : List Op := (1, 115, 4, 0, -1, 0) :: T_196
def T_198 : List Op := (1, 115, 5, 0, -1, 0) :: T_197
def T_199 : List Op := (1, 115, 6, 0, -1, 0) :: T_198
def T_200 : List Op := (1, 115, 7, 0, -1, 0) :: T_199
def T_201 : List Op := (3, 102, 37, 115, 0, 0) :: T_200
def T_202 : List Op := (0, 116, 100, 512, 0, 0) :: T_201
def T_203 : List Op := (3, 102, 38, 116, 0, 0) :: T_202
def T_204 : List Op := (0, 117, 100, 64, 0, 0) :: T_203
def T_205 : List Op := (3, 102, 39, 117, 0, 0) :: T_204
def T_206 : List Op := (0, 118, 100, 8, 0, 0) :: T_205
def T_207 : List Op := (3, 102, 40, 118, 0, 0) :: T_206
def T_208 : List Op := (0, 119, 100, 512, 0, 0) :: T_207
def T_209 : List Op := (3, 102, 41, 119, 0, 0) :: T_208
def T_210 : List Op := (0, 120, 100, 800, 0, 0) :: T_209
def T_211 : List Op := (3, 102, 42, 120, 0, 0) :: T_210
def T_212 : List Op := (0, 121, 100, 800, 0, 0) :: T_211
def T_213 : List Op := (3, 102, 43, 121, 0, 0) :: T_212
def T_214 : List Op := (0, 122, 100, 4, 0, 0) :: T_213
def T_215 : List Op := (3, 102, 44, 122, 0, 0) :: T_214
def T_216 : List Op := (0, 123, 100, 4, 0, 0) :: T_215
def T_217 : List Op := (3, 102, 45, 123, 0, 0) :: T_216
def T_218 : List Op := (0, 124, 100, 4, 0, 0) :: T_217
def T_219 : List Op := (3, 102, 46, 124, 0, 0) :: T_218
def T_220 : List Op := (0, 125, 101, 1, 0, 0) :: T_219
theorem in_11 : f_X7_init 69 (den T_11) = some (den T_21) := by
  unfold f_X7_init b_X7_init_0
  rw [show ok_h 69 = some () from if_pos (by decide), Option.bind_some]
  rw [show p_i (den T_11) 69 7 0 (0 : Int32) = some (den T_12) from dp_i (by decide), Option.bind_some]
  rw [show p_i (den T_12) 69 7 1 (-1 : Int32) = some (den T_13) from dp_i (by decide), Option.bind_some]
  rw [show p_i (den T_13) 69 7 2 (0 : Int32) = some (den T_14) from dp_i (by decide), Option.bind_some]
  rw [show p_r (den T_14) 69 7 3 0 = some (den T_15) from (congrArg (p_r (den T_14) 69 7 3) (show (0 : Nat) = 0 from rfl)).trans (dp_r (by decide)), Option.bind_some]
  rw [show p_i (den T_15) 69 7 4 (0 : Int32) = some (den T_16) from dp_i (by decide), Option.bind_some]
  rw [show p_i (den T_16) 69 7 5 (0 : Int32) = some (den T_17) from dp_i (by decide), Option.bind_some]
  rw [show n_a (den T_17) 100 (1001 : Int32) = some (den T_18) from dn_n (l := 1001) rfl (by decide) (by decide), Option.bind_some]
  rw [show p_r (den T_18) 69 7 6 (hp_n (den T_17)) = some (den T_19) from (congrArg (p_r (den T_18) 69 7 6) (show ((hp_n (den T_17)) : Nat) = 70 from lkn_e.trans (by decide))).trans (dp_r (by decide)), Option.bind_some]
  rw [show p_i (den T_19) 69 7 7 (0 : Int32) = some (den T_20) from dp_i (by decide), Option.bind_some]
  rw [show p_i (den T_20) 69 7 8 (0 : Int32) = some (den T_21) from dp_i (by decide), Option.bind_some]
theorem in_8 : f_X6_init 68 (den T_8) = some (den T_31) := by
  unfold f_X6_init b_X6_init_0
  rw [show ok_h 68 = some () from if_pos (by decide), Option.bind_some]
  rw [show p_i (den T_8) 68 6 0 (0 : Int32) = some (den T_9) from dp_i (by decide), Option.bind_some]
  rw [show p_i (den T_9) 68 6 1 (-1 : Int32) = some (den T_10) from dp_i (by decide), Option.bind_some]
  rw [show ok_h (hp_n (den T_10)) = some () from if_pos (by decide), Option.bind_some]
  rw [show f_X7_init (hp_n (den T_10)) (st_n (den T_10) 7 9) = some (den T_21) from by rw [show hp_n (den T_10) = 69 from lkn_e.trans (by decide), show st_n (den T_10) 7 9 = den T_11 from den_n (by decide)]; exact in_11, Option.bind_some]
  rw [show p_r (den T_21) 68 6 2 (hp_n (den T_10)) = some (den T_22) from (congrArg (p_r (den T_21) 68 6 2) (show ((hp_n (den T_10)) : Nat) = 69 from lkn_e.trans (by decide))).trans (dp_r (by decide)), Option.bind_some]
  rw [show n_a (den T_22) 100 (8 : Int32) = some (den T_23) from dn_n (l := 8) rfl (by decide) (by decide), Option.bind_some]
  rw [show p_r (den T_23) 68 6 3 (hp_n (den T_22)) = some (den T_24) from (congrArg (p_r (den T_23) 68 6 3) (show ((hp_n (den T_22)) : Nat) = 71 from lkn_e.trans (by decide))).trans (dp_r (by decide)), Option.bind_some]
  rw [show p_r (den T_24) 68 6 4 0 = some (den T_25) from (congrArg (p_r (den T_24) 68 6 4) (show (0 : Nat) = 0 from rfl)).trans (dp_r (by decide)), Option.bind_some]
  rw [show p_r (den T_25) 68 6 5 0 = some (den T_26) from (congrArg (p_r (den T_25) 68 6 5) (show (0 : Nat) = 0 from rfl)).trans (dp_r (by decide)), Option.bind_some]
  rw [show p_i (den T_26) 68 6 6 (0 : Int32) = some (den T_27) from dp_i (by decide), Option.bind_some]
  rw [show p_i (den T_27) 68 6 7 (0 : Int32) = some (den T_28) from dp_i (by decide), Option.bind_some]
  rw [show p_i (den T_28) 68 6 8 (0 : Int32) = some (den T_29) from dp_i (by decide), Option.bind_some]
  rw [show p_i (den T_29) 68 6 9 (-1 : Int32) = some (den T_30) from dp_i (by decide), Option.bind_some]
  rw [show p_i (den T_30) 68 6 10 (-1 : Int32) = some (den T_31) from dp_i (by decide), Option.bind_some]
theorem in_33 : f_X4_init 72 (den T_33) = some (den T_37) := by
  unfold f_X4_init b_X4_init_0
  rw [show ok_h 72 = some () from if_pos (by decide), Option.bind_some]
  rw [show p_i (den T_33) 72 4 0 (0 : Int32) = some (den T_34) from dp_i (by decide), Option.bind_some]
  rw [show n_a (den T_34) 100 (1000 : Int32) = some (den T_35) from dn_n (l := 1000) rfl (by decide) (by decide), Option.bind_some]
  rw [show p_r (den T_35) 72 4 1 (hp_n (den T_34)) = some (den T_36) from (congrArg (p_r (den T_35) 72 4 1) (show ((hp_n (den T_34)) : Nat) = 73 from lkn_e.trans (by decide))).trans (dp_r (by decide)), Option.bind_some]
  rw [show p_z (den T_36) 72 4 2 (1 : Int32) = some (den T_37) from dp_z (by decide) (by decide), Option.bind_some]
theorem in_51 : f_X0_init 79 (den T_51) = some (den T_79) := by
  unfold f_X0_init b_X0_init_0
  rw [show ok_h 79 = some () from if_pos (by decide), Option.bind_some]
  rw [show n_a (den T_51) 100 (64 : Int32) = some (den T_52) from dn_n (l := 64) rfl (by decide) (by decide), Option.bind_some]
  rw [show p_r (den T_52) 79 0 0 (hp_n (den T_51)) = some (den T_53) from (congrArg (p_r (den T_52) 79 0 0) (show ((hp_n (den T_51)) : Nat) = 80 from lkn_e.trans (by decide))).trans (dp_r (by decide)), Option.bind_some]
  rw [show n_a (den T_53) 100 (64 : Int32) = some (den T_54) from dn_n (l := 64) rfl (by decide) (by decide), Option.bind_some]
  rw [show p_r (den T_54) 79 0 1 (hp_n (den T_53)) = some (den T_55) from (congrArg (p_r (den T_54) 79 0 1) (show ((hp_n (den T_53)) : Nat) = 81 from lkn_e.trans (by decide))).trans (dp_r (by decide)), Option.bind_some]
  rw [show n_a (den T_55) 100 (64 : Int32) = some (den T_56) from dn_n (l := 64) rfl (by decide) (by decide), Option.bind_some]
  rw [show p_r (den T_56) 79 0 2 (hp_n (den T_55)) = some (den T_57) from (congrArg (p_r (den T_56) 79 0 2) (show ((hp_n (den T_55)) : Nat) = 82 from lkn_e.trans (by decide))).trans (dp_r (by decide)), Option.bind_some]
  rw [show n_a (den T_57) 100 (64 : Int32) = some (den T_58) from dn_n (l := 64) rfl (by decide) (by decide), Option.bind_some]
  rw [show p_r (den T_58) 79 0 3 (hp_n (den T_57)) = some (den T_59) from (congrArg (p_r (den T_58) 79 0 3) (show ((hp_n (den T_57)) : Nat) = 83 from lkn_e.trans (by decide))).trans (dp_r (by decide)), Option.bind_some]
  rw [show n_a (den T_59) 100 (64 : Int32) = some (den T_60) from dn_n (l := 64) rfl (by decide) (by decide), Option.bind_some]
  rw [show p_r (den T_60) 79 0 4 (hp_n (den T_59)) = some (den T_61) from (congrArg (p_r (den T_60) 79 0 4) (show ((hp_n (den T_59)) : Nat) = 84 from lkn_e.trans (by decide))).trans (dp_r (by decide)), Option.bind_some]
  rw [show n_a (den T_61) 100 (64 : Int32) = some (den T_62) from dn_n (l := 64) rfl (by decide) (by decide), Option.bind_some]
  rw [show p_r (den T_62) 79 0 5 (hp_n (den T_61)) = some (den T_63) from (congrArg (p_r (den T_62) 79 0 5) (show ((hp_n (den T_61)) : Nat) = 85 from lkn_e.trans (by decide))).trans (dp_r (by decide)), Option.bind_some]
  rw [show n_a (den T_63) 100 (64 : Int32) = some (den T_64) from dn_n (l := 64) rfl (by decide) (by decide), Option.bind_some]
  rw [show p_r (den T_64) 79 0 6 (hp_n (den T_63)) = some (den T_65) from (congrArg (p_r (den T_64) 79 0 6) (show ((hp_n (den T_63)) : Nat) = 86 from lkn_e.trans (by decide))).trans (dp_r (by decide)), Option.bind_some]
  rw [show n_a (den T_65) 100 (4 : Int32) = some (den T_66) from dn_n (l := 4) rfl (by decide) (by decide), Option.bind_some]
  rw [show p_r (den T_66) 79 0 7 (hp_n (den T_65)) = some (den T_67) from (congrArg (p_r (den T_66) 79 0 7) (show ((hp_n (den T_65)) : Nat) = 87 from lkn_e.trans (by decide))).trans (dp_r (by decide)), Option.bind_some]
  rw [show n_a (den T_67) 100 (8 : Int32) = some (den T_68) from dn_n (l := 8) rfl (by decide) (by decide), Option.bind_some]
  rw [show p_r (den T_68) 79 0 8 (hp_n (den T_67)) = some (den T_69) from (congrArg (p_r (den T_68) 79 0 8) (show ((hp_n (den T_67)) : Nat) = 88 from lkn_e.trans (by decide))).trans (dp_r (by decide)), Option.bind_some]
  rw [show n_a (den T_69) 100 (8 : Int32) = some (den T_70) from dn_n (l := 8) rfl (by decide) (by decide), Option.bind_some]
  rw [show p_r (den T_70) 79 0 9 (hp_n (den T_69)) = some (den T_71) from (congrArg (p_r (den T_70) 79 0 9) (show ((hp_n (den T_69)) : Nat) = 89 from lkn_e.trans (by decide))).trans (dp_r (by decide)), Option.bind_some]
  rw [show p_i (den T_71) 79 0 10 (0 : Int32) = some (den T_72) from dp_i (by decide), Option.bind_some]
  rw [show p_i (den T_72) 79 0 11 (0 : Int32) = some (den T_73) from dp_i (by decide), Option.bind_some]
  rw [show p_i (den T_73) 79 0 12 (0 : Int32) = some (den T_74) from dp_i (by decide), Option.bind_some]
  rw [show p_i (den T_74) 79 0 13 (0 : Int32) = some (den T_75) from dp_i (by decide), Option.bind_some]
  rw [show p_i (den T_75) 79 0 14 (0 : Int32) = some (den T_76) from dp_i (by decide), Option.bind_some]
  rw [show p_i (den T_76) 79 0 15 (0 : Int32) = some (den T_77) from dp_i (by decide), Option.bind_some]
  rw [show p_i (den T_77) 79 0 16 (-1 : Int32) = some (den T_78) from dp_i (by decide), Option.bind_some]
  rw [show p_i (den T_78) 79 0 17 (-1 : Int32) = some (den T_79) from dp_i (by decide), Option.bind_some]
theorem in_40 : f_X2_init 75 (den T_40) = some (den T_81) := by
  unfold f_X2_init b_X2_init_0
  rw [show ok_h 75 = some () from if_pos (by decide), Option.bind_some]
  rw [show p_j (den T_40) 75 2 0 (0 : Int64) = some (den T_41) from dp_j (by decide), Option.bind_some]
  rw [show p_j (den T_41) 75 2 1 (0 : Int64) = some (den T_42) from dp_j (by decide), Option.bind_some]
  rw [show p_j (den T_42) 75 2 2 (0 : Int64) = some (den T_43) from dp_j (by decide), Option.bind_some]
  rw [show p_i (den T_43) 75 2 3 (0 : Int32) = some (den T_44) from dp_i (by decide), Option.bind_some]
  rw [show n_a (den T_44) 100 (8 : Int32) = some (den T_45) from dn_n (l := 8) rfl (by decide) (by decide), Option.bind_some]
  rw [show p_r (den T_45) 75 2 4 (hp_n (den T_44)) = some (den T_46) from (congrArg (p_r (den T_45) 75 2 4) (show ((hp_n (den T_44)) : Nat) = 76 from lkn_e.trans (by decide))).trans (dp_r (by decide)), Option.bind_some]
  rw [show n_a (den T_46) 100 (2 : Int32) = some (den T_47) from dn_n (l := 2) rfl (by decide) (by decide), Option.bind_some]
  rw [show p_r (den T_47) 75 2 5 (hp_n (den T_46)) = some (den T_48) from (congrArg (p_r (den T_47) 75 2 5) (show ((hp_n (den T_46)) : Nat) = 77 from lkn_e.trans (by decide))).trans (dp_r (by decide)), Option.bind_some]
  rw [show n_a (den T_48) 100 (4 : Int32) = some (den T_49) from dn_n (l := 4) rfl (by decide) (by decide), Option.bind_some]
  rw [show p_r (den T_49) 75 2 6 (hp_n (den T_48)) = some (den T_50) from (congrArg (p_r (den T_49) 75 2 6) (show ((hp_n (den T_48)) : Nat) = 78 from lkn_e.trans (by decide))).trans (dp_r (by decide)), Option.bind_some]
  rw [show ok_h (hp_n (den T_50)) = some () from if_pos (by decide), Option.bind_some]
  rw [show f_X0_init (hp_n (den T_50)) (st_n (den T_50) 0 18) = some (den T_79) from by rw [show hp_n (den T_50) = 79 from lkn_e.trans (by decide), show st_n (den T_50) 0 18 = den T_51 from den_n (by decide)]; exact in_51, Option.bind_some]
  rw [show p_r (den T_79) 75 2 7 (hp_n (den T_50)) = some (den T_80) from (congrArg (p_r (den T_79) 75 2 7) (show ((hp_n (den T_50)) : Nat) = 79 from lkn_e.trans (by decide))).trans (dp_r (by decide)), Option.bind_some]
  rw [show p_i (den T_80) 75 2 8 (0 : Int32) = some (den T_81) from dp_i (by decide), Option.bind_some]
theorem in_83 : f_X9_init 90 (den T_83) = some (den T_93) := by
  unfold f_X9_init b_X9_init_0
  rw [show ok_h 90 = some () from if_pos (by decide), Option.bind_some]
  rw [show n_a (den T_83) 101 (256 : Int32) = some (den T_84) from dn_n (l := 256) rfl (by decide) (by decide), Option.bind_some]
  rw [show p_r (den T_84) 90 9 0 (hp_n (den T_83)) = some (den T_85) from (congrArg (p_r (den T_84) 90 9 0) (show ((hp_n (den T_83)) : Nat) = 91 from lkn_e.trans (by decide))).trans (dp_r (by decide)), Option.bind_some]
  rw [show n_a (den T_85) 101 (256 : Int32) = some (den T_86) from dn_n (l := 256) rfl (by decide) (by decide), Option.bind_some]
  rw [show p_r (den T_86) 90 9 1 (hp_n (den T_85)) = some (den T_87) from (congrArg (p_r (den T_86) 90 9 1) (show ((hp_n (den T_85)) : Nat) = 92 from lkn_e.trans (by decide))).trans (dp_r (by decide)), Option.bind_some]
  rw [show n_a (den T_87) 101 (256 : Int32) = some (den T_88) from dn_n (l := 256) rfl (by decide) (by decide), Option.bind_some]
  rw [show p_r (den T_88) 90 9 2 (hp_n (den T_87)) = some (den T_89) from (congrArg (p_r (den T_88) 90 9 2) (show ((hp_n (den T_87)) : Nat) = 93 from lkn_e.trans (by decide))).trans (dp_r (by decide)), Option.bind_some]
  rw [show n_a (den T_89) 100 (256 : Int32) = some (den T_90) from dn_n (l := 256) rfl (by decide) (by decide), Option.bind_some]
  rw [show p_r (den T_90) 90 9 3 (hp_n (den T_89)) = some (den T_91) from (congrArg (p_r (den T_90) 90 9 3) (show ((hp_n (den T_89)) : Nat) = 94 from lkn_e.trans (by decide))).trans (dp_r (by decide)), Option.bind_some]
  rw [show p_i (den T_91) 90 9 4 (0 : Int32) = some (den T_92) from dp_i (by decide), Option.bind_some]
  rw [show p_i (den T_92) 90 9 5 (0 : Int32) = some (den T_93) from dp_i (by decide), Option.bind_some]
theorem in_95 : f_X3_init 95 (den T_95) = some (den T_98) := by
  unfold f_X3_init b_X3_init_0
  rw [show ok_h 95 = some () from if_pos (by decide), Option.bind_some]
  rw [show n_a (den T_95) 100 (64 : Int32) = some (den T_96) from dn_n (l := 64) rfl (by decide) (by decide), Option.bind_some]
  rw [show p_r (den T_96) 95 3 0 (hp_n (den T_95)) = some (den T_97) from (congrArg (p_r (den T_96) 95 3 0) (show ((hp_n (den T_95)) : Nat) = 96 from lkn_e.trans (by decide))).trans (dp_r (by decide)), Option.bind_some]
  rw [show p_i (den T_97) 95 3 1 (0 : Int32) = some (den T_98) from dp_i (by decide), Option.bind_some]
theorem in_39 : f_X8_init 74 (den T_39) = some (den T_111) := by
  unfold f_X8_init b_X8_init_0
  rw [show ok_h 74 = some () from if_pos (by decide), Option.bind_some]
  rw [show ok_h (hp_n (den T_39)) = some () from if_pos (by decide), Option.bind_some]
  rw [show f_X2_init (hp_n (den T_39)) (st_n (den T_39) 2 9) = some (den T_81) from by rw [show hp_n (den T_39) = 75 from lkn_e.trans (by decide), show st_n (den T_39) 2 9 = den T_40 from den_n (by decide)]; exact in_40, Option.bind_some]
  rw [show p_r (den T_81) 74 8 0 (hp_n (den T_39)) = some (den T_82) from (congrArg (p_r (den T_81) 74 8 0) (show ((hp_n (den T_39)) : Nat) = 75 from lkn_e.trans (by decide))).trans (dp_r (by decide)), Option.bind_some]
  rw [show ok_h (hp_n (den T_82)) = some () from if_pos (by decide), Option.bind_some]
  rw [show f_X9_init (hp_n (den T_82)) (st_n (den T_82) 9 6) = some (den T_93) from by rw [show hp_n (den T_82) = 90 from lkn_e.trans (by decide), show st_n (den T_82) 9 6 = den T_83 from den_n (by decide)]; exact in_83, Option.bind_some]
  rw [show p_r (den T_93) 74 8 1 (hp_n (den T_82)) = some (den T_94) from (congrArg (p_r (den T_93) 74 8 1) (show ((hp_n (den T_82)) : Nat) = 90 from lkn_e.trans (by decide))).trans (dp_r (by decide)), Option.bind_some]
  rw [show ok_h (hp_n (den T_94)) = some () from if_pos (by decide), Option.bind_some]
  rw [show f_X3_init (hp_n (den T_94)) (st_n (den T_94) 3 2) = some (den T_98) from by rw [show hp_n (den T_94) = 95 from lkn_e.trans (by decide), show st_n (den T_94) 3 2 = den T_95 from den_n (by decide)]; exact in_95, Option.bind_some]
  rw [show p_r (den T_98) 74 8 2 (hp_n (den T_94)) = some (den T_99) from (congrArg (p_r (den T_98) 74 8 2) (show ((hp_n (den T_94)) : Nat) = 95 from lkn_e.trans (by decide))).trans (dp_r (by decide)), Option.bind_some]
  rw [show n_a (den T_99) 100 (17 : Int32) = some (den T_100) from dn_n (l := 17) rfl (by decide) (by decide), Option.bind_some]
  rw [show p_r (den T_100) 74 8 3 (hp_n (den T_99)) = some (den T_101) from (congrArg (p_r (den T_100) 74 8 3) (show ((hp_n (den T_99)) : Nat) = 97 from lkn_e.trans (by decide))).trans (dp_r (by decide)), Option.bind_some]
  rw [show n_a (den T_101) 100 (17 : Int32) = some (den T_102) from dn_n (l := 17) rfl (by decide) (by decide), Option.bind_some]
  rw [show p_r (den T_102) 74 8 4 (hp_n (den T_101)) = some (den T_103) from (congrArg (p_r (den T_102) 74 8 4) (show ((hp_n (den T_101)) : Nat) = 98 from lkn_e.trans (by decide))).trans (dp_r (by decide)), Option.bind_some]
  rw [show p_i (den T_103) 74 8 5 (0 : Int32) = some (den T_104) from dp_i (by decide), Option.bind_some]
  rw [show p_i (den T_104) 74 8 6 (0 : Int32) = some (den T_105) from dp_i (by decide), Option.bind_some]
  rw [show p_r (den T_105) 74 8 7 0 = some (den T_106) from (congrArg (p_r (den T_105) 74 8 7) (show (0 : Nat) = 0 from rfl)).trans (dp_r (by decide)), Option.bind_some]
  rw [show p_i (den T_106) 74 8 8 (0 : Int32) = some (den T_107) from dp_i (by decide), Option.bind_some]
  rw [show p_r (den T_107) 74 8 9 0 = some (den T_108) from (congrArg (p_r (den T_107) 74 8 9) (show (0 : Nat) = 0 from rfl)).trans (dp_r (by decide)), Option.bind_some]
  rw [show p_r (den T_108) 74 8 10 0 = some (den T_109) from (congrArg (p_r (den T_108) 74 8 10) (show (0 : Nat) = 0 from rfl)).trans (dp_r (by decide)), Option.bind_some]
  rw [show p_z (den T_109) 74 8 11 (0 : Int32) = some (den T_110) from dp_z (by decide) (by decide), Option.bind_some]
  rw [show p_j (den T_110) 74 8 12 (0 : Int64) = some (den T_111) from dp_j (by decide), Option.bind_some]
theorem in_113 : f_X1_init 99 (den T_113) = some (den T_117) := by
  unfold f_X1_init b_X1_init_0
  rw [show ok_h 99 = some () from if_pos (by decide), Option.bind_some]
  rw [show n_a (den T_113) 100 (16 : Int32) = some (den T_114) from dn_n (l := 16) rfl (by decide) (by decide), Option.bind_some]
  rw [show p_r (den T_114) 99 1 0 (hp_n (den T_113)) = some (den T_115) from (congrArg (p_r (den T_114) 99 1 0) (show ((hp_n (den T_113)) : Nat) = 100 from lkn_e.trans (by decide))).trans (dp_r (by decide)), Option.bind_some]
  rw [show n_a (den T_115) 100 (16 : Int32) = some (den T_116) from dn_n (l := 16) rfl (by decide) (by decide), Option.bind_some]
  rw [show p_r (den T_116) 99 1 1 (hp_n (den T_115)) = some (den T_117) from (congrArg (p_r (den T_116) 99 1 1) (show ((hp_n (den T_115)) : Nat) = 101 from lkn_e.trans (by decide))).trans (dp_r (by decide)), Option.bind_some]
theorem fill_121 : f_J7_fill_53178 67 (-1 : Int32) (den T_121) = some (den T_126) := by
  unfold f_J7_fill_53178 b_J7_fill_53178_0
  rw [show al_n (den T_121) 67 = some (nI 5) from al_r (ok_b (by decide)) (by rw [(den_all _).2.2.2.1]; decide), Option.bind_some]
  obtain ⟨f, hf⟩ : ∃ f, fu_ = f + 1 + 1 + 1 + 1 + 1 + 1  := ⟨199994, rfl⟩
  rw [hf]
  show b_J7_fill_53178_5 (l_J7_fill_53178_5 (f + 1 + 1 + 1 + 1 + 1 )) 67 (-1) (nI 0) (nI 5) (den T_121) = _
  unfold b_J7_fill_53178_5
  rw [if_neg (by decide)]
  unfold b_J7_fill_53178_10
  rw [show s_i (den T_121) 67 (nI 0) (-1 : Int32) = some (den T_122) from ds_i (k := 0) rfl (by decide) (by decide), Option.bind_some, da]
  show b_J7_fill_53178_5 (l_J7_fill_53178_5 (f + 1 + 1 + 1 + 1 )) 67 (-1) (nI 1) (nI 5) (den T_122) = _
  unfold b_J7_fill_53178_5
  rw [if_neg (by decide)]
  unfold b_J7_fill_53178_10
  rw [show s_i (den T_122) 67 (nI 1) (-1 : Int32) = some (den T_123) from ds_i (k := 1) rfl (by decide) (by decide), Option.bind_some, da]
  show b_J7_fill_53178_5 (l_J7_fill_53178_5 (f + 1 + 1 + 1 )) 67 (-1) (nI 2) (nI 5) (den T_123) = _
  unfold b_J7_fill_53178_5
  rw [if_neg (by decide)]
  unfold b_J7_fill_53178_10
  rw [show s_i (den T_123) 67 (nI 2) (-1 : Int32) = some (den T_124) from ds_i (k := 2) rfl (by decide) (by decide), Option.bind_some, da]
  show b_J7_fill_53178_5 (l_J7_fill_53178_5 (f + 1 + 1 )) 67 (-1) (nI 3) (nI 5) (den T_124) = _
  unfold b_J7_fill_53178_5
  rw [if_neg (by decide)]
  unfold b_J7_fill_53178_10
  rw [show s_i (den T_124) 67 (nI 3) (-1 : Int32) = some (den T_125) from ds_i (k := 3) rfl (by decide) (by decide), Option.bind_some, da]
  show b_J7_fill_53178_5 (l_J7_fill_53178_5 (f + 1 )) 67 (-1) (nI 4) (nI 5) (den T_125) = _
  unfold b_J7_fill_53178_5
  rw [if_neg (by decide)]
  unfold b_J7_fill_53178_10
  rw [show s_i (den T_125) 67 (nI 4) (-1 : Int32) = some (den T_126) from ds_i (k := 4) rfl (by decide) (by decide), Option.bind_some, da]
  show b_J7_fill_53178_5 (l_J7_fill_53178_5 f) 67 (-1) (nI 5) (nI 5) (den T_126) = _
  unfold b_J7_fill_53178_5
  rw [if_pos (by decide)]
  rfl
theorem in_1 : f_X10_init 64 (den T_1) = some (den T_126) := by
  unfold f_X10_init b_X10_init_0
  rw [show ok_h 64 = some () from if_pos (by decide), Option.bind_some]
  rw [show n_a (den T_1) 100 (1000 : Int32) = some (den T_2) from dn_n (l := 1000) rfl (by decide) (by decide), Option.bind_some]
  rw [show p_r (den T_2) 64 10 0 (hp_n (den T_1)) = some (den T_3) from (congrArg (p_r (den T_2) 64 10 0) (show ((hp_n (den T_1)) : Nat) = 65 from lkn_e.trans (by decide))).trans (dp_r (by decide)), Option.bind_some]
  rw [show n_a (den T_3) 102 (8 : Int32) = some (den T_4) from dn_n (l := 8) rfl (by decide) (by decide), Option.bind_some]
  rw [show p_r (den T_4) 64 10 1 (hp_n (den T_3)) = some (den T_5) from (congrArg (p_r (den T_4) 64 10 1) (show ((hp_n (den T_3)) : Nat) = 66 from lkn_e.trans (by decide))).trans (dp_r (by decide)), Option.bind_some]
  rw [show n_a (den T_5) 100 (5 : Int32) = some (den T_6) from dn_n (l := 5) rfl (by decide) (by decide), Option.bind_some]
  rw [show p_r (den T_6) 64 10 2 (hp_n (den T_5)) = some (den T_7) from (congrArg (p_r (den T_6) 64 10 2) (show ((hp_n (den T_5)) : Nat) = 67 from lkn_e.trans (by decide))).trans (dp_r (by decide)), Option.bind_some]
  rw [show ok_h (hp_n (den T_7)) = some () from if_pos (by decide), Option.bind_some]
  rw [show f_X6_init (hp_n (den T_7)) (st_n (den T_7) 6 11) = some (den T_31) from by rw [show hp_n (den T_7) = 68 from lkn_e.trans (by decide), show st_n (den T_7) 6 11 = den T_8 from den_n (by decide)]; exact in_8, Option.bind_some]
  rw [show p_r (den T_31) 64 10 3 (hp_n (den T_7)) = some (den T_32) from (congrArg (p_r (den T_31) 64 10 3) (show ((hp_n (den T_7)) : Nat) = 68 from lkn_e.trans (by decide))).trans (dp_r (by decide)), Option.bind_some]
  rw [show ok_h (hp_n (den T_32)) = some () from if_pos (by decide), Option.bind_some]
  rw [show f_X4_init (hp_n (den T_32)) (st_n (den T_32) 4 3) = some (den T_37) from by rw [show hp_n (den T_32) = 72 from lkn_e.trans (by decide), show st_n (den T_32) 4 3 = den T_33 from den_n (by decide)]; exact in_33, Option.bind_some]
  rw [show p_r (den T_37) 64 10 4 (hp_n (den T_32)) = some (den T_38) from (congrArg (p_r (den T_37) 64 10 4) (show ((hp_n (den T_32)) : Nat) = 72 from lkn_e.trans (by decide))).trans (dp_r (by decide)), Option.bind_some]
  rw [show ok_h (hp_n (den T_38)) = some () from if_pos (by decide), Option.bind_some]
  rw [show f_X8_init (hp_n (den T_38)) (st_n (den T_38) 8 13) = some (den T_111) from by rw [show hp_n (den T_38) = 74 from lkn_e.trans (by decide), show st_n (den T_38) 8 13 = den T_39 from den_n (by decide)]; exact in_39, Option.bind_some]
  rw [show p_r (den T_111) 64 10 5 (hp_n (den T_38)) = some (den T_112) from (congrArg (p_r (den T_111) 64 10 5) (show ((hp_n (den T_38)) : Nat) = 74 from lkn_e.trans (by decide))).trans (dp_r (by decide)), Option.bind_some]
  rw [show ok_h (hp_n (den T_112)) = some () from if_pos (by decide), Option.bind_some]
  rw [show f_X1_init (hp_n (den T_112)) (st_n (den T_112) 1 2) = some (den T_117) from by rw [show hp_n (den T_112) = 99 from lkn_e.trans (by decide), show st_n (den T_112) 1 2 = den T_113 from den_n (by decide)]; exact in_113, Option.bind_some]
  rw [show p_r (den T_117) 64 10 6 (hp_n (den T_112)) = some (den T_118) from (congrArg (p_r (den T_117) 64 10 6) (show ((hp_n (den T_112)) : Nat) = 99 from lkn_e.trans (by decide))).trans (dp_r (by decide)), Option.bind_some]
  rw [show p_i (den T_118) 64 10 7 (0 : Int32) = some (den T_119) from dp_i (by decide), Option.bind_some]
  rw [show p_i (den T_119) 64 10 8 (0 : Int32) = some (den T_120) from dp_i (by decide), Option.bind_some]
  rw [show p_i (den T_120) 64 10 9 (-1 : Int32) = some (den T_121) from dp_i (by decide), Option.bind_some]
  rw [show g_r (den T_121) 64 10 2 = some 67 from dg_r (by decide) (by decide), Option.bind_some]
  rw [show f_J7_fill_53178 67 (-1 : Int32) (den T_121) = some (den T_126) from fill_121, Option.bind_some]
theorem in_127 : f_X11_init 102 (den T_127) = some (den T_219) := by
  unfold f_X11_init b_X11_init_0
  rw [show ok_h 102 = some () from if_pos (by decide), Option.bind_some]
  rw [show n_a (den T_127) 100 (1000 : Int32) = some (den T_128) from dn_n (l := 1000) rfl (by decide) (by decide), Option.bind_some]
  rw [show p_r (den T_128) 102 11 1 (hp_n (den T_127)) = some (den T_129) from (congrArg (p_r (den T_128) 102 11 1) (show ((hp_n (den T_127)) : Nat) = 103 from lkn_e.trans (by decide))).trans (dp_r (by decide)), Option.bind_some]
  rw [show n_a (den T_129) 100 (2400 : Int32) = some (den T_130) from dn_n (l := 2400) rfl (by decide) (by decide), Option.bind_some]
  rw [show p_r (den T_130) 102 11 2 (hp_n (den T_129)) = some (den T_131) from (congrArg (p_r (den T_130) 102 11 2) (show ((hp_n (den T_129)) : Nat) = 104 from lkn_e.trans (by decide))).trans (dp_r (by decide)), Option.bind_some]
  rw [show n_a (den T_131) 101 (9 : Int32) = some (den T_132) from dn_n (l := 9) rfl (by decide) (by decide), Option.bind_some]
  rw [show s_j (den T_132) (hp_n (den T_131)) (0 : Int32) (482854660462 : Int64) = some (den T_133) from (congrArg (fun z => s_j (den T_132) z (0 : Int32) (482854660462 : Int64)) (show ((hp_n (den T_131)) : Nat) = 105 from lkn_e.trans (by decide))).trans (ds_j (k := 0) rfl (by decide) (by decide)), Option.bind_some]
  rw [show s_j (den T_133) (hp_n (den T_131)) (1 : Int32) (8534158984711072869 : Int64) = some (den T_134) from (congrArg (fun z => s_j (den T_133) z (1 : Int32) (8534158984711072869 : Int64)) (show ((hp_n (den T_131)) : Nat) = 105 from lkn_e.trans (by decide))).trans (ds_j (k := 1) rfl (by decide) (by decide)), Option.bind_some]
  rw [show s_j (den T_134) (hp_n (den T_131)) (2 : Int32) (439855505772 : Int64) = some (den T_135) from (congrArg (fun z => s_j (den T_134) z (2 : Int32) (439855505772 : Int64)) (show ((hp_n (den T_131)) : Nat) = 105 from lkn_e.trans (by decide))).trans (ds_j (k := 2) rfl (by decide) (by decide)), Option.bind_some]
  rw [show s_j (den T_135) (hp_n (den T_131)) (3 : Int32) (127991944667492 : Int64) = some (den T_136) from (congrArg (fun z => s_j (den T_135) z (3 : Int32) (127991944667492 : Int64)) (show ((hp_n (den T_131)) : Nat) = 105 from lkn_e.trans (by decide))).trans (ds_j (k := 3) rfl (by decide) (by decide)), Option.bind_some]
  rw [show s_j (den T_136) (hp_n (den T_131)) (4 : Int32) (1819239275 : Int64) = some (den T_137) from (congrArg (fun z => s_j (den T_136) z (4 : Int32) (1819239275 : Int64)) (show ((hp_n (den T_131)) : Nat) = 105 from lkn_e.trans (by decide))).trans (ds_j (k := 4) rfl (by decide) (by decide)), Option.bind_some]
  rw [show s_j (den T_137) (hp_n (den T_131)) (5 : Int32) (129117126091627 : Int64) = some (den T_138) from (congrArg (fun z => s_j (den T_137) z (5 : Int32) (129117126091627 : Int64)) (show ((hp_n (den T_131)) : Nat) = 105 from lkn_e.trans (by decide))).trans (ds_j (k := 5) rfl (by decide) (by decide)), Option.bind_some]
  rw [show s_j (den T_138) (hp_n (den T_131)) (6 : Int32) (1685024357 : Int64) = some (den T_139) from (congrArg (fun z => s_j (den T_138) z (6 : Int32) (1685024357 : Int64)) (show ((hp_n (den T_131)) : Nat) = 105 from lkn_e.trans (by decide))).trans (ds_j (k := 6) rfl (by decide) (by decide)), Option.bind_some]
  rw [show s_j (den T_139) (hp_n (den T_131)) (7 : Int32) (26982 : Int64) = some (den T_140) from (congrArg (fun z => s_j (den T_139) z (7 : Int32) (26982 : Int64)) (show ((hp_n (den T_131)) : Nat) = 105 from lkn_e.trans (by decide))).trans (ds_j (k := 7) rfl (by decide) (by decide)), Option.bind_some]
  rw [show s_j (den T_140) (hp_n (den T_131)) (8 : Int32) (1701606245 : Int64) = some (den T_141) from (congrArg (fun z => s_j (den T_140) z (8 : Int32) (1701606245 : Int64)) (show ((hp_n (den T_131)) : Nat) = 105 from lkn_e.trans (by decide))).trans (ds_j (k := 8) rfl (by decide) (by decide)), Option.bind_some]
  rw [show p_r (den T_141) 102 11 8 (hp_n (den T_131)) = some (den T_142) from (congrArg (p_r (den T_141) 102 11 8) (show ((hp_n (den T_131)) : Nat) = 105 from lkn_e.trans (by decide))).trans (dp_r (by decide)), Option.bind_some]
  rw [show n_a (den T_142) 100 (7200 : Int32) = some (den T_143) from dn_n (l := 7200) rfl (by decide) (by decide), Option.bind_some]
  rw [show p_r (den T_143) 102 11 9 (hp_n (den T_142)) = some (den T_144) from (congrArg (p_r (den T_143) 102 11 9) (show ((hp_n (den T_142)) : Nat) = 106 from lkn_e.trans (by decide))).trans (dp_r (by decide)), Option.bind_some]
  rw [show n_a (den T_144) 100 (900 : Int32) = some (den T_145) from dn_n (l := 900) rfl (by decide) (by decide), Option.bind_some]
  rw [show p_r (den T_145) 102 11 10 (hp_n (den T_144)) = some (den T_146) from (congrArg (p_r (den T_145) 102 11 10) (show ((hp_n (den T_144)) : Nat) = 107 from lkn_e.trans (by decide))).trans (dp_r (by decide)), Option.bind_some]
  rw [show p_i (den T_146) 102 11 14 (-1 : Int32) = some (den T_147) from dp_i (by decide), Option.bind_some]
  rw [show n_a (den T_147) 100 (5 : Int32) = some (den T_148) from dn_n (l := 5) rfl (by decide) (by decide), Option.bind_some]
  rw [show p_r (den T_148) 102 11 16 (hp_n (den T_147)) = some (den T_149) from (congrArg (p_r (den T_148) 102 11 16) (show ((hp_n (den T_147)) : Nat) = 108 from lkn_e.trans (by decide))).trans (dp_r (by decide)), Option.bind_some]
  rw [show n_a (den T_149) 100 (2840 : Int32) = some (den T_150) from dn_n (l := 2840) rfl (by decide) (by decide), Option.bind_some]
  rw [show p_r (den T_150) 102 11 25 (hp_n (den T_149)) = some (den T_151) from (congrArg (p_r (den T_150) 102 11 25) (show ((hp_n (den T_149)) : Nat) = 109 from lkn_e.trans (by decide))).trans (dp_r (by decide)), Option.bind_some]
  rw [show n_a (den T_151) 100 (51200 : Int32) = some (den T_152) from dn_n (l := 51200) rfl (by decide) (by decide), Option.bind_some]
  rw [show p_r (den T_152) 102 11 29 (hp_n (den T_151)) = some (den T_153) from (congrArg (p_r (den T_152) 102 11 29) (show ((hp_n (den T_151)) : Nat) = 110 from lkn_e.trans (by decide))).trans (dp_r (by decide)), Option.bind_some]
  rw [show n_a (den T_153) 100 (25 : Int32) = some (den T_154) from dn_n (l := 25) rfl (by decide) (by decide), Option.bind_some]
  rw [show s_i (den T_154) (hp_n (den T_153)) (0 : Int32) (-1 : Int32) = some (den T_155) from (congrArg (fun z => s_i (den T_154) z (0 : Int32) (-1 : Int32)) (show ((hp_n (den T_153)) : Nat) = 111 from lkn_e.trans (by decide))).trans (ds_i (k := 0) rfl (by decide) (by decide)), Option.bind_some]
  rw [show s_i (den T_155) (hp_n (den T_153)) (1 : Int32) (-1 : Int32) = some (den T_156) from (congrArg (fun z => s_i (den T_155) z (1 : Int32) (-1 : Int32)) (show ((hp_n (den T_153)) : Nat) = 111 from lkn_e.trans (by decide))).trans (ds_i (k := 1) rfl (by decide) (by decide)), Option.bind_some]
  rw [show s_i (den T_156) (hp_n (den T_153)) (2 : Int32) (-1 : Int32) = some (den T_157) from (congrArg (fun z => s_i (den T_156) z (2 : Int32) (-1 : Int32)) (show ((hp_n (den T_153)) : Nat) = 111 from lkn_e.trans (by decide))).trans (ds_i (k := 2) rfl (by decide) (by decide)), Option.bind_some]
  rw [show s_i (den T_157) (hp_n (den T_153)) (3 : Int32) (-1 : Int32) = some (den T_158) from (congrArg (fun z => s_i (den T_157) z (3 : Int32) (-1 : Int32)) (show ((hp_n (den T_153)) : Nat) = 111 from lkn_e.trans (by decide))).trans (ds_i (k := 3) rfl (by decide) (by decide)), Option.bind_some]
  rw [show s_i (den T_158) (hp_n (den T_153)) (4 : Int32) (-1 : Int32) = some (den T_159) from (congrArg (fun z => s_i (den T_158) z (4 : Int32) (-1 : Int32)) (show ((hp_n (den T_153)) : Nat) = 111 from lkn_e.trans (by decide))).trans (ds_i (k := 4) rfl (by decide) (by decide)), Option.bind_some]
  rw [show s_i (den T_159) (hp_n (den T_153)) (5 : Int32) (-1 : Int32) = some (den T_160) from (congrArg (fun z => s_i (den T_159) z (5 : Int32) (-1 : Int32)) (show ((hp_n (den T_153)) : Nat) = 111 from lkn_e.trans (by decide))).trans (ds_i (k := 5) rfl (by decide) (by decide)), Option.bind_some]
  rw [show s_i (den T_160) (hp_n (den T_153)) (6 : Int32) (-1 : Int32) = some (den T_161) from (congrArg (fun z => s_i (den T_160) z (6 : Int32) (-1 : Int32)) (show ((hp_n (den T_153)) : Nat) = 111 from lkn_e.trans (by decide))).trans (ds_i (k := 6) rfl (by decide) (by decide)), Option.bind_some]
  rw [show s_i (den T_161) (hp_n (den T_153)) (7 : Int32) (-1 : Int32) = some (den T_162) from (congrArg (fun z => s_i (den T_161) z (7 : Int32) (-1 : Int32)) (show ((hp_n (den T_153)) : Nat) = 111 from lkn_e.trans (by decide))).trans (ds_i (k := 7) rfl (by decide) (by decide)), Option.bind_some]
  rw [show s_i (den T_162) (hp_n (den T_153)) (8 : Int32) (-1 : Int32) = some (den T_163) from (congrArg (fun z => s_i (den T_162) z (8 : Int32) (-1 : Int32)) (show ((hp_n (den T_153)) : Nat) = 111 from lkn_e.trans (by decide))).trans (ds_i (k := 8) rfl (by decide) (by decide)), Option.bind_some]
  rw [show s_i (den T_163) (hp_n (den T_153)) (9 : Int32) (-1 : Int32) = some (den T_164) from (congrArg (fun z => s_i (den T_163) z (9 : Int32) (-1 : Int32)) (show ((hp_n (den T_153)) : Nat) = 111 from lkn_e.trans (by decide))).trans (ds_i (k := 9) rfl (by decide) (by decide)), Option.bind_some]
  rw [show s_i (den T_164) (hp_n (den T_153)) (10 : Int32) (-1 : Int32) = some (den T_165) from (congrArg (fun z => s_i (den T_164) z (10 : Int32) (-1 : Int32)) (show ((hp_n (den T_153)) : Nat) = 111 from lkn_e.trans (by decide))).trans (ds_i (k := 10) rfl (by decide) (by decide)), Option.bind_some]
  rw [show s_i (den T_165) (hp_n (den T_153)) (11 : Int32) (-1 : Int32) = some (den T_166) from (congrArg (fun z => s_i (den T_165) z (11 : Int32) (-1 : Int32)) (show ((hp_n (den T_153)) : Nat) = 111 from lkn_e.trans (by decide))).trans (ds_i (k := 11) rfl (by decide) (by decide)), Option.bind_some]
  rw [show s_i (den T_166) (hp_n (den T_153)) (12 : Int32) (-1 : Int32) = some (den T_167) from (congrArg (fun z => s_i (den T_166) z (12 : Int32) (-1 : Int32)) (show ((hp_n (den T_153)) : Nat) = 111 from lkn_e.trans (by decide))).trans (ds_i (k := 12) rfl (by decide) (by decide)), Option.bind_some]
  rw [show s_i (den T_167) (hp_n (den T_153)) (13 : Int32) (-1 : Int32) = some (den T_168) from (congrArg (fun z => s_i (den T_167) z (13 : Int32) (-1 : Int32)) (show ((hp_n (den T_153)) : Nat) = 111 from lkn_e.trans (by decide))).trans (ds_i (k := 13) rfl (by decide) (by decide)), Option.bind_some]
  rw [show s_i (den T_168) (hp_n (den T_153)) (14 : Int32) (-1 : Int32) = some (den T_169) from (congrArg (fun z => s_i (den T_168) z (14 : Int32) (-1 : Int32)) (show ((hp_n (den T_153)) : Nat) = 111 from lkn_e.trans (by decide))).trans (ds_i (k := 14) rfl (by decide) (by decide)), Option.bind_some]
  rw [show s_i (den T_169) (hp_n (den T_153)) (15 : Int32) (-1 : Int32) = some (den T_170) from (congrArg (fun z => s_i (den T_169) z (15 : Int32) (-1 : Int32)) (show ((hp_n (den T_153)) : Nat) = 111 from lkn_e.trans (by decide))).trans (ds_i (k := 15) rfl (by decide) (by decide)), Option.bind_some]
  rw [show s_i (den T_170) (hp_n (den T_153)) (16 : Int32) (-1 : Int32) = some (den T_171) from (congrArg (fun z => s_i (den T_170) z (16 : Int32) (-1 : Int32)) (show ((hp_n (den T_153)) : Nat) = 111 from lkn_e.trans (by decide))).trans (ds_i (k := 16) rfl (by decide) (by decide)), Option.bind_some]
  rw [show s_i (den T_171) (hp_n (den T_153)) (17 : Int32) (-1 : Int32) = some (den T_172) from (congrArg (fun z => s_i (den T_171) z (17 : Int32) (-1 : Int32)) (show ((hp_n (den T_153)) : Nat) = 111 from lkn_e.trans (by decide))).trans (ds_i (k := 17) rfl (by decide) (by decide)), Option.bind_some]
  rw [show s_i (den T_172) (hp_n (den T_153)) (18 : Int32) (-1 : Int32) = some (den T_173) from (congrArg (fun z => s_i (den T_172) z (18 : Int32) (-1 : Int32)) (show ((hp_n (den T_153)) : Nat) = 111 from lkn_e.trans (by decide))).trans (ds_i (k := 18) rfl (by decide) (by decide)), Option.bind_some]
  rw [show s_i (den T_173) (hp_n (den T_153)) (19 : Int32) (-1 : Int32) = some (den T_174) from (congrArg (fun z => s_i (den T_173) z (19 : Int32) (-1 : Int32)) (show ((hp_n (den T_153)) : Nat) = 111 from lkn_e.trans (by decide))).trans (ds_i (k := 19) rfl (by decide) (by decide)), Option.bind_some]
  rw [show s_i (den T_174) (hp_n (den T_153)) (20 : Int32) (-1 : Int32) = some (den T_175) from (congrArg (fun z => s_i (den T_174) z (20 : Int32) (-1 : Int32)) (show ((hp_n (den T_153)) : Nat) = 111 from lkn_e.trans (by decide))).trans (ds_i (k := 20) rfl (by decide) (by decide)), Option.bind_some]
  rw [show s_i (den T_175) (hp_n (den T_153)) (21 : Int32) (-1 : Int32) = some (den T_176) from (congrArg (fun z => s_i (den T_175) z (21 : Int32) (-1 : Int32)) (show ((hp_n (den T_153)) : Nat) = 111 from lkn_e.trans (by decide))).trans (ds_i (k := 21) rfl (by decide) (by decide)), Option.bind_some]
  rw [show s_i (den T_176) (hp_n (den T_153)) (22 : Int32) (-1 : Int32) = some (den T_177) from (congrArg (fun z => s_i (den T_176) z (22 : Int32) (-1 : Int32)) (show ((hp_n (den T_153)) : Nat) = 111 from lkn_e.trans (by decide))).trans (ds_i (k := 22) rfl (by decide) (by decide)), Option.bind_some]
  rw [show s_i (den T_177) (hp_n (den T_153)) (23 : Int32) (-1 : Int32) = some (den T_178) from (congrArg (fun z => s_i (den T_177) z (23 : Int32) (-1 : Int32)) (show ((hp_n (den T_153)) : Nat) = 111 from lkn_e.trans (by decide))).trans (ds_i (k := 23) rfl (by decide) (by decide)), Option.bind_some]
  rw [show s_i (den T_178) (hp_n (den T_153)) (24 : Int32) (-1 : Int32) = some (den T_179) from (congrArg (fun z => s_i (den T_178) z (24 : Int32) (-1 : Int32)) (show ((hp_n (den T_153)) : Nat) = 111 from lkn_e.trans (by decide))).trans (ds_i (k := 24) rfl (by decide) (by decide)), Option.bind_some]
  rw [show p_r (den T_179) 102 11 30 (hp_n (den T_153)) = some (den T_180) from (congrArg (p_r (den T_179) 102 11 30) (show ((hp_n (den T_153)) : Nat) = 111 from lkn_e.trans (by decide))).trans (dp_r (by decide)), Option.bind_some]
  rw [show n_a (den T_180) 100 (5 : Int32) = some (den T_181) from dn_n (l := 5) rfl (by decide) (by decide), Option.bind_some]
  rw [show s_i (den T_181) (hp_n (den T_180)) (0 : Int32) (-1 : Int32) = some (den T_182) from (congrArg (fun z => s_i (den T_181) z (0 : Int32) (-1 : Int32)) (show ((hp_n (den T_180)) : Nat) = 112 from lkn_e.trans (by decide))).trans (ds_i (k := 0) rfl (by decide) (by decide)), Option.bind_some]
  rw [show s_i (den T_182) (hp_n (den T_180)) (1 : Int32) (-1 : Int32) = some (den T_183) from (congrArg (fun z => s_i (den T_182) z (1 : Int32) (-1 : Int32)) (show ((hp_n (den T_180)) : Nat) = 112 from lkn_e.trans (by decide))).trans (ds_i (k := 1) rfl (by decide) (by decide)), Option.bind_some]
  rw [show s_i (den T_183) (hp_n (den T_180)) (2 : Int32) (-1 : Int32) = some (den T_184) from (congrArg (fun z => s_i (den T_183) z (2 : Int32) (-1 : Int32)) (show ((hp_n (den T_180)) : Nat) = 112 from lkn_e.trans (by decide))).trans (ds_i (k := 2) rfl (by decide) (by decide)), Option.bind_some]
  rw [show s_i (den T_184) (hp_n (den T_180)) (3 : Int32) (-1 : Int32) = some (den T_185) from (congrArg (fun z => s_i (den T_184) z (3 : Int32) (-1 : Int32)) (show ((hp_n (den T_180)) : Nat) = 112 from lkn_e.trans (by decide))).trans (ds_i (k := 3) rfl (by decide) (by decide)), Option.bind_some]
  rw [show s_i (den T_185) (hp_n (den T_180)) (4 : Int32) (-1 : Int32) = some (den T_186) from (congrArg (fun z => s_i (den T_185) z (4 : Int32) (-1 : Int32)) (show ((hp_n (den T_180)) : Nat) = 112 from lkn_e.trans (by decide))).trans (ds_i (k := 4) rfl (by decide) (by decide)), Option.bind_some]
  rw [show p_r (den T_186) 102 11 32 (hp_n (den T_180)) = some (den T_187) from (congrArg (p_r (den T_186) 102 11 32) (show ((hp_n (den T_180)) : Nat) = 112 from lkn_e.trans (by decide))).trans (dp_r (by decide)), Option.bind_some]
  rw [show n_a (den T_187) 100 (8 : Int32) = some (den T_188) from dn_n (l := 8) rfl (by decide) (by decide), Option.bind_some]
  rw [show p_r (den T_188) 102 11 33 (hp_n (den T_187)) = some (den T_189) from (congrArg (p_r (den T_188) 102 11 33) (show ((hp_n (den T_187)) : Nat) = 113 from lkn_e.trans (by decide))).trans (dp_r (by decide)), Option.bind_some]
  rw [show n_a (den T_189) 100 (8 : Int32) = some (den T_190) from dn_n (l := 8) rfl (by decide) (by decide), Option.bind_some]
  rw [show p_r (den T_190) 102 11 34 (hp_n (den T_189)) = some (den T_191) from (congrArg (p_r (den T_190) 102 11 34) (show ((hp_n (den T_189)) : Nat) = 114 from lkn_e.trans (by decide))).trans (dp_r (by decide)), Option.bind_some]
  rw [show n_a (den T_191) 100 (8 : Int32) = some (den T_192) from dn_n (l := 8) rfl (by decide) (by decide), Option.bind_some]
  rw [show s_i (den T_192) (hp_n (den T_191)) (0 : Int32) (-1 : Int32) = some (den T_193) from (congrArg (fun z => s_i (den T_192) z (0 : Int32) (-1 : Int32)) (show ((hp_n (den T_191)) : Nat) = 115 from lkn_e.trans (by decide))).trans (ds_i (k := 0) rfl (by decide) (by decide)), Option.bind_some]
  rw [show s_i (den T_193) (hp_n (den T_191)) (1 : Int32) (-1 : Int32) = some (den T_194) from (congrArg (fun z => s_i (den T_193) z (1 : Int32) (-1 : Int32)) (show ((hp_n (den T_191)) : Nat) = 115 from lkn_e.trans (by decide))).trans (ds_i (k := 1) rfl (by decide) (by decide)), Option.bind_some]
  rw [show s_i (den T_194) (hp_n (den T_191)) (2 : Int32) (-1 : Int32) = some (den T_195) from (congrArg (fun z => s_i (den T_194) z (2 : Int32) (-1 : Int32)) (show ((hp_n (den T_191)) : Nat) = 115 from lkn_e.trans (by decide))).trans (ds_i (k := 2) rfl (by decide) (by decide)), Option.bind_some]
  rw [show s_i (den T_195) (hp_n (den T_191)) (3 : Int32) (-1 : Int32) = some (den T_196) from (congrArg (fun z => s_i (den T_195) z (3 : Int32) (-1 : Int32)) (show ((hp_n (den T_191)) : Nat) = 115 from lkn_e.trans (by decide))).trans (ds_i (k := 3) rfl (by decide) (by decide)), Option.bind_some]
  rw [show s_i (den T_196) (hp_n (den T_191)) (4 : Int32) (-1 : Int32) = some (den T_197) from (congrArg (fun z => s_i (den T_196) z (4 : Int32) (-1 : Int32)) (show ((hp_n (den T_191)) : Nat) = 115 from lkn_e.trans (by decide))).trans (ds_i (k := 4) rfl (by decide) (by decide)), Option.bind_some]
  rw [show s_i (den T_197) (hp_n (den T_191)) (5 : Int32) (-1 : Int32) = some (den T_198) from (congrArg (fun z => s_i (den T_197) z (5 : Int32) (-1 : Int32)) (show ((hp_n (den T_191)) : Nat) = 115 from lkn_e.trans (by decide))).trans (ds_i (k := 5) rfl (by decide) (by decide)), Option.bind_some]
  rw [show s_i (den T_198) (hp_n (den T_191)) (6 : Int32) (-1 : Int32) = some (den T_199) from (congrArg (fun z => s_i (den T_198) z (6 : Int32) (-1 : Int32)) (show ((hp_n (den T_191)) : Nat) = 115 from lkn_e.trans (by decide))).trans (ds_i (k := 6) rfl (by decide) (by decide)), Option.bind_some]
  rw [show s_i (den T_199) (hp_n (den T_191)) (7 : Int32) (-1 : Int32) = some (den T_200) from (congrArg (fun z => s_i (den T_199) z (7 : Int32) (-1 : Int32)) (show ((hp_n (den T_191)) : Nat) = 115 from lkn_e.trans (by decide))).trans (ds_i (k := 7) rfl (by decide) (by decide)), Option.bind_some]
  rw [show p_r (den T_200) 102 11 37 (hp_n (den T_191)) = some (den T_201) from (congrArg (p_r (den T_200) 102 11 37) (show ((hp_n (den T_191)) : Nat) = 115 from lkn_e.trans (by decide))).trans (dp_r (by decide)), Option.bind_some]
  rw [show n_a (den T_201) 100 (512 : Int32) = some (den T_202) from dn_n (l := 512) rfl (by decide) (by decide), Option.bind_some]
  rw [show p_r (den T_202) 102 11 38 (hp_n (den T_201)) = some (den T_203) from (congrArg (p_r (den T_202) 102 11 38) (show ((hp_n (den T_201)) : Nat) = 116 from lkn_e.trans (by decide))).trans (dp_r (by decide)), Option.bind_some]
  rw [show n_a (den T_203) 100 (64 : Int32) = some (den T_204) from dn_n (l := 64) rfl (by decide) (by decide), Option.bind_some]
  rw [show p_r (den T_204) 102 11 39 (hp_n (den T_203)) = some (den T_205) from (congrArg (p_r (den T_204) 102 11 39) (show ((hp_n (den T_203)) : Nat) = 117 from lkn_e.trans (by decide))).trans (dp_r (by decide)), Option.bind_some]
  rw [show n_a (den T_205) 100 (8 : Int32) = some (den T_206) from dn_n (l := 8) rfl (by decide) (by decide), Option.bind_some]
  rw [show p_r (den T_206) 102 11 40 (hp_n (den T_205)) = some (den T_207) from (congrArg (p_r (den T_206) 102 11 40) (show ((hp_n (den T_205)) : Nat) = 118 from lkn_e.trans (by decide))).trans (dp_r (by decide)), Option.bind_some]
  rw [show n_a (den T_207) 100 (512 : Int32) = some (den T_208) from dn_n (l := 512) rfl (by decide) (by decide), Option.bind_some]
  rw [show p_r (den T_208) 102 11 41 (hp_n (den T_207)) = some (den T_209) from (congrArg (p_r (den T_208) 102 11 41) (show ((hp_n (den T_207)) : Nat) = 119 from lkn_e.trans (by decide))).trans (dp_r (by decide)), Option.bind_some]
  rw [show n_a (den T_209) 100 (800 : Int32) = some (den T_210) from dn_n (l := 800) rfl (by decide) (by decide), Option.bind_some]
  rw [show p_r (den T_210) 102 11 42 (hp_n (den T_209)) = some (den T_211) from (congrArg (p_r (den T_210) 102 11 42) (show ((hp_n (den T_209)) : Nat) = 120 from lkn_e.trans (by decide))).trans (dp_r (by decide)), Option.bind_some]
  rw [show n_a (den T_211) 100 (800 : Int32) = some (den T_212) from dn_n (l := 800) rfl (by decide) (by decide), Option.bind_some]
  rw [show p_r (den T_212) 102 11 43 (hp_n (den T_211)) = some (den T_213) from (congrArg (p_r (den T_212) 102 11 43) (show ((hp_n (den T_211)) : Nat) = 121 from lkn_e.trans (by decide))).trans (dp_r (by decide)), Option.bind_some]
  rw [show n_a (den T_213) 100 (4 : Int32) = some (den T_214) from dn_n (l := 4) rfl (by decide) (by decide), Option.bind_some]
  rw [show p_r (den T_214) 102 11 44 (hp_n (den T_213)) = some (den T_215) from (congrArg (p_r (den T_214) 102 11 44) (show ((hp_n (den T_213)) : Nat) = 122 from lkn_e.trans (by decide))).trans (dp_r (by decide)), Option.bind_some]
  rw [show n_a (den T_215) 100 (4 : Int32) = some (den T_216) from dn_n (l := 4) rfl (by decide) (by decide), Option.bind_some]
  rw [show p_r (den T_216) 102 11 45 (hp_n (den T_215)) = some (den T_217) from (congrArg (p_r (den T_216) 102 11 45) (show ((hp_n (den T_215)) : Nat) = 123 from lkn_e.trans (by decide))).trans (dp_r (by decide)), Option.bind_some]
  rw [show n_a (den T_217) 100 (4 : Int32) = some (den T_218) from dn_n (l := 4) rfl (by decide) (by decide), Option.bind_some]
  rw [show p_r (den T_218) 102 11 46 (hp_n (den T_217)) = some (den T_219) from (congrArg (p_r (den T_218) 102 11 46) (show ((hp_n (den T_217)) : Nat) = 124 from lkn_e.trans (by decide))).trans (dp_r (by decide)), Option.bind_some]
theorem lw0 {L : Nat} {xs : Nat → Int32} : f_L_law L xs h_0 = l_L_law_23 L xs fu_ 31 64 102 125 (0 : Int32) (den T_220) := by
  unfold f_L_law b_L_law_0
  rw [show ok_h (hp_n h_0) = some () from if_pos (by decide), Option.bind_some, show f_X10_init (hp_n h_0) (st_n h_0 10 10) = some (den T_126) from in_1, Option.bind_some, show hp_n (den T_126) = 102 from lkn_e.trans (by decide), show ok_h 102 = some () from if_pos (by decide), Option.bind_some, show st_n (den T_126) 11 47 = den T_127 from den_n (by decide), in_127, Option.bind_some, show n_a (den T_219) 101 (1 : Int32) = some (den T_220) from dn_n (l := 1) rfl (by decide) (by decide), Option.bind_some, show hp_n (den T_219) = 125 from lkn_e.trans (by decide)]
  rfl
