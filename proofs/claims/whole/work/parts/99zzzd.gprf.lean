/-! ===== print: what the reference writes ===== -/
def wix (k : Nat) : Nat := if k ≤ 6 then k + 2 else if k = 7 then 12 else 9
def tkb (t : Nat) : List Nat := if t / 100 = 2 then wbt (wix (t % 100)) else if t / 100 = 7 then (if t % 100 = 0 then [59] else if t % 100 = 1 then [61] else if t % 100 = 2 then [61, 61] else if t % 100 = 3 then [46] else if t % 100 = 4 then [43] else if t % 100 = 5 then [123] else [125]) else if t / 100 = 3 then [117 + t % 100] else if t / 100 = 4 then [114, 48 + t % 100] else if t / 100 = 5 then [109, 48 + t % 100] else [48 + t % 100]
/-- a token that can be said -/
def VT (t : Nat) : Prop := (t / 100 = 2 ∧ t % 100 ≤ 8) ∨ (t / 100 = 3 ∧ t % 100 < 10) ∨ (t / 100 = 4 ∧ t % 100 < 10) ∨ (t / 100 = 5 ∧ t % 100 < 10) ∨ (t / 100 = 6 ∧ t % 100 < 10) ∨ (t / 100 = 7 ∧ t % 100 ≤ 6)
def RS (A0 A : Nat → Nat → Int32) (W : List Nat) : Prop := A 102 4 = nI W.length ∧ (∀ k, k < W.length → A 104 k = nI (W.getD k 0)) ∧ ∀ r k, r ≠ 104 → ¬ (r = 102 ∧ k = 4) → A r k = A0 r k
def Rri (h : AH) (f : AH → Option AH) (bs : List Nat) : Prop := ∀ A W, RS (hp_i h) A W → (W ++ bs).length ≤ 2400 → ∃ A', f (sA h A) = some (sA h A') ∧ RS (hp_i h) A' (W ++ bs)
def wL : List Int64 := [482854660462, 8534158984711072869, 439855505772, 127991944667492, 1819239275, 129117126091627, 1685024357, 26982, 1701606245]
def wby (k j : Nat) : Nat := ((wL.getD k 0 >>> ((nI (8 * j)).toInt64 &&& 63)) &&& (255 : Int64)).toInt32.toNatClampNeg
theorem wby_f : ∀ k, k < 9 → ∀ j, j < 8 → (lg_cmp ((wL.getD k 0 >>> ((nI (8 * j)).toInt64 &&& 63)) &&& (255 : Int64)) (0 : Int64) = 0 ↔ wby k j = 0) ∧ ((wL.getD k 0 >>> ((nI (8 * j)).toInt64 &&& 63)) &&& (255 : Int64)).toInt32 = nI (wby k j) := by decide +kernel
/-- the word's bytes from byte j on down -/
def wbd (k : Nat) : Nat → List Nat
  | 0 => []
  | j + 1 => (if wby k j = 0 then [] else [wby k j]) ++ wbd k j
theorem wbd_8 : ∀ k, k < 9 → wbd k 8 = wbt (wix k) := by decide +kernel
theorem dv_h {t : Nat} (h : t < 2 ^ 31) : dv_i (nI t) (100 : Int32) = some (nI (t / 100)) := by
  show (if (100 : Int32) = 0 then none else some (nI t / 100)) = _
  rw [if_neg (by decide), show (100 : Int32) = nI 100 from rfl, pk_div h (by omega) (by omega)]
theorem rm_h {t : Nat} (h : t < 2 ^ 31) : rm_i (nI t) (100 : Int32) = some (nI (t % 100)) := by
  show (if (100 : Int32) = 0 then none else some (nI t - nI t / 100 * 100)) = _
  rw [if_neg (by decide), show (100 : Int32) = nI 100 from rfl, pk_rem h (by omega) (by omega)]
section
variable {h : AH} {f f' : AH → Option AH} {bs bs' : List Nat} {c : Nat}
theorem rr_cg (F : Rri h f bs) (e : bs = bs') : Rri h f bs' := by rw [← e]; exact F
theorem rr_eq (F : Rri h f bs) (e : ∀ H, f' H = f H) : Rri h f' bs := by
  have : f' = f := funext e
  rw [this]; exact F
theorem rr_id : Rri h (fun H => some H) [] := fun A W P hl => ⟨A, rfl, by rw [List.append_nil]; exact P⟩
theorem rr_c (F : Rri h f bs) (F' : Rri h f' bs') : Rri h (fun H => (f H).bind f') (bs ++ bs') := fun A W P hl => by
  have hl' : ((W ++ bs) ++ bs').length ≤ 2400 := by rw [List.append_assoc]; exact hl
  obtain ⟨A1, x1, x2⟩ := F A W P (by rw [List.length_append] at hl'; omega)
  obtain ⟨A2, y1, y2⟩ := F' A1 _ x2 hl'
  refine ⟨A2, ?_, by rw [← List.append_assoc]; exact y2⟩
  show (f (sA h A)).bind f' = _
  rw [x1, Option.bind_some]
  exact y1
theorem rr_v (Z : RZ h) (F : Rri h f bs) : Rri h (fun H => (ok_v H 102 11).bind fun _ => f H) bs := fun A W P hl => by
  obtain ⟨A1, x1, x2⟩ := F A W P hl
  refine ⟨A1, ?_, x2⟩
  show (ok_v (sA h A) 102 11).bind _ = _
  rw [v_v Z, Option.bind_some]
  exact x1
theorem rr_say (Z : RZ h) : Rri h (f_X11_say 102 (nI c)) [c] := fun A W P hl => by
  obtain ⟨p1, p2, p3⟩ := P
  have hW : W.length < 2400 := by rw [List.length_append, List.length_singleton] at hl; omega
  refine ⟨up_2 (up_2 A 104 W.length (nI c)) 102 4 (nI (W.length + 1)), ?_, ?_, fun k hk => ?_, fun r k h1 h2 => ?_⟩
  · unfold f_X11_say b_X11_say_0
    rw [rz_r (f := 2) (r := 104) (l := 2400) (sA_rz Z) (by decide), Option.bind_some, v_g Z, Option.bind_some, p1, show s_i (sA h A) 104 (nI W.length) (nI c) = some (sA h (up_2 A 104 W.length (nI c))) from rz_s (f := 2) (r := 104) (l := 2400) (sA_rz Z) (by decide) hW (by omega), Option.bind_some, v_g Z, Option.bind_some, u2 (by omega), p1, v_p Z, Option.bind_some, da]
  · rw [u2s, List.length_append, List.length_singleton]
  · rw [List.length_append, List.length_singleton] at hk
    rw [u2 (by omega)]
    by_cases e : k = W.length
    · rw [e, u2s, gd_sn]
    · rw [u2 (by omega), gd_sl (by omega)]
      exact p2 k (by omega)
  · rw [u2 (by omega), u2 (by omega)]
    exact p3 r k h1 h2
/-- a word -/
theorem rr_w {k : Nat} (Z : RZ h) (hk : k < 9) : ∀ j fu, j ≤ 8 → j < fu → Rri h (l_X11_sayToken_19 fu 102 (nI k) (nI (8 * j) + (-8 : Int32))) (wbd k j) := by
  have lj : ∀ A : Nat → Nat → Int32, l_j (sA h A) 105 (nI k) = some (wL.getD k 0) := fun A => by
    obtain ⟨-, -, -, o5, l5, j0, j1, j2, j3, j4, j5, j6, j7, j8⟩ := Z
    have e : l_j (sA h A) 105 (nI k) = some (hp_j h 105 (nI k).toNatClampNeg) := if_pos ⟨o5, nI_pos (by omega), by show _ < hp_l h 105; rw [nI_clamp (by omega)]; omega⟩
    rw [e, nI_clamp (by omega)]
    congr 1
    obtain z | z | z | z | z | z | z | z | z : k = 0 ∨ k = 1 ∨ k = 2 ∨ k = 3 ∨ k = 4 ∨ k = 5 ∨ k = 6 ∨ k = 7 ∨ k = 8 := by omega
    · rw [z]; exact j0
    · rw [z]; exact j1
    · rw [z]; exact j2
    · rw [z]; exact j3
    · rw [z]; exact j4
    · rw [z]; exact j5
    · rw [z]; exact j6
    · rw [z]; exact j7
    · rw [z]; exact j8
  have g8 : ∀ A : Nat → Nat → Int32, g_r (sA h A) 102 11 8 = some 105 := fun A => (if_pos Z.1).trans (congrArg some Z.2.2.1)
  intro j
  induction j with
  | zero =>
    intro fu _ hf
    obtain ⟨fu, rfl⟩ : ∃ f', fu = f' + 1 := ⟨fu - 1, by omega⟩
    refine rr_eq rr_id (fun H => ?_)
    show b_X11_sayToken_19 (l_X11_sayToken_19 fu) 102 (nI k) (nI (8 * 0) + (-8 : Int32)) H = _
    unfold b_X11_sayToken_19
    rw [if_pos (by decide)]
    rfl
  | succ j ih =>
    intro fu hj hf
    obtain ⟨fu, rfl⟩ : ∃ f', fu = f' + 1 := ⟨fu - 1, by omega⟩
    have ih' := ih fu (by omega) (by omega)
    have e8 : nI (8 * (j + 1)) + (-8 : Int32) = nI (8 * j) := by
      rw [show 8 * (j + 1) = 8 * j + 8 by omega, ← nI_add, Int32.add_assoc, show nI 8 + (-8 : Int32) = 0 from by decide, Int32.add_zero]
    obtain ⟨y1, y2⟩ := wby_f k hk j (by omega)
    intro A W P hl
    have st : l_X11_sayToken_19 (fu + 1) 102 (nI k) (nI (8 * (j + 1)) + (-8 : Int32)) (sA h A) = if lg_cmp ((wL.getD k 0 >>> ((nI (8 * j)).toInt64 &&& 63)) &&& (255 : Int64)) (0 : Int64) = 0 then l_X11_sayToken_19 fu 102 (nI k) (nI (8 * j) + (-8 : Int32)) (sA h A) else (f_X11_say 102 (nI (wby k j)) (sA h A)).bind fun h4 => l_X11_sayToken_19 fu 102 (nI k) (nI (8 * j) + (-8 : Int32)) h4 := by
      show b_X11_sayToken_19 (l_X11_sayToken_19 fu) 102 (nI k) (nI (8 * (j + 1)) + (-8 : Int32)) (sA h A) = _
      unfold b_X11_sayToken_19
      rw [e8, if_neg (nI_pos (by omega))]
      unfold b_X11_sayToken_24 b_X11_sayToken_42 b_X11_sayToken_60
      rw [g8, Option.bind_some, lj, Option.bind_some, Option.bind_some, lj, Option.bind_some, v_v Z, Option.bind_some, y2]
    by_cases c0 : wby k j = 0
    · have e : wbd k (j + 1) = wbd k j := by
        show (if wby k j = 0 then [] else [wby k j]) ++ wbd k j = _
        rw [if_pos c0]; rfl
      rw [e] at hl ⊢
      obtain ⟨A1, x1, x2⟩ := ih' A W P hl
      exact ⟨A1, by rw [st, if_pos (y1.mpr c0)]; exact x1, x2⟩
    · have e : wbd k (j + 1) = [wby k j] ++ wbd k j := by
        show (if wby k j = 0 then [] else [wby k j]) ++ wbd k j = _
        rw [if_neg c0]
      rw [e] at hl ⊢
      obtain ⟨A1, x1, x2⟩ := rr_c (rr_say (c := wby k j) Z) ih' A W P hl
      exact ⟨A1, by rw [st, if_neg (fun z => c0 (y1.mp z))]; exact x1, x2⟩
theorem rr_183 (Z : RZ h) : Rri h (b_X11_sayToken_183 102 (nI c)) [c] := rr_cg (rr_v Z (rr_c (rr_say Z) rr_id)) rfl
theorem rr_tk {t : Nat} (Z : RZ h) (V : VT t) : Rri h (f_X11_sayToken 102 (nI t)) (tkb t) := by
  have t8 : t < 800 := by unfold VT at V; omega
  have st : ∀ H, f_X11_sayToken 102 (nI t) H = if nI (t / 100) = (2 : Int32) then b_X11_sayToken_15 102 (nI (t % 100)) H else b_X11_sayToken_69 102 (nI (t / 100)) (nI (t % 100)) H := fun H => by
    unfold f_X11_sayToken b_X11_sayToken_0
    rw [dv_h (by omega), Option.bind_some, rm_h (by omega), Option.bind_some]
  refine rr_eq ?_ st
  unfold VT at V
  unfold tkb
  generalize t % 100 = k at *
  generalize t / 100 = q at *
  clear st t8
  have d48 : Rri h (b_X11_sayToken_179 (nI k) 102) [48 + k] := rr_eq (rr_183 (c := 48 + k) Z) (fun H => by unfold b_X11_sayToken_179; rw [ad])
  have d117 : Rri h (b_X11_sayToken_172 (nI k) 102) [117 + k] := rr_eq (rr_183 (c := 117 + k) Z) (fun H => by unfold b_X11_sayToken_172; rw [ad])
  rcases V with ⟨rfl, v⟩ | ⟨rfl, v⟩ | ⟨rfl, v⟩ | ⟨rfl, v⟩ | ⟨rfl, v⟩ | ⟨rfl, v⟩
  · rw [if_pos rfl, ← wbd_8 k (by omega)]
    refine rr_eq (rr_w Z (show k < 9 by omega) 8 fu_ (Nat.le_refl _) (by unfold fu_; omega)) (fun H => ?_)
    rw [if_pos (by decide)]
    rfl
  · rw [if_neg (by omega), if_neg (by omega), if_pos rfl]
    refine rr_eq d117 (fun H => ?_)
    unfold b_X11_sayToken_69 b_X11_sayToken_144 b_X11_sayToken_155 b_X11_sayToken_166
    rw [if_neg (by decide), if_neg (by decide), if_neg (by decide), if_neg (by decide), if_pos (by decide)]
  · rw [if_neg (by omega), if_neg (by omega), if_neg (by omega), if_pos rfl]
    have d155 : Rri h (b_X11_sayToken_155 102 (nI 4) (nI k)) [48 + k] := rr_eq d48 (fun H => by
      unfold b_X11_sayToken_155 b_X11_sayToken_166
      rw [if_neg (by decide), if_neg (by decide)])
    refine rr_eq (rr_cg (rr_v Z (rr_c (rr_say (c := 114) Z) d155)) rfl) (fun H => ?_)
    unfold b_X11_sayToken_69 b_X11_sayToken_144
    rw [if_neg (by decide), if_neg (by decide), if_pos (by decide)]
    rfl
  · rw [if_neg (by omega), if_neg (by omega), if_neg (by omega), if_neg (by omega), if_pos rfl]
    have d166 : Rri h (b_X11_sayToken_166 102 (nI 5) (nI k)) [48 + k] := rr_eq d48 (fun H => by
      unfold b_X11_sayToken_166
      rw [if_neg (by decide)])
    refine rr_eq (rr_cg (rr_v Z (rr_c (rr_say (c := 109) Z) d166)) rfl) (fun H => ?_)
    unfold b_X11_sayToken_69 b_X11_sayToken_144 b_X11_sayToken_155
    rw [if_neg (by decide), if_neg (by decide), if_neg (by decide), if_pos (by decide)]
    rfl
  · rw [if_neg (by omega), if_neg (by omega), if_neg (by omega), if_neg (by omega), if_neg (by omega)]
    refine rr_eq d48 (fun H => ?_)
    unfold b_X11_sayToken_69 b_X11_sayToken_144 b_X11_sayToken_155 b_X11_sayToken_166
    rw [if_neg (by decide), if_neg (by decide), if_neg (by decide), if_neg (by decide), if_neg (by decide)]
  · rw [if_neg (by omega), if_pos rfl]
    have w127 : ∀ c, ¬ nI k = (2 : Int32) → Rri h (b_X11_sayToken_127 102 (nI k) 102 (nI c)) [c] := fun c nk => by
      have g2 : Rri h (fun h2 => if nI k = (2 : Int32) then b_X11_sayToken_135 102 h2 else b_X11_sayToken_186 h2) [] := rr_eq rr_id (fun H => if_neg nk)
      exact rr_cg (rr_v Z (rr_c (rr_say (c := c) Z) g2)) rfl
    have e69 : ∀ H, (if nI 7 = (2 : Int32) then b_X11_sayToken_15 102 (nI k) H else b_X11_sayToken_69 102 (nI 7) (nI k) H) = b_X11_sayToken_75 102 (nI k) H := fun H => by
      unfold b_X11_sayToken_69
      rw [if_neg (by decide), if_pos (by decide)]
    refine rr_eq ?_ e69
    obtain rfl | rfl | rfl | rfl | rfl | rfl | rfl : k = 0 ∨ k = 1 ∨ k = 2 ∨ k = 3 ∨ k = 4 ∨ k = 5 ∨ k = 6 := by omega
    · rw [if_pos rfl]
      refine rr_eq (w127 59 (by decide)) (fun H => ?_)
      unfold b_X11_sayToken_75
      rw [if_pos (by decide)]; rfl
    · rw [if_neg (by omega), if_pos rfl]
      refine rr_eq (w127 61 (by decide)) (fun H => ?_)
      unfold b_X11_sayToken_75 b_X11_sayToken_85
      rw [if_neg (by decide), if_neg (by decide)]; rfl
    · rw [if_neg (by omega), if_neg (by omega), if_pos rfl]
      have g2 : Rri h (fun h2 => if nI 2 = (2 : Int32) then b_X11_sayToken_135 102 h2 else b_X11_sayToken_186 h2) [61] := rr_eq (rr_cg (rr_v Z (rr_c (rr_say (c := 61) Z) rr_id)) rfl) (fun H => if_pos rfl)
      refine rr_eq (rr_cg (rr_v Z (rr_c (rr_say (c := 61) Z) g2)) rfl) (fun H => ?_)
      unfold b_X11_sayToken_75 b_X11_sayToken_85
      rw [if_neg (by decide), if_neg (by decide)]; rfl
    · rw [if_neg (by omega), if_neg (by omega), if_neg (by omega), if_pos rfl]
      refine rr_eq (w127 46 (by decide)) (fun H => ?_)
      unfold b_X11_sayToken_75 b_X11_sayToken_85 b_X11_sayToken_95
      rw [if_neg (by decide), if_pos (by decide), if_pos (by decide)]; rfl
    · rw [if_neg (by omega), if_neg (by omega), if_neg (by omega), if_neg (by omega), if_pos rfl]
      refine rr_eq (w127 43 (by decide)) (fun H => ?_)
      unfold b_X11_sayToken_75 b_X11_sayToken_85 b_X11_sayToken_95 b_X11_sayToken_105
      rw [if_neg (by decide), if_pos (by decide), if_neg (by decide), if_pos (by decide)]; rfl
    · rw [if_neg (by omega), if_neg (by omega), if_neg (by omega), if_neg (by omega), if_neg (by omega), if_pos rfl]
      refine rr_eq (w127 123 (by decide)) (fun H => ?_)
      unfold b_X11_sayToken_75 b_X11_sayToken_85 b_X11_sayToken_95 b_X11_sayToken_105 b_X11_sayToken_115
      rw [if_neg (by decide), if_pos (by decide), if_neg (by decide), if_neg (by decide), if_pos (by decide)]; rfl
    · rw [if_neg (by omega), if_neg (by omega), if_neg (by omega), if_neg (by omega), if_neg (by omega), if_neg (by omega)]
      refine rr_eq (w127 125 (by decide)) (fun H => ?_)
      unfold b_X11_sayToken_75 b_X11_sayToken_85 b_X11_sayToken_95 b_X11_sayToken_105 b_X11_sayToken_115
      rw [if_neg (by decide), if_pos (by decide), if_neg (by decide), if_neg (by decide), if_neg (by decide)]; rfl
end
