/-! ===== the reference's worth, queuedValue ===== -/
section
variable {h : AH}
theorem rw_10 : ∀ n, n < 19 → rm_i (nI n) (10 : Int32) = some (nI (n % 10)) := by decide
theorem e_worth {d b l c v : Nat} (R : RH h) (hd : d < 20) (hl : l < 5) (hb : b < 2) (hc : c ≤ 9) (hv : hp_i h 109 (142 * d + (4 + l)) = nI v) (v9 : v ≤ 9) : f_X11_worth 102 (nI d) (nI b) (nI l) (nI c) h = some (nI (if b = 0 then c else (v + c) % 10), h) := by
  unfold f_X11_worth b_X11_worth_0
  by_cases e : b = 0
  · rw [e, if_pos rfl, if_pos (show nI 0 = 0 from rfl)]
    rfl
  · have b1 : b = 1 := by omega
    rw [b1, if_neg (show ¬ nI 1 = 0 by decide), if_neg (by omega)]
    unfold b_X11_worth_9
    rw [rh_v R, Option.bind_some, show (4 : Int32) = nI 4 from rfl, nI_add, e_st R hd (by omega), Option.bind_some, hv, nI_add, rw_10 _ (by omega), Option.bind_some]
    rfl
/-- a constant's worth needs no local -/
theorem e_worth0 {d l c : Int32} : f_X11_worth 102 d 0 l c h = some (c, h) := by
  unfold f_X11_worth b_X11_worth_0
  rw [if_pos rfl]
  rfl
/-- the last queued value of a cell -/
def qv (f : Nat → Int32) (t : Nat) (c : Int32) : Nat → Nat → Int32 → Int32
  | 0, _, x => x
  | n + 1, i, x => qv f t c n (i + 1) (if f (32 + 8 * t + i) = c then f (64 + 8 * t + i) else x)
theorem l_qv {d t L : Nat} {c : Int32} (R : RH h) (hd : d < 20) (ht : t < 4) (hL : L ≤ 8) (hq : hp_i h 109 (142 * d + (28 + t)) = nI L) : ∀ n, n ≤ L → ∀ fu, n < fu → ∀ x, l_X11_queuedValue_14 fu 102 (nI d) (nI t) c x (nI (L - n)) h = some (qv (fun k => hp_i h 109 (142 * d + k)) t c n (L - n) x, h) := by
  intro n
  induction n with
  | zero =>
    intro _ fu hf x
    obtain ⟨fu, rfl⟩ : ∃ f, fu = f + 1 := ⟨fu - 1, by omega⟩
    show b_X11_queuedValue_14 (l_X11_queuedValue_14 fu) 102 (nI d) (nI t) c x (nI (L - 0)) h = _
    unfold b_X11_queuedValue_14
    rw [rh_v R, Option.bind_some, show (28 : Int32) = nI 28 from rfl, nI_add, e_st R hd (by omega), Option.bind_some, hq, if_pos ((cmp_N (by omega) (by omega)).mpr (by omega))]
    rfl
  | succ n ih =>
    intro hn fu hf x
    obtain ⟨fu, rfl⟩ : ∃ f, fu = f + 1 := ⟨fu - 1, by omega⟩
    have i2 : nI (L - (n + 1)) + (1 : Int32) = nI (L - n) := by
      rw [show (1 : Int32) = nI 1 from rfl, nI_add]
      congr 1
      omega
    have i3 : ∀ a, nI a + nI 8 * nI t + nI (L - (n + 1)) = nI (a + 8 * t + (L - (n + 1))) := fun a => by rw [pk_mul, nI_add, nI_add]
    have key : qv (fun k => hp_i h 109 (142 * d + k)) t c (n + 1) (L - (n + 1)) x = qv (fun k => hp_i h 109 (142 * d + k)) t c n (L - n) (if hp_i h 109 (142 * d + (32 + 8 * t + (L - (n + 1)))) = c then hp_i h 109 (142 * d + (64 + 8 * t + (L - (n + 1)))) else x) := by
      show qv _ t c n (L - (n + 1) + 1) _ = _
      rw [show L - (n + 1) + 1 = L - n by omega]
    rw [key]
    show b_X11_queuedValue_14 (l_X11_queuedValue_14 fu) 102 (nI d) (nI t) c x (nI (L - (n + 1))) h = _
    unfold b_X11_queuedValue_14
    rw [rh_v R, Option.bind_some, show (28 : Int32) = nI 28 from rfl, nI_add, e_st R hd (by omega), Option.bind_some, hq, if_neg (fun e => by have := (cmp_N (by omega) (by omega)).mp e; omega)]
    unfold b_X11_queuedValue_28
    rw [rh_v R, Option.bind_some, show (32 : Int32) = nI 32 from rfl, show (8 : Int32) = nI 8 from rfl, i3, e_st R hd (by omega), Option.bind_some]
    by_cases e : hp_i h 109 (142 * d + (32 + 8 * t + (L - (n + 1)))) = c
    · rw [if_pos e, if_pos e]
      unfold b_X11_queuedValue_47
      rw [rh_v R, Option.bind_some, show (64 : Int32) = nI 64 from rfl, show (8 : Int32) = nI 8 from rfl, i3, e_st R hd (by omega), Option.bind_some]
      unfold b_X11_queuedValue_67
      rw [i2]
      exact ih (by omega) fu (by omega) _
    · rw [if_neg e, if_neg e]
      unfold b_X11_queuedValue_65 b_X11_queuedValue_67
      rw [i2]
      exact ih (by omega) fu (by omega) _
theorem e_qv {d t L c : Nat} (R : RH h) (hd : d < 20) (ht : t < 4) (hc : c < 6) (hL : L ≤ 8) (hq : hp_i h 109 (142 * d + (28 + t)) = nI L) : f_X11_queuedValue 102 (nI d) (nI t) (nI c) h = some (qv (fun k => hp_i h 109 (142 * d + k)) t (nI c) L 0 (hp_i h 109 (142 * d + (14 + c))), h) := by
  unfold f_X11_queuedValue b_X11_queuedValue_0
  rw [rh_v R, Option.bind_some, show (14 : Int32) = nI 14 from rfl, nI_add, e_st R hd (by omega), Option.bind_some]
  have := l_qv (c := nI c) R hd ht hL hq L (Nat.le_refl _) fu_ (by show L < 200000; omega) (hp_i h 109 (142 * d + (14 + c)))
  rw [Nat.sub_self] at this
  exact this
end
