/-! ===== the three longs and the mid picture: the start, the outcome ===== -/
def m_bg (K : Nat → Nat → Int32) : Nat → Nat → Int64 → Int64
  | 0, _, T => T
  | n + 1, t, T => m_bg K n (t + 1) (m_go K (nI t) 64 T (K 7 t &&& 63))
/-- a local's value, a state's stuck threads, the class's number of an outcome -/
def av (ow : Nat → Nat) (nt : Nat) (a : AS) (l : Nat) : Nat := if ow l < nt then ix ((xa_lm a (ow l)).1 l) else 0
def ast (a : AS) : Nat → Nat
  | 0 => 0
  | t + 1 => ast a t + if xa_nx a t = 8 then 0 else 2 ^ t
def n16 (v : Nat → Nat) (s : Nat) : Nat := ((((v 0 * 16 + v 1) * 16 + v 2) * 16 + v 3) * 16 + v 4) * 16 + s
section
variable {K : Nat → Nat → Int32} {te ow : Nat → Nat} {na nt sz oc : Nat} {T C E : Int64} {a : AS}
theorem fd_0 {k w : Nat} : fd 0 k w = 0 := by
  unfold fd
  rw [show (0 : Int64).toBitVec.toNat = 0 from rfl, Nat.zero_div, Nat.zero_mod]
def BG (K : Nat → Nat → Int32) (ow : Nat → Nat) (oc t : Nat) (T : Int64) : Prop :=
  (∀ t', t' < t → d_nx T t' = (pa_ks (KP K) t').2 ∧ DL ow T t' (pa_ks (KP K) t').1 ∧ DP (KP K) oc ow T t' (pa_ks (KP K) t').1) ∧
  (∀ l, l < 5 → t ≤ ow l → d_va T l = 0 ∧ d_pu T l = 0) ∧ (oc ≠ 2 → ∀ l, l < 5 → d_pu T l = 0) ∧
  (∀ m, m < 2 → d_ho T m = 0) ∧ (∀ n, n < 8 → d_do T n = 0) ∧ (∀ n, n < 8 → d_qu T n = 0)
theorem q_bgs (Z : KW K te ow na nt sz) : ∀ (n t : Nat) (T : Int64), t + n = nt → BG K ow oc t T → BG K ow oc nt (m_bg K n t T) := by
  have hnt := Z.2.1
  have hsz := Z.2.2.1
  intro n
  induction n with
  | zero => intro t T h B; rw [show nt = t by omega]; exact B
  | succ n ih =>
    intro t T h B
    obtain ⟨b1, b2, b3, b4, b5, b6⟩ := B
    obtain ⟨s, s1, s2, s3⟩ := Z.2.2.2.2.2.1 t (by omega)
    unfold m_bg
    rw [s1, and_63 (by omega)]
    obtain ⟨v1, v2, v3, v4, v5⟩ := go_dec Z (P := KP K) (oc := oc) (t := t) (by omega) 64 T ((fun _ => 0, fun _ => 0) : LM) s s2 s3 (by
      intro l h1 h2
      rw [(b2 l h1 (by omega)).1]
      exact ⟨rfl, by omega⟩) (by
      intro h0 l h1 h2
      rw [(b2 l h1 (by omega)).2]
      constructor
      · intro h; omega
      · rintro ⟨m, h3, -⟩
        exact Nat.noConfusion h3)
    have hks : pa_ks (KP K) t = w_go K 64 ((fun _ => 0, fun _ => 0) : LM) s := by
      show w_go K 64 _ (ix (K 7 t)) = _
      rw [s1, ix_nI (by omega)]
    refine ih (t + 1) _ (by omega) ⟨fun t' ht' => ?_, fun l h1 h2 => ?_, fun h0 l h1 => v4 h0 l h1 (b3 h0 l h1), fun m hm => ?_, fun n' hn' => ?_, fun n' hn' => ?_⟩
    · by_cases htt : t' = t
      · subst htt
        rw [hks]
        exact ⟨v3, v1, v2⟩
      · obtain ⟨k1, k2, k3⟩ := b1 t' (by omega)
        refine ⟨?_, fun l h1 h2 => ?_, fun h0 l h1 h2 => ?_⟩
        · rw [← k1]
          exact v5 _ _ (df_nx (by omega) (by omega) htt)
        · have : d_va (m_go K (nI t) 64 T (nI s)) l = d_va T l := v5 _ _ (df_va (by omega) h1 (by omega))
          rw [this]; exact k2 l h1 h2
        · have : d_pu (m_go K (nI t) 64 T (nI s)) l = d_pu T l := v5 _ _ (df_pu (by omega) h1 (by omega))
          rw [this]; exact k3 h0 l h1 h2
    · have e1 : d_va (m_go K (nI t) 64 T (nI s)) l = d_va T l := v5 _ _ (df_va (by omega) h1 (by omega))
      have e2 : d_pu (m_go K (nI t) 64 T (nI s)) l = d_pu T l := v5 _ _ (df_pu (by omega) h1 (by omega))
      rw [e1, e2]
      exact b2 l h1 (by omega)
    · rw [← b4 m hm]; exact v5 _ _ (df_ho (by omega) (by omega) (by omega))
    · rw [← b5 n' hn']; exact v5 _ _ (df_do (by omega) (by omega) 1)
    · rw [← b6 n' hn']; exact v5 _ _ (df_do (by omega) (by omega) 1)
theorem q_bg (Z : KW K te ow na nt sz) : DC K ow nt oc (m_bg K nt 0 0) 0 0 (xa_0 (KP K)) := by
  have hB : BG K ow oc nt (m_bg K nt 0 0) := q_bgs Z nt 0 0 (by omega) ⟨fun t' h => by omega, fun l _ _ => ⟨fd_0, fd_0⟩, fun _ _ _ => fd_0, fun _ _ => fd_0, fun _ _ => fd_0, fun _ _ => fd_0⟩
  obtain ⟨b1, b2, b3, b4, b5, b6⟩ := hB
  refine ⟨b1, fun l h1 h2 => (b2 l h1 h2).1, b3, b4, fun n hn => ?_, fun n hn => ?_, fun _ c hc => ?_, fun _ n hn => ?_, fun _ => ⟨fun n hn => ?_, fun c hc _ => fd_0, fun n m hn hm => ?_⟩⟩
  · rw [b5 n hn]; exact ⟨fun h => by omega, fun h => h.elim⟩
  · rw [b6 n hn]; exact ⟨fun h => by omega, fun h => h.elim⟩
  · rw [show d_ce 0 c = 0 from fd_0]; exact ⟨rfl, by omega⟩
  · exact ⟨fun h => h.elim, fun _ => fd_0⟩
  · exact ⟨fun h => h.elim, fun _ => fd_0⟩
  · rw [show d_ea 0 n m = 0 from fd_0]; exact ⟨fun h => by omega, fun h => h.elim⟩
theorem q_av (D : DC K ow nt oc T C E a) {l : Nat} (hl : l < 5) : av ow nt a l = d_va T l ∧ d_va T l ≤ 9 := by
  unfold av
  by_cases h : ow l < nt
  · obtain ⟨h1, h2⟩ := (D.1 (ow l) h).2.1 l hl rfl
    rw [if_pos h, h1, ix_nI (by omega)]
    exact ⟨rfl, h2⟩
  · rw [if_neg h, D.2.1 l hl (by omega)]
    exact ⟨rfl, by omega⟩
theorem nt_or16 {Y v : Nat} (hv : v < 16) : Y * 16 ||| v = Y * 16 + v := by
  have := Nat.two_pow_add_eq_or_of_lt (i := 4) (b := v) hv Y
  rw [Nat.mul_comm Y 16]
  exact this.symm
theorem nt_orb {Y s i : Nat} (hi : i < 4) (hs : s < 2 ^ i) : (Y * 16 + s) ||| 2 ^ i = Y * 16 + (s + 2 ^ i) := by
  have h16 : 2 ^ i < 16 := Nat.pow_lt_pow_right (a := 2) (n := 4) (by decide) hi
  have h1 : s + 2 ^ i < 16 := by
    have : 2 ^ (i + 1) ≤ 2 ^ 4 := Nat.pow_le_pow_right (by decide) (by omega)
    rw [Nat.pow_succ] at this
    omega
  have h2 : s ||| 2 ^ i = s + 2 ^ i := by
    have := Nat.two_pow_add_eq_or_of_lt (i := i) hs 1
    rw [Nat.mul_one] at this
    rw [Nat.or_comm, ← this, Nat.add_comm]
  rw [← nt_or16 (show s < 16 by omega), Nat.or_assoc, h2, nt_or16 h1]
theorem q_o1s {X v : Nat} (hX : X < 2 ^ 20) (hv : v < 16) : (nI X <<< ((4 : Int32) &&& 31)) ||| nI v = nI (X * 16 + v) := by
  rw [show ((4 : Int32) &&& 31) = nI 4 &&& 31 from rfl, pk_shlN _ 4 (sh_32 4 (by omega)) (by omega), show X * 2 ^ 4 = X * 16 from rfl, nI_or (by omega) (by omega), nt_or16 hv]
theorem ast_lt (a : AS) : ∀ t, ast a t < 2 ^ t := by
  intro t
  induction t with
  | zero => exact Nat.one_pos
  | succ t ih =>
    unfold ast
    rw [Nat.pow_succ]
    split <;> omega
theorem q_o2s (Z : KW K te ow na nt sz) (D : DC K ow nt oc T C E a) {Y : Nat} (hY : Y < 2 ^ 20) (h8 : ∀ t, t < nt → xa_nx a t ≤ 8) : ∀ n, n ≤ nt → m_o2 T n (nt - n) (nI (Y * 16 + ast a (nt - n))) = nI (Y * 16 + ast a nt) := by
  have hnt := Z.2.1
  intro n
  induction n with
  | zero => intro _; rfl
  | succ n ih =>
    intro hn
    unfold m_o2
    have e : nt - (n + 1) + 1 = nt - n := by omega
    have hlt := ast_lt a (nt - (n + 1))
    have h16 : 2 ^ (nt - (n + 1)) ≤ 2 ^ 3 := Nat.pow_le_pow_right (by decide) (by omega)
    have hx := h8 (nt - (n + 1)) (by omega)
    have hstep : (if m_nx T (nI (nt - (n + 1))) = 8 then nI (Y * 16 + ast a (nt - (n + 1))) else nI (Y * 16 + ast a (nt - (n + 1))) ||| ((1 : Int32) <<< (nI (nt - (n + 1)) &&& 31))) = nI (Y * 16 + ast a (nt - n)) := by
      rw [q_nx (by omega), (D.1 _ (show nt - (n + 1) < nt by omega)).1, show (8 : Int32) = nI 8 from rfl, ← e, show ast a (nt - (n + 1) + 1) = ast a (nt - (n + 1)) + (if xa_nx a (nt - (n + 1)) = 8 then 0 else 2 ^ (nt - (n + 1))) from rfl]
      by_cases h : xa_nx a (nt - (n + 1)) = 8
      · rw [if_pos (by rw [h]), if_pos h]; rfl
      · rw [if_neg (by rw [nI_eq (by omega) (by omega)]; exact h), if_neg h, nI_one (by omega), nI_or (by omega) (by omega), nt_orb (by omega) hlt]
    rw [hstep, e]
    exact ih (by omega)
theorem q_out (Z : KW K te ow na nt sz) (I : xa_in (KP K) (ao oc) a) (D : DC K ow nt oc T C E a) : m_out K T = nI (n16 (av ow nt a) (ast a nt)) ∧ n16 (av ow nt a) (ast a nt) < 2 ^ 24 := by
  have hnt := Z.2.1
  obtain ⟨e0, h0⟩ := q_av D (show 0 < 5 by omega)
  obtain ⟨e1, h1⟩ := q_av D (show 1 < 5 by omega)
  obtain ⟨e2, h2⟩ := q_av D (show 2 < 5 by omega)
  obtain ⟨e3, h3⟩ := q_av D (show 3 < 5 by omega)
  obtain ⟨e4, h4⟩ := q_av D (show 4 < 5 by omega)
  have h8 : ∀ t, t < nt → xa_nx a t ≤ 8 := fun t ht => by
    have := I.1 t (by rw [kp_nt Z]; exact ht)
    rw [kp_na Z] at this
    have := Z.1
    omega
  have ho1 : m_o1 T 5 0 0 = nI ((((av ow nt a 0 * 16 + av ow nt a 1) * 16 + av ow nt a 2) * 16 + av ow nt a 3) * 16 + av ow nt a 4) := by
    show (((((((((((0 : Int32) <<< ((4 : Int32) &&& 31)) ||| m_va T (nI 0)) <<< ((4 : Int32) &&& 31)) ||| m_va T (nI 1)) <<< ((4 : Int32) &&& 31)) ||| m_va T (nI 2)) <<< ((4 : Int32) &&& 31)) ||| m_va T (nI 3)) <<< ((4 : Int32) &&& 31)) ||| m_va T (nI 4)) = _
    rw [q_va (by omega), q_va (by omega), q_va (by omega), q_va (by omega), q_va (by omega), show (0 : Int32) = nI 0 from rfl, q_o1s (by omega) (by omega), q_o1s (by omega) (by omega), q_o1s (by omega) (by omega), q_o1s (by omega) (by omega), q_o1s (by omega) (by omega), e0, e1, e2, e3, e4, Nat.zero_mul, Nat.zero_add]
  have hs := ast_lt a nt
  have hs16 : 2 ^ nt ≤ 2 ^ 4 := Nat.pow_le_pow_right (by decide) hnt
  unfold n16
  constructor
  · unfold m_out
    rw [ho1, Z.2.2.2.2.1, ix_nI (by omega)]
    have := q_o2s Z D (Y := (((av ow nt a 0 * 16 + av ow nt a 1) * 16 + av ow nt a 2) * 16 + av ow nt a 3) * 16 + av ow nt a 4) (by omega) h8 nt (Nat.le_refl nt)
    rw [Nat.sub_self] at this
    rw [← this]
    congr 1
    rw [show ((4 : Int32) &&& 31) = nI 4 &&& 31 from rfl, pk_shlN _ 4 (sh_32 4 (by omega)) (by omega)]
    rfl
  · omega
end
