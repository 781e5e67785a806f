/-! ===== the reference's reader: its exact steps, entries and expressions ===== -/
theorem op78 {a k : Nat} (h : a = 7 ∨ a = 8) (hk : k < 7) : a ≠ k := by omega
section
variable {Z : Nat → Nat → Int32} {tp : Nat → Nat} {n : Nat} {h : AH} {A A' : Nat → Nat → Int32} {j0 tc j th hd ne st : Nat} {E : List Ent} {AL : List Act} {SL : List Nat} {ow : Nat → Int32} {lb mb mk dn : Int32} {kd : Nat → Int32}
theorem s_emit {x : Ent} {a0 a1 a2 a3 a4 : Int32} (R : RZ h) (S : RR Z tp n A j0 tc j th hd ne st E AL SL ow lb mb mk dn kd) (hE : E.length < 64) (h9 : en_op x ≠ 9) (hq : en_jq x = none)
    (hI : ∀ F : Nat → Int32, F (60 + 5 * rxl E E.length + 0) = a0 → F (60 + 5 * rxl E E.length + 1) = a1 → F (60 + 5 * rxl E E.length + 2) = a2 → F (60 + 5 * rxl E E.length + 3) = a3 → F (60 + 5 * rxl E E.length + 4) = a4 → IR (E ++ [x]) F (rxl E E.length) x) :
    ∃ A', f_X11_emit 102 a0 a1 a2 a3 a4 (sA h A) = some (nI (rxl E E.length), sA h A') ∧ RR Z tp n A' j0 tc j th hd ne st (E ++ [x]) AL SL ow lb mb mk dn kd ∧ ∀ k, k ≠ 15 → A' 102 k = A 102 k := by
  obtain ⟨a, ⟨w1, w2, w3, w4, w5, w6⟩, c, ⟨d1, d2, d3, d4, d5, d6, d7⟩, e', f, g, i, k, l1, l2, l3, l4, l5, l6, l7⟩ := S
  have rl := rxl_le (E := E) (e := E.length)
  generalize hK : rxl E E.length = K at *
  have ek : ∀ r k, ¬ (r = 102 ∧ k = 15) → ¬ (r = 107 ∧ (60 + 5 * K ≤ k ∧ k < 65 + 5 * K)) → up_2 (up_2 (up_2 (up_2 (up_2 (up_2 A 102 15 (nI (K + 1))) 107 (60 + 5 * K) a0) 107 (60 + 5 * K + 1) a1) 107 (60 + 5 * K + 2) a2) 107 (60 + 5 * K + 3) a3) 107 (60 + 5 * K + 4) a4 r k = A r k := fun r k k1 k2 => by
    rw [u2 (by omega), u2 (by omega), u2 (by omega), u2 (by omega), u2 (by omega), u2 (by omega)]
  refine ⟨_, ?_, ⟨rt_cg a (fun r k k1 k2 k3 => ek r k (by omega) (by omega)), ?_, fun l hl => by rw [ek _ _ (by omega) (by omega)]; exact c l hl, ?_, fun q hq => by rw [ek _ _ (by omega) (by omega)]; exact e' q hq, fun t ht => ?_, fun m hm => by rw [ek _ _ (by omega) (by omega), ek _ _ (by omega) (by omega), ek _ _ (by omega) (by omega), ek _ _ (by omega) (by omega)]; exact g m hm, fun y hy => ?_, ⟨k.1, k.2.1, k.2.2.1, fun q hq => by rw [ek _ _ (by omega) (by omega)]; exact k.2.2.2 q hq⟩, by rw [ln_a]; omega, l2, l3, l4, l5, l6, l7⟩, fun k hk => ek _ _ (by omega) (by omega)⟩
  · unfold f_X11_emit b_X11_emit_0
    rw [v_g R, Option.bind_some, Option.bind_some, w2, da, v_p R, Option.bind_some, mu, ad, v_r7 R, Option.bind_some, v_s7 R (by omega), Option.bind_some, da, v_r7 R, Option.bind_some, v_s7 R (by omega), Option.bind_some, da, v_r7 R, Option.bind_some, v_s7 R (by omega), Option.bind_some, da, v_r7 R, Option.bind_some, v_s7 R (by omega), Option.bind_some, da, v_r7 R, Option.bind_some, v_s7 R (by omega), Option.bind_some]
  · rw [ek _ 11 (by omega) (by omega), ek _ 17 (by omega) (by omega), ek _ 18 (by omega) (by omega), ek _ 19 (by omega) (by omega), ek _ 20 (by omega) (by omega)]
    refine ⟨w1, ?_, w3, w4, w5, w6⟩
    rw [u2 (by omega), u2 (by omega), u2 (by omega), u2 (by omega), u2 (by omega), u2s, ln_a, rxl_s, if_neg h9, hK]
  · rw [ek _ 6 (by omega) (by omega), ek _ 7 (by omega) (by omega), ek _ 8 (by omega) (by omega), ek _ 9 (by omega) (by omega), ek _ 10 (by omega) (by omega), ek _ 11 (by omega) (by omega), ek _ 12 (by omega) (by omega)]
    exact ⟨d1, d2, d3, d4, d5, d6, d7⟩
  · rw [ek _ _ (by omega) (by omega), rxl_a (f t ht).2, ln_a]
    exact ⟨(f t ht).1, by have := (f t ht).2; omega⟩
  · rw [ln_a] at hy
    by_cases ey : y = E.length
    · subst ey
      rw [gd_e, rxl_a (Nat.le_refl _), hK]
      refine ⟨fun _ => hI _ ?_ ?_ ?_ ?_ ?_, fun y hy => by rw [hq] at hy; cases hy⟩
      · rw [u2 (by omega), u2 (by omega), u2 (by omega), u2 (by omega)]; exact u2s
      · rw [u2 (by omega), u2 (by omega), u2 (by omega), u2s]
      · rw [u2 (by omega), u2 (by omega), u2s]
      · rw [u2 (by omega), u2s]
      · rw [u2s]
    · have hy' : y < E.length := by omega
      rw [gd_l hy', rxl_a (by omega), ln_a]
      refine ⟨fun h9' => ?_, fun z hz => by have := (i y hy').2 z hz; omega⟩
      have lt := rxl_lt hy' h9'
      have mo := rxl_mono (E := E) (e := y + 1) (e' := E.length) (by omega)
      exact ir_F (fun q hq => ek _ _ (by omega) (by omega)) (ir_E (fun z hz => rxl_a ((i y hy').2 z hz)) ((i y hy').1 h9'))
theorem s_close {x : Ent} (S : RR Z tp n A j0 tc j th hd ne st E AL SL ow lb mb mk dn kd) (hE : E.length < 64) (h9 : en_op x = 9) (hq : en_jq x = none) : RR Z tp n A j0 tc j th hd ne st (E ++ [x]) AL SL ow lb mb mk dn kd := by
  obtain ⟨a, ⟨w1, w2, w3, w4, w5, w6⟩, c, d, e', f, g, i, k, l1, l2⟩ := S
  refine ⟨a, ⟨w1, by rw [ln_a, rxl_s, if_pos h9, Nat.add_zero]; exact w2, w3, w4, w5, w6⟩, c, d, e', fun t ht => ?_, g, fun y hy => ?_, k, by rw [ln_a]; omega, l2⟩
  · rw [rxl_a (f t ht).2, ln_a]
    exact ⟨(f t ht).1, by have := (f t ht).2; omega⟩
  · rw [ln_a] at hy
    by_cases ey : y = E.length
    · subst ey
      rw [gd_e]
      exact ⟨fun h => absurd h9 h, fun y hy => by rw [hq] at hy; cases hy⟩
    · have hy' : y < E.length := by omega
      rw [gd_l hy', rxl_a (by omega), ln_a]
      exact ⟨fun h9' => ir_E (fun z hz => rxl_a ((i y hy').2 z hz)) ((i y hy').1 h9'), fun z hz => by have := (i y hy').2 z hz; omega⟩
/-- entry e with its jump -/
def sJ (x : Ent) (p q : Option Nat) : Ent := (en_op x, en_tl x, en_bs x, en_dg x, en_ob x, p, q, en_nu x, en_te x)
/-- a jump of the reference is set -/
theorem s_jq {e k : Nat} {pj : Option Nat} (S : RR Z tp n A j0 tc j th hd ne st E AL SL ow lb mb mk dn kd) (he : e < E.length) (hk : k = if en_op (E.getD e dE) = 7 then 3 else 1) (h78 : en_op (E.getD e dE) = 7 ∨ en_op (E.getD e dE) = 8) :
    RR Z tp n (up_2 A 107 (60 + 5 * rxl E e + k) (nI (rxl E E.length))) j0 tc j th hd ne st (E.set e (sJ (E.getD e dE) pj (some E.length))) AL SL ow lb mb mk dn kd := by
  obtain ⟨a, ⟨w1, w2, w3, w4, w5, w6⟩, c, ⟨d1, d2, d3, d4, d5, d6, d7⟩, e', f, g, i, kk, l1, l2, l3, l4, l5, l6, l7⟩ := S
  have hk4 : k < 5 ∧ 0 < k := by
    rw [hk]; split <;> omega
  have re := rxl_le (E := E) (e := e)
  have rs : ∀ z, rxl (E.set e (sJ (E.getD e dE) pj (some E.length))) z = rxl E z := fun z => rxl_set he rfl
  have ek : ∀ r q, ¬ (r = 107 ∧ 60 ≤ q ∧ q < 400) → up_2 A 107 (60 + 5 * rxl E e + k) (nI (rxl E E.length)) r q = A r q := fun r q hq => u2 (by omega)
  have h9e : en_op (E.getD e dE) ≠ 9 := by omega
  refine ⟨rt_cg a (fun r k k1 k2 k3 => ek r k (by omega)), ?_, fun l hl => by rw [ek _ _ (by omega)]; exact c l hl, ?_, fun q hq => by rw [ek _ _ (by omega)]; exact e' q hq, fun t ht => by rw [ek _ _ (by omega), rs, List.length_set]; exact f t ht, fun m hm => by rw [ek _ _ (by omega), ek _ _ (by omega), ek _ _ (by omega), ek _ _ (by omega)]; exact g m hm, fun y hy => ?_, ⟨kk.1, kk.2.1, kk.2.2.1, fun q hq => by rw [ek _ _ (by omega)]; exact kk.2.2.2 q hq⟩, by rw [List.length_set]; exact l1, l2, l3, l4, l5, l6, l7⟩
  · rw [ek _ 11 (by omega), ek _ 15 (by omega), ek _ 17 (by omega), ek _ 18 (by omega), ek _ 19 (by omega), ek _ 20 (by omega), List.length_set, rs]
    exact ⟨w1, w2, w3, w4, w5, w6⟩
  · rw [ek _ 6 (by omega), ek _ 7 (by omega), ek _ 8 (by omega), ek _ 9 (by omega), ek _ 10 (by omega), ek _ 11 (by omega), ek _ 12 (by omega)]
    exact ⟨d1, d2, d3, d4, d5, d6, d7⟩
  · rw [List.length_set] at hy ⊢
    rw [set_g he, rs]
    by_cases ey : y = e
    · subst ey
      rw [if_pos rfl]
      refine ⟨fun _ => ?_, fun z hz => by cases hz; exact Nat.le_refl _⟩
      have I := (i y he).1 h9e
      obtain ⟨i0, i1, i2, i3, i4, i5, i6, i7, i8⟩ := I
      have k0 : up_2 A 107 (60 + 5 * rxl E y + k) (nI (rxl E E.length)) 107 (60 + 5 * rxl E y + 0) = A 107 (60 + 5 * rxl E y + 0) := u2 (by omega)
      refine ⟨by rw [k0]; exact i0, fun o => ?_, fun o => ?_, fun o => ?_, fun o => ?_, fun o => ?_, fun o => ?_, fun o => ?_, fun o => ?_⟩
      · exact o.elim (fun o => absurd o (op78 (a := en_op (E.getD y dE)) h78 (by decide))) (fun o => absurd o (op78 (a := en_op (E.getD y dE)) h78 (by decide)))
      · exact absurd o (op78 (a := en_op (E.getD y dE)) h78 (by decide))
      · exact absurd o (op78 (a := en_op (E.getD y dE)) h78 (by decide))
      · exact o.elim (fun o => absurd o (op78 (a := en_op (E.getD y dE)) h78 (by decide))) (fun o => absurd o (op78 (a := en_op (E.getD y dE)) h78 (by decide)))
      · exact absurd o (op78 (a := en_op (E.getD y dE)) h78 (by decide))
      · exact absurd o (op78 (a := en_op (E.getD y dE)) h78 (by decide))
      · have o' : en_op (E.getD y dE) = 7 := o
        rw [if_pos o'] at hk
        subst hk
        refine ⟨by rw [u2 (by omega)]; exact (i7 o').1, by rw [u2 (by omega)]; exact (i7 o').2.1, fun z hz => ?_⟩
        cases hz
        rw [u2s, rs]
      · have o' : en_op (E.getD y dE) = 8 := o
        rw [if_neg (by rw [o']; decide)] at hk
        subst hk
        intro z hz
        cases hz
        rw [u2s, rs]
    · rw [if_neg ey]
      refine ⟨fun h9' => ir_F (fun q hq => u2 ?_) (ir_E (fun z hz => rs z) ((i y hy).1 h9')), (i y hy).2⟩
      right
      intro eq
      have := rxl_inj hy he h9' h9e (by omega)
      exact ey this
/-- what the reference does not read of an entry -/
theorem rr_jp {e : Nat} {pj : Option Nat} (S : RR Z tp n A j0 tc j th hd ne st E AL SL ow lb mb mk dn kd) (he : e < E.length) : RR Z tp n A j0 tc j th hd ne st (E.set e (sJ (E.getD e dE) pj (en_jq (E.getD e dE)))) AL SL ow lb mb mk dn kd := by
  obtain ⟨a, ⟨w1, w2, w3, w4, w5, w6⟩, c, d, e', f, g, i, kk, l1, l2⟩ := S
  have rs : ∀ z, rxl (E.set e (sJ (E.getD e dE) pj (en_jq (E.getD e dE)))) z = rxl E z := fun z => rxl_set he rfl
  refine ⟨a, ⟨w1, by rw [List.length_set, rs]; exact w2, w3, w4, w5, w6⟩, c, d, e', fun t ht => by rw [rs, List.length_set]; exact f t ht, g, fun y hy => ?_, kk, by rw [List.length_set]; exact l1, l2⟩
  rw [List.length_set] at hy ⊢
  rw [set_g he, rs]
  by_cases ey : y = e
  · subst ey
    rw [if_pos rfl]
    exact ⟨fun h9 => ir_E (fun z hz => rs z) ((i y he).1 h9), (i y he).2⟩
  · rw [if_neg ey]
    exact ⟨fun h9 => ir_E (fun z hz => rs z) ((i y hy).1 h9), (i y hy).2⟩
/-- other fields of the object 102 -/
theorem rr_102 {k : Nat} {v : Int32} (S : RR Z tp n A j0 tc j th hd ne st E AL SL ow lb mb mk dn kd) (hk : k = 21 ∨ k = 23 ∨ (k = 22 ∧ ∃ l, l < 5 ∧ v = nI l)) : RR Z tp n (up_2 A 102 k v) j0 tc j th hd ne st E AL SL ow lb mb mk dn kd := by
  have T : RT Z tp n (up_2 A 102 k v) j := by
    obtain e | e | ⟨e, l, l1, l2⟩ := hk
    · exact rt_cg S.1 (fun r q k1 k2 k3 => u2 (by omega))
    · exact rt_cg S.1 (fun r q k1 k2 k3 => u2 (by omega))
    · subst e; subst l2; exact rt_22 S.1 l1
  have kk : k = 21 ∨ k = 22 ∨ k = 23 := by omega
  refine rr_fld S T (fun r q k1 k2 k3 => u2 (by omega)) (fun l hl => by rw [u2 (by omega)]; exact S.2.2.1 l hl) ?_ ?_ ?_ ?_ ?_ ?_ ?_ S.2.2.2.2.2.2.2.2.2.2.2.2.2.2.1 S.2.2.2.2.2.2.2.2.2.2.2.2.2.2.2 S.2.2.2.2.2.2.2.2.2.2.2.2.1
  · rw [u2 (by omega)]; exact S.2.1.2.2.2.1
  · rw [u2 (by omega)]; exact S.2.1.2.2.2.2.1
  · rw [u2 (by omega)]; exact S.2.1.2.2.2.2.2
  · rw [u2 (by omega)]; exact S.2.2.2.1.2.2.1
  · rw [u2 (by omega)]; exact S.2.2.2.1.2.2.2.1
  · rw [u2 (by omega)]; exact S.2.2.2.1.2.2.2.2.1
  · rw [u2 (by omega)]; exact S.2.2.2.1.2.2.2.2.2.1
end
