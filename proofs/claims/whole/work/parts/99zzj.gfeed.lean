/-! ===== feed ===== -/
theorem an255 (v : Int32) : ∃ k, k < 256 ∧ v &&& (255 : Int32) = nI k := by
  have e : (v &&& (255 : Int32)).toBitVec = v.toBitVec &&& 255#32 := rfl
  have lt : (v &&& (255 : Int32)).toBitVec.toNat < 256 := by
    rw [e, BitVec.toNat_and]
    exact Nat.lt_of_le_of_lt Nat.and_le_right (by decide)
  refine ⟨(v &&& (255 : Int32)).toBitVec.toNat, lt, ?_⟩
  apply Int32.toBitVec_inj.mp
  have : ∀ b : BitVec 32, b.toNat < 256 → b = (nI b.toNat).toBitVec := fun b hb => by
    apply BitVec.eq_of_toNat_eq
    show _ = ((Int32.ofNat b.toNat).toBitVec).toNat
    rw [Int32.toBitVec_ofNat', BitVec.toNat_ofNat, Nat.mod_eq_of_lt (by omega)]
  exact this _ lt
theorem bv_sh (x : BitVec 32) {n : Nat} (hn : n ≤ 24) : (x >>> n) &&& 255#32 = (x.sshiftRight n) &&& 255#32 := by
  apply BitVec.eq_of_getLsbD_eq
  intro i hi
  rw [BitVec.getLsbD_and, BitVec.getLsbD_and, BitVec.getLsbD_ushiftRight, BitVec.getLsbD_sshiftRight]
  by_cases c : i < 8
  · have h1 : ¬ 32 ≤ i := by omega
    rw [if_pos (by omega)]
    simp [h1]
  · have : (255#32).getLsbD i = false := by
      have hh : i = 8 ∨ i = 9 ∨ i = 10 ∨ i = 11 ∨ i = 12 ∨ i = 13 ∨ i = 14 ∨ i = 15 ∨ i = 16 ∨ i = 17 ∨ i = 18 ∨ i = 19 ∨ i = 20 ∨ i = 21 ∨ i = 22 ∨ i = 23 ∨ i = 24 ∨ i = 25 ∨ i = 26 ∨ i = 27 ∨ i = 28 ∨ i = 29 ∨ i = 30 ∨ i = 31 := by omega
      rcases hh with h | h | h | h | h | h | h | h | h | h | h | h | h | h | h | h | h | h | h | h | h | h | h | h <;> rw [h] <;> decide
    rw [this, Bool.and_false, Bool.and_false]
/-- byte i of a number -/
def bt (a : Int32) (i : Nat) : Int32 := (us_i a (nI (24 - 8 * i))) &&& 255
theorem bt_r (a : Int32) {i : Nat} (hi : i < 4) : (a >>> (nI (24 - 8 * i) &&& 31)) &&& 255 = bt a i := by
  have key : ∀ n, n ≤ 24 → (nI n &&& 31).toBitVec.smod 32#32 = BitVec.ofNat 32 n → (nI n).toUInt32 &&& Int32.toUInt32 31 = UInt32.ofNat n → (a >>> (nI n &&& 31)) &&& 255 = (us_i a (nI n)) &&& 255 := fun n h1 h2 h3 => by
    apply Int32.toBitVec_inj.mp
    show (a.toBitVec.sshiftRight' ((nI n &&& 31).toBitVec.smod 32#32)) &&& 255#32 = (a.toUInt32 >>> ((nI n).toUInt32 &&& Int32.toUInt32 31)).toBitVec &&& 255#32
    rw [h2, h3, BitVec.sshiftRight']
    have e1 : (BitVec.ofNat 32 n).toNat = n := by rw [BitVec.toNat_ofNat, Nat.mod_eq_of_lt (by omega)]
    rw [e1, ← bv_sh _ h1]
    have e2 : (a.toUInt32 >>> UInt32.ofNat n).toBitVec = a.toBitVec >>> n := by
      show a.toBitVec >>> ((UInt32.ofNat n % 32).toBitVec) = _
      have : (UInt32.ofNat n % 32).toBitVec.toNat = n := by
        show (UInt32.ofNat n % 32).toNat = n
        have e32 : (32 : UInt32).toNat = 32 := rfl
        rw [UInt32.toNat_mod, UInt32.toNat_ofNat', e32]
        omega
      show a.toBitVec >>> ((UInt32.ofNat n % 32).toBitVec.toNat) = _
      rw [this]
    rw [e2]
  obtain h | h | h | h : i = 0 ∨ i = 1 ∨ i = 2 ∨ i = 3 := by omega
  all_goals
    subst h
    exact key _ (by decide) (by decide) (by decide)
def argf (a1 a2 a3 a4 a5 : Int32) (q : Nat) : Int32 := if q = 0 then a1 else if q = 1 then a2 else if q = 2 then a3 else if q = 3 then a4 else a5
section
variable {h : AH} {g g' : SG} {m : Nat} {A : Nat → Nat → Int32}
theorem c_fb {r3 : Nat → Int32 → Int32 → AH → Option AH} {a s : Int32} {n : Nat} (o64 : ok_o h 64 10) (r0 : hp_r h 64 0 = 65) (o65 : ok_o h 65 100) (l65 : hp_l h 65 = 1000) (hn : n < 1000) (h7 : A 64 7 = nI n) (hs : ¬ s < 0) : b_X10_feedNumber_3 r3 64 a s (sA h A) = r3 64 a (s + (-8 : Int32)) (sA h (up_2 (up_2 A 65 n ((us_i a s) &&& 255)) 64 7 (nI (n + 1)))) := by
  unfold b_X10_feedNumber_3 b_X10_feedNumber_7
  rw [if_neg hs, q_i o64, Option.bind_some, h7, if_neg (show ¬ (1000 : Int32) ≤ nI n from nI_ge (b := 1000) hn (by omega))]
  unfold b_X10_feedNumber_17 b_X10_feedNumber_43
  rw [q_r o64 r0, Option.bind_some, q_i o64, Option.bind_some, h7, q_s o65 (by omega) (by omega), Option.bind_some, q_i o64, Option.bind_some, u2 (by omega), h7, da, q_p o64, Option.bind_some]
theorem c_fn {a : Int32} {n : Nat} (o64 : ok_o h 64 10) (r0 : hp_r h 64 0 = 65) (o65 : ok_o h 65 100) (l65 : hp_l h 65 = 1000) (hn : n + 4 ≤ 1000) (h7 : A 64 7 = nI n) : ∃ A', f_X10_feedNumber 64 a (sA h A) = some (sA h A') ∧ A' 64 7 = nI (n + 4) ∧ (∀ i, i < 4 → A' 65 (n + i) = bt a i) ∧ ∀ r k, ¬ (r = 64 ∧ k = 7) → ¬ (r = 65 ∧ n ≤ k ∧ k < n + 4) → A' r k = A r k := by
  refine ⟨up_2 (up_2 (up_2 (up_2 (up_2 (up_2 (up_2 (up_2 A 65 n (bt a 0)) 64 7 (nI (n + 1))) 65 (n + 1) (bt a 1)) 64 7 (nI (n + 1 + 1))) 65 (n + 1 + 1) (bt a 2)) 64 7 (nI (n + 1 + 1 + 1))) 65 (n + 1 + 1 + 1) (bt a 3)) 64 7 (nI (n + 1 + 1 + 1 + 1)), ?_, u2s, fun i hi => ?_, fun r k h1 h2 => ?_⟩
  · unfold f_X10_feedNumber b_X10_feedNumber_0
    obtain ⟨f, hf⟩ : ∃ f, fu_ = f + 1 + 1 + 1 + 1 + 1 := ⟨199995, rfl⟩
    rw [hf]
    show b_X10_feedNumber_3 (l_X10_feedNumber_3 (f + 1 + 1 + 1 + 1)) 64 a 24 (sA h A) = _
    rw [c_fb (n := n) o64 r0 o65 l65 (by omega) h7 (by decide)]
    show b_X10_feedNumber_3 (l_X10_feedNumber_3 (f + 1 + 1 + 1)) 64 a 16 (sA h (up_2 (up_2 A 65 n (bt a 0)) 64 7 (nI (n + 1)))) = _
    rw [c_fb (n := n + 1) o64 r0 o65 l65 (by omega) u2s (by decide)]
    show b_X10_feedNumber_3 (l_X10_feedNumber_3 (f + 1 + 1)) 64 a 8 (sA h (up_2 (up_2 (up_2 (up_2 A 65 n (bt a 0)) 64 7 (nI (n + 1))) 65 (n + 1) (bt a 1)) 64 7 (nI (n + 1 + 1)))) = _
    rw [c_fb (n := n + 1 + 1) o64 r0 o65 l65 (by omega) u2s (by decide)]
    show b_X10_feedNumber_3 (l_X10_feedNumber_3 (f + 1)) 64 a 0 (sA h (up_2 (up_2 (up_2 (up_2 (up_2 (up_2 A 65 n (bt a 0)) 64 7 (nI (n + 1))) 65 (n + 1) (bt a 1)) 64 7 (nI (n + 1 + 1))) 65 (n + 1 + 1) (bt a 2)) 64 7 (nI (n + 1 + 1 + 1)))) = _
    rw [c_fb (n := n + 1 + 1 + 1) o64 r0 o65 l65 (by omega) u2s (by decide)]
    show b_X10_feedNumber_3 (l_X10_feedNumber_3 f) 64 a (-8) _ = _
    unfold b_X10_feedNumber_3
    rw [if_pos (by decide)]
    rfl
  · obtain h | h | h | h : i = 0 ∨ i = 1 ∨ i = 2 ∨ i = 3 := by omega
    · subst h; rw [u2 (by omega), u2 (by omega), u2 (by omega), u2 (by omega), u2 (by omega), u2 (by omega), u2 (by omega)]; exact u2s
    · subst h; rw [u2 (by omega), u2 (by omega), u2 (by omega), u2 (by omega), u2 (by omega)]; exact u2s
    · subst h; rw [u2 (by omega), u2 (by omega), u2 (by omega)]; exact u2s
    · subst h; rw [u2 (by omega)]; exact u2s
  · rw [u2 (by omega), u2 (by omega), u2 (by omega), u2 (by omega), u2 (by omega), u2 (by omega), u2 (by omega), u2 (by omega)]
theorem r_fd {a1 a2 a3 a4 a5 : Int32} {n : Nat} (Z : RZ h) (hn : n + 20 ≤ 1000) : ∀ j f (A : Nat → Nat → Int32), j ≤ 20 → j < f → A 102 3 = nI (n + (20 - j)) → ∃ A', l_X11_feed_23 f 102 a1 a2 a3 a4 a5 (nI (20 - j)) (sA h A) = some (nI (n + 20), sA h A') ∧ A' 102 3 = nI (n + 20) ∧ (∀ k, 20 - j ≤ k → k < 20 → A' 103 (n + k) = bt (argf a1 a2 a3 a4 a5 (k / 4)) (k % 4)) ∧ ∀ r q, ¬ (r = 102 ∧ q = 3) → ¬ (r = 103 ∧ n + (20 - j) ≤ q ∧ q < n + 20) → A' r q = A r q := by
  have c1 : ∀ A : Nat → Nat → Int32, g_r (sA h A) 102 11 1 = some 103 := fun A => rz_r (f := 1) (r := 103) (l := 1000) (sA_rz Z) (by decide)
  intro j
  induction j with
  | zero =>
    intro f A _ hf h3
    obtain ⟨f, rfl⟩ : ∃ f', f = f' + 1 := ⟨f - 1, by omega⟩
    refine ⟨A, ?_, h3, fun k h1 h2 => by omega, fun _ _ _ _ => rfl⟩
    show b_X11_feed_23 (l_X11_feed_23 f) 102 a1 a2 a3 a4 a5 (nI 20) (sA h A) = _
    unfold b_X11_feed_23
    rw [if_pos (show (20 : Int32) ≤ nI 20 by decide)]
    unfold b_X11_feed_120
    rw [v_g Z, Option.bind_some, h3]
  | succ j ih =>
    intro f A hj hf h3
    obtain ⟨f, rfl⟩ : ∃ f', f = f' + 1 := ⟨f - 1, by omega⟩
    have ej : 20 - (j + 1) + 1 = 20 - j := by omega
    generalize hk : 20 - (j + 1) = k at *
    have e76 : b_X11_feed_23 (l_X11_feed_23 f) 102 a1 a2 a3 a4 a5 (nI k) (sA h A) = b_X11_feed_76 (l_X11_feed_23 f) 102 a1 a2 a3 a4 a5 (nI k) (argf a1 a2 a3 a4 a5 (k / 4)) (sA h A) := by
      unfold b_X11_feed_23 b_X11_feed_30
      rw [if_neg (show ¬ (20 : Int32) ≤ nI k from nI_ge (b := 20) (by omega) (by omega))]
      unfold argf
      by_cases c4 : k < 4
      · rw [if_neg (show ¬ (4 : Int32) ≤ nI k from nI_ge (b := 4) c4 (by omega)), if_pos (by omega)]; rfl
      · rw [if_pos (show (4 : Int32) ≤ nI k from nI_le (a := 4) (by omega) (by omega)), if_neg (by omega)]
        unfold b_X11_feed_40
        by_cases c8 : k < 8
        · rw [if_neg (show ¬ (8 : Int32) ≤ nI k from nI_ge (b := 8) c8 (by omega)), if_pos (by omega)]; rfl
        · rw [if_pos (show (8 : Int32) ≤ nI k from nI_le (a := 8) (by omega) (by omega)), if_neg (by omega)]
          unfold b_X11_feed_51
          by_cases c12 : k < 12
          · rw [if_neg (show ¬ (12 : Int32) ≤ nI k from nI_ge (b := 12) c12 (by omega)), if_pos (by omega)]; rfl
          · rw [if_pos (show (12 : Int32) ≤ nI k from nI_le (a := 12) (by omega) (by omega)), if_neg (by omega)]
            unfold b_X11_feed_62
            by_cases c16 : k < 16
            · rw [if_neg (show ¬ (16 : Int32) ≤ nI k from nI_ge (b := 16) c16 (by omega)), if_pos (by omega)]; rfl
            · rw [if_pos (show (16 : Int32) ≤ nI k from nI_le (a := 16) (by omega) (by omega)), if_neg (by omega)]; rfl
    have rm4 : rm_i (nI k) (4 : Int32) = some (nI (k % 4)) := by
      have : ∀ k, k < 20 → rm_i (nI k) (4 : Int32) = some (nI (k % 4)) := by decide
      exact this k (by omega)
    have sh : (24 : Int32) - ((8 : Int32) * nI (k % 4)) = nI (24 - 8 * (k % 4)) := by
      have : ∀ q, q < 4 → (24 : Int32) - ((8 : Int32) * nI q) = nI (24 - 8 * q) := by decide
      exact this _ (by omega)
    obtain ⟨A', x1, x2, x3, x4⟩ := ih f (up_2 (up_2 A 103 (n + k) (bt (argf a1 a2 a3 a4 a5 (k / 4)) (k % 4))) 102 3 (nI (n + (20 - j)))) (by omega) (by omega) u2s
    refine ⟨A', ?_, x2, fun q h1 h2 => ?_, fun r q h1 h2 => by rw [x4 r q h1 (by omega), u2 (by omega), u2 (by omega)]⟩
    · show b_X11_feed_23 (l_X11_feed_23 f) 102 a1 a2 a3 a4 a5 (nI k) (sA h A) = _
      rw [e76]
      unfold b_X11_feed_76
      rw [c1, Option.bind_some, v_g Z, Option.bind_some, h3, rm4, Option.bind_some, sh, bt_r _ (by omega), show s_i (sA h A) 103 (nI (n + k)) (bt (argf a1 a2 a3 a4 a5 (k / 4)) (k % 4)) = some (sA h (up_2 A 103 (n + k) (bt (argf a1 a2 a3 a4 a5 (k / 4)) (k % 4)))) from rz_s (f := 1) (r := 103) (l := 1000) (sA_rz Z) (by decide) (by omega) (by omega), Option.bind_some, v_g Z, Option.bind_some, u2 (by omega), h3, da, show n + k + 1 = n + (20 - j) by omega, v_p Z, Option.bind_some, da, ej]
      exact x1
    · by_cases q0 : q = k
      · rw [q0, x4 _ _ (by omega) (by omega), u2 (by omega), u2s]
      · exact x3 q (by omega) h2
theorem s_feed {a1 a2 a3 a4 a5 : Int32} (G : GC h g m) (R : GR h g) : STP (f_X10_feed 64 a1 a2 a3 a4 a5) (f_X11_feed 102 a1 a2 a3 a4 a5) h m := by
  obtain ⟨⟨o64, r0, -⟩, C, -⟩ := G.2.1
  have o65 := C.2.2.2.2.1.1
  have l65 := C.2.2.2.2.1.2
  obtain ⟨n1, n2⟩ := gc_n G
  generalize hn : sn g = n at *
  have eR : ∀ H, GR H g → ∃ H0, GR H0 g ∧ RLF H H0 ∧ f_X11_feed 102 a1 a2 a3 a4 a5 H = if nI (n + 20) ≤ (1000 : Int32) then b_X11_feed_20 102 a1 a2 a3 a4 a5 H0 else b_X11_feed_18 H0 := fun H R => by
    obtain ⟨H0, e0, R0, L0, -⟩ := r_thr (v := 0) R
    refine ⟨H0, R0, L0, ?_⟩
    unfold f_X11_feed b_X11_feed_0
    rw [e0, Option.bind_some, rz_g R0.1, Option.bind_some, R0.2.1.1.1, hn, da]
  by_cases c : n ≤ 980
  · have h7 : hp_i h 64 7 = nI n := by rw [G.2.2.1.1.1, hn]
    obtain ⟨A1, x1, y1, z1, w1⟩ := c_fn (a := a1) (A := hp_i h) o64 r0 o65 l65 (by omega) h7
    obtain ⟨A2, x2, y2, z2, w2⟩ := c_fn (a := a2) (A := A1) o64 r0 o65 l65 (by omega) y1
    obtain ⟨A3, x3, y3, z3, w3⟩ := c_fn (a := a3) (A := A2) o64 r0 o65 l65 (by omega) y2
    obtain ⟨A4, x4, y4, z4, w4⟩ := c_fn (a := a4) (A := A3) o64 r0 o65 l65 (by omega) y3
    obtain ⟨A5, x5, y5, z5, w5⟩ := c_fn (a := a5) (A := A4) o64 r0 o65 l65 (by omega) y4
    have wA : ∀ r k, ¬ (r = 64 ∧ k = 7) → ¬ (r = 65 ∧ n ≤ k ∧ k < n + 20) → A5 r k = hp_i h r k := fun r k h1 h2 => by
      rw [w5 r k h1 (by omega), w4 r k h1 (by omega), w3 r k h1 (by omega), w2 r k h1 (by omega), w1 r k h1 (by omega)]
    have zA : ∀ k, k < 20 → A5 65 (n + k) = bt (argf a1 a2 a3 a4 a5 (k / 4)) (k % 4) := fun k hk => by
      unfold argf
      by_cases c4 : k < 4
      · rw [if_pos (by omega), w5 _ _ (by omega) (by omega), w4 _ _ (by omega) (by omega), w3 _ _ (by omega) (by omega), w2 _ _ (by omega) (by omega), z1 k c4, Nat.mod_eq_of_lt c4]
      · rw [if_neg (by omega)]
        by_cases c8 : k < 8
        · rw [if_pos (by omega), w5 _ _ (by omega) (by omega), w4 _ _ (by omega) (by omega), w3 _ _ (by omega) (by omega), show n + k = n + 4 + k % 4 by omega, z2 _ (by omega)]
        · rw [if_neg (by omega)]
          by_cases c12 : k < 12
          · rw [if_pos (by omega), w5 _ _ (by omega) (by omega), w4 _ _ (by omega) (by omega), show n + k = n + 4 + 4 + k % 4 by omega, z3 _ (by omega)]
          · rw [if_neg (by omega)]
            by_cases c16 : k < 16
            · rw [if_pos (by omega), w5 _ _ (by omega) (by omega), show n + k = n + 4 + 4 + 4 + k % 4 by omega, z4 _ (by omega)]
            · rw [if_neg (by omega), show n + k = n + 4 + 4 + 4 + 4 + k % 4 by omega, z5 _ (by omega)]
    have btN : ∀ k, k < 20 → bt (argf a1 a2 a3 a4 a5 (k / 4)) (k % 4) = nI (ix (bt (argf a1 a2 a3 a4 a5 (k / 4)) (k % 4))) ∧ ix (bt (argf a1 a2 a3 a4 a5 (k / 4)) (k % 4)) < 256 := fun k _ => by
      obtain ⟨b, b1, b2⟩ := an255 (us_i (argf a1 a2 a3 a4 a5 (k / 4)) (nI (24 - 8 * (k % 4))))
      have : bt (argf a1 a2 a3 a4 a5 (k / 4)) (k % 4) = nI b := b2
      rw [this, ix_nI (by omega)]
      exact ⟨rfl, b1⟩
    generalize hT : (fun k => if k < n then stpe g k else ix (bt (argf a1 a2 a3 a4 a5 ((k - n) / 4)) ((k - n) % 4))) = T
    have T1 : ∀ k, k < n → T k = stpe g k := fun k hk => by rw [← hT]; exact if_pos hk
    have T2 : ∀ k, k < 20 → T (n + k) = ix (bt (argf a1 a2 a3 a4 a5 (k / 4)) (k % 4)) := fun k hk => by
      rw [← hT]
      show (if n + k < n then _ else _) = _
      rw [if_neg (by omega), Nat.add_sub_cancel_left]
    have tape : ∀ (A B : Nat → Int32), (∀ k, k < n → B k = nI (stpe g k)) → (∀ k, k < n → A k = B k) → (∀ k, k < 20 → A (n + k) = bt (argf a1 a2 a3 a4 a5 (k / 4)) (k % 4)) → ∀ k, k < n + 20 → A k = nI (T k) := fun A B hB hA hA2 k hk => by
      by_cases q : k < n
      · rw [hA k q, hB k q, T1 k q]
      · obtain ⟨k', rfl⟩ : ∃ k', k = n + k' := ⟨k - n, by omega⟩
        rw [hA2 k' (by omega), T2 k' (by omega)]
        exact (btN k' (by omega)).1
    have V : GVA A5 (sD g, T, n + 20, sfk g, sfp g, spt g, spm g, swi g, sws g, swm g) := by
      obtain ⟨⟨a1, a2⟩, ⟨b1, b2⟩, ⟨c1, c2⟩, d, e1, e2⟩ := G.2.2.1
      exact ⟨⟨y5, tape (A5 65) (hp_i h 65) (fun k hk => a2 k (by omega)) (fun k hk => wA _ _ (by omega) (by omega)) zA⟩, ⟨(wA _ _ (by omega) (by omega)).trans b1, (wA _ _ (by omega) (by omega)).trans b2⟩, ⟨(wA _ _ (by omega) (by omega)).trans c1, fun k hk => (wA _ _ (by omega) (by omega)).trans (c2 k hk)⟩, fun l hl => (wA _ _ (by omega) (by omega)).trans (d l hl), (wA _ _ (by omega) (by omega)).trans e1, fun k hk => (wA _ _ (by omega) (by omega)).trans (e2 k hk)⟩
    obtain ⟨G', F'⟩ := gc_A (g' := (sD g, T, n + 20, sfk g, sfp g, spt g, spm g, swi g, sws g, swm g)) G (fun r q h1 h2 h3 h4 h5 => wA r q (by omega) (by omega)) ⟨⟨by show n + 20 ≤ 1000; omega, fun k (hk : k < n + 20) => by
      show T k < 256
      by_cases q : k < n
      · rw [T1 k q]; exact G.1.1.2 k (by omega)
      · obtain ⟨k', rfl⟩ : ∃ k', k = n + k' := ⟨k - n, by omega⟩
        rw [T2 k' (by omega)]
        exact (btN k' (by omega)).2⟩, G.1.2⟩ V rfl
    refine stp_mk (v := nI (n + 20)) (h1 := sA h A5) ?_ (gc_up G') F' R (fun R' => ?_)
    · unfold f_X10_feed b_X10_feed_0
      rw [n2, Option.bind_some, if_pos (show nI n ≤ (980 : Int32) from nI_le (b := 980) c (by omega))]
      unfold b_X10_feed_12
      rw [show ok_v h 64 10 = some () from if_pos o64, Option.bind_some, show f_X10_feedNumber 64 a1 h = some (sA h A1) from x1, Option.bind_some, q_v o64, Option.bind_some, x2, Option.bind_some, q_v o64, Option.bind_some, x3, Option.bind_some, q_v o64, Option.bind_some, x4, Option.bind_some, q_v o64, Option.bind_some, x5, Option.bind_some, q_i o64, Option.bind_some, y5]
    · obtain ⟨H, R0, L0, e0⟩ := eR _ R'
      obtain ⟨B5, u1, u2', u3, u4⟩ := r_fd (a1 := a1) (a2 := a2) (a3 := a3) (a4 := a4) (a5 := a5) (n := n) R0.1 (by omega) 20 fu_ (hp_i H) (Nat.le_refl _) (by unfold fu_; omega) (by rw [R0.2.1.1.1, hn]; rfl)
      refine ⟨sA H B5, ?_, gr_A R0 (fun r q hr => u4 r q (by omega) (by omega)) ?_ rfl, rlf_tr L0 (rl_A (fun r q hr => u4 r q (by omega) (by omega)))⟩
      · rw [e0, if_pos (show nI (n + 20) ≤ (1000 : Int32) from nI_le (b := 1000) (by omega) (by omega))]
        exact u1
      · obtain ⟨-, ⟨⟨a1, a2⟩, ⟨b1, b2⟩, ⟨c1, c2⟩, d, ⟨e1, e2⟩, f, l, l1, l2⟩, -⟩ := R0
        exact ⟨⟨u2', tape (B5 103) (hp_i H 103) (fun k hk => a2 k (by omega)) (fun k hk => u4 _ _ (by omega) (by omega)) (fun k hk => u3 k (by omega) hk)⟩, ⟨(u4 _ _ (by omega) (by omega)).trans b1, (u4 _ _ (by omega) (by omega)).trans b2⟩, ⟨(u4 _ _ (by omega) (by omega)).trans c1, fun k hk => (u4 _ _ (by omega) (by omega)).trans (c2 k hk)⟩, fun l hl => (u4 _ _ (by omega) (by omega)).trans (d l hl), ⟨(u4 _ _ (by omega) (by omega)).trans e1, fun k hk => (u4 _ _ (by omega) (by omega)).trans (e2 k hk)⟩, (u4 _ _ (by omega) (by omega)).trans f, l, l1, (u4 _ _ (by omega) (by omega)).trans l2⟩
  · refine stp_mk (g' := g) (v := -1) (h1 := h) ?_ (gc_up G) clf_rf R (fun R => ?_)
    · unfold f_X10_feed b_X10_feed_0
      rw [n2, Option.bind_some, if_neg (show ¬ nI n ≤ (980 : Int32) from Int32.not_le.mpr (nI_lt (a := 980) (by omega) (by omega)))]
      rfl
    · obtain ⟨H, R0, L0, e0⟩ := eR _ R
      refine ⟨H, ?_, R0, L0⟩
      rw [e0, if_neg (show ¬ nI (n + 20) ≤ (1000 : Int32) from Int32.not_le.mpr (nI_lt (a := 1000) (by omega) (by omega)))]
      rfl
end
