/-! ===== the reference's goes; the list of outcomes ===== -/
theorem rka_0 {P : PA} {o : Nat} : rka P o (xa_0 P) = 0 := by
  have e1 : rkd (xa_0 P) = 0 := by
    exact (sum8_eq (g := fun n => dn1 (as_do (xa_0 P) n)) (g' := fun _ => 0) (fun m _ => dn1_f (fun c => c))).trans rfl
  have e2 : rke P o (xa_0 P) = 0 := by
    exact (sum8_eq (g := fun n => dn1 (o = 1 ∧ xa_op P n = 1 ∧ as_do (xa_0 P) n ∧ ¬ as_qu (xa_0 P) n)) (g' := fun _ => 0) (fun m _ => dn1_f (fun c => c.2.2.1))).trans rfl
  unfold rka
  rw [e1, e2]
section
variable {h h0 H : AH} {d s o li : Nat} {g F : Nat → Int32} {mo md : Int32} {K : Nat → Nat → Int32} {te ow rx : Nat → Nat} {na nt sz : Nat} {V : Nat → Bool} {a : AS} {p : List Nat} {U : AH → Prop} {Q : AH → List (AS × List Nat) → Prop}
theorem x_goes (P : PR F K te ow rx na nt sz V mo) (VEx : VE F K te ow rx na nt sz o s V mo U Q) (R : RZ h) (u : U (st_i (st_i h 102 28 md) 102 26 (nI o))) (q : Q (st_i (st_i h 102 28 md) 102 26 (nI o)) []) :
    ∃ h' M, f_X11_goes 102 md (nI o) h = some h' ∧ U h' ∧ Q h' M ∧ (∀ z, (∃ q, (z, q) ∈ M) ↔ Ends (KP K) V o z) ∧ (o = 0 → M = lvp (KP K) V 17 (xa_0 (KP K)) []) := by
  have Z := P.1
  have W := kp_wf Z
  have R1 : RZ (st_i h 102 28 md) := rz_st R
  have R2 : RZ (st_i (st_i h 102 28 md) 102 26 (nI o)) := rz_st R1
  have E := VEx.1 _ u
  obtain ⟨g', a', x1, ⟨I, X, ⟨q0, hq0⟩, hpor, h0⟩, x3, x4⟩ := x_start P E
  have r16 := rka_le (P := KP K) (o := o) (s := a')
  have e0 : f_X11_runs dp_ 102 (0 : Int32) = f_X11_runs 24 102 (nI 0) := rfl
  obtain ⟨h', M, y1, y2, y3, y4, y5, y6⟩ := x_runs P VEx 24 0 a' [] (sR (st_i (st_i h 102 28 md) 102 26 (nI o)) 0 g') [] (17 - rka (KP K) o a') (by omega) (by omega) (by omega) (VEx.2.1 _ _ _ u) (VEx.2.2.1 _ _ _ _ q) ⟨I, X, x4, q0, hq0⟩ (dr_cg Z I (fun k hk => sR_row hk) x3 (Nat.zero_le _))
  rw [List.nil_append] at y3
  refine ⟨h', M, ?_, y2, y3, fun z => (y5 z).trans ⟨fun ⟨q1, z1, z2⟩ => ⟨q0 ++ q1, xa_ph_snoc _ _ _ _ _ hq0 z1, z2⟩, fun ⟨q1, z1, z2⟩ => by obtain ⟨q2, z3⟩ := hpor q1 z z1 z2; exact ⟨q2, z3, z2⟩⟩, fun ho => ?_⟩
  · unfold f_X11_goes b_X11_goes_0
    rw [rz_p R, Option.bind_some, rz_p R1, Option.bind_some, rz_v R2, Option.bind_some, x1, Option.bind_some, x_ok (sR_re E), Option.bind_some, e0, y1, Option.bind_some]
  · have : a' = xa_0 (KP K) := h0 (by omega)
    rw [y6 ho, this, rka_0]
/-- what a list's search may change -/
def AUl (li : Nat) (r k : Nat) : Prop := r = 109 ∨ AL1 li r k
def Ul (h0 : AH) (F : Nat → Int32) (s o li : Nat) (mo : Int32) (h : AH) : Prop := RZ h ∧ RE h s F o mo ∧ hp_i h 102 28 = 0 ∧ hp_i h 102 31 = nI li ∧ FRi (AUl li) h0 h
def Ql (K : Nat → Nat → Int32) (ow : Nat → Nat) (nt o li : Nat) (V : Nat → Bool) (h : AH) (L : List (AS × List Nat)) : Prop := (∀ x, x ∈ L → Ends (KP K) V o x.1 ∧ ∀ l, l < 5 → av ow nt x.1 l ≤ 9) ∧ ∃ M, LI h li M ∧ ∀ z, z ∈ M ↔ ∃ x, x ∈ L ∧ z = oR ow nt x.1
theorem oR_bnd (Z : KW K te ow na nt sz) {M : List Int32} (hs : srt M) (hM : ∀ z, z ∈ M → ∃ s, Ends (KP K) V o s ∧ z = oR ow nt s) : M.length ≤ 1024 := by
  refine xa_bound (P := KP K) (V := V) (o := o) (kp_wf Z) (oR ow nt) (fun s s' he => ?_) M (srt_nd M hs) (fun x hx => ?_)
  · rw [kp_nt Z] at he
    have e1 : av ow nt s = av ow nt s' := by
      funext l
      unfold av
      by_cases c : ow l < nt
      · rw [if_pos c, if_pos c]
        unfold xa_lm
        rw [he _ c]
      · rw [if_neg c, if_neg c]
    have e2 : ∀ n, n ≤ nt → ast s n = ast s' n := by
      intro n
      induction n with
      | zero => intro _; rfl
      | succ n ih =>
        intro hn
        show ast s n + (if xa_nx s n = 8 then 0 else 2 ^ n) = ast s' n + (if xa_nx s' n = 8 then 0 else 2 ^ n)
        rw [ih (by omega)]
        unfold xa_nx
        rw [he n (by omega)]
    unfold oR
    rw [e1, e2 nt (Nat.le_refl _)]
  · obtain ⟨s, ⟨p, h1, h2⟩, h3⟩ := hM x hx
    exact ⟨p, s, h1, h2, h3.symm⟩
theorem re_fri {A : Nat → Nat → Prop} {h1 : AH} (hA : ∀ k, (k = 24 ∨ k = 26 ∨ k = 27) → ¬ A 102 k) (hB : ∀ k, ¬ A 106 k) (a : FRi A h h1) (R1 : RH h1) (E : RE h s F o mo) : RE h1 s F o mo := by
  obtain ⟨e1, e2, e3, e4, e5, e6, e7⟩ := E
  exact ⟨R1, e2, e3, by rw [a.2.2.2.2.2.2 _ _ (hA 24 (by omega))]; exact e4, by rw [a.2.2.2.2.2.2 _ _ (hA 26 (by omega))]; exact e5, by rw [a.2.2.2.2.2.2 _ _ (hA 27 (by omega))]; exact e6, fun k hk => by rw [a.2.2.2.2.2.2 _ _ (hB _)]; exact e7 k hk⟩
theorem ve_L (P : PR F K te ow rx na nt sz V mo) (hli : li < 25) : VE F K te ow rx na nt sz o s V mo (Ul h0 F s o li mo) (Ql K ow nt o li V) := by
  have Z := P.1
  refine ⟨fun h u => u.2.1, fun h d g u => ?_, fun h d g L q => ?_, fun h d a p L hd u q D S he => ?_⟩
  · obtain ⟨u1, u2, u3, u4, u5⟩ := u
    exact ⟨u1, sR_re u2, by rw [sR_i (by decide)]; exact u3, by rw [sR_i (by decide)]; exact u4, fri_tr u5 (fri_sR (fun k => Or.inl rfl))⟩
  · obtain ⟨q1, M, ⟨m1, m2, m3, m4⟩, q2⟩ := q
    exact ⟨q1, M, ⟨by rw [sR_i (by decide)]; exact m1, fun i hi => by rw [sR_i (by decide)]; exact m2 i hi, m3, m4⟩, q2⟩
  · obtain ⟨u1, u2, u3, u4, u5⟩ := u
    obtain ⟨q1, M, q2, q3⟩ := q
    have hE : Ends (KP K) V o a := by
      obtain ⟨p, hp⟩ := S.2.2.2
      exact ⟨p, hp, he⟩
    have q1' : ∀ x, x ∈ L ++ [(a, p)] → Ends (KP K) V o x.1 ∧ ∀ l, l < 5 → av ow nt x.1 l ≤ 9 := fun x hx => by
      obtain hx | hx := List.mem_append.mp hx
      · exact q1 x hx
      · rw [List.mem_singleton] at hx; rw [hx]; exact ⟨hE, fun l hl => (dr_av D hl).2⟩
    have q3' : ∀ z, z ∈ rins (oR ow nt a) M ↔ ∃ x, x ∈ L ++ [(a, p)] ∧ z = oR ow nt x.1 := fun z => by
      rw [rins_mem, q3]
      constructor
      · rintro (hz | ⟨x, x1, x2⟩)
        · exact ⟨(a, p), List.mem_append.mpr (Or.inr (List.mem_singleton.mpr rfl)), hz⟩
        · exact ⟨x, List.mem_append.mpr (Or.inl x1), x2⟩
      · rintro ⟨x, x1, x2⟩
        obtain x1 | x1 := List.mem_append.mp x1
        · exact Or.inr ⟨x, x1, x2⟩
        · rw [List.mem_singleton] at x1; rw [x1] at x2; exact Or.inl x2
    have hb := oR_bnd (V := V) (o := o) Z (rins_srt (x := oR ow nt a) M q2.2.2.1) (fun z hz => by
      obtain ⟨x, x1, x2⟩ := (q3' z).mp hz
      exact ⟨x.1, (q1' x x1).1, x2⟩)
    obtain ⟨h', x1, x2, x3⟩ := x_lists (x := oR ow nt a) u1 hli u4 q2 hb
    have R' := fri_rz x2 u1
    refine ⟨h', ?_, ⟨R', re_fri (fun k hk c => ?_) (fun k c => ?_) x2 (rz_rh R') u2, ?_, ?_, fri_tr u5 (fri_mono (fun r k c => Or.inr c) x2)⟩, ⟨q1', _, x3, q3'⟩, ?_⟩
    · unfold f_X11_ended b_X11_ended_0
      rw [rz_g u1, Option.bind_some, u3, if_pos rfl]
      unfold b_X11_ended_7
      rw [rz_v u1, Option.bind_some, x_out P u2 hd D, Option.bind_some, rz_v u1, Option.bind_some, x1, Option.bind_some]
      rfl
    · unfold AL1 at c; omega
    · unfold AL1 at c; omega
    · rw [x2.2.2.2.2.2.2 _ _ (fun c => by unfold AL1 at c; omega)]; exact u3
    · rw [x2.2.2.2.2.2.2 _ _ (fun c => by unfold AL1 at c; omega)]; exact u4
    · funext k
      exact x2.2.2.2.2.2.2 _ _ (fun c => by unfold AL1 at c; omega)
/-- a list is filled -/
def AFl (li : Nat) (r k : Nat) : Prop := r = 109 ∨ AL1 li r k ∨ (r = 102 ∧ (k = 26 ∨ k = 27 ∨ k = 28 ∨ k = 31))
theorem x_fills (P : PR F K te ow rx na nt sz V mo) (R : RZ h) (hli : li < 25) (ho : o ≤ 2) (h8 : s < 8) (h24 : hp_i h 102 24 = nI s) (hF : ∀ k, k < 900 → hp_i h 106 (900 * s + k) = F k) :
    ∃ h' M, f_X11_fills 102 (nI li) (nI o) mo h = some h' ∧ FRi (AFl li) h h' ∧ LI h' li M ∧ (∀ z, z ∈ M ↔ ∃ s, Ends (KP K) V o s ∧ z = oR ow nt s) ∧ hp_i h' 102 27 = 0 ∧ ∀ s, Ends (KP K) V o s → ∀ l, l < 5 → av ow nt s l ≤ 9 := by
  have R1 : RZ (st_i h 102 31 (nI li)) := rz_st R
  have R2 : RZ (st_i (st_i h 102 31 (nI li)) 111 li 0) := rz_st R1
  have R3 : RZ (st_i (st_i (st_i h 102 31 (nI li)) 111 li 0) 102 27 mo) := rz_st R2
  have f3 : FRi (AFl li) h (st_i (st_i (st_i h 102 31 (nI li)) 111 li 0) 102 27 mo) := fri_tr (fri_tr (fri_st (Or.inr (Or.inr ⟨rfl, by omega⟩))) (fri_st (Or.inr (Or.inl (Or.inr ⟨rfl, rfl⟩))))) (fri_st (Or.inr (Or.inr ⟨rfl, by omega⟩)))
  generalize hh3 : st_i (st_i (st_i h 102 31 (nI li)) 111 li 0) 102 27 mo = h3 at R3 f3
  have v31 : hp_i h3 102 31 = nI li := by rw [← hh3, sti_k (by decide), sti_r (by decide), sti_s]
  have v27 : hp_i h3 102 27 = mo := by rw [← hh3, sti_s]
  have v24 : hp_i h3 102 24 = nI s := by rw [← hh3, sti_k (by decide), sti_r (by decide), sti_k (by decide)]; exact h24
  have v11 : hp_i h3 111 li = 0 := by rw [← hh3, sti_r (by decide), sti_s]
  have v06 : ∀ k, k < 900 → hp_i h3 106 (900 * s + k) = F k := fun k hk => by rw [← hh3, sti_r (by decide), sti_r (by decide), sti_r (by decide)]; exact hF k hk
  have R4 : RZ (st_i (st_i h3 102 28 0) 102 26 (nI o)) := rz_st (rz_st R3)
  have u : Ul (st_i (st_i h3 102 28 0) 102 26 (nI o)) F s o li mo (st_i (st_i h3 102 28 0) 102 26 (nI o)) := by
    refine ⟨R4, ⟨rz_rh R4, h8, ho, ?_, sti_s, ?_, fun k hk => ?_⟩, ?_, ?_, fri_rf⟩
    · rw [sti_k (by decide), sti_k (by decide)]; exact v24
    · rw [sti_k (by decide), sti_k (by decide)]; exact v27
    · rw [sti_r (by decide), sti_r (by decide)]; exact v06 k hk
    · rw [sti_k (by decide), sti_s]
    · rw [sti_k (by decide), sti_k (by decide)]; exact v31
  have q : Ql K ow nt o li V (st_i (st_i h3 102 28 0) 102 26 (nI o)) [] := ⟨fun x hx => (List.not_mem_nil hx).elim, [], ⟨by rw [sti_r (by decide), sti_r (by decide)]; exact v11, fun i hi => absurd hi (Nat.not_lt_zero _), trivial, Nat.zero_le _⟩, fun z => ⟨fun hz => (List.not_mem_nil hz).elim, fun ⟨x, hx, _⟩ => (List.not_mem_nil hx).elim⟩⟩
  obtain ⟨h', M, x1, x2, x3, x4, -⟩ := x_goes P (ve_L P hli) R3 u q
  obtain ⟨u1, u2, u3, u4, u5⟩ := x2
  obtain ⟨w1, M', w2, w3⟩ := x3
  refine ⟨st_i h' 102 27 0, M', ?_, fri_tr f3 (fri_tr (fri_tr (fri_tr (fri_st (Or.inr (Or.inr ⟨rfl, by omega⟩))) (fri_st (Or.inr (Or.inr ⟨rfl, by omega⟩)))) (fri_mono (fun r k c => ?_) u5)) (fri_st (Or.inr (Or.inr ⟨rfl, by omega⟩)))), ?_, fun z => (w3 z).trans ?_, sti_s, fun s' y1 => ?_⟩
  · unfold f_X11_fills b_X11_fills_0
    rw [rz_p R, Option.bind_some, rz_r (f := 30) (r := 111) (l := 25) R1 (by decide), Option.bind_some, rz_s (f := 30) (r := 111) (l := 25) R1 (by decide) (by omega) (by omega), Option.bind_some, rz_p R2, Option.bind_some, hh3, rz_v R3, Option.bind_some, x1, Option.bind_some, rz_p u1, Option.bind_some]
  · obtain c | c := c
    · exact Or.inl c
    · exact Or.inr (Or.inl c)
  · obtain ⟨m1, m2, m3, m4⟩ := w2
    exact ⟨by rw [sti_r (by decide)]; exact m1, fun i hi => by rw [sti_r (by decide)]; exact m2 i hi, m3, m4⟩
  · constructor
    · rintro ⟨x, y1, y2⟩
      exact ⟨x.1, (x4 x.1).mp ⟨x.2, y1⟩, y2⟩
    · rintro ⟨s', y1, y2⟩
      obtain ⟨q, hq⟩ := (x4 s').mpr y1
      exact ⟨(s', q), hq, y2⟩
  · obtain ⟨q, hq⟩ := (x4 s').mpr y1
    exact (w1 _ hq).2
end
