/-! ===== the reference's witness, raced, before ===== -/
noncomputable def stp (mt : AS → Bool) (b : Option (List Nat)) (x : AS × List Nat) : Option (List Nat) := if mt x.1 = true ∧ better x.2 b = true then some x.2 else b
section
variable {P : PA} {V V' : Nat → Bool} {mt : AS → Bool}
theorem fl_fl {α β γ : Type} {g : α → β → α} {k : γ → List β} {k' : α → γ → α} (h : ∀ a c, k' a c = (k c).foldl g a) : ∀ (l : List γ) (a : α), l.foldl k' a = (l.flatMap k).foldl g a := fl_fm h
theorem wT_lvp : ∀ f a p b, wT P V mt f a p b = (lvp P V f a p).foldl (stp mt) b := by
  intro f
  induction f with
  | zero => intro a p b; rfl
  | succ f ih =>
    intro a p b
    show @ite _ (xa_end P V a) (Classical.propDecidable _) _ _ = List.foldl _ _ (@ite _ (xa_end P V a) (Classical.propDecidable _) _ _)
    by_cases c : xa_end P V a
    · rw [@if_pos _ (Classical.propDecidable _) c, @if_pos _ (Classical.propDecidable _) c]
      rfl
    · rw [@if_neg _ (Classical.propDecidable _) c, @if_neg _ (Classical.propDecidable _) c]
      refine fl_fl (fun b t => ?_) _ _
      by_cases c2 : xa_en P V a t
      · rw [@if_pos _ (Classical.propDecidable _) c2, @if_pos _ (Classical.propDecidable _) c2]
        exact ih _ _ _
      · rw [@if_neg _ (Classical.propDecidable _) c2, @if_neg _ (Classical.propDecidable _) c2]
        rfl
theorem xq_ac {s s' : AS} {t w : Nat} (h : xs_q s s') : xs_q (xa_ac P V 0 s t w) (xa_ac P V' 0 s' t w) := by
  obtain ⟨h1, h2, h3, h4, h5, h6, h7⟩ := h
  have nx := xs_nx h1 t
  refine ⟨xs_th h1 h7, xs_ho h1 h2, xs_do h1 h3, fun m hm => ?_, fun m hm => ?_, ?_, xs_wv h1 h7⟩
  · rw [xa_ac_qu, if_neg (by omega)] at hm; exact h4 m hm
  · rw [xa_ac_qu, if_neg (by omega)] at hm; exact h5 m hm
  · rw [xa_ac_me, xa_ac_me, nx, h6]
    by_cases c : xa_op P (xa_nx s' t) = 1
    · rw [if_pos ⟨c, Or.inl rfl⟩, if_pos ⟨c, Or.inl rfl⟩]
    · rw [if_neg (fun x => c x.1), if_neg (fun x => c x.1)]
theorem wT_V (hmt : ∀ s s', as_th s = as_th s' → mt s = mt s') : ∀ f s s' p b, xs_q s s' → wT P V mt f s p b = wT P V' mt f s' p b := by
  intro f
  induction f with
  | zero => intro s s' p b _; rfl
  | succ f ih =>
    intro s s' p b h
    obtain ⟨h1, h2, h3, h4, h5, h6, h7⟩ := h
    have he : xa_end P V s ↔ xa_end P V' s' := ⟨xs_end h1 h2 h4 h5, xs_end h1.symm h2.symm h5 h4⟩
    have hn : ∀ t, xa_en P V s t ↔ xa_en P V' s' t := fun t => ⟨xs_en h1 h2 h5, xs_en h1.symm h2.symm h4⟩
    have hq : ∀ t, sqw P s t = sqw P s' t := fun t => by unfold sqw; rw [xs_nx h1 t, h6]
    show @ite _ (xa_end P V s) (Classical.propDecidable _) _ _ = @ite _ (xa_end P V' s') (Classical.propDecidable _) _ _
    by_cases c : xa_end P V s
    · rw [@if_pos _ (Classical.propDecidable _) c, @if_pos _ (Classical.propDecidable _) (he.mp c), hmt s s' h1]
    · rw [@if_neg _ (Classical.propDecidable _) c, @if_neg _ (Classical.propDecidable _) (fun x => c (he.mpr x))]
      congr 1
      funext b t
      by_cases c2 : xa_en P V s t
      · rw [@if_pos _ (Classical.propDecidable _) c2, @if_pos _ (Classical.propDecidable _) ((hn t).mp c2), hq t]
        exact ih _ _ _ _ (xq_ac ⟨h1, h2, h3, h4, h5, h6, h7⟩)
      · rw [@if_neg _ (Classical.propDecidable _) c2, @if_neg _ (Classical.propDecidable _) (fun x => c2 ((hn t).mpr x))]
theorem mtw_th {ow : Nat → Nat} {nt : Nat} {w : Nat → Int32} (s s' : AS) (h : as_th s = as_th s') : mtw ow nt w s = mtw ow nt w s' := by
  have : av ow nt s = av ow nt s' := by funext l; unfold av xa_lm; rw [h]
  unfold mtw
  rw [this]
end
section
variable {h h0 H : AH} {d s o li i j : Nat} {g F : Nat → Int32} {mo md : Int32} {K : Nat → Nat → Int32} {te ow rx : Nat → Nat} {na nt sz : Nat} {V : Nat → Bool} {a : AS} {p : List Nat}
def A114 (r k : Nat) : Prop := r = 114 ∨ (r = 102 ∧ k = 36)
theorem l_wsh (E : RE H s F o mo) (hd : d < 20) (hp : p.length ≤ 8) (hrow : ∀ i, i < p.length → rowv H d (97 + i) = nI (p.getD i 0)) : ∀ n i, i + n = p.length → ∀ fu, n < fu → ∀ G, RZ G → RE G s F o mo → rowv G d = rowv H d → hp_i G 102 36 = nI p.length →
    ∃ H', l_X11_wished_48 fu 102 (nI d) (nI i) G = some H' ∧ FRi A114 G H' ∧ (∀ k, i ≤ k → k < p.length → hp_i H' 114 k = nI (p.getD k 0)) ∧ (∀ k, k < i → hp_i H' 114 k = hp_i G 114 k) ∧ hp_i H' 102 36 = nI p.length := by
  intro n
  induction n with
  | zero =>
    intro i hi fu hf G R E' _ h36
    obtain ⟨fu, rfl⟩ : ∃ x, fu = x + 1 := ⟨fu - 1, by omega⟩
    refine ⟨G, ?_, fri_rf, fun k h1 h2 => by omega, fun _ _ => rfl, h36⟩
    show b_X11_wished_48 (l_X11_wished_48 fu) 102 (nI d) (nI i) G = _
    unfold b_X11_wished_48
    rw [rz_g R, Option.bind_some, h36, if_pos ((cmp_N (by omega) (by omega)).mpr (by omega))]
    rfl
  | succ n ih =>
    intro i hi fu hf G R E' hr h36
    obtain ⟨fu, rfl⟩ : ∃ x, fu = x + 1 := ⟨fu - 1, by omega⟩
    have R1 : RZ (st_i G 114 i (nI (p.getD i 0))) := rz_st R
    have f1 : FRi A114 G (st_i G 114 i (nI (p.getD i 0))) := fri_st (Or.inl rfl)
    have rv1 : rowv (st_i G 114 i (nI (p.getD i 0))) d = rowv H d := by
      rw [← hr]
      funext k
      show hp_i (st_i G 114 i _) 109 _ = _
      rw [sti_r (by decide)]
      rfl
    obtain ⟨H', y1, y2, y3, y4, y5⟩ := ih (i + 1) (by omega) fu (by omega) _ R1 (re_fri (fun k hk c => by unfold A114 at c; omega) (fun k c => by unfold A114 at c; omega) f1 (rz_rh R1) E') rv1 (by rw [sti_r (by decide)]; exact h36)
    refine ⟨H', ?_, fri_tr f1 y2, fun k h1 h2 => ?_, fun k hk => ?_, y5⟩
    · show b_X11_wished_48 (l_X11_wished_48 fu) 102 (nI d) (nI i) G = _
      unfold b_X11_wished_48
      rw [rz_g R, Option.bind_some, h36, if_neg (fun e => by have := (cmp_N (by omega) (by omega)).mp e; omega)]
      unfold b_X11_wished_56
      rw [rz_r (f := 34) (r := 114) (l := 8) R (by decide), Option.bind_some, rz_v R, Option.bind_some, ad, x_st E' hd (by omega), Option.bind_some, hr, hrow i (by omega), rz_s (f := 34) (r := 114) (l := 8) R (by decide) (by omega) (by omega), Option.bind_some, da]
      exact y1
    · by_cases e : k = i
      · subst e
        rw [y4 k (by omega), sti_s]
      · exact y3 k (by omega) h2
    · rw [y4 k (by omega), sti_k (by omega)]
def AUw (r k : Nat) : Prop := r = 109 ∨ A114 r k
def Uw (h0 : AH) (F : Nat → Int32) (s o : Nat) (mo : Int32) (h : AH) : Prop := RZ h ∧ RE h s F o mo ∧ hp_i h 102 28 = 2 ∧ FRi AUw h0 h
def BW (h : AH) : Option (List Nat) → Prop
  | none => hp_i h 102 36 = -1
  | some q => hp_i h 102 36 = nI q.length ∧ q.length ≤ 8 ∧ ∀ k, k < q.length → hp_i h 114 k = nI (q.getD k 0)
noncomputable def wfo (ow : Nat → Nat) (nt : Nat) (w : Nat → Int32) (L : List (AS × List Nat)) : Option (List Nat) := L.foldl (stp (mtw ow nt w)) none
def Qw (h0 : AH) (ow : Nat → Nat) (nt : Nat) (h : AH) (L : List (AS × List Nat)) : Prop := BW h (wfo ow nt (hp_i h0 112) L)
theorem ve_W (P : PR F K te ow rx na nt sz V mo) : VE F K te ow rx na nt sz o s V mo (Uw h0 F s o mo) (Qw h0 ow nt) := by
  have Z := P.1
  have hnt := Z.2.1
  refine ⟨fun h u => u.2.1, fun h d g u => ?_, fun h d g L q => ?_, fun h d a p L hd u q D S he => ?_⟩
  · obtain ⟨u1, u2, u3, u4⟩ := u
    exact ⟨u1, sR_re u2, by rw [sR_i (by decide)]; exact u3, fri_tr u4 (fri_sR (fun k => Or.inl rfl))⟩
  · unfold Qw at q ⊢
    revert q
    cases wfo ow nt (hp_i h0 112) L with
    | none => intro q; show hp_i (sR h d g) 102 36 = -1; rw [sR_i (by decide)]; exact q
    | some b => intro q; exact ⟨by rw [sR_i (by decide)]; exact q.1, q.2.1, fun k hk => by rw [sR_i (by decide)]; exact q.2.2 k hk⟩
  · have U0 := u
    obtain ⟨u1, u2, u3, u4⟩ := u
    have hp := p_len (dr_s D)
    have hst : ast a nt < 16 := Nat.lt_of_lt_of_le (ast_lt a nt) (Nat.pow_le_pow_right (n := 2) (by decide) (show nt ≤ 4 by omega))
    obtain ⟨r, r1, r2, r3⟩ := x_meet (v := av ow nt a) (st := ast a nt) u1 (fun l hl => (dr_av D hl).2) hst
    have w112 : hp_i h 112 = hp_i h0 112 := by
      funext k
      exact u4.2.2.2.2.2.2 _ _ (fun c => by unfold AUw A114 at c; omega)
    have rm : r = 1 ↔ mtw ow nt (hp_i h0 112) a = true := by
      rw [r3, w112]
      unfold mtw
      rw [@decide_eq_true_iff _ (Classical.propDecidable _)]
    have eL : wfo ow nt (hp_i h0 112) (L ++ [(a, p)]) = stp (mtw ow nt (hp_i h0 112)) (wfo ow nt (hp_i h0 112) L) (a, p) := by
      unfold wfo
      rw [List.foldl_append]
      rfl
    have head : f_X11_ended 102 (nI d) h = if r = 0 then some h else (b_X11_wished_12 102 (nI d) h).bind fun h2 => b_X11_ended_56 h2 := by
      unfold f_X11_ended b_X11_ended_0
      rw [rz_g u1, Option.bind_some, u3, if_neg (by decide)]
      unfold b_X11_ended_19
      rw [rz_g u1, Option.bind_some, u3, if_neg (by decide)]
      unfold b_X11_ended_35
      rw [rz_g u1, Option.bind_some, u3, if_pos rfl]
      unfold b_X11_ended_43
      have e1 : f_X11_wished 102 (nI d) h = if r = 0 then b_X11_wished_34 h else b_X11_wished_12 102 (nI d) h := by
        unfold f_X11_wished b_X11_wished_0
        rw [rz_v u1, Option.bind_some, x_out P u2 hd D, Option.bind_some, rz_v u1, Option.bind_some, show f_X11_meets 102 (oR ow nt a) h = some (r, h) from r1, Option.bind_some]
      rw [rz_v u1, Option.bind_some, e1]
      split <;> rfl
    rw [head]
    have keep : stp (mtw ow nt (hp_i h0 112)) (wfo ow nt (hp_i h0 112) L) (a, p) = wfo ow nt (hp_i h0 112) L → ∃ h', some h = some h' ∧ Uw h0 F s o mo h' ∧ Qw h0 ow nt h' (L ++ [(a, p)]) ∧ hp_i h' 109 = hp_i h 109 := fun e => ⟨h, rfl, U0, by unfold Qw; rw [eL, e]; exact q, rfl⟩
    by_cases c0 : r = 0
    · rw [if_pos c0]
      refine keep ?_
      unfold stp
      rw [if_neg (fun x => absurd (c0.symm.trans (rm.mpr x.1)) (by decide))]
    · rw [if_neg c0]
      have m1 : mtw ow nt (hp_i h0 112) a = true := rm.mp (r2.elim (fun x => absurd x c0) id)
      have b35 : better p (wfo ow nt (hp_i h0 112) L) = true → ∃ h', ((b_X11_wished_35 102 (nI d) h).bind fun h2 => b_X11_ended_56 h2) = some h' ∧ Uw h0 F s o mo h' ∧ Qw h0 ow nt h' (L ++ [(a, p)]) ∧ hp_i h' 109 = hp_i h 109 := fun hb => by
        have R1 : RZ (st_i h 102 36 (nI p.length)) := rz_st u1
        have f1 : FRi A114 h (st_i h 102 36 (nI p.length)) := fri_st (Or.inr ⟨rfl, rfl⟩)
        have rv1 : rowv (st_i h 102 36 (nI p.length)) d = rowv h d := by
          funext k
          show hp_i (st_i h 102 36 _) 109 _ = _
          rw [sti_r (by decide)]
          rfl
        obtain ⟨h', y1, y2, y3, y4, y5⟩ := l_wsh (H := h) (p := p) u2 hd hp D.2.2.2.2.1.2.2 p.length 0 (by omega) fu_ (by unfold fu_; omega) _ R1 (re_fri (fun k hk c => by unfold A114 at c; omega) (fun k c => by unfold A114 at c; omega) f1 (rz_rh R1) u2) rv1 sti_s
        have f2 := fri_tr f1 y2
        have R' := fri_rz f2 u1
        refine ⟨h', ?_, ⟨R', re_fri (fun k hk c => by unfold A114 at c; omega) (fun k c => by unfold A114 at c; omega) f2 (rz_rh R') u2, ?_, fri_tr u4 (fri_mono (fun r k c => Or.inr c) f2)⟩, ?_, ?_⟩
        · unfold b_X11_wished_35
          rw [rz_v u1, Option.bind_some, show (96 : Int32) = nI 96 from rfl, x_st u2 hd (by omega), Option.bind_some, D.2.2.2.2.1.1, rz_p u1, Option.bind_some, show l_X11_wished_48 fu_ 102 (nI d) (0 : Int32) (st_i h 102 36 (nI p.length)) = some h' from y1, Option.bind_some]
          rfl
        · rw [f2.2.2.2.2.2.2 _ _ (fun c => by unfold A114 at c; omega)]; exact u3
        · unfold Qw
          rw [eL]
          unfold stp
          rw [if_pos ⟨m1, hb⟩]
          exact ⟨y5, hp, fun k hk => y3 k (by omega) hk⟩
        · funext k
          exact f2.2.2.2.2.2.2 _ _ (fun c => by unfold A114 at c; omega)
      unfold b_X11_wished_12
      rw [rz_g u1, Option.bind_some]
      revert q b35 keep
      cases hw : wfo ow nt (hp_i h0 112) L with
      | none =>
        intro q keep b35
        unfold Qw at q
        rw [hw] at q
        have q' : hp_i h 102 36 = -1 := q
        rw [if_pos q']
        exact b35 rfl
      | some b =>
        intro q keep b35
        unfold Qw at q
        rw [hw] at q
        obtain ⟨q1, q2, q3⟩ := q
        rw [if_neg (by rw [q1]; exact nI_ne1 (by omega))]
        unfold b_X11_wished_20
        rw [rz_v u1, Option.bind_some, show (96 : Int32) = nI 96 from rfl, x_st u2 hd (by omega), Option.bind_some, D.2.2.2.2.1.1, rz_g u1, Option.bind_some, q1]
        by_cases c2 : p.length < b.length
        · rw [if_pos (nI_lt c2 (by omega))]
          exact b35 (decide_eq_true c2)
        · rw [if_neg (nI_nlt (by omega) (by omega))]
          obtain ⟨h', k1, k2⟩ := keep (by
            unfold stp
            rw [if_neg (fun x => by have := of_decide_eq_true x.2; exact c2 this)])
          exact ⟨h', k1, k2⟩
/-- what witness may change -/
def AWt (r k : Nat) : Prop := r = 109 ∨ r = 113 ∨ A114 r k ∨ (r = 102 ∧ (k = 26 ∨ k = 28 ∨ k = 35))
theorem l_wit {q : List Nat} (hq : q.length ≤ 8) : ∀ n i, i + n = q.length → ∀ fu, n < fu → ∀ G, RZ G → hp_i G 102 35 = nI q.length → (∀ k, k < q.length → hp_i G 114 k = nI (q.getD k 0)) →
    ∃ H', l_X11_witness_41 fu 102 (nI i) G = some (nI q.length, H') ∧ FRi (fun r _ => r = 113) G H' ∧ (∀ k, i ≤ k → k < q.length → hp_i H' 113 k = nI (q.getD k 0)) ∧ ∀ k, k < i → hp_i H' 113 k = hp_i G 113 k := by
  intro n
  induction n with
  | zero =>
    intro i hi fu hf G R h35 _
    obtain ⟨fu, rfl⟩ : ∃ x, fu = x + 1 := ⟨fu - 1, by omega⟩
    refine ⟨G, ?_, fri_rf, fun k h1 h2 => by omega, fun _ _ => rfl⟩
    show b_X11_witness_41 (l_X11_witness_41 fu) 102 (nI i) G = _
    unfold b_X11_witness_41
    rw [rz_g R, Option.bind_some, h35, if_pos ((cmp_N (by omega) (by omega)).mpr (by omega))]
    unfold b_X11_witness_67
    rw [rz_g R, Option.bind_some, h35]
  | succ n ih =>
    intro i hi fu hf G R h35 hb
    obtain ⟨fu, rfl⟩ : ∃ x, fu = x + 1 := ⟨fu - 1, by omega⟩
    obtain ⟨H', y1, y2, y3, y4⟩ := ih (i + 1) (by omega) fu (by omega) (st_i G 113 i (nI (q.getD i 0))) (rz_st R) (by rw [sti_r (by decide)]; exact h35) (fun k hk => by rw [sti_r (by decide)]; exact hb k hk)
    refine ⟨H', ?_, fri_tr (fri_st rfl) y2, fun k h1 h2 => ?_, fun k hk => by rw [y4 k (by omega), sti_k (by omega)]⟩
    · show b_X11_witness_41 (l_X11_witness_41 fu) 102 (nI i) G = _
      unfold b_X11_witness_41
      rw [rz_g R, Option.bind_some, h35, if_neg (fun e => by have := (cmp_N (by omega) (by omega)).mp e; omega)]
      unfold b_X11_witness_49
      rw [rz_r (f := 33) (r := 113) (l := 8) R (by decide), Option.bind_some, rz_r (f := 34) (r := 114) (l := 8) R (by decide), Option.bind_some, rz_l (f := 34) (r := 114) (l := 8) R (by decide) (by omega) (by omega), Option.bind_some, hb i (by omega), rz_s (f := 33) (r := 113) (l := 8) R (by decide) (by omega) (by omega), Option.bind_some, da]
      exact y1
    · by_cases e : k = i
      · subst e
        rw [y4 k (by omega), sti_s]
      · exact y3 k (by omega) h2
theorem r_witR (P : PR F K te ow rx na nt sz V mo) (R : RZ h) (h8 : s < 8) (h24 : hp_i h 102 24 = nI s) (h27 : hp_i h 102 27 = mo) (hF : ∀ k, k < 900 → hp_i h 106 (900 * s + k) = F k) :
    ∃ v h', b_X11_witness_10 102 h = some (v, h') ∧ FRi AWt h h' ∧
      ((wT (KP K) (fun _ => false) (mtw ow nt (hp_i h 112)) 17 (xa_0 (KP K)) [] none = none ∧ v = -1 ∧ hp_i h' 113 = hp_i h 113 ∧ hp_i h' 102 35 = hp_i h 102 35) ∨
       ∃ q, wT (KP K) (fun _ => false) (mtw ow nt (hp_i h 112)) 17 (xa_0 (KP K)) [] none = some q ∧ q.length ≤ 8 ∧ v = nI q.length ∧ hp_i h' 102 35 = nI q.length ∧ ∀ k, k < q.length → hp_i h' 113 k = nI (q.getD k 0)) := by
  have R1 : RZ (st_i h 102 36 (-1)) := rz_st R
  have f1 : FRi AWt h (st_i h 102 36 (-1)) := fri_st (Or.inr (Or.inr (Or.inl (Or.inr ⟨rfl, rfl⟩))))
  generalize hh1 : st_i h 102 36 (-1) = h1 at R1 f1
  have v36 : hp_i h1 102 36 = -1 := by rw [← hh1, sti_s]
  have R4 : RZ (st_i (st_i h1 102 28 2) 102 26 (nI 0)) := rz_st (rz_st R1)
  have w112 : ∀ G, FRi AUw (st_i (st_i h1 102 28 2) 102 26 (nI 0)) G → hp_i G 112 = hp_i h 112 := fun G f => by
    funext k
    rw [f.2.2.2.2.2.2 _ _ (fun c => by unfold AUw A114 at c; omega), sti_r (by decide), sti_r (by decide), ← hh1, sti_r (by decide)]
  have u : Uw (st_i (st_i h1 102 28 2) 102 26 (nI 0)) F s 0 mo (st_i (st_i h1 102 28 2) 102 26 (nI 0)) := by
    refine ⟨R4, ⟨rz_rh R4, h8, by omega, ?_, sti_s, ?_, fun k hk => ?_⟩, ?_, fri_rf⟩
    · rw [sti_k (by decide), sti_k (by decide), ← hh1, sti_k (by decide)]; exact h24
    · rw [sti_k (by decide), sti_k (by decide), ← hh1, sti_k (by decide)]; exact h27
    · rw [sti_r (by decide), sti_r (by decide), ← hh1, sti_r (by decide)]; exact hF k hk
    · rw [sti_k (by decide), sti_s]
  have q : Qw (st_i (st_i h1 102 28 2) 102 26 (nI 0)) ow nt (st_i (st_i h1 102 28 2) 102 26 (nI 0)) [] := by
    show hp_i _ 102 36 = -1
    rw [sti_k (by decide), sti_k (by decide)]; exact v36
  obtain ⟨h', M, x1, x2, x3, -, x5⟩ := x_goes P (ve_W (h0 := st_i (st_i h1 102 28 2) 102 26 (nI 0)) P) R1 u q
  obtain ⟨u1, u2, u3, u4⟩ := x2
  have wv : wfo ow nt (hp_i (st_i (st_i h1 102 28 2) 102 26 (nI 0)) 112) M = wT (KP K) (fun _ => false) (mtw ow nt (hp_i h 112)) 17 (xa_0 (KP K)) [] none := by
    rw [w112 _ fri_rf, x5 rfl]
    unfold wfo
    rw [← wT_lvp]
    exact wT_V mtw_th 17 _ _ _ _ ⟨rfl, rfl, rfl, fun _ h => h, fun _ h => h, rfl, rfl⟩
  unfold Qw at x3
  rw [wv] at x3
  have f3 : FRi AWt h h' := fri_tr f1 (fri_tr (fri_tr (fri_st (Or.inr (Or.inr (Or.inr ⟨rfl, by omega⟩)))) (fri_st (Or.inr (Or.inr (Or.inr ⟨rfl, by omega⟩))))) (fri_mono (fun r k c => by
    obtain c | c := c
    · exact Or.inl c
    · exact Or.inr (Or.inr (Or.inl c))) u4))
  have pre : b_X11_witness_10 102 h = if hp_i h' 102 36 = -1 then b_X11_witness_29 h' else b_X11_witness_31 102 h' := by
    unfold b_X11_witness_10
    rw [rz_p R, Option.bind_some, hh1, rz_v R1, Option.bind_some, show f_X11_goes 102 (2 : Int32) (0 : Int32) h1 = some h' from x1, Option.bind_some, rz_g u1, Option.bind_some]
  rw [pre]
  revert x3
  cases hw : wT (KP K) (fun _ => false) (mtw ow nt (hp_i h 112)) 17 (xa_0 (KP K)) [] none with
  | none =>
    intro x3
    have x3' : hp_i h' 102 36 = -1 := x3
    rw [if_pos x3']
    have k113 : ∀ r k, (r = 113 ∨ (r = 102 ∧ k = 35)) → hp_i h' r k = hp_i h r k := fun r k hc => by
      rw [u4.2.2.2.2.2.2 _ _ (fun c => by unfold AUw A114 at c; omega)]
      obtain rfl | ⟨rfl, rfl⟩ := hc
      · rw [sti_r (by decide), sti_r (by decide), ← hh1, sti_r (by decide)]
      · rw [sti_k (by decide), sti_k (by decide), ← hh1, sti_k (by decide)]
    exact ⟨-1, h', rfl, f3, Or.inl ⟨rfl, rfl, by funext k; exact k113 _ _ (Or.inl rfl), k113 _ _ (Or.inr ⟨rfl, rfl⟩)⟩⟩
  | some b =>
    intro x3
    obtain ⟨y1, y2, y3⟩ := x3
    rw [if_neg (by rw [y1]; exact nI_ne1 (by omega))]
    unfold b_X11_witness_31
    rw [rz_g u1, Option.bind_some, y1, rz_p u1, Option.bind_some]
    obtain ⟨H', z1, z2, z3, z4⟩ := l_wit (q := b) y2 b.length 0 (by omega) fu_ (by unfold fu_; omega) (st_i h' 102 35 (nI b.length)) (rz_st u1) sti_s (fun k hk => by rw [sti_r (by decide)]; exact y3 k hk)
    refine ⟨nI b.length, H', z1, fri_tr f3 (fri_tr (fri_st (Or.inr (Or.inr (Or.inr ⟨rfl, by omega⟩)))) (fri_mono (fun r k c => Or.inr (Or.inl c)) z2)), Or.inr ⟨b, rfl, y2, rfl, ?_, fun k hk => z3 k (by omega) hk⟩⟩
    rw [z2.2.2.2.2.2.2 _ _ (by decide), sti_s]
end
