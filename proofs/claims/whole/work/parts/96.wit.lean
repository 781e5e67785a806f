/-! ===== the witness: a search over the mid picture, in the order of threads ===== -/
def sqw (P : PA) (a : AS) (t : Nat) : Nat := if xa_op P (xa_nx a t) = 0 ∨ xa_op P (xa_nx a t) = 2 then as_me a (xa_ob P (xa_nx a t)) else 0
theorem sqw_se {P : PA} {V : Nat → Bool} {a : AS} {t w : Nat} : xa_se P V 0 a t w ↔ w = sqw P a t := by
  unfold xa_se sqw
  split
  · rw [if_pos (Or.inl rfl)]
  · exact Iff.rfl
def better (p : List Nat) : Option (List Nat) → Bool
  | none => true
  | some q => decide (p.length < q.length)
noncomputable def wT (P : PA) (V : Nat → Bool) (mt : AS → Bool) : Nat → AS → List Nat → Option (List Nat) → Option (List Nat)
  | 0, _, _, b => b
  | f + 1, a, p, b => @ite _ (xa_end P V a) (Classical.propDecidable _) (if mt a = true ∧ better p b = true then some p else b) ((List.range' 0 (pa_nt P)).foldl (fun b t => @ite _ (xa_en P V a t) (Classical.propDecidable _) (wT P V mt f (xa_ac P V 0 a t (sqw P a t)) (p ++ [t]) b) b) b)
/-- does an end meet the wish -/
noncomputable def mtw (ow : Nat → Nat) (nt : Nat) (w : Nat → Int32) (a : AS) : Bool := @decide (∀ l, l < 5 → w l = -1 ∨ w l = nI (av ow nt a l)) (Classical.propDecidable _)
def WR (p0 : Nat → Int32) (acc : Nat × (Nat → Int32)) : Option (List Nat) → Prop
  | none => acc.1 = 17 ∧ acc.2 = p0
  | some q => acc.1 = q.length ∧ q.length ≤ 16 ∧ ∀ k, k < q.length → acc.2 k = nI (q.getD k 0)
section
variable {K : Nat → Nat → Int32} {te ow : Nat → Nat} {na nt sz : Nat} {w : Nat → Int32}
theorem n16_v {v : Nat → Nat} {s l : Nat} (hs : s < 16) (hv : ∀ l, l < 5 → v l ≤ 9) (hl : l < 5) : n16 v s / 2 ^ (20 - 4 * l) % 16 = v l := by
  have h0 := hv 0 (by omega); have h1 := hv 1 (by omega); have h2 := hv 2 (by omega); have h3 := hv 3 (by omega); have h4 := hv 4 (by omega)
  unfold n16
  have c : l = 0 ∨ l = 1 ∨ l = 2 ∨ l = 3 ∨ l = 4 := by omega
  obtain rfl | rfl | rfl | rfl | rfl := c
  · show _ / 1048576 % 16 = _; omega
  · show _ / 65536 % 16 = _; omega
  · show _ / 4096 % 16 = _; omega
  · show _ / 256 % 16 = _; omega
  · show _ / 16 % 16 = _; omega
theorem vin_v {v : Nat → Nat} {s l : Nat} (hs : s < 16) (hv : ∀ l, l < 5 → v l ≤ 9) (hl : l < 5) : m_vin (nI (n16 v s)) l = nI (v l) := by
  have h0 := hv 0 (by omega); have h1 := hv 1 (by omega); have h2 := hv 2 (by omega); have h3 := hv 3 (by omega); have h4 := hv 4 (by omega)
  have hn : n16 v s < 2 ^ 24 := by unfold n16; omega
  unfold m_vin
  have e : (20 : Int32) - (4 : Int32) * nI l = nI (20 - 4 * l) := by
    rw [show (4 : Int32) = nI 4 from rfl, show (20 : Int32) = nI 20 from rfl, pk_mul, pk_sub (by omega)]
  rw [e, pk_shrN (by omega) _ (20 - 4 * l) (sh_32 _ (by omega)), pk_andN (Nat.lt_of_le_of_lt (Nat.div_le_self _ _) (by omega)) 4 (by decide)]
  congr 1
  exact n16_v hs hv hl
theorem me_mt {o : Int32} {v : Nat → Nat} (h : ∀ l, l < 5 → m_vin o l = nI (v l)) : ∀ n, n ≤ 5 → (m_me o w n (5 - n) = true ↔ ∀ l, 5 - n ≤ l → l < 5 → w l = -1 ∨ w l = nI (v l)) := by
  intro n
  induction n with
  | zero => intro _; exact ⟨fun _ l h1 h2 => by omega, fun _ => rfl⟩
  | succ n ih =>
    intro hn
    have ih' := ih (by omega)
    unfold m_me
    rw [show 5 - (n + 1) + 1 = 5 - n by omega, h _ (by omega)]
    have split : (∀ l, 5 - (n + 1) ≤ l → l < 5 → w l = -1 ∨ w l = nI (v l)) ↔ (w (5 - (n + 1)) = -1 ∨ w (5 - (n + 1)) = nI (v (5 - (n + 1)))) ∧ ∀ l, 5 - n ≤ l → l < 5 → w l = -1 ∨ w l = nI (v l) := by
      constructor
      · intro hh; exact ⟨hh _ (Nat.le_refl _) (by omega), fun l a b => hh l (by omega) b⟩
      · rintro ⟨h1, h2⟩ l a b
        by_cases e : l = 5 - (n + 1)
        · rw [e]; exact h1
        · exact h2 l (by omega) b
    rw [split]
    by_cases e1 : w (5 - (n + 1)) = -1
    · rw [if_pos e1, ih']
      exact ⟨fun hh => ⟨Or.inl e1, hh⟩, fun hh => hh.2⟩
    · rw [if_neg e1]
      by_cases e2 : w (5 - (n + 1)) = nI (v (5 - (n + 1)))
      · rw [if_pos e2, ih']
        exact ⟨fun hh => ⟨Or.inr e2, hh⟩, fun hh => hh.2⟩
      · rw [if_neg e2]
        exact ⟨fun hh => Bool.noConfusion hh, fun hh => (hh.1.elim e1 e2).elim⟩
theorem me_a {a : AS} {x : KY} (Z : KW K te ow na nt sz) (I : xa_in (KP K) (ao 0) a) (D : DC K ow nt 0 x.1 x.2.1 x.2.2 a) : m_me (m_out K x.1) w 5 0 = mtw ow nt w a := by
  have hnt := Z.2.1
  have hs := ast_lt a nt
  have hs16 : 2 ^ nt ≤ 2 ^ 4 := Nat.pow_le_pow_right (by decide) hnt
  have hv : ∀ l, l < 5 → av ow nt a l ≤ 9 := fun l hl => by
    obtain ⟨e, h⟩ := q_av D hl
    rw [e]; exact h
  have m := me_mt (w := w) (o := m_out K x.1) (v := av ow nt a) (fun l hl => by rw [(q_out Z I D).1]; exact vin_v (by omega) hv hl) 5 (Nat.le_refl 5)
  rw [Nat.sub_self] at m
  unfold mtw
  by_cases c : ∀ l, l < 5 → w l = -1 ∨ w l = nI (av ow nt a l)
  · rw [@decide_eq_true _ (Classical.propDecidable _) c]; exact m.mpr (fun l _ h => c l h)
  · rw [@decide_eq_false _ (Classical.propDecidable _) c]
    exact Bool.eq_false_iff.mpr (fun e => c (fun l h => m.mp e l (Nat.zero_le _) h))
/-- the children by an action, in the sequential order -/
theorem as_0 {x : KY} {t : Nat} (S : KS K na nt 0) : ky_as K x t = if m_can K x.1 (nI t) = 0 then [] else [(t, ky_ac K x (nI t) (nI 8))] := by
  unfold ky_as
  split
  · rfl
  · have e : m_si K x.1 x.2.1 x.2.2 (nI t) = 256 := by
      unfold m_si
      rw [S.1, if_pos (by decide)]
    rw [e]
    have f : ∀ s, s < 8 → ((256 : Int32) >>> (nI s &&& 31)) &&& (1 : Int32) = 0 := by decide
    have g8 : ¬ ((256 : Int32) >>> (nI 8 &&& 31)) &&& (1 : Int32) = 0 := by decide
    show (if ((256 : Int32) >>> (nI 0 &&& 31)) &&& (1 : Int32) = 0 then [] else _) ++ ((if ((256 : Int32) >>> (nI 1 &&& 31)) &&& (1 : Int32) = 0 then [] else _) ++ ((if ((256 : Int32) >>> (nI 2 &&& 31)) &&& (1 : Int32) = 0 then [] else _) ++ ((if ((256 : Int32) >>> (nI 3 &&& 31)) &&& (1 : Int32) = 0 then [] else _) ++ ((if ((256 : Int32) >>> (nI 4 &&& 31)) &&& (1 : Int32) = 0 then [] else _) ++ ((if ((256 : Int32) >>> (nI 5 &&& 31)) &&& (1 : Int32) = 0 then [] else _) ++ ((if ((256 : Int32) >>> (nI 6 &&& 31)) &&& (1 : Int32) = 0 then [] else _) ++ ((if ((256 : Int32) >>> (nI 7 &&& 31)) &&& (1 : Int32) = 0 then [] else _) ++ ((if ((256 : Int32) >>> (nI 8 &&& 31)) &&& (1 : Int32) = 0 then [] else [(t, ky_ac K x (nI t) (nI 8))]) ++ [])))))))) = _
    rw [if_pos (f 0 (by omega)), if_pos (f 1 (by omega)), if_pos (f 2 (by omega)), if_pos (f 3 (by omega)), if_pos (f 4 (by omega)), if_pos (f 5 (by omega)), if_pos (f 6 (by omega)), if_pos (f 7 (by omega)), if_neg g8]
    rfl
theorem wT_c {p0 : Nat → Int32} (Z : KW K te ow na nt sz) (S : KS K na nt 0) : ∀ (f : Nat) (x : KY) (a : AS) (q : List (Nat × Nat)) (d : Nat) (pf : Nat → Int32) (p : List Nat) (acc : Nat × (Nat → Int32)) (b : Option (List Nat)), RA K ow nt 0 x a q → rk K 0 x.1 = d → d + f = 17 → p.length = d → (∀ k, k < d → pf k = nI (p.getD k 0)) → WR p0 acc b → WR p0 (cT K nt 2 (fnW K w) (fun _ => false) f x d pf acc) (wT (KP K) (kv K) (mtw ow nt w) f a p b) := by
  intro f
  induction f with
  | zero =>
    intro x a q d pf p acc b R hr hd
    have := rc_16 (K := K) (ow := ow) (nt := nt) (oc := 0) (x := x) (d := d) ⟨⟨a, q, R⟩, hr⟩
    omega
  | succ f ih =>
    intro x a q d pf p acc b R hr hd hp hpf hW
    obtain ⟨I, -⟩ := ra_in Z R
    have D := R.2
    have hd16 := rc_16 (K := K) (ow := ow) (nt := nt) (oc := 0) (x := x) (d := d) ⟨⟨a, q, R⟩, hr⟩
    have hnt := Z.2.1
    unfold cT wT
    rw [if_neg Bool.false_ne_true, if_pos rfl]
    by_cases he : xa_end (KP K) (kv K) a
    · rw [if_pos he]
      have hm := (ra_end Z S R).mpr he
      show WR p0 (if ky_mv K x nt 0 = true then _ else fnW K w acc x d pf) _
      rw [hm, if_neg Bool.false_ne_true]
      unfold fnW
      rw [me_a Z I D]
      cases b with
      | none =>
        have hW' : acc.1 = 17 := hW.1
        by_cases c : mtw ow nt w a = true
        · rw [if_pos ⟨by omega, c⟩, if_pos ⟨c, rfl⟩]
          exact ⟨hp.symm, by omega, fun k hk => by show (if k < d then pf k else acc.2 k) = _; rw [if_pos (by omega)]; exact hpf k (by omega)⟩
        · rw [if_neg (fun e => c e.2), if_neg (fun e => c e.1)]
          exact hW
      | some q' =>
        have hW' : acc.1 = q'.length ∧ q'.length ≤ 16 ∧ ∀ k, k < q'.length → acc.2 k = nI (q'.getD k 0) := hW
        by_cases c : mtw ow nt w a = true
        · by_cases c2 : d < q'.length
          · rw [if_pos ⟨by omega, c⟩, if_pos ⟨c, decide_eq_true (by omega)⟩]
            exact ⟨hp.symm, by omega, fun k hk => by show (if k < d then pf k else acc.2 k) = _; rw [if_pos (by omega)]; exact hpf k (by omega)⟩
          · rw [if_neg (fun e => c2 (by omega)), if_neg (fun e => c2 (by have := of_decide_eq_true e.2; omega))]
            exact hW
        · rw [if_neg (fun e => c e.2), if_neg (fun e => c e.1)]
          exact hW
    · rw [if_neg he]
      have hm : ky_mv K x nt 0 = true := by
        cases hh : ky_mv K x nt 0 with
        | true => rfl
        | false => exact absurd ((ra_end Z S R).mp hh) he
      show WR p0 (if ky_mv K x nt 0 = true then _ else fnW K w acc x d pf) _
      rw [hm, if_pos rfl, kp_nt Z]
      have loop : ∀ n i, i + n = nt → ∀ (acc : Nat × (Nat → Int32)) (b : Option (List Nat)), WR p0 acc b → WR p0 ((ky_th K x n i).foldl (fun a c => cT K nt 2 (fnW K w) (fun _ => false) f c.2 (d + 1) (pth pf d c.1) a) acc) ((List.range' i n).foldl (fun b t => @ite _ (xa_en (KP K) (kv K) a t) (Classical.propDecidable _) (wT (KP K) (kv K) (mtw ow nt w) f (xa_ac (KP K) (kv K) 0 a t (sqw (KP K) a t)) (p ++ [t]) b) b) b) := by
        intro n
        induction n with
        | zero => intro i _ acc b h; exact h
        | succ n ihn =>
          intro i hi acc b hW
          have hq : ky_es K x i = [] := by
            unfold ky_es
            rw [if_pos ((q_hq Z S I D (by omega)).mpr (fun m hm _ => by have := (I.2.2.2.1 m hm).2.2; exact absurd this (by decide)))]
          unfold ky_th
          rw [hq, List.nil_append, List.foldl_append, List.range'_succ]
          show WR p0 _ ((List.range' (i + 1) n).foldl _ _)
          refine ihn (i + 1) (by omega) _ _ ?_
          show WR p0 _ (@ite _ (xa_en (KP K) (kv K) a i) (Classical.propDecidable _) (wT (KP K) (kv K) (mtw ow nt w) f (xa_ac (KP K) (kv K) 0 a i (sqw (KP K) a i)) (p ++ [i]) b) b)
          rw [as_0 S]
          obtain ⟨k1, k2⟩ | ⟨k1, k2⟩ := q_can Z S I D (show i < nt by omega)
          · rw [if_pos k1, if_neg k2]; exact hW
          · rw [if_neg (by rw [k1]; decide), if_pos k2]
            have hmem : ((i, ky_ac K x (nI i) (nI 8)) : Nat × KY) ∈ ky_as K x i := by
              rw [as_0 S, if_neg (by rw [k1]; decide)]; exact List.mem_cons_self
            obtain ⟨w', -, -, e3, e4, e5, -⟩ := ra_as Z S R (show i < nt by omega) hmem
            have ew : w' = sqw (KP K) a i := sqw_se.mp e3
            rw [ew] at e4
            show WR p0 (cT K nt 2 (fnW K w) (fun _ => false) f (ky_ac K x (nI i) (nI 8)) (d + 1) (pth pf d i) acc) _
            refine ih _ _ _ (d + 1) _ (p ++ [i]) acc b e4 (by rw [← hr]; exact e5) (by omega) (by rw [List.length_append, hp]; rfl) (fun k hk => ?_) hW
            have ep : pth pf d i = up_1 pf d (nI i) := if_pos (by omega)
            rw [ep]
            by_cases ek : k = d
            · rw [ek, up_same, List.getD_eq_getElem?_getD, List.getElem?_append_right (by omega), hp, Nat.sub_self]
              rfl
            · rw [up_ne ek, hpf k (by omega), List.getD_eq_getElem?_getD, List.getD_eq_getElem?_getD, List.getElem?_append_left (by omega)]
      exact loop nt 0 (by omega) acc b hW
end
