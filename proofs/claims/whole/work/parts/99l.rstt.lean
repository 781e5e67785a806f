/-! ===== the reference's empties (order 1), start ===== -/
section
variable {h H : AH} {d s o t w : Nat} {g F : Nat → Int32} {mo wI : Int32} {K : Nat → Nat → Int32} {te ow rx : Nat → Nat} {na nt sz : Nat} {V : Nat → Bool} {a : AS} {p : List Nat} {S : Nat → Prop}
theorem nI_m1 {a : Nat} (h : 1 ≤ a) : nI a - (1 : Int32) = nI (a - 1) := by
  obtain ⟨b, rfl⟩ : ∃ b, a = b + 1 := ⟨a - 1, by omega⟩
  rw [← nI_add, Nat.add_sub_cancel]
  exact Int32.add_sub_cancel _ _
theorem l_emp {L : Nat} (E : RE h s F o mo) (hd : d + 1 < 20) (ht : t < 4) (hL : L ≤ 8) (h1 : 1 ≤ L) : ∀ j k, k + j = L → 1 ≤ k → ∀ fu, j < fu → ∀ G, ∃ G', l_X11_empties_52 fu 102 (nI d) (nI t) (nI L) (nI k) (sR h (d + 1) G) = some (sR h (d + 1) G') ∧
    (∀ i, k ≤ i + 1 → i + 1 < L → G' (32 + 8 * t + i) = rowv h d (32 + 8 * t + (i + 1)) ∧ G' (64 + 8 * t + i) = rowv h d (64 + 8 * t + (i + 1))) ∧ G' (28 + t) = nI (L - 1) ∧ ∀ q, q ≠ 28 + t → (∀ i, k ≤ i + 1 → i + 1 < L → q ≠ 32 + 8 * t + i ∧ q ≠ 64 + 8 * t + i) → G' q = G q := by
  have o1 : ∀ G, ok_v (sR h (d + 1) G) 102 11 = some () := fun G => x_ok (sR_re E)
  have s1 : ∀ G (k : Nat), k < 142 → f_X11_st 102 (nI d) (nI k) (sR h (d + 1) G) = some (rowv h d k, sR h (d + 1) G) := fun G k hk => x_so E (by omega) hk (by omega)
  have p1 : ∀ G (k : Nat) v, k < 142 → f_X11_put 102 (nI (d + 1)) (nI k) v (sR h (d + 1) G) = some (sR h (d + 1) (up_1 G k v)) := fun G k v hk => x_put E (by omega) hk
  intro j
  induction j with
  | zero =>
    intro k hk k1 fu hf G
    obtain ⟨fu, rfl⟩ : ∃ f, fu = f + 1 := ⟨fu - 1, by omega⟩
    refine ⟨up_1 G (28 + t) (nI (L - 1)), ?_, fun i i1 i2 => by omega, up_same, fun q q1 q2 => up_ne q1⟩
    show b_X11_empties_52 (l_X11_empties_52 fu) 102 (nI d) (nI t) (nI L) (nI k) (sR h (d + 1) G) = _
    unfold b_X11_empties_52
    rw [if_pos ((cmp_N (by omega) (by omega)).mpr (by omega))]
    unfold b_X11_empties_132
    rw [o1, Option.bind_some, da, ad, nI_m1 h1, p1 _ _ _ (by omega), Option.bind_some]
  | succ j ih =>
    intro k hk k1 fu hf G
    obtain ⟨fu, rfl⟩ : ∃ f, fu = f + 1 := ⟨fu - 1, by omega⟩
    obtain ⟨G', x1, x2, x3, x4⟩ := ih (k + 1) (by omega) (by omega) fu (by omega) (up_1 (up_1 G (32 + 8 * t + (k - 1)) (rowv h d (32 + 8 * t + k))) (64 + 8 * t + (k - 1)) (rowv h d (64 + 8 * t + k)))
    refine ⟨G', ?_, fun i i1 i2 => ?_, x3, fun q q1 q2 => ?_⟩
    · show b_X11_empties_52 (l_X11_empties_52 fu) 102 (nI d) (nI t) (nI L) (nI k) (sR h (d + 1) G) = _
      unfold b_X11_empties_52
      rw [if_neg (fun e => by have := (cmp_N (by omega) (by omega)).mp e; omega)]
      unfold b_X11_empties_58
      have i3 : ∀ b : Nat, nI b + (8 : Int32) * nI t + nI k = nI (b + 8 * t + k) := fun b => by rw [mu, nI_add, nI_add]
      rw [o1, Option.bind_some, show (32 : Int32) = nI 32 from rfl, i3, s1 _ _ (by omega), Option.bind_some, o1, Option.bind_some, da, nI_m1 (by omega), p1 _ _ _ (by omega), Option.bind_some, o1, Option.bind_some, show (64 : Int32) = nI 64 from rfl, i3, s1 _ _ (by omega), Option.bind_some, o1, Option.bind_some, nI_m1 (by omega), p1 _ _ _ (by omega), Option.bind_some, da, show 32 + 8 * t + k - 1 = 32 + 8 * t + (k - 1) by omega, show 64 + 8 * t + k - 1 = 64 + 8 * t + (k - 1) by omega]
      exact x1
    · by_cases ei : i + 1 = k
      · rw [x4 _ (by omega) (fun i' _ _ => by omega), x4 _ (by omega) (fun i' _ _ => by omega), show i = k - 1 by omega, up_ne (by omega), up_same, up_same, show k - 1 + 1 = k by omega]
        exact ⟨rfl, rfl⟩
      · exact x2 i (by omega) i2
    · have := q2 (k - 1) (by omega) (by omega)
      rw [x4 q q1 (fun i i1 i2 => q2 i (by omega) i2), up_ne this.2, up_ne this.1]
/-- the first of a queue leaves it -/
theorem x_emp (P : PR F K te ow rx na nt sz V mo) (E : RE h s F 1 mo) (hd : d + 1 < 20) (I : xa_in (KP K) 1 a) (D : DR K te ow rx na nt sz 1 V (rowv h d) a p) (ht : t < nt) (hq : ¬ rowv h d (28 + t) = 0) :
    ∃ g' m, f_X11_empties 102 (nI d) (nI t) h = some (sR h (d + 1) g') ∧ xa_fi (KP K) a t m ∧ DR K te ow rx na nt sz 1 V g' (xa_em (KP K) a m) p := by
  have Z := P.1
  have hna := Z.1
  have hnt := Z.2.1
  have hsz := Z.2.2.1
  have D' := D
  obtain ⟨d1, d2, d3, d4, ⟨d5, d6, d7⟩, d8, d9⟩ := D
  obtain ⟨q1, q2, q3⟩ := d9 rfl
  obtain ⟨qs, u1, u2, u3, u4⟩ := q3 t ht
  have hp := p_len (dr_s D')
  cases qs with
  | nil => exact absurd (u1.trans rfl) hq
  | cons m rest =>
    have mq : ∀ x, x ∈ m :: rest → x < na ∧ xa_ob (KP K) x < 6 ∧ as_do a x := fun x hx => by
      obtain ⟨y1, y2, -⟩ := I.2.2.2.1 x ((u3 x).mp hx).1
      have := (I.2.1 x y1).1
      rw [kp_na Z] at this
      obtain ⟨el, opl, w1, w2, w3, w4, w5, w6, w7, w8, w9, w10, w11, w12⟩ := an_f P this
      obtain ⟨-, o1, g1, gb1, -, -, -, g2, -⟩ := Z.2.2.2.2.2.2.2.1 el w1
      have e1 : o1 = 1 := by rw [w3, ← w8, y2] at g1; exact ((nI_eq (by omega) (by omega)).mp g1).symm
      obtain ⟨cc, v1, v2⟩ := g2 (by omega)
      exact ⟨this, by rw [w10, v2, ix_nI (by omega)]; exact v1, y1⟩
    have len8 : (m :: rest).length ≤ 8 := q_len u2 (fun x hx => by have := (mq x hx).1; omega)
    have lenr : (m :: rest).length = rest.length + 1 := rfl
    have hm := (u3 m).mp List.mem_cons_self
    have ob6 := (mq m List.mem_cons_self).2.1
    obtain ⟨v1, v2, v3⟩ := u4 0 (by rw [lenr]; omega)
    rw [Nat.add_zero] at v1 v2
    have gd0 : (m :: rest).getD 0 0 = m := rfl
    rw [gd0] at v1 v2 v3
    have hfi : xa_fi (KP K) a t m := by
      refine ⟨by rw [kp_nt Z]; exact ht, hm.1, hm.2, fun m' h1 h2 h3 => ?_⟩
      have := (u3 m').mpr ⟨h2, h3⟩
      obtain rfl | this := List.mem_cons.mp this
      · omega
      · have := List.rel_of_pairwise_cons u2 this
        omega
    obtain ⟨G', x1, x2, x3, x4⟩ := l_emp (L := rest.length + 1) (t := t) E hd (by omega) (by omega) (by omega) rest.length 1 (by omega) (by omega) fu_ (by show rest.length < 200000; omega) (up_1 (rowv h d) (14 + xa_ob (KP K) m) (as_wv a m))
    have o1 : ∀ G, ok_v (sR h (d + 1) G) 102 11 = some () := fun G => x_ok (sR_re E)
    have s1 : ∀ G (k : Nat), k < 142 → f_X11_st 102 (nI d) (nI k) (sR h (d + 1) G) = some (rowv h d k, sR h (d + 1) G) := fun G k hk => x_so E (by omega) hk (by omega)
    have p1 : ∀ G (k : Nat) v, k < 142 → f_X11_put 102 (nI (d + 1)) (nI k) v (sR h (d + 1) G) = some (sR h (d + 1) (up_1 G k v)) := fun G k v hk => x_put E (by omega) hk
    have lo : ∀ k, (k < 28 ∨ 96 ≤ k) → k ≠ 14 + xa_ob (KP K) m → G' k = rowv h d k := fun k k1 k2 => by
      rw [x4 k (by omega) (fun i _ i2 => by omega), up_ne k2]
    refine ⟨G', m, ?_, hfi, fun t' ht' => ?_, fun l hl hol => ?_, fun m' hm' => ?_, fun t' ht' => ?_, ⟨?_, ?_, fun i hi => ?_⟩, fun x => absurd rfl x, fun _ => ⟨fun c hc => ?_, fun c hc => ?_, fun t' ht' => ?_⟩⟩
    · unfold f_X11_empties b_X11_empties_0
      rw [x_ok E, Option.bind_some, x_copy E hd, Option.bind_some, o1, Option.bind_some, mu, ad, s1 _ _ (by omega), Option.bind_some, v1, o1, Option.bind_some, ad, s1 _ _ (by omega), Option.bind_some, v2, o1, Option.bind_some, da, ad, p1 _ _ _ (by omega), Option.bind_some, o1, Option.bind_some, ad, s1 _ _ (by omega), Option.bind_some, u1, lenr]
      exact x1
    · obtain ⟨e', T', c⟩ := d1 t' ht'
      exact ⟨e', dt_cg (by omega) (lo _ (by omega) (by omega)) (fun l hl _ => ⟨lo _ (by omega) (by omega), lo _ (by omega) (by omega)⟩) (fun n hn hd => ⟨lo _ (by omega) (by omega), hd⟩) T', c⟩
    · rw [lo _ (by omega) (by omega)]; exact d2 l hl hol
    · rw [lo _ (by omega) (by omega)]; exact d3 m' hm'
    · rw [lo _ (by omega) (by omega)]; exact d4 t' ht'
    · rw [lo _ (by omega) (by omega)]; exact d5
    · exact d6
    · rw [lo _ (by omega) (by omega)]; exact d7 i hi
    · have e1 : xa_vs (xa_em (KP K) a m) (as_me (xa_em (KP K) a m) c) = if c = xa_ob (KP K) m then as_wv a m else xa_vs a (as_me a c) := by
        show (if up_1 (as_me a) (xa_ob (KP K) m) (m + 1) c = 0 then 0 else as_wv a (up_1 (as_me a) (xa_ob (KP K) m) (m + 1) c - 1)) = _
        by_cases ec : c = xa_ob (KP K) m
        · rw [if_pos ec, ec, up_same, if_neg (by omega), Nat.add_sub_cancel]
        · rw [if_neg ec, up_ne ec]
          rfl
      rw [e1]
      by_cases ec : c = xa_ob (KP K) m
      · rw [if_pos ec, x4 _ (by omega) (fun i _ _ => by omega), ec, up_same]
        exact ⟨rfl, v3⟩
      · rw [if_neg ec, lo _ (by omega) (by omega)]
        exact q1 c hc
    · rw [lo _ (by omega) (by omega)]; exact q2 c hc
    · have aqu : ∀ x, as_qu (xa_em (KP K) a m) x ↔ x ≠ m ∧ as_qu a x := fun x => by
        show up_1 (as_qu a) m False x ↔ _
        rw [up_false]
      by_cases ett : t' = t
      · subst ett
        have mr : m ∉ rest := fun hmr => by have := List.rel_of_pairwise_cons u2 hmr; omega
        refine ⟨rest, x3, List.Pairwise.of_cons u2, fun x => ?_, fun i hi => ?_⟩
        · rw [aqu]
          constructor
          · intro hx
            have := (u3 x).mp (List.mem_cons_of_mem _ hx)
            exact ⟨⟨fun e => mr (e ▸ hx), this.1⟩, this.2⟩
          · rintro ⟨⟨y1, y2⟩, y3⟩
            obtain e | hx := List.mem_cons.mp ((u3 x).mpr ⟨y2, y3⟩)
            · exact absurd e y1
            · exact hx
        · have gd : rest.getD i 0 = (m :: rest).getD (i + 1) 0 := rfl
          obtain ⟨y1, y2⟩ := x2 i (by omega) (by omega)
          rw [y1, y2, gd]
          exact u4 (i + 1) (by rw [lenr]; omega)
      · obtain ⟨qs', y1, y2, y3, y4⟩ := q3 t' ht'
        have len' : qs'.length ≤ 8 := q_len y2 (fun m hm => by
          have := (I.2.1 m (I.2.2.2.1 m ((y3 m).mp hm).1).1).1
          rw [kp_na Z] at this
          omega)
        have hi2 : ∀ k, (28 ≤ k) → k < 96 → k ≠ 28 + t → (∀ i, i + 1 < rest.length + 1 → k ≠ 32 + 8 * t + i ∧ k ≠ 64 + 8 * t + i) → G' k = rowv h d k := fun k k1 k2 k3 k4 => by
          rw [x4 k k3 (fun i _ i2 => k4 i i2), up_ne (by omega)]
        refine ⟨qs', ?_, y2, fun x => ?_, fun i hi => ?_⟩
        · rw [hi2 _ (by omega) (by omega) (by omega) (fun i _ => by omega)]; exact y1
        · rw [y3, aqu]
          constructor
          · rintro ⟨z1, z2⟩
            refine ⟨⟨fun e => ett ?_, z1⟩, z2⟩
            rw [e, hm.2] at z2
            exact z2.symm
          · rintro ⟨⟨-, z1⟩, z2⟩; exact ⟨z1, z2⟩
        · rw [hi2 _ (by omega) (by omega) (by omega) (fun i' _ => by omega), hi2 _ (by omega) (by omega) (by omega) (fun i' _ => by omega)]
          exact y4 i hi
theorem drs_gk {g' : Nat → Int32} (Z : KW K te ow na nt sz) (ht : t < nt) (I : xa_in (KP K) o a) (hS : ∀ t', S t' → t' ≠ t) (D : DRs K te ow rx na nt sz o V S g a p) (x5 : GK ow t g g') : DRs K te ow rx na nt sz o V S g' a p := by
  have hnt := Z.2.1
  have k14 : ∀ k, 14 ≤ k → g' k = g k := fun k hk => x5 k (by omega) (fun l hl _ => by omega)
  have hp := p_len D
  obtain ⟨d1, d2, d3, d4, ⟨d5, d6, d7⟩, d8, d9⟩ := D
  refine ⟨fun t' ht' hS' => ?_, fun l hl ho => ?_, fun m hm => ?_, fun t ht => ?_, ⟨?_, d6, fun i hi => ?_⟩, fun ho => dm_cg hnt (fun k hk _ => k14 k hk) (d8 ho), fun ho => dq_cg Z (ho ▸ I) (fun k hk _ => k14 k hk) (d9 ho)⟩
  · have hne := hS t' hS'
    obtain ⟨e, T', c⟩ := d1 t' ht' hS'
    refine ⟨e, dt_cg (by omega) (x5 _ hne (fun l hl ho => by omega)) (fun l hl ho => ?_) (fun n hn hd => ⟨k14 _ (by omega), hd⟩) T', c⟩
    refine ⟨x5 _ (by omega) (fun l' hl' ho' => ⟨fun x => hne ?_, by omega⟩), x5 _ (by omega) (fun l' hl' ho' => ⟨by omega, fun x => hne ?_⟩)⟩
    · have : l = l' := by omega
      rw [← ho, this, ho']
    · have : l = l' := by omega
      rw [← ho, this, ho']
  · rw [x5 _ (by omega) (fun l' hl' ho' => ⟨fun x => ?_, by omega⟩)]
    · exact d2 l hl ho
    · have : l = l' := by omega
      rw [this, ho'] at ho
      omega
  · rw [k14 _ (by omega)]; exact d3 m hm
  · rw [k14 _ (by omega)]; exact d4 t ht
  · rw [k14 _ (by omega)]; exact d5
  · rw [k14 _ (by omega)]; exact d7 i hi
/-- where a search of the reference begins -/
def ST0 (P : PA) (V : Nat → Bool) (o : Nat) (a : AS) : Prop :=
  xa_in P o a ∧ xa_t P a ∧ (∃ q, xa_ph P V o q (xa_0 P) a) ∧ (∀ q z, xa_ph P V o q (xa_0 P) z → xa_end P V z → ∃ q', xa_ph P V o q' a z) ∧ (o ≠ 1 → a = xa_0 P)
theorem l_start (P : PR F K te ow rx na nt sz V mo) (E : RE h s F o mo) : ∀ n i, i + n = nt → ∀ fu, n < fu → ∀ (g : Nat → Int32) (a : AS), ST0 (KP K) V o a → DRs K te ow rx na nt sz o V (fun t' => t' < i) g a [] → (∀ t', i ≤ t' → as_th a t' = pa_ks (KP K) t') → (∀ l, l < 5 → i ≤ ow l → g (4 + l) = 0 ∧ g (9 + l) = -1) → (o = 1 → ∀ t', t' < i → ¬ xa_hu (KP K) V 1 a t') →
    ∃ g' a', l_X11_start_111 fu 102 (nI i) (sR h 0 g) = some (sR h 0 g') ∧ ST0 (KP K) V o a' ∧ DR K te ow rx na nt sz o V g' a' [] ∧ (o = 1 → ∀ t', ¬ xa_hu (KP K) V 1 a' t') := by
  have Z := P.1
  have W := kp_wf Z
  have hna := Z.1
  have hnt := Z.2.1
  have hsz := Z.2.2.1
  have ho2 := E.2.2.1
  have e7 : ∀ G, f_X11_of 102 (7 : Int32) (sR h 0 G) = some (nI nt, sR h 0 G) := fun G => by rw [← P.2.2.1]; exact x_of (k := 7) (sR_re E) (by omega)
  have o1 : ∀ G, ok_v (sR h 0 G) 102 11 = some () := fun G => x_ok (sR_re E)
  intro n
  induction n with
  | zero =>
    intro i hi fu hf g a S0 D _ _ hh
    obtain ⟨fu, rfl⟩ : ∃ f, fu = f + 1 := ⟨fu - 1, by omega⟩
    refine ⟨g, a, ?_, S0, s_dr D (fun t ht => by omega), fun ho t' x => ?_⟩
    · show b_X11_start_111 (l_X11_start_111 fu) 102 (nI i) (sR h 0 g) = _
      unfold b_X11_start_111
      rw [o1, Option.bind_some, e7, Option.bind_some, if_pos ((cmp_N (by omega) (by omega)).mpr (by omega))]
      rfl
    · have := x.1
      rw [kp_nt Z] at this
      exact hh ho t' (by omega) x
  | succ n ih =>
    intro i hi fu hf g a S0 D hth hraw hh
    obtain ⟨fu, rfl⟩ : ∃ f, fu = f + 1 := ⟨fu - 1, by omega⟩
    have hin : i < nt := by omega
    obtain ⟨I, X, hq, hpor, h0⟩ := S0
    obtain ⟨s0, k1, k2, k3⟩ := Z.2.2.2.2.2.1 i hin
    have f13 := P.2.2.2.1 i s0 hin k1 k2
    have rb := P.2.2.2.2.2.2.1 s0 (by omega)
    have p0 : f_X11_put 102 (0 : Int32) ((0 : Int32) + nI i) (nI (rx s0)) (sR h 0 g) = some (sR h 0 (up_1 g i (nI (rx s0)))) := by
      rw [ad, Nat.zero_add]
      exact x_put (d := 0) E (by omega) (by omega)
    have D1 := drs_gk Z hin I (S := fun t' => t' < i) (fun t' h' => by omega) D (gk_pc (x := nI (rx s0)))
    have T : TR K te ow rx sz o (as_do a) (up_1 g i (nI (rx s0))) i (fun _ => 0, fun _ => 0) s0 := by
      refine ⟨up_same, k2, k3, fun l hl hol => ?_, fun _ l hl hol => ?_⟩
      · rw [up_ne (by omega)]
        exact ⟨(hraw l hl (by omega)).1, 0, by omega, rfl⟩
      · left
        rw [up_ne (by omega)]
        exact ⟨(hraw l hl (by omega)).2, rfl⟩
    have ek : as_th a i = w_go K 64 (fun _ => 0, fun _ => 0) s0 := by
      rw [hth i (Nat.le_refl _)]
      show w_go K 64 _ (ix (K 7 i)) = _
      rw [k1, ix_nI (by omega)]
    have hfu : fu_ = 200000 := rfl
    obtain ⟨g2, e2, fu2, y1, y2, y3, y4, yk, y5, y6⟩ := dr_seg (fu := fu_) (d := 0) P E (by omega) hin I (S := fun t' => t' < i) (fun t' h' => by omega) D1 T (by unfold xa_lm; rw [ek]) (by unfold xa_nx; rw [ek]) (by decide)
    have e2s := y5.2.1
    have raw2 : ∀ l, l < 5 → i + 1 ≤ ow l → g2 (4 + l) = 0 ∧ g2 (9 + l) = -1 := fun l hl hol => by
      have n1 : ∀ k, (k = 4 + l ∨ k = 9 + l) → ∀ l', l' < 5 → ow l' = i → k ≠ 4 + l' ∧ k ≠ 9 + l' := fun k hk l' hl' ho' => by
        have : l' ≠ l := fun e => by rw [e] at ho'; omega
        omega
      rw [yk _ (by omega) (n1 _ (Or.inl rfl)), yk _ (by omega) (n1 _ (Or.inr rfl)), up_ne (by omega), up_ne (by omega)]
      exact hraw l hl (by omega)
    have head : ∀ R, f_X11_settle 102 (0 : Int32) (nI i) (sR h 0 (up_1 g i (nI (rx s0)))) = some (sR h 0 R) → l_X11_start_111 (fu + 1) 102 (nI i) (sR h 0 g) = l_X11_start_111 fu 102 (nI (i + 1)) (sR h 0 R) := fun R hR => by
      show b_X11_start_111 (l_X11_start_111 fu) 102 (nI i) (sR h 0 g) = _
      unfold b_X11_start_111
      rw [o1, Option.bind_some, e7, Option.bind_some, if_neg (fun e => by have := (cmp_N (by omega) (by omega)).mp e; omega)]
      unfold b_X11_start_121
      rw [o1, Option.bind_some, ad, x_of (sR_re E) (by omega), Option.bind_some, f13, o1, Option.bind_some, p0, Option.bind_some, o1, Option.bind_some, hR, Option.bind_some, da]
    by_cases c1 : o = 1
    · subst c1
      obtain ⟨g3, a3, k, z1, z2, z3, z4, z5⟩ := dr_hur (d := 0) P E (by omega) hin (S := fun t' => t' < i) (fun t' h' => by omega) 64 e2 fu2 g2 a I (by omega) (by omega) y4 y5 y6
      obtain ⟨w1, w2, q', w3⟩ := hur_in W k a a3 I z3
      obtain ⟨q, hq⟩ := hq
      have S3 : ST0 (KP K) V 1 a3 := ⟨w1, hur_t W k a a3 I X z3, ⟨q ++ q', xa_ph_snoc q _ _ _ q' hq w3⟩, fun q1 z hz1 hz2 => by
        obtain ⟨q2, hq2⟩ := hpor q1 z hz1 hz2
        exact hur_por W k a a3 I z3 q2 z hq2 hz2, fun x => absurd rfl x⟩
      have raw3 : ∀ l, l < 5 → i + 1 ≤ ow l → g3 (4 + l) = 0 ∧ g3 (9 + l) = -1 := fun l hl hol => by
        have n1 : ∀ k, (k = 4 + l ∨ k = 9 + l) → ∀ l', l' < 5 → ow l' = i → k ≠ 4 + l' ∧ k ≠ 9 + l' := fun k hk l' hl' ho' => by
          have : l' ≠ l := fun e => by rw [e] at ho'; omega
          omega
        rw [z5 _ (by omega) (by omega) (n1 _ (Or.inl rfl)), z5 _ (by omega) (by omega) (n1 _ (Or.inr rfl))]
        exact raw2 l hl hol
      have hh3 : (1 : Nat) = 1 → ∀ t', t' < i + 1 → ¬ xa_hu (KP K) V 1 a3 t' := fun _ t' ht' x => by
        by_cases et : t' = i
        · subst et; exact z4 x
        · refine hh rfl t' (by omega) ?_
          unfold xa_hu xa_nx at x ⊢
          rw [w2 t' et] at x
          exact x
      obtain ⟨g', a', v1, v2, v3, v4⟩ := ih (i + 1) (by omega) fu (by omega) g3 a3 S3 ⟨fun t' ht' h' => z2.1 t' ht' (by omega), z2.2⟩ (fun t' ht' => by rw [w2 t' (by omega)]; exact hth t' (by omega)) raw3 hh3
      refine ⟨g', a', ?_, v2, v3, v4⟩
      rw [head g3 (by
        unfold f_X11_settle b_X11_settle_0
        exact y1.trans z1)]
      exact v1
    · obtain ⟨g', a', v1, v2, v3, v4⟩ := ih (i + 1) (by omega) fu (by omega) g2 a ⟨I, X, hq, hpor, h0⟩ ⟨fun t' ht' h' => y4.1 t' ht' (by omega), y4.2⟩ (fun t' ht' => hth t' (by omega)) raw2 (fun x => absurd x c1)
      refine ⟨g', a', ?_, v2, v3, v4⟩
      rw [head g2 ?_]
      · exact v1
      · unfold f_X11_settle b_X11_settle_0
        obtain ⟨f, rfl⟩ : ∃ f, fu2 = f + 2 := ⟨fu2 - 2, by omega⟩
        refine y1.trans ?_
        have rb2 := P.2.2.2.2.2.2.1 e2 (by omega)
        refine se_stop (d := 0) E (by omega) (by omega) y5.1 (by omega) rfl ?_
        have rI := P.2.2.2.2.2.1 e2 e2s
        obtain ⟨c2, -⟩ | ⟨c2, c3, c4⟩ := y6
        · have := (rI.2.1 (by rw [c2]; decide)).2
          rw [if_pos c2] at this
          rw [this]
          rintro (c | c | c | ⟨c, -⟩)
          · exact absurd c (by decide)
          · exact absurd c (by decide)
          · exact absurd c (by decide)
          · exact c1 c
        · obtain ⟨e'', op, b1, b2, b3, b4, -⟩ := an_f P c2
          have : e'' = e2 := by rw [c4, nI_eq (by omega) (by omega)] at b2; exact b2.symm
          subst this
          have := (rI.2.1 (by rw [b3, show (9 : Int32) = nI 9 from rfl, nI_eq (by omega) (by omega)]; omega)).2
          rw [if_neg (by rw [b3, show (10 : Int32) = nI 10 from rfl, nI_eq (by omega) (by omega)]; omega)] at this
          rw [this, b3, show (6 : Int32) = nI 6 from rfl, show (7 : Int32) = nI 7 from rfl, show (8 : Int32) = nI 8 from rfl, nI_eq (by omega) (by omega), nI_eq (by omega) (by omega), nI_eq (by omega) (by omega)]
          rintro (c | c | c | ⟨c, -⟩)
          · omega
          · omega
          · omega
          · exact c1 c
theorem x_start (P : PR F K te ow rx na nt sz V mo) (E : RE h s F o mo) : ∃ g' a', f_X11_start 102 h = some (sR h 0 g') ∧ ST0 (KP K) V o a' ∧ DR K te ow rx na nt sz o V g' a' [] ∧ (o = 1 → ∀ t', ¬ xa_hu (KP K) V 1 a' t') := by
  have Z := P.1
  have W := kp_wf Z
  have hnt := Z.2.1
  obtain ⟨h', c1, ⟨r1, r2, r3, r4, r5, r6, r7⟩, c3, c4⟩ := e_st0 E.1
  have eh : h' = sR h 0 st0 := by
    refine ah_i r1 r2 r3 r4 ?_ r6 r7
    funext r k
    show hp_i h' r k = if r = 109 ∧ 142 * 0 ≤ k ∧ k < 142 * 0 + 142 then st0 (k - 142 * 0) else hp_i h r k
    by_cases c : r = 109 ∧ 142 * 0 ≤ k ∧ k < 142 * 0 + 142
    · rw [if_pos c, c.1, c3 k (by omega), Nat.mul_zero, Nat.sub_zero]
    · rw [if_neg c]
      by_cases c9 : r = 109
      · subst c9
        exact c4 k (by omega)
      · rw [r5 r c9]
  rw [c1, eh]
  have sa : ∀ k, ((9 ≤ k ∧ k < 14) ∨ (20 ≤ k ∧ k < 28) ∨ (130 ≤ k ∧ k < 134)) → st0 k = -1 := fun k hk => if_pos hk
  have sb : ∀ k, ¬ ((9 ≤ k ∧ k < 14) ∨ (20 ≤ k ∧ k < 28) ∨ (130 ≤ k ∧ k < 134)) → st0 k = 0 := fun k hk => if_neg hk
  obtain ⟨g', a', v1, v2, v3, v4⟩ := l_start P E nt 0 (by omega) fu_ (by show nt < 200000; omega) st0 (xa_0 (KP K)) ⟨xa_in_0 W, xa_t_0, ⟨[], rfl⟩, fun q z h1 _ => ⟨q, h1⟩, fun _ => rfl⟩
    ⟨fun t ht h' => by omega, fun l hl _ => sb _ (by omega), fun m hm => Or.inl ⟨rfl, sa _ (by omega)⟩, fun t ht => Or.inl (sa _ (by omega)), ⟨sb _ (by omega), Nat.zero_le _, fun i hi => absurd hi (Nat.not_lt_zero _)⟩,
      fun _ => ⟨fun c hc _ => Or.inl ⟨rfl, sa _ (by omega)⟩, fun n hn => by rw [sb _ (by omega)]; exact mk8_0, fun n _ hd => hd.elim, by rw [sb _ (by omega)]; exact mk8_0, fun t ht => Or.inl ⟨sa _ (by omega), fun n hd => hd.elim⟩⟩,
      fun _ => ⟨fun c hc => by rw [sb _ (by omega)]; exact ⟨rfl, 0, by omega, rfl⟩, fun c hc => sa _ (by omega), fun t ht => ⟨[], sb _ (by omega), List.Pairwise.nil, fun m => ⟨fun x => (List.not_mem_nil x).elim, fun x => x.1.elim⟩, fun i hi => absurd hi (Nat.not_lt_zero _)⟩⟩⟩
    (fun _ _ => rfl) (fun l hl _ => ⟨sb _ (by omega), sa _ (by omega)⟩) (fun _ t' ht' => by omega)
  exact ⟨g', a', v1, v2, v3, v4⟩
end
