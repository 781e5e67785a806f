/-! ===== rows that show a state but for some threads; settle over states ===== -/
def DRs (K : Nat → Nat → Int32) (te ow rx : Nat → Nat) (na nt sz o : Nat) (V : Nat → Bool) (S : Nat → Prop) (g : Nat → Int32) (a : AS) (p : List Nat) : Prop :=
  (∀ t, t < nt → S t → DTh K te ow rx na sz o g a t) ∧ (∀ l, l < 5 → nt ≤ ow l → g (4 + l) = 0) ∧
  (∀ m, m < 2 → (as_ho a m = 0 ∧ g (26 + m) = -1) ∨ ∃ t, t < nt ∧ as_ho a m = t + 1 ∧ g (26 + m) = nI t) ∧
  (∀ t, t < 4 → g (130 + t) = -1 ∨ ∃ n, n < 8 ∧ g (130 + t) = nI n) ∧
  (g 96 = nI p.length ∧ p.length ≤ rkd a ∧ ∀ i, i < p.length → g (97 + i) = nI (p.getD i 0)) ∧
  (o ≠ 1 → DM K nt o V g a) ∧ (o = 1 → DQ K nt g a)
section
variable {h H : AH} {d s o t : Nat} {g g' F : Nat → Int32} {mo : Int32} {K : Nat → Nat → Int32} {te ow rx : Nat → Nat} {na nt sz : Nat} {V : Nat → Bool} {a : AS} {p : List Nat} {S : Nat → Prop}
theorem dr_s (D : DR K te ow rx na nt sz o V g a p) : DRs K te ow rx na nt sz o V (fun _ => True) g a p := ⟨fun t ht _ => D.1 t ht, D.2⟩
theorem s_dr (D : DRs K te ow rx na nt sz o V S g a p) (hS : ∀ t, t < nt → S t) : DR K te ow rx na nt sz o V g a p := ⟨fun t ht => D.1 t ht (hS t ht), D.2⟩
theorem dt_cg {dn dn' : Nat → Prop} {lm : LM} {e : Nat} (ht : t < 4) (h1 : g' t = g t) (h2 : ∀ l, l < 5 → ow l = t → g' (4 + l) = g (4 + l) ∧ g' (9 + l) = g (9 + l)) (h3 : ∀ n, n < 8 → dn n → g' (113 + n) = g (113 + n) ∧ dn' n) (T : TR K te ow rx sz o dn g t lm e) : TR K te ow rx sz o dn' g' t lm e := by
  obtain ⟨t1, t2, t3, t4, t5⟩ := T
  refine ⟨h1.trans t1, t2, t3, fun l hl ho => ?_, fun ho l hl hol => ?_⟩
  · rw [(h2 l hl ho).1]; exact t4 l hl ho
  · obtain ⟨q1, q2⟩ | ⟨n, q1, q2, q3, q4⟩ := t5 ho l hl hol
    · left; rw [(h2 l hl hol).2]; exact ⟨q1, q2⟩
    · right; exact ⟨n, q1, (h3 n q1 q2).2, by rw [(h2 l hl hol).2]; exact q3, by rw [(h3 n q1 q2).1]; exact q4⟩
theorem q_len {qs : List Nat} (h1 : qs.Pairwise (· < ·)) (h2 : ∀ m, m ∈ qs → m < 8) : qs.length ≤ 8 := by
  have key : ∀ (l : List Nat) (b : Nat), l.Pairwise (· < ·) → (∀ m, m ∈ l → b ≤ m ∧ m < 8) → l.length + b ≤ 8 ∨ l = [] := by
    intro l
    induction l with
    | nil => intro b _ _; exact Or.inr rfl
    | cons y ys ih =>
      intro b hp hb
      have hy := hb y List.mem_cons_self
      obtain c | c := ih (y + 1) (List.Pairwise.of_cons hp) (fun m hm => ⟨List.rel_of_pairwise_cons hp hm, (hb m (List.mem_cons_of_mem _ hm)).2⟩)
      · left; show ys.length + 1 + b ≤ 8; omega
      · left; rw [c]; show 0 + 1 + b ≤ 8; omega
  obtain c | c := key qs 0 h1 (fun m hm => ⟨by omega, h2 m hm⟩)
  · omega
  · rw [c]; exact Nat.zero_le _
theorem dm_cg (hnt : nt ≤ 4) (h1 : ∀ k, 14 ≤ k → k < 142 → g' k = g k) (D : DM K nt o V g a) : DM K nt o V g' a := by
  obtain ⟨m1, m2, m3, m4, m5⟩ := D
  refine ⟨fun c hc hv => ?_, fun n hn => ?_, fun n hn => ?_, ?_, fun t ht => ?_⟩
  · rw [h1 _ (by omega) (by omega)]; exact m1 c hc hv
  · rw [h1 _ (by omega) (by omega)]; exact m2 n hn
  · rw [h1 _ (by omega) (by omega)]; exact m3 n hn
  · rw [h1 _ (by omega) (by omega)]; exact m4
  · rw [h1 _ (by omega) (by omega)]; exact m5 t ht
theorem dq_cg (Z : KW K te ow na nt sz) (I : xa_in (KP K) 1 a) (h1 : ∀ k, 14 ≤ k → k < 142 → g' k = g k) (D : DQ K nt g a) : DQ K nt g' a := by
  have hnt := Z.2.1
  obtain ⟨m1, m2, m3⟩ := D
  refine ⟨fun c hc => ?_, fun c hc => ?_, fun t ht => ?_⟩
  · rw [h1 _ (by omega) (by omega)]; exact m1 c hc
  · rw [h1 _ (by omega) (by omega)]; exact m2 c hc
  · obtain ⟨qs, q1, q2, q3, q4⟩ := m3 t ht
    have h8 := q_len q2 (fun m hm => by
      have := (I.2.1 m (I.2.2.2.1 m ((q3 m).mp hm).1).1).1
      rw [kp_na Z] at this
      have := Z.1
      omega)
    refine ⟨qs, by rw [h1 _ (by omega) (by omega)]; exact q1, q2, q3, fun i hi => ?_⟩
    rw [h1 _ (by omega) (by omega), h1 _ (by omega) (by omega)]
    exact q4 i hi
theorem drs_cg (Z : KW K te ow na nt sz) (I : xa_in (KP K) o a) (hg : ∀ k, k < 142 → g' k = g k) (D : DRs K te ow rx na nt sz o V S g a p) (hp : p.length ≤ 8) : DRs K te ow rx na nt sz o V S g' a p := by
  have hnt := Z.2.1
  obtain ⟨d1, d2, d3, d4, ⟨d5, d6, d7⟩, d8, d9⟩ := D
  refine ⟨fun t ht hS => ?_, fun l hl ho => ?_, fun m hm => ?_, fun t ht => ?_, ⟨?_, d6, fun i hi => ?_⟩, fun ho => dm_cg hnt (fun k _ hk => hg k hk) (d8 ho), fun ho => dq_cg Z (ho ▸ I) (fun k _ hk => hg k hk) (d9 ho)⟩
  · obtain ⟨e, T, c⟩ := d1 t ht hS
    exact ⟨e, dt_cg (by omega) (hg _ (by omega)) (fun l hl _ => ⟨hg _ (by omega), hg _ (by omega)⟩) (fun n hn hd => ⟨hg _ (by omega), hd⟩) T, c⟩
  · rw [hg _ (by omega)]; exact d2 l hl ho
  · rw [hg _ (by omega)]; exact d3 m hm
  · rw [hg _ (by omega)]; exact d4 t ht
  · rw [hg _ (by omega)]; exact d5
  · rw [hg _ (by omega)]; exact d7 i hi
theorem dr_cg (Z : KW K te ow na nt sz) (I : xa_in (KP K) o a) (hg : ∀ k, k < 142 → g' k = g k) (D : DR K te ow rx na nt sz o V g a p) (hp : p.length ≤ 8) : DR K te ow rx na nt sz o V g' a p := s_dr (drs_cg Z I hg (dr_s D) hp) (fun _ _ => trivial)
theorem p_len (D : DRs K te ow rx na nt sz o V S g a p) : p.length ≤ 8 := Nat.le_trans D.2.2.2.2.1.2.1 (sum8_le (g := fun n => dn1 (as_do a n)) (fun _ _ => dn1_le))
/-- settle brings thread t to its next action -/
theorem dr_seg {lm : LM} {e1 fu : Nat} (P : PR F K te ow rx na nt sz V mo) (E : RE h s F o mo) (hd : d < 20) (ht : t < nt) (I : xa_in (KP K) o a) (hS : ∀ t', S t' → t' ≠ t) (D : DRs K te ow rx na nt sz o V S g a p) (T : TR K te ow rx sz o (as_do a) g t lm e1) (hl : xa_lm a t = (w_go K 64 lm e1).1) (hx : xa_nx a t = (w_go K 64 lm e1).2) (hf : 64 < fu) :
    ∃ g' e' fu', l_X11_settle_2 fu 102 (nI d) (nI t) 1 (sR h d g) = l_X11_settle_2 fu' 102 (nI d) (nI t) 1 (sR h d g') ∧ fu + e1 ≤ fu' + e' ∧ e1 ≤ e' ∧ DRs K te ow rx na nt sz o V (fun t' => S t' ∨ t' = t) g' a p ∧ GK ow t g g' ∧
      TR K te ow rx sz o (as_do a) g' t (xa_lm a t) e' ∧ ((K 0 e' = 10 ∧ xa_nx a t = 8) ∨ (xa_nx a t < na ∧ K 6 e' = nI (xa_nx a t) ∧ K 8 (xa_nx a t) = nI e')) := by
  have Z := P.1
  have hnt := Z.2.1
  have hsz := Z.2.2.1
  obtain ⟨g', e', fu', x1, x2, x3, x4, x5, x6⟩ := se_seg P E hd ht 64 lm e1 g fu T (by have := T.2.1; omega) hf
  rw [← hl] at x4
  rw [← hx] at x6
  have k14 : ∀ k, 14 ≤ k → g' k = g k := fun k hk => x5 k (by omega) (fun l hl _ => by omega)
  have hp := p_len D
  obtain ⟨d1, d2, d3, d4, ⟨d5, d6, d7⟩, d8, d9⟩ := D
  refine ⟨g', e', fu', x1, x2, x3, ⟨fun t' ht' hS' => ?_, fun l hl ho => ?_, fun m hm => ?_, fun t ht => ?_, ⟨?_, d6, fun i hi => ?_⟩, fun ho => dm_cg hnt (fun k hk _ => k14 k hk) (d8 ho), fun ho => dq_cg Z (ho ▸ I) (fun k hk _ => k14 k hk) (d9 ho)⟩, x5, x4, x6⟩
  · obtain hS' | rfl := hS'
    · have hne := hS t' hS'
      obtain ⟨e, T', c⟩ := d1 t' ht' hS'
      refine ⟨e, dt_cg (by omega) (x5 _ hne (fun l hl ho => by omega)) (fun l hl ho => ?_) (fun n hn hd => ⟨k14 _ (by omega), hd⟩) T', c⟩
      refine ⟨x5 _ (by omega) (fun l' hl' ho' => ⟨fun x => hne ?_, by omega⟩), x5 _ (by omega) (fun l' hl' ho' => ⟨by omega, fun x => hne ?_⟩)⟩
      · have : l = l' := by omega
        rw [← ho, this, ho']
      · have : l = l' := by omega
        rw [← ho, this, ho']
    · exact ⟨e', x4, x6⟩
  · rw [x5 _ (by omega) (fun l' hl' ho' => ⟨fun x => ?_, by omega⟩)]
    · exact d2 l hl ho
    · have : l = l' := by omega
      rw [this, ho'] at ho
      omega
  · rw [k14 _ (by omega)]; exact d3 m hm
  · rw [k14 _ (by omega)]; exact d4 t ht
  · rw [k14 _ (by omega)]; exact d5
  · rw [k14 _ (by omega)]; exact d7 i hi
/-- the copy of a state -/
theorem x_copy (E : RE h s F o mo) (hd : d + 1 < 20) : f_X11_copy 102 (nI d) h = some (sR h (d + 1) (rowv h d)) := by
  obtain ⟨h', c1, ⟨r1, r2, r3, r4, r5, r6, r7⟩, c3, c4⟩ := e_copy hd E.1
  rw [c1]
  congr 1
  refine ah_i r1 r2 r3 r4 ?_ r6 r7
  funext r k
  show hp_i h' r k = if r = 109 ∧ 142 * (d + 1) ≤ k ∧ k < 142 * (d + 1) + 142 then hp_i h 109 (142 * d + (k - 142 * (d + 1))) else hp_i h r k
  by_cases c : r = 109 ∧ 142 * (d + 1) ≤ k ∧ k < 142 * (d + 1) + 142
  · rw [if_pos c, c.1]
    have := c3 (k - 142 * (d + 1)) (by omega)
    rw [show 142 * (d + 1) + (k - 142 * (d + 1)) = k by omega] at this
    exact this
  · rw [if_neg c]
    by_cases c9 : r = 109
    · subst c9
      exact c4 k (by omega)
    · rw [r5 r c9]
/-- the end of acts, up to settle -/
def actG (g g0 : Nat → Int32) (n t len k : Nat) (set : Int32) : Nat → Int32 :=
  up_1 (up_1 (up_1 (up_1 (up_1 (up_1 g (105 + n) set) 129 (g0 129 ||| ((1 : Int32) <<< (nI n &&& 31)))) (130 + t) (nI n)) (97 + len) (nI t)) 96 (nI (len + 1))) t (nI (k + 1))
theorem x_286 {n len k : Nat} {set : Int32} (E : RE h s F o mo) (hd : d + 1 < 20) (ht : t < 4) (hn : n < 8) (hl : len ≤ 8) (h96 : rowv h d 96 = nI len) : b_X11_acts_286 102 (nI d) (nI t) (nI (d + 1)) (nI k) (nI n) set (sR h (d + 1) g) = (f_X11_settle 102 (nI (d + 1)) (nI t) (sR h (d + 1) (actG g (rowv h d) n t len k set))).bind fun h20 => some h20 := by
  have z : (0 : Int32) + nI t = nI t := by rw [ad, Nat.zero_add]
  have o1 : ∀ G, ok_v (sR h (d + 1) G) 102 11 = some () := fun G => x_ok (sR_re E)
  have s1 : ∀ G (k : Nat), k < 142 → f_X11_st 102 (nI d) (nI k) (sR h (d + 1) G) = some (rowv h d k, sR h (d + 1) G) := fun G k hk => x_so E (by omega) hk (by omega)
  have p1 : ∀ G (k : Nat) v, k < 142 → f_X11_put 102 (nI (d + 1)) (nI k) v (sR h (d + 1) G) = some (sR h (d + 1) (up_1 G k v)) := fun G k v hk => x_put E (by omega) hk
  unfold b_X11_acts_286
  rw [o1, Option.bind_some, ad, p1 _ _ _ (by omega), Option.bind_some, o1, Option.bind_some, show (129 : Int32) = nI 129 from rfl, s1 _ _ (by omega), Option.bind_some, o1, Option.bind_some, p1 _ _ _ (by omega), Option.bind_some, o1, Option.bind_some, ad, p1 _ _ _ (by omega), Option.bind_some, o1, Option.bind_some, show (96 : Int32) = nI 96 from rfl, s1 _ _ (by omega), Option.bind_some, h96, o1, Option.bind_some, ad, p1 _ _ _ (by omega), Option.bind_some, o1, Option.bind_some, s1 _ _ (by omega), Option.bind_some, h96, o1, Option.bind_some, da, p1 _ _ _ (by omega), Option.bind_some, o1, Option.bind_some, z, da, p1 _ _ _ (by omega), Option.bind_some, o1, Option.bind_some]
  rfl
end
