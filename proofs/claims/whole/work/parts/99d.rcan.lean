/-! ===== a row of the reference shows a state of the mid picture; can ===== -/
def mk8 (x : Int32) (q : Nat → Prop) : Prop := ∃ b, b < 256 ∧ x = nI b ∧ ∀ k, k < 8 → (b.testBit k = true ↔ q k)
/-- orders 0 and 2 -/
def DM (K : Nat → Nat → Int32) (nt o : Nat) (V : Nat → Bool) (g : Nat → Int32) (a : AS) : Prop :=
  (∀ c, c < 6 → (o = 0 ∨ V c = true) → wR (g (20 + c)) (as_me a c)) ∧ (∀ n, n < 8 → mk8 (g (105 + n)) (as_ea a n)) ∧
  (∀ n, n < 8 → as_do a n → xa_op (KP K) n = 1 → g (121 + n) = as_wv a n ∧ ∃ v, v ≤ 9 ∧ as_wv a n = nI v) ∧ mk8 (g 129) (as_do a) ∧
  (∀ t, t < nt → (g (130 + t) = -1 ∧ ∀ n, as_do a n → xa_th (KP K) n ≠ t) ∨ ∃ n, n < 8 ∧ g (130 + t) = nI n ∧ as_do a n ∧ xa_th (KP K) n = t ∧ ∀ m, as_do a m → xa_th (KP K) m = t → m ≤ n)
/-- order 1 -/
def DQ (K : Nat → Nat → Int32) (nt : Nat) (g : Nat → Int32) (a : AS) : Prop :=
  (∀ c, c < 6 → g (14 + c) = xa_vs a (as_me a c) ∧ ∃ v, v ≤ 9 ∧ g (14 + c) = nI v) ∧ (∀ c, c < 6 → g (20 + c) = -1) ∧
  (∀ t, t < nt → ∃ qs : List Nat, g (28 + t) = nI qs.length ∧ qs.Pairwise (· < ·) ∧ (∀ m, m ∈ qs ↔ as_qu a m ∧ xa_th (KP K) m = t) ∧
    ∀ i, i < qs.length → g (32 + 8 * t + i) = nI (xa_ob (KP K) (qs.getD i 0)) ∧ g (64 + 8 * t + i) = as_wv a (qs.getD i 0) ∧ ∃ v, v ≤ 9 ∧ as_wv a (qs.getD i 0) = nI v)
def DTh (K : Nat → Nat → Int32) (te ow rx : Nat → Nat) (na sz o : Nat) (g : Nat → Int32) (a : AS) (t : Nat) : Prop :=
  ∃ e, TR K te ow rx sz o (as_do a) g t (xa_lm a t) e ∧ ((K 0 e = 10 ∧ xa_nx a t = 8) ∨ (xa_nx a t < na ∧ K 6 e = nI (xa_nx a t) ∧ K 8 (xa_nx a t) = nI e))
def DR (K : Nat → Nat → Int32) (te ow rx : Nat → Nat) (na nt sz o : Nat) (V : Nat → Bool) (g : Nat → Int32) (a : AS) (p : List Nat) : Prop :=
  (∀ t, t < nt → DTh K te ow rx na sz o g a t) ∧ (∀ l, l < 5 → nt ≤ ow l → g (4 + l) = 0) ∧
  (∀ m, m < 2 → (as_ho a m = 0 ∧ g (26 + m) = -1) ∨ ∃ t, t < nt ∧ as_ho a m = t + 1 ∧ g (26 + m) = nI t) ∧
  (∀ t, t < 4 → g (130 + t) = -1 ∨ ∃ n, n < 8 ∧ g (130 + t) = nI n) ∧
  (g 96 = nI p.length ∧ p.length ≤ rkd a ∧ ∀ i, i < p.length → g (97 + i) = nI (p.getD i 0)) ∧
  (o ≠ 1 → DM K nt o V g a) ∧ (o = 1 → DQ K nt g a)
section
variable {h H : AH} {d s o t : Nat} {g F : Nat → Int32} {mo : Int32} {K : Nat → Nat → Int32} {te ow rx : Nat → Nat} {na nt sz : Nat} {V : Nat → Bool} {a : AS} {p : List Nat}
theorem kp_f {n e : Nat} (hsz : sz ≤ 64) (he : e < sz) (h8 : K 8 n = nI e) : xa_op (KP K) n = ix (K 0 e) ∧ xa_ob (KP K) n = ix (K 4 e) ∧ xa_tl (KP K) n = ix (K 1 e) ∧ xa_bl (KP K) n = ix (K 2 e) := by
  have : ix (K 8 n) = e := by rw [h8, ix_nI (by omega)]
  refine ⟨?_, ?_, ?_, ?_⟩
  · show ix (K 0 (ix (K 8 n))) = _; rw [this]
  · show ix (K 4 (ix (K 8 n))) = _; rw [this]
  · show ix (K 1 (ix (K 8 n))) = _; rw [this]
  · show ix (K 2 (ix (K 8 n))) = _; rw [this]
/-- the queue is empty -/
theorem qe_iff (E : RE H s F o mo) (Z : KW K te ow na nt sz) (I : xa_in (KP K) o a) (D : DR K te ow rx na nt sz o V g a p) (ht : t < nt) : ¬ (o = 1 ∧ ¬ g (28 + t) = 0) ↔ xa_qe (KP K) a t := by
  by_cases ho : o = 1
  · obtain ⟨-, -, q⟩ := D.2.2.2.2.2.2 ho
    obtain ⟨qs, q1, q2, q3, -⟩ := q t ht
    have h8 : ∀ m, m ∈ qs → m < 8 := fun m hm => by
      have := (I.2.1 m (I.2.2.2.1 m ((q3 m).mp hm).1).1).1
      rw [kp_na Z] at this
      have := Z.1
      omega
    constructor
    · intro hn m hm1 hm2
      have hm := (q3 m).mpr ⟨hm1, hm2⟩
      have e0 : g (28 + t) = 0 := Classical.byContradiction (fun c => hn ⟨ho, c⟩)
      cases qs with
      | nil => cases hm
      | cons x xs =>
        rw [e0] at q1
        have hl : xs.length < 8 := by
          have key : ∀ (l : List Nat) (b : Nat), l.Pairwise (· < ·) → (∀ m, m ∈ l → b ≤ m ∧ m < 8) → l.length + b ≤ 8 ∨ l = [] := by
            intro l
            induction l with
            | nil => intro b _ _; exact Or.inr rfl
            | cons y ys ih =>
              intro b hp hb
              have hy := hb y List.mem_cons_self
              obtain c | c := ih (y + 1) (List.Pairwise.of_cons hp) (fun m hm => ⟨List.rel_of_pairwise_cons hp hm, (hb m (List.mem_cons_of_mem _ hm)).2⟩)
              · left; show ys.length + 1 + b ≤ 8; omega
              · left; rw [c]; show 0 + 1 + b ≤ 8; omega
          obtain c | c := key (x :: xs) 0 q2 (fun m hm => ⟨by omega, h8 m hm⟩)
          · have : xs.length + 1 + 0 ≤ 8 := c
            omega
          · cases c
        have := (nI_eq (a := 0) (b := xs.length + 1) (by omega) (by omega)).mp q1
        omega
    · intro hq c
      apply c.2
      have : qs = [] := by
        cases qs with
        | nil => rfl
        | cons x xs =>
          have := (q3 x).mp List.mem_cons_self
          exact (hq x this.1 this.2).elim
      rw [q1, this]
      rfl
  · refine ⟨fun _ m hm _ => ho (I.2.2.2.1 m hm).2.2, fun _ c => ho c.1⟩
theorem x_can (P : PR F K te ow rx na nt sz V mo) (E : RE H s F o mo) (hd : d < 20) (I : xa_in (KP K) o a) (D : DR K te ow rx na nt sz o V (rowv H d) a p) (ht : t < nt) :
    (xa_en (KP K) V a t ∧ f_X11_can 102 (nI d) (nI t) H = some (1, H)) ∨ (¬ xa_en (KP K) V a t ∧ f_X11_can 102 (nI d) (nI t) H = some (0, H)) := by
  have Z := P.1
  have hna := Z.1
  have hnt := Z.2.1
  have hsz := Z.2.2.1
  obtain ⟨e, ⟨t1, t2, t3, t4, -⟩, t6⟩ := D.1 t ht
  have rb := P.2.2.2.2.2.2.1 e (by omega)
  have rI := P.2.2.2.2.2.1 e t2
  have hq := qe_iff E Z I D ht
  have e26 : hp_i H 102 26 = 1 ↔ o = 1 := by rw [E.2.2.2.2.1]; exact nI_eq (b := 1) (by have := E.2.2.1; omega) (by omega)
  have Fk : ∀ k, k < 900 → hp_i H 106 (900 * s + k) = F k := E.2.2.2.2.2.2
  have pre : ∃ q : Int32, (q = 0 ∨ q = 1) ∧ (q = 0 ↔ ¬ xa_qe (KP K) a t) ∧ f_X11_can 102 (nI d) (nI t) H = b_X11_can_42 102 (nI d) (nI (rx e)) (F (60 + 5 * rx e + 0)) q H := by
    obtain ⟨c1, c2⟩ | ⟨c1, c2⟩ := e_can0 (d := d) (t := t) (e := rx e) E.1 E.2.2.2.1 E.2.1 hd (by omega) t1 (by omega)
    · rw [Fk _ (by omega)] at c2
      refine ⟨1, Or.inr rfl, ⟨fun x => absurd x (by decide), fun x => absurd (hq.mp ?_) x⟩, c2⟩
      rintro ⟨x1, x2⟩
      exact c1 ⟨e26.mpr x1, x2⟩
    · rw [Fk _ (by omega)] at c2
      refine ⟨0, Or.inl rfl, ⟨fun _ x => (hq.mpr x) ⟨e26.mp c1.1, c1.2⟩, fun _ => rfl⟩, c2⟩
  obtain ⟨q, q01, qq, pre⟩ := pre
  have q1 : q = 1 ↔ xa_qe (KP K) a t := by
    obtain rfl | rfl := q01
    · exact ⟨fun x => absurd x (by decide), fun x => absurd x (qq.mp rfl)⟩
    · exact ⟨fun _ => Classical.byContradiction (fun c => absurd (qq.mpr c) (by decide)), fun _ => rfl⟩
  rw [pre]
  have ins : ∀ i, i < 5 → f_X11_instr 102 (nI (rx e)) (nI i) H = some (F (60 + 5 * rx e + i), H) := fun i hi => x_ins E (by omega)
  obtain ⟨c1, c2⟩ | ⟨c1, c2, c3⟩ := t6
  · right
    refine ⟨fun x => ?_, ?_⟩
    · have := x.2.1; rw [kp_na Z] at this; omega
    · have := (rI.2.1 (by rw [c1]; decide)).2
      rw [if_pos c1] at this
      rw [this]
      unfold b_X11_can_42
      rw [if_neg (by decide), if_neg (by decide), if_neg (by decide), if_neg (by decide), if_neg (by decide), if_neg (by decide)]
      exact ok_z_0
  · obtain ⟨-, op, a1, a2, a3, a4, a5, a6, a7, a8, a9, -⟩ := Z.2.2.2.2.2.2.2.1 e t2
    have o5 : op ≤ 5 := by
      apply Nat.le_of_not_lt
      intro x
      have := a4 x
      rw [c2] at this
      exact nI_ne1 (by omega) this
    obtain ⟨k1, k2, k3, k4⟩ := kp_f hsz t2 c3
    have kop : xa_op (KP K) (xa_nx a t) = op := by rw [k1, a1, ix_nI (by omega)]
    have hF := (rI.2.1 (by rw [a1, show (9 : Int32) = nI 9 from rfl, nI_eq (by omega) (by omega)]; omega)).2
    rw [if_neg (by rw [a1, show (10 : Int32) = nI 10 from rfl, nI_eq (by omega) (by omega)]; omega), a1] at hF
    rw [hF]
    have en : xa_en (KP K) V a t ↔ ((op = 0 → V (xa_ob (KP K) (xa_nx a t)) = true → q = 1) ∧ (op = 2 → (xa_lm a t).1 (xa_bl (KP K) (xa_nx a t)) ≠ 0) ∧ (op = 3 → as_ho a (xa_ob (KP K) (xa_nx a t)) = 0 ∧ q = 1) ∧ (op = 4 → q = 1)) := by
      unfold xa_en
      rw [kop, kp_nt Z, kp_na Z, q1]
      exact ⟨fun x => x.2.2, fun x => ⟨ht, c1, x⟩⟩
    have six : op = 0 ∨ op = 1 ∨ op = 2 ∨ op = 3 ∨ op = 4 ∨ op = 5 := by omega
    obtain rfl | rfl | rfl | rfl | rfl | rfl := six
    · -- read
      obtain ⟨c, d1, d2⟩ := a6 (by omega)
      have f2 := (rI.2.2.1 (Or.inl a1)).2.1
      have ob : xa_ob (KP K) (xa_nx a t) = c := by rw [k2, d2, ix_nI (by omega)]
      have i2 := ins 2 (by omega)
      rw [f2, d2] at i2
      have vol := x_vol (c := c) (V := V) E d1 (P.2.2.2.2.2.2.2.1 c d1)
      have en' : xa_en (KP K) V a t ↔ (V c = true → q = 1) := by
        rw [en, ob]
        exact ⟨fun x => x.1 rfl, fun x => ⟨fun _ => x, fun y => absurd y (by decide), fun y => absurd y (by decide), fun y => absurd y (by decide)⟩⟩
      show (_ ∧ b_X11_can_42 102 (nI d) (nI (rx e)) 0 q H = _) ∨ (_ ∧ b_X11_can_42 102 (nI d) (nI (rx e)) 0 q H = _)
      unfold b_X11_can_42
      rw [if_pos rfl]
      unfold b_X11_can_84
      obtain rfl | rfl := q01
      · rw [if_pos rfl]
        unfold b_X11_can_89
        rw [x_ok E, Option.bind_some, show (2 : Int32) = nI 2 from rfl, i2, Option.bind_some, x_ok E, Option.bind_some, vol, Option.bind_some]
        by_cases v : V c = true
        · right
          rw [if_pos v, if_neg n10]
          exact ⟨fun x => absurd (en'.mp x v) (by decide), ok_z_0⟩
        · left
          rw [if_neg v, if_pos rfl]
          exact ⟨en'.mpr (fun x => absurd x v), ok_z_1⟩
      · left
        rw [if_neg (by decide)]
        exact ⟨en'.mpr (fun _ => rfl), ok_z_1⟩
    · left
      refine ⟨en.mpr ⟨fun y => absurd y (by decide), fun y => absurd y (by decide), fun y => absurd y (by decide), fun y => absurd y (by decide)⟩, ?_⟩
      show b_X11_can_42 102 (nI d) (nI (rx e)) 1 q H = _
      unfold b_X11_can_42
      rw [if_neg (by decide), if_pos rfl]
      exact ok_z_1
    · -- through
      obtain ⟨b, d1, d2, d3⟩ := a9 rfl
      have f4 := rI.2.2.2.1 a1
      have bl : xa_bl (KP K) (xa_nx a t) = b := by rw [k4, d2, ix_nI (by omega)]
      have i4 := ins 4 (by omega)
      rw [f4, d2] at i4
      have hl := t4 b d1 (d3.trans t3)
      have en' : xa_en (KP K) V a t ↔ ¬ (xa_lm a t).1 b = 0 := by
        rw [en, bl]
        exact ⟨fun x => x.2.1 rfl, fun x => ⟨fun y => absurd y (by decide), fun _ => x, fun y => absurd y (by decide), fun y => absurd y (by decide)⟩⟩
      show (_ ∧ b_X11_can_42 102 (nI d) (nI (rx e)) 2 q H = _) ∨ (_ ∧ b_X11_can_42 102 (nI d) (nI (rx e)) 2 q H = _)
      unfold b_X11_can_42
      rw [if_neg (by decide), if_neg (by decide), if_pos rfl]
      unfold b_X11_can_108
      rw [x_ok E, Option.bind_some, show f_X11_instr 102 (nI (rx e)) (4 : Int32) H = _ from i4, Option.bind_some, x_ok E, Option.bind_some, ad, x_st E hd (by omega), Option.bind_some, hl.1]
      by_cases v : (xa_lm a t).1 b = 0
      · right
        rw [if_pos v]
        exact ⟨fun x => (en'.mp x) v, ok_z_0⟩
      · left
        rw [if_neg v]
        exact ⟨en'.mpr v, ok_z_1⟩
    · -- lock
      obtain ⟨m, d1, d2⟩ := a7 (by omega)
      have f2 := (rI.2.2.2.2.2.1 (Or.inl a1)).2
      have ob : xa_ob (KP K) (xa_nx a t) = m := by rw [k2, d2, ix_nI (by omega)]
      have i2 := ins 2 (by omega)
      rw [f2, d2] at i2
      have en' : xa_en (KP K) V a t ↔ as_ho a m = 0 ∧ q = 1 := by
        rw [en, ob]
        exact ⟨fun x => x.2.2.1 rfl, fun x => ⟨fun y => absurd y (by decide), fun y => absurd y (by decide), fun _ => x, fun y => absurd y (by decide)⟩⟩
      show (_ ∧ b_X11_can_42 102 (nI d) (nI (rx e)) 3 q H = _) ∨ (_ ∧ b_X11_can_42 102 (nI d) (nI (rx e)) 3 q H = _)
      unfold b_X11_can_42
      rw [if_neg (by decide), if_neg (by decide), if_neg (by decide), if_pos rfl]
      unfold b_X11_can_130
      obtain rfl | rfl := q01
      · right
        rw [if_pos rfl]
        exact ⟨fun x => absurd (en'.mp x).2 (by decide), ok_z_0⟩
      · rw [if_neg (by decide)]
        unfold b_X11_can_135
        rw [x_ok E, Option.bind_some, show (2 : Int32) = nI 2 from rfl, i2, Option.bind_some, x_ok E, Option.bind_some, ad, x_st E hd (by omega), Option.bind_some]
        obtain ⟨m1, m2⟩ | ⟨t', m1, m2, m3⟩ := D.2.2.1 m d1
        · left
          rw [m2, if_pos rfl]
          exact ⟨en'.mpr ⟨m1, rfl⟩, ok_z_1⟩
        · right
          rw [m3, if_neg (nI_ne1 (by omega))]
          exact ⟨fun x => by have := (en'.mp x).1; omega, ok_z_0⟩
    · -- unlock
      have en' : xa_en (KP K) V a t ↔ q = 1 := by
        rw [en]
        exact ⟨fun x => x.2.2.2 rfl, fun x => ⟨fun y => absurd y (by decide), fun y => absurd y (by decide), fun y => absurd y (by decide), fun _ => x⟩⟩
      show (_ ∧ b_X11_can_42 102 (nI d) (nI (rx e)) 4 q H = _) ∨ (_ ∧ b_X11_can_42 102 (nI d) (nI (rx e)) 4 q H = _)
      unfold b_X11_can_42
      rw [if_neg (by decide), if_neg (by decide), if_neg (by decide), if_neg (by decide), if_pos rfl]
      obtain rfl | rfl := q01
      · exact Or.inr ⟨fun x => absurd (en'.mp x) (by decide), ok_z_0⟩
      · exact Or.inl ⟨en'.mpr rfl, ok_z_1⟩
    · left
      refine ⟨en.mpr ⟨fun y => absurd y (by decide), fun y => absurd y (by decide), fun y => absurd y (by decide), fun y => absurd y (by decide)⟩, ?_⟩
      show b_X11_can_42 102 (nI d) (nI (rx e)) 5 q H = _
      unfold b_X11_can_42
      rw [if_neg (by decide), if_neg (by decide), if_neg (by decide), if_neg (by decide), if_neg (by decide), if_pos rfl]
      exact ok_z_1
end
