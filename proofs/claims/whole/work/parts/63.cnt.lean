/-! ===== an order has at most 1024 outcomes ===== -/
theorem xa_uq2 {P : PA} {V : Nat → Bool} {o : Nat} {s1 s2 : AS} {p1 p2 : List (Nat × Nat)} (W : xa_wf P) (h1 : xa_ph P V o p1 (xa_0 P) s1) (h2 : xa_ph P V o p2 (xa_0 P) s2) (E1 : xa_end P V s1) (E2 : xa_end P V s2) (hsa : ∀ n, as_do s1 n → as_do s2 n → as_sa s1 n = as_sa s2 n) (hsa' : as_sa s1 = as_sa s2) (hlo : ∀ n, xa_op P n = 3 → (as_do s1 n ↔ as_do s2 n)) : ∀ t, t < pa_nt P → as_th s1 t = as_th s2 t := by
  obtain ⟨I1, R1⟩ := xa_ph_in W p1 _ _ (xa_in_0 W) xa_rp_0 h1
  obtain ⟨I2, R2⟩ := xa_ph_in W p2 _ _ (xa_in_0 W) xa_rp_0 h2
  have C1 : xa_cc P s1 s2 := xa_uq W I2 R2 E2 (fun n _ => congrFun hsa' n) (fun n h => (hlo n h).mp) p1 _ (xa_in_0 W) xa_rp_0 (fun n h => h.elim) h1
  have C2 : xa_cc P s2 s1 := xa_uq W I1 R1 E1 (fun n _ => (congrFun hsa' n).symm) (fun n h => (hlo n h).mpr) p2 _ (xa_in_0 W) xa_rp_0 (fun n h => h.elim) h2
  intro t ht
  obtain ⟨k1, a1, a2, a3⟩ := R1.2 t ht
  obtain ⟨k2, b1, b2, b3⟩ := R2.2 t ht
  have t1 := xa_cc_tr (k := k1) R1 C1 (fun n _ => congrFun hsa' n) (fun j hj => (a2 j hj).2.2.1)
  have t2 := xa_cc_tr (k := k2) R2 C2 (fun n _ => (congrFun hsa' n).symm) (fun j hj => (b2 j hj).2.2.1)
  have e1 := xa_kk I2 C1 b1 t1 (fun j hj => ⟨(a2 j hj).2.1, (a2 j hj).2.2.1⟩)
  have e2 := xa_kk I1 C2 a1 t2 (fun j hj => ⟨(b2 j hj).2.1, (b2 j hj).2.2.1⟩)
  obtain rfl : k1 = k2 := by omega
  rw [a1, b1, t1 k1 (Nat.le_refl k1)]
theorem xa_sa_rd {P : PA} {V : Nat → Bool} {o : Nat} (W : xa_wf P) : ∀ (p : List (Nat × Nat)) (s s' : AS), xa_in P o s → (∀ n m, as_sa s n = m + 1 → n < pa_na P ∧ m < pa_na P ∧ xa_op P m = 1 ∧ (xa_op P n = 0 ∨ xa_op P n = 2)) → xa_ph P V o p s s' → ∀ n m, as_sa s' n = m + 1 → n < pa_na P ∧ m < pa_na P ∧ xa_op P m = 1 ∧ (xa_op P n = 0 ∨ xa_op P n = 2) := by
  intro p
  induction p with
  | nil => intro s s' I H h; cases h; exact H
  | cons q p ih =>
    intro s s' I H h
    obtain ⟨h1, h2, h3, h4⟩ | ⟨h1, h2, h3⟩ := h
    · refine ih _ _ (xa_in_ac W I h2 h3) ?_ h4
      intro n m hm
      rw [xa_ac_sa] at hm
      by_cases hn : n = xa_nx s q.1
      · subst hn
        rw [up_same] at hm
        rw [hm] at h3
        have := xa_se_do I h3
        exact ⟨h2.2.1, (I.2.1 _ this.1).1, this.2.1.1, this.2.2⟩
      · rw [up_ne hn] at hm
        exact H n m hm
    · exact ih _ _ (xa_in_em I h2) H h3
/-- the choices of an action -/
def xa_ch (P : PA) (n : Nat) : List Nat := if xa_op P n = 0 ∨ xa_op P n = 2 then 0 :: ((List.range (pa_na P)).filter (fun m => xa_op P m == 1)).map (· + 1) else if xa_op P n = 3 then [0, 1] else [0]
def xa_vc (P : PA) : List Nat → List (List Nat)
  | [] => [[]]
  | n :: r => (xa_ch P n).flatMap (fun c => (xa_vc P r).map (c :: ·))
theorem xa_vc_mem {P : PA} {f : Nat → Nat} : ∀ ns : List Nat, (∀ n, n ∈ ns → f n ∈ xa_ch P n) → ns.map f ∈ xa_vc P ns := by
  intro ns
  induction ns with
  | nil => intro _; exact List.mem_singleton.mpr rfl
  | cons n r ih =>
    intro h
    refine List.mem_flatMap.mpr ⟨f n, h n List.mem_cons_self, List.mem_map.mpr ⟨r.map f, ih (fun m hm => h m (List.mem_cons_of_mem _ hm)), rfl⟩⟩
theorem ls_len {α β : Type} {f : α → β} [DecidableEq β] : ∀ (L : List α) (M : List β), L.Nodup → (∀ x, x ∈ L → f x ∈ M) → (∀ x y, x ∈ L → y ∈ L → f x = f y → x = y) → L.length ≤ M.length := by
  intro L
  induction L with
  | nil => intro M _ _ _; exact Nat.zero_le _
  | cons x L ih =>
    intro M hn hm hi
    have h1 : f x ∈ M := hm x List.mem_cons_self
    have h2 := ih (M.erase (f x)) (List.nodup_cons.mp hn).2 (fun y hy => by
      refine (List.mem_erase_of_ne ?_).mpr (hm y (List.mem_cons_of_mem _ hy))
      intro e
      have := hi y x (List.mem_cons_of_mem _ hy) List.mem_cons_self e
      subst this
      exact (List.nodup_cons.mp hn).1 hy) (fun a b ha hb => hi a b (List.mem_cons_of_mem _ ha) (List.mem_cons_of_mem _ hb))
    rw [List.length_erase_of_mem h1] at h2
    have h3 := List.length_pos_of_mem h1
    simp only [List.length_cons]
    omega
theorem ls_fm {α β : Type} {g : α → β → β} : ∀ (L : List α) (M : List β), (L.flatMap (fun c => M.map (g c))).length = L.length * M.length := by
  intro L M
  induction L with
  | nil => simp
  | cons x L ih => rw [List.flatMap_cons, List.length_append, ih, List.length_map, List.length_cons, Nat.succ_mul, Nat.add_comm]
def xa_ct (P : PA) (q : Nat → Bool) (ns : List Nat) : Nat := (ns.filter q).length
theorem xa_vc_len {P : PA} (w : Nat) (hw : ((List.range (pa_na P)).filter (fun m => xa_op P m == 1)).length = w) : ∀ ns : List Nat, (xa_vc P ns).length = (w + 1) ^ xa_ct P (fun n => xa_op P n == 0 || xa_op P n == 2) ns * 2 ^ xa_ct P (fun n => xa_op P n == 3) ns := by
  intro ns
  induction ns with
  | nil => rfl
  | cons n r ih =>
    show ((xa_ch P n).flatMap (fun c => (xa_vc P r).map (c :: ·))).length = _
    rw [ls_fm, ih]
    unfold xa_ch xa_ct
    by_cases h1 : xa_op P n = 0 ∨ xa_op P n = 2
    · rw [if_pos h1]
      have e1 : (xa_op P n == 0 || xa_op P n == 2) = true := by simpa using h1
      have e2 : (xa_op P n == 3) = false := by simp; omega
      rw [List.filter_cons, List.filter_cons, if_pos e1, if_neg (by rw [e2]; exact Bool.false_ne_true)]
      rw [List.length_cons, List.length_map, hw, List.length_cons, Nat.pow_succ, Nat.mul_comm _ (w + 1), Nat.mul_assoc]
    · rw [if_neg h1]
      have e1 : (xa_op P n == 0 || xa_op P n == 2) = false := by simp; omega
      by_cases h2 : xa_op P n = 3
      · rw [if_pos h2]
        have e2 : (xa_op P n == 3) = true := by simpa using h2
        rw [List.filter_cons, List.filter_cons, if_pos e2, if_neg (by rw [e1]; exact Bool.false_ne_true)]
        show 2 * _ = _
        rw [List.length_cons, Nat.pow_succ, Nat.mul_comm _ 2, ← Nat.mul_assoc, ← Nat.mul_assoc, Nat.mul_comm _ 2]
      · rw [if_neg h2]
        have e2 : (xa_op P n == 3) = false := by simpa using h2
        rw [List.filter_cons, List.filter_cons, if_neg (by rw [e1]; exact Bool.false_ne_true), if_neg (by rw [e2]; exact Bool.false_ne_true)]
        show 1 * _ = _
        rw [Nat.one_mul]
theorem xa_ct_sum {P : PA} : ∀ ns : List Nat, xa_ct P (fun m => xa_op P m == 1) ns + xa_ct P (fun n => xa_op P n == 0 || xa_op P n == 2) ns + xa_ct P (fun n => xa_op P n == 3) ns ≤ ns.length := by
  intro ns
  induction ns with
  | nil => exact Nat.le_refl 0
  | cons n r ih =>
    unfold xa_ct at ih ⊢
    rw [List.filter_cons, List.filter_cons, List.filter_cons, List.length_cons]
    by_cases h1 : xa_op P n = 1
    · rw [if_pos (by simpa using h1), if_neg (by simp; omega), if_neg (by simp; omega), List.length_cons]; omega
    · rw [if_neg (by simpa using h1)]
      by_cases h2 : xa_op P n = 0 ∨ xa_op P n = 2
      · rw [if_pos (by simpa using h2), if_neg (by simp; omega), List.length_cons]; omega
      · rw [if_neg (by simpa using h2)]
        by_cases h3 : xa_op P n = 3
        · rw [if_pos (by simpa using h3), List.length_cons]; omega
        · rw [if_neg (by simpa using h3)]; omega
theorem nm_bnd : ∀ w, w < 9 → ∀ k, k < 9 → ∀ l, l < 9 → w + k + l ≤ 8 → (w + 1) ^ k * 2 ^ l ≤ 1024 := by decide +kernel
theorem xa_vc_bnd {P : PA} (h : pa_na P ≤ 8) : (xa_vc P (List.range (pa_na P))).length ≤ 1024 := by
  rw [xa_vc_len _ rfl]
  have h1 := xa_ct_sum (P := P) (List.range (pa_na P))
  rw [List.length_range] at h1
  unfold xa_ct at h1 ⊢
  exact nm_bnd _ (by omega) _ (by omega) _ (by omega) (by omega)
theorem xa_bound {P : PA} {V : Nat → Bool} {o : Nat} {β : Type} (W : xa_wf P) (out : AS → β) (hout : ∀ s s', (∀ t, t < pa_nt P → as_th s t = as_th s' t) → out s = out s') (L : List β) (hn : L.Nodup) (hL : ∀ x, x ∈ L → ∃ p s, xa_ph P V o p (xa_0 P) s ∧ xa_end P V s ∧ out s = x) : L.length ≤ 1024 := by
  refine Nat.le_trans ?_ (xa_vc_bnd W.2.2.2.1)
  have hx : ∀ x : β, ∃ v : List Nat, x ∈ L → v ∈ xa_vc P (List.range (pa_na P)) ∧ ∃ p s, xa_ph P V o p (xa_0 P) s ∧ xa_end P V s ∧ out s = x ∧ ∃ f : Nat → Nat, v = (List.range (pa_na P)).map f ∧ ∀ n, n < pa_na P → ((xa_op P n = 0 ∨ xa_op P n = 2) → f n = as_sa s n) ∧ (xa_op P n = 3 → (f n = 1 ↔ as_do s n)) := by
    intro x
    by_cases hxL : x ∈ L
    · obtain ⟨p, s, h1, h2, h3⟩ := hL x hxL
      have hsa := xa_sa_rd W p _ _ (xa_in_0 W) (fun n m h => Nat.noConfusion h) h1
      obtain ⟨f, hf⟩ : ∃ f : Nat → Nat, ∀ n, ((xa_op P n = 0 ∨ xa_op P n = 2) → f n = as_sa s n) ∧ (xa_op P n = 3 → (f n = 1 ↔ as_do s n) ∧ (f n = 0 ∨ f n = 1)) ∧ (¬ (xa_op P n = 0 ∨ xa_op P n = 2) → ¬ xa_op P n = 3 → f n = 0) := by
        refine Classical.skolem (b := fun _ => Nat) (p := fun n c => ((xa_op P n = 0 ∨ xa_op P n = 2) → c = as_sa s n) ∧ (xa_op P n = 3 → (c = 1 ↔ as_do s n) ∧ (c = 0 ∨ c = 1)) ∧ (¬ (xa_op P n = 0 ∨ xa_op P n = 2) → ¬ xa_op P n = 3 → c = 0)) |>.mp (fun n => ?_)
        by_cases a : xa_op P n = 0 ∨ xa_op P n = 2
        · exact ⟨as_sa s n, fun _ => rfl, fun b => by omega, fun b => absurd a b⟩
        · by_cases b : xa_op P n = 3
          · by_cases c : as_do s n
            · exact ⟨1, fun d => absurd d a, fun _ => ⟨⟨fun _ => c, fun _ => rfl⟩, Or.inr rfl⟩, fun _ d => absurd b d⟩
            · exact ⟨0, fun d => absurd d a, fun _ => ⟨⟨fun d => by omega, fun d => absurd d c⟩, Or.inl rfl⟩, fun _ d => absurd b d⟩
          · exact ⟨0, fun d => absurd d a, fun d => absurd d b, fun _ _ => rfl⟩
      refine ⟨(List.range (pa_na P)).map f, fun _ => ⟨xa_vc_mem _ (fun n hn => ?_), p, s, h1, h2, h3, f, rfl, fun n _ => ⟨(hf n).1, fun a => ((hf n).2.1 a).1⟩⟩⟩
      unfold xa_ch
      by_cases a : xa_op P n = 0 ∨ xa_op P n = 2
      · rw [if_pos a, (hf n).1 a]
        by_cases b : as_sa s n = 0
        · rw [b]; exact List.mem_cons_self
        · obtain ⟨m, hm⟩ : ∃ m, as_sa s n = m + 1 := ⟨as_sa s n - 1, by omega⟩
          have := hsa n m hm
          rw [hm]
          refine List.mem_cons_of_mem _ (List.mem_map.mpr ⟨m, List.mem_filter.mpr ⟨List.mem_range.mpr this.2.1, by simpa using this.2.2.1⟩, rfl⟩)
      · rw [if_neg a]
        by_cases b : xa_op P n = 3
        · rw [if_pos b]
          obtain h | h := ((hf n).2.1 b).2
          · rw [h]; exact List.mem_cons_self
          · rw [h]; exact List.mem_cons_of_mem _ List.mem_cons_self
        · rw [if_neg b, (hf n).2.2 a b]
          exact List.mem_cons_self
    · exact ⟨[], fun h => absurd h hxL⟩
  obtain ⟨g, hg⟩ := Classical.skolem.mp hx
  refine ls_len (f := g) L _ hn (fun x h => (hg x h).1) ?_
  intro x y hx hy e
  obtain ⟨-, p1, s1, a1, a2, a3, f1, a4, a5⟩ := hg x hx
  obtain ⟨-, p2, s2, b1, b2, b3, f2, b4, b5⟩ := hg y hy
  rw [a4, b4] at e
  have e' : ∀ n, n < pa_na P → f1 n = f2 n := fun n hn => by
    have := List.map_inj_left.mp e n (List.mem_range.mpr hn)
    exact this
  have d1 := xa_sa_rd W p1 _ _ (xa_in_0 W) (fun n m h => Nat.noConfusion h) a1
  have d2 := xa_sa_rd W p2 _ _ (xa_in_0 W) (fun n m h => Nat.noConfusion h) b1
  have hsa : as_sa s1 = as_sa s2 := by
    funext n
    by_cases c1 : n < pa_na P ∧ (xa_op P n = 0 ∨ xa_op P n = 2)
    · rw [← (a5 n c1.1).1 c1.2, ← (b5 n c1.1).1 c1.2, e' n c1.1]
    · have z1 : as_sa s1 n = 0 := by
        apply Classical.byContradiction
        intro h
        have := d1 n (as_sa s1 n - 1) (by omega)
        exact c1 ⟨this.1, this.2.2.2⟩
      have z2 : as_sa s2 n = 0 := by
        apply Classical.byContradiction
        intro h
        have := d2 n (as_sa s2 n - 1) (by omega)
        exact c1 ⟨this.1, this.2.2.2⟩
      rw [z1, z2]
  have I1 := (xa_ph_in W p1 _ _ (xa_in_0 W) xa_rp_0 a1).1
  have I2 := (xa_ph_in W p2 _ _ (xa_in_0 W) xa_rp_0 b1).1
  have hlo : ∀ n, xa_op P n = 3 → (as_do s1 n ↔ as_do s2 n) := by
    intro n hn
    by_cases c : n < pa_na P
    · rw [← (a5 n c).2 hn, ← (b5 n c).2 hn, e' n c]
    · exact ⟨fun h => absurd (I1.2.1 n h).1 c, fun h => absurd (I2.2.1 n h).1 c⟩
  rw [← a3, ← b3]
  exact hout _ _ (xa_uq2 W a1 b1 a2 b2 (fun n _ _ => congrFun hsa n) hsa hlo)
