/-! ===== what the reference knows: known ===== -/
section
variable {h h' H : AH} {g g' : SG} {m p o : Nat} {d : PD} {A : Nat → Nat → Prop}
theorem fri_sA (F : FRi A h h') : h' = sA h (hp_i h') := by
  obtain ⟨e1, e2, e3, e4, e5, e6, -⟩ := F
  unfold sA
  rw [← e1, ← e2, ← e3, ← e4, ← e5, ← e6]
  rfl
theorem vk_hf (P : PDk d) : ∀ e c, e < (pE d).length → en_op ((pE d).getD e dE) = 2 → c < 6 → en_ob ((pE d).getD e dE) = nI c → pK d c = 2 := fun e c he ho hc hb => by
  obtain ⟨⟨va, -⟩, -⟩ := P.1
  obtain ⟨c', c1, c2, c3⟩ := (va e he).2.2.2.2.1 (Or.inr (Or.inr ho))
  have : c = c' := (nI_eq (by omega) (by omega)).mp (hb.symm.trans c2)
  rw [this]
  exact c3 ho
theorem sh0 : ∀ c, c < 6 → ¬ ((0 : Int32) >>> (nI c &&& 31)) &&& (1 : Int32) = 1 := by decide
theorem pr_0 (R : RPl H p d) (P : PDk d) : PR (fun k => hp_i H 106 (900 * p + k)) (pR d) (teE (pE d)) (owN (pO d)) (rxl (pE d)) (pA d).length (pS d).length (pE d).length (Vk (pK d)) 0 := by
  refine pr_of P.1 P.2.1 R.1 (fun c hc => ?_) (fun e c he ho hc hb => ?_)
  · show Vk (pK d) c = true ↔ hp_i H 106 (900 * p + c) = 1 ∨ _
    rw [R.2 c hc]
    unfold Vk
    rw [decide_eq_true_iff]
    exact ⟨Or.inl, fun z => z.resolve_right (sh0 c hc)⟩
  · unfold Vk
    rw [decide_eq_false_iff_not, vk_hf P e c he ho hc hb]
    decide
/-- a search of the reference fills list o of place p -/
theorem gr_fill {M : List Int32} (G : GR H g) (hp : p < 8) (hd : sD g p = some d) (ho : o < 3) (F : FRi (AFl (3 * p + o)) H h') (h27 : hp_i h' 102 27 = 0) (L : LI h' (3 * p + o) M) (hM : ∀ z, z ∈ M ↔ ∃ s, EN d o s ∧ z = oR (owN (pO d)) (pS d).length s) : GR h' g ∧ RLF H h' ∧ (∀ k, k ≠ 26 → k ≠ 27 → k ≠ 28 → k ≠ 31 → hp_i h' 102 k = hp_i H 102 k) := by
  have e := fri_sA F
  have K := F.2.2.2.2.2.2
  have kk : ∀ r k, r ≠ 109 → ¬ (r = 110 ∧ 2048 * (3 * p + o) ≤ k ∧ k < 2048 * (3 * p + o) + 2048) → ¬ (r = 111 ∧ k = 3 * p + o) → ¬ (r = 102 ∧ (k = 26 ∨ k = 27 ∨ k = 28 ∨ k = 31)) → hp_i h' r k = hp_i H r k := fun r k h1 h2 h3 h4 => K r k (fun z => by
    rcases z with z | (z | z) | z
    · exact h1 z
    · exact h2 z
    · exact h3 z
    · exact h4 z)
  obtain ⟨RP, RK, PK⟩ := r_dd G hp hd
  have b8 := PK.1.2.2.1.2.1
  refine ⟨?_, ⟨F.1, F.2.1, F.2.2.1, F.2.2.2.1, F.2.2.2.2.1, F.2.2.2.2.2.1, fun r k hr => kk r k (by omega) (by omega) (by omega) (by omega)⟩, fun k h1 h2 h3 h4 => kk 102 k (by omega) (by omega) (by omega) (by omega)⟩
  rw [e]
  have s106 : ∀ k, hp_i h' 106 k = hp_i H 106 k := fun k => kk 106 k (by omega) (by omega) (by omega) (by omega)
  refine gr_P G hp (fun q hq ne => ⟨⟨fun k _ => s106 _, fun o' ho' => kk _ _ (by omega) (by omega) (by omega) (by omega), fun o' k ho' hk => kk _ _ (by omega) (by omega) (by omega) (by omega), kk _ _ (by omega) (by omega) (by omega) (by omega), fun k _ => kk _ _ (by omega) (by omega) (by omega) (by omega), kk _ _ (by omega) (by omega) (by omega) (by omega), fun k _ => kk _ _ (by omega) (by omega) (by omega) (by omega)⟩, rfl⟩) ?_ (Or.inr ⟨d, hd, ?_, ?_, PK⟩)
  · obtain ⟨-, ⟨⟨a1, a2⟩, ⟨b1, b2⟩, ⟨c1, c2⟩, dd, ⟨e1, e2⟩, f, l, l1, l2⟩, -⟩ := G
    have uu : ∀ r k, (r = 103 ∨ r = 104 ∨ r = 112 ∨ r = 113) ∨ (r = 102 ∧ k ≠ 26 ∧ k ≠ 27 ∧ k ≠ 28 ∧ k ≠ 31) → hp_i h' r k = hp_i H r k := fun r k hr => kk r k (by omega) (by omega) (by omega) (by omega)
    exact ⟨⟨(uu _ _ (by omega)).trans a1, fun k hk => (uu _ _ (by omega)).trans (a2 k hk)⟩, ⟨(uu _ _ (by omega)).trans b1, (uu _ _ (by omega)).trans b2⟩, ⟨(uu _ _ (by omega)).trans c1, fun k hk => (uu _ _ (by omega)).trans (c2 k hk)⟩, fun l hl => (uu _ _ (by omega)).trans (dd l hl), ⟨(uu _ _ (by omega)).trans e1, fun k hk => (uu _ _ (by omega)).trans (e2 k hk)⟩, h27, l, l1, (uu _ _ (by omega)).trans l2⟩
  · exact ⟨lf_cg PK (fun k _ => s106 _) RP.1, fun c hc => (s106 _).trans (RP.2 c hc)⟩
  · obtain ⟨r1, r2, r3⟩ := RK
    refine ⟨fun o' ho' => ?_, ?_, ?_⟩
    · by_cases z : o' = o
      · rw [z]; exact Or.inr ⟨M, L, hM⟩
      · have e1 : hp_i h' 111 (3 * p + o') = hp_i H 111 (3 * p + o') := kk _ _ (by omega) (by omega) (by omega) (by omega)
        refine (r1 o' ho').imp (fun y => e1.trans y) (fun ⟨M', ⟨m1, m2, m3, m4⟩, m5⟩ => ⟨M', ⟨e1.trans m1, fun i hi => ?_, m3, m4⟩, m5⟩)
        exact (kk 110 _ (by omega) (by omega) (by omega) (by omega)).trans (m2 i hi)
    · have e1 : hp_i h' 115 p = hp_i H 115 p := kk _ _ (by omega) (by omega) (by omega) (by omega)
      refine r2.imp (fun y => e1.trans y) (fun ⟨f, f1, f2, f3⟩ => ⟨f, e1.trans f1, fun k hk => (kk _ _ (by omega) (by omega) (by omega) (by omega)).trans (f2 k hk), fun k hk => ?_⟩)
      rw [f3 k hk]
      have key : ∀ z i j, i < (pA d).length → j < (pA d).length → (raC (fun k => hp_i h' 106 (900 * p + k)) z i j ↔ raC (fun k => hp_i H 106 (900 * p + k)) z i j) := fun z i j hi hj => raC_cg b8 (fun k _ => s106 _) (lf_cell PK RP.1) hi hj
      constructor
      · rintro ⟨i, j, y1, y2, y3, z, z1, z2⟩
        exact ⟨i, j, y1, y2, y3, z, z1, (key z i j (by omega) y2).mpr z2⟩
      · rintro ⟨i, j, y1, y2, y3, z, z1, z2⟩
        exact ⟨i, j, y1, y2, y3, z, z1, (key z i j (by omega) y2).mp z2⟩
    · have e1 : hp_i h' 118 p = hp_i H 118 p := kk _ _ (by omega) (by omega) (by omega) (by omega)
      exact r3.imp (fun y => e1.trans y) (fun ⟨y1, y2⟩ => ⟨e1.trans y1, fun i j hi hj => by
        have : hp_i (sA H (hp_i h')) 119 (64 * p + 8 * i + j) = hp_i H 119 (64 * p + 8 * i + j) := kk _ _ (by omega) (by omega) (by omega) (by omega)
        rw [this]
        exact y2 i j hi hj⟩)
theorem r_kn (G : GR H g) (hp : p < 8) (hd : sD g p = some d) (ho : o < 3) (h24 : hp_i H 102 24 = nI p) (t0 : hp_i H 102 0 = 0) : ∃ H' M, f_X11_known 102 (nI o) H = some (nI (3 * p + o), H') ∧ GR H' g ∧ RLF H H' ∧ hp_i H' 102 24 = nI p ∧ hp_i H' 102 0 = 0 ∧ LI H' (3 * p + o) M ∧ ∀ z, z ∈ M ↔ ∃ s, EN d o s ∧ z = oR (owN (pO d)) (pS d).length s := by
  obtain ⟨RP, RK, PK⟩ := r_dd G hp hd
  have e0 : f_X11_known 102 (nI o) H = if hp_i H 111 (3 * p + o) = -1 then b_X11_known_19 102 (nI o) (nI (3 * p + o)) H else b_X11_known_26 (nI (3 * p + o)) H := by
    unfold f_X11_known b_X11_known_0
    rw [rz_g G.1, Option.bind_some, rz_r (f := 30) (r := 111) (l := 25) G.1 (by decide), Option.bind_some, h24, mu, nI_add, rz_l (f := 30) (r := 111) (l := 25) G.1 (by decide) (by omega) (by omega), Option.bind_some]
  by_cases c : hp_i H 111 (3 * p + o) = -1
  · obtain ⟨H', M, x1, x2, x3, x4, x5, -⟩ := x_fills (li := 3 * p + o) (o := o) (s := p) (pr_0 RP PK) G.1 (by omega) (by omega) hp h24 (fun k _ => rfl)
    obtain ⟨G', L', k'⟩ := gr_fill G hp hd ho x2 x5 x3 x4
    refine ⟨H', M, ?_, G', L', (k' 24 (by omega) (by omega) (by omega) (by omega)).trans h24, (k' 0 (by omega) (by omega) (by omega) (by omega)).trans t0, x3, x4⟩
    rw [e0, if_pos c]
    unfold b_X11_known_19 b_X11_known_26
    rw [rz_v G.1, Option.bind_some, x1, Option.bind_some]
  · obtain ⟨M, m1, m2⟩ := (RK.1 o ho).resolve_left c
    refine ⟨H, M, ?_, G, rlf_rf, h24, t0, m1, m2⟩
    rw [e0, if_neg c]
    rfl
end
/-! ===== the two lists of outcomes ===== -/
theorem lx_st {X Y X' Y' a b : Nat} (h1 : X < Y ↔ X' < Y') (h2 : X = Y ↔ X' = Y') (ha : a ≤ 9) (hb : b ≤ 9) : (X * 16 + a < Y * 16 + b ↔ X' * 10 + a < Y' * 10 + b) ∧ (X * 16 + a = Y * 16 + b ↔ X' * 10 + a = Y' * 10 + b) := by
  by_cases c : X < Y
  · have c' := h1.mp c
    constructor <;> constructor <;> intro <;> omega
  · have c' : ¬ X' < Y' := fun z => c (h1.mpr z)
    by_cases e : X = Y
    · have e' := h2.mp e
      constructor <;> constructor <;> intro <;> omega
    · have e' : ¬ X' = Y' := fun z => e (h2.mpr z)
      constructor <;> constructor <;> intro <;> omega
theorem n16_dec {v w : Nat → Nat} {s u : Nat} (hv : ∀ l, l < 5 → v l ≤ 9) (hw : ∀ l, l < 5 → w l ≤ 9) (hs : s < 16) (hu : u < 16) : (n16 v s < n16 w u ↔ nd10 v s < nd10 w u) ∧ (n16 v s = n16 w u ↔ nd10 v s = nd10 w u) := by
  have l0 : (v 0 < w 0 ↔ v 0 < w 0) ∧ (v 0 = w 0 ↔ v 0 = w 0) := ⟨Iff.rfl, Iff.rfl⟩
  have l1 := lx_st l0.1 l0.2 (hv 1 (by omega)) (hw 1 (by omega))
  have l2 := lx_st l1.1 l1.2 (hv 2 (by omega)) (hw 2 (by omega))
  have l3 := lx_st l2.1 l2.2 (hv 3 (by omega)) (hw 3 (by omega))
  obtain ⟨l4, l5⟩ := lx_st l3.1 l3.2 (hv 4 (by omega)) (hw 4 (by omega))
  unfold n16 nd10
  generalize (((v 0 * 16 + v 1) * 16 + v 2) * 16 + v 3) * 16 + v 4 = X at *
  generalize (((w 0 * 16 + w 1) * 16 + w 2) * 16 + w 3) * 16 + w 4 = Y at *
  generalize (((v 0 * 10 + v 1) * 10 + v 2) * 10 + v 3) * 10 + v 4 = X' at *
  generalize (((w 0 * 10 + w 1) * 10 + w 2) * 10 + w 3) * 10 + w 4 = Y' at *
  clear l0 l1 l2 l3
  by_cases c : X < Y
  · have c' := l4.mp c
    constructor <;> constructor <;> intro <;> omega
  · have c' : ¬ X' < Y' := fun z => c (l4.mpr z)
    by_cases e : X = Y
    · have e' := l5.mp e
      constructor <;> constructor <;> intro <;> omega
    · have e' : ¬ X' = Y' := fun z => e (l5.mpr z)
      constructor <;> constructor <;> intro <;> omega
theorem srt_map {f : Int32 → Int32} : ∀ L : List Int32, srt L → (∀ x y, x ∈ L → y ∈ L → x < y → f x < f y) → srt (L.map f)
  | [], _, _ => trivial
  | y :: t, h, hf => ⟨fun z hz => by
      obtain ⟨w, w1, w2⟩ := List.mem_map.mp hz
      rw [← w2]
      exact hf y w (List.mem_cons_self ..) (List.mem_cons_of_mem _ w1) (h.1 w w1), srt_map t h.2 (fun a b ha hb => hf a b (List.mem_cons_of_mem _ ha) (List.mem_cons_of_mem _ hb))⟩
theorem nI_lti {a b : Nat} (ha : a < 2 ^ 31) (hb : b < 2 ^ 31) : nI a < nI b ↔ a < b := ⟨fun z => by
  by_cases c : a < b
  · exact c
  · exact absurd z (nI_nlt (by omega) ha), fun z => nI_lt z hb⟩
/-- class's list and reference's list go together -/
theorem lm_co {E : AS → Prop} {ow : Nat → Nat} {nt : Nat} {L M : List Int32} (hnt : nt ≤ 4) (hav : ∀ s, E s → ∀ l, l < 5 → av ow nt s l ≤ 9) (sL : srt L) (sM : srt M) (mL : ∀ z, z ∈ L ↔ ∃ s, E s ∧ z = oN ow nt s) (mM : ∀ z, z ∈ M ↔ ∃ s, E s ∧ z = oR ow nt s) :
    L.length = M.length ∧ ∀ i, i < L.length → ∃ s, E s ∧ L.getD i 0 = oN ow nt s ∧ M.getD i 0 = oR ow nt s := by
  have hs : ∀ s, ast s nt < 16 := fun s => by
    have := ast_lt s nt
    have := Nat.pow_le_pow_right (n := 2) (by omega) hnt
    omega
  have b16 : ∀ s, E s → n16 (av ow nt s) (ast s nt) < 2 ^ 31 ∧ nd10 (av ow nt s) (ast s nt) < 2 ^ 31 := fun s es => by
    have h0 := hav s es 0 (by omega); have h1 := hav s es 1 (by omega); have h2 := hav s es 2 (by omega); have h3 := hav s es 3 (by omega); have h4 := hav s es 4 (by omega)
    have := hs s
    unfold n16 nd10
    omega
  have cmp : ∀ s u, E s → E u → (oN ow nt s < oN ow nt u ↔ oR ow nt s < oR ow nt u) ∧ (oN ow nt s = oN ow nt u ↔ oR ow nt s = oR ow nt u) := fun s u es eu => by
    obtain ⟨k1, k2⟩ := n16_dec (hav s es) (hav u eu) (hs s) (hs u)
    have p := b16 s es
    have q := b16 u eu
    unfold oN oR
    exact ⟨(nI_lti p.1 q.1).trans (k1.trans (nI_lti p.2 q.2).symm), (nI_eq p.1 q.1).trans (k2.trans (nI_eq p.2 q.2).symm)⟩
  have ch : ∀ z, ∃ y, z ∈ L → ∃ s, E s ∧ z = oN ow nt s ∧ y = oR ow nt s := fun z => by
    by_cases c : z ∈ L
    · obtain ⟨s, s1, s2⟩ := (mL z).mp c
      exact ⟨oR ow nt s, fun _ => ⟨s, s1, s2, rfl⟩⟩
    · exact ⟨0, fun w => absurd w c⟩
  let f : Int32 → Int32 := fun z => (ch z).choose
  have hf : ∀ z, z ∈ L → ∃ s, E s ∧ z = oN ow nt s ∧ f z = oR ow nt s := fun z hz => (ch z).choose_spec hz
  have eM : L.map f = M := by
    refine srt_eq _ _ (srt_map L sL (fun x y hx hy lt => ?_)) sM (fun z => ?_)
    · obtain ⟨s, s1, s2, s3⟩ := hf x hx
      obtain ⟨u, u1, u2, u3⟩ := hf y hy
      rw [s3, u3]
      rw [s2, u2] at lt
      exact (cmp s u s1 u1).1.mp lt
    · rw [mM]
      constructor
      · intro hz
        obtain ⟨w, w1, w2⟩ := List.mem_map.mp hz
        obtain ⟨s, s1, s2, s3⟩ := hf w w1
        exact ⟨s, s1, by rw [← w2, s3]⟩
      · rintro ⟨s, s1, s2⟩
        have hL : oN ow nt s ∈ L := (mL _).mpr ⟨s, s1, rfl⟩
        obtain ⟨u, u1, u2, u3⟩ := hf _ hL
        refine List.mem_map.mpr ⟨_, hL, ?_⟩
        rw [u3, s2]
        exact ((cmp s u s1 u1).2.mp u2).symm
  refine ⟨by rw [← eM, List.length_map], fun i hi => ?_⟩
  have hm : L.getD i 0 ∈ L := by
    rw [List.getD_eq_getElem?_getD, List.getElem?_eq_getElem hi]
    exact List.getElem_mem _
  obtain ⟨s, s1, s2, s3⟩ := hf _ hm
  refine ⟨s, s1, s2, ?_⟩
  rw [← eM, ← s3, List.getD_eq_getElem?_getD, List.getD_eq_getElem?_getD, List.getElem?_map, List.getElem?_eq_getElem hi]
  rfl
