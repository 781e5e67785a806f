theorem w_cg {g : GT} {h h' : AH} {a : Nat} (e1 : hp_k h' a = hp_k h a) (e2 : hp_l h' a = hp_l h a) (e3 : hp_i h' a = hp_i h a) (e4 : hp_j h' a = hp_j h a) (e5 : hp_r h' a = hp_r h a) : w_E g h' a = w_E g h a := by
  unfold w_E fl_s sl_v
  rw [e1, e2, e3, e4, e5]
theorem up_o {α : Type} {f : Nat → Nat → α} {r k a : Nat} {v : α} (h : a ≠ r) : up_2 f r k v a = f a := by
  funext j
  unfold up_2
  rw [if_neg (fun q => h q.1)]
theorem up_1o {α : Type} {f : Nat → α} {r a : Nat} {v : α} (h : a ≠ r) : up_1 f r v a = f a := by
  unfold up_1
  rw [if_neg h]
theorem w_si {g : GT} {h : AH} {r k a : Nat} {v : Int32} (hne : a ≠ r) : w_E g (st_i h r k v) a = w_E g h a := w_cg rfl rfl (up_o hne) rfl rfl
theorem w_sj {g : GT} {h : AH} {r k a : Nat} {v : Int64} (hne : a ≠ r) : w_E g (st_j h r k v) a = w_E g h a := w_cg rfl rfl rfl (up_o hne) rfl
theorem w_sr {g : GT} {h : AH} {r k a : Nat} {v : Nat} (hne : a ≠ r) : w_E g (st_r h r k v) a = w_E g h a := w_cg rfl rfl rfl rfl (up_o hne)
theorem w_sn {g : GT} {h : AH} {c n a : Nat} (hne : a ≠ hp_n h) : w_E g (st_n h c n) a = w_E g h a := w_cg (up_1o hne) (up_1o hne) (up_1o hne) (up_1o hne) (up_1o hne)
theorem ad_ne {g : GT} {r a : Nat} (h1 : 64 ≤ r) (h2 : 64 ≤ a) (h : a ≠ r) : ad_r g a ≠ ad_r g r := by
  rw [ad_h h1, ad_h h2]
  omega
theorem GW.upd {g : GT} {h h' : AH} {H H' : Heap} {locs : List Loc} {r k : Nat} (hG : GW g h H locs) (hr1 : 64 ≤ r) (hn : hp_n h' = hp_n h) (hw : ∀ a, a ≠ r → w_E g h' a = w_E g h a)
    (hat : va_at g.2.2.1 am_cl (ad_r g r, w_E g h' r) H') (hz : H'.size = H.size) (oq : ∀ q, q ≠ ad_r g r → H'[q]? = H[q]?) : GW g h' H' (locs ++ [⟨ad_r g r, k⟩]) := by
  obtain ⟨g1, g2, g3, g4⟩ := hG
  refine ⟨by rw [hz, hn]; exact g1, by rw [hn]; exact g2, fun a ha1 ha2 => ?_, g4.put hz oq (by show g_B g ≤ _; rw [ad_h hr1]; omega)⟩
  by_cases ha : a = r
  · subst ha; exact hat
  · rw [hw a ha]
    exact (g3 a ha1 (by rw [← hn]; exact ha2)).kept (oq _ (ad_ne hr1 ha1 ha))
theorem GW.push {g : GT} {h : AH} {H H' : Heap} {locs : List Loc} {c n : Nat} (hG : GW g h H locs)
    (hat : va_at g.2.2.1 am_cl (ad_r g (hp_n h), w_E g (st_n h c n) (hp_n h)) H') (hz : H'.size = H.size + 1) (oq : ∀ q, q < H.size → H'[q]? = H[q]?) : GW g (st_n h c n) H' locs := by
  obtain ⟨g1, g2, g3, g4⟩ := hG
  have g5 : g.2.1.size ≤ H.size := g4.1
  refine ⟨by show _ = _ + (hp_n h + 1); omega, by show 64 ≤ hp_n h + 1; omega, fun a ha1 ha2 => ?_, Nat.le_trans g5 (by omega), fun q h1 h2 => (oq q (Nat.lt_of_lt_of_le h1 g5)).trans (g4.2.1 q h1 h2), g4.2.2⟩
  have ha2 : a < hp_n h + 1 := ha2
  by_cases ha : a = hp_n h
  · subst ha; exact hat
  · rw [w_sn ha]
    have hlt := g3 a ha1 (by omega)
    exact hlt.kept (oq _ hlt.lt)
theorem va_P1 {D : va_G} {cl : List vw_C} {q : Nat × va_E} {H : Heap} (h : va_at D cl q H) : va_P D cl [q] H := by
  intro k x hx
  match k, hx with
  | 0, hx => cases hx; exact h
  | k + 1, hx => simp at hx
theorem ad_new {g : GT} {h : AH} {H : Heap} {locs : List Loc} (hG : GW g h H locs) : H.size = ad_r g (hp_n h) := by
  have h1 := hG.1
  have h2 := hG.2.1
  rw [ad_h h2]
  omega
section TJ2
variable {X : CX} {g : GT} {cc : ByteArray} {nL : Nat} {own : String} {ret : Option FieldType} {pc : Nat} {lv : List (Nat × TV)} {st : List Value} {h : AH}
theorem tj_getV (ok : OkX X g cc nL own ret) {ci k idx N : Nat} {C : String} {T : u_T} {ty : Nat → FieldType} (F : Fc ci C T N ty) (hk : k < N) (hm : Cond.fieldLink own idx C (T k).2.1 (T k).2.2.1 ∈ lw_gd) (hd : (T k).1 = C)
    (d : decode cc pc = .ok (.getfield idx, 3)) {r : Nat} (hr : ok_o h r ci) (kk : TJ X (pc + 3) lv (sl_v g (ty k) h r k :: st) h) : TJ X pc lv (rf_v g r :: st) h := by
  obtain ⟨hr1, hr2, hr3⟩ := hr
  obtain ⟨F1, F2, F3, F4, F5, F6, F7⟩ := F
  obtain ⟨p, e, R, s, m, args, below, meth, c, g', nL', n0, s0, Q⟩ := X
  obtain ⟨rfl, rfl, hx, hb, hml, hown, hts, hgv, hr, hlk, h0, hw0, hn0⟩ := ok
  intro H locs ls hG hl h1 h2
  have hat := hG.2.2.1 r hr1 hr2
  rw [w_o hr3 F7] at hat
  show W _ _ _ _ _ _ _ _ _ _ _ _ _ _ _ (F0 m pc ls (rf_v _ r :: st))
  rw [rf_h hr1]
  refine va_get (D := g'.2.2.1) (cl := am_cl) (tys := ty_s g') hx hb hts F2 hown hgv.1 (va_P1 hat) 0 rfl F1 k hk (hts _ hm) (by rw [hd]; exact fun _ h => h) (fl_get hr3 (by rw [F5]; exact hk)) d ?_
  rw [F6]
  exact kk H locs ls hG hl h1 h2
theorem tj_getI (ok : OkX X g cc nL own ret) {ci k idx N : Nat} {C : String} {T : u_T} {ty : Nat → FieldType} (F : Fc ci C T N ty) (hk : k < N) (hm : Cond.fieldLink own idx C (T k).2.1 (T k).2.2.1 ∈ lw_gd) (hd : (T k).1 = C) (ht : ty k = .int ∨ ty k = .boolean)
    (d : decode cc pc = .ok (.getfield idx, 3)) {r : Nat} {v : Int32} (e : g_i h r ci k = some v) (kk : TJ X (pc + 3) lv (.int v :: st) h) : TJ X pc lv (rf_v g r :: st) h := by
  obtain ⟨hr, rfl⟩ := of_if e
  refine tj_getV ok F hk hm hd d hr ?_
  rcases ht with ht | ht <;> rw [ht] <;> exact kk
theorem tj_getJ (ok : OkX X g cc nL own ret) {ci k idx N : Nat} {C : String} {T : u_T} {ty : Nat → FieldType} (F : Fc ci C T N ty) (hk : k < N) (hm : Cond.fieldLink own idx C (T k).2.1 (T k).2.2.1 ∈ lw_gd) (hd : (T k).1 = C) (ht : ty k = .long)
    (d : decode cc pc = .ok (.getfield idx, 3)) {r : Nat} {v : Int64} (e : g_j h r ci k = some v) (kk : TJ X (pc + 3) lv (.long v :: st) h) : TJ X pc lv (rf_v g r :: st) h := by
  obtain ⟨hr, rfl⟩ := of_if e
  refine tj_getV ok F hk hm hd d hr ?_
  rw [ht]; exact kk
theorem tj_getR (ok : OkX X g cc nL own ret) {ci k idx N : Nat} {C : String} {T : u_T} {ty : Nat → FieldType} (F : Fc ci C T N ty) (hk : k < N) (hm : Cond.fieldLink own idx C (T k).2.1 (T k).2.2.1 ∈ lw_gd) (hd : (T k).1 = C) (ht : (∃ n, ty k = .object n) ∨ ∃ t, ty k = .array t)
    (d : decode cc pc = .ok (.getfield idx, 3)) {r : Nat} {v : Nat} (e : g_r h r ci k = some v) (kk : TJ X (pc + 3) lv (rf_v g v :: st) h) : TJ X pc lv (rf_v g r :: st) h := by
  obtain ⟨hr, rfl⟩ := of_if e
  refine tj_getV ok F hk hm hd d hr ?_
  rcases ht with ⟨n, ht⟩ | ⟨t, ht⟩ <;> rw [ht] <;> exact kk
theorem tj_putV (ok : OkX X g cc nL own ret) {ci k idx N : Nat} {C : String} {T : u_T} {ty : Nat → FieldType} (F : Fc ci C T N ty) (hk : k < N) (hm : Cond.fieldLink own idx C (T k).2.1 (T k).2.2.1 ∈ lw_gd) (hd : (T k).1 = C) (hf : (T k).2.2.2 = false ∨ (NmX X "<init>" ∧ C = own))
    (d : decode cc pc = .ok (.putfield idx, 3)) {r : Nat} (hr : ok_o h r ci) {v : Value} {h' : AH} (hn : narrow (ty k) v = v) (hfit : fits (ty k) v = true) (e1 : hp_n h' = hp_n h) (e2 : hp_s h' = hp_s h) (e3 : hp_k h' r = ci)
    (hw : ∀ a, a ≠ r → w_E g h' a = w_E g h a) (hs : ∀ j, j < N → updV (fun j => sl_v g (ty j) h r j) k v j = sl_v g (ty j) h' r j) (kk : TJ X (pc + 3) lv st h') : TJ X pc lv (v :: rf_v g r :: st) h := by
  obtain ⟨hr1, hr2, hr3⟩ := hr
  obtain ⟨F1, F2, F3, F4, F5, F6, F7⟩ := F
  obtain ⟨p, e, R, s, m, args, below, meth, c, g', nL', n0, s0, Q⟩ := X
  obtain ⟨rfl, rfl, hx, hb, hml, hown, hts, hgv, hr, hlk, h0, hw0, hn0⟩ := ok
  intro H locs ls hG hl h1 h2
  have hat := hG.2.2.1 r hr1 hr2
  rw [w_o hr3 F7] at hat
  show W _ _ _ _ _ _ _ _ _ _ _ _ _ _ _ (F0 m pc ls (v :: rf_v _ r :: st))
  rw [rf_h hr1]
  have hap := va_apart (D := g'.2.2.1) (cl := am_cl) (own := own) hts F2 ty F3 F4 hgv.1 F1
  obtain ⟨rr, q0, cell, q1, q2, q3, q4⟩ := hat
  obtain rfl : rr = (C, T, N) := Option.some.inj (q0.symm.trans F1)
  obtain ⟨hS, hfc, kC, hkC, hkind⟩ := hgv.1.1 ci _ F1
  obtain ⟨cf, kf, fi, f, hi, hsl⟩ := hS k hk
  have hlay := hts _ (F2 _ (u_in_lay hk))
  have hst := (u_facts hfc hkC (u_lays hts F2 hk) hi).1
  have hsame : ∀ x, s.fieldFound? (T k).1 (T k).2.1 (T k).2.2.1 = some x → s.fieldFound? C (T k).2.1 (T k).2.2.1 = some x := by rw [hd]; exact fun _ h => h
  have fin : ∀ H' : Heap, H'[ad_r g' r]? = some (cell.setSlot f.slot v) → H'.size = H.size → (∀ q, q ≠ ad_r g' r → H'[q]? = H[q]?) → W p g'.1 e R s m args below meth c H' (locs ++ [⟨ad_r g' r, f.slot⟩]) (hp_n h - n0) (hp_s h - s0) Q (F0 m (pc + 3) ls st) := by
    intro H' x1 x2 x3
    rw [hsl] at x1
    have hG' : GW g' h' H' (locs ++ [⟨ad_r g' r, f.slot⟩]) := by
      refine GW.upd hG hr1 e1 hw ?_ x2 x3
      rw [w_o e3 F7]
      refine ⟨_, F1, t_OB.to (V := updV (vp_V (fl_s g' h r)) k v) ⟨_, x1, q2, q3, t_set q4 hap hk v⟩ (fun j hj => ?_)⟩
      have a1 : vp_V (fl_s g' h' r) j = sl_v g' (ty j) h' r j := by
        unfold vp_V
        rw [List.getD_eq_getElem?_getD, fl_get e3 (by rw [F5]; exact hj), F6]
        rfl
      have a2 : vp_V (fl_s g' h r) j = sl_v g' (ty j) h r j := by
        unfold vp_V
        rw [List.getD_eq_getElem?_getD, fl_get hr3 (by rw [F5]; exact hj), F6]
        rfl
      rw [a1, ← hs j hj]
      unfold updV
      split
      · rfl
      · exact a2
    have z := kk H' _ ls hG' hl (by rw [e1]; exact h1) (by rw [e2]; exact h2)
    rw [e1, e2] at z
    exact z
  unfold u_lay at hlay
  by_cases hfi : (T k).2.2.2 = true
  · rw [if_pos hfi] at hlay
    rcases hf with hf | ⟨hin, hCo⟩
    · rw [hf] at hfi; cases hfi
    have hcf : m.cls = cf := by
      obtain ⟨_, _, c', _, _, _, -, -, hf', -, -, -, hown2, -⟩ := Cond.laysFinal_spec hlay
      have e1 : c' = cf := by have := hi.symm.trans hf'; simp at this; exact this.1.symm
      rw [hd, hCo] at hown2
      rw [← e1]; exact Option.some.inj (hown.symm.trans hown2)
    have h6 := u_fits hfc hkC hkind (Or.inr hlay) hi (F3 k hk) hn hfit
    exact W.putFinK hx hb hown (hts _ hm) (hsame _ hi) hst hcf hin (by rw [q2]; exact h6) q1 q3 (by rw [hsl]; exact k2_hasslot (q4 k hk)) rfl rfl d fin
  · rw [if_neg hfi] at hlay
    have h6 := u_store hfc hkC hkind hlay hi (F3 k hk) hn hfit
    exact W.putK hx hb (f := f) ⟨hown, hts _ hm, ⟨_, _, _, hsame _ hi⟩, hst⟩ (by rw [q2]; exact h6) q1 q3 (by rw [hsl]; exact k2_hasslot (q4 k hk)) rfl rfl d fin
theorem up_j {α : Type} {f : Nat → Nat → α} {r k j : Nat} {v : α} (h : j ≠ k) : up_2 f r k v r j = f r j := by
  unfold up_2
  rw [if_neg (fun q => h q.2)]
theorem up_s {α : Type} {f : Nat → Nat → α} {r k : Nat} {v : α} : up_2 f r k v r k = v := by
  unfold up_2
  rw [if_pos ⟨rfl, rfl⟩]
theorem tj_putI (ok : OkX X g cc nL own ret) {ci k idx N : Nat} {C : String} {T : u_T} {ty : Nat → FieldType} (F : Fc ci C T N ty) (hk : k < N) (hm : Cond.fieldLink own idx C (T k).2.1 (T k).2.2.1 ∈ lw_gd) (hd : (T k).1 = C) (hf : (T k).2.2.2 = false ∨ (NmX X "<init>" ∧ C = own)) (ht : ty k = .int)
    (d : decode cc pc = .ok (.putfield idx, 3)) {r : Nat} {v : Int32} {h' : AH} (e : p_i h r ci k v = some h') (kk : TJ X (pc + 3) lv st h') : TJ X pc lv (.int v :: rf_v g r :: st) h := by
  obtain ⟨hr, rfl⟩ := of_if e
  refine tj_putV (h' := st_i h r k v) ok F hk hm hd hf d hr (by rw [ht]; rfl) (by rw [ht]; rfl) rfl rfl hr.2.2 (fun a ha => w_si ha) (fun j hj => ?_) kk
  unfold updV
  by_cases hjk : j = k
  · subst hjk
    rw [if_pos rfl, ht]
    show _ = Value.int (up_2 _ _ _ _ _ _)
    rw [up_s]
  · rw [if_neg hjk]
    unfold sl_v
    show _ = (match ty j with | .long => Value.long (hp_j h r j) | .object _ => rf_v g (hp_r h r j) | .array _ => rf_v g (hp_r h r j) | _ => Value.int (up_2 _ _ _ _ _ _))
    rw [up_j hjk]
    rfl
theorem tj_putZ (ok : OkX X g cc nL own ret) {ci k idx N : Nat} {C : String} {T : u_T} {ty : Nat → FieldType} (F : Fc ci C T N ty) (hk : k < N) (hm : Cond.fieldLink own idx C (T k).2.1 (T k).2.2.1 ∈ lw_gd) (hd : (T k).1 = C) (hf : (T k).2.2.2 = false ∨ (NmX X "<init>" ∧ C = own)) (ht : ty k = .boolean)
    (d : decode cc pc = .ok (.putfield idx, 3)) {r : Nat} {v : Int32} {h' : AH} (e : p_z h r ci k v = some h') (kk : TJ X (pc + 3) lv st h') : TJ X pc lv (.int v :: rf_v g r :: st) h := by
  obtain ⟨⟨hr, hz⟩, rfl⟩ := of_if e
  refine tj_putV (h' := st_i h r k v) ok F hk hm hd hf d hr (by rw [ht]; rcases hz with rfl | rfl <;> rfl) (by rw [ht]; rcases hz with rfl | rfl <;> rfl) rfl rfl hr.2.2 (fun a ha => w_si ha) (fun j hj => ?_) kk
  unfold updV
  by_cases hjk : j = k
  · subst hjk
    rw [if_pos rfl, ht]
    show _ = Value.int (up_2 _ _ _ _ _ _)
    rw [up_s]
  · rw [if_neg hjk]
    unfold sl_v
    show _ = (match ty j with | .long => Value.long (hp_j h r j) | .object _ => rf_v g (hp_r h r j) | .array _ => rf_v g (hp_r h r j) | _ => Value.int (up_2 _ _ _ _ _ _))
    rw [up_j hjk]
    rfl
theorem tj_putJ (ok : OkX X g cc nL own ret) {ci k idx N : Nat} {C : String} {T : u_T} {ty : Nat → FieldType} (F : Fc ci C T N ty) (hk : k < N) (hm : Cond.fieldLink own idx C (T k).2.1 (T k).2.2.1 ∈ lw_gd) (hd : (T k).1 = C) (hf : (T k).2.2.2 = false ∨ (NmX X "<init>" ∧ C = own)) (ht : ty k = .long)
    (d : decode cc pc = .ok (.putfield idx, 3)) {r : Nat} {v : Int64} {h' : AH} (e : p_j h r ci k v = some h') (kk : TJ X (pc + 3) lv st h') : TJ X pc lv (.long v :: rf_v g r :: st) h := by
  obtain ⟨hr, rfl⟩ := of_if e
  refine tj_putV (h' := st_j h r k v) ok F hk hm hd hf d hr (by rw [ht]; rfl) (by rw [ht]; rfl) rfl rfl hr.2.2 (fun a ha => w_sj ha) (fun j hj => ?_) kk
  unfold updV
  by_cases hjk : j = k
  · subst hjk
    rw [if_pos rfl, ht]
    show _ = Value.long (up_2 _ _ _ _ _ _)
    rw [up_s]
  · rw [if_neg hjk]
    unfold sl_v
    show _ = (match ty j with | .long => Value.long (up_2 _ _ _ _ _ _) | .object _ => rf_v g (hp_r h r j) | .array _ => rf_v g (hp_r h r j) | _ => Value.int (hp_i h r j))
    rw [up_j hjk]
    rfl
theorem rf_fit {g : GT} {r : Nat} {t : FieldType} (ht : (∃ n, t = .object n) ∨ ∃ u, t = .array u) : narrow t (rf_v g r) = rf_v g r ∧ fits t (rf_v g r) = true := by
  unfold rf_v
  rcases ht with ⟨n, rfl⟩ | ⟨u, rfl⟩ <;> split <;> exact ⟨rfl, rfl⟩
theorem tj_putR (ok : OkX X g cc nL own ret) {ci k idx N : Nat} {C : String} {T : u_T} {ty : Nat → FieldType} (F : Fc ci C T N ty) (hk : k < N) (hm : Cond.fieldLink own idx C (T k).2.1 (T k).2.2.1 ∈ lw_gd) (hd : (T k).1 = C) (hf : (T k).2.2.2 = false ∨ (NmX X "<init>" ∧ C = own)) (ht : (∃ n, ty k = .object n) ∨ ∃ t, ty k = .array t)
    (d : decode cc pc = .ok (.putfield idx, 3)) {r : Nat} {v : Nat} {h' : AH} (e : p_r h r ci k v = some h') (kk : TJ X (pc + 3) lv st h') : TJ X pc lv (rf_v g v :: rf_v g r :: st) h := by
  obtain ⟨hr, rfl⟩ := of_if e
  refine tj_putV (h' := st_r h r k v) ok F hk hm hd hf d hr (rf_fit ht).1 (rf_fit ht).2 rfl rfl hr.2.2 (fun a ha => w_sr ha) (fun j hj => ?_) kk
  unfold updV
  by_cases hjk : j = k
  · subst hjk
    rw [if_pos rfl]
    rcases ht with ⟨n, ht⟩ | ⟨t, ht⟩ <;> rw [ht] <;> (show _ = rf_v g (up_2 _ _ _ _ _ _)) <;> rw [up_s]
  · rw [if_neg hjk]
    unfold sl_v
    show _ = (match ty j with | .long => Value.long (hp_j h r j) | .object _ => rf_v g (up_2 _ _ _ _ _ _) | .array _ => rf_v g (up_2 _ _ _ _ _ _) | _ => Value.int (hp_i h r j))
    rw [up_j hjk]
    rfl
end TJ2
