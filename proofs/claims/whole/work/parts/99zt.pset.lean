/-! ===== the class's jumps ===== -/
section
variable {Z : Nat → Nat → Int32} {tp : Nat → Nat} {n cnt B : Nat} {h : AH} {A A' : Nat → Nat → Int32} {j th hd ne st : Nat} {E : List Ent} {AL : List Act} {SL : List Nat} {ow : Nat → Int32} {lb mb mk dn : Int32} {kd : Nat → Int32}
theorem cs_setj {i : Nat} {pj qj : Option Nat} (S : CS Z tp n cnt B A j th hd ne st E AL SL ow lb mb mk dn kd) (hB : 126 ≤ B) (hi : i < E.length) (hk : ∀ r k, ¬ (r = B + 6 ∧ k = i) → A' r k = A r k) (hy : ∀ y, pj = some y → A' (B + 6) i = nI y) : CS Z tp n cnt B A' j th hd ne st (E.set i (sJ (E.getD i dE) pj qj)) AL SL ow lb mb mk dn kd := by
  obtain ⟨⟨s1, s2, s3, s4, s5, s6, s7⟩, ⟨a1, a2, a3⟩, b, ⟨c1, c2, c3, c4, c5, c6, c7, c8⟩, d, e, f, g, i1, i2⟩ := S
  have e69 : A' 69 = A 69 := by funext k; exact hk 69 k (by omega)
  have e70 : A' 70 = A 70 := by funext k; exact hk 70 k (by omega)
  refine ⟨⟨by rw [e69]; exact s1, by rw [e70]; exact s2, s3, s4, fun k hk' => by rw [hk 65 k (by omega)]; exact s5 k hk', s6, fun r k hr => by rw [hk r k (by omega)]; exact s7 r k hr⟩, ⟨by rw [hk 68 6 (by omega)]; exact a1, by rw [hk 68 7 (by omega)]; exact a2, by rw [hk 68 8 (by omega)]; exact a3⟩, fun l hl => by rw [hk 71 l (by omega)]; exact b l hl, ?_, fun x hx => ?_, fun t ht => by rw [hk _ _ (by omega)]; exact e t ht, fun m hm => by rw [hk _ _ (by omega), hk _ _ (by omega)]; exact f m hm, fun c hc => by rw [hk _ _ (by omega)]; exact g c hc, by rw [List.length_set]; exact i1, i2⟩
  · rw [hk B 10 (by omega), hk B 11 (by omega), hk B 12 (by omega), hk B 13 (by omega), hk B 14 (by omega), hk B 15 (by omega), hk B 16 (by omega), hk B 17 (by omega), List.length_set]
    exact ⟨c1, c2, c3, c4, c5, c6, c7, c8⟩
  · rw [List.length_set] at hx
    obtain ⟨d1, d2, d3, d4, d5, d6, d7⟩ := d x hx
    rw [set_g hi]
    by_cases q : x = i
    · subst q
      rw [if_pos rfl]
      exact ⟨by rw [hk _ _ (by omega)]; exact d1, by rw [hk _ _ (by omega)]; exact d2, by rw [hk _ _ (by omega)]; exact d3, by rw [hk _ _ (by omega)]; exact d4, by rw [hk _ _ (by omega)]; exact d5, hy, by rw [hk _ _ (by omega)]; exact d7⟩
    · rw [if_neg q]
      exact ⟨by rw [hk _ _ (by omega)]; exact d1, by rw [hk _ _ (by omega)]; exact d2, by rw [hk _ _ (by omega)]; exact d3, by rw [hk _ _ (by omega)]; exact d4, by rw [hk _ _ (by omega)]; exact d5, fun y z => by rw [hk _ _ (by omega)]; exact d6 y z, by rw [hk _ _ (by omega)]; exact d7⟩
/-- only what the reference has of a jump -/
theorem cs_jq {i : Nat} {qj : Option Nat} (S : CS Z tp n cnt B A j th hd ne st E AL SL ow lb mb mk dn kd) (hB : 126 ≤ B) (hi : i < E.length) : CS Z tp n cnt B A j th hd ne st (E.set i (sJ (E.getD i dE) (en_jp (E.getD i dE)) qj)) AL SL ow lb mb mk dn kd :=
  cs_setj S hB hi (fun _ _ _ => rfl) (fun y z => (S.2.2.2.2.1 i hi).2.2.2.2.2.1 y z)
/-- the nesting -/
theorem cs_ne {ne' : Nat} (Q : CQ h B) (S : CS Z tp n cnt B A j th hd ne st E AL SL ow lb mb mk dn kd) (hn : ne' ≤ 4) : CS Z tp n cnt B (up_2 A 68 8 (nI ne')) j th hd ne' st E AL SL ow lb mb mk dn kd := by
  have hB := Q.2.2.2.2.2.1
  have hd4 := S.2.2.2.2.2.2.2.2.2.2.2.2.2.1
  refine cs_fld hB S (fun r k k1 k2 k3 k4 => u2 (by omega)) (fun l hl => by rw [u2 (by omega)]; exact S.2.2.1 l hl) ?_ u2s ?_ ?_ ?_ ?_ hd4 hn
  · rw [u2 (by omega)]; exact S.2.1.2.1
  · rw [u2 (by omega)]; exact S.2.2.2.1.2.2.2.2.1
  · rw [u2 (by omega)]; exact S.2.2.2.1.2.2.2.2.2.1
  · rw [u2 (by omega)]; exact S.2.2.2.1.2.2.2.2.2.2.1
  · rw [u2 (by omega)]; exact S.2.2.2.1.2.2.2.2.2.2.2
end
section
variable {Z2 : Nat → Nat → Int32} {tp : Nat → Nat} {n : Nat} {g : AH} {A : Nat → Nat → Int32} {j0 tc j th hd ne st : Nat} {E : List Ent} {AL : List Act} {SL : List Nat} {ow : Nat → Int32} {lb mb mk dn : Int32} {kd : Nat → Int32}
theorem rr_ne {ne' hd' : Nat} {k : Nat} {v : Int32} (S : RR Z2 tp n A j0 tc j th hd ne st E AL SL ow lb mb mk dn kd) (hk : (k = 18 ∧ v = nI hd' ∧ ne' = ne) ∨ (k = 19 ∧ v = nI ne' ∧ hd' = hd)) (h4 : hd' < 4) (hn : ne' ≤ 4) : RR Z2 tp n (up_2 A 102 k v) j0 tc j th hd' ne' st E AL SL ow lb mb mk dn kd := by
  have st20 := S.2.2.2.2.2.2.2.2.2.2.2.2.1
  have k89 : k = 18 ∨ k = 19 := hk.elim (fun z => Or.inl z.1) (fun z => Or.inr z.1)
  refine rr_fld S (rt_cg S.1 (fun r q k1 k2 k3 => u2 (by omega))) (fun r q k1 k2 k3 => u2 (by omega)) (fun l hl => by rw [u2 (by omega)]; exact S.2.2.1 l hl) ?_ ?_ ?_ ?_ ?_ ?_ ?_ h4 hn st20
  · rcases hk with ⟨rfl, rfl, rfl⟩ | ⟨rfl, rfl, rfl⟩
    · exact u2s
    · rw [u2 (by omega)]; exact S.2.1.2.2.2.1
  · rcases hk with ⟨rfl, rfl, rfl⟩ | ⟨rfl, rfl, rfl⟩
    · rw [u2 (by omega)]; exact S.2.1.2.2.2.2.1
    · exact u2s
  · rw [u2 (by omega)]; exact S.2.1.2.2.2.2.2
  · rw [u2 (by omega)]; exact S.2.2.2.1.2.2.1
  · rw [u2 (by omega)]; exact S.2.2.2.1.2.2.2.1
  · rw [u2 (by omega)]; exact S.2.2.2.1.2.2.2.2.1
  · rw [u2 (by omega)]; exact S.2.2.2.1.2.2.2.2.2.1
end
