/-! ===== whole_start out of the law's function ===== -/
def h_0 : AH := (64, 0, fun _ => 0, fun _ => 0, fun _ _ => 0, fun _ _ => 0, fun _ _ => 0)
set_option maxHeartbeats 4000000 in
theorem start_of {p : Program} {e : Env} {s : State} {m : MethodId} {below : List Frame} {meth : Method} {c : Code} (l : Launch) (hfl : l.stackTraces = false) (hnm : meth.name = "law") {b L : Nat} {xs : Nat → Int32} {hE : AH} (hf : f_L_law L xs h_0 = some (1, hE)) (h1 : hp_n hE ≤ 601088) (h2 : hp_s hE ≤ 7293034) (C0 : lw_At p s m meth c b L xs) : W p l e room_1 s m #[Value.ref b] below meth c s.heap [] 0 0 (lw_Z below #[Value.ref b] s) (entryFrame m ([Value.ref b] : List Value).toArray 7) := by
  obtain ⟨hx, hb, hr, hml, hown, hts, hX, hbl, hlocks, hgv⟩ := C0
  obtain ⟨g, rfl, hH, hB, hV⟩ := st_gv l hfl hts hgv
  have htg : ∀ w ∈ lw_gd, w.before #[Value.ref b] s = true := fun w hw => hts w (List.mem_filter.mp hw).1
  have hG : GW g h_0 s.heap [] := ⟨by show s.heap.size + 64 = g.2.1.size + 64; rw [hH], Nat.le_refl 64, fun r a1 a2 => absurd a2 (Nat.not_lt.mpr a1), by rw [hH]; exact va_S.rf⟩
  subst hB
  have J := (q_L_law_0 (a0 := 31) hf).2 (p, e, room_1, s, m, #[Value.ref (ad_r g 31)], below, meth, c, g, 7, 64, 0, lw_Z below #[Value.ref (ad_r g 31)] s) g 1400 ⟨rfl, rfl, hx, hb, hml, hown, htg, hV, hr, hlocks, h_0, hG, rfl⟩ hnm ⟨by decide, by decide⟩ (by decide) ⟨⟨rfl, hX, hbl, hH⟩, rfl, rfl, by omega, by omega, rfl⟩
  have hl := lv_entry ([.ref (ad_r g 31)]) (n := 7) (Nat.le_of_ble_eq_true rfl)
  rw [lg_entry_eq]
  exact J s.heap [] _ hG hl (Nat.le_refl 64) (Nat.le_refl 0)
