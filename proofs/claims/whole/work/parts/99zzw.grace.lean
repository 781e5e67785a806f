/-! ===== Long.bitCount ===== -/
def cn (n x : Nat) : Nat := ((List.range n).filter (fun k => x.testBit k)).length
theorem cn_s (n x : Nat) : cn (8 + n) x = cn 8 (x % 256) + cn n (x / 256) := by
  unfold cn
  rw [List.range_add, List.filter_append, List.length_append]
  congr 1
  · congr 1
    apply List.filter_congr
    intro k hk
    have : k < 8 := List.mem_range.mp hk
    rw [show (256 : Nat) = 2 ^ 8 from rfl, Nat.testBit_mod_two_pow, decide_eq_true this, Bool.true_and]
  · rw [List.filter_map, List.length_map]
    congr 1
    apply List.filter_congr
    intro k _
    show x.testBit (8 + k) = _
    rw [show (256 : Nat) = 2 ^ 8 from rfl, Nat.testBit_div_two_pow, Nat.add_comm]
def mr_ (c : Nat) : Nat → Nat
  | 0 => 0
  | n + 1 => c + 256 * mr_ c n
def s1 (n x : Nat) : Nat := x - ((x / 2) &&& mr_ 85 n)
def s2 (n y : Nat) : Nat := (y &&& mr_ 51 n) + ((y / 4) &&& mr_ 51 n)
def s3 (n w : Nat) : Nat := (w + w / 16) &&& mr_ 15 n
theorem an_s {X c M : Nat} (hc : c < 256) : X &&& (c + 256 * M) = (X % 256 &&& c) + 256 * (X / 256 &&& M) := by
  have e1 : (X &&& (c + 256 * M)) % 2 ^ 8 = X % 256 &&& c := by
    rw [Nat.and_mod_two_pow]
    congr 1
    omega
  have e2 : (X &&& (c + 256 * M)) / 2 ^ 8 = X / 256 &&& M := by
    rw [Nat.and_div_two_pow]
    congr 1
    omega
  have := Nat.div_add_mod (X &&& (c + 256 * M)) (2 ^ 8)
  rw [e1, e2] at this
  omega
theorem d1 : ∀ q, q < 128 → ∀ b, b < 2 → (q + 128 * b) &&& 85 = q &&& 85 := by decide +kernel
theorem d2 : ∀ q, q < 64 → ∀ b, b < 4 → (q + 64 * b) &&& 51 = q &&& 51 := by decide +kernel
theorem d8 : ∀ x, x < 256 → s3 1 (s2 1 (s1 1 x)) = cn 8 x := by decide +kernel
theorem s1_s {n lo hi : Nat} (hl : lo < 256) : s1 (n + 1) (lo + 256 * hi) = s1 1 lo + 256 * s1 n hi := by
  unfold s1
  have m1 : mr_ 85 (n + 1) = 85 + 256 * mr_ 85 n := rfl
  have m2 : mr_ 85 1 = 85 := rfl
  rw [m1, m2, an_s (by omega)]
  have e1 : (lo + 256 * hi) / 2 % 256 = lo / 2 + 128 * (hi % 2) := by omega
  have e2 : (lo + 256 * hi) / 2 / 256 = hi / 2 := by omega
  rw [e1, e2, d1 _ (by omega) _ (by omega)]
  have a1 : lo / 2 &&& 85 ≤ lo / 2 := Nat.and_le_left
  have a2 : hi / 2 &&& mr_ 85 n ≤ hi / 2 := Nat.and_le_left
  omega
theorem s2_s {n lo hi : Nat} (hl : lo < 256) : s2 (n + 1) (lo + 256 * hi) = s2 1 lo + 256 * s2 n hi := by
  unfold s2
  have m1 : mr_ 51 (n + 1) = 51 + 256 * mr_ 51 n := rfl
  have m2 : mr_ 51 1 = 51 := rfl
  rw [m1, m2, an_s (by omega), an_s (X := (lo + 256 * hi) / 4) (by omega)]
  have e1 : (lo + 256 * hi) % 256 = lo := by omega
  have e2 : (lo + 256 * hi) / 256 = hi := by omega
  have e3 : (lo + 256 * hi) / 4 % 256 = lo / 4 + 64 * (hi % 4) := by omega
  have e4 : (lo + 256 * hi) / 4 / 256 = hi / 4 := by omega
  rw [e1, e2, e3, e4, d2 _ (by omega) _ (by omega)]
  omega
theorem s2_l {lo : Nat} : s2 1 lo ≤ 102 := by
  unfold s2
  have m2 : mr_ 51 1 = 51 := rfl
  rw [m2]
  have a1 : lo &&& 51 ≤ 51 := Nat.and_le_right
  have a2 : lo / 4 &&& 51 ≤ 51 := Nat.and_le_right
  omega
theorem s2_6 {n hi : Nat} : s2 n hi % 16 ≤ 6 := by
  have k : ∀ X, (X &&& mr_ 51 n) % 16 ≤ 3 := fun X => by
    have e : (X &&& mr_ 51 n) % 2 ^ 4 = X % 2 ^ 4 &&& mr_ 51 n % 2 ^ 4 := Nat.and_mod_two_pow
    have b : mr_ 51 n % 2 ^ 4 ≤ 3 := by
      cases n with
      | zero => show 0 % 2 ^ 4 ≤ 3; omega
      | succ n =>
        have m1 : mr_ 51 (n + 1) = 51 + 256 * mr_ 51 n := rfl
        rw [m1]; omega
    have : X % 2 ^ 4 &&& mr_ 51 n % 2 ^ 4 ≤ mr_ 51 n % 2 ^ 4 := Nat.and_le_right
    omega
  unfold s2
  have := k hi
  have := k (hi / 4)
  omega
theorem s3_s {n lo hi : Nat} (hl : lo ≤ 102) (hh : hi % 16 ≤ 6) : s3 (n + 1) (lo + 256 * hi) = s3 1 lo + 256 * s3 n hi := by
  unfold s3
  have m1 : mr_ 15 (n + 1) = 15 + 256 * mr_ 15 n := rfl
  have m2 : mr_ 15 1 = 15 := rfl
  rw [m1, m2, an_s (by omega)]
  have e1 : (lo + 256 * hi + (lo + 256 * hi) / 16) % 256 = lo + lo / 16 + 16 * (hi % 16) := by omega
  have e2 : (lo + 256 * hi + (lo + 256 * hi) / 16) / 256 = hi + hi / 16 := by omega
  rw [e1, e2]
  have k : ∀ X, X &&& 15 = X % 16 := fun X => Nat.and_two_pow_sub_one_eq_mod X 4
  rw [k, k]
  omega
def sWx (n x : Nat) : Nat := s3 n (s2 n (s1 n x))
theorem sw_s {n x : Nat} : sWx (n + 1) x = cn 8 (x % 256) + 256 * sWx n (x / 256) := by
  have e : x = x % 256 + 256 * (x / 256) := by omega
  have hx : x % 256 < 256 := by omega
  rw [← d8 _ hx]
  conv => lhs; rw [e]
  unfold sWx
  have l1 : s1 1 (x % 256) < 256 := by
    unfold s1; omega
  rw [s1_s hx, s2_s l1, s3_s s2_l s2_6]
theorem cn8_le {x : Nat} : cn 8 x ≤ 8 := by
  unfold cn
  exact Nat.le_trans (List.length_filter_le _ _) (by rw [List.length_range]; exact Nat.le_refl _)
theorem sw_f {c0 c1 c2 c3 c4 c5 c6 c7 z : Nat} (b0 : c0 ≤ 8) (b1 : c1 ≤ 8) (b2 : c2 ≤ 8) (b3 : c3 ≤ 8) (b4 : c4 ≤ 8) (b5 : c5 ≤ 8) (b6 : c6 ≤ 8) (b7 : c7 ≤ 8) (hz : z = c0 + 256 * (c1 + 256 * (c2 + 256 * (c3 + 256 * (c4 + 256 * (c5 + 256 * (c6 + 256 * (c7 + 256 * 0)))))))) :
    z < 2 ^ 60 ∧ ((z + z / 256) + (z + z / 256) / 65536 + ((z + z / 256) + (z + z / 256) / 65536) / 4294967296) % 128 = c0 + (c1 + (c2 + (c3 + (c4 + (c5 + (c6 + (c7 + 0))))))) ∧ c0 + (c1 + (c2 + (c3 + (c4 + (c5 + (c6 + (c7 + 0))))))) ≤ 64 := by
  refine ⟨by omega, ?_, by omega⟩
  have y1 : z / 256 = c1 + 256 * (c2 + 256 * (c3 + 256 * (c4 + 256 * (c5 + 256 * (c6 + 256 * c7))))) := by
    have : z = 256 * (c1 + 256 * (c2 + 256 * (c3 + 256 * (c4 + 256 * (c5 + 256 * (c6 + 256 * c7)))))) + c0 := by omega
    rw [this, Nat.mul_add_div (by omega), Nat.div_eq_of_lt (by omega), Nat.add_zero]
  generalize hy : z + z / 256 = y
  have y2 : y = 65536 * ((c2 + c3) + 256 * ((c3 + c4) + 256 * ((c4 + c5) + 256 * ((c5 + c6) + 256 * ((c6 + c7) + 256 * c7))))) + ((c0 + c1) + 256 * (c1 + c2)) := by omega
  have y3 : y / 65536 = (c2 + c3) + 256 * ((c3 + c4) + 256 * ((c4 + c5) + 256 * ((c5 + c6) + 256 * ((c6 + c7) + 256 * c7)))) := by
    rw [y2, Nat.mul_add_div (by omega), Nat.div_eq_of_lt (by omega), Nat.add_zero]
  generalize hu : y + y / 65536 = u
  have y4 : u = 4294967296 * ((c4 + c5 + c6 + c7) + 256 * ((c5 + c6 + c7) + 256 * ((c6 + c7) + 256 * c7))) + ((c0 + c1 + c2 + c3) + 256 * ((c1 + c2 + c3 + c4) + 256 * ((c2 + c3 + c4 + c5) + 256 * (c3 + c4 + c5 + c6)))) := by omega
  have y5 : u / 4294967296 = (c4 + c5 + c6 + c7) + 256 * ((c5 + c6 + c7) + 256 * ((c6 + c7) + 256 * c7)) := by
    rw [y4, Nat.mul_add_div (by omega), Nat.div_eq_of_lt (by omega), Nat.add_zero]
  rw [y5]
  generalize (c5 + c6 + c7) + 256 * ((c6 + c7) + 256 * c7) = D at *
  generalize (c1 + c2 + c3 + c4) + 256 * ((c2 + c3 + c4 + c5) + 256 * (c3 + c4 + c5 + c6)) = B at *
  clear y1 y2 y3 y5 hz hu hy
  omega
/-- the last three sums -/
theorem sw_8a (f w : Nat → Nat → Nat) (hs : ∀ n x, f (8 + n) x = f 8 (x % 256) + f n (x / 256)) (h0 : ∀ x, f 0 x = 0) (h8 : ∀ x, f 8 x ≤ 8) (ws : ∀ n x, w (n + 1) x = f 8 (x % 256) + 256 * w n (x / 256)) (w0 : ∀ x, w 0 x = 0) (x : Nat) :
    w 8 x < 2 ^ 60 ∧ ((w 8 x + w 8 x / 256) + (w 8 x + w 8 x / 256) / 65536 + ((w 8 x + w 8 x / 256) + (w 8 x + w 8 x / 256) / 65536) / 4294967296) % 128 = f 64 x ∧ f 64 x ≤ 64 := by
  have e8 := hs 0 (x / 256 / 256 / 256 / 256 / 256 / 256 / 256)
  have c : f 64 x = f 8 (x % 256) + (f 8 (x / 256 % 256) + (f 8 (x / 256 / 256 % 256) + (f 8 (x / 256 / 256 / 256 % 256) + (f 8 (x / 256 / 256 / 256 / 256 % 256) + (f 8 (x / 256 / 256 / 256 / 256 / 256 % 256) + (f 8 (x / 256 / 256 / 256 / 256 / 256 / 256 % 256) + (f 8 (x / 256 / 256 / 256 / 256 / 256 / 256 / 256 % 256) + 0))))))) := by
    have e1 : f 64 x = _ := hs 56 x
    have e2 : f 56 (x / 256) = _ := hs 48 _
    have e3 : f 48 (x / 256 / 256) = _ := hs 40 _
    have e4 : f 40 (x / 256 / 256 / 256) = _ := hs 32 _
    have e5 : f 32 (x / 256 / 256 / 256 / 256) = _ := hs 24 _
    have e6 : f 24 (x / 256 / 256 / 256 / 256 / 256) = _ := hs 16 _
    have e7 : f 16 (x / 256 / 256 / 256 / 256 / 256 / 256) = _ := hs 8 _
    rw [h0] at e8
    rw [e1, e2, e3, e4, e5, e6, e7]
    have e9 : f 8 (x / 256 / 256 / 256 / 256 / 256 / 256 / 256) = _ := e8
    rw [e9]
  have q : w 8 x = f 8 (x % 256) + 256 * (f 8 (x / 256 % 256) + 256 * (f 8 (x / 256 / 256 % 256) + 256 * (f 8 (x / 256 / 256 / 256 % 256) + 256 * (f 8 (x / 256 / 256 / 256 / 256 % 256) + 256 * (f 8 (x / 256 / 256 / 256 / 256 / 256 % 256) + 256 * (f 8 (x / 256 / 256 / 256 / 256 / 256 / 256 % 256) + 256 * (f 8 (x / 256 / 256 / 256 / 256 / 256 / 256 / 256 % 256) + 256 * 0))))))) := by
    rw [ws 7, ws 6, ws 5, ws 4, ws 3, ws 2, ws 1, ws 0, w0]
  have := sw_f (h8 _) (h8 _) (h8 _) (h8 _) (h8 _) (h8 _) (h8 _) (h8 _) q
  rw [← c] at this
  exact this
theorem sw_8 (x : Nat) : ∃ z, sWx 8 x = z ∧ z < 2 ^ 60 ∧ ((z + z / 256) + (z + z / 256) / 65536 + ((z + z / 256) + (z + z / 256) / 65536) / 4294967296) % 128 = cn 64 x ∧ cn 64 x ≤ 64 := by
  refine ⟨_, rfl, ?_⟩
  refine sw_8a cn sWx cn_s (fun _ => rfl) (fun _ => cn8_le) (fun n x => sw_s) (fun y => ?_) x
  unfold sWx s3
  show _ &&& 0 = 0
  exact Nat.and_zero _
theorem bc_64 {a : Int64} {h : AH} : f_J13_bitCount_95d88 a h = some (nI (cn 64 a.toBitVec.toNat), h) := by
  have hs : ∀ (T : Int64) k, k < 64 → (us_j T (nI k)).toBitVec.toNat = T.toBitVec.toNat / 2 ^ k := fun T k hk => us_toNat hk
  have ha : ∀ x y : Int64, (x &&& y).toBitVec.toNat = x.toBitVec.toNat &&& y.toBitVec.toNat := fun x y => BitVec.toNat_and ..
  have hp : ∀ x y : Int64, x.toBitVec.toNat + y.toBitVec.toNat < 2 ^ 64 → (x + y).toBitVec.toNat = x.toBitVec.toNat + y.toBitVec.toNat := fun x y hxy => by
    show (x.toBitVec + y.toBitVec).toNat = _
    rw [BitVec.toNat_add, Nat.mod_eq_of_lt hxy]
  have hm : ∀ x y : Int64, y.toBitVec.toNat ≤ x.toBitVec.toNat → (x - y).toBitVec.toNat = x.toBitVec.toNat - y.toBitVec.toNat := fun x y hxy => by
    show (x.toBitVec - y.toBitVec).toNat = _
    rw [BitVec.toNat_sub]
    have := x.toBitVec.isLt
    omega
  have hl : ∀ x : Int64, x.toBitVec.toNat < 2 ^ 64 := fun x => x.toBitVec.isLt
  unfold f_J13_bitCount_95d88 b_J13_bitCount_95d88_0
  generalize e1 : a - (us_j a (1 : Int32) &&& (6148914691236517205 : Int64)) = y
  have y1 : y.toBitVec.toNat = s1 8 a.toBitVec.toNat := by
    have q : (us_j a (1 : Int32) &&& (6148914691236517205 : Int64)).toBitVec.toNat = a.toBitVec.toNat / 2 &&& mr_ 85 8 := by
      rw [ha, show us_j a (1 : Int32) = us_j a (nI 1) from rfl, hs a 1 (by omega)]; rfl
    have : a.toBitVec.toNat / 2 &&& mr_ 85 8 ≤ a.toBitVec.toNat / 2 := Nat.and_le_left
    rw [← e1, hm _ _ (by rw [q]; omega), q]; rfl
  unfold b_J13_bitCount_95d88_10
  generalize e2 : (y &&& (3689348814741910323 : Int64)) + (us_j y (2 : Int32) &&& (3689348814741910323 : Int64)) = w
  have w1 : w.toBitVec.toNat = s2 8 y.toBitVec.toNat := by
    have q : (us_j y (2 : Int32) &&& (3689348814741910323 : Int64)).toBitVec.toNat = y.toBitVec.toNat / 4 &&& mr_ 51 8 := by
      rw [ha, show us_j y (2 : Int32) = us_j y (nI 2) from rfl, hs y 2 (by omega)]; rfl
    have q' : (y &&& (3689348814741910323 : Int64)).toBitVec.toNat = y.toBitVec.toNat &&& mr_ 51 8 := by
      rw [ha]; rfl
    have b1 : y.toBitVec.toNat / 4 &&& mr_ 51 8 ≤ mr_ 51 8 := Nat.and_le_right
    have b2 : y.toBitVec.toNat &&& mr_ 51 8 ≤ mr_ 51 8 := Nat.and_le_right
    have b3 : mr_ 51 8 = 3689348814741910323 := rfl
    rw [← e2, hp _ _ (by rw [q, q']; omega), q, q']; rfl
  have wb : w.toBitVec.toNat ≤ 7378697629483820646 := by
    rw [w1]
    unfold s2
    have b1 : y.toBitVec.toNat / 4 &&& mr_ 51 8 ≤ mr_ 51 8 := Nat.and_le_right
    have b2 : y.toBitVec.toNat &&& mr_ 51 8 ≤ mr_ 51 8 := Nat.and_le_right
    have b3 : mr_ 51 8 = 3689348814741910323 := rfl
    omega
  unfold b_J13_bitCount_95d88_24
  generalize e3 : (w + us_j w (4 : Int32)) &&& (1085102592571150095 : Int64) = z
  have z1 : z.toBitVec.toNat = s3 8 w.toBitVec.toNat := by
    have q : (us_j w (4 : Int32)).toBitVec.toNat = w.toBitVec.toNat / 16 := by
      rw [show us_j w (4 : Int32) = us_j w (nI 4) from rfl, hs w 4 (by omega)]
    rw [← e3, ha, hp _ _ (by rw [q]; omega), q]; rfl
  obtain ⟨Z, k1, k2, k3, k4⟩ := sw_8 a.toBitVec.toNat
  have z2 : z.toBitVec.toNat = Z := by
    rw [z1, w1, y1]; exact k1
  unfold b_J13_bitCount_95d88_34
  generalize e4 : z + us_j z (8 : Int32) = u
  have u1 : u.toBitVec.toNat = Z + Z / 256 := by
    have q : (us_j z (8 : Int32)).toBitVec.toNat = Z / 256 := by
      rw [show us_j z (8 : Int32) = us_j z (nI 8) from rfl, hs z 8 (by omega), z2]
    rw [← e4, hp _ _ (by rw [q, z2]; omega), q, z2]
  unfold b_J13_bitCount_95d88_41
  generalize e5 : u + us_j u (16 : Int32) = v
  have v1 : v.toBitVec.toNat = (Z + Z / 256) + (Z + Z / 256) / 65536 := by
    have q : (us_j u (16 : Int32)).toBitVec.toNat = (Z + Z / 256) / 65536 := by
      rw [show us_j u (16 : Int32) = us_j u (nI 16) from rfl, hs u 16 (by omega), u1]
    rw [← e5, hp _ _ (by rw [q, u1]; omega), q, u1]
  unfold b_J13_bitCount_95d88_48
  generalize e6 : v + us_j v (32 : Int32) = t
  have t1 : t.toBitVec.toNat = (Z + Z / 256) + (Z + Z / 256) / 65536 + ((Z + Z / 256) + (Z + Z / 256) / 65536) / 4294967296 := by
    have q : (us_j v (32 : Int32)).toBitVec.toNat = ((Z + Z / 256) + (Z + Z / 256) / 65536) / 4294967296 := by
      rw [show us_j v (32 : Int32) = us_j v (nI 32) from rfl, hs v 32 (by omega), v1]
    rw [← e6, hp _ _ (by rw [q, v1]; omega), q, v1]
  unfold b_J13_bitCount_95d88_55
  have fin : t.toInt32 &&& (127 : Int32) = nI (cn 64 a.toBitVec.toNat) := by
    apply Int32.toBitVec_inj.mp
    apply BitVec.eq_of_toNat_eq
    have l1 : (t.toInt32 &&& (127 : Int32)).toBitVec.toNat = t.toBitVec.toNat % 128 := by
      show (t.toInt32.toBitVec &&& (127 : Int32).toBitVec).toNat = _
      rw [BitVec.toNat_and, show (127 : Int32).toBitVec.toNat = 2 ^ 7 - 1 from rfl, Nat.and_two_pow_sub_one_eq_mod]
      have : t.toInt32.toBitVec.toNat = t.toBitVec.toNat % 2 ^ 32 := by
        show (t.toBitVec.signExtend 32).toNat = _
        rw [BitVec.toNat_signExtend, BitVec.toNat_setWidth]
        split <;> rfl
      rw [this]
      omega
    rw [l1, t1, k3]
    show _ = (BitVec.ofNat 32 (cn 64 a.toBitVec.toNat)).toNat
    rw [BitVec.toNat_ofNat]
    omega
  rw [fin]
/-! ===== races, race ===== -/
def pre_ (x : Int64) (i : Nat) : List Nat := (List.range i).filter (fun k => x.toBitVec.toNat.testBit k)
def RB (x : Int64) : List Nat := pre_ x 64
theorem fd_t1 {x : Int64} {k : Nat} : fd x k 1 = 1 ↔ x.toBitVec.toNat.testBit k = true := by
  unfold fd
  rw [Nat.pow_one, ← Nat.toNat_testBit]
  cases x.toBitVec.toNat.testBit k
  · exact ⟨fun z => absurd z (by decide), fun z => absurd z (by decide)⟩
  · exact ⟨fun _ => rfl, fun _ => rfl⟩
theorem rb_cn {x : Int64} : (RB x).length = cn 64 x.toBitVec.toNat := rfl
theorem rl_rb {f : Nat → Int32} {x : Int64} (hf : ∀ k, k < 64 → (¬ f k = 0 ↔ fd x k 1 = 1)) : RLf f 64 = RB x := by
  unfold RLf RB pre_
  apply List.filter_congr
  intro k hk
  have := (hf k (List.mem_range.mp hk)).trans fd_t1
  cases hb : x.toBitVec.toNat.testBit k
  · rw [hb] at this
    exact decide_eq_false (fun z => absurd (this.mp z) (by decide))
  · rw [hb] at this
    exact decide_eq_true (this.mpr rfl)
theorem pre_s {x : Int64} {i : Nat} : pre_ x (i + 1) = pre_ x i ++ (if x.toBitVec.toNat.testBit i then [i] else []) := by
  unfold pre_
  rw [List.range_succ, List.filter_append]
  congr 1
  rw [List.filter_cons, List.filter_nil]
theorem pre_ap {x : Int64} : ∀ j, j ≤ 64 → ∃ t, RB x = pre_ x (64 - j) ++ t := by
  intro j
  induction j with
  | zero => intro _; exact ⟨[], by rw [List.append_nil]; rfl⟩
  | succ j ih =>
    intro hj
    obtain ⟨t, e⟩ := ih (by omega)
    have : 64 - j = (64 - (j + 1)) + 1 := by omega
    rw [this, pre_s, List.append_assoc] at e
    exact ⟨_, e⟩
theorem rb_lt {x : Int64} {k : Nat} (hk : k < (RB x).length) : (RB x).getD k 0 < 64 := by
  rw [List.getD_eq_getElem?_getD, List.getElem?_eq_getElem hk]
  have : (RB x)[k] ∈ RB x := List.getElem_mem _
  exact List.mem_range.mp (List.mem_filter.mp this).1
theorem nI_dec {n : Nat} : nI (n + 1) + (-1 : Int32) = nI n := by
  rw [← nI_1, Int32.add_assoc, show (1 : Int32) + (-1) = 0 from by decide, Int32.add_zero]
theorem c_rl {x : Int64} {a3 : Int32} {k : Nat} {h : AH} (hk : k < 2 ^ 31) : ∀ j fu, j ≤ 64 → j < fu → (pre_ x (64 - j)).length ≤ k → l_X10_race_32 fu a3 x (nI (k - (pre_ x (64 - j)).length)) (nI (64 - j)) h = if k < (RB x).length then b_X10_race_56 a3 (nI ((RB x).getD k 0)) h else some (-1, h) := by
  intro j
  induction j with
  | zero =>
    intro fu _ hf hc
    obtain ⟨fu, rfl⟩ : ∃ f', fu = f' + 1 := ⟨fu - 1, by omega⟩
    show b_X10_race_32 (l_X10_race_32 fu) a3 x _ (nI 64) h = _
    unfold b_X10_race_32
    have hc' : (RB x).length ≤ k := hc
    rw [if_pos (show (64 : Int32) ≤ nI 64 from by decide), if_neg (by omega)]
    rfl
  | succ j ih =>
    intro fu hj hf hc
    obtain ⟨fu, rfl⟩ : ∃ f', fu = f' + 1 := ⟨fu - 1, by omega⟩
    have ej : 64 - j = (64 - (j + 1)) + 1 := by omega
    have ih' := fun z => ih fu (by omega) (by omega) z
    obtain ⟨t, et⟩ := pre_ap (x := x) j (by omega)
    rw [ej] at ih' et
    generalize hi : 64 - (j + 1) = i at *
    show b_X10_race_32 (l_X10_race_32 fu) a3 x (nI (k - (pre_ x i).length)) (nI i) h = _
    unfold b_X10_race_32
    rw [if_neg (show ¬ (64 : Int32) ≤ nI i from nI_ge (b := 64) (by omega) (by omega))]
    unfold b_X10_race_39
    by_cases cb : fd x i 1 = 1
    · have tb := fd_t1.mp cb
      rw [if_neg (fun z => by have := (zb (T := x) (k := i) (by omega)).mp z; omega)]
      unfold b_X10_race_51
      have ps : pre_ x (i + 1) = pre_ x i ++ [i] := by rw [pre_s, if_pos tb]
      by_cases ck : k = (pre_ x i).length
      · rw [if_pos (by rw [ck, Nat.sub_self]; rfl)]
        have le : k < (RB x).length := by
          rw [et, ps, List.length_append, List.length_append, List.length_singleton, ck]
          omega
        rw [if_pos le]
        have : (RB x).getD k 0 = i := by
          rw [et, ps, List.append_assoc, List.getD_eq_getElem?_getD, List.getElem?_append_right (by omega), ck, Nat.sub_self]
          rfl
        rw [this]
      · rw [if_neg (fun z => by
          have := (nI_eq (b := 0) (by omega) (by omega)).mp z
          omega)]
        unfold b_X10_race_73 b_X10_race_76
        have l1 : (pre_ x (i + 1)).length = (pre_ x i).length + 1 := by rw [ps, List.length_append, List.length_singleton]
        rw [l1] at ih'
        have e1 : k - (pre_ x i).length = (k - ((pre_ x i).length + 1)) + 1 := by omega
        rw [e1, nI_dec, da]
        exact ih' (by omega)
    · have f0 : fd x i 1 = 0 := by
        have := fd_lt (T := x) (k := i) (w := 1)
        omega
      have tb : ¬ x.toBitVec.toNat.testBit i = true := fun z => cb (fd_t1.mpr z)
      rw [if_pos ((zb (T := x) (k := i) (by omega)).mpr f0)]
      unfold b_X10_race_76
      have ps : pre_ x (i + 1) = pre_ x i := by rw [pre_s, if_neg tb, List.append_nil]
      rw [ps] at ih'
      rw [da]
      exact ih' hc
theorem an7 : ∀ c, c < 6 → nI c &&& (7 : Int32) = nI c := by decide
theorem d_8 : ∀ v, v < 64 → dv_i (nI v) (8 : Int32) = some (nI v >>> ((3 : Int32) &&& 31)) ∧ rm_i (nI v) (8 : Int32) = some (nI v &&& (7 : Int32)) := by decide +kernel
/-- a step that may write all of x -/
def SQ3 (h h' : AH) (x : Nat) : Prop := hp_n h ≤ hp_n h' ∧ ∀ r, SR h r → SR h' r ∧ hp_k h' r = hp_k h r ∧ hp_l h' r = hp_l h r ∧ (r ≠ x → hp_i h' r = hp_i h r ∧ hp_r h' r = hp_r h r ∧ hp_j h' r = hp_j h r)
section
variable {h h' h2 H : AH} {g g' : SG} {m p pr x o : Nat} {d : PD} {a b t : Nat} {a1 b1 b2 : Int32}
theorem cr_fr3 (Q : SQ3 h h' x) (kx : hp_k h x = 5) {r o : Nat} (C : CR h r d o) : CR h' r d o := by
  obtain ⟨y1, y2, L, y3⟩ := C
  obtain ⟨G1, G2, G3, G4⟩ := Q.2 _ y1
  have G4 := (G4 (fun z => by rw [z, kx] at y2; exact absurd y2 (by decide))).1
  exact ⟨G1, by rw [G2]; exact y2, L, by rw [G4]; exact y3.1, by rw [G3]; exact y3.2.1, y3.2.2⟩
theorem cpl_self3 (Q : SQ3 h h' x) (kx : hp_k h x = 5) (C : CPl h pr d) (r0 : hp_r h' pr 0 = hp_r h pr 0) (r1 : hp_r h' pr 1 = hp_r h pr 1) (K : CC h' pr d) : CPl h' pr d := by
  obtain ⟨⟨a1, a2⟩, ⟨b1, b2⟩, c, ⟨e1, e2, e3, e4⟩, p, -⟩ := C
  obtain ⟨A1, A2, A3, -⟩ := Q.2 pr a1
  obtain ⟨B1, B2, B3, B5⟩ := Q.2 _ b1
  obtain ⟨E1, E2, E3, E4⟩ := Q.2 _ e1
  have ne : ∀ r, hp_k h r ≠ 5 → r ≠ x := fun r z w => by rw [w] at z; exact z kx
  obtain ⟨B4, B5, -⟩ := B5 (ne _ (by rw [b2]; decide))
  have E4 := (E4 (ne _ (by rw [e2]; decide))).1
  have ek : kh h' (hp_r h pr 0) = kh h (hp_r h pr 0) := by
    funext i
    unfold kh
    by_cases ci : i < 10
    · rw [if_pos ci, if_pos ci, B5]
      exact ((Q.2 _ (c i ci).1).2.2.2 (ne _ (by rw [(c i ci).2.1]; decide))).1
    · rw [if_neg ci, if_neg ci, B4]
  refine ⟨⟨A1, by rw [A2]; exact a2⟩, ⟨by rw [r0]; exact B1, by rw [r0, B2]; exact b2⟩, fun i hi => ?_, ⟨by rw [r1]; exact E1, by rw [r1, E2]; exact e2, by rw [r1, E3]; exact e3, by rw [r1, E4]; exact e4⟩, ⟨by rw [r0, ek]; exact p.1, p.2⟩, K⟩
  obtain ⟨F1, F2, F3, -⟩ := Q.2 _ (c i hi).1
  rw [r0, B5]
  exact ⟨F1, by rw [F2]; exact (c i hi).2.1, by rw [F3]; exact (c i hi).2.2⟩
theorem cpl_fr3 (Q : SQ3 h h' x) (kx : hp_k h x = 5) (hx : pr ≠ x) (C : CPl h pr d) : CPl h' pr d := by
  have C' := C
  obtain ⟨⟨a1, a2⟩, -, -, -, -, q1, q2, q3, q4⟩ := C
  obtain ⟨A1, A2, A3, A5⟩ := Q.2 pr a1
  obtain ⟨A4, A5, j0⟩ := A5 hx
  refine cpl_self3 Q kx C' (by rw [A5]) (by rw [A5]) ⟨fun o ho => ?_, fun z => ?_, fun z => ?_, ?_⟩
  · rw [A5]; exact (q1 o ho).imp id (cr_fr3 Q kx)
  · rw [A5] at z
    rw [j0]
    exact q2 z
  · rw [A5] at z
    rw [j0]
    exact q3 z
  · rw [A4, j0]
    exact q4
theorem gpl_s3 (P : GPl h g) (hp : p < 8) (hd : sD g p = some d) (Q : SQ3 h h' (hp_r h 66 p)) (e66 : hp_r h' 66 = hp_r h 66) (C : CPl h' (hp_r h 66 p) d) : GPl h' g := by
  obtain ⟨d1, d2⟩ := P
  have kx : hp_k h (hp_r h 66 p) = 5 ∧ hp_r h 66 p ≠ 0 := by
    rcases d1 p hp with ⟨e1, _⟩ | ⟨_, _, e2⟩
    · rw [hd] at e1; cases e1
    · exact ⟨e2.1.2, by have := e2.1.1.1; omega⟩
  unfold GPl
  rw [e66]
  refine ⟨fun q hq => ?_, d2⟩
  by_cases e : q = p
  · subst e; exact Or.inr ⟨d, hd, C⟩
  · refine (d1 q hq).imp id (fun ⟨y, y1, y2⟩ => ⟨y, y1, cpl_fr3 Q kx.1 (fun z => ?_) y2⟩)
    have := d2 q p hq hp e z
    rw [z] at this
    exact kx.2 this
theorem gc0_ij {k k' : Nat} {v : Int64} {u : Int32} (X : GC0 h g a b t) (S : SR h x) : GC0 (st_i (st_j h x k v) x k' u) g a b t ∧ CLF h (st_i (st_j h x k v) x k' u) := by
  obtain ⟨s, gh, vv, r, tn, t1, t2⟩ := X
  have S1 := S.1
  have ei : ∀ r, r ≠ x → hp_i (st_i (st_j h x k v) x k' u) r = hp_i h r := fun r hr => sti_r hr
  have ej : ∀ r, r ≠ x → hp_j (st_i (st_j h x k v) x k' u) r = hp_j h r := fun r hr => stj_r hr
  refine ⟨⟨s, gh, ?_, r, tn, t1, ?_⟩, ⟨Nat.le_refl _, fun r h1 h2 => ⟨rfl, rfl, fun h3 => ⟨ei r (by omega), ej r (by omega), rfl⟩⟩⟩⟩
  · unfold GVl GVA at *
    rw [ei 64 (by omega), ei 65 (by omega), ei 67 (by omega), ei 72 (by omega), ei 73 (by omega), ei 74 (by omega), ei 98 (by omega)]
    exact vv
  · exact hb_eq (h := h) (h' := st_i (st_j h x k v) x k' u) rfl rfl rfl rfl (ei 90 (by omega)) (ei 95 (by omega)) (ei _ (fun z => S.2.2.1 z.symm)) (ei _ (fun z => S.2.2.2.1 z.symm)) t2
theorem c_rof (X : GC0 h g a b t) (P : GPl h g) (R : RZ h) (hp : p < 8) (hd : sD g p = some d) (ht : t + 2 < 2 ^ 30) : ∃ x h1, f_X10_racesOf 64 (hp_r h 66 p) h = some (x, h1) ∧ GC0 h1 g a b (t + 1) ∧ GPl h1 g ∧ CLF h h1 ∧ CRa x d := by
  have C := gp_cp P hp hd
  have C0 := C
  obtain ⟨⟨S, k5⟩, -, -, -, ⟨-, PK⟩, q1, q2, q3, q4⟩ := C
  have okp := sr_ok S k5
  by_cases c : hp_i h (hp_r h 66 p) 6 = 0
  · obtain ⟨tn, t1, HBh⟩ := X.2.2.2.2
    obtain ⟨x, h2, x1, H2, F, ej, e6, e98, hx⟩ := r_races (pdk_kw PK) HBh (by omega) (cpl_pb C0)
    obtain ⟨X2, F2, e2⟩ := gc0_fq X R S F H2 (by omega) (fun k _ => by rw [e98])
    have Q1 : SQ2 h h2 (hp_r h 66 p) := sq2_of (sq_fq HBh F S)
    have Fr := F.2.2.2.1
    generalize hpr : hp_r h 66 p = pr at *
    obtain ⟨S2, kk2, -⟩ := Q1.2 pr S
    have ok2 : ok_o h2 pr 5 := ⟨okp.1, S2.2.1, by rw [kk2]; exact k5⟩
    obtain ⟨X5, F5⟩ := gc0_ij (k := 5) (k' := 6) (v := x) (u := 1) X2 S2
    have Q3 : SQ3 h (st_i (st_j h2 pr 5 x) pr 6 1) pr := ⟨Q1.1, fun r hr => by
      obtain ⟨y1, y2, y3, y4, y5⟩ := Q1.2 r hr
      exact ⟨y1, y2, y3, fun z => ⟨(sti_r z).trans y4, (y5 z).1, (stj_r z).trans (y5 z).2⟩⟩⟩
    have rr : hp_r (st_i (st_j h2 pr 5 x) pr 6 1) pr = hp_r h pr := Fr.1
    have jj : ∀ k, k ≠ 5 → hp_j (st_i (st_j h2 pr 5 x) pr 6 1) pr k = hp_j h pr k := fun k hk => by
      show up_2 (hp_j h2) pr 5 x pr k = _
      rw [up2_k hk, ej]
    have CCn : CC (st_i (st_j h2 pr 5 x) pr 6 1) pr d := by
      refine ⟨fun o ho => ?_, fun z => ?_, fun z => ?_, Or.inr ⟨sti_s, ?_⟩⟩
      · rw [rr]; exact (q1 o ho).imp id (cr_fr3 Q3 k5)
      · rw [rr] at z
        rw [jj 2 (by omega), jj 3 (by omega), jj 4 (by omega)]
        exact q2 z
      · rw [rr] at z
        have := q3 z
        unfold CB at *
        rw [jj 2 (by omega), jj 3 (by omega), jj 4 (by omega)]
        exact this
      · rw [show hp_j (st_i (st_j h2 pr 5 x) pr 6 1) pr 5 = x from stj_s]
        exact hx
    have CPn := cpl_self3 Q3 k5 C0 (by rw [rr]) (by rw [rr]) CCn
    refine ⟨x, st_i (st_j h2 pr 5 x) pr 6 1, ?_, X5, ?_, clf_tr F2 F5, hx⟩
    · obtain ⟨o64, -, -, -, -, -, r5, -⟩ := X.2.1.1
      unfold f_X10_racesOf b_X10_racesOf_0
      rw [show g_i h pr 5 6 = some (hp_i h pr 6) from if_pos okp, Option.bind_some, if_pos c]
      unfold b_X10_racesOf_7
      rw [show g_r h 64 10 5 = some 74 from (if_pos o64).trans (by rw [r5]), Option.bind_some, show ok_v h 74 8 = some () from if_pos HBh.1.1, Option.bind_some, x1, Option.bind_some, show p_j h2 pr 5 5 x = some (st_j h2 pr 5 x) from if_pos ok2, Option.bind_some, show p_z (st_j h2 pr 5 x) pr 5 6 (1 : Int32) = some (st_i (st_j h2 pr 5 x) pr 6 1) from if_pos ⟨ok2, Or.inr rfl⟩, Option.bind_some]
      unfold b_X10_racesOf_24
      rw [show g_j (st_i (st_j h2 pr 5 x) pr 6 1) pr 5 5 = some x from (if_pos ok2).trans (congrArg some stj_s), Option.bind_some]
    · subst hpr
      exact gpl_s3 P hp hd Q3 e2 CPn
  · refine ⟨_, h, ?_, gc0_le X (Nat.le_refl _) (Nat.le_refl _) (by omega), P, clf_rf, (q4.resolve_left c).2⟩
    unfold f_X10_racesOf b_X10_racesOf_0
    rw [show g_i h (hp_r h 66 p) 5 6 = some (hp_i h (hp_r h 66 p) 6) from if_pos okp, Option.bind_some, if_neg c]
    unfold b_X10_racesOf_24
    rw [show g_j h (hp_r h 66 p) 5 5 = some (hp_j h (hp_r h 66 p) 5) from if_pos okp, Option.bind_some]
/-- class's and reference's may-race -/
theorem mr_cl {i j : Nat} (R : RPl H p d) (P : PDk d) (hi : i < (pA d).length) (hj : j < (pA d).length) : m_mr (pR d) (pK d) i j = true ↔ clF (fun k => hp_i H 106 (900 * p + k)) i j := by
  obtain ⟨-, he, -, hm⟩ := P.2.1
  obtain ⟨⟨va, vb, -⟩, -, ⟨b64, b8, -⟩, -⟩ := P.1
  have one : ∀ i, i < (pA d).length → pR d 9 i = nI ((pA d).getD i dA).1 ∧ pR d 0 (m_ent (pR d) i) = nI ((pA d).getD i dA).2.1 ∧ pR d 4 (m_ent (pR d) i) = ((pA d).getD i dA).2.2.1 := fun i hi => by
    obtain ⟨q1, q2, q3, q4, q5, q6, q7⟩ := vb.1 i hi
    have k8 := (hm i hi).1
    obtain ⟨x0, x1, x2, x3, x4, x5, x6⟩ := he _ q1
    have me : m_ent (pR d) i = ((pA d).getD i dA).2.2.2.2 := by
      unfold m_ent
      rw [k8, and63 (by omega), ix_nI (by omega)]
    rw [me]
    exact ⟨(hm i hi).2, by rw [x0, q3], by rw [x4, q6]⟩
  obtain ⟨i9, i0, i4⟩ := one i hi
  obtain ⟨j9, j0, j4⟩ := one j hj
  obtain ⟨f0, f1, f2, -⟩ := R.1.2.2.1 i hi
  obtain ⟨g0, g1, g2, -⟩ := R.1.2.2.1 j hj
  have cell : (nI ((pA d).getD i dA).2.1 = 0 ∨ nI ((pA d).getD i dA).2.1 = 1 ∨ nI ((pA d).getD i dA).2.1 = 2) → ∃ c, c < 6 ∧ ((pA d).getD i dA).2.2.1 = nI c := by
    have z := lf_cell P R.1 i hi
    rw [show hp_i H 106 (900 * p + (18 + 4 * i + 1)) = _ from f1, show hp_i H 106 (900 * p + (18 + 4 * i + 2)) = _ from f2] at z
    exact z
  unfold m_mr m_cel clF rdF
  rw [i9, i0, i4, j9, j0, j4]
  rw [Bool.and_eq_true, Bool.and_eq_true, Bool.and_eq_true, Bool.and_eq_true, Bool.and_eq_true, decide_eq_true_iff, decide_eq_true_iff, decide_eq_true_iff, decide_eq_true_iff, decide_eq_true_iff, decide_eq_true_iff]
  rw [f0, f1, f2, g0, g1, g2]
  have n01 : ¬ (0 : Int32) = 1 := by decide
  have n21 : ¬ (2 : Int32) = 1 := by decide
  constructor
  · rintro ⟨⟨⟨⟨⟨h1, h2⟩, h3⟩, h4⟩, h5⟩, h6⟩
    obtain ⟨c, c1, c2⟩ := cell h2
    refine ⟨by rcases h2 with z | z | z
               · exact Or.inl (Or.inl z)
               · exact Or.inr z
               · exact Or.inl (Or.inr z), by rcases h3 with z | z | z
                                             · exact Or.inl (Or.inl z)
                                             · exact Or.inr z
                                             · exact Or.inl (Or.inr z), fun w => ?_, h5, h1, ?_⟩
    · obtain ⟨w1, w2⟩ := w
      rcases h4 with z | z
      · rw [z] at w1
        rcases w1 with y | y
        · exact absurd y (by decide)
        · exact absurd y (by decide)
      · rw [z] at w2
        rcases w2 with y | y
        · exact absurd y (by decide)
        · exact absurd y (by decide)
    · rw [c2, show nI c &&& (7 : Int32) = nI c from an7 c c1, ix_nI (by omega)] at h6
      rw [c2, ix_nI (by omega)]
      show ¬ hp_i H 106 (900 * p + c) = 1
      rw [R.2 c c1]
      exact h6
  · rintro ⟨h1, h2, h3, h4, h5, h6⟩
    have h1' : nI ((pA d).getD i dA).2.1 = 0 ∨ nI ((pA d).getD i dA).2.1 = 1 ∨ nI ((pA d).getD i dA).2.1 = 2 := by
      rcases h1 with (z | z) | z
      · exact Or.inl z
      · exact Or.inr (Or.inr z)
      · exact Or.inr (Or.inl z)
    obtain ⟨c, c1, c2⟩ := cell h1'
    refine ⟨⟨⟨⟨⟨h5, h1'⟩, ?_⟩, ?_⟩, h4⟩, ?_⟩
    · rcases h2 with (z | z) | z
      · exact Or.inl z
      · exact Or.inr (Or.inr z)
      · exact Or.inr (Or.inl z)
    · rcases h1 with z | z
      · rcases h2 with y | y
        · exact absurd ⟨z, y⟩ h3
        · exact Or.inr y
      · exact Or.inl z
    · rw [c2, ix_nI (by omega)] at h6
      have h6 : ¬ hp_i H 106 (900 * p + c) = 1 := h6
      rw [R.2 c c1] at h6
      rw [c2, show nI c &&& (7 : Int32) = nI c from an7 c c1, ix_nI (by omega)]
      exact h6
/-- the reference's races -/
theorem r_rcd {x : Int64} (G : GR H g) (hp : p < 8) (hd : sD g p = some d) (h24 : hp_i H 102 24 = nI p) (t0 : hp_i H 102 0 = 0) (X : CRa x d) : ∃ H3, f_X11_raced 102 H = some (nI (RB x).length, H3) ∧ GR H3 g ∧ RLF H H3 ∧ hp_i H3 102 24 = nI p ∧ hp_i H3 102 0 = 0 ∧ ∀ k, k < (RB x).length → hp_i H3 116 (64 * p + k) = nI ((RB x).getD k 0) := by
  obtain ⟨RP, RK, PK⟩ := r_dd G hp hd
  have b8 := PK.1.2.2.1.2.1
  have na := kp_na (pdk_kw PK)
  have key : ∀ f : Nat → Int32, (∀ k, k < 64 → (¬ f k = 0 ↔ ∃ i j, i < j ∧ j < (pA d).length ∧ k = 8 * i + j ∧ ∃ z, EN d 0 z ∧ raC (fun k => hp_i H 106 (900 * p + k)) z i j)) → RLf f 64 = RB x := fun f hf => by
    refine rl_rb (fun k hk => ?_)
    rw [hf k hk, X k hk]
    constructor
    · rintro ⟨i, j, y1, y2, y3, z, z1, z2, z3, z4, z5, z6⟩
      exact ⟨i, j, by omega, y1, y3, (mr_cl RP PK (by omega) y2).mpr z2, z, z1, z3, z4, z6, z5⟩
    · rintro ⟨i, j, y1, y2, y3, y4, z, z1, z2, z3, z4, z5⟩
      have hj : j < (pA d).length := by
        have := ((en_in PK z1).2.1 j z3).1
        rw [na] at this
        exact this
      exact ⟨i, j, y2, hj, y3, z, z1, (mr_cl RP PK (by omega) hj).mp y4, z2, z3, z5, z4⟩
  have e0 : f_X11_raced 102 H = if hp_i H 115 p = -1 then b_X11_raced_23 102 H else b_X11_raced_13 102 H := by
    unfold f_X11_raced b_X11_raced_0
    rw [rz_r (f := 37) (r := 115) (l := 8) G.1 (by decide), Option.bind_some, rz_g G.1, Option.bind_some, h24, rz_l (f := 37) (r := 115) (l := 8) G.1 (by decide) hp (by omega), Option.bind_some]
  by_cases c : hp_i H 115 p = -1
  · obtain ⟨f, H3, x1, x2, x3, x4, x5⟩ := r_raced (s := p) (pr_0 RP PK) G.1 hp h24 G.2.1.2.2.2.2.2.1 (fun k _ => rfl)
    have K := x2.2.2.2.2.2.2
    have sr : ∀ r, r = 106 ∨ r = 118 ∨ r = 119 → hp_i H3 r = hp_i H r := fun r hr => funext (fun k => K r k (fun z => by
      unfold ARd A116 at z
      omega))
    obtain ⟨y1, y2, y3⟩ := gr_rb G hp hd x2 (fun r k z => by
      unfold ARd A116 at z
      omega) (Or.inr ⟨f, x4, x3, by rw [sr 106 (by omega)]; exact x5⟩) (by rw [sr 118 (by omega), sr 119 (by omega)]; exact RK.2.2)
    have e := key f x5
    rw [e] at x1 x3
    exact ⟨H3, by rw [e0, if_pos c]; exact x1, y1, y2, (y3 24 (by omega) (by omega)).trans h24, (y3 0 (by omega) (by omega)).trans t0, x3⟩
  · obtain ⟨f, f1, f2, f3⟩ := RK.2.1.resolve_left c
    have e := key f f3
    rw [e] at f1 f2
    refine ⟨H, ?_, G, rlf_rf, h24, t0, f2⟩
    rw [e0, if_neg c]
    unfold b_X11_raced_13
    rw [rz_r (f := 37) (r := 115) (l := 8) G.1 (by decide), Option.bind_some, rz_g G.1, Option.bind_some, h24, rz_l (f := 37) (r := 115) (l := 8) G.1 (by decide) hp (by omega), Option.bind_some, f1]
theorem rb_64 {x : Int64} : (RB x).length ≤ 64 := by
  unfold RB pre_
  exact Nat.le_trans (List.length_filter_le _ _) (by rw [List.length_range]; exact Nat.le_refl _)
theorem s_races (G : GC h g m) (R : GR h g) (hm : m ≤ 600) : TSP Int32.toInt64 (f_L_races 64 a1 125) (f_X11_races 102 a1) h m := by
  refine tp_races G R (fun p d hp ha hd C h0 => ?_)
  have GHh := G.2.1
  obtain ⟨x, h1, x1, x2, x3, x4, x5⟩ := c_rof (gc0_of G) G.2.2.2.1 R.1 hp hd (by omega)
  refine ⟨nI (RB x).length, h1, g, ?_, gc0_to x2 x3 (by omega) (by omega) (by omega), x4, fun H2 R2 h24 t0 => ?_⟩
  · unfold f_X10_races b_X10_races_0
    rw [ov64 GHh, Option.bind_some, c_pa GHh hp h0, Option.bind_some, ov64 GHh, Option.bind_some, x1, Option.bind_some, bc_64, Option.bind_some, rb_cn]
  · obtain ⟨H3, y1, y2, y3, y4, y5, y6⟩ := r_rcd R2 hp hd h24 t0 x5
    refine ⟨H3, ?_, y2, y3, y5⟩
    unfold b_X11_races_12 b_X11_races_16
    rw [rz_v R2.1, Option.bind_some, y1, Option.bind_some]
theorem s_race (G : GC h g m) (R : GR h g) (hm : m ≤ 600) : TSP Int32.toInt64 (f_L_race 64 a1 b1 b2 125) (f_X11_race 102 a1 b1 b2) h m := by
  refine tp_race G R (fun p d hp ha hd C h0 => ?_)
  have GHh := G.2.1
  obtain ⟨x, h1, x1, x2, x3, x4, x5⟩ := c_rof (gc0_of G) G.2.2.2.1 R.1 hp hd (by omega)
  have G1 : GC h1 g (m + 1) := gc0_to x2 x3 (by omega) (by omega) (by omega)
  have cC : f_X10_race 64 (nI p) b1 b2 h = if b1 < 0 then b_X10_race_24 h1 else b_X10_race_15 b1 b2 x h1 := by
    unfold f_X10_race b_X10_race_0
    rw [ov64 GHh, Option.bind_some, c_pa GHh hp h0, Option.bind_some, ov64 GHh, Option.bind_some, x1, Option.bind_some]
  have r64 := rb_64 (x := x)
  by_cases ok2 : b2 = 0 ∨ b2 = 1
  · have i2 : ∀ H2, b_X11_race_10 102 b1 b2 H2 = b_X11_race_19 102 b1 b2 H2 := fun H2 => by
      unfold b_X11_race_10
      rcases ok2 with z | z
      · rw [z, isin_e, if_neg (show ¬ (0 : Int32) < 0 by decide), if_neg (show ¬ (1 : Int32) < 0 by decide), Option.bind_some, if_neg n10]
      · rw [z, isin_e, if_neg (show ¬ (1 : Int32) < 0 by decide), if_neg (show ¬ (1 : Int32) < 1 by decide), Option.bind_some, if_neg n10]
    have c19 : ¬ b1 < 0 → f_X10_race 64 (nI p) b1 b2 h = l_X10_race_32 fu_ b2 x b1 (0 : Int32) h1 := fun hb => by
      rw [cC, if_neg hb]
      unfold b_X10_race_15 b_X10_race_19 b_X10_race_26
      rcases ok2 with z | z
      · rw [z, if_neg (by decide), if_pos (by decide)]
      · rw [z, if_neg (by decide), if_pos (by decide)]
    have cl : ∀ k, k < 2 ^ 31 → b1 = nI k → f_X10_race 64 (nI p) b1 b2 h = if k < (RB x).length then b_X10_race_56 b2 (nI ((RB x).getD k 0)) h1 else some (-1, h1) := fun k hk e => by
      rw [c19 (by rw [e]; exact nI_pos hk), e]
      exact c_rl (x := x) (a3 := b2) hk 64 fu_ (Nat.le_refl _) (by unfold fu_; omega) (Nat.zero_le _)
    have rr : ∀ H2, GR H2 g → hp_i H2 102 24 = nI p → hp_i H2 102 0 = 0 → ∃ H3, b_X11_race_10 102 b1 b2 H2 = (f_X11_isIn b1 0 (nI (RB x).length - 1) H3).bind (fun q3 => if q3.1 = 0 then b_X11_race_33 q3.2 else b_X11_race_35 102 b1 b2 q3.2) ∧ GR H3 g ∧ RLF H2 H3 ∧ hp_i H3 102 24 = nI p ∧ hp_i H3 102 0 = 0 ∧ ∀ k, k < (RB x).length → hp_i H3 116 (64 * p + k) = nI ((RB x).getD k 0) := fun H2 R2 h24 t0 => by
      obtain ⟨H3, y1, y2, y3, y4, y5, y6⟩ := r_rcd R2 hp hd h24 t0 x5
      refine ⟨H3, ?_, y2, y3, y4, y5, y6⟩
      rw [i2]
      unfold b_X11_race_19
      rw [rz_v R2.1, Option.bind_some, y1, Option.bind_some]
    rcases rd_cs (a := b1) (M := (RB x).length) (by omega) with ⟨k, k1, rfl, e⟩ | ⟨cb, e⟩
    · obtain ⟨e8, e9⟩ := d_8 _ (rb_lt k1)
      refine ⟨if b2 = 0 then nI ((RB x).getD k 0) >>> ((3 : Int32) &&& 31) else nI ((RB x).getD k 0) &&& (7 : Int32), h1, g, ?_, G1, x4, fun H2 R2 h24 t0 => ?_⟩
      · rw [cl k (by omega) rfl, if_pos k1]
        unfold b_X10_race_56 b_X10_race_60 b_X10_race_67 b_X10_race_72
        by_cases z : b2 = 0
        · rw [if_pos z, if_pos z]
        · rw [if_neg z, if_neg z]
      · obtain ⟨H3, y1, y2, y3, y4, y5, y6⟩ := rr H2 R2 h24 t0
        refine ⟨H3, ?_, y2, y3, y5⟩
        rw [y1, e, Option.bind_some, if_neg n10]
        unfold b_X11_race_35
        rw [rz_r (f := 38) (r := 116) (l := 512) y2.1 (by decide), Option.bind_some, rz_g y2.1, Option.bind_some, y4, mu, nI_add, rz_l (f := 38) (r := 116) (l := 512) y2.1 (by decide) (by omega) (by omega), Option.bind_some, y6 k k1]
        unfold b_X11_race_55 b_X11_race_63 b_X11_race_68
        by_cases z : b2 = 0
        · rw [if_pos z, if_pos z, e8, Option.bind_some]
        · rw [if_neg z, if_neg z, e9, Option.bind_some]
    · refine ⟨-1, h1, g, ?_, G1, x4, fun H2 R2 h24 t0 => ?_⟩
      · by_cases c0 : b1 < 0
        · rw [cC, if_pos c0]; rfl
        · obtain ⟨k, k1, k2, e⟩ := cb.resolve_left c0
          rw [cl k k2 e, if_neg (by omega)]
      · obtain ⟨H3, y1, y2, y3, y4, y5, y6⟩ := rr H2 R2 h24 t0
        refine ⟨H3, ?_, y2, y3, y5⟩
        rw [y1, e, Option.bind_some, if_pos rfl]; rfl
  · refine ⟨-1, h1, g, ?_, G1, x4, fun H2 R2 h24 t0 => ⟨H2, ?_, R2, rlf_rf, t0⟩⟩
    · rw [cC]
      by_cases c0 : b1 < 0
      · rw [if_pos c0]; rfl
      · rw [if_neg c0]
        unfold b_X10_race_15
        by_cases c1 : b2 < 0
        · rw [if_pos c1]; rfl
        · rw [if_neg c1]
          unfold b_X10_race_19
          rw [if_neg (fun z => ?_)]; rfl
          obtain ⟨k, k1, rfl⟩ := (i_cs b2).resolve_left c1
          by_cases k2 : k < 2
          · obtain rfl | rfl : k = 0 ∨ k = 1 := by omega
            · exact ok2 (Or.inl rfl)
            · exact ok2 (Or.inr rfl)
          · exact absurd z (nI_ge (a := 1) (b := k) (by omega) (by omega))
    · unfold b_X11_race_10
      have : (if b2 < 0 then (0 : Int32) else if 1 < b2 then 0 else 1) = 0 := by
        by_cases c1 : b2 < 0
        · rw [if_pos c1]
        · rw [if_neg c1]
          obtain ⟨k, k1, rfl⟩ := (i_cs b2).resolve_left c1
          by_cases k2 : k < 2
          · obtain rfl | rfl : k = 0 ∨ k = 1 := by omega
            · exact absurd (Or.inl rfl) ok2
            · exact absurd (Or.inr rfl) ok2
          · rw [if_pos (show (1 : Int32) < nI k from nI_lt (a := 1) (by omega) (by omega))]
      rw [isin_e, Option.bind_some, this, if_pos rfl]; rfl
end
