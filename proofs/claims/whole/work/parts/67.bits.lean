/-! ===== fields of a long ===== -/
def fd (T : Int64) (k w : Nat) : Nat := T.toBitVec.toNat / 2 ^ k % 2 ^ w
theorem fd_tb {T : Int64} {k w i : Nat} : (fd T k w).testBit i = (decide (i < w) && T.toBitVec.toNat.testBit (k + i)) := by
  unfold fd
  rw [Nat.testBit_mod_two_pow, Nat.testBit_div_two_pow, Nat.add_comm]
theorem fd_lt {T : Int64} {k w : Nat} : fd T k w < 2 ^ w := Nat.mod_lt _ (Nat.two_pow_pos w)
theorem sh_k : ∀ k, k < 64 → (((nI k).toInt64 &&& 63).toBitVec.smod 64).toNat = k := by decide +kernel
theorem us_k : ∀ k, k < 64 → (((nI k).toInt64.toUInt64 &&& Int64.toUInt64 63).toBitVec % 64).toNat = k := by decide +kernel
theorem us_toNat {T : Int64} {k : Nat} (hk : k < 64) : (us_j T (nI k)).toBitVec.toNat = T.toBitVec.toNat / 2 ^ k := by
  have : (us_j T (nI k)).toBitVec = T.toBitVec >>> (((nI k).toInt64.toUInt64 &&& Int64.toUInt64 63).toBitVec % 64) := rfl
  rw [this, BitVec.ushiftRight_eq', BitVec.toNat_ushiftRight, us_k k hk, Nat.shiftRight_eq_div_pow]
theorem us_fd {T : Int64} {k : Nat} {m : Int32} (w : Nat) (hk : k < 64) (hw : w ≤ 32) (hm : m.toBitVec.toNat = 2 ^ w - 1) : ((us_j T (nI k)).toInt32) &&& m = nI (fd T k w) := by
  rw [pk_and _ w hm]
  congr 1
  have : ((us_j T (nI k)).toInt32).toBitVec = (us_j T (nI k)).toBitVec.signExtend 32 := rfl
  rw [this, BitVec.signExtend_eq_setWidth_of_le _ (by decide), BitVec.toNat_setWidth, us_toNat hk]
  unfold fd
  rw [Nat.mod_mod_of_dvd _ (Nat.pow_dvd_pow 2 hw)]
theorem or_tb {T v : Int64} {k i : Nat} (hk : k < 64) : (m_or T v (nI k)).toBitVec.toNat.testBit i = (T.toBitVec.toNat.testBit i || (decide (i < 64) && decide (k ≤ i) && v.toBitVec.toNat.testBit (i - k))) := by
  have : (m_or T v (nI k)).toBitVec = T.toBitVec ||| (v.toBitVec <<< (((nI k).toInt64 &&& 63).toBitVec.smod 64)) := rfl
  rw [this, BitVec.toNat_or, Nat.testBit_or, BitVec.shiftLeft_eq', BitVec.toNat_shiftLeft, sh_k k hk, Nat.testBit_mod_two_pow, Nat.testBit_shiftLeft, Bool.and_assoc]
theorem cl_tb {T m : Int64} {k i : Nat} (hk : k < 64) : (m_cl T m (nI k)).toBitVec.toNat.testBit i = (T.toBitVec.toNat.testBit i && !(decide (k ≤ i) && m.toBitVec.toNat.testBit (i - k))) := by
  have : (m_cl T m (nI k)).toBitVec = T.toBitVec &&& ((m.toBitVec <<< (((nI k).toInt64 &&& 63).toBitVec.smod 64)) ^^^ (-1 : Int64).toBitVec) := rfl
  rw [this, BitVec.toNat_and, Nat.testBit_and, BitVec.toNat_xor, Nat.testBit_xor, BitVec.shiftLeft_eq', BitVec.toNat_shiftLeft, sh_k k hk, Nat.testBit_mod_two_pow, Nat.testBit_shiftLeft]
  by_cases hi : i < 64
  · have e : (-1 : Int64).toBitVec.toNat.testBit i = true := by
      rw [show (-1 : Int64).toBitVec.toNat = 2 ^ 64 - 1 from by decide, Nat.testBit_two_pow_sub_one]
      exact decide_eq_true hi
    rw [e, Bool.xor_true, decide_eq_true hi, Bool.true_and]
  · have : T.toBitVec.toNat.testBit i = false := Nat.testBit_lt_two_pow (Nat.lt_of_lt_of_le T.toBitVec.isLt (Nat.pow_le_pow_right (by decide) (by omega)))
    rw [this, Bool.false_and, Bool.false_and]
theorem nt_tb0 {n w i : Nat} (h : n < 2 ^ w) (hi : w ≤ i) : n.testBit i = false := Nat.testBit_lt_two_pow (Nat.lt_of_lt_of_le h (Nat.pow_le_pow_right (by decide) hi))
/-- apart from the written field nothing changes -/
theorem fd_or_ne {T v : Int64} {k w k' w' : Nat} (hv : v.toBitVec.toNat < 2 ^ w) (hk : k < 64) (h : k + w ≤ k' ∨ k' + w' ≤ k) : fd (m_or T v (nI k)) k' w' = fd T k' w' := by
  apply Nat.eq_of_testBit_eq
  intro i
  rw [fd_tb, fd_tb, or_tb hk]
  by_cases hi : i < w'
  · have : (decide (k' + i < 64) && decide (k ≤ k' + i) && v.toBitVec.toNat.testBit (k' + i - k)) = false := by
      obtain h | h := h
      · rw [nt_tb0 hv (by omega), Bool.and_false]
      · rw [decide_eq_false (show ¬ k ≤ k' + i by omega), Bool.and_false, Bool.false_and]
    rw [this, Bool.or_false]
  · rw [decide_eq_false hi, Bool.false_and, Bool.false_and]
theorem fd_cl_ne {T v : Int64} {k w k' w' : Nat} (hv : v.toBitVec.toNat < 2 ^ w) (hk : k < 64) (h : k + w ≤ k' ∨ k' + w' ≤ k) : fd (m_cl T v (nI k)) k' w' = fd T k' w' := by
  apply Nat.eq_of_testBit_eq
  intro i
  rw [fd_tb, fd_tb, cl_tb hk]
  by_cases hi : i < w'
  · have : (decide (k ≤ k' + i) && v.toBitVec.toNat.testBit (k' + i - k)) = false := by
      obtain h | h := h
      · rw [nt_tb0 hv (by omega), Bool.and_false]
      · rw [decide_eq_false (show ¬ k ≤ k' + i by omega), Bool.false_and]
    rw [this, Bool.not_false, Bool.and_true]
  · rw [decide_eq_false hi, Bool.false_and, Bool.false_and]
theorem fd_or {T v : Int64} {k w : Nat} (hk : k + w ≤ 64) (hw : 0 < w) (h0 : fd T k w = 0) (hv : v.toBitVec.toNat < 2 ^ w) : fd (m_or T v (nI k)) k w = v.toBitVec.toNat := by
  apply Nat.eq_of_testBit_eq
  intro i
  rw [fd_tb, or_tb (by omega)]
  by_cases hi : i < w
  · have e : T.toBitVec.toNat.testBit (k + i) = false := by
      have := fd_tb (T := T) (k := k) (w := w) (i := i)
      rw [h0, Nat.zero_testBit, decide_eq_true hi, Bool.true_and] at this
      exact this.symm
    rw [e, decide_eq_true hi, decide_eq_true (show k + i < 64 by omega), decide_eq_true (show k ≤ k + i by omega), Bool.true_and, Bool.true_and, Bool.false_or, Bool.true_and, Nat.add_sub_cancel_left]
  · rw [decide_eq_false hi, Bool.false_and, nt_tb0 hv (by omega)]
theorem fd_or2 {T v : Int64} {k w : Nat} (hk : k + w ≤ 64) (hw : 0 < w) (hv : v.toBitVec.toNat < 2 ^ w) : fd (m_or T v (nI k)) k w = fd T k w ||| v.toBitVec.toNat := by
  apply Nat.eq_of_testBit_eq
  intro i
  rw [fd_tb, or_tb (by omega), Nat.testBit_or, fd_tb]
  by_cases hi : i < w
  · rw [decide_eq_true hi, decide_eq_true (show k + i < 64 by omega), decide_eq_true (show k ≤ k + i by omega), Bool.true_and, Bool.true_and, Bool.true_and, Bool.true_and, Nat.add_sub_cancel_left]
  · rw [decide_eq_false hi, Bool.false_and, nt_tb0 hv (by omega)]; rfl
theorem fd_cl {T m : Int64} {k w : Nat} (hk : k + w ≤ 64) (hw : 0 < w) (hm : m.toBitVec.toNat = 2 ^ w - 1) : fd (m_cl T m (nI k)) k w = 0 := by
  apply Nat.eq_of_testBit_eq
  intro i
  rw [fd_tb, cl_tb (by omega), Nat.zero_testBit, hm, Nat.testBit_two_pow_sub_one]
  by_cases hi : i < w
  · rw [decide_eq_true hi, decide_eq_true (show k ≤ k + i by omega), Nat.add_sub_cancel_left, decide_eq_true hi]
    simp
  · rw [decide_eq_false hi, Bool.false_and]
theorem lg_nI {n : Nat} (h : n < 2 ^ 31) : (nI n).toInt64.toBitVec.toNat = n := by
  rw [nI_l h]
  show (BitVec.ofNat 64 n).toNat = n
  rw [BitVec.toNat_ofNat]
  omega
theorem lt_pw {w : Nat} {m : Int64} (h : m.toBitVec.toNat = 2 ^ w - 1) : m.toBitVec.toNat < 2 ^ w := by
  have := Nat.two_pow_pos w
  omega
/-- a field is written anew -/
theorem fd_set {T v m : Int64} {k w : Nat} (hk : k + w ≤ 64) (hw : 0 < w) (hm : m.toBitVec.toNat = 2 ^ w - 1) (hv : v.toBitVec.toNat < 2 ^ w) : fd (m_or (m_cl T m (nI k)) v (nI k)) k w = v.toBitVec.toNat := fd_or hk hw (fd_cl hk hw hm) hv
theorem fd_set_ne {T v m : Int64} {k w k' w' : Nat} (hk : k < 64) (hm : m.toBitVec.toNat = 2 ^ w - 1) (hv : v.toBitVec.toNat < 2 ^ w) (h : k + w ≤ k' ∨ k' + w' ≤ k) : fd (m_or (m_cl T m (nI k)) v (nI k)) k' w' = fd T k' w' := by
  rw [fd_or_ne hv hk h, fd_cl_ne (lt_pw hm) hk h]
/-! ===== masks of an int ===== -/
theorem nI_tn {n : Nat} (h : n < 2 ^ 32) : (nI n).toBitVec.toNat = n := pk_tn h
theorem i32_ext {x y : Int32} (h : x.toBitVec.toNat = y.toBitVec.toNat) : x = y := by
  apply Int32.toBitVec_inj.mp
  exact BitVec.eq_of_toNat_eq h
theorem nI_and {a b : Nat} (ha : a < 2 ^ 31) (hb : b < 2 ^ 31) : nI a &&& nI b = nI (a &&& b) := by
  apply i32_ext
  have h1 : a &&& b < 2 ^ 31 := Nat.lt_of_le_of_lt Nat.and_le_left ha
  rw [nI_tn (by omega)]
  show ((nI a).toBitVec &&& (nI b).toBitVec).toNat = _
  rw [BitVec.toNat_and, nI_tn (by omega), nI_tn (by omega)]
theorem nI_or {a b : Nat} (ha : a < 2 ^ 31) (hb : b < 2 ^ 31) : nI a ||| nI b = nI (a ||| b) := by
  apply i32_ext
  have h1 : a ||| b < 2 ^ 31 := Nat.or_lt_two_pow ha hb
  rw [nI_tn (by omega)]
  show ((nI a).toBitVec ||| (nI b).toBitVec).toNat = _
  rw [BitVec.toNat_or, nI_tn (by omega), nI_tn (by omega)]
theorem sh_32 : ∀ k, k < 31 → ((nI k &&& 31).toBitVec.smod 32).toNat = k := by decide +kernel
theorem nI_bit {a i : Nat} (ha : a < 2 ^ 31) (hi : i < 31) : (nI a >>> (nI i &&& 31)) &&& (1 : Int32) = nI (a / 2 ^ i % 2) := by
  rw [pk_shrN ha _ i (sh_32 i hi), pk_andN (Nat.lt_of_le_of_lt (Nat.div_le_self _ _) (by omega)) 1 (by decide)]
theorem nI_bit0 {a i : Nat} (ha : a < 2 ^ 31) (hi : i < 31) : ((nI a >>> (nI i &&& 31)) &&& (1 : Int32) = 0) ↔ a.testBit i = false := by
  rw [nI_bit ha hi, Nat.testBit_eq_decide_div_mod_eq]
  rw [show (0 : Int32) = nI 0 from rfl, nI_eq (by omega) (by omega)]
  simp
theorem nI_one {i : Nat} (hi : i < 31) : (1 : Int32) <<< (nI i &&& 31) = nI (2 ^ i) := by
  have : 2 ^ i < 2 ^ 31 := Nat.pow_lt_pow_right (by decide) hi
  rw [show (1 : Int32) = nI 1 from rfl, pk_shlN _ i (sh_32 i hi) (by omega), Nat.one_mul]
theorem nt_one {i j : Nat} : (2 ^ i).testBit j = decide (i = j) := Nat.testBit_two_pow
