theorem wb_tb (n : Nat) : (lN n).toBitVec = BitVec.ofNat 64 n := rfl
theorem wb_inj {a b : Int64} (h : a.toBitVec = b.toBitVec) : a = b := Int64.toBitVec_inj.mp h
theorem wb_tn {n : Nat} (h : n < 2 ^ 64) : (lN n).toBitVec.toNat = n := by rw [wb_tb, BitVec.toNat_ofNat, Nat.mod_eq_of_lt h]
theorem wb_of (x : Int64) : ∃ n, n < 2 ^ 64 ∧ x = lN n := ⟨x.toBitVec.toNat, x.toBitVec.isLt, wb_inj (by rw [wb_tb]; simp)⟩
theorem wb_of32 (x : Int32) : ∃ n, n < 2 ^ 32 ∧ x = nI n := ⟨x.toBitVec.toNat, x.toBitVec.isLt, Int32.toBitVec_inj.mp (by show _ = BitVec.ofNat 32 _; simp)⟩
theorem wb_c : ∀ k, k < 64 → ((nI k).toInt64 &&& 63) = lN k := by decide +kernel
theorem wb_cu : ∀ k, k < 64 → ((nI k).toInt64.toUInt64 &&& Int64.toUInt64 63) = UInt64.ofNat k := by decide +kernel
theorem wb_sm : ∀ k, k < 64 → (BitVec.ofNat 64 k).smod 64 = BitVec.ofNat 64 k := by decide +kernel
theorem wb_pw {a b : Nat} (h : a ≤ b) : 2 ^ b = 2 ^ a * 2 ^ (b - a) := by rw [← Nat.pow_add]; congr 1; omega
theorem wb_lt2 {a b : Nat} (h : a < b) : 2 ^ a < 2 ^ b := Nat.pow_lt_pow_right (by decide) h
theorem wb_mod (n : Nat) : lN n = lN (n % 2 ^ 64) := wb_inj (by rw [wb_tb, wb_tb]; apply BitVec.eq_of_toNat_eq; rw [BitVec.toNat_ofNat, BitVec.toNat_ofNat, Nat.mod_mod])
theorem wb_shr {n k : Nat} (hn : n < 2 ^ 64) (hk : k < 64) : ((lN n).toUInt64 >>> ((nI k).toInt64.toUInt64 &&& Int64.toUInt64 63)).toInt64 = lN (n / 2 ^ k) := by
  rw [wb_cu k hk]
  apply wb_inj
  apply BitVec.eq_of_toNat_eq
  show ((lN n).toUInt64 >>> UInt64.ofNat k).toNat = (BitVec.ofNat 64 _).toNat
  have h1 : (UInt64.ofNat k).toNat = k := by
    show (BitVec.ofNat 64 k).toNat = k
    rw [BitVec.toNat_ofNat, Nat.mod_eq_of_lt (by omega)]
  have h2 : (lN n).toUInt64.toNat = n := wb_tn hn
  rw [UInt64.toNat_shiftRight, h1, h2, Nat.mod_eq_of_lt hk, Nat.shiftRight_eq_div_pow, BitVec.toNat_ofNat, Nat.mod_eq_of_lt (Nat.lt_of_le_of_lt (Nat.div_le_self _ _) hn)]
theorem wb_shl (n : Nat) {k : Nat} (hk : k < 64) : lN n <<< ((nI k).toInt64 &&& 63) = lN (n * 2 ^ k) := by
  rw [wb_c k hk]
  apply wb_inj
  rw [Int64.toBitVec_shiftLeft, wb_tb, wb_tb, wb_tb, wb_sm k hk]
  apply BitVec.eq_of_toNat_eq
  rw [BitVec.shiftLeft_eq', BitVec.toNat_shiftLeft, BitVec.toNat_ofNat, BitVec.toNat_ofNat, BitVec.toNat_ofNat, Nat.mod_eq_of_lt (show k < 2 ^ 64 by omega), Nat.shiftLeft_eq, Nat.mul_mod, Nat.mod_mod, ← Nat.mul_mod]
theorem wb_and {a b : Nat} (ha : a < 2 ^ 64) (hb : b < 2 ^ 64) : lN a &&& lN b = lN (a &&& b) := by
  apply wb_inj
  rw [Int64.toBitVec_and, wb_tb, wb_tb, wb_tb]
  apply BitVec.eq_of_toNat_eq
  rw [BitVec.toNat_and, BitVec.toNat_ofNat, BitVec.toNat_ofNat, BitVec.toNat_ofNat, Nat.mod_eq_of_lt ha, Nat.mod_eq_of_lt hb, Nat.mod_eq_of_lt (Nat.and_lt_two_pow _ hb)]
theorem wb_or {a b : Nat} (ha : a < 2 ^ 64) (hb : b < 2 ^ 64) : lN a ||| lN b = lN (a ||| b) := by
  apply wb_inj
  rw [Int64.toBitVec_or, wb_tb, wb_tb, wb_tb]
  apply BitVec.eq_of_toNat_eq
  rw [BitVec.toNat_or, BitVec.toNat_ofNat, BitVec.toNat_ofNat, BitVec.toNat_ofNat, Nat.mod_eq_of_lt ha, Nat.mod_eq_of_lt hb, Nat.mod_eq_of_lt (Nat.or_lt_two_pow ha hb)]
theorem wb_mask {n k : Nat} (hn : n < 2 ^ 64) (hk : k < 64) : lN n &&& lN (2 ^ k - 1) = lN (n % 2 ^ k) := by
  rw [wb_and hn (by have := wb_lt2 hk; omega), Nat.and_two_pow_sub_one_eq_mod]
theorem wb_a1 {n : Nat} (hn : n < 2 ^ 64) : lN n &&& 1 = lN (n % 2) := wb_mask (k := 1) hn (by decide)
theorem wb_bit {n k : Nat} (hn : n < 2 ^ 64) (hk : k < 64) : ((lN n).toUInt64 >>> ((nI k).toInt64.toUInt64 &&& Int64.toUInt64 63)).toInt64 &&& 1 = lN (n / 2 ^ k % 2) := by
  rw [wb_shr hn hk, wb_a1 (Nat.lt_of_le_of_lt (Nat.div_le_self _ _) hn)]
/-! Bytes and nibbles of a long, on both sides. -/
def by8 (x : Int64) (k : Nat) : Nat := x.toBitVec.toNat / 2 ^ (8 * k) % 256
def nb4 (x : Int64) (k : Nat) : Nat := x.toBitVec.toNat / 2 ^ (4 * k) % 16
theorem by8_lt (x : Int64) (k : Nat) : by8 x k < 256 := Nat.mod_lt _ (by decide)
theorem nb4_lt (x : Int64) (k : Nat) : nb4 x k < 16 := Nat.mod_lt _ (by decide)
theorem tn32 (n : Nat) : (nI n).toBitVec.toNat = n % 2 ^ 32 := by
  show (BitVec.ofNat 32 n).toNat = _
  rw [BitVec.toNat_ofNat]
theorem x_byte (x : Int64) {k : Nat} (hk : k < 8) : (Int64.toInt32 ((Int64.toUInt64 x >>> ((Int32.toInt64 (8 * nI k)).toUInt64 &&& Int64.toUInt64 63)).toInt64)) &&& 255 = nI (by8 x k) := by
  obtain ⟨n, hn, rfl⟩ := wb_of x
  rw [show (8 : Int32) = nI 8 from rfl, n_mul, wb_shr hn (by omega), lN_i, pk_and _ 8 (by decide), tn32]
  unfold by8
  rw [wb_tn hn]
  congr 1
  omega
theorem x_nib (x : Int64) {k : Nat} (hk : k < 16) : (Int64.toInt32 ((Int64.toUInt64 x >>> ((Int32.toInt64 (4 * nI k)).toUInt64 &&& Int64.toUInt64 63)).toInt64)) &&& 15 = nI (nb4 x k) := by
  obtain ⟨n, hn, rfl⟩ := wb_of x
  rw [show (4 : Int32) = nI 4 from rfl, n_mul, wb_shr hn (by omega), lN_i, pk_and _ 4 (by decide), tn32]
  unfold nb4
  rw [wb_tn hn]
  congr 1
  omega
theorem sh_mod (v : BitVec 64) (j m : Nat) (h : j + m ≤ 64) : (v.sshiftRight j).toNat % 2 ^ m = v.toNat / 2 ^ j % 2 ^ m := by
  apply Nat.eq_of_testBit_eq
  intro i
  rw [Nat.testBit_mod_two_pow, Nat.testBit_mod_two_pow, Nat.testBit_div_two_pow]
  by_cases hi : i < m
  · have e1 : (v.sshiftRight j).toNat.testBit i = (v.sshiftRight j).getLsbD i := rfl
    have e2 : v.toNat.testBit (i + j) = v.getLsbD (j + i) := by rw [Nat.add_comm]; rfl
    rw [e1, e2, BitVec.getLsbD_sshiftRight]
    have h1 : ¬ 64 ≤ i := by omega
    have h2 : j + i < 64 := by omega
    simp [hi, h1, h2]
  · simp [hi]
theorem y_and (x : Int64) {j m : Nat} (hj : j < 64) (h : j + m ≤ 64) (hm : m < 64) : (x >>> (Int32.toInt64 (nI j) &&& 63)) &&& lN (2 ^ m - 1) = lN (x.toBitVec.toNat / 2 ^ j % 2 ^ m) := by
  rw [wb_c j hj]
  apply wb_inj
  rw [Int64.toBitVec_and, Int64.toBitVec_shiftRight, wb_tb, wb_tb, wb_tb, wb_sm j hj]
  apply BitVec.eq_of_toNat_eq
  have hp := wb_lt2 hm
  rw [BitVec.toNat_and, BitVec.toNat_ofNat, BitVec.toNat_ofNat, Nat.mod_eq_of_lt (show 2 ^ m - 1 < 2 ^ 64 by omega), Nat.and_two_pow_sub_one_eq_mod]
  have e : (x.toBitVec.sshiftRight' (BitVec.ofNat 64 j)) = x.toBitVec.sshiftRight j := by
    unfold BitVec.sshiftRight'
    rw [BitVec.toNat_ofNat, Nat.mod_eq_of_lt (by omega)]
  rw [e, sh_mod _ _ _ h]
  have hq : x.toBitVec.toNat / 2 ^ j % 2 ^ m < 2 ^ m := Nat.mod_lt _ (Nat.two_pow_pos m)
  rw [Nat.mod_eq_of_lt (Nat.lt_trans hq hp)]
theorem y_byte (x : Int64) {k : Nat} (hk : k < 8) : Int64.toInt32 ((x >>> (Int32.toInt64 (8 * nI k) &&& 63)) &&& 255) = nI (by8 x k) := by
  rw [show (8 : Int32) = nI 8 from rfl, n_mul, show (255 : Int64) = lN (2 ^ 8 - 1) from rfl, y_and x (by omega) (by omega) (by decide), lN_i]
  rfl
theorem y_nib (x : Int64) {k : Nat} (hk : k < 16) : Int64.toInt32 ((x >>> (Int32.toInt64 (4 * nI k) &&& 63)) &&& 15) = nI (nb4 x k) := by
  rw [show (4 : Int32) = nI 4 from rfl, n_mul, show (15 : Int64) = lN (2 ^ 4 - 1) from rfl, y_and x (by omega) (by omega) (by decide), lN_i]
  rfl
theorem n_and7 {a : Nat} (h : a < 2147483648) : nI a &&& 7 = nI (a % 8) := pk_andN (by omega) 3 (by decide)
/-- the high sixteen bits -/
theorem hi_x (x : Int64) : (lg_cmp ((Int64.toUInt64 x >>> ((Int32.toInt64 48).toUInt64 &&& Int64.toUInt64 63)).toInt64) 0 = 0) = (x.toBitVec.toNat / 2 ^ 48 = 0) := by
  obtain ⟨n, hn, rfl⟩ := wb_of x
  rw [show (48 : Int32) = nI 48 from rfl, wb_shr hn (by decide), wb_tn hn]
  have hlt : n / 2 ^ 48 < 2 ^ 16 := by omega
  have h0 : (lN (n / 2 ^ 48)).toInt = ((n / 2 ^ 48 : Nat) : Int) := pk_lT (by omega)
  refine propext ⟨fun h => ?_, fun h => ?_⟩
  · by_cases hz : n / 2 ^ 48 = 0
    · exact hz
    · exfalso
      have h1 : (0 : Int64) < lN (n / 2 ^ 48) := by
        rw [Int64.lt_iff_toInt_lt, h0]
        simp
        omega
      have h2 : lg_cmp (lN (n / 2 ^ 48)) 0 = 1 := by simp [lg_cmp, h1]
      rw [h2] at h
      exact absurd h (by decide)
  · rw [h]; decide
theorem hi_y (x : Int64) : (lg_cmp (x >>> (Int32.toInt64 48 &&& 63)) 0 = 0) = (x.toBitVec.toNat / 2 ^ 48 = 0) := by
  have hz : ∀ y : Int64, (lg_cmp y 0 = 0) = (y = 0) := by
    intro y
    refine propext ⟨fun h => ?_, fun h => by rw [h]; decide⟩
    by_cases h1 : (0 : Int64) < y
    · have h2 : lg_cmp y 0 = 1 := by simp [lg_cmp, h1]
      rw [h2] at h; exact absurd h (by decide)
    · by_cases h3 : y < 0
      · have h4 : ¬ y = 0 := fun q => by rw [q] at h3; exact absurd h3 (by decide)
        have h2 : lg_cmp y 0 = -1 := by simp [lg_cmp, h1, h4]
        rw [h2] at h; exact absurd h (by decide)
      · apply Int64.toInt_inj.mp
        rw [Int64.lt_iff_toInt_lt] at h1 h3
        omega
  rw [hz, show (48 : Int32) = nI 48 from rfl, wb_c 48 (by decide)]
  have e : (x >>> lN 48).toBitVec = x.toBitVec.sshiftRight 48 := by
    rw [Int64.toBitVec_shiftRight, wb_tb, wb_sm 48 (by decide)]
    rfl
  refine propext ⟨fun h => ?_, fun h => ?_⟩
  · have h1 : (x.toBitVec.sshiftRight 48).toNat % 2 ^ 16 = x.toBitVec.toNat / 2 ^ 48 % 2 ^ 16 := sh_mod _ 48 16 (by decide)
    rw [← e, h] at h1
    have h2 := x.toBitVec.isLt
    have h3 : (0 : Int64).toBitVec.toNat = 0 := by decide
    rw [h3] at h1
    omega
  · apply wb_inj
    rw [e]
    apply BitVec.eq_of_toNat_eq
    have hmsb : x.toBitVec.msb = false := by
      rw [BitVec.msb_eq_decide]
      have h2 := x.toBitVec.isLt
      simp
      omega
    rw [BitVec.sshiftRight_eq_of_msb_false hmsb, BitVec.toNat_ushiftRight, Nat.shiftRight_eq_div_pow, h]
    decide
