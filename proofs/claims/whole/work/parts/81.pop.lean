/-! Bits: followers of a player in a region's number, and counting bits. -/
theorem n_and (a b : Nat) : nI a &&& nI b = nI (a &&& b) := by
  apply Int32.toBitVec_inj.mp
  rw [Int32.toBitVec_and]
  show BitVec.ofNat 32 a &&& BitVec.ofNat 32 b = BitVec.ofNat 32 (a &&& b)
  apply BitVec.eq_of_toNat_eq
  rw [BitVec.toNat_and, BitVec.toNat_ofNat, BitVec.toNat_ofNat, BitVec.toNat_ofNat]
  exact (Nat.and_mod_two_pow).symm
theorem n_shr {v k : Nat} (hv : v < 4294967296) (hk : k < 32) : ((Int32.toUInt32 (nI v) >>> (Int32.toUInt32 (nI k) &&& Int32.toUInt32 31)).toInt32) = nI (v / 2 ^ k) := by
  have hkk : ∀ k, k < 32 → (Int32.toUInt32 (nI k) &&& Int32.toUInt32 31) = UInt32.ofNat k := by decide
  rw [hkk k hk]
  apply Int32.toBitVec_inj.mp
  show (UInt32.ofBitVec (BitVec.ofNat 32 v) >>> UInt32.ofNat k).toBitVec = BitVec.ofNat 32 (v / 2 ^ k)
  apply BitVec.eq_of_toNat_eq
  show (UInt32.ofBitVec (BitVec.ofNat 32 v) >>> UInt32.ofNat k).toNat = _
  rw [UInt32.toNat_shiftRight]
  have e1 : (UInt32.ofBitVec (BitVec.ofNat 32 v)).toNat = v := by
    show (BitVec.ofNat 32 v).toNat = v
    rw [BitVec.toNat_ofNat]
    exact Nat.mod_eq_of_lt hv
  have e2 : (UInt32.ofNat k).toNat = k := by
    show (BitVec.ofNat 32 k).toNat = k
    rw [BitVec.toNat_ofNat]
    exact Nat.mod_eq_of_lt (by omega)
  have h3 : v / 2 ^ k ≤ v := Nat.div_le_self _ _
  rw [e1, e2, BitVec.toNat_ofNat, Nat.shiftRight_eq_div_pow, Nat.mod_eq_of_lt hk]
  exact (Nat.mod_eq_of_lt (Nat.lt_of_le_of_lt h3 hv)).symm
theorem men3 : ∀ a, a < 16 → ∀ b, b < 16 → ∀ c, c < 16 → (a + 16 * b + 256 * c) / 2 ^ 0 &&& 15 = a ∧ (a + 16 * b + 256 * c) / 2 ^ 4 &&& 15 = b ∧ (a + 16 * b + 256 * c) / 2 ^ 8 &&& 15 = c := by
  intro a ha b hb c hc
  have e : ∀ x : Nat, x &&& 15 = x % 16 := fun x => Nat.and_two_pow_sub_one_eq_mod x 4
  rw [e, e, e]
  refine ⟨?_, ?_, ?_⟩ <;> omega
theorem x_menOf {M : Me} {a b c p : Nat} (ha : a < 16) (hb : b < 16) (hc : c < 16) (hp : p < 3) : qf_X6_menOf (nI (a + 16 * b + 256 * c)) (nI p) M = some (nI (if p = 0 then a else if p = 1 then b else c), M) := by
  obtain ⟨h1, h2, h3⟩ := men3 a ha b hb c hc
  unfold qf_X6_menOf
  rw [kn_4, n_mul, n_shr (by omega) (by omega), kn_15, n_and]
  have hpp : p = 0 ∨ p = 1 ∨ p = 2 := by omega
  rcases hpp with rfl | rfl | rfl
  · rw [if_pos rfl, show 4 * 0 = 0 from rfl, h1]
  · rw [if_neg (by decide), if_pos rfl, show 4 * 1 = 4 from rfl, h2]
  · rw [if_neg (by decide), if_neg (by decide), show 4 * 2 = 8 from rfl, h3]
theorem x_mostMen {M : Me} {a b c : Nat} (ha : a < 16) (hb : b < 16) (hc : c < 16) : qf_X6_mostMen (nI (a + 16 * b + 256 * c)) M = some (nI (max a (max b c)), M) := by
  unfold qf_X6_mostMen
  have m0 := x_menOf (M := M) (p := 0) ha hb hc (by decide)
  have m1 := x_menOf (M := M) (p := 1) ha hb hc (by decide)
  have m2 := x_menOf (M := M) (p := 2) ha hb hc (by decide)
  rw [show (0 : Int32) = nI 0 from rfl, m0, n_cl, show (1 : Int32) = nI 1 from rfl, m1, n_cl, show (2 : Int32) = nI 2 from rfl, m2, n_cl]
  have e1 : (if (nI b : Int32) < nI c then nI c else nI b) = nI (max b c) := by
    rw [i_lt (by omega) (by omega)]
    by_cases h : b < c
    · rw [if_pos h]; congr 1; omega
    · rw [if_neg h]; congr 1; omega
  have e2 : (if (nI a : Int32) < nI (max b c) then nI (max b c) else nI a) = nI (max a (max b c)) := by
    rw [i_lt (by omega) (by omega)]
    by_cases h : a < max b c
    · rw [if_pos h]; congr 1; omega
    · rw [if_neg h]; congr 1; omega
  show some ((if (nI a : Int32) < (if (nI b : Int32) < nI c then nI c else nI b) then (if (nI b : Int32) < nI c then nI c else nI b) else nI a), M) = _
  rw [e1, e2]
/-! counting bits, byte by byte -/
theorem land_split {x y m n : Nat} (hx : x < 256) (hm : m < 256) : (x + 256 * y) &&& (m + 256 * n) = (x &&& m) + 256 * (y &&& n) := by
  have h1 : ((x + 256 * y) &&& (m + 256 * n)) % 2 ^ 8 = x &&& m := by
    rw [Nat.and_mod_two_pow]
    congr 1 <;> omega
  have h2 : ((x + 256 * y) &&& (m + 256 * n)) / 2 ^ 8 = y &&& n := by
    rw [Nat.and_div_two_pow]
    congr 1 <;> omega
  have h3 := Nat.div_add_mod ((x + 256 * y) &&& (m + 256 * n)) (2 ^ 8)
  rw [h1, h2] at h3
  omega
def p1 (a : Nat) : Nat := a - (a / 2 &&& 85)
def p2 (a : Nat) : Nat := (p1 a &&& 51) + (p1 a / 4 &&& 51)
def p3 (a : Nat) : Nat := (p2 a + p2 a / 16) % 16
theorem p1_ok : ∀ a, a < 256 → (a / 2 &&& 85) ≤ a ∧ p1 a < 256 ∧ p2 a % 16 ≤ 4 ∧ p2 a / 16 ≤ 4 ∧ p3 a ≤ 8 ∧ p3 a = a % 2 + a / 2 % 2 + a / 4 % 2 + a / 8 % 2 + a / 16 % 2 + a / 32 % 2 + a / 64 % 2 + a / 128 % 2 := by decide +kernel
theorem and85 : ∀ a, a < 128 → ∀ k, k < 2 → (a + 128 * k) &&& 85 = a &&& 85 := by decide +kernel
theorem and51 : ∀ a, a < 64 → ∀ k, k < 4 → (a + 64 * k) &&& 51 = a &&& 51 := by decide +kernel
theorem land3 {x y z m : Nat} (hx : x < 256) (hy : y < 256) (hz : z < 256) (hm : m < 256) : (x + 256 * (y + 256 * z)) &&& (m + 256 * (m + 256 * (m + 256 * m))) = (x &&& m) + 256 * ((y &&& m) + 256 * (z &&& m)) := by
  have hz2 : z &&& (m + 256 * m) = z &&& m := by
    have := land_split (y := 0) (n := m) hz hm
    rw [Nat.mul_zero, Nat.add_zero, Nat.zero_and, Nat.mul_zero, Nat.add_zero] at this
    exact this
  rw [land_split hx hm, land_split hy hm, hz2]
theorem pop24 {a b c : Nat} (ha : a < 256) (hb : b < 256) (hc : c < 256) (M : Me) : qf_J6_bitCount_X (nI (a + 256 * (b + 256 * c))) M = some (nI (p3 a + p3 b + p3 c), M) := by
  obtain ⟨a1, a2, a3, a4, a5, -⟩ := p1_ok a ha
  obtain ⟨b1, b2, b3, b4, b5, -⟩ := p1_ok b hb
  obtain ⟨c1, c2, c3, c4, c5, -⟩ := p1_ok c hc
  have s1 : (a + 256 * (b + 256 * c)) / 2 ^ 1 &&& 1431655765 = (a / 2 &&& 85) + 256 * ((b / 2 &&& 85) + 256 * (c / 2 &&& 85)) := by
    have e : (a + 256 * (b + 256 * c)) / 2 ^ 1 = (a / 2 + 128 * (b % 2)) + 256 * ((b / 2 + 128 * (c % 2)) + 256 * (c / 2)) := by omega
    have := land3 (m := 85) (x := a / 2 + 128 * (b % 2)) (y := b / 2 + 128 * (c % 2)) (z := c / 2) (by omega) (by omega) (by omega) (by decide)
    rw [e, show (1431655765 : Nat) = 85 + 256 * (85 + 256 * (85 + 256 * 85)) from rfl, this, and85 _ (by omega) _ (by omega), and85 _ (by omega) _ (by omega)]
  have v1 : (a + 256 * (b + 256 * c)) - ((a / 2 &&& 85) + 256 * ((b / 2 &&& 85) + 256 * (c / 2 &&& 85))) = p1 a + 256 * (p1 b + 256 * p1 c) := by
    unfold p1
    omega
  have s2 : p1 a + 256 * (p1 b + 256 * p1 c) &&& 858993459 = (p1 a &&& 51) + 256 * ((p1 b &&& 51) + 256 * (p1 c &&& 51)) := land3 (m := 51) a2 b2 c2 (by decide)
  have s3 : (p1 a + 256 * (p1 b + 256 * p1 c)) / 2 ^ 2 &&& 858993459 = (p1 a / 4 &&& 51) + 256 * ((p1 b / 4 &&& 51) + 256 * (p1 c / 4 &&& 51)) := by
    have e : (p1 a + 256 * (p1 b + 256 * p1 c)) / 2 ^ 2 = (p1 a / 4 + 64 * (p1 b % 4)) + 256 * ((p1 b / 4 + 64 * (p1 c % 4)) + 256 * (p1 c / 4)) := by omega
    have := land3 (m := 51) (x := p1 a / 4 + 64 * (p1 b % 4)) (y := p1 b / 4 + 64 * (p1 c % 4)) (z := p1 c / 4) (by omega) (by omega) (by omega) (by decide)
    rw [e, show (858993459 : Nat) = 51 + 256 * (51 + 256 * (51 + 256 * 51)) from rfl, this, and51 _ (by omega) _ (by omega), and51 _ (by omega) _ (by omega)]
  have v2 : (p1 a &&& 51) + 256 * ((p1 b &&& 51) + 256 * (p1 c &&& 51)) + ((p1 a / 4 &&& 51) + 256 * ((p1 b / 4 &&& 51) + 256 * (p1 c / 4 &&& 51))) = p2 a + 256 * (p2 b + 256 * p2 c) := by
    unfold p2
    omega
  have e15 : ∀ x : Nat, x &&& 15 = x % 16 := fun x => Nat.and_two_pow_sub_one_eq_mod x 4
  have e63 : ∀ x : Nat, x &&& 63 = x % 64 := fun x => Nat.and_two_pow_sub_one_eq_mod x 6
  have v3 : (p2 a + 256 * (p2 b + 256 * p2 c) + (p2 a + 256 * (p2 b + 256 * p2 c)) / 2 ^ 4) &&& 252645135 = p3 a + 256 * (p3 b + 256 * p3 c) := by
    have e : p2 a + 256 * (p2 b + 256 * p2 c) + (p2 a + 256 * (p2 b + 256 * p2 c)) / 2 ^ 4 = (p2 a + p2 a / 16 + 16 * (p2 b % 16)) + 256 * ((p2 b + p2 b / 16 + 16 * (p2 c % 16)) + 256 * (p2 c + p2 c / 16)) := by omega
    have := land3 (m := 15) (x := p2 a + p2 a / 16 + 16 * (p2 b % 16)) (y := p2 b + p2 b / 16 + 16 * (p2 c % 16)) (z := p2 c + p2 c / 16) (by omega) (by omega) (by omega) (by decide)
    rw [e, show (252645135 : Nat) = 15 + 256 * (15 + 256 * (15 + 256 * 15)) from rfl, this, e15, e15, e15]
    unfold p3
    omega
  have v4 : p3 a + 256 * (p3 b + 256 * p3 c) + (p3 a + 256 * (p3 b + 256 * p3 c)) / 2 ^ 8 = p3 a + p3 b + 256 * (p3 b + p3 c + 256 * p3 c) := by omega
  have v5 : p3 a + p3 b + 256 * (p3 b + p3 c + 256 * p3 c) + (p3 a + p3 b + 256 * (p3 b + p3 c + 256 * p3 c)) / 2 ^ 16 = p3 a + p3 b + p3 c + 256 * (p3 b + p3 c + 256 * p3 c) := by omega
  have v6 : (p3 a + p3 b + p3 c + 256 * (p3 b + p3 c + 256 * p3 c)) &&& 63 = p3 a + p3 b + p3 c := by
    rw [e63]; omega
  unfold qf_J6_bitCount_X
  rw [show (1 : Int32) = nI 1 from rfl, n_shr (by omega) (by decide), kn_1431655765, n_and, s1, n_sub (by omega), v1, n_vv, show (858993459 : Int32) = nI 858993459 from rfl, n_and, s2, show (2 : Int32) = nI 2 from rfl, n_shr (by omega) (by decide), n_and, s3, n_add, v2, n_vv, show (4 : Int32) = nI 4 from rfl, n_shr (by omega) (by decide), n_add, show (252645135 : Int32) = nI 252645135 from rfl, n_and, v3, n_vv, show (8 : Int32) = nI 8 from rfl, n_shr (by omega) (by decide), n_add, v4, n_vv, show (16 : Int32) = nI 16 from rfl, n_shr (by omega) (by decide), n_add, v5, n_vv, show (63 : Int32) = nI 63 from rfl, n_and, v6]
theorem p3_bits : ∀ a, a < 256 → p3 a = sumN (fun i => if a.testBit i = true then 1 else 0) 8 := by decide +kernel
theorem x_pop {v : Nat} (hv : v < 2 ^ 24) (M : Me) : qf_J6_bitCount_X (nI v) M = some (nI (sumN (fun t => if v.testBit t = true then 1 else 0) 24), M) := by
  have hv2 : v < 16777216 := hv
  have ha : v % 2 ^ 8 < 256 := by omega
  have hb : v / 2 ^ 8 % 2 ^ 8 < 256 := by omega
  have hc : v / 2 ^ 16 < 256 := by omega
  have h := pop24 ha hb hc M
  rw [show v % 2 ^ 8 + 256 * (v / 2 ^ 8 % 2 ^ 8 + 256 * (v / 2 ^ 16)) = v by omega] at h
  have e : sumN (fun t => if v.testBit t = true then 1 else 0) 24 = p3 (v % 2 ^ 8) + p3 (v / 2 ^ 8 % 2 ^ 8) + p3 (v / 2 ^ 16) := by
    rw [p3_bits _ ha, p3_bits _ hb, p3_bits _ hc, show (24 : Nat) = 16 + 8 from rfl, sumN_split, show (16 : Nat) = 8 + 8 from rfl, sumN_split]
    congr 1
    · congr 1
      · apply sumN_congr
        intro i hi
        rw [Nat.testBit_mod_two_pow, decide_eq_true hi, Bool.true_and]
      · apply sumN_congr
        intro i hi
        rw [Nat.testBit_mod_two_pow, decide_eq_true hi, Bool.true_and, Nat.testBit_div_two_pow, Nat.add_comm]
    · apply sumN_congr
      intro i hi
      rw [Nat.testBit_div_two_pow, Nat.add_comm]
  rw [h, e]
theorem tcn_24 {S : Su} {T : Tl} {r : Nat} (h : T.length ≤ 24) : sumN (fun t => if (bitL (labs S T) r (8 * T.length)).testBit t = true then 1 else 0) 24 = tcn S T r := by
  unfold tcn
  have e : (24 : Nat) = T.length + (24 - T.length) := by omega
  rw [e, sumN_split, sumN_zero (n := 24 - T.length) (fun p _ => ?_), Nat.add_zero]
  rw [if_neg (fun g => ?_)]
  obtain ⟨x, h1, h2, h3⟩ := bitL_bit.mp g
  omega
