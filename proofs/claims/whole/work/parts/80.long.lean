/-! LONG: as numbers; how many bits, the least, the greatest -/
def nL (k : Nat) : Int64 := Int64.ofNat k
theorem nL_or (a b : Nat) : nL a ||| nL b = nL (a ||| b) := by
  apply Int64.toBitVec_inj.1
  show BitVec.ofNat 64 a ||| BitVec.ofNat 64 b = BitVec.ofNat 64 (a ||| b)
  apply BitVec.eq_of_getLsbD_eq
  intro i hi
  simp [hi]
theorem nL_and (a b : Nat) : nL a &&& nL b = nL (a &&& b) := by
  apply Int64.toBitVec_inj.1
  show BitVec.ofNat 64 a &&& BitVec.ofNat 64 b = BitVec.ofNat 64 (a &&& b)
  apply BitVec.eq_of_getLsbD_eq
  intro i hi
  simp [hi]
theorem nL_add (a b : Nat) : nL a + nL b = nL (a + b) := by
  apply Int64.toBitVec_inj.1
  show BitVec.ofNat 64 a + BitVec.ofNat 64 b = BitVec.ofNat 64 (a + b)
  rw [BitVec.ofNat_add]
theorem nL_sub {a b : Nat} (h : b ≤ a) : nL a - nL b = nL (a - b) := by
  apply Int64.toBitVec_inj.1
  show BitVec.ofNat 64 a - BitVec.ofNat 64 b = BitVec.ofNat 64 (a - b)
  have e : a = a - b + b := by omega
  rw [show BitVec.ofNat 64 a = BitVec.ofNat 64 (a - b) + BitVec.ofNat 64 b by rw [← BitVec.ofNat_add, ← e], BitVec.add_sub_cancel]
theorem sl_u : ∀ n, n < 64 → (((nI n).toInt64.toUInt64 &&& Int64.toUInt64 63).toBitVec % 64).toNat = n := by decide +kernel
theorem nL_shr {a n : Nat} (hn : n < 64) (ha : a < 2 ^ 64) : rt_lushr (nL a) (nI n) = nL (a >>> n) := by
  apply Int64.toBitVec_inj.1
  show ((nL a).toUInt64 >>> ((nI n).toInt64.toUInt64 &&& Int64.toUInt64 63)).toBitVec = BitVec.ofNat 64 (a >>> n)
  rw [UInt64.toBitVec_shiftRight]
  show (BitVec.ofNat 64 a >>> (((nI n).toInt64.toUInt64 &&& Int64.toUInt64 63).toBitVec % 64).toNat) = BitVec.ofNat 64 (a >>> n)
  rw [sl_u n hn]
  apply BitVec.eq_of_toNat_eq
  rw [BitVec.toNat_ushiftRight, BitVec.toNat_ofNat, BitVec.toNat_ofNat, Nat.mod_eq_of_lt ha, Nat.mod_eq_of_lt]
  exact Nat.lt_of_le_of_lt (Nat.shiftRight_le _ _) ha
theorem nL_i (a : Nat) : (nL a).toInt32 = nI a := by
  apply Int32.toBitVec_inj.mp
  rw [Int64.toBitVec_toInt32]
  show (BitVec.ofNat 64 a).signExtend 32 = BitVec.ofNat 32 a
  apply BitVec.eq_of_getLsbD_eq
  intro i hi
  rw [BitVec.getLsbD_signExtend, if_pos (by omega)]
  have h64 : i < 64 := by omega
  rw [BitVec.getLsbD_ofNat, BitVec.getLsbD_ofNat]
  simp only [hi, h64, decide_true, Bool.true_and]
/-! bytes -/
def ml (c : Nat) : Nat → Nat
  | 0 => 0
  | n + 1 => 2 ^ 8 * ml c n + c
theorem tbL {a b : Nat} (hb : b < 2 ^ 8) (j : Nat) : (2 ^ 8 * a + b).testBit j = if j < 8 then b.testBit j else a.testBit (j - 8) := Nat.testBit_two_pow_mul_add a hb j
theorem and_lane {a b c e : Nat} (hb : b < 2 ^ 8) (he : e < 2 ^ 8) : (2 ^ 8 * a + b) &&& (2 ^ 8 * c + e) = 2 ^ 8 * (a &&& c) + (b &&& e) := by
  apply Nat.eq_of_testBit_eq
  intro j
  rw [Nat.testBit_and, tbL hb, tbL he, tbL (Nat.and_lt_two_pow b he), Nat.testBit_and, Nat.testBit_and]
  split <;> rfl
theorem shr_lane {a b c e t : Nat} (ht : t ≤ 8) (hb : b < 2 ^ 8) (he : e < 2 ^ (8 - t)) : ((2 ^ 8 * a + b) >>> t) &&& (2 ^ 8 * c + e) = 2 ^ 8 * ((a >>> t) &&& c) + ((b >>> t) &&& e) := by
  have he8 : e < 2 ^ 8 := Nat.lt_of_lt_of_le he (Nat.pow_le_pow_right (by omega) (by omega))
  apply Nat.eq_of_testBit_eq
  intro j
  rw [Nat.testBit_and, Nat.testBit_shiftRight, tbL hb, tbL he8, tbL (Nat.and_lt_two_pow _ he8), Nat.testBit_and, Nat.testBit_and, Nat.testBit_shiftRight, Nat.testBit_shiftRight]
  by_cases hj : j < 8
  · rw [if_pos hj, if_pos hj]
    by_cases h2 : t + j < 8
    · rw [if_pos h2]
    · have : e.testBit j = false := Nat.testBit_lt_two_pow (Nat.lt_of_lt_of_le he (Nat.pow_le_pow_right (by omega) (by omega)))
      rw [this, Bool.and_false, Bool.and_false]
  · rw [if_neg hj, if_neg hj, if_neg (by omega), show t + j - 8 = t + (j - 8) by omega]
def pg1 (n x : Nat) : Nat := x - ((x >>> 1) &&& ml 85 n)
def pg2 (n x : Nat) : Nat := (pg1 n x &&& ml 51 n) + ((pg1 n x >>> 2) &&& ml 51 n)
def pg3 (n x : Nat) : Nat := (pg2 n x + (pg2 n x >>> 4)) &&& ml 15 n
def pb1 (b : Nat) : Nat := b - ((b >>> 1) &&& 85)
def pb2 (b : Nat) : Nat := (pb1 b &&& 51) + ((pb1 b >>> 2) &&& 51)
def pop8 (b : Nat) : Nat := cb (fun i => b.testBit i) 8
theorem pb_dec : ∀ b : Fin 256, pb1 b.val < 256 ∧ pb2 b.val ≤ 68 ∧ pb2 b.val % 16 ≤ 4 ∧ (pb2 b.val + pb2 b.val / 16) % 16 = pop8 b.val := by decide +kernel
theorem pg1_lane {n a b : Nat} (hb : b < 2 ^ 8) : pg1 (n + 1) (2 ^ 8 * a + b) = 2 ^ 8 * pg1 n a + pb1 b := by
  unfold pg1 pb1
  rw [show ml 85 (n + 1) = 2 ^ 8 * ml 85 n + 85 from rfl, shr_lane (by omega) hb (by decide)]
  have h1 : (a >>> 1) &&& ml 85 n ≤ a := Nat.le_trans Nat.and_le_left (Nat.shiftRight_le _ _)
  have h2 : (b >>> 1) &&& 85 ≤ b := Nat.le_trans Nat.and_le_left (Nat.shiftRight_le _ _)
  omega
theorem pg2_lane {n a b : Nat} (hb : b < 2 ^ 8) : pg2 (n + 1) (2 ^ 8 * a + b) = 2 ^ 8 * pg2 n a + pb2 b := by
  obtain ⟨h1, -⟩ := pb_dec ⟨b, hb⟩
  dsimp only at h1
  unfold pg2 pb2
  rw [pg1_lane hb, show ml 51 (n + 1) = 2 ^ 8 * ml 51 n + 51 from rfl, shr_lane (by omega) h1 (by decide), and_lane h1 (by decide)]
  omega
theorem pg2_nib (n x : Nat) : pg2 n x % 16 ≤ 4 := by
  cases n with
  | zero =>
    unfold pg2 ml
    rw [Nat.and_zero, Nat.and_zero]
    omega
  | succ n =>
    have e : x = 2 ^ 8 * (x / 2 ^ 8) + x % 2 ^ 8 := by omega
    have hb : x % 2 ^ 8 < 2 ^ 8 := Nat.mod_lt _ (by decide)
    obtain ⟨-, -, h3, -⟩ := pb_dec ⟨x % 2 ^ 8, hb⟩
    rw [e, pg2_lane hb]
    dsimp only at h3
    omega
theorem pg3_lane {n a b : Nat} (hb : b < 2 ^ 8) : pg3 (n + 1) (2 ^ 8 * a + b) = 2 ^ 8 * pg3 n a + pop8 b := by
  obtain ⟨-, h2, h3, h4⟩ := pb_dec ⟨b, hb⟩
  dsimp only at h2 h3 h4
  have h5 := pg2_nib n a
  unfold pg3
  rw [pg2_lane hb, show ml 15 (n + 1) = 2 ^ 8 * ml 15 n + 15 from rfl]
  have e : 2 ^ 8 * pg2 n a + pb2 b + (2 ^ 8 * pg2 n a + pb2 b) >>> 4 = 2 ^ 8 * (pg2 n a + pg2 n a >>> 4) + (pb2 b + pb2 b / 16 + 16 * (pg2 n a % 16)) := by
    rw [Nat.shiftRight_eq_div_pow, Nat.shiftRight_eq_div_pow]
    omega
  rw [e, and_lane (by omega) (by decide)]
  congr 1
  rw [show (15 : Nat) = 2 ^ 4 - 1 from rfl, Nat.and_two_pow_sub_one_eq_mod]
  omega
theorem cb_add (b : Nat → Bool) (k : Nat) : ∀ n, cb b (k + n) = cb b k + cb (fun i => b (k + i)) n
  | 0 => rfl
  | n + 1 => by
    rw [show k + (n + 1) = (k + n) + 1 from rfl, cb_s, cb_s, cb_add b k n]
    split <;> omega
theorem pop_cons {a b n : Nat} (hb : b < 2 ^ 8) : cb (fun i => (2 ^ 8 * a + b).testBit i) (8 + n) = pop8 b + cb (fun i => a.testBit i) n := by
  have h1 : cb (fun i => (2 ^ 8 * a + b).testBit i) 8 = pop8 b := cb_congr (fun i hi => by rw [tbL hb, if_pos hi])
  have h2 : cb (fun i => (2 ^ 8 * a + b).testBit (8 + i)) n = cb (fun i => a.testBit i) n := cb_congr (fun i hi => by rw [tbL hb, if_neg (by omega), show 8 + i - 8 = i by omega])
  rw [cb_add, h1, h2]
theorem pop8_le (b : Nat) : pop8 b ≤ 8 := cb_le _ 8
def jl1 (x : Int64) : Int64 := x - ((rt_lushr x 1) &&& 6148914691236517205)
def jl2 (x : Int64) : Int64 := (jl1 x &&& 3689348814741910323) + ((rt_lushr (jl1 x) 2) &&& 3689348814741910323)
def jl3 (x : Int64) : Int64 := (jl2 x + rt_lushr (jl2 x) 4) &&& 1085102592571150095
def jl4 (x : Int64) : Int64 := jl3 x + rt_lushr (jl3 x) 8
def jl5 (x : Int64) : Int64 := jl4 x + rt_lushr (jl4 x) 16
def jl6 (x : Int64) : Int64 := jl5 x + rt_lushr (jl5 x) 32
def jl (x : Int64) : Int32 := (jl6 x).toInt32 &&& 127
theorem jl_n {x : Nat} (h : x < 2 ^ 48) : jl (nL x) = nI (cb (fun i => x.testBit i) 48) := by
  -- the bytes
  obtain ⟨x0, r1, e0, l0⟩ : ∃ b a, x = 2 ^ 8 * a + b ∧ b < 2 ^ 8 := ⟨x % 2 ^ 8, x / 2 ^ 8, by omega, by omega⟩
  obtain ⟨x1, r2, e1, l1⟩ : ∃ b a, r1 = 2 ^ 8 * a + b ∧ b < 2 ^ 8 := ⟨r1 % 2 ^ 8, r1 / 2 ^ 8, by omega, by omega⟩
  obtain ⟨x2, r3, e2, l2⟩ : ∃ b a, r2 = 2 ^ 8 * a + b ∧ b < 2 ^ 8 := ⟨r2 % 2 ^ 8, r2 / 2 ^ 8, by omega, by omega⟩
  obtain ⟨x3, r4, e3, l3⟩ : ∃ b a, r3 = 2 ^ 8 * a + b ∧ b < 2 ^ 8 := ⟨r3 % 2 ^ 8, r3 / 2 ^ 8, by omega, by omega⟩
  obtain ⟨x4, r5, e4, l4⟩ : ∃ b a, r4 = 2 ^ 8 * a + b ∧ b < 2 ^ 8 := ⟨r4 % 2 ^ 8, r4 / 2 ^ 8, by omega, by omega⟩
  have l5 : r5 < 2 ^ 8 := by omega
  have e5 : r5 = 2 ^ 8 * 0 + r5 := by omega
  have hz : pg3 2 0 = 0 := by decide
  have hp : pg3 8 x = 2 ^ 8 * (2 ^ 8 * (2 ^ 8 * (2 ^ 8 * (2 ^ 8 * (2 ^ 8 * 0 + pop8 r5) + pop8 x4) + pop8 x3) + pop8 x2) + pop8 x1) + pop8 x0 := by
    rw [e0, pg3_lane l0, e1, pg3_lane l1, e2, pg3_lane l2, e3, pg3_lane l3, e4, pg3_lane l4]
    conv => lhs; rw [e5]
    rw [pg3_lane l5, hz]
  have hc : cb (fun i => x.testBit i) 48 = pop8 x0 + (pop8 x1 + (pop8 x2 + (pop8 x3 + (pop8 x4 + (pop8 r5 + 0))))) := by
    rw [show (48 : Nat) = 8 + (8 + (8 + (8 + (8 + (8 + 0))))) from rfl, e0, pop_cons l0, e1, pop_cons l1, e2, pop_cons l2, e3, pop_cons l3, e4, pop_cons l4]
    conv => lhs; rw [e5]
    rw [pop_cons l5]
    rfl
  have m0 := pop8_le x0
  have m1 := pop8_le x1
  have m2 := pop8_le x2
  have m3 := pop8_le x3
  have m4 := pop8_le x4
  have m5 := pop8_le r5
  -- the steps
  have s1 : jl1 (nL x) = nL (pg1 8 x) := by
    unfold jl1 pg1
    rw [show (1 : Int32) = nI 1 from rfl, nL_shr (by omega) (by omega), show (6148914691236517205 : Int64) = nL (ml 85 8) from rfl, nL_and, nL_sub (Nat.le_trans Nat.and_le_left (Nat.shiftRight_le _ _))]
  have b1 : pg1 8 x < 2 ^ 64 := Nat.lt_of_le_of_lt (Nat.sub_le _ _) (by omega)
  have s2 : jl2 (nL x) = nL (pg2 8 x) := by
    unfold jl2 pg2
    rw [s1, show (2 : Int32) = nI 2 from rfl, nL_shr (by omega) b1, show (3689348814741910323 : Int64) = nL (ml 51 8) from rfl, nL_and, nL_and, nL_add]
  have b2 : pg2 8 x < 2 ^ 64 := by
    have h1 : pg1 8 x &&& ml 51 8 ≤ ml 51 8 := Nat.and_le_right
    have h2 : (pg1 8 x >>> 2) &&& ml 51 8 ≤ ml 51 8 := Nat.and_le_right
    have h3 : ml 51 8 = 3689348814741910323 := by decide
    unfold pg2
    omega
  have s3 : jl3 (nL x) = nL (pg3 8 x) := by
    unfold jl3 pg3
    rw [s2, show (4 : Int32) = nI 4 from rfl, nL_shr (by omega) b2, show (1085102592571150095 : Int64) = nL (ml 15 8) from rfl, nL_add, nL_and]
  generalize pg3 8 x = y at *
  have s4 : jl4 (nL x) = nL (y + y / 256) := by
    unfold jl4
    rw [s3, show (8 : Int32) = nI 8 from rfl, nL_shr (by omega) (by omega), nL_add, Nat.shiftRight_eq_div_pow]
  obtain ⟨y4, h4⟩ : ∃ z, z = y + y / 256 := ⟨_, rfl⟩
  rw [← h4] at s4
  have h4' : y / 256 = 2 ^ 8 * (2 ^ 8 * (2 ^ 8 * (2 ^ 8 * (2 ^ 8 * 0 + pop8 r5) + pop8 x4) + pop8 x3) + pop8 x2) + pop8 x1 := by omega
  have s5 : jl5 (nL x) = nL (y4 + y4 / 65536) := by
    unfold jl5
    rw [s4, show (16 : Int32) = nI 16 from rfl, nL_shr (by omega) (by omega), nL_add, Nat.shiftRight_eq_div_pow]
  obtain ⟨y5, h5⟩ : ∃ z, z = y4 + y4 / 65536 := ⟨_, rfl⟩
  rw [← h5] at s5
  have h5' : y4 / 65536 = (pop8 x2 + pop8 x3) + 256 * (pop8 x3 + pop8 x4) + 65536 * (pop8 x4 + pop8 r5) + 16777216 * pop8 r5 := by omega
  have s6 : jl6 (nL x) = nL (y5 + y5 / 4294967296) := by
    unfold jl6
    rw [s5, show (32 : Int32) = nI 32 from rfl, nL_shr (by omega) (by omega), nL_add, Nat.shiftRight_eq_div_pow]
  have h6' : y5 / 4294967296 = (pop8 x4 + pop8 r5) + 256 * pop8 r5 := by omega
  unfold jl
  rw [s6, nL_i, hc, show (127 : Int32) = nI 127 from rfl, nI_and, show (127 : Nat) = 2 ^ 7 - 1 from rfl, Nat.and_two_pow_sub_one_eq_mod]
  congr 1
  omega
section
variable {G : rt_G} {d : Nat} {Q : rt_Q} {I : rt_I} {L : rt_L} {r : Nat}
theorem sJ13_bitCount {b : Nat → Bool} {n : Nat} {x : Int64} (hx : x = nL (btn b n)) (hn : n ≤ 48) (hQ : Q (nI (cb b n)) I L r) : rt_Call G d kJ13_bitCount_95d88 [.long x] I L r Q := by
  refine v_J13_bitCount_95d88 _ _ _ _ ?_
  have hlt : btn b n < 2 ^ 48 := Nat.lt_of_lt_of_le (btn_lt n) (Nat.pow_le_pow_right (by omega) hn)
  have e : jl x = nI (cb b n) := by
    rw [hx, jl_n hlt]
    congr 1
    rw [cb_out (n := n) hn (fun k hk => by rw [btn_bit]; simp; omega)]
    exact cb_congr (fun k hk => by rw [btn_bit]; simp [hk])
  rw [← e] at hQ
  exact hQ
end
