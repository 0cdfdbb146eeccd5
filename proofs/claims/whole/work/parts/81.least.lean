/-! LEAST AND GREATEST BIT -/
def tzE (e : Int32) : Int32 := if 0 < e then if e ≤ (65536 : Int32) then if e ≤ (256 : Int32) then if e ≤ (16 : Int32) then if e ≤ (4 : Int32) then ((1 : Int32) + (rt_ushr e (1 : Int32))) else (((1 : Int32) + (2 : Int32)) + (rt_ushr (rt_ushr e (2 : Int32)) (1 : Int32))) else if (rt_ushr e (4 : Int32)) ≤ (4 : Int32) then (((1 : Int32) + (4 : Int32)) + (rt_ushr (rt_ushr e (4 : Int32)) (1 : Int32))) else ((((1 : Int32) + (4 : Int32)) + (2 : Int32)) + (rt_ushr (rt_ushr (rt_ushr e (4 : Int32)) (2 : Int32)) (1 : Int32))) else if (rt_ushr e (8 : Int32)) ≤ (16 : Int32) then if (rt_ushr e (8 : Int32)) ≤ (4 : Int32) then (((1 : Int32) + (8 : Int32)) + (rt_ushr (rt_ushr e (8 : Int32)) (1 : Int32))) else ((((1 : Int32) + (8 : Int32)) + (2 : Int32)) + (rt_ushr (rt_ushr (rt_ushr e (8 : Int32)) (2 : Int32)) (1 : Int32))) else if (rt_ushr (rt_ushr e (8 : Int32)) (4 : Int32)) ≤ (4 : Int32) then ((((1 : Int32) + (8 : Int32)) + (4 : Int32)) + (rt_ushr (rt_ushr (rt_ushr e (8 : Int32)) (4 : Int32)) (1 : Int32))) else (((((1 : Int32) + (8 : Int32)) + (4 : Int32)) + (2 : Int32)) + (rt_ushr (rt_ushr (rt_ushr (rt_ushr e (8 : Int32)) (4 : Int32)) (2 : Int32)) (1 : Int32))) else if (rt_ushr e (16 : Int32)) ≤ (256 : Int32) then if (rt_ushr e (16 : Int32)) ≤ (16 : Int32) then if (rt_ushr e (16 : Int32)) ≤ (4 : Int32) then (((1 : Int32) + (16 : Int32)) + (rt_ushr (rt_ushr e (16 : Int32)) (1 : Int32))) else ((((1 : Int32) + (16 : Int32)) + (2 : Int32)) + (rt_ushr (rt_ushr (rt_ushr e (16 : Int32)) (2 : Int32)) (1 : Int32))) else if (rt_ushr (rt_ushr e (16 : Int32)) (4 : Int32)) ≤ (4 : Int32) then ((((1 : Int32) + (16 : Int32)) + (4 : Int32)) + (rt_ushr (rt_ushr (rt_ushr e (16 : Int32)) (4 : Int32)) (1 : Int32))) else (((((1 : Int32) + (16 : Int32)) + (4 : Int32)) + (2 : Int32)) + (rt_ushr (rt_ushr (rt_ushr (rt_ushr e (16 : Int32)) (4 : Int32)) (2 : Int32)) (1 : Int32))) else if (rt_ushr (rt_ushr e (16 : Int32)) (8 : Int32)) ≤ (16 : Int32) then if (rt_ushr (rt_ushr e (16 : Int32)) (8 : Int32)) ≤ (4 : Int32) then ((((1 : Int32) + (16 : Int32)) + (8 : Int32)) + (rt_ushr (rt_ushr (rt_ushr e (16 : Int32)) (8 : Int32)) (1 : Int32))) else (((((1 : Int32) + (16 : Int32)) + (8 : Int32)) + (2 : Int32)) + (rt_ushr (rt_ushr (rt_ushr (rt_ushr e (16 : Int32)) (8 : Int32)) (2 : Int32)) (1 : Int32))) else if (rt_ushr (rt_ushr (rt_ushr e (16 : Int32)) (8 : Int32)) (4 : Int32)) ≤ (4 : Int32) then (((((1 : Int32) + (16 : Int32)) + (8 : Int32)) + (4 : Int32)) + (rt_ushr (rt_ushr (rt_ushr (rt_ushr e (16 : Int32)) (8 : Int32)) (4 : Int32)) (1 : Int32))) else ((((((1 : Int32) + (16 : Int32)) + (8 : Int32)) + (4 : Int32)) + (2 : Int32)) + (rt_ushr (rt_ushr (rt_ushr (rt_ushr (rt_ushr e (16 : Int32)) (8 : Int32)) (4 : Int32)) (2 : Int32)) (1 : Int32))) else (e &&& (32 : Int32))
def lzE (x0 : Int32) : Int32 := if 0 < x0 then if x0 < (65536 : Int32) then if x0 < (256 : Int32) then if x0 < (16 : Int32) then if x0 < (4 : Int32) then ((31 : Int32) - (rt_ushr x0 (1 : Int32))) else (((31 : Int32) + (-2 : Int32)) - (rt_ushr (rt_ushr x0 (2 : Int32)) (1 : Int32))) else if (rt_ushr x0 (4 : Int32)) < (4 : Int32) then (((31 : Int32) + (-4 : Int32)) - (rt_ushr (rt_ushr x0 (4 : Int32)) (1 : Int32))) else ((((31 : Int32) + (-4 : Int32)) + (-2 : Int32)) - (rt_ushr (rt_ushr (rt_ushr x0 (4 : Int32)) (2 : Int32)) (1 : Int32))) else if (rt_ushr x0 (8 : Int32)) < (16 : Int32) then if (rt_ushr x0 (8 : Int32)) < (4 : Int32) then (((31 : Int32) + (-8 : Int32)) - (rt_ushr (rt_ushr x0 (8 : Int32)) (1 : Int32))) else ((((31 : Int32) + (-8 : Int32)) + (-2 : Int32)) - (rt_ushr (rt_ushr (rt_ushr x0 (8 : Int32)) (2 : Int32)) (1 : Int32))) else if (rt_ushr (rt_ushr x0 (8 : Int32)) (4 : Int32)) < (4 : Int32) then ((((31 : Int32) + (-8 : Int32)) + (-4 : Int32)) - (rt_ushr (rt_ushr (rt_ushr x0 (8 : Int32)) (4 : Int32)) (1 : Int32))) else (((((31 : Int32) + (-8 : Int32)) + (-4 : Int32)) + (-2 : Int32)) - (rt_ushr (rt_ushr (rt_ushr (rt_ushr x0 (8 : Int32)) (4 : Int32)) (2 : Int32)) (1 : Int32))) else if (rt_ushr x0 (16 : Int32)) < (256 : Int32) then if (rt_ushr x0 (16 : Int32)) < (16 : Int32) then if (rt_ushr x0 (16 : Int32)) < (4 : Int32) then (((31 : Int32) + (-16 : Int32)) - (rt_ushr (rt_ushr x0 (16 : Int32)) (1 : Int32))) else ((((31 : Int32) + (-16 : Int32)) + (-2 : Int32)) - (rt_ushr (rt_ushr (rt_ushr x0 (16 : Int32)) (2 : Int32)) (1 : Int32))) else if (rt_ushr (rt_ushr x0 (16 : Int32)) (4 : Int32)) < (4 : Int32) then ((((31 : Int32) + (-16 : Int32)) + (-4 : Int32)) - (rt_ushr (rt_ushr (rt_ushr x0 (16 : Int32)) (4 : Int32)) (1 : Int32))) else (((((31 : Int32) + (-16 : Int32)) + (-4 : Int32)) + (-2 : Int32)) - (rt_ushr (rt_ushr (rt_ushr (rt_ushr x0 (16 : Int32)) (4 : Int32)) (2 : Int32)) (1 : Int32))) else if (rt_ushr (rt_ushr x0 (16 : Int32)) (8 : Int32)) < (16 : Int32) then if (rt_ushr (rt_ushr x0 (16 : Int32)) (8 : Int32)) < (4 : Int32) then ((((31 : Int32) + (-16 : Int32)) + (-8 : Int32)) - (rt_ushr (rt_ushr (rt_ushr x0 (16 : Int32)) (8 : Int32)) (1 : Int32))) else (((((31 : Int32) + (-16 : Int32)) + (-8 : Int32)) + (-2 : Int32)) - (rt_ushr (rt_ushr (rt_ushr (rt_ushr x0 (16 : Int32)) (8 : Int32)) (2 : Int32)) (1 : Int32))) else if (rt_ushr (rt_ushr (rt_ushr x0 (16 : Int32)) (8 : Int32)) (4 : Int32)) < (4 : Int32) then (((((31 : Int32) + (-16 : Int32)) + (-8 : Int32)) + (-4 : Int32)) - (rt_ushr (rt_ushr (rt_ushr (rt_ushr x0 (16 : Int32)) (8 : Int32)) (4 : Int32)) (1 : Int32))) else ((((((31 : Int32) + (-16 : Int32)) + (-8 : Int32)) + (-4 : Int32)) + (-2 : Int32)) - (rt_ushr (rt_ushr (rt_ushr (rt_ushr (rt_ushr x0 (16 : Int32)) (8 : Int32)) (4 : Int32)) (2 : Int32)) (1 : Int32))) else if x0 = 0 then (32 : Int32) else (0 : Int32)
def lf (c : Int32) (q : Nat) : Int32 := c - nI q
def lzM (n : Nat) : Int32 := if n < 65536 then if n < 256 then if n < 16 then if n < 4 then lf ((31 : Int32)) (n / 2) else lf (((31 : Int32) + (-2 : Int32))) ((n / 4) / 2) else if (n / 16) < 4 then lf (((31 : Int32) + (-4 : Int32))) ((n / 16) / 2) else lf ((((31 : Int32) + (-4 : Int32)) + (-2 : Int32))) (((n / 16) / 4) / 2) else if (n / 256) < 16 then if (n / 256) < 4 then lf (((31 : Int32) + (-8 : Int32))) ((n / 256) / 2) else lf ((((31 : Int32) + (-8 : Int32)) + (-2 : Int32))) (((n / 256) / 4) / 2) else if ((n / 256) / 16) < 4 then lf ((((31 : Int32) + (-8 : Int32)) + (-4 : Int32))) (((n / 256) / 16) / 2) else lf (((((31 : Int32) + (-8 : Int32)) + (-4 : Int32)) + (-2 : Int32))) ((((n / 256) / 16) / 4) / 2) else if (n / 65536) < 256 then if (n / 65536) < 16 then if (n / 65536) < 4 then lf (((31 : Int32) + (-16 : Int32))) ((n / 65536) / 2) else lf ((((31 : Int32) + (-16 : Int32)) + (-2 : Int32))) (((n / 65536) / 4) / 2) else if ((n / 65536) / 16) < 4 then lf ((((31 : Int32) + (-16 : Int32)) + (-4 : Int32))) (((n / 65536) / 16) / 2) else lf (((((31 : Int32) + (-16 : Int32)) + (-4 : Int32)) + (-2 : Int32))) ((((n / 65536) / 16) / 4) / 2) else if ((n / 65536) / 256) < 16 then if ((n / 65536) / 256) < 4 then lf ((((31 : Int32) + (-16 : Int32)) + (-8 : Int32))) (((n / 65536) / 256) / 2) else lf (((((31 : Int32) + (-16 : Int32)) + (-8 : Int32)) + (-2 : Int32))) ((((n / 65536) / 256) / 4) / 2) else if (((n / 65536) / 256) / 16) < 4 then lf (((((31 : Int32) + (-16 : Int32)) + (-8 : Int32)) + (-4 : Int32))) ((((n / 65536) / 256) / 16) / 2) else lf ((((((31 : Int32) + (-16 : Int32)) + (-8 : Int32)) + (-4 : Int32)) + (-2 : Int32))) (((((n / 65536) / 256) / 16) / 4) / 2)
theorem lf0 {c : Int32} {q k : Nat} (h : q = 0) (hc : c - nI 0 = nI k) : lf c q = nI k := by rw [h]; exact hc
theorem lf1 {c : Int32} {q k : Nat} (h : q = 1) (hc : c - nI 1 = nI k) : lf c q = nI k := by rw [h]; exact hc
theorem tz_dec : ∀ j : Fin 32, tzE (nI (2 ^ j.val - 1)) = nI j.val := by decide +kernel
theorem uI {n k : Nat} (hk : k < 32) (hn : n < 2 ^ 32) : rt_ushr (nI n) (nI k) = nI (n / 2 ^ k) := by
  refine b_ext (fun i hi => ?_)
  rw [show bt (rt_ushr (nI n) (nI k)) i = bt (nI n) (k + i) from b_ushr k hk (nI n) i]
  unfold bt
  show (BitVec.ofNat 32 n).getLsbD (k + i) = (BitVec.ofNat 32 (n / 2 ^ k)).getLsbD i
  rw [BitVec.getLsbD_ofNat, BitVec.getLsbD_ofNat, Nat.testBit_div_two_pow, Nat.add_comm i k]
  by_cases h : k + i < 32
  · simp [h, hi]
  · rw [show n.testBit (k + i) = false from Nat.testBit_lt_two_pow (Nat.lt_of_lt_of_le hn (Nat.pow_le_pow_right (by omega) (by omega)))]
    simp
theorem uI_1 {n : Nat} (hn : n < 2 ^ 32) : rt_ushr (nI n) (1 : Int32) = nI (n / 2) := uI (k := 1) (by omega) hn
theorem uI_2 {n : Nat} (hn : n < 2 ^ 32) : rt_ushr (nI n) (2 : Int32) = nI (n / 4) := uI (k := 2) (by omega) hn
theorem uI_4 {n : Nat} (hn : n < 2 ^ 32) : rt_ushr (nI n) (4 : Int32) = nI (n / 16) := uI (k := 4) (by omega) hn
theorem uI_8 {n : Nat} (hn : n < 2 ^ 32) : rt_ushr (nI n) (8 : Int32) = nI (n / 256) := uI (k := 8) (by omega) hn
theorem uI_16 {n : Nat} (hn : n < 2 ^ 32) : rt_ushr (nI n) (16 : Int32) = nI (n / 65536) := uI (k := 16) (by omega) hn
theorem lt_4 {n : Nat} (hn : n < 2 ^ 31) : nI n < (4 : Int32) ↔ n < 4 := nI_ltI (b := 4) hn (by omega)
theorem lt_16 {n : Nat} (hn : n < 2 ^ 31) : nI n < (16 : Int32) ↔ n < 16 := nI_ltI (b := 16) hn (by omega)
theorem lt_256 {n : Nat} (hn : n < 2 ^ 31) : nI n < (256 : Int32) ↔ n < 256 := nI_ltI (b := 256) hn (by omega)
theorem lt_65536 {n : Nat} (hn : n < 2 ^ 31) : nI n < (65536 : Int32) ↔ n < 65536 := nI_ltI (b := 65536) hn (by omega)
theorem lz_M {n : Nat} (h0 : 0 < n) (h : n < 2 ^ 31) : lzE (nI n) = lzM n := by
  unfold lzE lzM lf
  rw [if_pos (show (0 : Int32) < nI n from (nI_ltI (a := 0) (by omega) (by omega)).mpr h0)]
  simp (disch := omega) only [uI_1, uI_2, uI_4, uI_8, uI_16, lt_4, lt_16, lt_256, lt_65536]
set_option maxHeartbeats 4000000 in
theorem lz_j {n j : Nat} (hj : j ≤ 30) (h1 : 2 ^ j ≤ n) (h2 : n < 2 ^ (j + 1)) : lzE (nI n) = nI (31 - j) := by
  have hp : (2 : Nat) ^ (j + 1) ≤ 2 ^ 31 := Nat.pow_le_pow_right (by omega) (by omega)
  have hp0 : 0 < (2 : Nat) ^ j := Nat.pow_pos (by omega)
  rw [lz_M (by omega) (by omega)]
  have hc : j = 0 ∨ j = 1 ∨ j = 2 ∨ j = 3 ∨ j = 4 ∨ j = 5 ∨ j = 6 ∨ j = 7 ∨ j = 8 ∨ j = 9 ∨ j = 10 ∨ j = 11 ∨ j = 12 ∨ j = 13 ∨ j = 14 ∨ j = 15 ∨ j = 16 ∨ j = 17 ∨ j = 18 ∨ j = 19 ∨ j = 20 ∨ j = 21 ∨ j = 22 ∨ j = 23 ∨ j = 24 ∨ j = 25 ∨ j = 26 ∨ j = 27 ∨ j = 28 ∨ j = 29 ∨ j = 30 := by omega
  unfold lzM
  rcases hc with rfl | rfl | rfl | rfl | rfl | rfl | rfl | rfl | rfl | rfl | rfl | rfl | rfl | rfl | rfl | rfl | rfl | rfl | rfl | rfl | rfl | rfl | rfl | rfl | rfl | rfl | rfl | rfl | rfl | rfl | rfl
  all_goals
    simp only [Nat.reducePow, Nat.reduceAdd] at h1 h2
    (repeat' (first | rw [if_pos (by omega)] | rw [if_neg (by omega)]))
    first | exact lf0 (by omega) (by decide) | exact lf1 (by omega) (by decide)
/-- all but the bits up from the least -/
theorem tz_e {n j : Nat} (hj : j < 32) (h1 : n.testBit j = true) (h2 : ∀ i, i < j → n.testBit i = false) : (nI n ^^^ (-1)) &&& (nI n - 1) = nI (2 ^ j - 1) := by
  have hm : n % 2 ^ (j + 1) = 2 ^ j := by
    apply Nat.eq_of_testBit_eq
    intro i
    rw [Nat.testBit_mod_two_pow, Nat.testBit_two_pow]
    by_cases hi : i < j + 1
    · by_cases e : j = i
      · subst e; simp [h1]
      · rw [h2 i (by omega)]; simp [e]
    · have : ¬ j = i := by omega
      simp [hi, this]
  obtain ⟨q, hq⟩ : ∃ q, n = 2 ^ (j + 1) * q + 2 ^ j := ⟨n / 2 ^ (j + 1), by have := Nat.div_add_mod n (2 ^ (j + 1)); rw [hm] at this; exact this.symm⟩
  have hpos : 0 < 2 ^ j := Nat.pow_pos (by omega)
  have hlt : 2 ^ j < 2 ^ (j + 1) := Nat.pow_lt_pow_right (by omega) (by omega)
  have hn1 : nI n - 1 = nI (2 ^ (j + 1) * q + (2 ^ j - 1)) := by
    have : nI n - 1 = nI (n - 1) := n_sl (b := 1) (by omega)
    rw [this]
    congr 1
    omega
  have hl : 2 ^ j - 1 < 2 ^ (j + 1) := by omega
  refine b_ext (fun i hi => ?_)
  rw [b_and, b_xor, b_m1 i hi, hn1]
  unfold bt
  show (((BitVec.ofNat 32 n).getLsbD i ^^ true) && (BitVec.ofNat 32 (2 ^ (j + 1) * q + (2 ^ j - 1))).getLsbD i) = (BitVec.ofNat 32 (2 ^ j - 1)).getLsbD i
  rw [BitVec.getLsbD_ofNat, BitVec.getLsbD_ofNat, BitVec.getLsbD_ofNat, Nat.testBit_two_pow_mul_add q hl, hq, Nat.testBit_two_pow_mul_add q hlt, Nat.testBit_two_pow_sub_one, Nat.testBit_two_pow]
  by_cases h : i < j + 1
  · rw [if_pos h, if_pos h]
    by_cases e : j = i
    · subst e; simp [hi]
    · have h3 : i < j := by omega
      simp [hi, e, h3]
  · rw [if_neg h, if_neg h]
    have h3 : ¬ i < j := by omega
    simp [hi, h3]
section
variable {G : rt_G} {d : Nat} {Q : rt_Q} {I : rt_I} {L : rt_L} {r : Nat}
theorem sJ6_tz {n j : Nat} {x : Int32} (hx : x = nI n) (hj : j < 32) (h1 : n.testBit j = true) (h2 : ∀ i, i < j → n.testBit i = false) (hQ : Q (nI j) I L r) : rt_Call G d kJ6_numberOfTrailingZeros_0f7a4 [.int x] I L r Q := by
  subst hx
  rw [← tz_dec ⟨j, hj⟩] at hQ
  refine v_J6_numberOfTrailingZeros_0f7a4 _ _ _ _ ?_
  rw [tz_e hj h1 h2]
  dsimp only at hQ
  generalize nI (2 ^ j - 1) = e at *
  unfold tzE at hQ
  repeat' (first | exact hQ | (refine ⟨fun z => ?_, fun z => ?_⟩ <;> first | rw [if_pos z] at hQ | rw [if_neg z] at hQ))
theorem sJ6_lz {n j : Nat} {x : Int32} (hx : x = nI n) (hj : j < 32) (h1 : 2 ^ j ≤ n) (h2 : n < 2 ^ (j + 1)) (hQ : Q (nI (31 - j)) I L r) : rt_Call G d kJ6_numberOfLeadingZeros_0f7a4 [.int x] I L r Q := by
  subst hx
  have hv : lzE (nI n) = nI (31 - j) := by
    by_cases e : j ≤ 30
    · exact lz_j e h1 h2
    · obtain rfl : j = 31 := by omega
      have hneg : ¬ (0 : Int32) < nI n := by
        rw [Int32.lt_iff_toInt_lt]
        have : (nI n).toInt = (n : Int) - 2 ^ 32 := by
          show (BitVec.ofNat 32 n).toInt = _
          rw [BitVec.toInt_eq_toNat_bmod, BitVec.toNat_ofNat]
          simp only [Int.bmod]
          omega
        have e0 : (0 : Int32).toInt = 0 := by decide
        omega
      have hne : ¬ nI n = 0 := by
        intro a
        rw [a] at hneg
        have : (nI n).toInt = (n : Int) - 2 ^ 32 := by
          show (BitVec.ofNat 32 n).toInt = _
          rw [BitVec.toInt_eq_toNat_bmod, BitVec.toNat_ofNat]
          simp only [Int.bmod]
          omega
        rw [a] at this
        have e0 : (0 : Int32).toInt = 0 := by decide
        omega
      unfold lzE
      rw [if_neg hneg, if_neg hne]
      rfl
  rw [← hv] at hQ
  refine v_J6_numberOfLeadingZeros_0f7a4 _ _ _ _ ?_
  generalize nI n = e at *
  unfold lzE at hQ
  refine ⟨fun z => ?_, fun z => ⟨fun z2 => ?_, fun z2 => ?_⟩⟩
  · rw [if_pos z] at hQ
    repeat' (first | exact hQ | (refine ⟨fun z => ?_, fun z => ?_⟩ <;> first | rw [if_pos z] at hQ | rw [if_neg z] at hQ))
  · rw [if_neg z, if_neg z2] at hQ
    exact hQ
  · rw [if_neg z, if_pos z2] at hQ
    exact hQ
/-- the least of a set as a long -/
theorem sJ13_tz {n j : Nat} {x : Int64} (hx : x = nL n) (hn : n < 2 ^ 64) (hj : j < 64) (h1 : n.testBit j = true) (h2 : ∀ i, i < j → n.testBit i = false) (hQ : Q (nI j) I L r) : rt_Call G (d + 1) kJ13_numberOfTrailingZeros_95d88 [.long x] I L r Q := by
  subst hx
  refine v_J13_numberOfTrailingZeros_95d88 _ _ _ _ ?_
  have e1 : (nL n).toInt32 = nI (n % 2 ^ 32) := by rw [nL_i]; exact (Int32.toBitVec_inj.mp (by show BitVec.ofNat 32 n = BitVec.ofNat 32 (n % 2 ^ 32); exact BitVec.eq_of_toNat_eq (by rw [BitVec.toNat_ofNat, BitVec.toNat_ofNat, Nat.mod_mod])))
  have e2 : (rt_lushr (nL n) (32 : Int32)).toInt32 = nI (n / 2 ^ 32) := by rw [show (32 : Int32) = nI 32 from rfl, nL_shr (by omega) hn, nL_i, Nat.shiftRight_eq_div_pow]
  have hz : nI (n % 2 ^ 32) = 0 ↔ n % 2 ^ 32 = 0 := by
    constructor
    · intro a
      have h3 := congrArg (fun y => y.toBitVec.toNat) a
      have h4 : (BitVec.ofNat 32 (n % 2 ^ 32)).toNat = 0 := h3
      rw [BitVec.toNat_ofNat] at h4
      omega
    · intro a; rw [a]; rfl
  rw [e1, e2, hz]
  by_cases hj2 : j < 32
  · have hnz : ¬ n % 2 ^ 32 = 0 := fun a => by
      have h3 := Nat.testBit_mod_two_pow n 32 j
      rw [a, h1, Nat.zero_testBit] at h3
      simp at h3; omega
    exact ⟨fun _ => sJ6_tz rfl hj2 (by rw [Nat.testBit_mod_two_pow, h1]; simp [hj2]) (fun i hi => by rw [Nat.testBit_mod_two_pow, h2 i hi, Bool.and_false]) hQ, fun z => absurd z hnz⟩
  · have hnz : n % 2 ^ 32 = 0 := by
      apply Nat.eq_of_testBit_eq
      intro i
      rw [Nat.testBit_mod_two_pow, Nat.zero_testBit]
      by_cases hi : i < 32
      · rw [h2 i (by omega), Bool.and_false]
      · simp [hi]
    refine ⟨fun z => absurd hnz z, fun _ => sJ6_tz (j := j - 32) rfl (by omega) (by rw [Nat.testBit_div_two_pow, show j - 32 + 32 = j by omega]; exact h1) (fun i hi => by rw [Nat.testBit_div_two_pow]; exact h2 _ (by omega)) ?_⟩
    rw [show (32 : Int32) + nI (j - 32) = nI (32 + (j - 32)) from n_la 32 _, show 32 + (j - 32) = j by omega]
    exact hQ
/-- the greatest -/
theorem sJ13_lz {n j : Nat} {x : Int64} (hx : x = nL n) (hj : j < 64) (h1 : 2 ^ j ≤ n) (h2 : n < 2 ^ (j + 1)) (hQ : Q (nI (63 - j)) I L r) : rt_Call G (d + 1) kJ13_numberOfLeadingZeros_95d88 [.long x] I L r Q := by
  subst hx
  have hp : (2 : Nat) ^ (j + 1) ≤ 2 ^ 64 := Nat.pow_le_pow_right (by omega) (by omega)
  refine v_J13_numberOfLeadingZeros_95d88 _ _ _ _ ?_
  have e1 : (nL n).toInt32 = nI n := nL_i n
  have e2 : (rt_lushr (nL n) (32 : Int32)).toInt32 = nI (n / 2 ^ 32) := by rw [show (32 : Int32) = nI 32 from rfl, nL_shr (by omega) (by omega), nL_i, Nat.shiftRight_eq_div_pow]
  have hz : nI (n / 2 ^ 32) = 0 ↔ n / 2 ^ 32 = 0 := by
    constructor
    · intro a
      have h3 := congrArg (fun y => y.toBitVec.toNat) a
      have h4 : (BitVec.ofNat 32 (n / 2 ^ 32)).toNat = 0 := h3
      rw [BitVec.toNat_ofNat] at h4
      omega
    · intro a; rw [a]; rfl
  rw [e1, e2, hz]
  by_cases hj2 : j < 32
  · have hp2 : (2 : Nat) ^ (j + 1) ≤ 2 ^ 32 := Nat.pow_le_pow_right (by omega) (by omega)
    refine ⟨fun z => absurd (by omega) z, fun _ => sJ6_lz rfl hj2 h1 h2 ?_⟩
    rw [show (32 : Int32) + nI (31 - j) = nI (32 + (31 - j)) from n_la 32 _, show 32 + (31 - j) = 63 - j by omega]
    exact hQ
  · have e5 : (2 : Nat) ^ j = 2 ^ 32 * 2 ^ (j - 32) := by rw [← Nat.pow_add]; congr 1; omega
    have e6 : (2 : Nat) ^ (j + 1) = 2 ^ 32 * 2 ^ (j - 32 + 1) := by rw [← Nat.pow_add]; congr 1; omega
    have hpos : 0 < (2 : Nat) ^ (j - 32) := Nat.pow_pos (by omega)
    refine ⟨fun _ => sJ6_lz (j := j - 32) rfl (by omega) ?_ ?_ ?_, fun z => ?_⟩
    · rw [Nat.le_div_iff_mul_le (by omega)]; omega
    · rw [Nat.div_lt_iff_lt_mul (by omega)]; omega
    · rw [show 31 - (j - 32) = 63 - j by omega]; exact hQ
    · exfalso
      have : 2 ^ 32 ≤ n := by omega
      omega
end
