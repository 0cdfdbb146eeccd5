/-! bits of an int: how many, which -/
theorem nI_or (a b : Nat) : nI a ||| nI b = nI (a ||| b) := by
  apply Int32.toBitVec_inj.1
  show BitVec.ofNat 32 a ||| BitVec.ofNat 32 b = BitVec.ofNat 32 (a ||| b)
  apply BitVec.eq_of_getLsbD_eq
  intro i hi
  simp [hi]
theorem nI_and (a b : Nat) : nI a &&& nI b = nI (a &&& b) := by
  apply Int32.toBitVec_inj.1
  show BitVec.ofNat 32 a &&& BitVec.ofNat 32 b = BitVec.ofNat 32 (a &&& b)
  apply BitVec.eq_of_getLsbD_eq
  intro i hi
  simp [hi]
theorem bit_n : ∀ k : Fin 31, (1 : Int32) <<< (nI k.val &&& 31) = nI (2 ^ k.val) := by decide +kernel
theorem bit_nI {k : Nat} (hk : k < 31) : (1 : Int32) <<< (nI k &&& 31) = nI (2 ^ k) := bit_n ⟨k, hk⟩
def cb (b : Nat → Bool) : Nat → Nat
  | 0 => 0
  | k + 1 => if b k = true then cb b k + 1 else cb b k
theorem cb_s {b : Nat → Bool} {k : Nat} : cb b (k + 1) = if b k = true then cb b k + 1 else cb b k := rfl
theorem cb_le (b : Nat → Bool) : ∀ n, cb b n ≤ n
  | 0 => Nat.le_refl _
  | k + 1 => by
    have := cb_le b k
    unfold cb
    split <;> omega
theorem cb_congr {b b' : Nat → Bool} : ∀ {n : Nat}, (∀ k, k < n → b k = b' k) → cb b n = cb b' n
  | 0, _ => rfl
  | n + 1, h => by
    unfold cb
    rw [h n (by omega), cb_congr (fun k hk => h k (by omega))]
theorem cb_out {b : Nat → Bool} {n : Nat} : ∀ {m : Nat}, n ≤ m → (∀ k, n ≤ k → b k = false) → cb b m = cb b n
  | 0, h, _ => by
    obtain rfl : n = 0 := by omega
    rfl
  | m + 1, h, hz => by
    by_cases e : n = m + 1
    · rw [e]
    · rw [cb_s, hz m (by omega), cb_out (by omega) hz]
      simp
/-- the set of those below n, as a number -/
def btn (b : Nat → Bool) : Nat → Nat
  | 0 => 0
  | k + 1 => if b k = true then btn b k ||| 2 ^ k else btn b k
theorem btn_bit {b : Nat → Bool} {i : Nat} : ∀ n, (btn b n).testBit i = (decide (i < n) && b i)
  | 0 => by simp [btn]
  | n + 1 => by
    unfold btn
    have ih := btn_bit (b := b) (i := i) n
    by_cases h : b n = true
    · rw [if_pos h, Nat.testBit_or, ih, Nat.testBit_two_pow]
      by_cases e : i = n
      · subst e; simp [h]
      · have : ¬ n = i := fun q => e q.symm
        simp only [this, decide_false, Bool.or_false]
        congr 1
        exact decide_eq_decide.mpr (by omega)
    · rw [if_neg h, ih]
      by_cases e : i = n
      · subst e
        have : b i = false := by cases hh : b i <;> simp_all
        simp [this]
      · congr 1
        exact decide_eq_decide.mpr (by omega)
theorem btn_lt {b : Nat → Bool} (n : Nat) : btn b n < 2 ^ n := by
  apply Nat.lt_pow_two_of_testBit
  intro i hi
  rw [btn_bit]
  simp; omega
theorem bts_n {b : Nat → Bool} : ∀ {n : Nat}, n ≤ 31 → bts b n = nI (btn b n)
  | 0, _ => rfl
  | n + 1, h => by
    unfold bts btn
    rw [bts_n (n := n) (by omega)]
    split
    · rw [bit_nI (by omega), nI_or]
    · rfl
theorem btn_inj {b b' : Nat → Bool} {n : Nat} (h : btn b n = btn b' n) : ∀ k, k < n → b k = b' k := by
  intro k hk
  have h1 := btn_bit (b := b) (i := k) n
  rw [h, btn_bit] at h1
  simp only [hk, decide_true, Bool.true_and] at h1
  exact h1.symm
/-- every number is such a set -/
theorem btn_of {x n : Nat} (h : x < 2 ^ n) : btn (fun k => x.testBit k) n = x := by
  apply Nat.eq_of_testBit_eq
  intro i
  rw [btn_bit]
  by_cases hi : i < n
  · simp [hi]
  · rw [Nat.testBit_lt_two_pow (Nat.lt_of_lt_of_le h (Nat.pow_le_pow_right (by omega) (by omega)))]
    simp [hi]
def jb1 (x : Int32) : Int32 := x - ((rt_ushr x 1) &&& 1431655765)
def jb2 (x : Int32) : Int32 := (jb1 x &&& 858993459) + ((rt_ushr (jb1 x) 2) &&& 858993459)
def jb3 (x : Int32) : Int32 := (jb2 x + rt_ushr (jb2 x) 4) &&& 252645135
def jb4 (x : Int32) : Int32 := jb3 x + rt_ushr (jb3 x) 8
def jb (x : Int32) : Int32 := (jb4 x + rt_ushr (jb4 x) 16) &&& 63
set_option maxRecDepth 20000 in
theorem jb_dec : ∀ k : Fin 4096, jb (nI k.val) = nI (cb (fun i => k.val.testBit i) 12) := by decide +kernel
theorem jb_btn {b : Nat → Bool} {n : Nat} (hn : n ≤ 12) : jb (nI (btn b n)) = nI (cb b n) := by
  have hlt : btn b n < 4096 := Nat.lt_of_lt_of_le (btn_lt n) (Nat.pow_le_pow_right (by omega) hn)
  rw [jb_dec ⟨btn b n, hlt⟩]
  congr 1
  dsimp only
  rw [cb_out (n := n) (by omega) (fun k hk => by rw [btn_bit]; simp; omega)]
  exact cb_congr (fun k hk => by rw [btn_bit]; simp [hk])
section
variable {G : rt_G} {d : Nat} {Q : rt_Q} {I : rt_I} {L : rt_L} {r : Nat}
theorem sJ6_bitCount {b : Nat → Bool} {n : Nat} {x : Int32} (hx : x = nI (btn b n)) (hn : n ≤ 12) (hQ : Q (nI (cb b n)) I L r) : rt_Call G d kJ6_bitCount_0f7a4 [.int x] I L r Q := by
  refine v_J6_bitCount_0f7a4 _ _ _ _ ?_
  rw [← jb_btn hn, ← hx] at hQ
  exact hQ
end
