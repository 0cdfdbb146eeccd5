/-! loops, numbers, memory -/
theorem rt_down {P : Nat → Prop} {n : Nat} (hend : P n) (hstep : ∀ k, k < n → P (k + 1) → P k) : ∀ k, k ≤ n → P k := by
  have h : ∀ m k, k + m = n → P k := by
    intro m
    induction m with
    | zero => intro k hk; obtain rfl : k = n := by omega
              exact hend
    | succ m ih => intro k hk; exact hstep k (by omega) (ih (k + 1) (by omega))
  exact fun k hk => h (n - k) k (by omega)
theorem rt_loop {P : Nat → Prop} (n : Nat) (hend : P n) (hstep : ∀ k, k < n → P (k + 1) → P k) : P 0 := rt_down hend hstep 0 (Nat.zero_le _)
theorem nl (b : Nat) : (OfNat.ofNat b : Int32) = nI b := rfl
theorem n_al (a b : Nat) : nI a + (OfNat.ofNat b : Int32) = nI (a + b) := nI_add a b
theorem n_la (a b : Nat) : (OfNat.ofNat a : Int32) + nI b = nI (a + b) := nI_add a b
theorem n_ml (a b : Nat) : nI a * (OfNat.ofNat b : Int32) = nI (a * b) := pk_mul a b
theorem n_lm (a b : Nat) : (OfNat.ofNat a : Int32) * nI b = nI (a * b) := pk_mul a b
theorem n_sl {a b : Nat} (h : b ≤ a) : nI a - (OfNat.ofNat b : Int32) = nI (a - b) := pk_sub h
theorem vp_nI {x : Int32} {n N : Nat} (h : x = nI n) (hn : n < N) (hN : N < 2 ^ 31) : vp_in x N := by rw [h]; exact vp_in_nI hn hN
theorem n_lt {a b : Nat} {x y : Int32} (hx : x = nI a) (hy : y = nI b) (ha : a < 2 ^ 31) (hb : b < 2 ^ 31) : x < y ↔ a < b := by rw [hx, hy]; exact nI_ltI ha hb
theorem n_le {a b : Nat} {x y : Int32} (hx : x = nI a) (hy : y = nI b) (ha : a < 2 ^ 31) (hb : b < 2 ^ 31) : x ≤ y ↔ a ≤ b := by rw [hx, hy]; exact nI_leI ha hb
theorem n_eq {a b : Nat} {x y : Int32} (hx : x = nI a) (hy : y = nI b) (ha : a < 2 ^ 31) (hb : b < 2 ^ 31) : x = y ↔ a = b := by rw [hx, hy]; exact nI_eq ha hb
theorem n_neg {a : Nat} (ha : a < 2 ^ 31) : ¬ nI a < 0 := nI_pos ha
theorem n_ne1 {a : Nat} (ha : a < 2 ^ 31) : ¬ nI a = -1 := by
  intro h
  have h1 := congrArg Int32.toInt h
  rw [nI_toInt ha] at h1
  have : ((-1 : Int32).toInt) = -1 := by decide
  omega
theorem n_1lt {a : Nat} (ha : a < 2 ^ 31) : (-1 : Int32) < nI a := by
  rw [Int32.lt_iff_toInt_lt, nI_toInt ha]
  have : ((-1 : Int32).toInt) = -1 := by decide
  omega
theorem rt_u_ap (I : rt_I) (c j : Nat) (v : Int32) (c' j' : Nat) : rt_u I c j v c' j' = if c' = c ∧ j' = j then v else I c' j' := by
  unfold rt_u upd
  by_cases h1 : c' = c
  · subst h1
    by_cases h2 : j' = j <;> simp [h2]
  · simp [h1]
theorem rt_u_id {I : rt_I} {c j : Nat} {v : Int32} (h : I c j = v) : rt_u I c j v = I := by
  funext c' j'
  rw [rt_u_ap]
  split
  · rename_i q; rw [q.1, q.2, h]
  · rfl
theorem rt_u_u {I : rt_I} {c j : Nat} {v w : Int32} : rt_u (rt_u I c j v) c j w = rt_u I c j w := by
  funext c' j'
  rw [rt_u_ap, rt_u_ap, rt_u_ap]
  split <;> rfl
theorem rt_u_c {I : rt_I} {c j c2 j2 : Nat} {v w : Int32} (h : c ≠ c2 ∨ j ≠ j2) : rt_u (rt_u I c j v) c2 j2 w = rt_u (rt_u I c2 j2 w) c j v := by
  funext c' j'
  rw [rt_u_ap, rt_u_ap, rt_u_ap, rt_u_ap]
  by_cases h1 : c' = c2 ∧ j' = j2
  · by_cases h2 : c' = c ∧ j' = j
    · exfalso
      rcases h with h | h
      · exact h (h2.1.symm.trans h1.1)
      · exact h (h2.2.symm.trans h1.2)
    · simp [h1, h2]
      intro a b
      exact absurd ⟨h1.1.trans a, h1.2.trans b⟩ h2
  · simp [h1]
theorem rt_u_at {I : rt_I} {c j : Nat} {v : Int32} : rt_u I c j v c j = v := by rw [rt_u_ap]; simp
theorem rt_u_n {I : rt_I} {c j c' j' : Nat} {v : Int32} (h : c' ≠ c ∨ j' ≠ j) : rt_u I c j v c' j' = I c' j' := by
  rw [rt_u_ap, if_neg]
  rintro ⟨a, b⟩
  rcases h with h | h
  · exact h a
  · exact h b
theorem rt_uA_ap (I : rt_I) (c : Nat) (f : Nat → Int32) (c' j' : Nat) : rt_uA I c f c' j' = if c' = c then f j' else I c' j' := by
  unfold rt_uA
  by_cases h1 : c' = c <;> simp [h1]
theorem rt_uA_id {I : rt_I} {c : Nat} {f : Nat → Int32} (h : I c = f) : rt_uA I c f = I := by
  funext c' j'
  rw [rt_uA_ap]
  split
  · rename_i q; rw [q, h]
  · rfl
