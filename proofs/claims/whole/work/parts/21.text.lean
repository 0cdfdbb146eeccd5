/-! THE TEXT of the class -/
def ch (f : Nat → Int32) (l p : Nat) : Int32 := if p < l then f p else -1
def dg (v : Int32) : Bool := decide (48 ≤ v) && decide (v ≤ 57)
def nmv (c : Nat → Int32) : Nat → Nat → Int32 → Int32 × Nat
  | 0, p, a => (a, p)
  | k + 1, p, a => if dg (c p) = true then nmv c k (p + 1) (a * 10 + c p - 48) else (a, p)
abbrev xp (J : rt_I) (p : Nat) : rt_I := rt_u J 1 2 (nI p)
theorem xp_u (J : rt_I) (p c j : Nat) (v : Int32) (h : c ≠ 1 ∨ j ≠ 2) : rt_u (xp J p) c j v = xp (rt_u J c j v) p := rt_u_c (h.imp Ne.symm Ne.symm)
theorem dg_iff (v : Int32) : dg v = true ↔ (¬ v < 48 ∧ ¬ 57 < v) := by
  unfold dg
  simp [Int32.not_lt]
section
variable {G : rt_G} {d : Nat} {Q : rt_Q} {J : rt_I} {L : rt_L} {r l p : Nat}
theorem sX7_peek (hl : J 1 3 = nI l) (h8 : l ≤ 80) (hp : p < 1000) (hQ : Q (ch (J 2) l p) (xp J p) L r) : rt_Call G d kX7_peek [.ref 1] (xp J p) L r Q := by
  refine v_X7_peek _ _ _ ⟨fun h => absurd h (n_neg (by omega)), fun h => ⟨fun h2 => ?_, fun h2 => ⟨vp_nI (n := p) rfl ?_ (by omega), ?_⟩⟩⟩
  · have h3 := (n_le (a := l) (b := p) hl rfl (by omega) (by omega)).mp h2
    rw [show ch (J 2) l p = -1 from if_neg (by omega)] at hQ
    exact hQ
  · have h3 := mt (n_le (a := l) (b := p) hl rfl (by omega) (by omega)).mpr h2
    omega
  · have h3 := mt (n_le (a := l) (b := p) hl rfl (by omega) (by omega)).mpr h2
    rw [show ch (J 2) l p = J 2 p from if_pos (by omega)] at hQ
    show Q (J 2 (nI p).toNatClampNeg) _ _ _
    rw [nI_clamp (by omega)]
    exact hQ
theorem xp_inc (J : rt_I) (p : Nat) : rt_u (xp J p) 1 2 (xp J p 1 2 + 1) = xp J (p + 1) := by
  rw [show xp J p 1 2 = nI p from rfl, nI_1, rt_u_u]
theorem sX7_take {c : Int32} (hl : J 1 3 = nI l) (h8 : l ≤ 80) (hp : p < 1000) (h1 : ch (J 2) l p = c → Q 1 (xp J (p + 1)) L r) (h0 : ¬ ch (J 2) l p = c → Q 0 (xp J p) L r) : rt_Call G (d + 1) kX7_take [.ref 1, .int c] (xp J p) L r Q := by
  refine v_X7_take _ _ _ _ (sX7_peek hl h8 hp ⟨fun h => ?_, fun h => h0 h⟩)
  rw [xp_inc]
  exact h1 h
theorem sX7_isDigit (hl : J 1 3 = nI l) (h8 : l ≤ 80) (hp : p < 1000) (h1 : dg (ch (J 2) l p) = true → Q 1 (xp J p) L r) (h0 : ¬ dg (ch (J 2) l p) = true → Q 0 (xp J p) L r) : rt_Call G (d + 1) kX7_isDigit [.ref 1] (xp J p) L r Q := by
  refine v_X7_isDigit _ _ _ (sX7_peek hl h8 hp ⟨fun h => h0 (fun q => ((dg_iff _).mp q).1 h), fun h => sX7_peek hl h8 hp ⟨fun h2 => h0 (fun q => ((dg_iff _).mp q).2 h2), fun h2 => h1 ((dg_iff _).mpr ⟨h, h2⟩)⟩⟩)
theorem sX7_takeNumber {k : Nat} (hk : k < 10) (hl : J 1 3 = nI l) (h8 : l ≤ 80) (hp : p < 100) (h0 : ¬ dg (ch (J 2) l p) = true → Q (-1) (xp J p) L r) (h1 : dg (ch (J 2) l p) = true → Q (nmv (ch (J 2) l) k p 0).1 (xp J (nmv (ch (J 2) l) k p 0).2) L r) : rt_Call G (d + 2) kX7_takeNumber [.ref 1, .int (nI k)] (xp J p) L r Q := by
  refine v_X7_takeNumber _ _ _ _ (sX7_isDigit hl h8 (by omega) (fun q => ⟨fun _ => ?_, fun z => absurd z (by decide)⟩) (fun q => ⟨fun z => absurd rfl z, fun _ => h0 q⟩))
  have key : ∀ (m i : Nat) (a : Int32) (p : Nat), i + m = k → p < 100 + i → Q (nmv (ch (J 2) l) m p a).1 (xp J (nmv (ch (J 2) l) m p a).2) L r → rt_AW G (d + 2) kX7_takeNumber Q 13 [some (.ref 1), some (.int (nI k)), some (.int a), some (.int (nI i))] [] (xp J p) L r := by
    intro m
    induction m with
    | zero =>
      intro i a p hi hp hQ
      obtain rfl : i = k := by omega
      exact v_X7_takeNumber_13 _ _ _ _ _ _ ⟨fun _ => hQ, fun z => absurd (Int32.le_refl _) z⟩
    | succ m ih =>
      intro i a p hi hp hQ
      refine v_X7_takeNumber_13 _ _ _ _ _ _ ⟨fun z => absurd ((nI_leI (by omega) (by omega)).mp z) (by omega), fun _ => sX7_isDigit hl h8 (by omega) (fun q => ⟨fun z => absurd z (by decide), fun _ => sX7_peek hl h8 (by omega) ?_⟩) (fun q => ⟨fun _ => ?_, fun z => absurd rfl z⟩)⟩
      · rw [xp_inc, nI_1]
        refine ih (i + 1) _ (p + 1) (by omega) (by omega) ?_
        unfold nmv at hQ
        rw [if_pos q] at hQ
        exact hQ
      · unfold nmv at hQ
        rw [if_neg q] at hQ
        exact hQ
  exact key k 0 0 p (by omega) (by omega) (h1 q)
theorem sX7_takeLetter {b : Int32} (hl : J 1 3 = nI l) (h8 : l ≤ 80) (hp : p < 1000) (h1 : ¬ ch (J 2) l p - 97 < 0 → ch (J 2) l p - 97 < b → Q (ch (J 2) l p - 97) (xp J (p + 1)) L r) (h0 : ¬ (¬ ch (J 2) l p - 97 < 0 ∧ ch (J 2) l p - 97 < b) → Q (-1) (xp J p) L r) : rt_Call G (d + 1) kX7_takeLetter [.ref 1, .int b] (xp J p) L r Q := by
  refine v_X7_takeLetter _ _ _ _ (sX7_peek hl h8 hp ⟨fun h => h0 (fun q => q.1 h), fun h => ⟨fun h2 => ?_, fun h2 => h0 (fun q => h2 q.2)⟩⟩)
  rw [xp_inc]
  exact h1 h h2
theorem sX7_behindLine (hl : J 1 3 = nI l) (h8 : l ≤ 80) (hp : p < 1000) (h1 : ch (J 2) l p = 59 → Q 1 (xp J (p + 1)) L r) (h2 : ch (J 2) l p = -1 → Q 0 (xp J p) L r) (h3 : ¬ ch (J 2) l p = 59 → ¬ ch (J 2) l p = -1 → Q (-1) (xp J p) L r) : rt_Call G (d + 2) kX7_behindLine [.ref 1] (xp J p) L r Q := by
  refine v_X7_behindLine _ _ _ (sX7_take hl h8 hp (fun q => ⟨fun z => absurd z (by decide), fun _ => h1 q⟩) (fun q => ⟨fun _ => sX7_peek hl h8 hp ⟨fun z => h3 q z, fun z => h2 z⟩, fun z => absurd rfl z⟩))
theorem sX7_clear {I : rt_I} (hQ : Q 0 (rt_u I 1 1 0) L r) : rt_Call G d kX7_clear [.ref 1] I L r Q := v_X7_clear _ _ _ hQ
theorem sX7_open {I : rt_I} {n m : Nat} (hn : I 1 1 = nI n) (h1 : n < 1000) (h2 : m < 1000) (hQ : Q 0 (xp (rt_u I 1 3 (nI (min n m))) 0) L r) : rt_Call G (d + 1) kX7_open [.ref 1, .int (nI m)] I L r Q := by
  refine v_X7_open _ _ _ _ ?_
  have e : rt_min (I 1 1) (nI m) = nI (min n m) := by
    unfold rt_min
    rw [hn]
    by_cases h : m < n
    · rw [if_pos (nI_lt h (by omega)), Nat.min_eq_right (by omega)]
    · rw [if_neg (nI_nlt (by omega) (by omega)), Nat.min_eq_left (by omega)]
  rw [e, rt_u_c (Or.inr (by decide))]
  exact hQ
theorem sX7_isAllRead {n : Nat} (hn : J 1 1 = nI n) (h1 : n < 1000) (hp : p < 1000) (ht : p = n → Q 1 (xp J p) L r) (hf : ¬ p = n → Q 0 (xp J p) L r) : rt_Call G d kX7_isAllRead [.ref 1] (xp J p) L r Q :=
  v_X7_isAllRead _ _ _ ⟨fun z => hf (mt (n_eq (a := p) (b := n) rfl hn (by omega) (by omega)).mpr z), fun z => ht ((n_eq (a := p) (b := n) rfl hn (by omega) (by omega)).mp z)⟩
/-! the ROW of the class -/
theorem sX5_clear {I : rt_I} (hQ : Q 0 (rt_u I 42 1 0) L r) : rt_Call G d kX5_clear [.ref 42] I L r Q := v_X5_clear _ _ _ hQ
theorem sX5_add {I : rt_I} {n : Nat} {v : Int32} (hn : I 42 1 = nI n) (h16 : n < 16) (hQ : Q 0 (rt_u (rt_u I 43 n v) 42 1 (nI (n + 1))) L r) : rt_Call G d kX5_add [.ref 42, .int v] I L r Q := by
  refine v_X5_add _ _ _ _ ⟨fun z => absurd ((n_le (a := 16) (b := n) rfl hn (by omega) (by omega)).mp z) (by omega), fun _ => ⟨vp_nI hn h16 (by omega), ?_⟩⟩
  rw [hn, nI_clamp (by omega), nI_1]
  exact hQ
end
