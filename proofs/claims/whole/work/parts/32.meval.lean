/-! THE MODEL: numbers, the rule as it is held -/
abbrev RR : Type := Int32 × Nat × Option Nat
def nmR (c : Nat → Int32) (k p : Nat) (w : Option Nat) : RR := if w = none ∧ dg (c p) = true then ((nmv c k p 0).1, (nmv c k p 0).2, none) else (0, p, w.or (some p))
theorem nmv_le (c : Nat → Int32) : ∀ (k p : Nat) (a : Int32), p ≤ (nmv c k p a).2 ∧ (nmv c k p a).2 ≤ p + k
  | 0, p, a => ⟨Nat.le_refl _, Nat.le_refl _⟩
  | k + 1, p, a => by
    unfold nmv
    split
    · have := nmv_le c k (p + 1) (a * 10 + c p - 48)
      omega
    · exact ⟨Nat.le_refl _, by omega⟩
theorem dg_lt {f : Nat → Int32} {l p : Nat} (h : dg (ch f l p) = true) : p < l := by
  unfold ch at h
  by_cases hl : p < l
  · exact hl
  · rw [if_neg hl] at h
    exact absurd h (by decide)
theorem nmv_lt {f : Nat → Int32} {l : Nat} : ∀ (k p : Nat) (a : Int32), p ≤ l → (nmv (ch f l) k p a).2 ≤ l
  | 0, p, a, h => h
  | k + 1, p, a, h => by
    unfold nmv
    split
    · rename_i q
      exact nmv_lt k (p + 1) _ (dg_lt q)
    · exact h
section
variable {G : rt_G} {d : Nat} {Q : rt_Q} {L : rt_L} {r n : Nat} {J : rt_I} {b l p : Nat} {w : Option Nat}
theorem num_eq (a c : Int32) : 10 * a + (c - 48) = a * 10 + c - 48 := by
  rw [Int32.mul_comm 10 a, Int32.sub_eq_add_neg, Int32.sub_eq_add_neg, Int32.add_assoc]
theorem sX12_number {k : Nat} (hk : 0 < k) (hk9 : k < 10) (hR : Rd J b l r) (hB : ∀ i, byok (J b i)) (hp : p < 900) (hw : wok w)
    (hQ : Q (nmR (mch J b l) k p w).1 (mp J (nmR (mch J b l) k p w).2.1 (nmR (mch J b l) k p w).2.2) L r) : rt_Call G (d + 4) kX12_number [.ref 108, .int (nI k)] (mp J p w) L r Q := by
  unfold nmR at hQ
  have key : ∀ (m i : Nat) (a : Int32) (p : Nat), i + m = k → p < 900 + i → Q (nmv (mch J b l) m p a).1 (mp J (nmv (mch J b l) m p a).2 none) L r → rt_AW G (d + 4) kX12_number Q 8 [some (.ref 108), some (.int (nI k)), some (.int a), some (.int (nI i))] [] (mp J p none) L r := by
    intro m
    induction m with
    | zero =>
      intro i a p hi hp hq2
      obtain rfl : i = k := by omega
      exact v_X12_number_8 _ _ _ _ _ _ ⟨fun _ => hq2, fun z => absurd (Int32.le_refl _) z⟩
    | succ m ih =>
      intro i a p hi hp hq2
      have hn : wok none := fun q hq => by cases hq
      refine v_X12_number_8 _ _ _ _ _ _ ⟨fun z => absurd ((nI_leI (by omega) (by omega)).mp z) (by omega), fun _ => sX12_fine hn (fun _ => ⟨fun y => absurd y (by decide), fun _ => sX12_here hR (by omega) (sX12_in (fun q => ⟨fun y => absurd y (by decide), fun _ => ?_⟩) (fun q => ⟨fun _ => ?_, fun y => absurd rfl y⟩))⟩) (fun y => absurd rfl y)⟩
      · have hd : dg (mch J b l p) = true := (dg_iff _).mpr q
        refine sX12_digit (low := 0) (by omega) hR hB (by omega) hn (fun _ _ => ?_) (fun z => absurd ⟨rfl, by rw [dgl_0]; exact hd⟩ z)
        rw [num_eq, nI_1]
        unfold nmv at hq2
        rw [if_pos hd] at hq2
        exact ih (i + 1) _ (p + 1) (by omega) (by omega) hq2
      · unfold nmv at hq2
        rw [if_neg (mt (dg_iff _).mp q)] at hq2
        exact hq2
  refine v_X12_number _ _ _ _ (sX12_digit (low := 0) (by omega) hR hB (by omega) hw (fun z y => ?_) (fun z => ?_))
  · subst z
    rw [dgl_0] at y
    rw [if_pos ⟨rfl, y⟩] at hQ
    obtain ⟨m, rfl⟩ : ∃ m, k = m + 1 := ⟨k - 1, by omega⟩
    refine key m 1 _ (p + 1) (by omega) (by omega) ?_
    unfold nmv at hQ
    rw [if_pos y] at hQ
    rw [show (0 : Int32) * 10 + mch J b l p - 48 = mch J b l p - 48 by rw [Int32.zero_mul, Int32.zero_add]] at hQ
    exact hQ
  · rw [dgl_0] at z
    rw [if_neg z] at hQ
    have hw2 : wok (w.or (some p)) := by
      intro q hq
      cases w with
      | none => cases hq; omega
      | some x => exact hw q hq
    by_cases h1 : k ≤ 1
    · exact v_X12_number_8 _ _ _ _ _ _ ⟨fun _ => hQ, fun y => absurd ((n_le (a := k) (b := 1) rfl rfl (by omega) (by omega)).mpr h1) y⟩
    · refine v_X12_number_8 _ _ _ _ _ _ ⟨fun y => absurd ((n_le (a := k) (b := 1) rfl rfl (by omega) (by omega)).mp y) h1, fun _ => sX12_fine hw2 (fun y => ?_) (fun y => ⟨fun _ => hQ, fun y => absurd rfl y⟩)⟩
      cases w <;> cases y
theorem wok_or {w : Option Nat} {p : Nat} (hw : wok w) (hp : p < 1000) : wok (w.or (some p)) := by
  intro q hq
  cases w with
  | none => cases hq; omega
  | some x => exact hw q hq
theorem nmR_ok {c : Nat → Int32} {k p : Nat} {w : Option Nat} (hw : wok w) (hp : p < 1000) : wok (nmR c k p w).2.2 := by
  unfold nmR
  split
  · exact fun q hq => by cases hq
  · exact wok_or hw hp
/-- a number that must lie between two bounds; else it is wrong at its last digit -/
def nbR (c : Nat → Int32) (lo hi : Int32) (p : Nat) (w : Option Nat) : RR :=
  if (nmR c 2 p w).2.2 = none ∧ ¬ (¬ (nmR c 2 p w).1 < lo ∧ ¬ hi < (nmR c 2 p w).1) then ((nmR c 2 p w).1, (nmR c 2 p w).2.1, some ((nmR c 2 p w).2.1 - 1)) else nmR c 2 p w
theorem nmR_pos {c : Nat → Int32} {k p : Nat} {w : Option Nat} (hk : 0 < k) (h : (nmR c k p w).2.2 = none) : p < (nmR c k p w).2.1 := by
  unfold nmR at *
  split at h
  · rename_i q
    rw [if_pos q]
    obtain ⟨m, rfl⟩ : ∃ m, k = m + 1 := ⟨k - 1, by omega⟩
    show p < (nmv c (m + 1) p 0).2
    unfold nmv
    rw [if_pos q.2]
    have := nmv_le c m (p + 1) (0 * 10 + c p - 48)
    omega
  · cases w <;> cases h
theorem nmR_le {c : Nat → Int32} {k p : Nat} {w : Option Nat} : p ≤ (nmR c k p w).2.1 ∧ (nmR c k p w).2.1 ≤ p + k := by
  unfold nmR
  split
  · exact nmv_le c k p 0
  · exact ⟨Nat.le_refl _, by show p ≤ p + k; omega⟩
theorem sX12_number_ {lo hi : Int32} (hR : Rd J b l r) (hB : ∀ i, byok (J b i)) (hp : p < 900) (hw : wok w)
    (hQ : Q (nbR (mch J b l) lo hi p w).1 (mp J (nbR (mch J b l) lo hi p w).2.1 (nbR (mch J b l) lo hi p w).2.2) L r) : rt_Call G (d + 5) kX12_number_ [.ref 108, .int lo, .int hi] (mp J p w) L r Q := by
  have hok := nmR_ok (c := mch J b l) (k := 2) hw (p := p) (by omega)
  have hpos := nmR_pos (c := mch J b l) (k := 2) (p := p) (w := w) (by omega)
  have hle := nmR_le (c := mch J b l) (k := 2) (p := p) (w := w)
  unfold nbR at hQ
  refine v_X12_number_ _ _ _ _ _ (sX12_number (k := 2) (by omega) (by omega) hR hB hp hw (sX12_fine hok (fun z => ⟨fun y => absurd y (by decide), fun _ => sX12_in (fun q => ⟨fun _ => ?_, fun y => absurd y (by decide)⟩) (fun q => ⟨fun y => absurd rfl y, fun _ => ?_⟩)⟩) (fun z => ⟨fun _ => ?_, fun y => absurd rfl y⟩)))
  · rw [if_neg (fun y => y.2 q)] at hQ
    exact hQ
  · rw [if_pos ⟨z, q⟩] at hQ
    have h1 := hpos z
    generalize nmR (mch J b l) 2 p w = R at *
    obtain ⟨v, p', w'⟩ := R
    dsimp only at *
    subst z
    rw [show (mp J p' none) 108 18 - 1 = nI (p' - 1) from by
      show nI p' - 1 = _
      obtain ⟨m, rfl⟩ : ∃ m, p' = m + 1 := ⟨p' - 1, by omega⟩
      exact nI_pred m]
    exact sX12_fault hok hQ
  · rw [if_neg (fun y => z y.1)] at hQ
    exact hQ
end
