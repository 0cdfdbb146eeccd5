/-! flats(): lines, read to drafts -/
def c8 (c : Nat → Int32) : Prop := ∀ p, c p = -1 ∨ ∃ b, b < 256 ∧ c p = nI b
theorem c8_tx {tx : TXT} (h : tok tx) (k : Nat) : c8 (txc tx k) := by
  intro p
  unfold txc ch
  split
  · exact Or.inr (h.2 p (by omega))
  · exact Or.inl rfl
theorem ch_in {f : Nat → Int32} {l p : Nat} (h : ¬ ch f l p = -1) : p < l := by
  rcases Nat.lt_or_ge p l with z | z
  · exact z
  · exact absurd (by unfold ch; rw [if_neg (by omega)]) h
theorem inb_neg {n : Nat} : inb ((-1 : Int32) - 97) n = false := by
  unfold inb
  rw [show decide (¬ (-1 : Int32) - 97 < 0) = false by decide]
  rfl
theorem o_dec : ∀ (b : Fin 256) (k : Fin 9), (¬ nI b.val < nI 97 ∧ ¬ nI 97 + nI k.val - 1 < nI b.val ∧ ¬ nI b.val - nI 97 = -1) ↔ inb (nI b.val - 97) k.val = true := by decide +kernel
theorem g_dec : ∀ b : Fin 256, dgl (nI b.val) 1 = true ↔ (dg (nI b.val) = true ∧ ¬ nI b.val = 48) := by decide +kernel
theorem o_in {x : Int32} {k : Nat} (hx : x = -1 ∨ ∃ b, b < 256 ∧ x = nI b) (hk : k ≤ 8) : oOK x 97 k (-1) ↔ inb (x - 97) k = true := by
  rcases hx with rfl | ⟨b, hb, rfl⟩
  · rw [inb_neg]
    exact ⟨fun h => absurd (by decide) h.1, fun h => by cases h⟩
  · exact o_dec ⟨b, hb⟩ ⟨k, by omega⟩
theorem g_in {x : Int32} (hx : x = -1 ∨ ∃ b, b < 256 ∧ x = nI b) : dgl x 1 = true ↔ (dg x = true ∧ ¬ x = 48) := by
  rcases hx with rfl | ⟨b, hb, rfl⟩
  · decide
  · exact g_dec ⟨b, hb⟩
def DFT : Type := (Nat × Nat) × (Nat → Int32) × (Nat → Int32) × (Nat → Int32) × MO
def mkD (np nr : Nat) (ph st rh : Nat → Int32) (e : MO) : DFT := ((np, nr), ph, st, rh, e)
def DFT.np (D : DFT) : Nat := D.1.1
def DFT.nr (D : DFT) : Nat := D.1.2
def DFT.ph (D : DFT) : Nat → Int32 := D.2.1
def DFT.st (D : DFT) : Nat → Int32 := D.2.2.1
def DFT.rh (D : DFT) : Nat → Int32 := D.2.2.2.1
def DFT.e (D : DFT) : MO := D.2.2.2.2
def lnF (c : Nat → Int32) (p : Nat) (D : DFT) : Nat × Option DFT :=
  if c p = 112 then
    if 8 ≤ D.np then (p, none)
    else if dg (c (p + 1)) = true then ((nmv c 2 (p + 1) 0).2, some (mkD (D.np + 1) D.nr (upd D.ph D.np (nmv c 2 (p + 1) 0).1) D.st D.rh D.e))
    else (p + 1, none)
  else if ¬ (¬ 12 ≤ D.nr ∧ c p = 114) then (p, none)
  else if ¬ inb (c (p + 1) - 97) D.np = true then (p + 1, none)
  else if ¬ (inb (c (p + 2) - 97) D.np = true ∧ ¬ c (p + 2) = c (p + 1)) then (p + 2, none)
  else if ¬ (dg (c (p + 3)) = true ∧ ¬ c (p + 3) = 48) then (p + 3, none)
  else if ¬ c (p + 4) = 45 then (p + 4, none)
  else if ¬ dg (c (p + 5)) = true then (p + 5, none)
  else ((nmv c 2 (p + 5) 0).2, some (mkD D.np (D.nr + 1) D.ph (upd D.st D.nr (c (p + 3) - 48)) (upd D.rh D.nr (nmv c 2 (p + 5) 0).1) (upd (upd D.e (40 + 2 * D.nr) (c (p + 1) - 97)) (41 + 2 * D.nr) (c (p + 2) - 97))))
def lnsF (c : Nat → Int32) : Nat → Nat → Nat → DFT → Nat × Option (Nat × DFT)
  | 0, p, _, _ => (p, none)
  | F + 1, p, k, D => match lnF c p D with
    | (q, none) => (q, none)
    | (q, some D') => if c q = 59 then lnsF c F (q + 1) (k + 1) D' else if c q = -1 then (q, some (k, D')) else (q, none)
def dok (s : SV) (m : MO) (D : DFT) : Prop := s.np ≤ D.np ∧ D.np ≤ 8 ∧ s.nr ≤ D.nr ∧ D.nr ≤ 12 ∧ AG s.np D.ph s.ph ∧ AG s.nr D.st s.st ∧ AG s.nr D.rh s.rh ∧ (∀ j, (j < 40 + 2 * s.nr ∨ 64 ≤ j) → D.e j = m j) ∧
  ∀ w, s.nr ≤ w → w < D.nr → ∃ a b, a < D.np ∧ b < D.np ∧ a ≠ b ∧ D.e (40 + 2 * w) = nI a ∧ D.e (41 + 2 * w) = nI b
theorem inb_ex {x : Int32} {n : Nat} (hn : n < 1000) (h : inb x n = true) : ∃ a, a < n ∧ x = nI a := (inr_iff hn).mp (inb_iff.mp h)
theorem lnF_pos {f : Nat → Int32} {l p q : Nat} {D : DFT} {o : Option DFT} (hp : p ≤ l) (h : lnF (ch f l) p D = (q, o)) : q ≤ l ∧ p ≤ q ∧ (¬ o = none → p < q) := by
  have hne : ∀ {x : Nat} {v : Int32}, ch f l x = v → ¬ v = -1 → x < l := fun e1 e2 => ch_in (fun e => e2 (e1.symm.trans e))
  have hinb : ∀ {x n : Nat}, inb (ch f l x - 97) n = true → x < l := fun e1 => ch_in (fun e => by rw [e, inb_neg] at e1; cases e1)
  unfold lnF at h
  by_cases z1 : ch f l p = 112
  · have := hne z1 (by decide)
    rw [if_pos z1] at h
    by_cases z2 : 8 ≤ D.np
    · rw [if_pos z2] at h
      cases h
      exact ⟨by omega, by omega, fun e => absurd rfl e⟩
    · rw [if_neg z2] at h
      by_cases z3 : dg (ch f l (p + 1)) = true
      · rw [if_pos z3] at h
        have h1 := nmv_lt (f := f) (l := l) 2 (p + 1) 0 (by omega)
        have h2 := nmv_le (ch f l) 2 (p + 1) 0
        cases h
        exact ⟨by omega, by omega, fun _ => by omega⟩
      · rw [if_neg z3] at h
        cases h
        exact ⟨by omega, by omega, fun e => absurd rfl e⟩
  rw [if_neg z1] at h
  by_cases z2 : ¬ 12 ≤ D.nr ∧ ch f l p = 114
  rotate_left
  · rw [if_pos z2] at h
    cases h
    exact ⟨by omega, by omega, fun e => absurd rfl e⟩
  rw [if_neg (not_not_intro z2)] at h
  have i1 := hne z2.2 (by decide)
  by_cases z3 : inb (ch f l (p + 1) - 97) D.np = true
  rotate_left
  · rw [if_pos z3] at h
    cases h
    exact ⟨by omega, by omega, fun e => absurd rfl e⟩
  rw [if_neg (not_not_intro z3)] at h
  have i2 := hinb z3
  by_cases z4 : inb (ch f l (p + 2) - 97) D.np = true ∧ ¬ ch f l (p + 2) = ch f l (p + 1)
  rotate_left
  · rw [if_pos z4] at h
    cases h
    exact ⟨by omega, by omega, fun e => absurd rfl e⟩
  rw [if_neg (not_not_intro z4)] at h
  have i3 := hinb z4.1
  by_cases z5 : dg (ch f l (p + 3)) = true ∧ ¬ ch f l (p + 3) = 48
  rotate_left
  · rw [if_pos z5] at h
    cases h
    exact ⟨by omega, by omega, fun e => absurd rfl e⟩
  rw [if_neg (not_not_intro z5)] at h
  have i4 := dg_lt z5.1
  by_cases z6 : ch f l (p + 4) = 45
  rotate_left
  · rw [if_pos z6] at h
    cases h
    exact ⟨by omega, by omega, fun e => absurd rfl e⟩
  rw [if_neg (not_not_intro z6)] at h
  have i5 := hne z6 (by decide)
  by_cases z7 : dg (ch f l (p + 5)) = true
  rotate_left
  · rw [if_pos z7] at h
    cases h
    exact ⟨by omega, by omega, fun e => absurd rfl e⟩
  rw [if_neg (not_not_intro z7)] at h
  have h1 := nmv_lt (f := f) (l := l) 2 (p + 5) 0 (by omega)
  have h2 := nmv_le (ch f l) 2 (p + 5) 0
  cases h
  exact ⟨by omega, by omega, fun _ => by omega⟩
theorem lnF_ok {s : SV} {m : MO} {c : Nat → Int32} {p q : Nat} {D D' : DFT} (hc : c8 c) (hk : dok s m D) (h : lnF c p D = (q, some D')) : dok s m D' ∧ D'.np + D'.nr = D.np + D.nr + 1 := by
  obtain ⟨h1, h2, h3, h4, h5, h6, h7, h8, h9⟩ := hk
  unfold lnF at h
  by_cases z1 : c p = 112
  · rw [if_pos z1] at h
    by_cases z2 : 8 ≤ D.np
    · rw [if_pos z2] at h
      cases h
    · rw [if_neg z2] at h
      by_cases z3 : dg (c (p + 1)) = true
      · rw [if_pos z3] at h
        cases h
        refine ⟨⟨?_, ?_, h3, h4, h5.upO h1, h6, h7, h8, fun w a1 a2 => ?_⟩, ?_⟩
        · show s.np ≤ D.np + 1; omega
        · show D.np + 1 ≤ 8; omega
        · obtain ⟨a, b, b1, b2, b3, b4⟩ := h9 w a1 a2
          exact ⟨a, b, by show a < D.np + 1; omega, by show b < D.np + 1; omega, b3, b4⟩
        · show D.np + 1 + D.nr = _; omega
      · rw [if_neg z3] at h
        cases h
  rw [if_neg z1] at h
  by_cases z2 : ¬ 12 ≤ D.nr ∧ c p = 114
  rotate_left
  · rw [if_pos z2] at h
    cases h
  rw [if_neg (not_not_intro z2)] at h
  by_cases z3 : inb (c (p + 1) - 97) D.np = true
  rotate_left
  · rw [if_pos z3] at h
    cases h
  rw [if_neg (not_not_intro z3)] at h
  by_cases z4 : inb (c (p + 2) - 97) D.np = true ∧ ¬ c (p + 2) = c (p + 1)
  rotate_left
  · rw [if_pos z4] at h
    cases h
  rw [if_neg (not_not_intro z4)] at h
  by_cases z5 : dg (c (p + 3)) = true ∧ ¬ c (p + 3) = 48
  rotate_left
  · rw [if_pos z5] at h
    cases h
  rw [if_neg (not_not_intro z5)] at h
  by_cases z6 : c (p + 4) = 45
  rotate_left
  · rw [if_pos z6] at h
    cases h
  rw [if_neg (not_not_intro z6)] at h
  by_cases z7 : dg (c (p + 5)) = true
  rotate_left
  · rw [if_pos z7] at h
    cases h
  rw [if_neg (not_not_intro z7)] at h
  cases h
  obtain ⟨a, ha, ea⟩ := inb_ex (by omega) z3
  obtain ⟨b, hb, eb⟩ := inb_ex (by omega) z4.1
  refine ⟨⟨h1, h2, ?_, ?_, h5, h6.upO h3, h7.upO h3, fun j hj => ?_, fun w a1 a2 => ?_⟩, ?_⟩
  · show s.nr ≤ D.nr + 1; omega
  · show D.nr + 1 ≤ 12; omega
  · show upd (upd D.e _ _) _ _ j = _
    rw [upd1 (by omega), upd1 (by omega)]
    exact h8 j hj
  · show ∃ a b, a < D.np ∧ b < D.np ∧ a ≠ b ∧ upd (upd D.e _ _) _ _ (40 + 2 * w) = nI a ∧ upd (upd D.e _ _) _ _ (41 + 2 * w) = nI b
    have a2' : w < D.nr + 1 := a2
    by_cases ew : w = D.nr
    · subst ew
      refine ⟨a, b, ha, hb, fun e => z4.2 ?_, ?_, ?_⟩
      · have e2 : c (p + 2) - 97 = c (p + 1) - 97 := by rw [ea, eb, e]
        have e3 := congrArg (· + (97 : Int32)) e2
        rw [Int32.sub_add_cancel, Int32.sub_add_cancel] at e3
        exact e3
      · rw [upd1 (by omega), upd0]; exact ea
      · rw [upd0]; exact eb
    · obtain ⟨a', b', b1, b2, b3, b4, b5⟩ := h9 w a1 (by omega)
      refine ⟨a', b', b1, b2, b3, ?_, ?_⟩
      · rw [upd1 (by omega), upd1 (by omega)]; exact b4
      · rw [upd1 (by omega), upd1 (by omega)]; exact b5
  · show D.np + (D.nr + 1) = _; omega
