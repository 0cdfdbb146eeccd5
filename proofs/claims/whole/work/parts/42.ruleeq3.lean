/-! THE RULE: the two readers agree -/
section
variable {f : Nat → Int32} {l : Nat}
theorem xrun_ok : ∀ k (p : Nat) (due : Bool) (D W : List Int32) (dp cm : Nat), p ≤ l → D.length + W.length ≤ p →
    (xrun (ch f l) k (p, due, D, W, dp, cm)).2.1 ≤ l ∧ (xrun (ch f l) k (p, due, D, W, dp, cm)).2.2.length ≤ l := by
  intro k
  induction k with
  | zero => intro p due D W dp cm hp hD; exact ⟨hp, by show D.length ≤ l; omega⟩
  | succ k ih =>
    intro p due D W dp cm hp hD
    unfold xrun
    by_cases h1 : ch f l p = -1
    · rw [st_end h1]
      refine ⟨hp, ?_⟩
      show (popW 1 W D).2.length ≤ l
      have := popW_len 1 W D
      omega
    have hlt : p < l := by
      rcases Nat.lt_or_ge p l with h | h
      · exact h
      · exact absurd (by unfold ch; rw [if_neg (by omega)]) h1
    cases due with
    | true =>
      by_cases h2 : ch f l p = 45
      · rw [st_neg h2]
        exact ih _ _ _ _ _ _ hlt (by simp only [List.length_cons]; omega)
      by_cases h3 : ch f l p = 40 ∧ dp < 4
      · rw [st_par h3.1 h3.2]
        exact ih _ _ _ _ _ _ hlt (by simp only [List.length_cons]; omega)
      by_cases h4 : dg (ch f l p) = true
      · rw [st_num h4]
        have hpos := nmR_pos (c := ch f l) (k := 3) (p := p) (w := none) (by omega)
        unfold nmR at hpos
        rw [if_pos ⟨rfl, h4⟩] at hpos
        have hpos2 : p < (nmv (ch f l) 3 p 0).2 := hpos rfl
        exact ih _ _ _ _ _ _ (nmv_lt 3 p 0 hp) (by simp only [List.length_append, List.length_cons, List.length_nil]; omega)
      by_cases h5 : lof (ch f l p) = -1
      · rw [st_bad h1 h2 h3 h4 h5]
        exact ⟨hp, by show D.length ≤ l; omega⟩
      · rw [st_let h4 h5]
        exact ih _ _ _ _ _ _ hlt (by simp only [List.length_append, List.length_cons, List.length_nil]; omega)
    | false =>
      by_cases h2 : dp ≠ 0 ∧ ch f l p = 41
      · rw [st_close h2.2 h2.1]
        refine ih _ _ _ _ _ _ hlt ?_
        have := popW_len 1 W D
        simp only [List.length_tail]
        omega
      by_cases h3 : rko (ch f l p) < 1 ∨ ch f l p = 126 ∨ (rko (ch f l p) = 1 ∧ cm.testBit dp = true)
      · rw [st_stop h1 h2 h3]
        exact ⟨hp, by show D.length ≤ l; omega⟩
      · rw [st_op (fun z => h3 (by rcases z with z | z; exact Or.inl z; exact Or.inr (Or.inl z))) (fun z => h3 (Or.inr (Or.inr z)))]
        refine ih _ _ _ _ _ _ hlt ?_
        have := popW_len (rko (ch f l p)) W D
        simp only [List.length_cons]
        omega
theorem x_is_m (hl : l ≤ 40) (hf : ∀ i, i < l → ¬ f i = -1) (g : Nat → Int32) :
    (∀ q, endw l (lvR (ch f l) g 4 0 none).2.1 (lvR (ch f l) g 4 0 none).2.2 = some q → (xrun (ch f l) 41 (0, true, [], [], 0, 0)).1 = false ∧ (xrun (ch f l) 41 (0, true, [], [], 0, 0)).2.1 = q) ∧
    (endw l (lvR (ch f l) g 4 0 none).2.1 (lvR (ch f l) g 4 0 none).2.2 = none → (xrun (ch f l) 41 (0, true, [], [], 0, 0)).1 = true ∧ (xrun (ch f l) 41 (0, true, [], [], 0, 0)).2.1 = l ∧ Ev g (xrun (ch f l) 41 (0, true, [], [], 0, 0)).2.2 (lvR (ch f l) g 4 0 none).1) := by
  obtain ⟨a1, a2⟩ := e_lv (f := f) (g := g) (l := l) (by omega) 4 (Nat.le_refl _) 0 [] [] 0 (by omega) (by omega) (fun s W' e => by cases e) (by decide)
  have hgg := g_lv (f := f) (g := g) (l := l) (by omega) 4 0 none (by omega) wokn
  have fal : ∀ q, Fal (ch f l) (0, true, [], [], 0, 0) q → (xrun (ch f l) 41 (0, true, [], [], 0, 0)).1 = false ∧ (xrun (ch f l) 41 (0, true, [], [], 0, 0)).2.1 = q := by
    intro q hq
    obtain ⟨j, D, hj, hx⟩ := hq
    have hj2 : j + 0 ≤ q + 1 := hj
    have hq2 : q ≤ l := by
      have := (xrun_ok (f := f) (l := l) (0 + j) 0 true [] [] 0 0 (by omega) (by simp)).1
      rw [hx 0] at this
      exact this
    have := hx (41 - j)
    rw [show 41 - j + j = 41 by omega] at this
    rw [this]
    exact ⟨rfl, rfl⟩
  generalize lvR (ch f l) g 4 0 none = R at *
  obtain ⟨v, p, w⟩ := R
  dsimp only at *
  unfold endw
  cases w with
  | some q1 =>
    have e : (if p < l then (some q1).or (some p) else some q1) = some q1 := by split <;> rfl
    rw [e]
    refine ⟨fun q hq => ?_, fun hq => by cases hq⟩
    cases hq
    exact fal q1 (a1 q1 rfl)
  | none =>
    obtain ⟨δ, P, cm', b1, b2, b3, b4, b5, b6⟩ := a2 rfl
    by_cases h : p < l
    · rw [if_pos h]
      refine ⟨fun q hq => ?_, fun hq => by cases hq⟩
      cases hq
      refine fal p (b1.fal (Fal.step (st_stop ?_ (fun z => absurd rfl z.1) b6)))
      unfold ch
      rw [if_pos h]
      exact hf p h
    · rw [if_neg h]
      refine ⟨fun q hq => (by cases hq), fun _ => ?_⟩
      have hpl : p = l := by omega
      obtain ⟨j, hj, hx⟩ := b1
      have hj2 : j + 0 ≤ p := hj
      have h1 : ch f l p = -1 := by unfold ch; rw [if_neg h]
      have hx2 := hx (41 - j)
      rw [show 41 - j + j = 41 by omega] at hx2
      rw [hx2, show 41 - j = (40 - j) + 1 by omega]
      unfold xrun
      have e : xst (ch f l) (p, false, [] ++ δ, P ++ [], 4 - 4, cm') = .inl (!false && decide (4 - 4 = 0), p, (popW 1 (P ++ []) ([] ++ δ)).2) := st_end h1
      rw [e, popW_both b2 (fun s W' e => by cases e)]
      exact ⟨rfl, hpl, b3⟩
/-- the code's meaning -/
theorem rkF_ex {code vals : Nat → Int32} {D : List Int32} (h : hasL code D) (s : Nat × (Nat → Int32)) : ∀ k, k ≤ D.length → rkF code vals k s = ex vals (D.take k) s := by
  intro k
  induction k with
  | zero => intro _; rfl
  | succ k ih =>
    intro hk
    have hk2 : k < D.length := hk
    rw [List.take_succ_eq_append_getElem hk2, ex_app, ← ih (by omega)]
    show rk1 (code k) vals _ = rk1 D[k] vals _
    rw [h k D[k] (by rw [List.getElem?_eq_getElem hk2])]
theorem at_congr {c g g' : Nat → Int32} (h : ∀ j, j < 6 → g j = g' j) (p : Nat) : atR c g p = atR c g' p := by
  unfold atR
  rcases lof_ex (c p) with e | ⟨k, hk, e⟩
  · rw [e]; rfl
  · rw [e, nI_clamp (by omega), h k hk]
theorem th_congr {c g g' : Nat → Int32} (h : ∀ j, j < 6 → g j = g' j) (H : Option TT) : ∀ k, thR c g H k = thR c g' H k
  | 0 => rfl
  | k + 1 => by
    funext p w
    unfold thR
    rw [th_congr h H k]
    cases H with
    | none => dsimp only; rw [at_congr h]
    | some T => dsimp only; rw [at_congr h]
theorem lv_congr {c g g' : Nat → Int32} (h : ∀ j, j < 6 → g j = g' j) : ∀ n, lvR c g n = lvR c g' n
  | 0 => by unfold lvR; rw [th_congr h]
  | n + 1 => by unfold lvR; rw [th_congr h, lv_congr h n]
/-- what a text means -/
def rvo (c : Nat → Int32) : RVT := fun s u h l w a => (lvR c (v6 s u h l w a) 4 0 none).1
theorem rule_code {code : Nat → Int32} (hl : l ≤ 40) (hl0 : 0 < l) (hf : ∀ i, i < l → ¬ f i = -1) (hx : (xrun (ch f l) 41 (0, true, [], [], 0, 0)).1 = true) (hc : hasL code (xrun (ch f l) 41 (0, true, [], [], 0, 0)).2.2) :
    0 < (xrun (ch f l) 41 (0, true, [], [], 0, 0)).2.2.length ∧ (xrun (ch f l) 41 (0, true, [], [], 0, 0)).2.2.length ≤ 40 ∧ ∀ (s u h l' w a : Int32) (vals stk : Nat → Int32), (∀ j, j < 6 → vals j = v6 s u h l' w a j) → (rkF code vals (xrun (ch f l) 41 (0, true, [], [], 0, 0)).2.2.length (0, stk)).2 0 = rvo (ch f l) s u h l' w a := by
  have hlen := (xrun_ok (f := f) (l := l) 41 0 true [] [] 0 0 (by omega) (by simp)).2
  have hev : ∀ g, Ev g (xrun (ch f l) 41 (0, true, [], [], 0, 0)).2.2 (lvR (ch f l) g 4 0 none).1 := by
    intro g
    obtain ⟨a1, a2⟩ := x_is_m hl hf g
    cases hw : endw l (lvR (ch f l) g 4 0 none).2.1 (lvR (ch f l) g 4 0 none).2.2 with
    | some q =>
      have := (a1 q hw).1
      rw [hx] at this
      cases this
    | none => exact (a2 hw).2.2
  generalize (xrun (ch f l) 41 (0, true, [], [], 0, 0)).2.2 = D at *
  refine ⟨?_, by omega, fun s u h l' w a vals stk hv => ?_⟩
  · rcases Nat.eq_zero_or_pos D.length with e | e
    · have hnil : D = [] := List.length_eq_zero_iff.mp e
      rw [hnil] at hev
      have := (hev (fun _ => 0) (0, fun _ => 0) (by simp)).1
      cases this
    · exact e
  · rw [rkF_ex hc _ _ (Nat.le_refl _), List.take_length]
    have := (hev vals (0, stk) (by show 0 + D.length ≤ 40; omega)).2.1
    unfold rvo
    rw [← lv_congr hv 4]
    exact this
end
