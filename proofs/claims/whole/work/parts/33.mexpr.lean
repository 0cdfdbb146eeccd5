/-! THE MODEL: expressions -/
def lof (c : Int32) : Int32 := if c = 115 then 0 else if c = 117 then 1 else if c = 104 then 2 else if c = 108 then 3 else if c = 114 then 4 else if c = 97 then 5 else -1
theorem lof_ex (c : Int32) : lof c = -1 ∨ ∃ k, k < 6 ∧ lof c = nI k := by
  unfold lof
  by_cases h1 : c = 115
  · rw [if_pos h1]; exact Or.inr ⟨0, by omega, rfl⟩
  rw [if_neg h1]
  by_cases h2 : c = 117
  · rw [if_pos h2]; exact Or.inr ⟨1, by omega, rfl⟩
  rw [if_neg h2]
  by_cases h3 : c = 104
  · rw [if_pos h3]; exact Or.inr ⟨2, by omega, rfl⟩
  rw [if_neg h3]
  by_cases h4 : c = 108
  · rw [if_pos h4]; exact Or.inr ⟨3, by omega, rfl⟩
  rw [if_neg h4]
  by_cases h5 : c = 114
  · rw [if_pos h5]; exact Or.inr ⟨4, by omega, rfl⟩
  rw [if_neg h5]
  by_cases h6 : c = 97
  · rw [if_pos h6]; exact Or.inr ⟨5, by omega, rfl⟩
  rw [if_neg h6]
  exact Or.inl rfl
theorem lof_lt {f : Nat → Int32} {l p : Nat} (h : ¬ lof (ch f l p) = -1) : p < l := by
  unfold ch at h
  by_cases hl : p < l
  · exact hl
  · rw [if_neg hl] at h
    exact absurd (by decide) h
theorem ch_lt {f : Nat → Int32} {l p : Nat} {v : Int32} (hv : ¬ v = -1) (h : ch f l p = v) : p < l := by
  unfold ch at h
  by_cases hl : p < l
  · exact hl
  · rw [if_neg hl] at h
    exact absurd h.symm hv
abbrev TT : Type := Nat → Option Nat → RR
def clR (c : Nat → Int32) (R : RR) : RR := if R.2.2 = none ∧ c R.2.1 = 41 then (R.1, R.2.1 + 1, none) else (R.1, R.2.1, R.2.2.or (some R.2.1))
def atR (c g : Nat → Int32) (p : Nat) : RR := if dg (c p) = true then nmR c 3 p none else if lof (c p) = -1 then (0, p, some p) else (g (lof (c p)).toNatClampNeg, p + 1, none)
def thR (c g : Nat → Int32) (H : Option TT) : Nat → TT
  | 0, p, w => (0, p, w)
  | f + 1, p, w => if w = none ∧ c p = 45 then (-(thR c g H f (p + 1) none).1, (thR c g H f (p + 1) none).2.1, (thR c g H f (p + 1) none).2.2)
    else if ¬ w = none then (0, p, w)
    else match H with
      | some H => if c p = 40 then clR c (H (p + 1) none) else atR c g p
      | none => atR c g p
def prL (c : Nat → Int32) (T : TT) : Nat → Int32 → TT
  | 0, v, p, w => (v, p, w)
  | f + 1, v, p, w => if w = none ∧ c p = 42 then prL c T f (v * (T (p + 1) none).1) (T (p + 1) none).2.1 (T (p + 1) none).2.2
    else if w = none ∧ c p = 47 then prL c T f (if (T (p + 1) none).1 = 0 then 0 else v / (T (p + 1) none).1) (T (p + 1) none).2.1 (T (p + 1) none).2.2
    else (v, p, w)
def prR (c : Nat → Int32) (T : TT) : TT := fun p w => prL c T 90 (T p w).1 (T p w).2.1 (T p w).2.2
def smL (c : Nat → Int32) (T : TT) : Nat → Int32 → TT
  | 0, v, p, w => (v, p, w)
  | f + 1, v, p, w => if w = none ∧ c p = 43 then smL c T f (v + (T (p + 1) none).1) (T (p + 1) none).2.1 (T (p + 1) none).2.2
    else if w = none ∧ c p = 45 then smL c T f (v - (T (p + 1) none).1) (T (p + 1) none).2.1 (T (p + 1) none).2.2
    else (v, p, w)
def smR (c : Nat → Int32) (T : TT) : TT := fun p w => smL c T 90 (T p w).1 (T p w).2.1 (T p w).2.2
def hdR (c : Nat → Int32) (S : TT) : TT := fun p w =>
  if (S p w).2.2 = none ∧ c (S p w).2.1 = 60 then (if (S ((S p w).2.1 + 1) none).1 ≤ (S p w).1 then 0 else 1, (S ((S p w).2.1 + 1) none).2)
  else if (S p w).2.2 = none ∧ c (S p w).2.1 = 62 then (if (S p w).1 ≤ (S ((S p w).2.1 + 1) none).1 then 0 else 1, (S ((S p w).2.1 + 1) none).2)
  else if (S p w).2.2 = none ∧ c (S p w).2.1 = 61 then (if (S p w).1 = (S ((S p w).2.1 + 1) none).1 then 1 else 0, (S ((S p w).2.1 + 1) none).2)
  else S p w
def lvR (c g : Nat → Int32) : Nat → TT
  | 0 => hdR c (smR c (prR c (thR c g none 90)))
  | n + 1 => hdR c (smR c (prR c (thR c g (some (lvR c g n)) 90)))
/-- positions grow and stay within -/
def gT (l : Nat) (T : TT) : Prop := ∀ p w, p ≤ l → wok w → p ≤ (T p w).2.1 ∧ (T p w).2.1 ≤ l ∧ wok (T p w).2.2
theorem wokn : wok none := fun q hq => by cases hq
section
variable {f g : Nat → Int32} {l : Nat}
theorem g_at (hl : l ≤ 80) {p : Nat} (hp : p ≤ l) : p ≤ (atR (ch f l) g p).2.1 ∧ (atR (ch f l) g p).2.1 ≤ l ∧ wok (atR (ch f l) g p).2.2 := by
  unfold atR
  by_cases h1 : dg (ch f l p) = true
  · rw [if_pos h1]
    refine ⟨nmR_le.1, ?_, nmR_ok wokn (by omega)⟩
    unfold nmR
    rw [if_pos ⟨rfl, h1⟩]
    exact nmv_lt 3 p 0 hp
  · rw [if_neg h1]
    by_cases h2 : lof (ch f l p) = -1
    · rw [if_pos h2]
      exact ⟨Nat.le_refl _, hp, fun q hq => by cases hq; omega⟩
    · rw [if_neg h2]
      exact ⟨Nat.le_succ _, lof_lt h2, wokn⟩
theorem g_cl (hl : l ≤ 80) {R : RR} {p : Nat} (h : p ≤ R.2.1 ∧ R.2.1 ≤ l ∧ wok R.2.2) : p ≤ (clR (ch f l) R).2.1 ∧ (clR (ch f l) R).2.1 ≤ l ∧ wok (clR (ch f l) R).2.2 := by
  unfold clR
  split
  · rename_i q
    have := ch_lt (by decide) q.2
    exact ⟨by show p ≤ R.2.1 + 1; omega, this, wokn⟩
  · exact ⟨h.1, h.2.1, wok_or h.2.2 (by omega)⟩
theorem g_th (hl : l ≤ 80) {H : Option TT} (hH : ∀ T, H = some T → gT l T) : ∀ k, gT l (thR (ch f l) g H k)
  | 0 => fun p w hp hw => ⟨Nat.le_refl _, hp, hw⟩
  | k + 1 => by
    intro p w hp hw
    unfold thR
    by_cases h1 : w = none ∧ ch f l p = 45
    · rw [if_pos h1]
      have := ch_lt (by decide) h1.2
      have h2 := g_th hl hH k (p + 1) none this wokn
      exact ⟨by have := h2.1; show p ≤ (thR (ch f l) g H k (p + 1) none).2.1; omega, h2.2⟩
    · rw [if_neg h1]
      by_cases h2 : ¬ w = none
      · rw [if_pos h2]
        exact ⟨Nat.le_refl _, hp, hw⟩
      · rw [if_neg h2]
        cases H with
        | none => exact g_at hl hp
        | some T =>
          dsimp only
          by_cases h3 : ch f l p = 40
          · rw [if_pos h3]
            have := ch_lt (by decide) h3
            have h4 := hH T rfl (p + 1) none this wokn
            exact g_cl hl (p := p) ⟨by omega, h4.2⟩
          · rw [if_neg h3]
            exact g_at hl hp
theorem g_prL {T : TT} (hT : gT l T) : ∀ (k : Nat) (v : Int32), gT l (prL (ch f l) T k v)
  | 0, v => fun p w hp hw => ⟨Nat.le_refl _, hp, hw⟩
  | k + 1, v => by
    intro p w hp hw
    unfold prL
    by_cases h1 : w = none ∧ ch f l p = 42
    · rw [if_pos h1]
      have h2 := hT (p + 1) none (ch_lt (by decide) h1.2) wokn
      have h3 := g_prL hT k (v * (T (p + 1) none).1) _ _ h2.2.1 h2.2.2
      exact ⟨by omega, h3.2⟩
    · rw [if_neg h1]
      by_cases h1 : w = none ∧ ch f l p = 47
      · rw [if_pos h1]
        have h2 := hT (p + 1) none (ch_lt (by decide) h1.2) wokn
        have h3 := g_prL hT k (if (T (p + 1) none).1 = 0 then 0 else v / (T (p + 1) none).1) _ _ h2.2.1 h2.2.2
        exact ⟨by omega, h3.2⟩
      · rw [if_neg h1]
        exact ⟨Nat.le_refl _, hp, hw⟩
theorem g_smL {T : TT} (hT : gT l T) : ∀ (k : Nat) (v : Int32), gT l (smL (ch f l) T k v)
  | 0, v => fun p w hp hw => ⟨Nat.le_refl _, hp, hw⟩
  | k + 1, v => by
    intro p w hp hw
    unfold smL
    by_cases h1 : w = none ∧ ch f l p = 43
    · rw [if_pos h1]
      have h2 := hT (p + 1) none (ch_lt (by decide) h1.2) wokn
      have h3 := g_smL hT k (v + (T (p + 1) none).1) _ _ h2.2.1 h2.2.2
      exact ⟨by omega, h3.2⟩
    · rw [if_neg h1]
      by_cases h1 : w = none ∧ ch f l p = 45
      · rw [if_pos h1]
        have h2 := hT (p + 1) none (ch_lt (by decide) h1.2) wokn
        have h3 := g_smL hT k (v - (T (p + 1) none).1) _ _ h2.2.1 h2.2.2
        exact ⟨by omega, h3.2⟩
      · rw [if_neg h1]
        exact ⟨Nat.le_refl _, hp, hw⟩
theorem g_pr {T : TT} (hT : gT l T) : gT l (prR (ch f l) T) := fun p w hp hw => by
  have h1 := hT p w hp hw
  have h2 := g_prL (f := f) hT 90 (T p w).1 _ _ h1.2.1 h1.2.2
  exact ⟨Nat.le_trans h1.1 h2.1, h2.2⟩
theorem g_sm {T : TT} (hT : gT l T) : gT l (smR (ch f l) T) := fun p w hp hw => by
  have h1 := hT p w hp hw
  have h2 := g_smL (f := f) hT 90 (T p w).1 _ _ h1.2.1 h1.2.2
  exact ⟨Nat.le_trans h1.1 h2.1, h2.2⟩
theorem g_hd {T : TT} (hT : gT l T) : gT l (hdR (ch f l) T) := fun p w hp hw => by
  have h1 := hT p w hp hw
  have h2 : ∀ v : Int32, ¬ v = -1 → ch f l (T p w).2.1 = v → p ≤ (T ((T p w).2.1 + 1) none).2.1 ∧ (T ((T p w).2.1 + 1) none).2.1 ≤ l ∧ wok (T ((T p w).2.1 + 1) none).2.2 := by
    intro v hv h
    have h3 := hT ((T p w).2.1 + 1) none (ch_lt hv h) wokn
    exact ⟨by omega, h3.2⟩
  unfold hdR
  split
  · rename_i q; exact h2 _ (by decide) q.2
  · split
    · rename_i q; exact h2 _ (by decide) q.2
    · split
      · rename_i q; exact h2 _ (by decide) q.2
      · exact h1
theorem g_lv (hl : l ≤ 80) : ∀ n, gT l (lvR (ch f l) g n)
  | 0 => g_hd (g_sm (g_pr (g_th hl (fun T h => by cases h) 90)))
  | n + 1 => g_hd (g_sm (g_pr (g_th hl (fun T h => by cases h; exact g_lv hl n) 90)))
end
