/-! WAYS as numbers: a net of ways v < n, from fr v to tt v, tl v turns long, on which one can set out at t if ok v t -/
def FR : Nat := 1000000
def depF (ok : Nat → Bool) : Nat → Nat → Nat
  | 0, _ => FR
  | g + 1, k => if ok k = true then k else depF ok g (k + 1)
def dep (ok : Nat → Bool) (t : Nat) : Nat := depF ok (121 - t) t
def arr (l : Nat) (ok : Nat → Bool) (t : Nat) : Nat := if dep ok t = FR then FR else dep ok t + l
theorem depF_spec (ok : Nat → Bool) : ∀ g k, k + g ≤ 121 → (depF ok g k = FR ∧ ∀ j, k ≤ j → j < k + g → ok j = false) ∨ (k ≤ depF ok g k ∧ depF ok g k < k + g ∧ ok (depF ok g k) = true ∧ ∀ j, k ≤ j → j < depF ok g k → ok j = false)
  | 0, k, _ => Or.inl ⟨rfl, fun j h1 h2 => by omega⟩
  | g + 1, k, h => by
    unfold depF
    split
    · rename_i z
      exact Or.inr ⟨Nat.le_refl _, by omega, z, fun j h1 h2 => by omega⟩
    · rename_i z
      have zf : ok k = false := by cases hh : ok k <;> simp_all
      rcases depF_spec ok g (k + 1) (by omega) with ⟨a, b⟩ | ⟨a, b, c, e⟩
      · refine Or.inl ⟨a, fun j h1 h2 => ?_⟩
        by_cases q : j = k
        · rw [q]; exact zf
        · exact b j (by omega) (by omega)
      · refine Or.inr ⟨by omega, by omega, c, fun j h1 h2 => ?_⟩
        by_cases q : j = k
        · rw [q]; exact zf
        · exact e j (by omega) h2
theorem dep_spec (ok : Nat → Bool) (t : Nat) : (dep ok t = FR ∧ ∀ j, t ≤ j → j ≤ 120 → ok j = false) ∨ (t ≤ dep ok t ∧ dep ok t ≤ 120 ∧ ok (dep ok t) = true ∧ ∀ j, t ≤ j → j < dep ok t → ok j = false) := by
  unfold dep
  by_cases h : t ≤ 120
  · rcases depF_spec ok (121 - t) t (by omega) with ⟨a, b⟩ | ⟨a, b, c, e⟩
    · exact Or.inl ⟨a, fun j h1 h2 => b j h1 (by omega)⟩
    · exact Or.inr ⟨a, by omega, c, e⟩
  · rw [show 121 - t = 0 by omega]
    exact Or.inl ⟨rfl, fun j h1 h2 => by omega⟩
theorem dep_mono (ok : Nat → Bool) {t t' : Nat} (h : t ≤ t') : dep ok t ≤ dep ok t' := by
  have hF : FR = 1000000 := rfl
  rcases dep_spec ok t with ⟨a, b⟩ | ⟨a, b, c, e⟩
  · rcases dep_spec ok t' with ⟨a', b'⟩ | ⟨a', b', c', e'⟩
    · omega
    · rw [b _ (by omega) b'] at c'; cases c'
  · rcases dep_spec ok t' with ⟨a', b'⟩ | ⟨a', b', c', e'⟩
    · omega
    · rcases Nat.lt_or_ge (dep ok t') (dep ok t) with q | q
      · rw [e _ (by omega) q] at c'; cases c'
      · exact q
theorem arr_mono {l : Nat} {ok : Nat → Bool} (hl : ∀ k, ok k = true → k + l ≤ 120) {t t' : Nat} (h : t ≤ t') : arr l ok t ≤ arr l ok t' := by
  have h1 := dep_mono ok h
  have hF : FR = 1000000 := rfl
  unfold arr
  rcases dep_spec ok t with ⟨a, b⟩ | ⟨a, b, c, e⟩
  · rw [if_pos a, if_pos (by
      rcases dep_spec ok t' with ⟨a', b'⟩ | ⟨a', b', c', e'⟩
      · exact a'
      · omega)]
    exact Nat.le_refl _
  · have := hl _ c
    rw [if_neg (by omega)]
    split <;> omega
theorem arr_rng {l : Nat} {ok : Nat → Bool} (hl : ∀ k, ok k = true → k + l ≤ 120) (h1 : 1 ≤ l) (t : Nat) : arr l ok t = FR ∨ (t + l ≤ arr l ok t ∧ arr l ok t ≤ 120) := by
  have hF : FR = 1000000 := rfl
  unfold arr
  rcases dep_spec ok t with ⟨a, b⟩ | ⟨a, b, c, e⟩
  · rw [if_pos a]; exact Or.inl rfl
  · have := hl _ c
    rw [if_neg (by omega)]
    exact Or.inr ⟨by omega, this⟩
/-- D tells how soon one is where, from a at t on -/
def SPd (n : Nat) (fr tt : Nat → Nat) (ar : Nat → Nat → Nat) (op : Nat → Bool) (a t : Nat) (D : Nat → Nat) : Prop :=
  D a = t ∧ (∀ p, D p ≤ FR) ∧ (∀ v, v < n → op (tt v) = true → D (tt v) ≤ ar v (D (fr v))) ∧ ∀ p, p ≠ a → D p < FR → ∃ v, v < n ∧ tt v = p ∧ op p = true ∧ D p = ar v (D (fr v))
/-- a net is right: arrivals grow, take time, are within 120 or never -/
def okN (n : Nat) (ar : Nat → Nat → Nat) : Prop := ∀ v, v < n → (∀ t t', t ≤ t' → ar v t ≤ ar v t') ∧ ∀ t, ar v t = FR ∨ (t < ar v t ∧ ar v t ≤ 120)
section
variable {n : Nat} {fr tt : Nat → Nat} {ar : Nat → Nat → Nat} {op : Nat → Bool}
/-- what is stable and as soon at the start is nowhere later -/
theorem SPd.le (hN : okN n ar) {op' : Nat → Bool} (hop : ∀ p, op' p = true → op p = true) {a t : Nat} {D : Nat → Nat} (h : SPd n fr tt ar op' a t D) {E : Nat → Nat} (hE : ∀ p, E p ≤ FR) (hs : ∀ v, v < n → op (tt v) = true → E (tt v) ≤ ar v (E (fr v))) (ha : E a ≤ t) : ∀ p, E p ≤ D p := by
  obtain ⟨h1, h2, h3, h4⟩ := h
  have key : ∀ x p, D p ≤ x → E p ≤ D p := by
    intro x
    induction x with
    | zero =>
      intro p hp
      by_cases q : p = a
      · rw [q, h1]; exact ha
      · obtain ⟨v, hv, e1, e2, e3⟩ := h4 p q (by have : FR = 1000000 := rfl; omega)
        rcases (hN v hv).2 (D (fr v)) with z | z
        · have : FR = 1000000 := rfl
          omega
        · omega
    | succ x ih =>
      intro p hp
      by_cases q : p = a
      · rw [q, h1]; exact ha
      · by_cases q2 : D p < FR
        · obtain ⟨v, hv, e1, e2, e3⟩ := h4 p q q2
          have hlt : D (fr v) < D p := by
            rcases (hN v hv).2 (D (fr v)) with z | z
            · omega
            · omega
          have i1 := ih (fr v) (by omega)
          have i2 := hs v hv (by rw [e1]; exact hop p e2)
          have i3 := (hN v hv).1 _ _ i1
          rw [e1] at i2
          omega
        · have := hE p
          have := h2 p
          omega
  exact fun p => key (D p) p (Nat.le_refl _)
theorem SPd.uniq (hN : okN n ar) {a t : Nat} {D E : Nat → Nat} (h : SPd n fr tt ar op a t D) (h' : SPd n fr tt ar op a t E) : ∀ p, D p = E p := by
  intro p
  have h1 := SPd.le hN (fun _ q => q) h h'.2.1 h'.2.2.1 (by rw [h'.1]; exact Nat.le_refl _) p
  have h2 := SPd.le hN (fun _ q => q) h' h.2.1 h.2.2.1 (by rw [h.1]; exact Nat.le_refl _) p
  omega
/-- the least over the ways into p -/
def mnW (n : Nat) (c : Nat → Bool) (g : Nat → Nat) : Nat := match n with
  | 0 => FR
  | n + 1 => if c n = true then min (mnW n c g) (g n) else mnW n c g
theorem mnW_le {c : Nat → Bool} {g : Nat → Nat} : ∀ {n v : Nat}, v < n → c v = true → mnW n c g ≤ g v
  | 0, v, h, _ => by omega
  | n + 1, v, h, hc => by
    unfold mnW
    by_cases e : v = n
    · subst e
      rw [if_pos hc]
      exact Nat.min_le_right _ _
    · have := mnW_le (g := g) (show v < n by omega) hc
      split
      · exact Nat.le_trans (Nat.min_le_left _ _) this
      · exact this
theorem mnW_FR {c : Nat → Bool} {g : Nat → Nat} : ∀ n, mnW n c g ≤ FR
  | 0 => Nat.le_refl _
  | n + 1 => by
    unfold mnW
    split
    · exact Nat.le_trans (Nat.min_le_left _ _) (mnW_FR n)
    · exact mnW_FR n
theorem mnW_ex {c : Nat → Bool} {g : Nat → Nat} : ∀ n, mnW n c g < FR → ∃ v, v < n ∧ c v = true ∧ mnW n c g = g v
  | 0, h => absurd h (Nat.lt_irrefl _)
  | n + 1, h => by
    unfold mnW at h ⊢
    split at h
    · rename_i z
      rw [if_pos z]
      rcases Nat.lt_or_ge (mnW n c g) (g n) with q | q
      · rw [Nat.min_eq_left (by omega)] at h ⊢
        obtain ⟨v, h1, h2, h3⟩ := mnW_ex n h
        exact ⟨v, by omega, h2, h3⟩
      · rw [Nat.min_eq_right q] at h ⊢
        exact ⟨n, by omega, z, rfl⟩
    · rename_i z
      rw [if_neg z]
      obtain ⟨v, h1, h2, h3⟩ := mnW_ex n h
      exact ⟨v, by omega, h2, h3⟩
def itB (n : Nat) (fr tt : Nat → Nat) (ar : Nat → Nat → Nat) (op : Nat → Bool) (a t : Nat) : Nat → Nat → Nat
  | 0 => fun p => if p = a then t else FR
  | k + 1 => fun p => if p = a then t else mnW n (fun v => decide (tt v = p) && op p) (fun v => ar v (itB n fr tt ar op a t k (fr v)))
theorem mnW_mono {c : Nat → Bool} {g g' : Nat → Nat} : ∀ n, (∀ v, v < n → g v ≤ g' v) → mnW n c g ≤ mnW n c g'
  | 0, _ => Nat.le_refl _
  | n + 1, h => by
    have ih := mnW_mono (c := c) n (fun v hv => h v (by omega))
    have := h n (by omega)
    unfold mnW
    split
    · omega
    · exact ih
theorem itB_dec (hN : okN n ar) (a t : Nat) : ∀ k p, itB n fr tt ar op a t (k + 1) p ≤ itB n fr tt ar op a t k p
  | 0, p => by
    show (if p = a then t else mnW _ _ _) ≤ (if p = a then t else FR)
    split
    · exact Nat.le_refl _
    · exact mnW_FR _
  | k + 1, p => by
    show (if p = a then t else mnW _ _ _) ≤ (if p = a then t else mnW _ _ _)
    split
    · exact Nat.le_refl _
    · exact mnW_mono n (fun v hv => (hN v hv).1 _ _ (itB_dec hN a t k (fr v)))
def sum8 (f : Nat → Nat) : Nat → Nat
  | 0 => 0
  | k + 1 => sum8 f k + f k
theorem sum8_le {f g : Nat → Nat} (h : ∀ p, f p ≤ g p) : ∀ k, sum8 f k ≤ sum8 g k
  | 0 => Nat.le_refl _
  | k + 1 => by
    have := sum8_le h k
    have := h k
    unfold sum8
    omega
theorem sum8_eq {f g : Nat → Nat} (h : ∀ p, f p ≤ g p) : ∀ k, sum8 g k ≤ sum8 f k → ∀ p, p < k → f p = g p
  | 0, _, p, hp => by omega
  | k + 1, hs, p, hp => by
    unfold sum8 at hs
    have h1 := sum8_le h k
    have h2 := h k
    by_cases e : p = k
    · subst e; omega
    · exact sum8_eq h k (by omega) p (by omega)
theorem SPd.ex (hN : okN n ar) (hpl : ∀ v, v < n → fr v < 8 ∧ tt v < 8) {a t : Nat} (ht : t ≤ FR) : ∃ D, SPd n fr tt ar op a t D := by
  obtain ⟨x, ⟨k, hk⟩, hmin⟩ := pk_least (fun x => ∃ k, sum8 (itB n fr tt ar op a t k) 8 = x) ⟨_, 0, rfl⟩
  have hge : sum8 (itB n fr tt ar op a t k) 8 ≤ sum8 (itB n fr tt ar op a t (k + 1)) 8 := by
    rcases Nat.lt_or_ge (sum8 (itB n fr tt ar op a t (k + 1)) 8) (sum8 (itB n fr tt ar op a t k) 8) with q | q
    · exact absurd ⟨k + 1, rfl⟩ (hmin _ (by omega))
    · exact q
  have heq := sum8_eq (itB_dec hN a t k) 8 hge
  have hmm : ∀ p, itB n fr tt ar op a t (k + 1) p = if p = a then t else mnW n (fun v => decide (tt v = p) && op p) (fun v => ar v (itB n fr tt ar op a t (k + 1) (fr v))) := by
    intro p
    show (if p = a then t else mnW n (fun v => decide (tt v = p) && op p) (fun v => ar v (itB n fr tt ar op a t k (fr v)))) = _
    split
    · rfl
    · apply Nat.le_antisymm
      · exact mnW_mono n (fun v hv => by rw [heq _ (hpl v hv).1]; exact Nat.le_refl _)
      · exact mnW_mono n (fun v hv => by rw [heq _ (hpl v hv).1]; exact Nat.le_refl _)
  generalize itB n fr tt ar op a t (k + 1) = D at hmm
  refine ⟨D, by rw [hmm a, if_pos rfl], fun p => ?_, fun v hv hop => ?_, fun p hp hlt => ?_⟩
  · rw [hmm p]
    split
    · exact ht
    · exact mnW_FR _
  · by_cases e : tt v = a
    · rw [e, hmm a, if_pos rfl]
      rcases (hN v hv).2 (D (fr v)) with z | z
      · rw [z]; exact ht
      · have hDa : t ≤ D (fr v) := by
          have key : ∀ x p, D p ≤ x → t ≤ D p := by
            intro x
            induction x with
            | zero =>
              intro p hp
              rw [hmm p] at hp ⊢
              split
              · exact Nat.le_refl _
              · rename_i q
                rw [if_neg q] at hp
                obtain ⟨u, hu, _, e3⟩ := mnW_ex n (show mnW n (fun v => decide (tt v = p) && op p) (fun v => ar v (D (fr v))) < FR by have : FR = 1000000 := rfl; omega)
                rcases (hN u hu).2 (D (fr u)) with z | z
                · have : FR = 1000000 := rfl; omega
                · omega
            | succ x ih =>
              intro p hp
              by_cases q : p = a
              · rw [hmm p, if_pos q]; exact Nat.le_refl _
              · by_cases q2 : D p < FR
                · have e0 := hmm p
                  rw [if_neg q] at e0
                  rw [e0] at q2
                  obtain ⟨u, hu, _, e3⟩ := mnW_ex n q2
                  rcases (hN u hu).2 (D (fr u)) with z | z
                  · omega
                  · have := ih (fr u) (by omega)
                    omega
                · omega
          exact key _ _ (Nat.le_refl _)
        omega
    · rw [hmm (tt v), if_neg e]
      exact mnW_le hv (by simp [hop])
  · have e0 := hmm p
    rw [if_neg hp] at e0
    rw [e0] at hlt
    obtain ⟨v, hv, hc, e3⟩ := mnW_ex n hlt
    simp only [Bool.and_eq_true, decide_eq_true_eq] at hc
    exact ⟨v, hv, hc.1, hc.2, by rw [e0, e3]⟩
theorem SPd.ge (hN : okN n ar) {a t : Nat} {D : Nat → Nat} (ht : t ≤ FR) (h : SPd n fr tt ar op a t D) : ∀ p, t ≤ D p := by
  refine SPd.le (op := op) hN (fun _ q => q) h (E := fun _ => t) (fun _ => ht) (fun v hv _ => ?_) (Nat.le_refl _)
  rcases (hN v hv).2 t with z | z
  · rw [z]; exact ht
  · omega
end
