/-! WAYS: the first leg; the least way, as numbers -/
section
variable {n : Nat} {fr tt : Nat → Nat} {ar : Nat → Nat → Nat} {op op' : Nat → Bool}
/-- that one may come back to the start changes nothing -/
theorem SPd.shut (hN : okN n ar) {a t : Nat} {D : Nat → Nat} (ht : t ≤ FR) (h : SPd n fr tt ar op a t D) (he : ∀ p, p ≠ a → op' p = op p) : SPd n fr tt ar op' a t D := by
  have hge := SPd.ge hN ht h
  refine ⟨h.1, h.2.1, fun v hv ho => ?_, fun p hp hlt => ?_⟩
  · by_cases e : tt v = a
    · rw [e, h.1]
      have := hge (fr v)
      rcases (hN v hv).2 (D (fr v)) with z | z <;> omega
    · exact h.2.2.1 v hv (by rw [← he _ e]; exact ho)
  · obtain ⟨v, hv, e1, e2, e3⟩ := h.2.2.2 p hp hlt
    exact ⟨v, hv, e1, by rw [he p hp]; exact e2, e3⟩
/-- the way to x has a first leg -/
theorem SPd.first (hN : okN n ar) {a t : Nat} {D : Nat → Nat} (ht : t ≤ FR) (h : SPd n fr tt ar op a t D) (E : Nat → Nat → Nat) (hE : ∀ q, D q < FR → SPd n fr tt ar (fun p => op p && decide (p ≠ q)) q (D q) (E q)) :
    ∀ y x, D x ≤ y → x ≠ a → D x < FR → ∃ v, v < n ∧ fr v = a ∧ op (tt v) = true ∧ tt v ≠ a ∧ D (tt v) = ar v t ∧ D (tt v) < FR ∧ E (tt v) x ≤ D x := by
  intro y
  induction y with
  | zero =>
    intro x hy hx hlt
    obtain ⟨v, hv, e1, e2, e3⟩ := h.2.2.2 x hx hlt
    rcases (hN v hv).2 (D (fr v)) with z | z <;> omega
  | succ y ih =>
    intro x hy hx hlt
    obtain ⟨v, hv, e1, e2, e3⟩ := h.2.2.2 x hx hlt
    by_cases e : fr v = a
    · refine ⟨v, hv, e, by rw [e1]; exact e2, by rw [e1]; exact hx, ?_, by rw [e1]; exact hlt, ?_⟩
      · rw [e1, e3, e, h.1]
      · rw [e1, (hE x hlt).1]
        exact Nat.le_refl _
    · have hltu : D (fr v) < D x := by
        rcases (hN v hv).2 (D (fr v)) with z | z <;> omega
      obtain ⟨u, hu, f1, f2, f3, f4, f5, f6⟩ := ih (fr v) (by omega) e (by omega)
      refine ⟨u, hu, f1, f2, f3, f4, f5, ?_⟩
      have hEu := hE (tt u) f5
      by_cases q : x = tt u
      · rw [q, hEu.1]
        exact Nat.le_refl _
      · have h1 := hEu.2.2.1 v hv (by rw [e1]; show (op x && decide (x ≠ tt u)) = true; rw [e2]; simpa using q)
        have h2 := (hN v hv).1 _ _ f6
        rw [e1] at h1
        omega
end
theorem Ds_op {s : SV} {m : MO} {B mg sh a t q : Nat} (hk : sok s) (hm : mok s B m) (ht : t ≤ FR) (hq : q < 8) : SPd (2 * s.nr) (nfr m) (ntt m) (nar s m mg) (fun p => opn sh p && decide (p ≠ q)) a t (Ds s m mg (sh ||| 2 ^ q) a t) := by
  have h := Ds_sp hk hm mg (sh ||| 2 ^ q) a ht
  have e : (fun p => opn sh p && decide (p ≠ q)) = opn (sh ||| 2 ^ q) := by
    funext p
    unfold opn
    rw [tb_set, Bool.not_or]
    congr 1
    by_cases hp : p = q
    · simp [hp]
    · simp [hp]
  rw [e]
  exact h
/-- a place at which one is can be shut -/
theorem Ds_self {s : SV} {m : MO} {B mg sh q t : Nat} (hk : sok s) (hm : mok s B m) (ht : t ≤ FR) (p : Nat) : Ds s m mg (sh ||| 2 ^ q) q t p = Ds s m mg sh q t p := by
  refine SPd.uniq (nar_ok s m mg) (Ds_sp hk hm mg (sh ||| 2 ^ q) q ht) (SPd.shut (nar_ok s m mg) ht (Ds_sp hk hm mg sh q ht) (fun p hp => ?_)) p
  unfold opn
  rw [tb_set]
  simp [hp]
theorem Ds_mono {s : SV} {m : MO} {B mg sh q t t' : Nat} (hk : sok s) (hm : mok s B m) (h : t ≤ t') (ht : t' ≤ FR) (p : Nat) : Ds s m mg sh q t p ≤ Ds s m mg sh q t' p := by
  have h1 := Ds_sp hk hm mg sh q (show t ≤ FR by omega)
  exact SPd.le (nar_ok s m mg) (fun _ z => z) (Ds_sp hk hm mg sh q ht) h1.2.1 h1.2.2.1 (by rw [h1.1]; exact h) p
theorem nar_FR {s : SV} {m : MO} {mg v t : Nat} (hv : v < 2 * s.nr) : nar s m mg v t ≤ FR := by
  have : FR = 1000000 := rfl
  rcases (nar_ok s m mg v hv).2 t with z | z <;> omega
/-- one comes from a to x by b if and only if some first leg does -/
theorem first_leg {s : SV} {m : MO} {B mg sh a t x b : Nat} (hk : sok s) (hm : mok s B m) (ht : t ≤ FR) (hb : b ≤ 120) (hx : x ≠ a) (ha : sh.testBit a = true) : Ds s m mg sh a t x ≤ b ↔ ∃ v, v < 2 * s.nr ∧ nfr m v = a ∧ sh.testBit (ntt m v) = false ∧ nar s m mg v t ≤ b ∧ Ds s m mg (sh ||| 2 ^ (ntt m v)) (ntt m v) (nar s m mg v t) x ≤ b := by
  have hFR : FR = 1000000 := rfl
  have hD := Ds_sp hk hm mg sh a ht
  constructor
  · intro h
    obtain ⟨v, hv, f1, f2, f3, f4, f5, f6⟩ := SPd.first (nar_ok s m mg) ht hD (fun q p => Ds s m mg (sh ||| 2 ^ q) q (Ds s m mg sh a t q) p) (fun q hq => by
      by_cases q8 : q < 8
      · exact Ds_op hk hm (by omega) q8
      · by_cases e : q = a
        · have hh := Ds_sp hk hm mg (sh ||| 2 ^ q) q (t := Ds s m mg sh a t q) (by omega)
          have e : (fun p => opn sh p && decide (p ≠ q)) = opn (sh ||| 2 ^ q) := by
            funext p
            unfold opn
            rw [tb_set, Bool.not_or]
            congr 1
            by_cases hp : p = q
            · simp [hp]
            · simp [hp]
          rw [e]
          exact hh
        · obtain ⟨v, hv, e1, -⟩ := hD.2.2.2 q e hq
          have := (net_pl hk hm hv).2
          have := hk.1
          omega) _ x (Nat.le_refl _) hx (by omega)
    have hge := SPd.ge (nar_ok s m mg) (t := Ds s m mg sh a t (ntt m v)) (by omega) (Ds_sp hk hm mg (sh ||| 2 ^ (ntt m v)) (ntt m v) (by omega)) x
    refine ⟨v, hv, f1, ?_, ?_, ?_⟩
    · unfold opn at f2
      cases hh : sh.testBit (ntt m v) with
      | false => rfl
      | true => rw [hh] at f2; cases f2
    · rw [← f4]; omega
    · rw [← f4]; omega
  · rintro ⟨v, hv, f1, f2, f3, f4⟩
    have h1 := hD.2.2.1 v hv (by unfold opn; rw [f2]; rfl)
    rw [f1, hD.1] at h1
    have hop : ∀ p, opn (sh ||| 2 ^ (ntt m v)) p = true → opn sh p = true := fun p hp => by
      unfold opn at hp ⊢
      rw [tb_set] at hp
      cases hh : sh.testBit p with
      | false => rfl
      | true => rw [hh] at hp; simp at hp
    have := SPd.le (nar_ok s m mg) hop (Ds_sp hk hm mg (sh ||| 2 ^ (ntt m v)) (ntt m v) (nar_FR hv)) hD.2.1 hD.2.2.1 h1 x
    omega
/-- whether by a way v one gets on, if one waits for it -/
noncomputable def ql (s : SV) (m : MO) (mg sh b x p t v : Nat) : Bool := decide (nfr m v = p) && (!sh.testBit (ntt m v) && (decide (dep (nok s m mg v) t < FR) && decide (Ds s m mg sh (ntt m v) (nar s m mg v t) x ≤ b)))
/-- the way into road w from p -/
def wv (m : MO) (w p : Nat) : Nat := if ea m w = p then 2 * w else 2 * w + 1
/-- the class's choice among the first k roads: a way, when -/
noncomputable def lwF (s : SV) (m : MO) (mg sh b x p t : Nat) : Nat → Nat × Nat
  | 0 => (0, FR)
  | k + 1 => if (ql s m mg sh b x p t (wv m k p) && decide (dep (nok s m mg (wv m k p)) t < (lwF s m mg sh b x p t k).2)) = true then (wv m k p, dep (nok s m mg (wv m k p)) t) else lwF s m mg sh b x p t k
noncomputable def pth (s : SV) (m : MO) (mg b x : Nat) : Nat → Nat → Nat → Nat → List Int32
  | 0, _, _, _ => []
  | g + 1, p, t, sh => if p = x then [] else
    if (lwF s m mg (sh ||| 2 ^ p) b x p t s.nr).2 = FR then [] else
    nI (lwF s m mg (sh ||| 2 ^ p) b x p t s.nr).2 :: nI ((lwF s m mg (sh ||| 2 ^ p) b x p t s.nr).1 / 2) :: pth s m mg b x g (ntt m (lwF s m mg (sh ||| 2 ^ p) b x p t s.nr).1) (nar s m mg (lwF s m mg (sh ||| 2 ^ p) b x p t s.nr).1 t) (sh ||| 2 ^ p)
theorem lwF_le (s : SV) (m : MO) (mg sh b x p t : Nat) : ∀ k, (lwF s m mg sh b x p t k).2 ≤ FR
  | 0 => Nat.le_refl _
  | k + 1 => by
    have := lwF_le s m mg sh b x p t k
    unfold lwF
    split
    · exact dep_le
    · exact this
/-- what is chosen gets on, at its own time; no other does sooner, nor as soon at a lower road -/
theorem lwF_spec (s : SV) (m : MO) (mg sh b x p t : Nat) : ∀ k, ((lwF s m mg sh b x p t k).2 = FR ∨ ((lwF s m mg sh b x p t k).1 / 2 < k ∧ ql s m mg sh b x p t (lwF s m mg sh b x p t k).1 = true ∧ (lwF s m mg sh b x p t k).1 = wv m ((lwF s m mg sh b x p t k).1 / 2) p ∧ (lwF s m mg sh b x p t k).2 = dep (nok s m mg (lwF s m mg sh b x p t k).1) t ∧ (lwF s m mg sh b x p t k).2 < FR)) ∧
    ∀ w, w < k → ql s m mg sh b x p t (wv m w p) = true → (lwF s m mg sh b x p t k).2 < dep (nok s m mg (wv m w p)) t ∨ ((lwF s m mg sh b x p t k).2 = dep (nok s m mg (wv m w p)) t ∧ (lwF s m mg sh b x p t k).1 / 2 ≤ w)
  | 0 => ⟨Or.inl rfl, fun w hw => by omega⟩
  | k + 1 => by
    obtain ⟨h1, h2⟩ := lwF_spec s m mg sh b x p t k
    have hFk := lwF_le s m mg sh b x p t k
    have hw2 : ∀ w, wv m w p / 2 = w := fun w => by unfold wv; split <;> omega
    unfold lwF
    split
    · rename_i z
      rw [Bool.and_eq_true, decide_eq_true_eq] at z
      refine ⟨Or.inr ⟨?_, z.1, ?_, rfl, by dsimp only; omega⟩, fun w hw hq => ?_⟩
      · dsimp only; rw [hw2]; omega
      · dsimp only; rw [hw2]
      · dsimp only
        rw [hw2]
        by_cases e : w = k
        · subst e
          exact Or.inr ⟨rfl, Nat.le_refl _⟩
        · rcases h2 w (by omega) hq with h | ⟨h, h'⟩ <;> exact Or.inl (by omega)
    · rename_i z
      refine ⟨h1.imp id (fun ⟨a, q⟩ => ⟨by omega, q⟩), fun w hw hq => ?_⟩
      by_cases e : w = k
      · subst e
        have hlt : ¬ dep (nok s m mg (wv m w p)) t < (lwF s m mg sh b x p t w).2 := fun a => z (by rw [hq]; simpa using a)
        rcases Nat.lt_or_ge (lwF s m mg sh b x p t w).2 (dep (nok s m mg (wv m w p)) t) with q | q
        · exact Or.inl q
        · refine Or.inr ⟨by omega, ?_⟩
          rcases h1 with h1 | ⟨h1, -⟩
          · have hd : dep (nok s m mg (wv m w p)) t < FR := by
              unfold ql at hq
              simp only [Bool.and_eq_true, decide_eq_true_eq] at hq
              exact hq.2.2.1
            omega
          · omega
      · exact h2 w (by omega) hq
