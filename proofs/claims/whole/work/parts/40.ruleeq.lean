/-! THE RULE: the class's postfix code means what the model holds -/
def ex (g : Nat → Int32) (D : List Int32) (s : Nat × (Nat → Int32)) : Nat × (Nat → Int32) := D.foldl (fun s one => rk1 one g s) s
theorem ex_app (g : Nat → Int32) (A B : List Int32) (s : Nat × (Nat → Int32)) : ex g (A ++ B) s = ex g B (ex g A s) := by unfold ex; rw [List.foldl_append]
def Ev (g : Nat → Int32) (δ : List Int32) (v : Int32) : Prop := ∀ s : Nat × (Nat → Int32), s.1 + δ.length ≤ 40 → (ex g δ s).1 = s.1 + 1 ∧ (ex g δ s).2 s.1 = v ∧ ∀ i, i < s.1 → (ex g δ s).2 i = s.2 i
theorem Ev.num {g : Nat → Int32} {m : Nat} (hm : m < 1000) : Ev g [nI m] (nI m) := by
  intro s hs
  have h1 : ¬ (2000 : Int32) ≤ nI m := fun z => absurd ((n_le (a := 2000) (b := m) rfl rfl (by omega) (by omega)).mp z) (by omega)
  have h2 : ¬ (1000 : Int32) ≤ nI m := fun z => absurd ((n_le (a := 1000) (b := m) rfl rfl (by omega) (by omega)).mp z) (by omega)
  simp only [List.length_cons, List.length_nil] at hs
  have e : ex g [nI m] s = (s.1 + 1, upd s.2 s.1 (nI m)) := by
    show rk1 (nI m) g s = _
    unfold rk1
    rw [if_neg h1, if_neg (by omega), if_neg h2]
  rw [e]
  refine ⟨rfl, by simp [upd], fun i hi => ?_⟩
  show upd _ _ _ _ = _
  unfold upd
  rw [if_neg (by omega)]
theorem Ev.let_ {g : Nat → Int32} {k : Nat} {x : Int32} (hx : x = nI k) (hk : k < 6) : Ev g [1000 + x] (g k) := by
  intro s hs
  have e0 : 1000 + x = nI (1000 + k) := by rw [hx]; exact n_la 1000 k
  have h1 : ¬ (2000 : Int32) ≤ nI (1000 + k) := fun z => absurd ((n_le (a := 2000) (b := 1000 + k) rfl rfl (by omega) (by omega)).mp z) (by omega)
  have h2 : (1000 : Int32) ≤ nI (1000 + k) := (n_le (a := 1000) (b := 1000 + k) rfl rfl (by omega) (by omega)).mpr (by omega)
  have h3 : nI (1000 + k) - 1000 = nI k := by
    rw [show nI (1000 + k) - 1000 = nI (1000 + k - 1000) from pk_sub (b := 1000) (by omega)]
    exact congrArg nI (by omega)
  simp only [List.length_cons, List.length_nil] at hs
  have e : ex g [1000 + x] s = (s.1 + 1, upd s.2 s.1 (g k)) := by
    show rk1 (1000 + x) g s = _
    rw [e0]
    unfold rk1
    rw [if_neg h1, if_neg (by omega), if_pos h2, h3]
    unfold vof
    rw [if_neg (n_neg (by omega)), if_neg (show ¬ (6 : Int32) ≤ nI k from fun z => absurd ((n_le (a := 6) (b := k) rfl rfl (by omega) (by omega)).mp z) (by omega)), nI_clamp (by omega)]
  rw [e]
  refine ⟨rfl, by simp [upd], fun i hi => ?_⟩
  show upd _ _ _ _ = _
  unfold upd
  rw [if_neg (by omega)]
theorem Ev.neg {g : Nat → Int32} {δ : List Int32} {v : Int32} (h : Ev g δ v) : Ev g (δ ++ [2126]) (-v) := by
  intro s hs
  simp only [List.length_append, List.length_cons, List.length_nil] at hs
  obtain ⟨h1, h2, h3⟩ := h s (by omega)
  rw [ex_app]
  generalize ex g δ s = t at *
  have e : ex g [2126] t = (t.1, upd t.2 (t.1 - 1) (-(t.2 (t.1 - 1)))) := by
    show rk1 2126 g t = _
    unfold rk1
    rw [if_pos (by decide), if_pos rfl, if_neg (by omega)]
  rw [e]
  have e1 : t.1 - 1 = s.1 := by omega
  rw [e1, h2]
  refine ⟨h1, by simp [upd], fun i hi => ?_⟩
  show upd _ _ _ _ = _
  unfold upd
  rw [if_neg (by omega)]
  exact h3 i hi
theorem Ev.neg_rep {g : Nat → Int32} : ∀ {m : Nat} {δ : List Int32} {v : Int32}, Ev g (δ ++ List.replicate m 2126) v → Ev g (δ ++ List.replicate (m + 1) 2126) (-v) := by
  intro m δ v h
  rw [List.replicate_succ', ← List.append_assoc]
  exact h.neg
theorem Ev.op {g : Nat → Int32} {δ1 δ2 : List Int32} {v1 v2 o : Int32} {k : Nat} (ho : o = nI k) (hk : k < 126) (h1 : Ev g δ1 v1) (h2 : Ev g δ2 v2) : Ev g (δ1 ++ δ2 ++ [2000 + o]) (jn o v1 v2) := by
  intro s hs
  simp only [List.length_append, List.length_cons, List.length_nil] at hs
  obtain ⟨a1, a2, a3⟩ := h1 s (by omega)
  rw [ex_app, ex_app]
  obtain ⟨b1, b2, b3⟩ := h2 (ex g δ1 s) (by omega)
  generalize ex g δ1 s = t at *
  generalize ex g δ2 t = u at *
  have e0 : 2000 + o = nI (2000 + k) := by rw [ho]; exact n_la 2000 k
  have c1 : (2000 : Int32) ≤ nI (2000 + k) := (n_le (a := 2000) (b := 2000 + k) rfl rfl (by omega) (by omega)).mpr (by omega)
  have c2 : ¬ nI (2000 + k) = 2126 := fun z => absurd ((n_eq (a := 2000 + k) (b := 2126) rfl rfl (by omega) (by omega)).mp z) (by omega)
  have c3 : nI (2000 + k) - 2000 = o := by
    rw [show nI (2000 + k) - 2000 = nI (2000 + k - 2000) from pk_sub (b := 2000) (by omega), ho]
    exact congrArg nI (by omega)
  have e : ex g [2000 + o] u = (u.1 - 1, upd u.2 (u.1 - 2) (jn o (u.2 (u.1 - 2)) (u.2 (u.1 - 1)))) := by
    show rk1 (2000 + o) g u = _
    rw [e0]
    unfold rk1
    rw [if_pos c1, if_neg c2, if_neg (by omega), c3]
  rw [e]
  have e1 : u.1 - 1 = t.1 := by omega
  have e2 : u.1 - 2 = s.1 := by omega
  rw [e1, e2, b2, b3 s.1 (by omega), a2]
  refine ⟨a1, by simp [upd], fun i hi => ?_⟩
  show upd _ _ _ _ = _
  unfold upd
  rw [if_neg (by omega), b3 i (by omega)]
  exact a3 i hi
/-! reaching -/
def Rch (c : Nat → Int32) (σ τ : XS) : Prop := ∃ j, j + σ.1 ≤ τ.1 ∧ ∀ k, xrun c (k + j) σ = xrun c k τ
def Fal (c : Nat → Int32) (σ : XS) (q : Nat) : Prop := ∃ j D, j + σ.1 ≤ q + 1 ∧ ∀ k, xrun c (k + j) σ = (false, q, D)
theorem Rch.refl (c : Nat → Int32) (σ : XS) : Rch c σ σ := ⟨0, by omega, fun _ => rfl⟩
theorem Rch.step {c : Nat → Int32} {σ τ : XS} (h : xst c σ = .inr τ) (hp : σ.1 + 1 ≤ τ.1) : Rch c σ τ := ⟨1, by omega, fun k => by show (match xst c σ with | .inl e => e | .inr τ => xrun c k τ) = _; rw [h]⟩
theorem Rch.trans {c : Nat → Int32} {σ τ υ : XS} (h1 : Rch c σ τ) (h2 : Rch c τ υ) : Rch c σ υ := by
  obtain ⟨j1, a1, b1⟩ := h1
  obtain ⟨j2, a2, b2⟩ := h2
  exact ⟨j2 + j1, by omega, fun k => by rw [← Nat.add_assoc, b1, b2]⟩
theorem Fal.step {c : Nat → Int32} {σ : XS} {D : List Int32} (h : xst c σ = .inl (false, σ.1, D)) : Fal c σ σ.1 := ⟨1, D, by omega, fun k => by show (match xst c σ with | .inl e => e | .inr τ => xrun c k τ) = _; rw [h]⟩
theorem Rch.fal {c : Nat → Int32} {σ τ : XS} {q : Nat} (h1 : Rch c σ τ) (h2 : Fal c τ q) : Fal c σ q := by
  obtain ⟨j1, a1, b1⟩ := h1
  obtain ⟨j2, D, a2, b2⟩ := h2
  exact ⟨j2 + j1, D, by omega, fun k => by rw [← Nat.add_assoc, b1, b2]⟩
/-! popping -/
theorem popW_app {k : Nat} : ∀ {P W D : List Int32}, (∀ s ∈ P, k ≤ rko s) → popW k (P ++ W) D = popW k W (D ++ P.map (2000 + ·))
  | [], W, D, _ => by simp
  | s :: P, W, D, h => by
    have e : popW k (s :: (P ++ W)) D = popW k (P ++ W) (D ++ [2000 + s]) := if_pos (h s List.mem_cons_self)
    rw [List.cons_append, e, popW_app (fun x hx => h x (List.mem_cons_of_mem _ hx))]
    simp
def hdr (k : Nat) (W : List Int32) : Prop := ∀ s W', W = s :: W' → rko s < k
theorem popW_stop {k : Nat} {W D : List Int32} (h : hdr k W) : popW k W D = (W, D) := by
  cases W with
  | nil => rfl
  | cons s W =>
    unfold popW
    rw [if_neg (by have := h s W rfl; omega)]
theorem popW_both {k : Nat} {P W D : List Int32} (h : ∀ s ∈ P, k ≤ rko s) (hw : hdr k W) : popW k (P ++ W) D = (W, D ++ P.map (2000 + ·)) := by rw [popW_app h, popW_stop hw]
def agr (n cm cm' : Nat) : Prop := ∀ i, i < n → cm'.testBit i = cm.testBit i
theorem agr.refl (n cm : Nat) : agr n cm cm := fun _ _ => rfl
theorem agr.trans {n a b c : Nat} (h1 : agr n a b) (h2 : agr n b c) : agr n a c := fun i hi => (h2 i hi).trans (h1 i hi)
theorem agr.mono {n m a b : Nat} (h : agr n a b) (hm : m ≤ n) : agr m a b := fun i hi => h i (by omega)
theorem bits2 : ∀ cm : Fin 32, ∀ dp : Fin 5, (bclr cm.val dp.val).testBit dp.val = false ∧ (bset cm.val dp.val).testBit dp.val = true ∧ ∀ i : Fin 5, i.val ≠ dp.val → (bclr cm.val dp.val).testBit i.val = cm.val.testBit i.val ∧ (bset cm.val dp.val).testBit i.val = cm.val.testBit i.val := by decide +kernel
theorem agr_clr {cm dp : Nat} (hc : cm < 32) (hd : dp < 4) : agr (dp + 1) cm (bclr cm (dp + 1)) := fun i hi => ((bits2 ⟨cm, hc⟩ ⟨dp + 1, by omega⟩).2.2 ⟨i, by omega⟩ (by show i ≠ dp + 1; omega)).1
theorem agr_set {cm dp : Nat} (hc : cm < 32) (hd : dp < 5) : agr dp cm (bset cm dp) := fun i hi => ((bits2 ⟨cm, hc⟩ ⟨dp, hd⟩).2.2 ⟨i, by omega⟩ (by show i ≠ dp; omega)).2
/-- a thing -/
def PT (c g : Nat → Int32) (l dp : Nat) (T : TT) : Prop := ∀ (p : Nat) (D W : List Int32) (cm : Nat), p ≤ l → cm < 32 →
  (∀ q, (T p none).2.2 = some q → Fal c (p, true, D, W, dp, cm) q) ∧
  ((T p none).2.2 = none → ∃ δ m cm', Rch c (p, true, D, W, dp, cm) ((T p none).2.1, false, D ++ δ, List.replicate m 126 ++ W, dp, cm') ∧ Ev g (δ ++ List.replicate m 2126) (T p none).1 ∧ cm' < 32 ∧ agr (dp + 1) cm cm')
/-- a product (rank 3), a sum (rank 2) -/
def PN (c g : Nat → Int32) (l dp k : Nat) (St : Int32 → Prop) (T : TT) : Prop := ∀ (p : Nat) (D W : List Int32) (cm : Nat), p ≤ l → cm < 32 → hdr k W →
  (∀ q, (T p none).2.2 = some q → Fal c (p, true, D, W, dp, cm) q) ∧
  ((T p none).2.2 = none → ∃ δ P cm', Rch c (p, true, D, W, dp, cm) ((T p none).2.1, false, D ++ δ, P ++ W, dp, cm') ∧ (∀ s ∈ P, k ≤ rko s) ∧ Ev g (δ ++ P.map (2000 + ·)) (T p none).1 ∧ cm' < 32 ∧ agr (dp + 1) cm cm' ∧ St (c (T p none).2.1))
/-- an expression -/
def PH (c g : Nat → Int32) (l dp : Nat) (T : TT) : Prop := ∀ (p : Nat) (D W : List Int32) (cm : Nat), p ≤ l → cm < 32 → hdr 1 W → cm.testBit dp = false →
  (∀ q, (T p none).2.2 = some q → Fal c (p, true, D, W, dp, cm) q) ∧
  ((T p none).2.2 = none → ∃ δ P cm', Rch c (p, true, D, W, dp, cm) ((T p none).2.1, false, D ++ δ, P ++ W, dp, cm') ∧ (∀ s ∈ P, 1 ≤ rko s) ∧ Ev g (δ ++ P.map (2000 + ·)) (T p none).1 ∧ cm' < 32 ∧ agr dp cm cm' ∧
    (rko (c (T p none).2.1) < 1 ∨ c (T p none).2.1 = 126 ∨ (rko (c (T p none).2.1) = 1 ∧ cm'.testBit dp = true)))
theorem rko_cases (s : Int32) : rko s < 1 ∨ s = 126 ∨ (rko s = 1 ∧ (s = 60 ∨ s = 61 ∨ s = 62)) ∨ (rko s = 2 ∧ (s = 43 ∨ s = 45)) ∨ (rko s = 3 ∧ (s = 42 ∨ s = 47)) := by
  unfold rko
  by_cases h1 : s = 42
  · simp [h1]
  by_cases h2 : s = 43
  · simp [h2]
  by_cases h3 : s = 45
  · simp [h3]
  by_cases h4 : s = 47
  · simp [h4]
  by_cases h5 : s = 60
  · simp [h5]
  by_cases h6 : s = 61
  · simp [h6]
  by_cases h7 : s = 62
  · simp [h7]
  by_cases h8 : s = 126
  · simp [h8]
  simp [h1, h2, h3, h4, h5, h6, h7, h8]
