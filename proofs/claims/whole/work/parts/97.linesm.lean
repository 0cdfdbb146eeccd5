/-! flats(): the model reads lines -/
def ofR (c : Nat → Int32) (k : Nat) (but : Int32) (p : Nat) (w : Option Nat) : RR := if w = none ∧ inb (c p - 97) k = true ∧ ¬ c p - 97 = but then (c p - 97, p + 1, w) else (0, p, w.or (some p))
def dfR (c : Nat → Int32) (low : Nat) (p : Nat) (w : Option Nat) : RR := if w = none ∧ dgl (c p) low = true then (c p - 48, p + 1, w) else (nI low, p, w.or (some p))
def neR (c : Nat → Int32) (x : Int32) (p : Nat) (w : Option Nat) : Nat × Option Nat := if w = none ∧ c p = x then (p + 1, w) else (p, w.or (some p))
theorem ofR_t {c : Nat → Int32} {k p : Nat} {b : Int32} (h : inb (c p - 97) k = true ∧ ¬ c p - 97 = b) : ofR c k b p none = (c p - 97, p + 1, none) := if_pos ⟨rfl, h⟩
theorem ofR_f {c : Nat → Int32} {k p : Nat} {b : Int32} (h : ¬ (inb (c p - 97) k = true ∧ ¬ c p - 97 = b)) : ofR c k b p none = (0, p, some p) := if_neg (fun z => h z.2)
theorem ofR_q {c : Nat → Int32} {k p q : Nat} {b : Int32} : ofR c k b p (some q) = (0, p, some q) := if_neg (fun z => by cases z.1)
theorem dfR_t {c : Nat → Int32} {k p : Nat} (h : dgl (c p) k = true) : dfR c k p none = (c p - 48, p + 1, none) := if_pos ⟨rfl, h⟩
theorem dfR_f {c : Nat → Int32} {k p : Nat} (h : ¬ dgl (c p) k = true) : dfR c k p none = (nI k, p, some p) := if_neg (fun z => h z.2)
theorem dfR_q {c : Nat → Int32} {k p q : Nat} : dfR c k p (some q) = (nI k, p, some q) := if_neg (fun z => by cases z.1)
theorem neR_t {c : Nat → Int32} {p : Nat} {x : Int32} (h : c p = x) : neR c x p none = (p + 1, none) := if_pos ⟨rfl, h⟩
theorem neR_f {c : Nat → Int32} {p : Nat} {x : Int32} (h : ¬ c p = x) : neR c x p none = (p, some p) := if_neg (fun z => h z.2)
theorem neR_q {c : Nat → Int32} {p q : Nat} {x : Int32} : neR c x p (some q) = (p, some q) := if_neg (fun z => by cases z.1)
theorem nmR_t {c : Nat → Int32} {k p : Nat} (h : dg (c p) = true) : nmR c k p none = ((nmv c k p 0).1, (nmv c k p 0).2, none) := if_pos ⟨rfl, h⟩
theorem nmR_f {c : Nat → Int32} {k p : Nat} (h : ¬ dg (c p) = true) : nmR c k p none = (0, p, some p) := if_neg (fun z => h z.2)
theorem nmR_q {c : Nat → Int32} {k p q : Nat} : nmR c k p (some q) = (0, p, some q) := if_neg (fun z => by cases z.1)
theorem ofR_ok {c : Nat → Int32} {k p : Nat} {b : Int32} {w : Option Nat} (hw : wok w) (hp : p < 1000) : wok (ofR c k b p w).2.2 ∧ (ofR c k b p w).2.1 ≤ p + 1 := by
  unfold ofR
  split
  · exact ⟨hw, Nat.le_refl _⟩
  · exact ⟨wok_or hw hp, Nat.le_succ _⟩
theorem dfR_ok {c : Nat → Int32} {k p : Nat} {w : Option Nat} (hw : wok w) (hp : p < 1000) : wok (dfR c k p w).2.2 ∧ (dfR c k p w).2.1 ≤ p + 1 := by
  unfold dfR
  split
  · exact ⟨hw, Nat.le_refl _⟩
  · exact ⟨wok_or hw hp, Nat.le_succ _⟩
theorem neR_ok {c : Nat → Int32} {p : Nat} {x : Int32} {w : Option Nat} (hw : wok w) (hp : p < 1000) : wok (neR c x p w).2 ∧ (neR c x p w).1 ≤ p + 1 := by
  unfold neR
  split
  · exact ⟨hw, Nat.le_refl _⟩
  · exact ⟨wok_or hw hp, Nat.le_succ _⟩
theorem o_in3 {x but : Int32} {k : Nat} (hx : x = -1 ∨ ∃ b, b < 256 ∧ x = nI b) (hk : k ≤ 8) : oOK x 97 k but ↔ (inb (x - 97) k = true ∧ ¬ x - 97 = but) := by
  have h1 := o_in hx hk
  unfold oOK at *
  constructor
  · intro h
    refine ⟨h1.mp ⟨h.1, h.2.1, fun e => ?_⟩, h.2.2⟩
    rcases hx with rfl | ⟨b, hb, rfl⟩
    · exact h.1 (by decide)
    · have h3 := mt (nI_ltI (by omega) (by omega)).mpr h.1
      rw [pk_sub (by omega)] at e
      exact n_ne1 (by omega) e
  · intro h
    obtain ⟨a1, a2, -⟩ := h1.mpr h.1
    exact ⟨a1, a2, h.2⟩
def RB (c : Nat → Int32) (l : Nat) (J : rt_I) : Prop := Rd J 114 l 114 ∧ (∀ i, byok (J 114 i)) ∧ mch J 114 l = c ∧ c8 c
theorem RB.u {c : Nat → Int32} {l x j : Nat} {v : Int32} {J : rt_I} (h : RB c l J) (h1 : x ≠ 114) (h2 : x ≠ 108 ∨ (j ≠ 16 ∧ j ≠ 17)) : RB c l (rt_u J x j v) := by
  obtain ⟨⟨a1, a2, n, k, a3, a4, a5⟩, b, e, g⟩ := h
  have e2 : (rt_u J x j v) 114 = J 114 := rt_u_ne (Ne.symm h1)
  refine ⟨⟨a1, a2, n, k, ?_, ?_, a5⟩, fun i => by rw [e2]; exact b i, ?_, g⟩
  · rw [rt_u_n (by rcases h2 with h2 | h2; exact Or.inl (Ne.symm h2); exact Or.inr (Ne.symm h2.1))]; exact a3
  · rw [rt_u_n (by rcases h2 with h2 | h2; exact Or.inl (Ne.symm h2); exact Or.inr (Ne.symm h2.2))]; exact a4
  · rw [← e]; unfold mch; rw [e2]
section
variable {G : rt_G} {d : Nat} {Q : rt_Q} {J : rt_I} {L : rt_L} {l p : Nat} {w : Option Nat} {c : Nat → Int32}
theorem b_oneOf {k : Nat} {x but : Int32} (h : RB c l J) (hk : k ≤ 8) (hx : x = nI k) (hp : p < 1000) (hw : wok w) (hQ : Q (ofR c k but p w).1 (mp J (ofR c k but p w).2.1 (ofR c k but p w).2.2) L 114) : rt_Call G (d + 2) kX12_oneOf [.ref 108, .int 97, .int x, .int but] (mp J p w) L 114 Q := by
  obtain ⟨h1, h2, h3, h4⟩ := h
  subst hx
  unfold ofR at hQ
  refine sX12_oneOf (a := 97) h1 h2 (by omega) (by omega) hp hw (fun z1 z2 => ?_) (fun z => ?_)
  · rw [h3] at z2 ⊢
    rw [if_pos ⟨z1, (o_in3 (h4 p) hk).mp z2⟩] at hQ
    exact hQ
  · rw [h3] at z
    rw [if_neg (fun y => z ⟨y.1, (o_in3 (h4 p) hk).mpr y.2⟩)] at hQ
    exact hQ
theorem b_digit {k : Nat} {x : Int32} (h : RB c l J) (hk : k ≤ 1) (hx : x = nI k) (hp : p < 1000) (hw : wok w) (hQ : Q (dfR c k p w).1 (mp J (dfR c k p w).2.1 (dfR c k p w).2.2) L 114) : rt_Call G (d + 3) kX12_digit [.ref 108, .int x] (mp J p w) L 114 Q := by
  obtain ⟨h1, h2, h3, h4⟩ := h
  subst hx
  unfold dfR at hQ
  refine sX12_digit hk h1 h2 hp hw (fun z1 z2 => ?_) (fun z => ?_)
  · rw [h3] at z2 ⊢
    rw [if_pos ⟨z1, z2⟩] at hQ
    exact hQ
  · rw [h3] at z
    rw [if_neg z] at hQ
    exact hQ
theorem b_need {x : Int32} (h : RB c l J) (hp : p < 1000) (hw : wok w) (hQ : Q 0 (mp J (neR c x p w).1 (neR c x p w).2) L 114) : rt_Call G (d + 2) kX12_need [.ref 108, .int x] (mp J p w) L 114 Q := by
  obtain ⟨h1, h2, h3, h4⟩ := h
  unfold neR at hQ
  refine sX12_need h1 hp hw (fun z1 z2 => ?_) (fun z => ?_)
  · rw [h3] at z2
    rw [if_pos ⟨z1, z2⟩] at hQ
    exact hQ
  · rw [h3] at z
    rw [if_neg z] at hQ
    exact hQ
theorem b_number {k : Nat} {x : Int32} (h : RB c l J) (hk : 0 < k ∧ k < 10) (hx : x = nI k) (hp : p < 900) (hw : wok w) (hQ : Q (nmR c k p w).1 (mp J (nmR c k p w).2.1 (nmR c k p w).2.2) L 114) : rt_Call G (d + 4) kX12_number [.ref 108, .int x] (mp J p w) L 114 Q := by
  obtain ⟨h1, h2, h3, h4⟩ := h
  subst hx
  exact sX12_number hk.1 hk.2 h1 h2 hp hw (by rw [h3]; exact hQ)
theorem b_here (h : RB c l J) (hp : p < 1000) (hQ : Q (c p) (mp J p w) L 114) : rt_Call G d kX12_here [.ref 108] (mp J p w) L 114 Q := by
  obtain ⟨h1, h2, h3, h4⟩ := h
  exact sX12_here h1 hp (by rw [h3]; exact hQ)
theorem b_passes {x : Int32} (h : RB c l J) (hp : p < 1000) (hw : wok w) (h1 : w = none → c p = x → Q 1 (mp J (p + 1) w) L 114) (h0 : ¬ (w = none ∧ c p = x) → Q 0 (mp J p w) L 114) : rt_Call G (d + 1) kX12_passes [.ref 108, .int x] (mp J p w) L 114 Q := by
  obtain ⟨a1, a2, a3, a4⟩ := h
  exact sX12_passes a1 hp hw (by rw [a3]; exact h1) (by rw [a3]; exact h0)
end
section
variable {c : Nat → Int32} {p : Nat} {D : DFT} {r1 r2 r3 r5 : RR} {r4 : Nat × Option Nat}
theorem road_pure (hc : c8 c) (hn : D.np ≤ 8) (hz : ¬ c p = 112) (z2 : ¬ 12 ≤ D.nr ∧ c p = 114) (e1 : r1 = ofR c D.np (-1) (p + 1) none) (e2 : r2 = ofR c D.np r1.1 r1.2.1 r1.2.2) (e3 : r3 = dfR c 1 r2.2.1 r2.2.2) (e4 : r4 = neR c 45 r3.2.1 r3.2.2) (e5 : r5 = nmR c 2 r4.1 r4.2) :
    (∃ q, lnF c p D = (q, none) ∧ r5.2.2 = some q) ∨ (lnF c p D = (r5.2.1, some (mkD D.np (D.nr + 1) D.ph (upd D.st D.nr r3.1) (upd D.rh D.nr r5.1) (upd (upd D.e (40 + 2 * D.nr) r1.1) (41 + 2 * D.nr) r2.1))) ∧ r5.2.2 = none) := by
  have g1 : ¬ ¬ (¬ 12 ≤ D.nr ∧ c p = 114) := not_not_intro z2
  have hne : ∀ {x : Nat} {n : Nat}, inb (c x - 97) n = true → ¬ c x - 97 = -1 := fun y e => by rw [e] at y; cases y
  by_cases y1 : inb (c (p + 1) - 97) D.np = true
  rotate_left
  · rw [ofR_f (fun y => y1 y.1)] at e1
    subst e1
    rw [show ofR c D.np _ _ _ = _ from ofR_q] at e2
    subst e2
    rw [show dfR c 1 _ _ = _ from dfR_q] at e3
    subst e3
    rw [show neR c 45 _ _ = _ from neR_q] at e4
    subst e4
    rw [show nmR c 2 _ _ = _ from nmR_q] at e5
    subst e5
    exact Or.inl ⟨p + 1, by unfold lnF; rw [if_neg hz, if_neg g1, if_pos y1], rfl⟩
  have g2 : ¬ ¬ inb (c (p + 1) - 97) D.np = true := not_not_intro y1
  rw [ofR_t ⟨y1, hne y1⟩] at e1
  subst e1
  have hxy : c (p + 2) - 97 = c (p + 1) - 97 ↔ c (p + 2) = c (p + 1) := by
    constructor
    · intro e
      have e2 := congrArg (· + (97 : Int32)) e
      rw [Int32.sub_add_cancel, Int32.sub_add_cancel] at e2
      exact e2
    · intro e
      rw [e]
  by_cases y2 : inb (c (p + 2) - 97) D.np = true ∧ ¬ c (p + 2) = c (p + 1)
  rotate_left
  · have y2' : ¬ (inb (c (p + 1 + 1) - 97) D.np = true ∧ ¬ c (p + 1 + 1) - 97 = c (p + 1) - 97) := fun y => y2 ⟨y.1, fun e => y.2 (hxy.mpr e)⟩
    rw [show ofR c D.np _ _ _ = _ from ofR_f y2'] at e2
    subst e2
    rw [show dfR c 1 _ _ = _ from dfR_q] at e3
    subst e3
    rw [show neR c 45 _ _ = _ from neR_q] at e4
    subst e4
    rw [show nmR c 2 _ _ = _ from nmR_q] at e5
    subst e5
    exact Or.inl ⟨p + 2, by unfold lnF; rw [if_neg hz, if_neg g1, if_neg g2, if_pos y2], rfl⟩
  have g3 : ¬ ¬ (inb (c (p + 2) - 97) D.np = true ∧ ¬ c (p + 2) = c (p + 1)) := not_not_intro y2
  have y2' : inb (c (p + 1 + 1) - 97) D.np = true ∧ ¬ c (p + 1 + 1) - 97 = c (p + 1) - 97 := ⟨y2.1, fun e => y2.2 (hxy.mp e)⟩
  rw [show ofR c D.np _ _ _ = _ from ofR_t y2'] at e2
  subst e2
  by_cases y3 : dg (c (p + 3)) = true ∧ ¬ c (p + 3) = 48
  rotate_left
  · have y3' : ¬ dgl (c (p + 1 + 1 + 1)) 1 = true := fun y => y3 ((g_in (hc _)).mp y)
    rw [show dfR c 1 _ _ = _ from dfR_f y3'] at e3
    subst e3
    rw [show neR c 45 _ _ = _ from neR_q] at e4
    subst e4
    rw [show nmR c 2 _ _ = _ from nmR_q] at e5
    subst e5
    exact Or.inl ⟨p + 3, by unfold lnF; rw [if_neg hz, if_neg g1, if_neg g2, if_neg g3, if_pos y3], rfl⟩
  have g4 : ¬ ¬ (dg (c (p + 3)) = true ∧ ¬ c (p + 3) = 48) := not_not_intro y3
  have y3' : dgl (c (p + 1 + 1 + 1)) 1 = true := (g_in (hc _)).mpr y3
  rw [show dfR c 1 _ _ = _ from dfR_t y3'] at e3
  subst e3
  by_cases y4 : c (p + 4) = 45
  rotate_left
  · have y4' : ¬ c (p + 1 + 1 + 1 + 1) = 45 := y4
    rw [show neR c 45 _ _ = _ from neR_f y4'] at e4
    subst e4
    rw [show nmR c 2 _ _ = _ from nmR_q] at e5
    subst e5
    exact Or.inl ⟨p + 4, by unfold lnF; rw [if_neg hz, if_neg g1, if_neg g2, if_neg g3, if_neg g4, if_pos y4], rfl⟩
  have g5 : ¬ ¬ c (p + 4) = 45 := not_not_intro y4
  have y4' : c (p + 1 + 1 + 1 + 1) = 45 := y4
  rw [show neR c 45 _ _ = _ from neR_t y4'] at e4
  subst e4
  by_cases y5 : dg (c (p + 5)) = true
  rotate_left
  · have y5' : ¬ dg (c (p + 1 + 1 + 1 + 1 + 1)) = true := y5
    rw [show nmR c 2 _ _ = _ from nmR_f y5'] at e5
    subst e5
    exact Or.inl ⟨p + 5, by unfold lnF; rw [if_neg hz, if_neg g1, if_neg g2, if_neg g3, if_neg g4, if_neg g5, if_pos y5], rfl⟩
  have y5' : dg (c (p + 1 + 1 + 1 + 1 + 1)) = true := y5
  rw [show nmR c 2 _ _ = _ from nmR_t y5'] at e5
  subst e5
  refine Or.inr ⟨?_, rfl⟩
  unfold lnF
  rw [if_neg hz, if_neg g1, if_neg g2, if_neg g3, if_neg g4, if_neg g5, if_neg (not_not_intro y5)]
end
