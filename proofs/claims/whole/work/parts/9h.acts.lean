/-! day(): its text; the class reads it -/
abbrev T3 : Type := Int32 × Int32 × Int32
def updT (A : Nat → T3) (i : Nat) (t : T3) : Nat → T3 := fun j => if j = i then t else A j
theorem updT_0 {A : Nat → T3} {i : Nat} {t : T3} : updT A i t i = t := if_pos rfl
theorem updT_1 {A : Nat → T3} {i j : Nat} {t : T3} (h : j ≠ i) : updT A i t j = A j := if_neg h
def kok (x : Int32) : Prop := x = 111 ∨ x = 116 ∨ x = 98 ∨ x = 99 ∨ x = 108
def kob (x : Int32) : Bool := decide (x = 111) || (decide (x = 116) || (decide (x = 98) || (decide (x = 99) || decide (x = 108))))
theorem kob_iff {x : Int32} : kob x = true ↔ kok x := by unfold kob kok; simp
def actF (c : Nat → Int32) (p : Nat) : Nat × Option T3 :=
  if ¬ kob (c p) = true then (p, none)
  else if ¬ dg (c (p + 1)) = true then (p + 1, none)
  else if c p = 116 then ((nmv c 2 (p + 1) 0).2, some (c p, (nmv c 2 (p + 1) 0).1, 0))
  else if c p = 111 then (if dg (c (p + 2)) = true then ((nmv c 2 (p + 2) 0).2, some (c p, c (p + 1) - 48, (nmv c 2 (p + 2) 0).1)) else (p + 2, none))
  else if c p = 108 then (if dg (c (p + 2)) = true then (p + 3, some (c p, c (p + 1) - 48, c (p + 2) - 48)) else (p + 2, none))
  else (p + 2, some (c p, c (p + 1) - 48, 0))
def actsF (c : Nat → Int32) : Nat → Nat → Nat → (Nat → T3) → Nat × Option (Nat × (Nat → T3))
  | 0, _, p, _ => (p, none)
  | F + 1, i, p, A => match actF c p with
    | (q, none) => (q, none)
    | (q, some t) => if c q = 59 then actsF c F (i + 1) (q + 1) (updT A i t) else if c q = -1 then (q, some (i + 1, updT A i t)) else (q, none)
theorem actsF_s {c : Nat → Int32} {F i p : Nat} {A : Nat → T3} : actsF c (F + 1) i p A = (match actF c p with
    | (q, none) => (q, none)
    | (q, some t) => if c q = 59 then actsF c F (i + 1) (q + 1) (updT A i t) else if c q = -1 then (q, some (i + 1, updT A i t)) else (q, none)) := rfl
/-- an act that is read -/
def tok3 (t : T3) : Prop := kok t.1 ∧ ∃ a b : Nat, a ≤ 99 ∧ b ≤ 99 ∧ t.2.1 = nI a ∧ t.2.2 = nI b ∧ (t.1 = 108 → b ≤ 9)
theorem nmv_99 {c : Nat → Int32} {p : Nat} : ∃ a, a ≤ 99 ∧ (nmv c 2 p 0).1 = nI a := by
  obtain ⟨m, e, hm⟩ := nmv_nat c 2 p 0
  exact ⟨m, by omega, e⟩
section
variable {c : Nat → Int32} {p q : Nat}
theorem actF_k (h : ¬ kob (c p) = true) : actF c p = (p, none) := by unfold actF; rw [if_pos h]
theorem actF_d (h : kob (c p) = true) (h2 : ¬ dg (c (p + 1)) = true) : actF c p = (p + 1, none) := by unfold actF; rw [if_neg (not_not_intro h), if_pos h2]
theorem actF_t (h2 : dg (c (p + 1)) = true) (h3 : c p = 116) : actF c p = ((nmv c 2 (p + 1) 0).2, some (c p, (nmv c 2 (p + 1) 0).1, 0)) := by unfold actF; rw [if_neg (not_not_intro (by rw [h3]; decide)), if_neg (not_not_intro h2), if_pos h3]
theorem actF_o (h2 : dg (c (p + 1)) = true) (h3 : c p = 111) (h4 : dg (c (p + 2)) = true) : actF c p = ((nmv c 2 (p + 2) 0).2, some (c p, c (p + 1) - 48, (nmv c 2 (p + 2) 0).1)) := by unfold actF; rw [if_neg (not_not_intro (by rw [h3]; decide)), if_neg (not_not_intro h2), if_neg (by rw [h3]; decide), if_pos h3, if_pos h4]
theorem actF_of (h2 : dg (c (p + 1)) = true) (h3 : c p = 111) (h4 : ¬ dg (c (p + 2)) = true) : actF c p = (p + 2, none) := by unfold actF; rw [if_neg (not_not_intro (by rw [h3]; decide)), if_neg (not_not_intro h2), if_neg (by rw [h3]; decide), if_pos h3, if_neg h4]
theorem actF_l (h2 : dg (c (p + 1)) = true) (h3 : c p = 108) (h4 : dg (c (p + 2)) = true) : actF c p = (p + 3, some (c p, c (p + 1) - 48, c (p + 2) - 48)) := by unfold actF; rw [if_neg (not_not_intro (by rw [h3]; decide)), if_neg (not_not_intro h2), if_neg (by rw [h3]; decide), if_neg (by rw [h3]; decide), if_pos h3, if_pos h4]
theorem actF_lf (h2 : dg (c (p + 1)) = true) (h3 : c p = 108) (h4 : ¬ dg (c (p + 2)) = true) : actF c p = (p + 2, none) := by unfold actF; rw [if_neg (not_not_intro (by rw [h3]; decide)), if_neg (not_not_intro h2), if_neg (by rw [h3]; decide), if_neg (by rw [h3]; decide), if_pos h3, if_neg h4]
theorem actF_s (h : kob (c p) = true) (h2 : dg (c (p + 1)) = true) (h3 : ¬ c p = 116) (h4 : ¬ c p = 111) (h5 : ¬ c p = 108) : actF c p = (p + 2, some (c p, c (p + 1) - 48, 0)) := by unfold actF; rw [if_neg (not_not_intro h), if_neg (not_not_intro h2), if_neg h3, if_neg h4, if_neg h5]
end
theorem actF_all {f : Nat → Int32} {l p q : Nat} {o : Option T3} (hc : c8 (ch f l)) (hp : p ≤ l) (h : actF (ch f l) p = (q, o)) : q ≤ l ∧ p ≤ q ∧ (¬ o = none → p + 1 < q) ∧ ∀ t, o = some t → tok3 t := by
  by_cases z1 : kob (ch f l p) = true
  rotate_left
  · rw [actF_k z1] at h
    cases h
    exact ⟨hp, Nat.le_refl _, fun e => absurd rfl e, fun t e => by cases e⟩
  have i1 : p < l := ch_in (f := f) (l := l) (p := p) (fun e => by rw [e] at z1; cases z1)
  by_cases z2 : dg (ch f l (p + 1)) = true
  rotate_left
  · rw [actF_d z1 z2] at h
    cases h
    exact ⟨i1, by omega, fun e => absurd rfl e, fun t e => by cases e⟩
  have i2 := dg_lt z2
  obtain ⟨a, ha, ea⟩ := dg_ex (hc (p + 1)) z2
  have hk := kob_iff.mp z1
  by_cases z3 : ch f l p = 116
  · rw [actF_t z2 z3] at h
    have h1 := nmv_lt (f := f) (l := l) 2 (p + 1) 0 (by omega)
    have h2 := nmv_gt z2
    obtain ⟨b, hb, eb⟩ := nmv_99 (c := ch f l) (p := p + 1)
    cases h
    exact ⟨h1, by omega, fun _ => by omega, fun t e => by
      cases e
      exact ⟨hk, b, 0, hb, by omega, eb, rfl, fun _ => by omega⟩⟩
  by_cases z4 : ch f l p = 111
  · by_cases z5 : dg (ch f l (p + 2)) = true
    · rw [actF_o z2 z4 z5] at h
      have h1 := nmv_lt (f := f) (l := l) 2 (p + 2) 0 (by omega)
      have h2 := nmv_gt z5
      obtain ⟨b, hb, eb⟩ := nmv_99 (c := ch f l) (p := p + 2)
      cases h
      exact ⟨h1, by omega, fun _ => by omega, fun t e => by
        cases e
        exact ⟨hk, a, b, by omega, hb, ea, eb, fun x => absurd (z4.symm.trans x) (by decide)⟩⟩
    · rw [actF_of z2 z4 z5] at h
      cases h
      exact ⟨by omega, by omega, fun e => absurd rfl e, fun t e => by cases e⟩
  by_cases z6 : ch f l p = 108
  · by_cases z5 : dg (ch f l (p + 2)) = true
    · rw [actF_l z2 z6 z5] at h
      have i3 := dg_lt z5
      obtain ⟨b, hb, eb⟩ := dg_ex (hc (p + 2)) z5
      cases h
      exact ⟨by omega, by omega, fun _ => by omega, fun t e => by
        cases e
        exact ⟨hk, a, b, by omega, by omega, ea, eb, fun _ => hb⟩⟩
    · rw [actF_lf z2 z6 z5] at h
      cases h
      exact ⟨by omega, by omega, fun e => absurd rfl e, fun t e => by cases e⟩
  · rw [actF_s z1 z2 z3 z4 z6] at h
    cases h
    exact ⟨by omega, by omega, fun _ => by omega, fun t e => by
      cases e
      exact ⟨hk, a, 0, by omega, by omega, ea, rfl, fun _ => by omega⟩⟩
def XA (A : Nat → T3) (J M : rt_I) (p i : Nat) : Prop := Fr M J [1, 25, 26, 27, 28] ∧ M 1 2 = nI p ∧ (∀ j, j ≠ 2 → M 1 j = J 1 j) ∧ M 25 3 = nI i ∧ ∀ j, j < i → M 26 j = (A j).1 ∧ M 27 j = (A j).2.1 ∧ M 28 j = (A j).2.2
section
variable {G : rt_G} {d : Nat} {Q : rt_Q} {M J I : rt_I} {L : rt_L} {r l p q i : Nat} {A : Nat → T3}
theorem XA.at (h : XA A J M p i) : XA A J (rt_u M 1 2 (nI q)) q i := by
  obtain ⟨h1, h2, h3, h4⟩ := h
  exact ⟨h1.u (by decide), rt_u_at, fun j hj => by rw [rt_u_n (Or.inr hj)]; exact h3 j hj, h4⟩
theorem XA.w {k : Nat} {v : Int32} (h : XA A J M p i) (hk : k = 26 ∨ k = 27 ∨ k = 28) : XA A J (rt_u M k i v) p i := by
  obtain ⟨h1, h2, h3, h4, h5⟩ := h
  refine ⟨h1.u (by rcases hk with rfl | rfl | rfl <;> decide), ?_, fun j hj => ?_, ?_, fun j hj => ?_⟩
  · rw [rt_u2 (by omega)]; exact h2
  · rw [rt_u2 (by omega)]; exact h3 j hj
  · rw [rt_u2 (by omega)]; exact h4
  · rw [rt_u_n (by omega), rt_u_n (by omega), rt_u_n (by omega)]; exact h5 j hj
theorem XA.done {t : T3} (h : XA A J M p i) (h1 : M 26 i = t.1) (h2 : M 27 i = t.2.1) (h3 : M 28 i = t.2.2) : XA (updT A i t) J (rt_u M 25 3 (nI (i + 1))) p (i + 1) := by
  obtain ⟨a1, a2, a3, a4, a5⟩ := h
  refine ⟨a1.u (by decide), a2, a3, rt_u_at, fun j hj => ?_⟩
  rw [rt_u_ne (by decide), rt_u_ne (by decide), rt_u_ne (by decide)]
  by_cases e : j = i
  · subst e; rw [updT_0]; exact ⟨h1, h2, h3⟩
  · rw [updT_1 e]; exact a5 j (by omega)
theorem act_142 {v : Int32} (hX : XA A J M p i) (hi : i < 60) (hv : M 28 i = v) (h1 : ¬ v = -1 → Q 1 M L r) (h0 : v = -1 → Q 0 M L r) : rt_AW G (d + 1) kX0_readAct Q 142 [some (.ref 25), none, none] [] M L r := by
  have e := hX.2.2.2.1
  refine v_X0_readAct_142 _ _ _ ?_
  rw [e]
  simp (disch := omega) only [vpT, clT, true_and]
  rw [hv]
  exact ⟨h0, h1⟩
theorem sX0_readAct (h : XA A J M p i) (hi : i < 60) (hl : J 1 3 = nI l) (h8 : l ≤ 60) (hp : p ≤ l)
    (h1 : ∀ M' q t, actF (ch (J 2) l) p = (q, some t) → XA A J M' q i → M' 26 i = t.1 → M' 27 i = t.2.1 → M' 28 i = t.2.2 → Q 1 M' L r)
    (h0 : ∀ M' q, actF (ch (J 2) l) p = (q, none) → XA A J M' q i → Q 0 M' L r) : rt_Call G (d + 3) kX0_readAct [.ref 25, .ref 1] M L r Q := by
  have e2 : ∀ {B : rt_I} {q : Nat}, XA A J B q i → B 2 = J 2 := fun a => a.1 2 (by decide)
  have el : ∀ {B : rt_I} {q : Nat}, XA A J B q i → B 1 3 = nI l := fun a => (a.2.2.1 3 (by decide)).trans hl
  have eP := h.2.1
  have e25 := h.2.2.2.1
  have main : kob (ch (J 2) l p) = true → rt_AW G (d + 3) kX0_readAct Q 37 [some (.ref 25), some (.ref 1), some (.int (ch (J 2) l p))] [] M L r := by
    intro hk
    have hA := (h.at (q := p + 1)).w (k := 26) (v := ch (J 2) l p) (Or.inl rfl)
    refine v_X0_readAct_37 _ _ _ _ ?_
    rw [eP, e25, nI_1]
    simp (disch := omega) only [vpT, clT, true_and]
    refine ⟨fun z => ?_, fun z => ?_⟩
    · refine tX7_takeNumber (p := p + 1) (l := l) (k := 1) (by omega) hA.2.1 (el hA) (by omega) (by omega) (fun y => ?_) (fun y => ?_)
      · rw [e2 hA] at y
        rw [hA.2.2.2.1]
        simp (disch := omega) only [vpT, clT, true_and, rt_u_at]
        exact ⟨fun x => absurd trivial x, fun _ => h0 _ _ (actF_d hk y) (hA.w (Or.inr (Or.inl rfl)))⟩
      · rw [e2 hA] at y ⊢
        rw [nmv_1 y]
        dsimp only
        have hB := ((hA.at (q := p + 1 + 1)).w (k := 27) (v := ch (J 2) l (p + 1) - 48) (Or.inr (Or.inl rfl))).w (k := 28) (v := 0) (Or.inr (Or.inr rfl))
        have hB0 := hA.at (q := p + 1 + 1)
        have b26 : (rt_u (rt_u (rt_u (rt_u (rt_u M 1 2 (nI (p + 1))) 26 i (ch (J 2) l p)) 1 2 (nI (p + 1 + 1))) 27 i (ch (J 2) l (p + 1) - 48)) 28 i 0) 26 i = ch (J 2) l p := by
          rw [rt_u2 (by decide), rt_u2 (by decide), rt_u2 (by decide), rt_u_at]
        have b27 : (rt_u (rt_u (rt_u (rt_u (rt_u M 1 2 (nI (p + 1))) 26 i (ch (J 2) l p)) 1 2 (nI (p + 1 + 1))) 27 i (ch (J 2) l (p + 1) - 48)) 28 i 0) 27 i = ch (J 2) l (p + 1) - 48 := by
          rw [rt_u2 (by decide), rt_u_at]
        rw [hB0.2.2.2.1]
        simp (disch := omega) only [vpT, clT, true_and, rt_u_at]
        have hne : ¬ ch (J 2) l (p + 1) - 48 = -1 := by
          have := nmv_ne1 (c := ch (J 2) l) (p := p + 1)
          rw [nmv_1 y] at this
          exact this
        refine ⟨fun _ => ⟨fun z2 => ⟨fun x => absurd z2 x, fun _ => ?_⟩, fun z2 => ⟨fun z3 => ?_, fun z3 => ⟨fun _ => ?_, fun x => absurd x z2⟩⟩⟩, fun x => absurd x hne⟩
        · refine tX7_takeNumber (p := p + 1 + 1) (l := l) (k := 2) (by omega) hB.2.1 (el hB) (by omega) (by omega) (fun y2 => ?_) (fun y2 => ?_)
          · rw [e2 hB] at y2
            exact act_142 (hB.w (Or.inr (Or.inr rfl))) hi rt_u_at (fun x => absurd rfl x) (fun _ => h0 _ _ (actF_of y z2 y2) (hB.w (Or.inr (Or.inr rfl))))
          · rw [e2 hB] at y2 ⊢
            have hC := (hB.at (q := (nmv (ch (J 2) l) 2 (p + 1 + 1) 0).2)).w (k := 28) (v := (nmv (ch (J 2) l) 2 (p + 1 + 1) 0).1) (Or.inr (Or.inr rfl))
            refine act_142 hC hi rt_u_at (fun _ => h1 _ _ _ (actF_o y z2 y2) hC ?_ ?_ rt_u_at) (fun x => absurd x nmv_ne)
            · rw [rt_u2 (by decide), rt_u2 (by decide)]; exact b26
            · rw [rt_u2 (by decide), rt_u2 (by decide)]; exact b27
        · exact act_142 hB hi rt_u_at (fun _ => h1 _ _ _ (actF_s hk y z z2 z3) hB b26 b27 rt_u_at) (fun x => absurd x (by decide))
        · refine tX7_takeNumber (p := p + 1 + 1) (l := l) (k := 1) (by omega) hB.2.1 (el hB) (by omega) (by omega) (fun y2 => ?_) (fun y2 => ?_)
          · rw [e2 hB] at y2
            exact act_142 (hB.w (Or.inr (Or.inr rfl))) hi rt_u_at (fun x => absurd rfl x) (fun _ => h0 _ _ (actF_lf y z3 y2) (hB.w (Or.inr (Or.inr rfl))))
          · rw [e2 hB] at y2 ⊢
            have hne2 := nmv_ne1 (c := ch (J 2) l) (p := p + 1 + 1)
            rw [nmv_1 y2] at hne2 ⊢
            dsimp only at hne2 ⊢
            have hC := (hB.at (q := p + 1 + 1 + 1)).w (k := 28) (v := ch (J 2) l (p + 1 + 1) - 48) (Or.inr (Or.inr rfl))
            refine act_142 hC hi rt_u_at (fun _ => h1 _ _ _ (actF_l y z3 y2) hC ?_ ?_ rt_u_at) (fun x => absurd x hne2)
            · rw [rt_u2 (by decide), rt_u2 (by decide)]; exact b26
            · rw [rt_u2 (by decide), rt_u2 (by decide)]; exact b27
    · refine tX7_takeNumber (p := p + 1) (l := l) (k := 2) (by omega) hA.2.1 (el hA) (by omega) (by omega) (fun y => ?_) (fun y => ?_)
      · rw [e2 hA] at y
        rw [hA.2.2.2.1]
        simp (disch := omega) only [vpT, clT, true_and, rt_u_at]
        exact ⟨fun x => absurd trivial x, fun _ => h0 _ _ (actF_d hk y) (hA.w (Or.inr (Or.inl rfl)))⟩
      · rw [e2 hA] at y ⊢
        have hB0 := hA.at (q := (nmv (ch (J 2) l) 2 (p + 1) 0).2)
        have hB := (hB0.w (k := 27) (v := (nmv (ch (J 2) l) 2 (p + 1) 0).1) (Or.inr (Or.inl rfl))).w (k := 28) (v := 0) (Or.inr (Or.inr rfl))
        rw [hB0.2.2.2.1]
        simp (disch := omega) only [vpT, clT, true_and, rt_u_at]
        refine ⟨fun _ => ⟨fun z2 => absurd (z.symm.trans z2) (by decide), fun z2 => ⟨fun z3 => ?_, fun z3 => absurd (z.symm.trans z3) (by decide)⟩⟩, fun x => absurd x nmv_ne⟩
        refine act_142 hB hi rt_u_at (fun _ => h1 _ _ _ (actF_t y z) hB ?_ ?_ rt_u_at) (fun x => absurd x (by decide))
        · rw [rt_u2 (by decide), rt_u2 (by decide), rt_u2 (by decide), rt_u_at]
        · rw [rt_u2 (by decide), rt_u_at]
  have hM2 : M 2 = J 2 := e2 h
  refine v_X0_readAct _ _ _ (tX7_peek eP (el h) (by omega) (by omega) ?_)
  rw [hM2]
  refine ⟨fun z => main (kob_iff.mpr (Or.inl z)), fun z1 => ⟨fun z => main (kob_iff.mpr (Or.inr (Or.inl z))), fun z2 => ⟨fun z => main (kob_iff.mpr (Or.inr (Or.inr (Or.inl z)))), fun z3 => ⟨fun z => main (kob_iff.mpr (Or.inr (Or.inr (Or.inr (Or.inl z))))), fun z4 => ⟨fun z => main (kob_iff.mpr (Or.inr (Or.inr (Or.inr (Or.inr z))))), fun z5 => ?_⟩⟩⟩⟩⟩
  refine h0 M p (actF_k (fun y => ?_)) h
  rcases kob_iff.mp y with e | e | e | e | e
  · exact z1 e
  · exact z2 e
  · exact z3 e
  · exact z4 e
  · exact z5 e
end
