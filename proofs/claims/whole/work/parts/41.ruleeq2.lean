/-! THE RULE: thing, product, sum, expression, one out of the other -/
section
variable {f g : Nat → Int32} {l dp : Nat}
theorem st_end {p : Nat} {due : Bool} {D W : List Int32} {cm : Nat} (h : ch f l p = -1) : xst (ch f l) (p, due, D, W, dp, cm) = .inl (!due && decide (dp = 0), p, (popW 1 W D).2) := by
  unfold xst
  simp only [if_pos h]
theorem st_neg {p : Nat} {D W : List Int32} {cm : Nat} (h : ch f l p = 45) : xst (ch f l) (p, true, D, W, dp, cm) = .inr (p + 1, true, D, 126 :: W, dp, cm) := by
  unfold xst
  simp only [h]
  rfl
theorem st_par {p : Nat} {D W : List Int32} {cm : Nat} (h : ch f l p = 40) (hd : dp < 4) : xst (ch f l) (p, true, D, W, dp, cm) = .inr (p + 1, true, D, 40 :: W, dp + 1, bclr cm (dp + 1)) := by
  have h1 : ¬ ch f l p = -1 := fun e => by rw [e] at h; exact absurd h (by decide)
  have h2 : ¬ ch f l p = 45 := fun e => by rw [e] at h; exact absurd h (by decide)
  unfold xst
  simp only [if_neg h1, if_neg h2, if_pos (And.intro h hd), if_true]
theorem st_num {p : Nat} {D W : List Int32} {cm : Nat} (h : dg (ch f l p) = true) : xst (ch f l) (p, true, D, W, dp, cm) = .inr ((nmv (ch f l) 3 p 0).2, false, D ++ [(nmv (ch f l) 3 p 0).1], W, dp, cm) := by
  have h1 : ¬ ch f l p = -1 := fun e => by rw [e] at h; exact absurd h (by decide)
  have h2 : ¬ ch f l p = 45 := fun e => by rw [e] at h; exact absurd h (by decide)
  have h3 : ¬ (ch f l p = 40 ∧ dp < 4) := fun e => by rw [e.1] at h; exact absurd h (by decide)
  unfold xst
  simp only [if_neg h1, if_neg h2, if_neg h3, if_pos h, if_true]
theorem st_let {p : Nat} {D W : List Int32} {cm : Nat} (h0 : ¬ dg (ch f l p) = true) (h : ¬ lof (ch f l p) = -1) : xst (ch f l) (p, true, D, W, dp, cm) = .inr (p + 1, false, D ++ [1000 + lof (ch f l p)], W, dp, cm) := by
  have h1 : ¬ ch f l p = -1 := fun e => by rw [e] at h; exact absurd (by decide) h
  have h2 : ¬ ch f l p = 45 := fun e => by rw [e] at h; exact absurd (by decide) h
  have h3 : ¬ (ch f l p = 40 ∧ dp < 4) := fun e => by rw [e.1] at h; exact absurd (by decide) h
  unfold xst
  simp only [if_neg h1, if_neg h2, if_neg h3, if_neg h0, if_neg h, if_true]
theorem st_bad {p : Nat} {D W : List Int32} {cm : Nat} (h1 : ¬ ch f l p = -1) (h2 : ¬ ch f l p = 45) (h3 : ¬ (ch f l p = 40 ∧ dp < 4)) (h0 : ¬ dg (ch f l p) = true) (h : lof (ch f l p) = -1) : xst (ch f l) (p, true, D, W, dp, cm) = .inl (false, p, D) := by
  unfold xst
  simp only [if_neg h1, if_neg h2, if_neg h3, if_neg h0, if_pos h, if_true]
theorem st_close {p : Nat} {D W : List Int32} {cm : Nat} (h : ch f l p = 41) (hd : dp ≠ 0) : xst (ch f l) (p, false, D, W, dp, cm) = .inr (p + 1, false, (popW 1 W D).2, (popW 1 W D).1.tail, dp - 1, cm) := by
  have h1 : ¬ ch f l p = -1 := fun e => by rw [e] at h; exact absurd h (by decide)
  unfold xst
  simp only [if_neg h1, if_pos (And.intro hd h)]
  rfl
theorem st_op {p : Nat} {D W : List Int32} {cm : Nat} (h1 : ¬ (rko (ch f l p) < 1 ∨ ch f l p = 126)) (h2 : ¬ (rko (ch f l p) = 1 ∧ cm.testBit dp = true)) : xst (ch f l) (p, false, D, W, dp, cm) = .inr (p + 1, true, (popW (rko (ch f l p)) W D).2, ch f l p :: (popW (rko (ch f l p)) W D).1, dp, if rko (ch f l p) = 1 then bset cm dp else cm) := by
  have h3 : ¬ ch f l p = -1 := fun e => h1 (by rw [e]; exact Or.inl (by decide))
  have h4 : ¬ (dp ≠ 0 ∧ ch f l p = 41) := fun e => h1 (by rw [e.2]; exact Or.inl (by decide))
  unfold xst
  simp only [if_neg h3, if_neg h4, if_neg h1, if_neg h2]
  rfl
theorem st_stop {p : Nat} {D W : List Int32} {cm : Nat} (h3 : ¬ ch f l p = -1) (h4 : ¬ (dp ≠ 0 ∧ ch f l p = 41)) (h1 : rko (ch f l p) < 1 ∨ ch f l p = 126 ∨ (rko (ch f l p) = 1 ∧ cm.testBit dp = true)) : xst (ch f l) (p, false, D, W, dp, cm) = .inl (false, p, D) := by
  unfold xst
  simp only [if_neg h3, if_neg h4]
  by_cases a : rko (ch f l p) < 1 ∨ ch f l p = 126
  · simp only [if_pos a]; rfl
  · have b : rko (ch f l p) = 1 ∧ cm.testBit dp = true := by
      rcases h1 with h | h | h
      · exact absurd (Or.inl h) a
      · exact absurd (Or.inr h) a
      · exact h
    simp only [if_neg a, if_pos b]; rfl
theorem or_none {w : Option Nat} {p : Nat} : ¬ w.or (some p) = none := by cases w <;> simp
theorem or_some {w : Option Nat} {p q : Nat} (h : w.or (some p) = some q) : w = some q ∨ (w = none ∧ q = p) := by
  cases w with
  | none => right; exact ⟨rfl, (Option.some.inj h).symm⟩
  | some x => left; exact h
/-- an atom -/
theorem e_at {p : Nat} {D W : List Int32} {cm : Nat} (hp : p ≤ l) (hcm : cm < 32) (h45 : ¬ ch f l p = 45) (h40 : ¬ (ch f l p = 40 ∧ dp < 4)) :
    (∀ q, (atR (ch f l) g p).2.2 = some q → Fal (ch f l) (p, true, D, W, dp, cm) q) ∧
    ((atR (ch f l) g p).2.2 = none → ∃ δ m cm', Rch (ch f l) (p, true, D, W, dp, cm) ((atR (ch f l) g p).2.1, false, D ++ δ, List.replicate m 126 ++ W, dp, cm') ∧ Ev g (δ ++ List.replicate m 2126) (atR (ch f l) g p).1 ∧ cm' < 32 ∧ agr (dp + 1) cm cm') := by
  unfold atR
  by_cases h1 : dg (ch f l p) = true
  · rw [if_pos h1]
    unfold nmR
    rw [if_pos ⟨rfl, h1⟩]
    refine ⟨fun q hq => (by cases hq), fun _ => ⟨[(nmv (ch f l) 3 p 0).1], 0, cm, Rch.step (st_num h1) ?_, ?_, hcm, agr.refl _ _⟩⟩
    · have := nmR_pos (c := ch f l) (k := 3) (p := p) (w := none) (by omega)
      unfold nmR at this
      rw [if_pos ⟨rfl, h1⟩] at this
      exact this rfl
    · obtain ⟨m, hm, hb⟩ := nmv_nat (ch f l) 3 p 0
      rw [show nI 0 = 0 from rfl] at hm
      simp only [List.replicate_zero, List.append_nil]
      rw [hm]
      exact Ev.num (by omega)
  · rw [if_neg h1]
    by_cases h2 : lof (ch f l p) = -1
    · rw [if_pos h2]
      refine ⟨fun q hq => ?_, fun hq => by cases hq⟩
      cases hq
      by_cases h3 : ch f l p = -1
      · exact Fal.step (D := (popW 1 W D).2) (by rw [st_end h3]; rfl)
      · exact Fal.step (st_bad h3 h45 h40 h1 h2)
    · rw [if_neg h2]
      refine ⟨fun q hq => (by cases hq), fun _ => ⟨[1000 + lof (ch f l p)], 0, cm, Rch.step (st_let h1 h2) (Nat.le_refl _), ?_, hcm, agr.refl _ _⟩⟩
      rcases lof_ex (ch f l p) with h | ⟨k, hk, e⟩
      · exact absurd h h2
      · simp only [List.replicate_zero, List.append_nil]
        rw [e, nI_clamp (by omega), ← e]
        exact Ev.let_ e hk
/-- a thing, out of the expression within brackets -/
theorem e_th {H : Option TT} (hl : l ≤ 80) (hH : ∀ T, H = some T → dp < 4 ∧ gT l T ∧ PH (ch f l) g l (dp + 1) T) (hN : H = none → ¬ dp < 4) : ∀ k, ∀ (p : Nat) (D W : List Int32) (cm : Nat), l < k + p → p ≤ l → cm < 32 →
    (∀ q, (thR (ch f l) g H k p none).2.2 = some q → Fal (ch f l) (p, true, D, W, dp, cm) q) ∧
    ((thR (ch f l) g H k p none).2.2 = none → ∃ δ m cm', Rch (ch f l) (p, true, D, W, dp, cm) ((thR (ch f l) g H k p none).2.1, false, D ++ δ, List.replicate m 126 ++ W, dp, cm') ∧ Ev g (δ ++ List.replicate m 2126) (thR (ch f l) g H k p none).1 ∧ cm' < 32 ∧ agr (dp + 1) cm cm') := by
  intro k
  induction k with
  | zero => intro p D W cm hk hp; omega
  | succ k ih =>
    intro p D W cm hk hp hcm
    unfold thR
    by_cases h1 : ch f l p = 45
    · rw [if_pos ⟨rfl, h1⟩]
      have hlt := ch_lt (by decide) h1
      have hst : Rch (ch f l) (p, true, D, W, dp, cm) (p + 1, true, D, 126 :: W, dp, cm) := Rch.step (st_neg h1) (Nat.le_refl _)
      obtain ⟨a1, a2⟩ := ih (p + 1) D (126 :: W) cm (by omega) hlt hcm
      refine ⟨fun q hq => hst.fal (a1 q hq), fun hq => ?_⟩
      obtain ⟨δ, m, cm', b1, b2, b3, b4⟩ := a2 hq
      refine ⟨δ, m + 1, cm', hst.trans ?_, b2.neg_rep, b3, b4⟩
      rw [List.replicate_succ', List.append_assoc]
      exact b1
    · rw [if_neg (fun q => h1 q.2), if_neg (fun q => q rfl)]
      cases H with
      | none => exact e_at hp hcm h1 (fun q => hN rfl q.2)
      | some T =>
        dsimp only
        obtain ⟨hd, hg, hE⟩ := hH T rfl
        by_cases h2 : ch f l p = 40
        · rw [if_pos h2]
          have hlt := ch_lt (by decide) h2
          have hst : Rch (ch f l) (p, true, D, W, dp, cm) (p + 1, true, D, 40 :: W, dp + 1, bclr cm (dp + 1)) := Rch.step (st_par h2 hd) (Nat.le_refl _)
          have hb := bits2 ⟨cm, hcm⟩ ⟨dp + 1, by omega⟩
          have hlt2 : bclr cm (dp + 1) < 32 := bclr_lt hcm (by omega)
          have hh : hdr 1 (40 :: W) := fun s W' e => by cases e; decide
          obtain ⟨a1, a2⟩ := hE (p + 1) D (40 :: W) (bclr cm (dp + 1)) hlt hlt2 hh hb.1
          generalize hR : T (p + 1) none = R at *
          obtain ⟨v, p1, w1⟩ := R
          dsimp only at a1 a2
          unfold clR
          dsimp only
          cases w1 with
          | some q1 =>
            rw [if_neg (fun z => by cases z.1)]
            refine ⟨fun q hq => ?_, fun hq => by cases hq⟩
            cases hq
            exact hst.fal (a1 q1 rfl)
          | none =>
            obtain ⟨δ, P, cm', b1, b2, b3, b4, b5, b6⟩ := a2 rfl
            have hagr : agr (dp + 1) cm cm' := (agr_clr hcm hd).trans b5
            by_cases h3 : ch f l p1 = 41
            · rw [if_pos ⟨rfl, h3⟩]
              refine ⟨fun q hq => (by cases hq), fun _ => ⟨δ ++ P.map (2000 + ·), 0, cm', hst.trans (b1.trans (Rch.step ?_ (Nat.le_refl _))), ?_, b4, hagr⟩⟩
              · rw [st_close h3 (by omega), popW_both b2 hh]
                simp
              · simpa using b3
            · rw [if_neg (fun z => h3 z.2)]
              refine ⟨fun q hq => ?_, fun hq => by cases hq⟩
              cases hq
              refine hst.fal (b1.fal ?_)
              by_cases h4 : ch f l p1 = -1
              · exact Fal.step (D := (popW 1 (P ++ 40 :: W) (D ++ δ)).2) (by rw [st_end h4]; simp)
              · exact Fal.step (st_stop h4 (fun z => h3 z.2) b6)
        · rw [if_neg h2]
          exact e_at hp hcm h1 (fun q => h2 q.1)
/-- a product's loop -/
theorem e_prL {T : TT} (hl : l ≤ 80) (hg : gT l T) (hT : PT (ch f l) g l dp T) : ∀ k, ∀ (p0 p : Nat) (v : Int32) (D δ P W : List Int32) (cm cm0 : Nat), l < k + p → p ≤ l → cm < 32 → hdr 3 W → agr (dp + 1) cm0 cm → (∀ s ∈ P, 3 ≤ rko s) → Ev g (δ ++ P.map (2000 + ·)) v → Rch (ch f l) (p0, true, D, W, dp, cm0) (p, false, D ++ δ, P ++ W, dp, cm) →
    (∀ q, (prL (ch f l) T k v p none).2.2 = some q → Fal (ch f l) (p0, true, D, W, dp, cm0) q) ∧
    ((prL (ch f l) T k v p none).2.2 = none → ∃ δ' P' cm', Rch (ch f l) (p0, true, D, W, dp, cm0) ((prL (ch f l) T k v p none).2.1, false, D ++ δ', P' ++ W, dp, cm') ∧ (∀ s ∈ P', 3 ≤ rko s) ∧ Ev g (δ' ++ P'.map (2000 + ·)) (prL (ch f l) T k v p none).1 ∧ cm' < 32 ∧ agr (dp + 1) cm0 cm' ∧ (¬ ch f l (prL (ch f l) T k v p none).2.1 = 42 ∧ ¬ ch f l (prL (ch f l) T k v p none).2.1 = 47)) := by
  intro k
  induction k with
  | zero => intro p0 p v D δ P W cm cm0 hk hp; omega
  | succ k ih =>
    intro p0 p v D δ P W cm cm0 hk hp hcm hW hag hP hE hR
    have go : ∀ (o : Int32) (ko : Nat), ch f l p = o → o = nI ko → ko < 126 → rko o = 3 →
        (∀ q, (T (p + 1) none).2.2 = some q → Fal (ch f l) (p0, true, D, W, dp, cm0) q) ∧
        ((T (p + 1) none).2.2 = none → (∀ q, (prL (ch f l) T k (jn o v (T (p + 1) none).1) (T (p + 1) none).2.1 none).2.2 = some q → Fal (ch f l) (p0, true, D, W, dp, cm0) q) ∧
          ((prL (ch f l) T k (jn o v (T (p + 1) none).1) (T (p + 1) none).2.1 none).2.2 = none → ∃ δ' P' cm', Rch (ch f l) (p0, true, D, W, dp, cm0) ((prL (ch f l) T k (jn o v (T (p + 1) none).1) (T (p + 1) none).2.1 none).2.1, false, D ++ δ', P' ++ W, dp, cm') ∧ (∀ s ∈ P', 3 ≤ rko s) ∧ Ev g (δ' ++ P'.map (2000 + ·)) (prL (ch f l) T k (jn o v (T (p + 1) none).1) (T (p + 1) none).2.1 none).1 ∧ cm' < 32 ∧ agr (dp + 1) cm0 cm' ∧ (¬ ch f l (prL (ch f l) T k (jn o v (T (p + 1) none).1) (T (p + 1) none).2.1 none).2.1 = 42 ∧ ¬ ch f l (prL (ch f l) T k (jn o v (T (p + 1) none).1) (T (p + 1) none).2.1 none).2.1 = 47))) := by
      intro o ko ho hko hk126 hr
      have hlt : p < l := ch_lt (v := o) (fun e => by rw [e] at hr; exact absurd hr (by decide)) ho
      have hst : Rch (ch f l) (p, false, D ++ δ, P ++ W, dp, cm) (p + 1, true, (D ++ δ) ++ P.map (2000 + ·), o :: W, dp, cm) := by
        refine Rch.step ?_ (Nat.le_refl _)
        rw [st_op (by rw [ho, hr]; intro z; rcases z with z | z; omega; rw [z] at hr; exact absurd hr (by decide)) (by rw [ho, hr]; intro z; omega), ho, hr, popW_both hP hW]
        rfl
      obtain ⟨a1, a2⟩ := hT (p + 1) ((D ++ δ) ++ P.map (2000 + ·)) (o :: W) cm hlt hcm
      have hgg := hg (p + 1) none hlt wokn
      refine ⟨fun q hq => hR.fal (hst.fal (a1 q hq)), fun hq => ?_⟩
      obtain ⟨δ2, m, cm2, b1, b2, b3, b4⟩ := a2 hq
      refine ih p0 (T (p + 1) none).2.1 (jn o v (T (p + 1) none).1) D (δ ++ P.map (2000 + ·) ++ δ2) (List.replicate m 126 ++ [o]) W cm2 cm0 (by omega) hgg.2.1 b3 hW (hag.trans b4) ?_ ?_ ?_
      · intro s hs
        rcases List.mem_append.mp hs with h | h
        · rw [List.eq_of_mem_replicate h]; decide
        · rw [List.mem_singleton.mp h, hr]; omega
      · have := Ev.op (o := o) hko hk126 hE b2
        simpa [List.append_assoc] using this
      · refine hR.trans (hst.trans ?_)
        have := b1
        simpa [List.append_assoc] using this
    unfold prL
    by_cases h1 : ch f l p = 42
    · rw [if_pos ⟨rfl, h1⟩]
      obtain ⟨a1, a2⟩ := go 42 42 h1 rfl (by omega) (by decide)
      cases hw : (T (p + 1) none).2.2 with
      | some q1 =>
        have e : prL (ch f l) T k (v * (T (p + 1) none).1) (T (p + 1) none).2.1 (some q1) = (v * (T (p + 1) none).1, (T (p + 1) none).2.1, some q1) := by
          cases k with
          | zero => rfl
          | succ k => unfold prL; simp
        rw [e]
        exact ⟨fun q hq => a1 q (by rw [hw]; exact hq), fun hq => by cases hq⟩
      | none => exact a2 hw
    · rw [if_neg (fun z => h1 z.2)]
      by_cases h2 : ch f l p = 47
      · rw [if_pos ⟨rfl, h2⟩]
        obtain ⟨a1, a2⟩ := go 47 47 h2 rfl (by omega) (by decide)
        cases hw : (T (p + 1) none).2.2 with
        | some q1 =>
          have e : prL (ch f l) T k (if (T (p + 1) none).1 = 0 then 0 else v / (T (p + 1) none).1) (T (p + 1) none).2.1 (some q1) = (if (T (p + 1) none).1 = 0 then 0 else v / (T (p + 1) none).1, (T (p + 1) none).2.1, some q1) := by
            cases k with
            | zero => rfl
            | succ k => unfold prL; simp
          rw [e]
          exact ⟨fun q hq => a1 q (by rw [hw]; exact hq), fun hq => by cases hq⟩
        | none => exact a2 hw
      · rw [if_neg (fun z => h2 z.2)]
        exact ⟨fun q hq => (by cases hq), fun _ => ⟨δ, P, cm, hR, hP, hE, hcm, hag, h1, h2⟩⟩
theorem e_pr {T : TT} (hl : l ≤ 80) (hg : gT l T) (hT : PT (ch f l) g l dp T) : PN (ch f l) g l dp 3 (fun s => ¬ s = 42 ∧ ¬ s = 47) (prR (ch f l) T) := by
  intro p D W cm hp hcm hW
  obtain ⟨a1, a2⟩ := hT p D W cm hp hcm
  have hgg := hg p none hp wokn
  unfold prR
  cases hw : (T p none).2.2 with
  | some q1 =>
    have e : prL (ch f l) T 90 (T p none).1 (T p none).2.1 (some q1) = ((T p none).1, (T p none).2.1, some q1) := by unfold prL; simp
    rw [e]
    exact ⟨fun q hq => a1 q (by rw [hw]; exact hq), fun hq => by cases hq⟩
  | none =>
    obtain ⟨δ, m, cm', b1, b2, b3, b4⟩ := a2 hw
    refine e_prL hl hg hT 90 p (T p none).2.1 (T p none).1 D δ (List.replicate m 126) W cm' cm (by omega) hgg.2.1 b3 hW b4 (fun s hs => by rw [List.eq_of_mem_replicate hs]; decide) ?_ b1
    rw [List.map_replicate]
    exact b2
end
section
variable {f g : Nat → Int32} {l dp : Nat}
/-- a sum's loop -/
theorem e_smL {T : TT} {St : Int32 → Prop} (hl : l ≤ 80) (hg : gT l T) (hT : PN (ch f l) g l dp 3 St T) : ∀ k, ∀ (p0 p : Nat) (v : Int32) (D δ P W : List Int32) (cm cm0 : Nat), l < k + p → p ≤ l → cm < 32 → hdr 2 W → agr (dp + 1) cm0 cm → (∀ s ∈ P, 2 ≤ rko s) → Ev g (δ ++ P.map (2000 + ·)) v → St (ch f l p) → Rch (ch f l) (p0, true, D, W, dp, cm0) (p, false, D ++ δ, P ++ W, dp, cm) →
    (∀ q, (smL (ch f l) T k v p none).2.2 = some q → Fal (ch f l) (p0, true, D, W, dp, cm0) q) ∧
    ((smL (ch f l) T k v p none).2.2 = none → ∃ δ' P' cm', Rch (ch f l) (p0, true, D, W, dp, cm0) ((smL (ch f l) T k v p none).2.1, false, D ++ δ', P' ++ W, dp, cm') ∧ (∀ s ∈ P', 2 ≤ rko s) ∧ Ev g (δ' ++ P'.map (2000 + ·)) (smL (ch f l) T k v p none).1 ∧ cm' < 32 ∧ agr (dp + 1) cm0 cm' ∧ (St (ch f l (smL (ch f l) T k v p none).2.1) ∧ ¬ ch f l (smL (ch f l) T k v p none).2.1 = 43 ∧ ¬ ch f l (smL (ch f l) T k v p none).2.1 = 45)) := by
  intro k
  induction k with
  | zero => intro p0 p v D δ P W cm cm0 hk hp; omega
  | succ k ih =>
    intro p0 p v D δ P W cm cm0 hk hp hcm hW hag hP hE hSt hR
    have go : ∀ (o : Int32) (ko : Nat), ch f l p = o → o = nI ko → ko < 126 → rko o = 2 →
        (∀ q, (T (p + 1) none).2.2 = some q → Fal (ch f l) (p0, true, D, W, dp, cm0) q) ∧
        ((T (p + 1) none).2.2 = none → (∀ q, (smL (ch f l) T k (jn o v (T (p + 1) none).1) (T (p + 1) none).2.1 none).2.2 = some q → Fal (ch f l) (p0, true, D, W, dp, cm0) q) ∧
          ((smL (ch f l) T k (jn o v (T (p + 1) none).1) (T (p + 1) none).2.1 none).2.2 = none → ∃ δ' P' cm', Rch (ch f l) (p0, true, D, W, dp, cm0) ((smL (ch f l) T k (jn o v (T (p + 1) none).1) (T (p + 1) none).2.1 none).2.1, false, D ++ δ', P' ++ W, dp, cm') ∧ (∀ s ∈ P', 2 ≤ rko s) ∧ Ev g (δ' ++ P'.map (2000 + ·)) (smL (ch f l) T k (jn o v (T (p + 1) none).1) (T (p + 1) none).2.1 none).1 ∧ cm' < 32 ∧ agr (dp + 1) cm0 cm' ∧ (St (ch f l (smL (ch f l) T k (jn o v (T (p + 1) none).1) (T (p + 1) none).2.1 none).2.1) ∧ ¬ ch f l (smL (ch f l) T k (jn o v (T (p + 1) none).1) (T (p + 1) none).2.1 none).2.1 = 43 ∧ ¬ ch f l (smL (ch f l) T k (jn o v (T (p + 1) none).1) (T (p + 1) none).2.1 none).2.1 = 45))) := by
      intro o ko ho hko hk126 hr
      have hlt : p < l := ch_lt (v := o) (fun e => by rw [e] at hr; exact absurd hr (by decide)) ho
      have hst : Rch (ch f l) (p, false, D ++ δ, P ++ W, dp, cm) (p + 1, true, (D ++ δ) ++ P.map (2000 + ·), o :: W, dp, cm) := by
        refine Rch.step ?_ (Nat.le_refl _)
        rw [st_op (by rw [ho, hr]; intro z; rcases z with z | z; omega; rw [z] at hr; exact absurd hr (by decide)) (by rw [ho, hr]; intro z; omega), ho, hr, popW_both hP hW]
        rfl
      have hh : hdr 3 (o :: W) := fun s W' e => by cases e; omega
      obtain ⟨a1, a2⟩ := hT (p + 1) ((D ++ δ) ++ P.map (2000 + ·)) (o :: W) cm hlt hcm hh
      have hgg := hg (p + 1) none hlt wokn
      refine ⟨fun q hq => hR.fal (hst.fal (a1 q hq)), fun hq => ?_⟩
      obtain ⟨δ2, P2, cm2, b1, b0, b2, b3, b4, b5⟩ := a2 hq
      refine ih p0 (T (p + 1) none).2.1 (jn o v (T (p + 1) none).1) D (δ ++ P.map (2000 + ·) ++ δ2) (P2 ++ [o]) W cm2 cm0 (by omega) hgg.2.1 b3 hW (hag.trans b4) ?_ ?_ b5 ?_
      · intro s hs
        rcases List.mem_append.mp hs with h | h
        · have := b0 s h; omega
        · rw [List.mem_singleton.mp h, hr]; omega
      · have := Ev.op (o := o) hko hk126 hE b2
        simpa [List.append_assoc] using this
      · refine hR.trans (hst.trans ?_)
        have := b1
        simpa [List.append_assoc] using this
    unfold smL
    by_cases h1 : ch f l p = 43
    · rw [if_pos ⟨rfl, h1⟩]
      obtain ⟨a1, a2⟩ := go 43 43 h1 rfl (by omega) (by decide)
      cases hw : (T (p + 1) none).2.2 with
      | some q1 =>
        have e : smL (ch f l) T k (v + (T (p + 1) none).1) (T (p + 1) none).2.1 (some q1) = (v + (T (p + 1) none).1, (T (p + 1) none).2.1, some q1) := by
          cases k with
          | zero => rfl
          | succ k => unfold smL; simp
        rw [e]
        exact ⟨fun q hq => a1 q (by rw [hw]; exact hq), fun hq => by cases hq⟩
      | none => exact a2 hw
    · rw [if_neg (fun z => h1 z.2)]
      by_cases h2 : ch f l p = 45
      · rw [if_pos ⟨rfl, h2⟩]
        obtain ⟨a1, a2⟩ := go 45 45 h2 rfl (by omega) (by decide)
        cases hw : (T (p + 1) none).2.2 with
        | some q1 =>
          have e : smL (ch f l) T k (v - (T (p + 1) none).1) (T (p + 1) none).2.1 (some q1) = (v - (T (p + 1) none).1, (T (p + 1) none).2.1, some q1) := by
            cases k with
            | zero => rfl
            | succ k => unfold smL; simp
          rw [e]
          exact ⟨fun q hq => a1 q (by rw [hw]; exact hq), fun hq => by cases hq⟩
        | none => exact a2 hw
      · rw [if_neg (fun z => h2 z.2)]
        exact ⟨fun q hq => (by cases hq), fun _ => ⟨δ, P, cm, hR, hP, hE, hcm, hag, hSt, h1, h2⟩⟩
theorem e_sm {T : TT} {St : Int32 → Prop} (hl : l ≤ 80) (hg : gT l T) (hT : PN (ch f l) g l dp 3 St T) : PN (ch f l) g l dp 2 (fun s => St s ∧ ¬ s = 43 ∧ ¬ s = 45) (smR (ch f l) T) := by
  intro p D W cm hp hcm hW
  have hW3 : hdr 3 W := fun s W' e => Nat.lt_succ_of_lt (hW s W' e)
  obtain ⟨a1, a2⟩ := hT p D W cm hp hcm hW3
  have hgg := hg p none hp wokn
  unfold smR
  cases hw : (T p none).2.2 with
  | some q1 =>
    have e : smL (ch f l) T 90 (T p none).1 (T p none).2.1 (some q1) = ((T p none).1, (T p none).2.1, some q1) := by unfold smL; simp
    rw [e]
    exact ⟨fun q hq => a1 q (by rw [hw]; exact hq), fun hq => by cases hq⟩
  | none =>
    obtain ⟨δ, P, cm', b1, b0, b2, b3, b4, b5⟩ := a2 hw
    exact e_smL hl hg hT 90 p (T p none).2.1 (T p none).1 D δ P W cm' cm (by omega) hgg.2.1 b3 hW b4 (fun s hs => Nat.le_of_succ_le (b0 s hs)) b2 b5 b1
/-- a comparison -/
theorem e_hd {S : TT} (hl : l ≤ 80) (hdp : dp < 5) (hg : gT l S) (hS : PN (ch f l) g l dp 2 (fun s => (¬ s = 42 ∧ ¬ s = 47) ∧ ¬ s = 43 ∧ ¬ s = 45) S) : PH (ch f l) g l dp (hdR (ch f l) S) := by
  intro p D W cm hp hcm hW hbit
  have hW2 : hdr 2 W := fun s W' e => Nat.lt_succ_of_lt (hW s W' e)
  obtain ⟨a1, a2⟩ := hS p D W cm hp hcm hW2
  have hgg := hg p none hp wokn
  unfold hdR
  generalize hR1 : S p none = R1 at *
  obtain ⟨v1, p1, w1⟩ := R1
  dsimp only at *
  cases w1 with
  | some q1 =>
    rw [if_neg (fun z => by cases z.1), if_neg (fun z => by cases z.1), if_neg (fun z => by cases z.1)]
    exact ⟨fun q hq => a1 q hq, fun hq => by cases hq⟩
  | none =>
    obtain ⟨δ, P, cm1, b1, b0, b2, b3, b4, ⟨b5, b6⟩, b7, b8⟩ := a2 rfl
    have hbit1 : cm1.testBit dp = false := by rw [b4 dp (by omega)]; exact hbit
    have go : ∀ (o : Int32) (ko : Nat), ch f l p1 = o → o = nI ko → ko < 126 → rko o = 1 →
        (∀ q, (S (p1 + 1) none).2.2 = some q → Fal (ch f l) (p, true, D, W, dp, cm) q) ∧
        ((S (p1 + 1) none).2.2 = none → ∃ δ' P' cm', Rch (ch f l) (p, true, D, W, dp, cm) ((S (p1 + 1) none).2.1, false, D ++ δ', P' ++ W, dp, cm') ∧ (∀ s ∈ P', 1 ≤ rko s) ∧ Ev g (δ' ++ P'.map (2000 + ·)) (jn o v1 (S (p1 + 1) none).1) ∧ cm' < 32 ∧ agr dp cm cm' ∧
          (rko (ch f l (S (p1 + 1) none).2.1) < 1 ∨ ch f l (S (p1 + 1) none).2.1 = 126 ∨ (rko (ch f l (S (p1 + 1) none).2.1) = 1 ∧ cm'.testBit dp = true))) := by
      intro o ko ho hko hk126 hr
      have hlt : p1 < l := ch_lt (v := o) (fun e => by rw [e] at hr; exact absurd hr (by decide)) ho
      have hB := bits2 ⟨cm1, b3⟩ ⟨dp, hdp⟩
      have hb32 : bset cm1 dp < 32 := (bit_dec ⟨cm1, b3⟩ ⟨dp, hdp⟩).2.2.2.1
      have hst : Rch (ch f l) (p1, false, D ++ δ, P ++ W, dp, cm1) (p1 + 1, true, (D ++ δ) ++ P.map (2000 + ·), o :: W, dp, bset cm1 dp) := by
        refine Rch.step ?_ (Nat.le_refl _)
        rw [st_op (by rw [ho, hr]; intro z; rcases z with z | z; omega; rw [z] at hr; exact absurd hr (by decide)) (by rw [hbit1]; intro z; exact absurd z.2 (by decide)), ho, hr, popW_both (fun s hs => Nat.le_of_succ_le (b0 s hs)) hW]
        rfl
      have hh : hdr 2 (o :: W) := fun s W' e => by cases e; omega
      obtain ⟨c1, c2⟩ := hS (p1 + 1) ((D ++ δ) ++ P.map (2000 + ·)) (o :: W) (bset cm1 dp) hlt hb32 hh
      refine ⟨fun q hq => b1.fal (hst.fal (c1 q hq)), fun hq => ?_⟩
      obtain ⟨δ2, P2, cm2, d1, d0, d2, d3, d4, ⟨d5, d6⟩, d7, d8⟩ := c2 hq
      refine ⟨δ ++ P.map (2000 + ·) ++ δ2, P2 ++ [o], cm2, b1.trans (hst.trans ?_), ?_, ?_, d3, (b4.mono (by omega)).trans ((agr_set b3 hdp).trans (d4.mono (by omega))), ?_⟩
      · have := d1
        simpa [List.append_assoc] using this
      · intro s hs
        rcases List.mem_append.mp hs with h | h
        · have := d0 s h; omega
        · rw [List.mem_singleton.mp h, hr]; omega
      · have := Ev.op (o := o) hko hk126 b2 d2
        simpa [List.append_assoc] using this
      · rcases rko_cases (ch f l (S (p1 + 1) none).2.1) with h | h | h | h | h
        · exact Or.inl h
        · exact Or.inr (Or.inl h)
        · exact Or.inr (Or.inr ⟨h.1, by rw [d4 dp (by omega)]; exact hB.2.1⟩)
        · rcases h.2 with h | h
          · exact absurd h d7
          · exact absurd h d8
        · rcases h.2 with h | h
          · exact absurd h d5
          · exact absurd h d6
    by_cases h1 : ch f l p1 = 60
    · rw [if_pos ⟨rfl, h1⟩]
      exact go 60 60 h1 rfl (by omega) (by decide)
    · rw [if_neg (fun z => h1 z.2)]
      by_cases h2 : ch f l p1 = 62
      · rw [if_pos ⟨rfl, h2⟩]
        exact go 62 62 h2 rfl (by omega) (by decide)
      · rw [if_neg (fun z => h2 z.2)]
        by_cases h3 : ch f l p1 = 61
        · rw [if_pos ⟨rfl, h3⟩]
          exact go 61 61 h3 rfl (by omega) (by decide)
        · rw [if_neg (fun z => h3 z.2)]
          refine ⟨fun q hq => (by cases hq), fun _ => ⟨δ, P, cm1, b1, fun s hs => Nat.le_of_succ_le (b0 s hs), b2, b3, b4.mono (by omega), ?_⟩⟩
          rcases rko_cases (ch f l p1) with h | h | h | h | h
          · exact Or.inl h
          · exact Or.inr (Or.inl h)
          · rcases h.2 with h | h | h
            · exact absurd h h1
            · exact absurd h h3
            · exact absurd h h2
          · rcases h.2 with h | h
            · exact absurd h b7
            · exact absurd h b8
          · rcases h.2 with h | h
            · exact absurd h b5
            · exact absurd h b6
theorem e_lv (hl : l ≤ 80) : ∀ n, n ≤ 4 → PH (ch f l) g l (4 - n) (lvR (ch f l) g n) := by
  intro n
  induction n with
  | zero =>
    intro _
    have hgt : gT l (thR (ch f l) g none 90) := g_th hl (fun T h => by cases h) 90
    have hT : PT (ch f l) g l 4 (thR (ch f l) g none 90) := fun p D W cm hp hcm => e_th hl (fun T h => by cases h) (fun _ => by omega) 90 p D W cm (by omega) hp hcm
    have hgp : gT l (prR (ch f l) (thR (ch f l) g none 90)) := g_pr hgt
    exact e_hd hl (by omega) (g_sm hgp) (e_sm hl hgp (e_pr hl hgt hT))
  | succ n ih =>
    intro hn
    have hgl : gT l (lvR (ch f l) g n) := g_lv hl n
    have hH : ∀ T, some (lvR (ch f l) g n) = some T → 4 - (n + 1) < 4 ∧ gT l T ∧ PH (ch f l) g l (4 - (n + 1) + 1) T := by
      intro T e
      cases e
      refine ⟨by omega, hgl, ?_⟩
      rw [show 4 - (n + 1) + 1 = 4 - n by omega]
      exact ih (by omega)
    have hgt : gT l (thR (ch f l) g (some (lvR (ch f l) g n)) 90) := g_th hl (fun T h => (hH T h).2.1) 90
    have hT : PT (ch f l) g l (4 - (n + 1)) (thR (ch f l) g (some (lvR (ch f l) g n)) 90) := fun p D W cm hp hcm => e_th hl hH (fun h => by cases h) 90 p D W cm (by omega) hp hcm
    have hgp : gT l (prR (ch f l) (thR (ch f l) g (some (lvR (ch f l) g n)) 90)) := g_pr hgt
    exact e_hd hl (by omega) (g_sm hgp) (e_sm hl hgp (e_pr hl hgt hT))
end
