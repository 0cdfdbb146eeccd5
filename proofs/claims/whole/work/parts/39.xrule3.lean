/-! THE CLASS: readRule, accept, rule() -/
def b2i (b : Bool) : Int32 := if b = true then 1 else 0
theorem ch_end {f : Nat → Int32} {l p : Nat} (hf : ∀ i, i < l → ¬ f i = -1) (h : ch f l p = -1) : l ≤ p := by
  unfold ch at h
  by_cases hl : p < l
  · rw [if_pos hl] at h
    exact absurd h (hf p hl)
  · omega
theorem ch_not {f : Nat → Int32} {l p : Nat} (h : ¬ ch f l p = -1) : p < l := by
  unfold ch at h
  by_cases hl : p < l
  · exact hl
  · rw [if_neg hl] at h
    exact absurd rfl h
theorem bclr_lt {cm dp : Nat} (h : cm < 32) (hd : dp < 5) : bclr cm dp < 32 := (bit_dec ⟨cm, h⟩ ⟨dp, hd⟩).2.2.2.2
theorem bset_lt {cm dp : Nat} (h : cm < 32) (hd : dp < 5) : bset cm dp < 32 := (bit_dec ⟨cm, h⟩ ⟨dp, hd⟩).2.2.2.1
section
variable {G : rt_G} {d : Nat} {Q : rt_Q} {I : rt_I} {L : rt_L} {r l : Nat}
theorem x_loop (hl : I 1 3 = nI l) (h40 : l ≤ 40) : ∀ (k i p : Nat) (due : Bool) (D W : List Int32) (dp cm : Nat) (M : rt_I), k + i = 41 → i ≤ p → p ≤ l → W.length + D.length ≤ p → dp ≤ 4 → cm < 32 → XM M I p D W dp cm →
    (∀ M' W' dp' cm', XM M' I (xrun (ch (I 2) l) k (p, due, D, W, dp, cm)).2.1 (xrun (ch (I 2) l) k (p, due, D, W, dp, cm)).2.2 W' dp' cm' → Q (b2i (xrun (ch (I 2) l) k (p, due, D, W, dp, cm)).1) M' L r) →
    rt_AW G (d + 4) kX6_readRule Q 33 [some (.ref 6), some (.ref 1), some (.int (b2i due)), some (.int (nI i))] [] M L r := by
  intro k
  induction k with
  | zero => intro i p due D W dp cm M hk hi hp; omega
  | succ k ih =>
    intro i p due D W dp cm M hk hi hp hW hdp hcm hX hQ
    have hml := hX.lim hl
    have hcc := hX.chs
    have e8 : M 6 8 = nI dp := hX.2.2.2.2.2.1
    have hdue : b2i due = 0 ↔ due = false := by cases due <;> decide
    unfold xrun xst at hQ
    refine v_X6_readRule_33 _ _ _ _ _ ⟨fun z => absurd ((n_lt (a := 40) (b := i) rfl rfl (by omega) (by omega)).mp z) (by omega), fun _ => tX7_peek hX.2.1 hml (by omega) (by omega) ?_⟩
    rw [hcc]
    refine ⟨fun hc => ?_, fun hc => ?_⟩
    · have hlt := ch_not hc
      rw [nI_1]
      simp only [if_neg hc] at hQ
      refine ⟨fun z => ?_, fun z => ?_⟩
      · obtain rfl := hdue.mp z
        simp only [Bool.false_eq_true, if_false] at hQ
        refine sX6_readClose hl (by omega) (by omega) (by omega) hdp hX (fun a1 a2 M' hM' => ⟨fun _ => ?_, fun q => absurd q (by decide)⟩) (fun a => ⟨fun q => absurd rfl q, fun _ => ?_⟩)
        · simp only [if_pos (show dp ≠ 0 ∧ ch (I 2) l p = 41 from ⟨a1, a2⟩)] at hQ
          have hlen := popW_len 1 W D
          have htl : (popW 1 W D).1.tail.length ≤ (popW 1 W D).1.length := by rw [List.length_tail]; omega
          exact ih (i + 1) (p + 1) false _ _ (dp - 1) cm M' (by omega) (by omega) hlt (by omega) (by omega) hcm hM' hQ
        · simp only [if_neg (show ¬ (dp ≠ 0 ∧ ch (I 2) l p = 41) from a)] at hQ
          refine sX6_readOperator hl (by omega) (by omega) (by omega) hdp hcm hX (fun a1 a2 M' hM' => ⟨fun _ => ?_, fun q => absurd q (by decide)⟩) (fun a1 => ⟨fun q => absurd rfl q, fun _ => ?_⟩)
          · simp only [if_neg a1, if_neg a2] at hQ
            have hlen := popW_len (rko (ch (I 2) l p)) W D
            refine ih (i + 1) (p + 1) true _ _ dp _ M' (by omega) (by omega) hlt (by simp only [List.length_cons]; omega) hdp ?_ hM' hQ
            split
            · exact bset_lt hcm (by omega)
            · exact hcm
          · rcases a1 with a1 | a1
            · simp only [if_pos a1] at hQ
              exact hQ M W dp cm hX
            · by_cases a2 : rko (ch (I 2) l p) < 1 ∨ ch (I 2) l p = 126
              · simp only [if_pos a2] at hQ
                exact hQ M W dp cm hX
              · simp only [if_neg a2, if_pos a1] at hQ
                exact hQ M W dp cm hX
      · obtain rfl : due = true := by cases due with
          | true => rfl
          | false => exact absurd rfl z
        simp only [if_true] at hQ
        refine sX6_readAhead hl (by omega) (by omega) (by omega) hdp hcm hX (fun a1 M' hM' => ⟨fun q => absurd q (by decide), fun _ => ?_⟩) (fun a1 a2 a3 M' hM' => ⟨fun q => absurd q (by decide), fun _ => ?_⟩) (fun a1 a2 => ⟨fun _ => ?_, fun q => absurd rfl q⟩)
        · simp only [if_pos a1] at hQ
          exact ih (i + 1) (p + 1) true D _ dp cm M' (by omega) (by omega) hlt (by simp only [List.length_cons]; omega) hdp hcm hM' hQ
        · simp only [if_neg a1, if_pos (show ch (I 2) l p = 40 ∧ dp < 4 from ⟨a2, a3⟩)] at hQ
          exact ih (i + 1) (p + 1) true D _ (dp + 1) _ M' (by omega) (by omega) hlt (by simp only [List.length_cons]; omega) (by omega) (bclr_lt hcm (by omega)) hM' hQ
        · simp only [if_neg a1, if_neg a2] at hQ
          refine sX6_readThing hl (by omega) (by omega) (by omega) hX (fun b1 M' hM' => ⟨fun _ => ?_, fun q => absurd q (by decide)⟩) (fun b1 b2 M' hM' => ⟨fun _ => ?_, fun q => absurd q (by decide)⟩) (fun b1 b2 => ⟨fun q => absurd rfl q, fun _ => ?_⟩)
          · simp only [if_pos b1] at hQ
            have hn1 := nmv_lt (f := I 2) (l := l) 3 p 0 hp
            have hn2 : p < (nmv (ch (I 2) l) 3 p 0).2 := by
              have := nmR_pos (c := ch (I 2) l) (k := 3) (p := p) (w := none) (by omega)
              unfold nmR at this
              rw [if_pos ⟨rfl, b1⟩] at this
              exact this rfl
            exact ih (i + 1) _ false _ W dp cm M' (by omega) (by omega) hn1 (by simp only [List.length_append, List.length_cons, List.length_nil]; omega) hdp hcm hM' hQ
          · simp only [if_neg b1, if_neg b2] at hQ
            exact ih (i + 1) (p + 1) false _ W dp cm M' (by omega) (by omega) hlt (by simp only [List.length_append, List.length_cons, List.length_nil]; omega) hdp hcm hM' hQ
          · simp only [if_neg b1, if_pos b2] at hQ
            exact hQ M W dp cm hX
    · simp only [if_pos hc] at hQ
      refine sX6_popTo (k := 1) (k' := 0) rfl (Or.inr ⟨rfl, rfl⟩) (by omega) (by omega) hX (by omega) (fun M' hM' => ?_)
      have e8' : M' 6 8 = nI dp := hM'.2.2.2.2.2.1
      have hq := hQ M' _ _ _ hM'
      refine ⟨fun z => ?_, fun z => ⟨fun y => ?_, fun y => ?_⟩⟩
      · obtain rfl : due = true := by cases due with
          | true => rfl
          | false => exact absurd rfl z
        exact hq
      · obtain rfl := hdue.mp z
        have : ¬ dp = 0 := fun e => y (by rw [e8', e]; rfl)
        simp only [this, decide_false] at hq
        exact hq
      · obtain rfl := hdue.mp z
        have : dp = 0 := (n_eq (a := dp) (b := 0) e8' rfl (by omega) (by omega)).mp y
        simp only [this, decide_true] at hq
        exact hq
theorem sX6_readRule {n : Nat} (hn : I 1 1 = nI n) (hn9 : n < 1000) (hl : I 1 3 = nI l) (h40 : l ≤ 40) (hp : I 1 2 = 0)
    (h0 : n = 0 → ∀ M', XM M' I 0 [] [] 0 0 → Q 1 M' L r)
    (h1 : 0 < n → ∀ M' W' dp' cm', XM M' I (xrun (ch (I 2) l) 41 (0, true, [], [], 0, 0)).2.1 (xrun (ch (I 2) l) 41 (0, true, [], [], 0, 0)).2.2 W' dp' cm' → Q (b2i (xrun (ch (I 2) l) 41 (0, true, [], [], 0, 0)).1) M' L r) : rt_Call G (d + 4) kX6_readRule [.ref 6, .ref 1] I L r Q := by
  have hX : XM (rt_u (rt_u (rt_u (rt_u I 6 3 0) 6 5 0) 6 8 0) 6 9 0) I 0 [] [] 0 0 := by
    refine ⟨((((Fr.refl I _).u (by decide)).u (by decide)).u (by decide)).u (by decide), hp, fun _ _ => rfl, rfl, rfl, rfl, rfl, fun j hj => ?_, fun i v h => by simp at h, fun i v h => by simp at h⟩
    rw [rt_u_n (Or.inr (fun e => hj (by rw [e]; decide))), rt_u_n (Or.inr (fun e => hj (by rw [e]; decide))), rt_u_n (Or.inr (fun e => hj (by rw [e]; decide))), rt_u_n (Or.inr (fun e => hj (by rw [e]; decide)))]
  refine v_X6_readRule _ _ _ ⟨fun z => ?_, fun z => h0 ((n_eq (a := n) (b := 0) hn rfl (by omega) (by omega)).mp z) _ hX⟩
  have hpos : 0 < n := by
    rcases Nat.eq_zero_or_pos n with e | e
    · exact absurd (by rw [hn, e]; rfl) z
    · exact e
  exact x_loop hl h40 41 0 0 true [] [] 0 0 _ (by omega) (by omega) (by omega) (by simp) (by omega) (by omega) hX (h1 hpos)
end
