/-! THE CLASS: the rule is turned into postfix code; the machine as a function on lists -/
def hasL (f : Nat → Int32) (D : List Int32) : Prop := ∀ i v, D[i]? = some v → f i = v
theorem hasL.snoc {f : Nat → Int32} {D : List Int32} {v : Int32} (h : hasL f D) : hasL (upd f D.length v) (D ++ [v]) := by
  intro i u hu
  unfold upd
  by_cases hi : i < D.length
  · rw [List.getElem?_append_left hi] at hu
    rw [if_neg (by omega)]
    exact h i u hu
  · rw [List.getElem?_append_right (by omega)] at hu
    have hz : i - D.length < 1 := (List.getElem?_eq_some_iff.mp hu).1
    have hi2 : i = D.length := by omega
    subst hi2
    simp at hu
    rw [if_pos rfl, hu]
theorem hasL.init {f : Nat → Int32} {D : List Int32} {v : Int32} (h : hasL f (D ++ [v])) : hasL f D := by
  intro i u hu
  have hi := (List.getElem?_eq_some_iff.mp hu).1
  exact h i u (by rw [List.getElem?_append_left hi]; exact hu)
theorem hasL.last {f : Nat → Int32} {D : List Int32} {v : Int32} (h : hasL f (D ++ [v])) : f D.length = v := h D.length v (by simp)
/-- the rank of an operator -/
def rko (s : Int32) : Nat := if s = 42 then 3 else if s = 43 then 2 else if s = 45 then 2 else if s = 47 then 3 else if s = 60 then 1 else if s = 61 then 1 else if s = 62 then 1 else if s = 126 then 4 else 0
theorem rko_le (s : Int32) : rko s ≤ 4 := by
  unfold rko
  repeat' split
  all_goals omega
/-- operators that wait, the top first; what is put behind the draft -/
def popW (k : Nat) : List Int32 → List Int32 → List Int32 × List Int32
  | [], D => ([], D)
  | s :: W, D => if k ≤ rko s then popW k W (D ++ [2000 + s]) else (s :: W, D)
abbrev XS : Type := Nat × Bool × List Int32 × List Int32 × Nat × Nat
/-- bits of the depths at which a comparison stands -/
def bset (cm dp : Nat) : Nat := cm ||| 2 ^ dp
def bclr (cm dp : Nat) : Nat := cm &&& (31 - 2 ^ dp)
theorem bit_dec : ∀ cm : Fin 32, ∀ dp : Fin 5, ((((nI cm.val >>> (nI dp.val &&& 31)) &&& 1 = 0) ↔ cm.val.testBit dp.val = false)) ∧ (nI cm.val ||| (1 <<< (nI dp.val &&& 31)) = nI (bset cm.val dp.val)) ∧ (nI cm.val &&& ((1 <<< (nI dp.val &&& 31)) ^^^ (-1)) = nI (bclr cm.val dp.val)) ∧ bset cm.val dp.val < 32 ∧ bclr cm.val dp.val < 32 := by decide +kernel
/-- one round of the loop: it ends (right or not), or goes on -/
def xst (c : Nat → Int32) (σ : XS) : (Bool × Nat × List Int32) ⊕ XS :=
  match σ with
  | (p, due, D, W, dp, cm) =>
    if c p = -1 then .inl (!due && decide (dp = 0), p, (popW 1 W D).2)
    else if due = true then
      if c p = 45 then .inr (p + 1, true, D, 126 :: W, dp, cm)
      else if c p = 40 ∧ dp < 4 then .inr (p + 1, true, D, 40 :: W, dp + 1, bclr cm (dp + 1))
      else if dg (c p) = true then .inr ((nmv c 3 p 0).2, false, D ++ [(nmv c 3 p 0).1], W, dp, cm)
      else if lof (c p) = -1 then .inl (false, p, D)
      else .inr (p + 1, false, D ++ [1000 + lof (c p)], W, dp, cm)
    else if dp ≠ 0 ∧ c p = 41 then .inr (p + 1, false, (popW 1 W D).2, (popW 1 W D).1.tail, dp - 1, cm)
    else if rko (c p) < 1 ∨ c p = 126 then .inl (false, p, D)
    else if rko (c p) = 1 ∧ cm.testBit dp = true then .inl (false, p, D)
    else .inr (p + 1, true, (popW (rko (c p)) W D).2, c p :: (popW (rko (c p)) W D).1, dp, if rko (c p) = 1 then bset cm dp else cm)
def xrun (c : Nat → Int32) : Nat → XS → Bool × Nat × List Int32
  | 0, σ => (false, σ.1, σ.2.2.1)
  | k + 1, σ => match xst c σ with
    | .inl e => e
    | .inr τ => xrun c k τ
theorem popW_len (k : Nat) : ∀ W D, (popW k W D).1.length + (popW k W D).2.length = W.length + D.length ∧ (popW k W D).1.length ≤ W.length
  | [], D => ⟨rfl, Nat.le_refl _⟩
  | s :: W, D => by
    unfold popW
    split
    · have := popW_len k W (D ++ [2000 + s])
      simp only [List.length_append, List.length_cons, List.length_nil] at this ⊢
      omega
    · exact ⟨rfl, Nat.le_refl _⟩
/-- the machine's cells -/
def XM (M I : rt_I) (p : Nat) (D W : List Int32) (dp cm : Nat) : Prop := Fr M I [1, 6, 8, 9] ∧ M 1 2 = nI p ∧ (∀ j, j ≠ 2 → M 1 j = I 1 j) ∧ M 6 3 = nI D.length ∧ M 6 5 = nI W.length ∧ M 6 8 = nI dp ∧ M 6 9 = nI cm ∧ (∀ j, j ∉ [3, 5, 8, 9] → M 6 j = I 6 j) ∧ hasL (M 8) D ∧ hasL (M 9) W.reverse
section
variable {G : rt_G} {d : Nat} {Q : rt_Q} {M I : rt_I} {L : rt_L} {r l p dp cm : Nat} {D W : List Int32}
theorem XM.at {q : Nat} (h : XM M I p D W dp cm) : XM (rt_u M 1 2 (nI q)) I q D W dp cm := by
  obtain ⟨h1, h2, h3, h4, h5, h6, h7, h8, h9, h10⟩ := h
  exact ⟨h1.u (by decide), rt_u_at, fun j hj => by rw [rt_u_n (Or.inr hj)]; exact h3 j hj, h4, h5, h6, h7, h8, h9, h10⟩
theorem tX7_peek (hp : M 1 2 = nI p) (hl : M 1 3 = nI l) (h8 : l ≤ 80) (h9 : p < 1000) (hQ : Q (ch (M 2) l p) M L r) : rt_Call G d kX7_peek [.ref 1] M L r Q := by
  have e : xp M p = M := rt_u_id hp
  rw [← e]
  exact sX7_peek hl h8 h9 (by rw [e]; exact hQ)
theorem tX7_take {c : Int32} (hp : M 1 2 = nI p) (hl : M 1 3 = nI l) (h8 : l ≤ 80) (h9 : p < 1000) (h1 : ch (M 2) l p = c → Q 1 (rt_u M 1 2 (nI (p + 1))) L r) (h0 : ¬ ch (M 2) l p = c → Q 0 M L r) : rt_Call G (d + 1) kX7_take [.ref 1, .int c] M L r Q := by
  have e : xp M p = M := rt_u_id hp
  rw [← e]
  exact sX7_take hl h8 h9 h1 (fun z => by rw [e]; exact h0 z)
theorem tX7_takeNumber {k : Nat} (hk : k < 10) (hp : M 1 2 = nI p) (hl : M 1 3 = nI l) (h8 : l ≤ 80) (h9 : p < 100) (h0 : ¬ dg (ch (M 2) l p) = true → Q (-1) M L r) (h1 : dg (ch (M 2) l p) = true → Q (nmv (ch (M 2) l) k p 0).1 (rt_u M 1 2 (nI (nmv (ch (M 2) l) k p 0).2)) L r) : rt_Call G (d + 2) kX7_takeNumber [.ref 1, .int (nI k)] M L r Q := by
  have e : xp M p = M := rt_u_id hp
  rw [← e]
  exact sX7_takeNumber hk hl h8 h9 (fun z => by rw [e]; exact h0 z) h1
theorem sX6_rankOf {s : Int32} (hQ : Q (nI (rko s)) I L r) : rt_Call G d kX6_rankOf [.int s] I L r Q := by
  unfold rko at hQ
  refine v_X6_rankOf _ _ _ _ ⟨fun z => ?_, fun z1 => ⟨fun z => ?_, fun z2 => ⟨fun z => ?_, fun z3 => ⟨fun z => ?_, fun z4 => ⟨fun z => ?_, fun z5 => ⟨fun z => ?_, fun z6 => ⟨fun z => ?_, fun z7 => ⟨fun z => ?_, fun z8 => ?_⟩⟩⟩⟩⟩⟩⟩⟩
  · rw [if_pos z] at hQ; exact hQ
  · rw [if_neg z1, if_pos z] at hQ; exact hQ
  · rw [if_neg z1, if_neg z2, if_pos z] at hQ; exact hQ
  · rw [if_neg z1, if_neg z2, if_neg z3, if_pos z] at hQ; exact hQ
  · rw [if_neg z1, if_neg z2, if_neg z3, if_neg z4, if_pos z] at hQ; exact hQ
  · rw [if_neg z1, if_neg z2, if_neg z3, if_neg z4, if_neg z5, if_pos z] at hQ; exact hQ
  · rw [if_neg z1, if_neg z2, if_neg z3, if_neg z4, if_neg z5, if_neg z6, if_pos z] at hQ; exact hQ
  · rw [if_neg z1, if_neg z2, if_neg z3, if_neg z4, if_neg z5, if_neg z6, if_neg z7, if_pos z] at hQ; exact hQ
  · rw [if_neg z1, if_neg z2, if_neg z3, if_neg z4, if_neg z5, if_neg z6, if_neg z7, if_neg z8] at hQ; exact hQ
theorem sX6_letterOf {c : Int32} (hQ : Q (lof c) I L r) : rt_Call G d kX6_letterOf [.int c] I L r Q := by
  refine v_X6_letterOf _ _ _ _ ⟨fun z => ?_, fun z1 => ⟨fun z => ?_, fun z2 => ⟨fun z => ?_, fun z3 => ⟨fun z => ?_, fun z4 => ⟨fun z => ?_, fun z5 => ⟨fun z => ?_, fun z6 => ?_⟩⟩⟩⟩⟩⟩
  · subst z; exact hQ
  · subst z; exact hQ
  · subst z; exact hQ
  · subst z; exact hQ
  · subst z; exact hQ
  · subst z; exact hQ
  · unfold lof at hQ
    rw [if_neg z5, if_neg z6, if_neg z2, if_neg z3, if_neg z4, if_neg z1] at hQ
    exact hQ
theorem sX6_push {v : Int32} (h : XM M I p D W dp cm) (hw : W.length < 40) (hQ : ∀ M', XM M' I p D (v :: W) dp cm → Q 0 M' L r) : rt_Call G d kX6_push [.ref 6, .int v] M L r Q := by
  obtain ⟨h1, h2, h3, h4, h5, h6, h7, h8, h9, h10⟩ := h
  refine v_X6_push _ _ _ _ ⟨fun z => absurd ((n_le (a := 40) (b := W.length) rfl h5 (by omega) (by omega)).mp z) (by omega), fun _ => ⟨vp_nI h5 hw (by omega), hQ _ ⟨(h1.u (by decide)).u (by decide), h2, h3, h4, ?_, h6, h7, fun j hj => ?_, h9, ?_⟩⟩⟩
  · rw [rt_u_at, h5, nI_1]
    rfl
  · rw [rt_u_n (Or.inr (fun e => hj (by rw [e]; decide)))]
    exact h8 j hj
  · rw [rt_u_ne (by decide), rt_u_eq, h5, nI_clamp (by omega), List.reverse_cons]
    have := hasL.snoc (v := v) h10
    rw [List.length_reverse] at this
    exact this
theorem sX6_put {v : Int32} (h : XM M I p D W dp cm) (hw : D.length < 40) (hQ : ∀ M', XM M' I p (D ++ [v]) W dp cm → Q 0 M' L r) : rt_Call G d kX6_put [.ref 6, .int v] M L r Q := by
  obtain ⟨h1, h2, h3, h4, h5, h6, h7, h8, h9, h10⟩ := h
  refine v_X6_put _ _ _ _ ⟨fun z => absurd ((n_le (a := 40) (b := D.length) rfl h4 (by omega) (by omega)).mp z) (by omega), fun _ => ⟨vp_nI h4 hw (by omega), hQ _ ⟨(h1.u (by decide)).u (by decide), h2, h3, ?_, h5, h6, h7, fun j hj => ?_, ?_, h10⟩⟩⟩
  · rw [rt_u_at, h4, nI_1, List.length_append]
    rfl
  · rw [rt_u_n (Or.inr (fun e => hj (by rw [e]; decide)))]
    exact h8 j hj
  · rw [rt_u_ne (by decide), rt_u_eq, h4, nI_clamp (by omega)]
    exact hasL.snoc h9
theorem rmax_k {k k' : Nat} {x : Int32} (hx : x = nI k') (hk : k' = k ∨ (k' = 0 ∧ k = 1)) (hk1 : 1 ≤ k) (h5 : k < 100) : rt_max x 1 = nI k := by
  unfold rt_max
  rw [hx]
  rcases hk with rfl | ⟨rfl, rfl⟩
  · by_cases h : nI k' < 1
    · exact absurd ((n_lt (a := k') (b := 1) rfl rfl (by omega) (by omega)).mp h) (by omega)
    · rw [if_neg h]
  · decide
theorem sX6_popTo {k k' : Nat} {x : Int32} (hx : x = nI k') (hk : k' = k ∨ (k' = 0 ∧ k = 1)) (hk1 : 1 ≤ k) (hk5 : k < 100) (h : XM M I p D W dp cm) (hw : W.length + D.length ≤ 40) (hQ : ∀ M', XM M' I p (popW k W D).2 (popW k W D).1 dp cm → Q 0 M' L r) : rt_Call G (d + 1) kX6_popTo [.ref 6, .int x] M L r Q := by
  refine v_X6_popTo _ _ _ _ ?_
  have key : ∀ (W D : List Int32) (i : Nat) (M : rt_I), i + W.length ≤ 40 → W.length + D.length ≤ 40 → XM M I p D W dp cm → (∀ M', XM M' I p (popW k W D).2 (popW k W D).1 dp cm → Q 0 M' L r) → rt_AW G (d + 1) kX6_popTo Q 2 [some (.ref 6), some (.int x), some (.int (nI i)), none] [] M L r := by
    intro W
    induction W with
    | nil =>
      intro D i M hi hw h hQ
      have h5 : M 6 5 = 0 := h.2.2.2.2.1
      refine v_X6_popTo_2 _ _ _ _ _ ⟨fun _ => hQ M h, fun _ => ⟨fun _ => hQ M h, fun z => absurd (by rw [h5]; decide) z⟩⟩
    | cons s W ih =>
      intro D i M hi hw h hQ
      simp only [List.length_cons] at hi hw
      obtain ⟨h1, h2, h3, h4, h5, h6, h7, h8, h9, h10⟩ := id h
      have e5 : M 6 5 - 1 = nI W.length := by rw [h5]; exact nI_pred _
      have etop : M 9 W.length = s := by
        rw [List.reverse_cons] at h10
        have := h10.last
        rw [List.length_reverse] at this
        exact this
      refine v_X6_popTo_2 _ _ _ _ _ ⟨fun z => absurd ((n_le (a := 40) (b := i) rfl rfl (by omega) (by omega)).mp z) (by omega), fun _ => ⟨fun z => absurd z (by rw [h5]; exact le0 (by simp) (by simp; omega)), fun _ => ⟨vp_nI e5 (by omega) (by omega), ?_⟩⟩⟩
      rw [cl e5 (by omega), etop]
      refine sX6_rankOf ⟨fun z => ?_, fun z => ?_⟩
      · rw [rmax_k hx hk hk1 hk5] at z
        have hle : k ≤ rko s := (nI_leI (by omega) (by have := rko_le s; omega)).mp z
        unfold popW at hQ
        rw [if_pos hle] at hQ
        refine sX6_put (W := W) (D := D) ⟨h1.u (by decide), h2, h3, h4, ?_, h6, h7, fun j hj => ?_, h9, ?_⟩ (by omega) (fun M' hM' => ?_)
        · rw [rt_u_at, e5]
        · rw [rt_u_n (Or.inr (fun e => hj (by rw [e]; decide)))]
          exact h8 j hj
        · rw [List.reverse_cons] at h10
          exact h10.init
        · rw [nI_1]
          exact ih (D ++ [2000 + s]) (i + 1) M' (by omega) (by simp; omega) hM' hQ
      · rw [rmax_k hx hk hk1 hk5] at z
        have hle : ¬ k ≤ rko s := mt (nI_leI (by omega) (by have := rko_le s; omega)).mpr z
        unfold popW at hQ
        rw [if_neg hle] at hQ
        exact hQ M h
  exact key W D 0 M (by omega) hw h hQ
end
