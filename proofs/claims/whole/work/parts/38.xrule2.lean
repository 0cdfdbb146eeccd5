/-! THE CLASS: readAhead, readThing, readClose, readOperator, readRule keep to xst -/
theorem dg_nat {c : Int32} (h : dg c = true) : ∃ t, t ≤ 9 ∧ c = nI (48 + t) := by
  obtain ⟨h1, h2⟩ := (dg_iff c).mp h
  obtain ⟨m, hm, rfl⟩ := nI_of (x := c) (fun z => h1 (Int32.lt_trans z (by decide)))
  have a1 := mt (n_lt (a := m) (b := 48) rfl rfl hm (by omega)).mpr h1
  have a2 := mt (n_lt (a := 57) (b := m) rfl rfl (by omega) hm).mpr h2
  exact ⟨m - 48, by omega, by rw [show 48 + (m - 48) = m by omega]⟩
theorem nmv_nat (c : Nat → Int32) : ∀ (k p a : Nat), ∃ m, (nmv c k p (nI a)).1 = nI m ∧ m < (a + 1) * 10 ^ k
  | 0, p, a => ⟨a, rfl, by simp⟩
  | k + 1, p, a => by
    unfold nmv
    by_cases hd : dg (c p) = true
    · rw [if_pos hd]
      obtain ⟨t, ht, e⟩ := dg_nat hd
      have e2 : nI a * 10 + c p - 48 = nI (a * 10 + t) := by
        rw [e, show nI a * 10 = nI (a * 10) from n_ml a 10, nI_add, show nI (a * 10 + (48 + t)) - 48 = nI (a * 10 + (48 + t) - 48) from pk_sub (b := 48) (by omega)]
        congr 1
        omega
      rw [e2]
      obtain ⟨m, h1, h2⟩ := nmv_nat c k (p + 1) (a * 10 + t)
      refine ⟨m, h1, Nat.lt_of_lt_of_le h2 ?_⟩
      rw [Nat.pow_succ, Nat.mul_comm (10 ^ k) 10, ← Nat.mul_assoc]
      exact Nat.mul_le_mul_right _ (by omega)
    · rw [if_neg hd]
      refine ⟨a, rfl, ?_⟩
      have : 0 < 10 ^ (k + 1) := Nat.pow_pos (by omega)
      exact Nat.lt_of_lt_of_le (Nat.lt_succ_self a) (Nat.le_mul_of_pos_right _ this)
section
variable {G : rt_G} {d : Nat} {Q : rt_Q} {M I : rt_I} {L : rt_L} {r l p dp cm : Nat} {D W : List Int32}
theorem XM.lim (h : XM M I p D W dp cm) (hl : I 1 3 = nI l) : M 1 3 = nI l := by rw [h.2.2.1 3 (by decide)]; exact hl
theorem XM.chs (h : XM M I p D W dp cm) : M 2 = I 2 := h.1 2 (by decide)
/-- if due: what stands ahead of a thing -/
theorem sX6_readAhead (hl : I 1 3 = nI l) (h8 : l ≤ 80) (hp : p < 100) (hw : W.length < 40) (hdp : dp ≤ 4) (hcm : cm < 32) (h : XM M I p D W dp cm)
    (h1 : ch (I 2) l p = 45 → ∀ M', XM M' I (p + 1) D (126 :: W) dp cm → Q 1 M' L r)
    (h2 : ¬ ch (I 2) l p = 45 → ch (I 2) l p = 40 → dp < 4 → ∀ M', XM M' I (p + 1) D (40 :: W) (dp + 1) (bclr cm (dp + 1)) → Q 1 M' L r)
    (h0 : ¬ ch (I 2) l p = 45 → ¬ (ch (I 2) l p = 40 ∧ dp < 4) → Q 0 M L r) : rt_Call G (d + 3) kX6_readAhead [.ref 6, .ref 1] M L r Q := by
  have hcc := h.chs
  have hml := h.lim hl
  have e8 : M 6 8 = nI dp := h.2.2.2.2.2.1
  refine v_X6_readAhead _ _ _ (tX7_take h.2.1 hml h8 (by omega) (fun z => ⟨fun y => absurd y (by decide), fun _ => sX6_push h.at hw (fun M' hM' => h1 (hcc ▸ z) M' hM')⟩) (fun z => ⟨fun _ => tX7_peek h.2.1 hml h8 (by omega) ⟨fun y => h0 (hcc ▸ z) (fun q => y (hcc ▸ q.1)), fun y => ⟨fun y2 => ?_, fun y2 => ?_⟩⟩, fun y => absurd rfl y⟩))
  · exact h0 (hcc ▸ z) (fun q => absurd ((n_le (a := 4) (b := dp) rfl e8 (by omega) (by omega)).mp y2) (by omega))
  · have hlt : dp < 4 := by
      have := mt (n_le (a := 4) (b := dp) rfl e8 (by omega) (by omega)).mpr y2
      omega
    refine tX7_take h.2.1 hml h8 (by omega) (fun _ => sX6_push h.at hw (fun M' hM' => ?_)) (fun q => absurd y q)
    obtain ⟨a1, a2, a3, a4, a5, a6, a7, a8, a9, a10⟩ := hM'
    have hbit := bit_dec ⟨cm, hcm⟩ ⟨dp + 1, by omega⟩
    refine h2 (hcc ▸ z) (hcc ▸ y) hlt _ ⟨(a1.u (by decide)).u (by decide), a2, a3, a4, a5, ?_, ?_, fun j hj => ?_, a9, a10⟩
    · rw [rt_u_n (Or.inr (by decide)), rt_u_at, a6, nI_1]
    · rw [rt_u_at, a6, a7, nI_1]
      exact hbit.2.2.1
    · rw [rt_u_n (Or.inr (fun e => hj (by rw [e]; decide))), rt_u_n (Or.inr (fun e => hj (by rw [e]; decide)))]
      exact a8 j hj
theorem sX6_readThing (hl : I 1 3 = nI l) (h8 : l ≤ 80) (hp : p < 100) (hw : D.length < 40) (h : XM M I p D W dp cm)
    (h1 : dg (ch (I 2) l p) = true → ∀ M', XM M' I (nmv (ch (I 2) l) 3 p 0).2 (D ++ [(nmv (ch (I 2) l) 3 p 0).1]) W dp cm → Q 1 M' L r)
    (h2 : ¬ dg (ch (I 2) l p) = true → ¬ lof (ch (I 2) l p) = -1 → ∀ M', XM M' I (p + 1) (D ++ [1000 + lof (ch (I 2) l p)]) W dp cm → Q 1 M' L r)
    (h0 : ¬ dg (ch (I 2) l p) = true → lof (ch (I 2) l p) = -1 → Q 0 M L r) : rt_Call G (d + 3) kX6_readThing [.ref 6, .ref 1] M L r Q := by
  have hcc := h.chs
  have hml := h.lim hl
  refine v_X6_readThing _ _ _ (tX7_takeNumber (k := 3) (by omega) h.2.1 hml h8 hp (fun z => ⟨fun _ => tX7_peek h.2.1 hml h8 (by omega) (sX6_letterOf ⟨fun y => ?_, fun y => ?_⟩), fun y => absurd (by decide) y⟩) (fun z => ⟨fun y => ?_, fun y => ?_⟩))
  · rw [h.2.1, nI_1]
    refine sX6_put h.at hw (fun M' hM' => ?_)
    rw [hcc] at hM'
    exact h2 (hcc ▸ z) (hcc ▸ y) M' hM'
  · exact h0 (hcc ▸ z) (hcc ▸ y)
  · obtain ⟨m, hm, hb⟩ := nmv_nat (ch (M 2) l) 3 p 0
    rw [show nI 0 = 0 from rfl] at hm
    rw [hm] at y
    exact absurd y (n_neg (by omega))
  · refine sX6_put h.at hw (fun M' hM' => ?_)
    rw [hcc] at hM'
    exact h1 (hcc ▸ z) M' hM'
theorem sX6_readClose (hl : I 1 3 = nI l) (h8 : l ≤ 80) (hp : p < 100) (hw : W.length + D.length ≤ 40) (hdp : dp ≤ 4) (h : XM M I p D W dp cm)
    (h1 : ¬ dp = 0 → ch (I 2) l p = 41 → ∀ M', XM M' I (p + 1) (popW 1 W D).2 (popW 1 W D).1.tail (dp - 1) cm → Q 1 M' L r)
    (h0 : ¬ (¬ dp = 0 ∧ ch (I 2) l p = 41) → Q 0 M L r) : rt_Call G (d + 3) kX6_readClose [.ref 6, .ref 1] M L r Q := by
  have hcc := h.chs
  have hml := h.lim hl
  have e8 : M 6 8 = nI dp := h.2.2.2.2.2.1
  refine v_X6_readClose _ _ _ ⟨fun z => h0 (fun q => q.1 ((n_eq (a := dp) (b := 0) e8 rfl (by omega) (by omega)).mp z)), fun z => tX7_take h.2.1 hml h8 (by omega) (fun y => ⟨fun _ => ?_, fun q => absurd q (by decide)⟩) (fun y => ⟨fun q => absurd rfl q, fun _ => h0 (fun q => y (hcc ▸ q.2))⟩)⟩
  have hd0 : ¬ dp = 0 := fun e => z (by rw [e8, e]; rfl)
  refine sX6_popTo (k := 1) (k' := 1) rfl (Or.inl rfl) (by omega) (by omega) h.at hw (fun M' hM' => ?_)
  obtain ⟨a1, a2, a3, a4, a5, a6, a7, a8, a9, a10⟩ := hM'
  have hlen := popW_len 1 W D
  have e6 : M' 6 8 - 1 = nI (dp - 1) := by
    rw [a6]
    exact n_sl (b := 1) (by omega)
  refine ⟨fun q => ?_, fun q => ?_⟩
  · have hz : (popW 1 W D).1 = [] := by
      have := (n_le (a := (popW 1 W D).1.length) (b := 0) a5 rfl (by omega) (by omega)).mp q
      exact List.eq_nil_of_length_eq_zero (by omega)
    refine h1 hd0 (hcc ▸ y) _ ⟨a1.u (by decide), a2, a3, a4, ?_, ?_, a7, fun j hj => ?_, a9, ?_⟩
    · rw [rt_u_n (Or.inr (by decide)), a5, hz]; rfl
    · rw [rt_u_at, e6]
    · rw [rt_u_n (Or.inr (fun e => hj (by rw [e]; decide)))]; exact a8 j hj
    · rw [hz] at a10 ⊢; exact a10
  · have hz : 0 < (popW 1 W D).1.length := by
      rcases Nat.eq_zero_or_pos (popW 1 W D).1.length with e | e
      · exact absurd (by rw [a5, e]; decide) q
      · exact e
    obtain ⟨s, W', hW'⟩ : ∃ s W', (popW 1 W D).1 = s :: W' := by
      cases hh : (popW 1 W D).1 with
      | nil => rw [hh] at hz; simp at hz
      | cons s W' => exact ⟨s, W', rfl⟩
    refine h1 hd0 (hcc ▸ y) _ ⟨(a1.u (by decide)).u (by decide), a2, a3, a4, ?_, ?_, a7, fun j hj => ?_, a9, ?_⟩
    · rw [rt_u_n (Or.inr (by decide)), rt_u_at, a5, hW']
      exact nI_pred _
    · rw [rt_u_at, e6]
    · rw [rt_u_n (Or.inr (fun e => hj (by rw [e]; decide))), rt_u_n (Or.inr (fun e => hj (by rw [e]; decide)))]; exact a8 j hj
    · rw [hW'] at a10 ⊢
      rw [List.reverse_cons] at a10
      exact a10.init
theorem sX6_readOperator (hl : I 1 3 = nI l) (h8 : l ≤ 80) (hp : p < 100) (hw : W.length + D.length < 40) (hdp : dp ≤ 4) (hcm : cm < 32) (h : XM M I p D W dp cm)
    (h1 : ¬ (rko (ch (I 2) l p) < 1 ∨ ch (I 2) l p = 126) → ¬ (rko (ch (I 2) l p) = 1 ∧ cm.testBit dp = true) → ∀ M', XM M' I (p + 1) (popW (rko (ch (I 2) l p)) W D).2 (ch (I 2) l p :: (popW (rko (ch (I 2) l p)) W D).1) dp (if rko (ch (I 2) l p) = 1 then bset cm dp else cm) → Q 1 M' L r)
    (h0 : (rko (ch (I 2) l p) < 1 ∨ ch (I 2) l p = 126) ∨ (rko (ch (I 2) l p) = 1 ∧ cm.testBit dp = true) → Q 0 M L r) : rt_Call G (d + 3) kX6_readOperator [.ref 6, .ref 1] M L r Q := by
  have hcc := h.chs
  have hml := h.lim hl
  have e8 : M 6 8 = nI dp := h.2.2.2.2.2.1
  have e9 : M 6 9 = nI cm := h.2.2.2.2.2.2.1
  have hbit := bit_dec ⟨cm, hcm⟩ ⟨dp, by omega⟩
  refine v_X6_readOperator _ _ _ (tX7_peek h.2.1 hml h8 (by omega) ?_)
  rw [hcc]
  generalize hs : ch (I 2) l p = s at *
  have hr4 := rko_le s
  have hlen := popW_len (rko s) W D
  refine sX6_rankOf ⟨fun z => h0 (Or.inl (Or.inl ((n_lt (a := rko s) (b := 1) rfl rfl (by omega) (by omega)).mp z))), fun z => ⟨fun y => ⟨fun x => ?_, fun x => ⟨fun q => ?_, fun q => ?_⟩⟩, fun y => h0 (Or.inl (Or.inr y))⟩⟩
  · have hr1 : ¬ rko s < 1 := mt (n_lt (a := rko s) (b := 1) rfl rfl (by omega) (by omega)).mpr z
    have hrn : ¬ rko s = 1 := fun e => x (by rw [e]; rfl)
    rw [h.2.1, nI_1]
    refine sX6_popTo (k := rko s) (k' := rko s) rfl (Or.inl rfl) (by omega) (by omega) h.at (by omega) (fun M' hM' => sX6_push hM' (by omega) (fun M2 hM2 => ?_))
    refine h1 (fun q => q.elim hr1 y) (fun q => hrn q.1) M2 ?_
    rw [if_neg hrn]
    exact hM2
  · have hrn : rko s = 1 := (n_eq (a := rko s) (b := 1) rfl rfl (by omega) (by omega)).mp x
    rw [e8, e9] at q
    have ht : cm.testBit dp = false := hbit.1.mp q
    rw [h.2.1, nI_1, e8, e9]
    have hX : XM (rt_u (rt_u M 6 9 (nI cm ||| (1 <<< (nI dp &&& 31)))) 1 2 (nI (p + 1))) I (p + 1) D W dp (bset cm dp) := by
      obtain ⟨a1, a2, a3, a4, a5, a6, a7, a8, a9, a10⟩ := h
      refine XM.at (p := p) ⟨a1.u (by decide), a2, a3, a4, a5, a6, ?_, fun j hj => ?_, a9, a10⟩
      · rw [rt_u_at]; exact hbit.2.1
      · rw [rt_u_n (Or.inr (fun e => hj (by rw [e]; decide)))]; exact a8 j hj
    refine sX6_popTo (k := rko s) (k' := rko s) rfl (Or.inl rfl) (by omega) (by omega) hX (by omega) (fun M' hM' => sX6_push hM' (by omega) (fun M2 hM2 => ?_))
    refine h1 (fun q => q.elim (by omega) y) (fun q => by rw [ht] at q; exact absurd q.2 (by decide)) M2 ?_
    rw [if_pos hrn]
    exact hM2
  · have hrn : rko s = 1 := (n_eq (a := rko s) (b := 1) rfl rfl (by omega) (by omega)).mp x
    rw [e8, e9] at q
    have ht : cm.testBit dp = true := by
      cases hb : cm.testBit dp with
      | true => rfl
      | false => exact absurd (hbit.1.mpr hb) q
    exact h0 (Or.inr ⟨hrn, ht⟩)
end
