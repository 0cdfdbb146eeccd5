/-! WHAT IS DONE: the model's -/
section
variable {s : SV} {m : Nat → Int32} {B : Nat}
theorem tkn_pos (s : SV) (w p q : Nat) (l : Int32) : ¬ s.tkn w p q l < 0 := by
  obtain ⟨k, h1, h2, e⟩ := tkn_ex s w p q l
  rw [e]; exact n_neg (by omega)
theorem rmax1_pos {x : Int32} : ¬ rt_max 1 x < 0 := by
  unfold rt_max
  split
  · rename_i h
    intro z
    exact absurd (Int32.lt_trans h z) (by decide)
  · decide
theorem aOut_done (hk : sok s) (h : mok s B m) {x y : Int32} (hd : ¬ (aOut s m x y).1 < 0) : ∃ c w p q, c < s.nc ∧ w < s.nr ∧ p < s.np ∧ q < s.np ∧ x = nI c ∧ y = nI w ∧ m (c * 8) = nI p ∧ fe m w (nI p) = nI q ∧ s.th w (m 64) = true ∧ aOut s m x y = (s.tkn w p q (m (c * 8 + 4)), upd (upd (upd (upd m (c * 8) (-1)) (c * 8 + 1) (nI w)) (c * 8 + 2) (nI q)) (c * 8 + 3) (s.tkn w p q (m (c * 8 + 4)))) := by
  have h5 := hk.2.2.1
  have h12 := hk.2.1
  have h8 := hk.1
  unfold aOut at hd ⊢
  split at hd
  · rename_i z
    rw [if_pos z]
    rw [Bool.and_eq_true, inb_iff, inb_iff] at z
    obtain ⟨c, hc, rfl⟩ := (inr_iff (by omega)).mp z.1
    obtain ⟨w, hw, rfl⟩ := (inr_iff (by omega)).mp z.2
    rw [cc_nI (by omega), cc_nI (by omega)] at *
    split at hd
    · dsimp only at hd; exact absurd (by decide) hd
    · rename_i z1
      rw [if_neg z1]
      split at hd
      · dsimp only at hd; exact absurd (by decide) hd
      · rename_i z2
        rw [if_neg z2]
        split at hd
        · rename_i z3
          rw [if_pos z3]
          obtain ⟨t, ht, e64, hco⟩ := h.1
          obtain ⟨-, hq⟩ := hco c hc
          rcases hq with ⟨p, hp, e0, -⟩ | ⟨e0, -⟩
          · rw [e0] at z2
            obtain ⟨q, hq, f1, f2⟩ := fe_ok hk (h.2 w hw) z2
            refine ⟨c, w, p, q, hc, hw, hp, hq, rfl, rfl, e0, f1, z3, ?_⟩
            unfold oM oT
            rw [e0, f1, cc_nI (by omega), cc_nI (by omega)]
          · exact absurd e0 z1
        · dsimp only at hd; exact absurd (by decide) hd
  · dsimp only at hd; exact absurd (by decide) hd
theorem aOut_not {x y : Int32} (hd : (aOut s m x y).1 < 0) : (aOut s m x y).2 = m := by
  unfold aOut at hd ⊢
  split
  · rename_i z
    rw [if_pos z] at hd
    split
    · rfl
    · rename_i z1
      rw [if_neg z1] at hd
      split
      · rfl
      · rename_i z2
        rw [if_neg z2] at hd
        split
        · rename_i z3
          rw [if_pos z3] at hd
          exact absurd hd (tkn_pos _ _ _ _ _)
        · rfl
  · rfl
theorem aRound_done (hk : sok s) (h : mok s B m) {x : Int32} (hd : ¬ (aRound s m x).1 < 0) : ∃ c w p q, c < s.nc ∧ w < s.nr ∧ p < s.np ∧ q < s.np ∧ x = nI c ∧ m (c * 8) = -1 ∧ m (c * 8 + 7) = 0 ∧ m (c * 8 + 1) = nI w ∧ m (c * 8 + 2) = nI p ∧ fe m w (nI p) = nI q ∧ aRound s m x = (rt_max 1 (s.tkn w p q (m (c * 8 + 4)) - m (c * 8 + 3)), upd (upd m (c * 8 + 2) (nI q)) (c * 8 + 3) (rt_max 1 (s.tkn w p q (m (c * 8 + 4)) - m (c * 8 + 3)))) := by
  have h5 := hk.2.2.1
  have h12 := hk.2.1
  have h8 := hk.1
  unfold aRound at hd ⊢
  split at hd
  · rename_i z
    rw [if_pos z]
    rw [inb_iff] at z
    obtain ⟨c, hc, rfl⟩ := (inr_iff (by omega)).mp z
    rw [cc_nI (by omega)] at *
    split at hd
    · rename_i z1
      rw [if_pos z1]
      obtain ⟨t, ht, e64, hco⟩ := h.1
      obtain ⟨-, hq⟩ := hco c hc
      rcases hq with ⟨p, hp, e0, -⟩ | ⟨e0, ⟨w, hw, e1, e2⟩, -⟩
      · exact absurd (e0.symm.trans z1.1) (n_ne1 (by omega))
      · obtain ⟨p, q, hp, hq, f1, f2, f3⟩ := fe_end (h.2 w hw) e2 hk
        have hrw : rW m c = w := by unfold rW; rw [e1]; exact cc_nI (by omega)
        have hrF : rF m c = nI q := by unfold rF; rw [hrw]; exact f2
        refine ⟨c, w, p, q, hc, hw, hp, hq, rfl, e0, z1.2, e1, f1, by rw [← f1]; exact f2, ?_⟩
        unfold rT
        rw [hrw, hrF, f1, cc_nI (by omega), cc_nI (by omega)]
    · dsimp only at hd; exact absurd (by decide) hd
  · dsimp only at hd; exact absurd (by decide) hd
theorem aRound_not {x : Int32} (hd : (aRound s m x).1 < 0) : aRound s m x = (-1, m) := by
  unfold aRound at hd ⊢
  split
  · rename_i z
    rw [if_pos z] at hd
    split
    · rename_i z1
      rw [if_pos z1] at hd
      exact absurd hd rmax1_pos
    · rfl
  · rfl
theorem aChain_done (hk : sok s) (h : mok s B m) {x v : Int32} (hd : ¬ (aChain s m x v).1 < 0) : ∃ c, c < s.nc ∧ x = nI c ∧ m (c * 8 + 7) = 0 ∧ (¬ v < 0 ∧ ¬ 1 < v) ∧ aChain s m x v = (m (c * 8 + 5), upd m (c * 8 + 5) v) := by
  have h5 := hk.2.2.1
  unfold aChain at hd ⊢
  split at hd
  · rename_i z
    rw [if_pos z]
    rw [inb_iff] at z
    obtain ⟨c, hc, rfl⟩ := (inr_iff (by omega)).mp z
    rw [cc_nI (by omega)] at *
    split at hd
    · rename_i z1
      rw [if_pos z1]
      exact ⟨c, hc, rfl, z1.1, z1.2, rfl⟩
    · dsimp only at hd; exact absurd (by decide) hd
  · dsimp only at hd; exact absurd (by decide) hd
theorem aChain_not (hk : sok s) (h : mok s B m) {x v : Int32} (hd : (aChain s m x v).1 < 0) : aChain s m x v = (-1, m) ∧ ∀ c, c < s.nc → x = nI c → ¬ (m (c * 8 + 7) = 0 ∧ (¬ v < 0 ∧ ¬ 1 < v)) := by
  have h5 := hk.2.2.1
  unfold aChain at hd ⊢
  split
  · rename_i z
    rw [if_pos z] at hd
    rw [inb_iff] at z
    obtain ⟨c, hc, rfl⟩ := (inr_iff (by omega)).mp z
    rw [cc_nI (by omega)] at *
    split
    · rename_i z1
      rw [if_pos z1] at hd
      obtain ⟨t, ht, e64, hco⟩ := h.1
      rcases (hco c hc).1.1 with q | q
      · rw [q] at hd; dsimp only at hd; exact absurd hd (by decide)
      · rw [q] at hd; dsimp only at hd; exact absurd hd (by decide)
    · rename_i z1
      refine ⟨rfl, fun c' hc' e => ?_⟩
      obtain rfl := (nI_eq (by omega) (by omega)).mp e
      exact z1
  · rename_i z
    refine ⟨rfl, fun c hc e => ?_⟩
    rw [inb_iff, inr_iff (by omega)] at z
    exact absurd ⟨c, hc, e⟩ z
theorem aLoad_done (hk : sok s) (h : mok s B m) {x v : Int32} (hd : ¬ (aLoad s m x v).1 < 0) : ∃ c, c < s.nc ∧ x = nI c ∧ ¬ m (c * 8) = -1 ∧ (¬ v < 0 ∧ ¬ 9 < v) ∧ aLoad s m x v = (m (c * 8 + 4), upd m (c * 8 + 4) v) := by
  have h5 := hk.2.2.1
  unfold aLoad at hd ⊢
  split at hd
  · rename_i z
    rw [if_pos z]
    rw [inb_iff] at z
    obtain ⟨c, hc, rfl⟩ := (inr_iff (by omega)).mp z
    rw [cc_nI (by omega)] at *
    split at hd
    · rename_i z1
      rw [if_pos z1]
      exact ⟨c, hc, rfl, z1.1, z1.2, rfl⟩
    · dsimp only at hd; exact absurd (by decide) hd
  · dsimp only at hd; exact absurd (by decide) hd
theorem aLoad_not (hk : sok s) (h : mok s B m) {x v : Int32} (hd : (aLoad s m x v).1 < 0) : aLoad s m x v = (-1, m) ∧ ∀ c, c < s.nc → x = nI c → ¬ (¬ m (c * 8) = -1 ∧ (¬ v < 0 ∧ ¬ 9 < v)) := by
  have h5 := hk.2.2.1
  unfold aLoad at hd ⊢
  split
  · rename_i z
    rw [if_pos z] at hd
    rw [inb_iff] at z
    obtain ⟨c, hc, rfl⟩ := (inr_iff (by omega)).mp z
    rw [cc_nI (by omega)] at *
    split
    · rename_i z1
      rw [if_pos z1] at hd
      obtain ⟨t, ht, e64, hco⟩ := h.1
      obtain ⟨l, hl, e⟩ := (hco c hc).1.2
      rw [e] at hd
      exact absurd hd (n_neg (by omega))
    · rename_i z1
      refine ⟨rfl, fun c' hc' e => ?_⟩
      obtain rfl := (nI_eq (by omega) (by omega)).mp e
      exact z1
  · rename_i z
    refine ⟨rfl, fun c hc e => ?_⟩
    rw [inb_iff, inr_iff (by omega)] at z
    exact absurd ⟨c, hc, e⟩ z
end
section
variable {G : rt_G} {d : Nat} {Q : rt_Q} {I : rt_I} {L : rt_L} {r B : Nat} {s : SV} {m : Nat → Int32}
/-- what an act of the model may change -/
def HN (M I : rt_I) : Prop := Fr M I [108, 109, 121] ∧ F8 M I [16, 17, 18, 19, 28, 33, 34, 35, 36, 37] ∧ M 108 28 = I 108 28
theorem HN.refl (I : rt_I) : HN I I := ⟨Fr.refl _ _, F8.refl _ _, rfl⟩
theorem HN.trans {A B C : rt_I} (h1 : HN A B) (h2 : HN B C) : HN A C := ⟨h1.1.trans h2.1, h1.2.1.trans h2.2.1, h1.2.2.trans h2.2.2⟩
theorem HN.S {M I : rt_I} (h : HN M I) (hS : MZ s I) : MZ s M := hS.fr (fun j hj => h.2.1 j (by
  simp only [List.mem_cons, List.not_mem_nil, or_false] at hj ⊢
  omega)) (h.2.2.trans hS.2.2.2.2.2.2.2.2.2.2) (h.1 110 (by decide)) (h.1 111 (by decide)) (h.1 112 (by decide)) (h.1 113 (by decide)) (h.1 120 (by decide))
theorem TQ.H {M I : rt_I} (h : TQ M I) (hS : MZ s I) : HN M I := ⟨h.1.mono (by decide), h.2.1.mono (by decide), h.2.2.trans hS.2.2.2.2.2.2.2.2.2.2.symm⟩
theorem GN_now.H {M I : rt_I} (h : GN_now M I) : HN M I := ⟨h.1.mono (by decide), h.2.mono (by decide), h.2 28 (by decide)⟩
theorem HN.v {M I : rt_I} (h : HN M I) {j : Nat} {v : Int32} : HN (rt_u M 109 j v) I := ⟨h.1.u (by decide), h.2.1.u (fun q => by omega), (rt_u2 (by decide)).trans h.2.2⟩
theorem HN.b {M I : rt_I} (h : HN M I) {j : Nat} {v : Int32} (hj : 33 ≤ j ∧ j ≤ 37) : HN (rt_u M 108 j v) I := ⟨h.1.u (by decide), h.2.1.u (fun _ => by
  simp only [List.mem_cons, List.not_mem_nil, or_false]
  omega), (rt_u1 (by omega)).trans h.2.2⟩
theorem MMo.q {f f' : Nat → Int32} (h : MMo s m f) (e : f' = f) : MMo s m f' := e ▸ h
theorem wX12_beyond {w : Nat} {x p : Int32} (hM : MMo s m (I 109)) (hk : sok s) (hx : x = nI w) (hw : w < s.nr) (hQ : Q (fe m w p) I L r) : rt_Call G (d + 1) kX12_beyond [.ref 109, .int x, .int p] I L r Q := by
  have h12 := hk.2.1
  have e1 : I 109 (40 + 2 * w) = m (40 + 2 * w) := hM.2.2.1 w hw
  have e2 : I 109 (40 + 2 * w + 1) = m (41 + 2 * w) := by rw [show 40 + 2 * w + 1 = 41 + 2 * w by omega]; exact hM.2.2.2 w hw
  refine sX12_beyond hx (by omega) ?_
  rw [e1, e2]
  exact hQ
theorem wX12_refusesOut {x y : Int32} (hS : MZ s I) (hk : sok s) (hM : MMo s m (I 109)) (hm : mok s B m)
    (h1 : ¬ (aOut s m x y).1 < 0 → Q 0 I L r) (hQ : (aOut s m x y).1 < 0 → Q (aOut s m x y).1 I L r) : rt_Call G (d + 3) kX12_refusesOut [.ref 108, .int x, .int y] I L r Q := by
  have h5 := hk.2.2.1
  have h12 := hk.2.1
  have h8 := hk.1
  have h0 : ¬ (inb x s.nc && inb y s.nr) = true → Q (-1) I L r := by
    intro z
    unfold aOut at hQ
    rw [if_neg z] at hQ
    exact hQ (by show (-1 : Int32) < 0; decide)
  refine v_X12_refusesOut _ _ _ _ _ (sX12_isCart hS.2.2.1 (by omega) (fun z => ⟨fun q => absurd q (by decide), fun _ => ?_⟩) (fun z => ⟨fun _ => h0 (by rw [Bool.and_eq_true, inb_iff]; exact fun q => z q.1), fun q => absurd rfl q⟩))
  refine sX12_isRoad hS.2.1 (by omega) (fun z2 => ⟨fun _ => ?_, fun q => absurd q (by decide)⟩) (fun z2 => ⟨fun q => absurd rfl q, fun _ => h0 (by rw [Bool.and_eq_true, inb_iff, inb_iff]; exact fun q => z2 q.2)⟩)
  unfold aOut at hQ h1
  rw [if_pos (by rw [Bool.and_eq_true, inb_iff, inb_iff]; exact ⟨z, z2⟩)] at hQ h1
  obtain ⟨c, hc, rfl⟩ := (inr_iff (by omega)).mp z
  obtain ⟨w, hw, rfl⟩ := (inr_iff (by omega)).mp z2
  rw [cc_nI (by omega), cc_nI (by omega)] at hQ h1
  simp (disch := omega) only [n8, vpT, clT, true_and]
  rw [mm_0 hM hc]
  refine ⟨fun q0 => ?_, fun q0 => ?_⟩
  · rw [if_neg q0] at hQ h1
    refine wX12_beyond hM hk rfl hw ⟨fun q1 => ?_, fun q1 => ?_⟩
    · rw [if_neg q1] at hQ h1
      rw [hM.1]
      refine wX12_isThere hS hk rfl hw (fun q2 => ?_) (fun q2 => ?_)
      · rw [if_pos q2] at h1
        exact ⟨fun y => absurd y (by decide), fun _ => h1 (tkn_pos _ _ _ _ _)⟩
      · rw [if_neg (by rw [q2]; decide)] at hQ
        exact ⟨fun _ => hQ (by show (-4 : Int32) < 0; decide), fun y => absurd rfl y⟩
    · rw [if_pos q1] at hQ
      exact hQ (by show (-3 : Int32) < 0; decide)
  · rw [if_pos q0] at hQ
    exact hQ (by show (-2 : Int32) < 0; decide)
theorem wX12_goOut {x y : Int32} (hS : MZ s I) (hk : sok s) (hM : MMo s m (I 109)) (hm : mok s B m) (hd : ¬ (aOut s m x y).1 < 0)
    (hQ : ∀ M r', HN M I → MMo s (aOut s m x y).2 (M 109) → Q (aOut s m x y).1 M L r') : rt_Call G (d + 132) kX12_goOut [.ref 108, .int x, .int y] I L r Q := by
  have h5 := hk.2.2.1
  have h12 := hk.2.1
  have h8 := hk.1
  obtain ⟨c, w, p, q, hc, hw, hp, hq, rfl, rfl, e0, f1, -, e⟩ := aOut_done hk hm hd
  rw [e] at hQ
  refine v_X12_goOut _ _ _ _ _ ?_
  simp (disch := omega) only [n8, na1, na2, na3, na4, vpT, clT, true_and, rt_u1, rt_u_at]
  rw [mm_0 hM hc, e0]
  refine wX12_beyond hM hk rfl hw ?_
  rw [f1, mm_c hM hc (j := 4) (by omega)]
  have hSv : MZ s (rt_u (rt_u (rt_u I 109 (c * 8) (-1)) 109 (c * 8 + 1) (nI w)) 109 (c * 8 + 2) (nI q)) := (HN.refl I).v.v.v.S hS
  refine wX12_turnsOf hSv hk rfl hw rfl hp rfl hq (fun M r' hT => ?_)
  refine hQ _ r' ((hT.H hSv).trans (HN.refl I).v.v.v).v ?_
  rw [rt_u_eq, hT.1 109 (by decide), rt_u_eq, rt_u_eq, rt_u_eq]
  exact hM.w.w.w.w
theorem wX12_canRound {x : Int32} (hS : MZ s I) (hk : sok s) (hM : MMo s m (I 109)) (hm : mok s B m)
    (h1 : ¬ (aRound s m x).1 < 0 → Q 1 I L r) (hQ : (aRound s m x).1 < 0 → Q 0 I L r) : rt_Call G (d + 2) kX12_canRound [.ref 108, .int x] I L r Q := by
  have h5 := hk.2.2.1
  refine v_X12_canRound _ _ _ _ (sX12_isCart hS.2.2.1 (by omega) (fun z => ⟨fun q => absurd q (by decide), fun _ => ?_⟩) (fun z => ⟨fun _ => ?_, fun q => absurd rfl q⟩))
  · unfold aRound at hQ h1
    rw [if_pos (inb_iff.mpr z)] at hQ h1
    obtain ⟨c, hc, rfl⟩ := (inr_iff (by omega)).mp z
    rw [cc_nI (by omega)] at hQ h1
    simp (disch := omega) only [n8, na7, vpT, clT, true_and]
    rw [mm_0 hM hc, mm_c hM hc (j := 7) (by omega)]
    refine ⟨fun q => ?_, fun q => ⟨fun q2 => ?_, fun q2 => ?_⟩⟩
    · rw [if_neg (fun y => q y.1)] at hQ; exact hQ (by show (-1 : Int32) < 0; decide)
    · rw [if_neg (fun y => q2 y.2)] at hQ; exact hQ (by show (-1 : Int32) < 0; decide)
    · rw [if_pos ⟨q, q2⟩] at h1; exact h1 rmax1_pos
  · unfold aRound at hQ
    rw [if_neg (mt inb_iff.mp z)] at hQ
    exact hQ (by show (-1 : Int32) < 0; decide)
theorem wX12_goRound {x : Int32} (hS : MZ s I) (hk : sok s) (hM : MMo s m (I 109)) (hm : mok s B m) (hd : ¬ (aRound s m x).1 < 0)
    (hQ : ∀ M r', HN M I → MMo s (aRound s m x).2 (M 109) → Q (aRound s m x).1 M L r') : rt_Call G (d + 132) kX12_goRound [.ref 108, .int x] I L r Q := by
  have h5 := hk.2.2.1
  have h12 := hk.2.1
  have h8 := hk.1
  obtain ⟨c, w, p, q, hc, hw, hp, hq, rfl, e0, e7, e1, e2, f1, e⟩ := aRound_done hk hm hd
  rw [e] at hQ
  refine v_X12_goRound _ _ _ _ ?_
  simp (disch := omega) only [n8, na1, na2, na3, na4, vpT, clT, true_and, rt_u1, rt_u_at]
  rw [mm_c hM hc (j := 1) (by omega), mm_c hM hc (j := 2) (by omega), e1, e2]
  refine wX12_beyond hM hk rfl hw ?_
  rw [f1, mm_c hM hc (j := 4) (by omega)]
  have hSv : MZ s (rt_u I 109 (c * 8 + 2) (nI q)) := (HN.refl I).v.S hS
  refine wX12_turnsOf hSv hk rfl hw rfl hp rfl hq (fun M r' hT => ?_)
  have h3 : M 109 (c * 8 + 3) = m (c * 8 + 3) := by
    rw [hT.1 109 (by decide), rt_u1 (by omega)]
    exact mm_c hM hc (j := 3) (by omega)
  rw [h3]
  refine hQ _ r' ((hT.H hSv).trans (HN.refl I).v).v ?_
  rw [rt_u_eq, hT.1 109 (by decide), rt_u_eq]
  exact hM.w.w
theorem wX12_canChain {x : Int32} (hS : MZ s I) (hk : sok s) (hM : MMo s m (I 109))
    (h1 : ∀ c, c < s.nc → x = nI c → m (c * 8 + 7) = 0 → Q 1 I L r) (h0 : (∀ c, c < s.nc → x = nI c → ¬ m (c * 8 + 7) = 0) → Q 0 I L r) : rt_Call G (d + 2) kX12_canChain [.ref 108, .int x] I L r Q := by
  have h5 := hk.2.2.1
  refine v_X12_canChain _ _ _ _ (sX12_isCart hS.2.2.1 (by omega) (fun z => ⟨fun q => absurd q (by decide), fun _ => ?_⟩) (fun z => ⟨fun _ => h0 (fun c hc e => absurd ((inr_iff (by omega)).mpr ⟨c, hc, e⟩) z), fun q => absurd rfl q⟩))
  obtain ⟨c, hc, rfl⟩ := (inr_iff (by omega)).mp z
  simp (disch := omega) only [n8, na7, vpT, clT, true_and]
  rw [mm_c hM hc (j := 7) (by omega)]
  exact ⟨fun q => h0 (fun c' hc' e => by obtain rfl := (nI_eq (by omega) (by omega)).mp e; exact q), fun q => h1 c hc rfl q⟩
theorem wX12_canLoad {x : Int32} (hS : MZ s I) (hk : sok s) (hM : MMo s m (I 109))
    (h1 : ∀ c, c < s.nc → x = nI c → ¬ m (c * 8) = -1 → Q 1 I L r) (h0 : (∀ c, c < s.nc → x = nI c → m (c * 8) = -1) → Q 0 I L r) : rt_Call G (d + 2) kX12_canLoad [.ref 108, .int x] I L r Q := by
  have h5 := hk.2.2.1
  refine v_X12_canLoad _ _ _ _ (sX12_isCart hS.2.2.1 (by omega) (fun z => ⟨fun q => absurd q (by decide), fun _ => ?_⟩) (fun z => ⟨fun _ => h0 (fun c hc e => absurd ((inr_iff (by omega)).mpr ⟨c, hc, e⟩) z), fun q => absurd rfl q⟩))
  obtain ⟨c, hc, rfl⟩ := (inr_iff (by omega)).mp z
  simp (disch := omega) only [n8, vpT, clT, true_and]
  rw [mm_0 hM hc]
  exact ⟨fun q => h0 (fun c' hc' e => by obtain rfl := (nI_eq (by omega) (by omega)).mp e; exact q), fun q => h1 c hc rfl q⟩
theorem anyb_mono {b : Nat → Bool} {k : Nat} : ∀ {n : Nat}, k < n → b k = true → anyb b n = true
  | 0, h, _ => by omega
  | n + 1, h, e => by
    unfold anyb
    by_cases q : k = n
    · subst q; rw [e, Bool.or_true]
    · rw [anyb_mono (by omega) e, Bool.true_or]
theorem wX12_isUsed_now {x : Int32} (hS : MZ s I) (hk : sok s) (hM : MMo s m (I 109))
    (h1 : usd s m x = true → Q 1 I L r) (h0 : usd s m x = false → Q 0 I L r) : rt_Call G d kX12_isUsed [.ref 108, .ref 109, .int x] I L r Q := by
  have h5 := hk.2.2.1
  refine v_X12_isUsed_now _ _ _ _ (rt_loop (P := fun k => anyb (fun c => decide (m (c * 8 + 1) = x)) k = false → rt_AW G d kX12_isUsed Q 2 [some (.ref 108), some (.ref 109), some (.int x), some (.int (nI k))] [] I L r) s.nc ?_ ?_ rfl)
  · intro h
    exact v_X12_isUsed_now_2 _ _ _ _ _ ⟨fun _ => h0 h, fun z => absurd (by rw [hS.2.2.1]; exact Int32.le_refl _) z⟩
  · intro k hkn ih h
    refine v_X12_isUsed_now_2 _ _ _ _ _ ⟨fun z => absurd ((n_le hS.2.2.1 rfl (by omega) (by omega)).mp z) (by omega), fun _ => ?_⟩
    simp (disch := omega) only [n8, na1, vpT, clT, true_and]
    rw [mm_c hM hkn (j := 1) (by omega)]
    refine ⟨fun q => ih ?_, fun q => h1 (anyb_mono (k := k) hkn (by simpa using q))⟩
    unfold anyb
    rw [h]
    simpa using q
/-- what turns of the model may change; sums -/
theorem wX12_goTurns_now {n : Nat} {x : Int32} (hS : MZ s I) (hk : sok s) (hM : MMo s m (I 109)) (hm : mok s B m) (hB : B + n < 2 ^ 29) (hx : x = nI n)
    (hQ : ∀ M, HN M I → MMo s (tns s m n) (M 109) → M 108 35 = I 108 35 + nI (aN s m n) → M 108 36 = I 108 36 ||| aC s m n → M 108 37 = I 108 37 ||| aW s m n → Q 0 M L r) : rt_Call G (d + 4) kX12_goTurns [.ref 108, .ref 109, .int x] I L r Q := by
  have h5 := hk.2.2.1
  subst hx
  refine v_X12_goTurns_now _ _ _ _ (rt_loop (P := fun i => ∀ M, HN M I → MMo s (tns s m i) (M 109) → M 108 35 = I 108 35 + nI (aN s m i) → M 108 36 = I 108 36 ||| aC s m i → M 108 37 = I 108 37 ||| aW s m i → rt_AW G (d + 4) kX12_goTurns Q 2 [some (.ref 108), some (.ref 109), some (.int (nI n)), some (.int (nI i))] [] M L r) n ?_ ?_ I (HN.refl _) hM ?_ ?_ ?_)
  · intro M hH hMo h1 h2 h3
    exact v_X12_goTurns_now_2 _ _ _ _ _ ⟨fun _ => hQ M hH hMo h1 h2 h3, fun z => absurd (Int32.le_refl _) z⟩
  · intro i hi ih M hH hMo h1 h2 h3
    refine v_X12_goTurns_now_2 _ _ _ _ _ ⟨fun z => absurd ((nI_leI (by omega) (by omega)).mp z) (by omega), fun _ => wX12_goTurn_now (hH.S hS) hk hMo (tns_ok hk hm i) (by omega) (fun M2 hG2 hMo2 hc2 hw2 => ?_)⟩
    have e35 : M2 108 35 = M 108 35 := hG2.2 35 (by decide)
    have e36 : M2 108 36 = M 108 36 := hG2.2 36 (by decide)
    have e37 : M2 108 37 = M 108 37 := hG2.2 37 (by decide)
    rw [hc2]
    refine sJ6_bitCount (b := gCame s (tns s m i)) (n := s.nc) (bts_n (by omega)) (by omega) ?_
    simp (disch := omega) only [na1, rt_u1, rt_u_at]
    refine ih _ (((((hG2.H.trans hH).b (by omega)).b (by omega)).b (by omega))) ?_ ?_ ?_ ?_
    · rw [rt_u_ne (by decide), rt_u_ne (by decide), rt_u_ne (by decide)]; exact hMo2
    · rw [rt_u1 (by decide), rt_u1 (by decide), rt_u_at, e35, h1, Int32.add_assoc, nI_add]; rfl
    · rw [rt_u1 (by decide), rt_u_at, hc2, e36, h2, Int32.or_assoc]; rfl
    · rw [rt_u_at, hw2, e37, h3, Int32.or_assoc]; rfl
  · show _ = _ + nI 0
    rw [nI_0, Int32.add_zero]
  · show _ = _ ||| 0
    rw [Int32.or_zero]
  · show _ = _ ||| 0
    rw [Int32.or_zero]
end
