/-! WHAT IS DONE: the class's -/
section
variable {G : rt_G} {d : Nat} {Q : rt_Q} {I : rt_I} {L : rt_L} {r B : Nat} {s : SV} {m : Nat → Int32}
/-- what an act of the class may change -/
def CF (M I : rt_I) : Prop := Fr M I [10, 11, 16, 17, 18, 19, 20] ∧ M 16 1 = I 16 1 ∧ M 20 4 = I 20 4
theorem CF.refl (I : rt_I) : CF I I := ⟨Fr.refl _ _, rfl, rfl⟩
theorem CF.trans {A B C : rt_I} (h1 : CF A B) (h2 : CF B C) : CF A C := ⟨h1.1.trans h2.1, h1.2.1.trans h2.2.1, h1.2.2.trans h2.2.2⟩
theorem CF.S {M I : rt_I} (h : CF M I) (hS : XZ s I) : XZ s M := hS.fr ⟨by rw [h.1 12 (by decide)], by rw [h.1 12 (by decide)]⟩ h.2.1 (by rw [h.1 3 (by decide)]) (h.1 4 (by decide)) (h.1 13 (by decide)) (h.1 14 (by decide)) (h.1 15 (by decide)) (by rw [h.1 6 (by decide)]) (h.1 7 (by decide)) h.2.2
theorem GF.C {M I : rt_I} (h : GF M I) : CF M I := ⟨h.1.mono (by decide), h.2.1, h.2.2 4 (by decide) (by decide)⟩
theorem CF.t {M I : rt_I} (h : Fr M I [10, 11]) : CF M I := ⟨h.mono (by decide), by rw [h 16 (by decide)], by rw [h 20 (by decide)]⟩
theorem CF.u {M I : rt_I} (h : CF M I) {c j : Nat} {v : Int32} (hc : c = 17 ∨ c = 18 ∨ c = 19) : CF (rt_u M c j v) I := ⟨h.1.u (by rcases hc with rfl | rfl | rfl <;> decide), (rt_u2 (by omega)).trans h.2.1, (rt_u2 (by omega)).trans h.2.2⟩
theorem XMo.t {M : rt_I} (h : XMo s m I 16) (hf : Fr M I [10, 11]) : XMo s m M 16 := h.fr (by rw [hf 16 (by decide)]) (hf 17 (by decide)) (hf 18 (by decide)) (hf 19 (by decide))
theorem xm_c {c j : Nat} (hk : sok s) (hM : XMo s m I 16) (hc : c < s.nc) (hj : j < 8) : I 17 (c * 8 + j) = m (c * 8 + j) := hM.2.1 _ (by omega)
theorem xm_0 {c : Nat} (hk : sok s) (hM : XMo s m I 16) (hc : c < s.nc) : I 17 (c * 8 + 0) = m (c * 8) := hM.2.1 _ (by omega)
theorem wX4_farEnd {w : Nat} {x p : Int32} (hM : XMo s m I 16) (hk : sok s) (hx : x = nI w) (hw : w < s.nr) (hQ : Q (fe m w p) I L r) : rt_Call G d kX4_farEnd [.ref 16, .int x, .int p] I L r Q := by
  have h12 := hk.2.1
  have e1 : I 18 w = m (40 + 2 * w) := hM.2.2.1 w hw
  have e2 : I 19 w = m (41 + 2 * w) := hM.2.2.2 w hw
  refine sX4_farEnd hx (by omega) ?_
  rw [e1, e2]
  exact hQ
theorem wX9_setOut {x y : Int32} (hS : XZ s I) (hk : sok s) (hM : XMo s m I 16) (hm : mok s B m)
    (hQ : ∀ M, CF M I → XMo s (aOut s m x y).2 M 16 → Q (aOut s m x y).1 M L r) : rt_Call G (d + 4) kX9_setOut [.ref 20, .int x, .int y] I L r Q := by
  have h5 := hk.2.2.1
  have h12 := hk.2.1
  have h8 := hk.1
  have h0 : ¬ (inb x s.nc && inb y s.nr) = true → Q (-1) I L r := by
    intro z
    unfold aOut at hQ
    rw [if_neg z] at hQ
    exact hQ I (CF.refl _) hM
  refine v_X9_setOut _ _ _ _ _ (sX2_hasCart hS.2.2.1 (fun z => ⟨fun q => absurd q (by decide), fun _ => ?_⟩) (fun z => ⟨fun _ => h0 (by rw [Bool.and_eq_true, inb_iff]; exact fun q => z q.1), fun q => absurd rfl q⟩))
  refine sX2_hasRoad hS.2.1 (fun z2 => ⟨fun _ => ?_, fun q => absurd q (by decide)⟩) (fun z2 => ⟨fun q => absurd rfl q, fun _ => h0 (by rw [Bool.and_eq_true, inb_iff, inb_iff]; exact fun q => z2 q.2)⟩)
  unfold aOut at hQ
  rw [if_pos (by rw [Bool.and_eq_true, inb_iff, inb_iff]; exact ⟨z, z2⟩)] at hQ
  obtain ⟨c, hc, rfl⟩ := (inr_iff (by omega)).mp z
  obtain ⟨w, hw, rfl⟩ := (inr_iff (by omega)).mp z2
  rw [cc_nI (by omega), cc_nI (by omega)] at hQ
  have hcok := hm.1
  obtain ⟨t, ht, e64, hco⟩ := hcok
  refine sX4_of (j := 0) rfl rfl (by omega) ?_
  rw [xm_0 hk hM hc]
  refine ⟨fun q0 => ?_, fun q0 => ?_⟩
  · rw [if_neg q0] at hQ
    refine wX4_farEnd hM hk rfl hw ⟨fun q1 => ?_, fun q1 => ?_⟩
    · rw [if_neg q1] at hQ
      refine wX9_isThere hS hk rfl hw (fun q2 => ?_) (fun q2 => ?_)
      · rw [hM.1] at q2
        rw [if_pos q2] at hQ
        obtain ⟨-, hq⟩ := hco c hc
        rcases hq with ⟨p, hp, e0, -⟩ | ⟨e0, -⟩
        · skip
          rw [e0] at q1 ⊢
          obtain ⟨q, hq, f1, f2⟩ := fe_ok hk (hm.2 w hw) q1
          refine ⟨fun _ => sX4_of (j := 4) rfl rfl (by omega) ?_, fun y => absurd y (by decide)⟩
          rw [xm_c hk hM hc (by omega), f1]
          refine wX9_turnsBy hS hk rfl hw rfl hp rfl hq (fun M hF => ?_)
          have hT : oT s m c w = s.tkn w p q (m (c * 8 + 4)) := by
            unfold oT
            rw [e0, f1, cc_nI (by omega), cc_nI (by omega)]
          refine sX4_putOnRoad rfl (by omega) ?_
          rw [← hT]
          refine hQ _ ((((CF.t hF).u (Or.inl rfl)).u (Or.inl rfl)).u (Or.inl rfl) |>.u (Or.inl rfl)) ?_
          have := ((((hM.t hF).w (k := c * 8) (v := -1) (by omega)).w (k := c * 8 + 1) (v := nI w) (by omega)).w (k := c * 8 + 2) (v := nI q) (by omega)).w (k := c * 8 + 3) (v := oT s m c w) (by omega)
          unfold oM
          rw [e0, f1]
          exact this
        · exact absurd e0 q0
      · rw [hM.1] at q2
        rw [if_neg (by rw [q2]; decide)] at hQ
        exact ⟨fun y => absurd rfl y, fun _ => hQ I (CF.refl _) hM⟩
    · rw [if_pos q1] at hQ
      exact hQ I (CF.refl _) hM
  · rw [if_pos q0] at hQ
    exact hQ I (CF.refl _) hM
theorem wX9_turnRound {x : Int32} (hS : XZ s I) (hk : sok s) (hM : XMo s m I 16) (hm : mok s B m)
    (hQ : ∀ M, CF M I → XMo s (aRound s m x).2 M 16 → Q (aRound s m x).1 M L r) : rt_Call G (d + 4) kX9_turnRound [.ref 20, .int x] I L r Q := by
  have h5 := hk.2.2.1
  have h12 := hk.2.1
  have h8 := hk.1
  refine v_X9_turnRound _ _ _ _ (sX2_hasCart hS.2.2.1 (fun z => ⟨fun q => absurd q (by decide), fun _ => ?_⟩) (fun z => ⟨fun _ => ?_, fun q => absurd rfl q⟩))
  · unfold aRound at hQ
    rw [if_pos (inb_iff.mpr z)] at hQ
    obtain ⟨c, hc, rfl⟩ := (inr_iff (by omega)).mp z
    rw [cc_nI (by omega)] at hQ
    obtain ⟨t, ht, e64, hco⟩ := hm.1
    refine sX4_of (j := 1) rfl rfl (by omega) ?_
    rw [xm_c hk hM hc (by omega)]
    obtain ⟨-, hq⟩ := hco c hc
    rcases hq with ⟨p, hp, e0, e1, -⟩ | ⟨e0, ⟨w, hw, e1, e2⟩, ⟨l, l1, l20, e3⟩, e6, e7⟩
    · rw [if_neg (fun y => n_ne1 (a := p) (by omega) (e0.symm.trans y.1))] at hQ
      exact ⟨fun _ => hQ I (CF.refl _) hM, fun y => absurd e1 y⟩
    · refine ⟨fun y => absurd (e1.symm.trans y) (n_ne1 (by omega)), fun _ => sX4_of (j := 7) rfl rfl (by omega) ?_⟩
      rw [xm_c hk hM hc (by omega)]
      refine ⟨fun y7 => sX4_of (j := 1) rfl rfl (by omega) ?_, fun y7 => ?_⟩
      · rw [if_pos ⟨e0, y7⟩] at hQ
        rw [xm_c hk hM hc (by omega)]
        refine sX4_of (j := 2) rfl rfl (by omega) ?_
        rw [xm_c hk hM hc (by omega)]
        obtain ⟨p, q, hp, hq, f1, f2, f3⟩ := fe_end (hm.2 w hw) e2 hk
        have hrw : rW m c = w := by unfold rW; rw [e1]; exact cc_nI (by omega)
        have hrF : rF m c = nI q := by unfold rF; rw [hrw]; exact f2
        refine wX4_farEnd hM hk e1 hw ?_
        rw [f2]
        refine ⟨fun _ => sX4_of (j := 4) rfl rfl (by omega) ?_, fun y => absurd y (n_ne1 (by omega))⟩
        rw [xm_c hk hM hc (by omega)]
        refine wX9_turnsBy hS hk e1 hw f1 hp rfl hq (fun M hF => ?_)
        have hT : rT s m c = rt_max 1 (s.tkn w p q (m (c * 8 + 4)) - m (c * 8 + 3)) := by
          unfold rT
          rw [hrw, hrF, f1, cc_nI (by omega), cc_nI (by omega)]
        have hM' := hM.t hF
        refine sX4_of (j := 3) rfl rfl (by omega) ?_
        rw [xm_c hk hM' hc (by omega), ← hT]
        refine sX4_putOnRoad rfl (by omega) ?_
        refine hQ _ ((((CF.t hF).u (Or.inl rfl)).u (Or.inl rfl)).u (Or.inl rfl) |>.u (Or.inl rfl)) ?_
        have := ((((hM'.wL (k := c * 8) (v := -1) e0)).wL (k := c * 8 + 1) (v := m (c * 8 + 1)) rfl).w (k := c * 8 + 2) (v := nI q) (by omega)).w (k := c * 8 + 3) (v := rT s m c) (by omega)
        rw [hrF]
        exact this
      · rw [if_neg (fun y => y7 y.2)] at hQ
        exact hQ I (CF.refl _) hM
  · unfold aRound at hQ
    rw [if_neg (mt inb_iff.mp z)] at hQ
    exact hQ I (CF.refl _) hM
theorem wX9_putChain {x v : Int32} (hS : XZ s I) (hk : sok s) (hM : XMo s m I 16)
    (hQ : ∀ M, CF M I → XMo s (aChain s m x v).2 M 16 → Q (aChain s m x v).1 M L r) : rt_Call G (d + 1) kX9_putChain [.ref 20, .int x, .int v] I L r Q := by
  have h5 := hk.2.2.1
  refine v_X9_putChain _ _ _ _ _ (sX2_hasCart hS.2.2.1 (fun z => ⟨fun q => absurd q (by decide), fun _ => ?_⟩) (fun z => ⟨fun _ => ?_, fun q => absurd rfl q⟩))
  · unfold aChain at hQ
    rw [if_pos (inb_iff.mpr z)] at hQ
    obtain ⟨c, hc, rfl⟩ := (inr_iff (by omega)).mp z
    rw [cc_nI (by omega)] at hQ
    have hno : ¬ (m (c * 8 + 7) = 0 ∧ (¬ v < 0 ∧ ¬ 1 < v)) → Q (-1) I L r := by
      intro y
      rw [if_neg y] at hQ
      exact hQ I (CF.refl _) hM
    refine ⟨fun y => hno (fun q => q.2.1 y), fun y => ⟨fun y2 => hno (fun q => q.2.2 y2), fun y2 => sX4_of (j := 7) rfl rfl (by omega) ?_⟩⟩
    rw [xm_c hk hM hc (by omega)]
    refine ⟨fun y3 => sX4_of (j := 5) rfl rfl (by omega) ?_, fun y3 => hno (fun q => y3 q.1)⟩
    rw [xm_c hk hM hc (by omega)]
    rw [if_pos ⟨y3, y, y2⟩] at hQ
    exact sX4_put (j := 5) rfl rfl (by omega) (hQ _ ((CF.refl _).u (Or.inl rfl)) (hM.w (by omega)))
  · unfold aChain at hQ
    rw [if_neg (mt inb_iff.mp z)] at hQ
    exact hQ I (CF.refl _) hM
theorem wX9_putLoad {x v : Int32} (hS : XZ s I) (hk : sok s) (hM : XMo s m I 16)
    (hQ : ∀ M, CF M I → XMo s (aLoad s m x v).2 M 16 → Q (aLoad s m x v).1 M L r) : rt_Call G (d + 1) kX9_putLoad [.ref 20, .int x, .int v] I L r Q := by
  have h5 := hk.2.2.1
  refine v_X9_putLoad _ _ _ _ _ (sX2_hasCart hS.2.2.1 (fun z => ⟨fun q => absurd q (by decide), fun _ => ?_⟩) (fun z => ⟨fun _ => ?_, fun q => absurd rfl q⟩))
  · unfold aLoad at hQ
    rw [if_pos (inb_iff.mpr z)] at hQ
    obtain ⟨c, hc, rfl⟩ := (inr_iff (by omega)).mp z
    rw [cc_nI (by omega)] at hQ
    have hno : ¬ (¬ m (c * 8) = -1 ∧ (¬ v < 0 ∧ ¬ 9 < v)) → Q (-1) I L r := by
      intro y
      rw [if_neg y] at hQ
      exact hQ I (CF.refl _) hM
    refine ⟨fun y => hno (fun q => q.2.1 y), fun y => ⟨fun y2 => hno (fun q => q.2.2 y2), fun y2 => sX4_of (j := 0) rfl rfl (by omega) ?_⟩⟩
    rw [xm_0 hk hM hc]
    refine ⟨fun y3 => sX4_of (j := 4) rfl rfl (by omega) ?_, fun y3 => hno (fun q => q.1 y3)⟩
    rw [xm_c hk hM hc (by omega)]
    rw [if_pos ⟨y3, y, y2⟩] at hQ
    exact sX4_put (j := 4) rfl rfl (by omega) (hQ _ ((CF.refl _).u (Or.inl rfl)) (hM.w (by omega)))
  · unfold aLoad at hQ
    rw [if_neg (mt inb_iff.mp z)] at hQ
    exact hQ I (CF.refl _) hM
theorem XMo.s2 {w : Nat} {y z : Int32} (hk : sok s) (h : XMo s m I 16) (hw : w < s.nr) : XMo s (sM m w y z) (rt_u (rt_u I 18 w y) 19 w z) 16 := by
  have h5 := hk.2.2.1
  have h12 := hk.2.1
  obtain ⟨a1, a2, a3, a4⟩ := h
  unfold sM
  refine ⟨?_, fun j hj => ?_, fun v hv => ?_, fun v hv => ?_⟩
  · rw [rt_u2 (by decide), rt_u2 (by decide), upd1 (by omega), upd1 (by omega)]; exact a1
  · show rt_u (rt_u I 18 w y) 19 w z 17 j = _
    rw [rt_u2 (by decide), rt_u2 (by decide), upd1 (by omega), upd1 (by omega)]
    exact a2 j hj
  · show rt_u (rt_u I 18 w y) 19 w z 18 v = _
    rw [rt_u2 (by decide), upd1 (by omega)]
    by_cases e : v = w
    · subst e; rw [rt_u_at, upd0]
    · rw [rt_u1 e, upd1 (by omega)]
      exact a3 v hv
  · show rt_u (rt_u I 18 w y) 19 w z 19 v = _
    by_cases e : v = w
    · subst e; rw [rt_u_at, upd0]
    · rw [rt_u1 e, rt_u2 (by decide), upd1 (by omega), upd1 (by omega)]
      exact a4 v hv
theorem wX4_usd {x : Int32} (hS : XZ s I) (hk : sok s) (hM : XMo s m I 16) (h1 : usd s m x = true → ∀ v, ¬ v = 0 → Q v I L r) (h0 : usd s m x = false → Q 0 I L r) : rt_Call G (d + 1) kX4_cartsWith [.ref 16, .int 1, .int x] I L r Q := by
  have h5 := hk.2.2.1
  have e : bts (fun c => decide (I 17 (c * 8 + 1) = x)) s.nc = bts (fun c => decide (m (c * 8 + 1) = x)) s.nc := bts_congr (fun k hk2 => by rw [xm_c hk hM hk2 (by omega)])
  refine sX4_cartsWith (j := 1) hS.2.2.1 h5 (by omega) ?_
  rw [e]
  by_cases z : usd s m x = false
  · have := (bts_z (b := fun c => decide (m (c * 8 + 1) = x)) (n := s.nc) (by omega)).mpr z
    rw [this]
    exact h0 z
  · refine h1 (by cases hh : usd s m x <;> simp_all) _ (fun q => z ((bts_z (by omega)).mp q))
theorem wX9_throwRoad {x y z : Int32} (hS : XZ s I) (hk : sok s) (hM : XMo s m I 16)
    (hQ : ∀ M, CF M I → XMo s (aStorm s m x y z).2 M 16 → Q (aStorm s m x y z).1 M L r) : rt_Call G (d + 2) kX9_throwRoad [.ref 20, .int x, .int y, .int z] I L r Q := by
  have h12 := hk.2.1
  have h8 := hk.1
  have hno : ¬ (inb x s.nr && (inb y s.np && inb z s.np)) = true ∨ y = z → Q (-1) I L r := by
    intro q
    unfold aStorm at hQ
    rw [if_neg (by rintro ⟨q1, q2⟩; exact q.elim (fun f => f q1) q2)] at hQ
    exact hQ I (CF.refl _) hM
  refine v_X9_throwRoad _ _ _ _ _ _ (sX2_hasRoad hS.2.1 (fun z1 => ⟨fun q => absurd q (by decide), fun _ => sX2_hasPlace hS.1 (fun z2 => ⟨fun q => absurd q (by decide), fun _ => sX2_hasPlace hS.1 (fun z3 => ⟨fun q => absurd q (by decide), fun _ => ⟨fun z4 => ?_, fun z4 => hno (Or.inr z4)⟩⟩) (fun z3 => ⟨fun _ => hno (Or.inl (by simp only [Bool.and_eq_true, inb_iff]; exact fun q => z3 q.2.2)), fun q => absurd rfl q⟩)⟩) (fun z2 => ⟨fun _ => hno (Or.inl (by simp only [Bool.and_eq_true, inb_iff]; exact fun q => z2 q.2.1)), fun q => absurd rfl q⟩)⟩) (fun z1 => ⟨fun _ => hno (Or.inl (by simp only [Bool.and_eq_true, inb_iff]; exact fun q => z1 q.1)), fun q => absurd rfl q⟩))
  unfold aStorm at hQ
  rw [if_pos ⟨by simp only [Bool.and_eq_true, inb_iff]; exact ⟨z1, z2, z3⟩, z4⟩] at hQ
  obtain ⟨w, hw, rfl⟩ := (inr_iff (by omega)).mp z1
  rw [cc_nI (by omega)] at hQ
  refine wX4_usd hS hk hM (fun q v hv => ⟨fun y => absurd y hv, fun _ => ?_⟩) (fun q => ⟨fun _ => ?_, fun y => absurd rfl y⟩)
  · rw [if_pos q] at hQ
    exact hQ I (CF.refl _) hM
  · rw [if_neg (by rw [q]; decide)] at hQ
    have hv : vp_in (nI w) 12 := vp_nI rfl (by omega) (by omega)
    have e1 : I 18 w = m (40 + 2 * w) := hM.2.2.1 w hw
    have e2 : I 19 w = m (41 + 2 * w) := hM.2.2.2 w hw
    refine ⟨hv, hv, hv, hv, ?_⟩
    rw [cl (n := w) rfl (by omega), e1, e2]
    exact hQ _ (((CF.refl _).u (Or.inr (Or.inl rfl))).u (Or.inr (Or.inr rfl))) (XMo.s2 hk hM hw)
end
