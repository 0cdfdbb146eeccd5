/-! day(): the model runs -/
def HO (M I : rt_I) : Prop := Fr M I [108, 109, 121] ∧ F8 M I [16, 17, 18, 19, 28, 33, 34, 36, 37] ∧ M 108 28 = I 108 28
theorem HO.refl (I : rt_I) : HO I I := ⟨Fr.refl _ _, F8.refl _ _, rfl⟩
theorem HO.trans {A B C : rt_I} (h1 : HO A B) (h2 : HO B C) : HO A C := ⟨h1.1.trans h2.1, h1.2.1.trans h2.2.1, h1.2.2.trans h2.2.2⟩
theorem HO.N {M I : rt_I} (h : HO M I) : HN M I := ⟨h.1, h.2.1.mono (by decide), h.2.2⟩
theorem HO.v {M I : rt_I} (h : HO M I) {j : Nat} {v : Int32} : HO (rt_u M 109 j v) I := ⟨h.1.u (by decide), h.2.1.u (fun q => by omega), (rt_u2 (by decide)).trans h.2.2⟩
theorem TQ.O {s : SV} {M I : rt_I} (h : TQ M I) (hS : MZ s I) : HO M I := ⟨h.1.mono (by decide), h.2.1.mono (by decide), h.2.2.trans hS.2.2.2.2.2.2.2.2.2.2.symm⟩
/-- what an act of the model's day changes, but how many came -/
def HD (M I : rt_I) : Prop := HN M I
section
variable {G : rt_G} {d : Nat} {Q : rt_Q} {I : rt_I} {L : rt_L} {r B : Nat} {s : SV} {m : MO}
theorem oX12_goOut {x y : Int32} (hS : MZ s I) (hk : sok s) (hM : MMo s m (I 109)) (hm : mok s B m) (hd : ¬ (aOut s m x y).1 < 0)
    (hQ : ∀ M r', HO M I → MMo s (aOut s m x y).2 (M 109) → Q (aOut s m x y).1 M L r') : rt_Call G (d + 132) kX12_goOut [.ref 108, .int x, .int y] I L r Q := by
  have h5 := hk.2.2.1
  have h12 := hk.2.1
  have h8 := hk.1
  obtain ⟨c, w, p, q, hc, hw, hp, hq, rfl, rfl, e0, f1, -, e⟩ := aOut_done hk hm hd
  rw [e] at hQ
  refine v_X12_goOut _ _ _ _ _ ?_
  simp (disch := omega) only [n8, na1, na2, na3, na4, vpT, clT, true_and, rt_u1, rt_u_at]
  rw [mm_0 hM hc, e0]
  refine wX12_beyond hM hk rfl hw ?_
  rw [f1, mm_c hM hc (j := 4) (by omega)]
  have hSv : MZ s (rt_u (rt_u (rt_u I 109 (c * 8) (-1)) 109 (c * 8 + 1) (nI w)) 109 (c * 8 + 2) (nI q)) := (HN.refl I).v.v.v.S hS
  refine wX12_turnsOf hSv hk rfl hw rfl hp rfl hq (fun M r' hT => ?_)
  refine hQ _ r' ((hT.O hSv).trans (HO.refl I).v.v.v).v ?_
  rw [rt_u_eq, hT.1 109 (by decide), rt_u_eq, rt_u_eq, rt_u_eq]
  exact hM.w.w.w.w
theorem oX12_goRound {x : Int32} (hS : MZ s I) (hk : sok s) (hM : MMo s m (I 109)) (hm : mok s B m) (hd : ¬ (aRound s m x).1 < 0)
    (hQ : ∀ M r', HO M I → MMo s (aRound s m x).2 (M 109) → Q (aRound s m x).1 M L r') : rt_Call G (d + 132) kX12_goRound [.ref 108, .int x] I L r Q := by
  have h5 := hk.2.2.1
  have h12 := hk.2.1
  have h8 := hk.1
  obtain ⟨c, w, p, q, hc, hw, hp, hq, rfl, e0, e7, e1, e2, f1, e⟩ := aRound_done hk hm hd
  rw [e] at hQ
  refine v_X12_goRound _ _ _ _ ?_
  simp (disch := omega) only [n8, na1, na2, na3, na4, vpT, clT, true_and, rt_u1, rt_u_at]
  rw [mm_c hM hc (j := 1) (by omega), mm_c hM hc (j := 2) (by omega), e1, e2]
  refine wX12_beyond hM hk rfl hw ?_
  rw [f1, mm_c hM hc (j := 4) (by omega)]
  have hSv : MZ s (rt_u I 109 (c * 8 + 2) (nI q)) := (HN.refl I).v.S hS
  refine wX12_turnsOf hSv hk rfl hw rfl hp rfl hq (fun M r' hT => ?_)
  have h3 : M 109 (c * 8 + 3) = m (c * 8 + 3) := by
    rw [hT.1 109 (by decide), rt_u1 (by omega)]
    exact mm_c hM hc (j := 3) (by omega)
  rw [h3]
  refine hQ _ r' ((hT.O hSv).trans (HO.refl I).v).v ?_
  rw [rt_u_eq, hT.1 109 (by decide), rt_u_eq]
  exact hM.w.w
theorem sX12_act {t : T3} {x3 : Int32} (ht : tok3 t) (hx3 : t.1 = 111 ∨ t.1 = 108 → x3 = t.2.2) (hS : MZ s I) (hk : sok s) (hM : MMo s m (I 109)) (hm : mok s B m) (hB : B + 99 < 2 ^ 29)
    (h1 : ∀ M r', (dAct s m t).1 = true → HN M I → MMo s (dAct s m t).2.1 (M 109) → M 108 35 = I 108 35 + nI (dAct s m t).2.2 → Q 1 M L r')
    (h0 : ¬ (dAct s m t).1 = true → Q 0 I L r) : rt_Call G (d + 133) kX12_act [.ref 108, .int t.1, .int t.2.1, .int x3] I L r Q := by
  obtain ⟨hkk, a, b, ha, hb, ea, eb, h9⟩ := ht
  have hnc := hk.2.2.1
  have z0 : ∀ x : Int32, x = x + nI 0 := fun x => (Int32.add_zero x).symm
  refine v_X12_act _ _ _ _ _ _ ⟨fun z => ?_, fun z1 => ⟨fun z => ?_, fun z2 => ⟨fun z => ?_, fun z3 => ⟨fun z => ?_, fun z4 => ?_⟩⟩⟩⟩
  · have e := dAct_b (s := s) (m := m) z
    rw [e] at h1 h0
    refine wX12_canRound hS hk hM hm (fun y => ⟨fun _ => ?_, fun x => absurd x (by decide)⟩) (fun y => ⟨fun x => absurd rfl x, fun _ => h0 (by rw [dRes_f y]; decide)⟩)
    exact oX12_goRound hS hk hM hm y (fun M r' hN hMo => h1 M r' (dRes_t y) hN.N hMo ((hN.2.1 35 (by decide)).trans (z0 _)))
  · have e : dAct s m t = dRes (dChain s m t.2.1) := dAct_c z
    rw [e] at h1 h0
    refine wX12_canChain hS hk hM (fun c hc ec e7 => ⟨fun _ => ?_, fun x => absurd x (by decide)⟩) (fun y => ⟨fun x => absurd rfl x, fun _ => h0 ?_⟩)
    · rw [ec] at h1 ⊢
      simp (disch := omega) only [n8, na5, vpT, clT, true_and]
      obtain ⟨t', ht', e64, hco⟩ := hm.1
      have h5 := (hco c hc).1.1
      have ev : ¬ (1 : Int32) - m (c * 8 + 5) < 0 ∧ ¬ 1 < (1 : Int32) - m (c * 8 + 5) := by
        rcases h5 with q | q
        · rw [q]; decide
        · rw [q]; decide
      have e1 : dChain s m (nI c) = (m (c * 8 + 5), upd m (c * 8 + 5) (1 - m (c * 8 + 5))) := by
        unfold dChain aChain
        rw [if_pos (inb_iff.mpr ((inr_iff (by omega)).mpr ⟨c, hc, rfl⟩)), cc_nI (by omega), if_pos ⟨e7, ev⟩]
      have hv : ¬ m (c * 8 + 5) < 0 := by
        rcases h5 with q | q
        · rw [q]; decide
        · rw [q]; decide
      rw [e1] at h1
      refine h1 _ _ (dRes_t hv) (HN.refl I).v ?_ ?_
      · rw [rt_u_eq, mm_c hM hc (by omega)]
        exact hM.w
      · rw [rt_u2 (by decide)]; exact z0 _
    · have e1 : dChain s m t.2.1 = (-1, m) := by
        unfold dChain aChain
        split
        · rename_i q
          obtain ⟨c, hc, ec⟩ := (inr_iff (by omega)).mp (inb_iff.mp q)
          have := y c hc ec
          rw [ec, cc_nI (by omega), if_neg (fun q2 => this q2.1)]
        · rfl
      rw [e1, dRes_f (r := ((-1 : Int32), m)) (show (-1 : Int32) < 0 by decide)]
      decide
  · have e := dAct_o (s := s) (m := m) z
    rw [e] at h1 h0
    rw [hx3 (Or.inl z)]
    refine wX12_refusesOut hS hk hM hm (fun y => ⟨fun _ => ?_, fun x => absurd (Int32.le_refl _) x⟩) (fun y => ⟨fun x => absurd y (Int32.not_lt.mpr x), fun _ => h0 (by rw [dRes_f y]; decide)⟩)
    exact oX12_goOut hS hk hM hm y (fun M r' hN hMo => h1 M r' (dRes_t y) hN.N hMo ((hN.2.1 35 (by decide)).trans (z0 _)))
  · have e := dAct_t (s := s) (m := m) z
    rw [e, ea, cc_nI (by omega)] at h1
    rw [ea]
    exact wX12_goTurns_now (n := a) hS hk hM hm (by omega) rfl (fun M hN hMo g35 _ _ => h1 M r rfl hN hMo g35)
  · have z5 : t.1 = 108 := by
      rcases hkk with e | e | e | e | e
      · exact absurd e z3
      · exact absurd e z4
      · exact absurd e z1
      · exact absurd e z2
      · exact e
    have e := dAct_l (s := s) (m := m) z5
    rw [e] at h1 h0
    rw [hx3 (Or.inr z5)]
    have hb9 := h9 z5
    have ev : ¬ t.2.2 < 0 ∧ ¬ 9 < t.2.2 := by
      rw [eb]
      refine ⟨n_neg (by omega), fun y => ?_⟩
      have := (n_lt (a := 9) (b := b) rfl rfl (by omega) (by omega)).mp y
      omega
    refine wX12_canLoad hS hk hM (fun c hc ec e7 => ⟨fun _ => ?_, fun x => absurd x (by decide)⟩) (fun y => ⟨fun x => absurd rfl x, fun _ => h0 ?_⟩)
    · rw [ec] at h1 ⊢
      simp (disch := omega) only [n8, na4, vpT, clT, true_and]
      obtain ⟨t', ht', e64, hco⟩ := hm.1
      have e1 : aLoad s m (nI c) t.2.2 = (m (c * 8 + 4), upd m (c * 8 + 4) t.2.2) := by
        unfold aLoad
        rw [if_pos (inb_iff.mpr ((inr_iff (by omega)).mpr ⟨c, hc, rfl⟩)), cc_nI (by omega), if_pos ⟨e7, ev⟩]
      have hv : ¬ m (c * 8 + 4) < 0 := by
        obtain ⟨l, hl, e⟩ := (hco c hc).1.2
        rw [e]; exact n_neg (by omega)
      rw [e1] at h1
      refine h1 _ _ (dRes_t hv) (HN.refl I).v ?_ ?_
      · rw [rt_u_eq]
        exact hM.w
      · rw [rt_u2 (by decide)]; exact z0 _
    · have e1 : aLoad s m t.2.1 t.2.2 = (-1, m) := by
        unfold aLoad
        split
        · rename_i q
          obtain ⟨c, hc, ec⟩ := (inr_iff (by omega)).mp (inb_iff.mp q)
          have := y c hc ec
          rw [ec, cc_nI (by omega), if_neg (fun q2 => q2.1 this)]
        · rfl
      rw [e1, dRes_f (r := ((-1 : Int32), m)) (show (-1 : Int32) < 0 by decide)]
      decide
end
