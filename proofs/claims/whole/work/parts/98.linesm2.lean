/-! flats(): the model's line and its lines -/
def MF (I J : rt_I) (n : Nat) : Prop := Fr J I [108, 116, 117] ∧ F8 J I [11, 14, 16, 17, 18, 19, 22, 23] ∧ J 108 11 = 0 ∧ J 108 14 = 0 ∧ J 108 16 = nI n
def MD (s : SV) (D : DFT) (I J : rt_I) (n : Nat) : Prop := MF I J n ∧ J 108 22 = nI (D.np - s.np) ∧ J 108 23 = nI (D.nr - s.nr) ∧ (∀ j, j < D.np - s.np → J 116 j = D.ph (s.np + j)) ∧
  ∀ j, j < D.nr - s.nr → J 117 (4 * j) = D.e (40 + 2 * (s.nr + j)) ∧ J 117 (4 * j + 1) = D.e (41 + 2 * (s.nr + j)) ∧ J 117 (4 * j + 2) = D.st (s.nr + j) ∧ J 117 (4 * j + 3) = D.rh (s.nr + j)
theorem MF.u {I J : rt_I} {n x j : Nat} {v : Int32} (h : MF I J n) (hx : x = 116 ∨ x = 117 ∨ (x = 108 ∧ (j = 22 ∨ j = 23))) : MF I (rt_u J x j v) n := by
  obtain ⟨h1, h2, h3, h4, h5⟩ := h
  have hn : ∀ i, i = 11 ∨ i = 14 ∨ i = 16 → (rt_u J x j v) 108 i = J 108 i := fun i hi => rt_u_n (by omega)
  refine ⟨h1.u (by simp only [List.mem_cons, List.not_mem_nil, or_false]; omega), h2.u (fun e => by simp only [List.mem_cons, List.not_mem_nil, or_false]; omega), ?_, ?_, ?_⟩
  · rw [hn 11 (by omega)]; exact h3
  · rw [hn 14 (by omega)]; exact h4
  · rw [hn 16 (by omega)]; exact h5
theorem n4 (b : Nat) : (4 : Int32) * nI b = nI (4 * b) := n_lm 4 b
section
variable {G : rt_G} {d : Nat} {Q : rt_Q} {I J : rt_I} {L : rt_L} {l p n : Nat} {w : Option Nat} {c : Nat → Int32} {s : SV} {m : MO} {D : DFT}
theorem sX12_readLine (hR : RB c l J) (hM : MD s D I J n) (hs1 : I 108 1 = nI s.np) (hs3 : I 108 3 = nI s.nr) (hk : dok s m D) (hp : p ≤ 80)
    (h1 : ∀ J' q D', lnF c p D = (q, some D') → MD s D' I J' n → RB c l J' → Q 0 (mp J' q none) L 114)
    (h0 : ∀ J' p' q, lnF c p D = (q, none) → MF I J' n → RB c l J' → p' < 900 → Q 0 (mp J' p' (some q)) L 114) : rt_Call G (d + 6) kX12_readLine [.ref 108] (mp J p none) L 114 Q := by
  obtain ⟨hF, J22, J23, hP, hW⟩ := id hM
  obtain ⟨k1, k2, k3, k4, k5⟩ := id hk
  have J1 : J 108 1 = nI s.np := (hF.2.1 1 (by decide)).trans hs1
  have J3 : J 108 3 = nI s.nr := (hF.2.1 3 (by decide)).trans hs3
  have eN : (mp J p none) 108 1 + (mp J p none) 108 22 = nI D.np := by
    show J 108 1 + J 108 22 = _
    rw [J1, J22, nI_add]
    exact congrArg nI (by omega)
  have eR : (mp J p none) 108 3 + (mp J p none) 108 23 = nI D.nr := by
    show J 108 3 + J 108 23 = _
    rw [J3, J23, nI_add]
    exact congrArg nI (by omega)
  have eS : rt_u (mp J p none) 108 18 ((mp J p none) 108 18 + 1) = mp J (p + 1) none := by rw [show (mp J p none) 108 18 = nI p from rfl, nI_1, mp_18]
  have e22 : ∀ p' w', (mp J p' w') 108 22 = nI (D.np - s.np) := fun _ _ => J22
  have e23 : ∀ p' w', (mp J p' w') 108 23 = nI (D.nr - s.nr) := fun _ _ => J23
  refine v_X12_readLine _ _ _ (b_here hR (by omega) ⟨fun y => b_here hR (by omega) ⟨fun y2 => ?_, fun y2 => ⟨fun z => ?_, fun z => ?_⟩⟩, fun y => ⟨fun z => b_here hR (by omega) ⟨fun _ => ?_, fun y2 => absurd (y.symm.trans y2) (by decide)⟩, fun z => ?_⟩⟩)
  · exact sX12_fault (q := p) wokn (h0 J p p (by unfold lnF; rw [if_neg y, if_pos (fun x => y2 x.2)]) hF hR (by omega))
  · have z2 := (n_le (a := 12) (b := D.nr) rfl eR (by omega) (by omega)).mp z
    exact sX12_fault (q := p) wokn (h0 J p p (by unfold lnF; rw [if_neg y, if_pos (fun x => x.1 z2)]) hF hR (by omega))
  · have z2 := mt (n_le (a := 12) (b := D.nr) rfl eR (by omega) (by omega)).mpr z
    rw [eS]
    obtain ⟨r1, q1⟩ : ∃ r1, r1 = ofR c D.np (-1) (p + 1) none := ⟨_, rfl⟩
    have ok1 := ofR_ok (c := c) (k := D.np) (p := p + 1) (b := -1) wokn (by omega)
    rw [← q1] at ok1
    refine b_oneOf hR k2 eN (by omega) wokn ?_
    rw [← q1]
    simp (disch := omega) only [e23, n4, na1, na2, na3, vpT, clT, true_and, rt_u_at]
    rw [mp_u _ _ 117 _ _ _ (Or.inl (by decide))]
    have hR1 : RB c l (rt_u J 117 (4 * (D.nr - s.nr)) r1.1) := hR.u (by decide) (Or.inl (by decide))
    obtain ⟨r2, q2⟩ : ∃ r2, r2 = ofR c D.np r1.1 r1.2.1 r1.2.2 := ⟨_, rfl⟩
    have ok2 := ofR_ok (c := c) (k := D.np) (p := r1.2.1) (b := r1.1) ok1.1 (by omega)
    rw [← q2] at ok2
    refine b_oneOf hR1 k2 eN (by omega) ok1.1 ?_
    rw [← q2, mp_u _ _ 117 _ _ _ (Or.inl (by decide))]
    have hR2 := hR1.u (x := 117) (j := 4 * (D.nr - s.nr) + 1) (v := r2.1) (by decide) (Or.inl (by decide))
    obtain ⟨r3, q3⟩ : ∃ r3, r3 = dfR c 1 r2.2.1 r2.2.2 := ⟨_, rfl⟩
    have ok3 := dfR_ok (c := c) (k := 1) (p := r2.2.1) ok2.1 (by omega)
    rw [← q3] at ok3
    refine b_digit (k := 1) hR2 (by omega) rfl (by omega) ok2.1 ?_
    rw [← q3, mp_u _ _ 117 _ _ _ (Or.inl (by decide))]
    have hR3 := hR2.u (x := 117) (j := 4 * (D.nr - s.nr) + 2) (v := r3.1) (by decide) (Or.inl (by decide))
    obtain ⟨r4, q4⟩ : ∃ r4, r4 = neR c 45 r3.2.1 r3.2.2 := ⟨_, rfl⟩
    have ok4 := neR_ok (c := c) (x := 45) (p := r3.2.1) ok3.1 (by omega)
    rw [← q4] at ok4
    refine b_need hR3 (by omega) ok3.1 ?_
    rw [← q4]
    obtain ⟨r5, q5⟩ : ∃ r5, r5 = nmR c 2 r4.1 r4.2 := ⟨_, rfl⟩
    have ok5 := nmR_le (c := c) (k := 2) (p := r4.1) (w := r4.2)
    rw [← q5] at ok5
    refine b_number (k := 2) hR3 (by omega) rfl (by omega) ok4.1 ?_
    rw [← q5]
    have hR4 := hR3.u (x := 117) (j := 4 * (D.nr - s.nr) + 3) (v := r5.1) (by decide) (Or.inl (by decide))
    obtain ⟨J4, hJ4⟩ : ∃ J4, J4 = rt_u (rt_u (rt_u (rt_u J 117 (4 * (D.nr - s.nr)) r1.1) 117 (4 * (D.nr - s.nr) + 1) r2.1) 117 (4 * (D.nr - s.nr) + 2) r3.1) 117 (4 * (D.nr - s.nr) + 3) r5.1 := ⟨_, rfl⟩
    have f23 : ∀ p' w', (mp (rt_u (rt_u (rt_u J 117 (4 * (D.nr - s.nr)) r1.1) 117 (4 * (D.nr - s.nr) + 1) r2.1) 117 (4 * (D.nr - s.nr) + 2) r3.1) p' w') 108 23 = nI (D.nr - s.nr) := fun _ _ => J23
    rw [f23, mp_u _ _ 117 _ _ _ (Or.inl (by decide)), mp_u _ _ 108 23 _ _ (Or.inr ⟨by decide, by decide⟩), nI_1, ← hJ4]
    rw [← hJ4] at hR4
    have hF4 : MF I J4 n := by rw [hJ4]; exact (((hF.u (Or.inr (Or.inl rfl))).u (Or.inr (Or.inl rfl))).u (Or.inr (Or.inl rfl))).u (Or.inr (Or.inl rfl))
    have hF5 : MF I (rt_u J4 108 23 (nI (D.nr - s.nr + 1))) n := hF4.u (Or.inr (Or.inr ⟨rfl, Or.inr rfl⟩))
    have hR5 : RB c l (rt_u J4 108 23 (nI (D.nr - s.nr + 1))) := hR4.u (by decide) (Or.inr ⟨by decide, by decide⟩)
    rcases road_pure (hR.2.2.2) k2 y ⟨z2, y2⟩ q1 q2 q3 q4 q5 with ⟨q, a1, a2⟩ | ⟨a1, a2⟩
    · rw [a2]
      exact h0 _ _ q a1 hF5 hR5 (by omega)
    · rw [a2]
      refine h1 _ _ _ a1 ⟨hF5, ?_, ?_, ?_, ?_⟩ hR5
      · rw [rt_u1 (by decide), hJ4, rt_u2 (by decide), rt_u2 (by decide), rt_u2 (by decide), rt_u2 (by decide)]; exact J22
      · rw [rt_u_at]
        show nI _ = nI (D.nr + 1 - s.nr)
        exact congrArg nI (by omega)
      · intro j hj
        rw [rt_u2 (by decide), hJ4, rt_u2 (by decide), rt_u2 (by decide), rt_u2 (by decide), rt_u2 (by decide)]
        exact hP j hj
      · intro j hj
        have hj2 : j < D.nr + 1 - s.nr := hj
        have e117 : ∀ i, (rt_u J4 108 23 (nI (D.nr - s.nr + 1))) 117 i = J4 117 i := fun i => rt_u2 (by decide)
        rw [e117, e117, e117, e117, hJ4]
        show _ = upd (upd D.e _ _) _ _ _ ∧ _ = upd (upd D.e _ _) _ _ _ ∧ _ = upd D.st _ _ _ ∧ _ = upd D.rh _ _ _
        by_cases e : j = D.nr - s.nr
        · have e' : s.nr + j = D.nr := by omega
          rw [e']
          subst e
          refine ⟨?_, ?_, ?_, ?_⟩
          · rw [rt_u1 (by omega), rt_u1 (by omega), rt_u1 (by omega), rt_u_at, upd1 (by omega), upd0]
          · rw [rt_u1 (by omega), rt_u1 (by omega), rt_u_at, upd0]
          · rw [rt_u1 (by omega), rt_u_at, upd0]
          · rw [rt_u_at, upd0]
        · obtain ⟨w1, w2, w3, w4⟩ := hW j (by omega)
          refine ⟨?_, ?_, ?_, ?_⟩
          · rw [rt_u1 (by omega), rt_u1 (by omega), rt_u1 (by omega), rt_u1 (by omega), upd1 (by omega), upd1 (by omega)]; exact w1
          · rw [rt_u1 (by omega), rt_u1 (by omega), rt_u1 (by omega), rt_u1 (by omega), upd1 (by omega), upd1 (by omega)]; exact w2
          · rw [rt_u1 (by omega), rt_u1 (by omega), rt_u1 (by omega), rt_u1 (by omega), upd1 (by omega)]; exact w3
          · rw [rt_u1 (by omega), rt_u1 (by omega), rt_u1 (by omega), rt_u1 (by omega), upd1 (by omega)]; exact w4
  · have z2 := (n_le (a := 8) (b := D.np) rfl eN (by omega) (by omega)).mp z
    exact sX12_fault (q := p) wokn (h0 J p p (by unfold lnF; rw [if_pos y, if_pos z2]) hF hR (by omega))
  · have z2 := mt (n_le (a := 8) (b := D.np) rfl eN (by omega) (by omega)).mpr z
    rw [eS]
    refine b_number (k := 2) hR (by omega) rfl (by omega) wokn ?_
    have hle := nmR_le (c := c) (k := 2) (p := p + 1) (w := none)
    simp (disch := omega) only [e22, na1, vpT, clT, true_and]
    rw [mp_u _ _ 116 _ _ _ (Or.inl (by decide)), mp_u _ _ 108 22 _ _ (Or.inr ⟨by decide, by decide⟩)]
    have hF2 : ∀ v, MF I (rt_u (rt_u J 116 (D.np - s.np) v) 108 22 (nI (D.np - s.np + 1))) n := fun v => (hF.u (Or.inl rfl)).u (Or.inr (Or.inr ⟨rfl, Or.inl rfl⟩))
    have hR2 : ∀ v, RB c l (rt_u (rt_u J 116 (D.np - s.np) v) 108 22 (nI (D.np - s.np + 1))) := fun v => (hR.u (by decide) (Or.inl (by decide))).u (by decide) (Or.inr ⟨by decide, by decide⟩)
    by_cases z3 : dg (c (p + 1)) = true
    · rw [nmR_t z3]
      refine h1 _ _ _ (by unfold lnF; rw [if_pos y, if_neg z2, if_pos z3]) ⟨hF2 _, ?_, ?_, fun j hj => ?_, fun j hj => ?_⟩ (hR2 _)
      · rw [rt_u_at]
        show nI _ = nI (D.np + 1 - s.np)
        exact congrArg nI (by omega)
      · rw [rt_u1 (by decide), rt_u2 (by decide)]; exact J23
      · have hj2 : j < D.np + 1 - s.np := hj
        show _ = upd D.ph _ _ _
        rw [rt_u2 (by decide)]
        by_cases e : j = D.np - s.np
        · have e' : s.np + j = D.np := by omega
          rw [e']
          subst e
          rw [rt_u_at, upd0]
        · rw [rt_u1 (by omega), upd1 (by omega)]
          exact hP j (by omega)
      · rw [rt_u_ne (by decide), rt_u_ne (by decide)]
        exact hW j hj
    · rw [nmR_f z3]
      exact h0 _ _ (p + 1) (by unfold lnF; rw [if_pos y, if_neg z2, if_neg z3]) (hF2 _) (hR2 _) (by show p + 1 < 900; omega)
end
