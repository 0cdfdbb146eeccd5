/-! day(): the model reads and acts -/
def MFd (I J : rt_I) (n : Nat) : Prop := Fr J I [108, 124] ∧ F8 J I [11, 14, 16, 17, 18, 19] ∧ J 108 11 = 0 ∧ J 108 14 = 0 ∧ J 108 16 = nI n
theorem MFd.w {I J : rt_I} {n j : Nat} {v : Int32} (h : MFd I J n) : MFd I (rt_u J 124 j v) n :=
  ⟨h.1.u (by decide), h.2.1.u (fun z => absurd z (by decide)), h.2.2.1, h.2.2.2.1, h.2.2.2.2⟩
def a3k (A : T3) (f : Nat → Int32) (i : Nat) : Prop := f (3 * i) = A.1 ∧ f (3 * i + 1) = A.2.1 ∧ (A.1 = 111 ∨ A.1 = 108 → f (3 * i + 2) = A.2.2)
def MDd (A : Nat → T3) (I J : rt_I) (n i : Nat) : Prop := MFd I J n ∧ ∀ j, j < i → a3k (A j) (J 124) j
theorem nmR_ok2 {c : Nat → Int32} {p : Nat} {w : Option Nat} (hw : wok w) (hp : p < 900) : wok (nmR c 2 p w).2.2 ∧ (nmR c 2 p w).2.1 ≤ p + 2 := ⟨nmR_ok hw (by omega), nmR_le.2⟩
section
variable {G : rt_G} {d : Nat} {Q : rt_Q} {I J : rt_I} {L : rt_L} {l p n i : Nat} {c : Nat → Int32} {A : Nat → T3}
theorem MDd.step {t : T3} {J' : rt_I} (h : MDd A I J n i) (hM : MFd I J' n) (hlo : ∀ j, j < 3 * i → J' 124 j = J 124 j) (ht : a3k t (J' 124) i) : MDd (updT A i t) I J' n (i + 1) := by
  refine ⟨hM, fun j hj => ?_⟩
  by_cases e : j = i
  · subst e; rw [updT_0]; exact ht
  · rw [updT_1 e]
    obtain ⟨a1, a2, a3⟩ := h.2 j (by omega)
    refine ⟨?_, ?_, fun x => ?_⟩
    · rw [hlo _ (by omega)]; exact a1
    · rw [hlo _ (by omega)]; exact a2
    · rw [hlo _ (by omega)]; exact a3 x
theorem dgl0 {x : Int32} : dgl x 0 = true ↔ dg x = true := by rw [dgl_0]
theorem sX12_readAct {x : Int32} (hR : RB c l J) (hM : MDd A I J n i) (hi : i < 60) (hx : x = nI (3 * i)) (hp : p ≤ 80)
    (h1 : ∀ J' q t, actF c p = (q, some t) → MDd (updT A i t) I J' n (i + 1) → RB c l J' → Q 0 (mp J' q none) L 114)
    (h0 : ∀ J' p' q, actF c p = (q, none) → MFd I J' n → RB c l J' → p' < 900 → Q 0 (mp J' p' (some q)) L 114) : rt_Call G (d + 6) kX12_readAct [.ref 108, .int x] (mp J p none) L 114 Q := by
  subst hx
  have eS : ∀ w v, rt_u (rt_u (mp J p w) 108 18 ((mp J p w) 108 18 + 1)) 124 (3 * i) v = mp (rt_u J 124 (3 * i) v) (p + 1) w := fun w v => by
    rw [show (mp J p w) 108 18 = nI p from rfl, nI_1, mp_18, mp_u _ _ 124 _ _ _ (Or.inl (by decide))]
  have hM1 : ∀ v, MFd I (rt_u J 124 (3 * i) v) n := fun v => hM.1.w
  have hR1 : ∀ v, RB c l (rt_u J 124 (3 * i) v) := fun v => hR.u (by decide) (Or.inl (by decide))
  have good : kob (c p) = true → rt_AW G (d + 6) kX12_readAct Q 43 [some (.ref 108), some (.int (nI (3 * i))), some (.int (c p))] [] (mp J p none) L 114 := by
    intro hk
    refine v_X12_readAct_43 _ _ _ _ _ ?_
    simp (disch := omega) only [vpT, clT, true_and, na1, na2]
    rw [eS]
    refine ⟨fun z => ?_, fun z => ?_⟩
    · refine b_digit (k := 0) (hR1 _) (by omega) rfl (by omega) wokn ?_
      have ok1 := dfR_ok (c := c) (k := 0) (p := p + 1) wokn (by omega)
      rw [mp_u _ _ 124 _ _ _ (Or.inl (by decide))]
      by_cases y1 : dg (c (p + 1)) = true
      · rw [dfR_t (dgl0.mpr y1)]
        dsimp only
        have hR2 := (hR1 (c p)).u (x := 124) (j := 3 * i + 1) (v := c (p + 1) - 48) (by decide) (Or.inl (by decide))
        refine ⟨fun z2 => ⟨fun z3 => ?_, fun z3 => ?_⟩, fun z2 => ?_⟩
        · refine h1 _ _ _ (actF_s hk y1 z z2 z3) (hM.step (hM1 _).w (fun j hj => ?_) ⟨?_, ?_, fun x => ?_⟩) hR2
          · rw [rt_u1 (by omega), rt_u1 (by omega)]
          · rw [rt_u1 (by omega), rt_u_at]
          · rw [rt_u_at]
          · rcases x with e | e
            · exact absurd e z2
            · exact absurd e z3
        · refine b_digit (k := 0) hR2 (by omega) rfl (by omega) wokn ?_
          rw [mp_u _ _ 124 _ _ _ (Or.inl (by decide))]
          by_cases y2 : dg (c (p + 2)) = true
          · rw [dfR_t (dgl0.mpr y2)]
            refine h1 _ _ _ (actF_l y1 z3 y2) (hM.step (hM1 _).w.w (fun j hj => ?_) ⟨?_, ?_, fun x => ?_⟩) (hR2.u (by decide) (Or.inl (by decide)))
            · rw [rt_u1 (by omega), rt_u1 (by omega), rt_u1 (by omega)]
            · rw [rt_u1 (by omega), rt_u1 (by omega), rt_u_at]
            · rw [rt_u1 (by omega), rt_u_at]
            · rw [rt_u_at]
          · rw [dfR_f (mt dgl0.mp y2)]
            exact h0 _ _ (p + 2) (actF_lf y1 z3 y2) (hM1 _).w.w (hR2.u (by decide) (Or.inl (by decide))) (by show p + 1 + 1 < 900; omega)
        · refine b_number (k := 2) hR2 (by omega) rfl (by omega) wokn ?_
          rw [mp_u _ _ 124 _ _ _ (Or.inl (by decide))]
          by_cases y2 : dg (c (p + 2)) = true
          · rw [nmR_t (show dg (c (p + 1 + 1)) = true from y2)]
            refine ⟨fun _ => h1 _ _ _ (actF_o y1 z2 y2) (hM.step (hM1 _).w.w (fun j hj => ?_) ⟨?_, ?_, fun x => ?_⟩) (hR2.u (by decide) (Or.inl (by decide))), fun z3 => absurd (z2.symm.trans z3) (by decide)⟩
            · rw [rt_u1 (by omega), rt_u1 (by omega), rt_u1 (by omega)]
            · rw [rt_u1 (by omega), rt_u1 (by omega), rt_u_at]
            · rw [rt_u1 (by omega), rt_u_at]
            · rw [rt_u_at]
          · rw [nmR_f (show ¬ dg (c (p + 1 + 1)) = true from y2)]
            exact ⟨fun _ => h0 _ _ (p + 2) (actF_of y1 z2 y2) (hM1 _).w.w (hR2.u (by decide) (Or.inl (by decide))) (by show p + 1 + 1 < 900; omega), fun z3 => absurd (z2.symm.trans z3) (by decide)⟩
      · rw [dfR_f (mt dgl0.mp y1)]
        dsimp only
        have hR2 := (hR1 (c p)).u (x := 124) (j := 3 * i + 1) (v := nI 0) (by decide) (Or.inl (by decide))
        have hwq : wok (some (p + 1)) := fun x e => by cases e; omega
        refine ⟨fun z2 => ⟨fun z3 => ?_, fun z3 => ?_⟩, fun z2 => ?_⟩
        · exact h0 _ _ (p + 1) (actF_d hk y1) (hM1 _).w hR2 (by omega)
        · refine b_digit (k := 0) hR2 (by omega) rfl (by omega) hwq ?_
          rw [mp_u _ _ 124 _ _ _ (Or.inl (by decide)), dfR_q]
          exact h0 _ _ (p + 1) (actF_d hk y1) (hM1 _).w.w (hR2.u (by decide) (Or.inl (by decide))) (by show p + 1 < 900; omega)
        · refine b_number (k := 2) hR2 (by omega) rfl (by omega) hwq ?_
          rw [mp_u _ _ 124 _ _ _ (Or.inl (by decide)), nmR_q]
          exact ⟨fun _ => h0 _ _ (p + 1) (actF_d hk y1) (hM1 _).w.w (hR2.u (by decide) (Or.inl (by decide))) (by show p + 1 < 900; omega), fun z3 => absurd (z2.symm.trans z3) (by decide)⟩
    · refine b_number (k := 2) (hR1 _) (by omega) rfl (by omega) wokn ?_
      rw [mp_u _ _ 124 _ _ _ (Or.inl (by decide))]
      have hR2 : ∀ v, RB c l (rt_u (rt_u J 124 (3 * i) (c p)) 124 (3 * i + 1) v) := fun v => (hR1 (c p)).u (by decide) (Or.inl (by decide))
      by_cases y1 : dg (c (p + 1)) = true
      · rw [nmR_t y1]
        refine ⟨fun z2 => ⟨fun z3 => h1 _ _ _ (actF_t y1 z) (hM.step (hM1 _).w (fun j hj => ?_) ⟨?_, ?_, fun x => ?_⟩) (hR2 _), fun z3 => absurd (z.symm.trans z3) (by decide)⟩, fun z2 => absurd (z.symm.trans z2) (by decide)⟩
        · rw [rt_u1 (by omega), rt_u1 (by omega)]
        · rw [rt_u1 (by omega), rt_u_at]
        · rw [rt_u_at]
        · rcases x with e | e
          · exact absurd e z2
          · exact absurd e z3
      · rw [nmR_f y1]
        exact ⟨fun z2 => ⟨fun z3 => h0 _ _ (p + 1) (actF_d hk y1) (hM1 _).w (hR2 _) (by show p + 1 < 900; omega), fun z3 => absurd (z.symm.trans z3) (by decide)⟩, fun z2 => absurd (z.symm.trans z2) (by decide)⟩
  have bad : ¬ kok (c p) → rt_AW G (d + 6) kX12_readAct Q 43 [some (.ref 108), some (.int (nI (3 * i))), some (.int (c p))] [] (mp J p (some p)) L 114 := by
    intro hk
    have hwq : wok (some p) := fun x e => by cases e; omega
    refine v_X12_readAct_43 _ _ _ _ _ ?_
    simp (disch := omega) only [vpT, clT, true_and, na1, na2]
    rw [eS]
    refine ⟨fun z => ?_, fun z => absurd (Or.inr (Or.inl z)) hk⟩
    refine b_digit (k := 0) (hR1 _) (by omega) rfl (by omega) hwq ?_
    rw [mp_u _ _ 124 _ _ _ (Or.inl (by decide)), dfR_q]
    exact ⟨fun z2 => ⟨fun z3 => h0 _ _ p (actF_k (fun y => hk (kob_iff.mp y))) (hM1 _).w ((hR1 _).u (by decide) (Or.inl (by decide))) (by show p + 1 < 900; omega), fun z3 => absurd (Or.inr (Or.inr (Or.inr (Or.inr z3)))) hk⟩, fun z2 => absurd (Or.inl z2) hk⟩
  refine v_X12_readAct _ _ _ _ (b_here hR (by omega) ?_)
  refine ⟨fun z => good (kob_iff.mpr (Or.inl z)), fun z1 => ⟨fun z => good (kob_iff.mpr (Or.inr (Or.inl z))), fun z2 => ⟨fun z => good (kob_iff.mpr (Or.inr (Or.inr (Or.inl z)))), fun z3 => ⟨fun z => good (kob_iff.mpr (Or.inr (Or.inr (Or.inr (Or.inl z))))), fun z4 => ⟨fun z => good (kob_iff.mpr (Or.inr (Or.inr (Or.inr (Or.inr z))))), fun z5 => ?_⟩⟩⟩⟩⟩
  refine sX12_fault (q := p) wokn (bad (fun y => ?_))
  rcases y with e | e | e | e | e
  · exact z1 e
  · exact z2 e
  · exact z3 e
  · exact z4 e
  · exact z5 e
end
