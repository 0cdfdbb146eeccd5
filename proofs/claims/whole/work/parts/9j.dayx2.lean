/-! day(): the class's face -/
section
variable {G : rt_G} {d : Nat} {Q : rt_Q} {I : rt_I} {L : rt_L} {r B : Nat} {s : SV} {m m0 : MO} {us : List MO} {kp : Nat → Option MO} {mk : MKT} {row : List Int32} {tx : TXT}
theorem fX_day (h : XI s m us kp mk row tx I) (hk : sok s) (hm : mok s B m) (hB : B < 2 ^ 28) (hT : tok tx)
    (hQ : ∀ M, XI s (fDay s m us row tx).2.1 (fDay s m us row tx).2.2.1 kp mk (fDay s m us row tx).2.2.2 (0, tx.2) M → (∀ c, 108 ≤ c → M c = I c) → Q (fDay s m us row tx).1 M L r) : rt_Call G (d + 7) kX11_day [.ref 0] I L r Q := by
  obtain ⟨hn, hch⟩ := h.2.2.2.2.2.2
  have h80 := hT.1
  refine v_X11_day _ _ _ (sX7_open (m := 60) hn (by omega) (by omega) ?_)
  obtain ⟨l, hl⟩ : ∃ l, l = min tx.1 60 := ⟨_, rfl⟩
  rw [← hl]
  obtain ⟨A, hA⟩ : ∃ A, A = xp (rt_u I 1 3 (nI l)) 0 := ⟨_, rfl⟩
  rw [← hA]
  have hfA : Fr A I [1] := by rw [hA]; exact ((Fr.refl I _).u (by decide)).u (by decide)
  have eA1 : A 1 1 = nI tx.1 := by rw [hA]; exact hn
  have eA3 : A 1 3 = nI l := by rw [hA]; rfl
  have eA4 : A 1 2 = nI 0 := by rw [hA]; rfl
  obtain ⟨J, hJ⟩ : ∃ J, J = rt_u A 25 3 0 := ⟨_, rfl⟩
  have hJI : Fr J I [1, 25, 26, 27, 28] := by rw [hJ]; exact (hfA.mono (by decide)).u (by decide)
  have j1 : J 1 = A 1 := by rw [hJ, rt_u_ne (by decide)]
  have hcc : ch (J 2) l = txc tx 60 := by
    unfold txc
    rw [← hl, hJI 2 (by decide)]
    exact ch_agr hch (by omega)
  have hX0 : XA (fun _ => (0, 0, 0)) J J 0 0 := ⟨Fr.refl _ _, by rw [j1]; exact eA4, fun _ _ => rfl, by rw [hJ]; rfl, fun j hj => absurd hj (by omega)⟩
  have hrej : ∀ M' q, Fr M' J [1, 25, 26, 27, 28] → M' 1 2 = nI q → fDay s m us row tx = (-1 - nI q, m, us, row) → Q (-1 - M' 1 2) (rt_u M' 1 1 0) L r := by
    intro M' q hF hp e
    rw [e] at hQ
    rw [hp]
    have hF2 := (hF.trans hJI).u (c := 1) (j := 1) (v := 0) (by decide)
    exact hQ _ (h.dd hF2 rt_u_at) (hF2.hi (by decide))
  have run : ∀ (M' : rt_I) (k : Nat) (A' : Nat → T3), Fr M' I [1, 25, 26, 27, 28] → M' 25 3 = nI k → (∀ j, j < k → M' 26 j = (A' j).1 ∧ M' 27 j = (A' j).2.1 ∧ M' 28 j = (A' j).2.2) → (∀ j, j < k → tok3 (A' j)) → k < 60 → fDay s m us row tx = dOut m us k (dRun s A' k 0 m 0) →
      rt_Call G (d + 6) kX1_prepare [.ref 21, .ref 16] (rt_u M' 1 1 0) L r (fun v7 I7 L7 r7 => rt_Call G (d + 6) kX0_runOn [.ref 25, .ref 20] I7 L7 r7 (fun v8 I8 L8 r8 =>
       ((v8 ≤ 0 → rt_Call G (d + 6) kX5_clear [.ref 42] I8 L8 r8 (fun v9 I9 L9 r9 =>
          ((nI k ≤ v8 → rt_Call G (d + 6) kX5_add [.ref 42, .int 0] I9 L9 r9 (fun v10 I10 L10 r10 => rt_Call G (d + 6) kX5_add [.ref 42, .int (I10 25 4)] I10 L10 r10 (fun v11 I11 L11 r11 => Q v8 I11 L11 r11)))
           ∧ (¬ nI k ≤ v8 → rt_Call G (d + 6) kX5_add [.ref 42, .int 1] I9 L9 r9 (fun v12 I12 L12 r12 => rt_Call G (d + 6) kX5_add [.ref 42, .int (I12 25 4)] I12 L12 r12 (fun v13 I13 L13 r13 => Q v8 I13 L13 r13))))))
        ∧ (¬ v8 ≤ 0 → rt_Call G (d + 6) kX1_keepIfDone [.ref 21, .int 0] I8 L8 r8 (fun v14 I14 L14 r14 => rt_Call G (d + 6) kX5_clear [.ref 42] I14 L14 r14 (fun v15 I15 L15 r15 =>
           ((nI k ≤ v8 → rt_Call G (d + 6) kX5_add [.ref 42, .int 0] I15 L15 r15 (fun v16 I16 L16 r16 => rt_Call G (d + 6) kX5_add [.ref 42, .int (I16 25 4)] I16 L16 r16 (fun v17 I17 L17 r17 => Q v8 I17 L17 r17)))
            ∧ (¬ nI k ≤ v8 → rt_Call G (d + 6) kX5_add [.ref 42, .int 1] I15 L15 r15 (fun v18 I18 L18 r18 => rt_Call G (d + 6) kX5_add [.ref 42, .int (I18 25 4)] I18 L18 r18 (fun v19 I19 L19 r19 => Q v8 I19 L19 r19)))))))))) := by
    intro M' k A' hF h3 hT' hok hk60 he
    rw [he] at hQ
    unfold dOut at hQ
    dsimp only at hQ
    have hF2 := hF.u (c := 1) (j := 1) (v := 0) (by decide)
    have hN := h.dd hF2 rt_u_at
    have hc : ∀ c, c ≠ 1 → (rt_u M' 1 1 0) c = M' c := fun c hc => rt_u_ne hc
    refine fX_prep hN hk (fun M hP hM => v_X0_runOn _ _ _ ?_)
    have g25 : ∀ c, c = 25 ∨ c = 26 ∨ c = 27 ∨ c = 28 → M c = M' c := fun c hcc => (hM c (by omega)).trans (hc c (by omega))
    refine sX0_run (k := k) (A := A') hk60 hk hok k 0 m 0 B (rt_u M 25 4 0) (by omega) hP.d25 hm (by omega) ?_ rt_u_at (fun j hj => ?_) (fun M2 hX2 hD h25 => ?_)
    · rw [rt_u1 (by decide), g25 25 (by omega)]; exact h3
    · rw [rt_u_ne (by decide), rt_u_ne (by decide), rt_u_ne (by decide), g25 26 (by omega), g25 27 (by omega), g25 28 (by omega)]
      exact hT' j hj
    have hle := (dRun_le (s := s) (A := A') k 0 0 m).2
    have hhi : ∀ c, 108 ≤ c → M2 c = I c := fun c hc => by
      rw [hD.1.hi (by decide) c hc, rt_u_ne (by omega), hM c (by omega)]
      exact hF2.hi (by decide) c hc
    have hz := dRun_z (s := s) (A := A') (m := m) (F := k)
    generalize dRun s A' k 0 m 0 = R at *
    obtain ⟨i, m', cm⟩ := R
    dsimp only at *
    have fin : ∀ M3, XI s m' (if i = 0 then us else (m :: us).take 12) kp mk row (0, tx.2) M3 → M3 25 4 = nI cm → (∀ c, 108 ≤ c → M3 c = I c) → rt_Call G (d + 6) kX5_clear [.ref 42] M3 L r (fun v9 I9 L9 r9 =>
          ((nI k ≤ nI i → rt_Call G (d + 6) kX5_add [.ref 42, .int 0] I9 L9 r9 (fun v10 I10 L10 r10 => rt_Call G (d + 6) kX5_add [.ref 42, .int (I10 25 4)] I10 L10 r10 (fun v11 I11 L11 r11 => Q (nI i) I11 L11 r11)))
           ∧ (¬ nI k ≤ nI i → rt_Call G (d + 6) kX5_add [.ref 42, .int 1] I9 L9 r9 (fun v12 I12 L12 r12 => rt_Call G (d + 6) kX5_add [.ref 42, .int (I12 25 4)] I12 L12 r12 (fun v13 I13 L13 r13 => Q (nI i) I13 L13 r13))))) := by
      intro M3 h3 h25' hi3
      have two : ∀ M4 (b : Int32), Fr M4 M3 [42, 43] → XRw [] M4 → b = (if i < k then 1 else 0) → rt_Call G (d + 6) kX5_add [.ref 42, .int b] M4 L r (fun v10 I10 L10 r10 => rt_Call G (d + 6) kX5_add [.ref 42, .int (I10 25 4)] I10 L10 r10 (fun v11 I11 L11 r11 => Q (nI i) I11 L11 r11)) := by
        intro M4 b hF4 hR4 hb
        refine wX5_add hR4 (by simp) (fun M5 hF5 hR5 => ?_)
        rw [hF5 25 (by decide), hF4 25 (by decide), h25']
        refine wX5_add hR5 (by simp) (fun M6 hF6 hR6 => ?_)
        rw [hb] at hR6
        have hF6' := (hF6.trans hF5).trans hF4
        exact hQ M6 (h3.rw hF6' hR6) (fun c hc => (hF6'.hi (by decide) c hc).trans (hi3 c hc))
      refine wX5_clear (fun M4 hF4 hR4 => ⟨fun z => ?_, fun z => ?_⟩)
      · have := (nI_leI (by omega) (by omega)).mp z
        exact two M4 0 (hF4.mono (by decide)) hR4 (by rw [if_neg (by omega)])
      · have := mt (nI_leI (by omega) (by omega)).mpr z
        exact two M4 1 (hF4.mono (by decide)) hR4 (by rw [if_pos (by omega)])
    refine ⟨fun z => ?_, fun z => ?_⟩
    · have hi0 : i = 0 := by
        have := (n_le (a := i) (b := 0) rfl rfl (by omega) (by omega)).mp z
        omega
      refine fin M2 ?_ h25 hhi
      rw [if_pos hi0]
      exact hX2.H
    · have hi0 : ¬ i = 0 := fun e => z (by rw [e]; decide)
      refine fX_kept (by decide) hX2 (fun M3 h3 hM3 => fin M3 ?_ (by rw [hM3 25 (by omega)]; exact h25) (fun c hc => (hM3 c (by omega)).trans (hhi c hc)))
      rw [if_neg hi0]
      exact h3
  refine v_X0_readActs _ _ _ ⟨fun z => ?_, fun z => ?_⟩
  · have hn0 : ¬ tx.1 = 0 := fun e => z (by rw [eA1, e]; rfl)
    have hrd : dRd tx = actsF (txc tx 60) 61 0 0 (fun _ => (0, 0, 0)) := by unfold dRd; rw [if_neg hn0]
    rw [← hJ]
    refine sX0_acts (by rw [hcc]; exact c8_tx hT 60) (by rw [j1]; exact eA3) (by omega) 61 0 0 (fun _ => (0, 0, 0)) J hX0 (fun j hj => absurd hj (by omega)) (by omega) (by omega) (by omega) (fun M' q k A' he hX' hok hq hk60 => ⟨fun y => absurd y (n_neg (by omega)), fun _ => ?_⟩) (fun M' q he hF hp hq => ⟨fun _ => ?_, fun y => absurd (by decide) y⟩)
    · rw [hcc, ← hrd] at he
      have e11 : M' 1 1 = nI tx.1 := (hX'.2.2.1 1 (by decide)).trans (by rw [j1]; exact eA1)
      refine v_X7_isAllRead _ _ _ ⟨fun y => ⟨fun _ => sX7_clear ?_, fun w => absurd rfl w⟩, fun y => ⟨fun w => absurd w (by decide), fun _ => sX7_clear ?_⟩⟩
      · exact hrej M' q hX'.1 hX'.2.1 (fDay_g he (fun e => y (by rw [hX'.2.1, e11, e])))
      · have eq : q = tx.1 := by
          rw [hX'.2.1, e11] at y
          exact (nI_eq (by omega) (by omega)).mp y
        exact run M' k A' (hX'.1.trans hJI) hX'.2.2.2.1 hX'.2.2.2.2 hok hk60 (fDay_t he eq)
    · rw [hcc, ← hrd] at he
      exact sX7_clear (hrej M' q hF hp (fDay_f he))
  · have hn0 : tx.1 = 0 := by
      rw [eA1] at z
      exact (nI_eq (b := 0) (by omega) (by omega)).mp z
    have hrd : dRd tx = (0, some (0, fun _ => (0, 0, 0))) := by unfold dRd; rw [if_pos hn0]
    rw [← hJ]
    refine ⟨fun y => absurd y (by decide), fun _ => v_X7_isAllRead _ _ _ ⟨fun y => absurd (by rw [j1, eA4, eA1, hn0]) y, fun _ => ⟨fun y => absurd y (by decide), fun _ => sX7_clear ?_⟩⟩⟩
    exact run J 0 (fun _ => (0, 0, 0)) hJI hX0.2.2.2.1 (fun j hj => absurd hj (by omega)) (fun j hj => absurd hj (by omega)) (by omega) (fDay_t hrd hn0.symm)
end
