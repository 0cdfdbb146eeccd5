/-! THE FACE: the class's storm years -/
section
variable {G : rt_G} {d : Nat} {Q : rt_Q} {I : rt_I} {L : rt_L} {r B mg : Nat} {s : SV} {m : MO} {us : List MO} {kp : Nat → Option MO} {mk : MKT} {row : List Int32} {tx : TXT}
def YX (s : SV) (m : MO) (st : MO × Int32 × Nat × Nat) (M : rt_I) : Prop := XMo s st.1 M 16 ∧ M 20 11 = st.2.1 ∧ M 20 9 = nI (cb (wrb m st.1) s.nc) ∧ M 20 10 = nI st.2.2.2
theorem wX9_stormYears {n : Nat} {x1 x2 : Int32} (hS : XZ s I) (hk : sok s) (hM : XMo s m I 16) (hm : mok s B m) (hB : B < 2 ^ 28) (hn : n ≤ 40) (h2 : x2 = nI n) (hp2 : 2 ≤ s.np) (hr0 : 0 < s.nr)
    (hQ : ∀ M, CF M I → YX s m (yrs s n (m, x1, 0, 0)) M → Q (nI (yrs s n (m, x1, 0, 0)).2.2.1) M L r) : rt_Call G (d + 5) kX9_stormYears [.ref 20, .int x1, .int x2] I L r Q := by
  have h5 := hk.2.2.1
  have h12 := hk.2.1
  have h8 := hk.1
  subst h2
  have w0 : cb (wrb m m) s.nc = 0 := by
    have e : cb (wrb m m) s.nc = cb (fun _ => false) s.nc := cb_congr (fun k _ => decide_eq_false (fun a => a.1 a.2))
    rw [e]
    exact Nat.le_zero.mp (by
      have : ∀ n, cb (fun _ => false) n = 0 := fun n => by
        induction n with
        | zero => rfl
        | succ n ih => rw [cb_s, ih]; rfl
      rw [this]; exact Nat.le_refl _)
  have hF0 : Fr (rt_u (rt_u (rt_u I 20 11 x1) 20 9 0) 20 10 0) I [20] := (((Fr.refl _ _).u (by decide)).u (by decide)).u (by decide)
  refine v_X9_stormYears _ _ _ _ _ (rt_loop (P := fun i => ∀ M, CF M I → YX s m (yrs s i (m, x1, 0, 0)) M → rt_AW G (d + 5) kX9_stormYears Q 20 [some (.ref 20), none, some (.int (nI n)), some (.int (nI (yrs s i (m, x1, 0, 0)).2.2.1)), some (.int (nI i)), none, none, none] [] M L r) n ?_ ?_ _ ⟨hF0.mono (by decide), by rw [hF0 16 (by decide)], by rw [rt_u1 (by decide), rt_u1 (by decide), rt_u1 (by decide)]⟩ ⟨hM.fr (by rw [hF0 16 (by decide)]) (hF0 17 (by decide)) (hF0 18 (by decide)) (hF0 19 (by decide)), ?_, ?_, ?_⟩)
  · intro M hC hY
    exact v_X9_stormYears_20 _ _ _ _ _ _ ⟨fun _ => hQ M hC hY, fun z => absurd (Int32.le_refl _) z⟩
  · intro i hi ih M hC hY
    have hms := yrs_ok (x := x1) hk hm i
    have h7 : ∀ c, c < s.nc → m (c * 8 + 7) = 1 → (yrs s i (m, x1, 0, 0)).1 (c * 8 + 7) = 1 := fun c hc h => yrs_7 hk hc h i
    rw [yrs_s] at ih
    generalize yrs s i (m, x1, 0, 0) = st at *
    obtain ⟨y1, y2, y3, y4⟩ := hY
    have hSM := hC.S hS
    refine v_X9_stormYears_20 _ _ _ _ _ _ ⟨fun z => absurd ((n_le (a := n) (b := i) rfl rfl (by omega) (by omega)).mp z) (by omega), fun _ => ?_⟩
    refine sX9_draw hSM.2.1 hr0 (by omega) y2 (sX9_draw (k := s.np) (v := nd st.2.1) ((by rw [rt_u_ne (by decide)]; exact hSM.1)) (by omega) (by omega) rt_u_at (sX9_draw (k := s.np) (v := nd (nd st.2.1)) ((by rw [rt_u_ne (by decide), rt_u_ne (by decide)]; exact hSM.1)) (by omega) (by omega) rt_u_at ?_))
    obtain ⟨M3, e3⟩ : ∃ M3, M3 = rt_u (rt_u (rt_u M 20 11 (nd st.2.1)) 20 11 (nd (nd st.2.1))) 20 11 (nd (nd (nd st.2.1))) := ⟨_, rfl⟩
    have f3 : Fr M3 M [20] := by rw [e3]; exact (((Fr.refl _ _).u (by decide)).u (by decide)).u (by decide)
    have g3 : ∀ j, j ≠ 11 → M3 20 j = M 20 j := fun j hj => by rw [e3, rt_u1 hj, rt_u1 hj, rt_u1 hj]
    have d3 : M3 20 11 = nd (nd (nd st.2.1)) := by rw [e3]; exact rt_u_at
    rw [← e3]
    clear e3
    have hw : dv (nd st.2.1) s.nr < s.nr := (dv_ex hr0 (by omega)).1
    have hp := (dv_ex (x := nd (nd st.2.1)) (k := s.np) (by omega) (by omega)).1
    have hq := (dv_ex (x := nd (nd (nd st.2.1))) (k := s.np) (by omega) (by omega)).1
    obtain ⟨q1, q2, q3⟩ := yq_lt (x := st.2.1) hp2 h8
    have eq0 : yq s st.2.1 = if dv (nd (nd (nd st.2.1))) s.np = yp s st.2.1 then (yp s st.2.1 + 1) % s.np else dv (nd (nd (nd st.2.1))) s.np := rfl
    have ep0 : dv (nd (nd st.2.1)) s.np = yp s st.2.1 := rfl
    have ew0 : dv (nd st.2.1) s.nr = yw s st.2.1 := rfl
    have hym := ym_e (m := st.1) (x := st.2.1) hk hp2 hr0
    have hym7 : ∀ c, c < s.nc → st.1 (c * 8 + 7) = 1 → ym s st.1 st.2.1 (c * 8 + 7) = 1 := fun c hc h => (ym_7 (by omega)).trans h
    have hymk := ym_ok hk hms st.2.1
    have hyn := yn_lt st.2.1
    have en0 : dv (nd (nd (nd (nd st.2.1)))) 12 = yn st.2.1 := rfl
    rw [ew0] at hw ⊢
    rw [ep0] at hp ⊢
    have C3 : CF M3 I := ⟨(f3.mono (by decide)).trans hC.1, by rw [f3 16 (by decide)]; exact hC.2.1, (g3 4 (by decide)).trans hC.2.2⟩
    have X3 : XMo s st.1 M3 16 := y1.fr (by rw [f3 16 (by decide)]) (f3 17 (by decide)) (f3 18 (by decide)) (f3 19 (by decide))
    -- draw, go, count: from a moment m1 with fl refused
    have tail : ∀ M4 fl, CF M4 I → XMo s (ym s st.1 st.2.1) M4 16 → M4 20 11 = nd (nd (nd st.2.1)) → M4 20 9 = nI (cb (wrb m st.1) s.nc) → M4 20 10 = nI fl → fl = (yr1 s st).2.2.2 → rt_Call G (d + 4) kX9_draw [.ref 20, .int 12] M4 L r (fun v5 I5 L5 r5 => rt_Call G (d + 4) kX9_goBy [.ref 20, .int v5] I5 L5 r5 (fun v6 I6 L6 r6 => rt_Call G (d + 4) kJ6_bitCount_0f7a4 [.int (I6 20 6)] I6 L6 r6 (fun v7 I7 L7 r7 => rt_AW G (d + 5) kX9_stormYears Q 20 [some (.ref 20), none, some (.int (nI n)), some (.int (nI st.2.2.1 + v6)), some (.int (nI i + 1)), none, none, none] [] (rt_u I7 20 9 ((I6 20 9) + v7)) L7 r7))) := by
      intro M4 fl hC4 hX4 d4 e9 e10 hfl
      refine sX9_draw (k := 12) rfl (by omega) (by omega) d4 ?_
      rw [en0]
      have hX5 : XMo s (ym s st.1 st.2.1) (rt_u M4 20 11 (nd (nd (nd (nd st.2.1))))) 16 := hX4.fr (by rw [rt_u_ne (by decide)]) (rt_u_ne (by decide)) (rt_u_ne (by decide)) (rt_u_ne (by decide))
      have C5 : CF (rt_u M4 20 11 (nd (nd (nd (nd st.2.1))))) I := ⟨hC4.1.u (by decide), (rt_u2 (by decide)).trans hC4.2.1, (rt_u1 (by decide)).trans hC4.2.2⟩
      have e1 : (yr1 s st).1 = tns s (ym s st.1 st.2.1) (yn st.2.1) := rfl
      have e2 : (yr1 s st).2.1 = nd (nd (nd (nd st.2.1))) := rfl
      have e3 : (yr1 s st).2.2.1 = st.2.2.1 + aN s (ym s st.1 st.2.1) (yn st.2.1) := rfl
      have sum1 := wrb_cb (m := m) (m1 := st.1) (m2 := ym s st.1 st.2.1) (n := s.nc) h7 hym7
      have z1 : cb (wrb st.1 (ym s st.1 st.2.1)) s.nc = 0 := by
        have e : cb (wrb st.1 (ym s st.1 st.2.1)) s.nc = cb (wrb m m) s.nc := cb_congr (fun k hk2 => by
          unfold wrb
          rw [ym_7 (by omega)]
          exact (decide_eq_false (fun a => a.1 a.2)).trans (decide_eq_false (fun a => a.1 a.2)).symm)
        rw [e, w0]
      have sum2 := wrb_cb (m := m) (m1 := ym s st.1 st.2.1) (m2 := tns s (ym s st.1 st.2.1) (yn st.2.1)) (n := s.nc) (fun c hc h => hym7 c hc (h7 c hc h)) (fun c hc h => tns_wr hk hc _ h)
      refine wX9_goBy (C5.S hS) hk hX5 hymk (by
        clear eq0 ep0 ew0 en0 sum1 sum2 z1 e1 e2 e3 hp hq hw q1 q2 q3
        generalize yn st.2.1 = k at *
        omega) rfl (fun M6 g6 x6 c6 w6 => ?_)
      rw [w6, aW_wr hk]
      refine sJ6_bitCount (b := wrb (ym s st.1 st.2.1) (tns s (ym s st.1 st.2.1) (yn st.2.1))) (n := s.nc) (bts_n (by omega)) (by omega) ?_
      rw [nI_add, ← e3, nI_1, g6.2.2 9 (by decide) (by decide), rt_u1 (by decide), e9, nI_add]
      have C6 := g6.C.trans C5
      refine ih _ ⟨C6.1.u (by decide), (rt_u2 (by decide)).trans C6.2.1, (rt_u1 (by decide)).trans C6.2.2⟩ ⟨?_, ?_, ?_, ?_⟩
      · rw [e1]
        exact x6.fr (by rw [rt_u_ne (by decide)]) (rt_u_ne (by decide)) (rt_u_ne (by decide)) (rt_u_ne (by decide))
      · rw [e2, rt_u1 (by decide), g6.2.2 11 (by decide) (by decide)]
        exact rt_u_at
      · rw [rt_u_at, e1, ← sum2, ← sum1, z1, Nat.add_zero]
      · rw [rt_u1 (by decide), g6.2.2 10 (by decide) (by decide), rt_u1 (by decide), e10, hfl]
    have efl : (yr1 s st).2.2.2 = st.2.2.2 + if usd s st.1 (nI (yw s st.2.1)) = true then 1 else 0 := rfl
    have go : ∀ z, z = nI (yq s st.2.1) → rt_Call G (d + 4) kX9_throwRoad [.ref 20, .int (nI (yw s st.2.1)), .int (nI (yp s st.2.1)), .int z] M3 L r (fun v4 I4 L4 r4 =>
        ((0 ≤ v4 → rt_Call G (d + 4) kX9_draw [.ref 20, .int 12] I4 L4 r4 (fun v5 I5 L5 r5 => rt_Call G (d + 4) kX9_goBy [.ref 20, .int v5] I5 L5 r5 (fun v6 I6 L6 r6 => rt_Call G (d + 4) kJ6_bitCount_0f7a4 [.int (I6 20 6)] I6 L6 r6 (fun v7 I7 L7 r7 => rt_AW G (d + 5) kX9_stormYears Q 20 [some (.ref 20), none, some (.int (nI n)), some (.int (nI st.2.2.1 + v6)), some (.int (nI i + 1)), none, none, none] [] (rt_u I7 20 9 ((I6 20 9) + v7)) L7 r7))))
        ∧ (¬ 0 ≤ v4 → rt_Call G (d + 4) kX9_draw [.ref 20, .int 12] (rt_u I4 20 10 ((I4 20 10) + 1)) L4 r4 (fun v5 I5 L5 r5 => rt_Call G (d + 4) kX9_goBy [.ref 20, .int v5] I5 L5 r5 (fun v6 I6 L6 r6 => rt_Call G (d + 4) kJ6_bitCount_0f7a4 [.int (I6 20 6)] I6 L6 r6 (fun v7 I7 L7 r7 => rt_AW G (d + 5) kX9_stormYears Q 20 [some (.ref 20), none, some (.int (nI n)), some (.int (nI st.2.2.1 + v6)), some (.int (nI i + 1)), none, none, none] [] (rt_u I7 20 9 ((I6 20 9) + v7)) L7 r7)))))) := by
      intro z hz
      refine wX9_throw2 (C3.S hS) hk X3 rfl rfl hz hw q1 q2 q3 (fun hu => ⟨fun y => absurd y (by decide), fun _ => ?_⟩) (fun hu M4 f4 x4 => ⟨fun _ => ?_, fun y => ?_⟩)
      · rw [if_pos hu] at hym efl
        refine tail _ (st.2.2.2 + 1) ⟨C3.1.u (by decide), (rt_u2 (by decide)).trans C3.2.1, (rt_u1 (by decide)).trans C3.2.2⟩ ?_ ((rt_u1 (by decide)).trans d3) ((rt_u1 (by decide)).trans ((g3 9 (by decide)).trans y3)) ?_ efl.symm
        · rw [hym]
          exact X3.fr (by rw [rt_u_ne (by decide)]) (rt_u_ne (by decide)) (rt_u_ne (by decide)) (rt_u_ne (by decide))
        · rw [rt_u_at, g3 10 (by decide), y4, nI_1]
      · rw [if_neg hu] at hym efl
        refine tail M4 st.2.2.2 ⟨(f4.mono (by decide)).trans C3.1, by rw [f4 16 (by decide)]; exact C3.2.1, by rw [f4 20 (by decide)]; exact C3.2.2⟩ (by rw [hym]; exact x4) (by rw [f4 20 (by decide)]; exact d3) (by rw [f4 20 (by decide)]; exact (g3 9 (by decide)).trans y3) (by rw [f4 20 (by decide)]; exact (g3 10 (by decide)).trans y4) efl.symm
      · exfalso
        obtain ⟨a, b, ha, hb, -, e1, e2⟩ := hms.2 (yw s st.2.1) hw
        rw [e1, e2, show (8 : Int32) * nI a = nI (8 * a) from n_lm 8 a, nI_add] at y
        exact y ((nI_leI (a := 0) (by omega) (by omega)).mpr (by omega))
    have hne : nI (dv (nd (nd (nd st.2.1))) s.np) = nI (yp s st.2.1) ↔ dv (nd (nd (nd st.2.1))) s.np = yp s st.2.1 := nI_eq (by omega) (by omega)
    generalize dv (nd (nd (nd st.2.1))) s.np = q0 at *
    refine ⟨fun z => go _ ?_, fun z => ⟨fun z2 => go _ ?_, fun z2 => go _ ?_⟩⟩
    · rw [eq0, if_neg (mt hne.mpr z)]
    · have hle : s.np ≤ yp s st.2.1 + 1 := by
        rw [show M3 12 1 = nI s.np by rw [f3 12 (by decide)]; exact hSM.1, nI_1] at z2
        exact (nI_leI (by omega) (by omega)).mp z2
      rw [eq0, if_pos (hne.mp z), show yp s st.2.1 + 1 = s.np by omega, Nat.mod_self]
      rfl
    · have hle : ¬ s.np ≤ yp s st.2.1 + 1 := by
        rw [show M3 12 1 = nI s.np by rw [f3 12 (by decide)]; exact hSM.1, nI_1] at z2
        exact mt (nI_leI (by omega) (by omega)).mpr z2
      rw [eq0, if_pos (hne.mp z), Nat.mod_eq_of_lt (by omega), nI_1]
  · rw [rt_u1 (by decide), rt_u1 (by decide)]; exact rt_u_at
  · rw [rt_u1 (by decide), rt_u_at]
    show (0 : Int32) = nI (cb (wrb m m) s.nc)
    rw [w0]; rfl
  · exact rt_u_at
end
