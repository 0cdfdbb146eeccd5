/-! THE FACE: years, model -/
section
variable {G : rt_G} {d : Nat} {Q : rt_Q} {I : rt_I} {L : rt_L} {r B mg : Nat} {s : SV} {m : MO} {us : List MO} {kp : Nat → Option MO} {mk : MKT} {row : List Int32} {tx : TXT}
theorem sX12_draw {x v : Int32} {k : Nat} (hx : x = nI k) (h0 : 0 < k) (hk : k < 1000) (hv : I 108 50 = v) (hQ : Q (nI (dv (nd v) k)) (rt_u I 108 50 (nd v)) L r) : rt_Call G d kX12_draw [.ref 108, .int x] I L r Q := by
  subst hx
  have hp : 0 < nI k := (nI_ltI (a := 0) (by omega) (by omega)).mpr h0
  refine v_X12_draw _ _ _ _ ⟨pos_ne hp, ?_⟩
  rw [hv, ← nd_eq, (dv_ex h0 hk).2]
  exact hQ
/-- what the years change in the model -/
def Ym (M I : rt_I) : Prop := Fr M I [108, 121, 131] ∧ F8 M I [16, 17, 18, 19, 28, 33, 34, 35, 36, 37, 50] ∧ M 108 28 = I 108 28
theorem Ym.trans {A C D : rt_I} (h1 : Ym A C) (h2 : Ym C D) : Ym A D := ⟨h1.1.trans h2.1, h1.2.1.trans h2.2.1, h1.2.2.trans h2.2.2⟩
theorem Ym.mi {M : rt_I} (h : Ym M I) (hI : MI B s m us kp mk row tx I) : MI B s m us kp mk row tx M := hI.q (h.1.mono (by decide)) (h.2.1.mono (by decide)) (h.2.2.trans hI.z28) (hI.2.2.2.2.2.1.fr (h.2.1 13 (by decide)) (h.1 115 (by decide)))
theorem Ym.of {M : rt_I} (h : HNt M I) : Ym M I := ⟨h.1.mono (by decide), h.2.1.mono (by decide), h.2.2⟩
theorem Ym.u {M : rt_I} (h : Ym M I) {j : Nat} {v : Int32} : Ym (rt_u M 131 j v) I := ⟨h.1.u (by decide), h.2.1.u (fun q => by omega), (rt_u2 (by decide)).trans h.2.2⟩
theorem Ym.dr {M : rt_I} (h : Ym M I) {v : Int32} : Ym (rt_u M 108 50 v) I := ⟨h.1.u (by decide), h.2.1.u (fun _ => by decide), (rt_u1 (by decide)).trans h.2.2⟩
theorem Ym.b {M : rt_I} (h : Ym M I) {j : Nat} {v : Int32} (hj : 33 ≤ j ∧ j ≤ 37) : Ym (rt_u M 108 j v) I := ⟨h.1.u (by decide), h.2.1.u (fun _ => by
  simp only [List.mem_cons, List.not_mem_nil, or_false]
  omega), (rt_u1 (by omega)).trans h.2.2⟩
def YM (s : SV) (m : MO) (st : MO × Int32 × Nat × Nat) (M : rt_I) : Prop := MMo s st.1 (M 131) ∧ M 108 50 = st.2.1 ∧ M 108 35 = nI st.2.2.1 ∧ M 108 37 = bts (wrb m st.1) s.nc
theorem fM_yearsL {n : Nat} {x1 : Int32} (h : MI B s m us kp mk row tx I) (hk : sok s) (hm : mok s B m) (hB : B < 2 ^ 28) (hn : n ≤ 40) (hp2 : 2 ≤ s.np) (hr0 : 0 < s.nr) (hY0 : YM s m (m, x1, 0, 0) I)
    (hQ : ∀ M, MI B s m us kp mk [nI (cb (wrb m (yrs s n (m, x1, 0, 0)).1) s.nc), nI (yrs s n (m, x1, 0, 0)).2.2.2] tx M → Lo M I → M 108 14 = I 108 14 → Q (nI (yrs s n (m, x1, 0, 0)).2.2.1) M L r) : rt_AW G (d + 6) kX12_years Q 61 [some (.ref 108), none, some (.int (nI n)), some (.int 0), some (.int 0), none, none, none] [] I L r := by
  have h5 := hk.2.2.1
  have h12 := hk.2.1
  have h8 := hk.1
  refine rt_loop (P := fun i => ∀ M, Ym M I → YM s m (yrs s i (m, x1, 0, 0)) M → rt_AW G (d + 6) kX12_years Q 61 [some (.ref 108), none, some (.int (nI n)), some (.int (nI (yrs s i (m, x1, 0, 0)).2.2.2)), some (.int (nI i)), none, none, none] [] M L r) n ?_ ?_ I ⟨Fr.refl _ _, F8.refl _ _, rfl⟩ hY0
  · intro M hC hY
    have hX := hC.mi h
    obtain ⟨y1, y2, y3, y4⟩ := hY
    refine v_X12_years_61 _ _ _ _ _ _ ⟨fun _ => ?_, fun z => absurd (Int32.le_refl _) z⟩
    rw [y4]
    refine sJ6_bitCount (b := wrb m (yrs s n (m, x1, 0, 0)).1) (n := s.nc) (bts_n (by omega)) (by omega) (gM_tel2 hX.c13 (by simp) (fun M2 h2 f2 g2 => gM_tel2 h2 (by simp) (fun M3 h3 f3 g3 => ?_)))
    rw [g3 35 (by decide), g2 35 (by decide), rt_u1 (by decide), y3]
    exact hQ M3 h3 ((Lo.of f3 (by decide)).trans ((Lo.of f2 (by decide)).trans (c13L.trans (Lo.of hC.1 (by decide))))) ((g3 14 (by decide)).trans ((g2 14 (by decide)).trans ((rt_u1 (by decide)).trans (hC.2.1 14 (by decide)))))
  · intro i hi ih M hC hY
    have hms := yrs_ok (x := x1) hk hm i
    have h7 : ∀ c, c < s.nc → m (c * 8 + 7) = 1 → (yrs s i (m, x1, 0, 0)).1 (c * 8 + 7) = 1 := fun c hc h => yrs_7 hk hc h i
    rw [yrs_s] at ih
    generalize yrs s i (m, x1, 0, 0) = st at *
    obtain ⟨y1, y2, y3, y4⟩ := hY
    have hX := hC.mi h
    refine v_X12_years_61 _ _ _ _ _ _ ⟨fun z => absurd ((n_le (a := n) (b := i) rfl rfl (by omega) (by omega)).mp z) (by omega), fun _ => ?_⟩
    refine sX12_draw hX.1.2.1 hr0 (by omega) y2 (sX12_draw (k := s.np) (v := nd st.2.1) (by rw [rt_u1 (by decide)]; exact hX.1.1) (by omega) (by omega) rt_u_at (sX12_draw (k := s.np) (v := nd (nd st.2.1)) (by rw [rt_u1 (by decide), rt_u1 (by decide)]; exact hX.1.1) (by omega) (by omega) rt_u_at ?_))
    obtain ⟨M3, e3⟩ : ∃ M3, M3 = rt_u (rt_u (rt_u M 108 50 (nd st.2.1)) 108 50 (nd (nd st.2.1))) 108 50 (nd (nd (nd st.2.1))) := ⟨_, rfl⟩
    have C3 : Ym M3 I := by rw [e3]; exact hC.dr.dr.dr
    have d3 : M3 108 50 = nd (nd (nd st.2.1)) := by rw [e3]; exact rt_u_at
    have g35 : M3 108 35 = nI st.2.2.1 := by rw [e3, rt_u1 (by decide), rt_u1 (by decide), rt_u1 (by decide)]; exact y3
    have g37 : M3 108 37 = bts (wrb m st.1) s.nc := by rw [e3, rt_u1 (by decide), rt_u1 (by decide), rt_u1 (by decide)]; exact y4
    have X3 : MMo s st.1 (M3 131) := by rw [e3, rt_u_ne (by decide), rt_u_ne (by decide), rt_u_ne (by decide)]; exact y1
    rw [← e3]
    clear e3
    have hw : dv (nd st.2.1) s.nr < s.nr := (dv_ex hr0 (by omega)).1
    have hp := (dv_ex (x := nd (nd st.2.1)) (k := s.np) (by omega) (by omega)).1
    have hq := (dv_ex (x := nd (nd (nd st.2.1))) (k := s.np) (by omega) (by omega)).1
    obtain ⟨q1, q2, q3⟩ := yq_lt (x := st.2.1) hp2 h8
    have eq0 : yq s st.2.1 = if dv (nd (nd (nd st.2.1))) s.np = yp s st.2.1 then (yp s st.2.1 + 1) % s.np else dv (nd (nd (nd st.2.1))) s.np := rfl
    have ep0 : dv (nd (nd st.2.1)) s.np = yp s st.2.1 := rfl
    have ew0 : dv (nd st.2.1) s.nr = yw s st.2.1 := rfl
    have hym := ym_e (m := st.1) (x := st.2.1) hk hp2 hr0
    have hym7 : ∀ c, c < s.nc → st.1 (c * 8 + 7) = 1 → ym s st.1 st.2.1 (c * 8 + 7) = 1 := fun c hc h => (ym_7 (by omega)).trans h
    have hymk := ym_ok hk hms st.2.1
    have hyn := yn_lt st.2.1
    have en0 : dv (nd (nd (nd (nd st.2.1)))) 12 = yn st.2.1 := rfl
    rw [ew0] at hw ⊢
    rw [ep0] at hp ⊢
    have tail : ∀ M4 (fl : Int32), Ym M4 I → MMo s (ym s st.1 st.2.1) (M4 131) → M4 108 50 = nd (nd (nd st.2.1)) → M4 108 35 = nI st.2.2.1 → M4 108 37 = bts (wrb m st.1) s.nc → fl = nI (yr1 s st).2.2.2 → rt_Call G (d + 5) kX12_draw [.ref 108, .int 12] M4 L r (fun v5 I5 L5 r5 => rt_Call G (d + 5) kX12_goTurns [.ref 108, .ref 131, .int v5] I5 L5 r5 (fun v6 I6 L6 r6 => rt_AW G (d + 6) kX12_years Q 61 [some (.ref 108), none, some (.int (nI n)), some (.int fl), some (.int (nI i + 1)), none, none, none] [] I6 L6 r6)) := by
      intro M4 fl hC4 hX4 d4 e35 e37 hfl
      refine sX12_draw (k := 12) rfl (by omega) (by omega) d4 ?_
      rw [en0, hfl, nI_1]
      have C5 : Ym (rt_u M4 108 50 (nd (nd (nd (nd st.2.1))))) I := hC4.dr
      have e1 : (yr1 s st).1 = tns s (ym s st.1 st.2.1) (yn st.2.1) := rfl
      have e2 : (yr1 s st).2.1 = nd (nd (nd (nd st.2.1))) := rfl
      have e3 : (yr1 s st).2.2.1 = st.2.2.1 + aN s (ym s st.1 st.2.1) (yn st.2.1) := rfl
      refine wX12_goTurns_then (C5.mi h).1 hk (by rw [rt_u_ne (by decide)]; exact hX4) hymk (by
        clear eq0 ep0 ew0 en0 e1 e2 e3 hp hq hw q1 q2 q3
        generalize yn st.2.1 = k at *
        omega) rfl (fun M6 g6 x6 a6 b6 c6 => ?_)
      have C6 := (Ym.of g6).trans C5
      refine ih M6 C6 ⟨by rw [e1]; exact x6, ?_, ?_, ?_⟩
      · rw [e2, g6.2.1 50 (by decide)]; exact rt_u_at
      · rw [a6, rt_u1 (by decide), e35, nI_add, e3]
      · rw [c6, rt_u1 (by decide), e37, aW_wr hk, bts_or (by omega), e1]
        refine bts_congr (fun c hc => ?_)
        have e7 : wrb m st.1 c = wrb m (ym s st.1 st.2.1) c := by unfold wrb; rw [ym_7 (by omega)]
        rw [e7]
        exact wrb_or (fun hh => hym7 c hc (h7 c hc hh)) (tns_wr hk hc _)
    have efl : (yr1 s st).2.2.2 = st.2.2.2 + if usd s st.1 (nI (yw s st.2.1)) = true then 1 else 0 := rfl
    have ea : (40 : Int32) + (2 : Int32) * nI (yw s st.2.1) = nI (40 + 2 * yw s st.2.1) := by rw [show (2 : Int32) * nI (yw s st.2.1) = nI (2 * yw s st.2.1) from n_lm 2 _]; exact n_la 40 _
    have eb : (40 : Int32) + (2 : Int32) * nI (yw s st.2.1) + 1 = nI (41 + 2 * yw s st.2.1) := by rw [ea, show nI (40 + 2 * yw s st.2.1) + 1 = nI (40 + 2 * yw s st.2.1 + 1) from n_al _ 1, show 40 + 2 * yw s st.2.1 + 1 = 41 + 2 * yw s st.2.1 by omega]
    have yes : ¬ usd s st.1 (nI (yw s st.2.1)) = true → ∀ z, z = nI (yq s st.2.1) → rt_Call G (d + 5) kX12_draw [.ref 108, .int 12] (rt_u (rt_u M3 131 (40 + 2 * yw s st.2.1) (nI (yp s st.2.1))) 131 (41 + 2 * yw s st.2.1) z) L r (fun v5 I5 L5 r5 => rt_Call G (d + 5) kX12_goTurns [.ref 108, .ref 131, .int v5] I5 L5 r5 (fun v6 I6 L6 r6 => rt_AW G (d + 6) kX12_years Q 61 [some (.ref 108), none, some (.int (nI n)), some (.int (nI st.2.2.2)), some (.int (nI i + 1)), none, none, none] [] I6 L6 r6)) := by
      intro hu z hz
      subst hz
      rw [if_neg hu] at hym efl
      refine tail _ (nI st.2.2.2) C3.u.u ?_ ((rt_u2 (by decide)).trans ((rt_u2 (by decide)).trans d3)) ((rt_u2 (by decide)).trans ((rt_u2 (by decide)).trans g35)) ((rt_u2 (by decide)).trans ((rt_u2 (by decide)).trans g37)) (by rw [efl, Nat.add_zero])
      rw [hym, rt_u_eq, rt_u_eq]
      exact X3.w.w
    have no : usd s st.1 (nI (yw s st.2.1)) = true → rt_Call G (d + 5) kX12_draw [.ref 108, .int 12] M3 L r (fun v5 I5 L5 r5 => rt_Call G (d + 5) kX12_goTurns [.ref 108, .ref 131, .int v5] I5 L5 r5 (fun v6 I6 L6 r6 => rt_AW G (d + 6) kX12_years Q 61 [some (.ref 108), none, some (.int (nI n)), some (.int (nI st.2.2.2 + 1)), some (.int (nI i + 1)), none, none, none] [] I6 L6 r6)) := by
      intro hu
      rw [if_pos hu] at hym efl
      exact tail M3 (nI st.2.2.2 + 1) C3 (by rw [hym]; exact X3) d3 g35 g37 (by rw [efl, nI_1])
    have hne : nI (yp s st.2.1) = nI (dv (nd (nd (nd st.2.1))) s.np) ↔ yp s st.2.1 = dv (nd (nd (nd st.2.1))) s.np := nI_eq (by omega) (by omega)
    generalize dv (nd (nd (nd st.2.1))) s.np = q0 at *
    have hX3 := (C3.mi h).1
    refine ⟨fun z => ?_, fun z => ⟨?_, ?_⟩⟩
    · refine wX12_isUsed_then hX3 hk X3 (fun hu => ⟨fun y => absurd y (by decide), fun _ => no hu⟩) (fun hu => ⟨fun _ => ⟨vp_nI ea (by omega) (by omega), vp_nI eb (by omega) (by omega), ?_⟩, fun y => absurd rfl y⟩)
      rw [cl ea (by omega), cl eb (by omega)]
      exact yes (by rw [hu]; decide) _ (by rw [eq0, if_neg (fun a => (mt hne.mpr z) a.symm)])
    · rw [hX3.1]
      exact fun a => by have := (nI_eq (a := s.np) (b := 0) (by omega) (by omega)).mp a; omega
    · refine wX12_isUsed_then hX3 hk X3 (fun hu => ⟨fun y => absurd y (by decide), fun _ => no hu⟩) (fun hu => ⟨fun _ => ⟨vp_nI ea (by omega) (by omega), vp_nI eb (by omega) (by omega), ?_⟩, fun y => absurd rfl y⟩)
      rw [cl ea (by omega), cl eb (by omega)]
      refine yes (by rw [hu]; decide) _ ?_
      have e := hne.mp z
      rw [hX3.1, nI_1, rem_nI (by omega) (by omega) (by omega), eq0, if_pos e.symm, e]
end
