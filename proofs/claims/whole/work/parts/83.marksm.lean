/-! MARKS: the rounds that fit, model -/
def rwS (st : Nat × (Nat × Nat × Nat) × (Nat → Nat → Bool)) : List Int32 := if st.1 = 0 then [] else [nI st.2.1.1, nI st.2.1.2.1, nI st.2.1.2.2]
section
variable {G : rt_G} {d : Nat} {Q : rt_Q} {I : rt_I} {L : rt_L} {r B mg : Nat} {s : SV} {m : MO} {us : List MO} {kp : Nat → Option MO} {mk : MKT} {row : List Int32} {tx : TXT}
theorem wX12_fitsBy {e : Int32} {p h o : Nat} {x2 x3 x4 : Int32} (hM : MMk mk I) (h10 : mk.1 ≤ 10) (hp : 0 < p) (hp2 : p < 1000) (h2 : x2 = nI p) (h3 : x3 = nI h) (h4 : x4 = nI o) (hy : su mk e p h o = true → Q 1 I L r) (hn : ¬ su mk e p h o = true → Q 0 I L r) : rt_Call G (d + 1) kX12_fitsBy [.ref 108, .int x2, .int x3, .int x4, .int e] I L r Q := by
  subst h2 h3 h4
  obtain ⟨m1, m2⟩ := hM
  have hp0 : 0 < nI p := (nI_ltI (a := 0) (by omega) (by omega)).mpr hp
  refine v_X12_fitsBy _ _ _ _ _ _ _ (rt_loop (P := fun k => allb (fun i => decide (rt_abs (hgt (mk.2.1 i) (nI p) (nI h) (nI o) - mk.2.2 i) ≤ e)) k = true → rt_AW G (d + 1) kX12_fitsBy Q 3 [some (.ref 108), some (.int (nI p)), some (.int (nI h)), some (.int (nI o)), some (.int e), some (.int (nI k))] [] I L r) mk.1 ?_ ?_ rfl)
  · intro hh
    exact v_X12_fitsBy_3 _ _ _ _ _ _ _ _ ⟨fun _ => hy hh, fun z => absurd (by rw [m1]; exact Int32.le_refl _) z⟩
  · intro k hk ih hh
    obtain ⟨q1, q2⟩ := m2 k hk
    have a1 : (2 : Int32) * nI k = nI (2 * k) := n_lm 2 k
    have a2 : (2 : Int32) * nI k + 1 = nI (2 * k + 1) := by rw [a1]; exact n_al _ 1
    refine v_X12_fitsBy_3 _ _ _ _ _ _ _ _ ⟨fun z => absurd ((n_le m1 rfl (by omega) (by omega)).mp z) (by omega), fun _ => ⟨vp_nI a1 (by omega) (by omega), sX12_heightOf hp0 ⟨vp_nI a2 (by omega) (by omega), ?_⟩⟩⟩
    rw [cl a1 (by omega), cl a2 (by omega), q1, q2, nI_1]
    have e1 : allb (fun i => decide (rt_abs (hgt (mk.2.1 i) (nI p) (nI h) (nI o) - mk.2.2 i) ≤ e)) (k + 1) = (allb (fun i => decide (rt_abs (hgt (mk.2.1 i) (nI p) (nI h) (nI o) - mk.2.2 i) ≤ e)) k && decide (rt_abs (hgt (mk.2.1 k) (nI p) (nI h) (nI o) - mk.2.2 k) ≤ e)) := rfl
    refine ⟨fun z => ih (by rw [e1, hh]; simpa using z), fun z => hn (fun a => z ?_)⟩
    have := allb_iff.mp a k hk
    simpa using this
theorem MI.mm (h : MI B s m us kp mk row tx I) : MMk mk I := h.2.2.2.2.1
theorem fM_fitsL {e : Int32} {fr lk : Nat} (h : MI B s m us kp mk [] tx I) (h10 : mk.1 ≤ 10)
    (hQ : ∀ M r', MI B s m us kp mk (rwS (srch mk e fr lk)) tx M → Lo M I → M 108 14 = I 108 14 → Q (nI (srch mk e fr lk).1) M L r') : rt_AW G (d + 2) kX12_fits Q 26 [some (.ref 108), some (.int e), some (.int 0), some (.int 2), none, none] [] I L r := by
  unfold srch at hQ
  refine rt_loop (P := fun i => ∀ M r', MI B s m us kp mk (rwS (srP mk e fr lk i (0, (0, 0, 0), fun _ _ => false))) tx M → Lo M I → M 108 14 = I 108 14 → (srP mk e fr lk i (0, (0, 0, 0), fun _ _ => false)).1 ≤ 1025 * i → rt_AW G (d + 2) kX12_fits Q 26 [some (.ref 108), some (.int e), some (.int (nI (srP mk e fr lk i (0, (0, 0, 0), fun _ _ => false)).1)), some (.int (nI (i + 2))), none, none] [] M L r') 23 ?_ ?_ I r (by rw [srP_0]; exact h) (fun _ _ => rfl) rfl (by rw [srP_0]; exact Nat.zero_le _)
  · intro M r' hX hL h14 hb
    exact v_X12_fits_26 _ _ _ _ _ _ ⟨fun _ => hQ M r' hX hL h14, fun z => absurd (by decide) z⟩
  · intro i hi ihP M r' hX hL h14 hb
    have eP := srP_s mk e fr lk i (0, (0, 0, 0), fun _ _ => false)
    rw [eP] at ihP
    generalize srP mk e fr lk i (0, (0, 0, 0), fun _ _ => false) = sP at *
    refine v_X12_fits_26 _ _ _ _ _ _ ⟨fun z => absurd ((n_lt (a := 24) (b := i + 2) rfl rfl (by omega) (by omega)).mp z) (by omega), fun _ => ?_⟩
    suffices hh : rt_AW G (d + 2) kX12_fits Q 35 [some (.ref 108), some (.int e), some (.int (nI (srH mk e fr lk (i + 2) 0 sP).1)), some (.int (nI (i + 2))), some (.int (nI 0)), none] [] M L r' by
      rw [srH_0] at hh
      exact hh
    refine rt_loop (P := fun h => ∀ M r', MI B s m us kp mk (rwS (srH mk e fr lk (i + 2) h sP)) tx M → Lo M I → M 108 14 = I 108 14 → (srH mk e fr lk (i + 2) h sP).1 ≤ 1025 * i + 25 * h → rt_AW G (d + 2) kX12_fits Q 35 [some (.ref 108), some (.int e), some (.int (nI (srH mk e fr lk (i + 2) h sP).1)), some (.int (nI (i + 2))), some (.int (nI h)), none] [] M L r') 41 ?_ ?_ M r' (by rw [srH_0]; exact hX) hL h14 (by rw [srH_0]; omega)
    · intro M r' hX hL h14 hb
      refine v_X12_fits_35 _ _ _ _ _ _ _ ⟨fun _ => ?_, fun z => absurd (by decide) z⟩
      rw [nI_1]
      exact ihP M r' hX hL h14 (by omega)
    · intro h hh ihH M r' hX hL h14 hb
      have eH := srH_s mk e fr lk (i + 2) h sP
      rw [eH] at ihH
      generalize srH mk e fr lk (i + 2) h sP = sH at *
      refine v_X12_fits_35 _ _ _ _ _ _ _ ⟨fun z => absurd ((n_lt (a := 40) (b := h) rfl rfl (by omega) (by omega)).mp z) (by omega), fun _ => ?_⟩
      suffices hh : rt_AW G (d + 2) kX12_fits Q 45 [some (.ref 108), some (.int e), some (.int (nI (srO mk e fr lk (i + 2) h 0 sH).1)), some (.int (nI (i + 2))), some (.int (nI h)), some (.int (nI 0))] [] M L r' by
        rw [srO_0] at hh
        exact hh
      refine rt_loop (P := fun o => ∀ M r', MI B s m us kp mk (rwS (srO mk e fr lk (i + 2) h o sH)) tx M → Lo M I → M 108 14 = I 108 14 → (srO mk e fr lk (i + 2) h o sH).1 ≤ 1025 * i + 25 * h + o → rt_AW G (d + 2) kX12_fits Q 45 [some (.ref 108), some (.int e), some (.int (nI (srO mk e fr lk (i + 2) h o sH).1)), some (.int (nI (i + 2))), some (.int (nI h)), some (.int (nI o))] [] M L r') (i + 2) ?_ ?_ M r' (by rw [srO_0]; exact hX) hL h14 (by rw [srO_0]; omega)
      · intro M r' hX hL h14 hb
        refine v_X12_fits_45 _ _ _ _ _ _ _ _ ⟨fun _ => ?_, fun z => absurd (Int32.le_refl _) z⟩
        rw [nI_1]
        exact ihH M r' hX hL h14 (by omega)
      · intro o ho ihO M r' hX hL h14 hb
        have eO := srO_s mk e fr lk (i + 2) h o sH
        rw [eO] at ihO
        generalize srO mk e fr lk (i + 2) h o sH = st at *
        refine v_X12_fits_45 _ _ _ _ _ _ _ _ ⟨fun z => absurd ((n_le (a := i + 2) (b := o) rfl rfl (by omega) (by omega)).mp z) (by omega), fun _ => wX12_fitsBy hX.mm h10 (by omega) (by omega) rfl rfl rfl (fun q => ⟨fun _ => ?_, fun y => absurd y (by decide)⟩) (fun q => ⟨fun y => absurd rfl y, fun _ => ?_⟩)⟩
        · have eS : stq mk e fr lk (i + 2) h o st = (st.1 + 1, if st.1 = 0 then (i + 2, h, o) else st.2.1, fun k v => st.2.2 k v || (decide (k < lk) && decide (v = hvN (fr + k) (i + 2) h o))) := by unfold stq; rw [if_pos q]
          rw [eS] at ihO
          have hz : nI st.1 = 0 ↔ st.1 = 0 := nI_eq (b := 0) (by omega) (by omega)
          refine ⟨fun z => ?_, fun z => ?_⟩
          · have hz2 := mt hz.mpr z
            rw [nI_1, nI_1]
            refine ihO M r' ?_ hL h14 (by dsimp only; omega)
            unfold rwS at hX ⊢
            rw [if_neg hz2] at hX
            rw [if_neg (by dsimp only; omega), if_neg hz2]
            exact hX
          · have hz2 := hz.mp z
            have hX0 : MI B s m us kp mk [] tx M := by
              unfold rwS at hX
              rw [if_pos hz2] at hX
              exact hX
            refine gM_tel2 hX0 (by simp) (fun M1 h1 f1 g1 => gM_tel2 h1 (by simp) (fun M2 h2 f2 g2 => gM_tel2 h2 (by simp) (fun M3 h3 f3 g3 => ?_)))
            rw [nI_1, nI_1]
            refine ihO M3 r' ?_ ((Lo.of f3 (by decide)).trans ((Lo.of f2 (by decide)).trans ((Lo.of f1 (by decide)).trans hL))) ((g3 14 (by decide)).trans ((g2 14 (by decide)).trans ((g1 14 (by decide)).trans h14))) (by dsimp only; omega)
            unfold rwS
            rw [if_neg (by dsimp only; omega), if_pos hz2]
            exact h3
        · have eS : stq mk e fr lk (i + 2) h o st = st := by unfold stq; rw [if_neg q]
          rw [eS] at ihO
          rw [nI_1]
          exact ihO M r' hX hL h14 (by omega)
def fFits (mk : MKT) (row : List Int32) (e : Int32) : Int32 × List Int32 := if inb e 21 = true then (nI (srch mk e 0 0).1, rwS (srch mk e 0 0)) else (-1, row)
theorem fM_fits {e : Int32} (h : MI B s m us kp mk row tx I) (h10 : mk.1 ≤ 10)
    (hQ : ∀ M r', MI B s m us kp mk (fFits mk row e).2 tx M → Lo M I → M 108 14 = 0 → Q (fFits mk row e).1 M L r') : rt_Call G (d + 2) kX12_fits [.ref 108, .int e] I L r Q := by
  have h0 := h.t0
  have hLJ : Lo (rt_u I 108 14 0) I := Lo.of u14F (by decide)
  unfold fFits at hQ
  refine v_X12_fits _ _ _ _ (sX12_in (fun z4 => ⟨fun _ => ?_, fun q => absurd q (by decide)⟩) (fun z4 => ⟨fun q => absurd rfl q, fun _ => ?_⟩))
  · have hz := (inbD (k := 20) (by omega)).mp z4
    rw [if_pos hz] at hQ
    exact fM_fitsL h0.c13 h10 (fun M r' hX hL h14 => hQ M r' hX (hL.trans (c13L.trans hLJ)) (h14.trans ((rt_u1 (by decide)).trans rt_u_at)))
  · have hz := mt (inbD (k := 20) (by omega)).mpr z4
    rw [if_neg hz] at hQ
    exact hQ _ _ h0 hLJ rt_u_at
theorem fX_fits {e : Int32} (h : XI s m us kp mk row tx I) (h10 : mk.1 ≤ 10)
    (hQ : ∀ M L', XI s m us kp mk (fFits mk row e).2 tx M → (∀ c, 108 ≤ c → M c = I c) → Q (fFits mk row e).1 M L' r) : rt_Call G (d + 3) kX11_fits [.ref 0, .int e] I L r Q := by
  unfold fFits at hQ
  refine v_X11_fits _ _ _ _ (sX3_isError (fun hz => ⟨fun _ => ?_, fun q => absurd q (by decide)⟩) (fun hz => ⟨fun q => absurd rfl q, fun _ => ?_⟩))
  · rw [if_pos hz] at hQ
    refine wX3_search (fr := 0) (lk := 0) h.2.2.2.2.1 h10 (by omega) (by omega) rfl rfl (fun M1 L1 hF hS hlt => ?_)
    generalize srch mk e 0 0 = st at *
    have h1 : XI s m us kp mk row tx M1 := h.q (hF.1.mono (by decide)) (by rw [hF.1 20 (by decide)]) hF.2 (h.2.2.2.2.2.1.fr (hF.1 42 (by decide)) (hF.1 43 (by decide)))
    refine gX_clear h1 (fun M2 h2 f2 => ?_)
    have i2 : ∀ c, 108 ≤ c → M2 c = I c := fun c hc => (f2.hi (by decide) c hc).trans (hF.1.hi (by decide) c hc)
    have hle : nI st.1 ≤ 0 ↔ st.1 ≤ 0 := nI_leI (b := 0) (by omega) (by omega)
    unfold rwS at hQ
    refine ⟨fun z => ?_, fun z => ?_⟩
    · have hz2 : st.1 = 0 := by have := hle.mp z; omega
      simp only [if_pos hz2] at hQ
      exact hQ M2 L1 h2 i2
    · have hz2 : ¬ st.1 = 0 := fun a => z (hle.mpr (by omega))
      simp only [if_neg hz2] at hQ
      obtain ⟨q1, q2, q3⟩ := hS.1 hz2
      have e38 := f2 38 (by decide)
      rw [e38, q1]
      refine gX_add h2 (by simp) (fun M3 h3 f3 => ?_)
      rw [f3 38 (by decide), e38, q2]
      refine gX_add h3 (by simp) (fun M4 h4 f4 => ?_)
      rw [f4 38 (by decide), f3 38 (by decide), e38, q3]
      exact gX_add h4 (by simp) (fun M5 h5 f5 => hQ M5 L1 h5 (fun c hc => (f5.hi (by decide) c hc).trans ((f4.hi (by decide) c hc).trans ((f3.hi (by decide) c hc).trans (i2 c hc)))))
  · rw [if_neg hz] at hQ
    exact hQ I L h (fun _ _ => rfl)
end
