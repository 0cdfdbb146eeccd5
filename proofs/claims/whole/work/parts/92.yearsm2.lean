/-! THE FACE: years, model -/
section
variable {G : rt_G} {d : Nat} {Q : rt_Q} {I : rt_I} {L : rt_L} {r B mg : Nat} {s : SV} {m : MO} {us : List MO} {kp : Nat → Option MO} {mk : MKT} {row : List Int32} {tx : TXT}
theorem fM_years {x y : Int32} (h : MI B s m us kp mk row tx I) (hk : sok s) (hm : mok s B m) (hB : B < 2 ^ 28)
    (hQ : ∀ M r', MI B s m us kp mk (fYears s m row x y).2 tx M → Lo M I → M 108 14 = 0 → Q (fYears s m row x y).1 M L r') : rt_Call G (d + 7) kX12_years [.ref 108, .int x, .int y] I L r Q := by
  have h8 := hk.1
  have h12 := hk.2.1
  have h5 := hk.2.2.1
  have h0 := h.t0
  have hLJ : Lo (rt_u I 108 14 0) I := Lo.of u14F (by decide)
  unfold fYears at hQ
  have hone : y < 1 ↔ (y < 0 ∨ y = 0) := by
    rw [Int32.lt_iff_toInt_lt, Int32.lt_iff_toInt_lt, ← Int32.toInt_inj]
    have e1 : (1 : Int32).toInt = 1 := by decide
    have e0 : (0 : Int32).toInt = 0 := by decide
    omega
  have hno : ¬ (inb y 41 = true ∧ ¬ y = 0) → Q (-1) (rt_u I 108 14 0) L r := by
    intro q
    rw [if_neg q] at hQ
    exact hQ _ _ h0 hLJ rt_u_at
  refine v_X12_years _ _ _ _ _ (sX12_in (fun z => ⟨fun _ => ?_, fun q => absurd q (by decide)⟩) (fun z => ⟨fun q => absurd rfl q, fun _ => hno (fun q => z ⟨fun a => (hone.mp a).elim (fun b => ((inbD (k := 40) (by omega)).mpr q.1).1 b) q.2, ((inbD (k := 40) (by omega)).mpr q.1).2⟩)⟩))
  have hy : inb y 41 = true := (inbD (k := 40) (by omega)).mp ⟨fun a => z.1 (hone.mpr (Or.inl a)), z.2⟩
  have hy0 : ¬ y = 0 := fun a => z.1 (hone.mpr (Or.inr a))
  rw [if_pos ⟨hy, hy0⟩] at hQ
  have hnp : rt_u I 108 14 0 108 1 < 2 ↔ s.np < 2 := n_lt (b := 2) h0.1.1 rfl (by omega) (by omega)
  have hnr : rt_u I 108 14 0 108 3 = 0 ↔ s.nr = 0 := by rw [h0.1.2.1]; exact nI_eq (b := 0) (by omega) (by omega)
  have h2 : s.np < 2 ∨ s.nr = 0 → Q (-2) (rt_u I 108 14 0) L r := by
    intro q
    rw [if_pos q] at hQ
    exact hQ _ _ h0 hLJ rt_u_at
  refine ⟨fun z3 => h2 (Or.inl (hnp.mp z3)), fun z3 => ⟨fun z4 => ?_, fun z4 => h2 (Or.inr (hnr.mp z4))⟩⟩
  have g1 : ¬ s.np < 2 := mt hnp.mpr z3
  have g2 : ¬ s.nr = 0 := mt hnr.mpr z4
  rw [if_neg (by omega)] at hQ
  obtain ⟨n, hn, rfl⟩ := (inr_iff (by omega)).mp (inb_iff.mp hy)
  rw [cc_nI (by omega)] at hQ
  have C0 : Ym (rt_u (rt_u I 108 14 0) 108 50 x) (rt_u I 108 14 0) := Ym.dr ⟨Fr.refl _ _, F8.refl _ _, rfl⟩
  have hMo : MMo s m (rt_u (rt_u I 108 14 0) 108 50 x 109) := by rw [rt_u_ne (by decide)]; exact h0.2.1
  refine wX12_lay_nt (b := 0) rfl (by omega) (fun M1 f1 k1 _ => v_X12_beginTurns _ _ _ ?_)
  have C1 : Ym M1 (rt_u I 108 14 0) := Ym.trans ⟨f1.mono (by decide), fun j _ => by rw [f1 108 (by decide)], by rw [f1 108 (by decide)]⟩ C0
  have C2 : Ym (rt_u (rt_u (rt_u M1 108 35 0) 108 36 0) 108 37 0) (rt_u I 108 14 0) := ((C1.b (by omega)).b (by omega)).b (by omega)
  have hMo2 : MMo s m (rt_u (rt_u (rt_u M1 108 35 0) 108 36 0) 108 37 0 131) := by
    rw [rt_u_ne (by decide), rt_u_ne (by decide), rt_u_ne (by decide)]
    obtain ⟨a1, a2, a3, a4⟩ := hMo
    have e : ∀ k, k < 65 → M1 131 k = rt_u (rt_u I 108 14 0) 108 50 x 109 k := fun k hk2 => by have := k1 k hk2; rw [Nat.zero_add] at this; exact this
    exact ⟨(e 64 (by omega)).trans a1, fun j hj => (e j (by omega)).trans (a2 j hj), fun w hw => (e _ (by omega)).trans (a3 w hw), fun w hw => (e _ (by omega)).trans (a4 w hw)⟩
  refine fM_yearsL (x1 := x) (C2.mi h0) hk hm hB (by omega) (by omega) (by omega) ⟨hMo2, ?_, ?_, ?_⟩ (fun M hX hL h14 => hQ M r hX (hL.trans ((Lo.of C2.1 (by decide)).trans hLJ)) (h14.trans ((C2.2.1 14 (by decide)).trans rt_u_at)))
  · rw [rt_u1 (by decide), rt_u1 (by decide), rt_u1 (by decide), f1 108 (by decide)]; exact rt_u_at
  · rw [rt_u1 (by decide), rt_u1 (by decide)]; exact rt_u_at
  · rw [rt_u_at]
    have e : bts (wrb m m) s.nc = bts (fun _ => false) s.nc := bts_congr (fun k _ => decide_eq_false (fun a => a.1 a.2))
    show (0 : Int32) = bts (wrb m m) s.nc
    rw [e, bts_n (by omega), btn_false]
    rfl
end
