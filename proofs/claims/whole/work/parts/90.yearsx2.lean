/-! THE FACE: years, class -/
noncomputable def fYears (s : SV) (m : MO) (row : List Int32) (x y : Int32) : Int32 × List Int32 :=
  if inb y 41 = true ∧ ¬ y = 0 then
    if s.np < 2 ∨ s.nr = 0 then (-2, row)
    else (nI (yrs s (cc y) (m, x, 0, 0)).2.2.1, [nI (cb (wrb m (yrs s (cc y) (m, x, 0, 0)).1) s.nc), nI (yrs s (cc y) (m, x, 0, 0)).2.2.2])
  else (-1, row)
section
variable {G : rt_G} {d : Nat} {Q : rt_Q} {I : rt_I} {L : rt_L} {r B mg : Nat} {s : SV} {m : MO} {us : List MO} {kp : Nat → Option MO} {mk : MKT} {row : List Int32} {tx : TXT}
theorem XI.qm {M : rt_I} {row' : List Int32} (h : XI s m us kp mk row tx I) (hf : Fr M I (16 :: 17 :: 18 :: 19 :: qs)) (h16 : M 16 1 = I 16 1) (h20 : M 20 4 = I 20 4) (h38 : M 38 2 = I 38 2) (hMo : XMo s m M 16) (hr : XRw row' M) : XI s m us kp mk row' tx M := by
  obtain ⟨h1, h2, h3, h4, h5, h6, h7⟩ := h
  have hg : ∀ c, 44 ≤ c → c ≤ 103 → M c = I c := fun c a b => hf c (fun z => by
    unfold qs at z
    simp only [List.mem_cons, List.not_mem_nil, or_false] at z
    omega)
  exact ⟨h1.fr ⟨by rw [hf 12 (by decide)], by rw [hf 12 (by decide)]⟩ h16 (by rw [hf 3 (by decide)]) (hf 4 (by decide)) (hf 13 (by decide)) (hf 14 (by decide)) (hf 15 (by decide)) (by rw [hf 6 (by decide)]) (hf 7 (by decide)) h20, hMo, h3.fr (hf 21 (by decide)) (fun c a b => hg c (by omega) (by omega)), h4.fr (hf 24 (by decide)) (fun c a b => hg c (by omega) (by omega)), h5.fr h38 (hf 39 (by decide)) (hf 40 (by decide)), hr, h7.fr (by rw [hf 1 (by decide)]) (hf 2 (by decide))⟩
theorem fX_years {x y : Int32} (h : XI s m us kp mk row tx I) (hk : sok s) (hm : mok s B m) (hB : B < 2 ^ 28)
    (hQ : ∀ M, XI s m us kp mk (fYears s m row x y).2 tx M → (∀ c, 108 ≤ c → M c = I c) → Q (fYears s m row x y).1 M L r) : rt_Call G (d + 6) kX11_years [.ref 0, .int x, .int y] I L r Q := by
  have h8 := hk.1
  have h12 := hk.2.1
  unfold fYears at hQ
  have hone : y < 1 ↔ (y < 0 ∨ y = 0) := by
    rw [Int32.lt_iff_toInt_lt, Int32.lt_iff_toInt_lt, ← Int32.toInt_inj]
    have e1 : (1 : Int32).toInt = 1 := by decide
    have e0 : (0 : Int32).toInt = 0 := by decide
    omega
  have hno : ¬ (inb y 41 = true ∧ ¬ y = 0) → Q (-1) I L r := by
    intro q
    rw [if_neg q] at hQ
    exact hQ I h (fun _ _ => rfl)
  refine v_X11_years _ _ _ _ _ ⟨fun z => hno (fun q => (hone.mp z).elim (fun a => ((inb100 (k := 40) (by omega)).mpr q.1).1 a) q.2), fun z => ⟨fun z2 => ?_, fun z2 => hno (fun q => z2 ((inb100 (k := 40) (by omega)).mpr q.1).2)⟩⟩
  have hy : inb y 41 = true := (inb100 (k := 40) (by omega)).mp ⟨fun a => z (hone.mpr (Or.inl a)), z2⟩
  have hy0 : ¬ y = 0 := fun a => z (hone.mpr (Or.inr a))
  rw [if_pos ⟨hy, hy0⟩] at hQ
  have hnp : I 12 1 < 2 ↔ s.np < 2 := n_lt (b := 2) h.1.1 rfl (by omega) (by omega)
  have hnr : I 12 2 = 0 ↔ s.nr = 0 := by rw [h.1.2.1]; exact nI_eq (b := 0) (by omega) (by omega)
  have h2 : s.np < 2 ∨ s.nr = 0 → Q (-2) I L r := by
    intro q
    rw [if_pos q] at hQ
    exact hQ I h (fun _ _ => rfl)
  refine ⟨fun z3 => h2 (Or.inl (hnp.mp z3)), fun z3 => ⟨fun z4 => ?_, fun z4 => h2 (Or.inr (hnr.mp z4))⟩⟩
  have g1 : ¬ s.np < 2 := mt hnp.mpr z3
  have g2 : ¬ s.nr = 0 := mt hnr.mpr z4
  rw [if_neg (by omega)] at hQ
  obtain ⟨n, hn, rfl⟩ := (inr_iff (by omega)).mp (inb_iff.mp hy)
  rw [cc_nI (by omega)] at hQ
  have hmo : XMr s m I 16 := ⟨h.2.1, h.1.2.2.1⟩
  refine cp_p (o := 104) (by decide) ?_
  have o1 : ∀ c, (c < 104 ∨ 107 < c) → cpI I 104 16 c = I c := fun c hc => cpI_out I 104 16 (by omega)
  have hm104 := cpI_mo (a := 104) hk hmo
  generalize cpI I 104 16 = I1 at *
  have hS1 : XZ s I1 := h.1.fr ⟨by rw [o1 12 (by omega)], by rw [o1 12 (by omega)]⟩ (by rw [o1 16 (by omega)]) (by rw [o1 3 (by omega)]) (o1 4 (by omega)) (o1 13 (by omega)) (o1 14 (by omega)) (o1 15 (by omega)) (by rw [o1 6 (by omega)]) (o1 7 (by omega)) (by rw [o1 20 (by omega)])
  have hM1 : XMo s m I1 16 := h.2.1.fr (by rw [o1 16 (by omega)]) (o1 17 (by omega)) (o1 18 (by omega)) (o1 19 (by omega))
  refine wX9_stormYears (n := n) hS1 hk hM1 hm hB (by omega) rfl (by omega) (by omega) (fun M hC hY => ?_)
  obtain ⟨y1, y2, y3, y4⟩ := hY
  refine cp_q (o := 104) (by decide) ?_
  have hm104' : XMr s m M 104 := hm104.fr (fun c a b => hC.1 c (fun z => by simp only [List.mem_cons, List.not_mem_nil, or_false] at z; omega))
  have hm16 := cpI_mo (a := 16) hk hm104'
  have o2 : ∀ c, (c < 16 ∨ 19 < c) → cpI M 16 104 c = M c := fun c hc => cpI_out M 16 104 (by omega)
  generalize cpI M 16 104 = I2 at *
  have fr2 : Fr I2 I (16 :: 17 :: 18 :: 19 :: qs) := fun c hc => by
    have hc1 : c < 16 ∨ 19 < c := by
      simp only [List.mem_cons, not_or] at hc
      omega
    have hc2 : c ∉ [10, 11, 16, 17, 18, 19, 20] := fun z => hc (by
      unfold qs
      simp only [List.mem_cons, List.not_mem_nil, or_false] at z ⊢
      omega)
    have hc3 : c < 104 ∨ 107 < c := by
      by_cases q : 104 ≤ c ∧ c ≤ 107
      · exfalso
        refine hc ?_
        unfold qs
        simp only [List.mem_cons, List.not_mem_nil, or_false]
        omega
      · omega
    rw [o2 c hc1, hC.1 c hc2, o1 c hc3]
  have h16 : I2 16 1 = I 16 1 := hm16.2.trans h.1.2.2.1.symm
  have h20 : I2 20 4 = I 20 4 := by rw [o2 20 (by omega), hC.2.2, o1 20 (by omega)]
  have hX2 : XI s m us kp mk row tx I2 := h.qm fr2 h16 h20 (by rw [o2 38 (by omega), hC.1 38 (by decide), o1 38 (by omega)]) hm16.1 (h.2.2.2.2.2.1.fr (by rw [o2 42 (by omega), hC.1 42 (by decide), o1 42 (by omega)]) (by rw [o2 43 (by omega), hC.1 43 (by decide), o1 43 (by omega)]))
  have i2 : ∀ c, 108 ≤ c → I2 c = I c := fun c hc => by
    rw [o2 c (by omega), hC.1 c (fun z => by simp only [List.mem_cons, List.not_mem_nil, or_false] at z; omega), o1 c (by omega)]
  refine gX_clear hX2 (fun M3 h3 f3 => ?_)
  rw [f3 20 (by decide), o2 20 (by omega), y3]
  refine gX_add h3 (by simp) (fun M4 h4 f4 => ?_)
  rw [f4 20 (by decide), f3 20 (by decide), o2 20 (by omega), y4]
  exact gX_add h4 (by simp) (fun M5 h5 f5 => hQ M5 h5 (fun c hc => (f5.hi (by decide) c hc).trans ((f4.hi (by decide) c hc).trans ((f3.hi (by decide) c hc).trans (i2 c hc)))))
end
