/-! TURNS AND USE: the model's, of the moment laid by -/
section
variable {G : rt_G} {d : Nat} {Q : rt_Q} {I : rt_I} {L : rt_L} {r B : Nat} {s : SV} {m : Nat → Int32}
def GN_then (M I : rt_I) : Prop := Fr M I [108, 131] ∧ F8 M I [33, 34]
theorem GN_then.S {M I : rt_I} (h : GN_then M I) (hS : MZ s I) : MZ s M := hS.fq h.1 (fun j hj => h.2 j (by simp only [List.mem_cons, List.not_mem_nil, or_false] at hj ⊢; omega)) (by decide)
theorem GN_then.v {M I : rt_I} (h : GN_then M I) {j : Nat} {v : Int32} : GN_then (rt_u M 131 j v) I := ⟨h.1.u (by decide), h.2.u (fun q => by omega)⟩
theorem GN_then.b {M I : rt_I} (h : GN_then M I) {j : Nat} {v : Int32} (hj : j = 33 ∨ j = 34) : GN_then (rt_u M 108 j v) I := ⟨h.1.u (by decide), h.2.u (fun _ => by rcases hj with rfl | rfl <;> decide)⟩
theorem wX12_goTurn_then (hS : MZ s I) (hk : sok s) (hM : MMo s m (I 131)) (hm : mok s B m) (hB : B < 2 ^ 29)
    (hQ : ∀ M, GN_then M I → MMo s (tn s m) (M 131) → M 108 33 = tC s m → M 108 34 = tW s m → Q 0 M L r) : rt_Call G (d + 3) kX12_goTurn [.ref 108, .ref 131] I L r Q := by
  have h5 := hk.2.2.1
  have h12 := hk.2.1
  have h8 := hk.1
  obtain ⟨⟨t, ht, e64, hco⟩, he⟩ := hm
  refine v_X12_goTurn_then _ _ _ ?_
  refine rt_loop (P := fun k => ∀ M, GN_then M I → MMo s (gM s m k) (M 131) → M 108 33 = bts (gCame s m) k → M 108 34 = bts (gWr s m) k → rt_AW G (d + 3) kX12_goTurn Q 12 [some (.ref 108), some (.ref 131), some (.int (nI k)), none] [] M L r) s.nc ?_ ?_ _ ((GN_then.b (I := I) ⟨Fr.refl _ _, F8.refl _ _⟩ (Or.inl rfl)).b (Or.inr rfl)) hM rfl rfl
  · intro M hG hMo h1 h2
    have hS' := hG.S hS
    refine v_X12_goTurn_then_12 _ _ _ _ ⟨fun _ => ?_, fun z => absurd (by rw [hS'.2.2.1]; exact Int32.le_refl _) z⟩
    refine hQ _ hG.v ?_ h1 h2
    rw [rt_u_eq, hMo.1, gM_hi hk _ (Nat.le_refl _) _ (by omega)]
    exact hMo.w
  · intro k hkn ih M hG hMo h1 h2
    have hS' := hG.S hS
    have hck := gM_cok hk hco he k (by omega) k hkn
    rw [if_neg (by omega)] at hck
    have c0 := mm_0 hMo hkn
    have c1 := mm_c hMo hkn (j := 1) (by omega)
    have c2 := mm_c hMo hkn (j := 2) (by omega)
    have c3 := mm_c hMo hkn (j := 3) (by omega)
    have c5 := mm_c hMo hkn (j := 5) (by omega)
    have c6 := mm_c hMo hkn (j := 6) (by omega)
    have c7 := mm_c hMo hkn (j := 7) (by omega)
    have c64 := hMo.1
    have hco2 : ∀ b : Bool, bts (gCame s m) (k + 1) = if gCame s m k = true then bts (gCame s m) k ||| (1 <<< (nI k &&& 31)) else bts (gCame s m) k := fun _ => rfl
    have hwr2 : ∀ b : Bool, bts (gWr s m) (k + 1) = if gWr s m k = true then bts (gWr s m) k ||| (1 <<< (nI k &&& 31)) else bts (gWr s m) k := fun _ => rfl
    have eM : gM s m (k + 1) = (gC s (gM s m k) k).1 := rfl
    have eC : gCame s m k = (gC s (gM s m k) k).2.1 := rfl
    have eW : gWr s m k = (gC s (gM s m k) k).2.2 := rfl
    rw [eM, hco2 true, hwr2 true, eC, eW] at ih
    have h9 : M 108 9 = s.pat := hS'.2.2.2.2.2.2.2.2.2.1
    generalize gM s m k = mk at *
    refine v_X12_goTurn_then_12 _ _ _ _ ⟨fun z => absurd ((n_le hS'.2.2.1 rfl (by omega) (by omega)).mp z) (by omega), fun _ => ?_⟩
    simp (disch := omega) only [n8, na1, na2, na3, na4, na5, na6, na7, vpT, clT, true_and, rt_u1, rt_u_at]
    rw [c0, c7, c1, c64]
    obtain ⟨q5, hq⟩ := hck
    rcases hq with ⟨p, hp, e0, e1, e2, e3, e6, e7⟩ | ⟨e0, ⟨w, hw, e1, e2⟩, ⟨l, l1, l20, e3⟩, ⟨kk, hk6, e6⟩, e7⟩
    · have hz : gC s mk k = (mk, false, false) := by
        unfold gC
        rw [if_neg]
        rintro ⟨a, -⟩
        rw [e0] at a
        exact n_ne1 (a := p) (by omega) a
      rw [hz] at ih
      exact ⟨fun _ => ih M hG hMo h1 h2, fun y => absurd (e0.symm.trans y) (n_ne1 (by omega))⟩
    · refine ⟨fun y => absurd e0 y, fun _ => ⟨fun y7 => ?_, fun y7 => ?_⟩⟩
      · have y70 : mk (k * 8 + 7) = 0 := e7.elim id (fun q => absurd q y7)
        have e4 : (gC s mk k) = if s.th w (mk 64) = true then
      (if mk (k * 8 + 3) - 1 ≤ 0 then (stp (upd (upd mk (k * 8 + 6) 0) (k * 8 + 3) (mk (k * 8 + 3) - 1)) k (mk (k * 8 + 2)), true, false)
      else (upd (upd mk (k * 8 + 6) 0) (k * 8 + 3) (mk (k * 8 + 3) - 1), false, false))
    else if mk (k * 8 + 5) = 0 ∧ ¬ mk (k * 8 + 6) + 1 < s.pat then (upd (upd mk (k * 8 + 6) (mk (k * 8 + 6) + 1)) (k * 8 + 7) 1, false, true)
    else (upd mk (k * 8 + 6) (mk (k * 8 + 6) + 1), false, false) := by
          unfold gC
          rw [if_pos ⟨e0, y70⟩, e1, cl (n := w) rfl (by omega)]
        rw [e4] at ih
        refine wX12_isThere hS' hk e1 hw (fun q2 => ⟨fun y => absurd y (by decide), fun _ => ?_⟩) (fun q2 => ⟨fun _ => ?_, fun y => absurd rfl y⟩)
        · rw [if_pos q2] at ih
          rw [c3, c2]
          refine ⟨fun y3 => ?_, fun y3 => ?_⟩
          · rw [if_pos y3] at ih
            refine v_X12_stand_then _ _ _ _ _ ?_
            simp (disch := omega) only [n8, na1, na2, na3, na4, na5, na6, na7, vpT, clT, true_and]
            refine ih _ (hG.v.v.v.v.v.v.b (Or.inl rfl)) ?_ ?_ ?_
            · rw [rt_u_ne (by decide), rt_u_eq, rt_u_eq, rt_u_eq, rt_u_eq, rt_u_eq, rt_u_eq]
              exact hMo.w.w.w.w.w.w
            · rw [rt_u_at, rt_u2 (by decide), rt_u2 (by decide), rt_u2 (by decide), rt_u2 (by decide), rt_u2 (by decide), rt_u2 (by decide), h1]
              rfl
            · exact h2
          · rw [if_neg y3] at ih
            refine ih _ hG.v.v ?_ h1 h2
            rw [rt_u_eq, rt_u_eq]
            exact hMo.w.w
        · rw [if_neg (by rw [q2]; decide)] at ih
          rw [c5, c6, h9]
          refine ⟨fun y5 => ?_, fun y5 => ⟨fun y6 => ?_, fun y6 => ?_⟩⟩
          · rw [if_neg (fun q => by rw [y5] at q; exact absurd q.1 (by decide))] at ih
            refine ih _ hG.v ?_ h1 h2
            rw [rt_u_eq]
            exact hMo.w
          · have y50 : mk (k * 8 + 5) = 0 := q5.1.elim id (fun q => absurd q y5)
            rw [if_pos ⟨y50, Int32.not_lt.mpr y6⟩] at ih
            refine ih _ (hG.v.v.b (Or.inr rfl)) ?_ h1 ?_
            · rw [rt_u_ne (by decide), rt_u_eq, rt_u_eq]
              exact hMo.w.w
            · rw [rt_u_at, h2]
              rfl
          · rw [if_neg (fun q => q.2 (Int32.not_le.mp y6))] at ih
            refine ih _ hG.v ?_ h1 h2
            rw [rt_u_eq]
            exact hMo.w
      · have hz : gC s mk k = (mk, false, false) := by
          unfold gC
          rw [if_neg]
          rintro ⟨-, a⟩
          rw [y7] at a
          exact absurd a (by decide)
        rw [hz] at ih
        exact ih M hG hMo h1 h2
def HNt (M I : rt_I) : Prop := Fr M I [108, 131, 121] ∧ F8 M I [16, 17, 18, 19, 28, 33, 34, 35, 36, 37] ∧ M 108 28 = I 108 28
theorem HNt.refl (I : rt_I) : HNt I I := ⟨Fr.refl _ _, F8.refl _ _, rfl⟩
theorem HNt.trans {A B C : rt_I} (h1 : HNt A B) (h2 : HNt B C) : HNt A C := ⟨h1.1.trans h2.1, h1.2.1.trans h2.2.1, h1.2.2.trans h2.2.2⟩
theorem HNt.S {M I : rt_I} (h : HNt M I) (hS : MZ s I) : MZ s M := hS.fr (fun j hj => h.2.1 j (by
  simp only [List.mem_cons, List.not_mem_nil, or_false] at hj ⊢
  omega)) (h.2.2.trans hS.2.2.2.2.2.2.2.2.2.2) (h.1 110 (by decide)) (h.1 111 (by decide)) (h.1 112 (by decide)) (h.1 113 (by decide)) (h.1 120 (by decide))
theorem GN_then.H {M I : rt_I} (h : GN_then M I) : HNt M I := ⟨h.1.mono (by decide), h.2.mono (by decide), h.2 28 (by decide)⟩
theorem HNt.v {M I : rt_I} (h : HNt M I) {j : Nat} {v : Int32} : HNt (rt_u M 131 j v) I := ⟨h.1.u (by decide), h.2.1.u (fun q => by omega), (rt_u2 (by decide)).trans h.2.2⟩
theorem HNt.b {M I : rt_I} (h : HNt M I) {j : Nat} {v : Int32} (hj : 33 ≤ j ∧ j ≤ 37) : HNt (rt_u M 108 j v) I := ⟨h.1.u (by decide), h.2.1.u (fun _ => by
  simp only [List.mem_cons, List.not_mem_nil, or_false]
  omega), (rt_u1 (by omega)).trans h.2.2⟩
theorem wX12_isUsed_then {x : Int32} (hS : MZ s I) (hk : sok s) (hM : MMo s m (I 131))
    (h1 : usd s m x = true → Q 1 I L r) (h0 : usd s m x = false → Q 0 I L r) : rt_Call G d kX12_isUsed [.ref 108, .ref 131, .int x] I L r Q := by
  have h5 := hk.2.2.1
  refine v_X12_isUsed_then _ _ _ _ (rt_loop (P := fun k => anyb (fun c => decide (m (c * 8 + 1) = x)) k = false → rt_AW G d kX12_isUsed Q 2 [some (.ref 108), some (.ref 131), some (.int x), some (.int (nI k))] [] I L r) s.nc ?_ ?_ rfl)
  · intro h
    exact v_X12_isUsed_then_2 _ _ _ _ _ ⟨fun _ => h0 h, fun z => absurd (by rw [hS.2.2.1]; exact Int32.le_refl _) z⟩
  · intro k hkn ih h
    refine v_X12_isUsed_then_2 _ _ _ _ _ ⟨fun z => absurd ((n_le hS.2.2.1 rfl (by omega) (by omega)).mp z) (by omega), fun _ => ?_⟩
    simp (disch := omega) only [n8, na1, vpT, clT, true_and]
    rw [mm_c hM hkn (j := 1) (by omega)]
    refine ⟨fun q => ih ?_, fun q => h1 (anyb_mono (k := k) hkn (by simpa using q))⟩
    unfold anyb
    rw [h]
    simpa using q
theorem wX12_goTurns_then {n : Nat} {x : Int32} (hS : MZ s I) (hk : sok s) (hM : MMo s m (I 131)) (hm : mok s B m) (hB : B + n < 2 ^ 29) (hx : x = nI n)
    (hQ : ∀ M, HNt M I → MMo s (tns s m n) (M 131) → M 108 35 = I 108 35 + nI (aN s m n) → M 108 36 = I 108 36 ||| aC s m n → M 108 37 = I 108 37 ||| aW s m n → Q 0 M L r) : rt_Call G (d + 4) kX12_goTurns [.ref 108, .ref 131, .int x] I L r Q := by
  have h5 := hk.2.2.1
  subst hx
  refine v_X12_goTurns_then _ _ _ _ (rt_loop (P := fun i => ∀ M, HNt M I → MMo s (tns s m i) (M 131) → M 108 35 = I 108 35 + nI (aN s m i) → M 108 36 = I 108 36 ||| aC s m i → M 108 37 = I 108 37 ||| aW s m i → rt_AW G (d + 4) kX12_goTurns Q 2 [some (.ref 108), some (.ref 131), some (.int (nI n)), some (.int (nI i))] [] M L r) n ?_ ?_ I (HNt.refl _) hM ?_ ?_ ?_)
  · intro M hH hMo h1 h2 h3
    exact v_X12_goTurns_then_2 _ _ _ _ _ ⟨fun _ => hQ M hH hMo h1 h2 h3, fun z => absurd (Int32.le_refl _) z⟩
  · intro i hi ih M hH hMo h1 h2 h3
    refine v_X12_goTurns_then_2 _ _ _ _ _ ⟨fun z => absurd ((nI_leI (by omega) (by omega)).mp z) (by omega), fun _ => wX12_goTurn_then (hH.S hS) hk hMo (tns_ok hk hm i) (by omega) (fun M2 hG2 hMo2 hc2 hw2 => ?_)⟩
    have e35 : M2 108 35 = M 108 35 := hG2.2 35 (by decide)
    have e36 : M2 108 36 = M 108 36 := hG2.2 36 (by decide)
    have e37 : M2 108 37 = M 108 37 := hG2.2 37 (by decide)
    rw [hc2]
    refine sJ6_bitCount (b := gCame s (tns s m i)) (n := s.nc) (bts_n (by omega)) (by omega) ?_
    simp (disch := omega) only [na1, rt_u1, rt_u_at]
    refine ih _ (((((hG2.H.trans hH).b (by omega)).b (by omega)).b (by omega))) ?_ ?_ ?_ ?_
    · rw [rt_u_ne (by decide), rt_u_ne (by decide), rt_u_ne (by decide)]; exact hMo2
    · rw [rt_u1 (by decide), rt_u1 (by decide), rt_u_at, e35, h1, Int32.add_assoc, nI_add]; rfl
    · rw [rt_u1 (by decide), rt_u_at, hc2, e36, h2, Int32.or_assoc]; rfl
    · rw [rt_u_at, hw2, e37, h3, Int32.or_assoc]; rfl
  · show _ = _ + nI 0
    rw [nI_0, Int32.add_zero]
  · show _ = _ ||| 0
    rw [Int32.or_zero]
  · show _ = _ ||| 0
    rw [Int32.or_zero]
end
