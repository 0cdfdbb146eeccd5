/-! A TURN: the model's (now) -/
theorem na1 (a : Nat) : nI a + (1 : Int32) = nI (a + 1) := n_al a 1
theorem na2 (a : Nat) : nI a + (2 : Int32) = nI (a + 2) := n_al a 2
theorem na3 (a : Nat) : nI a + (3 : Int32) = nI (a + 3) := n_al a 3
theorem na4 (a : Nat) : nI a + (4 : Int32) = nI (a + 4) := n_al a 4
theorem na5 (a : Nat) : nI a + (5 : Int32) = nI (a + 5) := n_al a 5
theorem na6 (a : Nat) : nI a + (6 : Int32) = nI (a + 6) := n_al a 6
theorem na7 (a : Nat) : nI a + (7 : Int32) = nI (a + 7) := n_al a 7
theorem MMo.w {s : SV} {m f : Nat → Int32} {k : Nat} {v : Int32} (h : MMo s m f) : MMo s (upd m k v) (upd f k v) := by
  obtain ⟨a1, a2, a3, a4⟩ := h
  refine ⟨?_, a2.up, fun w hw => ?_, fun w hw => ?_⟩
  · unfold upd; split
    · rfl
    · exact a1
  · unfold upd; split
    · rfl
    · exact a3 w hw
  · unfold upd; split
    · rfl
    · exact a4 w hw
theorem MMo.wL {s : SV} {m f : Nat → Int32} {k : Nat} {v : Int32} (h : MMo s m f) (hv : m k = v) : MMo s m (upd f k v) := by
  obtain ⟨a1, a2, a3, a4⟩ := h
  refine ⟨?_, a2.upL hv, fun w hw => ?_, fun w hw => ?_⟩
  · unfold upd; split
    · rename_i e; rw [e, hv]
    · exact a1
  · unfold upd; split
    · rename_i e; rw [e, hv]
    · exact a3 w hw
  · unfold upd; split
    · rename_i e; rw [e, hv]
    · exact a4 w hw
theorem mm_c {s : SV} {m f : Nat → Int32} {c j : Nat} (hM : MMo s m f) (hc : c < s.nc) (hj : j < 8) : f (c * 8 + j) = m (c * 8 + j) := hM.2.1 _ (by omega)
theorem mm_0 {s : SV} {m f : Nat → Int32} {c : Nat} (hM : MMo s m f) (hc : c < s.nc) : f (c * 8) = m (c * 8) := hM.2.1 _ (by omega)
theorem MZ.fq {s : SV} {M I : rt_I} {cs : List Nat} (h : MZ s I) (hf : Fr M I cs) (h8 : ∀ j, j ∈ [1, 3, 6, 7, 9, 27, 28] → M 108 j = I 108 j) (hs : 110 ∉ cs ∧ 111 ∉ cs ∧ 112 ∉ cs ∧ 113 ∉ cs ∧ 120 ∉ cs) : MZ s M :=
  h.fr (fun j hj => h8 j (by simp only [List.mem_cons, List.not_mem_nil, or_false] at hj ⊢; omega)) ((h8 28 (by decide)).trans h.2.2.2.2.2.2.2.2.2.2) (hf _ hs.1) (hf _ hs.2.1) (hf _ hs.2.2.1) (hf _ hs.2.2.2.1) (hf _ hs.2.2.2.2)
section
variable {G : rt_G} {d : Nat} {Q : rt_Q} {I : rt_I} {L : rt_L} {r B : Nat} {s : SV} {m : Nat → Int32}
def GN_now (M I : rt_I) : Prop := Fr M I [108, 109] ∧ F8 M I [33, 34]
theorem GN_now.S {M I : rt_I} (h : GN_now M I) (hS : MZ s I) : MZ s M := hS.fq h.1 (fun j hj => h.2 j (by simp only [List.mem_cons, List.not_mem_nil, or_false] at hj ⊢; omega)) (by decide)
theorem GN_now.v {M I : rt_I} (h : GN_now M I) {j : Nat} {v : Int32} : GN_now (rt_u M 109 j v) I := ⟨h.1.u (by decide), h.2.u (fun q => by omega)⟩
theorem GN_now.b {M I : rt_I} (h : GN_now M I) {j : Nat} {v : Int32} (hj : j = 33 ∨ j = 34) : GN_now (rt_u M 108 j v) I := ⟨h.1.u (by decide), h.2.u (fun _ => by rcases hj with rfl | rfl <;> decide)⟩
theorem wX12_goTurn_now (hS : MZ s I) (hk : sok s) (hM : MMo s m (I 109)) (hm : mok s B m) (hB : B < 2 ^ 29)
    (hQ : ∀ M, GN_now M I → MMo s (tn s m) (M 109) → M 108 33 = tC s m → M 108 34 = tW s m → Q 0 M L r) : rt_Call G (d + 3) kX12_goTurn [.ref 108, .ref 109] I L r Q := by
  have h5 := hk.2.2.1
  have h12 := hk.2.1
  have h8 := hk.1
  obtain ⟨⟨t, ht, e64, hco⟩, he⟩ := hm
  refine v_X12_goTurn_now _ _ _ ?_
  refine rt_loop (P := fun k => ∀ M, GN_now M I → MMo s (gM s m k) (M 109) → M 108 33 = bts (gCame s m) k → M 108 34 = bts (gWr s m) k → rt_AW G (d + 3) kX12_goTurn Q 12 [some (.ref 108), some (.ref 109), some (.int (nI k)), none] [] M L r) s.nc ?_ ?_ _ ((GN_now.b (I := I) ⟨Fr.refl _ _, F8.refl _ _⟩ (Or.inl rfl)).b (Or.inr rfl)) hM rfl rfl
  · intro M hG hMo h1 h2
    have hS' := hG.S hS
    refine v_X12_goTurn_now_12 _ _ _ _ ⟨fun _ => ?_, fun z => absurd (by rw [hS'.2.2.1]; exact Int32.le_refl _) z⟩
    refine hQ _ hG.v ?_ h1 h2
    rw [rt_u_eq, hMo.1, gM_hi hk _ (Nat.le_refl _) _ (by omega)]
    exact hMo.w
  · intro k hkn ih M hG hMo h1 h2
    have hS' := hG.S hS
    have hck := gM_cok hk hco he k (by omega) k hkn
    rw [if_neg (by omega)] at hck
    have c0 := mm_0 hMo hkn
    have c1 := mm_c hMo hkn (j := 1) (by omega)
    have c2 := mm_c hMo hkn (j := 2) (by omega)
    have c3 := mm_c hMo hkn (j := 3) (by omega)
    have c5 := mm_c hMo hkn (j := 5) (by omega)
    have c6 := mm_c hMo hkn (j := 6) (by omega)
    have c7 := mm_c hMo hkn (j := 7) (by omega)
    have c64 := hMo.1
    have hco2 : ∀ b : Bool, bts (gCame s m) (k + 1) = if gCame s m k = true then bts (gCame s m) k ||| (1 <<< (nI k &&& 31)) else bts (gCame s m) k := fun _ => rfl
    have hwr2 : ∀ b : Bool, bts (gWr s m) (k + 1) = if gWr s m k = true then bts (gWr s m) k ||| (1 <<< (nI k &&& 31)) else bts (gWr s m) k := fun _ => rfl
    have eM : gM s m (k + 1) = (gC s (gM s m k) k).1 := rfl
    have eC : gCame s m k = (gC s (gM s m k) k).2.1 := rfl
    have eW : gWr s m k = (gC s (gM s m k) k).2.2 := rfl
    rw [eM, hco2 true, hwr2 true, eC, eW] at ih
    have h9 : M 108 9 = s.pat := hS'.2.2.2.2.2.2.2.2.2.1
    generalize gM s m k = mk at *
    refine v_X12_goTurn_now_12 _ _ _ _ ⟨fun z => absurd ((n_le hS'.2.2.1 rfl (by omega) (by omega)).mp z) (by omega), fun _ => ?_⟩
    simp (disch := omega) only [n8, na1, na2, na3, na4, na5, na6, na7, vpT, clT, true_and, rt_u1, rt_u_at]
    rw [c0, c7, c1, c64]
    obtain ⟨q5, hq⟩ := hck
    rcases hq with ⟨p, hp, e0, e1, e2, e3, e6, e7⟩ | ⟨e0, ⟨w, hw, e1, e2⟩, ⟨l, l1, l20, e3⟩, ⟨kk, hk6, e6⟩, e7⟩
    · have hz : gC s mk k = (mk, false, false) := by
        unfold gC
        rw [if_neg]
        rintro ⟨a, -⟩
        rw [e0] at a
        exact n_ne1 (a := p) (by omega) a
      rw [hz] at ih
      exact ⟨fun _ => ih M hG hMo h1 h2, fun y => absurd (e0.symm.trans y) (n_ne1 (by omega))⟩
    · refine ⟨fun y => absurd e0 y, fun _ => ⟨fun y7 => ?_, fun y7 => ?_⟩⟩
      · have y70 : mk (k * 8 + 7) = 0 := e7.elim id (fun q => absurd q y7)
        have e4 : (gC s mk k) = if s.th w (mk 64) = true then
      (if mk (k * 8 + 3) - 1 ≤ 0 then (stp (upd (upd mk (k * 8 + 6) 0) (k * 8 + 3) (mk (k * 8 + 3) - 1)) k (mk (k * 8 + 2)), true, false)
      else (upd (upd mk (k * 8 + 6) 0) (k * 8 + 3) (mk (k * 8 + 3) - 1), false, false))
    else if mk (k * 8 + 5) = 0 ∧ ¬ mk (k * 8 + 6) + 1 < s.pat then (upd (upd mk (k * 8 + 6) (mk (k * 8 + 6) + 1)) (k * 8 + 7) 1, false, true)
    else (upd mk (k * 8 + 6) (mk (k * 8 + 6) + 1), false, false) := by
          unfold gC
          rw [if_pos ⟨e0, y70⟩, e1, cl (n := w) rfl (by omega)]
        rw [e4] at ih
        refine wX12_isThere hS' hk e1 hw (fun q2 => ⟨fun y => absurd y (by decide), fun _ => ?_⟩) (fun q2 => ⟨fun _ => ?_, fun y => absurd rfl y⟩)
        · rw [if_pos q2] at ih
          rw [c3, c2]
          refine ⟨fun y3 => ?_, fun y3 => ?_⟩
          · rw [if_pos y3] at ih
            refine v_X12_stand_now _ _ _ _ _ ?_
            simp (disch := omega) only [n8, na1, na2, na3, na4, na5, na6, na7, vpT, clT, true_and]
            refine ih _ (hG.v.v.v.v.v.v.b (Or.inl rfl)) ?_ ?_ ?_
            · rw [rt_u_ne (by decide), rt_u_eq, rt_u_eq, rt_u_eq, rt_u_eq, rt_u_eq, rt_u_eq]
              exact hMo.w.w.w.w.w.w
            · rw [rt_u_at, rt_u2 (by decide), rt_u2 (by decide), rt_u2 (by decide), rt_u2 (by decide), rt_u2 (by decide), rt_u2 (by decide), h1]
              rfl
            · exact h2
          · rw [if_neg y3] at ih
            refine ih _ hG.v.v ?_ h1 h2
            rw [rt_u_eq, rt_u_eq]
            exact hMo.w.w
        · rw [if_neg (by rw [q2]; decide)] at ih
          rw [c5, c6, h9]
          refine ⟨fun y5 => ?_, fun y5 => ⟨fun y6 => ?_, fun y6 => ?_⟩⟩
          · rw [if_neg (fun q => by rw [y5] at q; exact absurd q.1 (by decide))] at ih
            refine ih _ hG.v ?_ h1 h2
            rw [rt_u_eq]
            exact hMo.w
          · have y50 : mk (k * 8 + 5) = 0 := q5.1.elim id (fun q => absurd q y5)
            rw [if_pos ⟨y50, Int32.not_lt.mpr y6⟩] at ih
            refine ih _ (hG.v.v.b (Or.inr rfl)) ?_ h1 ?_
            · rw [rt_u_ne (by decide), rt_u_eq, rt_u_eq]
              exact hMo.w.w
            · rw [rt_u_at, h2]
              rfl
          · rw [if_neg (fun q => q.2 (Int32.not_le.mp y6))] at ih
            refine ih _ hG.v ?_ h1 h2
            rw [rt_u_eq]
            exact hMo.w
      · have hz : gC s mk k = (mk, false, false) := by
          unfold gC
          rw [if_neg]
          rintro ⟨-, a⟩
          rw [y7] at a
          exact absurd a (by decide)
        rw [hz] at ih
        exact ih M hG hMo h1 h2
end
