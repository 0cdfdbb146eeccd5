/-! flats(): the class reads lines -/
theorem AG.snoc {n : Nat} {f g : Nat → Int32} {v : Int32} (h : AG n f g) : AG (n + 1) (upd f n v) (upd g n v) := fun j hj => by
  by_cases e : j = n
  · subst e; rw [upd0, upd0]
  · rw [upd1 e, upd1 e]; exact h j (by omega)
theorem a97 (x : Int32) : (97 : Int32) + (x - 97) = x := by rw [Int32.add_comm, Int32.sub_add_cancel]
theorem nmv_ne {c : Nat → Int32} {p : Nat} : ¬ (nmv c 2 p 0).1 = -1 := by
  obtain ⟨m, e, hm⟩ := nmv_nat c 2 p 0
  rw [show nI 0 = (0 : Int32) from rfl] at e
  rw [e]
  exact n_ne1 (by omega)
theorem nmv_ne1 {c : Nat → Int32} {p : Nat} : ¬ (nmv c 1 p 0).1 = -1 := by
  obtain ⟨m, e, hm⟩ := nmv_nat c 1 p 0
  rw [show nI 0 = (0 : Int32) from rfl] at e
  rw [e]
  exact n_ne1 (by omega)
theorem nmv_1 {c : Nat → Int32} {p : Nat} (h : dg (c p) = true) : nmv c 1 p 0 = (c p - 48, p + 1) := by
  unfold nmv nmv
  rw [if_pos h, show (0 : Int32) * 10 + c p - 48 = c p - 48 by rw [show (0 : Int32) * 10 = 0 from rfl, Int32.zero_add]]
section
variable {G : rt_G} {d : Nat} {Q : rt_Q} {M J : rt_I} {L : rt_L} {r l p n : Nat} {x : Int32}
theorem tX7_takeLetter (hp : M 1 2 = nI p) (hl : M 1 3 = nI l) (h8 : l ≤ 80) (h9 : p < 1000) (hx : x = nI n) (h1 : inb (ch (M 2) l p - 97) n = true → Q (ch (M 2) l p - 97) (rt_u M 1 2 (nI (p + 1))) L r) (h0 : ¬ inb (ch (M 2) l p - 97) n = true → Q (-1) M L r) : rt_Call G (d + 1) kX7_takeLetter [.ref 1, .int x] M L r Q := by
  have e : xp M p = M := rt_u_id hp
  rw [← e]
  subst hx
  exact sX7_takeLetter hl h8 h9 (fun z1 z2 => h1 (inb_iff.mpr ⟨z1, z2⟩)) (fun z => by rw [e]; exact h0 (fun y => z (inb_iff.mp y)))
theorem tX7_behindLine (hp : M 1 2 = nI p) (hl : M 1 3 = nI l) (h8 : l ≤ 80) (h9 : p < 1000) (h1 : ch (M 2) l p = 59 → Q 1 (rt_u M 1 2 (nI (p + 1))) L r) (h2 : ch (M 2) l p = -1 → Q 0 M L r) (h3 : ¬ ch (M 2) l p = 59 → ¬ ch (M 2) l p = -1 → Q (-1) M L r) : rt_Call G (d + 2) kX7_behindLine [.ref 1] M L r Q := by
  have e : xp M p = M := rt_u_id hp
  rw [← e]
  exact sX7_behindLine hl h8 h9 h1 (fun z => by rw [e]; exact h2 z) (fun z1 z2 => by rw [e]; exact h3 z1 z2)
end
def XD (D : DFT) (J M : rt_I) (p : Nat) : Prop := Fr M J [1, 12, 13, 14, 15, 18, 19] ∧ M 1 2 = nI p ∧ (∀ j, j ≠ 2 → M 1 j = J 1 j) ∧ M 12 6 = nI D.np ∧ M 12 7 = nI D.nr ∧ (∀ j, j ≠ 6 → j ≠ 7 → M 12 j = J 12 j) ∧
  AG D.np (M 13) D.ph ∧ AG D.nr (M 14) D.st ∧ AG D.nr (M 15) D.rh ∧ (∀ w, w < D.nr → M 18 w = D.e (40 + 2 * w)) ∧ ∀ w, w < D.nr → M 19 w = D.e (41 + 2 * w)
section
variable {G : rt_G} {d : Nat} {Q : rt_Q} {M J : rt_I} {L : rt_L} {r l p q : Nat} {D : DFT} {s : SV} {m : MO}
theorem XD.at (h : XD D J M p) : XD D J (rt_u M 1 2 (nI q)) q := by
  obtain ⟨h1, h2, h3, h4⟩ := h
  exact ⟨h1.u (by decide), rt_u_at, fun j hj => by rw [rt_u_n (Or.inr hj)]; exact h3 j hj, h4⟩
theorem XD.place {v : Int32} (h : XD D J M p) : XD (mkD (D.np + 1) D.nr (upd D.ph D.np v) D.st D.rh D.e) J (rt_u (rt_u M 13 D.np v) 12 6 (nI (D.np + 1))) p := by
  obtain ⟨h1, h2, h3, h4, h5, h6, h7, h8, h9, h10, h11⟩ := h
  refine ⟨(h1.u (by decide)).u (by decide), h2, h3, rt_u_at, ?_, fun j a b => ?_, ?_, h8, h9, h10, h11⟩
  · rw [rt_u1 (by decide)]; exact h5
  · rw [rt_u1 a]; exact h6 j a b
  · rw [rt_u_ne (by decide), rt_u_eq]
    exact h7.snoc
theorem XD.road {a b x y : Int32} (h : XD D J M p) : XD (mkD D.np (D.nr + 1) D.ph (upd D.st D.nr x) (upd D.rh D.nr y) (upd (upd D.e (40 + 2 * D.nr) a) (41 + 2 * D.nr) b)) J (rt_u (rt_u (rt_u (rt_u (rt_u M 18 D.nr a) 19 D.nr b) 14 D.nr x) 15 D.nr y) 12 7 (nI (D.nr + 1))) p := by
  obtain ⟨h1, h2, h3, h4, h5, h6, h7, h8, h9, h10, h11⟩ := h
  refine ⟨((((h1.u (by decide)).u (by decide)).u (by decide)).u (by decide)).u (by decide), h2, h3, ?_, rt_u_at, fun j a b => ?_, h7, ?_, ?_, fun w hw => ?_, fun w hw => ?_⟩
  · rw [rt_u1 (by decide)]; exact h4
  · rw [rt_u1 b]; exact h6 j a b
  · rw [rt_u_ne (by decide), rt_u_ne (by decide), rt_u_eq]
    exact h8.snoc
  · rw [rt_u_ne (by decide), rt_u_eq]
    exact h9.snoc
  · have hw2 : w < D.nr + 1 := hw
    show _ = upd (upd D.e _ _) _ _ _
    rw [rt_u_ne (by decide), rt_u_ne (by decide), rt_u_ne (by decide), rt_u_ne (by decide), upd1 (by omega)]
    by_cases e : w = D.nr
    · subst e; rw [rt_u_at, upd0]
    · rw [rt_u1 e, upd1 (by omega)]; exact h10 w (by omega)
  · have hw2 : w < D.nr + 1 := hw
    show _ = upd (upd D.e _ _) _ _ _
    rw [rt_u_ne (by decide), rt_u_ne (by decide), rt_u_ne (by decide)]
    by_cases e : w = D.nr
    · subst e; rw [rt_u_at, upd0]
    · rw [rt_u1 e, upd1 (by omega), upd1 (by omega), rt_u_ne (by decide)]; exact h11 w (by omega)
theorem sX2_readPlace (h : XD D J M p) (hk : dok s m D) (hl : J 1 3 = nI l) (h8 : l ≤ 76) (hp : p ≤ l) (hz : ch (J 2) l p = 112) (h1 : ∀ M' q D', lnF (ch (J 2) l) p D = (q, some D') → XD D' J M' q → Q 1 M' L r) (h0 : ∀ M' q, lnF (ch (J 2) l) p D = (q, none) → XD D J M' q → Q 0 M' L r) : rt_Call G (d + 3) kX2_readPlace [.ref 12, .ref 1] M L r Q := by
  have k8 := hk.2.1
  have e6 := h.2.2.2.1
  have e2 : M 2 = J 2 := h.1 2 (by decide)
  have el : M 1 3 = nI l := (h.2.2.1 3 (by decide)).trans hl
  refine v_X2_readPlace _ _ _ ⟨fun z => ?_, fun z => tX7_take h.2.1 el (by omega) (by omega) (fun _ => ⟨fun _ => ?_, fun x => absurd x (by decide)⟩) (fun y => absurd (by rw [e2]; exact hz) y)⟩
  · have z2 := (n_le (a := 8) (b := D.np) rfl e6 (by omega) (by omega)).mp z
    exact h0 M p (by unfold lnF; rw [if_pos hz, if_pos z2]) h
  · have z2 := mt (n_le (a := 8) (b := D.np) rfl e6 (by omega) (by omega)).mpr z
    have hA := h.at (q := p + 1)
    have eA : (rt_u M 1 2 (nI (p + 1))) 2 = J 2 := hA.1 2 (by decide)
    refine tX7_takeNumber (p := p + 1) (l := l) (k := 2) (by omega) rt_u_at el (by omega) (by omega) (fun y => ⟨fun x => absurd rfl x, fun _ => ?_⟩) (fun y => ⟨fun _ => ?_, fun x => absurd x nmv_ne⟩)
    · rw [eA] at y
      exact h0 _ (p + 1) (by unfold lnF; rw [if_pos hz, if_neg z2, if_neg y]) hA
    · rw [eA] at y ⊢
      have hB := hA.at (q := (nmv (ch (J 2) l) 2 (p + 1) 0).2)
      have e6B := hB.2.2.2.1
      rw [cl e6B (by omega), e6B, nI_1]
      exact ⟨vp_nI rfl (by omega) (by omega), h1 _ _ _ (by unfold lnF; rw [if_pos hz, if_neg z2, if_pos y]) hB.place⟩
theorem sX2_readRoad (h : XD D J M p) (hk : dok s m D) (hl : J 1 3 = nI l) (h8 : l ≤ 76) (hp : p ≤ l) (hz : ¬ ch (J 2) l p = 112) (h1 : ∀ M' q D', lnF (ch (J 2) l) p D = (q, some D') → XD D' J M' q → Q 1 M' L r) (h0 : ∀ M' q, lnF (ch (J 2) l) p D = (q, none) → XD D J M' q → Q 0 M' L r) : rt_Call G (d + 3) kX2_readRoad [.ref 12, .ref 1] M L r Q := by
  have k8 := hk.2.1
  have k12 := hk.2.2.2.1
  have e7 := h.2.2.2.2.1
  have e2 : M 2 = J 2 := h.1 2 (by decide)
  have el : M 1 3 = nI l := (h.2.2.1 3 (by decide)).trans hl
  have hg : ∀ q, (rt_u M 1 2 (nI q)) 2 = J 2 := fun q => (h.at (q := q)).1 2 (by decide)
  refine v_X2_readRoad _ _ _ ⟨fun z => ?_, fun z => ?_⟩
  · have z2 := (n_le (a := 12) (b := D.nr) rfl e7 (by omega) (by omega)).mp z
    exact h0 M p (by unfold lnF; rw [if_neg hz, if_pos (fun y => y.1 z2)]) h
  have z12 := mt (n_le (a := 12) (b := D.nr) rfl e7 (by omega) (by omega)).mpr z
  refine tX7_take h.2.1 el (by omega) (by omega) (fun y1 => ⟨fun _ => ?_, fun x => absurd x (by decide)⟩) (fun y => ⟨fun x => absurd rfl x, fun _ => ?_⟩)
  rotate_left
  · rw [e2] at y
    exact h0 M p (by unfold lnF; rw [if_neg hz, if_pos (fun x => y x.2)]) h
  rw [e2] at y1
  have g1 : ¬ ¬ (¬ 12 ≤ D.nr ∧ ch (J 2) l p = 114) := not_not_intro ⟨z12, y1⟩
  have hA := h.at (q := p + 1)
  refine tX7_takeLetter (p := p + 1) (l := l) rt_u_at el (by omega) (by omega) hA.2.2.2.1 (fun y => ⟨fun x => ?_, fun _ => ?_⟩) (fun y => ⟨fun _ => ?_, fun x => absurd rfl x⟩)
  · obtain ⟨a, ha, ea⟩ := inb_ex (by omega) y
    rw [ea] at x
    exact absurd x (n_ne1 (by omega))
  rotate_left
  · rw [hg] at y
    exact h0 _ (p + 1) (by unfold lnF; rw [if_neg hz, if_neg g1, if_pos y]) hA
  rw [hg] at y ⊢
  rw [rt_u_u]
  have g2 : ¬ ¬ inb (ch (J 2) l (p + 1) - 97) D.np = true := not_not_intro y
  have hB := h.at (q := p + 2)
  refine tX7_peek (p := p + 2) (l := l) rt_u_at el (by omega) (by omega) ⟨fun x => ?_, fun x => ?_⟩
  rotate_left
  · rw [hg, a97] at x
    exact h0 _ (p + 2) (by unfold lnF; rw [if_neg hz, if_neg g1, if_neg g2, if_pos (fun w => w.2 x)]) hB
  rw [hg, a97] at x
  refine tX7_takeLetter (p := p + 2) (l := l) rt_u_at el (by omega) (by omega) hB.2.2.2.1 (fun y3 => ⟨fun x => ?_, fun _ => ?_⟩) (fun y3 => ⟨fun _ => ?_, fun x => absurd rfl x⟩)
  · obtain ⟨a, ha, ea⟩ := inb_ex (by omega) y3
    rw [ea] at x
    exact absurd x (n_ne1 (by omega))
  rotate_left
  · rw [hg] at y3
    exact h0 _ (p + 2) (by unfold lnF; rw [if_neg hz, if_neg g1, if_neg g2, if_pos (fun w => y3 w.1)]) hB
  rw [hg] at y3 ⊢
  rw [rt_u_u]
  have g3 : ¬ ¬ (inb (ch (J 2) l (p + 2) - 97) D.np = true ∧ ¬ ch (J 2) l (p + 2) = ch (J 2) l (p + 1)) := not_not_intro ⟨y3, x⟩
  have hC := h.at (q := p + 3)
  refine tX7_peek (p := p + 3) (l := l) rt_u_at el (by omega) (by omega) ⟨fun x4 => ?_, fun x4 => ?_⟩
  rotate_left
  · rw [hg] at x4
    exact h0 _ (p + 3) (by unfold lnF; rw [if_neg hz, if_neg g1, if_neg g2, if_neg g3, if_pos (fun w => w.2 x4)]) hC
  rw [hg] at x4
  refine tX7_takeNumber (p := p + 3) (l := l) (k := 1) (by omega) rt_u_at el (by omega) (by omega) (fun y4 => ⟨fun _ => ?_, fun x => absurd rfl x⟩) (fun y4 => ⟨fun x => ?_, fun _ => ?_⟩)
  · rw [hg] at y4
    exact h0 _ (p + 3) (by unfold lnF; rw [if_neg hz, if_neg g1, if_neg g2, if_neg g3, if_pos (fun w => y4 w.1)]) hC
  · exact absurd x nmv_ne1
  rw [hg] at y4 ⊢
  rw [rt_u_u]
  rw [nmv_1 y4]
  have g4 : ¬ ¬ (dg (ch (J 2) l (p + 3)) = true ∧ ¬ ch (J 2) l (p + 3) = 48) := not_not_intro ⟨y4, x4⟩
  have hE := h.at (q := p + 4)
  refine tX7_take (p := p + 4) (l := l) rt_u_at el (by omega) (by omega) (fun y5 => ⟨fun _ => ?_, fun x => absurd x (by decide)⟩) (fun y5 => ⟨fun x => absurd rfl x, fun _ => ?_⟩)
  rotate_left
  · rw [hg] at y5
    exact h0 _ (p + 4) (by unfold lnF; rw [if_neg hz, if_neg g1, if_neg g2, if_neg g3, if_neg g4, if_pos y5]) hE
  rw [hg] at y5
  rw [rt_u_u]
  have g5 : ¬ ¬ ch (J 2) l (p + 4) = 45 := not_not_intro y5
  have hK := h.at (q := p + 5)
  refine tX7_takeNumber (p := p + 5) (l := l) (k := 2) (by omega) rt_u_at el (by omega) (by omega) (fun y6 => ⟨fun x => absurd rfl x, fun _ => ?_⟩) (fun y6 => ⟨fun _ => ?_, fun x => absurd x nmv_ne⟩)
  · rw [hg] at y6
    exact h0 _ (p + 5) (by unfold lnF; rw [if_neg hz, if_neg g1, if_neg g2, if_neg g3, if_neg g4, if_neg g5, if_pos y6]) hK
  rw [hg] at y6 ⊢
  rw [rt_u_u]
  have hN := h.at (q := (nmv (ch (J 2) l) 2 (p + 5) 0).2)
  have e7N := hN.2.2.2.2.1
  have vp : vp_in ((rt_u M 1 2 (nI (nmv (ch (J 2) l) 2 (p + 5) 0).2)) 12 7) 12 := vp_nI e7N (by omega) (by omega)
  refine ⟨vp, vp, vp, vp, ?_⟩
  rw [cl e7N (by omega), e7N, nI_1]
  exact h1 _ _ _ (by unfold lnF; rw [if_neg hz, if_neg g1, if_neg g2, if_neg g3, if_neg g4, if_neg g5, if_neg (not_not_intro y6)]) hN.road
end
