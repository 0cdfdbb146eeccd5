/-! tide(): the class and the model -/
theorem tdF_s {c : Nat → Int32} {F i p : Nat} {td : Nat → Int32} : tdF c (F + 1) i p td = (match rnF c p with
    | (q, none) => (q, none)
    | (q, some t) => if c q = -1 then (q, some (i + 1, td3 td (i * 3) t)) else if i = 2 then (q, none) else if c q = 43 then tdF c F (i + 1) (q + 1) (td3 td (i * 3) t) else (q, none)) := rfl
theorem td3_lo {td : Nat → Int32} {k j : Nat} {t : Int32 × Int32 × Int32} (h : j < k) : td3 td k t j = td j := by
  unfold td3
  rw [upd1 (by omega), upd1 (by omega), upd1 (by omega)]
theorem td3_ag {f g : Nat → Int32} {i : Nat} {t : Int32 × Int32 × Int32} (h : ∀ j, j < 3 * i → f j = g j) : ∀ j, j < 3 * (i + 1) → td3 f (i * 3) t j = td3 g (i * 3) t j := by
  intro j hj
  unfold td3
  by_cases e2 : j = i * 3 + 2
  · subst e2; rw [upd0, upd0]
  by_cases e1 : j = i * 3 + 1
  · subst e1; rw [upd1 (by omega), upd0, upd1 (by omega), upd0]
  by_cases e0 : j = i * 3
  · subst e0; rw [upd1 (by omega), upd1 (by omega), upd0, upd1 (by omega), upd1 (by omega), upd0]
  rw [upd1 e2, upd1 e1, upd1 e0, upd1 e2, upd1 e1, upd1 e0]
  exact h j (by omega)
def XQ (J M : rt_I) (p i : Nat) (td : Nat → Int32) : Prop := Fr M J [1, 3, 5] ∧ M 1 2 = nI p ∧ (∀ j, j ≠ 2 → M 1 j = J 1 j) ∧ M 3 3 = nI i ∧ (∀ j, j ≠ 3 → M 3 j = J 3 j) ∧ ∀ j, j < 3 * i → M 5 j = td j
section
variable {G : rt_G} {d : Nat} {Q : rt_Q} {M I J : rt_I} {L : rt_L} {r l p k : Nat} {td : Nat → Int32}
theorem sX8_rounds (hl : J 1 3 = nI l) (h8 : l ≤ 80) : ∀ (F i p : Nat) (td : Nat → Int32) (M : rt_I), i + F = 3 → 1 ≤ F → XQ J M p i td → p ≤ l →
    (∀ M' q k td', tdF (ch (J 2) l) F i p td = (q, some (k, td')) → XQ J M' q k td' → 1 ≤ k ∧ k ≤ 3 → Q 1 M' L r) →
    (∀ M' q, tdF (ch (J 2) l) F i p td = (q, none) → Fr M' J [1, 3, 5] → M' 1 2 = nI q → (∀ j, j ≠ 3 → M' 3 j = J 3 j) → Q 0 M' L r) →
    rt_AW G (d + 5) kX8_readRounds Q 7 [some (.ref 3), some (.ref 1), some (.int (nI i))] [] M L r := by
  intro F
  induction F with
  | zero => intro i p td M _ h; omega
  | succ F ih =>
    intro i p td M hi _ hX hp hQ1 hQ0
    obtain ⟨x1, x2, x3, x4, x5, x6⟩ := hX
    have e2 : M 2 = J 2 := x1 2 (by decide)
    refine v_X8_readRounds_7 _ _ _ _ ⟨fun z => ?_, fun _ => ?_⟩
    · have := (n_le (a := 3) (b := i) rfl rfl (by omega) (by omega)).mp z
      omega
    rw [tdF_s] at hQ1 hQ0
    have hP : XPt M M p := ⟨Fr.refl _ _, x2, fun _ _ => rfl⟩
    refine sX8_readRound (d := d) hP ((x3 3 (by decide)).trans hl) h8 hp (n_ml i 3) (by omega) (fun q t M' hq hX' h5 => ⟨fun _ => ?_, fun z => absurd z (by decide)⟩) (fun q M' hq hX' => ⟨fun z => absurd rfl z, fun _ => ?_⟩)
    rotate_left
    · rw [e2] at hq
      rw [hq] at hQ0
      exact hQ0 M' q rfl ((hX'.1.mono (by decide)).trans x1) hX'.2.1 (fun j hj => by rw [hX'.1 3 (by decide)]; exact x5 j hj)
    rw [e2] at hq
    have hql := rnF_lim hp hq
    rw [hq] at hQ1 hQ0
    dsimp only at hQ1 hQ0
    have e33 : M' 3 3 = nI i := by rw [hX'.1 3 (by decide)]; exact x4
    rw [e33, nI_1]
    have hB : XQ J (rt_u M' 3 3 (nI (i + 1))) q (i + 1) (td3 td (i * 3) t) := by
      refine ⟨((hX'.1.mono (by decide)).trans x1).u (by decide), hX'.2.1, fun j hj => (hX'.2.2 j hj).trans (x3 j hj), rt_u_at, fun j hj => ?_, fun j hj => ?_⟩
      · rw [rt_u1 hj, hX'.1 3 (by decide)]; exact x5 j hj
      · rw [rt_u_ne (by decide), h5 j]
        exact td3_ag x6 j hj
    have eB : (rt_u M' 3 3 (nI (i + 1))) 2 = J 2 := hB.1 2 (by decide)
    refine tX7_peek (p := q) (l := l) hB.2.1 ((hB.2.2.1 3 (by decide)).trans hl) (by omega) (by omega) ⟨fun y => ⟨fun z => ?_, fun z => ?_⟩, fun y => ?_⟩
    · rw [eB] at y
      have hi2 : i = 2 := (n_eq (a := i) (b := 2) rfl rfl (by omega) (by omega)).mp z
      rw [if_neg y, if_pos hi2] at hQ0
      exact hQ0 _ q rfl hB.1 hB.2.1 hB.2.2.2.2.1
    · rw [eB] at y
      have hi2 : ¬ i = 2 := mt (n_eq (a := i) (b := 2) rfl rfl (by omega) (by omega)).mpr z
      rw [if_neg y, if_neg hi2] at hQ1 hQ0
      refine tX7_take (p := q) (l := l) hB.2.1 ((hB.2.2.1 3 (by decide)).trans hl) (by omega) (by omega) (fun y2 => ⟨fun _ => ?_, fun x => absurd x (by decide)⟩) (fun y2 => ⟨fun x => absurd rfl x, fun _ => ?_⟩)
      · rw [eB] at y2
        rw [if_pos y2] at hQ1 hQ0
        have i1 := ch_in (f := J 2) (l := l) (p := q) y
        refine ih (i + 1) (q + 1) _ _ (by omega) (by omega) ⟨hB.1.u (by decide), rt_u_at, fun j hj => ?_, ?_, fun j hj => ?_, fun j hj => ?_⟩ (by omega) hQ1 hQ0
        · rw [rt_u1 hj]; exact hB.2.2.1 j hj
        · rw [rt_u2 (by decide)]; exact hB.2.2.2.1
        · rw [rt_u2 (by decide)]; exact hB.2.2.2.2.1 j hj
        · rw [rt_u2 (by decide)]; exact hB.2.2.2.2.2 j hj
      · rw [eB] at y2
        rw [if_neg y2] at hQ0
        exact hQ0 _ q rfl hB.1 hB.2.1 hB.2.2.2.2.1
    · rw [eB] at y
      rw [if_pos y] at hQ1
      exact hQ1 _ q (i + 1) _ rfl hB ⟨by omega, by omega⟩
end
section
variable {G : rt_G} {d : Nat} {Q : rt_Q} {I : rt_I} {L : rt_L} {r : Nat}
variable {B : Nat} {s : SV} {m : MO} {us : List MO} {kp : Nat → Option MO} {mk : MKT} {row : List Int32} {tx : TXT}
theorem fTide_f {q : Nat} (h : tdF (txc tx 80) 3 0 0 (fun _ => 0) = (q, none)) : fTide s tx = (-1 - nI q, s) := by unfold fTide; rw [h]
theorem fTide_t {q k : Nat} {td : Nat → Int32} (h : tdF (txc tx 80) 3 0 0 (fun _ => 0) = (q, some (k, td))) : fTide s tx = (nI k, sTd s k td) := by unfold fTide; rw [h]
theorem XI.tideR {M : rt_I} (h : XI s m us kp mk row tx I) (hf : Fr M I [1, 3, 5]) (h3 : ∀ j, j ≠ 3 → M 3 j = I 3 j) (h1 : M 1 1 = 0) : XI s m us kp mk row (0, tx.2) M := by
  obtain ⟨a1, a2, a3, a4, a5, a6, a7⟩ := h
  exact ⟨a1.fr ⟨by rw [hf 12 (by decide)], by rw [hf 12 (by decide)]⟩ (by rw [hf 16 (by decide)]) (h3 2 (by decide)) (hf 4 (by decide)) (hf 13 (by decide)) (hf 14 (by decide)) (hf 15 (by decide)) (by rw [hf 6 (by decide)]) (hf 7 (by decide)) (by rw [hf 20 (by decide)]),
    a2.fr (by rw [hf 16 (by decide)]) (hf 17 (by decide)) (hf 18 (by decide)) (hf 19 (by decide)), a3.fr (hf 21 (by decide)) (fun c a b => hf c (fun z => by simp only [List.mem_cons, List.not_mem_nil, or_false] at z; omega)), a4.fr (hf 24 (by decide)) (fun c a b => hf c (fun z => by simp only [List.mem_cons, List.not_mem_nil, or_false] at z; omega)),
    a5.fr (by rw [hf 38 (by decide)]) (hf 39 (by decide)) (hf 40 (by decide)), a6.fr (by rw [hf 42 (by decide)]) (hf 43 (by decide)), h1, fun j hj => absurd hj (by omega)⟩
theorem XI.tideA {M : rt_I} {k : Nat} {td : Nat → Int32} (h : XI s m us kp mk row tx I) (hf : Fr M I [1, 3, 4, 5]) (h3 : M 3 2 = nI k) (h4 : AG (3 * k) (M 4) td) (h1 : M 1 1 = 0) : XI (sTd s k td) m us kp mk row (0, tx.2) M := by
  obtain ⟨⟨b1, b2, b3, b4, b5, b6, b7, b8, b9, b10⟩, a2, a3, a4, a5, a6, a7⟩ := h
  have e3 := a3.fr (hf 21 (by decide)) (fun c a b => hf c (fun z => by simp only [List.mem_cons, List.not_mem_nil, or_false] at z; omega))
  have e4 := a4.fr (hf 24 (by decide)) (fun c a b => hf c (fun z => by simp only [List.mem_cons, List.not_mem_nil, or_false] at z; omega))
  have e2 := a2.fr (by rw [hf 16 (by decide)]) (hf 17 (by decide)) (hf 18 (by decide)) (hf 19 (by decide))
  refine ⟨⟨?_, ?_, ?_, h3, h4, ?_, ?_, ?_, b9.fr (by rw [hf 6 (by decide)]) (hf 7 (by decide)), ?_⟩, e2, e3, e4, a5.fr (by rw [hf 38 (by decide)]) (hf 39 (by decide)) (hf 40 (by decide)), a6.fr (by rw [hf 42 (by decide)]) (hf 43 (by decide)), h1, fun j hj => absurd hj (by omega)⟩
  · rw [hf 12 (by decide)]; exact b1
  · rw [hf 12 (by decide)]; exact b2
  · rw [hf 16 (by decide)]; exact b3
  · rw [hf 13 (by decide)]; exact b6
  · rw [hf 14 (by decide)]; exact b7
  · rw [hf 15 (by decide)]; exact b8
  · rw [hf 20 (by decide)]; exact b10
theorem fX_tide (h : XI s m us kp mk row tx I) (hT : tok tx) (hQ : ∀ M, XI (fTide s tx).2 m us kp mk row (0, tx.2) M → (∀ c, 108 ≤ c → M c = I c) → Q (fTide s tx).1 M L r) : rt_Call G (d + 6) kX11_tide [.ref 0] I L r Q := by
  obtain ⟨hn, hch⟩ := h.2.2.2.2.2.2
  have h80 := hT.1
  refine v_X11_tide _ _ _ (sX7_open (m := 80) hn (by omega) (by omega) ?_)
  obtain ⟨l, hl⟩ : ∃ l, l = min tx.1 80 := ⟨_, rfl⟩
  rw [← hl]
  obtain ⟨A, hA⟩ : ∃ A, A = xp (rt_u I 1 3 (nI l)) 0 := ⟨_, rfl⟩
  rw [← hA]
  have hfA : Fr A I [1] := by rw [hA]; exact ((Fr.refl I _).u (by decide)).u (by decide)
  have eA3 : A 1 3 = nI l := by rw [hA]; rfl
  have eA4 : A 1 2 = nI 0 := by rw [hA]; rfl
  obtain ⟨J, hJ⟩ : ∃ J, J = rt_u A 3 3 0 := ⟨_, rfl⟩
  have hJI : Fr J I [1, 3] := by rw [hJ]; exact (hfA.mono (by decide)).u (by decide)
  have hJ3 : ∀ j, j ≠ 3 → J 3 j = I 3 j := fun j hj => by rw [hJ, rt_u1 hj, hfA 3 (by decide)]
  have j1 : J 1 = A 1 := by rw [hJ, rt_u_ne (by decide)]
  have hcc : ch (J 2) l = txc tx 80 := by
    unfold txc
    rw [← hl, hJI 2 (by decide)]
    exact ch_agr hch (by omega)
  have hX0 : XQ J J 0 0 (fun _ => 0) := ⟨Fr.refl _ _, by rw [j1]; exact eA4, fun _ _ => rfl, by rw [hJ]; rfl, fun _ _ => rfl, fun j hj => absurd hj (by omega)⟩
  refine v_X8_readRounds _ _ _ ?_
  rw [← hJ]
  refine sX8_rounds (l := l) (by rw [j1]; exact eA3) (by omega) 3 0 0 (fun _ => 0) J (by omega) (by omega) hX0 (by omega) (fun M' q k td he hX hk => ?_) (fun M' q he hF hp h3 => ?_)
  · rw [hcc] at he
    rw [fTide_t he] at hQ
    refine sX7_clear ⟨fun _ => v_X8_accept _ _ _ ?_, fun z => absurd z (by decide)⟩
    obtain ⟨x1, x2, x3, x4, x5, x6⟩ := hX
    have e33 : (rt_u M' 1 1 0) 3 3 = nI k := x4
    rw [e33]
    have hfin := (((x1.mono (by decide)).trans (hJI.mono (by decide)) : Fr M' I [1, 3, 4, 5]).u (c := 1) (j := 1) (v := 0) (by decide)).uA (c := 4) (f := va_cpy ((rt_u M' 1 1 0) 5) ((rt_u M' 1 1 0) 4) 0 0 9) (by decide) |>.u (c := 3) (j := 2) (v := nI k) (by decide)
    have hv : (rt_u (rt_uA (rt_u M' 1 1 0) 4 (va_cpy ((rt_u M' 1 1 0) 5) ((rt_u M' 1 1 0) 4) 0 0 9)) 3 2 (nI k)) 3 2 = nI k := rt_u_at
    rw [hv]
    refine hQ _ (h.tideA hfin rt_u_at (fun j hj => ?_) ?_) (hfin.hi (by decide))
    · rw [rt_u_ne (by decide), rt_uA_eq]
      unfold va_cpy
      rw [if_pos ⟨by omega, by omega⟩, Nat.sub_zero, Nat.zero_add, rt_u_ne (by decide)]
      exact x6 j hj
    · rw [rt_u2 (by decide), rt_uA_ne (by decide), rt_u_at]
  · rw [hcc] at he
    rw [fTide_f he] at hQ
    refine sX7_clear ⟨fun z => absurd rfl z, fun _ => ?_⟩
    rw [hp]
    have hfin := ((hF.trans (hJI.mono (by decide))).u (c := 1) (j := 1) (v := 0) (by decide))
    refine hQ _ (h.tideR hfin (fun j hj => ?_) rt_u_at) (hfin.hi (by decide))
    rw [rt_u_ne (by decide), h3 j hj, hJ3 j hj]
end
