/-! flats(): the class -/
def dft0 (s : SV) (m : MO) : DFT := mkD s.np s.nr s.ph s.st s.rh m
def rdFl (n : Nat) (c : Nat → Int32) (D : DFT) : Int32 × Option DFT := match lnsF c 81 0 1 D with
  | (q, none) => (-1 - nI q, none)
  | (q, some (k, D')) => if q = n then (nI k, some D') else (-1 - nI q, none)
def sD (s : SV) (D : DFT) : SV := mkS D.np D.nr s.nc s.nd s.td D.ph D.st D.rh s.RV s.pat
abbrev STT : Type := Int32 × SV × MO × List MO × (Nat → Option MO)
def fFlats (s : SV) (m : MO) (us : List MO) (kp : Nat → Option MO) (tx : TXT) : STT :=
  if tx.1 = 0 then (0, s, m, us, kp) else match rdFl tx.1 (txc tx 76) (dft0 s m) with
  | (v, none) => (v, s, m, us, kp)
  | (v, some D) => (v, sD s D, D.e, [], fun _ => none)
theorem dok_0 {s : SV} {m : MO} (hk : sok s) : dok s m (dft0 s m) :=
  ⟨Nat.le_refl _, hk.1, Nat.le_refl _, hk.2.1, AG.refl _ _, AG.refl _ _, AG.refl _ _, fun _ _ => rfl, fun w a b => absurd b (by show ¬ w < s.nr; omega)⟩
section
variable {s : SV} {m : MO} {us : List MO} {kp : Nat → Option MO} {mk : MKT} {row : List Int32} {tx : TXT} {M N I J : rt_I} {D : DFT} {p q k n : Nat} {c : Nat → Int32}
theorem fFlats_0 (h : tx.1 = 0) : fFlats s m us kp tx = (0, s, m, us, kp) := by unfold fFlats; rw [if_pos h]
theorem fFlats_f (h : ¬ tx.1 = 0) (h2 : lnsF (txc tx 76) 81 0 1 (dft0 s m) = (q, none)) : fFlats s m us kp tx = (-1 - nI q, s, m, us, kp) := by unfold fFlats rdFl; rw [if_neg h, h2]
theorem fFlats_g (h : ¬ tx.1 = 0) (h2 : lnsF (txc tx 76) 81 0 1 (dft0 s m) = (q, some (k, D))) (h3 : ¬ q = tx.1) : fFlats s m us kp tx = (-1 - nI q, s, m, us, kp) := by unfold fFlats rdFl; rw [if_neg h, h2]; dsimp only; rw [if_neg h3]
theorem fFlats_t (h : ¬ tx.1 = 0) (h2 : lnsF (txc tx 76) 81 0 1 (dft0 s m) = (q, some (k, D))) (h3 : q = tx.1) : fFlats s m us kp tx = (nI k, sD s D, D.e, [], fun _ => none) := by unfold fFlats rdFl; rw [if_neg h, h2]; dsimp only; rw [if_pos h3]
theorem lnsF_s {F : Nat} : lnsF c (F + 1) p k D = (match lnF c p D with
    | (q, none) => (q, none)
    | (q, some D') => if c q = 59 then lnsF c F (q + 1) (k + 1) D' else if c q = -1 then (q, some (k, D')) else (q, none)) := rfl
theorem AG.le {a b : Nat} {f g : Nat → Int32} (h : AG a f g) (hb : b ≤ a) : AG b f g := fun j hj => h j (by omega)
theorem XI.rej (h : XI s m us kp mk row tx I) (hX : XD D J M p) (hJ : Fr J I [1, 12]) (hJ1 : J 12 1 = I 12 1) (hJ2 : J 12 2 = I 12 2) (hk : dok s m D) : XI s m us kp mk row (0, tx.2) (rt_u M 1 1 0) := by
  obtain ⟨⟨b1, b2, b3, b4, b5, b6, b7, b8, b9, b10⟩, ⟨o1, o2, o3, o4⟩, a3, a4, a5, a6, a7⟩ := h
  obtain ⟨x1, x2, x3, x4, x5, x6, x7, x8, x9, x10, x11⟩ := hX
  obtain ⟨k1, k2, k3, k4, k5, k6, k7, k8, k9⟩ := hk
  have hf : Fr (rt_u M 1 1 0) I [1, 12, 13, 14, 15, 18, 19] := (x1.trans (hJ.mono (by decide))).u (by decide)
  refine ⟨⟨?_, ?_, ?_, ?_, ?_, ?_, ?_, ?_, b9.fr (by rw [hf 6 (by decide)]) (hf 7 (by decide)), ?_⟩, ⟨?_, ?_, fun w hw => ?_, fun w hw => ?_⟩, a3.fr (hf 21 (by decide)) (fun c a b => hf c (fun z => by simp only [List.mem_cons, List.not_mem_nil, or_false] at z; omega)), a4.fr (hf 24 (by decide)) (fun c a b => hf c (fun z => by simp only [List.mem_cons, List.not_mem_nil, or_false] at z; omega)),
    a5.fr (by rw [hf 38 (by decide)]) (hf 39 (by decide)) (hf 40 (by decide)), a6.fr (by rw [hf 42 (by decide)]) (hf 43 (by decide)), rt_u_at, fun j hj => absurd hj (by omega)⟩
  · rw [rt_u_ne (by decide)]; exact (x6 1 (by decide) (by decide)).trans (hJ1.trans b1)
  · rw [rt_u_ne (by decide)]; exact (x6 2 (by decide) (by decide)).trans (hJ2.trans b2)
  · rw [hf 16 (by decide)]; exact b3
  · rw [hf 3 (by decide)]; exact b4
  · rw [hf 4 (by decide)]; exact b5
  · rw [rt_u_ne (by decide)]; exact (x7.le k1).trans k5
  · rw [rt_u_ne (by decide)]; exact (x8.le k3).trans k6
  · rw [rt_u_ne (by decide)]; exact (x9.le k3).trans k7
  · rw [hf 20 (by decide)]; exact b10
  · rw [hf 16 (by decide)]; exact o1
  · rw [hf 17 (by decide)]; exact o2
  · rw [rt_u_ne (by decide)]
    exact (x10 w (by omega)).trans (k8 _ (Or.inl (by omega)))
  · rw [rt_u_ne (by decide)]
    exact (x11 w (by omega)).trans (k8 _ (Or.inl (by omega)))
theorem XI.acc (h : XI s m us kp mk row tx I) (hX : XD D J M p) (hJ : Fr J I [1, 12]) (hk : dok s m D) (hs : sok s) (hN : ∀ c, c ≠ 21 → c ≠ 24 → N c = (rt_u (rt_u (rt_u M 1 1 0) 12 1 (nI D.np)) 12 2 (nI D.nr)) c) (h4 : ∃ f, f < 13 ∧ N 21 4 = nI f) (h5 : N 21 5 = 0) (h6 : N 24 0 = 0) (h7 : N 24 1 = 0) : XI (sD s D) D.e [] (fun _ => none) mk row (0, tx.2) N := by
  obtain ⟨⟨b1, b2, b3, b4, b5, b6, b7, b8, b9, b10⟩, ⟨o1, o2, o3, o4⟩, a3, a4, a5, a6, a7⟩ := h
  obtain ⟨x1, x2, x3, x4, x5, x6, x7, x8, x9, x10, x11⟩ := hX
  obtain ⟨k1, k2, k3, k4, k5, k6, k7, k8, k9⟩ := hk
  have hf : ∀ c, c ∉ [1, 12, 13, 14, 15, 18, 19, 21, 24] → N c = I c := fun c hc => by
    simp only [List.mem_cons, List.not_mem_nil, or_false, not_or] at hc
    rw [hN c hc.2.2.2.2.2.2.2.1 hc.2.2.2.2.2.2.2.2, rt_u_ne hc.2.1, rt_u_ne hc.2.1, rt_u_ne hc.1, x1 c (by simp only [List.mem_cons, List.not_mem_nil, or_false]; omega), hJ c (by simp only [List.mem_cons, List.not_mem_nil, or_false]; omega)]
  have hg : ∀ c, c ≠ 1 → c ≠ 12 → c ≠ 21 → c ≠ 24 → N c = M c := fun c c1 c2 c3 c4 => by rw [hN c c3 c4, rt_u_ne c2, rt_u_ne c2, rt_u_ne c1]
  obtain ⟨f, f1, f2⟩ := h4
  refine ⟨⟨?_, ?_, ?_, ?_, ?_, ?_, ?_, ?_, b9.fr (by rw [hf 6 (by decide)]) (hf 7 (by decide)), ?_⟩, ⟨?_, ?_, fun w hw => ?_, fun w hw => ?_⟩, ⟨by show 0 ≤ 12; omega, f, f1, f2, h5, fun j u hu => by simp at hu⟩, fun i hi => ⟨fun _ => ?_, fun u hu => by cases hu⟩,
    a5.fr (by rw [hf 38 (by decide)]) (hf 39 (by decide)) (hf 40 (by decide)), a6.fr (by rw [hf 42 (by decide)]) (hf 43 (by decide)), ?_, fun j hj => absurd hj (by omega)⟩
  · rw [hN 12 (by decide) (by decide), rt_u1 (by decide), rt_u_at]; rfl
  · rw [hN 12 (by decide) (by decide), rt_u_at]; rfl
  · rw [hf 16 (by decide)]; exact b3
  · rw [hf 3 (by decide)]; exact b4
  · rw [hf 4 (by decide)]; exact b5
  · rw [hg 13 (by decide) (by decide) (by decide) (by decide)]; exact x7
  · rw [hg 14 (by decide) (by decide) (by decide) (by decide)]; exact x8
  · rw [hg 15 (by decide) (by decide) (by decide) (by decide)]; exact x9
  · rw [hf 20 (by decide)]; exact b10
  · rw [hf 16 (by decide)]; exact o1.trans (k8 64 (Or.inr (by omega))).symm
  · rw [hf 17 (by decide)]
    refine AG.trans o2 (fun j hj => (k8 j (Or.inl ?_)).symm)
    have := hs.2.2.1
    have hj2 : j < 8 * s.nc := hj
    omega
  · rw [hg 18 (by decide) (by decide) (by decide) (by decide)]; exact x10 w hw
  · rw [hg 19 (by decide) (by decide) (by decide) (by decide)]; exact x11 w hw
  · match i with
    | 0 => exact h6
    | 1 => exact h7
    | i + 2 => omega
  · rw [hN 1 (by decide) (by decide), rt_u2 (by decide), rt_u2 (by decide), rt_u_at]
    rfl
end
section
variable {G : rt_G} {d : Nat} {Q : rt_Q} {I J : rt_I} {L : rt_L} {r l : Nat}
variable {s : SV} {m : MO} {us : List MO} {kp : Nat → Option MO} {mk : MKT} {row : List Int32} {tx : TXT}
theorem sX2_lines (hc : c8 (ch (J 2) l)) (hl : J 1 3 = nI l) (h8 : l ≤ 76) : ∀ (F p k : Nat) (D : DFT) (M : rt_I), XD D J M p → dok s m D → p ≤ l → 81 ≤ p + F → 1 ≤ k → k ≤ p + 1 →
    (∀ M' q k' D', lnsF (ch (J 2) l) F p k D = (q, some (k', D')) → XD D' J M' q → dok s m D' → q ≤ l → 1 ≤ k' ∧ k' ≤ 81 → Q (nI k') M' L r) →
    (∀ M' q D', lnsF (ch (J 2) l) F p k D = (q, none) → XD D' J M' q → dok s m D' → q ≤ l → Q (-1) M' L r) →
    rt_AW G (d + 4) kX2_readFlats Q 27 [some (.ref 12), some (.ref 1), some (.int (nI k)), none, none] [] M L r := by
  intro F
  induction F with
  | zero => intro p k D M _ _ _ _ _ _ _ _; omega
  | succ F ih =>
    intro p k D M hX hk hp hF hk1 hkp hQ1 hQ0
    have e2 : M 2 = J 2 := hX.1 2 (by decide)
    have el : M 1 3 = nI l := (hX.2.2.1 3 (by decide)).trans hl
    have tail : ∀ M' q D', lnF (ch (J 2) l) p D = (q, some D') → XD D' J M' q → rt_Call G (d + 3) kX7_behindLine [.ref 1] M' L r (fun v3 I3 L3 r3 =>
        ((v3 = 1 → rt_AW G (d + 4) kX2_readFlats Q 27 [some (.ref 12), some (.ref 1), some (.int (nI k + 1)), none, none] [] I3 L3 r3) ∧ (¬ v3 = 1 → ((¬ v3 = 0 → Q (-1) I3 L3 r3) ∧ (v3 = 0 → Q (nI k) I3 L3 r3))))) := by
      intro M' q D' hq hX'
      obtain ⟨q1, q2, q3⟩ := lnF_pos hp hq
      have q4 := q3 (by simp)
      obtain ⟨hk', -⟩ := lnF_ok hc hk hq
      have e2' : M' 2 = J 2 := hX'.1 2 (by decide)
      have el' : M' 1 3 = nI l := (hX'.2.2.1 3 (by decide)).trans hl
      rw [lnsF_s, hq] at hQ1 hQ0
      dsimp only at hQ1 hQ0
      refine tX7_behindLine hX'.2.1 el' (by omega) (by omega) (fun y => ⟨fun _ => ?_, fun z => absurd rfl z⟩) (fun y => ⟨fun z => absurd z (by decide), fun _ => ⟨fun z => absurd rfl z, fun _ => ?_⟩⟩) (fun y1 y2 => ⟨fun z => absurd z (by decide), fun _ => ⟨fun _ => ?_, fun z => absurd z (by decide)⟩⟩)
      · rw [e2'] at y
        have hlt := ch_in (f := J 2) (l := l) (p := q) (by rw [y]; decide)
        rw [if_pos y] at hQ1 hQ0
        rw [nI_1]
        exact ih (q + 1) (k + 1) D' _ hX'.at hk' (by omega) (by omega) (by omega) (by omega) hQ1 hQ0
      · rw [e2'] at y
        rw [if_neg (by rw [y]; decide), if_pos y] at hQ1
        exact hQ1 M' q k D' rfl hX' hk' q1 ⟨by omega, by omega⟩
      · rw [e2'] at y1 y2
        rw [if_neg y1, if_neg y2] at hQ0
        exact hQ0 M' q D' rfl hX' hk' q1
    have bad : ∀ M' q, lnF (ch (J 2) l) p D = (q, none) → XD D J M' q → Q (-1) M' L r := by
      intro M' q hq hX'
      obtain ⟨q1, q2, q3⟩ := lnF_pos hp hq
      rw [lnsF_s, hq] at hQ0
      exact hQ0 M' q D rfl hX' hk q1
    refine v_X2_readFlats_27 _ _ _ _ ⟨fun z => ?_, fun _ => tX7_peek hX.2.1 el (by omega) (by omega) ⟨fun y => ?_, fun y => ?_⟩⟩
    · have := (n_lt (a := 80) (b := k) rfl rfl (by omega) (by omega)).mp z
      omega
    · rw [e2] at y
      exact sX2_readRoad hX hk hl h8 hp y (fun M' q D' hq hX' => ⟨fun _ => tail M' q D' hq hX', fun z => absurd z (by decide)⟩) (fun M' q hq hX' => ⟨fun z => absurd rfl z, fun _ => bad M' q hq hX'⟩)
    · rw [e2] at y
      exact sX2_readPlace hX hk hl h8 hp y (fun M' q D' hq hX' => ⟨fun _ => tail M' q D' hq hX', fun z => absurd z (by decide)⟩) (fun M' q hq hX' => ⟨fun z => absurd rfl z, fun _ => bad M' q hq hX'⟩)
theorem fX_flats (h : XI s m us kp mk row tx I) (hs : sok s) (hT : tok tx) (hQ : ∀ M, XI (fFlats s m us kp tx).2.1 (fFlats s m us kp tx).2.2.1 (fFlats s m us kp tx).2.2.2.1 (fFlats s m us kp tx).2.2.2.2 mk row (0, tx.2) M → (∀ c, 108 ≤ c → M c = I c) → Q (fFlats s m us kp tx).1 M L r) : rt_Call G (d + 5) kX11_flats [.ref 0] I L r Q := by
  obtain ⟨hn, hch⟩ := h.2.2.2.2.2.2
  have h80 := hT.1
  have hs8 := hs.1
  have hs12 := hs.2.1
  refine v_X11_flats _ _ _ (sX7_open (m := 76) hn (by omega) (by omega) ?_)
  obtain ⟨l, hl⟩ : ∃ l, l = min tx.1 76 := ⟨_, rfl⟩
  rw [← hl]
  obtain ⟨A, hA⟩ : ∃ A, A = xp (rt_u I 1 3 (nI l)) 0 := ⟨_, rfl⟩
  rw [← hA]
  have hfA : Fr A I [1] := by rw [hA]; exact ((Fr.refl I _).u (by decide)).u (by decide)
  have eA1 : A 1 1 = nI tx.1 := by rw [hA]; exact hn
  have eA3 : A 1 3 = nI l := by rw [hA]; rfl
  have eA4 : A 1 2 = nI 0 := by rw [hA]; rfl
  have eA12 : A 12 = I 12 := hfA 12 (by decide)
  obtain ⟨J, hJ⟩ : ∃ J, J = rt_u (rt_u A 12 6 (A 12 1)) 12 7 (A 12 2) := ⟨_, rfl⟩
  have hJA : Fr J A [12] := by rw [hJ]; exact ((Fr.refl A _).u (by decide)).u (by decide)
  have hJI : Fr J I [1, 12] := (hJA.mono (by decide)).trans (hfA.mono (by decide))
  have j1 : J 1 = A 1 := hJA 1 (by decide)
  have j12 : J 12 1 = I 12 1 := by rw [hJ, ← eA12]; rfl
  have j122 : J 12 2 = I 12 2 := by rw [hJ, ← eA12]; rfl
  have hcc : ch (J 2) l = txc tx 76 := by
    unfold txc
    rw [← hl, hJI 2 (by decide)]
    exact ch_agr hch (by omega)
  have hX0 : XD (dft0 s m) J J 0 := by
    obtain ⟨⟨b1, b2, b3, b4, b5, b6, b7, b8, b9, b10⟩, ⟨o1, o2, o3, o4⟩, -⟩ := h
    refine ⟨Fr.refl _ _, by rw [j1]; exact eA4, fun _ _ => rfl, ?_, ?_, fun _ _ _ => rfl, ?_, ?_, ?_, ?_, ?_⟩
    · rw [hJ, rt_u1 (by decide), rt_u_at, eA12]; exact b1
    · rw [hJ, rt_u_at, eA12]; exact b2
    · rw [hJI 13 (by decide)]; exact b6
    · rw [hJI 14 (by decide)]; exact b7
    · rw [hJI 15 (by decide)]; exact b8
    · rw [hJI 18 (by decide)]; exact o3
    · rw [hJI 19 (by decide)]; exact o4
  have hrej : ∀ M' q D', XD D' J M' q → dok s m D' → fFlats s m us kp tx = (-1 - nI q, s, m, us, kp) → Q (-1 - M' 1 2) (rt_u M' 1 1 0) L r := by
    intro M' q D' hX' hk' e
    rw [e] at hQ
    rw [hX'.2.1]
    refine hQ _ (h.rej hX' hJI j12 j122 hk') (fun c hc => ?_)
    have : Fr (rt_u M' 1 1 0) I [1, 12, 13, 14, 15, 18, 19] := (hX'.1.trans (hJI.mono (by decide))).u (by decide)
    exact this.hi (by decide) c hc
  refine v_X2_readFlats _ _ _ ⟨fun z => ?_, fun z => ?_⟩
  · have hn0 : ¬ tx.1 = 0 := fun e => z (by rw [eA1, e]; rfl)
    rw [← hJ]
    refine sX2_lines (s := s) (m := m) (by rw [hcc]; exact c8_tx hT 76) (by rw [j1]; exact eA3) (by omega) 81 0 1 (dft0 s m) J hX0 (dok_0 hs) (by omega) (by omega) (by omega) (by omega) (fun M' q k' D' he hX' hk' hq hk81 => ⟨fun y => absurd y (n_neg (by omega)), fun _ => ?_⟩) (fun M' q D' he hX' hk' hq => ⟨fun _ => ?_, fun y => absurd (by decide) y⟩)
    · rw [hcc] at he
      have e11 : M' 1 1 = nI tx.1 := (hX'.2.2.1 1 (by decide)).trans (by rw [j1]; exact eA1)
      refine v_X7_isAllRead _ _ _ ⟨fun y => ⟨fun _ => sX7_clear ?_, fun w => absurd rfl w⟩, fun y => ⟨fun w => absurd w (by decide), fun _ => sX7_clear ?_⟩⟩
      · exact hrej M' q D' hX' hk' (fFlats_g hn0 he (fun e => y (by rw [hX'.2.1, e11, e])))
      · have eq : q = tx.1 := by
          rw [hX'.2.1, e11] at y
          exact (nI_eq (by omega) (by omega)).mp y
        rw [fFlats_t hn0 he eq] at hQ
        refine ⟨fun w => ?_, fun w => v_X2_acceptFlats _ _ _ (wX1_forgetAll (us := us) (s := s) ?_ (fun N hN h4 h5 h6 h7 => ?_))⟩
        · have := (n_le (a := k') (b := 0) rfl rfl (by omega) (by omega)).mp w
          omega
        · have hb := (h.rej hX' hJI j12 j122 hk').2.2.1
          exact hb.fr (by rw [rt_u_ne (by decide), rt_u_ne (by decide)]) (fun c a b => by rw [rt_u_ne (by omega), rt_u_ne (by omega)])
        · have e6 : (rt_u M' 1 1 0) 12 6 = nI D'.np := hX'.2.2.2.1
          have e7 : (rt_u M' 1 1 0) 12 7 = nI D'.nr := hX'.2.2.2.2.1
          have hN2 : ∀ c, c ≠ 21 → c ≠ 24 → N c = (rt_u (rt_u (rt_u M' 1 1 0) 12 1 (nI D'.np)) 12 2 (nI D'.nr)) c := fun c c1 c2 => by rw [hN c c1 c2, e6, e7]
          refine hQ N (h.acc hX' hJI hk' hs hN2 h4 h5 h6 h7) (fun c hc => ?_)
          rw [hN2 c (by omega) (by omega), rt_u_ne (by omega), rt_u_ne (by omega), rt_u_ne (by omega), hX'.1 c (by simp only [List.mem_cons, List.not_mem_nil, or_false]; omega), hJI c (by simp only [List.mem_cons, List.not_mem_nil, or_false]; omega)]
    · rw [hcc] at he
      exact sX7_clear (hrej M' q D' hX' hk' (fFlats_f hn0 he))
  · have hn0 : tx.1 = 0 := by
      rw [eA1] at z
      exact (nI_eq (b := 0) (by omega) (by omega)).mp z
    rw [← hJ]
    rw [fFlats_0 hn0] at hQ
    refine ⟨fun y => absurd y (by decide), fun _ => v_X7_isAllRead _ _ _ ⟨fun y => absurd (by rw [j1, eA4, eA1, hn0]) y, fun _ => ⟨fun y => absurd y (by decide), fun _ => sX7_clear ⟨fun _ => ?_, fun y => absurd (by decide) y⟩⟩⟩⟩
    refine hQ _ (h.rej hX0 hJI j12 j122 (dok_0 hs)) (fun c hc => ?_)
    exact Fr.hi (cs := [1, 12]) (hJI.u (by decide)) (by decide) c hc
end
