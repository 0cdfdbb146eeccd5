/-! carts(): the class's face -/
section
variable {G : rt_G} {d : Nat} {Q : rt_Q} {I J : rt_I} {L : rt_L} {r l : Nat}
variable {s : SV} {m : MO} {us : List MO} {kp : Nat → Option MO} {mk : MKT} {row : List Int32} {tx : TXT} {M N : rt_I} {D : CFT} {p q k : Nat}
theorem fCarts_0 (h : tx.1 = 0) : fCarts s m us kp tx = (0, s, m, us, kp) := by unfold fCarts; rw [if_pos h]
theorem fCarts_f (h : ¬ tx.1 = 0) (h2 : casF (txc tx 40) s.np 81 0 1 (s.nc, m) = (q, none)) : fCarts s m us kp tx = (-1 - nI q, s, m, us, kp) := by unfold fCarts; rw [if_neg h, h2]
theorem fCarts_g (h : ¬ tx.1 = 0) (h2 : casF (txc tx 40) s.np 81 0 1 (s.nc, m) = (q, some (k, D))) (h3 : ¬ q = tx.1) : fCarts s m us kp tx = (-1 - nI q, s, m, us, kp) := by unfold fCarts; rw [if_neg h, h2]; dsimp only; rw [if_neg h3]
theorem fCarts_t (h : ¬ tx.1 = 0) (h2 : casF (txc tx 40) s.np 81 0 1 (s.nc, m) = (q, some (k, D))) (h3 : q = tx.1) : fCarts s m us kp tx = (nI k, sNc s D.1, D.2, [], fun _ => none) := by unfold fCarts; rw [if_neg h, h2]; dsimp only; rw [if_pos h3]
theorem XI.rejC (h : XI s m us kp mk row tx I) (hX : XCd D J M p) (hJ : Fr J I [1, 12]) (hJ1 : J 12 1 = I 12 1) (hJ2 : J 12 2 = I 12 2) (hk : dkc s m D) : XI s m us kp mk row (0, tx.2) (rt_u M 1 1 0) := by
  obtain ⟨⟨b1, b2, b3, b4, b5, b6, b7, b8, b9, b10⟩, ⟨o1, o2, o3, o4⟩, a3, a4, a5, a6, a7⟩ := h
  obtain ⟨x1, x2, x3, x4, x5, x6⟩ := hX
  obtain ⟨k1, k2, k3, k4⟩ := hk
  have hf : Fr (rt_u M 1 1 0) I [1, 12, 17] := (x1.trans (hJ.mono (by decide))).u (by decide)
  refine ⟨⟨?_, ?_, ?_, ?_, ?_, ?_, ?_, ?_, b9.fr (by rw [hf 6 (by decide)]) (hf 7 (by decide)), ?_⟩, ⟨?_, ?_, fun w hw => ?_, fun w hw => ?_⟩, a3.fr (hf 21 (by decide)) (fun c a b => hf c (fun z => by simp only [List.mem_cons, List.not_mem_nil, or_false] at z; omega)), a4.fr (hf 24 (by decide)) (fun c a b => hf c (fun z => by simp only [List.mem_cons, List.not_mem_nil, or_false] at z; omega)),
    a5.fr (by rw [hf 38 (by decide)]) (hf 39 (by decide)) (hf 40 (by decide)), a6.fr (by rw [hf 42 (by decide)]) (hf 43 (by decide)), rt_u_at, fun j hj => absurd hj (by omega)⟩
  · rw [rt_u_ne (by decide)]; exact (x5 1 (by decide)).trans (hJ1.trans b1)
  · rw [rt_u_ne (by decide)]; exact (x5 2 (by decide)).trans (hJ2.trans b2)
  · rw [hf 16 (by decide)]; exact b3
  · rw [hf 3 (by decide)]; exact b4
  · rw [hf 4 (by decide)]; exact b5
  · rw [hf 13 (by decide)]; exact b6
  · rw [hf 14 (by decide)]; exact b7
  · rw [hf 15 (by decide)]; exact b8
  · rw [hf 20 (by decide)]; exact b10
  · rw [hf 16 (by decide)]; exact o1
  · rw [rt_u_ne (by decide)]
    exact fun j hj => (x6 j (by omega)).trans (k3 j (Or.inl (by omega)))
  · rw [hf 18 (by decide)]; exact o3 w hw
  · rw [hf 19 (by decide)]; exact o4 w hw
theorem XI.accC (h : XI s m us kp mk row tx I) (hX : XCd D J M p) (hJ : Fr J I [1, 12]) (hJ1 : J 12 1 = I 12 1) (hJ2 : J 12 2 = I 12 2) (hk : dkc s m D) (hN : ∀ c, c ≠ 21 → c ≠ 24 → N c = (rt_u (rt_u M 1 1 0) 16 1 (nI D.1)) c) (h4 : ∃ f, f < 13 ∧ N 21 4 = nI f) (h5 : N 21 5 = 0) (h6 : N 24 0 = 0) (h7 : N 24 1 = 0) : XI (sNc s D.1) D.2 [] (fun _ => none) mk row (0, tx.2) N := by
  obtain ⟨⟨b1, b2, b3, b4, b5, b6, b7, b8, b9, b10⟩, ⟨o1, o2, o3, o4⟩, a3, a4, a5, a6, a7⟩ := h
  obtain ⟨x1, x2, x3, x4, x5, x6⟩ := hX
  obtain ⟨k1, k2, k3, k4⟩ := hk
  have hf : ∀ c, c ∉ [1, 12, 16, 17, 21, 24] → N c = I c := fun c hc => by
    simp only [List.mem_cons, List.not_mem_nil, or_false, not_or] at hc
    rw [hN c hc.2.2.2.2.1 hc.2.2.2.2.2, rt_u_ne hc.2.2.1, rt_u_ne hc.1, x1 c (by simp only [List.mem_cons, List.not_mem_nil, or_false]; omega), hJ c (by simp only [List.mem_cons, List.not_mem_nil, or_false]; omega)]
  have h12 : N 12 = M 12 := by rw [hN 12 (by decide) (by decide), rt_u_ne (by decide), rt_u_ne (by decide)]
  have h17 : N 17 = M 17 := by rw [hN 17 (by decide) (by decide), rt_u_ne (by decide), rt_u_ne (by decide)]
  obtain ⟨f, f1, f2⟩ := h4
  refine ⟨⟨?_, ?_, ?_, ?_, ?_, ?_, ?_, ?_, b9.fr (by rw [hf 6 (by decide)]) (hf 7 (by decide)), ?_⟩, ⟨?_, ?_, fun w hw => ?_, fun w hw => ?_⟩, ⟨by show 0 ≤ 12; omega, f, f1, f2, h5, fun j u hu => by simp at hu⟩, fun i hi => ⟨fun _ => ?_, fun u hu => by cases hu⟩,
    a5.fr (by rw [hf 38 (by decide)]) (hf 39 (by decide)) (hf 40 (by decide)), a6.fr (by rw [hf 42 (by decide)]) (hf 43 (by decide)), ?_, fun j hj => absurd hj (by omega)⟩
  · rw [h12]; exact (x5 1 (by decide)).trans (hJ1.trans b1)
  · rw [h12]; exact (x5 2 (by decide)).trans (hJ2.trans b2)
  · rw [hN 16 (by decide) (by decide), rt_u_at]; rfl
  · rw [hf 3 (by decide)]; exact b4
  · rw [hf 4 (by decide)]; exact b5
  · rw [hf 13 (by decide)]; exact b6
  · rw [hf 14 (by decide)]; exact b7
  · rw [hf 15 (by decide)]; exact b8
  · rw [hf 20 (by decide)]; exact b10
  · have e0 : N 16 0 = I 16 0 := by rw [hN 16 (by decide) (by decide), rt_u1 (by decide), rt_u_ne (by decide), x1 16 (by decide), hJ 16 (by decide)]
    rw [e0]; exact o1.trans (k3 64 (Or.inr (by omega))).symm
  · rw [h17]
    intro j hj
    have hj2 : j < 8 * D.1 := hj
    exact x6 j (by omega)
  · rw [hf 18 (by decide)]; exact (o3 w hw).trans (k3 _ (Or.inr (by omega))).symm
  · rw [hf 19 (by decide)]; exact (o4 w hw).trans (k3 _ (Or.inr (by omega))).symm
  · match i with
    | 0 => exact h6
    | 1 => exact h7
    | i + 2 => omega
  · rw [hN 1 (by decide) (by decide), rt_u2 (by decide), rt_u_at]
    rfl
theorem sX2_carts (hc : c8 (ch (J 2) l)) (hnp : s.np ≤ 8) (hs : J 12 1 = nI s.np) (hl : J 1 3 = nI l) (h8 : l ≤ 40) : ∀ (F p k : Nat) (D : CFT) (M : rt_I), XCd D J M p → dkc s m D → p ≤ l → 81 ≤ p + F → 1 ≤ k → k ≤ p + 1 →
    (∀ M' q k' D', casF (ch (J 2) l) s.np F p k D = (q, some (k', D')) → XCd D' J M' q → dkc s m D' → q ≤ l → 1 ≤ k' ∧ k' ≤ 81 → Q (nI k') M' L r) →
    (∀ M' q D', casF (ch (J 2) l) s.np F p k D = (q, none) → XCd D' J M' q → dkc s m D' → q ≤ l → Q (-1) M' L r) →
    rt_AW G (d + 4) kX2_readCarts Q 22 [some (.ref 12), some (.ref 1), some (.int (nI k)), none] [] M L r := by
  intro F
  induction F with
  | zero => intro p k D M _ _ _ _ _ _ _ _; omega
  | succ F ih =>
    intro p k D M hX hk hp hF hk1 hkp hQ1 hQ0
    have e2 : M 2 = J 2 := hX.1 2 (by decide)
    have el : M 1 3 = nI l := (hX.2.2.1 3 (by decide)).trans hl
    refine v_X2_readCarts_22 _ _ _ _ ⟨fun z => ?_, fun _ => sX2_readCart hX hk hnp hs hl h8 hp (fun M' q D' hq hX' => ⟨fun _ => ?_, fun z => absurd z (by decide)⟩) (fun M' q hq hX' => ⟨fun z => absurd rfl z, fun _ => ?_⟩)⟩
    · have := (n_lt (a := 80) (b := k) rfl rfl (by omega) (by omega)).mp z
      omega
    · obtain ⟨q1, q2, q3⟩ := caF_pos hp hq
      have q4 := q3 (by simp)
      obtain ⟨hk', -⟩ := caF_ok hc hnp hk hq
      have e2' : M' 2 = J 2 := hX'.1 2 (by decide)
      have el' : M' 1 3 = nI l := (hX'.2.2.1 3 (by decide)).trans hl
      rw [casF_s, hq] at hQ1 hQ0
      dsimp only at hQ1 hQ0
      refine tX7_behindLine hX'.2.1 el' (by omega) (by omega) (fun y => ⟨fun _ => ?_, fun z => absurd rfl z⟩) (fun y => ⟨fun z => absurd z (by decide), fun _ => ⟨fun z => absurd rfl z, fun _ => ?_⟩⟩) (fun y1 y2 => ⟨fun z => absurd z (by decide), fun _ => ⟨fun _ => ?_, fun z => absurd z (by decide)⟩⟩)
      · rw [e2'] at y
        have hlt := ch_in (f := J 2) (l := l) (p := q) (by rw [y]; decide)
        rw [if_pos y] at hQ1 hQ0
        rw [nI_1]
        exact ih (q + 1) (k + 1) D' _ hX'.at hk' (by omega) (by omega) (by omega) (by omega) hQ1 hQ0
      · rw [e2'] at y
        rw [if_neg (by rw [y]; decide), if_pos y] at hQ1
        exact hQ1 M' q k D' rfl hX' hk' q1 ⟨by omega, by omega⟩
      · rw [e2'] at y1 y2
        rw [if_neg y1, if_neg y2] at hQ0
        exact hQ0 M' q D' rfl hX' hk' q1
    · obtain ⟨q1, q2, q3⟩ := caF_pos hp hq
      rw [casF_s, hq] at hQ0
      exact hQ0 M' q D rfl hX' hk q1
theorem fX_carts (h : XI s m us kp mk row tx I) (hs : sok s) (hT : tok tx) (hQ : ∀ M, XI (fCarts s m us kp tx).2.1 (fCarts s m us kp tx).2.2.1 (fCarts s m us kp tx).2.2.2.1 (fCarts s m us kp tx).2.2.2.2 mk row (0, tx.2) M → (∀ c, 108 ≤ c → M c = I c) → Q (fCarts s m us kp tx).1 M L r) : rt_Call G (d + 5) kX11_carts [.ref 0] I L r Q := by
  obtain ⟨hn, hch⟩ := h.2.2.2.2.2.2
  have h80 := hT.1
  have hs8 := hs.1
  have hs5 := hs.2.2.1
  refine v_X11_carts _ _ _ (sX7_open (m := 40) hn (by omega) (by omega) ?_)
  obtain ⟨l, hl⟩ : ∃ l, l = min tx.1 40 := ⟨_, rfl⟩
  rw [← hl]
  obtain ⟨A, hA⟩ : ∃ A, A = xp (rt_u I 1 3 (nI l)) 0 := ⟨_, rfl⟩
  rw [← hA]
  have hfA : Fr A I [1] := by rw [hA]; exact ((Fr.refl I _).u (by decide)).u (by decide)
  have eA1 : A 1 1 = nI tx.1 := by rw [hA]; exact hn
  have eA3 : A 1 3 = nI l := by rw [hA]; rfl
  have eA4 : A 1 2 = nI 0 := by rw [hA]; rfl
  have eA12 : A 12 = I 12 := hfA 12 (by decide)
  obtain ⟨J, hJ⟩ : ∃ J, J = rt_u A 12 8 (A 16 1) := ⟨_, rfl⟩
  have hJA : Fr J A [12] := by rw [hJ]; exact (Fr.refl A _).u (by decide)
  have hJI : Fr J I [1, 12] := (hJA.mono (by decide)).trans (hfA.mono (by decide))
  have j1 : J 1 = A 1 := hJA 1 (by decide)
  have j12 : J 12 1 = I 12 1 := by rw [hJ, ← eA12]; rfl
  have j122 : J 12 2 = I 12 2 := by rw [hJ, ← eA12]; rfl
  have hcc : ch (J 2) l = txc tx 40 := by
    unfold txc
    rw [← hl, hJI 2 (by decide)]
    exact ch_agr hch (by omega)
  have hsnp : J 12 1 = nI s.np := j12.trans h.1.1
  have hX0 : XCd (s.nc, m) J J 0 := by
    obtain ⟨⟨b1, b2, b3, b4, b5, b6, b7, b8, b9, b10⟩, ⟨o1, o2, o3, o4⟩, -⟩ := h
    refine ⟨Fr.refl _ _, by rw [j1]; exact eA4, fun _ _ => rfl, ?_, fun _ _ => rfl, ?_⟩
    · rw [hJ, rt_u_at, hfA 16 (by decide)]; exact b3
    · rw [hJI 17 (by decide)]
      exact fun j hj => o2 j (by have : j < s.nc * 8 := hj; omega)
  have hrej : ∀ M' q D', XCd D' J M' q → dkc s m D' → fCarts s m us kp tx = (-1 - nI q, s, m, us, kp) → Q (-1 - M' 1 2) (rt_u M' 1 1 0) L r := by
    intro M' q D' hX' hk' e
    rw [e] at hQ
    rw [hX'.2.1]
    refine hQ _ (h.rejC hX' hJI j12 j122 hk') (fun c hc => ?_)
    have : Fr (rt_u M' 1 1 0) I [1, 12, 17] := (hX'.1.trans (hJI.mono (by decide))).u (by decide)
    exact this.hi (by decide) c hc
  refine v_X2_readCarts _ _ _ ⟨fun z => ?_, fun z => ?_⟩
  · have hn0 : ¬ tx.1 = 0 := fun e => z (by rw [eA1, e]; rfl)
    rw [← hJ]
    refine sX2_carts (s := s) (m := m) (by rw [hcc]; exact c8_tx hT 40) hs8 hsnp (by rw [j1]; exact eA3) (by omega) 81 0 1 (s.nc, m) J hX0 (dkc_0 hs) (by omega) (by omega) (by omega) (by omega) (fun M' q k' D' he hX' hk' hq hk81 => ⟨fun y => absurd y (n_neg (by omega)), fun _ => ?_⟩) (fun M' q D' he hX' hk' hq => ⟨fun _ => ?_, fun y => absurd (by decide) y⟩)
    · rw [hcc] at he
      have e11 : M' 1 1 = nI tx.1 := (hX'.2.2.1 1 (by decide)).trans (by rw [j1]; exact eA1)
      refine v_X7_isAllRead _ _ _ ⟨fun y => ⟨fun _ => sX7_clear ?_, fun w => absurd rfl w⟩, fun y => ⟨fun w => absurd w (by decide), fun _ => sX7_clear ?_⟩⟩
      · exact hrej M' q D' hX' hk' (fCarts_g hn0 he (fun e => y (by rw [hX'.2.1, e11, e])))
      · have eq : q = tx.1 := by
          rw [hX'.2.1, e11] at y
          exact (nI_eq (by omega) (by omega)).mp y
        rw [fCarts_t hn0 he eq] at hQ
        refine ⟨fun w => ?_, fun w => v_X2_acceptCarts _ _ _ (wX1_forgetAll (us := us) (s := s) ?_ (fun N hN h4 h5 h6 h7 => ?_))⟩
        · have := (n_le (a := k') (b := 0) rfl rfl (by omega) (by omega)).mp w
          omega
        · have hb := (h.rejC hX' hJI j12 j122 hk').2.2.1
          exact hb.fr (by rw [rt_u_ne (by decide)]) (fun c a b => by rw [rt_u_ne (by omega)])
        · have e6 : (rt_u M' 1 1 0) 12 8 = nI D'.1 := hX'.2.2.2.1
          have hN2 : ∀ c, c ≠ 21 → c ≠ 24 → N c = (rt_u (rt_u M' 1 1 0) 16 1 (nI D'.1)) c := fun c c1 c2 => by rw [hN c c1 c2, e6]
          refine hQ N (h.accC hX' hJI j12 j122 hk' hN2 h4 h5 h6 h7) (fun c hc => ?_)
          rw [hN2 c (by omega) (by omega), rt_u_ne (by omega), rt_u_ne (by omega), hX'.1 c (by simp only [List.mem_cons, List.not_mem_nil, or_false]; omega), hJI c (by simp only [List.mem_cons, List.not_mem_nil, or_false]; omega)]
    · rw [hcc] at he
      exact sX7_clear (hrej M' q D' hX' hk' (fCarts_f hn0 he))
  · have hn0 : tx.1 = 0 := by
      rw [eA1] at z
      exact (nI_eq (b := 0) (by omega) (by omega)).mp z
    rw [← hJ]
    rw [fCarts_0 hn0] at hQ
    refine ⟨fun y => absurd y (by decide), fun _ => v_X7_isAllRead _ _ _ ⟨fun y => absurd (by rw [j1, eA4, eA1, hn0]) y, fun _ => ⟨fun y => absurd y (by decide), fun _ => sX7_clear ⟨fun _ => ?_, fun y => absurd (by decide) y⟩⟩⟩⟩
    refine hQ _ (h.rejC hX0 hJI j12 j122 (dkc_0 hs)) (fun c hc => ?_)
    exact Fr.hi (cs := [1, 12]) (hJI.u (by decide)) (by decide) c hc
end
