/-! carts(): the model's face -/
section
variable {G : rt_G} {d : Nat} {Q : rt_Q} {I : rt_I} {L : rt_L} {r : Nat}
variable {B : Nat} {s : SV} {m : MO} {us : List MO} {kp : Nat → Option MO} {mk : MKT} {row : List Int32} {tx : TXT}
theorem MI.txr {M : rt_I} (h : MI B s m us kp mk row tx I) (hf : Fr M I [108, 119]) (h8 : F8 M I [11, 14, 16, 17, 18, 19]) (h11 : M 108 11 = 0) : MI (B + 1) s m us kp mk row (0, tx.2) M :=
  h.txq (hf.mono (by decide)) (h8.mono (by decide)) h11
theorem fM_carts (h : MI B s m us kp mk row tx I) (hs : sok s) (hB : B < 2 ^ 28) (hT : tok tx) (hQ : ∀ M r', MI (B + 1) (fCarts s m us kp tx).2.1 (fCarts s m us kp tx).2.2.1 (fCarts s m us kp tx).2.2.2.1 (fCarts s m us kp tx).2.2.2.2 mk row (0, tx.2) M → Lo M I → M 108 14 = 0 → Q (fCarts s m us kp tx).1 M L r') : rt_Call G (d + 7) kX12_carts [.ref 108] I L r Q := by
  obtain ⟨hn, hch, hby⟩ := h.2.2.2.2.2.2
  have h80 := hT.1
  have hs8 := hs.1
  have hs5 := hs.2.2.1
  have I1 := h.1.1
  have I6 := h.1.2.2.1
  refine v_X12_carts _ _ _ (v_X12_begin_t _ _ _ _ _ ?_)
  rw [hn]
  obtain ⟨l, hl⟩ : ∃ l, l = min tx.1 40 := ⟨_, rfl⟩
  obtain ⟨J, hJ⟩ : ∃ J, J = rt_u (rt_u (rt_u (rt_u I 108 14 0) 108 16 (nI tx.1)) 108 17 40) 108 11 0 := ⟨_, rfl⟩
  have eS : rt_u (rt_u (rt_u (rt_u (rt_u (rt_u I 108 14 0) 108 16 (nI tx.1)) 108 17 40) 108 18 0) 108 19 (-1)) 108 11 0 = mp J 0 none := by
    rw [hJ, ← mp_u _ _ 108 11 _ _ (Or.inr ⟨by decide, by decide⟩)]
    rfl
  have hFJ : Fr J I [108, 119] := by rw [hJ]; exact ((((Fr.refl I _).u (by decide)).u (by decide)).u (by decide)).u (by decide)
  have h8J : F8 J I [11, 14, 16, 17, 18, 19] := by rw [hJ]; exact ((((F8.refl I _).u (fun _ => by decide)).u (fun _ => by decide)).u (fun _ => by decide)).u (fun _ => by decide)
  have hMF : MFc I J tx.1 := ⟨hFJ, h8J, by rw [hJ]; rfl, by rw [hJ]; rfl, by rw [hJ]; rfl⟩
  have e114 : J 114 = I 114 := hFJ 114 (by decide)
  have hRB : RB (txc tx 40) l J := by
    refine ⟨⟨rfl, Or.inl ⟨rfl, by omega⟩, tx.1, 40, by rw [hJ]; rfl, by rw [hJ]; rfl, hl, by omega, by omega⟩, fun i => by rw [e114]; exact hby i, ?_, c8_tx hT 40⟩
    unfold mch txc
    rw [e114, ← hl]
    exact ch_agr (n := tx.1) hch (by omega)
  have hrej : ∀ J' q p', MFc I J' tx.1 → fCarts s m us kp tx = (-1 - nI q, s, m, us, kp) → Q (-1 - nI q) (mp J' p' (some q)) L 114 := by
    intro J' q p' hF' e
    rw [e] at hQ
    have a1 := hF'.1.mp (p := p') (w := some q) (by decide)
    exact hQ _ 114 (h.txr a1 (hF'.2.1.mp (by decide) (by decide)) hF'.2.2.1) (a1.lo (by decide)) hF'.2.2.2.1
  refine ⟨fun z => ?_, fun z => ?_⟩
  · have hn0 : ¬ tx.1 = 0 := fun e => z (by show nI tx.1 = 0; rw [e]; rfl)
    rw [eS]
    have hMD : MDc s (s.nc, m) I J tx.1 := ⟨hMF, fun j hj => absurd hj (by show ¬ j < s.nc - s.nc; omega)⟩
    rw [show (0 : Int32) = nI (((s.nc, m) : CFT).1 - s.nc) by show (0 : Int32) = nI (s.nc - s.nc); rw [Nat.sub_self]; rfl]
    refine cam_loop (s := s) (m := m) (by omega) (by omega) (by omega) hs8 I1 I6 ⟨tx.2, by unfold txc; rw [hl]⟩ 81 0 1 (s.nc, m) J hRB hMD (dkc_0 hs) (by omega) (by omega) (by show 1 = s.nc - s.nc + 1; omega) (fun J' q k' D' he hM' hk' hq hkk => ?_) (fun J' q p' he hF' => hrej J' q p' hF' (fCarts_f hn0 he))
    refine cam_exit hM'.1 (by omega) (by omega) wokn (fun _ hnq => ?_) (fun q' e => ?_)
    rotate_left
    · have hq' : q < tx.1 ∧ q' = q := by
        unfold endw at e
        split at e
        · cases e; exact ⟨by assumption, rfl⟩
        · cases e
      rw [hq'.2]
      exact hrej J' q q hM'.1 (fCarts_g hn0 he (by omega))
    rw [fCarts_t hn0 he (by omega)] at hQ
    dsimp only at hQ
    obtain ⟨hF', hW⟩ := hM'
    obtain ⟨k1, k2, k3, k4⟩ := hk'
    have a1 := hF'.1.mp (p := q) (w := none) (by decide)
    have a2 := hF'.2.1.mp (p := q) (w := none) (by decide) (by decide)
    refine cam_put (a := s.nc) (b := D'.1 - s.nc) ((a2 6 (by decide)).trans I6) (by omega) (fun M2 d1 d2 d3 d4 d5 d6 d7 => ?_)
    rw [← hkk]
    have hf : Fr M2 I [108, 109, 119] := (d1.mono (by decide)).trans (a1.mono (by decide))
    have h8 : F8 M2 I [6, 11, 14, 16, 17, 18, 19, 31, 52] := (d2.mono (by decide)).trans (a2.mono (by decide))
    obtain ⟨⟨z1, z2, z3, z4, z5, z6, z7, z8, z9, z10, z11⟩, ⟨o1, o2, o3, o4⟩, y3, y4, y5, y6, y7⟩ := h
    have s11 : M2 108 11 = 0 := (d2 11 (by decide)).trans hF'.2.2.1
    have s14 : M2 108 14 = 0 := (d2 14 (by decide)).trans hF'.2.2.2.1
    have x109 : ∀ j, (mp J' q none) 109 j = I 109 j := fun j => by rw [a1 109 (by decide)]
    refine hQ M2 114 ⟨⟨(h8 1 (by decide)).trans z1, (h8 3 (by decide)).trans z2, ?_, (h8 7 (by decide)).trans z4, by rw [hf 113 (by decide)]; exact z5, by rw [hf 110 (by decide)]; exact z6, by rw [hf 111 (by decide)]; exact z7, by rw [hf 112 (by decide)]; exact z8, z9.fr (h8 27 (by decide)) (hf 120 (by decide)), (h8 9 (by decide)).trans z10, (h8 28 (by decide)).trans z11⟩, ⟨?_, fun j hj => ?_, fun w hw => ?_, fun w hw => ?_⟩, ⟨by show 0 ≤ 12; omega, d4, fun j u hu => by simp at hu⟩,
      MK.forget y4 hB (by rw [d5, a2 52 (by decide)]) (hf 133 (by decide)) (hf 134 (by decide)), y5.fr (h8 48 (by decide)) (hf 129 (by decide)), y6.fr (h8 13 (by decide)) (hf 115 (by decide)), s11, fun j hj => absurd hj (by omega), fun i => by rw [hf 114 (by decide)]; exact y7.2.2 i⟩ (hf.lo (by decide)) s14
    · rw [d3]
      exact congrArg nI (by show _ = D'.1; omega)
    · rw [d7 64 (Or.inr (by omega)), x109, o1, k3 64 (Or.inr (by omega))]
    · have hj2 : j < 8 * D'.1 := hj
      rcases Nat.lt_or_ge j (s.nc * 8) with e | e
      · rw [d7 j (Or.inl e), x109, o2 j (by omega), k3 j (Or.inl e)]
      · obtain ⟨k, t, hkt, ht⟩ : ∃ k t, j = (s.nc + k) * 8 + t ∧ t < 8 := ⟨j / 8 - s.nc, j % 8, by omega, by omega⟩
        subst hkt
        obtain ⟨x, l', hh, b1, b2, b3, b4⟩ := k4 (s.nc + k) (by omega) (by omega)
        obtain ⟨w1, w2, w3⟩ := hW k (by omega)
        have c0 := b4 0 (by omega)
        rw [Nat.add_zero] at c0
        rw [d6 k (by omega) t ht, show (mp J' q none) 119 = J' 119 from rfl, w1, w2, w3, c0, b4 4 (by omega), b4 5 (by omega), b4 t ht]
        rfl
    · have hw2 : w < s.nr := hw
      rw [d7 _ (Or.inr (by omega)), x109, o3 w hw2, k3 _ (Or.inr (by omega))]
    · have hw2 : w < s.nr := hw
      rw [d7 _ (Or.inr (by omega)), x109, o4 w hw2, k3 _ (Or.inr (by omega))]
  · have hn0 : tx.1 = 0 := (nI_eq (b := 0) (by omega) (by omega)).mp z
    rw [fCarts_0 hn0] at hQ
    refine hQ _ 114 (h.txr ?_ ?_ rt_u_at) ?_ rfl
    · exact ((((((Fr.refl I _).u (by decide)).u (by decide)).u (by decide)).u (by decide)).u (by decide)).u (by decide)
    · exact ((((((F8.refl I _).u (fun _ => by decide)).u (fun _ => by decide)).u (fun _ => by decide)).u (fun _ => by decide)).u (fun _ => by decide)).u (fun _ => by decide)
    · exact Fr.lo (cs := [108]) (((((((Fr.refl I _).u (by decide)).u (by decide)).u (by decide)).u (by decide)).u (by decide)).u (by decide)) (by decide)
end
