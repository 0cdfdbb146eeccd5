/-! THE FACE: soonest, safe -/
noncomputable def fSafe (s : SV) (m : MO) (row : List Int32) (x y z : Int32) : Int32 × List Int32 := if inb z 21 = true then fWay s m row (cc z) x y else (-1, row)
section
variable {G : rt_G} {d : Nat} {Q : rt_Q} {I : rt_I} {L : rt_L} {r B mg : Nat} {s : SV} {m : MO} {us : List MO} {kp : Nat → Option MO} {mk : MKT} {row : List Int32} {tx : TXT}
theorem fX_soonest {x y : Int32} (h : XI s m us kp mk row tx I) (hk : sok s) (hm : mok s B m)
    (hQ : ∀ M, XI s m us kp mk (fWay s m row 0 x y).2 tx M → (∀ c, 108 ≤ c → M c = I c) → Q (fWay s m row 0 x y).1 M L r) : rt_Call G (d + 6) kX11_soonest [.ref 0, .int x, .int y] I L r Q :=
  v_X11_soonest _ _ _ _ _ (fX_way h hk hm (mg := 0) (by omega) rfl hQ)
theorem fX_safe {x y z : Int32} (h : XI s m us kp mk row tx I) (hk : sok s) (hm : mok s B m)
    (hQ : ∀ M, XI s m us kp mk (fSafe s m row x y z).2 tx M → (∀ c, 108 ≤ c → M c = I c) → Q (fSafe s m row x y z).1 M L r) : rt_Call G (d + 6) kX11_safe [.ref 0, .int x, .int y, .int z] I L r Q := by
  unfold fSafe at hQ
  have hno : ¬ inb z 21 = true → Q (-1) I L r := by
    intro q
    rw [if_neg q] at hQ
    exact hQ I h (fun _ _ => rfl)
  refine v_X11_safe _ _ _ _ _ _ ⟨fun z4 => hno (fun q => ((inb100 (k := 20) (by omega)).mpr q).1 z4), fun z4 => ⟨fun z5 => ?_, fun z5 => hno (fun q => z5 ((inb100 (k := 20) (by omega)).mpr q).2)⟩⟩
  have hz := (inb100 (k := 20) (by omega)).mp ⟨z4, z5⟩
  rw [if_pos hz] at hQ
  obtain ⟨n, hn, rfl⟩ := (inr_iff (by omega)).mp (inb_iff.mp hz)
  rw [cc_nI (by omega)] at hQ
  exact fX_way h hk hm (mg := n) (by omega) rfl hQ
theorem gM_way {x y : Int32} (h : MI B s m us kp mk row tx I) (hk : sok s) (hm : mok s B m) (hmg : mg ≤ 20) (z1 : inb x s.np = true) (z2 : inb y s.np = true)
    (hQ : ∀ M r', MI B s m us kp mk (fWay s m row mg x y).2 tx M → Lo M I → M 108 14 = I 108 14 → Q (fWay s m row mg x y).1 M L r') : rt_Call G (d + 143) kX12_wayOf [.ref 108, .int x, .int y, .int (nI mg)] I L r Q := by
  have h8 := hk.1
  unfold fWay at hQ
  rw [if_pos (by rw [Bool.and_eq_true]; exact ⟨z1, z2⟩)] at hQ
  obtain ⟨a, ha, rfl⟩ := (inr_iff (by omega)).mp (inb_iff.mp z1)
  obtain ⟨b, hb, rfl⟩ := (inr_iff (by omega)).mp (inb_iff.mp z2)
  rw [cc_nI (by omega), cc_nI (by omega)] at hQ
  refine wX12_wayOf h hk hm hmg ha hb rfl rfl (fun M r' hM hL hj => ?_)
  by_cases q : Ds s m mg 0 a 0 b ≤ 120
  · simp only [if_pos q] at hQ hM ⊢
    exact hQ M r' hM hL (hj 14 (by decide))
  · simp only [if_neg q] at hQ hM ⊢
    exact hQ M r' hM hL (hj 14 (by decide))
theorem fM_soonest {x y : Int32} (h : MI B s m us kp mk row tx I) (hk : sok s) (hm : mok s B m)
    (hQ : ∀ M r', MI B s m us kp mk (fWay s m row 0 x y).2 tx M → Lo M I → M 108 14 = 0 → Q (fWay s m row 0 x y).1 M L r') : rt_Call G (d + 144) kX12_soonest [.ref 108, .int x, .int y] I L r Q := by
  have h8 := hk.1
  have h0 := h.t0
  have hLJ : Lo (rt_u I 108 14 0) I := Lo.of u14F (by decide)
  have hno : ¬ (inb x s.np && inb y s.np) = true → Q (-1) (rt_u I 108 14 0) L r := by
    intro q
    unfold fWay at hQ
    rw [if_neg q] at hQ
    exact hQ _ _ h0 hLJ rt_u_at
  refine v_X12_soonest _ _ _ _ _ (sX12_isPlace h0.1.1 (by omega) (fun z1 => ⟨fun q => absurd q (by decide), fun _ => sX12_isPlace h0.1.1 (by omega) (fun z2 => ⟨fun q => absurd q (by decide), fun _ => ?_⟩) (fun z2 => ⟨fun _ => hno (fun q => by rw [Bool.and_eq_true] at q; exact z2 (inb_iff.mp q.2)), fun q => absurd rfl q⟩)⟩) (fun z1 => ⟨fun _ => hno (fun q => by rw [Bool.and_eq_true] at q; exact z1 (inb_iff.mp q.1)), fun q => absurd rfl q⟩))
  exact gM_way (mg := 0) h0 hk hm (by omega) (inb_iff.mpr z1) (inb_iff.mpr z2) (fun M r' hM hL h14 => hQ M r' hM (hL.trans hLJ) (h14.trans rt_u_at))
theorem fM_safe {x y z : Int32} (h : MI B s m us kp mk row tx I) (hk : sok s) (hm : mok s B m)
    (hQ : ∀ M r', MI B s m us kp mk (fSafe s m row x y z).2 tx M → Lo M I → M 108 14 = 0 → Q (fSafe s m row x y z).1 M L r') : rt_Call G (d + 144) kX12_safe [.ref 108, .int x, .int y, .int z] I L r Q := by
  have h8 := hk.1
  have h0 := h.t0
  have hLJ : Lo (rt_u I 108 14 0) I := Lo.of u14F (by decide)
  have hno : ¬ ((inb x s.np && inb y s.np) = true ∧ inb z 21 = true) → Q (-1) (rt_u I 108 14 0) L r := by
    intro q
    have e : fSafe s m row x y z = (-1, row) := by
      unfold fSafe
      by_cases hz : inb z 21 = true
      · rw [if_pos hz]
        unfold fWay
        rw [if_neg (fun a => q ⟨a, hz⟩)]
      · rw [if_neg hz]
    rw [e] at hQ
    exact hQ _ _ h0 hLJ rt_u_at
  refine v_X12_safe _ _ _ _ _ _ (sX12_isPlace h0.1.1 (by omega) (fun z1 => ⟨fun q => absurd q (by decide), fun _ => sX12_isPlace h0.1.1 (by omega) (fun z2 => ⟨fun q => absurd q (by decide), fun _ => sX12_in (fun z4 => ⟨fun q => absurd q (by decide), fun _ => ?_⟩) (fun z4 => ⟨fun _ => hno (fun q => z4 ((inbD (k := 20) (by omega)).mpr q.2)), fun q => absurd rfl q⟩)⟩) (fun z2 => ⟨fun _ => hno (fun q => by have q := q.1; rw [Bool.and_eq_true] at q; exact z2 (inb_iff.mp q.2)), fun q => absurd rfl q⟩)⟩) (fun z1 => ⟨fun _ => hno (fun q => by have q := q.1; rw [Bool.and_eq_true] at q; exact z1 (inb_iff.mp q.1)), fun q => absurd rfl q⟩))
  have hz := (inbD (k := 20) (by omega)).mp z4
  unfold fSafe at hQ
  rw [if_pos hz] at hQ
  obtain ⟨n, hn, rfl⟩ := (inr_iff (by omega)).mp (inb_iff.mp hz)
  rw [cc_nI (by omega)] at hQ
  exact gM_way (mg := n) h0 hk hm (by omega) (inb_iff.mpr z1) (inb_iff.mpr z2) (fun M r' hM hL h14 => hQ M r' hM (hL.trans hLJ) (h14.trans rt_u_at))
end
