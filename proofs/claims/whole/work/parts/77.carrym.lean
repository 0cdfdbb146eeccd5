/-! THE FACE: the carrier's round, model -/
section
variable {G : rt_G} {d : Nat} {Q : rt_Q} {I : rt_I} {L : rt_L} {r B mg : Nat} {s : SV} {m : MO} {us : List MO} {kp : Nat → Option MO} {mk : MKT} {row : List Int32} {tx : TXT}
def CBm (n : Nat) (b : Nat × (Nat → Nat)) (M : rt_I) : Prop := M 108 42 = nI b.1 ∧ (b.1 < FR → ∀ i, i < n → M 127 i = nI (b.2 i))
theorem MI.cr {M : rt_I} (h : MI B s m us kp mk row tx I) (hF : Fr M I [108, 121, 125, 126, 127]) (h8 : F8 M I [16, 17, 18, 19, 28, 42]) (h28 : M 108 28 = I 108 28) : MI B s m us kp mk row tx M := h.q (hF.mono (by decide)) (h8.mono (by decide)) (h28.trans h.z28) (h.2.2.2.2.2.1.fr (h8 13 (by decide)) (hF 115 (by decide)))
theorem wX12_goCarrier {h : Nat} (hk : sok s) (hm : mok s B m) (hh : h < s.np) : ∀ g e dp p t sh pre b (I : rt_I) (L : rt_L) (r : Nat) (Q : rt_Q) (x1 x2 x3 x4 x5 : Int32), g ≤ e → cnt sh = g → dp + g ≤ 6 → p < s.np → t ≤ 120 → sh < 256 → b.1 ≤ FR → x1 = nI p → x2 = nI t → x3 = nI sh → x4 = nI dp → x5 = nI h → MI B s m us kp mk row tx I → CBm (dp + g) b I → (∀ i, i < dp → I 126 i = nI (pre i)) →
    (∀ M r', MI B s m us kp mk row tx M → CBm (dp + g) (cF s m h g p t sh dp pre b) M → Lo M I → M 108 14 = I 108 14 → (∀ i, i < dp → M 126 i = I 126 i) → Q 0 M L r') → rt_Call G (e + 135) kX12_goCarrier [.ref 108, .int x1, .int x2, .int x3, .int x4, .int x5] I L r Q := by
  have h8 := hk.1
  have hFR : FR = 1000000 := rfl
  intro g
  induction g with
  | zero =>
    intro e dp p t sh pre b I L r Q x1 x2 x3 x4 x5 hge hc hdp hp ht hsh hbF e1 e2 e3 e4 e5 hX hB hpre hQ
    subst e1 e2 e4 e5
    obtain rfl := cnt_z hsh hc
    subst e3
    refine v_X12_goCarrier _ _ _ _ _ _ _ _ ⟨fun y => absurd rfl y, fun _ => gM_soonFrom hX hk hm hp (by omega) hh rfl rfl rfl (fun M r1 h1 l1 j1 q1 => ?_)⟩
    have hD := Ds_le hk hm 0 0 p (t := t) (by omega) h
    have e126 := q1.1 126 (by decide)
    have e127 := q1.1 127 (by decide)
    obtain ⟨b1, b2⟩ := hB
    rw [j1 42 (by decide), b1]
    unfold cF at hQ
    refine ⟨fun z => ?_, fun z => ?_⟩
    · have hlt := (n_lt (a := Ds s m 0 0 p t h) (b := b.1) rfl rfl (by omega) (by omega)).mp z
      rw [if_pos hlt] at hQ
      have hF : Fr (rt_u M 108 42 (nI (Ds s m 0 0 p t h))) M [108, 121, 125, 126, 127] := (Fr.refl _ _).u (by decide)
      have hF8 : F8 (rt_u M 108 42 (nI (Ds s m 0 0 p t h))) M [16, 17, 18, 19, 28, 42] := (F8.refl _ _).u (fun _ => by decide)
      refine rt_loop (P := fun k => ∀ M2, MI B s m us kp mk row tx M2 → Lo M2 I → M2 108 14 = I 108 14 → M2 108 42 = nI (Ds s m 0 0 p t h) → M2 126 = I 126 → (∀ i, i < k → M2 127 i = nI (pre i)) → rt_AW G (e + 135) kX12_goCarrier Q 33 [some (.ref 108), none, none, none, some (.int (nI dp)), none, none, some (.int (nI k))] [] M2 L r1) dp ?_ ?_ _ (h1.cr hF hF8 (rt_u1 (by decide))) ((Lo.of hF (by decide)).trans l1) ((rt_u1 (by decide)).trans (j1 14 (by decide))) rt_u_at ((rt_u_ne (by decide)).trans e126) (fun i hi => absurd hi (Nat.not_lt_zero _))
      · intro M2 h2 l2 j2 k2 o2 p2
        refine v_X12_goCarrier_33 _ _ _ _ _ ⟨fun _ => hQ M2 r1 h2 ⟨k2, fun _ => p2⟩ l2 j2 (fun i hi => by rw [o2]), fun z => absurd (Int32.le_refl _) z⟩
      · intro k hkn ih M2 h2 l2 j2 k2 o2 p2
        refine v_X12_goCarrier_33 _ _ _ _ _ ⟨fun z => absurd ((n_le (a := dp) (b := k) rfl rfl (by omega) (by omega)).mp z) (by omega), fun _ => ⟨vp_nI rfl (by omega) (by omega), vp_nI rfl (by omega) (by omega), ?_⟩⟩
        rw [cl (n := k) rfl (by omega), nI_1]
        have hG : Fr (rt_u M2 127 k (M2 126 k)) M2 [108, 121, 125, 126, 127] := (Fr.refl _ _).u (by decide)
        have hG8 : F8 (rt_u M2 127 k (M2 126 k)) M2 [16, 17, 18, 19, 28, 42] := (F8.refl _ _).u (fun q => by omega)
        refine ih _ (h2.cr hG hG8 (rt_u2 (by decide))) ((Lo.of hG (by decide)).trans l2) ((rt_u2 (by decide)).trans j2) ((rt_u2 (by decide)).trans k2) ((rt_u_ne (by decide)).trans o2) (fun i hi => ?_)
        by_cases q : i = k
        · rw [q, rt_u_at, o2]; exact hpre k hkn
        · rw [rt_u1 q]; exact p2 i (by omega)
    · have hlt := mt (n_lt (a := Ds s m 0 0 p t h) (b := b.1) rfl rfl (by omega) (by omega)).mpr z
      rw [if_neg hlt] at hQ
      exact hQ M r1 h1 ⟨by rw [j1 42 (by decide)]; exact b1, by rw [e127]; exact b2⟩ l1 (j1 14 (by decide)) (fun _ _ => by rw [e126])
  | succ g ih =>
    intro e dp p t sh pre b I L r Q x1 x2 x3 x4 x5 hge hc hdp hp ht hsh hbF e1 e2 e3 e4 e5 hX hB hpre hQ
    subst e1 e2 e3 e4 e5
    obtain ⟨e, rfl⟩ : ∃ e', e = e' + 1 := ⟨e - 1, by omega⟩
    have hne : ¬ nI sh = 0 := fun a => by
      have := (nI_eq (a := sh) (b := 0) (by omega) (by omega)).mp a
      rw [this] at hc
      have hz : cnt 0 = 0 := by decide
      omega
    refine v_X12_goCarrier _ _ _ _ _ _ _ _ ⟨fun _ => ?_, fun z => absurd z hne⟩
    have hclr : ∀ q, q < 8 → nI sh &&& (((1 : Int32) <<< (nI q &&& 31)) ^^^ (-1)) = nI (clr sh q) := fun q hq => clr_dec ⟨sh, hsh⟩ ⟨q, hq⟩
    have hDF : ∀ q, Ds s m 0 0 p t q ≤ FR := fun q => Ds_le hk hm 0 0 p (t := t) (by omega) q
    have ecF : cF s m h (g + 1) p t sh dp pre b = fdN (fun q b => if (sh.testBit q && decide (Ds s m 0 0 p t q ≤ 120)) = true then cF s m h g q (Ds s m 0 0 p t q) (clr sh q) (dp + 1) (updN pre dp q) b else b) s.np b := rfl
    rw [ecF] at hQ
    generalize hf : (fun q (b : Nat × (Nat → Nat)) => if (sh.testBit q && decide (Ds s m 0 0 p t q ≤ 120)) = true then cF s m h g q (Ds s m 0 0 p t q) (clr sh q) (dp + 1) (updN pre dp q) b else b) = f at hQ
    have hfa : ∀ q b, f q b = if (sh.testBit q && decide (Ds s m 0 0 p t q ≤ 120)) = true then cF s m h g q (Ds s m 0 0 p t q) (clr sh q) (dp + 1) (updN pre dp q) b else b := fun q b => by rw [← hf]
    have hble : ∀ k, (fdN f k b).1 ≤ FR := by
      intro k
      induction k with
      | zero => exact hbF
      | succ k ihk =>
        show (f k (fdN f k b)).1 ≤ FR
        rw [hfa]
        split
        · exact Nat.le_trans (cF_le hk hm _ _ _ _ _ _ _) ihk
        · exact ihk
    refine rt_loop (P := fun k => ∀ M r', MI B s m us kp mk row tx M → CBm (dp + (g + 1)) (fdN f k b) M → Lo M I → M 108 14 = I 108 14 → (∀ i, i < dp → M 126 i = I 126 i) → rt_AW G (e + 1 + 135) kX12_goCarrier Q 64 [some (.ref 108), some (.int (nI p)), some (.int (nI t)), some (.int (nI sh)), some (.int (nI dp)), some (.int (nI h)), some (.int (nI k)), none] [] M L r') s.np ?_ ?_ _ _ hX hB (fun _ _ => rfl) rfl (fun _ _ => rfl)
    · intro M2 r2 h2 c2 l2 a2 o2
      exact v_X12_goCarrier_64 _ _ _ _ _ _ _ _ _ ⟨fun _ => hQ M2 r2 h2 c2 l2 a2 o2, fun z => absurd (by rw [h2.1.1]; exact Int32.le_refl _) z⟩
    · intro k hkn ih2 M2 r2 h2 c2 l2 a2 o2
      have e1 : fdN f (k + 1) b = f k (fdN f k b) := rfl
      have hbk := hble k
      have hDk := hDF k
      refine v_X12_goCarrier_64 _ _ _ _ _ _ _ _ _ ⟨fun z => absurd ((n_le h2.1.1 rfl (by omega) (by omega)).mp z) (by omega), fun _ => sX12_has rfl hsh rfl (by omega) (fun hb1 => ⟨fun _ => ?_, fun y => absurd y (by decide)⟩) (fun hb0 => ⟨fun y => absurd rfl y, fun _ => ?_⟩)⟩
      · refine gM_soonFrom h2 hk hm hp (by omega) hkn rfl rfl rfl (fun M3 r3 h3 l3 j3 q3 => ?_)
        have e126 := q3.1 126 (by decide)
        have e127 := q3.1 127 (by decide)
        have c3 : CBm (dp + (g + 1)) (fdN f k b) M3 := ⟨(j3 42 (by decide)).trans c2.1, by rw [e127]; exact c2.2⟩
        refine ⟨fun z => ⟨vp_nI rfl (by omega) (by omega), ?_⟩, fun z => ?_⟩
        · have hle := (n_le (a := Ds s m 0 0 p t k) (b := 120) rfl rfl (by omega) (by omega)).mp z
          have hck := cnt_clr hsh (show k < 8 by omega) hb1
          have hcl := clr_le sh k
          rw [cl (n := dp) rfl (by omega), hclr k (by omega), nI_1, nI_1]
          have hG : Fr (rt_u M3 126 dp (nI k)) M3 [108, 121, 125, 126, 127] := (Fr.refl _ _).u (by decide)
          have hG8 : F8 (rt_u M3 126 dp (nI k)) M3 [16, 17, 18, 19, 28, 42] := (F8.refl _ _).u (fun q => by omega)
          refine ih e (dp + 1) k (Ds s m 0 0 p t k) (clr sh k) (updN pre dp k) (fdN f k b) _ _ _ _ _ _ _ _ _ (by omega) (by omega) (by omega) hkn (by omega) (by omega) hbk rfl rfl rfl rfl rfl (h3.cr hG hG8 (rt_u2 (by decide))) ?_ (fun i hi => ?_) (fun M4 r4 h4 c4 l4 a4 o4 => ?_)
          · rw [show dp + 1 + g = dp + (g + 1) by omega]
            exact ⟨(rt_u2 (by decide)).trans c3.1, fun q i hi => (rt_u2 (by decide)).trans (c3.2 q i hi)⟩
          · unfold updN
            by_cases q : i = dp
            · rw [q, if_pos rfl]; exact rt_u_at
            · rw [if_neg q, rt_u1 q, e126, o2 i (by omega)]
              exact hpre i (by omega)
          · refine ih2 M4 r4 h4 ?_ (l4.trans ((Lo.of hG (by decide)).trans (l3.trans l2))) (a4.trans ((rt_u2 (by decide)).trans ((j3 14 (by decide)).trans a2))) (fun i hi => ?_)
            · rw [e1, hfa, if_pos (by rw [hb1]; simp; omega), show dp + (g + 1) = dp + 1 + g by omega]
              exact c4
            · rw [o4 i (by omega), rt_u1 (by omega), e126]; exact o2 i hi
        · have hle := mt (n_le (a := Ds s m 0 0 p t k) (b := 120) rfl rfl (by omega) (by omega)).mpr z
          rw [nI_1]
          refine ih2 M3 r3 h3 ?_ (l3.trans l2) ((j3 14 (by decide)).trans a2) (fun i hi => by rw [e126]; exact o2 i hi)
          rw [e1, hfa, if_neg (by simp; omega)]
          exact c3
      · rw [nI_1]
        refine ih2 M2 r2 h2 ?_ l2 a2 o2
        rw [e1, hfa, hb0]
        exact c2
theorem fM_carrier {x y : Int32} (h : MI B s m us kp mk row tx I) (hk : sok s) (hm : mok s B m)
    (hQ : ∀ M r', MI B s m us kp mk (fCarrier s m row x y).2 tx M → Lo M I → M 108 14 = 0 → Q (fCarrier s m row x y).1 M L r') : rt_Call G (d + 150) kX12_carrier [.ref 108, .int x, .int y] I L r Q := by
  have h8 := hk.1
  have hFR : FR = 1000000 := rfl
  have hp2 : (2 : Nat) ^ s.np ≤ 2 ^ 8 := Nat.pow_le_pow_right (by omega) h8
  have hp1 : 0 < (2 : Nat) ^ s.np := Nat.pow_pos (by omega)
  have h0 := h.t0
  have hLJ : Lo (rt_u I 108 14 0) I := Lo.of u14F (by decide)
  unfold fCarrier at hQ
  have hno : ¬ (inb x s.np = true ∧ inb y (2 ^ s.np) = true) → Q (-1) (rt_u I 108 14 0) L r := by
    intro q
    rw [if_neg q] at hQ
    exact hQ _ _ h0 hLJ rt_u_at
  refine v_X12_carrier _ _ _ _ _ (sX12_isPlace h0.1.1 (by omega) (fun z1 => ⟨fun q => absurd q (by decide), fun _ => ?_⟩) (fun z1 => ⟨fun _ => hno (fun q => z1 (inb_iff.mp q.1)), fun q => absurd rfl q⟩))
  rw [h0.1.1, msk_dec ⟨s.np, by omega⟩]
  have hset : (¬ y < 0 ∧ ¬ nI (2 ^ s.np - 1) < y) ↔ inb y (2 ^ s.np) = true := by
    have := inbD (x := y) (k := 2 ^ s.np - 1) (by omega)
    rw [show 2 ^ s.np - 1 + 1 = 2 ^ s.np by omega] at this
    exact this
  refine sX12_in (fun z2 => ⟨fun _ => ?_, fun q => absurd q (by decide)⟩) (fun z2 => ⟨fun q => absurd rfl q, fun _ => hno (fun q => z2 (hset.mpr q.2))⟩)
  have hy := hset.mp z2
  rw [if_pos ⟨inb_iff.mpr z1, hy⟩] at hQ
  obtain ⟨a, ha, rfl⟩ := (inr_iff (by omega)).mp z1
  obtain ⟨k, hk2, rfl⟩ := (inr_iff (by omega)).mp (inb_iff.mp hy)
  rw [cc_nI (by omega), cc_nI (by omega)] at hQ
  rw [show nI k &&& (((1 : Int32) <<< (nI a &&& 31)) ^^^ (-1)) = nI (clr k a) from clr_dec ⟨k, by omega⟩ ⟨a, by omega⟩]
  have hcl := clr_le k a
  generalize clr k a = sh at *
  refine sJ6_bitCount (b := fun q => sh.testBit q) (n := 8) (by rw [btn_of (by omega)]) (by omega) ?_
  have h8c := cb_le (fun q => sh.testBit q) 8
  refine ⟨fun z3 => ?_, fun z3 => ?_⟩
  · have hle := (n_le (a := cnt sh) (b := 6) rfl rfl (by unfold cnt; omega) (by omega)).mp z3
    rw [if_pos hle] at hQ
    have hG : Fr (rt_u (rt_u I 108 14 0) 108 42 1000000) (rt_u I 108 14 0) [108, 121, 125, 126, 127] := (Fr.refl _ _).u (by decide)
    have hG8 : F8 (rt_u (rt_u I 108 14 0) 108 42 1000000) (rt_u I 108 14 0) [16, 17, 18, 19, 28, 42] := (F8.refl _ _).u (fun _ => by decide)
    refine wX12_goCarrier (h := a) hk hm ha (cnt sh) (d + 14) 0 a 0 sh (fun _ => 0) (FR, fun _ => 0) _ _ _ _ _ _ _ _ _ (by omega) rfl (by omega) ha (by omega) (by omega) (Nat.le_refl _) rfl rfl rfl rfl rfl (h0.cr hG hG8 (rt_u1 (by decide))) ⟨rt_u_at, fun q => absurd q (Nat.lt_irrefl _)⟩ (fun i hi => absurd hi (Nat.not_lt_zero _)) (fun M1 r1 h1 c1 l1 a1 _ => ?_)
    have hle2 := cF_le (h := a) hk hm (cnt sh) a 0 sh 0 (fun _ => 0) (FR, fun _ => 0)
    rw [Nat.zero_add] at c1
    generalize cF s m a (cnt sh) a 0 sh 0 (fun _ => 0) (FR, fun _ => 0) = b at *
    dsimp only at hle2
    have a1' : M1 108 14 = 0 := a1.trans ((rt_u1 (by decide)).trans rt_u_at)
    have l1' := l1.trans ((Lo.of hG (by decide)).trans hLJ)
    rw [c1.1]
    refine ⟨fun z4 => ?_, fun z4 => ?_⟩
    · have hb := (n_le (a := b.1) (b := 120) rfl rfl (by omega) (by omega)).mp z4
      rw [if_pos hb] at hQ
      refine rt_loop (P := fun k => ∀ M, MI B s m us kp mk (rowN (fun i => nI (b.2 i)) k) tx M → M 127 = M1 127 → M 108 42 = M1 108 42 → Lo M I → M 108 14 = 0 → rt_AW G (d + 150) kX12_carrier Q 87 [some (.ref 108), none, none, some (.int (nI sh)), some (.int (nI k))] [] M L r1) (cnt sh) ?_ ?_ _ h1.c13 (rt_u_ne (by decide)) (rt_u1 (by decide)) (c13L.trans l1') ((rt_u1 (by decide)).trans a1')
      · intro M hX _ h42 hl h14
        refine v_X12_carrier_87 _ _ _ _ _ (sJ6_bitCount (b := fun q => sh.testBit q) (n := 8) (by rw [btn_of (by omega)]) (by omega) ⟨fun _ => ?_, fun z => absurd (Int32.le_refl _) z⟩)
        rw [h42, c1.1]
        exact hQ M r1 hX hl h14
      · intro k hkn ih M hX h127 h42 hl h14
        refine v_X12_carrier_87 _ _ _ _ _ (sJ6_bitCount (b := fun q => sh.testBit q) (n := 8) (by rw [btn_of (by omega)]) (by omega) ⟨fun z => absurd ((n_le (a := cnt sh) (b := k) rfl rfl (by omega) (by omega)).mp z) (by omega), fun _ => ⟨vp_nI rfl (by omega) (by omega), ?_⟩⟩)
        rw [cl (n := k) rfl (by omega), h127, c1.2 (by omega) k hkn, nI_1]
        refine gM_tel2 hX (by rw [rowN_len]; omega) (fun M3 h3 f3 g3 => ih M3 h3 ((f3 127 (by decide)).trans h127) ((g3 42 (by decide)).trans h42) ((Lo.of f3 (by decide)).trans hl) ((g3 14 (by decide)).trans h14))
    · have hb := mt (n_le (a := b.1) (b := 120) rfl rfl (by omega) (by omega)).mpr z4
      rw [if_neg hb] at hQ
      exact hQ M1 r1 h1 l1' a1'
  · have hle := mt (n_le (a := cnt sh) (b := 6) rfl rfl (by unfold cnt; omega) (by omega)).mpr z3
    rw [if_neg hle] at hQ
    exact hQ _ _ h0 hLJ rt_u_at
end
