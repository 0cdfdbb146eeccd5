/-! THE FACE: latest, within, cutoff, could -/
noncomputable def Ds (s : SV) (m : MO) (mg sh a t : Nat) : Nat → Nat := @Classical.epsilon (Nat → Nat) ⟨fun _ => 0⟩ (SPs s m mg sh a t)
theorem Ds_sp {s : SV} {m : MO} {B : Nat} (hk : sok s) (hm : mok s B m) (mg sh a : Nat) {t : Nat} (ht : t ≤ FR) : SPs s m mg sh a t (Ds s m mg sh a t) :=
  Classical.epsilon_spec (SPd.ex (nar_ok s m mg) (fun v hv => by have := net_pl hk hm hv; have := hk.1; omega) ht)
theorem Ds_le {s : SV} {m : MO} {B : Nat} (hk : sok s) (hm : mok s B m) (mg sh a : Nat) {t : Nat} (ht : t ≤ FR) (p : Nat) : Ds s m mg sh a t p ≤ FR := (Ds_sp hk hm mg sh a ht).2.1 p
def XW (s : SV) (m : MO) (mg : Nat) (I : rt_I) : Prop := WT s m I ∧ WO s m mg I
theorem XW.fr {s : SV} {m : MO} {mg : Nat} {M I : rt_I} (h : XW s m mg I) (h0 : M 30 = I 30) (h1 : M 31 = I 31) : XW s m mg M := by
  unfold XW WT WO
  rw [h0, h1]
  exact h
/-- from n down the latest at which b holds -/
def latF (b : Nat → Bool) : Nat → Int32
  | 0 => if b 0 = true then 0 else -2
  | t + 1 => if b (t + 1) = true then nI (t + 1) else latF b t
noncomputable def fLatest (s : SV) (m : MO) (x y z : Int32) : Int32 :=
  if (inb x s.np && inb y s.np) = true ∧ ¬ x = y ∧ inb z 121 = true then latF (fun t => decide (Ds s m 0 0 (cc x) t (cc y) ≤ cc z)) (cc z) else -1
def wF (D : Nat → Nat) (n a : Nat) : Nat → Nat
  | 0 => a
  | o + 1 => if D o ≤ n ∧ D (wF D n a o) < D o then o else wF D n a o
theorem wF_lt (D : Nat → Nat) (n a : Nat) : ∀ o, wF D n a o = a ∨ wF D n a o < o
  | 0 => Or.inl rfl
  | o + 1 => by
    have := wF_lt D n a o
    unfold wF
    split
    · exact Or.inr (by omega)
    · omega
theorem anyb_s {b : Nat → Bool} {k : Nat} : anyb b (k + 1) = (anyb b k || b k) := rfl
noncomputable def fWithin (s : SV) (m : MO) (row : List Int32) (x y : Int32) : Int32 × List Int32 :=
  if inb x s.np = true ∧ inb y 121 = true then
    (bts (fun p => decide (Ds s m 0 0 (cc x) 0 p ≤ cc y)) s.np, [nI (cb (fun p => decide (Ds s m 0 0 (cc x) 0 p ≤ cc y)) s.np), nI (wF (Ds s m 0 0 (cc x) 0) (cc y) (cc x) s.np), nI (Ds s m 0 0 (cc x) 0 (wF (Ds s m 0 0 (cc x) 0) (cc y) (cc x) s.np))])
  else (-1, row)
noncomputable def fCutoff (s : SV) (m : MO) (x : Int32) : Int32 := if inb x s.np = true then bts (fun p => !decide (Ds s m 0 0 (cc x) 0 p ≤ 120)) s.np else -1
noncomputable def cdB (s : SV) (m : MO) (p n c : Nat) : Bool := if ¬ m (c * 8) = -1 then decide (Ds s m 0 0 (cc (m (c * 8))) 0 p ≤ n) else (fsee s m c).1 && decide (Ds s m 0 0 (cc (m (c * 8 + 2))) (cc (fsee s m c).2.1) p ≤ n)
noncomputable def fCould (s : SV) (m : MO) (x y : Int32) : Int32 := if inb x s.np = true ∧ inb y 121 = true then bts (cdB s m (cc x) (cc y)) s.nc else -1
theorem cut_dec8 : ∀ n : Fin 9, ∀ k : Fin 256, k.val < 2 ^ n.val → (((1 : Int32) <<< (nI n.val &&& 31)) - 1) &&& (nI k.val ^^^ (-1)) = nI (2 ^ n.val - 1 - k.val) := by decide +kernel
theorem cut_eq8 {b : Nat → Bool} {n : Nat} (hn : n ≤ 8) : (((1 : Int32) <<< (nI n &&& 31)) - 1) &&& (bts b n ^^^ (-1)) = bts (fun c => !b c) n := by
  have h1 := btn_lt (b := b) n
  have h3 : (2 : Nat) ^ n ≤ 2 ^ 8 := Nat.pow_le_pow_right (by omega) hn
  rw [bts_n (by omega), bts_n (by omega), cut_dec8 ⟨n, by omega⟩ ⟨btn b n, by omega⟩ h1]
  have := btn_not (b := b) n
  congr 1
  dsimp only
  omega
section
variable {G : rt_G} {d : Nat} {Q : rt_Q} {I : rt_I} {L : rt_L} {r B mg : Nat} {s : SV} {m : MO} {us : List MO} {kp : Nat → Option MO} {mk : MKT} {row : List Int32} {tx : TXT}
theorem gX_look (h : XI s m us kp mk row tx I) (hk : sok s) (hm : mok s B m) (hmg : mg ≤ 20) (hQ : ∀ M, XI s m us kp mk row tx M → XW s m mg M → (∀ c, 108 ≤ c → M c = I c) → Q 0 M L r) : rt_Call G (d + 4) kX10_lookOn [.ref 29, .int (nI mg)] I L r Q :=
  wX10_lookOn h.1 hk h.2.1 hm hmg (fun M hF hT hO => hQ M (h.q (hF.mono (by decide)) (by rw [hF 20 (by decide)]) (by rw [hF 38 (by decide)]) (h.2.2.2.2.2.1.fr (hF 42 (by decide)) (hF 43 (by decide)))) ⟨hT, hO⟩ (hF.hi (by decide)))
theorem XI.s33 {M : rt_I} (h : XI s m us kp mk row tx I) (hF : Fr M I [33]) : XI s m us kp mk row tx M := h.q (hF.mono (by decide)) (by rw [hF 20 (by decide)]) (by rw [hF 38 (by decide)]) (h.2.2.2.2.2.1.fr (hF 42 (by decide)) (hF 43 (by decide)))
theorem gX_spread {a t sh : Nat} {x1 x2 x3 : Int32} (h : XI s m us kp mk row tx I) (hk : sok s) (hm : mok s B m) (hW : XW s m mg I) (ha : a < s.np) (hsh : sh < 256) (ht : t ≤ FR) (h1 : x1 = nI a) (h2 : x2 = nI t) (h3 : x3 = nI sh)
    (hQ : ∀ M, XI s m us kp mk row tx M → XW s m mg M → SS (Ds s m mg sh a t) M → Fr M I [33] → Q 0 M L r) : rt_Call G (d + 2) kX10_spread [.ref 29, .int x1, .int x2, .int x3] I L r Q :=
  wX10_spread h.1 hk h.2.1 hm ha hsh ht (Ds_sp hk hm mg sh a ht) hW.1 hW.2 h1 h2 h3 (fun M hF hS => hQ M (h.s33 hF) (hW.fr (hF 30 (by decide)) (hF 31 (by decide))) hS hF)
theorem MI.mq {M : rt_I} (h : MI B s m us kp mk row tx I) (hR : Mq M I) : MI B s m us kp mk row tx M :=
  h.q (hR.1.mono (by decide)) (hR.2.1.mono (by decide)) (hR.2.2.trans h.z28) (h.2.2.2.2.2.1.fr (hR.2.1 13 (by decide)) (hR.1 115 (by decide)))
theorem gM_soon {a t : Nat} {x1 x2 : Int32} (h : MI B s m us kp mk row tx I) (hk : sok s) (hm : mok s B m) (hmg : mg ≤ 20) (ha : a < s.np) (ht : t ≤ FR) (h1 : x1 = nI a) (h2 : x2 = nI t)
    (hQ : ∀ M r', MI B s m us kp mk row tx M → SM (Ds s m mg 0 a t) M → Lo M I → (∀ j, j ∉ [16, 17, 18, 19, 28] → M 108 j = I 108 j) → Mq M I → Q 0 M L r') : rt_Call G (d + 133) kX12_findSoon [.ref 108, .int x1, .int x2, .int (nI mg)] I L r Q :=
  wX12_findSoon h.1 hk h.2.1 hm hmg ha ht (Ds_sp hk hm mg 0 a ht) h1 h2 (fun M r' hq hS => hQ M r' (h.mq hq) hS (Lo.of hq.1 (by decide)) hq.2.1 hq)
theorem gM_tel2 {v : Int32} (h : MI B s m us kp mk row tx I) (hl : row.length < 16) (hQ : ∀ M, MI B s m us kp mk (row ++ [v]) tx M → Fr M I [108, 115] → F8 M I [13] → Q 0 M L r) : rt_Call G d kX12_tell [.ref 108, .int v] I L r Q :=
  wX12_tell h.2.2.2.2.2.1 hl (fun M hF h8 hR => hQ M (h.rw hF h8 hR) hF h8)
theorem wF_no {D : Nat → Nat} {n a : Nat} : ∀ {o}, anyb (fun p => decide (D p ≤ n)) o = false → wF D n a o = a
  | 0, _ => rfl
  | o + 1, h => by
    rw [anyb_s, Bool.or_eq_false_iff] at h
    unfold wF
    rw [if_neg (by have := h.2; simp at this; omega)]
    exact wF_no h.1
/-! latest -/
theorem fX_latest {x y z : Int32} (h : XI s m us kp mk row tx I) (hk : sok s) (hm : mok s B m)
    (hQ : ∀ M, XI s m us kp mk row tx M → (∀ c, 108 ≤ c → M c = I c) → Q (fLatest s m x y z) M L r) : rt_Call G (d + 5) kX11_latest [.ref 0, .int x, .int y, .int z] I L r Q := by
  have h8 := hk.1
  have hFR : FR = 1000000 := rfl
  unfold fLatest at hQ
  have hno : ¬ ((inb x s.np && inb y s.np) = true ∧ ¬ x = y ∧ inb z 121 = true) → Q (-1) I L r := by
    intro q
    rw [if_neg q] at hQ
    exact hQ I h (fun _ _ => rfl)
  refine v_X11_latest _ _ _ _ _ _ (sX2_hasPlace h.1.1 (fun z1 => ⟨fun q => absurd q (by decide), fun _ => sX2_hasPlace h.1.1 (fun z2 => ⟨fun q => absurd q (by decide), fun _ => ⟨fun z3 => hno (fun q => q.2.1 z3), fun z3 => ⟨fun z4 => hno (fun q => ((inb100 (k := 120) (by omega)).mpr q.2.2).1 z4), fun z4 => ⟨fun z5 => ?_, fun z5 => hno (fun q => z5 ((inb100 (k := 120) (by omega)).mpr q.2.2).2)⟩⟩⟩⟩) (fun z2 => ⟨fun _ => hno (fun q => by rw [Bool.and_eq_true] at q; exact z2 (inb_iff.mp q.1.2)), fun q => absurd rfl q⟩)⟩) (fun z1 => ⟨fun _ => hno (fun q => by rw [Bool.and_eq_true] at q; exact z1 (inb_iff.mp q.1.1)), fun q => absurd rfl q⟩))
  have hz := (inb100 (k := 120) (by omega)).mp ⟨z4, z5⟩
  rw [if_pos ⟨by rw [Bool.and_eq_true]; exact ⟨inb_iff.mpr z1, inb_iff.mpr z2⟩, z3, hz⟩] at hQ
  obtain ⟨a, ha, rfl⟩ := (inr_iff (by omega)).mp z1
  obtain ⟨b, hb, rfl⟩ := (inr_iff (by omega)).mp z2
  obtain ⟨n, hn, rfl⟩ := (inr_iff (by omega)).mp (inb_iff.mp hz)
  rw [cc_nI (by omega), cc_nI (by omega), cc_nI (by omega)] at hQ
  refine gX_look (mg := 0) h hk hm (by omega) (fun M0 h0 w0 i0 => ?_)
  have key : ∀ t M, t ≤ n → XI s m us kp mk row tx M → XW s m 0 M → (∀ c, 108 ≤ c → M c = I c) → latF (fun t => decide (Ds s m 0 0 a t b ≤ n)) n = latF (fun t => decide (Ds s m 0 0 a t b ≤ n)) t → rt_AW G (d + 5) kX11_latest Q 50 [some (.ref 0), some (.int (nI a)), some (.int (nI b)), some (.int (nI n)), some (.int (nI t))] [] M L r := by
    intro t
    induction t with
    | zero =>
      intro M htn hX hW hhi e
      refine v_X11_latest_50 _ _ _ _ _ _ _ ⟨fun q => absurd q (by decide), fun _ => gX_spread hX hk hm hW ha (by omega) (by omega) rfl rfl (show (0 : Int32) = nI 0 from rfl) (fun M2 h2 w2 s2 f2 => ⟨vp_nI rfl (by omega) (by omega), ?_⟩)⟩
      have hle := Ds_le hk hm 0 0 a (t := 0) (by omega) b
      have hhi2 : ∀ c, 108 ≤ c → M2 c = I c := fun c hc => (f2.hi (by decide) c hc).trans (hhi c hc)
      rw [cl (n := b) rfl (by omega), s2 b (by omega)]
      refine ⟨fun q => ?_, fun q => ?_⟩
      · have hlt := (nI_ltI (by omega) (by omega)).mp q
        have hl : latF (fun t => decide (Ds s m 0 0 a t b ≤ n)) 0 = -2 := by unfold latF; rw [if_neg (by simp; omega)]
        rw [e, hl] at hQ
        exact v_X11_latest_50 _ _ _ _ _ _ _ ⟨fun _ => hQ M2 h2 hhi2, fun q => absurd (by decide) q⟩
      · have hlt := mt (nI_ltI (a := n) (b := Ds s m 0 0 a 0 b) (by omega) (by omega)).mpr q
        have hl : latF (fun t => decide (Ds s m 0 0 a t b ≤ n)) 0 = 0 := by unfold latF; rw [if_pos (by simp; omega)]
        rw [e, hl] at hQ
        exact hQ M2 h2 hhi2
    | succ t ih =>
      intro M htn hX hW hhi e
      refine v_X11_latest_50 _ _ _ _ _ _ _ ⟨fun q => absurd q (n_neg (by omega)), fun _ => gX_spread hX hk hm hW ha (by omega) (by omega) rfl rfl (show (0 : Int32) = nI 0 from rfl) (fun M2 h2 w2 s2 f2 => ⟨vp_nI rfl (by omega) (by omega), ?_⟩)⟩
      have hle := Ds_le hk hm 0 0 a (t := t + 1) (by omega) b
      have hhi2 : ∀ c, 108 ≤ c → M2 c = I c := fun c hc => (f2.hi (by decide) c hc).trans (hhi c hc)
      have e2 : latF (fun t => decide (Ds s m 0 0 a t b ≤ n)) (t + 1) = if (decide (Ds s m 0 0 a (t + 1) b ≤ n)) = true then nI (t + 1) else latF (fun t => decide (Ds s m 0 0 a t b ≤ n)) t := rfl
      rw [cl (n := b) rfl (by omega), s2 b (by omega)]
      refine ⟨fun q => ?_, fun q => ?_⟩
      · have hlt := (nI_ltI (by omega) (by omega)).mp q
        rw [e2, if_neg (by simp; omega)] at e
        rw [show nI (t + 1) + (-1) = nI t from pk_m1 t]
        exact ih M2 (by omega) h2 w2 hhi2 e
      · have hlt := mt (nI_ltI (a := n) (b := Ds s m 0 0 a (t + 1) b) (by omega) (by omega)).mpr q
        rw [e2, if_pos (by simp; omega)] at e
        rw [e] at hQ
        exact hQ M2 h2 hhi2
  exact key n M0 (Nat.le_refl _) h0 w0 i0 rfl
theorem fM_latest {x y z : Int32} (h : MI B s m us kp mk row tx I) (hk : sok s) (hm : mok s B m)
    (hQ : ∀ M r', MI B s m us kp mk row tx M → Lo M I → M 108 14 = 0 → Q (fLatest s m x y z) M L r') : rt_Call G (d + 134) kX12_latest [.ref 108, .int x, .int y, .int z] I L r Q := by
  have h8 := hk.1
  have hFR : FR = 1000000 := rfl
  have h0 := h.t0
  have hLJ : Lo (rt_u I 108 14 0) I := Lo.of u14F (by decide)
  unfold fLatest at hQ
  have hno : ¬ ((inb x s.np && inb y s.np) = true ∧ ¬ x = y ∧ inb z 121 = true) → Q (-1) (rt_u I 108 14 0) L r := by
    intro q
    rw [if_neg q] at hQ
    exact hQ _ _ h0 hLJ rt_u_at
  refine v_X12_latest _ _ _ _ _ _ (sX12_isPlace h0.1.1 (by omega) (fun z1 => ⟨fun q => absurd q (by decide), fun _ => sX12_isPlace h0.1.1 (by omega) (fun z2 => ⟨fun q => absurd q (by decide), fun _ => ⟨fun z3 => hno (fun q => q.2.1 z3), fun z3 => sX12_isLook (fun z4 => ⟨fun _ => ?_, fun q => absurd q (by decide)⟩) (fun z4 => ⟨fun q => absurd rfl q, fun _ => hno (fun q => z4 ((inbD (k := 120) (by omega)).mpr q.2.2))⟩)⟩⟩) (fun z2 => ⟨fun _ => hno (fun q => by rw [Bool.and_eq_true] at q; exact z2 (inb_iff.mp q.1.2)), fun q => absurd rfl q⟩)⟩) (fun z1 => ⟨fun _ => hno (fun q => by rw [Bool.and_eq_true] at q; exact z1 (inb_iff.mp q.1.1)), fun q => absurd rfl q⟩))
  have hz := (inbD (k := 120) (by omega)).mp z4
  rw [if_pos ⟨by rw [Bool.and_eq_true]; exact ⟨inb_iff.mpr z1, inb_iff.mpr z2⟩, z3, hz⟩] at hQ
  obtain ⟨a, ha, rfl⟩ := (inr_iff (by omega)).mp z1
  obtain ⟨b, hb, rfl⟩ := (inr_iff (by omega)).mp z2
  obtain ⟨n, hn, rfl⟩ := (inr_iff (by omega)).mp (inb_iff.mp hz)
  rw [cc_nI (by omega), cc_nI (by omega), cc_nI (by omega)] at hQ
  have key : ∀ t M r', t ≤ n → MI B s m us kp mk row tx M → Lo M I → M 108 14 = 0 → latF (fun t => decide (Ds s m 0 0 a t b ≤ n)) n = latF (fun t => decide (Ds s m 0 0 a t b ≤ n)) t → rt_AW G (d + 134) kX12_latest Q 38 [some (.ref 108), some (.int (nI a)), some (.int (nI b)), some (.int (nI n)), some (.int (nI t))] [] M L r' := by
    intro t
    induction t with
    | zero =>
      intro M r' htn hX hl h14 e
      refine v_X12_latest_38 _ _ _ _ _ _ _ ⟨fun q => absurd q (by decide), fun _ => gM_soon (mg := 0) hX hk hm (by omega) ha (by omega) rfl rfl (fun M2 r2 h2 s2 l2 j2 _ => ⟨vp_nI rfl (by omega) (by omega), ?_⟩)⟩
      have hle := Ds_le hk hm 0 0 a (t := 0) (by omega) b
      have hl2 := l2.trans hl
      have h142 := (j2 14 (by decide)).trans h14
      rw [cl (n := b) rfl (by omega), s2 b (by omega)]
      refine ⟨fun q => ?_, fun q => ?_⟩
      · have hlt := (nI_ltI (by omega) (by omega)).mp q
        have hl3 : latF (fun t => decide (Ds s m 0 0 a t b ≤ n)) 0 = -2 := by unfold latF; rw [if_neg (by simp; omega)]
        rw [e, hl3] at hQ
        exact v_X12_latest_38 _ _ _ _ _ _ _ ⟨fun _ => hQ M2 _ h2 hl2 h142, fun q => absurd (by decide) q⟩
      · have hlt := mt (nI_ltI (a := n) (b := Ds s m 0 0 a 0 b) (by omega) (by omega)).mpr q
        have hl3 : latF (fun t => decide (Ds s m 0 0 a t b ≤ n)) 0 = 0 := by unfold latF; rw [if_pos (by simp; omega)]
        rw [e, hl3] at hQ
        exact hQ M2 _ h2 hl2 h142
    | succ t ih =>
      intro M r' htn hX hl h14 e
      refine v_X12_latest_38 _ _ _ _ _ _ _ ⟨fun q => absurd q (n_neg (by omega)), fun _ => gM_soon (mg := 0) hX hk hm (by omega) ha (by omega) rfl rfl (fun M2 r2 h2 s2 l2 j2 _ => ⟨vp_nI rfl (by omega) (by omega), ?_⟩)⟩
      have hle := Ds_le hk hm 0 0 a (t := t + 1) (by omega) b
      have hl2 := l2.trans hl
      have h142 := (j2 14 (by decide)).trans h14
      have e2 : latF (fun t => decide (Ds s m 0 0 a t b ≤ n)) (t + 1) = if (decide (Ds s m 0 0 a (t + 1) b ≤ n)) = true then nI (t + 1) else latF (fun t => decide (Ds s m 0 0 a t b ≤ n)) t := rfl
      rw [cl (n := b) rfl (by omega), s2 b (by omega)]
      refine ⟨fun q => ?_, fun q => ?_⟩
      · have hlt := (nI_ltI (by omega) (by omega)).mp q
        rw [e2, if_neg (by simp; omega)] at e
        rw [show nI (t + 1) + (-1) = nI t from pk_m1 t]
        exact ih M2 _ (by omega) h2 hl2 h142 e
      · have hlt := mt (nI_ltI (a := n) (b := Ds s m 0 0 a (t + 1) b) (by omega) (by omega)).mpr q
        rw [e2, if_pos (by simp; omega)] at e
        rw [e] at hQ
        exact hQ M2 _ h2 hl2 h142
  exact key n _ _ (Nat.le_refl _) h0 hLJ rt_u_at rfl
/-! within -/
theorem fX_within {x y : Int32} (h : XI s m us kp mk row tx I) (hk : sok s) (hm : mok s B m)
    (hQ : ∀ M, XI s m us kp mk (fWithin s m row x y).2 tx M → (∀ c, 108 ≤ c → M c = I c) → Q (fWithin s m row x y).1 M L r) : rt_Call G (d + 5) kX11_within [.ref 0, .int x, .int y] I L r Q := by
  have h8 := hk.1
  have hFR : FR = 1000000 := rfl
  unfold fWithin at hQ
  have hno : ¬ (inb x s.np = true ∧ inb y 121 = true) → Q (-1) I L r := by
    intro q
    rw [if_neg q] at hQ
    exact hQ I h (fun _ _ => rfl)
  refine v_X11_within _ _ _ _ _ (sX2_hasPlace h.1.1 (fun z1 => ⟨fun q => absurd q (by decide), fun _ => ⟨fun z4 => hno (fun q => ((inb100 (k := 120) (by omega)).mpr q.2).1 z4), fun z4 => ⟨fun z5 => ?_, fun z5 => hno (fun q => z5 ((inb100 (k := 120) (by omega)).mpr q.2).2)⟩⟩⟩) (fun z1 => ⟨fun _ => hno (fun q => z1 (inb_iff.mp q.1)), fun q => absurd rfl q⟩))
  have hz := (inb100 (k := 120) (by omega)).mp ⟨z4, z5⟩
  rw [if_pos ⟨inb_iff.mpr z1, hz⟩] at hQ
  obtain ⟨a, ha, rfl⟩ := (inr_iff (by omega)).mp z1
  obtain ⟨n, hn, rfl⟩ := (inr_iff (by omega)).mp (inb_iff.mp hz)
  rw [cc_nI (by omega), cc_nI (by omega)] at hQ
  have hD := Ds_le hk hm 0 0 a (t := 0) (by omega)
  refine gX_look (mg := 0) h hk hm (by omega) (fun M0 h0 w0 i0 => gX_spread (t := 0) h0 hk hm w0 ha (by omega) (by omega) rfl rfl (show (0 : Int32) = nI 0 from rfl) (fun M2 h2 w2 s2 f2 => ?_))
  have hhi2 : ∀ c, 108 ≤ c → M2 c = I c := fun c hc => (f2.hi (by decide) c hc).trans (i0 c hc)
  generalize Ds s m 0 0 a 0 = D at *
  refine rt_loop (P := fun o => rt_AW G (d + 5) kX11_within Q 46 [some (.ref 0), none, some (.int (nI n)), some (.int (nI (wF D n a o))), some (.int (nI o))] [] M2 L r) s.np ?_ ?_
  · refine v_X11_within_46 _ _ _ _ _ _ ⟨fun _ => wX10_reachedBy h2.1 hk s2 hD rfl (by omega) ?_, fun q => absurd (by rw [h2.1.1]; exact Int32.le_refl _) q⟩
    have hw : wF D n a s.np < 8 := by have := wF_lt D n a s.np; omega
    refine gX_clear h2 (fun M3 h3 f3 => sJ6_bitCount (b := fun p => decide (D p ≤ n)) (n := s.np) (bts_n (by omega)) (by omega) (gX_add h3 (by simp) (fun M4 h4 f4 => gX_add h4 (by simp) (fun M5 h5 f5 => ⟨vp_nI rfl hw (by omega), ?_⟩))))
    have f5' : Fr M5 M2 [42, 43] := f5.trans (f4.trans f3)
    rw [cl (n := wF D n a s.np) rfl (by omega), f5' 33 (by decide), s2 _ hw]
    refine gX_add h5 (by simp) (fun M6 h6 f6 => hQ M6 h6 (fun c hc => ((f6.trans f5').hi (by decide) c hc).trans (hhi2 c hc)))
  · intro o ho ih
    have hw : wF D n a o < 8 := by have := wF_lt D n a o; omega
    have hDo := hD o
    have hDw := hD (wF D n a o)
    have hv : vp_in (nI o) 8 := vp_nI rfl (by omega) (by omega)
    rw [show wF D n a (o + 1) = if D o ≤ n ∧ D (wF D n a o) < D o then o else wF D n a o from rfl] at ih
    refine v_X11_within_46 _ _ _ _ _ _ ⟨fun q => absurd ((n_le h2.1.1 rfl (by omega) (by omega)).mp q) (by omega), fun _ => ⟨hv, ?_⟩⟩
    rw [cl (n := o) rfl (by omega), cl (n := wF D n a o) rfl (by omega), s2 o (by omega), s2 _ hw, nI_1]
    refine ⟨fun q => ?_, fun q => ⟨hv, vp_nI rfl hw (by omega), fun q2 => ?_, fun q2 => ?_⟩⟩
    · have := (nI_ltI (by omega) (by omega)).mp q
      rw [if_neg (by omega)] at ih; exact ih
    · have := (nI_leI (by omega) (by omega)).mp q2
      rw [if_neg (by omega)] at ih; exact ih
    · have c1 := mt (nI_ltI (a := n) (b := D o) (by omega) (by omega)).mpr q
      have c2 := mt (nI_leI (a := D o) (b := D (wF D n a o)) (by omega) (by omega)).mpr q2
      rw [if_pos (by omega)] at ih; exact ih
theorem fM_within {x y : Int32} (h : MI B s m us kp mk row tx I) (hk : sok s) (hm : mok s B m)
    (hQ : ∀ M r', MI B s m us kp mk (fWithin s m row x y).2 tx M → Lo M I → M 108 14 = 0 → Q (fWithin s m row x y).1 M L r') : rt_Call G (d + 134) kX12_within [.ref 108, .int x, .int y] I L r Q := by
  have h8 := hk.1
  have hFR : FR = 1000000 := rfl
  have h0 := h.t0
  have hLJ : Lo (rt_u I 108 14 0) I := Lo.of u14F (by decide)
  unfold fWithin at hQ
  have hno : ¬ (inb x s.np = true ∧ inb y 121 = true) → Q (-1) (rt_u I 108 14 0) L r := by
    intro q
    rw [if_neg q] at hQ
    exact hQ _ _ h0 hLJ rt_u_at
  refine v_X12_within _ _ _ _ _ (sX12_isPlace h0.1.1 (by omega) (fun z1 => ⟨fun q => absurd q (by decide), fun _ => sX12_isLook (fun z4 => ⟨fun _ => ?_, fun q => absurd q (by decide)⟩) (fun z4 => ⟨fun q => absurd rfl q, fun _ => hno (fun q => z4 ((inbD (k := 120) (by omega)).mpr q.2))⟩)⟩) (fun z1 => ⟨fun _ => hno (fun q => z1 (inb_iff.mp q.1)), fun q => absurd rfl q⟩))
  have hz := (inbD (k := 120) (by omega)).mp z4
  rw [if_pos ⟨inb_iff.mpr z1, hz⟩] at hQ
  obtain ⟨a, ha, rfl⟩ := (inr_iff (by omega)).mp z1
  obtain ⟨n, hn, rfl⟩ := (inr_iff (by omega)).mp (inb_iff.mp hz)
  rw [cc_nI (by omega), cc_nI (by omega)] at hQ
  have hsp := Ds_sp hk hm 0 0 a (t := 0) (by omega)
  refine gM_soon (mg := 0) (t := 0) h0 hk hm (by omega) ha (by omega) rfl rfl (fun M2 r2 h2 s2 l2 j2 _ => ?_)
  have hpos : ∀ p, p ≠ a → 0 < Ds s m 0 0 a 0 p := by
    intro p hp
    rcases Nat.eq_zero_or_pos (Ds s m 0 0 a 0 p) with e | e
    · obtain ⟨v, hv, e1, e2, e3⟩ := hsp.2.2.2 p hp (by omega)
      rcases (nar_ok s m 0 v hv).2 (Ds s m 0 0 a 0 (nfr m v)) with z | z <;> omega
    · exact e
  have hDa : Ds s m 0 0 a 0 a = 0 := hsp.1
  have hD := hsp.2.1
  have h142 : M2 108 14 = 0 := (j2 14 (by decide)).trans rt_u_at
  generalize Ds s m 0 0 a 0 = D at *
  refine rt_loop (P := fun o => rt_AW G (d + 134) kX12_within Q 37 [some (.ref 108), none, some (.int (nI n)), some (.int (bts (fun p => decide (D p ≤ n)) o)), some (.int (if anyb (fun p => decide (D p ≤ n)) o = true then nI (wF D n a o) else -1)), some (.int (nI o))] [] M2 L r2) s.np ?_ ?_
  · have hw : wF D n a s.np < 8 := by have := wF_lt D n a s.np; omega
    rw [if_pos (anyb_mono (k := a) ha (by simp; omega))]
    refine v_X12_within_37 _ _ _ _ _ _ _ ⟨fun _ => sJ6_bitCount (b := fun p => decide (D p ≤ n)) (n := s.np) (bts_n (by omega)) (by omega) (gM_tel2 h2.c13 (by simp) (fun M4 h4 f4 g4 => gM_tel2 h4 (by simp) (fun M5 h5 f5 g5 => ⟨vp_nI rfl hw (by omega), ?_⟩))), fun q => absurd (by rw [h2.1.1]; exact Int32.le_refl _) q⟩
    have f5' := f5.trans f4
    rw [cl (n := wF D n a s.np) rfl (by omega), f5' 125 (by decide), rt_u_ne (by decide), s2 _ hw]
    refine gM_tel2 h5 (by simp) (fun M6 h6 f6 g6 => hQ M6 _ h6 ((Lo.of (f6.trans f5') (by decide)).trans (c13L.trans (l2.trans hLJ))) ?_)
    rw [g6 14 (by decide), g5 14 (by decide), g4 14 (by decide), rt_u1 (by decide)]
    exact h142
  · intro o ho ih
    have hw : wF D n a o < 8 := by have := wF_lt D n a o; omega
    have hDo := hD o
    have hDw := hD (wF D n a o)
    have hv : vp_in (nI o) 8 := vp_nI rfl (by omega) (by omega)
    rw [show wF D n a (o + 1) = if D o ≤ n ∧ D (wF D n a o) < D o then o else wF D n a o from rfl, anyb_s, show bts (fun p => decide (D p ≤ n)) (o + 1) = if (decide (D o ≤ n)) = true then bts (fun p => decide (D p ≤ n)) o ||| (1 <<< (nI o &&& 31)) else bts (fun p => decide (D p ≤ n)) o from rfl] at ih
    refine v_X12_within_37 _ _ _ _ _ _ _ ⟨fun q => absurd ((n_le h2.1.1 rfl (by omega) (by omega)).mp q) (by omega), fun _ => ⟨hv, ?_⟩⟩
    rw [cl (n := o) rfl (by omega), s2 o (by omega), nI_1]
    refine ⟨fun q => ?_, fun q => ?_⟩
    · have c1 := (nI_leI (by omega) (by omega)).mp q
      have hd : decide (D o ≤ n) = true := by simpa using c1
      rw [if_pos hd, hd, Bool.or_true, if_pos rfl] at ih
      by_cases ha0 : anyb (fun p => decide (D p ≤ n)) o = true
      · rw [if_pos ha0]
        refine ⟨fun y => absurd y (n_ne1 (by omega)), fun _ => ⟨hv, vp_nI rfl hw (by omega), ?_⟩⟩
        rw [cl (n := wF D n a o) rfl (by omega), s2 _ hw]
        refine ⟨fun q2 => ?_, fun q2 => ?_⟩
        · have := (nI_leI (by omega) (by omega)).mp q2
          rw [if_neg (by omega)] at ih; exact ih
        · have c2 := mt (nI_leI (a := D o) (b := D (wF D n a o)) (by omega) (by omega)).mpr q2
          rw [if_pos (by omega)] at ih; exact ih
      · rw [if_neg ha0]
        refine ⟨fun _ => ?_, fun y => absurd rfl y⟩
        have hwa := wF_no (a := a) (show anyb (fun p => decide (D p ≤ n)) o = false by cases hh : anyb (fun p => decide (D p ≤ n)) o <;> simp_all)
        rw [hwa] at ih
        by_cases e : o = a
        · subst e
          rw [if_neg (by omega)] at ih; exact ih
        · have := hpos o e
          rw [if_pos (by omega)] at ih; exact ih
    · have c1 := mt (nI_leI (a := D o) (b := n) (by omega) (by omega)).mpr q
      have hd : decide (D o ≤ n) = false := by simpa using c1
      rw [if_neg (show ¬ decide (D o ≤ n) = true by rw [hd]; decide), hd, Bool.or_false, if_neg (show ¬ (D o ≤ n ∧ D (wF D n a o) < D o) by omega)] at ih
      exact ih
/-! cutoff -/
theorem fX_cutoff {x : Int32} (h : XI s m us kp mk row tx I) (hk : sok s) (hm : mok s B m)
    (hQ : ∀ M, XI s m us kp mk row tx M → (∀ c, 108 ≤ c → M c = I c) → Q (fCutoff s m x) M L r) : rt_Call G (d + 5) kX11_cutoff [.ref 0, .int x] I L r Q := by
  have h8 := hk.1
  have hFR : FR = 1000000 := rfl
  unfold fCutoff at hQ
  refine v_X11_cutoff _ _ _ _ (sX2_hasPlace h.1.1 (fun z1 => ⟨fun _ => ?_, fun q => absurd q (by decide)⟩) (fun z1 => ⟨fun q => absurd rfl q, fun _ => ?_⟩))
  · rw [if_pos (inb_iff.mpr z1)] at hQ
    obtain ⟨a, ha, rfl⟩ := (inr_iff (by omega)).mp z1
    rw [cc_nI (by omega)] at hQ
    have hD := Ds_le hk hm 0 0 a (t := 0) (by omega)
    refine gX_look (mg := 0) h hk hm (by omega) (fun M0 h0 w0 i0 => gX_spread (t := 0) h0 hk hm w0 ha (by omega) (by omega) rfl rfl (show (0 : Int32) = nI 0 from rfl) (fun M2 h2 w2 s2 f2 => sX2_allPlaces (wX10_reachedBy (k := 120) h2.1 hk s2 hD rfl (by omega) ?_)))
    rw [h2.1.1, cut_eq8 h8]
    exact hQ M2 h2 (fun c hc => (f2.hi (by decide) c hc).trans (i0 c hc))
  · rw [if_neg (mt inb_iff.mp z1)] at hQ
    exact hQ I h (fun _ _ => rfl)
theorem fM_cutoff {x : Int32} (h : MI B s m us kp mk row tx I) (hk : sok s) (hm : mok s B m)
    (hQ : ∀ M r', MI B s m us kp mk row tx M → Lo M I → M 108 14 = 0 → Q (fCutoff s m x) M L r') : rt_Call G (d + 134) kX12_cutoff [.ref 108, .int x] I L r Q := by
  have h8 := hk.1
  have hFR : FR = 1000000 := rfl
  have h0 := h.t0
  have hLJ : Lo (rt_u I 108 14 0) I := Lo.of u14F (by decide)
  unfold fCutoff at hQ
  refine v_X12_cutoff _ _ _ _ (sX12_isPlace h0.1.1 (by omega) (fun z1 => ⟨fun _ => ?_, fun q => absurd q (by decide)⟩) (fun z1 => ⟨fun q => absurd rfl q, fun _ => ?_⟩))
  · rw [if_pos (inb_iff.mpr z1)] at hQ
    obtain ⟨a, ha, rfl⟩ := (inr_iff (by omega)).mp z1
    rw [cc_nI (by omega)] at hQ
    have hD := Ds_le hk hm 0 0 a (t := 0) (by omega)
    refine gM_soon (mg := 0) (t := 0) h0 hk hm (by omega) ha (by omega) rfl rfl (fun M2 r2 h2 s2 l2 j2 _ => ?_)
    generalize Ds s m 0 0 a 0 = D at *
    refine rt_loop (P := fun o => rt_AW G (d + 134) kX12_cutoff Q 26 [some (.ref 108), none, some (.int (bts (fun p => !decide (D p ≤ 120)) o)), some (.int (nI o))] [] M2 L r2) s.np ?_ ?_
    · exact v_X12_cutoff_26 _ _ _ _ _ ⟨fun _ => hQ M2 _ h2 (l2.trans hLJ) ((j2 14 (by decide)).trans rt_u_at), fun q => absurd (by rw [h2.1.1]; exact Int32.le_refl _) q⟩
    · intro o ho ih
      have hDo := hD o
      rw [show bts (fun p => !decide (D p ≤ 120)) (o + 1) = if (!decide (D o ≤ 120)) = true then bts (fun p => !decide (D p ≤ 120)) o ||| (1 <<< (nI o &&& 31)) else bts (fun p => !decide (D p ≤ 120)) o from rfl] at ih
      refine v_X12_cutoff_26 _ _ _ _ _ ⟨fun q => absurd ((n_le h2.1.1 rfl (by omega) (by omega)).mp q) (by omega), fun _ => ⟨vp_nI rfl (by omega) (by omega), ?_⟩⟩
      rw [cl (n := o) rfl (by omega), s2 o (by omega), nI_1]
      refine ⟨fun q => ?_, fun q => ?_⟩
      · have := (n_le (a := D o) (b := 120) rfl rfl (by omega) (by omega)).mp q
        rw [if_neg (by simp; omega)] at ih
        rw [Int32.or_zero]; exact ih
      · have := mt (n_le (a := D o) (b := 120) rfl rfl (by omega) (by omega)).mpr q
        rw [if_pos (by simp; omega)] at ih; exact ih
  · rw [if_neg (mt inb_iff.mp z1)] at hQ
    exact hQ _ _ h0 hLJ rt_u_at
/-! could -/
theorem fX_could {x y : Int32} (h : XI s m us kp mk row tx I) (hk : sok s) (hm : mok s B m)
    (hQ : ∀ M, XI s m us kp mk row tx M → (∀ c, 108 ≤ c → M c = I c) → Q (fCould s m x y) M L r) : rt_Call G (d + 5) kX11_could [.ref 0, .int x, .int y] I L r Q := by
  have h8 := hk.1
  have h5 := hk.2.2.1
  have hFR : FR = 1000000 := rfl
  unfold fCould at hQ
  have hno : ¬ (inb x s.np = true ∧ inb y 121 = true) → Q (-1) I L r := by
    intro q
    rw [if_neg q] at hQ
    exact hQ I h (fun _ _ => rfl)
  refine v_X11_could _ _ _ _ _ (sX2_hasPlace h.1.1 (fun z1 => ⟨fun q => absurd q (by decide), fun _ => ⟨fun z4 => hno (fun q => ((inb100 (k := 120) (by omega)).mpr q.2).1 z4), fun z4 => ⟨fun z5 => ?_, fun z5 => hno (fun q => z5 ((inb100 (k := 120) (by omega)).mpr q.2).2)⟩⟩⟩) (fun z1 => ⟨fun _ => hno (fun q => z1 (inb_iff.mp q.1)), fun q => absurd rfl q⟩))
  have hz := (inb100 (k := 120) (by omega)).mp ⟨z4, z5⟩
  rw [if_pos ⟨inb_iff.mpr z1, hz⟩] at hQ
  obtain ⟨p, hp, rfl⟩ := (inr_iff (by omega)).mp z1
  obtain ⟨n, hn, rfl⟩ := (inr_iff (by omega)).mp (inb_iff.mp hz)
  rw [cc_nI (by omega), cc_nI (by omega)] at hQ
  obtain ⟨t, ht, e64, hco⟩ := hm.1
  refine gX_look (mg := 0) h hk hm (by omega) (fun M0 h0 w0 i0 => ?_)
  refine rt_loop (P := fun c => ∀ M, XI s m us kp mk row tx M → XW s m 0 M → (∀ c, 108 ≤ c → M c = I c) → rt_AW G (d + 5) kX11_could Q 36 [some (.ref 0), some (.int (nI p)), some (.int (nI n)), some (.int (bts (cdB s m p n) c)), some (.int (nI c)), none, none] [] M L r) s.nc ?_ ?_ M0 h0 w0 i0
  · intro M h1 w1 i1
    exact v_X11_could_36 _ _ _ _ _ _ _ ⟨fun _ => hQ M h1 i1, fun q => absurd (by rw [h1.1.2.2.1]; exact Int32.le_refl _) q⟩
  · intro c hc ih M h1 w1 i1
    have e1 : bts (cdB s m p n) (c + 1) = if cdB s m p n c = true then bts (cdB s m p n) c ||| (1 <<< (nI c &&& 31)) else bts (cdB s m p n) c := rfl
    have one : ∀ M (b : Bool), XI s m us kp mk row tx M → XW s m 0 M → (∀ c, 108 ≤ c → M c = I c) → cdB s m p n c = b → rt_AW G (d + 5) kX11_could Q 36 [some (.ref 0), some (.int (nI p)), some (.int (nI n)), some (.int (if b = true then bts (cdB s m p n) c ||| (1 <<< (nI c &&& 31)) else bts (cdB s m p n) c)), some (.int (nI (c + 1))), none, none] [] M L r := by
      intro M b h2 w2 i2 e
      have := ih M h2 w2 i2
      rw [e1, e] at this
      exact this
    refine v_X11_could_36 _ _ _ _ _ _ _ ⟨fun q => absurd ((n_le h1.1.2.2.1 rfl (by omega) (by omega)).mp q) (by omega), fun _ => sX4_of (j := 0) rfl rfl (by omega) ?_⟩
    rw [xm_0 hk h1.2.1 hc]
    simp only [nI_1]
    obtain ⟨q5, hq⟩ := hco c hc
    refine ⟨fun z => ?_, fun z => ?_⟩
    · rcases hq with ⟨a, ha, e0, -⟩ | ⟨e0, -⟩
      · have hcd : cdB s m p n c = decide (Ds s m 0 0 a 0 p ≤ n) := by unfold cdB; rw [if_pos z, e0, cc_nI (by omega)]
        rw [e0]
        have hD := Ds_le hk hm 0 0 a (t := 0) (by omega) p
        refine gX_spread (t := 0) h1 hk hm w1 ha (by omega) (by omega) rfl rfl (show (0 : Int32) = nI 0 from rfl) (fun M2 h2 w2 s2 f2 => ⟨vp_nI rfl (by omega) (by omega), ?_⟩)
        have i2 : ∀ c, 108 ≤ c → M2 c = I c := fun c hc => (f2.hi (by decide) c hc).trans (i1 c hc)
        rw [cl (n := p) rfl (by omega), s2 p (by omega)]
        refine ⟨fun q => ?_, fun q => ?_⟩
        · have := (nI_ltI (by omega) (by omega)).mp q
          exact one M2 false h2 w2 i2 (by rw [hcd]; simp; omega)
        · have := mt (nI_ltI (a := n) (b := Ds s m 0 0 a 0 p) (by omega) (by omega)).mpr q
          exact one M2 true h2 w2 i2 (by rw [hcd]; simp; omega)
      · exact absurd e0 z
    · have hcd : cdB s m p n c = ((fsee s m c).1 && decide (Ds s m 0 0 (cc (m (c * 8 + 2))) (cc (fsee s m c).2.1) p ≤ n)) := by unfold cdB; rw [if_neg (fun y => y z)]
      refine wX9_foresee h1.1 hk h1.2.1 hm rfl hc (fun M1 hT g7 g8 => ?_)
      have h1' := h1.tf hT
      have w1' := w1.fr (hT.1 30 (by decide)) (hT.1 31 (by decide))
      have i1' : ∀ c, 108 ≤ c → M1 c = I c := fun c hc => (hT.1.hi (by decide) c hc).trans (i1 c hc)
      refine ⟨fun y => sX4_of (j := 2) rfl rfl (by omega) ?_, fun y => one M1 false h1' w1' i1' (by rw [hcd, b2i_z.mp y, Bool.false_and])⟩
      rw [xm_c hk h1'.2.1 hc (by omega), g7]
      obtain ⟨f1, f2, j, j1, j2, ej⟩ := fsee_ex (b2i_t.mp y)
      rcases hq with ⟨a, ha, e0, -⟩ | ⟨e0, ⟨w, hw, e1', e2⟩, -⟩
      · exact absurd (e0.symm.trans z) (n_ne1 (by omega))
      · obtain ⟨a, b, ha, hb, g1, g2, g3⟩ := fe_end (hm.2 w hw) e2 hk
        rw [b2i_t.mp y, Bool.true_and, g1, ej, cc_nI (by omega), cc_nI (by omega)] at hcd
        have hD := Ds_le hk hm 0 0 a (t := j) (by omega) p
        rw [g1, ej]
        refine gX_spread (t := j) h1' hk hm w1' ha (by omega) (by omega) rfl rfl (show (0 : Int32) = nI 0 from rfl) (fun M2 h2 w2 s2 f2 => ⟨vp_nI rfl (by omega) (by omega), ?_⟩)
        have i2 : ∀ c, 108 ≤ c → M2 c = I c := fun c hc => (f2.hi (by decide) c hc).trans (i1' c hc)
        rw [cl (n := p) rfl (by omega), s2 p (by omega)]
        refine ⟨fun q => ?_, fun q => ?_⟩
        · have := (nI_ltI (by omega) (by omega)).mp q
          exact one M2 false h2 w2 i2 (by rw [hcd]; simp; omega)
        · have := mt (nI_ltI (a := n) (b := Ds s m 0 0 a j p) (by omega) (by omega)).mpr q
          exact one M2 true h2 w2 i2 (by rw [hcd]; simp; omega)
theorem gM_soonFrom {a t p : Nat} {x1 x2 x3 : Int32} (h : MI B s m us kp mk row tx I) (hk : sok s) (hm : mok s B m) (ha : a < s.np) (ht : t ≤ FR) (hp : p < s.np) (h1 : x1 = nI a) (h2 : x2 = nI t) (h3 : x3 = nI p)
    (hQ : ∀ M r', MI B s m us kp mk row tx M → Lo M I → (∀ j, j ∉ [16, 17, 18, 19, 28] → M 108 j = I 108 j) → Mq M I → Q (nI (Ds s m 0 0 a t p)) M L r') : rt_Call G (d + 134) kX12_soonFrom [.ref 108, .int x1, .int x2, .int x3] I L r Q := by
  have h8 := hk.1
  subst h3
  refine v_X12_soonFrom _ _ _ _ _ _ (gM_soon (mg := 0) h hk hm (by omega) ha ht h1 h2 (fun M2 r2 h2 s2 l2 j2 q2 => ⟨vp_nI rfl (by omega) (by omega), ?_⟩))
  rw [cl (n := p) rfl (by omega), s2 p (by omega)]
  exact hQ M2 r2 h2 l2 j2 q2
theorem fM_could {x y : Int32} (h : MI B s m us kp mk row tx I) (hk : sok s) (hm : mok s B m)
    (hQ : ∀ M r', MI B s m us kp mk row tx M → Lo M I → M 108 14 = 0 → Q (fCould s m x y) M L r') : rt_Call G (d + 135) kX12_could [.ref 108, .int x, .int y] I L r Q := by
  have h8 := hk.1
  have h5 := hk.2.2.1
  have hFR : FR = 1000000 := rfl
  have h0 := h.t0
  have hLJ : Lo (rt_u I 108 14 0) I := Lo.of u14F (by decide)
  unfold fCould at hQ
  have hno : ¬ (inb x s.np = true ∧ inb y 121 = true) → Q (-1) (rt_u I 108 14 0) L r := by
    intro q
    rw [if_neg q] at hQ
    exact hQ _ _ h0 hLJ rt_u_at
  refine v_X12_could _ _ _ _ _ (sX12_isPlace h0.1.1 (by omega) (fun z1 => ⟨fun q => absurd q (by decide), fun _ => sX12_isLook (fun z4 => ⟨fun _ => ?_, fun q => absurd q (by decide)⟩) (fun z4 => ⟨fun q => absurd rfl q, fun _ => hno (fun q => z4 ((inbD (k := 120) (by omega)).mpr q.2))⟩)⟩) (fun z1 => ⟨fun _ => hno (fun q => z1 (inb_iff.mp q.1)), fun q => absurd rfl q⟩))
  have hz := (inbD (k := 120) (by omega)).mp z4
  rw [if_pos ⟨inb_iff.mpr z1, hz⟩] at hQ
  obtain ⟨p, hp, rfl⟩ := (inr_iff (by omega)).mp z1
  obtain ⟨n, hn, rfl⟩ := (inr_iff (by omega)).mp (inb_iff.mp hz)
  rw [cc_nI (by omega), cc_nI (by omega)] at hQ
  obtain ⟨t, ht, e64, hco⟩ := hm.1
  refine rt_loop (P := fun c => ∀ M r', MI B s m us kp mk row tx M → Lo M I → M 108 14 = 0 → rt_AW G (d + 135) kX12_could Q 27 [some (.ref 108), some (.int (nI p)), some (.int (nI n)), some (.int (bts (cdB s m p n) c)), some (.int (nI c)), none, none, none] [] M L r') s.nc ?_ ?_ _ _ h0 hLJ rt_u_at
  · intro M r' h1 l1 i1
    exact v_X12_could_27 _ _ _ _ _ _ _ ⟨fun _ => hQ M r' h1 l1 i1, fun q => absurd (by rw [h1.1.2.2.1]; exact Int32.le_refl _) q⟩
  · intro c hc ih M r' h1 l1 i1
    have e1 : bts (cdB s m p n) (c + 1) = if cdB s m p n c = true then bts (cdB s m p n) c ||| (1 <<< (nI c &&& 31)) else bts (cdB s m p n) c := rfl
    have one : ∀ M r' (b : Bool), MI B s m us kp mk row tx M → Lo M I → M 108 14 = 0 → cdB s m p n c = b → rt_AW G (d + 135) kX12_could Q 27 [some (.ref 108), some (.int (nI p)), some (.int (nI n)), some (.int (if b = true then bts (cdB s m p n) c ||| (1 <<< (nI c &&& 31)) else bts (cdB s m p n) c)), some (.int (nI (c + 1))), none, none, none] [] M L r' := by
      intro M r' b h2 w2 i2 e
      have := ih M r' h2 w2 i2
      rw [e1, e] at this
      exact this
    refine v_X12_could_27 _ _ _ _ _ _ _ ⟨fun q => absurd ((n_le h1.1.2.2.1 rfl (by omega) (by omega)).mp q) (by omega), fun _ => ?_⟩
    simp (disch := omega) only [n8, na1, na7, vpT, clT, true_and]
    rw [mm_0 h1.2.1 hc, mm_c h1.2.1 hc (j := 7) (by omega)]
    obtain ⟨q5, hq⟩ := hco c hc
    refine ⟨fun z => ?_, fun z => ⟨fun z7 => ?_, fun z7 => ?_⟩⟩
    · rcases hq with ⟨a, ha, e0, -⟩ | ⟨e0, -⟩
      · have hcd : cdB s m p n c = decide (Ds s m 0 0 a 0 p ≤ n) := by unfold cdB; rw [if_pos z, e0, cc_nI (by omega)]
        rw [e0]
        have hD := Ds_le hk hm 0 0 a (t := 0) (by omega) p
        refine gM_soonFrom (t := 0) h1 hk hm ha (by omega) hp rfl rfl rfl (fun M2 r2 h2 l2 j2 _ => ⟨fun q => ?_, fun q => ?_⟩)
        · have := (nI_ltI (by omega) (by omega)).mp q
          rw [Int32.or_zero]
          exact one M2 r2 false h2 (l2.trans l1) ((j2 14 (by decide)).trans i1) (by rw [hcd]; simp; omega)
        · have := mt (nI_ltI (a := n) (b := Ds s m 0 0 a 0 p) (by omega) (by omega)).mpr q
          exact one M2 r2 true h2 (l2.trans l1) ((j2 14 (by decide)).trans i1) (by rw [hcd]; simp; omega)
      · exact absurd e0 z
    · have hf : (fsee s m c).1 = false := by
        have : fsee s m c = (false, 0, 0) := if_neg (fun a => by rw [z7] at a; exact absurd a.2 (by decide))
        rw [this]
      exact one M r' false h1 l1 i1 (by unfold cdB; rw [if_neg (fun y => y z), hf, Bool.false_and])
    · have e7 : m (c * 8 + 7) = 0 := by
        rcases hq with ⟨a, ha, e0, -⟩ | ⟨e0, -, -, -, e7⟩
        · exact absurd (e0.symm.trans z) (n_ne1 (by omega))
        · exact e7.elim id (fun a => absurd a z7)
      have hcd : cdB s m p n c = ((fsee s m c).1 && decide (Ds s m 0 0 (cc (m (c * 8 + 2))) (cc (fsee s m c).2.1) p ≤ n)) := by unfold cdB; rw [if_neg (fun y => y z)]
      refine wX12_ridesOn h1.1 hk h1.2.1 hm rfl hc z e7 (fun M1 hR g1 g2 g3 => ?_)
      have h1' := h1.rf hR
      have l1' : Lo M1 I := (Lo.of hR.1 (by decide)).trans l1
      have i1' : M1 108 14 = 0 := (hR.2 14 (by decide)).trans i1
      refine ⟨fun y => ?_, fun y => one M1 _ false h1' l1' i1' (by rw [hcd, b2i_z.mp y, Bool.false_and])⟩
      simp (disch := omega) only [na2, vpT, clT, true_and]
      rw [mm_c h1'.2.1 hc (j := 2) (by omega), g1 (b2i_t.mp y)]
      obtain ⟨f1, f2, j, j1, j2, ej⟩ := fsee_ex (b2i_t.mp y)
      rcases hq with ⟨a, ha, e0, -⟩ | ⟨e0, ⟨w, hw, e1', e2⟩, -⟩
      · exact absurd (e0.symm.trans z) (n_ne1 (by omega))
      · obtain ⟨a, b, ha, hb, k1, k2, k3⟩ := fe_end (hm.2 w hw) e2 hk
        rw [b2i_t.mp y, Bool.true_and, k1, ej, cc_nI (by omega), cc_nI (by omega)] at hcd
        have hD := Ds_le hk hm 0 0 a (t := j) (by omega) p
        rw [k1, ej]
        refine gM_soonFrom (t := j) h1' hk hm ha (by omega) hp rfl rfl rfl (fun M2 r2 h2 l2 j2 _ => ⟨fun q => ?_, fun q => ?_⟩)
        · have := (nI_ltI (by omega) (by omega)).mp q
          rw [Int32.or_zero]
          exact one M2 r2 false h2 (l2.trans l1') ((j2 14 (by decide)).trans i1') (by rw [hcd]; simp; omega)
        · have := mt (nI_ltI (a := n) (b := Ds s m 0 0 a j p) (by omega) (by omega)).mpr q
          exact one M2 r2 true h2 (l2.trans l1') ((j2 14 (by decide)).trans i1') (by rw [hcd]; simp; omega)
end
