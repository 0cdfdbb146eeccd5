/-! THE FACE: acts, undo, keep, again -/
def psh (v : Int32) (m : MO) (us : List MO) : List MO := if v < 0 then us else (m :: us).take 12
section
variable {G : rt_G} {d : Nat} {Q : rt_Q} {I : rt_I} {L : rt_L} {r B : Nat} {s : SV} {m : MO} {us : List MO} {kp : Nat → Option MO} {mk : MKT} {row : List Int32} {tx : TXT}
/-- the class's calls that can be undone -/
theorem actX {v : Int32} {m' : MO} {K : rt_K} {av : List Value} (h : XI s m us kp mk row tx I) (hk : sok s) (hv : v < 0 → m' = m)
    (call : ∀ (I : rt_I) (Q : rt_Q), XZ s I → XMo s m I 16 → (∀ M, CF M I → XMo s m' M 16 → Q v M L r) → rt_Call G (d + 4) K av I L r Q)
    (hQ : ∀ M, XI s m' (psh v m us) kp mk row tx M → (∀ c, 108 ≤ c → M c = I c) → Q v M L r) :
    rt_Call G (d + 4) kX1_prepare [.ref 21, .ref 16] I L r (fun v1 I1 L1 r1 => rt_Call G (d + 4) K av I1 L1 r1 (fun v2 I2 L2 r2 => rt_Call G (d + 4) kX1_keepIfDone [.ref 21, .int v2] I2 L2 r2 Q)) := by
  obtain ⟨h1, h2, h3, h4, h5, h6, h7⟩ := h
  refine wX1_prepare hk h3 h2 h1.2.2.1 (fun M hM hP => ?_)
  have hS1 : XZ s M := h1.fr ⟨by rw [hM 12 (by omega)], by rw [hM 12 (by omega)]⟩ (by rw [hM 16 (by omega)]) (by rw [hM 3 (by omega)]) (hM 4 (by omega)) (hM 13 (by omega)) (hM 14 (by omega)) (hM 15 (by omega)) (by rw [hM 6 (by omega)]) (hM 7 (by omega)) (by rw [hM 20 (by omega)])
  have hM1 : XMo s m M 16 := h2.fr (by rw [hM 16 (by omega)]) (hM 17 (by omega)) (hM 18 (by omega)) (hM 19 (by omega))
  refine call M _ hS1 hM1 (fun M2 hC hMo => ?_)
  have hC2 : ∀ c, 21 ≤ c → M2 c = M c := fun c hc => hC.1 c (fun z => by simp only [List.mem_cons, List.not_mem_nil, or_false] at z; omega)
  have hP2 : XP s us m M2 := hP.fr (hC2 21 (by omega)) (fun c a b => hC2 c (by omega))
  have hS2 := hC.S hS1
  have hK2 : XK s kp M2 := h4.fr ((hC2 24 (by omega)).trans (hM 24 (by omega))) (fun c a b => (hC2 c (by omega)).trans (hM c (by omega)))
  have hMk2 : XMk mk M2 := h5.fr (by rw [hC2 38 (by omega), hM 38 (by omega)]) ((hC2 39 (by omega)).trans (hM 39 (by omega))) ((hC2 40 (by omega)).trans (hM 40 (by omega)))
  have hR2 : XRw row M2 := h6.fr ((hC2 42 (by omega)).trans (hM 42 (by omega))) ((hC2 43 (by omega)).trans (hM 43 (by omega)))
  have hT2 : XTx tx M2 := h7.fr (by rw [hC.1 1 (by decide), hM 1 (by omega)]) (by rw [hC.1 2 (by decide), hM 2 (by omega)])
  have hhi : ∀ c, 108 ≤ c → M2 c = I c := fun c hc => (hC2 c (by omega)).trans (hM c (by omega))
  unfold psh at hQ
  refine wX1_keepIfDone hP2 (fun z => ?_) (fun z M3 hM3 hH3 => ?_)
  · rw [if_pos z] at hQ
    exact hQ M2 ⟨hS2, hMo, hP2.H, hK2, hMk2, hR2, hT2⟩ hhi
  · rw [if_neg z] at hQ
    refine hQ M3 ⟨?_, ?_, hH3, hK2.fr (hM3 24 (by omega)) (fun c a b => hM3 c (by omega)), hMk2.fr (by rw [hM3 38 (by omega)]) (hM3 39 (by omega)) (hM3 40 (by omega)), hR2.fr (hM3 42 (by omega)) (hM3 43 (by omega)), hT2.fr (by rw [hM3 1 (by omega)]) (hM3 2 (by omega))⟩ (fun c hc => (hM3 c (by omega)).trans (hhi c hc))
    · exact hS2.fr ⟨by rw [hM3 12 (by omega)], by rw [hM3 12 (by omega)]⟩ (by rw [hM3 16 (by omega)]) (by rw [hM3 3 (by omega)]) (hM3 4 (by omega)) (hM3 13 (by omega)) (hM3 14 (by omega)) (hM3 15 (by omega)) (by rw [hM3 6 (by omega)]) (hM3 7 (by omega)) (by rw [hM3 20 (by omega)])
    · exact hMo.fr (by rw [hM3 16 (by omega)]) (hM3 17 (by omega)) (hM3 18 (by omega)) (hM3 19 (by omega))
theorem fX_out {x y : Int32} (h : XI s m us kp mk row tx I) (hk : sok s) (hm : mok s B m)
    (hQ : ∀ M, XI s (aOut s m x y).2 (psh (aOut s m x y).1 m us) kp mk row tx M → (∀ c, 108 ≤ c → M c = I c) → Q (aOut s m x y).1 M L r) : rt_Call G (d + 5) kX11_out [.ref 0, .int x, .int y] I L r Q :=
  v_X11_out _ _ _ _ _ (actX h hk aOut_not (fun I Q hS hM hq => wX9_setOut hS hk hM hm hq) hQ)
theorem fX_round {x : Int32} (h : XI s m us kp mk row tx I) (hk : sok s) (hm : mok s B m)
    (hQ : ∀ M, XI s (aRound s m x).2 (psh (aRound s m x).1 m us) kp mk row tx M → (∀ c, 108 ≤ c → M c = I c) → Q (aRound s m x).1 M L r) : rt_Call G (d + 5) kX11_round [.ref 0, .int x] I L r Q :=
  v_X11_round _ _ _ _ (actX h hk (fun z => by rw [aRound_not z]) (fun I Q hS hM hq => wX9_turnRound hS hk hM hm hq) hQ)
theorem fX_chain {x y : Int32} (h : XI s m us kp mk row tx I) (hk : sok s) (hm : mok s B m)
    (hQ : ∀ M, XI s (aChain s m x y).2 (psh (aChain s m x y).1 m us) kp mk row tx M → (∀ c, 108 ≤ c → M c = I c) → Q (aChain s m x y).1 M L r) : rt_Call G (d + 5) kX11_chain [.ref 0, .int x, .int y] I L r Q :=
  v_X11_chain _ _ _ _ _ (actX h hk (fun z => by rw [(aChain_not hk hm z).1]) (fun I Q hS hM hq => wX9_putChain hS hk hM hq) hQ)
theorem fX_load {x y : Int32} (h : XI s m us kp mk row tx I) (hk : sok s) (hm : mok s B m)
    (hQ : ∀ M, XI s (aLoad s m x y).2 (psh (aLoad s m x y).1 m us) kp mk row tx M → (∀ c, 108 ≤ c → M c = I c) → Q (aLoad s m x y).1 M L r) : rt_Call G (d + 5) kX11_load [.ref 0, .int x, .int y] I L r Q :=
  v_X11_load _ _ _ _ _ (actX h hk (fun z => by rw [(aLoad_not hk hm z).1]) (fun I Q hS hM hq => wX9_putLoad hS hk hM hq) hQ)
theorem ends_pos {w : Nat} (hk : sok s) (he : eok s m w) : ¬ 8 * m (40 + 2 * w) + m (41 + 2 * w) < 0 := by
  obtain ⟨a, b, ha, hb, hab, e1, e2⟩ := he
  have := hk.1
  rw [e1, e2, show (8 : Int32) * nI a = nI (8 * a) from n_lm 8 a, nI_add]
  exact n_neg (by omega)
theorem aStorm_not (hk : sok s) (hm : mok s B m) {x y z : Int32} (hv : (aStorm s m x y z).1 < 0) : (aStorm s m x y z).2 = m := by
  have h12 := hk.2.1
  unfold aStorm at hv ⊢
  split
  · rename_i q
    rw [if_pos q] at hv
    simp only [Bool.and_eq_true, inb_iff] at q
    obtain ⟨w, hw, rfl⟩ := (inr_iff (by omega)).mp q.1.1
    split
    · rfl
    · rename_i q2
      rw [if_neg q2, cc_nI (by omega)] at hv
      exact absurd hv (ends_pos hk (hm.2 w hw))
  · rfl
theorem fX_storm {x y z : Int32} (h : XI s m us kp mk row tx I) (hk : sok s) (hm : mok s B m)
    (hQ : ∀ M, XI s (aStorm s m x y z).2 (psh (aStorm s m x y z).1 m us) kp mk row tx M → (∀ c, 108 ≤ c → M c = I c) → Q (aStorm s m x y z).1 M L r) : rt_Call G (d + 5) kX11_storm [.ref 0, .int x, .int y, .int z] I L r Q :=
  v_X11_storm _ _ _ _ _ _ (actX h hk (aStorm_not hk hm) (fun I Q hS hM hq => wX9_throwRoad hS hk hM hq) hQ)
/-! the model -/
theorem MI.a {m' : MO} {us' : List MO} {M : rt_I} (h : MI B s m us kp mk row tx I) (hf : Fr M I [108, 109, 121, 122]) (h8 : F8 M I [14, 16, 17, 18, 19, 28, 31, 33, 34, 35, 36, 37]) (h28 : M 108 28 = 0) (hM : MMo s m' (M 109)) (hU : MH s us' M) : MI B s m' us' kp mk row tx M := by
  obtain ⟨h1, h2, h3, h4, h5, h6, h7⟩ := h
  exact ⟨h1.fr (fun j hj => h8 j (fun z => by
    simp only [List.mem_cons, List.not_mem_nil, or_false] at hj z
    omega)) h28 (hf 110 (by decide)) (hf 111 (by decide)) (hf 112 (by decide)) (hf 113 (by decide)) (hf 120 (by decide)), hM, hU, h4.fr (h8 52 (by decide)) (hf 132 (by decide)) (hf 133 (by decide)) (hf 134 (by decide)), h5.fr (h8 48 (by decide)) (hf 129 (by decide)), h6.fr (h8 13 (by decide)) (hf 115 (by decide)), h7.fr (h8 11 (by decide)) (hf 114 (by decide))⟩
theorem MI.n {M : rt_I} (h : MI B s m us kp mk row tx I) (hf : Fr M I [108]) (h8 : F8 M I [14]) : MI B s m us kp mk row tx M :=
  h.a (hf.mono (by decide)) (h8.mono (by decide)) ((h8 28 (by decide)).trans h.1.2.2.2.2.2.2.2.2.2.2) (by rw [hf 109 (by decide)]; exact h.2.1) (h.2.2.1.fr (h8 31 (by decide)) (hf 122 (by decide)))
theorem u14F : Fr (rt_u I 108 14 0) I [108] := (Fr.refl _ _).u (by decide)
theorem u148 : F8 (rt_u I 108 14 0) I [14] := (F8.refl _ _).u (fun _ => by decide)
theorem MI.t0 (h : MI B s m us kp mk row tx I) : MI B s m us kp mk row tx (rt_u I 108 14 0) := h.n u14F u148
def Lo (M I : rt_I) : Prop := ∀ c, c < 108 → M c = I c
theorem Lo.of {M I : rt_I} {cs : List Nat} (h : Fr M I cs) (hc : ∀ x ∈ cs, 108 ≤ x) : Lo M I := h.lo hc
theorem Lo.trans {A B C : rt_I} (h1 : Lo A B) (h2 : Lo B C) : Lo A C := fun c hc => (h1 c hc).trans (h2 c hc)
/-- remember, then an act of the model -/
theorem actM {v : Int32} {m' : MO} {K : rt_K} {av : List Value} (h : MI B s m us kp mk row tx I) (hk : sok s) (hv : ¬ v < 0) (h14 : I 108 14 = 0)
    (call : ∀ (I : rt_I) (Q : rt_Q), MZ s I → MMo s m (I 109) → (∀ M r', HN M I → MMo s m' (M 109) → Q v M L r') → rt_Call G d K av I L r Q)
    (hQ : ∀ M r', MI B s m' (psh v m us) kp mk row tx M → Lo M I → M 108 14 = 0 → Q v M L r') (hd : ∃ e, d = e + 1) :
    rt_Call G d kX12_remember [.ref 108, .ref 109] I L r (fun v1 I1 L1 r1 => rt_Call G d K av I1 L1 r1 Q) := by
  obtain ⟨e, rfl⟩ := hd
  obtain ⟨h1, h2, h3, h4, h5, h6, h7⟩ := id h
  refine wX12_remember_now hk h3 h2 (fun M hF h8 hH => ?_)
  have hS1 : MZ s M := h1.fq hF (fun j hj => h8 j (fun z => by
    simp only [List.mem_cons, List.not_mem_nil, or_false] at hj z
    omega)) (by decide)
  refine call M _ hS1 (by rw [hF 109 (by decide)]; exact h2) (fun M2 r' hN hMo => ?_)
  unfold psh at hQ
  rw [if_neg hv] at hQ
  refine hQ M2 r' (h.a ((hN.1.mono (by decide)).trans (hF.mono (by decide))) ((hN.2.1.mono (by decide)).trans (h8.mono (by decide))) ?_ hMo (hH.fr (hN.2.1 31 (by decide)) (hN.1 122 (by decide)))) ((Lo.of hN.1 (by decide)).trans (Lo.of hF (by decide))) ?_
  · rw [hN.2.2]; exact hS1.2.2.2.2.2.2.2.2.2.2
  · rw [hN.2.1 14 (by decide), h8 14 (by decide)]; exact h14
theorem fM_out {x y : Int32} (h : MI B s m us kp mk row tx I) (hk : sok s) (hm : mok s B m)
    (hQ : ∀ M r', MI B s (aOut s m x y).2 (psh (aOut s m x y).1 m us) kp mk row tx M → Lo M I → M 108 14 = 0 → Q (aOut s m x y).1 M L r') : rt_Call G (d + 133) kX12_out [.ref 108, .int x, .int y] I L r Q := by
  have h0 := h.t0
  refine v_X12_out _ _ _ _ _ (wX12_refusesOut h0.1 hk h0.2.1 hm (fun z => ⟨fun _ => ?_, fun y => absurd (Int32.le_refl _) y⟩) (fun z => ⟨fun y => absurd z (Int32.not_lt.mpr y), fun _ => ?_⟩))
  · refine actM (v := (aOut s m x y).1) (m' := (aOut s m x y).2) h0 hk z rt_u_at (fun I Q hS hM hq => wX12_goOut hS hk hM hm z hq) (fun M r' a b c => hQ M r' a (b.trans (Lo.of u14F (by decide))) c) ⟨_, rfl⟩
  · have e : psh (aOut s m x y).1 m us = us := if_pos z
    rw [e, aOut_not z] at hQ
    exact hQ _ _ h0 (Lo.of u14F (by decide)) rt_u_at
theorem fM_round {x : Int32} (h : MI B s m us kp mk row tx I) (hk : sok s) (hm : mok s B m)
    (hQ : ∀ M r', MI B s (aRound s m x).2 (psh (aRound s m x).1 m us) kp mk row tx M → Lo M I → M 108 14 = 0 → Q (aRound s m x).1 M L r') : rt_Call G (d + 133) kX12_round [.ref 108, .int x] I L r Q := by
  have h0 := h.t0
  refine v_X12_round _ _ _ _ (wX12_canRound h0.1 hk h0.2.1 hm (fun z => ⟨fun _ => ?_, fun y => absurd y (by decide)⟩) (fun z => ⟨fun y => absurd rfl y, fun _ => ?_⟩))
  · refine actM (v := (aRound s m x).1) (m' := (aRound s m x).2) h0 hk z rt_u_at (fun I Q hS hM hq => wX12_goRound hS hk hM hm z hq) (fun M r' a b c => hQ M r' a (b.trans (Lo.of u14F (by decide))) c) ⟨_, rfl⟩
  · have e : psh (aRound s m x).1 m us = us := if_pos z
    rw [e, aRound_not z] at hQ
    exact hQ _ _ h0 (Lo.of u14F (by decide)) rt_u_at
theorem sgn_cases (v : Int32) : v < 0 ∨ ¬ v < 0 := Decidable.em _
theorem fM_chain {x y : Int32} (h : MI B s m us kp mk row tx I) (hk : sok s) (hm : mok s B m)
    (hQ : ∀ M r', MI B s (aChain s m x y).2 (psh (aChain s m x y).1 m us) kp mk row tx M → Lo M I → M 108 14 = 0 → Q (aChain s m x y).1 M L r') : rt_Call G (d + 3) kX12_chain [.ref 108, .int x, .int y] I L r Q := by
  have h0 := h.t0
  have h5 := hk.2.2.1
  have hno : (∀ c, c < s.nc → x = nI c → ¬ (m (c * 8 + 7) = 0 ∧ (¬ y < 0 ∧ ¬ 1 < y))) → ∀ r', Q (-1) (rt_u I 108 14 0) L r' := by
    intro hn r'
    have e1 : aChain s m x y = (-1, m) := by
      unfold aChain
      split
      · rename_i z
        rw [inb_iff] at z
        obtain ⟨c, hc, rfl⟩ := (inr_iff (by omega)).mp z
        rw [cc_nI (by omega), if_neg (hn c hc rfl)]
      · rfl
    rw [e1] at hQ
    have e : psh (-1) m us = us := if_pos (by decide)
    rw [e] at hQ
    exact hQ _ _ h0 (Lo.of u14F (by decide)) rt_u_at
  refine v_X12_chain _ _ _ _ _ (wX12_canChain h0.1 hk h0.2.1 (fun c hc e e7 => ⟨fun y => absurd y (by decide), fun _ => sX12_in (fun z => ⟨fun _ => ?_, fun y => absurd y (by decide)⟩) (fun z => ⟨fun y => absurd rfl y, fun _ => hno (fun c' hc' e' q => z q.2) _⟩)⟩) (fun z => ⟨fun _ => hno (fun c' hc' e' q => z c' hc' e' q.1) _, fun y => absurd rfl y⟩))
  subst e
  have e1 : aChain s m (nI c) y = (m (c * 8 + 5), upd m (c * 8 + 5) y) := by
    unfold aChain
    rw [if_pos (inb_iff.mpr ((inr_iff (by omega)).mpr ⟨c, hc, rfl⟩)), cc_nI (by omega), if_pos ⟨e7, z⟩]
  obtain ⟨t, ht, e64, hco⟩ := hm.1
  have hv : ¬ m (c * 8 + 5) < 0 := by
    rcases (hco c hc).1.1 with q | q
    · rw [q]; decide
    · rw [q]; decide
  rw [e1] at hQ
  have hp : psh (m (c * 8 + 5)) m us = (m :: us).take 12 := if_neg hv
  dsimp only at hQ
  rw [hp] at hQ
  refine wX12_remember_now hk h0.2.2.1 h0.2.1 (fun M hF h8 hH => ?_)
  have hM109 : M 109 = I 109 := by rw [hF 109 (by decide), rt_u_ne (by decide)]
  simp (disch := omega) only [n8, na5, vpT, clT, true_and]
  rw [hM109, mm_c h.2.1 hc (j := 5) (by omega)]
  refine hQ _ _ (h0.a ((hF.mono (by decide)).u (by decide)) ((h8.mono (by decide)).u (fun q => by omega)) ?_ ?_ (hH.fr (rt_u2 (by decide)) (rt_u_ne (by decide)))) ((Lo.of ((hF.mono (ds := [108, 109, 122]) (by decide)).u (by decide)) (by decide)).trans (Lo.of u14F (by decide))) ?_
  · rw [rt_u2 (by decide), h8 28 (by decide)]; exact h0.1.2.2.2.2.2.2.2.2.2.2
  · rw [rt_u_eq, hM109]; exact h.2.1.w
  · rw [rt_u2 (by decide), h8 14 (by decide)]; exact rt_u_at
theorem fM_load {x y : Int32} (h : MI B s m us kp mk row tx I) (hk : sok s) (hm : mok s B m)
    (hQ : ∀ M r', MI B s (aLoad s m x y).2 (psh (aLoad s m x y).1 m us) kp mk row tx M → Lo M I → M 108 14 = 0 → Q (aLoad s m x y).1 M L r') : rt_Call G (d + 3) kX12_load [.ref 108, .int x, .int y] I L r Q := by
  have h0 := h.t0
  have h5 := hk.2.2.1
  have hno : (∀ c, c < s.nc → x = nI c → ¬ (¬ m (c * 8) = -1 ∧ (¬ y < 0 ∧ ¬ 9 < y))) → ∀ r', Q (-1) (rt_u I 108 14 0) L r' := by
    intro hn r'
    have e1 : aLoad s m x y = (-1, m) := by
      unfold aLoad
      split
      · rename_i z
        rw [inb_iff] at z
        obtain ⟨c, hc, rfl⟩ := (inr_iff (by omega)).mp z
        rw [cc_nI (by omega), if_neg (hn c hc rfl)]
      · rfl
    rw [e1] at hQ
    have e : psh (-1) m us = us := if_pos (by decide)
    rw [e] at hQ
    exact hQ _ _ h0 (Lo.of u14F (by decide)) rt_u_at
  refine v_X12_load _ _ _ _ _ (wX12_canLoad h0.1 hk h0.2.1 (fun c hc e e7 => ⟨fun y => absurd y (by decide), fun _ => sX12_in (fun z => ⟨fun _ => ?_, fun y => absurd y (by decide)⟩) (fun z => ⟨fun y => absurd rfl y, fun _ => hno (fun c' hc' e' q => z q.2) _⟩)⟩) (fun z => ⟨fun _ => hno (fun c' hc' e' q => q.1 (z c' hc' e')) _, fun y => absurd rfl y⟩))
  subst e
  have e1 : aLoad s m (nI c) y = (m (c * 8 + 4), upd m (c * 8 + 4) y) := by
    unfold aLoad
    rw [if_pos (inb_iff.mpr ((inr_iff (by omega)).mpr ⟨c, hc, rfl⟩)), cc_nI (by omega), if_pos ⟨e7, z⟩]
  obtain ⟨t, ht, e64, hco⟩ := hm.1
  have hv : ¬ m (c * 8 + 4) < 0 := by
    obtain ⟨l, hl, e⟩ := (hco c hc).1.2
    rw [e]; exact n_neg (by omega)
  rw [e1] at hQ
  have hp : psh (m (c * 8 + 4)) m us = (m :: us).take 12 := if_neg hv
  dsimp only at hQ
  rw [hp] at hQ
  refine wX12_remember_now hk h0.2.2.1 h0.2.1 (fun M hF h8 hH => ?_)
  have hM109 : M 109 = I 109 := by rw [hF 109 (by decide), rt_u_ne (by decide)]
  simp (disch := omega) only [n8, na4, vpT, clT, true_and]
  rw [hM109, mm_c h.2.1 hc (j := 4) (by omega)]
  refine hQ _ _ (h0.a ((hF.mono (by decide)).u (by decide)) ((h8.mono (by decide)).u (fun q => by omega)) ?_ ?_ (hH.fr (rt_u2 (by decide)) (rt_u_ne (by decide)))) ((Lo.of ((hF.mono (ds := [108, 109, 122]) (by decide)).u (by decide)) (by decide)).trans (Lo.of u14F (by decide))) ?_
  · rw [rt_u2 (by decide), h8 28 (by decide)]; exact h0.1.2.2.2.2.2.2.2.2.2.2
  · rw [rt_u_eq, hM109]; exact h.2.1.w
  · rw [rt_u2 (by decide), h8 14 (by decide)]; exact rt_u_at
theorem n40 (w : Nat) : (40 : Int32) + (2 : Int32) * nI w = nI (40 + 2 * w) := by rw [show (2 : Int32) * nI w = nI (2 * w) from n_lm 2 w]; exact n_la 40 _
theorem n41 (w : Nat) : nI (40 + 2 * w) + (1 : Int32) = nI (41 + 2 * w) := by rw [nI_1]; congr 1; omega
theorem fM_storm {x y z : Int32} (h : MI B s m us kp mk row tx I) (hk : sok s) (hm : mok s B m)
    (hQ : ∀ M r', MI B s (aStorm s m x y z).2 (psh (aStorm s m x y z).1 m us) kp mk row tx M → Lo M I → M 108 14 = 0 → Q (aStorm s m x y z).1 M L r') : rt_Call G (d + 3) kX12_storm [.ref 108, .int x, .int y, .int z] I L r Q := by
  have h0 := h.t0
  have h12 := hk.2.1
  have h8' := hk.1
  have hno : ¬ (inb x s.nr && (inb y s.np && inb z s.np)) = true ∨ y = z → ∀ r', Q (-1) (rt_u I 108 14 0) L r' := by
    intro q r'
    have e1 : aStorm s m x y z = (-1, m) := by
      unfold aStorm
      rw [if_neg (by rintro ⟨q1, q2⟩; exact q.elim (fun f => f q1) q2)]
    rw [e1] at hQ
    have e : psh (-1) m us = us := if_pos (by decide)
    rw [e] at hQ
    exact hQ _ _ h0 (Lo.of u14F (by decide)) rt_u_at
  refine v_X12_storm _ _ _ _ _ _ (sX12_isRoad h0.1.2.1 (by omega) (fun z1 => ⟨fun q => absurd q (by decide), fun _ => sX12_isPlace h0.1.1 (by omega) (fun z2 => ⟨fun q => absurd q (by decide), fun _ => sX12_isPlace h0.1.1 (by omega) (fun z3 => ⟨fun q => absurd q (by decide), fun _ => ⟨fun z4 => ?_, fun z4 => hno (Or.inr z4) _⟩⟩) (fun z3 => ⟨fun _ => hno (Or.inl (by simp only [Bool.and_eq_true, inb_iff]; exact fun q => z3 q.2.2)) _, fun q => absurd rfl q⟩)⟩) (fun z2 => ⟨fun _ => hno (Or.inl (by simp only [Bool.and_eq_true, inb_iff]; exact fun q => z2 q.2.1)) _, fun q => absurd rfl q⟩)⟩) (fun z1 => ⟨fun _ => hno (Or.inl (by simp only [Bool.and_eq_true, inb_iff]; exact fun q => z1 q.1)) _, fun q => absurd rfl q⟩))
  have e0 : (inb x s.nr && (inb y s.np && inb z s.np)) = true ∧ ¬ y = z := ⟨by simp only [Bool.and_eq_true, inb_iff]; exact ⟨z1, z2, z3⟩, z4⟩
  obtain ⟨w, hw, rfl⟩ := (inr_iff (by omega)).mp z1
  refine wX12_isUsed_now h0.1 hk h0.2.1 (fun q => ⟨fun y => absurd y (by decide), fun _ => ?_⟩) (fun q => ⟨fun _ => ?_, fun y => absurd rfl y⟩)
  · have e1 : aStorm s m (nI w) y z = (-2, m) := by
      unfold aStorm
      rw [if_pos e0, if_pos q]
    rw [e1] at hQ
    have e : psh (-2) m us = us := if_pos (by decide)
    rw [e] at hQ
    exact hQ _ _ h0 (Lo.of u14F (by decide)) rt_u_at
  · have e1 : aStorm s m (nI w) y z = (8 * m (40 + 2 * w) + m (41 + 2 * w), sM m w y z) := by
      unfold aStorm
      rw [if_pos e0, if_neg (by rw [q]; decide), cc_nI (by omega)]
    rw [e1] at hQ
    have hp : psh (8 * m (40 + 2 * w) + m (41 + 2 * w)) m us = (m :: us).take 12 := if_neg (ends_pos hk (hm.2 w hw))
    dsimp only at hQ
    rw [hp] at hQ
    refine wX12_remember_now hk h0.2.2.1 h0.2.1 (fun M hF h8 hH => ?_)
    have hM109 : M 109 = I 109 := by rw [hF 109 (by decide), rt_u_ne (by decide)]
    have f1 : M 109 (40 + 2 * w + 0) = m (40 + 2 * w) := by rw [hM109]; exact h.2.1.2.2.1 w hw
    have f2 : M 109 (40 + 2 * w + 1) = m (41 + 2 * w) := by rw [hM109, show 40 + 2 * w + 1 = 41 + 2 * w by omega]; exact h.2.1.2.2.2 w hw
    refine sX12_endOf (j := 0) rfl (by omega) rfl (by omega) (sX12_endOf (j := 1) rfl (by omega) rfl (by omega) ?_)
    rw [f1, f2]
    simp (disch := omega) only [n40, n41, vpT, clT, true_and]
    refine hQ _ _ (h0.a (((hF.mono (by decide)).u (by decide)).u (by decide)) (((h8.mono (by decide)).u (fun q => by omega)).u (fun q => by omega)) ?_ ?_ (hH.fr (by rw [rt_u2 (by decide), rt_u2 (by decide)]) (by rw [rt_u_ne (by decide), rt_u_ne (by decide)]))) ((Lo.of (((hF.mono (ds := [108, 109, 122]) (by decide)).u (by decide)).u (by decide)) (by decide)).trans (Lo.of u14F (by decide))) ?_
    · rw [rt_u2 (by decide), rt_u2 (by decide), h8 28 (by decide)]; exact h0.1.2.2.2.2.2.2.2.2.2.2
    · rw [rt_u_eq, rt_u_eq, hM109]; exact h.2.1.w.w
    · rw [rt_u2 (by decide), rt_u2 (by decide), h8 14 (by decide)]; exact rt_u_at
end
